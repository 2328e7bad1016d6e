set_option maxRecDepth 4000
/-! ===== words as Strings ===== -/
abbrev mJ0_length : zM := ("java/lang/String", prog_16_method_54_code, 1, (some .int), false)
abbrev YJ0_length : zY := (yJ0_length_8abf5, prog_16_method_54_code, 1, (some .int))
abbrev mJ0_coder : zM := ("java/lang/String", prog_16_method_152_code, 1, (some .byte), false)
abbrev YJ0_coder : zY := (yJ0_coder_7d493, prog_16_method_152_code, 1, (some .byte))
abbrev mJ0_charAt : zM := ("java/lang/String", prog_16_method_56_code, 2, (some .char), false)
abbrev YJ0_charAt : zY := (yJ0_charAt_5068e, prog_16_method_56_code, 2, (some .char))
abbrev mJ0_isLatin1 : zM := ("java/lang/String", prog_16_method_154_code, 1, (some .boolean), false)
abbrev YJ0_isLatin1 : zY := (yJ0_isLatin1_aae02, prog_16_method_154_code, 1, (some .boolean))
abbrev mJ0_checkIndex : zM := ("java/lang/String", prog_16_method_155_code, 2, none, false)
abbrev YJ0_checkIndex : zY := (yJ0_checkIndex_df160, prog_16_method_155_code, 2, none)
abbrev mJ1_charAt : zM := ("java/lang/StringLatin1", prog_17_method_2_code, 2, (some .char), false)
abbrev YJ1_charAt : zY := (yJ1_charAt_3b067, prog_17_method_2_code, 2, (some .char))
abbrev mJ3_checkIndex : zM := ("jdk/internal/util/Preconditions", prog_21_method_11_code, 3, (some .int), false)
abbrev YJ3_checkIndex : zY := (yJ3_checkIndex_8e157, prog_21_method_11_code, 3, (some .int))
section K9C
theorem wS182 : Cond.initialized "java/lang/String" ∈ zTs := List.mem_filter.mpr ⟨ztk1 14 rfl, rfl⟩
theorem wS183 : Cond.initialized "java/lang/StringLatin1" ∈ zTs := List.mem_filter.mpr ⟨ztk1 15 rfl, rfl⟩
theorem wS184 : Cond.initialized "jdk/internal/util/Preconditions" ∈ zTs := List.mem_filter.mpr ⟨ztk1 16 rfl, rfl⟩
theorem wS821 : Cond.selects "java/lang/String" yJ0_length_8abf5 yJ0_length_8abf5 ∈ zTs := List.mem_filter.mpr ⟨ztk3 173 rfl, rfl⟩
theorem wS823 : Cond.methodLink "java/lang/String" 335 yJ0_coder_7d493 ∈ zTs := List.mem_filter.mpr ⟨ztk3 175 rfl, rfl⟩
theorem wS824 : Cond.instanceMethod yJ0_coder_7d493 ∈ zTs := List.mem_filter.mpr ⟨ztk3 176 rfl, rfl⟩
theorem wS825 : Cond.selects "java/lang/String" yJ0_coder_7d493 yJ0_coder_7d493 ∈ zTs := List.mem_filter.mpr ⟨ztk3 177 rfl, rfl⟩
theorem wS826 : Cond.code yJ0_coder_7d493 prog_16_method_152_code 1 (some .byte) ∈ zTs := List.mem_filter.mpr ⟨ztk3 178 rfl, rfl⟩
theorem wS827 : Cond.fieldLink "java/lang/String" 38 "java/lang/String" "COMPACT_STRINGS" "Z" ∈ zTs := List.mem_filter.mpr ⟨ztk3 179 rfl, rfl⟩
theorem wS831 : Cond.selects "java/lang/String" yJ0_charAt_5068e yJ0_charAt_5068e ∈ zTs := List.mem_filter.mpr ⟨ztk3 183 rfl, rfl⟩
theorem wS833 : Cond.methodLink "java/lang/String" 492 yJ0_isLatin1_aae02 ∈ zTs := List.mem_filter.mpr ⟨ztk3 185 rfl, rfl⟩
theorem wS834 : Cond.instanceMethod yJ0_isLatin1_aae02 ∈ zTs := List.mem_filter.mpr ⟨ztk3 186 rfl, rfl⟩
theorem wS835 : Cond.selects "java/lang/String" yJ0_isLatin1_aae02 yJ0_isLatin1_aae02 ∈ zTs := List.mem_filter.mpr ⟨ztk3 187 rfl, rfl⟩
theorem wS836 : Cond.code yJ0_isLatin1_aae02 prog_16_method_154_code 1 (some .boolean) ∈ zTs := List.mem_filter.mpr ⟨ztk3 188 rfl, rfl⟩
theorem wS837 : Cond.methodLink "java/lang/String" 495 yJ1_charAt_3b067 ∈ zTs := List.mem_filter.mpr ⟨ztk3 189 rfl, rfl⟩
theorem wS838 : Cond.static yJ1_charAt_3b067 ∈ zTs := List.mem_filter.mpr ⟨ztk3 190 rfl, rfl⟩
theorem wS839 : Cond.code yJ1_charAt_3b067 prog_17_method_2_code 2 (some .char) ∈ zTs := List.mem_filter.mpr ⟨ztk3 191 rfl, rfl⟩
theorem wS840 : Cond.methodLink "java/lang/StringLatin1" 9 yJ0_checkIndex_df160 ∈ zTs := List.mem_filter.mpr ⟨ztk3 192 rfl, rfl⟩
theorem wS841 : Cond.static yJ0_checkIndex_df160 ∈ zTs := List.mem_filter.mpr ⟨ztk3 193 rfl, rfl⟩
theorem wS842 : Cond.code yJ0_checkIndex_df160 prog_16_method_155_code 2 none ∈ zTs := List.mem_filter.mpr ⟨ztk3 194 rfl, rfl⟩
theorem wS843 : Cond.fieldLink "java/lang/String" 1053 "jdk/internal/util/Preconditions" "SIOOBE_FORMATTER" "Ljava/util/function/BiFunction;" ∈ zTs := List.mem_filter.mpr ⟨ztk3 195 rfl, rfl⟩
theorem wS845 : Cond.methodLink "java/lang/String" 1059 yJ3_checkIndex_8e157 ∈ zTs := List.mem_filter.mpr ⟨ztk3 197 rfl, rfl⟩
theorem wS846 : Cond.static yJ3_checkIndex_8e157 ∈ zTs := List.mem_filter.mpr ⟨ztk3 198 rfl, rfl⟩
theorem wS847 : Cond.code yJ3_checkIndex_8e157 prog_21_method_11_code 3 (some .int) ∈ zTs := List.mem_filter.mpr ⟨ztk3 199 rfl, rfl⟩
theorem wS2039 : Cond.fieldLink "java/lang/String" 9 "java/lang/String" "value" "[B" ∈ zTs := List.mem_filter.mpr ⟨ztk8 191 rfl, rfl⟩
theorem wS2040 : Cond.fieldLink "java/lang/String" 15 "java/lang/String" "coder" "B" ∈ zTs := List.mem_filter.mpr ⟨ztk8 192 rfl, rfl⟩
theorem eJ0_length : zMe YJ0_length 0 := ⟨w822, wS182, by decide, by decide, by decide +kernel, by decide⟩
theorem eJ0_coder : zMe YJ0_coder 0 := ⟨wS826, wS182, by decide, by decide, by decide +kernel, by decide⟩
theorem eJ0_charAt : zMe YJ0_charAt 1 := ⟨w832, wS182, by decide, by decide, by decide +kernel, by decide⟩
theorem eJ0_isLatin1 : zMe YJ0_isLatin1 0 := ⟨wS836, wS182, by decide, by decide, by decide +kernel, by decide⟩
theorem eJ0_checkIndex : zMe YJ0_checkIndex 2 := ⟨wS842, wS182, by decide, by decide, by decide +kernel, by decide⟩
theorem eJ1_charAt : zMe YJ1_charAt 2 := ⟨wS839, wS183, by decide, by decide, by decide +kernel, by decide⟩
theorem eJ3_checkIndex : zMe YJ3_checkIndex 3 := ⟨wS847, wS184, by decide, by decide, by decide +kernel, by decide⟩
variable {l : Launch} {G : zG} {M : zM} {d : Nat} {Q : Option Value → zH → Prop} {k n pc : Nat} {L S : List Value} {h : zH}
theorem z_popi {x : Int32} (hd : decode (mC M) pc = .ok (.pop, 1)) (kk : Z l G M d Q k n (pc + 1) L S h) : Z l G M d Q k n pc L (.int x :: S) h :=
  fun p e R s m args below meth c Qs H locs cells slots ls C hR hS hL hc hn => lv_pop C.1 C.2.1 hd rfl (kk p e R s m args below meth c Qs H locs cells slots ls C hR hS hL hc hn)
theorem z_i2c {x v : Int32} (hd : decode (mC M) pc = .ok (.i2c, 1)) (hv : (x.toUInt32 % 65536).toInt32 = v) (kk : Z l G M d Q k n (pc + 1) L (.int v :: S) h) : Z l G M d Q k n pc L (.int x :: S) h :=
  fun p e R s m args below meth c Qs H locs cells slots ls C hR hS hL hc hn => lv_i2c C.1 C.2.1 hd hv (kk p e R s m args below meth c Qs H locs cells slots ls C hR hS hL hc hn)
theorem zf_big {q : Nat} : zf G (1000000 + q) = gX G q := by
  unfold zf
  rw [if_neg (by omega), show 1000000 + q - 1000000 = q by omega]
theorem z_scod {i ix : Nat} (hi : i < 11) (hd : decode (mC M) pc = .ok (.getfield ix, 3)) (hw : Cond.fieldLink (mO M) ix "java/lang/String" "coder" "B" ∈ zTs) (kk : Z l G M d Q k n (pc + 3) L (.int 0 :: S) h) : Z l G M d Q k n pc L (va_rf (some (1000000 + (10 + i))) :: S) h := by
  intro p e R s m args below meth c Qs H locs cells slots ls X hR hS hL hc hn
  have k2 : W p l e R s m args below meth c H locs cells slots Qs (F0 m (pc + 3) ls (.int 0 :: S.map (zt G))) := kk p e R s m args below meth c Qs H locs cells slots ls X hR hS hL hc hn
  show W p l e R s m args below meth c H locs cells slots Qs (F0 m pc ls (.ref (zf G (1000000 + (10 + i))) :: S.map (zt G)))
  rw [zf_big]
  exact vk_getf X.1 X.2.1 (X.2.2.2.2.2.1.2.1.2.2.2.2.2.1.1 i hi).2.1 hS X.2.2.2.1 (X.2.2.2.2.1 _ hw) (fun _ q => q) hd k2
theorem z_sval {i ix : Nat} (hi : i < 11) (hd : decode (mC M) pc = .ok (.getfield ix, 3)) (hw : Cond.fieldLink (mO M) ix "java/lang/String" "value" "[B" ∈ zTs) (kk : Z l G M d Q k n (pc + 3) L (va_rf (some (1000000 + (30 + i))) :: S) h) : Z l G M d Q k n pc L (va_rf (some (1000000 + (10 + i))) :: S) h := by
  intro p e R s m args below meth c Qs H locs cells slots ls X hR hS hL hc hn
  have k2 : W p l e R s m args below meth c H locs cells slots Qs (F0 m (pc + 3) ls (.ref (zf G (1000000 + (30 + i))) :: S.map (zt G))) := kk p e R s m args below meth c Qs H locs cells slots ls X hR hS hL hc hn
  show W p l e R s m args below meth c H locs cells slots Qs (F0 m pc ls (.ref (zf G (1000000 + (10 + i))) :: S.map (zt G)))
  rw [zf_big] at k2 ⊢
  exact vk_getf X.1 X.2.1 (X.2.2.2.2.2.1.2.1.2.2.2.2.2.1.1 i hi).2.2.1 hS X.2.2.2.1 (X.2.2.2.2.1 _ hw) (fun _ q => q) hd k2
theorem z_slen {i : Nat} {v : Int32} (hi : i < 11) (hd : decode (mC M) pc = .ok (.arraylength, 1)) (hv : Int32.ofNat (zsl.getD i 0) = v) (kk : Z l G M d Q k n (pc + 1) L (.int v :: S) h) : Z l G M d Q k n pc L (va_rf (some (1000000 + (30 + i))) :: S) h := by
  intro p e R s m args below meth c Qs H locs cells slots ls X hR hS hL hc hn
  have k2 : W p l e R s m args below meth c H locs cells slots Qs (F0 m (pc + 1) ls (.int v :: S.map (zt G))) := kk p e R s m args below meth c Qs H locs cells slots ls X hR hS hL hc hn
  show W p l e R s m args below meth c H locs cells slots Qs (F0 m pc ls (.ref (zf G (1000000 + (30 + i))) :: S.map (zt G)))
  rw [zf_big]
  exact va_tlen X.1 X.2.1 (X.2.2.2.2.2.1.2.1.2.2.2.2.2.1.1 i hi).2.2.2 hS hv hd k2
theorem z_sbal {i : Nat} {x : Int32} (hi : i < 11) (hd : decode (mC M) pc = .ok (.baload, 1)) (h0 : 0 ≤ x.toInt) (h1 : x.toInt < ((zsl.getD i 0 : Nat) : Int)) (kk : Z l G M d Q k n (pc + 1) L (.int ((zsb.getD i []).getD (zix x) 0) :: S) h) : Z l G M d Q k n pc L (.int x :: va_rf (some (1000000 + (30 + i))) :: S) h := by
  intro p e R s m args below meth c Qs H locs cells slots ls X hR hS hL hc hn
  have k2 : W p l e R s m args below meth c H locs cells slots Qs (F0 m (pc + 1) ls (.int ((zsb.getD i []).getD (zix x) 0) :: S.map (zt G))) := kk p e R s m args below meth c Qs H locs cells slots ls X hR hS hL hc hn
  show W p l e R s m args below meth c H locs cells slots Qs (F0 m pc ls (.int x :: .ref (zf G (1000000 + (30 + i))) :: S.map (zt G)))
  rw [zf_big]
  exact va_tb X.1 X.2.1 (X.2.2.2.2.2.1.2.1.2.2.2.2.2.1.1 i hi).2.2.2 hS (zin_of h0 h1) rfl hd k2
theorem z_gcs {ix : Nat} (hd : decode (mC M) pc = .ok (.getstatic ix, 3)) (hw : Cond.fieldLink (mO M) ix "java/lang/String" "COMPACT_STRINGS" "Z" ∈ zTs) (kk : Z l G M d Q k n (pc + 3) L (.int 1 :: S) h) : Z l G M d Q k n pc L S h := by
  intro p e R s m args below meth c Qs H locs cells slots ls X hR hS hL hc hn
  have k2 : W p l e R s m args below meth c H locs cells slots Qs (F0 m (pc + 3) ls (.int 1 :: S.map (zt G))) := kk p e R s m args below meth c Qs H locs cells slots ls X hR hS hL hc hn
  exact va_gets X.1 X.2.1 X.2.2.2.2.2.1.2.1.2.2.2.2.1 hS X.2.2.2.1 (X.2.2.2.2.1 _ hw) (fun _ q => q) hd k2
theorem z_gfo {ix : Nat} (hd : decode (mC M) pc = .ok (.getstatic ix, 3)) (hw : Cond.fieldLink (mO M) ix "jdk/internal/util/Preconditions" "SIOOBE_FORMATTER" "Ljava/util/function/BiFunction;" ∈ zTs) (kk : ∀ x : Option Nat, Z l G M d Q k n (pc + 3) L (va_rf x :: S) h) : Z l G M d Q k n pc L S h := by
  intro p e R s m args below meth c Qs H locs cells slots ls X hR hS hL hc hn
  rcases X.2.2.2.2.2.1.2.1.2.2.2.2.2.2 with z | z
  · have k2 : W p l e R s m args below meth c H locs cells slots Qs (F0 m (pc + 3) ls (.null :: S.map (zt G))) := kk none p e R s m args below meth c Qs H locs cells slots ls X hR hS hL hc hn
    exact va_gets X.1 X.2.1 z hS X.2.2.2.1 (X.2.2.2.2.1 _ hw) (fun _ q => q) hd k2
  · have k2 : W p l e R s m args below meth c H locs cells slots Qs (F0 m (pc + 3) ls (.ref (zf G (1000000 + 4)) :: S.map (zt G))) := kk (some (1000000 + 4)) p e R s m args below meth c Qs H locs cells slots ls X hR hS hL hc hn
    rw [zf_big] at k2
    exact va_gets X.1 X.2.1 z hS X.2.2.2.1 (X.2.2.2.2.1 _ hw) (fun _ q => q) hd k2
/-- a call upon a word -/
theorem z_callW {Y : zY} {np ix i d' mc ms : Nat} {As : List Value} {Q' : Option Value → zH → Prop} (hi : i < 11) (hY : Y.1.cls = "java/lang/String") (hM : zMe Y np) (hin : Cond.instanceMethod Y.1 ∈ zTs) (hse : Cond.selects "java/lang/String" Y.1 Y.1 ∈ zTs) (hl : Cond.methodLink (mO M) ix Y.1 ∈ zTs) (hd : decode (mC M) pc = .ok (.invokevirtual ix, 3)) (hAs : As.length = np) (hdp : d' + 1 ≤ d) (hS4 : S.length ≤ 4)
    (hT : CT l G Y d' mc ms (va_rf (some (1000000 + (10 + i))) :: As) h Q') (kk : ∀ v h1, Q' v h1 → Z l G M d Q k n (pc + 3) L (v.toList ++ S) h1) : Z l G M d Q (k + mc) (n + ms) pc L (As.reverse ++ va_rf (some (1000000 + (10 + i))) :: S) h := by
  intro p e R s m args below meth c Qs H locs cells slots ls X hR hS hL hc hn
  have hts := X.2.2.2.2.1
  have h40 := X.2.2.2.2.2.2.2.2.1
  have hfr := X.2.2.2.2.2.2.2.1
  rw [zmapr]
  have hroom := zroom G S
  have hrec := vk_recv X.2.2.2.2.2.1.2.1.2.2.2.2.2.1 hi hS
  have hpre : PreV s H "java/lang/String" (zf G (1000000 + (10 + i))) (zPc G (va_rf (some (1000000 + (10 + i))) :: As) h) (As.map (zt G)) := ⟨zPc_blind _, by rw [zf_big]; exact hrec, zPc_to X.2.2.2.2.2.1 hR hS _⟩
  refine z_run (a := (zt G (va_rf (some (1000000 + (10 + i)))) :: As.map (zt G)).toArray) (Q' := Q') (mc := mc) (ms := ms) (rest := S.map (zt G)) ?_ hS (fun v h1 H1 locs1 hq hR1 hS1 => by rw [zcat_map]; exact kk v h1 hq p e R s m args below meth c Qs H1 locs1 (cells + mc) (slots + ms) ls X hR1 hS1 hL (by omega) (by omega))
  exact va_runV (S := ⟨X.1, X.2.1, X.2.2.1, X.2.2.2.1, hts⟩) hT ⟨zhB hts hM hl hfr h40 hdp, hts _ hin, hts _ hse⟩ hpre rfl (by rw [List.length_map]; exact hAs) hL.1 rfl (by show 2 * 0 + _ ≤ 8; omega) hd ⟨by omega, by omega⟩
end K9C
