set_option maxRecDepth 4000
/-! ===== words: length, charAt, spells ===== -/
section K9D
theorem dSl_0 : decode (mC mJ0_length) 0 = .ok ((.aload_n 0), 1) := by decide +kernel
theorem dSl_1 : decode (mC mJ0_length) 1 = .ok ((.getfield 9), 3) := by decide +kernel
theorem dSl_4 : decode (mC mJ0_length) 4 = .ok (.arraylength, 1) := by decide +kernel
theorem dSl_5 : decode (mC mJ0_length) 5 = .ok ((.aload_n 0), 1) := by decide +kernel
theorem dSl_6 : decode (mC mJ0_length) 6 = .ok ((.invokevirtual 335), 3) := by decide +kernel
theorem dSl_9 : decode (mC mJ0_length) 9 = .ok (.ishr, 1) := by decide +kernel
theorem dSl_10 : decode (mC mJ0_length) 10 = .ok (.ireturn, 1) := by decide +kernel
theorem dSc_0 : decode (mC mJ0_coder) 0 = .ok ((.getstatic 38), 3) := by decide +kernel
theorem dSc_3 : decode (mC mJ0_coder) 3 = .ok ((.ifCond .eq 10), 3) := by decide +kernel
theorem dSc_6 : decode (mC mJ0_coder) 6 = .ok ((.aload_n 0), 1) := by decide +kernel
theorem dSc_7 : decode (mC mJ0_coder) 7 = .ok ((.getfield 15), 3) := by decide +kernel
theorem dSc_10 : decode (mC mJ0_coder) 10 = .ok ((.goto 4), 3) := by decide +kernel
theorem dSc_13 : decode (mC mJ0_coder) 13 = .ok ((.iconst 1), 1) := by decide +kernel
theorem dSc_14 : decode (mC mJ0_coder) 14 = .ok (.ireturn, 1) := by decide +kernel
theorem dSa_0 : decode (mC mJ0_charAt) 0 = .ok ((.aload_n 0), 1) := by decide +kernel
theorem dSa_1 : decode (mC mJ0_charAt) 1 = .ok ((.invokevirtual 492), 3) := by decide +kernel
theorem dSa_4 : decode (mC mJ0_charAt) 4 = .ok ((.ifCond .eq 12), 3) := by decide +kernel
theorem dSa_7 : decode (mC mJ0_charAt) 7 = .ok ((.aload_n 0), 1) := by decide +kernel
theorem dSa_8 : decode (mC mJ0_charAt) 8 = .ok ((.getfield 9), 3) := by decide +kernel
theorem dSa_11 : decode (mC mJ0_charAt) 11 = .ok ((.iload_n 1), 1) := by decide +kernel
theorem dSa_12 : decode (mC mJ0_charAt) 12 = .ok ((.invokestatic 495), 3) := by decide +kernel
theorem dSa_15 : decode (mC mJ0_charAt) 15 = .ok (.ireturn, 1) := by decide +kernel
theorem dSa_16 : decode (mC mJ0_charAt) 16 = .ok ((.aload_n 0), 1) := by decide +kernel
theorem dSa_17 : decode (mC mJ0_charAt) 17 = .ok ((.getfield 9), 3) := by decide +kernel
theorem dSa_20 : decode (mC mJ0_charAt) 20 = .ok ((.iload_n 1), 1) := by decide +kernel
theorem dSa_21 : decode (mC mJ0_charAt) 21 = .ok ((.invokestatic 498), 3) := by decide +kernel
theorem dSa_24 : decode (mC mJ0_charAt) 24 = .ok (.ireturn, 1) := by decide +kernel
theorem dSi_0 : decode (mC mJ0_isLatin1) 0 = .ok ((.getstatic 38), 3) := by decide +kernel
theorem dSi_3 : decode (mC mJ0_isLatin1) 3 = .ok ((.ifCond .eq 14), 3) := by decide +kernel
theorem dSi_6 : decode (mC mJ0_isLatin1) 6 = .ok ((.aload_n 0), 1) := by decide +kernel
theorem dSi_7 : decode (mC mJ0_isLatin1) 7 = .ok ((.getfield 15), 3) := by decide +kernel
theorem dSi_10 : decode (mC mJ0_isLatin1) 10 = .ok ((.ifCond .ne 7), 3) := by decide +kernel
theorem dSi_13 : decode (mC mJ0_isLatin1) 13 = .ok ((.iconst 1), 1) := by decide +kernel
theorem dSi_14 : decode (mC mJ0_isLatin1) 14 = .ok ((.goto 4), 3) := by decide +kernel
theorem dSi_17 : decode (mC mJ0_isLatin1) 17 = .ok ((.iconst 0), 1) := by decide +kernel
theorem dSi_18 : decode (mC mJ0_isLatin1) 18 = .ok (.ireturn, 1) := by decide +kernel
theorem dSb_0 : decode (mC mJ1_charAt) 0 = .ok ((.iload_n 1), 1) := by decide +kernel
theorem dSb_1 : decode (mC mJ1_charAt) 1 = .ok ((.aload_n 0), 1) := by decide +kernel
theorem dSb_2 : decode (mC mJ1_charAt) 2 = .ok (.arraylength, 1) := by decide +kernel
theorem dSb_3 : decode (mC mJ1_charAt) 3 = .ok ((.invokestatic 9), 3) := by decide +kernel
theorem dSb_6 : decode (mC mJ1_charAt) 6 = .ok ((.aload_n 0), 1) := by decide +kernel
theorem dSb_7 : decode (mC mJ1_charAt) 7 = .ok ((.iload_n 1), 1) := by decide +kernel
theorem dSb_8 : decode (mC mJ1_charAt) 8 = .ok (.baload, 1) := by decide +kernel
theorem dSb_9 : decode (mC mJ1_charAt) 9 = .ok ((.sipush 255), 3) := by decide +kernel
theorem dSb_12 : decode (mC mJ1_charAt) 12 = .ok (.iand, 1) := by decide +kernel
theorem dSb_13 : decode (mC mJ1_charAt) 13 = .ok (.i2c, 1) := by decide +kernel
theorem dSb_14 : decode (mC mJ1_charAt) 14 = .ok (.ireturn, 1) := by decide +kernel
theorem dSk_0 : decode (mC mJ0_checkIndex) 0 = .ok ((.iload_n 0), 1) := by decide +kernel
theorem dSk_1 : decode (mC mJ0_checkIndex) 1 = .ok ((.iload_n 1), 1) := by decide +kernel
theorem dSk_2 : decode (mC mJ0_checkIndex) 2 = .ok ((.getstatic 1053), 3) := by decide +kernel
theorem dSk_5 : decode (mC mJ0_checkIndex) 5 = .ok ((.invokestatic 1059), 3) := by decide +kernel
theorem dSk_8 : decode (mC mJ0_checkIndex) 8 = .ok (.pop, 1) := by decide +kernel
theorem dSk_9 : decode (mC mJ0_checkIndex) 9 = .ok (.return_, 1) := by decide +kernel
theorem dSp_0 : decode (mC mJ3_checkIndex) 0 = .ok ((.iload_n 0), 1) := by decide +kernel
theorem dSp_1 : decode (mC mJ3_checkIndex) 1 = .ok ((.ifCond .lt 8), 3) := by decide +kernel
theorem dSp_4 : decode (mC mJ3_checkIndex) 4 = .ok ((.iload_n 0), 1) := by decide +kernel
theorem dSp_5 : decode (mC mJ3_checkIndex) 5 = .ok ((.iload_n 1), 1) := by decide +kernel
theorem dSp_6 : decode (mC mJ3_checkIndex) 6 = .ok ((.if_icmp .lt 10), 3) := by decide +kernel
theorem dSp_9 : decode (mC mJ3_checkIndex) 9 = .ok ((.aload_n 2), 1) := by decide +kernel
theorem dSp_10 : decode (mC mJ3_checkIndex) 10 = .ok ((.iload_n 0), 1) := by decide +kernel
theorem dSp_11 : decode (mC mJ3_checkIndex) 11 = .ok ((.iload_n 1), 1) := by decide +kernel
theorem dSp_12 : decode (mC mJ3_checkIndex) 12 = .ok ((.invokestatic 95), 3) := by decide +kernel
theorem dSp_16 : decode (mC mJ3_checkIndex) 16 = .ok ((.iload_n 0), 1) := by decide +kernel
theorem dSp_17 : decode (mC mJ3_checkIndex) 17 = .ok (.ireturn, 1) := by decide +kernel
def bySt (i j : Nat) : Int32 := (zsb.getD i []).getD j 0
theorem by_t : ∀ i, i < 11 → ∀ j, j < 8 → (((bySt i j) &&& 255).toUInt32 % 65536).toInt32 = bySt i j := by decide +kernel
theorem by_n : ∀ i, i < 11 → ∀ j, j < 8 → narrow .char (.int (bySt i j)) = .int (bySt i j) := by decide +kernel
theorem ln_t : ∀ i, i < 11 → (Int32.ofNat (zsl.getD i 0)) >>> ((0 : Int32) &&& 31) = Int32.ofNat (zsl.getD i 0) := by decide +kernel
theorem ln_8 : ∀ i, i < 11 → zsl.getD i 0 < 8 := by decide +kernel
theorem c_coder (l : Launch) (G : zG) (h : zH) (i : Nat) (hi : i < 11) : CVi l G YJ0_coder 1 [va_rf (some (1000000 + (10 + i)))] h 0 := by
  refine CT.of (by decide +kernel) (fun t e => by have e2 : ((some .byte) : Option FieldType) = some t := e; cases e2; exact ⟨by decide, by decide⟩) (Nat.le_of_ble_eq_true rfl) ?_
  show Z l G mJ0_coder 1 (fun v h1 => v = some (.int 0) ∧ h1 = h) 0 0 0 [va_rf (some (1000000 + (10 + i)))] [] h
  refine z_gcs dSc_0 wS827 ?_
  refine z_if_eq (t := 13) dSc_3 (by decide) (fun c => absurd c (by decide)) (fun _ => ?_)
  refine z_aloadn dSc_6 rfl rfl ?_
  refine z_scod hi dSc_7 wS2040 ?_
  refine z_goto (t := 14) dSc_10 (by decide) ?_
  exact z_ret (v := some (.int 0)) dSc_14 ⟨_, rfl, by decide⟩ rfl ⟨rfl, rfl⟩
theorem c_isLat (l : Launch) (G : zG) (h : zH) (i : Nat) (hi : i < 11) : CVi l G YJ0_isLatin1 1 [va_rf (some (1000000 + (10 + i)))] h 1 := by
  refine CT.of (by decide +kernel) (fun t e => by have e2 : ((some .boolean) : Option FieldType) = some t := e; cases e2; exact ⟨by decide, by decide⟩) (Nat.le_of_ble_eq_true rfl) ?_
  show Z l G mJ0_isLatin1 1 (fun v h1 => v = some (.int 1) ∧ h1 = h) 0 0 0 [va_rf (some (1000000 + (10 + i)))] [] h
  refine z_gcs dSi_0 wS827 ?_
  refine z_if_eq (t := 17) dSi_3 (by decide) (fun c => absurd c (by decide)) (fun _ => ?_)
  refine z_aloadn dSi_6 rfl rfl ?_
  refine z_scod hi dSi_7 wS2040 ?_
  refine z_if_ne (t := 17) dSi_10 (by decide) (fun c => absurd rfl c) (fun _ => ?_)
  refine z_iconst (v := 1) dSi_13 (by decide) ?_
  refine z_goto (t := 18) dSi_14 (by decide) ?_
  exact z_ret (v := some (.int 1)) dSi_18 ⟨_, rfl, by decide⟩ rfl ⟨rfl, rfl⟩
theorem c_strlen (l : Launch) (G : zG) (h : zH) (i : Nat) (hi : i < 11) : CVi l G YJ0_length 2 [va_rf (some (1000000 + (10 + i)))] h (Int32.ofNat (zsl.getD i 0)) := by
  refine CT.of (by decide +kernel) (fun t e => by have e2 : ((some .int) : Option FieldType) = some t := e; cases e2; exact ⟨by decide, by decide⟩) (Nat.le_of_ble_eq_true rfl) ?_
  show Z l G mJ0_length 2 (fun v h1 => v = some (.int (Int32.ofNat (zsl.getD i 0))) ∧ h1 = h) 0 0 0 [va_rf (some (1000000 + (10 + i)))] [] h
  refine z_aloadn dSl_0 rfl rfl ?_
  refine z_sval hi dSl_1 wS2039 ?_
  refine z_slen hi dSl_4 rfl ?_
  refine z_aloadn dSl_5 rfl rfl ?_
  refine z_callW (h := h) (S := [.int (Int32.ofNat (zsl.getD i 0))]) (M := mJ0_length) (As := []) hi rfl eJ0_coder wS824 wS825 wS823 dSl_6 rfl (Nat.le_refl 2) (Nat.le_of_ble_eq_true rfl) (c_coder l G h i hi) (fun v g q => ?_)
  obtain ⟨rfl, q⟩ := q
  subst q
  show Z l G mJ0_length 2 _ 0 0 9 _ (.int 0 :: .int (Int32.ofNat (zsl.getD i 0)) :: []) _
  refine z_ishr dSl_9 ?_
  rw [ln_t i hi]
  exact z_ret (v := some (.int (Int32.ofNat (zsl.getD i 0)))) dSl_10 ⟨_, rfl, rfl⟩ rfl ⟨rfl, rfl⟩
theorem c_chkP (l : Launch) (G : zG) (h : zH) (x y : Int32) (r : Option Nat) (h0 : 0 ≤ x.toInt) (h1 : x.toInt < y.toInt) : CVi l G YJ3_checkIndex 1 [.int x, .int y, va_rf r] h x := by
  refine CT.of (by decide +kernel) (fun t e => by have e2 : ((some .int) : Option FieldType) = some t := e; cases e2; exact ⟨by decide, by decide⟩) (by cases r <;> exact Nat.le_of_ble_eq_true rfl) ?_
  have body : Z l G mJ3_checkIndex 1 (fun v h1 => v = some (.int x) ∧ h1 = h) 0 0 0 [.int x, .int y, va_rf r] [] h := by
    refine z_iloadn dSp_0 rfl rfl ?_
    refine z_if_lt (t := 9) dSp_1 (by decide) (fun c => absurd c (by omega)) (fun _ => ?_)
    refine z_iloadn dSp_4 rfl rfl ?_
    refine z_iloadn dSp_5 rfl rfl ?_
    refine z_icmp_lt (t := 16) dSp_6 (by decide) (fun _ => ?_) (fun c => absurd c (by omega))
    refine z_iloadn dSp_16 rfl rfl ?_
    exact z_ret (v := some (.int x)) dSp_17 ⟨_, rfl, rfl⟩ rfl ⟨rfl, rfl⟩
  cases r <;> exact body
theorem c_chk (l : Launch) (G : zG) (h : zH) (x y : Int32) (h0 : 0 ≤ x.toInt) (h1 : x.toInt < y.toInt) : CT l G YJ0_checkIndex 2 0 0 [.int x, .int y] h (fun v h1 => v = none ∧ h1 = h) := by
  refine CT.of (by decide +kernel) (fun t e => by cases e) (Nat.le_of_ble_eq_true rfl) ?_
  show Z l G mJ0_checkIndex 2 (fun v h1 => v = none ∧ h1 = h) 0 0 0 [.int x, .int y] [] h
  refine z_iloadn dSk_0 rfl rfl ?_
  refine z_iloadn dSk_1 rfl rfl ?_
  refine z_gfo dSk_2 wS843 (fun r => ?_)
  refine z_callS (h := h) (S := []) (M := mJ0_checkIndex) (As := [.int x, .int y, va_rf r]) eJ3_checkIndex wS846 (Or.inl wS845) dSk_5 rfl (Nat.le_refl 2) (Nat.le_of_ble_eq_true rfl) (c_chkP l G h x y r h0 h1) (fun v g q => ?_)
  obtain ⟨rfl, q⟩ := q
  subst q
  show Z l G mJ0_checkIndex 2 _ 0 0 8 _ (.int x :: []) _
  refine z_popi dSk_8 ?_
  exact z_ret (v := none) dSk_9 rfl rfl ⟨rfl, rfl⟩
theorem c_chL (l : Launch) (G : zG) (h : zH) (i j : Nat) (x : Int32) (hi : i < 11) (hx : x.toInt = (j : Int)) (hj : j < zsl.getD i 0) : CVi l G YJ1_charAt 3 [va_rf (some (1000000 + (30 + i))), .int x] h (bySt i j) := by
  have l8 := ln_8 i hi
  have el : (Int32.ofNat (zsl.getD i 0)).toInt = ((zsl.getD i 0 : Nat) : Int) := i_ofNat (by omega)
  refine CT.of (by decide +kernel) (fun t e => by have e2 : ((some .char) : Option FieldType) = some t := e; cases e2; exact ⟨by decide, by decide⟩) (Nat.le_of_ble_eq_true rfl) ?_
  show Z l G mJ1_charAt 3 (fun v h1 => v = some (.int (bySt i j)) ∧ h1 = h) 0 0 0 [va_rf (some (1000000 + (30 + i))), .int x] [] h
  refine z_iloadn dSb_0 rfl rfl ?_
  refine z_aloadn dSb_1 rfl rfl ?_
  refine z_slen hi dSb_2 rfl ?_
  refine z_callS (h := h) (S := []) (M := mJ1_charAt) (As := [.int x, .int (Int32.ofNat (zsl.getD i 0))]) eJ0_checkIndex wS841 (Or.inl wS840) dSb_3 rfl (Nat.le_refl 3) (Nat.le_of_ble_eq_true rfl) (c_chk l G h x _ (by omega) (by omega)) (fun v g q => ?_)
  obtain ⟨rfl, q⟩ := q
  subst q
  show Z l G mJ1_charAt 3 _ 0 0 6 _ [] _
  refine z_aloadn dSb_6 rfl rfl ?_
  refine z_iloadn dSb_7 rfl rfl ?_
  refine z_sbal hi dSb_8 (by omega) (by omega) ?_
  rw [zix_of hx]
  refine z_sipush (v := 255) dSb_9 (by decide) ?_
  refine z_iand dSb_12 ?_
  refine z_i2c dSb_13 (by_t i hi j (by omega)) ?_
  exact z_ret (v := some (.int (bySt i j))) dSb_14 ⟨_, rfl, by_n i hi j (by omega)⟩ rfl ⟨rfl, rfl⟩
theorem c_charAt (l : Launch) (G : zG) (h : zH) (i j : Nat) (x : Int32) (hi : i < 11) (hx : x.toInt = (j : Int)) (hj : j < zsl.getD i 0) : CVi l G YJ0_charAt 4 [va_rf (some (1000000 + (10 + i))), .int x] h (bySt i j) := by
  have l8 := ln_8 i hi
  refine CT.of (by decide +kernel) (fun t e => by have e2 : ((some .char) : Option FieldType) = some t := e; cases e2; exact ⟨by decide, by decide⟩) (Nat.le_of_ble_eq_true rfl) ?_
  show Z l G mJ0_charAt 4 (fun v h1 => v = some (.int (bySt i j)) ∧ h1 = h) 0 0 0 [va_rf (some (1000000 + (10 + i))), .int x] [] h
  refine z_aloadn dSa_0 rfl rfl ?_
  refine z_callW (h := h) (S := []) (M := mJ0_charAt) (As := []) hi rfl eJ0_isLatin1 wS834 wS835 wS833 dSa_1 rfl (by omega) (Nat.le_of_ble_eq_true rfl) (c_isLat l G h i hi) (fun v g q => ?_)
  obtain ⟨rfl, q⟩ := q
  subst q
  show Z l G mJ0_charAt 4 _ 0 0 4 _ (.int 1 :: []) _
  refine z_if_eq (t := 16) dSa_4 (by decide) (fun c => absurd c (by decide)) (fun _ => ?_)
  refine z_aloadn dSa_7 rfl rfl ?_
  refine z_sval hi dSa_8 wS2039 ?_
  refine z_iloadn dSa_11 rfl rfl ?_
  refine z_callS (h := g) (S := []) (M := mJ0_charAt) (As := [va_rf (some (1000000 + (30 + i))), .int x]) eJ1_charAt wS838 (Or.inl wS837) dSa_12 rfl (Nat.le_refl 4) (Nat.le_of_ble_eq_true rfl) (c_chL l G g i j x hi hx hj) (fun v g q => ?_)
  obtain ⟨rfl, q⟩ := q
  subst q
  show Z l G mJ0_charAt 4 _ 0 0 15 _ (.int (bySt i j) :: []) _
  exact z_ret (v := some (.int (bySt i j))) dSa_15 ⟨_, rfl, by_n i hi j (by omega)⟩ rfl ⟨rfl, rfl⟩
theorem c_spells (l : Launch) (G : zG) (h : zH) (a i : Nat) (ha : lo5 h a) (hg : zgok h (zR h a 4)) (hi : i < 11) : CTz l G YX5_spells 5 [va_rf (some a), va_rf (some (1000000 + (10 + i)))] h (fun y I => (y = true ↔ zI h a 8 - zI h a 7 = Int32.ofNat (zsl.getD i 0) ∧ ∀ j, j < zsl.getD i 0 → zget h (zR h a 4) (zI h a 7 + Int32.ofNat j) = bySt i j) ∧ I = h.1) := by
  have l8 := ln_8 i hi
  have el : (Int32.ofNat (zsl.getD i 0)).toInt = ((zsl.getD i 0 : Nat) : Int) := i_ofNat (by omega)
  refine CT.of (by decide +kernel) (fun t e => by have e2 : ((some .boolean) : Option FieldType) = some t := e; cases e2; exact ⟨by decide, by decide⟩) (Nat.le_of_ble_eq_true rfl) ?_
  show Z l G mX5_spells 5 (fun v h1 => ∃ x I1, v = some (.int (zb x)) ∧ h1 = (I1, h.2) ∧ ((x = true ↔ zI h a 8 - zI h a 7 = Int32.ofNat (zsl.getD i 0) ∧ ∀ j, j < zsl.getD i 0 → zget h (zR h a 4) (zI h a 7 + Int32.ofNat j) = bySt i j) ∧ I1 = h.1)) 0 0 0 [va_rf (some a), va_rf (some (1000000 + (10 + i))), zU] [] h
  have loop : zI h a 8 - zI h a 7 = Int32.ofNat (zsl.getD i 0) → ∀ (fu j : Nat) (x : Int32), j ≤ zsl.getD i 0 → zsl.getD i 0 - j < fu → x.toInt = (j : Int) → (∀ c, c < j → zget h (zR h a 4) (zI h a 7 + Int32.ofNat c) = bySt i c) →
      Z l G mX5_spells 5 (fun v h1 => ∃ x I1, v = some (.int (zb x)) ∧ h1 = (I1, h.2) ∧ ((x = true ↔ zI h a 8 - zI h a 7 = Int32.ofNat (zsl.getD i 0) ∧ ∀ j, j < zsl.getD i 0 → zget h (zR h a 4) (zI h a 7 + Int32.ofNat j) = bySt i j) ∧ I1 = h.1)) 0 0 20 [va_rf (some a), va_rf (some (1000000 + (10 + i))), .int x] [] h := by
    intro hlen fu
    induction fu with
    | zero => intro j x q1 q2; omega
    | succ fu ih =>
      intro j x q1 q2 hx hc
      refine z_iloadn dX5_spells_20 rfl rfl ?_
      refine z_aloadn dX5_spells_21 rfl rfl ?_
      refine z_callW (h := h) (S := [.int x]) (M := mX5_spells) (As := []) hi rfl eJ0_length w820 wS821 w819 dX5_spells_22 rfl (by omega) (Nat.le_of_ble_eq_true rfl) (c_strlen l G h i hi) (fun v g q => ?_)
      obtain ⟨rfl, q⟩ := q
      subst q
      show Z l G mX5_spells 5 _ 0 0 25 _ (.int (Int32.ofNat (zsl.getD i 0)) :: .int x :: []) _
      refine z_icmp_ge (t := 57) dX5_spells_25 (by decide) (fun c => ?_) (fun c => ?_)
      · refine z_iconst (v := 1) dX5_spells_57 (by decide) ?_
        exact z_ret (v := some (.int 1)) dX5_spells_58 ⟨_, rfl, by decide⟩ rfl ⟨true, g.1, rfl, rfl, ⟨fun _ => ⟨hlen, fun j' hj' => hc j' (by omega)⟩, fun _ => rfl⟩, rfl⟩
      · have hj : j < zsl.getD i 0 := by omega
        have ex : x = Int32.ofNat j := n_ofn hx
        refine z_aloadn dX5_spells_28 rfl rfl ?_
        refine z_getRq (j := 4) zc5 dX5_spells_29 (ha.k 0 rfl) (ha.lt 0 rfl) (by decide) rfl w442 rfl ?_
        refine z_aloadn dX5_spells_32 rfl rfl ?_
        refine z_getI (j := 7) zc5 dX5_spells_33 (ha.k 0 rfl) (ha.lt 0 rfl) (by decide) rfl w445 ?_
        refine z_iloadn dX5_spells_36 rfl rfl ?_
        refine z_iadd dX5_spells_37 ?_
        refine z_callS (h := g) (S := []) (M := mX5_spells) (As := [va_rf (zR g a 4), .int (zI g a 7 + x)]) eX10_get w778 (Or.inr ⟨_, w777⟩) dX5_spells_38 rfl (by omega) (Nat.le_of_ble_eq_true rfl) (c_X10_get l G g (zR g a 4) (zI g a 7 + x) hg) (fun v g2 q => ?_)
        obtain ⟨rfl, q⟩ := q
        subst q
        show Z l G mX5_spells 5 _ 0 0 41 _ (.int (zget g2 (zR g2 a 4) (zI g2 a 7 + x)) :: []) _
        refine z_aloadn dX5_spells_41 rfl rfl ?_
        refine z_iloadn dX5_spells_42 rfl rfl ?_
        refine z_callW (h := g2) (S := [.int (zget g2 (zR g2 a 4) (zI g2 a 7 + x))]) (M := mX5_spells) (As := [.int x]) hi rfl eJ0_charAt w830 wS831 w829 dX5_spells_43 rfl (by omega) (Nat.le_of_ble_eq_true rfl) (c_charAt l G g2 i j x hi hx hj) (fun v g3 q => ?_)
        obtain ⟨rfl, q⟩ := q
        subst q
        show Z l G mX5_spells 5 _ 0 0 46 _ (.int (bySt i j) :: .int (zget g3 (zR g3 a 4) (zI g3 a 7 + x)) :: []) _
        refine z_icmp_eq (t := 51) dX5_spells_46 (by decide) (fun c2 => ?_) (fun c2 => ?_)
        · refine z_iinc (v := x + 1) dX5_spells_51 (by decide) rfl rfl rfl ?_
          refine z_goto (t := 20) dX5_spells_54 (by decide) ?_
          refine ih (j + 1) (x + 1) (by omega) (by omega) (i_1 hx (by omega)) (fun c' hc' => ?_)
          by_cases z : c' = j
          · rw [z, ← ex]; exact c2
          · exact hc c' (by omega)
        · refine z_iconst (v := 0) dX5_spells_49 (by decide) ?_
          exact z_ret (v := some (.int 0)) dX5_spells_50 ⟨_, rfl, by decide⟩ rfl ⟨false, g3.1, rfl, rfl, ⟨fun z => (by cases z), fun z => absurd (by rw [ex]; exact z.2 j hj) c2⟩, rfl⟩
  refine z_aloadn dX5_spells_0 rfl rfl ?_
  refine z_getI (j := 8) zc5 dX5_spells_1 (ha.k 0 rfl) (ha.lt 0 rfl) (by decide) rfl w446 ?_
  refine z_aloadn dX5_spells_4 rfl rfl ?_
  refine z_getI (j := 7) zc5 dX5_spells_5 (ha.k 0 rfl) (ha.lt 0 rfl) (by decide) rfl w445 ?_
  refine z_isub dX5_spells_8 ?_
  refine z_aloadn dX5_spells_9 rfl rfl ?_
  refine z_callW (h := h) (S := [.int (zI h a 8 - zI h a 7)]) (M := mX5_spells) (As := []) hi rfl eJ0_length w820 wS821 w819 dX5_spells_10 rfl (by omega) (Nat.le_of_ble_eq_true rfl) (c_strlen l G h i hi) (fun v g q => ?_)
  obtain ⟨rfl, q⟩ := q
  subst q
  show Z l G mX5_spells 5 _ 0 0 13 _ (.int (Int32.ofNat (zsl.getD i 0)) :: .int (zI g a 8 - zI g a 7) :: []) _
  refine z_icmp_eq (t := 18) dX5_spells_13 (by decide) (fun c => ?_) (fun c => ?_)
  · refine z_iconst (v := 0) dX5_spells_18 (by decide) ?_
    refine z_istoren (j := 2) dX5_spells_19 rfl (by decide) rfl ?_
    exact loop c (zsl.getD i 0 + 1) 0 0 (Nat.zero_le _) (by omega) rfl (fun c' h' => absurd h' (Nat.not_lt_zero c'))
  · refine z_iconst (v := 0) dX5_spells_16 (by decide) ?_
    exact z_ret (v := some (.int 0)) dX5_spells_17 ⟨_, rfl, by decide⟩ rfl ⟨false, g.1, rfl, rfl, ⟨fun z => (by cases z), fun z => absurd z.1 c⟩, rfl⟩
end K9D
