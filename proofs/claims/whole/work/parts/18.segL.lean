set_option maxRecDepth 4000
abbrev mL_law : zM := ("ClayPrintsLaw", code, 4, ret, false)
theorem sL_law_18 {l : Launch} {G : zG} {d : Nat} {Q : Option Value → zH → Prop} {k n : Nat} {h : zH} (r0 : Option Nat) (a1 : Nat) (a2 : Nat) (x3 : Int32) (ha1 : lo10 h a1) (ha2 : lo11 h a2) (hd9 : 17 ≤ d)
    (hw : (∃ b4 N1, r0 = some b4 ∧ zAr h b4 N1 ∧ ((((Int32.ofNat N1) - 6).toInt < x3.toInt → Q (some (.int 1)) h) ∧ (x3.toInt ≤ ((Int32.ofNat N1) - 6).toInt → (∃ b11 N12, r0 = some b11 ∧ zAr h b11 N12 ∧ 0 ≤ x3.toInt ∧ x3.toInt < ((N12 : Nat) : Int) ∧ ((((zI h b11 (zix x3)) &&& 31).toInt < 0 ∨ 30 < ((zI h b11 (zix x3)) &&& 31).toInt → Z l G mL_law d Q k n 1494 [va_rf r0, va_rf (some a1), va_rf (some a2), .int x3] [] h) ∧ (((zI h b11 (zix x3)) &&& 31).toInt = 0 → Z l G mL_law d Q k n 172 [va_rf r0, va_rf (some a1), va_rf (some a2), .int x3] [] h) ∧ (((zI h b11 (zix x3)) &&& 31).toInt = 1 → Z l G mL_law d Q k n 235 [va_rf r0, va_rf (some a1), va_rf (some a2), .int x3] [] h) ∧ (((zI h b11 (zix x3)) &&& 31).toInt = 2 → Z l G mL_law d Q k n 258 [va_rf r0, va_rf (some a1), va_rf (some a2), .int x3] [] h) ∧ (((zI h b11 (zix x3)) &&& 31).toInt = 3 → Z l G mL_law d Q k n 291 [va_rf r0, va_rf (some a1), va_rf (some a2), .int x3] [] h) ∧ (((zI h b11 (zix x3)) &&& 31).toInt = 4 → Z l G mL_law d Q k n 314 [va_rf r0, va_rf (some a1), va_rf (some a2), .int x3] [] h) ∧ (((zI h b11 (zix x3)) &&& 31).toInt = 5 → Z l G mL_law d Q k n 347 [va_rf r0, va_rf (some a1), va_rf (some a2), .int x3] [] h) ∧ (((zI h b11 (zix x3)) &&& 31).toInt = 6 → Z l G mL_law d Q k n 390 [va_rf r0, va_rf (some a1), va_rf (some a2), .int x3] [] h) ∧ (((zI h b11 (zix x3)) &&& 31).toInt = 7 → Z l G mL_law d Q k n 433 [va_rf r0, va_rf (some a1), va_rf (some a2), .int x3] [] h) ∧ (((zI h b11 (zix x3)) &&& 31).toInt = 8 → Z l G mL_law d Q k n 486 [va_rf r0, va_rf (some a1), va_rf (some a2), .int x3] [] h) ∧ (((zI h b11 (zix x3)) &&& 31).toInt = 9 → Z l G mL_law d Q k n 539 [va_rf r0, va_rf (some a1), va_rf (some a2), .int x3] [] h) ∧ (((zI h b11 (zix x3)) &&& 31).toInt = 10 → Z l G mL_law d Q k n 582 [va_rf r0, va_rf (some a1), va_rf (some a2), .int x3] [] h) ∧ (((zI h b11 (zix x3)) &&& 31).toInt = 11 → Z l G mL_law d Q k n 625 [va_rf r0, va_rf (some a1), va_rf (some a2), .int x3] [] h) ∧ (((zI h b11 (zix x3)) &&& 31).toInt = 12 → Z l G mL_law d Q k n 685 [va_rf r0, va_rf (some a1), va_rf (some a2), .int x3] [] h) ∧ (((zI h b11 (zix x3)) &&& 31).toInt = 13 → Z l G mL_law d Q k n 718 [va_rf r0, va_rf (some a1), va_rf (some a2), .int x3] [] h) ∧ (((zI h b11 (zix x3)) &&& 31).toInt = 14 → Z l G mL_law d Q k n 751 [va_rf r0, va_rf (some a1), va_rf (some a2), .int x3] [] h) ∧ (((zI h b11 (zix x3)) &&& 31).toInt = 15 → Z l G mL_law d Q k n 794 [va_rf r0, va_rf (some a1), va_rf (some a2), .int x3] [] h) ∧ (((zI h b11 (zix x3)) &&& 31).toInt = 16 → Z l G mL_law d Q k n 847 [va_rf r0, va_rf (some a1), va_rf (some a2), .int x3] [] h) ∧ (((zI h b11 (zix x3)) &&& 31).toInt = 17 → Z l G mL_law d Q k n 910 [va_rf r0, va_rf (some a1), va_rf (some a2), .int x3] [] h) ∧ (((zI h b11 (zix x3)) &&& 31).toInt = 18 → Z l G mL_law d Q k n 943 [va_rf r0, va_rf (some a1), va_rf (some a2), .int x3] [] h) ∧ (((zI h b11 (zix x3)) &&& 31).toInt = 19 → Z l G mL_law d Q k n 986 [va_rf r0, va_rf (some a1), va_rf (some a2), .int x3] [] h) ∧ (((zI h b11 (zix x3)) &&& 31).toInt = 20 → Z l G mL_law d Q k n 1029 [va_rf r0, va_rf (some a1), va_rf (some a2), .int x3] [] h) ∧ (((zI h b11 (zix x3)) &&& 31).toInt = 21 → Z l G mL_law d Q k n 1072 [va_rf r0, va_rf (some a1), va_rf (some a2), .int x3] [] h) ∧ (((zI h b11 (zix x3)) &&& 31).toInt = 22 → Z l G mL_law d Q k n 1115 [va_rf r0, va_rf (some a1), va_rf (some a2), .int x3] [] h) ∧ (((zI h b11 (zix x3)) &&& 31).toInt = 23 → Z l G mL_law d Q k n 1168 [va_rf r0, va_rf (some a1), va_rf (some a2), .int x3] [] h) ∧ (((zI h b11 (zix x3)) &&& 31).toInt = 24 → Z l G mL_law d Q k n 1201 [va_rf r0, va_rf (some a1), va_rf (some a2), .int x3] [] h) ∧ (((zI h b11 (zix x3)) &&& 31).toInt = 25 → Z l G mL_law d Q k n 1270 [va_rf r0, va_rf (some a1), va_rf (some a2), .int x3] [] h) ∧ (((zI h b11 (zix x3)) &&& 31).toInt = 26 → Z l G mL_law d Q k n 1329 [va_rf r0, va_rf (some a1), va_rf (some a2), .int x3] [] h) ∧ (((zI h b11 (zix x3)) &&& 31).toInt = 27 → Z l G mL_law d Q k n 1382 [va_rf r0, va_rf (some a1), va_rf (some a2), .int x3] [] h) ∧ (((zI h b11 (zix x3)) &&& 31).toInt = 28 → Z l G mL_law d Q k n 1425 [va_rf r0, va_rf (some a1), va_rf (some a2), .int x3] [] h) ∧ (((zI h b11 (zix x3)) &&& 31).toInt = 29 → Z l G mL_law d Q k n 1448 [va_rf r0, va_rf (some a1), va_rf (some a2), .int x3] [] h) ∧ (((zI h b11 (zix x3)) &&& 31).toInt = 30 → Z l G mL_law d Q k n 1471 [va_rf r0, va_rf (some a1), va_rf (some a2), .int x3] [] h))))))) :
    Z l G mL_law d Q k n 18 [va_rf r0, va_rf (some a1), va_rf (some a2), .int x3] [] h := by
  refine z_iloadn dL_law_18 rfl rfl ?_
  refine z_aloadn dL_law_19 rfl rfl ?_
  obtain ⟨b4, N1, q5, qa2, hw3⟩ := hw
  refine z_soP [] q5 ?_
  refine z_alen (N := N1) dL_law_20 qa2 rfl ?_
  refine z_bipush (v := 6) dL_law_21 (by decide) ?_
  refine z_isub dL_law_23 ?_
  refine z_icmp_gt (t := 1500) dL_law_24 (by decide) (fun c6 => ?_) (fun c7 => ?_)
  · have hw8 := hw3.1 c6
    refine z_iconst (v := 1) dL_law_1500 (by decide) ?_
    exact z_ret (v := some (.int 1)) dL_law_1501 ⟨_, rfl, by decide⟩ rfl hw8
  · have hw9 := hw3.2 c7
    refine z_aloadn dL_law_27 rfl rfl ?_
    refine z_iloadn dL_law_28 rfl rfl ?_
    obtain ⟨b11, N12, q13, qa14, qz15, qy16, hw10⟩ := hw9
    refine z_soP [.int x3] q13 ?_
    refine z_iald (N := N12) dL_law_29 qa14 qz15 qy16 ?_
    refine z_bipush (v := 31) dL_law_30 (by decide) ?_
    refine z_iand dL_law_32 ?_
    refine z_tswc (td := 1494) (ts := [172, 235, 258, 291, 314, 347, 390, 433, 486, 539, 582, 625, 685, 718, 751, 794, 847, 910, 943, 986, 1029, 1072, 1115, 1168, 1201, 1270, 1329, 1382, 1425, 1448, 1471]) dL_law_33 (by decide) (by decide) (by decide) (fun c17 => ?_) ⟨fun c17k0 => ?_, fun c17k1 => ?_, fun c17k2 => ?_, fun c17k3 => ?_, fun c17k4 => ?_, fun c17k5 => ?_, fun c17k6 => ?_, fun c17k7 => ?_, fun c17k8 => ?_, fun c17k9 => ?_, fun c17k10 => ?_, fun c17k11 => ?_, fun c17k12 => ?_, fun c17k13 => ?_, fun c17k14 => ?_, fun c17k15 => ?_, fun c17k16 => ?_, fun c17k17 => ?_, fun c17k18 => ?_, fun c17k19 => ?_, fun c17k20 => ?_, fun c17k21 => ?_, fun c17k22 => ?_, fun c17k23 => ?_, fun c17k24 => ?_, fun c17k25 => ?_, fun c17k26 => ?_, fun c17k27 => ?_, fun c17k28 => ?_, fun c17k29 => ?_, fun c17k30 => ?_, trivial⟩
    · have hw18 := hw10.1 c17
      exact hw18
    · have hw19 := hw10.2.1 c17k0
      exact hw19
    · have hw20 := hw10.2.2.1 c17k1
      exact hw20
    · have hw21 := hw10.2.2.2.1 c17k2
      exact hw21
    · have hw22 := hw10.2.2.2.2.1 c17k3
      exact hw22
    · have hw23 := hw10.2.2.2.2.2.1 c17k4
      exact hw23
    · have hw24 := hw10.2.2.2.2.2.2.1 c17k5
      exact hw24
    · have hw25 := hw10.2.2.2.2.2.2.2.1 c17k6
      exact hw25
    · have hw26 := hw10.2.2.2.2.2.2.2.2.1 c17k7
      exact hw26
    · have hw27 := hw10.2.2.2.2.2.2.2.2.2.1 c17k8
      exact hw27
    · have hw28 := hw10.2.2.2.2.2.2.2.2.2.2.1 c17k9
      exact hw28
    · have hw29 := hw10.2.2.2.2.2.2.2.2.2.2.2.1 c17k10
      exact hw29
    · have hw30 := hw10.2.2.2.2.2.2.2.2.2.2.2.2.1 c17k11
      exact hw30
    · have hw31 := hw10.2.2.2.2.2.2.2.2.2.2.2.2.2.1 c17k12
      exact hw31
    · have hw32 := hw10.2.2.2.2.2.2.2.2.2.2.2.2.2.2.1 c17k13
      exact hw32
    · have hw33 := hw10.2.2.2.2.2.2.2.2.2.2.2.2.2.2.2.1 c17k14
      exact hw33
    · have hw34 := hw10.2.2.2.2.2.2.2.2.2.2.2.2.2.2.2.2.1 c17k15
      exact hw34
    · have hw35 := hw10.2.2.2.2.2.2.2.2.2.2.2.2.2.2.2.2.2.1 c17k16
      exact hw35
    · have hw36 := hw10.2.2.2.2.2.2.2.2.2.2.2.2.2.2.2.2.2.2.1 c17k17
      exact hw36
    · have hw37 := hw10.2.2.2.2.2.2.2.2.2.2.2.2.2.2.2.2.2.2.2.1 c17k18
      exact hw37
    · have hw38 := hw10.2.2.2.2.2.2.2.2.2.2.2.2.2.2.2.2.2.2.2.2.1 c17k19
      exact hw38
    · have hw39 := hw10.2.2.2.2.2.2.2.2.2.2.2.2.2.2.2.2.2.2.2.2.2.1 c17k20
      exact hw39
    · have hw40 := hw10.2.2.2.2.2.2.2.2.2.2.2.2.2.2.2.2.2.2.2.2.2.2.1 c17k21
      exact hw40
    · have hw41 := hw10.2.2.2.2.2.2.2.2.2.2.2.2.2.2.2.2.2.2.2.2.2.2.2.1 c17k22
      exact hw41
    · have hw42 := hw10.2.2.2.2.2.2.2.2.2.2.2.2.2.2.2.2.2.2.2.2.2.2.2.2.1 c17k23
      exact hw42
    · have hw43 := hw10.2.2.2.2.2.2.2.2.2.2.2.2.2.2.2.2.2.2.2.2.2.2.2.2.2.1 c17k24
      exact hw43
    · have hw44 := hw10.2.2.2.2.2.2.2.2.2.2.2.2.2.2.2.2.2.2.2.2.2.2.2.2.2.2.1 c17k25
      exact hw44
    · have hw45 := hw10.2.2.2.2.2.2.2.2.2.2.2.2.2.2.2.2.2.2.2.2.2.2.2.2.2.2.2.1 c17k26
      exact hw45
    · have hw46 := hw10.2.2.2.2.2.2.2.2.2.2.2.2.2.2.2.2.2.2.2.2.2.2.2.2.2.2.2.2.1 c17k27
      exact hw46
    · have hw47 := hw10.2.2.2.2.2.2.2.2.2.2.2.2.2.2.2.2.2.2.2.2.2.2.2.2.2.2.2.2.2.1 c17k28
      exact hw47
    · have hw48 := hw10.2.2.2.2.2.2.2.2.2.2.2.2.2.2.2.2.2.2.2.2.2.2.2.2.2.2.2.2.2.2.1 c17k29
      exact hw48
    · have hw49 := hw10.2.2.2.2.2.2.2.2.2.2.2.2.2.2.2.2.2.2.2.2.2.2.2.2.2.2.2.2.2.2.2 c17k30
      exact hw49

theorem sL_law_172 {l : Launch} {G : zG} {d : Nat} {Q : Option Value → zH → Prop} {k n : Nat} {h : zH} (r0 : Option Nat) (a1 : Nat) (a2 : Nat) (x3 : Int32) (ha1 : lo10 h a1) (ha2 : lo11 h a2) (hd9 : 17 ≤ d)
    (hw : (∃ b2 N3, r0 = some b2 ∧ zAr h b2 N3 ∧ 0 ≤ (x3 + 1).toInt ∧ (x3 + 1).toInt < ((N3 : Nat) : Int) ∧ (∃ b9 N10, r0 = some b9 ∧ zAr h b9 N10 ∧ 0 ≤ (x3 + 2).toInt ∧ (x3 + 2).toInt < ((N10 : Nat) : Int) ∧ (∃ b16 N17, r0 = some b16 ∧ zAr h b16 N17 ∧ 0 ≤ (x3 + 3).toInt ∧ (x3 + 3).toInt < ((N17 : Nat) : Int) ∧ (∃ b23 N24, r0 = some b23 ∧ zAr h b23 N24 ∧ 0 ≤ (x3 + 4).toInt ∧ (x3 + 4).toInt < ((N24 : Nat) : Int) ∧ (∃ b30 N31, r0 = some b30 ∧ zAr h b30 N31 ∧ 0 ≤ (x3 + 5).toInt ∧ (x3 + 5).toInt < ((N31 : Nat) : Int) ∧ (∃ P36, CTi l G YX10_feed 3 [va_rf (some a1), .int (zI h b2 (zix (x3 + 1))), .int (zI h b9 (zix (x3 + 2))), .int (zI h b16 (zix (x3 + 3))), .int (zI h b23 (zix (x3 + 4))), .int (zI h b30 (zix (x3 + 5)))] h P36 ∧ ∀ (y41 : Int32) (I39 : Nat → Nat → Int32), P36 y41 I39 → (∃ b46 N47, r0 = some b46 ∧ zAr (I39, h.2) b46 N47 ∧ 0 ≤ (x3 + 1).toInt ∧ (x3 + 1).toInt < ((N47 : Nat) : Int) ∧ (∃ b53 N54, r0 = some b53 ∧ zAr (I39, h.2) b53 N54 ∧ 0 ≤ (x3 + 2).toInt ∧ (x3 + 2).toInt < ((N54 : Nat) : Int) ∧ (∃ b60 N61, r0 = some b60 ∧ zAr (I39, h.2) b60 N61 ∧ 0 ≤ (x3 + 3).toInt ∧ (x3 + 3).toInt < ((N61 : Nat) : Int) ∧ (∃ b67 N68, r0 = some b67 ∧ zAr (I39, h.2) b67 N68 ∧ 0 ≤ (x3 + 4).toInt ∧ (x3 + 4).toInt < ((N68 : Nat) : Int) ∧ (∃ b74 N75, r0 = some b74 ∧ zAr (I39, h.2) b74 N75 ∧ 0 ≤ (x3 + 5).toInt ∧ (x3 + 5).toInt < ((N75 : Nat) : Int) ∧ (∃ P80, CTi l G YX11_feed 1 [va_rf (some a2), .int (zI (I39, h.2) b46 (zix (x3 + 1))), .int (zI (I39, h.2) b53 (zix (x3 + 2))), .int (zI (I39, h.2) b60 (zix (x3 + 3))), .int (zI (I39, h.2) b67 (zix (x3 + 4))), .int (zI (I39, h.2) b74 (zix (x3 + 5)))] (I39, h.2) P80 ∧ ∀ (y85 : Int32) (I83 : Nat → Nat → Int32), P80 y85 I83 → ((y41 = y85 → Z l G mL_law d Q k n 1494 [va_rf r0, va_rf (some a1), va_rf (some a2), .int x3] [] (I83, h.2)) ∧ (¬ y41 = y85 → Q (some (.int 0)) (I83, h.2)))))))))))))))) :
    Z l G mL_law d Q k n 172 [va_rf r0, va_rf (some a1), va_rf (some a2), .int x3] [] h := by
  refine z_aloadn dL_law_172 rfl rfl ?_
  refine z_aloadn dL_law_173 rfl rfl ?_
  refine z_iloadn dL_law_174 rfl rfl ?_
  refine z_iconst (v := 1) dL_law_175 (by decide) ?_
  refine z_iadd dL_law_176 ?_
  obtain ⟨b2, N3, q4, qa5, qz6, qy7, hw1⟩ := hw
  refine z_soP [.int ((x3 + 1))] q4 ?_
  refine z_iald (N := N3) dL_law_177 qa5 qz6 qy7 ?_
  refine z_aloadn dL_law_178 rfl rfl ?_
  refine z_iloadn dL_law_179 rfl rfl ?_
  refine z_iconst (v := 2) dL_law_180 (by decide) ?_
  refine z_iadd dL_law_181 ?_
  obtain ⟨b9, N10, q11, qa12, qz13, qy14, hw8⟩ := hw1
  refine z_soP [.int ((x3 + 2))] q11 ?_
  refine z_iald (N := N10) dL_law_182 qa12 qz13 qy14 ?_
  refine z_aloadn dL_law_183 rfl rfl ?_
  refine z_iloadn dL_law_184 rfl rfl ?_
  refine z_iconst (v := 3) dL_law_185 (by decide) ?_
  refine z_iadd dL_law_186 ?_
  obtain ⟨b16, N17, q18, qa19, qz20, qy21, hw15⟩ := hw8
  refine z_soP [.int ((x3 + 3))] q18 ?_
  refine z_iald (N := N17) dL_law_187 qa19 qz20 qy21 ?_
  refine z_aloadn dL_law_188 rfl rfl ?_
  refine z_iloadn dL_law_189 rfl rfl ?_
  refine z_iconst (v := 4) dL_law_190 (by decide) ?_
  refine z_iadd dL_law_191 ?_
  obtain ⟨b23, N24, q25, qa26, qz27, qy28, hw22⟩ := hw15
  refine z_soP [.int ((x3 + 4))] q25 ?_
  refine z_iald (N := N24) dL_law_192 qa26 qz27 qy28 ?_
  refine z_aloadn dL_law_193 rfl rfl ?_
  refine z_iloadn dL_law_194 rfl rfl ?_
  refine z_iconst (v := 5) dL_law_195 (by decide) ?_
  refine z_iadd dL_law_196 ?_
  obtain ⟨b30, N31, q32, qa33, qz34, qy35, hw29⟩ := hw22
  refine z_soP [.int ((x3 + 5))] q32 ?_
  refine z_iald (N := N31) dL_law_197 qa33 qz34 qy35 ?_
  obtain ⟨P36, ct37, hw38⟩ := hw29
  refine z_callV (h := h) (S := []) (a := a1) (M := mL_law) (As := [.int (zI h b2 (zix (x3 + 1))), .int (zI h b9 (zix (x3 + 2))), .int (zI h b16 (zix (x3 + 3))), .int (zI h b23 (zix (x3 + 4))), .int (zI h b30 (zix (x3 + 5)))]) zc10 rfl eX10_feed w746 w747 (Or.inl w745) dL_law_198 (ha1.k 0 rfl) (ha1.lt 0 rfl) rfl (by omega) (Nat.le_of_ble_eq_true rfl) ct37 (fun v43 g44 q40 => ?_)
  obtain ⟨y41, I39, rfl, rfl, q40⟩ := q40
  have hw42 := hw38 y41 I39 q40
  show Z l G _ d Q k n 201 _ (.int y41 :: []) _
  refine z_aloadn dL_law_201 rfl rfl ?_
  refine z_aloadn dL_law_202 rfl rfl ?_
  refine z_iloadn dL_law_203 rfl rfl ?_
  refine z_iconst (v := 1) dL_law_204 (by decide) ?_
  refine z_iadd dL_law_205 ?_
  obtain ⟨b46, N47, q48, qa49, qz50, qy51, hw45⟩ := hw42
  refine z_soP [.int ((x3 + 1))] q48 ?_
  refine z_iald (N := N47) dL_law_206 qa49 qz50 qy51 ?_
  refine z_aloadn dL_law_207 rfl rfl ?_
  refine z_iloadn dL_law_208 rfl rfl ?_
  refine z_iconst (v := 2) dL_law_209 (by decide) ?_
  refine z_iadd dL_law_210 ?_
  obtain ⟨b53, N54, q55, qa56, qz57, qy58, hw52⟩ := hw45
  refine z_soP [.int ((x3 + 2))] q55 ?_
  refine z_iald (N := N54) dL_law_211 qa56 qz57 qy58 ?_
  refine z_aloadn dL_law_212 rfl rfl ?_
  refine z_iloadn dL_law_213 rfl rfl ?_
  refine z_iconst (v := 3) dL_law_214 (by decide) ?_
  refine z_iadd dL_law_215 ?_
  obtain ⟨b60, N61, q62, qa63, qz64, qy65, hw59⟩ := hw52
  refine z_soP [.int ((x3 + 3))] q62 ?_
  refine z_iald (N := N61) dL_law_216 qa63 qz64 qy65 ?_
  refine z_aloadn dL_law_217 rfl rfl ?_
  refine z_iloadn dL_law_218 rfl rfl ?_
  refine z_iconst (v := 4) dL_law_219 (by decide) ?_
  refine z_iadd dL_law_220 ?_
  obtain ⟨b67, N68, q69, qa70, qz71, qy72, hw66⟩ := hw59
  refine z_soP [.int ((x3 + 4))] q69 ?_
  refine z_iald (N := N68) dL_law_221 qa70 qz71 qy72 ?_
  refine z_aloadn dL_law_222 rfl rfl ?_
  refine z_iloadn dL_law_223 rfl rfl ?_
  refine z_iconst (v := 5) dL_law_224 (by decide) ?_
  refine z_iadd dL_law_225 ?_
  obtain ⟨b74, N75, q76, qa77, qz78, qy79, hw73⟩ := hw66
  refine z_soP [.int ((x3 + 5))] q76 ?_
  refine z_iald (N := N75) dL_law_226 qa77 qz78 qy79 ?_
  obtain ⟨P80, ct81, hw82⟩ := hw73
  refine z_callV (h := (I39, h.2)) (S := [.int y41]) (a := a2) (M := mL_law) (As := [.int (zI (I39, h.2) b46 (zix (x3 + 1))), .int (zI (I39, h.2) b53 (zix (x3 + 2))), .int (zI (I39, h.2) b60 (zix (x3 + 3))), .int (zI (I39, h.2) b67 (zix (x3 + 4))), .int (zI (I39, h.2) b74 (zix (x3 + 5)))]) zc11 rfl eX11_feed w1611 w1612 (Or.inl w1610) dL_law_227 (ha2.k 0 rfl) (ha2.lt 0 rfl) rfl (by omega) (Nat.le_of_ble_eq_true rfl) ct81 (fun v87 g88 q84 => ?_)
  obtain ⟨y85, I83, rfl, rfl, q84⟩ := q84
  have hw86 := hw82 y85 I83 q84
  show Z l G _ d Q k n 230 _ (.int y85 :: .int y41 :: []) _
  refine z_icmp_eq (t := 1494) dL_law_230 (by decide) (fun c89 => ?_) (fun c90 => ?_)
  · have hw91 := hw86.1 c89
    exact hw91
  · have hw92 := hw86.2 c90
    refine z_iconst (v := 0) dL_law_233 (by decide) ?_
    exact z_ret (v := some (.int 0)) dL_law_234 ⟨_, rfl, by decide⟩ rfl hw92

theorem sL_law_235 {l : Launch} {G : zG} {d : Nat} {Q : Option Value → zH → Prop} {k n : Nat} {h : zH} (r0 : Option Nat) (a1 : Nat) (a2 : Nat) (x3 : Int32) (ha1 : lo10 h a1) (ha2 : lo11 h a2) (hd9 : 17 ≤ d)
    (hw : (∃ b2 N3, r0 = some b2 ∧ zAr h b2 N3 ∧ 0 ≤ (x3 + 1).toInt ∧ (x3 + 1).toInt < ((N3 : Nat) : Int) ∧ (∃ P8, CTi l G YX10_end 1 [va_rf (some a1), .int (zI h b2 (zix (x3 + 1)))] h P8 ∧ ∀ (y13 : Int32) (I11 : Nat → Nat → Int32), P8 y13 I11 → (∃ b18 N19, r0 = some b18 ∧ zAr (I11, h.2) b18 N19 ∧ 0 ≤ (x3 + 1).toInt ∧ (x3 + 1).toInt < ((N19 : Nat) : Int) ∧ (∃ P24, CTi l G YX11_end 1 [va_rf (some a2), .int (zI (I11, h.2) b18 (zix (x3 + 1)))] (I11, h.2) P24 ∧ ∀ (y29 : Int32) (I27 : Nat → Nat → Int32), P24 y29 I27 → ((y13 = y29 → Z l G mL_law d Q k n 1494 [va_rf r0, va_rf (some a1), va_rf (some a2), .int x3] [] (I27, h.2)) ∧ (¬ y13 = y29 → Q (some (.int 0)) (I27, h.2)))))))) :
    Z l G mL_law d Q k n 235 [va_rf r0, va_rf (some a1), va_rf (some a2), .int x3] [] h := by
  refine z_aloadn dL_law_235 rfl rfl ?_
  refine z_aloadn dL_law_236 rfl rfl ?_
  refine z_iloadn dL_law_237 rfl rfl ?_
  refine z_iconst (v := 1) dL_law_238 (by decide) ?_
  refine z_iadd dL_law_239 ?_
  obtain ⟨b2, N3, q4, qa5, qz6, qy7, hw1⟩ := hw
  refine z_soP [.int ((x3 + 1))] q4 ?_
  refine z_iald (N := N3) dL_law_240 qa5 qz6 qy7 ?_
  obtain ⟨P8, ct9, hw10⟩ := hw1
  refine z_callV (h := h) (S := []) (a := a1) (M := mL_law) (As := [.int (zI h b2 (zix (x3 + 1)))]) zc10 rfl eX10_end w757 w758 (Or.inl w756) dL_law_241 (ha1.k 0 rfl) (ha1.lt 0 rfl) rfl (by omega) (Nat.le_of_ble_eq_true rfl) ct9 (fun v15 g16 q12 => ?_)
  obtain ⟨y13, I11, rfl, rfl, q12⟩ := q12
  have hw14 := hw10 y13 I11 q12
  show Z l G _ d Q k n 244 _ (.int y13 :: []) _
  refine z_aloadn dL_law_244 rfl rfl ?_
  refine z_aloadn dL_law_245 rfl rfl ?_
  refine z_iloadn dL_law_246 rfl rfl ?_
  refine z_iconst (v := 1) dL_law_247 (by decide) ?_
  refine z_iadd dL_law_248 ?_
  obtain ⟨b18, N19, q20, qa21, qz22, qy23, hw17⟩ := hw14
  refine z_soP [.int ((x3 + 1))] q20 ?_
  refine z_iald (N := N19) dL_law_249 qa21 qz22 qy23 ?_
  obtain ⟨P24, ct25, hw26⟩ := hw17
  refine z_callV (h := (I11, h.2)) (S := [.int y13]) (a := a2) (M := mL_law) (As := [.int (zI (I11, h.2) b18 (zix (x3 + 1)))]) zc11 rfl eX11_end w1615 w1616 (Or.inl w1614) dL_law_250 (ha2.k 0 rfl) (ha2.lt 0 rfl) rfl (by omega) (Nat.le_of_ble_eq_true rfl) ct25 (fun v31 g32 q28 => ?_)
  obtain ⟨y29, I27, rfl, rfl, q28⟩ := q28
  have hw30 := hw26 y29 I27 q28
  show Z l G _ d Q k n 253 _ (.int y29 :: .int y13 :: []) _
  refine z_icmp_eq (t := 1494) dL_law_253 (by decide) (fun c33 => ?_) (fun c34 => ?_)
  · have hw35 := hw30.1 c33
    exact hw35
  · have hw36 := hw30.2 c34
    refine z_iconst (v := 0) dL_law_256 (by decide) ?_
    exact z_ret (v := some (.int 0)) dL_law_257 ⟨_, rfl, by decide⟩ rfl hw36

theorem sL_law_258 {l : Launch} {G : zG} {d : Nat} {Q : Option Value → zH → Prop} {k n : Nat} {h : zH} (r0 : Option Nat) (a1 : Nat) (a2 : Nat) (x3 : Int32) (ha1 : lo10 h a1) (ha2 : lo11 h a2) (hd9 : 17 ≤ d)
    (hw : (∃ b2 N3, r0 = some b2 ∧ zAr h b2 N3 ∧ 0 ≤ (x3 + 1).toInt ∧ (x3 + 1).toInt < ((N3 : Nat) : Int) ∧ (∃ b9 N10, r0 = some b9 ∧ zAr h b9 N10 ∧ 0 ≤ (x3 + 2).toInt ∧ (x3 + 2).toInt < ((N10 : Nat) : Int) ∧ (∃ P15, CTiG l G YX10_text 9 [va_rf (some a1), .int (zI h b2 (zix (x3 + 1))), .int (zI h b9 (zix (x3 + 2)))] h P15 ∧ ∀ (y20 : Int32) (g23 : zH), P15 y20 g23 → lo10 g23 a1 ∧ lo11 g23 a2 ∧ (∃ b29 N30, r0 = some b29 ∧ zAr g23 b29 N30 ∧ 0 ≤ (x3 + 1).toInt ∧ (x3 + 1).toInt < ((N30 : Nat) : Int) ∧ (∃ b36 N37, r0 = some b36 ∧ zAr g23 b36 N37 ∧ 0 ≤ (x3 + 2).toInt ∧ (x3 + 2).toInt < ((N37 : Nat) : Int) ∧ (∃ P42, CTi l G YX11_text 9 [va_rf (some a2), .int (zI g23 b29 (zix (x3 + 1))), .int (zI g23 b36 (zix (x3 + 2)))] g23 P42 ∧ ∀ (y47 : Int32) (I45 : Nat → Nat → Int32), P42 y47 I45 → ((y20 = y47 → Z l G mL_law d Q k n 1494 [va_rf r0, va_rf (some a1), va_rf (some a2), .int x3] [] (I45, g23.2)) ∧ (¬ y20 = y47 → Q (some (.int 0)) (I45, g23.2)))))))))) :
    Z l G mL_law d Q k n 258 [va_rf r0, va_rf (some a1), va_rf (some a2), .int x3] [] h := by
  refine z_aloadn dL_law_258 rfl rfl ?_
  refine z_aloadn dL_law_259 rfl rfl ?_
  refine z_iloadn dL_law_260 rfl rfl ?_
  refine z_iconst (v := 1) dL_law_261 (by decide) ?_
  refine z_iadd dL_law_262 ?_
  obtain ⟨b2, N3, q4, qa5, qz6, qy7, hw1⟩ := hw
  refine z_soP [.int ((x3 + 1))] q4 ?_
  refine z_iald (N := N3) dL_law_263 qa5 qz6 qy7 ?_
  refine z_aloadn dL_law_264 rfl rfl ?_
  refine z_iloadn dL_law_265 rfl rfl ?_
  refine z_iconst (v := 2) dL_law_266 (by decide) ?_
  refine z_iadd dL_law_267 ?_
  obtain ⟨b9, N10, q11, qa12, qz13, qy14, hw8⟩ := hw1
  refine z_soP [.int ((x3 + 2))] q11 ?_
  refine z_iald (N := N10) dL_law_268 qa12 qz13 qy14 ?_
  obtain ⟨P15, ct16, hw17⟩ := hw8
  refine z_callV (h := h) (S := []) (a := a1) (M := mL_law) (As := [.int (zI h b2 (zix (x3 + 1))), .int (zI h b9 (zix (x3 + 2)))]) zc10 rfl eX10_text w761 w762 (Or.inl w760) dL_law_269 (ha1.k 0 rfl) (ha1.lt 0 rfl) rfl (by omega) (Nat.le_of_ble_eq_true rfl) ct16 (fun v22 g23 q19 => ?_)
  obtain ⟨y20, rfl, q19⟩ := q19
  have hw21 := hw17 y20 g23 q19
  obtain ⟨ho24, hw26⟩ := hw21
  obtain ⟨ho25, hw27⟩ := hw26
  show Z l G _ d Q k n 272 _ (.int y20 :: []) _
  refine z_aloadn dL_law_272 rfl rfl ?_
  refine z_aloadn dL_law_273 rfl rfl ?_
  refine z_iloadn dL_law_274 rfl rfl ?_
  refine z_iconst (v := 1) dL_law_275 (by decide) ?_
  refine z_iadd dL_law_276 ?_
  obtain ⟨b29, N30, q31, qa32, qz33, qy34, hw28⟩ := hw27
  refine z_soP [.int ((x3 + 1))] q31 ?_
  refine z_iald (N := N30) dL_law_277 qa32 qz33 qy34 ?_
  refine z_aloadn dL_law_278 rfl rfl ?_
  refine z_iloadn dL_law_279 rfl rfl ?_
  refine z_iconst (v := 2) dL_law_280 (by decide) ?_
  refine z_iadd dL_law_281 ?_
  obtain ⟨b36, N37, q38, qa39, qz40, qy41, hw35⟩ := hw28
  refine z_soP [.int ((x3 + 2))] q38 ?_
  refine z_iald (N := N37) dL_law_282 qa39 qz40 qy41 ?_
  obtain ⟨P42, ct43, hw44⟩ := hw35
  refine z_callV (h := g23) (S := [.int y20]) (a := a2) (M := mL_law) (As := [.int (zI g23 b29 (zix (x3 + 1))), .int (zI g23 b36 (zix (x3 + 2)))]) zc11 rfl eX11_text w1619 w1620 (Or.inl w1618) dL_law_283 (ho25.k 0 rfl) (ho25.lt 0 rfl) rfl (by omega) (Nat.le_of_ble_eq_true rfl) ct43 (fun v49 g50 q46 => ?_)
  obtain ⟨y47, I45, rfl, rfl, q46⟩ := q46
  have hw48 := hw44 y47 I45 q46
  show Z l G _ d Q k n 286 _ (.int y47 :: .int y20 :: []) _
  refine z_icmp_eq (t := 1494) dL_law_286 (by decide) (fun c51 => ?_) (fun c52 => ?_)
  · have hw53 := hw48.1 c51
    exact hw53
  · have hw54 := hw48.2 c52
    refine z_iconst (v := 0) dL_law_289 (by decide) ?_
    exact z_ret (v := some (.int 0)) dL_law_290 ⟨_, rfl, by decide⟩ rfl hw54

theorem sL_law_291 {l : Launch} {G : zG} {d : Nat} {Q : Option Value → zH → Prop} {k n : Nat} {h : zH} (r0 : Option Nat) (a1 : Nat) (a2 : Nat) (x3 : Int32) (ha1 : lo10 h a1) (ha2 : lo11 h a2) (hd9 : 17 ≤ d)
    (hw : (∃ b2 N3, r0 = some b2 ∧ zAr h b2 N3 ∧ 0 ≤ (x3 + 1).toInt ∧ (x3 + 1).toInt < ((N3 : Nat) : Int) ∧ (∃ P8, CTi l G YX10_fault 1 [va_rf (some a1), .int (zI h b2 (zix (x3 + 1)))] h P8 ∧ ∀ (y13 : Int32) (I11 : Nat → Nat → Int32), P8 y13 I11 → (∃ b18 N19, r0 = some b18 ∧ zAr (I11, h.2) b18 N19 ∧ 0 ≤ (x3 + 1).toInt ∧ (x3 + 1).toInt < ((N19 : Nat) : Int) ∧ (∃ P24, CTi l G YX11_fault 1 [va_rf (some a2), .int (zI (I11, h.2) b18 (zix (x3 + 1)))] (I11, h.2) P24 ∧ ∀ (y29 : Int32) (I27 : Nat → Nat → Int32), P24 y29 I27 → ((y13 = y29 → Z l G mL_law d Q k n 1494 [va_rf r0, va_rf (some a1), va_rf (some a2), .int x3] [] (I27, h.2)) ∧ (¬ y13 = y29 → Q (some (.int 0)) (I27, h.2)))))))) :
    Z l G mL_law d Q k n 291 [va_rf r0, va_rf (some a1), va_rf (some a2), .int x3] [] h := by
  refine z_aloadn dL_law_291 rfl rfl ?_
  refine z_aloadn dL_law_292 rfl rfl ?_
  refine z_iloadn dL_law_293 rfl rfl ?_
  refine z_iconst (v := 1) dL_law_294 (by decide) ?_
  refine z_iadd dL_law_295 ?_
  obtain ⟨b2, N3, q4, qa5, qz6, qy7, hw1⟩ := hw
  refine z_soP [.int ((x3 + 1))] q4 ?_
  refine z_iald (N := N3) dL_law_296 qa5 qz6 qy7 ?_
  obtain ⟨P8, ct9, hw10⟩ := hw1
  refine z_callV (h := h) (S := []) (a := a1) (M := mL_law) (As := [.int (zI h b2 (zix (x3 + 1)))]) zc10 rfl eX10_fault w968 w969 (Or.inl w967) dL_law_297 (ha1.k 0 rfl) (ha1.lt 0 rfl) rfl (by omega) (Nat.le_of_ble_eq_true rfl) ct9 (fun v15 g16 q12 => ?_)
  obtain ⟨y13, I11, rfl, rfl, q12⟩ := q12
  have hw14 := hw10 y13 I11 q12
  show Z l G _ d Q k n 300 _ (.int y13 :: []) _
  refine z_aloadn dL_law_300 rfl rfl ?_
  refine z_aloadn dL_law_301 rfl rfl ?_
  refine z_iloadn dL_law_302 rfl rfl ?_
  refine z_iconst (v := 1) dL_law_303 (by decide) ?_
  refine z_iadd dL_law_304 ?_
  obtain ⟨b18, N19, q20, qa21, qz22, qy23, hw17⟩ := hw14
  refine z_soP [.int ((x3 + 1))] q20 ?_
  refine z_iald (N := N19) dL_law_305 qa21 qz22 qy23 ?_
  obtain ⟨P24, ct25, hw26⟩ := hw17
  refine z_callV (h := (I11, h.2)) (S := [.int y13]) (a := a2) (M := mL_law) (As := [.int (zI (I11, h.2) b18 (zix (x3 + 1)))]) zc11 rfl eX11_fault w1715 w1716 (Or.inl w1714) dL_law_306 (ha2.k 0 rfl) (ha2.lt 0 rfl) rfl (by omega) (Nat.le_of_ble_eq_true rfl) ct25 (fun v31 g32 q28 => ?_)
  obtain ⟨y29, I27, rfl, rfl, q28⟩ := q28
  have hw30 := hw26 y29 I27 q28
  show Z l G _ d Q k n 309 _ (.int y29 :: .int y13 :: []) _
  refine z_icmp_eq (t := 1494) dL_law_309 (by decide) (fun c33 => ?_) (fun c34 => ?_)
  · have hw35 := hw30.1 c33
    exact hw35
  · have hw36 := hw30.2 c34
    refine z_iconst (v := 0) dL_law_312 (by decide) ?_
    exact z_ret (v := some (.int 0)) dL_law_313 ⟨_, rfl, by decide⟩ rfl hw36

theorem sL_law_314 {l : Launch} {G : zG} {d : Nat} {Q : Option Value → zH → Prop} {k n : Nat} {h : zH} (r0 : Option Nat) (a1 : Nat) (a2 : Nat) (x3 : Int32) (ha1 : lo10 h a1) (ha2 : lo11 h a2) (hd9 : 17 ≤ d)
    (hw : (∃ b2 N3, r0 = some b2 ∧ zAr h b2 N3 ∧ 0 ≤ (x3 + 1).toInt ∧ (x3 + 1).toInt < ((N3 : Nat) : Int) ∧ (∃ b9 N10, r0 = some b9 ∧ zAr h b9 N10 ∧ 0 ≤ (x3 + 2).toInt ∧ (x3 + 2).toInt < ((N10 : Nat) : Int) ∧ (∃ P15, CTi l G YX10_night 3 [va_rf (some a1), .int (zI h b2 (zix (x3 + 1))), .int (zI h b9 (zix (x3 + 2)))] h P15 ∧ ∀ (y20 : Int32) (I18 : Nat → Nat → Int32), P15 y20 I18 → (∃ b25 N26, r0 = some b25 ∧ zAr (I18, h.2) b25 N26 ∧ 0 ≤ (x3 + 1).toInt ∧ (x3 + 1).toInt < ((N26 : Nat) : Int) ∧ (∃ b32 N33, r0 = some b32 ∧ zAr (I18, h.2) b32 N33 ∧ 0 ≤ (x3 + 2).toInt ∧ (x3 + 2).toInt < ((N33 : Nat) : Int) ∧ (∃ P38, CTi l G YX11_night 4 [va_rf (some a2), .int (zI (I18, h.2) b25 (zix (x3 + 1))), .int (zI (I18, h.2) b32 (zix (x3 + 2)))] (I18, h.2) P38 ∧ ∀ (y43 : Int32) (I41 : Nat → Nat → Int32), P38 y43 I41 → ((y20 = y43 → Z l G mL_law d Q k n 1494 [va_rf r0, va_rf (some a1), va_rf (some a2), .int x3] [] (I41, h.2)) ∧ (¬ y20 = y43 → Q (some (.int 0)) (I41, h.2)))))))))) :
    Z l G mL_law d Q k n 314 [va_rf r0, va_rf (some a1), va_rf (some a2), .int x3] [] h := by
  refine z_aloadn dL_law_314 rfl rfl ?_
  refine z_aloadn dL_law_315 rfl rfl ?_
  refine z_iloadn dL_law_316 rfl rfl ?_
  refine z_iconst (v := 1) dL_law_317 (by decide) ?_
  refine z_iadd dL_law_318 ?_
  obtain ⟨b2, N3, q4, qa5, qz6, qy7, hw1⟩ := hw
  refine z_soP [.int ((x3 + 1))] q4 ?_
  refine z_iald (N := N3) dL_law_319 qa5 qz6 qy7 ?_
  refine z_aloadn dL_law_320 rfl rfl ?_
  refine z_iloadn dL_law_321 rfl rfl ?_
  refine z_iconst (v := 2) dL_law_322 (by decide) ?_
  refine z_iadd dL_law_323 ?_
  obtain ⟨b9, N10, q11, qa12, qz13, qy14, hw8⟩ := hw1
  refine z_soP [.int ((x3 + 2))] q11 ?_
  refine z_iald (N := N10) dL_law_324 qa12 qz13 qy14 ?_
  obtain ⟨P15, ct16, hw17⟩ := hw8
  refine z_callV (h := h) (S := []) (a := a1) (M := mL_law) (As := [.int (zI h b2 (zix (x3 + 1))), .int (zI h b9 (zix (x3 + 2)))]) zc10 rfl eX10_night w989 w990 (Or.inl w988) dL_law_325 (ha1.k 0 rfl) (ha1.lt 0 rfl) rfl (by omega) (Nat.le_of_ble_eq_true rfl) ct16 (fun v22 g23 q19 => ?_)
  obtain ⟨y20, I18, rfl, rfl, q19⟩ := q19
  have hw21 := hw17 y20 I18 q19
  show Z l G _ d Q k n 328 _ (.int y20 :: []) _
  refine z_aloadn dL_law_328 rfl rfl ?_
  refine z_aloadn dL_law_329 rfl rfl ?_
  refine z_iloadn dL_law_330 rfl rfl ?_
  refine z_iconst (v := 1) dL_law_331 (by decide) ?_
  refine z_iadd dL_law_332 ?_
  obtain ⟨b25, N26, q27, qa28, qz29, qy30, hw24⟩ := hw21
  refine z_soP [.int ((x3 + 1))] q27 ?_
  refine z_iald (N := N26) dL_law_333 qa28 qz29 qy30 ?_
  refine z_aloadn dL_law_334 rfl rfl ?_
  refine z_iloadn dL_law_335 rfl rfl ?_
  refine z_iconst (v := 2) dL_law_336 (by decide) ?_
  refine z_iadd dL_law_337 ?_
  obtain ⟨b32, N33, q34, qa35, qz36, qy37, hw31⟩ := hw24
  refine z_soP [.int ((x3 + 2))] q34 ?_
  refine z_iald (N := N33) dL_law_338 qa35 qz36 qy37 ?_
  obtain ⟨P38, ct39, hw40⟩ := hw31
  refine z_callV (h := (I18, h.2)) (S := [.int y20]) (a := a2) (M := mL_law) (As := [.int (zI (I18, h.2) b25 (zix (x3 + 1))), .int (zI (I18, h.2) b32 (zix (x3 + 2)))]) zc11 rfl eX11_night w1719 w1720 (Or.inl w1718) dL_law_339 (ha2.k 0 rfl) (ha2.lt 0 rfl) rfl (by omega) (Nat.le_of_ble_eq_true rfl) ct39 (fun v45 g46 q42 => ?_)
  obtain ⟨y43, I41, rfl, rfl, q42⟩ := q42
  have hw44 := hw40 y43 I41 q42
  show Z l G _ d Q k n 342 _ (.int y43 :: .int y20 :: []) _
  refine z_icmp_eq (t := 1494) dL_law_342 (by decide) (fun c47 => ?_) (fun c48 => ?_)
  · have hw49 := hw44.1 c47
    exact hw49
  · have hw50 := hw44.2 c48
    refine z_iconst (v := 0) dL_law_345 (by decide) ?_
    exact z_ret (v := some (.int 0)) dL_law_346 ⟨_, rfl, by decide⟩ rfl hw50

theorem sL_law_347 {l : Launch} {G : zG} {d : Nat} {Q : Option Value → zH → Prop} {k n : Nat} {h : zH} (r0 : Option Nat) (a1 : Nat) (a2 : Nat) (x3 : Int32) (ha1 : lo10 h a1) (ha2 : lo11 h a2) (hd9 : 17 ≤ d)
    (hw : (∃ b2 N3, r0 = some b2 ∧ zAr h b2 N3 ∧ 0 ≤ (x3 + 1).toInt ∧ (x3 + 1).toInt < ((N3 : Nat) : Int) ∧ (∃ b9 N10, r0 = some b9 ∧ zAr h b9 N10 ∧ 0 ≤ (x3 + 2).toInt ∧ (x3 + 2).toInt < ((N10 : Nat) : Int) ∧ (∃ b16 N17, r0 = some b16 ∧ zAr h b16 N17 ∧ 0 ≤ (x3 + 3).toInt ∧ (x3 + 3).toInt < ((N17 : Nat) : Int) ∧ (∃ P22, CTi l G YX10_person 4 [va_rf (some a1), .int (zI h b2 (zix (x3 + 1))), .int (zI h b9 (zix (x3 + 2))), .int (zI h b16 (zix (x3 + 3)))] h P22 ∧ ∀ (y27 : Int32) (I25 : Nat → Nat → Int32), P22 y27 I25 → (∃ b32 N33, r0 = some b32 ∧ zAr (I25, h.2) b32 N33 ∧ 0 ≤ (x3 + 1).toInt ∧ (x3 + 1).toInt < ((N33 : Nat) : Int) ∧ (∃ b39 N40, r0 = some b39 ∧ zAr (I25, h.2) b39 N40 ∧ 0 ≤ (x3 + 2).toInt ∧ (x3 + 2).toInt < ((N40 : Nat) : Int) ∧ (∃ b46 N47, r0 = some b46 ∧ zAr (I25, h.2) b46 N47 ∧ 0 ≤ (x3 + 3).toInt ∧ (x3 + 3).toInt < ((N47 : Nat) : Int) ∧ (∃ P52, CTi l G YX11_person 5 [va_rf (some a2), .int (zI (I25, h.2) b32 (zix (x3 + 1))), .int (zI (I25, h.2) b39 (zix (x3 + 2))), .int (zI (I25, h.2) b46 (zix (x3 + 3)))] (I25, h.2) P52 ∧ ∀ (y57 : Int32) (I55 : Nat → Nat → Int32), P52 y57 I55 → ((y27 = y57 → Z l G mL_law d Q k n 1494 [va_rf r0, va_rf (some a1), va_rf (some a2), .int x3] [] (I55, h.2)) ∧ (¬ y27 = y57 → Q (some (.int 0)) (I55, h.2)))))))))))) :
    Z l G mL_law d Q k n 347 [va_rf r0, va_rf (some a1), va_rf (some a2), .int x3] [] h := by
  refine z_aloadn dL_law_347 rfl rfl ?_
  refine z_aloadn dL_law_348 rfl rfl ?_
  refine z_iloadn dL_law_349 rfl rfl ?_
  refine z_iconst (v := 1) dL_law_350 (by decide) ?_
  refine z_iadd dL_law_351 ?_
  obtain ⟨b2, N3, q4, qa5, qz6, qy7, hw1⟩ := hw
  refine z_soP [.int ((x3 + 1))] q4 ?_
  refine z_iald (N := N3) dL_law_352 qa5 qz6 qy7 ?_
  refine z_aloadn dL_law_353 rfl rfl ?_
  refine z_iloadn dL_law_354 rfl rfl ?_
  refine z_iconst (v := 2) dL_law_355 (by decide) ?_
  refine z_iadd dL_law_356 ?_
  obtain ⟨b9, N10, q11, qa12, qz13, qy14, hw8⟩ := hw1
  refine z_soP [.int ((x3 + 2))] q11 ?_
  refine z_iald (N := N10) dL_law_357 qa12 qz13 qy14 ?_
  refine z_aloadn dL_law_358 rfl rfl ?_
  refine z_iloadn dL_law_359 rfl rfl ?_
  refine z_iconst (v := 3) dL_law_360 (by decide) ?_
  refine z_iadd dL_law_361 ?_
  obtain ⟨b16, N17, q18, qa19, qz20, qy21, hw15⟩ := hw8
  refine z_soP [.int ((x3 + 3))] q18 ?_
  refine z_iald (N := N17) dL_law_362 qa19 qz20 qy21 ?_
  obtain ⟨P22, ct23, hw24⟩ := hw15
  refine z_callV (h := h) (S := []) (a := a1) (M := mL_law) (As := [.int (zI h b2 (zix (x3 + 1))), .int (zI h b9 (zix (x3 + 2))), .int (zI h b16 (zix (x3 + 3)))]) zc10 rfl eX10_person w1006 w1007 (Or.inl w1005) dL_law_363 (ha1.k 0 rfl) (ha1.lt 0 rfl) rfl (by omega) (Nat.le_of_ble_eq_true rfl) ct23 (fun v29 g30 q26 => ?_)
  obtain ⟨y27, I25, rfl, rfl, q26⟩ := q26
  have hw28 := hw24 y27 I25 q26
  show Z l G _ d Q k n 366 _ (.int y27 :: []) _
  refine z_aloadn dL_law_366 rfl rfl ?_
  refine z_aloadn dL_law_367 rfl rfl ?_
  refine z_iloadn dL_law_368 rfl rfl ?_
  refine z_iconst (v := 1) dL_law_369 (by decide) ?_
  refine z_iadd dL_law_370 ?_
  obtain ⟨b32, N33, q34, qa35, qz36, qy37, hw31⟩ := hw28
  refine z_soP [.int ((x3 + 1))] q34 ?_
  refine z_iald (N := N33) dL_law_371 qa35 qz36 qy37 ?_
  refine z_aloadn dL_law_372 rfl rfl ?_
  refine z_iloadn dL_law_373 rfl rfl ?_
  refine z_iconst (v := 2) dL_law_374 (by decide) ?_
  refine z_iadd dL_law_375 ?_
  obtain ⟨b39, N40, q41, qa42, qz43, qy44, hw38⟩ := hw31
  refine z_soP [.int ((x3 + 2))] q41 ?_
  refine z_iald (N := N40) dL_law_376 qa42 qz43 qy44 ?_
  refine z_aloadn dL_law_377 rfl rfl ?_
  refine z_iloadn dL_law_378 rfl rfl ?_
  refine z_iconst (v := 3) dL_law_379 (by decide) ?_
  refine z_iadd dL_law_380 ?_
  obtain ⟨b46, N47, q48, qa49, qz50, qy51, hw45⟩ := hw38
  refine z_soP [.int ((x3 + 3))] q48 ?_
  refine z_iald (N := N47) dL_law_381 qa49 qz50 qy51 ?_
  obtain ⟨P52, ct53, hw54⟩ := hw45
  refine z_callV (h := (I25, h.2)) (S := [.int y27]) (a := a2) (M := mL_law) (As := [.int (zI (I25, h.2) b32 (zix (x3 + 1))), .int (zI (I25, h.2) b39 (zix (x3 + 2))), .int (zI (I25, h.2) b46 (zix (x3 + 3)))]) zc11 rfl eX11_person w1739 w1740 (Or.inl w1738) dL_law_382 (ha2.k 0 rfl) (ha2.lt 0 rfl) rfl (by omega) (Nat.le_of_ble_eq_true rfl) ct53 (fun v59 g60 q56 => ?_)
  obtain ⟨y57, I55, rfl, rfl, q56⟩ := q56
  have hw58 := hw54 y57 I55 q56
  show Z l G _ d Q k n 385 _ (.int y57 :: .int y27 :: []) _
  refine z_icmp_eq (t := 1494) dL_law_385 (by decide) (fun c61 => ?_) (fun c62 => ?_)
  · have hw63 := hw58.1 c61
    exact hw63
  · have hw64 := hw58.2 c62
    refine z_iconst (v := 0) dL_law_388 (by decide) ?_
    exact z_ret (v := some (.int 0)) dL_law_389 ⟨_, rfl, by decide⟩ rfl hw64

theorem sL_law_390 {l : Launch} {G : zG} {d : Nat} {Q : Option Value → zH → Prop} {k n : Nat} {h : zH} (r0 : Option Nat) (a1 : Nat) (a2 : Nat) (x3 : Int32) (ha1 : lo10 h a1) (ha2 : lo11 h a2) (hd9 : 17 ≤ d)
    (hw : (∃ b2 N3, r0 = some b2 ∧ zAr h b2 N3 ∧ 0 ≤ (x3 + 1).toInt ∧ (x3 + 1).toInt < ((N3 : Nat) : Int) ∧ (∃ b9 N10, r0 = some b9 ∧ zAr h b9 N10 ∧ 0 ≤ (x3 + 2).toInt ∧ (x3 + 2).toInt < ((N10 : Nat) : Int) ∧ (∃ b16 N17, r0 = some b16 ∧ zAr h b16 N17 ∧ 0 ≤ (x3 + 3).toInt ∧ (x3 + 3).toInt < ((N17 : Nat) : Int) ∧ (∃ P22, CTi l G YX10_where 5 [va_rf (some a1), .int (zI h b2 (zix (x3 + 1))), .int (zI h b9 (zix (x3 + 2))), .int (zI h b16 (zix (x3 + 3)))] h P22 ∧ ∀ (y27 : Int32) (I25 : Nat → Nat → Int32), P22 y27 I25 → (∃ b32 N33, r0 = some b32 ∧ zAr (I25, h.2) b32 N33 ∧ 0 ≤ (x3 + 1).toInt ∧ (x3 + 1).toInt < ((N33 : Nat) : Int) ∧ (∃ b39 N40, r0 = some b39 ∧ zAr (I25, h.2) b39 N40 ∧ 0 ≤ (x3 + 2).toInt ∧ (x3 + 2).toInt < ((N40 : Nat) : Int) ∧ (∃ b46 N47, r0 = some b46 ∧ zAr (I25, h.2) b46 N47 ∧ 0 ≤ (x3 + 3).toInt ∧ (x3 + 3).toInt < ((N47 : Nat) : Int) ∧ (∃ P52, CTi l G YX11_where 5 [va_rf (some a2), .int (zI (I25, h.2) b32 (zix (x3 + 1))), .int (zI (I25, h.2) b39 (zix (x3 + 2))), .int (zI (I25, h.2) b46 (zix (x3 + 3)))] (I25, h.2) P52 ∧ ∀ (y57 : Int32) (I55 : Nat → Nat → Int32), P52 y57 I55 → ((y27 = y57 → Z l G mL_law d Q k n 1494 [va_rf r0, va_rf (some a1), va_rf (some a2), .int x3] [] (I55, h.2)) ∧ (¬ y27 = y57 → Q (some (.int 0)) (I55, h.2)))))))))))) :
    Z l G mL_law d Q k n 390 [va_rf r0, va_rf (some a1), va_rf (some a2), .int x3] [] h := by
  refine z_aloadn dL_law_390 rfl rfl ?_
  refine z_aloadn dL_law_391 rfl rfl ?_
  refine z_iloadn dL_law_392 rfl rfl ?_
  refine z_iconst (v := 1) dL_law_393 (by decide) ?_
  refine z_iadd dL_law_394 ?_
  obtain ⟨b2, N3, q4, qa5, qz6, qy7, hw1⟩ := hw
  refine z_soP [.int ((x3 + 1))] q4 ?_
  refine z_iald (N := N3) dL_law_395 qa5 qz6 qy7 ?_
  refine z_aloadn dL_law_396 rfl rfl ?_
  refine z_iloadn dL_law_397 rfl rfl ?_
  refine z_iconst (v := 2) dL_law_398 (by decide) ?_
  refine z_iadd dL_law_399 ?_
  obtain ⟨b9, N10, q11, qa12, qz13, qy14, hw8⟩ := hw1
  refine z_soP [.int ((x3 + 2))] q11 ?_
  refine z_iald (N := N10) dL_law_400 qa12 qz13 qy14 ?_
  refine z_aloadn dL_law_401 rfl rfl ?_
  refine z_iloadn dL_law_402 rfl rfl ?_
  refine z_iconst (v := 3) dL_law_403 (by decide) ?_
  refine z_iadd dL_law_404 ?_
  obtain ⟨b16, N17, q18, qa19, qz20, qy21, hw15⟩ := hw8
  refine z_soP [.int ((x3 + 3))] q18 ?_
  refine z_iald (N := N17) dL_law_405 qa19 qz20 qy21 ?_
  obtain ⟨P22, ct23, hw24⟩ := hw15
  refine z_callV (h := h) (S := []) (a := a1) (M := mL_law) (As := [.int (zI h b2 (zix (x3 + 1))), .int (zI h b9 (zix (x3 + 2))), .int (zI h b16 (zix (x3 + 3)))]) zc10 rfl eX10_where w1033 w1034 (Or.inl w1032) dL_law_406 (ha1.k 0 rfl) (ha1.lt 0 rfl) rfl (by omega) (Nat.le_of_ble_eq_true rfl) ct23 (fun v29 g30 q26 => ?_)
  obtain ⟨y27, I25, rfl, rfl, q26⟩ := q26
  have hw28 := hw24 y27 I25 q26
  show Z l G _ d Q k n 409 _ (.int y27 :: []) _
  refine z_aloadn dL_law_409 rfl rfl ?_
  refine z_aloadn dL_law_410 rfl rfl ?_
  refine z_iloadn dL_law_411 rfl rfl ?_
  refine z_iconst (v := 1) dL_law_412 (by decide) ?_
  refine z_iadd dL_law_413 ?_
  obtain ⟨b32, N33, q34, qa35, qz36, qy37, hw31⟩ := hw28
  refine z_soP [.int ((x3 + 1))] q34 ?_
  refine z_iald (N := N33) dL_law_414 qa35 qz36 qy37 ?_
  refine z_aloadn dL_law_415 rfl rfl ?_
  refine z_iloadn dL_law_416 rfl rfl ?_
  refine z_iconst (v := 2) dL_law_417 (by decide) ?_
  refine z_iadd dL_law_418 ?_
  obtain ⟨b39, N40, q41, qa42, qz43, qy44, hw38⟩ := hw31
  refine z_soP [.int ((x3 + 2))] q41 ?_
  refine z_iald (N := N40) dL_law_419 qa42 qz43 qy44 ?_
  refine z_aloadn dL_law_420 rfl rfl ?_
  refine z_iloadn dL_law_421 rfl rfl ?_
  refine z_iconst (v := 3) dL_law_422 (by decide) ?_
  refine z_iadd dL_law_423 ?_
  obtain ⟨b46, N47, q48, qa49, qz50, qy51, hw45⟩ := hw38
  refine z_soP [.int ((x3 + 3))] q48 ?_
  refine z_iald (N := N47) dL_law_424 qa49 qz50 qy51 ?_
  obtain ⟨P52, ct53, hw54⟩ := hw45
  refine z_callV (h := (I25, h.2)) (S := [.int y27]) (a := a2) (M := mL_law) (As := [.int (zI (I25, h.2) b32 (zix (x3 + 1))), .int (zI (I25, h.2) b39 (zix (x3 + 2))), .int (zI (I25, h.2) b46 (zix (x3 + 3)))]) zc11 rfl eX11_where w1779 w1780 (Or.inl w1778) dL_law_425 (ha2.k 0 rfl) (ha2.lt 0 rfl) rfl (by omega) (Nat.le_of_ble_eq_true rfl) ct53 (fun v59 g60 q56 => ?_)
  obtain ⟨y57, I55, rfl, rfl, q56⟩ := q56
  have hw58 := hw54 y57 I55 q56
  show Z l G _ d Q k n 428 _ (.int y57 :: .int y27 :: []) _
  refine z_icmp_eq (t := 1494) dL_law_428 (by decide) (fun c61 => ?_) (fun c62 => ?_)
  · have hw63 := hw58.1 c61
    exact hw63
  · have hw64 := hw58.2 c62
    refine z_iconst (v := 0) dL_law_431 (by decide) ?_
    exact z_ret (v := some (.int 0)) dL_law_432 ⟨_, rfl, by decide⟩ rfl hw64

theorem sL_law_433 {l : Launch} {G : zG} {d : Nat} {Q : Option Value → zH → Prop} {k n : Nat} {h : zH} (r0 : Option Nat) (a1 : Nat) (a2 : Nat) (x3 : Int32) (ha1 : lo10 h a1) (ha2 : lo11 h a2) (hd9 : 17 ≤ d)
    (hw : (∃ b2 N3, r0 = some b2 ∧ zAr h b2 N3 ∧ 0 ≤ (x3 + 1).toInt ∧ (x3 + 1).toInt < ((N3 : Nat) : Int) ∧ (∃ b9 N10, r0 = some b9 ∧ zAr h b9 N10 ∧ 0 ≤ (x3 + 2).toInt ∧ (x3 + 2).toInt < ((N10 : Nat) : Int) ∧ (∃ b16 N17, r0 = some b16 ∧ zAr h b16 N17 ∧ 0 ≤ (x3 + 3).toInt ∧ (x3 + 3).toInt < ((N17 : Nat) : Int) ∧ (∃ b23 N24, r0 = some b23 ∧ zAr h b23 N24 ∧ 0 ≤ (x3 + 4).toInt ∧ (x3 + 4).toInt < ((N24 : Nat) : Int) ∧ (∃ P29, CTi l G YX10_print 6 [va_rf (some a1), .int (zI h b2 (zix (x3 + 1))), .int (zI h b9 (zix (x3 + 2))), .int (zI h b16 (zix (x3 + 3))), .int (zI h b23 (zix (x3 + 4)))] h P29 ∧ ∀ (y34 : Int32) (I32 : Nat → Nat → Int32), P29 y34 I32 → (∃ b39 N40, r0 = some b39 ∧ zAr (I32, h.2) b39 N40 ∧ 0 ≤ (x3 + 1).toInt ∧ (x3 + 1).toInt < ((N40 : Nat) : Int) ∧ (∃ b46 N47, r0 = some b46 ∧ zAr (I32, h.2) b46 N47 ∧ 0 ≤ (x3 + 2).toInt ∧ (x3 + 2).toInt < ((N47 : Nat) : Int) ∧ (∃ b53 N54, r0 = some b53 ∧ zAr (I32, h.2) b53 N54 ∧ 0 ≤ (x3 + 3).toInt ∧ (x3 + 3).toInt < ((N54 : Nat) : Int) ∧ (∃ b60 N61, r0 = some b60 ∧ zAr (I32, h.2) b60 N61 ∧ 0 ≤ (x3 + 4).toInt ∧ (x3 + 4).toInt < ((N61 : Nat) : Int) ∧ (∃ P66, CTi l G YX11_print 6 [va_rf (some a2), .int (zI (I32, h.2) b39 (zix (x3 + 1))), .int (zI (I32, h.2) b46 (zix (x3 + 2))), .int (zI (I32, h.2) b53 (zix (x3 + 3))), .int (zI (I32, h.2) b60 (zix (x3 + 4)))] (I32, h.2) P66 ∧ ∀ (y71 : Int32) (I69 : Nat → Nat → Int32), P66 y71 I69 → ((y34 = y71 → Z l G mL_law d Q k n 1494 [va_rf r0, va_rf (some a1), va_rf (some a2), .int x3] [] (I69, h.2)) ∧ (¬ y34 = y71 → Q (some (.int 0)) (I69, h.2)))))))))))))) :
    Z l G mL_law d Q k n 433 [va_rf r0, va_rf (some a1), va_rf (some a2), .int x3] [] h := by
  refine z_aloadn dL_law_433 rfl rfl ?_
  refine z_aloadn dL_law_434 rfl rfl ?_
  refine z_iloadn dL_law_435 rfl rfl ?_
  refine z_iconst (v := 1) dL_law_436 (by decide) ?_
  refine z_iadd dL_law_437 ?_
  obtain ⟨b2, N3, q4, qa5, qz6, qy7, hw1⟩ := hw
  refine z_soP [.int ((x3 + 1))] q4 ?_
  refine z_iald (N := N3) dL_law_438 qa5 qz6 qy7 ?_
  refine z_aloadn dL_law_439 rfl rfl ?_
  refine z_iloadn dL_law_440 rfl rfl ?_
  refine z_iconst (v := 2) dL_law_441 (by decide) ?_
  refine z_iadd dL_law_442 ?_
  obtain ⟨b9, N10, q11, qa12, qz13, qy14, hw8⟩ := hw1
  refine z_soP [.int ((x3 + 2))] q11 ?_
  refine z_iald (N := N10) dL_law_443 qa12 qz13 qy14 ?_
  refine z_aloadn dL_law_444 rfl rfl ?_
  refine z_iloadn dL_law_445 rfl rfl ?_
  refine z_iconst (v := 3) dL_law_446 (by decide) ?_
  refine z_iadd dL_law_447 ?_
  obtain ⟨b16, N17, q18, qa19, qz20, qy21, hw15⟩ := hw8
  refine z_soP [.int ((x3 + 3))] q18 ?_
  refine z_iald (N := N17) dL_law_448 qa19 qz20 qy21 ?_
  refine z_aloadn dL_law_449 rfl rfl ?_
  refine z_iloadn dL_law_450 rfl rfl ?_
  refine z_iconst (v := 4) dL_law_451 (by decide) ?_
  refine z_iadd dL_law_452 ?_
  obtain ⟨b23, N24, q25, qa26, qz27, qy28, hw22⟩ := hw15
  refine z_soP [.int ((x3 + 4))] q25 ?_
  refine z_iald (N := N24) dL_law_453 qa26 qz27 qy28 ?_
  obtain ⟨P29, ct30, hw31⟩ := hw22
  refine z_callV (h := h) (S := []) (a := a1) (M := mL_law) (As := [.int (zI h b2 (zix (x3 + 1))), .int (zI h b9 (zix (x3 + 2))), .int (zI h b16 (zix (x3 + 3))), .int (zI h b23 (zix (x3 + 4)))]) zc10 rfl eX10_print w1061 w1062 (Or.inl w1060) dL_law_454 (ha1.k 0 rfl) (ha1.lt 0 rfl) rfl (by omega) (Nat.le_of_ble_eq_true rfl) ct30 (fun v36 g37 q33 => ?_)
  obtain ⟨y34, I32, rfl, rfl, q33⟩ := q33
  have hw35 := hw31 y34 I32 q33
  show Z l G _ d Q k n 457 _ (.int y34 :: []) _
  refine z_aloadn dL_law_457 rfl rfl ?_
  refine z_aloadn dL_law_458 rfl rfl ?_
  refine z_iloadn dL_law_459 rfl rfl ?_
  refine z_iconst (v := 1) dL_law_460 (by decide) ?_
  refine z_iadd dL_law_461 ?_
  obtain ⟨b39, N40, q41, qa42, qz43, qy44, hw38⟩ := hw35
  refine z_soP [.int ((x3 + 1))] q41 ?_
  refine z_iald (N := N40) dL_law_462 qa42 qz43 qy44 ?_
  refine z_aloadn dL_law_463 rfl rfl ?_
  refine z_iloadn dL_law_464 rfl rfl ?_
  refine z_iconst (v := 2) dL_law_465 (by decide) ?_
  refine z_iadd dL_law_466 ?_
  obtain ⟨b46, N47, q48, qa49, qz50, qy51, hw45⟩ := hw38
  refine z_soP [.int ((x3 + 2))] q48 ?_
  refine z_iald (N := N47) dL_law_467 qa49 qz50 qy51 ?_
  refine z_aloadn dL_law_468 rfl rfl ?_
  refine z_iloadn dL_law_469 rfl rfl ?_
  refine z_iconst (v := 3) dL_law_470 (by decide) ?_
  refine z_iadd dL_law_471 ?_
  obtain ⟨b53, N54, q55, qa56, qz57, qy58, hw52⟩ := hw45
  refine z_soP [.int ((x3 + 3))] q55 ?_
  refine z_iald (N := N54) dL_law_472 qa56 qz57 qy58 ?_
  refine z_aloadn dL_law_473 rfl rfl ?_
  refine z_iloadn dL_law_474 rfl rfl ?_
  refine z_iconst (v := 4) dL_law_475 (by decide) ?_
  refine z_iadd dL_law_476 ?_
  obtain ⟨b60, N61, q62, qa63, qz64, qy65, hw59⟩ := hw52
  refine z_soP [.int ((x3 + 4))] q62 ?_
  refine z_iald (N := N61) dL_law_477 qa63 qz64 qy65 ?_
  obtain ⟨P66, ct67, hw68⟩ := hw59
  refine z_callV (h := (I32, h.2)) (S := [.int y34]) (a := a2) (M := mL_law) (As := [.int (zI (I32, h.2) b39 (zix (x3 + 1))), .int (zI (I32, h.2) b46 (zix (x3 + 2))), .int (zI (I32, h.2) b53 (zix (x3 + 3))), .int (zI (I32, h.2) b60 (zix (x3 + 4)))]) zc11 rfl eX11_print w1787 w1788 (Or.inl w1786) dL_law_478 (ha2.k 0 rfl) (ha2.lt 0 rfl) rfl (by omega) (Nat.le_of_ble_eq_true rfl) ct67 (fun v73 g74 q70 => ?_)
  obtain ⟨y71, I69, rfl, rfl, q70⟩ := q70
  have hw72 := hw68 y71 I69 q70
  show Z l G _ d Q k n 481 _ (.int y71 :: .int y34 :: []) _
  refine z_icmp_eq (t := 1494) dL_law_481 (by decide) (fun c75 => ?_) (fun c76 => ?_)
  · have hw77 := hw72.1 c75
    exact hw77
  · have hw78 := hw72.2 c76
    refine z_iconst (v := 0) dL_law_484 (by decide) ?_
    exact z_ret (v := some (.int 0)) dL_law_485 ⟨_, rfl, by decide⟩ rfl hw78

theorem sL_law_486 {l : Launch} {G : zG} {d : Nat} {Q : Option Value → zH → Prop} {k n : Nat} {h : zH} (r0 : Option Nat) (a1 : Nat) (a2 : Nat) (x3 : Int32) (ha1 : lo10 h a1) (ha2 : lo11 h a2) (hd9 : 17 ≤ d)
    (hw : (∃ b2 N3, r0 = some b2 ∧ zAr h b2 N3 ∧ 0 ≤ (x3 + 1).toInt ∧ (x3 + 1).toInt < ((N3 : Nat) : Int) ∧ (∃ b9 N10, r0 = some b9 ∧ zAr h b9 N10 ∧ 0 ≤ (x3 + 2).toInt ∧ (x3 + 2).toInt < ((N10 : Nat) : Int) ∧ (∃ b16 N17, r0 = some b16 ∧ zAr h b16 N17 ∧ 0 ≤ (x3 + 3).toInt ∧ (x3 + 3).toInt < ((N17 : Nat) : Int) ∧ (∃ b23 N24, r0 = some b23 ∧ zAr h b23 N24 ∧ 0 ≤ (x3 + 4).toInt ∧ (x3 + 4).toInt < ((N24 : Nat) : Int) ∧ (∃ P29, CTi l G YX10_cell 6 [va_rf (some a1), .int (zI h b2 (zix (x3 + 1))), .int (zI h b9 (zix (x3 + 2))), .int (zI h b16 (zix (x3 + 3))), .int (zI h b23 (zix (x3 + 4)))] h P29 ∧ ∀ (y34 : Int32) (I32 : Nat → Nat → Int32), P29 y34 I32 → (∃ b39 N40, r0 = some b39 ∧ zAr (I32, h.2) b39 N40 ∧ 0 ≤ (x3 + 1).toInt ∧ (x3 + 1).toInt < ((N40 : Nat) : Int) ∧ (∃ b46 N47, r0 = some b46 ∧ zAr (I32, h.2) b46 N47 ∧ 0 ≤ (x3 + 2).toInt ∧ (x3 + 2).toInt < ((N47 : Nat) : Int) ∧ (∃ b53 N54, r0 = some b53 ∧ zAr (I32, h.2) b53 N54 ∧ 0 ≤ (x3 + 3).toInt ∧ (x3 + 3).toInt < ((N54 : Nat) : Int) ∧ (∃ b60 N61, r0 = some b60 ∧ zAr (I32, h.2) b60 N61 ∧ 0 ≤ (x3 + 4).toInt ∧ (x3 + 4).toInt < ((N61 : Nat) : Int) ∧ (∃ P66, CTi l G YX11_cell 6 [va_rf (some a2), .int (zI (I32, h.2) b39 (zix (x3 + 1))), .int (zI (I32, h.2) b46 (zix (x3 + 2))), .int (zI (I32, h.2) b53 (zix (x3 + 3))), .int (zI (I32, h.2) b60 (zix (x3 + 4)))] (I32, h.2) P66 ∧ ∀ (y71 : Int32) (I69 : Nat → Nat → Int32), P66 y71 I69 → ((y34 = y71 → Z l G mL_law d Q k n 1494 [va_rf r0, va_rf (some a1), va_rf (some a2), .int x3] [] (I69, h.2)) ∧ (¬ y34 = y71 → Q (some (.int 0)) (I69, h.2)))))))))))))) :
    Z l G mL_law d Q k n 486 [va_rf r0, va_rf (some a1), va_rf (some a2), .int x3] [] h := by
  refine z_aloadn dL_law_486 rfl rfl ?_
  refine z_aloadn dL_law_487 rfl rfl ?_
  refine z_iloadn dL_law_488 rfl rfl ?_
  refine z_iconst (v := 1) dL_law_489 (by decide) ?_
  refine z_iadd dL_law_490 ?_
  obtain ⟨b2, N3, q4, qa5, qz6, qy7, hw1⟩ := hw
  refine z_soP [.int ((x3 + 1))] q4 ?_
  refine z_iald (N := N3) dL_law_491 qa5 qz6 qy7 ?_
  refine z_aloadn dL_law_492 rfl rfl ?_
  refine z_iloadn dL_law_493 rfl rfl ?_
  refine z_iconst (v := 2) dL_law_494 (by decide) ?_
  refine z_iadd dL_law_495 ?_
  obtain ⟨b9, N10, q11, qa12, qz13, qy14, hw8⟩ := hw1
  refine z_soP [.int ((x3 + 2))] q11 ?_
  refine z_iald (N := N10) dL_law_496 qa12 qz13 qy14 ?_
  refine z_aloadn dL_law_497 rfl rfl ?_
  refine z_iloadn dL_law_498 rfl rfl ?_
  refine z_iconst (v := 3) dL_law_499 (by decide) ?_
  refine z_iadd dL_law_500 ?_
  obtain ⟨b16, N17, q18, qa19, qz20, qy21, hw15⟩ := hw8
  refine z_soP [.int ((x3 + 3))] q18 ?_
  refine z_iald (N := N17) dL_law_501 qa19 qz20 qy21 ?_
  refine z_aloadn dL_law_502 rfl rfl ?_
  refine z_iloadn dL_law_503 rfl rfl ?_
  refine z_iconst (v := 4) dL_law_504 (by decide) ?_
  refine z_iadd dL_law_505 ?_
  obtain ⟨b23, N24, q25, qa26, qz27, qy28, hw22⟩ := hw15
  refine z_soP [.int ((x3 + 4))] q25 ?_
  refine z_iald (N := N24) dL_law_506 qa26 qz27 qy28 ?_
  obtain ⟨P29, ct30, hw31⟩ := hw22
  refine z_callV (h := h) (S := []) (a := a1) (M := mL_law) (As := [.int (zI h b2 (zix (x3 + 1))), .int (zI h b9 (zix (x3 + 2))), .int (zI h b16 (zix (x3 + 3))), .int (zI h b23 (zix (x3 + 4)))]) zc10 rfl eX10_cell w1126 w1127 (Or.inl w1125) dL_law_507 (ha1.k 0 rfl) (ha1.lt 0 rfl) rfl (by omega) (Nat.le_of_ble_eq_true rfl) ct30 (fun v36 g37 q33 => ?_)
  obtain ⟨y34, I32, rfl, rfl, q33⟩ := q33
  have hw35 := hw31 y34 I32 q33
  show Z l G _ d Q k n 510 _ (.int y34 :: []) _
  refine z_aloadn dL_law_510 rfl rfl ?_
  refine z_aloadn dL_law_511 rfl rfl ?_
  refine z_iloadn dL_law_512 rfl rfl ?_
  refine z_iconst (v := 1) dL_law_513 (by decide) ?_
  refine z_iadd dL_law_514 ?_
  obtain ⟨b39, N40, q41, qa42, qz43, qy44, hw38⟩ := hw35
  refine z_soP [.int ((x3 + 1))] q41 ?_
  refine z_iald (N := N40) dL_law_515 qa42 qz43 qy44 ?_
  refine z_aloadn dL_law_516 rfl rfl ?_
  refine z_iloadn dL_law_517 rfl rfl ?_
  refine z_iconst (v := 2) dL_law_518 (by decide) ?_
  refine z_iadd dL_law_519 ?_
  obtain ⟨b46, N47, q48, qa49, qz50, qy51, hw45⟩ := hw38
  refine z_soP [.int ((x3 + 2))] q48 ?_
  refine z_iald (N := N47) dL_law_520 qa49 qz50 qy51 ?_
  refine z_aloadn dL_law_521 rfl rfl ?_
  refine z_iloadn dL_law_522 rfl rfl ?_
  refine z_iconst (v := 3) dL_law_523 (by decide) ?_
  refine z_iadd dL_law_524 ?_
  obtain ⟨b53, N54, q55, qa56, qz57, qy58, hw52⟩ := hw45
  refine z_soP [.int ((x3 + 3))] q55 ?_
  refine z_iald (N := N54) dL_law_525 qa56 qz57 qy58 ?_
  refine z_aloadn dL_law_526 rfl rfl ?_
  refine z_iloadn dL_law_527 rfl rfl ?_
  refine z_iconst (v := 4) dL_law_528 (by decide) ?_
  refine z_iadd dL_law_529 ?_
  obtain ⟨b60, N61, q62, qa63, qz64, qy65, hw59⟩ := hw52
  refine z_soP [.int ((x3 + 4))] q62 ?_
  refine z_iald (N := N61) dL_law_530 qa63 qz64 qy65 ?_
  obtain ⟨P66, ct67, hw68⟩ := hw59
  refine z_callV (h := (I32, h.2)) (S := [.int y34]) (a := a2) (M := mL_law) (As := [.int (zI (I32, h.2) b39 (zix (x3 + 1))), .int (zI (I32, h.2) b46 (zix (x3 + 2))), .int (zI (I32, h.2) b53 (zix (x3 + 3))), .int (zI (I32, h.2) b60 (zix (x3 + 4)))]) zc11 rfl eX11_cell w1819 w1820 (Or.inl w1818) dL_law_531 (ha2.k 0 rfl) (ha2.lt 0 rfl) rfl (by omega) (Nat.le_of_ble_eq_true rfl) ct67 (fun v73 g74 q70 => ?_)
  obtain ⟨y71, I69, rfl, rfl, q70⟩ := q70
  have hw72 := hw68 y71 I69 q70
  show Z l G _ d Q k n 534 _ (.int y71 :: .int y34 :: []) _
  refine z_icmp_eq (t := 1494) dL_law_534 (by decide) (fun c75 => ?_) (fun c76 => ?_)
  · have hw77 := hw72.1 c75
    exact hw77
  · have hw78 := hw72.2 c76
    refine z_iconst (v := 0) dL_law_537 (by decide) ?_
    exact z_ret (v := some (.int 0)) dL_law_538 ⟨_, rfl, by decide⟩ rfl hw78

theorem sL_law_539 {l : Launch} {G : zG} {d : Nat} {Q : Option Value → zH → Prop} {k n : Nat} {h : zH} (r0 : Option Nat) (a1 : Nat) (a2 : Nat) (x3 : Int32) (ha1 : lo10 h a1) (ha2 : lo11 h a2) (hd9 : 17 ≤ d)
    (hw : (∃ b2 N3, r0 = some b2 ∧ zAr h b2 N3 ∧ 0 ≤ (x3 + 1).toInt ∧ (x3 + 1).toInt < ((N3 : Nat) : Int) ∧ (∃ b9 N10, r0 = some b9 ∧ zAr h b9 N10 ∧ 0 ≤ (x3 + 2).toInt ∧ (x3 + 2).toInt < ((N10 : Nat) : Int) ∧ (∃ b16 N17, r0 = some b16 ∧ zAr h b16 N17 ∧ 0 ≤ (x3 + 3).toInt ∧ (x3 + 3).toInt < ((N17 : Nat) : Int) ∧ (∃ P22, CTi l G YX10_gait 6 [va_rf (some a1), .int (zI h b2 (zix (x3 + 1))), .int (zI h b9 (zix (x3 + 2))), .int (zI h b16 (zix (x3 + 3)))] h P22 ∧ ∀ (y27 : Int32) (I25 : Nat → Nat → Int32), P22 y27 I25 → (∃ b32 N33, r0 = some b32 ∧ zAr (I25, h.2) b32 N33 ∧ 0 ≤ (x3 + 1).toInt ∧ (x3 + 1).toInt < ((N33 : Nat) : Int) ∧ (∃ b39 N40, r0 = some b39 ∧ zAr (I25, h.2) b39 N40 ∧ 0 ≤ (x3 + 2).toInt ∧ (x3 + 2).toInt < ((N40 : Nat) : Int) ∧ (∃ b46 N47, r0 = some b46 ∧ zAr (I25, h.2) b46 N47 ∧ 0 ≤ (x3 + 3).toInt ∧ (x3 + 3).toInt < ((N47 : Nat) : Int) ∧ (∃ P52, CTi l G YX11_gait 6 [va_rf (some a2), .int (zI (I25, h.2) b32 (zix (x3 + 1))), .int (zI (I25, h.2) b39 (zix (x3 + 2))), .int (zI (I25, h.2) b46 (zix (x3 + 3)))] (I25, h.2) P52 ∧ ∀ (y57 : Int32) (I55 : Nat → Nat → Int32), P52 y57 I55 → ((y27 = y57 → Z l G mL_law d Q k n 1494 [va_rf r0, va_rf (some a1), va_rf (some a2), .int x3] [] (I55, h.2)) ∧ (¬ y27 = y57 → Q (some (.int 0)) (I55, h.2)))))))))))) :
    Z l G mL_law d Q k n 539 [va_rf r0, va_rf (some a1), va_rf (some a2), .int x3] [] h := by
  refine z_aloadn dL_law_539 rfl rfl ?_
  refine z_aloadn dL_law_540 rfl rfl ?_
  refine z_iloadn dL_law_541 rfl rfl ?_
  refine z_iconst (v := 1) dL_law_542 (by decide) ?_
  refine z_iadd dL_law_543 ?_
  obtain ⟨b2, N3, q4, qa5, qz6, qy7, hw1⟩ := hw
  refine z_soP [.int ((x3 + 1))] q4 ?_
  refine z_iald (N := N3) dL_law_544 qa5 qz6 qy7 ?_
  refine z_aloadn dL_law_545 rfl rfl ?_
  refine z_iloadn dL_law_546 rfl rfl ?_
  refine z_iconst (v := 2) dL_law_547 (by decide) ?_
  refine z_iadd dL_law_548 ?_
  obtain ⟨b9, N10, q11, qa12, qz13, qy14, hw8⟩ := hw1
  refine z_soP [.int ((x3 + 2))] q11 ?_
  refine z_iald (N := N10) dL_law_549 qa12 qz13 qy14 ?_
  refine z_aloadn dL_law_550 rfl rfl ?_
  refine z_iloadn dL_law_551 rfl rfl ?_
  refine z_iconst (v := 3) dL_law_552 (by decide) ?_
  refine z_iadd dL_law_553 ?_
  obtain ⟨b16, N17, q18, qa19, qz20, qy21, hw15⟩ := hw8
  refine z_soP [.int ((x3 + 3))] q18 ?_
  refine z_iald (N := N17) dL_law_554 qa19 qz20 qy21 ?_
  obtain ⟨P22, ct23, hw24⟩ := hw15
  refine z_callV (h := h) (S := []) (a := a1) (M := mL_law) (As := [.int (zI h b2 (zix (x3 + 1))), .int (zI h b9 (zix (x3 + 2))), .int (zI h b16 (zix (x3 + 3)))]) zc10 rfl eX10_gait w1146 w1147 (Or.inl w1145) dL_law_555 (ha1.k 0 rfl) (ha1.lt 0 rfl) rfl (by omega) (Nat.le_of_ble_eq_true rfl) ct23 (fun v29 g30 q26 => ?_)
  obtain ⟨y27, I25, rfl, rfl, q26⟩ := q26
  have hw28 := hw24 y27 I25 q26
  show Z l G _ d Q k n 558 _ (.int y27 :: []) _
  refine z_aloadn dL_law_558 rfl rfl ?_
  refine z_aloadn dL_law_559 rfl rfl ?_
  refine z_iloadn dL_law_560 rfl rfl ?_
  refine z_iconst (v := 1) dL_law_561 (by decide) ?_
  refine z_iadd dL_law_562 ?_
  obtain ⟨b32, N33, q34, qa35, qz36, qy37, hw31⟩ := hw28
  refine z_soP [.int ((x3 + 1))] q34 ?_
  refine z_iald (N := N33) dL_law_563 qa35 qz36 qy37 ?_
  refine z_aloadn dL_law_564 rfl rfl ?_
  refine z_iloadn dL_law_565 rfl rfl ?_
  refine z_iconst (v := 2) dL_law_566 (by decide) ?_
  refine z_iadd dL_law_567 ?_
  obtain ⟨b39, N40, q41, qa42, qz43, qy44, hw38⟩ := hw31
  refine z_soP [.int ((x3 + 2))] q41 ?_
  refine z_iald (N := N40) dL_law_568 qa42 qz43 qy44 ?_
  refine z_aloadn dL_law_569 rfl rfl ?_
  refine z_iloadn dL_law_570 rfl rfl ?_
  refine z_iconst (v := 3) dL_law_571 (by decide) ?_
  refine z_iadd dL_law_572 ?_
  obtain ⟨b46, N47, q48, qa49, qz50, qy51, hw45⟩ := hw38
  refine z_soP [.int ((x3 + 3))] q48 ?_
  refine z_iald (N := N47) dL_law_573 qa49 qz50 qy51 ?_
  obtain ⟨P52, ct53, hw54⟩ := hw45
  refine z_callV (h := (I25, h.2)) (S := [.int y27]) (a := a2) (M := mL_law) (As := [.int (zI (I25, h.2) b32 (zix (x3 + 1))), .int (zI (I25, h.2) b39 (zix (x3 + 2))), .int (zI (I25, h.2) b46 (zix (x3 + 3)))]) zc11 rfl eX11_gait w1835 w1836 (Or.inl w1834) dL_law_574 (ha2.k 0 rfl) (ha2.lt 0 rfl) rfl (by omega) (Nat.le_of_ble_eq_true rfl) ct53 (fun v59 g60 q56 => ?_)
  obtain ⟨y57, I55, rfl, rfl, q56⟩ := q56
  have hw58 := hw54 y57 I55 q56
  show Z l G _ d Q k n 577 _ (.int y57 :: .int y27 :: []) _
  refine z_icmp_eq (t := 1494) dL_law_577 (by decide) (fun c61 => ?_) (fun c62 => ?_)
  · have hw63 := hw58.1 c61
    exact hw63
  · have hw64 := hw58.2 c62
    refine z_iconst (v := 0) dL_law_580 (by decide) ?_
    exact z_ret (v := some (.int 0)) dL_law_581 ⟨_, rfl, by decide⟩ rfl hw64

theorem sL_law_582 {l : Launch} {G : zG} {d : Nat} {Q : Option Value → zH → Prop} {k n : Nat} {h : zH} (r0 : Option Nat) (a1 : Nat) (a2 : Nat) (x3 : Int32) (ha1 : lo10 h a1) (ha2 : lo11 h a2) (hd9 : 17 ≤ d)
    (hw : (∃ b2 N3, r0 = some b2 ∧ zAr h b2 N3 ∧ 0 ≤ (x3 + 1).toInt ∧ (x3 + 1).toInt < ((N3 : Nat) : Int) ∧ (∃ b9 N10, r0 = some b9 ∧ zAr h b9 N10 ∧ 0 ≤ (x3 + 2).toInt ∧ (x3 + 2).toInt < ((N10 : Nat) : Int) ∧ (∃ b16 N17, r0 = some b16 ∧ zAr h b16 N17 ∧ 0 ≤ (x3 + 3).toInt ∧ (x3 + 3).toInt < ((N17 : Nat) : Int) ∧ (∃ P22, CTi l G YX10_tax 6 [va_rf (some a1), .int (zI h b2 (zix (x3 + 1))), .int (zI h b9 (zix (x3 + 2))), .int (zI h b16 (zix (x3 + 3)))] h P22 ∧ ∀ (y27 : Int32) (I25 : Nat → Nat → Int32), P22 y27 I25 → (∃ b32 N33, r0 = some b32 ∧ zAr (I25, h.2) b32 N33 ∧ 0 ≤ (x3 + 1).toInt ∧ (x3 + 1).toInt < ((N33 : Nat) : Int) ∧ (∃ b39 N40, r0 = some b39 ∧ zAr (I25, h.2) b39 N40 ∧ 0 ≤ (x3 + 2).toInt ∧ (x3 + 2).toInt < ((N40 : Nat) : Int) ∧ (∃ b46 N47, r0 = some b46 ∧ zAr (I25, h.2) b46 N47 ∧ 0 ≤ (x3 + 3).toInt ∧ (x3 + 3).toInt < ((N47 : Nat) : Int) ∧ (∃ P52, CTi l G YX11_tax 6 [va_rf (some a2), .int (zI (I25, h.2) b32 (zix (x3 + 1))), .int (zI (I25, h.2) b39 (zix (x3 + 2))), .int (zI (I25, h.2) b46 (zix (x3 + 3)))] (I25, h.2) P52 ∧ ∀ (y57 : Int32) (I55 : Nat → Nat → Int32), P52 y57 I55 → ((y27 = y57 → Z l G mL_law d Q k n 1494 [va_rf r0, va_rf (some a1), va_rf (some a2), .int x3] [] (I55, h.2)) ∧ (¬ y27 = y57 → Q (some (.int 0)) (I55, h.2)))))))))))) :
    Z l G mL_law d Q k n 582 [va_rf r0, va_rf (some a1), va_rf (some a2), .int x3] [] h := by
  refine z_aloadn dL_law_582 rfl rfl ?_
  refine z_aloadn dL_law_583 rfl rfl ?_
  refine z_iloadn dL_law_584 rfl rfl ?_
  refine z_iconst (v := 1) dL_law_585 (by decide) ?_
  refine z_iadd dL_law_586 ?_
  obtain ⟨b2, N3, q4, qa5, qz6, qy7, hw1⟩ := hw
  refine z_soP [.int ((x3 + 1))] q4 ?_
  refine z_iald (N := N3) dL_law_587 qa5 qz6 qy7 ?_
  refine z_aloadn dL_law_588 rfl rfl ?_
  refine z_iloadn dL_law_589 rfl rfl ?_
  refine z_iconst (v := 2) dL_law_590 (by decide) ?_
  refine z_iadd dL_law_591 ?_
  obtain ⟨b9, N10, q11, qa12, qz13, qy14, hw8⟩ := hw1
  refine z_soP [.int ((x3 + 2))] q11 ?_
  refine z_iald (N := N10) dL_law_592 qa12 qz13 qy14 ?_
  refine z_aloadn dL_law_593 rfl rfl ?_
  refine z_iloadn dL_law_594 rfl rfl ?_
  refine z_iconst (v := 3) dL_law_595 (by decide) ?_
  refine z_iadd dL_law_596 ?_
  obtain ⟨b16, N17, q18, qa19, qz20, qy21, hw15⟩ := hw8
  refine z_soP [.int ((x3 + 3))] q18 ?_
  refine z_iald (N := N17) dL_law_597 qa19 qz20 qy21 ?_
  obtain ⟨P22, ct23, hw24⟩ := hw15
  refine z_callV (h := h) (S := []) (a := a1) (M := mL_law) (As := [.int (zI h b2 (zix (x3 + 1))), .int (zI h b9 (zix (x3 + 2))), .int (zI h b16 (zix (x3 + 3)))]) zc10 rfl eX10_tax w1202 w1203 (Or.inl w1201) dL_law_598 (ha1.k 0 rfl) (ha1.lt 0 rfl) rfl (by omega) (Nat.le_of_ble_eq_true rfl) ct23 (fun v29 g30 q26 => ?_)
  obtain ⟨y27, I25, rfl, rfl, q26⟩ := q26
  have hw28 := hw24 y27 I25 q26
  show Z l G _ d Q k n 601 _ (.int y27 :: []) _
  refine z_aloadn dL_law_601 rfl rfl ?_
  refine z_aloadn dL_law_602 rfl rfl ?_
  refine z_iloadn dL_law_603 rfl rfl ?_
  refine z_iconst (v := 1) dL_law_604 (by decide) ?_
  refine z_iadd dL_law_605 ?_
  obtain ⟨b32, N33, q34, qa35, qz36, qy37, hw31⟩ := hw28
  refine z_soP [.int ((x3 + 1))] q34 ?_
  refine z_iald (N := N33) dL_law_606 qa35 qz36 qy37 ?_
  refine z_aloadn dL_law_607 rfl rfl ?_
  refine z_iloadn dL_law_608 rfl rfl ?_
  refine z_iconst (v := 2) dL_law_609 (by decide) ?_
  refine z_iadd dL_law_610 ?_
  obtain ⟨b39, N40, q41, qa42, qz43, qy44, hw38⟩ := hw31
  refine z_soP [.int ((x3 + 2))] q41 ?_
  refine z_iald (N := N40) dL_law_611 qa42 qz43 qy44 ?_
  refine z_aloadn dL_law_612 rfl rfl ?_
  refine z_iloadn dL_law_613 rfl rfl ?_
  refine z_iconst (v := 3) dL_law_614 (by decide) ?_
  refine z_iadd dL_law_615 ?_
  obtain ⟨b46, N47, q48, qa49, qz50, qy51, hw45⟩ := hw38
  refine z_soP [.int ((x3 + 3))] q48 ?_
  refine z_iald (N := N47) dL_law_616 qa49 qz50 qy51 ?_
  obtain ⟨P52, ct53, hw54⟩ := hw45
  refine z_callV (h := (I25, h.2)) (S := [.int y27]) (a := a2) (M := mL_law) (As := [.int (zI (I25, h.2) b32 (zix (x3 + 1))), .int (zI (I25, h.2) b39 (zix (x3 + 2))), .int (zI (I25, h.2) b46 (zix (x3 + 3)))]) zc11 rfl eX11_tax w1839 w1840 (Or.inl w1838) dL_law_617 (ha2.k 0 rfl) (ha2.lt 0 rfl) rfl (by omega) (Nat.le_of_ble_eq_true rfl) ct53 (fun v59 g60 q56 => ?_)
  obtain ⟨y57, I55, rfl, rfl, q56⟩ := q56
  have hw58 := hw54 y57 I55 q56
  show Z l G _ d Q k n 620 _ (.int y57 :: .int y27 :: []) _
  refine z_icmp_eq (t := 1494) dL_law_620 (by decide) (fun c61 => ?_) (fun c62 => ?_)
  · have hw63 := hw58.1 c61
    exact hw63
  · have hw64 := hw58.2 c62
    refine z_iconst (v := 0) dL_law_623 (by decide) ?_
    exact z_ret (v := some (.int 0)) dL_law_624 ⟨_, rfl, by decide⟩ rfl hw64

theorem sL_law_625 {l : Launch} {G : zG} {d : Nat} {Q : Option Value → zH → Prop} {k n : Nat} {h : zH} (r0 : Option Nat) (a1 : Nat) (a2 : Nat) (x3 : Int32) (ha1 : lo10 h a1) (ha2 : lo11 h a2) (hd9 : 17 ≤ d)
    (hw : (∃ b2 N3, r0 = some b2 ∧ zAr h b2 N3 ∧ 0 ≤ (x3 + 1).toInt ∧ (x3 + 1).toInt < ((N3 : Nat) : Int) ∧ (∃ b9 N10, r0 = some b9 ∧ zAr h b9 N10 ∧ 0 ≤ (x3 + 2).toInt ∧ (x3 + 2).toInt < ((N10 : Nat) : Int) ∧ (∃ b16 N17, r0 = some b16 ∧ zAr h b16 N17 ∧ 0 ≤ (x3 + 3).toInt ∧ (x3 + 3).toInt < ((N17 : Nat) : Int) ∧ ((zI h b16 (zix (x3 + 3)) = 0 → (∃ P26, CTj l G YX10_fair 6 [va_rf (some a1), .int (zI h b2 (zix (x3 + 1))), .int (zI h b9 (zix (x3 + 2))), .int 0] h P26 ∧ ∀ (y31 : Int64) (I29 : Nat → Nat → Int32), P26 y31 I29 → (∃ b36 N37, r0 = some b36 ∧ zAr (I29, h.2) b36 N37 ∧ 0 ≤ (x3 + 1).toInt ∧ (x3 + 1).toInt < ((N37 : Nat) : Int) ∧ (∃ b43 N44, r0 = some b43 ∧ zAr (I29, h.2) b43 N44 ∧ 0 ≤ (x3 + 2).toInt ∧ (x3 + 2).toInt < ((N44 : Nat) : Int) ∧ (∃ b50 N51, r0 = some b50 ∧ zAr (I29, h.2) b50 N51 ∧ 0 ≤ (x3 + 3).toInt ∧ (x3 + 3).toInt < ((N51 : Nat) : Int) ∧ ((zI (I29, h.2) b50 (zix (x3 + 3)) = 0 → (∃ P60, CTj l G YX11_fair 6 [va_rf (some a2), .int (zI (I29, h.2) b36 (zix (x3 + 1))), .int (zI (I29, h.2) b43 (zix (x3 + 2))), .int 0] (I29, h.2) P60 ∧ ∀ (y65 : Int64) (I63 : Nat → Nat → Int32), P60 y65 I63 → (((lg_cmp y31 y65) = 0 → Z l G mL_law d Q k n 1494 [va_rf r0, va_rf (some a1), va_rf (some a2), .int x3] [] (I63, h.2)) ∧ (¬ (lg_cmp y31 y65) = 0 → Q (some (.int 0)) (I63, h.2))))) ∧ (¬ zI (I29, h.2) b50 (zix (x3 + 3)) = 0 → (∃ P73, CTj l G YX11_fair 6 [va_rf (some a2), .int (zI (I29, h.2) b36 (zix (x3 + 1))), .int (zI (I29, h.2) b43 (zix (x3 + 2))), .int 1] (I29, h.2) P73 ∧ ∀ (y78 : Int64) (I76 : Nat → Nat → Int32), P73 y78 I76 → (((lg_cmp y31 y78) = 0 → Z l G mL_law d Q k n 1494 [va_rf r0, va_rf (some a1), va_rf (some a2), .int x3] [] (I76, h.2)) ∧ (¬ (lg_cmp y31 y78) = 0 → Q (some (.int 0)) (I76, h.2))))))))))) ∧ (¬ zI h b16 (zix (x3 + 3)) = 0 → (∃ P86, CTj l G YX10_fair 6 [va_rf (some a1), .int (zI h b2 (zix (x3 + 1))), .int (zI h b9 (zix (x3 + 2))), .int 1] h P86 ∧ ∀ (y91 : Int64) (I89 : Nat → Nat → Int32), P86 y91 I89 → (∃ b96 N97, r0 = some b96 ∧ zAr (I89, h.2) b96 N97 ∧ 0 ≤ (x3 + 1).toInt ∧ (x3 + 1).toInt < ((N97 : Nat) : Int) ∧ (∃ b103 N104, r0 = some b103 ∧ zAr (I89, h.2) b103 N104 ∧ 0 ≤ (x3 + 2).toInt ∧ (x3 + 2).toInt < ((N104 : Nat) : Int) ∧ (∃ b110 N111, r0 = some b110 ∧ zAr (I89, h.2) b110 N111 ∧ 0 ≤ (x3 + 3).toInt ∧ (x3 + 3).toInt < ((N111 : Nat) : Int) ∧ ((zI (I89, h.2) b110 (zix (x3 + 3)) = 0 → (∃ P120, CTj l G YX11_fair 6 [va_rf (some a2), .int (zI (I89, h.2) b96 (zix (x3 + 1))), .int (zI (I89, h.2) b103 (zix (x3 + 2))), .int 0] (I89, h.2) P120 ∧ ∀ (y125 : Int64) (I123 : Nat → Nat → Int32), P120 y125 I123 → (((lg_cmp y91 y125) = 0 → Z l G mL_law d Q k n 1494 [va_rf r0, va_rf (some a1), va_rf (some a2), .int x3] [] (I123, h.2)) ∧ (¬ (lg_cmp y91 y125) = 0 → Q (some (.int 0)) (I123, h.2))))) ∧ (¬ zI (I89, h.2) b110 (zix (x3 + 3)) = 0 → (∃ P133, CTj l G YX11_fair 6 [va_rf (some a2), .int (zI (I89, h.2) b96 (zix (x3 + 1))), .int (zI (I89, h.2) b103 (zix (x3 + 2))), .int 1] (I89, h.2) P133 ∧ ∀ (y138 : Int64) (I136 : Nat → Nat → Int32), P133 y138 I136 → (((lg_cmp y91 y138) = 0 → Z l G mL_law d Q k n 1494 [va_rf r0, va_rf (some a1), va_rf (some a2), .int x3] [] (I136, h.2)) ∧ (¬ (lg_cmp y91 y138) = 0 → Q (some (.int 0)) (I136, h.2)))))))))))))))) :
    Z l G mL_law d Q k n 625 [va_rf r0, va_rf (some a1), va_rf (some a2), .int x3] [] h := by
  refine z_aloadn dL_law_625 rfl rfl ?_
  refine z_aloadn dL_law_626 rfl rfl ?_
  refine z_iloadn dL_law_627 rfl rfl ?_
  refine z_iconst (v := 1) dL_law_628 (by decide) ?_
  refine z_iadd dL_law_629 ?_
  obtain ⟨b2, N3, q4, qa5, qz6, qy7, hw1⟩ := hw
  refine z_soP [.int ((x3 + 1))] q4 ?_
  refine z_iald (N := N3) dL_law_630 qa5 qz6 qy7 ?_
  refine z_aloadn dL_law_631 rfl rfl ?_
  refine z_iloadn dL_law_632 rfl rfl ?_
  refine z_iconst (v := 2) dL_law_633 (by decide) ?_
  refine z_iadd dL_law_634 ?_
  obtain ⟨b9, N10, q11, qa12, qz13, qy14, hw8⟩ := hw1
  refine z_soP [.int ((x3 + 2))] q11 ?_
  refine z_iald (N := N10) dL_law_635 qa12 qz13 qy14 ?_
  refine z_aloadn dL_law_636 rfl rfl ?_
  refine z_iloadn dL_law_637 rfl rfl ?_
  refine z_iconst (v := 3) dL_law_638 (by decide) ?_
  refine z_iadd dL_law_639 ?_
  obtain ⟨b16, N17, q18, qa19, qz20, qy21, hw15⟩ := hw8
  refine z_soP [.int ((x3 + 3))] q18 ?_
  refine z_iald (N := N17) dL_law_640 qa19 qz20 qy21 ?_
  refine z_if_eq (t := 648) dL_law_641 (by decide) (fun c22 => ?_) (fun c23 => ?_)
  · have hw24 := hw15.1 c22
    refine z_iconst (v := 0) dL_law_648 (by decide) ?_
    obtain ⟨P26, ct27, hw28⟩ := hw24
    refine z_callV (h := h) (S := []) (a := a1) (M := mL_law) (As := [.int (zI h b2 (zix (x3 + 1))), .int (zI h b9 (zix (x3 + 2))), .int 0]) zc10 rfl eX10_fair w1214 w1215 (Or.inl w1213) dL_law_649 (ha1.k 0 rfl) (ha1.lt 0 rfl) rfl (by omega) (Nat.le_of_ble_eq_true rfl) ct27 (fun v33 g34 q30 => ?_)
    obtain ⟨y31, I29, rfl, rfl, q30⟩ := q30
    have hw32 := hw28 y31 I29 q30
    show Z l G _ d Q k n 652 _ (.long (y31) :: []) _
    refine z_aloadn dL_law_652 rfl rfl ?_
    refine z_aloadn dL_law_653 rfl rfl ?_
    refine z_iloadn dL_law_654 rfl rfl ?_
    refine z_iconst (v := 1) dL_law_655 (by decide) ?_
    refine z_iadd dL_law_656 ?_
    obtain ⟨b36, N37, q38, qa39, qz40, qy41, hw35⟩ := hw32
    refine z_soP [.int ((x3 + 1))] q38 ?_
    refine z_iald (N := N37) dL_law_657 qa39 qz40 qy41 ?_
    refine z_aloadn dL_law_658 rfl rfl ?_
    refine z_iloadn dL_law_659 rfl rfl ?_
    refine z_iconst (v := 2) dL_law_660 (by decide) ?_
    refine z_iadd dL_law_661 ?_
    obtain ⟨b43, N44, q45, qa46, qz47, qy48, hw42⟩ := hw35
    refine z_soP [.int ((x3 + 2))] q45 ?_
    refine z_iald (N := N44) dL_law_662 qa46 qz47 qy48 ?_
    refine z_aloadn dL_law_663 rfl rfl ?_
    refine z_iloadn dL_law_664 rfl rfl ?_
    refine z_iconst (v := 3) dL_law_665 (by decide) ?_
    refine z_iadd dL_law_666 ?_
    obtain ⟨b50, N51, q52, qa53, qz54, qy55, hw49⟩ := hw42
    refine z_soP [.int ((x3 + 3))] q52 ?_
    refine z_iald (N := N51) dL_law_667 qa53 qz54 qy55 ?_
    refine z_if_eq (t := 675) dL_law_668 (by decide) (fun c56 => ?_) (fun c57 => ?_)
    · have hw58 := hw49.1 c56
      refine z_iconst (v := 0) dL_law_675 (by decide) ?_
      obtain ⟨P60, ct61, hw62⟩ := hw58
      refine z_callV (h := (I29, h.2)) (S := [.long (y31)]) (a := a2) (M := mL_law) (As := [.int (zI (I29, h.2) b36 (zix (x3 + 1))), .int (zI (I29, h.2) b43 (zix (x3 + 2))), .int 0]) zc11 rfl eX11_fair w1847 w1848 (Or.inl w1846) dL_law_676 (ha2.k 0 rfl) (ha2.lt 0 rfl) rfl (by omega) (Nat.le_of_ble_eq_true rfl) ct61 (fun v67 g68 q64 => ?_)
      obtain ⟨y65, I63, rfl, rfl, q64⟩ := q64
      have hw66 := hw62 y65 I63 q64
      show Z l G _ d Q k n 679 _ (.long (y65) :: .long (y31) :: []) _
      refine z_lcmp dL_law_679 ?_
      refine z_if_eq (t := 1494) dL_law_680 (by decide) (fun c69 => ?_) (fun c70 => ?_)
      · have hw71 := hw66.1 c69
        exact hw71
      · have hw72 := hw66.2 c70
        refine z_iconst (v := 0) dL_law_683 (by decide) ?_
        exact z_ret (v := some (.int 0)) dL_law_684 ⟨_, rfl, by decide⟩ rfl hw72
    · have hw59 := hw49.2 c57
      refine z_iconst (v := 1) dL_law_671 (by decide) ?_
      refine z_goto (t := 676) dL_law_672 (by decide) ?_
      obtain ⟨P73, ct74, hw75⟩ := hw59
      refine z_callV (h := (I29, h.2)) (S := [.long (y31)]) (a := a2) (M := mL_law) (As := [.int (zI (I29, h.2) b36 (zix (x3 + 1))), .int (zI (I29, h.2) b43 (zix (x3 + 2))), .int 1]) zc11 rfl eX11_fair w1847 w1848 (Or.inl w1846) dL_law_676 (ha2.k 0 rfl) (ha2.lt 0 rfl) rfl (by omega) (Nat.le_of_ble_eq_true rfl) ct74 (fun v80 g81 q77 => ?_)
      obtain ⟨y78, I76, rfl, rfl, q77⟩ := q77
      have hw79 := hw75 y78 I76 q77
      show Z l G _ d Q k n 679 _ (.long (y78) :: .long (y31) :: []) _
      refine z_lcmp dL_law_679 ?_
      refine z_if_eq (t := 1494) dL_law_680 (by decide) (fun c82 => ?_) (fun c83 => ?_)
      · have hw84 := hw79.1 c82
        exact hw84
      · have hw85 := hw79.2 c83
        refine z_iconst (v := 0) dL_law_683 (by decide) ?_
        exact z_ret (v := some (.int 0)) dL_law_684 ⟨_, rfl, by decide⟩ rfl hw85
  · have hw25 := hw15.2 c23
    refine z_iconst (v := 1) dL_law_644 (by decide) ?_
    refine z_goto (t := 649) dL_law_645 (by decide) ?_
    obtain ⟨P86, ct87, hw88⟩ := hw25
    refine z_callV (h := h) (S := []) (a := a1) (M := mL_law) (As := [.int (zI h b2 (zix (x3 + 1))), .int (zI h b9 (zix (x3 + 2))), .int 1]) zc10 rfl eX10_fair w1214 w1215 (Or.inl w1213) dL_law_649 (ha1.k 0 rfl) (ha1.lt 0 rfl) rfl (by omega) (Nat.le_of_ble_eq_true rfl) ct87 (fun v93 g94 q90 => ?_)
    obtain ⟨y91, I89, rfl, rfl, q90⟩ := q90
    have hw92 := hw88 y91 I89 q90
    show Z l G _ d Q k n 652 _ (.long (y91) :: []) _
    refine z_aloadn dL_law_652 rfl rfl ?_
    refine z_aloadn dL_law_653 rfl rfl ?_
    refine z_iloadn dL_law_654 rfl rfl ?_
    refine z_iconst (v := 1) dL_law_655 (by decide) ?_
    refine z_iadd dL_law_656 ?_
    obtain ⟨b96, N97, q98, qa99, qz100, qy101, hw95⟩ := hw92
    refine z_soP [.int ((x3 + 1))] q98 ?_
    refine z_iald (N := N97) dL_law_657 qa99 qz100 qy101 ?_
    refine z_aloadn dL_law_658 rfl rfl ?_
    refine z_iloadn dL_law_659 rfl rfl ?_
    refine z_iconst (v := 2) dL_law_660 (by decide) ?_
    refine z_iadd dL_law_661 ?_
    obtain ⟨b103, N104, q105, qa106, qz107, qy108, hw102⟩ := hw95
    refine z_soP [.int ((x3 + 2))] q105 ?_
    refine z_iald (N := N104) dL_law_662 qa106 qz107 qy108 ?_
    refine z_aloadn dL_law_663 rfl rfl ?_
    refine z_iloadn dL_law_664 rfl rfl ?_
    refine z_iconst (v := 3) dL_law_665 (by decide) ?_
    refine z_iadd dL_law_666 ?_
    obtain ⟨b110, N111, q112, qa113, qz114, qy115, hw109⟩ := hw102
    refine z_soP [.int ((x3 + 3))] q112 ?_
    refine z_iald (N := N111) dL_law_667 qa113 qz114 qy115 ?_
    refine z_if_eq (t := 675) dL_law_668 (by decide) (fun c116 => ?_) (fun c117 => ?_)
    · have hw118 := hw109.1 c116
      refine z_iconst (v := 0) dL_law_675 (by decide) ?_
      obtain ⟨P120, ct121, hw122⟩ := hw118
      refine z_callV (h := (I89, h.2)) (S := [.long (y91)]) (a := a2) (M := mL_law) (As := [.int (zI (I89, h.2) b96 (zix (x3 + 1))), .int (zI (I89, h.2) b103 (zix (x3 + 2))), .int 0]) zc11 rfl eX11_fair w1847 w1848 (Or.inl w1846) dL_law_676 (ha2.k 0 rfl) (ha2.lt 0 rfl) rfl (by omega) (Nat.le_of_ble_eq_true rfl) ct121 (fun v127 g128 q124 => ?_)
      obtain ⟨y125, I123, rfl, rfl, q124⟩ := q124
      have hw126 := hw122 y125 I123 q124
      show Z l G _ d Q k n 679 _ (.long (y125) :: .long (y91) :: []) _
      refine z_lcmp dL_law_679 ?_
      refine z_if_eq (t := 1494) dL_law_680 (by decide) (fun c129 => ?_) (fun c130 => ?_)
      · have hw131 := hw126.1 c129
        exact hw131
      · have hw132 := hw126.2 c130
        refine z_iconst (v := 0) dL_law_683 (by decide) ?_
        exact z_ret (v := some (.int 0)) dL_law_684 ⟨_, rfl, by decide⟩ rfl hw132
    · have hw119 := hw109.2 c117
      refine z_iconst (v := 1) dL_law_671 (by decide) ?_
      refine z_goto (t := 676) dL_law_672 (by decide) ?_
      obtain ⟨P133, ct134, hw135⟩ := hw119
      refine z_callV (h := (I89, h.2)) (S := [.long (y91)]) (a := a2) (M := mL_law) (As := [.int (zI (I89, h.2) b96 (zix (x3 + 1))), .int (zI (I89, h.2) b103 (zix (x3 + 2))), .int 1]) zc11 rfl eX11_fair w1847 w1848 (Or.inl w1846) dL_law_676 (ha2.k 0 rfl) (ha2.lt 0 rfl) rfl (by omega) (Nat.le_of_ble_eq_true rfl) ct134 (fun v140 g141 q137 => ?_)
      obtain ⟨y138, I136, rfl, rfl, q137⟩ := q137
      have hw139 := hw135 y138 I136 q137
      show Z l G _ d Q k n 679 _ (.long (y138) :: .long (y91) :: []) _
      refine z_lcmp dL_law_679 ?_
      refine z_if_eq (t := 1494) dL_law_680 (by decide) (fun c142 => ?_) (fun c143 => ?_)
      · have hw144 := hw139.1 c142
        exact hw144
      · have hw145 := hw139.2 c143
        refine z_iconst (v := 0) dL_law_683 (by decide) ?_
        exact z_ret (v := some (.int 0)) dL_law_684 ⟨_, rfl, by decide⟩ rfl hw145

theorem sL_law_685 {l : Launch} {G : zG} {d : Nat} {Q : Option Value → zH → Prop} {k n : Nat} {h : zH} (r0 : Option Nat) (a1 : Nat) (a2 : Nat) (x3 : Int32) (ha1 : lo10 h a1) (ha2 : lo11 h a2) (hd9 : 17 ≤ d)
    (hw : (∃ b2 N3, r0 = some b2 ∧ zAr h b2 N3 ∧ 0 ≤ (x3 + 1).toInt ∧ (x3 + 1).toInt < ((N3 : Nat) : Int) ∧ (∃ b9 N10, r0 = some b9 ∧ zAr h b9 N10 ∧ 0 ≤ (x3 + 2).toInt ∧ (x3 + 2).toInt < ((N10 : Nat) : Int) ∧ (∃ P15, CTi l G YX10_alone 8 [va_rf (some a1), .int (zI h b2 (zix (x3 + 1))), .int (zI h b9 (zix (x3 + 2)))] h P15 ∧ ∀ (y20 : Int32) (I18 : Nat → Nat → Int32), P15 y20 I18 → (∃ b25 N26, r0 = some b25 ∧ zAr (I18, h.2) b25 N26 ∧ 0 ≤ (x3 + 1).toInt ∧ (x3 + 1).toInt < ((N26 : Nat) : Int) ∧ (∃ b32 N33, r0 = some b32 ∧ zAr (I18, h.2) b32 N33 ∧ 0 ≤ (x3 + 2).toInt ∧ (x3 + 2).toInt < ((N33 : Nat) : Int) ∧ (∃ P38, CTi l G YX11_alone 7 [va_rf (some a2), .int (zI (I18, h.2) b25 (zix (x3 + 1))), .int (zI (I18, h.2) b32 (zix (x3 + 2)))] (I18, h.2) P38 ∧ ∀ (y43 : Int32) (I41 : Nat → Nat → Int32), P38 y43 I41 → ((y20 = y43 → Z l G mL_law d Q k n 1494 [va_rf r0, va_rf (some a1), va_rf (some a2), .int x3] [] (I41, h.2)) ∧ (¬ y20 = y43 → Q (some (.int 0)) (I41, h.2)))))))))) :
    Z l G mL_law d Q k n 685 [va_rf r0, va_rf (some a1), va_rf (some a2), .int x3] [] h := by
  refine z_aloadn dL_law_685 rfl rfl ?_
  refine z_aloadn dL_law_686 rfl rfl ?_
  refine z_iloadn dL_law_687 rfl rfl ?_
  refine z_iconst (v := 1) dL_law_688 (by decide) ?_
  refine z_iadd dL_law_689 ?_
  obtain ⟨b2, N3, q4, qa5, qz6, qy7, hw1⟩ := hw
  refine z_soP [.int ((x3 + 1))] q4 ?_
  refine z_iald (N := N3) dL_law_690 qa5 qz6 qy7 ?_
  refine z_aloadn dL_law_691 rfl rfl ?_
  refine z_iloadn dL_law_692 rfl rfl ?_
  refine z_iconst (v := 2) dL_law_693 (by decide) ?_
  refine z_iadd dL_law_694 ?_
  obtain ⟨b9, N10, q11, qa12, qz13, qy14, hw8⟩ := hw1
  refine z_soP [.int ((x3 + 2))] q11 ?_
  refine z_iald (N := N10) dL_law_695 qa12 qz13 qy14 ?_
  obtain ⟨P15, ct16, hw17⟩ := hw8
  refine z_callV (h := h) (S := []) (a := a1) (M := mL_law) (As := [.int (zI h b2 (zix (x3 + 1))), .int (zI h b9 (zix (x3 + 2)))]) zc10 rfl eX10_alone w1228 w1229 (Or.inl w1227) dL_law_696 (ha1.k 0 rfl) (ha1.lt 0 rfl) rfl (by omega) (Nat.le_of_ble_eq_true rfl) ct16 (fun v22 g23 q19 => ?_)
  obtain ⟨y20, I18, rfl, rfl, q19⟩ := q19
  have hw21 := hw17 y20 I18 q19
  show Z l G _ d Q k n 699 _ (.int y20 :: []) _
  refine z_aloadn dL_law_699 rfl rfl ?_
  refine z_aloadn dL_law_700 rfl rfl ?_
  refine z_iloadn dL_law_701 rfl rfl ?_
  refine z_iconst (v := 1) dL_law_702 (by decide) ?_
  refine z_iadd dL_law_703 ?_
  obtain ⟨b25, N26, q27, qa28, qz29, qy30, hw24⟩ := hw21
  refine z_soP [.int ((x3 + 1))] q27 ?_
  refine z_iald (N := N26) dL_law_704 qa28 qz29 qy30 ?_
  refine z_aloadn dL_law_705 rfl rfl ?_
  refine z_iloadn dL_law_706 rfl rfl ?_
  refine z_iconst (v := 2) dL_law_707 (by decide) ?_
  refine z_iadd dL_law_708 ?_
  obtain ⟨b32, N33, q34, qa35, qz36, qy37, hw31⟩ := hw24
  refine z_soP [.int ((x3 + 2))] q34 ?_
  refine z_iald (N := N33) dL_law_709 qa35 qz36 qy37 ?_
  obtain ⟨P38, ct39, hw40⟩ := hw31
  refine z_callV (h := (I18, h.2)) (S := [.int y20]) (a := a2) (M := mL_law) (As := [.int (zI (I18, h.2) b25 (zix (x3 + 1))), .int (zI (I18, h.2) b32 (zix (x3 + 2)))]) zc11 rfl eX11_alone w1863 w1864 (Or.inl w1862) dL_law_710 (ha2.k 0 rfl) (ha2.lt 0 rfl) rfl (by omega) (Nat.le_of_ble_eq_true rfl) ct39 (fun v45 g46 q42 => ?_)
  obtain ⟨y43, I41, rfl, rfl, q42⟩ := q42
  have hw44 := hw40 y43 I41 q42
  show Z l G _ d Q k n 713 _ (.int y43 :: .int y20 :: []) _
  refine z_icmp_eq (t := 1494) dL_law_713 (by decide) (fun c47 => ?_) (fun c48 => ?_)
  · have hw49 := hw44.1 c47
    exact hw49
  · have hw50 := hw44.2 c48
    refine z_iconst (v := 0) dL_law_716 (by decide) ?_
    exact z_ret (v := some (.int 0)) dL_law_717 ⟨_, rfl, by decide⟩ rfl hw50

theorem sL_law_718 {l : Launch} {G : zG} {d : Nat} {Q : Option Value → zH → Prop} {k n : Nat} {h : zH} (r0 : Option Nat) (a1 : Nat) (a2 : Nat) (x3 : Int32) (ha1 : lo10 h a1) (ha2 : lo11 h a2) (hd9 : 17 ≤ d)
    (hw : (∃ b2 N3, r0 = some b2 ∧ zAr h b2 N3 ∧ 0 ≤ (x3 + 1).toInt ∧ (x3 + 1).toInt < ((N3 : Nat) : Int) ∧ (∃ b9 N10, r0 = some b9 ∧ zAr h b9 N10 ∧ 0 ≤ (x3 + 2).toInt ∧ (x3 + 2).toInt < ((N10 : Nat) : Int) ∧ (∃ P15, CTi l G YX10_pays 7 [va_rf (some a1), .int (zI h b2 (zix (x3 + 1))), .int (zI h b9 (zix (x3 + 2)))] h P15 ∧ ∀ (y20 : Int32) (I18 : Nat → Nat → Int32), P15 y20 I18 → (∃ b25 N26, r0 = some b25 ∧ zAr (I18, h.2) b25 N26 ∧ 0 ≤ (x3 + 1).toInt ∧ (x3 + 1).toInt < ((N26 : Nat) : Int) ∧ (∃ b32 N33, r0 = some b32 ∧ zAr (I18, h.2) b32 N33 ∧ 0 ≤ (x3 + 2).toInt ∧ (x3 + 2).toInt < ((N33 : Nat) : Int) ∧ (∃ P38, CTi l G YX11_pays 6 [va_rf (some a2), .int (zI (I18, h.2) b25 (zix (x3 + 1))), .int (zI (I18, h.2) b32 (zix (x3 + 2)))] (I18, h.2) P38 ∧ ∀ (y43 : Int32) (I41 : Nat → Nat → Int32), P38 y43 I41 → ((y20 = y43 → Z l G mL_law d Q k n 1494 [va_rf r0, va_rf (some a1), va_rf (some a2), .int x3] [] (I41, h.2)) ∧ (¬ y20 = y43 → Q (some (.int 0)) (I41, h.2)))))))))) :
    Z l G mL_law d Q k n 718 [va_rf r0, va_rf (some a1), va_rf (some a2), .int x3] [] h := by
  refine z_aloadn dL_law_718 rfl rfl ?_
  refine z_aloadn dL_law_719 rfl rfl ?_
  refine z_iloadn dL_law_720 rfl rfl ?_
  refine z_iconst (v := 1) dL_law_721 (by decide) ?_
  refine z_iadd dL_law_722 ?_
  obtain ⟨b2, N3, q4, qa5, qz6, qy7, hw1⟩ := hw
  refine z_soP [.int ((x3 + 1))] q4 ?_
  refine z_iald (N := N3) dL_law_723 qa5 qz6 qy7 ?_
  refine z_aloadn dL_law_724 rfl rfl ?_
  refine z_iloadn dL_law_725 rfl rfl ?_
  refine z_iconst (v := 2) dL_law_726 (by decide) ?_
  refine z_iadd dL_law_727 ?_
  obtain ⟨b9, N10, q11, qa12, qz13, qy14, hw8⟩ := hw1
  refine z_soP [.int ((x3 + 2))] q11 ?_
  refine z_iald (N := N10) dL_law_728 qa12 qz13 qy14 ?_
  obtain ⟨P15, ct16, hw17⟩ := hw8
  refine z_callV (h := h) (S := []) (a := a1) (M := mL_law) (As := [.int (zI h b2 (zix (x3 + 1))), .int (zI h b9 (zix (x3 + 2)))]) zc10 rfl eX10_pays w1242 w1243 (Or.inl w1241) dL_law_729 (ha1.k 0 rfl) (ha1.lt 0 rfl) rfl (by omega) (Nat.le_of_ble_eq_true rfl) ct16 (fun v22 g23 q19 => ?_)
  obtain ⟨y20, I18, rfl, rfl, q19⟩ := q19
  have hw21 := hw17 y20 I18 q19
  show Z l G _ d Q k n 732 _ (.int y20 :: []) _
  refine z_aloadn dL_law_732 rfl rfl ?_
  refine z_aloadn dL_law_733 rfl rfl ?_
  refine z_iloadn dL_law_734 rfl rfl ?_
  refine z_iconst (v := 1) dL_law_735 (by decide) ?_
  refine z_iadd dL_law_736 ?_
  obtain ⟨b25, N26, q27, qa28, qz29, qy30, hw24⟩ := hw21
  refine z_soP [.int ((x3 + 1))] q27 ?_
  refine z_iald (N := N26) dL_law_737 qa28 qz29 qy30 ?_
  refine z_aloadn dL_law_738 rfl rfl ?_
  refine z_iloadn dL_law_739 rfl rfl ?_
  refine z_iconst (v := 2) dL_law_740 (by decide) ?_
  refine z_iadd dL_law_741 ?_
  obtain ⟨b32, N33, q34, qa35, qz36, qy37, hw31⟩ := hw24
  refine z_soP [.int ((x3 + 2))] q34 ?_
  refine z_iald (N := N33) dL_law_742 qa35 qz36 qy37 ?_
  obtain ⟨P38, ct39, hw40⟩ := hw31
  refine z_callV (h := (I18, h.2)) (S := [.int y20]) (a := a2) (M := mL_law) (As := [.int (zI (I18, h.2) b25 (zix (x3 + 1))), .int (zI (I18, h.2) b32 (zix (x3 + 2)))]) zc11 rfl eX11_pays w1871 w1872 (Or.inl w1870) dL_law_743 (ha2.k 0 rfl) (ha2.lt 0 rfl) rfl (by omega) (Nat.le_of_ble_eq_true rfl) ct39 (fun v45 g46 q42 => ?_)
  obtain ⟨y43, I41, rfl, rfl, q42⟩ := q42
  have hw44 := hw40 y43 I41 q42
  show Z l G _ d Q k n 746 _ (.int y43 :: .int y20 :: []) _
  refine z_icmp_eq (t := 1494) dL_law_746 (by decide) (fun c47 => ?_) (fun c48 => ?_)
  · have hw49 := hw44.1 c47
    exact hw49
  · have hw50 := hw44.2 c48
    refine z_iconst (v := 0) dL_law_749 (by decide) ?_
    exact z_ret (v := some (.int 0)) dL_law_750 ⟨_, rfl, by decide⟩ rfl hw50

theorem sL_law_751 {l : Launch} {G : zG} {d : Nat} {Q : Option Value → zH → Prop} {k n : Nat} {h : zH} (r0 : Option Nat) (a1 : Nat) (a2 : Nat) (x3 : Int32) (ha1 : lo10 h a1) (ha2 : lo11 h a2) (hd9 : 17 ≤ d)
    (hw : (∃ b2 N3, r0 = some b2 ∧ zAr h b2 N3 ∧ 0 ≤ (x3 + 1).toInt ∧ (x3 + 1).toInt < ((N3 : Nat) : Int) ∧ (∃ b9 N10, r0 = some b9 ∧ zAr h b9 N10 ∧ 0 ≤ (x3 + 2).toInt ∧ (x3 + 2).toInt < ((N10 : Nat) : Int) ∧ (∃ b16 N17, r0 = some b16 ∧ zAr h b16 N17 ∧ 0 ≤ (x3 + 3).toInt ∧ (x3 + 3).toInt < ((N17 : Nat) : Int) ∧ (∃ P22, CTi l G YX10_traps 8 [va_rf (some a1), .int (zI h b2 (zix (x3 + 1))), .int (zI h b9 (zix (x3 + 2))), .int (zI h b16 (zix (x3 + 3)))] h P22 ∧ ∀ (y27 : Int32) (I25 : Nat → Nat → Int32), P22 y27 I25 → (∃ b32 N33, r0 = some b32 ∧ zAr (I25, h.2) b32 N33 ∧ 0 ≤ (x3 + 1).toInt ∧ (x3 + 1).toInt < ((N33 : Nat) : Int) ∧ (∃ b39 N40, r0 = some b39 ∧ zAr (I25, h.2) b39 N40 ∧ 0 ≤ (x3 + 2).toInt ∧ (x3 + 2).toInt < ((N40 : Nat) : Int) ∧ (∃ b46 N47, r0 = some b46 ∧ zAr (I25, h.2) b46 N47 ∧ 0 ≤ (x3 + 3).toInt ∧ (x3 + 3).toInt < ((N47 : Nat) : Int) ∧ (∃ P52, CTi l G YX11_traps 6 [va_rf (some a2), .int (zI (I25, h.2) b32 (zix (x3 + 1))), .int (zI (I25, h.2) b39 (zix (x3 + 2))), .int (zI (I25, h.2) b46 (zix (x3 + 3)))] (I25, h.2) P52 ∧ ∀ (y57 : Int32) (I55 : Nat → Nat → Int32), P52 y57 I55 → ((y27 = y57 → Z l G mL_law d Q k n 1494 [va_rf r0, va_rf (some a1), va_rf (some a2), .int x3] [] (I55, h.2)) ∧ (¬ y27 = y57 → Q (some (.int 0)) (I55, h.2)))))))))))) :
    Z l G mL_law d Q k n 751 [va_rf r0, va_rf (some a1), va_rf (some a2), .int x3] [] h := by
  refine z_aloadn dL_law_751 rfl rfl ?_
  refine z_aloadn dL_law_752 rfl rfl ?_
  refine z_iloadn dL_law_753 rfl rfl ?_
  refine z_iconst (v := 1) dL_law_754 (by decide) ?_
  refine z_iadd dL_law_755 ?_
  obtain ⟨b2, N3, q4, qa5, qz6, qy7, hw1⟩ := hw
  refine z_soP [.int ((x3 + 1))] q4 ?_
  refine z_iald (N := N3) dL_law_756 qa5 qz6 qy7 ?_
  refine z_aloadn dL_law_757 rfl rfl ?_
  refine z_iloadn dL_law_758 rfl rfl ?_
  refine z_iconst (v := 2) dL_law_759 (by decide) ?_
  refine z_iadd dL_law_760 ?_
  obtain ⟨b9, N10, q11, qa12, qz13, qy14, hw8⟩ := hw1
  refine z_soP [.int ((x3 + 2))] q11 ?_
  refine z_iald (N := N10) dL_law_761 qa12 qz13 qy14 ?_
  refine z_aloadn dL_law_762 rfl rfl ?_
  refine z_iloadn dL_law_763 rfl rfl ?_
  refine z_iconst (v := 3) dL_law_764 (by decide) ?_
  refine z_iadd dL_law_765 ?_
  obtain ⟨b16, N17, q18, qa19, qz20, qy21, hw15⟩ := hw8
  refine z_soP [.int ((x3 + 3))] q18 ?_
  refine z_iald (N := N17) dL_law_766 qa19 qz20 qy21 ?_
  obtain ⟨P22, ct23, hw24⟩ := hw15
  refine z_callV (h := h) (S := []) (a := a1) (M := mL_law) (As := [.int (zI h b2 (zix (x3 + 1))), .int (zI h b9 (zix (x3 + 2))), .int (zI h b16 (zix (x3 + 3)))]) zc10 rfl eX10_traps w1179 w1180 (Or.inl w1178) dL_law_767 (ha1.k 0 rfl) (ha1.lt 0 rfl) rfl (by omega) (Nat.le_of_ble_eq_true rfl) ct23 (fun v29 g30 q26 => ?_)
  obtain ⟨y27, I25, rfl, rfl, q26⟩ := q26
  have hw28 := hw24 y27 I25 q26
  show Z l G _ d Q k n 770 _ (.int y27 :: []) _
  refine z_aloadn dL_law_770 rfl rfl ?_
  refine z_aloadn dL_law_771 rfl rfl ?_
  refine z_iloadn dL_law_772 rfl rfl ?_
  refine z_iconst (v := 1) dL_law_773 (by decide) ?_
  refine z_iadd dL_law_774 ?_
  obtain ⟨b32, N33, q34, qa35, qz36, qy37, hw31⟩ := hw28
  refine z_soP [.int ((x3 + 1))] q34 ?_
  refine z_iald (N := N33) dL_law_775 qa35 qz36 qy37 ?_
  refine z_aloadn dL_law_776 rfl rfl ?_
  refine z_iloadn dL_law_777 rfl rfl ?_
  refine z_iconst (v := 2) dL_law_778 (by decide) ?_
  refine z_iadd dL_law_779 ?_
  obtain ⟨b39, N40, q41, qa42, qz43, qy44, hw38⟩ := hw31
  refine z_soP [.int ((x3 + 2))] q41 ?_
  refine z_iald (N := N40) dL_law_780 qa42 qz43 qy44 ?_
  refine z_aloadn dL_law_781 rfl rfl ?_
  refine z_iloadn dL_law_782 rfl rfl ?_
  refine z_iconst (v := 3) dL_law_783 (by decide) ?_
  refine z_iadd dL_law_784 ?_
  obtain ⟨b46, N47, q48, qa49, qz50, qy51, hw45⟩ := hw38
  refine z_soP [.int ((x3 + 3))] q48 ?_
  refine z_iald (N := N47) dL_law_785 qa49 qz50 qy51 ?_
  obtain ⟨P52, ct53, hw54⟩ := hw45
  refine z_callV (h := (I25, h.2)) (S := [.int y27]) (a := a2) (M := mL_law) (As := [.int (zI (I25, h.2) b32 (zix (x3 + 1))), .int (zI (I25, h.2) b39 (zix (x3 + 2))), .int (zI (I25, h.2) b46 (zix (x3 + 3)))]) zc11 rfl eX11_traps w1875 w1876 (Or.inl w1874) dL_law_786 (ha2.k 0 rfl) (ha2.lt 0 rfl) rfl (by omega) (Nat.le_of_ble_eq_true rfl) ct53 (fun v59 g60 q56 => ?_)
  obtain ⟨y57, I55, rfl, rfl, q56⟩ := q56
  have hw58 := hw54 y57 I55 q56
  show Z l G _ d Q k n 789 _ (.int y57 :: .int y27 :: []) _
  refine z_icmp_eq (t := 1494) dL_law_789 (by decide) (fun c61 => ?_) (fun c62 => ?_)
  · have hw63 := hw58.1 c61
    exact hw63
  · have hw64 := hw58.2 c62
    refine z_iconst (v := 0) dL_law_792 (by decide) ?_
    exact z_ret (v := some (.int 0)) dL_law_793 ⟨_, rfl, by decide⟩ rfl hw64

theorem sL_law_794 {l : Launch} {G : zG} {d : Nat} {Q : Option Value → zH → Prop} {k n : Nat} {h : zH} (r0 : Option Nat) (a1 : Nat) (a2 : Nat) (x3 : Int32) (ha1 : lo10 h a1) (ha2 : lo11 h a2) (hd9 : 17 ≤ d)
    (hw : (∃ b2 N3, r0 = some b2 ∧ zAr h b2 N3 ∧ 0 ≤ (x3 + 1).toInt ∧ (x3 + 1).toInt < ((N3 : Nat) : Int) ∧ (∃ b9 N10, r0 = some b9 ∧ zAr h b9 N10 ∧ 0 ≤ (x3 + 2).toInt ∧ (x3 + 2).toInt < ((N10 : Nat) : Int) ∧ (∃ b16 N17, r0 = some b16 ∧ zAr h b16 N17 ∧ 0 ≤ (x3 + 3).toInt ∧ (x3 + 3).toInt < ((N17 : Nat) : Int) ∧ (∃ b23 N24, r0 = some b23 ∧ zAr h b23 N24 ∧ 0 ≤ (x3 + 4).toInt ∧ (x3 + 4).toInt < ((N24 : Nat) : Int) ∧ (∃ P29, CTi l G YX10_near 5 [va_rf (some a1), .int (zI h b2 (zix (x3 + 1))), .int (zI h b9 (zix (x3 + 2))), .int (zI h b16 (zix (x3 + 3))), .int (zI h b23 (zix (x3 + 4)))] h P29 ∧ ∀ (y34 : Int32) (I32 : Nat → Nat → Int32), P29 y34 I32 → (∃ b39 N40, r0 = some b39 ∧ zAr (I32, h.2) b39 N40 ∧ 0 ≤ (x3 + 1).toInt ∧ (x3 + 1).toInt < ((N40 : Nat) : Int) ∧ (∃ b46 N47, r0 = some b46 ∧ zAr (I32, h.2) b46 N47 ∧ 0 ≤ (x3 + 2).toInt ∧ (x3 + 2).toInt < ((N47 : Nat) : Int) ∧ (∃ b53 N54, r0 = some b53 ∧ zAr (I32, h.2) b53 N54 ∧ 0 ≤ (x3 + 3).toInt ∧ (x3 + 3).toInt < ((N54 : Nat) : Int) ∧ (∃ b60 N61, r0 = some b60 ∧ zAr (I32, h.2) b60 N61 ∧ 0 ≤ (x3 + 4).toInt ∧ (x3 + 4).toInt < ((N61 : Nat) : Int) ∧ (∃ P66, CTi l G YX11_near 5 [va_rf (some a2), .int (zI (I32, h.2) b39 (zix (x3 + 1))), .int (zI (I32, h.2) b46 (zix (x3 + 2))), .int (zI (I32, h.2) b53 (zix (x3 + 3))), .int (zI (I32, h.2) b60 (zix (x3 + 4)))] (I32, h.2) P66 ∧ ∀ (y71 : Int32) (I69 : Nat → Nat → Int32), P66 y71 I69 → ((y34 = y71 → Z l G mL_law d Q k n 1494 [va_rf r0, va_rf (some a1), va_rf (some a2), .int x3] [] (I69, h.2)) ∧ (¬ y34 = y71 → Q (some (.int 0)) (I69, h.2)))))))))))))) :
    Z l G mL_law d Q k n 794 [va_rf r0, va_rf (some a1), va_rf (some a2), .int x3] [] h := by
  refine z_aloadn dL_law_794 rfl rfl ?_
  refine z_aloadn dL_law_795 rfl rfl ?_
  refine z_iloadn dL_law_796 rfl rfl ?_
  refine z_iconst (v := 1) dL_law_797 (by decide) ?_
  refine z_iadd dL_law_798 ?_
  obtain ⟨b2, N3, q4, qa5, qz6, qy7, hw1⟩ := hw
  refine z_soP [.int ((x3 + 1))] q4 ?_
  refine z_iald (N := N3) dL_law_799 qa5 qz6 qy7 ?_
  refine z_aloadn dL_law_800 rfl rfl ?_
  refine z_iloadn dL_law_801 rfl rfl ?_
  refine z_iconst (v := 2) dL_law_802 (by decide) ?_
  refine z_iadd dL_law_803 ?_
  obtain ⟨b9, N10, q11, qa12, qz13, qy14, hw8⟩ := hw1
  refine z_soP [.int ((x3 + 2))] q11 ?_
  refine z_iald (N := N10) dL_law_804 qa12 qz13 qy14 ?_
  refine z_aloadn dL_law_805 rfl rfl ?_
  refine z_iloadn dL_law_806 rfl rfl ?_
  refine z_iconst (v := 3) dL_law_807 (by decide) ?_
  refine z_iadd dL_law_808 ?_
  obtain ⟨b16, N17, q18, qa19, qz20, qy21, hw15⟩ := hw8
  refine z_soP [.int ((x3 + 3))] q18 ?_
  refine z_iald (N := N17) dL_law_809 qa19 qz20 qy21 ?_
  refine z_aloadn dL_law_810 rfl rfl ?_
  refine z_iloadn dL_law_811 rfl rfl ?_
  refine z_iconst (v := 4) dL_law_812 (by decide) ?_
  refine z_iadd dL_law_813 ?_
  obtain ⟨b23, N24, q25, qa26, qz27, qy28, hw22⟩ := hw15
  refine z_soP [.int ((x3 + 4))] q25 ?_
  refine z_iald (N := N24) dL_law_814 qa26 qz27 qy28 ?_
  obtain ⟨P29, ct30, hw31⟩ := hw22
  refine z_callV (h := h) (S := []) (a := a1) (M := mL_law) (As := [.int (zI h b2 (zix (x3 + 1))), .int (zI h b9 (zix (x3 + 2))), .int (zI h b16 (zix (x3 + 3))), .int (zI h b23 (zix (x3 + 4)))]) zc10 rfl eX10_near w1049 w1050 (Or.inl w1048) dL_law_815 (ha1.k 0 rfl) (ha1.lt 0 rfl) rfl (by omega) (Nat.le_of_ble_eq_true rfl) ct30 (fun v36 g37 q33 => ?_)
  obtain ⟨y34, I32, rfl, rfl, q33⟩ := q33
  have hw35 := hw31 y34 I32 q33
  show Z l G _ d Q k n 818 _ (.int y34 :: []) _
  refine z_aloadn dL_law_818 rfl rfl ?_
  refine z_aloadn dL_law_819 rfl rfl ?_
  refine z_iloadn dL_law_820 rfl rfl ?_
  refine z_iconst (v := 1) dL_law_821 (by decide) ?_
  refine z_iadd dL_law_822 ?_
  obtain ⟨b39, N40, q41, qa42, qz43, qy44, hw38⟩ := hw35
  refine z_soP [.int ((x3 + 1))] q41 ?_
  refine z_iald (N := N40) dL_law_823 qa42 qz43 qy44 ?_
  refine z_aloadn dL_law_824 rfl rfl ?_
  refine z_iloadn dL_law_825 rfl rfl ?_
  refine z_iconst (v := 2) dL_law_826 (by decide) ?_
  refine z_iadd dL_law_827 ?_
  obtain ⟨b46, N47, q48, qa49, qz50, qy51, hw45⟩ := hw38
  refine z_soP [.int ((x3 + 2))] q48 ?_
  refine z_iald (N := N47) dL_law_828 qa49 qz50 qy51 ?_
  refine z_aloadn dL_law_829 rfl rfl ?_
  refine z_iloadn dL_law_830 rfl rfl ?_
  refine z_iconst (v := 3) dL_law_831 (by decide) ?_
  refine z_iadd dL_law_832 ?_
  obtain ⟨b53, N54, q55, qa56, qz57, qy58, hw52⟩ := hw45
  refine z_soP [.int ((x3 + 3))] q55 ?_
  refine z_iald (N := N54) dL_law_833 qa56 qz57 qy58 ?_
  refine z_aloadn dL_law_834 rfl rfl ?_
  refine z_iloadn dL_law_835 rfl rfl ?_
  refine z_iconst (v := 4) dL_law_836 (by decide) ?_
  refine z_iadd dL_law_837 ?_
  obtain ⟨b60, N61, q62, qa63, qz64, qy65, hw59⟩ := hw52
  refine z_soP [.int ((x3 + 4))] q62 ?_
  refine z_iald (N := N61) dL_law_838 qa63 qz64 qy65 ?_
  obtain ⟨P66, ct67, hw68⟩ := hw59
  refine z_callV (h := (I32, h.2)) (S := [.int y34]) (a := a2) (M := mL_law) (As := [.int (zI (I32, h.2) b39 (zix (x3 + 1))), .int (zI (I32, h.2) b46 (zix (x3 + 2))), .int (zI (I32, h.2) b53 (zix (x3 + 3))), .int (zI (I32, h.2) b60 (zix (x3 + 4)))]) zc11 rfl eX11_near w1879 w1880 (Or.inl w1878) dL_law_839 (ha2.k 0 rfl) (ha2.lt 0 rfl) rfl (by omega) (Nat.le_of_ble_eq_true rfl) ct67 (fun v73 g74 q70 => ?_)
  obtain ⟨y71, I69, rfl, rfl, q70⟩ := q70
  have hw72 := hw68 y71 I69 q70
  show Z l G _ d Q k n 842 _ (.int y71 :: .int y34 :: []) _
  refine z_icmp_eq (t := 1494) dL_law_842 (by decide) (fun c75 => ?_) (fun c76 => ?_)
  · have hw77 := hw72.1 c75
    exact hw77
  · have hw78 := hw72.2 c76
    refine z_iconst (v := 0) dL_law_845 (by decide) ?_
    exact z_ret (v := some (.int 0)) dL_law_846 ⟨_, rfl, by decide⟩ rfl hw78

theorem sL_law_847 {l : Launch} {G : zG} {d : Nat} {Q : Option Value → zH → Prop} {k n : Nat} {h : zH} (r0 : Option Nat) (a1 : Nat) (a2 : Nat) (x3 : Int32) (ha1 : lo10 h a1) (ha2 : lo11 h a2) (hd9 : 17 ≤ d)
    (hw : (∃ b2 N3, r0 = some b2 ∧ zAr h b2 N3 ∧ 0 ≤ (x3 + 1).toInt ∧ (x3 + 1).toInt < ((N3 : Nat) : Int) ∧ (∃ b9 N10, r0 = some b9 ∧ zAr h b9 N10 ∧ 0 ≤ (x3 + 2).toInt ∧ (x3 + 2).toInt < ((N10 : Nat) : Int) ∧ (∃ b16 N17, r0 = some b16 ∧ zAr h b16 N17 ∧ 0 ≤ (x3 + 3).toInt ∧ (x3 + 3).toInt < ((N17 : Nat) : Int) ∧ (∃ b23 N24, r0 = some b23 ∧ zAr h b23 N24 ∧ 0 ≤ (x3 + 4).toInt ∧ (x3 + 4).toInt < ((N24 : Nat) : Int) ∧ (∃ b30 N31, r0 = some b30 ∧ zAr h b30 N31 ∧ 0 ≤ (x3 + 5).toInt ∧ (x3 + 5).toInt < ((N31 : Nat) : Int) ∧ (∃ P36, CTiG l G YX10_way 7 [va_rf (some a1), .int (zI h b2 (zix (x3 + 1))), .int (zI h b9 (zix (x3 + 2))), .int (zI h b16 (zix (x3 + 3))), .int (zI h b23 (zix (x3 + 4))), .int (zI h b30 (zix (x3 + 5)))] h P36 ∧ ∀ (y41 : Int32) (g44 : zH), P36 y41 g44 → lo10 g44 a1 ∧ lo11 g44 a2 ∧ (∃ b50 N51, r0 = some b50 ∧ zAr g44 b50 N51 ∧ 0 ≤ (x3 + 1).toInt ∧ (x3 + 1).toInt < ((N51 : Nat) : Int) ∧ (∃ b57 N58, r0 = some b57 ∧ zAr g44 b57 N58 ∧ 0 ≤ (x3 + 2).toInt ∧ (x3 + 2).toInt < ((N58 : Nat) : Int) ∧ (∃ b64 N65, r0 = some b64 ∧ zAr g44 b64 N65 ∧ 0 ≤ (x3 + 3).toInt ∧ (x3 + 3).toInt < ((N65 : Nat) : Int) ∧ (∃ b71 N72, r0 = some b71 ∧ zAr g44 b71 N72 ∧ 0 ≤ (x3 + 4).toInt ∧ (x3 + 4).toInt < ((N72 : Nat) : Int) ∧ (∃ b78 N79, r0 = some b78 ∧ zAr g44 b78 N79 ∧ 0 ≤ (x3 + 5).toInt ∧ (x3 + 5).toInt < ((N79 : Nat) : Int) ∧ (∃ P84, CTi l G YX11_way 6 [va_rf (some a2), .int (zI g44 b50 (zix (x3 + 1))), .int (zI g44 b57 (zix (x3 + 2))), .int (zI g44 b64 (zix (x3 + 3))), .int (zI g44 b71 (zix (x3 + 4))), .int (zI g44 b78 (zix (x3 + 5)))] g44 P84 ∧ ∀ (y89 : Int32) (I87 : Nat → Nat → Int32), P84 y89 I87 → ((y41 = y89 → Z l G mL_law d Q k n 1494 [va_rf r0, va_rf (some a1), va_rf (some a2), .int x3] [] (I87, g44.2)) ∧ (¬ y41 = y89 → Q (some (.int 0)) (I87, g44.2)))))))))))))))) :
    Z l G mL_law d Q k n 847 [va_rf r0, va_rf (some a1), va_rf (some a2), .int x3] [] h := by
  refine z_aloadn dL_law_847 rfl rfl ?_
  refine z_aloadn dL_law_848 rfl rfl ?_
  refine z_iloadn dL_law_849 rfl rfl ?_
  refine z_iconst (v := 1) dL_law_850 (by decide) ?_
  refine z_iadd dL_law_851 ?_
  obtain ⟨b2, N3, q4, qa5, qz6, qy7, hw1⟩ := hw
  refine z_soP [.int ((x3 + 1))] q4 ?_
  refine z_iald (N := N3) dL_law_852 qa5 qz6 qy7 ?_
  refine z_aloadn dL_law_853 rfl rfl ?_
  refine z_iloadn dL_law_854 rfl rfl ?_
  refine z_iconst (v := 2) dL_law_855 (by decide) ?_
  refine z_iadd dL_law_856 ?_
  obtain ⟨b9, N10, q11, qa12, qz13, qy14, hw8⟩ := hw1
  refine z_soP [.int ((x3 + 2))] q11 ?_
  refine z_iald (N := N10) dL_law_857 qa12 qz13 qy14 ?_
  refine z_aloadn dL_law_858 rfl rfl ?_
  refine z_iloadn dL_law_859 rfl rfl ?_
  refine z_iconst (v := 3) dL_law_860 (by decide) ?_
  refine z_iadd dL_law_861 ?_
  obtain ⟨b16, N17, q18, qa19, qz20, qy21, hw15⟩ := hw8
  refine z_soP [.int ((x3 + 3))] q18 ?_
  refine z_iald (N := N17) dL_law_862 qa19 qz20 qy21 ?_
  refine z_aloadn dL_law_863 rfl rfl ?_
  refine z_iloadn dL_law_864 rfl rfl ?_
  refine z_iconst (v := 4) dL_law_865 (by decide) ?_
  refine z_iadd dL_law_866 ?_
  obtain ⟨b23, N24, q25, qa26, qz27, qy28, hw22⟩ := hw15
  refine z_soP [.int ((x3 + 4))] q25 ?_
  refine z_iald (N := N24) dL_law_867 qa26 qz27 qy28 ?_
  refine z_aloadn dL_law_868 rfl rfl ?_
  refine z_iloadn dL_law_869 rfl rfl ?_
  refine z_iconst (v := 5) dL_law_870 (by decide) ?_
  refine z_iadd dL_law_871 ?_
  obtain ⟨b30, N31, q32, qa33, qz34, qy35, hw29⟩ := hw22
  refine z_soP [.int ((x3 + 5))] q32 ?_
  refine z_iald (N := N31) dL_law_872 qa33 qz34 qy35 ?_
  obtain ⟨P36, ct37, hw38⟩ := hw29
  refine z_callV (h := h) (S := []) (a := a1) (M := mL_law) (As := [.int (zI h b2 (zix (x3 + 1))), .int (zI h b9 (zix (x3 + 2))), .int (zI h b16 (zix (x3 + 3))), .int (zI h b23 (zix (x3 + 4))), .int (zI h b30 (zix (x3 + 5)))]) zc10 rfl eX10_way w1279 w1280 (Or.inl w1278) dL_law_873 (ha1.k 0 rfl) (ha1.lt 0 rfl) rfl (by omega) (Nat.le_of_ble_eq_true rfl) ct37 (fun v43 g44 q40 => ?_)
  obtain ⟨y41, rfl, q40⟩ := q40
  have hw42 := hw38 y41 g44 q40
  obtain ⟨ho45, hw47⟩ := hw42
  obtain ⟨ho46, hw48⟩ := hw47
  show Z l G _ d Q k n 876 _ (.int y41 :: []) _
  refine z_aloadn dL_law_876 rfl rfl ?_
  refine z_aloadn dL_law_877 rfl rfl ?_
  refine z_iloadn dL_law_878 rfl rfl ?_
  refine z_iconst (v := 1) dL_law_879 (by decide) ?_
  refine z_iadd dL_law_880 ?_
  obtain ⟨b50, N51, q52, qa53, qz54, qy55, hw49⟩ := hw48
  refine z_soP [.int ((x3 + 1))] q52 ?_
  refine z_iald (N := N51) dL_law_881 qa53 qz54 qy55 ?_
  refine z_aloadn dL_law_882 rfl rfl ?_
  refine z_iloadn dL_law_883 rfl rfl ?_
  refine z_iconst (v := 2) dL_law_884 (by decide) ?_
  refine z_iadd dL_law_885 ?_
  obtain ⟨b57, N58, q59, qa60, qz61, qy62, hw56⟩ := hw49
  refine z_soP [.int ((x3 + 2))] q59 ?_
  refine z_iald (N := N58) dL_law_886 qa60 qz61 qy62 ?_
  refine z_aloadn dL_law_887 rfl rfl ?_
  refine z_iloadn dL_law_888 rfl rfl ?_
  refine z_iconst (v := 3) dL_law_889 (by decide) ?_
  refine z_iadd dL_law_890 ?_
  obtain ⟨b64, N65, q66, qa67, qz68, qy69, hw63⟩ := hw56
  refine z_soP [.int ((x3 + 3))] q66 ?_
  refine z_iald (N := N65) dL_law_891 qa67 qz68 qy69 ?_
  refine z_aloadn dL_law_892 rfl rfl ?_
  refine z_iloadn dL_law_893 rfl rfl ?_
  refine z_iconst (v := 4) dL_law_894 (by decide) ?_
  refine z_iadd dL_law_895 ?_
  obtain ⟨b71, N72, q73, qa74, qz75, qy76, hw70⟩ := hw63
  refine z_soP [.int ((x3 + 4))] q73 ?_
  refine z_iald (N := N72) dL_law_896 qa74 qz75 qy76 ?_
  refine z_aloadn dL_law_897 rfl rfl ?_
  refine z_iloadn dL_law_898 rfl rfl ?_
  refine z_iconst (v := 5) dL_law_899 (by decide) ?_
  refine z_iadd dL_law_900 ?_
  obtain ⟨b78, N79, q80, qa81, qz82, qy83, hw77⟩ := hw70
  refine z_soP [.int ((x3 + 5))] q80 ?_
  refine z_iald (N := N79) dL_law_901 qa81 qz82 qy83 ?_
  obtain ⟨P84, ct85, hw86⟩ := hw77
  refine z_callV (h := g44) (S := [.int y41]) (a := a2) (M := mL_law) (As := [.int (zI g44 b50 (zix (x3 + 1))), .int (zI g44 b57 (zix (x3 + 2))), .int (zI g44 b64 (zix (x3 + 3))), .int (zI g44 b71 (zix (x3 + 4))), .int (zI g44 b78 (zix (x3 + 5)))]) zc11 rfl eX11_way w1886 w1887 (Or.inl w1885) dL_law_902 (ho46.k 0 rfl) (ho46.lt 0 rfl) rfl (by omega) (Nat.le_of_ble_eq_true rfl) ct85 (fun v91 g92 q88 => ?_)
  obtain ⟨y89, I87, rfl, rfl, q88⟩ := q88
  have hw90 := hw86 y89 I87 q88
  show Z l G _ d Q k n 905 _ (.int y89 :: .int y41 :: []) _
  refine z_icmp_eq (t := 1494) dL_law_905 (by decide) (fun c93 => ?_) (fun c94 => ?_)
  · have hw95 := hw90.1 c93
    exact hw95
  · have hw96 := hw90.2 c94
    refine z_iconst (v := 0) dL_law_908 (by decide) ?_
    exact z_ret (v := some (.int 0)) dL_law_909 ⟨_, rfl, by decide⟩ rfl hw96

theorem sL_law_910 {l : Launch} {G : zG} {d : Nat} {Q : Option Value → zH → Prop} {k n : Nat} {h : zH} (r0 : Option Nat) (a1 : Nat) (a2 : Nat) (x3 : Int32) (ha1 : lo10 h a1) (ha2 : lo11 h a2) (hd9 : 17 ≤ d)
    (hw : (∃ b2 N3, r0 = some b2 ∧ zAr h b2 N3 ∧ 0 ≤ (x3 + 1).toInt ∧ (x3 + 1).toInt < ((N3 : Nat) : Int) ∧ (∃ b9 N10, r0 = some b9 ∧ zAr h b9 N10 ∧ 0 ≤ (x3 + 2).toInt ∧ (x3 + 2).toInt < ((N10 : Nat) : Int) ∧ (∃ P15, CTiG l G YX10_tour 13 [va_rf (some a1), .int (zI h b2 (zix (x3 + 1))), .int (zI h b9 (zix (x3 + 2)))] h P15 ∧ ∀ (y20 : Int32) (g23 : zH), P15 y20 g23 → lo10 g23 a1 ∧ lo11 g23 a2 ∧ (∃ b29 N30, r0 = some b29 ∧ zAr g23 b29 N30 ∧ 0 ≤ (x3 + 1).toInt ∧ (x3 + 1).toInt < ((N30 : Nat) : Int) ∧ (∃ b36 N37, r0 = some b36 ∧ zAr g23 b36 N37 ∧ 0 ≤ (x3 + 2).toInt ∧ (x3 + 2).toInt < ((N37 : Nat) : Int) ∧ (∃ P42, CTi l G YX11_tour 7 [va_rf (some a2), .int (zI g23 b29 (zix (x3 + 1))), .int (zI g23 b36 (zix (x3 + 2)))] g23 P42 ∧ ∀ (y47 : Int32) (I45 : Nat → Nat → Int32), P42 y47 I45 → ((y20 = y47 → Z l G mL_law d Q k n 1494 [va_rf r0, va_rf (some a1), va_rf (some a2), .int x3] [] (I45, g23.2)) ∧ (¬ y20 = y47 → Q (some (.int 0)) (I45, g23.2)))))))))) :
    Z l G mL_law d Q k n 910 [va_rf r0, va_rf (some a1), va_rf (some a2), .int x3] [] h := by
  refine z_aloadn dL_law_910 rfl rfl ?_
  refine z_aloadn dL_law_911 rfl rfl ?_
  refine z_iloadn dL_law_912 rfl rfl ?_
  refine z_iconst (v := 1) dL_law_913 (by decide) ?_
  refine z_iadd dL_law_914 ?_
  obtain ⟨b2, N3, q4, qa5, qz6, qy7, hw1⟩ := hw
  refine z_soP [.int ((x3 + 1))] q4 ?_
  refine z_iald (N := N3) dL_law_915 qa5 qz6 qy7 ?_
  refine z_aloadn dL_law_916 rfl rfl ?_
  refine z_iloadn dL_law_917 rfl rfl ?_
  refine z_iconst (v := 2) dL_law_918 (by decide) ?_
  refine z_iadd dL_law_919 ?_
  obtain ⟨b9, N10, q11, qa12, qz13, qy14, hw8⟩ := hw1
  refine z_soP [.int ((x3 + 2))] q11 ?_
  refine z_iald (N := N10) dL_law_920 qa12 qz13 qy14 ?_
  obtain ⟨P15, ct16, hw17⟩ := hw8
  refine z_callV (h := h) (S := []) (a := a1) (M := mL_law) (As := [.int (zI h b2 (zix (x3 + 1))), .int (zI h b9 (zix (x3 + 2)))]) zc10 rfl eX10_tour w1335 w1336 (Or.inl w1334) dL_law_921 (ha1.k 0 rfl) (ha1.lt 0 rfl) rfl (by omega) (Nat.le_of_ble_eq_true rfl) ct16 (fun v22 g23 q19 => ?_)
  obtain ⟨y20, rfl, q19⟩ := q19
  have hw21 := hw17 y20 g23 q19
  obtain ⟨ho24, hw26⟩ := hw21
  obtain ⟨ho25, hw27⟩ := hw26
  show Z l G _ d Q k n 924 _ (.int y20 :: []) _
  refine z_aloadn dL_law_924 rfl rfl ?_
  refine z_aloadn dL_law_925 rfl rfl ?_
  refine z_iloadn dL_law_926 rfl rfl ?_
  refine z_iconst (v := 1) dL_law_927 (by decide) ?_
  refine z_iadd dL_law_928 ?_
  obtain ⟨b29, N30, q31, qa32, qz33, qy34, hw28⟩ := hw27
  refine z_soP [.int ((x3 + 1))] q31 ?_
  refine z_iald (N := N30) dL_law_929 qa32 qz33 qy34 ?_
  refine z_aloadn dL_law_930 rfl rfl ?_
  refine z_iloadn dL_law_931 rfl rfl ?_
  refine z_iconst (v := 2) dL_law_932 (by decide) ?_
  refine z_iadd dL_law_933 ?_
  obtain ⟨b36, N37, q38, qa39, qz40, qy41, hw35⟩ := hw28
  refine z_soP [.int ((x3 + 2))] q38 ?_
  refine z_iald (N := N37) dL_law_934 qa39 qz40 qy41 ?_
  obtain ⟨P42, ct43, hw44⟩ := hw35
  refine z_callV (h := g23) (S := [.int y20]) (a := a2) (M := mL_law) (As := [.int (zI g23 b29 (zix (x3 + 1))), .int (zI g23 b36 (zix (x3 + 2)))]) zc11 rfl eX11_tour w1915 w1916 (Or.inl w1914) dL_law_935 (ho25.k 0 rfl) (ho25.lt 0 rfl) rfl (by omega) (Nat.le_of_ble_eq_true rfl) ct43 (fun v49 g50 q46 => ?_)
  obtain ⟨y47, I45, rfl, rfl, q46⟩ := q46
  have hw48 := hw44 y47 I45 q46
  show Z l G _ d Q k n 938 _ (.int y47 :: .int y20 :: []) _
  refine z_icmp_eq (t := 1494) dL_law_938 (by decide) (fun c51 => ?_) (fun c52 => ?_)
  · have hw53 := hw48.1 c51
    exact hw53
  · have hw54 := hw48.2 c52
    refine z_iconst (v := 0) dL_law_941 (by decide) ?_
    exact z_ret (v := some (.int 0)) dL_law_942 ⟨_, rfl, by decide⟩ rfl hw54

theorem sL_law_943 {l : Launch} {G : zG} {d : Nat} {Q : Option Value → zH → Prop} {k n : Nat} {h : zH} (r0 : Option Nat) (a1 : Nat) (a2 : Nat) (x3 : Int32) (ha1 : lo10 h a1) (ha2 : lo11 h a2) (hd9 : 17 ≤ d)
    (hw : (∃ b2 N3, r0 = some b2 ∧ zAr h b2 N3 ∧ 0 ≤ (x3 + 1).toInt ∧ (x3 + 1).toInt < ((N3 : Nat) : Int) ∧ (∃ b9 N10, r0 = some b9 ∧ zAr h b9 N10 ∧ 0 ≤ (x3 + 2).toInt ∧ (x3 + 2).toInt < ((N10 : Nat) : Int) ∧ (∃ b16 N17, r0 = some b16 ∧ zAr h b16 N17 ∧ 0 ≤ (x3 + 3).toInt ∧ (x3 + 3).toInt < ((N17 : Nat) : Int) ∧ (∃ P22, CTi l G YX10_sign 3 [va_rf (some a1), .int (zI h b2 (zix (x3 + 1))), .int (zI h b9 (zix (x3 + 2))), .int (zI h b16 (zix (x3 + 3)))] h P22 ∧ ∀ (y27 : Int32) (I25 : Nat → Nat → Int32), P22 y27 I25 → (∃ b32 N33, r0 = some b32 ∧ zAr (I25, h.2) b32 N33 ∧ 0 ≤ (x3 + 1).toInt ∧ (x3 + 1).toInt < ((N33 : Nat) : Int) ∧ (∃ b39 N40, r0 = some b39 ∧ zAr (I25, h.2) b39 N40 ∧ 0 ≤ (x3 + 2).toInt ∧ (x3 + 2).toInt < ((N40 : Nat) : Int) ∧ (∃ b46 N47, r0 = some b46 ∧ zAr (I25, h.2) b46 N47 ∧ 0 ≤ (x3 + 3).toInt ∧ (x3 + 3).toInt < ((N47 : Nat) : Int) ∧ (∃ P52, CTi l G YX11_sign 3 [va_rf (some a2), .int (zI (I25, h.2) b32 (zix (x3 + 1))), .int (zI (I25, h.2) b39 (zix (x3 + 2))), .int (zI (I25, h.2) b46 (zix (x3 + 3)))] (I25, h.2) P52 ∧ ∀ (y57 : Int32) (I55 : Nat → Nat → Int32), P52 y57 I55 → ((y27 = y57 → Z l G mL_law d Q k n 1494 [va_rf r0, va_rf (some a1), va_rf (some a2), .int x3] [] (I55, h.2)) ∧ (¬ y27 = y57 → Q (some (.int 0)) (I55, h.2)))))))))))) :
    Z l G mL_law d Q k n 943 [va_rf r0, va_rf (some a1), va_rf (some a2), .int x3] [] h := by
  refine z_aloadn dL_law_943 rfl rfl ?_
  refine z_aloadn dL_law_944 rfl rfl ?_
  refine z_iloadn dL_law_945 rfl rfl ?_
  refine z_iconst (v := 1) dL_law_946 (by decide) ?_
  refine z_iadd dL_law_947 ?_
  obtain ⟨b2, N3, q4, qa5, qz6, qy7, hw1⟩ := hw
  refine z_soP [.int ((x3 + 1))] q4 ?_
  refine z_iald (N := N3) dL_law_948 qa5 qz6 qy7 ?_
  refine z_aloadn dL_law_949 rfl rfl ?_
  refine z_iloadn dL_law_950 rfl rfl ?_
  refine z_iconst (v := 2) dL_law_951 (by decide) ?_
  refine z_iadd dL_law_952 ?_
  obtain ⟨b9, N10, q11, qa12, qz13, qy14, hw8⟩ := hw1
  refine z_soP [.int ((x3 + 2))] q11 ?_
  refine z_iald (N := N10) dL_law_953 qa12 qz13 qy14 ?_
  refine z_aloadn dL_law_954 rfl rfl ?_
  refine z_iloadn dL_law_955 rfl rfl ?_
  refine z_iconst (v := 3) dL_law_956 (by decide) ?_
  refine z_iadd dL_law_957 ?_
  obtain ⟨b16, N17, q18, qa19, qz20, qy21, hw15⟩ := hw8
  refine z_soP [.int ((x3 + 3))] q18 ?_
  refine z_iald (N := N17) dL_law_958 qa19 qz20 qy21 ?_
  obtain ⟨P22, ct23, hw24⟩ := hw15
  refine z_callV (h := h) (S := []) (a := a1) (M := mL_law) (As := [.int (zI h b2 (zix (x3 + 1))), .int (zI h b9 (zix (x3 + 2))), .int (zI h b16 (zix (x3 + 3)))]) zc10 rfl eX10_sign w1365 w1366 (Or.inl w1364) dL_law_959 (ha1.k 0 rfl) (ha1.lt 0 rfl) rfl (by omega) (Nat.le_of_ble_eq_true rfl) ct23 (fun v29 g30 q26 => ?_)
  obtain ⟨y27, I25, rfl, rfl, q26⟩ := q26
  have hw28 := hw24 y27 I25 q26
  show Z l G _ d Q k n 962 _ (.int y27 :: []) _
  refine z_aloadn dL_law_962 rfl rfl ?_
  refine z_aloadn dL_law_963 rfl rfl ?_
  refine z_iloadn dL_law_964 rfl rfl ?_
  refine z_iconst (v := 1) dL_law_965 (by decide) ?_
  refine z_iadd dL_law_966 ?_
  obtain ⟨b32, N33, q34, qa35, qz36, qy37, hw31⟩ := hw28
  refine z_soP [.int ((x3 + 1))] q34 ?_
  refine z_iald (N := N33) dL_law_967 qa35 qz36 qy37 ?_
  refine z_aloadn dL_law_968 rfl rfl ?_
  refine z_iloadn dL_law_969 rfl rfl ?_
  refine z_iconst (v := 2) dL_law_970 (by decide) ?_
  refine z_iadd dL_law_971 ?_
  obtain ⟨b39, N40, q41, qa42, qz43, qy44, hw38⟩ := hw31
  refine z_soP [.int ((x3 + 2))] q41 ?_
  refine z_iald (N := N40) dL_law_972 qa42 qz43 qy44 ?_
  refine z_aloadn dL_law_973 rfl rfl ?_
  refine z_iloadn dL_law_974 rfl rfl ?_
  refine z_iconst (v := 3) dL_law_975 (by decide) ?_
  refine z_iadd dL_law_976 ?_
  obtain ⟨b46, N47, q48, qa49, qz50, qy51, hw45⟩ := hw38
  refine z_soP [.int ((x3 + 3))] q48 ?_
  refine z_iald (N := N47) dL_law_977 qa49 qz50 qy51 ?_
  obtain ⟨P52, ct53, hw54⟩ := hw45
  refine z_callV (h := (I25, h.2)) (S := [.int y27]) (a := a2) (M := mL_law) (As := [.int (zI (I25, h.2) b32 (zix (x3 + 1))), .int (zI (I25, h.2) b39 (zix (x3 + 2))), .int (zI (I25, h.2) b46 (zix (x3 + 3)))]) zc11 rfl eX11_sign w1931 w1932 (Or.inl w1930) dL_law_978 (ha2.k 0 rfl) (ha2.lt 0 rfl) rfl (by omega) (Nat.le_of_ble_eq_true rfl) ct53 (fun v59 g60 q56 => ?_)
  obtain ⟨y57, I55, rfl, rfl, q56⟩ := q56
  have hw58 := hw54 y57 I55 q56
  show Z l G _ d Q k n 981 _ (.int y57 :: .int y27 :: []) _
  refine z_icmp_eq (t := 1494) dL_law_981 (by decide) (fun c61 => ?_) (fun c62 => ?_)
  · have hw63 := hw58.1 c61
    exact hw63
  · have hw64 := hw58.2 c62
    refine z_iconst (v := 0) dL_law_984 (by decide) ?_
    exact z_ret (v := some (.int 0)) dL_law_985 ⟨_, rfl, by decide⟩ rfl hw64

theorem sL_law_986 {l : Launch} {G : zG} {d : Nat} {Q : Option Value → zH → Prop} {k n : Nat} {h : zH} (r0 : Option Nat) (a1 : Nat) (a2 : Nat) (x3 : Int32) (ha1 : lo10 h a1) (ha2 : lo11 h a2) (hd9 : 17 ≤ d)
    (hw : (∃ b2 N3, r0 = some b2 ∧ zAr h b2 N3 ∧ 0 ≤ (x3 + 1).toInt ∧ (x3 + 1).toInt < ((N3 : Nat) : Int) ∧ (∃ b9 N10, r0 = some b9 ∧ zAr h b9 N10 ∧ 0 ≤ (x3 + 2).toInt ∧ (x3 + 2).toInt < ((N10 : Nat) : Int) ∧ (∃ b16 N17, r0 = some b16 ∧ zAr h b16 N17 ∧ 0 ≤ (x3 + 3).toInt ∧ (x3 + 3).toInt < ((N17 : Nat) : Int) ∧ (∃ P22, CTi l G YX10_makers 7 [va_rf (some a1), .int (zI h b2 (zix (x3 + 1))), .int (zI h b9 (zix (x3 + 2))), .int (zI h b16 (zix (x3 + 3)))] h P22 ∧ ∀ (y27 : Int32) (I25 : Nat → Nat → Int32), P22 y27 I25 → (∃ b32 N33, r0 = some b32 ∧ zAr (I25, h.2) b32 N33 ∧ 0 ≤ (x3 + 1).toInt ∧ (x3 + 1).toInt < ((N33 : Nat) : Int) ∧ (∃ b39 N40, r0 = some b39 ∧ zAr (I25, h.2) b39 N40 ∧ 0 ≤ (x3 + 2).toInt ∧ (x3 + 2).toInt < ((N40 : Nat) : Int) ∧ (∃ b46 N47, r0 = some b46 ∧ zAr (I25, h.2) b46 N47 ∧ 0 ≤ (x3 + 3).toInt ∧ (x3 + 3).toInt < ((N47 : Nat) : Int) ∧ (∃ P52, CTi l G YX11_makers 5 [va_rf (some a2), .int (zI (I25, h.2) b32 (zix (x3 + 1))), .int (zI (I25, h.2) b39 (zix (x3 + 2))), .int (zI (I25, h.2) b46 (zix (x3 + 3)))] (I25, h.2) P52 ∧ ∀ (y57 : Int32) (I55 : Nat → Nat → Int32), P52 y57 I55 → ((y27 = y57 → Z l G mL_law d Q k n 1494 [va_rf r0, va_rf (some a1), va_rf (some a2), .int x3] [] (I55, h.2)) ∧ (¬ y27 = y57 → Q (some (.int 0)) (I55, h.2)))))))))))) :
    Z l G mL_law d Q k n 986 [va_rf r0, va_rf (some a1), va_rf (some a2), .int x3] [] h := by
  refine z_aloadn dL_law_986 rfl rfl ?_
  refine z_aloadn dL_law_987 rfl rfl ?_
  refine z_iloadn dL_law_988 rfl rfl ?_
  refine z_iconst (v := 1) dL_law_989 (by decide) ?_
  refine z_iadd dL_law_990 ?_
  obtain ⟨b2, N3, q4, qa5, qz6, qy7, hw1⟩ := hw
  refine z_soP [.int ((x3 + 1))] q4 ?_
  refine z_iald (N := N3) dL_law_991 qa5 qz6 qy7 ?_
  refine z_aloadn dL_law_992 rfl rfl ?_
  refine z_iloadn dL_law_993 rfl rfl ?_
  refine z_iconst (v := 2) dL_law_994 (by decide) ?_
  refine z_iadd dL_law_995 ?_
  obtain ⟨b9, N10, q11, qa12, qz13, qy14, hw8⟩ := hw1
  refine z_soP [.int ((x3 + 2))] q11 ?_
  refine z_iald (N := N10) dL_law_996 qa12 qz13 qy14 ?_
  refine z_aloadn dL_law_997 rfl rfl ?_
  refine z_iloadn dL_law_998 rfl rfl ?_
  refine z_iconst (v := 3) dL_law_999 (by decide) ?_
  refine z_iadd dL_law_1000 ?_
  obtain ⟨b16, N17, q18, qa19, qz20, qy21, hw15⟩ := hw8
  refine z_soP [.int ((x3 + 3))] q18 ?_
  refine z_iald (N := N17) dL_law_1001 qa19 qz20 qy21 ?_
  obtain ⟨P22, ct23, hw24⟩ := hw15
  refine z_callV (h := h) (S := []) (a := a1) (M := mL_law) (As := [.int (zI h b2 (zix (x3 + 1))), .int (zI h b9 (zix (x3 + 2))), .int (zI h b16 (zix (x3 + 3)))]) zc10 rfl eX10_makers w1382 w1383 (Or.inl w1381) dL_law_1002 (ha1.k 0 rfl) (ha1.lt 0 rfl) rfl (by omega) (Nat.le_of_ble_eq_true rfl) ct23 (fun v29 g30 q26 => ?_)
  obtain ⟨y27, I25, rfl, rfl, q26⟩ := q26
  have hw28 := hw24 y27 I25 q26
  show Z l G _ d Q k n 1005 _ (.int y27 :: []) _
  refine z_aloadn dL_law_1005 rfl rfl ?_
  refine z_aloadn dL_law_1006 rfl rfl ?_
  refine z_iloadn dL_law_1007 rfl rfl ?_
  refine z_iconst (v := 1) dL_law_1008 (by decide) ?_
  refine z_iadd dL_law_1009 ?_
  obtain ⟨b32, N33, q34, qa35, qz36, qy37, hw31⟩ := hw28
  refine z_soP [.int ((x3 + 1))] q34 ?_
  refine z_iald (N := N33) dL_law_1010 qa35 qz36 qy37 ?_
  refine z_aloadn dL_law_1011 rfl rfl ?_
  refine z_iloadn dL_law_1012 rfl rfl ?_
  refine z_iconst (v := 2) dL_law_1013 (by decide) ?_
  refine z_iadd dL_law_1014 ?_
  obtain ⟨b39, N40, q41, qa42, qz43, qy44, hw38⟩ := hw31
  refine z_soP [.int ((x3 + 2))] q41 ?_
  refine z_iald (N := N40) dL_law_1015 qa42 qz43 qy44 ?_
  refine z_aloadn dL_law_1016 rfl rfl ?_
  refine z_iloadn dL_law_1017 rfl rfl ?_
  refine z_iconst (v := 3) dL_law_1018 (by decide) ?_
  refine z_iadd dL_law_1019 ?_
  obtain ⟨b46, N47, q48, qa49, qz50, qy51, hw45⟩ := hw38
  refine z_soP [.int ((x3 + 3))] q48 ?_
  refine z_iald (N := N47) dL_law_1020 qa49 qz50 qy51 ?_
  obtain ⟨P52, ct53, hw54⟩ := hw45
  refine z_callV (h := (I25, h.2)) (S := [.int y27]) (a := a2) (M := mL_law) (As := [.int (zI (I25, h.2) b32 (zix (x3 + 1))), .int (zI (I25, h.2) b39 (zix (x3 + 2))), .int (zI (I25, h.2) b46 (zix (x3 + 3)))]) zc11 rfl eX11_makers w1943 w1944 (Or.inl w1942) dL_law_1021 (ha2.k 0 rfl) (ha2.lt 0 rfl) rfl (by omega) (Nat.le_of_ble_eq_true rfl) ct53 (fun v59 g60 q56 => ?_)
  obtain ⟨y57, I55, rfl, rfl, q56⟩ := q56
  have hw58 := hw54 y57 I55 q56
  show Z l G _ d Q k n 1024 _ (.int y57 :: .int y27 :: []) _
  refine z_icmp_eq (t := 1494) dL_law_1024 (by decide) (fun c61 => ?_) (fun c62 => ?_)
  · have hw63 := hw58.1 c61
    exact hw63
  · have hw64 := hw58.2 c62
    refine z_iconst (v := 0) dL_law_1027 (by decide) ?_
    exact z_ret (v := some (.int 0)) dL_law_1028 ⟨_, rfl, by decide⟩ rfl hw64

theorem sL_law_1029 {l : Launch} {G : zG} {d : Nat} {Q : Option Value → zH → Prop} {k n : Nat} {h : zH} (r0 : Option Nat) (a1 : Nat) (a2 : Nat) (x3 : Int32) (ha1 : lo10 h a1) (ha2 : lo11 h a2) (hd9 : 17 ≤ d)
    (hw : (∃ b2 N3, r0 = some b2 ∧ zAr h b2 N3 ∧ 0 ≤ (x3 + 1).toInt ∧ (x3 + 1).toInt < ((N3 : Nat) : Int) ∧ (∃ b9 N10, r0 = some b9 ∧ zAr h b9 N10 ∧ 0 ≤ (x3 + 2).toInt ∧ (x3 + 2).toInt < ((N10 : Nat) : Int) ∧ (∃ b16 N17, r0 = some b16 ∧ zAr h b16 N17 ∧ 0 ≤ (x3 + 3).toInt ∧ (x3 + 3).toInt < ((N17 : Nat) : Int) ∧ (∃ P22, CTi l G YX10_follows 7 [va_rf (some a1), .int (zI h b2 (zix (x3 + 1))), .int (zI h b9 (zix (x3 + 2))), .int (zI h b16 (zix (x3 + 3)))] h P22 ∧ ∀ (y27 : Int32) (I25 : Nat → Nat → Int32), P22 y27 I25 → (∃ b32 N33, r0 = some b32 ∧ zAr (I25, h.2) b32 N33 ∧ 0 ≤ (x3 + 1).toInt ∧ (x3 + 1).toInt < ((N33 : Nat) : Int) ∧ (∃ b39 N40, r0 = some b39 ∧ zAr (I25, h.2) b39 N40 ∧ 0 ≤ (x3 + 2).toInt ∧ (x3 + 2).toInt < ((N40 : Nat) : Int) ∧ (∃ b46 N47, r0 = some b46 ∧ zAr (I25, h.2) b46 N47 ∧ 0 ≤ (x3 + 3).toInt ∧ (x3 + 3).toInt < ((N47 : Nat) : Int) ∧ (∃ P52, CTi l G YX11_follows 7 [va_rf (some a2), .int (zI (I25, h.2) b32 (zix (x3 + 1))), .int (zI (I25, h.2) b39 (zix (x3 + 2))), .int (zI (I25, h.2) b46 (zix (x3 + 3)))] (I25, h.2) P52 ∧ ∀ (y57 : Int32) (I55 : Nat → Nat → Int32), P52 y57 I55 → ((y27 = y57 → Z l G mL_law d Q k n 1494 [va_rf r0, va_rf (some a1), va_rf (some a2), .int x3] [] (I55, h.2)) ∧ (¬ y27 = y57 → Q (some (.int 0)) (I55, h.2)))))))))))) :
    Z l G mL_law d Q k n 1029 [va_rf r0, va_rf (some a1), va_rf (some a2), .int x3] [] h := by
  refine z_aloadn dL_law_1029 rfl rfl ?_
  refine z_aloadn dL_law_1030 rfl rfl ?_
  refine z_iloadn dL_law_1031 rfl rfl ?_
  refine z_iconst (v := 1) dL_law_1032 (by decide) ?_
  refine z_iadd dL_law_1033 ?_
  obtain ⟨b2, N3, q4, qa5, qz6, qy7, hw1⟩ := hw
  refine z_soP [.int ((x3 + 1))] q4 ?_
  refine z_iald (N := N3) dL_law_1034 qa5 qz6 qy7 ?_
  refine z_aloadn dL_law_1035 rfl rfl ?_
  refine z_iloadn dL_law_1036 rfl rfl ?_
  refine z_iconst (v := 2) dL_law_1037 (by decide) ?_
  refine z_iadd dL_law_1038 ?_
  obtain ⟨b9, N10, q11, qa12, qz13, qy14, hw8⟩ := hw1
  refine z_soP [.int ((x3 + 2))] q11 ?_
  refine z_iald (N := N10) dL_law_1039 qa12 qz13 qy14 ?_
  refine z_aloadn dL_law_1040 rfl rfl ?_
  refine z_iloadn dL_law_1041 rfl rfl ?_
  refine z_iconst (v := 3) dL_law_1042 (by decide) ?_
  refine z_iadd dL_law_1043 ?_
  obtain ⟨b16, N17, q18, qa19, qz20, qy21, hw15⟩ := hw8
  refine z_soP [.int ((x3 + 3))] q18 ?_
  refine z_iald (N := N17) dL_law_1044 qa19 qz20 qy21 ?_
  obtain ⟨P22, ct23, hw24⟩ := hw15
  refine z_callV (h := h) (S := []) (a := a1) (M := mL_law) (As := [.int (zI h b2 (zix (x3 + 1))), .int (zI h b9 (zix (x3 + 2))), .int (zI h b16 (zix (x3 + 3)))]) zc10 rfl eX10_follows w1413 w1414 (Or.inl w1412) dL_law_1045 (ha1.k 0 rfl) (ha1.lt 0 rfl) rfl (by omega) (Nat.le_of_ble_eq_true rfl) ct23 (fun v29 g30 q26 => ?_)
  obtain ⟨y27, I25, rfl, rfl, q26⟩ := q26
  have hw28 := hw24 y27 I25 q26
  show Z l G _ d Q k n 1048 _ (.int y27 :: []) _
  refine z_aloadn dL_law_1048 rfl rfl ?_
  refine z_aloadn dL_law_1049 rfl rfl ?_
  refine z_iloadn dL_law_1050 rfl rfl ?_
  refine z_iconst (v := 1) dL_law_1051 (by decide) ?_
  refine z_iadd dL_law_1052 ?_
  obtain ⟨b32, N33, q34, qa35, qz36, qy37, hw31⟩ := hw28
  refine z_soP [.int ((x3 + 1))] q34 ?_
  refine z_iald (N := N33) dL_law_1053 qa35 qz36 qy37 ?_
  refine z_aloadn dL_law_1054 rfl rfl ?_
  refine z_iloadn dL_law_1055 rfl rfl ?_
  refine z_iconst (v := 2) dL_law_1056 (by decide) ?_
  refine z_iadd dL_law_1057 ?_
  obtain ⟨b39, N40, q41, qa42, qz43, qy44, hw38⟩ := hw31
  refine z_soP [.int ((x3 + 2))] q41 ?_
  refine z_iald (N := N40) dL_law_1058 qa42 qz43 qy44 ?_
  refine z_aloadn dL_law_1059 rfl rfl ?_
  refine z_iloadn dL_law_1060 rfl rfl ?_
  refine z_iconst (v := 3) dL_law_1061 (by decide) ?_
  refine z_iadd dL_law_1062 ?_
  obtain ⟨b46, N47, q48, qa49, qz50, qy51, hw45⟩ := hw38
  refine z_soP [.int ((x3 + 3))] q48 ?_
  refine z_iald (N := N47) dL_law_1063 qa49 qz50 qy51 ?_
  obtain ⟨P52, ct53, hw54⟩ := hw45
  refine z_callV (h := (I25, h.2)) (S := [.int y27]) (a := a2) (M := mL_law) (As := [.int (zI (I25, h.2) b32 (zix (x3 + 1))), .int (zI (I25, h.2) b39 (zix (x3 + 2))), .int (zI (I25, h.2) b46 (zix (x3 + 3)))]) zc11 rfl eX11_follows w1959 w1960 (Or.inl w1958) dL_law_1064 (ha2.k 0 rfl) (ha2.lt 0 rfl) rfl (by omega) (Nat.le_of_ble_eq_true rfl) ct53 (fun v59 g60 q56 => ?_)
  obtain ⟨y57, I55, rfl, rfl, q56⟩ := q56
  have hw58 := hw54 y57 I55 q56
  show Z l G _ d Q k n 1067 _ (.int y57 :: .int y27 :: []) _
  refine z_icmp_eq (t := 1494) dL_law_1067 (by decide) (fun c61 => ?_) (fun c62 => ?_)
  · have hw63 := hw58.1 c61
    exact hw63
  · have hw64 := hw58.2 c62
    refine z_iconst (v := 0) dL_law_1070 (by decide) ?_
    exact z_ret (v := some (.int 0)) dL_law_1071 ⟨_, rfl, by decide⟩ rfl hw64

theorem sL_law_1072 {l : Launch} {G : zG} {d : Nat} {Q : Option Value → zH → Prop} {k n : Nat} {h : zH} (r0 : Option Nat) (a1 : Nat) (a2 : Nat) (x3 : Int32) (ha1 : lo10 h a1) (ha2 : lo11 h a2) (hd9 : 17 ≤ d)
    (hw : (∃ b2 N3, r0 = some b2 ∧ zAr h b2 N3 ∧ 0 ≤ (x3 + 1).toInt ∧ (x3 + 1).toInt < ((N3 : Nat) : Int) ∧ (∃ b9 N10, r0 = some b9 ∧ zAr h b9 N10 ∧ 0 ≤ (x3 + 2).toInt ∧ (x3 + 2).toInt < ((N10 : Nat) : Int) ∧ (∃ b16 N17, r0 = some b16 ∧ zAr h b16 N17 ∧ 0 ≤ (x3 + 3).toInt ∧ (x3 + 3).toInt < ((N17 : Nat) : Int) ∧ (∃ P22, CTi l G YX10_walks 16 [va_rf (some a1), .int (zI h b2 (zix (x3 + 1))), .int (zI h b9 (zix (x3 + 2))), .int (zI h b16 (zix (x3 + 3)))] h P22 ∧ ∀ (y27 : Int32) (I25 : Nat → Nat → Int32), P22 y27 I25 → (∃ b32 N33, r0 = some b32 ∧ zAr (I25, h.2) b32 N33 ∧ 0 ≤ (x3 + 1).toInt ∧ (x3 + 1).toInt < ((N33 : Nat) : Int) ∧ (∃ b39 N40, r0 = some b39 ∧ zAr (I25, h.2) b39 N40 ∧ 0 ≤ (x3 + 2).toInt ∧ (x3 + 2).toInt < ((N40 : Nat) : Int) ∧ (∃ b46 N47, r0 = some b46 ∧ zAr (I25, h.2) b46 N47 ∧ 0 ≤ (x3 + 3).toInt ∧ (x3 + 3).toInt < ((N47 : Nat) : Int) ∧ (∃ P52, CTi l G YX11_walks 8 [va_rf (some a2), .int (zI (I25, h.2) b32 (zix (x3 + 1))), .int (zI (I25, h.2) b39 (zix (x3 + 2))), .int (zI (I25, h.2) b46 (zix (x3 + 3)))] (I25, h.2) P52 ∧ ∀ (y57 : Int32) (I55 : Nat → Nat → Int32), P52 y57 I55 → ((y27 = y57 → Z l G mL_law d Q k n 1494 [va_rf r0, va_rf (some a1), va_rf (some a2), .int x3] [] (I55, h.2)) ∧ (¬ y27 = y57 → Q (some (.int 0)) (I55, h.2)))))))))))) :
    Z l G mL_law d Q k n 1072 [va_rf r0, va_rf (some a1), va_rf (some a2), .int x3] [] h := by
  refine z_aloadn dL_law_1072 rfl rfl ?_
  refine z_aloadn dL_law_1073 rfl rfl ?_
  refine z_iloadn dL_law_1074 rfl rfl ?_
  refine z_iconst (v := 1) dL_law_1075 (by decide) ?_
  refine z_iadd dL_law_1076 ?_
  obtain ⟨b2, N3, q4, qa5, qz6, qy7, hw1⟩ := hw
  refine z_soP [.int ((x3 + 1))] q4 ?_
  refine z_iald (N := N3) dL_law_1077 qa5 qz6 qy7 ?_
  refine z_aloadn dL_law_1078 rfl rfl ?_
  refine z_iloadn dL_law_1079 rfl rfl ?_
  refine z_iconst (v := 2) dL_law_1080 (by decide) ?_
  refine z_iadd dL_law_1081 ?_
  obtain ⟨b9, N10, q11, qa12, qz13, qy14, hw8⟩ := hw1
  refine z_soP [.int ((x3 + 2))] q11 ?_
  refine z_iald (N := N10) dL_law_1082 qa12 qz13 qy14 ?_
  refine z_aloadn dL_law_1083 rfl rfl ?_
  refine z_iloadn dL_law_1084 rfl rfl ?_
  refine z_iconst (v := 3) dL_law_1085 (by decide) ?_
  refine z_iadd dL_law_1086 ?_
  obtain ⟨b16, N17, q18, qa19, qz20, qy21, hw15⟩ := hw8
  refine z_soP [.int ((x3 + 3))] q18 ?_
  refine z_iald (N := N17) dL_law_1087 qa19 qz20 qy21 ?_
  obtain ⟨P22, ct23, hw24⟩ := hw15
  refine z_callV (h := h) (S := []) (a := a1) (M := mL_law) (As := [.int (zI h b2 (zix (x3 + 1))), .int (zI h b9 (zix (x3 + 2))), .int (zI h b16 (zix (x3 + 3)))]) zc10 rfl eX10_walks w1422 w1423 (Or.inl w1421) dL_law_1088 (ha1.k 0 rfl) (ha1.lt 0 rfl) rfl (by omega) (Nat.le_of_ble_eq_true rfl) ct23 (fun v29 g30 q26 => ?_)
  obtain ⟨y27, I25, rfl, rfl, q26⟩ := q26
  have hw28 := hw24 y27 I25 q26
  show Z l G _ d Q k n 1091 _ (.int y27 :: []) _
  refine z_aloadn dL_law_1091 rfl rfl ?_
  refine z_aloadn dL_law_1092 rfl rfl ?_
  refine z_iloadn dL_law_1093 rfl rfl ?_
  refine z_iconst (v := 1) dL_law_1094 (by decide) ?_
  refine z_iadd dL_law_1095 ?_
  obtain ⟨b32, N33, q34, qa35, qz36, qy37, hw31⟩ := hw28
  refine z_soP [.int ((x3 + 1))] q34 ?_
  refine z_iald (N := N33) dL_law_1096 qa35 qz36 qy37 ?_
  refine z_aloadn dL_law_1097 rfl rfl ?_
  refine z_iloadn dL_law_1098 rfl rfl ?_
  refine z_iconst (v := 2) dL_law_1099 (by decide) ?_
  refine z_iadd dL_law_1100 ?_
  obtain ⟨b39, N40, q41, qa42, qz43, qy44, hw38⟩ := hw31
  refine z_soP [.int ((x3 + 2))] q41 ?_
  refine z_iald (N := N40) dL_law_1101 qa42 qz43 qy44 ?_
  refine z_aloadn dL_law_1102 rfl rfl ?_
  refine z_iloadn dL_law_1103 rfl rfl ?_
  refine z_iconst (v := 3) dL_law_1104 (by decide) ?_
  refine z_iadd dL_law_1105 ?_
  obtain ⟨b46, N47, q48, qa49, qz50, qy51, hw45⟩ := hw38
  refine z_soP [.int ((x3 + 3))] q48 ?_
  refine z_iald (N := N47) dL_law_1106 qa49 qz50 qy51 ?_
  obtain ⟨P52, ct53, hw54⟩ := hw45
  refine z_callV (h := (I25, h.2)) (S := [.int y27]) (a := a2) (M := mL_law) (As := [.int (zI (I25, h.2) b32 (zix (x3 + 1))), .int (zI (I25, h.2) b39 (zix (x3 + 2))), .int (zI (I25, h.2) b46 (zix (x3 + 3)))]) zc11 rfl eX11_walks w1971 w1972 (Or.inl w1970) dL_law_1107 (ha2.k 0 rfl) (ha2.lt 0 rfl) rfl (by omega) (Nat.le_of_ble_eq_true rfl) ct53 (fun v59 g60 q56 => ?_)
  obtain ⟨y57, I55, rfl, rfl, q56⟩ := q56
  have hw58 := hw54 y57 I55 q56
  show Z l G _ d Q k n 1110 _ (.int y57 :: .int y27 :: []) _
  refine z_icmp_eq (t := 1494) dL_law_1110 (by decide) (fun c61 => ?_) (fun c62 => ?_)
  · have hw63 := hw58.1 c61
    exact hw63
  · have hw64 := hw58.2 c62
    refine z_iconst (v := 0) dL_law_1113 (by decide) ?_
    exact z_ret (v := some (.int 0)) dL_law_1114 ⟨_, rfl, by decide⟩ rfl hw64

theorem sL_law_1115 {l : Launch} {G : zG} {d : Nat} {Q : Option Value → zH → Prop} {k n : Nat} {h : zH} (r0 : Option Nat) (a1 : Nat) (a2 : Nat) (x3 : Int32) (ha1 : lo10 h a1) (ha2 : lo11 h a2) (hd9 : 17 ≤ d)
    (hw : (∃ b2 N3, r0 = some b2 ∧ zAr h b2 N3 ∧ 0 ≤ (x3 + 1).toInt ∧ (x3 + 1).toInt < ((N3 : Nat) : Int) ∧ (∃ b9 N10, r0 = some b9 ∧ zAr h b9 N10 ∧ 0 ≤ (x3 + 2).toInt ∧ (x3 + 2).toInt < ((N10 : Nat) : Int) ∧ (∃ b16 N17, r0 = some b16 ∧ zAr h b16 N17 ∧ 0 ≤ (x3 + 3).toInt ∧ (x3 + 3).toInt < ((N17 : Nat) : Int) ∧ (∃ b23 N24, r0 = some b23 ∧ zAr h b23 N24 ∧ 0 ≤ (x3 + 4).toInt ∧ (x3 + 4).toInt < ((N24 : Nat) : Int) ∧ (∃ P29, CTi l G YX10_drawn 6 [va_rf (some a1), .int (zI h b2 (zix (x3 + 1))), .int (zI h b9 (zix (x3 + 2))), .int (zI h b16 (zix (x3 + 3))), .int (zI h b23 (zix (x3 + 4)))] h P29 ∧ ∀ (y34 : Int32) (I32 : Nat → Nat → Int32), P29 y34 I32 → (∃ b39 N40, r0 = some b39 ∧ zAr (I32, h.2) b39 N40 ∧ 0 ≤ (x3 + 1).toInt ∧ (x3 + 1).toInt < ((N40 : Nat) : Int) ∧ (∃ b46 N47, r0 = some b46 ∧ zAr (I32, h.2) b46 N47 ∧ 0 ≤ (x3 + 2).toInt ∧ (x3 + 2).toInt < ((N47 : Nat) : Int) ∧ (∃ b53 N54, r0 = some b53 ∧ zAr (I32, h.2) b53 N54 ∧ 0 ≤ (x3 + 3).toInt ∧ (x3 + 3).toInt < ((N54 : Nat) : Int) ∧ (∃ b60 N61, r0 = some b60 ∧ zAr (I32, h.2) b60 N61 ∧ 0 ≤ (x3 + 4).toInt ∧ (x3 + 4).toInt < ((N61 : Nat) : Int) ∧ (∃ P66, CTi l G YX11_drawn 6 [va_rf (some a2), .int (zI (I32, h.2) b39 (zix (x3 + 1))), .int (zI (I32, h.2) b46 (zix (x3 + 2))), .int (zI (I32, h.2) b53 (zix (x3 + 3))), .int (zI (I32, h.2) b60 (zix (x3 + 4)))] (I32, h.2) P66 ∧ ∀ (y71 : Int32) (I69 : Nat → Nat → Int32), P66 y71 I69 → ((y34 = y71 → Z l G mL_law d Q k n 1494 [va_rf r0, va_rf (some a1), va_rf (some a2), .int x3] [] (I69, h.2)) ∧ (¬ y34 = y71 → Q (some (.int 0)) (I69, h.2)))))))))))))) :
    Z l G mL_law d Q k n 1115 [va_rf r0, va_rf (some a1), va_rf (some a2), .int x3] [] h := by
  refine z_aloadn dL_law_1115 rfl rfl ?_
  refine z_aloadn dL_law_1116 rfl rfl ?_
  refine z_iloadn dL_law_1117 rfl rfl ?_
  refine z_iconst (v := 1) dL_law_1118 (by decide) ?_
  refine z_iadd dL_law_1119 ?_
  obtain ⟨b2, N3, q4, qa5, qz6, qy7, hw1⟩ := hw
  refine z_soP [.int ((x3 + 1))] q4 ?_
  refine z_iald (N := N3) dL_law_1120 qa5 qz6 qy7 ?_
  refine z_aloadn dL_law_1121 rfl rfl ?_
  refine z_iloadn dL_law_1122 rfl rfl ?_
  refine z_iconst (v := 2) dL_law_1123 (by decide) ?_
  refine z_iadd dL_law_1124 ?_
  obtain ⟨b9, N10, q11, qa12, qz13, qy14, hw8⟩ := hw1
  refine z_soP [.int ((x3 + 2))] q11 ?_
  refine z_iald (N := N10) dL_law_1125 qa12 qz13 qy14 ?_
  refine z_aloadn dL_law_1126 rfl rfl ?_
  refine z_iloadn dL_law_1127 rfl rfl ?_
  refine z_iconst (v := 3) dL_law_1128 (by decide) ?_
  refine z_iadd dL_law_1129 ?_
  obtain ⟨b16, N17, q18, qa19, qz20, qy21, hw15⟩ := hw8
  refine z_soP [.int ((x3 + 3))] q18 ?_
  refine z_iald (N := N17) dL_law_1130 qa19 qz20 qy21 ?_
  refine z_aloadn dL_law_1131 rfl rfl ?_
  refine z_iloadn dL_law_1132 rfl rfl ?_
  refine z_iconst (v := 4) dL_law_1133 (by decide) ?_
  refine z_iadd dL_law_1134 ?_
  obtain ⟨b23, N24, q25, qa26, qz27, qy28, hw22⟩ := hw15
  refine z_soP [.int ((x3 + 4))] q25 ?_
  refine z_iald (N := N24) dL_law_1135 qa26 qz27 qy28 ?_
  obtain ⟨P29, ct30, hw31⟩ := hw22
  refine z_callV (h := h) (S := []) (a := a1) (M := mL_law) (As := [.int (zI h b2 (zix (x3 + 1))), .int (zI h b9 (zix (x3 + 2))), .int (zI h b16 (zix (x3 + 3))), .int (zI h b23 (zix (x3 + 4)))]) zc10 rfl eX10_drawn w1254 w1255 (Or.inl w1253) dL_law_1136 (ha1.k 0 rfl) (ha1.lt 0 rfl) rfl (by omega) (Nat.le_of_ble_eq_true rfl) ct30 (fun v36 g37 q33 => ?_)
  obtain ⟨y34, I32, rfl, rfl, q33⟩ := q33
  have hw35 := hw31 y34 I32 q33
  show Z l G _ d Q k n 1139 _ (.int y34 :: []) _
  refine z_aloadn dL_law_1139 rfl rfl ?_
  refine z_aloadn dL_law_1140 rfl rfl ?_
  refine z_iloadn dL_law_1141 rfl rfl ?_
  refine z_iconst (v := 1) dL_law_1142 (by decide) ?_
  refine z_iadd dL_law_1143 ?_
  obtain ⟨b39, N40, q41, qa42, qz43, qy44, hw38⟩ := hw35
  refine z_soP [.int ((x3 + 1))] q41 ?_
  refine z_iald (N := N40) dL_law_1144 qa42 qz43 qy44 ?_
  refine z_aloadn dL_law_1145 rfl rfl ?_
  refine z_iloadn dL_law_1146 rfl rfl ?_
  refine z_iconst (v := 2) dL_law_1147 (by decide) ?_
  refine z_iadd dL_law_1148 ?_
  obtain ⟨b46, N47, q48, qa49, qz50, qy51, hw45⟩ := hw38
  refine z_soP [.int ((x3 + 2))] q48 ?_
  refine z_iald (N := N47) dL_law_1149 qa49 qz50 qy51 ?_
  refine z_aloadn dL_law_1150 rfl rfl ?_
  refine z_iloadn dL_law_1151 rfl rfl ?_
  refine z_iconst (v := 3) dL_law_1152 (by decide) ?_
  refine z_iadd dL_law_1153 ?_
  obtain ⟨b53, N54, q55, qa56, qz57, qy58, hw52⟩ := hw45
  refine z_soP [.int ((x3 + 3))] q55 ?_
  refine z_iald (N := N54) dL_law_1154 qa56 qz57 qy58 ?_
  refine z_aloadn dL_law_1155 rfl rfl ?_
  refine z_iloadn dL_law_1156 rfl rfl ?_
  refine z_iconst (v := 4) dL_law_1157 (by decide) ?_
  refine z_iadd dL_law_1158 ?_
  obtain ⟨b60, N61, q62, qa63, qz64, qy65, hw59⟩ := hw52
  refine z_soP [.int ((x3 + 4))] q62 ?_
  refine z_iald (N := N61) dL_law_1159 qa63 qz64 qy65 ?_
  obtain ⟨P66, ct67, hw68⟩ := hw59
  refine z_callV (h := (I32, h.2)) (S := [.int y34]) (a := a2) (M := mL_law) (As := [.int (zI (I32, h.2) b39 (zix (x3 + 1))), .int (zI (I32, h.2) b46 (zix (x3 + 2))), .int (zI (I32, h.2) b53 (zix (x3 + 3))), .int (zI (I32, h.2) b60 (zix (x3 + 4)))]) zc11 rfl eX11_drawn w1995 w1996 (Or.inl w1994) dL_law_1160 (ha2.k 0 rfl) (ha2.lt 0 rfl) rfl (by omega) (Nat.le_of_ble_eq_true rfl) ct67 (fun v73 g74 q70 => ?_)
  obtain ⟨y71, I69, rfl, rfl, q70⟩ := q70
  have hw72 := hw68 y71 I69 q70
  show Z l G _ d Q k n 1163 _ (.int y71 :: .int y34 :: []) _
  refine z_icmp_eq (t := 1494) dL_law_1163 (by decide) (fun c75 => ?_) (fun c76 => ?_)
  · have hw77 := hw72.1 c75
    exact hw77
  · have hw78 := hw72.2 c76
    refine z_iconst (v := 0) dL_law_1166 (by decide) ?_
    exact z_ret (v := some (.int 0)) dL_law_1167 ⟨_, rfl, by decide⟩ rfl hw78

theorem sL_law_1168 {l : Launch} {G : zG} {d : Nat} {Q : Option Value → zH → Prop} {k n : Nat} {h : zH} (r0 : Option Nat) (a1 : Nat) (a2 : Nat) (x3 : Int32) (ha1 : lo10 h a1) (ha2 : lo11 h a2) (hd9 : 17 ≤ d)
    (hw : (∃ b2 N3, r0 = some b2 ∧ zAr h b2 N3 ∧ 0 ≤ (x3 + 1).toInt ∧ (x3 + 1).toInt < ((N3 : Nat) : Int) ∧ (∃ b9 N10, r0 = some b9 ∧ zAr h b9 N10 ∧ 0 ≤ (x3 + 2).toInt ∧ (x3 + 2).toInt < ((N10 : Nat) : Int) ∧ (∃ P15, CTi l G YX10_dawn 6 [va_rf (some a1), .int (zI h b2 (zix (x3 + 1))), .int (zI h b9 (zix (x3 + 2)))] h P15 ∧ ∀ (y20 : Int32) (I18 : Nat → Nat → Int32), P15 y20 I18 → (∃ b25 N26, r0 = some b25 ∧ zAr (I18, h.2) b25 N26 ∧ 0 ≤ (x3 + 1).toInt ∧ (x3 + 1).toInt < ((N26 : Nat) : Int) ∧ (∃ b32 N33, r0 = some b32 ∧ zAr (I18, h.2) b32 N33 ∧ 0 ≤ (x3 + 2).toInt ∧ (x3 + 2).toInt < ((N33 : Nat) : Int) ∧ (∃ P38, CTi l G YX11_dawn 6 [va_rf (some a2), .int (zI (I18, h.2) b25 (zix (x3 + 1))), .int (zI (I18, h.2) b32 (zix (x3 + 2)))] (I18, h.2) P38 ∧ ∀ (y43 : Int32) (I41 : Nat → Nat → Int32), P38 y43 I41 → ((y20 = y43 → Z l G mL_law d Q k n 1494 [va_rf r0, va_rf (some a1), va_rf (some a2), .int x3] [] (I41, h.2)) ∧ (¬ y20 = y43 → Q (some (.int 0)) (I41, h.2)))))))))) :
    Z l G mL_law d Q k n 1168 [va_rf r0, va_rf (some a1), va_rf (some a2), .int x3] [] h := by
  refine z_aloadn dL_law_1168 rfl rfl ?_
  refine z_aloadn dL_law_1169 rfl rfl ?_
  refine z_iloadn dL_law_1170 rfl rfl ?_
  refine z_iconst (v := 1) dL_law_1171 (by decide) ?_
  refine z_iadd dL_law_1172 ?_
  obtain ⟨b2, N3, q4, qa5, qz6, qy7, hw1⟩ := hw
  refine z_soP [.int ((x3 + 1))] q4 ?_
  refine z_iald (N := N3) dL_law_1173 qa5 qz6 qy7 ?_
  refine z_aloadn dL_law_1174 rfl rfl ?_
  refine z_iloadn dL_law_1175 rfl rfl ?_
  refine z_iconst (v := 2) dL_law_1176 (by decide) ?_
  refine z_iadd dL_law_1177 ?_
  obtain ⟨b9, N10, q11, qa12, qz13, qy14, hw8⟩ := hw1
  refine z_soP [.int ((x3 + 2))] q11 ?_
  refine z_iald (N := N10) dL_law_1178 qa12 qz13 qy14 ?_
  obtain ⟨P15, ct16, hw17⟩ := hw8
  refine z_callV (h := h) (S := []) (a := a1) (M := mL_law) (As := [.int (zI h b2 (zix (x3 + 1))), .int (zI h b9 (zix (x3 + 2)))]) zc10 rfl eX10_dawn w1150 w1151 (Or.inl w1149) dL_law_1179 (ha1.k 0 rfl) (ha1.lt 0 rfl) rfl (by omega) (Nat.le_of_ble_eq_true rfl) ct16 (fun v22 g23 q19 => ?_)
  obtain ⟨y20, I18, rfl, rfl, q19⟩ := q19
  have hw21 := hw17 y20 I18 q19
  show Z l G _ d Q k n 1182 _ (.int y20 :: []) _
  refine z_aloadn dL_law_1182 rfl rfl ?_
  refine z_aloadn dL_law_1183 rfl rfl ?_
  refine z_iloadn dL_law_1184 rfl rfl ?_
  refine z_iconst (v := 1) dL_law_1185 (by decide) ?_
  refine z_iadd dL_law_1186 ?_
  obtain ⟨b25, N26, q27, qa28, qz29, qy30, hw24⟩ := hw21
  refine z_soP [.int ((x3 + 1))] q27 ?_
  refine z_iald (N := N26) dL_law_1187 qa28 qz29 qy30 ?_
  refine z_aloadn dL_law_1188 rfl rfl ?_
  refine z_iloadn dL_law_1189 rfl rfl ?_
  refine z_iconst (v := 2) dL_law_1190 (by decide) ?_
  refine z_iadd dL_law_1191 ?_
  obtain ⟨b32, N33, q34, qa35, qz36, qy37, hw31⟩ := hw24
  refine z_soP [.int ((x3 + 2))] q34 ?_
  refine z_iald (N := N33) dL_law_1192 qa35 qz36 qy37 ?_
  obtain ⟨P38, ct39, hw40⟩ := hw31
  refine z_callV (h := (I18, h.2)) (S := [.int y20]) (a := a2) (M := mL_law) (As := [.int (zI (I18, h.2) b25 (zix (x3 + 1))), .int (zI (I18, h.2) b32 (zix (x3 + 2)))]) zc11 rfl eX11_dawn w2000 w2001 (Or.inl w1999) dL_law_1193 (ha2.k 0 rfl) (ha2.lt 0 rfl) rfl (by omega) (Nat.le_of_ble_eq_true rfl) ct39 (fun v45 g46 q42 => ?_)
  obtain ⟨y43, I41, rfl, rfl, q42⟩ := q42
  have hw44 := hw40 y43 I41 q42
  show Z l G _ d Q k n 1196 _ (.int y43 :: .int y20 :: []) _
  refine z_icmp_eq (t := 1494) dL_law_1196 (by decide) (fun c47 => ?_) (fun c48 => ?_)
  · have hw49 := hw44.1 c47
    exact hw49
  · have hw50 := hw44.2 c48
    refine z_iconst (v := 0) dL_law_1199 (by decide) ?_
    exact z_ret (v := some (.int 0)) dL_law_1200 ⟨_, rfl, by decide⟩ rfl hw50

theorem sL_law_1201 {l : Launch} {G : zG} {d : Nat} {Q : Option Value → zH → Prop} {k n : Nat} {h : zH} (r0 : Option Nat) (a1 : Nat) (a2 : Nat) (x3 : Int32) (ha1 : lo10 h a1) (ha2 : lo11 h a2) (hd9 : 17 ≤ d)
    (hw : (∃ b2 N3, r0 = some b2 ∧ zAr h b2 N3 ∧ 0 ≤ (x3 + 1).toInt ∧ (x3 + 1).toInt < ((N3 : Nat) : Int) ∧ (∃ b9 N10, r0 = some b9 ∧ zAr h b9 N10 ∧ 0 ≤ (x3 + 2).toInt ∧ (x3 + 2).toInt < ((N10 : Nat) : Int) ∧ (∃ b16 N17, r0 = some b16 ∧ zAr h b16 N17 ∧ 0 ≤ (x3 + 3).toInt ∧ (x3 + 3).toInt < ((N17 : Nat) : Int) ∧ (∃ b23 N24, r0 = some b23 ∧ zAr h b23 N24 ∧ 0 ≤ (x3 + 4).toInt ∧ (x3 + 4).toInt < ((N24 : Nat) : Int) ∧ ((zI h b23 (zix (x3 + 4)) = 0 → (∃ P33, CTi l G YX10_carried 6 [va_rf (some a1), .int (zI h b2 (zix (x3 + 1))), .int (zI h b9 (zix (x3 + 2))), .int (zI h b16 (zix (x3 + 3))), .int 0] h P33 ∧ ∀ (y38 : Int32) (I36 : Nat → Nat → Int32), P33 y38 I36 → (∃ b43 N44, r0 = some b43 ∧ zAr (I36, h.2) b43 N44 ∧ 0 ≤ (x3 + 1).toInt ∧ (x3 + 1).toInt < ((N44 : Nat) : Int) ∧ (∃ b50 N51, r0 = some b50 ∧ zAr (I36, h.2) b50 N51 ∧ 0 ≤ (x3 + 2).toInt ∧ (x3 + 2).toInt < ((N51 : Nat) : Int) ∧ (∃ b57 N58, r0 = some b57 ∧ zAr (I36, h.2) b57 N58 ∧ 0 ≤ (x3 + 3).toInt ∧ (x3 + 3).toInt < ((N58 : Nat) : Int) ∧ (∃ b64 N65, r0 = some b64 ∧ zAr (I36, h.2) b64 N65 ∧ 0 ≤ (x3 + 4).toInt ∧ (x3 + 4).toInt < ((N65 : Nat) : Int) ∧ ((zI (I36, h.2) b64 (zix (x3 + 4)) = 0 → (∃ P74, CTi l G YX11_carried 6 [va_rf (some a2), .int (zI (I36, h.2) b43 (zix (x3 + 1))), .int (zI (I36, h.2) b50 (zix (x3 + 2))), .int (zI (I36, h.2) b57 (zix (x3 + 3))), .int 0] (I36, h.2) P74 ∧ ∀ (y79 : Int32) (I77 : Nat → Nat → Int32), P74 y79 I77 → ((y38 = y79 → Z l G mL_law d Q k n 1494 [va_rf r0, va_rf (some a1), va_rf (some a2), .int x3] [] (I77, h.2)) ∧ (¬ y38 = y79 → Q (some (.int 0)) (I77, h.2))))) ∧ (¬ zI (I36, h.2) b64 (zix (x3 + 4)) = 0 → (∃ P87, CTi l G YX11_carried 6 [va_rf (some a2), .int (zI (I36, h.2) b43 (zix (x3 + 1))), .int (zI (I36, h.2) b50 (zix (x3 + 2))), .int (zI (I36, h.2) b57 (zix (x3 + 3))), .int 1] (I36, h.2) P87 ∧ ∀ (y92 : Int32) (I90 : Nat → Nat → Int32), P87 y92 I90 → ((y38 = y92 → Z l G mL_law d Q k n 1494 [va_rf r0, va_rf (some a1), va_rf (some a2), .int x3] [] (I90, h.2)) ∧ (¬ y38 = y92 → Q (some (.int 0)) (I90, h.2)))))))))))) ∧ (¬ zI h b23 (zix (x3 + 4)) = 0 → (∃ P100, CTi l G YX10_carried 6 [va_rf (some a1), .int (zI h b2 (zix (x3 + 1))), .int (zI h b9 (zix (x3 + 2))), .int (zI h b16 (zix (x3 + 3))), .int 1] h P100 ∧ ∀ (y105 : Int32) (I103 : Nat → Nat → Int32), P100 y105 I103 → (∃ b110 N111, r0 = some b110 ∧ zAr (I103, h.2) b110 N111 ∧ 0 ≤ (x3 + 1).toInt ∧ (x3 + 1).toInt < ((N111 : Nat) : Int) ∧ (∃ b117 N118, r0 = some b117 ∧ zAr (I103, h.2) b117 N118 ∧ 0 ≤ (x3 + 2).toInt ∧ (x3 + 2).toInt < ((N118 : Nat) : Int) ∧ (∃ b124 N125, r0 = some b124 ∧ zAr (I103, h.2) b124 N125 ∧ 0 ≤ (x3 + 3).toInt ∧ (x3 + 3).toInt < ((N125 : Nat) : Int) ∧ (∃ b131 N132, r0 = some b131 ∧ zAr (I103, h.2) b131 N132 ∧ 0 ≤ (x3 + 4).toInt ∧ (x3 + 4).toInt < ((N132 : Nat) : Int) ∧ ((zI (I103, h.2) b131 (zix (x3 + 4)) = 0 → (∃ P141, CTi l G YX11_carried 6 [va_rf (some a2), .int (zI (I103, h.2) b110 (zix (x3 + 1))), .int (zI (I103, h.2) b117 (zix (x3 + 2))), .int (zI (I103, h.2) b124 (zix (x3 + 3))), .int 0] (I103, h.2) P141 ∧ ∀ (y146 : Int32) (I144 : Nat → Nat → Int32), P141 y146 I144 → ((y105 = y146 → Z l G mL_law d Q k n 1494 [va_rf r0, va_rf (some a1), va_rf (some a2), .int x3] [] (I144, h.2)) ∧ (¬ y105 = y146 → Q (some (.int 0)) (I144, h.2))))) ∧ (¬ zI (I103, h.2) b131 (zix (x3 + 4)) = 0 → (∃ P154, CTi l G YX11_carried 6 [va_rf (some a2), .int (zI (I103, h.2) b110 (zix (x3 + 1))), .int (zI (I103, h.2) b117 (zix (x3 + 2))), .int (zI (I103, h.2) b124 (zix (x3 + 3))), .int 1] (I103, h.2) P154 ∧ ∀ (y159 : Int32) (I157 : Nat → Nat → Int32), P154 y159 I157 → ((y105 = y159 → Z l G mL_law d Q k n 1494 [va_rf r0, va_rf (some a1), va_rf (some a2), .int x3] [] (I157, h.2)) ∧ (¬ y105 = y159 → Q (some (.int 0)) (I157, h.2)))))))))))))))))) :
    Z l G mL_law d Q k n 1201 [va_rf r0, va_rf (some a1), va_rf (some a2), .int x3] [] h := by
  refine z_aloadn dL_law_1201 rfl rfl ?_
  refine z_aloadn dL_law_1202 rfl rfl ?_
  refine z_iloadn dL_law_1203 rfl rfl ?_
  refine z_iconst (v := 1) dL_law_1204 (by decide) ?_
  refine z_iadd dL_law_1205 ?_
  obtain ⟨b2, N3, q4, qa5, qz6, qy7, hw1⟩ := hw
  refine z_soP [.int ((x3 + 1))] q4 ?_
  refine z_iald (N := N3) dL_law_1206 qa5 qz6 qy7 ?_
  refine z_aloadn dL_law_1207 rfl rfl ?_
  refine z_iloadn dL_law_1208 rfl rfl ?_
  refine z_iconst (v := 2) dL_law_1209 (by decide) ?_
  refine z_iadd dL_law_1210 ?_
  obtain ⟨b9, N10, q11, qa12, qz13, qy14, hw8⟩ := hw1
  refine z_soP [.int ((x3 + 2))] q11 ?_
  refine z_iald (N := N10) dL_law_1211 qa12 qz13 qy14 ?_
  refine z_aloadn dL_law_1212 rfl rfl ?_
  refine z_iloadn dL_law_1213 rfl rfl ?_
  refine z_iconst (v := 3) dL_law_1214 (by decide) ?_
  refine z_iadd dL_law_1215 ?_
  obtain ⟨b16, N17, q18, qa19, qz20, qy21, hw15⟩ := hw8
  refine z_soP [.int ((x3 + 3))] q18 ?_
  refine z_iald (N := N17) dL_law_1216 qa19 qz20 qy21 ?_
  refine z_aloadn dL_law_1217 rfl rfl ?_
  refine z_iloadn dL_law_1218 rfl rfl ?_
  refine z_iconst (v := 4) dL_law_1219 (by decide) ?_
  refine z_iadd dL_law_1220 ?_
  obtain ⟨b23, N24, q25, qa26, qz27, qy28, hw22⟩ := hw15
  refine z_soP [.int ((x3 + 4))] q25 ?_
  refine z_iald (N := N24) dL_law_1221 qa26 qz27 qy28 ?_
  refine z_if_eq (t := 1229) dL_law_1222 (by decide) (fun c29 => ?_) (fun c30 => ?_)
  · have hw31 := hw22.1 c29
    refine z_iconst (v := 0) dL_law_1229 (by decide) ?_
    obtain ⟨P33, ct34, hw35⟩ := hw31
    refine z_callV (h := h) (S := []) (a := a1) (M := mL_law) (As := [.int (zI h b2 (zix (x3 + 1))), .int (zI h b9 (zix (x3 + 2))), .int (zI h b16 (zix (x3 + 3))), .int 0]) zc10 rfl eX10_carried w1263 w1264 (Or.inl w1262) dL_law_1230 (ha1.k 0 rfl) (ha1.lt 0 rfl) rfl (by omega) (Nat.le_of_ble_eq_true rfl) ct34 (fun v40 g41 q37 => ?_)
    obtain ⟨y38, I36, rfl, rfl, q37⟩ := q37
    have hw39 := hw35 y38 I36 q37
    show Z l G _ d Q k n 1233 _ (.int y38 :: []) _
    refine z_aloadn dL_law_1233 rfl rfl ?_
    refine z_aloadn dL_law_1234 rfl rfl ?_
    refine z_iloadn dL_law_1235 rfl rfl ?_
    refine z_iconst (v := 1) dL_law_1236 (by decide) ?_
    refine z_iadd dL_law_1237 ?_
    obtain ⟨b43, N44, q45, qa46, qz47, qy48, hw42⟩ := hw39
    refine z_soP [.int ((x3 + 1))] q45 ?_
    refine z_iald (N := N44) dL_law_1238 qa46 qz47 qy48 ?_
    refine z_aloadn dL_law_1239 rfl rfl ?_
    refine z_iloadn dL_law_1240 rfl rfl ?_
    refine z_iconst (v := 2) dL_law_1241 (by decide) ?_
    refine z_iadd dL_law_1242 ?_
    obtain ⟨b50, N51, q52, qa53, qz54, qy55, hw49⟩ := hw42
    refine z_soP [.int ((x3 + 2))] q52 ?_
    refine z_iald (N := N51) dL_law_1243 qa53 qz54 qy55 ?_
    refine z_aloadn dL_law_1244 rfl rfl ?_
    refine z_iloadn dL_law_1245 rfl rfl ?_
    refine z_iconst (v := 3) dL_law_1246 (by decide) ?_
    refine z_iadd dL_law_1247 ?_
    obtain ⟨b57, N58, q59, qa60, qz61, qy62, hw56⟩ := hw49
    refine z_soP [.int ((x3 + 3))] q59 ?_
    refine z_iald (N := N58) dL_law_1248 qa60 qz61 qy62 ?_
    refine z_aloadn dL_law_1249 rfl rfl ?_
    refine z_iloadn dL_law_1250 rfl rfl ?_
    refine z_iconst (v := 4) dL_law_1251 (by decide) ?_
    refine z_iadd dL_law_1252 ?_
    obtain ⟨b64, N65, q66, qa67, qz68, qy69, hw63⟩ := hw56
    refine z_soP [.int ((x3 + 4))] q66 ?_
    refine z_iald (N := N65) dL_law_1253 qa67 qz68 qy69 ?_
    refine z_if_eq (t := 1261) dL_law_1254 (by decide) (fun c70 => ?_) (fun c71 => ?_)
    · have hw72 := hw63.1 c70
      refine z_iconst (v := 0) dL_law_1261 (by decide) ?_
      obtain ⟨P74, ct75, hw76⟩ := hw72
      refine z_callV (h := (I36, h.2)) (S := [.int y38]) (a := a2) (M := mL_law) (As := [.int (zI (I36, h.2) b43 (zix (x3 + 1))), .int (zI (I36, h.2) b50 (zix (x3 + 2))), .int (zI (I36, h.2) b57 (zix (x3 + 3))), .int 0]) zc11 rfl eX11_carried w2016 w2017 (Or.inl w2015) dL_law_1262 (ha2.k 0 rfl) (ha2.lt 0 rfl) rfl (by omega) (Nat.le_of_ble_eq_true rfl) ct75 (fun v81 g82 q78 => ?_)
      obtain ⟨y79, I77, rfl, rfl, q78⟩ := q78
      have hw80 := hw76 y79 I77 q78
      show Z l G _ d Q k n 1265 _ (.int y79 :: .int y38 :: []) _
      refine z_icmp_eq (t := 1494) dL_law_1265 (by decide) (fun c83 => ?_) (fun c84 => ?_)
      · have hw85 := hw80.1 c83
        exact hw85
      · have hw86 := hw80.2 c84
        refine z_iconst (v := 0) dL_law_1268 (by decide) ?_
        exact z_ret (v := some (.int 0)) dL_law_1269 ⟨_, rfl, by decide⟩ rfl hw86
    · have hw73 := hw63.2 c71
      refine z_iconst (v := 1) dL_law_1257 (by decide) ?_
      refine z_goto (t := 1262) dL_law_1258 (by decide) ?_
      obtain ⟨P87, ct88, hw89⟩ := hw73
      refine z_callV (h := (I36, h.2)) (S := [.int y38]) (a := a2) (M := mL_law) (As := [.int (zI (I36, h.2) b43 (zix (x3 + 1))), .int (zI (I36, h.2) b50 (zix (x3 + 2))), .int (zI (I36, h.2) b57 (zix (x3 + 3))), .int 1]) zc11 rfl eX11_carried w2016 w2017 (Or.inl w2015) dL_law_1262 (ha2.k 0 rfl) (ha2.lt 0 rfl) rfl (by omega) (Nat.le_of_ble_eq_true rfl) ct88 (fun v94 g95 q91 => ?_)
      obtain ⟨y92, I90, rfl, rfl, q91⟩ := q91
      have hw93 := hw89 y92 I90 q91
      show Z l G _ d Q k n 1265 _ (.int y92 :: .int y38 :: []) _
      refine z_icmp_eq (t := 1494) dL_law_1265 (by decide) (fun c96 => ?_) (fun c97 => ?_)
      · have hw98 := hw93.1 c96
        exact hw98
      · have hw99 := hw93.2 c97
        refine z_iconst (v := 0) dL_law_1268 (by decide) ?_
        exact z_ret (v := some (.int 0)) dL_law_1269 ⟨_, rfl, by decide⟩ rfl hw99
  · have hw32 := hw22.2 c30
    refine z_iconst (v := 1) dL_law_1225 (by decide) ?_
    refine z_goto (t := 1230) dL_law_1226 (by decide) ?_
    obtain ⟨P100, ct101, hw102⟩ := hw32
    refine z_callV (h := h) (S := []) (a := a1) (M := mL_law) (As := [.int (zI h b2 (zix (x3 + 1))), .int (zI h b9 (zix (x3 + 2))), .int (zI h b16 (zix (x3 + 3))), .int 1]) zc10 rfl eX10_carried w1263 w1264 (Or.inl w1262) dL_law_1230 (ha1.k 0 rfl) (ha1.lt 0 rfl) rfl (by omega) (Nat.le_of_ble_eq_true rfl) ct101 (fun v107 g108 q104 => ?_)
    obtain ⟨y105, I103, rfl, rfl, q104⟩ := q104
    have hw106 := hw102 y105 I103 q104
    show Z l G _ d Q k n 1233 _ (.int y105 :: []) _
    refine z_aloadn dL_law_1233 rfl rfl ?_
    refine z_aloadn dL_law_1234 rfl rfl ?_
    refine z_iloadn dL_law_1235 rfl rfl ?_
    refine z_iconst (v := 1) dL_law_1236 (by decide) ?_
    refine z_iadd dL_law_1237 ?_
    obtain ⟨b110, N111, q112, qa113, qz114, qy115, hw109⟩ := hw106
    refine z_soP [.int ((x3 + 1))] q112 ?_
    refine z_iald (N := N111) dL_law_1238 qa113 qz114 qy115 ?_
    refine z_aloadn dL_law_1239 rfl rfl ?_
    refine z_iloadn dL_law_1240 rfl rfl ?_
    refine z_iconst (v := 2) dL_law_1241 (by decide) ?_
    refine z_iadd dL_law_1242 ?_
    obtain ⟨b117, N118, q119, qa120, qz121, qy122, hw116⟩ := hw109
    refine z_soP [.int ((x3 + 2))] q119 ?_
    refine z_iald (N := N118) dL_law_1243 qa120 qz121 qy122 ?_
    refine z_aloadn dL_law_1244 rfl rfl ?_
    refine z_iloadn dL_law_1245 rfl rfl ?_
    refine z_iconst (v := 3) dL_law_1246 (by decide) ?_
    refine z_iadd dL_law_1247 ?_
    obtain ⟨b124, N125, q126, qa127, qz128, qy129, hw123⟩ := hw116
    refine z_soP [.int ((x3 + 3))] q126 ?_
    refine z_iald (N := N125) dL_law_1248 qa127 qz128 qy129 ?_
    refine z_aloadn dL_law_1249 rfl rfl ?_
    refine z_iloadn dL_law_1250 rfl rfl ?_
    refine z_iconst (v := 4) dL_law_1251 (by decide) ?_
    refine z_iadd dL_law_1252 ?_
    obtain ⟨b131, N132, q133, qa134, qz135, qy136, hw130⟩ := hw123
    refine z_soP [.int ((x3 + 4))] q133 ?_
    refine z_iald (N := N132) dL_law_1253 qa134 qz135 qy136 ?_
    refine z_if_eq (t := 1261) dL_law_1254 (by decide) (fun c137 => ?_) (fun c138 => ?_)
    · have hw139 := hw130.1 c137
      refine z_iconst (v := 0) dL_law_1261 (by decide) ?_
      obtain ⟨P141, ct142, hw143⟩ := hw139
      refine z_callV (h := (I103, h.2)) (S := [.int y105]) (a := a2) (M := mL_law) (As := [.int (zI (I103, h.2) b110 (zix (x3 + 1))), .int (zI (I103, h.2) b117 (zix (x3 + 2))), .int (zI (I103, h.2) b124 (zix (x3 + 3))), .int 0]) zc11 rfl eX11_carried w2016 w2017 (Or.inl w2015) dL_law_1262 (ha2.k 0 rfl) (ha2.lt 0 rfl) rfl (by omega) (Nat.le_of_ble_eq_true rfl) ct142 (fun v148 g149 q145 => ?_)
      obtain ⟨y146, I144, rfl, rfl, q145⟩ := q145
      have hw147 := hw143 y146 I144 q145
      show Z l G _ d Q k n 1265 _ (.int y146 :: .int y105 :: []) _
      refine z_icmp_eq (t := 1494) dL_law_1265 (by decide) (fun c150 => ?_) (fun c151 => ?_)
      · have hw152 := hw147.1 c150
        exact hw152
      · have hw153 := hw147.2 c151
        refine z_iconst (v := 0) dL_law_1268 (by decide) ?_
        exact z_ret (v := some (.int 0)) dL_law_1269 ⟨_, rfl, by decide⟩ rfl hw153
    · have hw140 := hw130.2 c138
      refine z_iconst (v := 1) dL_law_1257 (by decide) ?_
      refine z_goto (t := 1262) dL_law_1258 (by decide) ?_
      obtain ⟨P154, ct155, hw156⟩ := hw140
      refine z_callV (h := (I103, h.2)) (S := [.int y105]) (a := a2) (M := mL_law) (As := [.int (zI (I103, h.2) b110 (zix (x3 + 1))), .int (zI (I103, h.2) b117 (zix (x3 + 2))), .int (zI (I103, h.2) b124 (zix (x3 + 3))), .int 1]) zc11 rfl eX11_carried w2016 w2017 (Or.inl w2015) dL_law_1262 (ha2.k 0 rfl) (ha2.lt 0 rfl) rfl (by omega) (Nat.le_of_ble_eq_true rfl) ct155 (fun v161 g162 q158 => ?_)
      obtain ⟨y159, I157, rfl, rfl, q158⟩ := q158
      have hw160 := hw156 y159 I157 q158
      show Z l G _ d Q k n 1265 _ (.int y159 :: .int y105 :: []) _
      refine z_icmp_eq (t := 1494) dL_law_1265 (by decide) (fun c163 => ?_) (fun c164 => ?_)
      · have hw165 := hw160.1 c163
        exact hw165
      · have hw166 := hw160.2 c164
        refine z_iconst (v := 0) dL_law_1268 (by decide) ?_
        exact z_ret (v := some (.int 0)) dL_law_1269 ⟨_, rfl, by decide⟩ rfl hw166

theorem sL_law_1270 {l : Launch} {G : zG} {d : Nat} {Q : Option Value → zH → Prop} {k n : Nat} {h : zH} (r0 : Option Nat) (a1 : Nat) (a2 : Nat) (x3 : Int32) (ha1 : lo10 h a1) (ha2 : lo11 h a2) (hd9 : 17 ≤ d)
    (hw : (∃ b2 N3, r0 = some b2 ∧ zAr h b2 N3 ∧ 0 ≤ (x3 + 1).toInt ∧ (x3 + 1).toInt < ((N3 : Nat) : Int) ∧ (∃ b9 N10, r0 = some b9 ∧ zAr h b9 N10 ∧ 0 ≤ (x3 + 2).toInt ∧ (x3 + 2).toInt < ((N10 : Nat) : Int) ∧ (∃ b16 N17, r0 = some b16 ∧ zAr h b16 N17 ∧ 0 ≤ (x3 + 3).toInt ∧ (x3 + 3).toInt < ((N17 : Nat) : Int) ∧ ((zI h b16 (zix (x3 + 3)) = 0 → (∃ P26, CTi l G YX10_better 7 [va_rf (some a1), .int (zI h b2 (zix (x3 + 1))), .int (zI h b9 (zix (x3 + 2))), .int 0] h P26 ∧ ∀ (y31 : Int32) (I29 : Nat → Nat → Int32), P26 y31 I29 → (∃ b36 N37, r0 = some b36 ∧ zAr (I29, h.2) b36 N37 ∧ 0 ≤ (x3 + 1).toInt ∧ (x3 + 1).toInt < ((N37 : Nat) : Int) ∧ (∃ b43 N44, r0 = some b43 ∧ zAr (I29, h.2) b43 N44 ∧ 0 ≤ (x3 + 2).toInt ∧ (x3 + 2).toInt < ((N44 : Nat) : Int) ∧ (∃ b50 N51, r0 = some b50 ∧ zAr (I29, h.2) b50 N51 ∧ 0 ≤ (x3 + 3).toInt ∧ (x3 + 3).toInt < ((N51 : Nat) : Int) ∧ ((zI (I29, h.2) b50 (zix (x3 + 3)) = 0 → (∃ P60, CTi l G YX11_better 6 [va_rf (some a2), .int (zI (I29, h.2) b36 (zix (x3 + 1))), .int (zI (I29, h.2) b43 (zix (x3 + 2))), .int 0] (I29, h.2) P60 ∧ ∀ (y65 : Int32) (I63 : Nat → Nat → Int32), P60 y65 I63 → ((y31 = y65 → Z l G mL_law d Q k n 1494 [va_rf r0, va_rf (some a1), va_rf (some a2), .int x3] [] (I63, h.2)) ∧ (¬ y31 = y65 → Q (some (.int 0)) (I63, h.2))))) ∧ (¬ zI (I29, h.2) b50 (zix (x3 + 3)) = 0 → (∃ P73, CTi l G YX11_better 6 [va_rf (some a2), .int (zI (I29, h.2) b36 (zix (x3 + 1))), .int (zI (I29, h.2) b43 (zix (x3 + 2))), .int 1] (I29, h.2) P73 ∧ ∀ (y78 : Int32) (I76 : Nat → Nat → Int32), P73 y78 I76 → ((y31 = y78 → Z l G mL_law d Q k n 1494 [va_rf r0, va_rf (some a1), va_rf (some a2), .int x3] [] (I76, h.2)) ∧ (¬ y31 = y78 → Q (some (.int 0)) (I76, h.2))))))))))) ∧ (¬ zI h b16 (zix (x3 + 3)) = 0 → (∃ P86, CTi l G YX10_better 7 [va_rf (some a1), .int (zI h b2 (zix (x3 + 1))), .int (zI h b9 (zix (x3 + 2))), .int 1] h P86 ∧ ∀ (y91 : Int32) (I89 : Nat → Nat → Int32), P86 y91 I89 → (∃ b96 N97, r0 = some b96 ∧ zAr (I89, h.2) b96 N97 ∧ 0 ≤ (x3 + 1).toInt ∧ (x3 + 1).toInt < ((N97 : Nat) : Int) ∧ (∃ b103 N104, r0 = some b103 ∧ zAr (I89, h.2) b103 N104 ∧ 0 ≤ (x3 + 2).toInt ∧ (x3 + 2).toInt < ((N104 : Nat) : Int) ∧ (∃ b110 N111, r0 = some b110 ∧ zAr (I89, h.2) b110 N111 ∧ 0 ≤ (x3 + 3).toInt ∧ (x3 + 3).toInt < ((N111 : Nat) : Int) ∧ ((zI (I89, h.2) b110 (zix (x3 + 3)) = 0 → (∃ P120, CTi l G YX11_better 6 [va_rf (some a2), .int (zI (I89, h.2) b96 (zix (x3 + 1))), .int (zI (I89, h.2) b103 (zix (x3 + 2))), .int 0] (I89, h.2) P120 ∧ ∀ (y125 : Int32) (I123 : Nat → Nat → Int32), P120 y125 I123 → ((y91 = y125 → Z l G mL_law d Q k n 1494 [va_rf r0, va_rf (some a1), va_rf (some a2), .int x3] [] (I123, h.2)) ∧ (¬ y91 = y125 → Q (some (.int 0)) (I123, h.2))))) ∧ (¬ zI (I89, h.2) b110 (zix (x3 + 3)) = 0 → (∃ P133, CTi l G YX11_better 6 [va_rf (some a2), .int (zI (I89, h.2) b96 (zix (x3 + 1))), .int (zI (I89, h.2) b103 (zix (x3 + 2))), .int 1] (I89, h.2) P133 ∧ ∀ (y138 : Int32) (I136 : Nat → Nat → Int32), P133 y138 I136 → ((y91 = y138 → Z l G mL_law d Q k n 1494 [va_rf r0, va_rf (some a1), va_rf (some a2), .int x3] [] (I136, h.2)) ∧ (¬ y91 = y138 → Q (some (.int 0)) (I136, h.2)))))))))))))))) :
    Z l G mL_law d Q k n 1270 [va_rf r0, va_rf (some a1), va_rf (some a2), .int x3] [] h := by
  refine z_aloadn dL_law_1270 rfl rfl ?_
  refine z_aloadn dL_law_1271 rfl rfl ?_
  refine z_iloadn dL_law_1272 rfl rfl ?_
  refine z_iconst (v := 1) dL_law_1273 (by decide) ?_
  refine z_iadd dL_law_1274 ?_
  obtain ⟨b2, N3, q4, qa5, qz6, qy7, hw1⟩ := hw
  refine z_soP [.int ((x3 + 1))] q4 ?_
  refine z_iald (N := N3) dL_law_1275 qa5 qz6 qy7 ?_
  refine z_aloadn dL_law_1276 rfl rfl ?_
  refine z_iloadn dL_law_1277 rfl rfl ?_
  refine z_iconst (v := 2) dL_law_1278 (by decide) ?_
  refine z_iadd dL_law_1279 ?_
  obtain ⟨b9, N10, q11, qa12, qz13, qy14, hw8⟩ := hw1
  refine z_soP [.int ((x3 + 2))] q11 ?_
  refine z_iald (N := N10) dL_law_1280 qa12 qz13 qy14 ?_
  refine z_aloadn dL_law_1281 rfl rfl ?_
  refine z_iloadn dL_law_1282 rfl rfl ?_
  refine z_iconst (v := 3) dL_law_1283 (by decide) ?_
  refine z_iadd dL_law_1284 ?_
  obtain ⟨b16, N17, q18, qa19, qz20, qy21, hw15⟩ := hw8
  refine z_soP [.int ((x3 + 3))] q18 ?_
  refine z_iald (N := N17) dL_law_1285 qa19 qz20 qy21 ?_
  refine z_if_eq (t := 1293) dL_law_1286 (by decide) (fun c22 => ?_) (fun c23 => ?_)
  · have hw24 := hw15.1 c22
    refine z_iconst (v := 0) dL_law_1293 (by decide) ?_
    obtain ⟨P26, ct27, hw28⟩ := hw24
    refine z_callV (h := h) (S := []) (a := a1) (M := mL_law) (As := [.int (zI h b2 (zix (x3 + 1))), .int (zI h b9 (zix (x3 + 2))), .int 0]) zc10 rfl eX10_better w1267 w1268 (Or.inl w1266) dL_law_1294 (ha1.k 0 rfl) (ha1.lt 0 rfl) rfl (by omega) (Nat.le_of_ble_eq_true rfl) ct27 (fun v33 g34 q30 => ?_)
    obtain ⟨y31, I29, rfl, rfl, q30⟩ := q30
    have hw32 := hw28 y31 I29 q30
    show Z l G _ d Q k n 1297 _ (.int y31 :: []) _
    refine z_aloadn dL_law_1297 rfl rfl ?_
    refine z_aloadn dL_law_1298 rfl rfl ?_
    refine z_iloadn dL_law_1299 rfl rfl ?_
    refine z_iconst (v := 1) dL_law_1300 (by decide) ?_
    refine z_iadd dL_law_1301 ?_
    obtain ⟨b36, N37, q38, qa39, qz40, qy41, hw35⟩ := hw32
    refine z_soP [.int ((x3 + 1))] q38 ?_
    refine z_iald (N := N37) dL_law_1302 qa39 qz40 qy41 ?_
    refine z_aloadn dL_law_1303 rfl rfl ?_
    refine z_iloadn dL_law_1304 rfl rfl ?_
    refine z_iconst (v := 2) dL_law_1305 (by decide) ?_
    refine z_iadd dL_law_1306 ?_
    obtain ⟨b43, N44, q45, qa46, qz47, qy48, hw42⟩ := hw35
    refine z_soP [.int ((x3 + 2))] q45 ?_
    refine z_iald (N := N44) dL_law_1307 qa46 qz47 qy48 ?_
    refine z_aloadn dL_law_1308 rfl rfl ?_
    refine z_iloadn dL_law_1309 rfl rfl ?_
    refine z_iconst (v := 3) dL_law_1310 (by decide) ?_
    refine z_iadd dL_law_1311 ?_
    obtain ⟨b50, N51, q52, qa53, qz54, qy55, hw49⟩ := hw42
    refine z_soP [.int ((x3 + 3))] q52 ?_
    refine z_iald (N := N51) dL_law_1312 qa53 qz54 qy55 ?_
    refine z_if_eq (t := 1320) dL_law_1313 (by decide) (fun c56 => ?_) (fun c57 => ?_)
    · have hw58 := hw49.1 c56
      refine z_iconst (v := 0) dL_law_1320 (by decide) ?_
      obtain ⟨P60, ct61, hw62⟩ := hw58
      refine z_callV (h := (I29, h.2)) (S := [.int y31]) (a := a2) (M := mL_law) (As := [.int (zI (I29, h.2) b36 (zix (x3 + 1))), .int (zI (I29, h.2) b43 (zix (x3 + 2))), .int 0]) zc11 rfl eX11_better w2020 w2021 (Or.inl w2019) dL_law_1321 (ha2.k 0 rfl) (ha2.lt 0 rfl) rfl (by omega) (Nat.le_of_ble_eq_true rfl) ct61 (fun v67 g68 q64 => ?_)
      obtain ⟨y65, I63, rfl, rfl, q64⟩ := q64
      have hw66 := hw62 y65 I63 q64
      show Z l G _ d Q k n 1324 _ (.int y65 :: .int y31 :: []) _
      refine z_icmp_eq (t := 1494) dL_law_1324 (by decide) (fun c69 => ?_) (fun c70 => ?_)
      · have hw71 := hw66.1 c69
        exact hw71
      · have hw72 := hw66.2 c70
        refine z_iconst (v := 0) dL_law_1327 (by decide) ?_
        exact z_ret (v := some (.int 0)) dL_law_1328 ⟨_, rfl, by decide⟩ rfl hw72
    · have hw59 := hw49.2 c57
      refine z_iconst (v := 1) dL_law_1316 (by decide) ?_
      refine z_goto (t := 1321) dL_law_1317 (by decide) ?_
      obtain ⟨P73, ct74, hw75⟩ := hw59
      refine z_callV (h := (I29, h.2)) (S := [.int y31]) (a := a2) (M := mL_law) (As := [.int (zI (I29, h.2) b36 (zix (x3 + 1))), .int (zI (I29, h.2) b43 (zix (x3 + 2))), .int 1]) zc11 rfl eX11_better w2020 w2021 (Or.inl w2019) dL_law_1321 (ha2.k 0 rfl) (ha2.lt 0 rfl) rfl (by omega) (Nat.le_of_ble_eq_true rfl) ct74 (fun v80 g81 q77 => ?_)
      obtain ⟨y78, I76, rfl, rfl, q77⟩ := q77
      have hw79 := hw75 y78 I76 q77
      show Z l G _ d Q k n 1324 _ (.int y78 :: .int y31 :: []) _
      refine z_icmp_eq (t := 1494) dL_law_1324 (by decide) (fun c82 => ?_) (fun c83 => ?_)
      · have hw84 := hw79.1 c82
        exact hw84
      · have hw85 := hw79.2 c83
        refine z_iconst (v := 0) dL_law_1327 (by decide) ?_
        exact z_ret (v := some (.int 0)) dL_law_1328 ⟨_, rfl, by decide⟩ rfl hw85
  · have hw25 := hw15.2 c23
    refine z_iconst (v := 1) dL_law_1289 (by decide) ?_
    refine z_goto (t := 1294) dL_law_1290 (by decide) ?_
    obtain ⟨P86, ct87, hw88⟩ := hw25
    refine z_callV (h := h) (S := []) (a := a1) (M := mL_law) (As := [.int (zI h b2 (zix (x3 + 1))), .int (zI h b9 (zix (x3 + 2))), .int 1]) zc10 rfl eX10_better w1267 w1268 (Or.inl w1266) dL_law_1294 (ha1.k 0 rfl) (ha1.lt 0 rfl) rfl (by omega) (Nat.le_of_ble_eq_true rfl) ct87 (fun v93 g94 q90 => ?_)
    obtain ⟨y91, I89, rfl, rfl, q90⟩ := q90
    have hw92 := hw88 y91 I89 q90
    show Z l G _ d Q k n 1297 _ (.int y91 :: []) _
    refine z_aloadn dL_law_1297 rfl rfl ?_
    refine z_aloadn dL_law_1298 rfl rfl ?_
    refine z_iloadn dL_law_1299 rfl rfl ?_
    refine z_iconst (v := 1) dL_law_1300 (by decide) ?_
    refine z_iadd dL_law_1301 ?_
    obtain ⟨b96, N97, q98, qa99, qz100, qy101, hw95⟩ := hw92
    refine z_soP [.int ((x3 + 1))] q98 ?_
    refine z_iald (N := N97) dL_law_1302 qa99 qz100 qy101 ?_
    refine z_aloadn dL_law_1303 rfl rfl ?_
    refine z_iloadn dL_law_1304 rfl rfl ?_
    refine z_iconst (v := 2) dL_law_1305 (by decide) ?_
    refine z_iadd dL_law_1306 ?_
    obtain ⟨b103, N104, q105, qa106, qz107, qy108, hw102⟩ := hw95
    refine z_soP [.int ((x3 + 2))] q105 ?_
    refine z_iald (N := N104) dL_law_1307 qa106 qz107 qy108 ?_
    refine z_aloadn dL_law_1308 rfl rfl ?_
    refine z_iloadn dL_law_1309 rfl rfl ?_
    refine z_iconst (v := 3) dL_law_1310 (by decide) ?_
    refine z_iadd dL_law_1311 ?_
    obtain ⟨b110, N111, q112, qa113, qz114, qy115, hw109⟩ := hw102
    refine z_soP [.int ((x3 + 3))] q112 ?_
    refine z_iald (N := N111) dL_law_1312 qa113 qz114 qy115 ?_
    refine z_if_eq (t := 1320) dL_law_1313 (by decide) (fun c116 => ?_) (fun c117 => ?_)
    · have hw118 := hw109.1 c116
      refine z_iconst (v := 0) dL_law_1320 (by decide) ?_
      obtain ⟨P120, ct121, hw122⟩ := hw118
      refine z_callV (h := (I89, h.2)) (S := [.int y91]) (a := a2) (M := mL_law) (As := [.int (zI (I89, h.2) b96 (zix (x3 + 1))), .int (zI (I89, h.2) b103 (zix (x3 + 2))), .int 0]) zc11 rfl eX11_better w2020 w2021 (Or.inl w2019) dL_law_1321 (ha2.k 0 rfl) (ha2.lt 0 rfl) rfl (by omega) (Nat.le_of_ble_eq_true rfl) ct121 (fun v127 g128 q124 => ?_)
      obtain ⟨y125, I123, rfl, rfl, q124⟩ := q124
      have hw126 := hw122 y125 I123 q124
      show Z l G _ d Q k n 1324 _ (.int y125 :: .int y91 :: []) _
      refine z_icmp_eq (t := 1494) dL_law_1324 (by decide) (fun c129 => ?_) (fun c130 => ?_)
      · have hw131 := hw126.1 c129
        exact hw131
      · have hw132 := hw126.2 c130
        refine z_iconst (v := 0) dL_law_1327 (by decide) ?_
        exact z_ret (v := some (.int 0)) dL_law_1328 ⟨_, rfl, by decide⟩ rfl hw132
    · have hw119 := hw109.2 c117
      refine z_iconst (v := 1) dL_law_1316 (by decide) ?_
      refine z_goto (t := 1321) dL_law_1317 (by decide) ?_
      obtain ⟨P133, ct134, hw135⟩ := hw119
      refine z_callV (h := (I89, h.2)) (S := [.int y91]) (a := a2) (M := mL_law) (As := [.int (zI (I89, h.2) b96 (zix (x3 + 1))), .int (zI (I89, h.2) b103 (zix (x3 + 2))), .int 1]) zc11 rfl eX11_better w2020 w2021 (Or.inl w2019) dL_law_1321 (ha2.k 0 rfl) (ha2.lt 0 rfl) rfl (by omega) (Nat.le_of_ble_eq_true rfl) ct134 (fun v140 g141 q137 => ?_)
      obtain ⟨y138, I136, rfl, rfl, q137⟩ := q137
      have hw139 := hw135 y138 I136 q137
      show Z l G _ d Q k n 1324 _ (.int y138 :: .int y91 :: []) _
      refine z_icmp_eq (t := 1494) dL_law_1324 (by decide) (fun c142 => ?_) (fun c143 => ?_)
      · have hw144 := hw139.1 c142
        exact hw144
      · have hw145 := hw139.2 c143
        refine z_iconst (v := 0) dL_law_1327 (by decide) ?_
        exact z_ret (v := some (.int 0)) dL_law_1328 ⟨_, rfl, by decide⟩ rfl hw145

theorem sL_law_1329 {l : Launch} {G : zG} {d : Nat} {Q : Option Value → zH → Prop} {k n : Nat} {h : zH} (r0 : Option Nat) (a1 : Nat) (a2 : Nat) (x3 : Int32) (ha1 : lo10 h a1) (ha2 : lo11 h a2) (hd9 : 17 ≤ d)
    (hw : (∃ b2 N3, r0 = some b2 ∧ zAr h b2 N3 ∧ 0 ≤ (x3 + 1).toInt ∧ (x3 + 1).toInt < ((N3 : Nat) : Int) ∧ (∃ b9 N10, r0 = some b9 ∧ zAr h b9 N10 ∧ 0 ≤ (x3 + 2).toInt ∧ (x3 + 2).toInt < ((N10 : Nat) : Int) ∧ (∃ b16 N17, r0 = some b16 ∧ zAr h b16 N17 ∧ 0 ≤ (x3 + 3).toInt ∧ (x3 + 3).toInt < ((N17 : Nat) : Int) ∧ (∃ b23 N24, r0 = some b23 ∧ zAr h b23 N24 ∧ 0 ≤ (x3 + 4).toInt ∧ (x3 + 4).toInt < ((N24 : Nat) : Int) ∧ (∃ P29, CTi l G YX10_thieves 6 [va_rf (some a1), .int (zI h b2 (zix (x3 + 1))), .int (zI h b9 (zix (x3 + 2))), .int (zI h b16 (zix (x3 + 3))), .int (zI h b23 (zix (x3 + 4)))] h P29 ∧ ∀ (y34 : Int32) (I32 : Nat → Nat → Int32), P29 y34 I32 → (∃ b39 N40, r0 = some b39 ∧ zAr (I32, h.2) b39 N40 ∧ 0 ≤ (x3 + 1).toInt ∧ (x3 + 1).toInt < ((N40 : Nat) : Int) ∧ (∃ b46 N47, r0 = some b46 ∧ zAr (I32, h.2) b46 N47 ∧ 0 ≤ (x3 + 2).toInt ∧ (x3 + 2).toInt < ((N47 : Nat) : Int) ∧ (∃ b53 N54, r0 = some b53 ∧ zAr (I32, h.2) b53 N54 ∧ 0 ≤ (x3 + 3).toInt ∧ (x3 + 3).toInt < ((N54 : Nat) : Int) ∧ (∃ b60 N61, r0 = some b60 ∧ zAr (I32, h.2) b60 N61 ∧ 0 ≤ (x3 + 4).toInt ∧ (x3 + 4).toInt < ((N61 : Nat) : Int) ∧ (∃ P66, CTi l G YX11_thieves 6 [va_rf (some a2), .int (zI (I32, h.2) b39 (zix (x3 + 1))), .int (zI (I32, h.2) b46 (zix (x3 + 2))), .int (zI (I32, h.2) b53 (zix (x3 + 3))), .int (zI (I32, h.2) b60 (zix (x3 + 4)))] (I32, h.2) P66 ∧ ∀ (y71 : Int32) (I69 : Nat → Nat → Int32), P66 y71 I69 → ((y34 = y71 → Z l G mL_law d Q k n 1494 [va_rf r0, va_rf (some a1), va_rf (some a2), .int x3] [] (I69, h.2)) ∧ (¬ y34 = y71 → Q (some (.int 0)) (I69, h.2)))))))))))))) :
    Z l G mL_law d Q k n 1329 [va_rf r0, va_rf (some a1), va_rf (some a2), .int x3] [] h := by
  refine z_aloadn dL_law_1329 rfl rfl ?_
  refine z_aloadn dL_law_1330 rfl rfl ?_
  refine z_iloadn dL_law_1331 rfl rfl ?_
  refine z_iconst (v := 1) dL_law_1332 (by decide) ?_
  refine z_iadd dL_law_1333 ?_
  obtain ⟨b2, N3, q4, qa5, qz6, qy7, hw1⟩ := hw
  refine z_soP [.int ((x3 + 1))] q4 ?_
  refine z_iald (N := N3) dL_law_1334 qa5 qz6 qy7 ?_
  refine z_aloadn dL_law_1335 rfl rfl ?_
  refine z_iloadn dL_law_1336 rfl rfl ?_
  refine z_iconst (v := 2) dL_law_1337 (by decide) ?_
  refine z_iadd dL_law_1338 ?_
  obtain ⟨b9, N10, q11, qa12, qz13, qy14, hw8⟩ := hw1
  refine z_soP [.int ((x3 + 2))] q11 ?_
  refine z_iald (N := N10) dL_law_1339 qa12 qz13 qy14 ?_
  refine z_aloadn dL_law_1340 rfl rfl ?_
  refine z_iloadn dL_law_1341 rfl rfl ?_
  refine z_iconst (v := 3) dL_law_1342 (by decide) ?_
  refine z_iadd dL_law_1343 ?_
  obtain ⟨b16, N17, q18, qa19, qz20, qy21, hw15⟩ := hw8
  refine z_soP [.int ((x3 + 3))] q18 ?_
  refine z_iald (N := N17) dL_law_1344 qa19 qz20 qy21 ?_
  refine z_aloadn dL_law_1345 rfl rfl ?_
  refine z_iloadn dL_law_1346 rfl rfl ?_
  refine z_iconst (v := 4) dL_law_1347 (by decide) ?_
  refine z_iadd dL_law_1348 ?_
  obtain ⟨b23, N24, q25, qa26, qz27, qy28, hw22⟩ := hw15
  refine z_soP [.int ((x3 + 4))] q25 ?_
  refine z_iald (N := N24) dL_law_1349 qa26 qz27 qy28 ?_
  obtain ⟨P29, ct30, hw31⟩ := hw22
  refine z_callV (h := h) (S := []) (a := a1) (M := mL_law) (As := [.int (zI h b2 (zix (x3 + 1))), .int (zI h b9 (zix (x3 + 2))), .int (zI h b16 (zix (x3 + 3))), .int (zI h b23 (zix (x3 + 4)))]) zc10 rfl eX10_thieves w1170 w1171 (Or.inl w1169) dL_law_1350 (ha1.k 0 rfl) (ha1.lt 0 rfl) rfl (by omega) (Nat.le_of_ble_eq_true rfl) ct30 (fun v36 g37 q33 => ?_)
  obtain ⟨y34, I32, rfl, rfl, q33⟩ := q33
  have hw35 := hw31 y34 I32 q33
  show Z l G _ d Q k n 1353 _ (.int y34 :: []) _
  refine z_aloadn dL_law_1353 rfl rfl ?_
  refine z_aloadn dL_law_1354 rfl rfl ?_
  refine z_iloadn dL_law_1355 rfl rfl ?_
  refine z_iconst (v := 1) dL_law_1356 (by decide) ?_
  refine z_iadd dL_law_1357 ?_
  obtain ⟨b39, N40, q41, qa42, qz43, qy44, hw38⟩ := hw35
  refine z_soP [.int ((x3 + 1))] q41 ?_
  refine z_iald (N := N40) dL_law_1358 qa42 qz43 qy44 ?_
  refine z_aloadn dL_law_1359 rfl rfl ?_
  refine z_iloadn dL_law_1360 rfl rfl ?_
  refine z_iconst (v := 2) dL_law_1361 (by decide) ?_
  refine z_iadd dL_law_1362 ?_
  obtain ⟨b46, N47, q48, qa49, qz50, qy51, hw45⟩ := hw38
  refine z_soP [.int ((x3 + 2))] q48 ?_
  refine z_iald (N := N47) dL_law_1363 qa49 qz50 qy51 ?_
  refine z_aloadn dL_law_1364 rfl rfl ?_
  refine z_iloadn dL_law_1365 rfl rfl ?_
  refine z_iconst (v := 3) dL_law_1366 (by decide) ?_
  refine z_iadd dL_law_1367 ?_
  obtain ⟨b53, N54, q55, qa56, qz57, qy58, hw52⟩ := hw45
  refine z_soP [.int ((x3 + 3))] q55 ?_
  refine z_iald (N := N54) dL_law_1368 qa56 qz57 qy58 ?_
  refine z_aloadn dL_law_1369 rfl rfl ?_
  refine z_iloadn dL_law_1370 rfl rfl ?_
  refine z_iconst (v := 4) dL_law_1371 (by decide) ?_
  refine z_iadd dL_law_1372 ?_
  obtain ⟨b60, N61, q62, qa63, qz64, qy65, hw59⟩ := hw52
  refine z_soP [.int ((x3 + 4))] q62 ?_
  refine z_iald (N := N61) dL_law_1373 qa63 qz64 qy65 ?_
  obtain ⟨P66, ct67, hw68⟩ := hw59
  refine z_callV (h := (I32, h.2)) (S := [.int y34]) (a := a2) (M := mL_law) (As := [.int (zI (I32, h.2) b39 (zix (x3 + 1))), .int (zI (I32, h.2) b46 (zix (x3 + 2))), .int (zI (I32, h.2) b53 (zix (x3 + 3))), .int (zI (I32, h.2) b60 (zix (x3 + 4)))]) zc11 rfl eX11_thieves w2024 w2025 (Or.inl w2023) dL_law_1374 (ha2.k 0 rfl) (ha2.lt 0 rfl) rfl (by omega) (Nat.le_of_ble_eq_true rfl) ct67 (fun v73 g74 q70 => ?_)
  obtain ⟨y71, I69, rfl, rfl, q70⟩ := q70
  have hw72 := hw68 y71 I69 q70
  show Z l G _ d Q k n 1377 _ (.int y71 :: .int y34 :: []) _
  refine z_icmp_eq (t := 1494) dL_law_1377 (by decide) (fun c75 => ?_) (fun c76 => ?_)
  · have hw77 := hw72.1 c75
    exact hw77
  · have hw78 := hw72.2 c76
    refine z_iconst (v := 0) dL_law_1380 (by decide) ?_
    exact z_ret (v := some (.int 0)) dL_law_1381 ⟨_, rfl, by decide⟩ rfl hw78

theorem sL_law_1382 {l : Launch} {G : zG} {d : Nat} {Q : Option Value → zH → Prop} {k n : Nat} {h : zH} (r0 : Option Nat) (a1 : Nat) (a2 : Nat) (x3 : Int32) (ha1 : lo10 h a1) (ha2 : lo11 h a2) (hd9 : 17 ≤ d)
    (hw : (∃ b2 N3, r0 = some b2 ∧ zAr h b2 N3 ∧ 0 ≤ (x3 + 1).toInt ∧ (x3 + 1).toInt < ((N3 : Nat) : Int) ∧ (∃ b9 N10, r0 = some b9 ∧ zAr h b9 N10 ∧ 0 ≤ (x3 + 2).toInt ∧ (x3 + 2).toInt < ((N10 : Nat) : Int) ∧ (∃ b16 N17, r0 = some b16 ∧ zAr h b16 N17 ∧ 0 ≤ (x3 + 3).toInt ∧ (x3 + 3).toInt < ((N17 : Nat) : Int) ∧ (∃ P22, CTi l G YX10_row 15 [va_rf (some a1), .int (zI h b2 (zix (x3 + 1))), .int (zI h b9 (zix (x3 + 2))), .int (zI h b16 (zix (x3 + 3)))] h P22 ∧ ∀ (y27 : Int32) (I25 : Nat → Nat → Int32), P22 y27 I25 → (∃ b32 N33, r0 = some b32 ∧ zAr (I25, h.2) b32 N33 ∧ 0 ≤ (x3 + 1).toInt ∧ (x3 + 1).toInt < ((N33 : Nat) : Int) ∧ (∃ b39 N40, r0 = some b39 ∧ zAr (I25, h.2) b39 N40 ∧ 0 ≤ (x3 + 2).toInt ∧ (x3 + 2).toInt < ((N40 : Nat) : Int) ∧ (∃ b46 N47, r0 = some b46 ∧ zAr (I25, h.2) b46 N47 ∧ 0 ≤ (x3 + 3).toInt ∧ (x3 + 3).toInt < ((N47 : Nat) : Int) ∧ (∃ P52, CTi l G YX11_row 8 [va_rf (some a2), .int (zI (I25, h.2) b32 (zix (x3 + 1))), .int (zI (I25, h.2) b39 (zix (x3 + 2))), .int (zI (I25, h.2) b46 (zix (x3 + 3)))] (I25, h.2) P52 ∧ ∀ (y57 : Int32) (I55 : Nat → Nat → Int32), P52 y57 I55 → ((y27 = y57 → Z l G mL_law d Q k n 1494 [va_rf r0, va_rf (some a1), va_rf (some a2), .int x3] [] (I55, h.2)) ∧ (¬ y27 = y57 → Q (some (.int 0)) (I55, h.2)))))))))))) :
    Z l G mL_law d Q k n 1382 [va_rf r0, va_rf (some a1), va_rf (some a2), .int x3] [] h := by
  refine z_aloadn dL_law_1382 rfl rfl ?_
  refine z_aloadn dL_law_1383 rfl rfl ?_
  refine z_iloadn dL_law_1384 rfl rfl ?_
  refine z_iconst (v := 1) dL_law_1385 (by decide) ?_
  refine z_iadd dL_law_1386 ?_
  obtain ⟨b2, N3, q4, qa5, qz6, qy7, hw1⟩ := hw
  refine z_soP [.int ((x3 + 1))] q4 ?_
  refine z_iald (N := N3) dL_law_1387 qa5 qz6 qy7 ?_
  refine z_aloadn dL_law_1388 rfl rfl ?_
  refine z_iloadn dL_law_1389 rfl rfl ?_
  refine z_iconst (v := 2) dL_law_1390 (by decide) ?_
  refine z_iadd dL_law_1391 ?_
  obtain ⟨b9, N10, q11, qa12, qz13, qy14, hw8⟩ := hw1
  refine z_soP [.int ((x3 + 2))] q11 ?_
  refine z_iald (N := N10) dL_law_1392 qa12 qz13 qy14 ?_
  refine z_aloadn dL_law_1393 rfl rfl ?_
  refine z_iloadn dL_law_1394 rfl rfl ?_
  refine z_iconst (v := 3) dL_law_1395 (by decide) ?_
  refine z_iadd dL_law_1396 ?_
  obtain ⟨b16, N17, q18, qa19, qz20, qy21, hw15⟩ := hw8
  refine z_soP [.int ((x3 + 3))] q18 ?_
  refine z_iald (N := N17) dL_law_1397 qa19 qz20 qy21 ?_
  obtain ⟨P22, ct23, hw24⟩ := hw15
  refine z_callV (h := h) (S := []) (a := a1) (M := mL_law) (As := [.int (zI h b2 (zix (x3 + 1))), .int (zI h b9 (zix (x3 + 2))), .int (zI h b16 (zix (x3 + 3)))]) zc10 rfl eX10_row w1449 w1450 (Or.inl w1448) dL_law_1398 (ha1.k 0 rfl) (ha1.lt 0 rfl) rfl (by omega) (Nat.le_of_ble_eq_true rfl) ct23 (fun v29 g30 q26 => ?_)
  obtain ⟨y27, I25, rfl, rfl, q26⟩ := q26
  have hw28 := hw24 y27 I25 q26
  show Z l G _ d Q k n 1401 _ (.int y27 :: []) _
  refine z_aloadn dL_law_1401 rfl rfl ?_
  refine z_aloadn dL_law_1402 rfl rfl ?_
  refine z_iloadn dL_law_1403 rfl rfl ?_
  refine z_iconst (v := 1) dL_law_1404 (by decide) ?_
  refine z_iadd dL_law_1405 ?_
  obtain ⟨b32, N33, q34, qa35, qz36, qy37, hw31⟩ := hw28
  refine z_soP [.int ((x3 + 1))] q34 ?_
  refine z_iald (N := N33) dL_law_1406 qa35 qz36 qy37 ?_
  refine z_aloadn dL_law_1407 rfl rfl ?_
  refine z_iloadn dL_law_1408 rfl rfl ?_
  refine z_iconst (v := 2) dL_law_1409 (by decide) ?_
  refine z_iadd dL_law_1410 ?_
  obtain ⟨b39, N40, q41, qa42, qz43, qy44, hw38⟩ := hw31
  refine z_soP [.int ((x3 + 2))] q41 ?_
  refine z_iald (N := N40) dL_law_1411 qa42 qz43 qy44 ?_
  refine z_aloadn dL_law_1412 rfl rfl ?_
  refine z_iloadn dL_law_1413 rfl rfl ?_
  refine z_iconst (v := 3) dL_law_1414 (by decide) ?_
  refine z_iadd dL_law_1415 ?_
  obtain ⟨b46, N47, q48, qa49, qz50, qy51, hw45⟩ := hw38
  refine z_soP [.int ((x3 + 3))] q48 ?_
  refine z_iald (N := N47) dL_law_1416 qa49 qz50 qy51 ?_
  obtain ⟨P52, ct53, hw54⟩ := hw45
  refine z_callV (h := (I25, h.2)) (S := [.int y27]) (a := a2) (M := mL_law) (As := [.int (zI (I25, h.2) b32 (zix (x3 + 1))), .int (zI (I25, h.2) b39 (zix (x3 + 2))), .int (zI (I25, h.2) b46 (zix (x3 + 3)))]) zc11 rfl eX11_row w1991 w1992 (Or.inl w1990) dL_law_1417 (ha2.k 0 rfl) (ha2.lt 0 rfl) rfl (by omega) (Nat.le_of_ble_eq_true rfl) ct53 (fun v59 g60 q56 => ?_)
  obtain ⟨y57, I55, rfl, rfl, q56⟩ := q56
  have hw58 := hw54 y57 I55 q56
  show Z l G _ d Q k n 1420 _ (.int y57 :: .int y27 :: []) _
  refine z_icmp_eq (t := 1494) dL_law_1420 (by decide) (fun c61 => ?_) (fun c62 => ?_)
  · have hw63 := hw58.1 c61
    exact hw63
  · have hw64 := hw58.2 c62
    refine z_iconst (v := 0) dL_law_1423 (by decide) ?_
    exact z_ret (v := some (.int 0)) dL_law_1424 ⟨_, rfl, by decide⟩ rfl hw64

theorem sL_law_1425 {l : Launch} {G : zG} {d : Nat} {Q : Option Value → zH → Prop} {k n : Nat} {h : zH} (r0 : Option Nat) (a1 : Nat) (a2 : Nat) (x3 : Int32) (ha1 : lo10 h a1) (ha2 : lo11 h a2) (hd9 : 17 ≤ d)
    (hw : (∃ b2 N3, r0 = some b2 ∧ zAr h b2 N3 ∧ 0 ≤ (x3 + 1).toInt ∧ (x3 + 1).toInt < ((N3 : Nat) : Int) ∧ (∃ P8, CTi l G YX10_count 1 [va_rf (some a1), .int (zI h b2 (zix (x3 + 1)))] h P8 ∧ ∀ (y13 : Int32) (I11 : Nat → Nat → Int32), P8 y13 I11 → (∃ b18 N19, r0 = some b18 ∧ zAr (I11, h.2) b18 N19 ∧ 0 ≤ (x3 + 1).toInt ∧ (x3 + 1).toInt < ((N19 : Nat) : Int) ∧ (∃ P24, CTi l G YX11_count 2 [va_rf (some a2), .int (zI (I11, h.2) b18 (zix (x3 + 1)))] (I11, h.2) P24 ∧ ∀ (y29 : Int32) (I27 : Nat → Nat → Int32), P24 y29 I27 → ((y13 = y29 → Z l G mL_law d Q k n 1494 [va_rf r0, va_rf (some a1), va_rf (some a2), .int x3] [] (I27, h.2)) ∧ (¬ y13 = y29 → Q (some (.int 0)) (I27, h.2)))))))) :
    Z l G mL_law d Q k n 1425 [va_rf r0, va_rf (some a1), va_rf (some a2), .int x3] [] h := by
  refine z_aloadn dL_law_1425 rfl rfl ?_
  refine z_aloadn dL_law_1426 rfl rfl ?_
  refine z_iloadn dL_law_1427 rfl rfl ?_
  refine z_iconst (v := 1) dL_law_1428 (by decide) ?_
  refine z_iadd dL_law_1429 ?_
  obtain ⟨b2, N3, q4, qa5, qz6, qy7, hw1⟩ := hw
  refine z_soP [.int ((x3 + 1))] q4 ?_
  refine z_iald (N := N3) dL_law_1430 qa5 qz6 qy7 ?_
  obtain ⟨P8, ct9, hw10⟩ := hw1
  refine z_callV (h := h) (S := []) (a := a1) (M := mL_law) (As := [.int (zI h b2 (zix (x3 + 1)))]) zc10 rfl eX10_count w972 w973 (Or.inl w971) dL_law_1431 (ha1.k 0 rfl) (ha1.lt 0 rfl) rfl (by omega) (Nat.le_of_ble_eq_true rfl) ct9 (fun v15 g16 q12 => ?_)
  obtain ⟨y13, I11, rfl, rfl, q12⟩ := q12
  have hw14 := hw10 y13 I11 q12
  show Z l G _ d Q k n 1434 _ (.int y13 :: []) _
  refine z_aloadn dL_law_1434 rfl rfl ?_
  refine z_aloadn dL_law_1435 rfl rfl ?_
  refine z_iloadn dL_law_1436 rfl rfl ?_
  refine z_iconst (v := 1) dL_law_1437 (by decide) ?_
  refine z_iadd dL_law_1438 ?_
  obtain ⟨b18, N19, q20, qa21, qz22, qy23, hw17⟩ := hw14
  refine z_soP [.int ((x3 + 1))] q20 ?_
  refine z_iald (N := N19) dL_law_1439 qa21 qz22 qy23 ?_
  obtain ⟨P24, ct25, hw26⟩ := hw17
  refine z_callV (h := (I11, h.2)) (S := [.int y13]) (a := a2) (M := mL_law) (As := [.int (zI (I11, h.2) b18 (zix (x3 + 1)))]) zc11 rfl eX11_count w2028 w2029 (Or.inl w2027) dL_law_1440 (ha2.k 0 rfl) (ha2.lt 0 rfl) rfl (by omega) (Nat.le_of_ble_eq_true rfl) ct25 (fun v31 g32 q28 => ?_)
  obtain ⟨y29, I27, rfl, rfl, q28⟩ := q28
  have hw30 := hw26 y29 I27 q28
  show Z l G _ d Q k n 1443 _ (.int y29 :: .int y13 :: []) _
  refine z_icmp_eq (t := 1494) dL_law_1443 (by decide) (fun c33 => ?_) (fun c34 => ?_)
  · have hw35 := hw30.1 c33
    exact hw35
  · have hw36 := hw30.2 c34
    refine z_iconst (v := 0) dL_law_1446 (by decide) ?_
    exact z_ret (v := some (.int 0)) dL_law_1447 ⟨_, rfl, by decide⟩ rfl hw36

theorem sL_law_1448 {l : Launch} {G : zG} {d : Nat} {Q : Option Value → zH → Prop} {k n : Nat} {h : zH} (r0 : Option Nat) (a1 : Nat) (a2 : Nat) (x3 : Int32) (ha1 : lo10 h a1) (ha2 : lo11 h a2) (hd9 : 17 ≤ d)
    (hw : (∃ b2 N3, r0 = some b2 ∧ zAr h b2 N3 ∧ 0 ≤ (x3 + 1).toInt ∧ (x3 + 1).toInt < ((N3 : Nat) : Int) ∧ (∃ P8, CTz l G YX10_image 6 [va_rf (some a1), .int (zI h b2 (zix (x3 + 1)))] h P8 ∧ ∀ (y13 : Bool) (I11 : Nat → Nat → Int32), P8 y13 I11 → (∃ b18 N19, r0 = some b18 ∧ zAr (I11, h.2) b18 N19 ∧ 0 ≤ (x3 + 1).toInt ∧ (x3 + 1).toInt < ((N19 : Nat) : Int) ∧ (∃ P24, CTz l G YX11_image 2 [va_rf (some a2), .int (zI (I11, h.2) b18 (zix (x3 + 1)))] (I11, h.2) P24 ∧ ∀ (y29 : Bool) (I27 : Nat → Nat → Int32), P24 y29 I27 → ((zb y13 = zb y29 → Z l G mL_law d Q k n 1494 [va_rf r0, va_rf (some a1), va_rf (some a2), .int x3] [] (I27, h.2)) ∧ (¬ zb y13 = zb y29 → Q (some (.int 0)) (I27, h.2)))))))) :
    Z l G mL_law d Q k n 1448 [va_rf r0, va_rf (some a1), va_rf (some a2), .int x3] [] h := by
  refine z_aloadn dL_law_1448 rfl rfl ?_
  refine z_aloadn dL_law_1449 rfl rfl ?_
  refine z_iloadn dL_law_1450 rfl rfl ?_
  refine z_iconst (v := 1) dL_law_1451 (by decide) ?_
  refine z_iadd dL_law_1452 ?_
  obtain ⟨b2, N3, q4, qa5, qz6, qy7, hw1⟩ := hw
  refine z_soP [.int ((x3 + 1))] q4 ?_
  refine z_iald (N := N3) dL_law_1453 qa5 qz6 qy7 ?_
  obtain ⟨P8, ct9, hw10⟩ := hw1
  refine z_callV (h := h) (S := []) (a := a1) (M := mL_law) (As := [.int (zI h b2 (zix (x3 + 1)))]) zc10 rfl eX10_image w976 w977 (Or.inl w975) dL_law_1454 (ha1.k 0 rfl) (ha1.lt 0 rfl) rfl (by omega) (Nat.le_of_ble_eq_true rfl) ct9 (fun v15 g16 q12 => ?_)
  obtain ⟨y13, I11, rfl, rfl, q12⟩ := q12
  have hw14 := hw10 y13 I11 q12
  show Z l G _ d Q k n 1457 _ (.int (zb y13) :: []) _
  refine z_aloadn dL_law_1457 rfl rfl ?_
  refine z_aloadn dL_law_1458 rfl rfl ?_
  refine z_iloadn dL_law_1459 rfl rfl ?_
  refine z_iconst (v := 1) dL_law_1460 (by decide) ?_
  refine z_iadd dL_law_1461 ?_
  obtain ⟨b18, N19, q20, qa21, qz22, qy23, hw17⟩ := hw14
  refine z_soP [.int ((x3 + 1))] q20 ?_
  refine z_iald (N := N19) dL_law_1462 qa21 qz22 qy23 ?_
  obtain ⟨P24, ct25, hw26⟩ := hw17
  refine z_callV (h := (I11, h.2)) (S := [.int (zb y13)]) (a := a2) (M := mL_law) (As := [.int (zI (I11, h.2) b18 (zix (x3 + 1)))]) zc11 rfl eX11_image w2032 w2033 (Or.inl w2031) dL_law_1463 (ha2.k 0 rfl) (ha2.lt 0 rfl) rfl (by omega) (Nat.le_of_ble_eq_true rfl) ct25 (fun v31 g32 q28 => ?_)
  obtain ⟨y29, I27, rfl, rfl, q28⟩ := q28
  have hw30 := hw26 y29 I27 q28
  show Z l G _ d Q k n 1466 _ (.int (zb y29) :: .int (zb y13) :: []) _
  refine z_icmp_eq (t := 1494) dL_law_1466 (by decide) (fun c33 => ?_) (fun c34 => ?_)
  · have hw35 := hw30.1 c33
    exact hw35
  · have hw36 := hw30.2 c34
    refine z_iconst (v := 0) dL_law_1469 (by decide) ?_
    exact z_ret (v := some (.int 0)) dL_law_1470 ⟨_, rfl, by decide⟩ rfl hw36

theorem sL_law_1471 {l : Launch} {G : zG} {d : Nat} {Q : Option Value → zH → Prop} {k n : Nat} {h : zH} (r0 : Option Nat) (a1 : Nat) (a2 : Nat) (x3 : Int32) (ha1 : lo10 h a1) (ha2 : lo11 h a2) (hd9 : 17 ≤ d)
    (hw : (∃ b2 N3, r0 = some b2 ∧ zAr h b2 N3 ∧ 0 ≤ (x3 + 1).toInt ∧ (x3 + 1).toInt < ((N3 : Nat) : Int) ∧ (∃ P8, CTz l G YX10_again 6 [va_rf (some a1), .int (zI h b2 (zix (x3 + 1)))] h P8 ∧ ∀ (y13 : Bool) (I11 : Nat → Nat → Int32), P8 y13 I11 → (∃ b18 N19, r0 = some b18 ∧ zAr (I11, h.2) b18 N19 ∧ 0 ≤ (x3 + 1).toInt ∧ (x3 + 1).toInt < ((N19 : Nat) : Int) ∧ (∃ P24, CTz l G YX11_again 2 [va_rf (some a2), .int (zI (I11, h.2) b18 (zix (x3 + 1)))] (I11, h.2) P24 ∧ ∀ (y29 : Bool) (I27 : Nat → Nat → Int32), P24 y29 I27 → ((zb y13 = zb y29 → Z l G mL_law d Q k n 1494 [va_rf r0, va_rf (some a1), va_rf (some a2), .int x3] [] (I27, h.2)) ∧ (¬ zb y13 = zb y29 → Q (some (.int 0)) (I27, h.2)))))))) :
    Z l G mL_law d Q k n 1471 [va_rf r0, va_rf (some a1), va_rf (some a2), .int x3] [] h := by
  refine z_aloadn dL_law_1471 rfl rfl ?_
  refine z_aloadn dL_law_1472 rfl rfl ?_
  refine z_iloadn dL_law_1473 rfl rfl ?_
  refine z_iconst (v := 1) dL_law_1474 (by decide) ?_
  refine z_iadd dL_law_1475 ?_
  obtain ⟨b2, N3, q4, qa5, qz6, qy7, hw1⟩ := hw
  refine z_soP [.int ((x3 + 1))] q4 ?_
  refine z_iald (N := N3) dL_law_1476 qa5 qz6 qy7 ?_
  obtain ⟨P8, ct9, hw10⟩ := hw1
  refine z_callV (h := h) (S := []) (a := a1) (M := mL_law) (As := [.int (zI h b2 (zix (x3 + 1)))]) zc10 rfl eX10_again w985 w986 (Or.inl w984) dL_law_1477 (ha1.k 0 rfl) (ha1.lt 0 rfl) rfl (by omega) (Nat.le_of_ble_eq_true rfl) ct9 (fun v15 g16 q12 => ?_)
  obtain ⟨y13, I11, rfl, rfl, q12⟩ := q12
  have hw14 := hw10 y13 I11 q12
  show Z l G _ d Q k n 1480 _ (.int (zb y13) :: []) _
  refine z_aloadn dL_law_1480 rfl rfl ?_
  refine z_aloadn dL_law_1481 rfl rfl ?_
  refine z_iloadn dL_law_1482 rfl rfl ?_
  refine z_iconst (v := 1) dL_law_1483 (by decide) ?_
  refine z_iadd dL_law_1484 ?_
  obtain ⟨b18, N19, q20, qa21, qz22, qy23, hw17⟩ := hw14
  refine z_soP [.int ((x3 + 1))] q20 ?_
  refine z_iald (N := N19) dL_law_1485 qa21 qz22 qy23 ?_
  obtain ⟨P24, ct25, hw26⟩ := hw17
  refine z_callV (h := (I11, h.2)) (S := [.int (zb y13)]) (a := a2) (M := mL_law) (As := [.int (zI (I11, h.2) b18 (zix (x3 + 1)))]) zc11 rfl eX11_again w2036 w2037 (Or.inl w2035) dL_law_1486 (ha2.k 0 rfl) (ha2.lt 0 rfl) rfl (by omega) (Nat.le_of_ble_eq_true rfl) ct25 (fun v31 g32 q28 => ?_)
  obtain ⟨y29, I27, rfl, rfl, q28⟩ := q28
  have hw30 := hw26 y29 I27 q28
  show Z l G _ d Q k n 1489 _ (.int (zb y29) :: .int (zb y13) :: []) _
  refine z_icmp_eq (t := 1494) dL_law_1489 (by decide) (fun c33 => ?_) (fun c34 => ?_)
  · have hw35 := hw30.1 c33
    exact hw35
  · have hw36 := hw30.2 c34
    refine z_iconst (v := 0) dL_law_1492 (by decide) ?_
    exact z_ret (v := some (.int 0)) dL_law_1493 ⟨_, rfl, by decide⟩ rfl hw36

theorem sL_law_1494 {l : Launch} {G : zG} {d : Nat} {Q : Option Value → zH → Prop} {k n : Nat} {h : zH} (r0 : Option Nat) (a1 : Nat) (a2 : Nat) (x3 : Int32) (ha1 : lo10 h a1) (ha2 : lo11 h a2) (hd9 : 17 ≤ d)
    (hw : Z l G mL_law d Q k n 18 [va_rf r0, va_rf (some a1), va_rf (some a2), .int ((x3 + 6))] [] h) :
    Z l G mL_law d Q k n 1494 [va_rf r0, va_rf (some a1), va_rf (some a2), .int x3] [] h := by
  refine z_iinc (v := (x3 + 6)) (L' := [va_rf r0, va_rf (some a1), va_rf (some a2), .int ((x3 + 6))]) dL_law_1494 (by decide) rfl rfl rfl ?_
  refine z_goto (t := 18) dL_law_1497 (by decide) ?_
  exact hw
