set_option maxRecDepth 4000
theorem sX0_lay_0 {l : Launch} {G : zG} {d : Nat} {Q : Option Value → zH → Prop} {k n : Nat} {h : zH} (a : Nat) (a1 : Nat) (x2 : Int32) (ha : lo0 h a) (ha1 : lo1 h a1) (hd9 : 5 ≤ d)
    (hw : (∃ P1, CTv l G YX0_wash 2 [va_rf (some a)] h P1 ∧ ∀ (I4 : Nat → Nat → Int32), P1 I4 → (∃ P10, CTv l G YJ7_fill_53178 1 [va_rf (some (a + 10)), .int 0] (I4, h.2) P10 ∧ ∀ (I13 : Nat → Nat → Int32), P10 I13 → (∃ P19, CTv l G YJ7_fill_53178 1 [va_rf (some (a + 11)), .int 0] (I13, h.2) P19 ∧ ∀ (I22 : Nat → Nat → Int32), P19 I22 → (∃ P28, CTv l G YJ7_fill_53178 1 [va_rf (some (a + 12)), .int 0] (I22, h.2) P28 ∧ ∀ (I31 : Nat → Nat → Int32), P28 I31 → (∃ P37, CTv l G YJ7_fill_53178 1 [va_rf (some (a + 13)), .int 0] (I31, h.2) P37 ∧ ∀ (I40 : Nat → Nat → Int32), P37 I40 → Z l G mX0_lay d Q k n 38 [va_rf (some a), va_rf (some a1), .int x2, .int 0, zU] [] (I40, h.2))))))) :
    Z l G mX0_lay d Q k n 0 [va_rf (some a), va_rf (some a1), .int x2, zU, zU] [] h := by
  refine z_aloadn dX0_lay_0 rfl rfl ?_
  obtain ⟨P1, ct2, hw3⟩ := hw
  refine z_callV (h := h) (S := []) (a := a) (M := mX0_lay) (As := []) zc0 rfl eX0_wash w1070 w43 (Or.inl w1068) dX0_lay_1 (ha.k 0 rfl) (ha.lt 0 rfl) rfl (by omega) (Nat.le_of_ble_eq_true rfl) ct2 (fun v8 g9 q5 => ?_)
  obtain ⟨I4, rfl, rfl, q5⟩ := q5
  have hw7 := hw3 I4 q5
  show Z l G _ d Q k n 4 _ ([]) _
  refine z_aloadn dX0_lay_4 rfl rfl ?_
  refine z_getRq (j := 10) zc0 dX0_lay_5 (ha.k 0 rfl) (ha.lt 0 rfl) (by decide) rfl w496 (ha.r 9 rfl) ?_
  refine z_iconst (v := 0) dX0_lay_8 (by decide) ?_
  obtain ⟨P10, ct11, hw12⟩ := hw7
  refine z_callS (h := (I4, h.2)) (S := []) (M := mX0_lay) (As := [va_rf (some (a + 10)), .int 0]) eJ7_fill_53178 w300 (Or.inl w1072) dX0_lay_9 rfl (by omega) (Nat.le_of_ble_eq_true rfl) ct11 (fun v17 g18 q14 => ?_)
  obtain ⟨I13, rfl, rfl, q14⟩ := q14
  have hw16 := hw12 I13 q14
  show Z l G _ d Q k n 12 _ ([]) _
  refine z_aloadn dX0_lay_12 rfl rfl ?_
  refine z_getRq (j := 11) zc0 dX0_lay_13 (ha.k 0 rfl) (ha.lt 0 rfl) (by decide) rfl w498 (ha.r 10 rfl) ?_
  refine z_iconst (v := 0) dX0_lay_16 (by decide) ?_
  obtain ⟨P19, ct20, hw21⟩ := hw16
  refine z_callS (h := (I13, h.2)) (S := []) (M := mX0_lay) (As := [va_rf (some (a + 11)), .int 0]) eJ7_fill_53178 w300 (Or.inl w1072) dX0_lay_17 rfl (by omega) (Nat.le_of_ble_eq_true rfl) ct20 (fun v26 g27 q23 => ?_)
  obtain ⟨I22, rfl, rfl, q23⟩ := q23
  have hw25 := hw21 I22 q23
  show Z l G _ d Q k n 20 _ ([]) _
  refine z_aloadn dX0_lay_20 rfl rfl ?_
  refine z_getRq (j := 12) zc0 dX0_lay_21 (ha.k 0 rfl) (ha.lt 0 rfl) (by decide) rfl w500 (ha.r 11 rfl) ?_
  refine z_iconst (v := 0) dX0_lay_24 (by decide) ?_
  obtain ⟨P28, ct29, hw30⟩ := hw25
  refine z_callS (h := (I22, h.2)) (S := []) (M := mX0_lay) (As := [va_rf (some (a + 12)), .int 0]) eJ7_fill_53178 w300 (Or.inl w1072) dX0_lay_25 rfl (by omega) (Nat.le_of_ble_eq_true rfl) ct29 (fun v35 g36 q32 => ?_)
  obtain ⟨I31, rfl, rfl, q32⟩ := q32
  have hw34 := hw30 I31 q32
  show Z l G _ d Q k n 28 _ ([]) _
  refine z_aloadn dX0_lay_28 rfl rfl ?_
  refine z_getRq (j := 13) zc0 dX0_lay_29 (ha.k 0 rfl) (ha.lt 0 rfl) (by decide) rfl w502 (ha.r 12 rfl) ?_
  refine z_iconst (v := 0) dX0_lay_32 (by decide) ?_
  obtain ⟨P37, ct38, hw39⟩ := hw34
  refine z_callS (h := (I31, h.2)) (S := []) (M := mX0_lay) (As := [va_rf (some (a + 13)), .int 0]) eJ7_fill_53178 w300 (Or.inl w1072) dX0_lay_33 rfl (by omega) (Nat.le_of_ble_eq_true rfl) ct38 (fun v44 g45 q41 => ?_)
  obtain ⟨I40, rfl, rfl, q41⟩ := q41
  have hw43 := hw39 I40 q41
  show Z l G _ d Q k n 36 _ ([]) _
  refine z_iconst (v := 0) dX0_lay_36 (by decide) ?_
  refine z_istoren (L' := [va_rf (some a), va_rf (some a1), .int x2, .int 0, zU]) dX0_lay_37 rfl (by decide) rfl ?_
  exact hw43

theorem sX0_lay_38 {l : Launch} {G : zG} {d : Nat} {Q : Option Value → zH → Prop} {k n : Nat} {h : zH} (a : Nat) (a1 : Nat) (x2 : Int32) (x3 : Int32) (u4 : Value) (ha : lo0 h a) (ha1 : lo1 h a1) (hd9 : 5 ≤ d)
    (hw : (((zI h a1 3).toInt ≤ x3.toInt → Z l G mX0_lay d Q k n 67 [va_rf (some a), va_rf (some a1), .int x2, .int 0, u4] [] h) ∧ (x3.toInt < (zI h a1 3).toInt → (∃ P5, CTi l G YX1_loadOf 3 [va_rf (some a1), .int x3] h P5 ∧ ∀ (y10 : Int32) (I8 : Nat → Nat → Int32), P5 y10 I8 → (∀ I17 : Nat → Nat → Int32, I17 = (zput (I8, h.2) (some (a + 9)) x3 y10).1 → Z l G mX0_lay d Q k n 38 [va_rf (some a), va_rf (some a1), .int x2, .int ((x3 + 1)), u4] [] (I17, h.2)))))) :
    Z l G mX0_lay d Q k n 38 [va_rf (some a), va_rf (some a1), .int x2, .int x3, u4] [] h := by
  refine z_iloadn dX0_lay_38 rfl rfl ?_
  refine z_aloadn dX0_lay_39 rfl rfl ?_
  refine z_getIN (j := 3) zc1 dX0_lay_40 (ha1.k 0 rfl) (ha1.lt 0 rfl) (by decide) rfl w313 ?_
  refine z_icmp_ge (t := 65) dX0_lay_43 (by decide) (fun c1 => ?_) (fun c2 => ?_)
  · have hw3 := hw.1 c1
    refine z_iconst (v := 0) dX0_lay_65 (by decide) ?_
    refine z_istoren (L' := [va_rf (some a), va_rf (some a1), .int x2, .int 0, u4]) dX0_lay_66 rfl (by decide) rfl ?_
    exact hw3
  · have hw4 := hw.2 c2
    refine z_aloadn dX0_lay_46 rfl rfl ?_
    refine z_getRq (j := 9) zc0 dX0_lay_47 (ha.k 0 rfl) (ha.lt 0 rfl) (by decide) rfl w495 (ha.r 8 rfl) ?_
    refine z_iloadn dX0_lay_50 rfl rfl ?_
    refine z_aloadn dX0_lay_51 rfl rfl ?_
    refine z_iloadn dX0_lay_52 rfl rfl ?_
    obtain ⟨P5, ct6, hw7⟩ := hw4
    refine z_callV (h := h) (S := [.int x3, va_rf (some (a + 9))]) (a := a1) (M := mX0_lay) (As := [.int x3]) zc1 rfl eX1_loadOf w1075 w44 (Or.inr ⟨_, w1073⟩) dX0_lay_53 (ha1.k 0 rfl) (ha1.lt 0 rfl) rfl (by omega) (Nat.le_of_ble_eq_true rfl) ct6 (fun v12 g13 q9 => ?_)
    obtain ⟨y10, I8, rfl, rfl, q9⟩ := q9
    have hw11 := hw7 y10 I8 q9
    show Z l G _ d Q k n 56 _ (.int y10 :: .int x3 :: va_rf (some (a + 9)) :: []) _
    refine z_callS (h := (I8, h.2)) (S := []) (M := mX0_lay) (As := [va_rf (some (a + 9)), .int x3, .int y10]) eX10_put w754 (Or.inr ⟨_, w1077⟩) dX0_lay_56 rfl (by omega) (Nat.le_of_ble_eq_true rfl) (c_X10_put l G (I8, h.2) (some (a + 9)) x3 y10 (zpok_lo (ha.w 9 rfl) (by decide))) (fun v14 g15 q16 => ?_)
    obtain ⟨rfl, q16⟩ := q16
    replace q16 := q16.symm
    subst q16
    refine z_nm (r := h.2) rfl (fun I17 e18 => ?_)
    have hw19 := hw11 I17 e18
    refine z_iinc (v := (x3 + 1)) (L' := [va_rf (some a), va_rf (some a1), .int x2, .int ((x3 + 1)), u4]) dX0_lay_59 (by decide) rfl rfl rfl ?_
    refine z_goto (t := 38) dX0_lay_62 (by decide) ?_
    exact hw19

theorem sX0_lay_67 {l : Launch} {G : zG} {d : Nat} {Q : Option Value → zH → Prop} {k n : Nat} {h : zH} (a : Nat) (a1 : Nat) (x2 : Int32) (x3 : Int32) (u4 : Value) (ha : lo0 h a) (ha1 : lo1 h a1) (hd9 : 5 ≤ d)
    (hw : ((x2.toInt < x3.toInt → Q none h) ∧ (x3.toInt ≤ x2.toInt → (((100 : Int) ≤ x3.toInt → Q none h) ∧ (x3.toInt < (100 : Int) → ((¬ zget h (some (a1 + 5)) x3 = 1 → Z l G mX0_lay d Q k n 97 [va_rf (some a), va_rf (some a1), .int x2, .int x3, .int 0] [] h) ∧ (zget h (some (a1 + 5)) x3 = 1 → (∃ P16, CTv l G YX0_wash 2 [va_rf (some a)] h P16 ∧ ∀ (I19 : Nat → Nat → Int32), P16 I19 → Z l G mX0_lay d Q k n 97 [va_rf (some a), va_rf (some a1), .int x2, .int x3, .int 0] [] (I19, h.2))))))))) :
    Z l G mX0_lay d Q k n 67 [va_rf (some a), va_rf (some a1), .int x2, .int x3, u4] [] h := by
  refine z_iloadn dX0_lay_67 rfl rfl ?_
  refine z_iloadn dX0_lay_68 rfl rfl ?_
  refine z_icmp_gt (t := 126) dX0_lay_69 (by decide) (fun c1 => ?_) (fun c2 => ?_)
  · have hw3 := hw.1 c1
    exact z_ret (v := none) dX0_lay_126 rfl rfl hw3
  · have hw4 := hw.2 c2
    refine z_iloadn dX0_lay_72 rfl rfl ?_
    refine z_bipush (v := 100) dX0_lay_73 (by decide) ?_
    refine z_icmp_ge (t := 126) dX0_lay_75 (by decide) (fun c5 => ?_) (fun c6 => ?_)
    · have hw7 := hw4.1 c5
      exact z_ret (v := none) dX0_lay_126 rfl rfl hw7
    · have hw8 := hw4.2 c6
      refine z_aloadn dX0_lay_78 rfl rfl ?_
      refine z_getRNq (j := 9) zc1 dX0_lay_79 (ha1.k 0 rfl) (ha1.lt 0 rfl) (by decide) rfl w332 (ha1.r 4 rfl) ?_
      refine z_iloadn dX0_lay_82 rfl rfl ?_
      refine z_callS (h := h) (S := []) (M := mX0_lay) (As := [va_rf (some (a1 + 5)), .int x3]) eX10_get w778 (Or.inr ⟨_, w1078⟩) dX0_lay_83 rfl (by omega) (Nat.le_of_ble_eq_true rfl) (c_X10_get l G h (some (a1 + 5)) x3 (zgok_lo (ha1.w 5 rfl) (by decide))) (fun v9 g10 q11 => ?_)
      obtain ⟨rfl, q11⟩ := q11
      replace q11 := q11.symm
      subst q11
      show Z l G _ d Q k n 86 _ (.int (zget h (some (a1 + 5)) x3) :: []) _
      refine z_iconst (v := 1) dX0_lay_86 (by decide) ?_
      refine z_icmp_ne (t := 94) dX0_lay_87 (by decide) (fun c12 => ?_) (fun c13 => ?_)
      · have hw14 := hw8.1 c12
        refine z_iconst (v := 0) dX0_lay_94 (by decide) ?_
        refine z_istore (L' := [va_rf (some a), va_rf (some a1), .int x2, .int x3, .int 0]) dX0_lay_95 (by decide) rfl ?_
        exact hw14
      · have hw15 := hw8.2 c13
        refine z_aloadn dX0_lay_90 rfl rfl ?_
        obtain ⟨P16, ct17, hw18⟩ := hw15
        refine z_callV (h := h) (S := []) (a := a) (M := mX0_lay) (As := []) zc0 rfl eX0_wash w1070 w43 (Or.inl w1068) dX0_lay_91 (ha.k 0 rfl) (ha.lt 0 rfl) rfl (by omega) (Nat.le_of_ble_eq_true rfl) ct17 (fun v23 g24 q20 => ?_)
        obtain ⟨I19, rfl, rfl, q20⟩ := q20
        have hw22 := hw18 I19 q20
        show Z l G _ d Q k n 94 _ ([]) _
        refine z_iconst (v := 0) dX0_lay_94 (by decide) ?_
        refine z_istore (L' := [va_rf (some a), va_rf (some a1), .int x2, .int x3, .int 0]) dX0_lay_95 (by decide) rfl ?_
        exact hw22

theorem sX0_lay_97 {l : Launch} {G : zG} {d : Nat} {Q : Option Value → zH → Prop} {k n : Nat} {h : zH} (a : Nat) (a1 : Nat) (x2 : Int32) (x3 : Int32) (x4 : Int32) (ha : lo0 h a) (ha1 : lo1 h a1) (hd9 : 5 ≤ d)
    (hw : (((zI h a1 3).toInt ≤ x4.toInt → Z l G mX0_lay d Q k n 67 [va_rf (some a), va_rf (some a1), .int x2, .int ((x3 + 1)), .int x4] [] h) ∧ (x4.toInt < (zI h a1 3).toInt → (∃ P5, CTv l G YX0_goOn 4 [va_rf (some a), va_rf (some a1), .int x4, .int x3] h P5 ∧ ∀ (I8 : Nat → Nat → Int32), P5 I8 → Z l G mX0_lay d Q k n 97 [va_rf (some a), va_rf (some a1), .int x2, .int x3, .int ((x4 + 1))] [] (I8, h.2))))) :
    Z l G mX0_lay d Q k n 97 [va_rf (some a), va_rf (some a1), .int x2, .int x3, .int x4] [] h := by
  refine z_iload dX0_lay_97 rfl ?_
  refine z_aloadn dX0_lay_99 rfl rfl ?_
  refine z_getIN (j := 3) zc1 dX0_lay_100 (ha1.k 0 rfl) (ha1.lt 0 rfl) (by decide) rfl w313 ?_
  refine z_icmp_ge (t := 120) dX0_lay_103 (by decide) (fun c1 => ?_) (fun c2 => ?_)
  · have hw3 := hw.1 c1
    refine z_iinc (v := (x3 + 1)) (L' := [va_rf (some a), va_rf (some a1), .int x2, .int ((x3 + 1)), .int x4]) dX0_lay_120 (by decide) rfl rfl rfl ?_
    refine z_goto (t := 67) dX0_lay_123 (by decide) ?_
    exact hw3
  · have hw4 := hw.2 c2
    refine z_aloadn dX0_lay_106 rfl rfl ?_
    refine z_aloadn dX0_lay_107 rfl rfl ?_
    refine z_iload dX0_lay_108 rfl ?_
    refine z_iloadn dX0_lay_110 rfl rfl ?_
    obtain ⟨P5, ct6, hw7⟩ := hw4
    refine z_callV (h := h) (S := []) (a := a) (M := mX0_lay) (As := [va_rf (some a1), .int x4, .int x3]) zc0 rfl eX0_goOn w1081 w45 (Or.inl w1079) dX0_lay_111 (ha.k 0 rfl) (ha.lt 0 rfl) rfl (by omega) (Nat.le_of_ble_eq_true rfl) ct6 (fun v12 g13 q9 => ?_)
    obtain ⟨I8, rfl, rfl, q9⟩ := q9
    have hw11 := hw7 I8 q9
    show Z l G _ d Q k n 114 _ ([]) _
    refine z_iinc (v := (x4 + 1)) (L' := [va_rf (some a), va_rf (some a1), .int x2, .int x3, .int ((x4 + 1))]) dX0_lay_114 (by decide) rfl rfl rfl ?_
    refine z_goto (t := 97) dX0_lay_117 (by decide) ?_
    exact hw11

theorem kX0_lay {l : Launch} {G : zG} {d : Nat} {Q : Option Value → zH → Prop} {k n : Nat} {h : zH} (a : Nat) (a1 : Nat) (x2 : Int32) (hz : Z l G mX0_lay d Q k n 0 [va_rf (some a), va_rf (some a1), .int x2, zU, zU] [] h) : CT l G YX0_lay d k n [va_rf (some a), va_rf (some a1), .int x2] h Q :=
  CT.of (by decide +kernel) (fun t e => by cases e) (by exact Nat.le_of_ble_eq_true rfl) (by exact hz)

theorem sX0_wash_0 {l : Launch} {G : zG} {d : Nat} {Q : Option Value → zH → Prop} {k n : Nat} {h : zH} (a : Nat) (ha : lo0 h a) (hd9 : 2 ≤ d)
    (hw : (∀ I1 : Nat → Nat → Int32, I1 = (zwI h a 0 (0 : Int32)).1 → (∃ P4, CTv l G YJ7_fill_53178 1 [va_rf (some (a + 7)), .int ((-1))] (I1, h.2) P4 ∧ ∀ (I7 : Nat → Nat → Int32), P4 I7 → Q none (I7, h.2)))) :
    Z l G mX0_wash d Q k n 0 [va_rf (some a)] [] h := by
  refine z_aloadn dX0_wash_0 rfl rfl ?_
  refine z_iconst (v := 0) dX0_wash_1 (by decide) ?_
  refine z_putI (j := 0) zc0 dX0_wash_2 (ha.k 0 rfl) (ha.lt 0 rfl) (by decide) rfl rfl (Or.inl rfl) (Or.inl w485) ?_
  refine z_nm (r := h.2) rfl (fun I1 e2 => ?_)
  have hw3 := hw I1 e2
  refine z_aloadn dX0_wash_5 rfl rfl ?_
  refine z_getRq (j := 7) zc0 dX0_wash_6 (ha.k 0 rfl) (ha.lt 0 rfl) (by decide) rfl w493 (ha.r 6 rfl) ?_
  refine z_iconst (v := (-1)) dX0_wash_9 (by decide) ?_
  obtain ⟨P4, ct5, hw6⟩ := hw3
  refine z_callS (h := (I1, h.2)) (S := []) (M := mX0_wash) (As := [va_rf (some (a + 7)), .int ((-1))]) eJ7_fill_53178 w300 (Or.inl w1072) dX0_wash_10 rfl (by omega) (Nat.le_of_ble_eq_true rfl) ct5 (fun v11 g12 q8 => ?_)
  obtain ⟨I7, rfl, rfl, q8⟩ := q8
  have hw10 := hw6 I7 q8
  show Z l G _ d Q k n 13 _ ([]) _
  exact z_ret (v := none) dX0_wash_13 rfl rfl hw10

theorem kX0_wash {l : Launch} {G : zG} {d : Nat} {Q : Option Value → zH → Prop} {k n : Nat} {h : zH} (a : Nat) (hz : Z l G mX0_wash d Q k n 0 [va_rf (some a)] [] h) : CT l G YX0_wash d k n [va_rf (some a)] h Q :=
  CT.of (by decide +kernel) (fun t e => by cases e) (by exact Nat.le_of_ble_eq_true rfl) (by exact hz)

theorem sX0_goOn_0 {l : Launch} {G : zG} {d : Nat} {Q : Option Value → zH → Prop} {k n : Nat} {h : zH} (a : Nat) (a1 : Nat) (x2 : Int32) (x3 : Int32) (ha : lo0 h a) (ha1 : lo1 h a1) (hd9 : 4 ≤ d)
    (hw : ((zmem h a1 x2 = none → Q none h) ∧ (∀ b5, zmem h a1 x2 = some b5 → (lo2 h b5 ∧ ((zI h b5 4 = 2 → Q none h) ∧ (¬ zI h b5 4 = 2 → (((zwalks h b5) = true → (((x3 - (zI h b5 7)).toInt < (0 : Int) → Q none h) ∧ ((0 : Int) ≤ (x3 - (zI h b5 7)).toInt → (((x3 - (zI h b5 7)).toInt ≤ (zI h b5 8).toInt → ((¬ (x3 - (zI h b5 7)) = 0 → (∀ I45 : Nat → Nat → Int32, I45 = (zput h (some (a + 8)) x2 (zbes (zI h a1 0) (zI h a1 1) (zget h (some (a + 8)) x2) (zsideAt h b5 (x3 - (zI h b5 7))) (zI h b5 1))).1 → ((zbes (zI h a1 0) (zI h a1 1) (zget h (some (a + 8)) x2) (zsideAt h b5 (x3 - (zI h b5 7))) (zI h b5 1) = (-1) → Q none (I45, h.2)) ∧ (¬ zbes (zI h a1 0) (zI h a1 1) (zget h (some (a + 8)) x2) (zsideAt h b5 (x3 - (zI h b5 7))) (zI h b5 1) = (-1) → ((¬ zI (I45, h.2) b5 4 = 1 → (∃ P68, CTv l G YX0_setDown 3 [va_rf (some a), .int x2, .int x3, .int (zbes (zI h a1 0) (zI h a1 1) (zget h (some (a + 8)) x2) (zsideAt h b5 (x3 - (zI h b5 7))) (zI h b5 1)), .int (zshape (zI (I45, h.2) b5 0) (zrem (x3 - (zI h b5 7)) 2) (zsideAt (I45, h.2) b5 (x3 - (zI h b5 7)))), .int (zdep (zI (I45, h.2) b5 3) (zget (I45, h.2) (some (a + 9)) x2) (zrem (x3 - (zI h b5 7)) 2))] (I45, h.2) P68 ∧ ∀ (I71 : Nat → Nat → Int32), P68 I71 → Q none (I71, h.2))) ∧ (zI (I45, h.2) b5 4 = 1 → (∃ P89, CTv l G YX0_setDown 3 [va_rf (some a), .int x2, .int x3, .int (zbes (zI h a1 0) (zI h a1 1) (zget h (some (a + 8)) x2) (zsideAt h b5 (x3 - (zI h b5 7))) (zI h b5 1)), .int (zshape (6 : Int32) (zrem (x3 - (zI h b5 7)) 2) (zsideAt (I45, h.2) b5 (x3 - (zI h b5 7)))), .int (zdep (zI (I45, h.2) b5 3) (zget (I45, h.2) (some (a + 9)) x2) (zrem (x3 - (zI h b5 7)) 2))] (I45, h.2) P89 ∧ ∀ (I92 : Nat → Nat → Int32), P89 I92 → Q none (I92, h.2)))))))) ∧ ((x3 - (zI h b5 7)) = 0 → (∀ I101 : Nat → Nat → Int32, I101 = (zput h (some (a + 8)) x2 (zI h b5 6)).1 → ((zI h b5 6 = (-1) → Q none (I101, h.2)) ∧ (¬ zI h b5 6 = (-1) → ((¬ zI (I101, h.2) b5 4 = 1 → (∃ P124, CTv l G YX0_setDown 3 [va_rf (some a), .int x2, .int x3, .int (zI h b5 6), .int (zshape (zI (I101, h.2) b5 0) (zrem (x3 - (zI h b5 7)) 2) (zsideAt (I101, h.2) b5 (x3 - (zI h b5 7)))), .int (zdep (zI (I101, h.2) b5 3) (zget (I101, h.2) (some (a + 9)) x2) (zrem (x3 - (zI h b5 7)) 2))] (I101, h.2) P124 ∧ ∀ (I127 : Nat → Nat → Int32), P124 I127 → Q none (I127, h.2))) ∧ (zI (I101, h.2) b5 4 = 1 → (∃ P145, CTv l G YX0_setDown 3 [va_rf (some a), .int x2, .int x3, .int (zI h b5 6), .int (zshape (6 : Int32) (zrem (x3 - (zI h b5 7)) 2) (zsideAt (I101, h.2) b5 (x3 - (zI h b5 7)))), .int (zdep (zI (I101, h.2) b5 3) (zget (I101, h.2) (some (a + 9)) x2) (zrem (x3 - (zI h b5 7)) 2))] (I101, h.2) P145 ∧ ∀ (I148 : Nat → Nat → Int32), P145 I148 → Q none (I148, h.2)))))))))) ∧ ((zI h b5 8).toInt < (x3 - (zI h b5 7)).toInt → Q none h))))) ∧ ((zwalks h b5) = false → Q none h)))))))) :
    Z l G mX0_goOn d Q k n 0 [va_rf (some a), va_rf (some a1), .int x2, .int x3, zU, zU, zU, zU, zU] [] h := by
  refine z_aloadn dX0_goOn_0 rfl rfl ?_
  refine z_iloadn dX0_goOn_1 rfl rfl ?_
  refine z_callV (h := h) (S := []) (a := a1) (M := mX0_goOn) (As := [.int x2]) zc1 rfl eX1_member w1011 w34 (Or.inr ⟨_, w1083⟩) dX0_goOn_2 (ha1.k 0 rfl) (ha1.lt 0 rfl) rfl (by omega) (Nat.le_of_ble_eq_true rfl) (c_X1_member l G h a1 x2 ha1) (fun v1 g2 q3 => ?_)
  obtain ⟨rfl, q3⟩ := q3
  replace q3 := q3.symm
  subst q3
  show Z l G _ d Q k n 5 _ (va_rf (zmem h a1 x2) :: []) _
  refine z_astore (L' := [va_rf (some a), va_rf (some a1), .int x2, .int x3, va_rf (zmem h a1 x2), zU, zU, zU, zU]) dX0_goOn_5 (by decide) rfl ?_
  refine z_aload dX0_goOn_7 rfl ?_
  refine z_ifnull (t := 29) dX0_goOn_9 (by decide) (fun c4 => ?_) (fun b5 c4 => ?_)
  · have hw6 := hw.1 c4
    exact z_ret (v := none) dX0_goOn_29 rfl rfl hw6
  · have hw7 := hw.2 b5 c4
    refine z_aload dX0_goOn_12 rfl ?_
    refine z_soP [] c4 ?_
    obtain ⟨ho8, hw9⟩ := hw7
    refine z_getIN (j := 4) zc2 dX0_goOn_14 (ho8.k 0 rfl) (ho8.lt 0 rfl) (by decide) rfl w241 ?_
    refine z_iconst (v := 2) dX0_goOn_17 (by decide) ?_
    refine z_icmp_eq (t := 29) dX0_goOn_18 (by decide) (fun c10 => ?_) (fun c11 => ?_)
    · have hw12 := hw9.1 c10
      exact z_ret (v := none) dX0_goOn_29 rfl rfl hw12
    · have hw13 := hw9.2 c11
      refine z_aload dX0_goOn_21 rfl ?_
      refine z_soP [] c4 ?_
      refine z_callV (h := h) (S := []) (a := b5) (M := mX0_goOn) (As := []) zc2 rfl eX2_walksHimself w1020 w36 (Or.inr ⟨_, w1084⟩) dX0_goOn_23 (ho8.k 0 rfl) (ho8.lt 0 rfl) rfl (by omega) (Nat.le_of_ble_eq_true rfl) (c_X2_walksHimself l G h b5 ho8) (fun v14 g15 q16 => ?_)
      obtain ⟨rfl, q16⟩ := q16
      replace q16 := q16.symm
      subst q16
      show Z l G _ d Q k n 26 _ (.int (zb (zwalks h b5)) :: []) _
      refine z_if_ne (t := 30) dX0_goOn_26 (by decide) (fun c17 => ?_) (fun c18 => ?_)
      · have hw19 := hw13.1 (zb1 c17)
        refine z_iloadn dX0_goOn_30 rfl rfl ?_
        refine z_aload dX0_goOn_31 rfl ?_
        refine z_soP [] c4 ?_
        refine z_getIN (j := 7) zc2 dX0_goOn_33 (ho8.k 0 rfl) (ho8.lt 0 rfl) (by decide) rfl w254 ?_
        refine z_isub dX0_goOn_36 ?_
        refine z_istore (L' := [va_rf (some a), va_rf (some a1), .int x2, .int x3, va_rf (zmem h a1 x2), .int ((x3 - (zI h b5 7))), zU, zU, zU]) dX0_goOn_37 (by decide) ((zs1_rf (j := 4) rfl).trans rfl) ?_
        refine z_iload dX0_goOn_39 rfl ?_
        refine z_if_lt (t := 54) dX0_goOn_41 (by decide) (fun c21 => ?_) (fun c22 => ?_)
        · have hw23 := hw19.1 c21
          exact z_ret (v := none) dX0_goOn_54 rfl rfl hw23
        · have hw24 := hw19.2 c22
          refine z_iload dX0_goOn_44 rfl ?_
          refine z_aload dX0_goOn_46 rfl ?_
          refine z_soP [] c4 ?_
          refine z_getIN (j := 8) zc2 dX0_goOn_48 (ho8.k 0 rfl) (ho8.lt 0 rfl) (by decide) rfl w259 ?_
          refine z_icmp_le (t := 55) dX0_goOn_51 (by decide) (fun c25 => ?_) (fun c26 => ?_)
          · have hw27 := hw24.1 c25
            refine z_iload dX0_goOn_55 rfl ?_
            refine z_if_ne (t := 68) dX0_goOn_57 (by decide) (fun c29 => ?_) (fun c30 => ?_)
            · have hw31 := hw27.1 c29
              refine z_aloadn dX0_goOn_68 rfl rfl ?_
              refine z_aloadn dX0_goOn_69 rfl rfl ?_
              refine z_getRq (j := 8) zc0 dX0_goOn_70 (ha.k 0 rfl) (ha.lt 0 rfl) (by decide) rfl w494 (ha.r 7 rfl) ?_
              refine z_iloadn dX0_goOn_73 rfl rfl ?_
              refine z_callS (h := h) (S := [va_rf (some a1)]) (M := mX0_goOn) (As := [va_rf (some (a + 8)), .int x2]) eX10_get w778 (Or.inr ⟨_, w1078⟩) dX0_goOn_74 rfl (by omega) (Nat.le_of_ble_eq_true rfl) (c_X10_get l G h (some (a + 8)) x2 (zgok_lo (ha.w 8 rfl) (by decide))) (fun v33 g34 q35 => ?_)
              obtain ⟨rfl, q35⟩ := q35
              replace q35 := q35.symm
              subst q35
              show Z l G _ d Q k n 77 _ (.int (zget h (some (a + 8)) x2) :: va_rf (some a1) :: []) _
              refine z_aload dX0_goOn_77 rfl ?_
              refine z_iload dX0_goOn_79 rfl ?_
              refine z_soP [.int ((x3 - (zI h b5 7)))] c4 ?_
              refine z_callV (h := h) (S := [.int (zget h (some (a + 8)) x2), va_rf (some a1)]) (a := b5) (M := mX0_goOn) (As := [.int ((x3 - (zI h b5 7)))]) zc2 rfl eX2_sideAt w1024 w37 (Or.inr ⟨_, w1085⟩) dX0_goOn_81 (ho8.k 0 rfl) (ho8.lt 0 rfl) rfl (by omega) (Nat.le_of_ble_eq_true rfl) (c_X2_sideAt l G h b5 (x3 - (zI h b5 7)) ho8) (fun v36 g37 q38 => ?_)
              obtain ⟨rfl, q38⟩ := q38
              replace q38 := q38.symm
              subst q38
              show Z l G _ d Q k n 84 _ (.int (zsideAt h b5 (x3 - (zI h b5 7))) :: .int (zget h (some (a + 8)) x2) :: va_rf (some a1) :: []) _
              refine z_aload dX0_goOn_84 rfl ?_
              refine z_soP [] c4 ?_
              refine z_getIN (j := 1) zc2 dX0_goOn_86 (ho8.k 0 rfl) (ho8.lt 0 rfl) (by decide) rfl w227 ?_
              refine z_callV (h := h) (S := []) (a := a1) (M := mX0_goOn) (As := [.int (zget h (some (a + 8)) x2), .int (zsideAt h b5 (x3 - (zI h b5 7))), .int (zI h b5 1)]) zc1 rfl eX1_beside w1030 w38 (Or.inr ⟨_, w1086⟩) dX0_goOn_89 (ha1.k 0 rfl) (ha1.lt 0 rfl) rfl (by omega) (Nat.le_of_ble_eq_true rfl) (c_X1_beside l G h a1 (zget h (some (a + 8)) x2) (zsideAt h b5 (x3 - (zI h b5 7))) (zI h b5 1) ha1) (fun v39 g40 q41 => ?_)
              obtain ⟨rfl, q41⟩ := q41
              replace q41 := q41.symm
              subst q41
              show Z l G _ d Q k n 92 _ (.int (zbes (zI h a1 0) (zI h a1 1) (zget h (some (a + 8)) x2) (zsideAt h b5 (x3 - (zI h b5 7))) (zI h b5 1)) :: []) _
              refine z_istore (L' := [va_rf (some a), va_rf (some a1), .int x2, .int x3, va_rf (zmem h a1 x2), .int ((x3 - (zI h b5 7))), .int (zbes (zI h a1 0) (zI h a1 1) (zget h (some (a + 8)) x2) (zsideAt h b5 (x3 - (zI h b5 7))) (zI h b5 1)), zU, zU]) dX0_goOn_92 (by decide) rfl ?_
              refine z_aloadn dX0_goOn_94 rfl rfl ?_
              refine z_getRq (j := 8) zc0 dX0_goOn_95 (ha.k 0 rfl) (ha.lt 0 rfl) (by decide) rfl w494 (ha.r 7 rfl) ?_
              refine z_iloadn dX0_goOn_98 rfl rfl ?_
              refine z_iload dX0_goOn_99 rfl ?_
              refine z_callS (h := h) (S := []) (M := mX0_goOn) (As := [va_rf (some (a + 8)), .int x2, .int (zbes (zI h a1 0) (zI h a1 1) (zget h (some (a + 8)) x2) (zsideAt h b5 (x3 - (zI h b5 7))) (zI h b5 1))]) eX10_put w754 (Or.inr ⟨_, w1077⟩) dX0_goOn_101 rfl (by omega) (Nat.le_of_ble_eq_true rfl) (c_X10_put l G h (some (a + 8)) x2 (zbes (zI h a1 0) (zI h a1 1) (zget h (some (a + 8)) x2) (zsideAt h b5 (x3 - (zI h b5 7))) (zI h b5 1)) (zpok_lo (ha.w 8 rfl) (by decide))) (fun v42 g43 q44 => ?_)
              obtain ⟨rfl, q44⟩ := q44
              replace q44 := q44.symm
              subst q44
              refine z_nm (r := h.2) rfl (fun I45 e46 => ?_)
              have hw47 := hw31 I45 e46
              refine z_iload dX0_goOn_104 rfl ?_
              refine z_iconst (v := (-1)) dX0_goOn_106 (by decide) ?_
              refine z_icmp_eq (t := 176) dX0_goOn_107 (by decide) (fun c48 => ?_) (fun c49 => ?_)
              · have hw50 := hw47.1 c48
                exact z_ret (v := none) dX0_goOn_176 rfl rfl hw50
              · have hw51 := hw47.2 c49
                refine z_aload dX0_goOn_110 rfl ?_
                refine z_soP [] c4 ?_
                refine z_getIN (j := 4) zc2 dX0_goOn_112 (ho8.k 0 rfl) (ho8.lt 0 rfl) (by decide) rfl w241 ?_
                refine z_iconst (v := 1) dX0_goOn_115 (by decide) ?_
                refine z_icmp_ne (t := 124) dX0_goOn_116 (by decide) (fun c52 => ?_) (fun c53 => ?_)
                · have hw54 := hw51.1 c52
                  refine z_aload dX0_goOn_124 rfl ?_
                  refine z_soP [] c4 ?_
                  refine z_getIN (j := 0) zc2 dX0_goOn_126 (ho8.k 0 rfl) (ho8.lt 0 rfl) (by decide) rfl w222 ?_
                  refine z_istore (L' := [va_rf (some a), va_rf (some a1), .int x2, .int x3, va_rf (zmem h a1 x2), .int ((x3 - (zI h b5 7))), .int (zbes (zI h a1 0) (zI h a1 1) (zget h (some (a + 8)) x2) (zsideAt h b5 (x3 - (zI h b5 7))) (zI h b5 1)), .int (zI (I45, h.2) b5 0), zU]) dX0_goOn_129 (by decide) rfl ?_
                  refine z_aload dX0_goOn_131 rfl ?_
                  refine z_aloadn dX0_goOn_133 rfl rfl ?_
                  refine z_getRq (j := 9) zc0 dX0_goOn_134 (ha.k 0 rfl) (ha.lt 0 rfl) (by decide) rfl w495 (ha.r 8 rfl) ?_
                  refine z_iloadn dX0_goOn_137 rfl rfl ?_
                  refine z_callS (h := (I45, h.2)) (S := [va_rf (zmem h a1 x2)]) (M := mX0_goOn) (As := [va_rf (some (a + 9)), .int x2]) eX10_get w778 (Or.inr ⟨_, w1078⟩) dX0_goOn_138 rfl (by omega) (Nat.le_of_ble_eq_true rfl) (c_X10_get l G (I45, h.2) (some (a + 9)) x2 (zgok_lo (ha.w 9 rfl) (by decide))) (fun v56 g57 q58 => ?_)
                  obtain ⟨rfl, q58⟩ := q58
                  replace q58 := q58.symm
                  subst q58
                  show Z l G _ d Q k n 141 _ (.int (zget (I45, h.2) (some (a + 9)) x2) :: va_rf (zmem h a1 x2) :: []) _
                  refine z_iload dX0_goOn_141 rfl ?_
                  refine z_iconst (v := 2) dX0_goOn_143 (by decide) ?_
                  refine z_irem dX0_goOn_144 (by decide) ?_
                  refine z_soP [.int ((zrem (x3 - (zI h b5 7)) 2)), .int (zget (I45, h.2) (some (a + 9)) x2)] c4 ?_
                  refine z_callV (h := (I45, h.2)) (S := []) (a := b5) (M := mX0_goOn) (As := [.int (zget (I45, h.2) (some (a + 9)) x2), .int ((zrem (x3 - (zI h b5 7)) 2))]) zc2 rfl eX2_depthUnder w1089 w46 (Or.inr ⟨_, w1087⟩) dX0_goOn_145 (ho8.k 0 rfl) (ho8.lt 0 rfl) rfl (by omega) (Nat.le_of_ble_eq_true rfl) (c_X2_depthUnder l G (I45, h.2) b5 (zget (I45, h.2) (some (a + 9)) x2) (zrem (x3 - (zI h b5 7)) 2) ho8) (fun v59 g60 q61 => ?_)
                  obtain ⟨rfl, q61⟩ := q61
                  replace q61 := q61.symm
                  subst q61
                  show Z l G _ d Q k n 148 _ (.int (zdep (zI (I45, h.2) b5 3) (zget (I45, h.2) (some (a + 9)) x2) (zrem (x3 - (zI h b5 7)) 2)) :: []) _
                  refine z_istore (L' := [va_rf (some a), va_rf (some a1), .int x2, .int x3, va_rf (zmem h a1 x2), .int ((x3 - (zI h b5 7))), .int (zbes (zI h a1 0) (zI h a1 1) (zget h (some (a + 8)) x2) (zsideAt h b5 (x3 - (zI h b5 7))) (zI h b5 1)), .int (zI (I45, h.2) b5 0), .int (zdep (zI (I45, h.2) b5 3) (zget (I45, h.2) (some (a + 9)) x2) (zrem (x3 - (zI h b5 7)) 2))]) dX0_goOn_148 (by decide) rfl ?_
                  refine z_aloadn dX0_goOn_150 rfl rfl ?_
                  refine z_iloadn dX0_goOn_151 rfl rfl ?_
                  refine z_iloadn dX0_goOn_152 rfl rfl ?_
                  refine z_iload dX0_goOn_153 rfl ?_
                  refine z_iload dX0_goOn_155 rfl ?_
                  refine z_iload dX0_goOn_157 rfl ?_
                  refine z_iconst (v := 2) dX0_goOn_159 (by decide) ?_
                  refine z_irem dX0_goOn_160 (by decide) ?_
                  refine z_aload dX0_goOn_161 rfl ?_
                  refine z_iload dX0_goOn_163 rfl ?_
                  refine z_soP [.int ((x3 - (zI h b5 7)))] c4 ?_
                  refine z_callV8 (h := (I45, h.2)) (S := [.int ((zrem (x3 - (zI h b5 7)) 2)), .int (zI (I45, h.2) b5 0), .int (zbes (zI h a1 0) (zI h a1 1) (zget h (some (a + 8)) x2) (zsideAt h b5 (x3 - (zI h b5 7))) (zI h b5 1)), .int x3, .int x2, va_rf (some a)]) (a := b5) (M := mX0_goOn) (As := [.int ((x3 - (zI h b5 7)))]) zc2 rfl eX2_sideAt w1024 w37 (Or.inr ⟨_, w1085⟩) dX0_goOn_165 (ho8.k 0 rfl) (ho8.lt 0 rfl) rfl (by omega) ⟨Nat.le_of_ble_eq_true rfl, ⟨rfl, ⟨rfl, ⟨rfl, ⟨rfl, ⟨rfl, ⟨rfl, trivial⟩⟩⟩⟩⟩⟩⟩ (c_X2_sideAt l G (I45, h.2) b5 (x3 - (zI h b5 7)) ho8) (fun v62 g63 q64 => ?_)
                  obtain ⟨rfl, q64⟩ := q64
                  replace q64 := q64.symm
                  subst q64
                  show Z l G _ d Q k n 168 _ (.int (zsideAt (I45, h.2) b5 (x3 - (zI h b5 7))) :: .int ((zrem (x3 - (zI h b5 7)) 2)) :: .int (zI (I45, h.2) b5 0) :: .int (zbes (zI h a1 0) (zI h a1 1) (zget h (some (a + 8)) x2) (zsideAt h b5 (x3 - (zI h b5 7))) (zI h b5 1)) :: .int x3 :: .int x2 :: va_rf (some a) :: []) _
                  refine z_callS (h := (I45, h.2)) (S := [.int (zbes (zI h a1 0) (zI h a1 1) (zget h (some (a + 8)) x2) (zsideAt h b5 (x3 - (zI h b5 7))) (zI h b5 1)), .int x3, .int x2, va_rf (some a)]) (M := mX0_goOn) (As := [.int (zI (I45, h.2) b5 0), .int ((zrem (x3 - (zI h b5 7)) 2)), .int (zsideAt (I45, h.2) b5 (x3 - (zI h b5 7)))]) eX10_shape w1092 (Or.inr ⟨_, w1091⟩) dX0_goOn_168 rfl (by omega) (Nat.le_of_ble_eq_true rfl) (c_X10_shape l G (I45, h.2) (zI (I45, h.2) b5 0) (zrem (x3 - (zI h b5 7)) 2) (zsideAt (I45, h.2) b5 (x3 - (zI h b5 7)))) (fun v65 g66 q67 => ?_)
                  obtain ⟨rfl, q67⟩ := q67
                  replace q67 := q67.symm
                  subst q67
                  show Z l G _ d Q k n 171 _ (.int (zshape (zI (I45, h.2) b5 0) (zrem (x3 - (zI h b5 7)) 2) (zsideAt (I45, h.2) b5 (x3 - (zI h b5 7)))) :: .int (zbes (zI h a1 0) (zI h a1 1) (zget h (some (a + 8)) x2) (zsideAt h b5 (x3 - (zI h b5 7))) (zI h b5 1)) :: .int x3 :: .int x2 :: va_rf (some a) :: []) _
                  refine z_iload dX0_goOn_171 rfl ?_
                  obtain ⟨P68, ct69, hw70⟩ := hw54
                  refine z_callV (h := (I45, h.2)) (S := []) (a := a) (M := mX0_goOn) (As := [.int x2, .int x3, .int (zbes (zI h a1 0) (zI h a1 1) (zget h (some (a + 8)) x2) (zsideAt h b5 (x3 - (zI h b5 7))) (zI h b5 1)), .int (zshape (zI (I45, h.2) b5 0) (zrem (x3 - (zI h b5 7)) 2) (zsideAt (I45, h.2) b5 (x3 - (zI h b5 7)))), .int (zdep (zI (I45, h.2) b5 3) (zget (I45, h.2) (some (a + 9)) x2) (zrem (x3 - (zI h b5 7)) 2))]) zc0 rfl eX0_setDown w1096 w47 (Or.inl w1094) dX0_goOn_173 (ha.k 0 rfl) (ha.lt 0 rfl) rfl (by omega) (Nat.le_of_ble_eq_true rfl) ct69 (fun v75 g76 q72 => ?_)
                  obtain ⟨I71, rfl, rfl, q72⟩ := q72
                  have hw74 := hw70 I71 q72
                  show Z l G _ d Q k n 176 _ ([]) _
                  exact z_ret (v := none) dX0_goOn_176 rfl rfl hw74
                · have hw55 := hw51.2 c53
                  refine z_bipush (v := 6) dX0_goOn_119 (by decide) ?_
                  refine z_goto (t := 129) dX0_goOn_121 (by decide) ?_
                  refine z_istore (L' := [va_rf (some a), va_rf (some a1), .int x2, .int x3, va_rf (zmem h a1 x2), .int ((x3 - (zI h b5 7))), .int (zbes (zI h a1 0) (zI h a1 1) (zget h (some (a + 8)) x2) (zsideAt h b5 (x3 - (zI h b5 7))) (zI h b5 1)), .int 6, zU]) dX0_goOn_129 (by decide) rfl ?_
                  refine z_aload dX0_goOn_131 rfl ?_
                  refine z_aloadn dX0_goOn_133 rfl rfl ?_
                  refine z_getRq (j := 9) zc0 dX0_goOn_134 (ha.k 0 rfl) (ha.lt 0 rfl) (by decide) rfl w495 (ha.r 8 rfl) ?_
                  refine z_iloadn dX0_goOn_137 rfl rfl ?_
                  refine z_callS (h := (I45, h.2)) (S := [va_rf (zmem h a1 x2)]) (M := mX0_goOn) (As := [va_rf (some (a + 9)), .int x2]) eX10_get w778 (Or.inr ⟨_, w1078⟩) dX0_goOn_138 rfl (by omega) (Nat.le_of_ble_eq_true rfl) (c_X10_get l G (I45, h.2) (some (a + 9)) x2 (zgok_lo (ha.w 9 rfl) (by decide))) (fun v77 g78 q79 => ?_)
                  obtain ⟨rfl, q79⟩ := q79
                  replace q79 := q79.symm
                  subst q79
                  show Z l G _ d Q k n 141 _ (.int (zget (I45, h.2) (some (a + 9)) x2) :: va_rf (zmem h a1 x2) :: []) _
                  refine z_iload dX0_goOn_141 rfl ?_
                  refine z_iconst (v := 2) dX0_goOn_143 (by decide) ?_
                  refine z_irem dX0_goOn_144 (by decide) ?_
                  refine z_soP [.int ((zrem (x3 - (zI h b5 7)) 2)), .int (zget (I45, h.2) (some (a + 9)) x2)] c4 ?_
                  refine z_callV (h := (I45, h.2)) (S := []) (a := b5) (M := mX0_goOn) (As := [.int (zget (I45, h.2) (some (a + 9)) x2), .int ((zrem (x3 - (zI h b5 7)) 2))]) zc2 rfl eX2_depthUnder w1089 w46 (Or.inr ⟨_, w1087⟩) dX0_goOn_145 (ho8.k 0 rfl) (ho8.lt 0 rfl) rfl (by omega) (Nat.le_of_ble_eq_true rfl) (c_X2_depthUnder l G (I45, h.2) b5 (zget (I45, h.2) (some (a + 9)) x2) (zrem (x3 - (zI h b5 7)) 2) ho8) (fun v80 g81 q82 => ?_)
                  obtain ⟨rfl, q82⟩ := q82
                  replace q82 := q82.symm
                  subst q82
                  show Z l G _ d Q k n 148 _ (.int (zdep (zI (I45, h.2) b5 3) (zget (I45, h.2) (some (a + 9)) x2) (zrem (x3 - (zI h b5 7)) 2)) :: []) _
                  refine z_istore (L' := [va_rf (some a), va_rf (some a1), .int x2, .int x3, va_rf (zmem h a1 x2), .int ((x3 - (zI h b5 7))), .int (zbes (zI h a1 0) (zI h a1 1) (zget h (some (a + 8)) x2) (zsideAt h b5 (x3 - (zI h b5 7))) (zI h b5 1)), .int 6, .int (zdep (zI (I45, h.2) b5 3) (zget (I45, h.2) (some (a + 9)) x2) (zrem (x3 - (zI h b5 7)) 2))]) dX0_goOn_148 (by decide) rfl ?_
                  refine z_aloadn dX0_goOn_150 rfl rfl ?_
                  refine z_iloadn dX0_goOn_151 rfl rfl ?_
                  refine z_iloadn dX0_goOn_152 rfl rfl ?_
                  refine z_iload dX0_goOn_153 rfl ?_
                  refine z_iload dX0_goOn_155 rfl ?_
                  refine z_iload dX0_goOn_157 rfl ?_
                  refine z_iconst (v := 2) dX0_goOn_159 (by decide) ?_
                  refine z_irem dX0_goOn_160 (by decide) ?_
                  refine z_aload dX0_goOn_161 rfl ?_
                  refine z_iload dX0_goOn_163 rfl ?_
                  refine z_soP [.int ((x3 - (zI h b5 7)))] c4 ?_
                  refine z_callV8 (h := (I45, h.2)) (S := [.int ((zrem (x3 - (zI h b5 7)) 2)), .int 6, .int (zbes (zI h a1 0) (zI h a1 1) (zget h (some (a + 8)) x2) (zsideAt h b5 (x3 - (zI h b5 7))) (zI h b5 1)), .int x3, .int x2, va_rf (some a)]) (a := b5) (M := mX0_goOn) (As := [.int ((x3 - (zI h b5 7)))]) zc2 rfl eX2_sideAt w1024 w37 (Or.inr ⟨_, w1085⟩) dX0_goOn_165 (ho8.k 0 rfl) (ho8.lt 0 rfl) rfl (by omega) ⟨Nat.le_of_ble_eq_true rfl, ⟨rfl, ⟨rfl, ⟨rfl, ⟨rfl, ⟨rfl, ⟨rfl, trivial⟩⟩⟩⟩⟩⟩⟩ (c_X2_sideAt l G (I45, h.2) b5 (x3 - (zI h b5 7)) ho8) (fun v83 g84 q85 => ?_)
                  obtain ⟨rfl, q85⟩ := q85
                  replace q85 := q85.symm
                  subst q85
                  show Z l G _ d Q k n 168 _ (.int (zsideAt (I45, h.2) b5 (x3 - (zI h b5 7))) :: .int ((zrem (x3 - (zI h b5 7)) 2)) :: .int 6 :: .int (zbes (zI h a1 0) (zI h a1 1) (zget h (some (a + 8)) x2) (zsideAt h b5 (x3 - (zI h b5 7))) (zI h b5 1)) :: .int x3 :: .int x2 :: va_rf (some a) :: []) _
                  refine z_callS (h := (I45, h.2)) (S := [.int (zbes (zI h a1 0) (zI h a1 1) (zget h (some (a + 8)) x2) (zsideAt h b5 (x3 - (zI h b5 7))) (zI h b5 1)), .int x3, .int x2, va_rf (some a)]) (M := mX0_goOn) (As := [.int 6, .int ((zrem (x3 - (zI h b5 7)) 2)), .int (zsideAt (I45, h.2) b5 (x3 - (zI h b5 7)))]) eX10_shape w1092 (Or.inr ⟨_, w1091⟩) dX0_goOn_168 rfl (by omega) (Nat.le_of_ble_eq_true rfl) (c_X10_shape l G (I45, h.2) (6 : Int32) (zrem (x3 - (zI h b5 7)) 2) (zsideAt (I45, h.2) b5 (x3 - (zI h b5 7)))) (fun v86 g87 q88 => ?_)
                  obtain ⟨rfl, q88⟩ := q88
                  replace q88 := q88.symm
                  subst q88
                  show Z l G _ d Q k n 171 _ (.int (zshape (6 : Int32) (zrem (x3 - (zI h b5 7)) 2) (zsideAt (I45, h.2) b5 (x3 - (zI h b5 7)))) :: .int (zbes (zI h a1 0) (zI h a1 1) (zget h (some (a + 8)) x2) (zsideAt h b5 (x3 - (zI h b5 7))) (zI h b5 1)) :: .int x3 :: .int x2 :: va_rf (some a) :: []) _
                  refine z_iload dX0_goOn_171 rfl ?_
                  obtain ⟨P89, ct90, hw91⟩ := hw55
                  refine z_callV (h := (I45, h.2)) (S := []) (a := a) (M := mX0_goOn) (As := [.int x2, .int x3, .int (zbes (zI h a1 0) (zI h a1 1) (zget h (some (a + 8)) x2) (zsideAt h b5 (x3 - (zI h b5 7))) (zI h b5 1)), .int (zshape (6 : Int32) (zrem (x3 - (zI h b5 7)) 2) (zsideAt (I45, h.2) b5 (x3 - (zI h b5 7)))), .int (zdep (zI (I45, h.2) b5 3) (zget (I45, h.2) (some (a + 9)) x2) (zrem (x3 - (zI h b5 7)) 2))]) zc0 rfl eX0_setDown w1096 w47 (Or.inl w1094) dX0_goOn_173 (ha.k 0 rfl) (ha.lt 0 rfl) rfl (by omega) (Nat.le_of_ble_eq_true rfl) ct90 (fun v96 g97 q93 => ?_)
                  obtain ⟨I92, rfl, rfl, q93⟩ := q93
                  have hw95 := hw91 I92 q93
                  show Z l G _ d Q k n 176 _ ([]) _
                  exact z_ret (v := none) dX0_goOn_176 rfl rfl hw95
            · have hw32 := hw27.2 c30
              refine z_aload dX0_goOn_60 rfl ?_
              refine z_soP [] c4 ?_
              refine z_getIN (j := 6) zc2 dX0_goOn_62 (ho8.k 0 rfl) (ho8.lt 0 rfl) (by decide) rfl w249 ?_
              refine z_goto (t := 92) dX0_goOn_65 (by decide) ?_
              refine z_istore (L' := [va_rf (some a), va_rf (some a1), .int x2, .int x3, va_rf (zmem h a1 x2), .int ((x3 - (zI h b5 7))), .int (zI h b5 6), zU, zU]) dX0_goOn_92 (by decide) rfl ?_
              refine z_aloadn dX0_goOn_94 rfl rfl ?_
              refine z_getRq (j := 8) zc0 dX0_goOn_95 (ha.k 0 rfl) (ha.lt 0 rfl) (by decide) rfl w494 (ha.r 7 rfl) ?_
              refine z_iloadn dX0_goOn_98 rfl rfl ?_
              refine z_iload dX0_goOn_99 rfl ?_
              refine z_callS (h := h) (S := []) (M := mX0_goOn) (As := [va_rf (some (a + 8)), .int x2, .int (zI h b5 6)]) eX10_put w754 (Or.inr ⟨_, w1077⟩) dX0_goOn_101 rfl (by omega) (Nat.le_of_ble_eq_true rfl) (c_X10_put l G h (some (a + 8)) x2 (zI h b5 6) (zpok_lo (ha.w 8 rfl) (by decide))) (fun v98 g99 q100 => ?_)
              obtain ⟨rfl, q100⟩ := q100
              replace q100 := q100.symm
              subst q100
              refine z_nm (r := h.2) rfl (fun I101 e102 => ?_)
              have hw103 := hw32 I101 e102
              refine z_iload dX0_goOn_104 rfl ?_
              refine z_iconst (v := (-1)) dX0_goOn_106 (by decide) ?_
              refine z_icmp_eq (t := 176) dX0_goOn_107 (by decide) (fun c104 => ?_) (fun c105 => ?_)
              · have hw106 := hw103.1 c104
                exact z_ret (v := none) dX0_goOn_176 rfl rfl hw106
              · have hw107 := hw103.2 c105
                refine z_aload dX0_goOn_110 rfl ?_
                refine z_soP [] c4 ?_
                refine z_getIN (j := 4) zc2 dX0_goOn_112 (ho8.k 0 rfl) (ho8.lt 0 rfl) (by decide) rfl w241 ?_
                refine z_iconst (v := 1) dX0_goOn_115 (by decide) ?_
                refine z_icmp_ne (t := 124) dX0_goOn_116 (by decide) (fun c108 => ?_) (fun c109 => ?_)
                · have hw110 := hw107.1 c108
                  refine z_aload dX0_goOn_124 rfl ?_
                  refine z_soP [] c4 ?_
                  refine z_getIN (j := 0) zc2 dX0_goOn_126 (ho8.k 0 rfl) (ho8.lt 0 rfl) (by decide) rfl w222 ?_
                  refine z_istore (L' := [va_rf (some a), va_rf (some a1), .int x2, .int x3, va_rf (zmem h a1 x2), .int ((x3 - (zI h b5 7))), .int (zI h b5 6), .int (zI (I101, h.2) b5 0), zU]) dX0_goOn_129 (by decide) rfl ?_
                  refine z_aload dX0_goOn_131 rfl ?_
                  refine z_aloadn dX0_goOn_133 rfl rfl ?_
                  refine z_getRq (j := 9) zc0 dX0_goOn_134 (ha.k 0 rfl) (ha.lt 0 rfl) (by decide) rfl w495 (ha.r 8 rfl) ?_
                  refine z_iloadn dX0_goOn_137 rfl rfl ?_
                  refine z_callS (h := (I101, h.2)) (S := [va_rf (zmem h a1 x2)]) (M := mX0_goOn) (As := [va_rf (some (a + 9)), .int x2]) eX10_get w778 (Or.inr ⟨_, w1078⟩) dX0_goOn_138 rfl (by omega) (Nat.le_of_ble_eq_true rfl) (c_X10_get l G (I101, h.2) (some (a + 9)) x2 (zgok_lo (ha.w 9 rfl) (by decide))) (fun v112 g113 q114 => ?_)
                  obtain ⟨rfl, q114⟩ := q114
                  replace q114 := q114.symm
                  subst q114
                  show Z l G _ d Q k n 141 _ (.int (zget (I101, h.2) (some (a + 9)) x2) :: va_rf (zmem h a1 x2) :: []) _
                  refine z_iload dX0_goOn_141 rfl ?_
                  refine z_iconst (v := 2) dX0_goOn_143 (by decide) ?_
                  refine z_irem dX0_goOn_144 (by decide) ?_
                  refine z_soP [.int ((zrem (x3 - (zI h b5 7)) 2)), .int (zget (I101, h.2) (some (a + 9)) x2)] c4 ?_
                  refine z_callV (h := (I101, h.2)) (S := []) (a := b5) (M := mX0_goOn) (As := [.int (zget (I101, h.2) (some (a + 9)) x2), .int ((zrem (x3 - (zI h b5 7)) 2))]) zc2 rfl eX2_depthUnder w1089 w46 (Or.inr ⟨_, w1087⟩) dX0_goOn_145 (ho8.k 0 rfl) (ho8.lt 0 rfl) rfl (by omega) (Nat.le_of_ble_eq_true rfl) (c_X2_depthUnder l G (I101, h.2) b5 (zget (I101, h.2) (some (a + 9)) x2) (zrem (x3 - (zI h b5 7)) 2) ho8) (fun v115 g116 q117 => ?_)
                  obtain ⟨rfl, q117⟩ := q117
                  replace q117 := q117.symm
                  subst q117
                  show Z l G _ d Q k n 148 _ (.int (zdep (zI (I101, h.2) b5 3) (zget (I101, h.2) (some (a + 9)) x2) (zrem (x3 - (zI h b5 7)) 2)) :: []) _
                  refine z_istore (L' := [va_rf (some a), va_rf (some a1), .int x2, .int x3, va_rf (zmem h a1 x2), .int ((x3 - (zI h b5 7))), .int (zI h b5 6), .int (zI (I101, h.2) b5 0), .int (zdep (zI (I101, h.2) b5 3) (zget (I101, h.2) (some (a + 9)) x2) (zrem (x3 - (zI h b5 7)) 2))]) dX0_goOn_148 (by decide) rfl ?_
                  refine z_aloadn dX0_goOn_150 rfl rfl ?_
                  refine z_iloadn dX0_goOn_151 rfl rfl ?_
                  refine z_iloadn dX0_goOn_152 rfl rfl ?_
                  refine z_iload dX0_goOn_153 rfl ?_
                  refine z_iload dX0_goOn_155 rfl ?_
                  refine z_iload dX0_goOn_157 rfl ?_
                  refine z_iconst (v := 2) dX0_goOn_159 (by decide) ?_
                  refine z_irem dX0_goOn_160 (by decide) ?_
                  refine z_aload dX0_goOn_161 rfl ?_
                  refine z_iload dX0_goOn_163 rfl ?_
                  refine z_soP [.int ((x3 - (zI h b5 7)))] c4 ?_
                  refine z_callV8 (h := (I101, h.2)) (S := [.int ((zrem (x3 - (zI h b5 7)) 2)), .int (zI (I101, h.2) b5 0), .int (zI h b5 6), .int x3, .int x2, va_rf (some a)]) (a := b5) (M := mX0_goOn) (As := [.int ((x3 - (zI h b5 7)))]) zc2 rfl eX2_sideAt w1024 w37 (Or.inr ⟨_, w1085⟩) dX0_goOn_165 (ho8.k 0 rfl) (ho8.lt 0 rfl) rfl (by omega) ⟨Nat.le_of_ble_eq_true rfl, ⟨rfl, ⟨rfl, ⟨rfl, ⟨rfl, ⟨rfl, ⟨rfl, trivial⟩⟩⟩⟩⟩⟩⟩ (c_X2_sideAt l G (I101, h.2) b5 (x3 - (zI h b5 7)) ho8) (fun v118 g119 q120 => ?_)
                  obtain ⟨rfl, q120⟩ := q120
                  replace q120 := q120.symm
                  subst q120
                  show Z l G _ d Q k n 168 _ (.int (zsideAt (I101, h.2) b5 (x3 - (zI h b5 7))) :: .int ((zrem (x3 - (zI h b5 7)) 2)) :: .int (zI (I101, h.2) b5 0) :: .int (zI h b5 6) :: .int x3 :: .int x2 :: va_rf (some a) :: []) _
                  refine z_callS (h := (I101, h.2)) (S := [.int (zI h b5 6), .int x3, .int x2, va_rf (some a)]) (M := mX0_goOn) (As := [.int (zI (I101, h.2) b5 0), .int ((zrem (x3 - (zI h b5 7)) 2)), .int (zsideAt (I101, h.2) b5 (x3 - (zI h b5 7)))]) eX10_shape w1092 (Or.inr ⟨_, w1091⟩) dX0_goOn_168 rfl (by omega) (Nat.le_of_ble_eq_true rfl) (c_X10_shape l G (I101, h.2) (zI (I101, h.2) b5 0) (zrem (x3 - (zI h b5 7)) 2) (zsideAt (I101, h.2) b5 (x3 - (zI h b5 7)))) (fun v121 g122 q123 => ?_)
                  obtain ⟨rfl, q123⟩ := q123
                  replace q123 := q123.symm
                  subst q123
                  show Z l G _ d Q k n 171 _ (.int (zshape (zI (I101, h.2) b5 0) (zrem (x3 - (zI h b5 7)) 2) (zsideAt (I101, h.2) b5 (x3 - (zI h b5 7)))) :: .int (zI h b5 6) :: .int x3 :: .int x2 :: va_rf (some a) :: []) _
                  refine z_iload dX0_goOn_171 rfl ?_
                  obtain ⟨P124, ct125, hw126⟩ := hw110
                  refine z_callV (h := (I101, h.2)) (S := []) (a := a) (M := mX0_goOn) (As := [.int x2, .int x3, .int (zI h b5 6), .int (zshape (zI (I101, h.2) b5 0) (zrem (x3 - (zI h b5 7)) 2) (zsideAt (I101, h.2) b5 (x3 - (zI h b5 7)))), .int (zdep (zI (I101, h.2) b5 3) (zget (I101, h.2) (some (a + 9)) x2) (zrem (x3 - (zI h b5 7)) 2))]) zc0 rfl eX0_setDown w1096 w47 (Or.inl w1094) dX0_goOn_173 (ha.k 0 rfl) (ha.lt 0 rfl) rfl (by omega) (Nat.le_of_ble_eq_true rfl) ct125 (fun v131 g132 q128 => ?_)
                  obtain ⟨I127, rfl, rfl, q128⟩ := q128
                  have hw130 := hw126 I127 q128
                  show Z l G _ d Q k n 176 _ ([]) _
                  exact z_ret (v := none) dX0_goOn_176 rfl rfl hw130
                · have hw111 := hw107.2 c109
                  refine z_bipush (v := 6) dX0_goOn_119 (by decide) ?_
                  refine z_goto (t := 129) dX0_goOn_121 (by decide) ?_
                  refine z_istore (L' := [va_rf (some a), va_rf (some a1), .int x2, .int x3, va_rf (zmem h a1 x2), .int ((x3 - (zI h b5 7))), .int (zI h b5 6), .int 6, zU]) dX0_goOn_129 (by decide) rfl ?_
                  refine z_aload dX0_goOn_131 rfl ?_
                  refine z_aloadn dX0_goOn_133 rfl rfl ?_
                  refine z_getRq (j := 9) zc0 dX0_goOn_134 (ha.k 0 rfl) (ha.lt 0 rfl) (by decide) rfl w495 (ha.r 8 rfl) ?_
                  refine z_iloadn dX0_goOn_137 rfl rfl ?_
                  refine z_callS (h := (I101, h.2)) (S := [va_rf (zmem h a1 x2)]) (M := mX0_goOn) (As := [va_rf (some (a + 9)), .int x2]) eX10_get w778 (Or.inr ⟨_, w1078⟩) dX0_goOn_138 rfl (by omega) (Nat.le_of_ble_eq_true rfl) (c_X10_get l G (I101, h.2) (some (a + 9)) x2 (zgok_lo (ha.w 9 rfl) (by decide))) (fun v133 g134 q135 => ?_)
                  obtain ⟨rfl, q135⟩ := q135
                  replace q135 := q135.symm
                  subst q135
                  show Z l G _ d Q k n 141 _ (.int (zget (I101, h.2) (some (a + 9)) x2) :: va_rf (zmem h a1 x2) :: []) _
                  refine z_iload dX0_goOn_141 rfl ?_
                  refine z_iconst (v := 2) dX0_goOn_143 (by decide) ?_
                  refine z_irem dX0_goOn_144 (by decide) ?_
                  refine z_soP [.int ((zrem (x3 - (zI h b5 7)) 2)), .int (zget (I101, h.2) (some (a + 9)) x2)] c4 ?_
                  refine z_callV (h := (I101, h.2)) (S := []) (a := b5) (M := mX0_goOn) (As := [.int (zget (I101, h.2) (some (a + 9)) x2), .int ((zrem (x3 - (zI h b5 7)) 2))]) zc2 rfl eX2_depthUnder w1089 w46 (Or.inr ⟨_, w1087⟩) dX0_goOn_145 (ho8.k 0 rfl) (ho8.lt 0 rfl) rfl (by omega) (Nat.le_of_ble_eq_true rfl) (c_X2_depthUnder l G (I101, h.2) b5 (zget (I101, h.2) (some (a + 9)) x2) (zrem (x3 - (zI h b5 7)) 2) ho8) (fun v136 g137 q138 => ?_)
                  obtain ⟨rfl, q138⟩ := q138
                  replace q138 := q138.symm
                  subst q138
                  show Z l G _ d Q k n 148 _ (.int (zdep (zI (I101, h.2) b5 3) (zget (I101, h.2) (some (a + 9)) x2) (zrem (x3 - (zI h b5 7)) 2)) :: []) _
                  refine z_istore (L' := [va_rf (some a), va_rf (some a1), .int x2, .int x3, va_rf (zmem h a1 x2), .int ((x3 - (zI h b5 7))), .int (zI h b5 6), .int 6, .int (zdep (zI (I101, h.2) b5 3) (zget (I101, h.2) (some (a + 9)) x2) (zrem (x3 - (zI h b5 7)) 2))]) dX0_goOn_148 (by decide) rfl ?_
                  refine z_aloadn dX0_goOn_150 rfl rfl ?_
                  refine z_iloadn dX0_goOn_151 rfl rfl ?_
                  refine z_iloadn dX0_goOn_152 rfl rfl ?_
                  refine z_iload dX0_goOn_153 rfl ?_
                  refine z_iload dX0_goOn_155 rfl ?_
                  refine z_iload dX0_goOn_157 rfl ?_
                  refine z_iconst (v := 2) dX0_goOn_159 (by decide) ?_
                  refine z_irem dX0_goOn_160 (by decide) ?_
                  refine z_aload dX0_goOn_161 rfl ?_
                  refine z_iload dX0_goOn_163 rfl ?_
                  refine z_soP [.int ((x3 - (zI h b5 7)))] c4 ?_
                  refine z_callV8 (h := (I101, h.2)) (S := [.int ((zrem (x3 - (zI h b5 7)) 2)), .int 6, .int (zI h b5 6), .int x3, .int x2, va_rf (some a)]) (a := b5) (M := mX0_goOn) (As := [.int ((x3 - (zI h b5 7)))]) zc2 rfl eX2_sideAt w1024 w37 (Or.inr ⟨_, w1085⟩) dX0_goOn_165 (ho8.k 0 rfl) (ho8.lt 0 rfl) rfl (by omega) ⟨Nat.le_of_ble_eq_true rfl, ⟨rfl, ⟨rfl, ⟨rfl, ⟨rfl, ⟨rfl, ⟨rfl, trivial⟩⟩⟩⟩⟩⟩⟩ (c_X2_sideAt l G (I101, h.2) b5 (x3 - (zI h b5 7)) ho8) (fun v139 g140 q141 => ?_)
                  obtain ⟨rfl, q141⟩ := q141
                  replace q141 := q141.symm
                  subst q141
                  show Z l G _ d Q k n 168 _ (.int (zsideAt (I101, h.2) b5 (x3 - (zI h b5 7))) :: .int ((zrem (x3 - (zI h b5 7)) 2)) :: .int 6 :: .int (zI h b5 6) :: .int x3 :: .int x2 :: va_rf (some a) :: []) _
                  refine z_callS (h := (I101, h.2)) (S := [.int (zI h b5 6), .int x3, .int x2, va_rf (some a)]) (M := mX0_goOn) (As := [.int 6, .int ((zrem (x3 - (zI h b5 7)) 2)), .int (zsideAt (I101, h.2) b5 (x3 - (zI h b5 7)))]) eX10_shape w1092 (Or.inr ⟨_, w1091⟩) dX0_goOn_168 rfl (by omega) (Nat.le_of_ble_eq_true rfl) (c_X10_shape l G (I101, h.2) (6 : Int32) (zrem (x3 - (zI h b5 7)) 2) (zsideAt (I101, h.2) b5 (x3 - (zI h b5 7)))) (fun v142 g143 q144 => ?_)
                  obtain ⟨rfl, q144⟩ := q144
                  replace q144 := q144.symm
                  subst q144
                  show Z l G _ d Q k n 171 _ (.int (zshape (6 : Int32) (zrem (x3 - (zI h b5 7)) 2) (zsideAt (I101, h.2) b5 (x3 - (zI h b5 7)))) :: .int (zI h b5 6) :: .int x3 :: .int x2 :: va_rf (some a) :: []) _
                  refine z_iload dX0_goOn_171 rfl ?_
                  obtain ⟨P145, ct146, hw147⟩ := hw111
                  refine z_callV (h := (I101, h.2)) (S := []) (a := a) (M := mX0_goOn) (As := [.int x2, .int x3, .int (zI h b5 6), .int (zshape (6 : Int32) (zrem (x3 - (zI h b5 7)) 2) (zsideAt (I101, h.2) b5 (x3 - (zI h b5 7)))), .int (zdep (zI (I101, h.2) b5 3) (zget (I101, h.2) (some (a + 9)) x2) (zrem (x3 - (zI h b5 7)) 2))]) zc0 rfl eX0_setDown w1096 w47 (Or.inl w1094) dX0_goOn_173 (ha.k 0 rfl) (ha.lt 0 rfl) rfl (by omega) (Nat.le_of_ble_eq_true rfl) ct146 (fun v152 g153 q149 => ?_)
                  obtain ⟨I148, rfl, rfl, q149⟩ := q149
                  have hw151 := hw147 I148 q149
                  show Z l G _ d Q k n 176 _ ([]) _
                  exact z_ret (v := none) dX0_goOn_176 rfl rfl hw151
          · have hw28 := hw24.2 c26
            exact z_ret (v := none) dX0_goOn_54 rfl rfl hw28
      · have hw20 := hw13.2 (zb0 c18)
        exact z_ret (v := none) dX0_goOn_29 rfl rfl hw20

theorem kX0_goOn {l : Launch} {G : zG} {d : Nat} {Q : Option Value → zH → Prop} {k n : Nat} {h : zH} (a : Nat) (a1 : Nat) (x2 : Int32) (x3 : Int32) (hz : Z l G mX0_goOn d Q k n 0 [va_rf (some a), va_rf (some a1), .int x2, .int x3, zU, zU, zU, zU, zU] [] h) : CT l G YX0_goOn d k n [va_rf (some a), va_rf (some a1), .int x2, .int x3] h Q :=
  CT.of (by decide +kernel) (fun t e => by cases e) (by exact Nat.le_of_ble_eq_true rfl) (by exact hz)

theorem sX0_setDown_0 {l : Launch} {G : zG} {d : Nat} {Q : Option Value → zH → Prop} {k n : Nat} {h : zH} (a : Nat) (x1 : Int32) (x2 : Int32) (x3 : Int32) (x4 : Int32) (x5 : Int32) (ha : lo0 h a) (hd9 : 3 ≤ d)
    (hw : (∀ I4 : Nat → Nat → Int32, I4 = (zput h (some (a + 10)) x1 (zget h (some (a + 10)) x1 + 1)).1 → ((zget (I4, h.2) (some (a + 7)) x3 = (-1) → (∀ I17 : Nat → Nat → Int32, I17 = (zput (I4, h.2) (some (a + 11)) x1 (zget (I4, h.2) (some (a + 11)) x1 + 1)).1 → (∃ P20, CTv l G YX0_press 2 [va_rf (some a), .int x1, .int x2, .int x3, .int x4, .int x5] (I17, h.2) P20 ∧ ∀ (I23 : Nat → Nat → Int32), P20 I23 → Q none (I23, h.2)))) ∧ (¬ zget (I4, h.2) (some (a + 7)) x3 = (-1) → ((zget (I4, h.2) (some (a + 2)) (zget (I4, h.2) (some (a + 7)) x3) = x4 → (∀ I39 : Nat → Nat → Int32, I39 = (zput (I4, h.2) (some (a + 12)) x1 (zget (I4, h.2) (some (a + 12)) x1 + 1)).1 → ((zget (I39, h.2) (some (a + 5)) (zget (I4, h.2) (some (a + 7)) x3) = x1 → (∀ I55 : Nat → Nat → Int32, I55 = (zput (I39, h.2) (some (a + 3)) (zget (I4, h.2) (some (a + 7)) x3) (imax (zget (I39, h.2) (some (a + 3)) (zget (I4, h.2) (some (a + 7)) x3)) x5)).1 → (∀ I64 : Nat → Nat → Int32, I64 = (zput (I55, h.2) (some (a + 6)) (zget (I4, h.2) (some (a + 7)) x3) ((zget (I55, h.2) (some (a + 6)) (zget (I4, h.2) (some (a + 7)) x3)) ||| ((1 : Int32) <<< (x1 &&& 31)))).1 → Q none (I64, h.2)))) ∧ (¬ zget (I39, h.2) (some (a + 5)) (zget (I4, h.2) (some (a + 7)) x3) = x1 → (∀ I70 : Nat → Nat → Int32, I70 = (zput (I39, h.2) (some (a + 13)) x1 (zget (I39, h.2) (some (a + 13)) x1 + 1)).1 → (∀ I79 : Nat → Nat → Int32, I79 = (zput (I70, h.2) (some (a + 3)) (zget (I4, h.2) (some (a + 7)) x3) (imax (zget (I70, h.2) (some (a + 3)) (zget (I4, h.2) (some (a + 7)) x3)) x5)).1 → (∀ I88 : Nat → Nat → Int32, I88 = (zput (I79, h.2) (some (a + 6)) (zget (I4, h.2) (some (a + 7)) x3) ((zget (I79, h.2) (some (a + 6)) (zget (I4, h.2) (some (a + 7)) x3)) ||| ((1 : Int32) <<< (x1 &&& 31)))).1 → Q none (I88, h.2)))))))) ∧ (¬ zget (I4, h.2) (some (a + 2)) (zget (I4, h.2) (some (a + 7)) x3) = x4 → (∀ I94 : Nat → Nat → Int32, I94 = (zput (I4, h.2) (some (a + 11)) x1 (zget (I4, h.2) (some (a + 11)) x1 + 1)).1 → (∃ P97, CTv l G YX0_press 2 [va_rf (some a), .int x1, .int x2, .int x3, .int x4, .int x5] (I94, h.2) P97 ∧ ∀ (I100 : Nat → Nat → Int32), P97 I100 → Q none (I100, h.2))))))))) :
    Z l G mX0_setDown d Q k n 0 [va_rf (some a), .int x1, .int x2, .int x3, .int x4, .int x5, zU] [] h := by
  refine z_aloadn dX0_setDown_0 rfl rfl ?_
  refine z_getRq (j := 10) zc0 dX0_setDown_1 (ha.k 0 rfl) (ha.lt 0 rfl) (by decide) rfl w496 (ha.r 9 rfl) ?_
  refine z_iloadn dX0_setDown_4 rfl rfl ?_
  refine z_callS (h := h) (S := []) (M := mX0_setDown) (As := [va_rf (some (a + 10)), .int x1]) eX10_raise w1099 (Or.inr ⟨_, w1098⟩) dX0_setDown_5 rfl (by omega) (Nat.le_of_ble_eq_true rfl) (c_X10_raise l G h (some (a + 10)) x1 (zpok_lo (ha.w 10 rfl) (by decide))) (fun v1 g2 q3 => ?_)
  obtain ⟨rfl, q3⟩ := q3
  replace q3 := q3.symm
  subst q3
  refine z_nm (r := h.2) rfl (fun I4 e5 => ?_)
  have hw6 := hw I4 e5
  refine z_aloadn dX0_setDown_8 rfl rfl ?_
  refine z_getRq (j := 7) zc0 dX0_setDown_9 (ha.k 0 rfl) (ha.lt 0 rfl) (by decide) rfl w493 (ha.r 6 rfl) ?_
  refine z_iloadn dX0_setDown_12 rfl rfl ?_
  refine z_callS (h := (I4, h.2)) (S := []) (M := mX0_setDown) (As := [va_rf (some (a + 7)), .int x3]) eX10_get w778 (Or.inr ⟨_, w1078⟩) dX0_setDown_13 rfl (by omega) (Nat.le_of_ble_eq_true rfl) (c_X10_get l G (I4, h.2) (some (a + 7)) x3 (zgok_lo (ha.w 7 rfl) (by decide))) (fun v7 g8 q9 => ?_)
  obtain ⟨rfl, q9⟩ := q9
  replace q9 := q9.symm
  subst q9
  show Z l G _ d Q k n 16 _ (.int (zget (I4, h.2) (some (a + 7)) x3) :: []) _
  refine z_istore (L' := [va_rf (some a), .int x1, .int x2, .int x3, .int x4, .int x5, .int (zget (I4, h.2) (some (a + 7)) x3)]) dX0_setDown_16 (by decide) rfl ?_
  refine z_iload dX0_setDown_18 rfl ?_
  refine z_iconst (v := (-1)) dX0_setDown_20 (by decide) ?_
  refine z_icmp_eq (t := 38) dX0_setDown_21 (by decide) (fun c10 => ?_) (fun c11 => ?_)
  · have hw12 := hw6.1 c10
    refine z_aloadn dX0_setDown_38 rfl rfl ?_
    refine z_getRq (j := 11) zc0 dX0_setDown_39 (ha.k 0 rfl) (ha.lt 0 rfl) (by decide) rfl w498 (ha.r 10 rfl) ?_
    refine z_iloadn dX0_setDown_42 rfl rfl ?_
    refine z_callS (h := (I4, h.2)) (S := []) (M := mX0_setDown) (As := [va_rf (some (a + 11)), .int x1]) eX10_raise w1099 (Or.inr ⟨_, w1098⟩) dX0_setDown_43 rfl (by omega) (Nat.le_of_ble_eq_true rfl) (c_X10_raise l G (I4, h.2) (some (a + 11)) x1 (zpok_lo (ha.w 11 rfl) (by decide))) (fun v14 g15 q16 => ?_)
    obtain ⟨rfl, q16⟩ := q16
    replace q16 := q16.symm
    subst q16
    refine z_nm (r := h.2) rfl (fun I17 e18 => ?_)
    have hw19 := hw12 I17 e18
    refine z_aloadn dX0_setDown_46 rfl rfl ?_
    refine z_iloadn dX0_setDown_47 rfl rfl ?_
    refine z_iloadn dX0_setDown_48 rfl rfl ?_
    refine z_iloadn dX0_setDown_49 rfl rfl ?_
    refine z_iload dX0_setDown_50 rfl ?_
    refine z_iload dX0_setDown_52 rfl ?_
    obtain ⟨P20, ct21, hw22⟩ := hw19
    refine z_callV (h := (I17, h.2)) (S := []) (a := a) (M := mX0_setDown) (As := [.int x1, .int x2, .int x3, .int x4, .int x5]) zc0 rfl eX0_press w1105 w48 (Or.inl w1103) dX0_setDown_54 (ha.k 0 rfl) (ha.lt 0 rfl) rfl (by omega) (Nat.le_of_ble_eq_true rfl) ct21 (fun v27 g28 q24 => ?_)
    obtain ⟨I23, rfl, rfl, q24⟩ := q24
    have hw26 := hw22 I23 q24
    show Z l G _ d Q k n 57 _ ([]) _
    exact z_ret (v := none) dX0_setDown_57 rfl rfl hw26
  · have hw13 := hw6.2 c11
    refine z_aloadn dX0_setDown_24 rfl rfl ?_
    refine z_getRq (j := 2) zc0 dX0_setDown_25 (ha.k 0 rfl) (ha.lt 0 rfl) (by decide) rfl w488 (ha.r 1 rfl) ?_
    refine z_iload dX0_setDown_28 rfl ?_
    refine z_callS (h := (I4, h.2)) (S := []) (M := mX0_setDown) (As := [va_rf (some (a + 2)), .int (zget (I4, h.2) (some (a + 7)) x3)]) eX10_get w778 (Or.inr ⟨_, w1078⟩) dX0_setDown_30 rfl (by omega) (Nat.le_of_ble_eq_true rfl) (c_X10_get l G (I4, h.2) (some (a + 2)) (zget (I4, h.2) (some (a + 7)) x3) (zgok_lo (ha.w 2 rfl) (by decide))) (fun v29 g30 q31 => ?_)
    obtain ⟨rfl, q31⟩ := q31
    replace q31 := q31.symm
    subst q31
    show Z l G _ d Q k n 33 _ (.int (zget (I4, h.2) (some (a + 2)) (zget (I4, h.2) (some (a + 7)) x3)) :: []) _
    refine z_iload dX0_setDown_33 rfl ?_
    refine z_icmp_eq (t := 58) dX0_setDown_35 (by decide) (fun c32 => ?_) (fun c33 => ?_)
    · have hw34 := hw13.1 c32
      refine z_aloadn dX0_setDown_58 rfl rfl ?_
      refine z_getRq (j := 12) zc0 dX0_setDown_59 (ha.k 0 rfl) (ha.lt 0 rfl) (by decide) rfl w500 (ha.r 11 rfl) ?_
      refine z_iloadn dX0_setDown_62 rfl rfl ?_
      refine z_callS (h := (I4, h.2)) (S := []) (M := mX0_setDown) (As := [va_rf (some (a + 12)), .int x1]) eX10_raise w1099 (Or.inr ⟨_, w1098⟩) dX0_setDown_63 rfl (by omega) (Nat.le_of_ble_eq_true rfl) (c_X10_raise l G (I4, h.2) (some (a + 12)) x1 (zpok_lo (ha.w 12 rfl) (by decide))) (fun v36 g37 q38 => ?_)
      obtain ⟨rfl, q38⟩ := q38
      replace q38 := q38.symm
      subst q38
      refine z_nm (r := h.2) rfl (fun I39 e40 => ?_)
      have hw41 := hw34 I39 e40
      refine z_aloadn dX0_setDown_66 rfl rfl ?_
      refine z_getRq (j := 5) zc0 dX0_setDown_67 (ha.k 0 rfl) (ha.lt 0 rfl) (by decide) rfl w491 (ha.r 4 rfl) ?_
      refine z_iload dX0_setDown_70 rfl ?_
      refine z_callS (h := (I39, h.2)) (S := []) (M := mX0_setDown) (As := [va_rf (some (a + 5)), .int (zget (I4, h.2) (some (a + 7)) x3)]) eX10_get w778 (Or.inr ⟨_, w1078⟩) dX0_setDown_72 rfl (by omega) (Nat.le_of_ble_eq_true rfl) (c_X10_get l G (I39, h.2) (some (a + 5)) (zget (I4, h.2) (some (a + 7)) x3) (zgok_lo (ha.w 5 rfl) (by decide))) (fun v42 g43 q44 => ?_)
      obtain ⟨rfl, q44⟩ := q44
      replace q44 := q44.symm
      subst q44
      show Z l G _ d Q k n 75 _ (.int (zget (I39, h.2) (some (a + 5)) (zget (I4, h.2) (some (a + 7)) x3)) :: []) _
      refine z_iloadn dX0_setDown_75 rfl rfl ?_
      refine z_icmp_eq (t := 87) dX0_setDown_76 (by decide) (fun c45 => ?_) (fun c46 => ?_)
      · have hw47 := hw41.1 c45
        refine z_aloadn dX0_setDown_87 rfl rfl ?_
        refine z_getRq (j := 3) zc0 dX0_setDown_88 (ha.k 0 rfl) (ha.lt 0 rfl) (by decide) rfl w489 (ha.r 2 rfl) ?_
        refine z_iload dX0_setDown_91 rfl ?_
        refine z_aloadn dX0_setDown_93 rfl rfl ?_
        refine z_getRq (j := 3) zc0 dX0_setDown_94 (ha.k 0 rfl) (ha.lt 0 rfl) (by decide) rfl w489 (ha.r 2 rfl) ?_
        refine z_iload dX0_setDown_97 rfl ?_
        refine z_callS (h := (I39, h.2)) (S := [.int (zget (I4, h.2) (some (a + 7)) x3), va_rf (some (a + 3))]) (M := mX0_setDown) (As := [va_rf (some (a + 3)), .int (zget (I4, h.2) (some (a + 7)) x3)]) eX10_get w778 (Or.inr ⟨_, w1078⟩) dX0_setDown_99 rfl (by omega) (Nat.le_of_ble_eq_true rfl) (c_X10_get l G (I39, h.2) (some (a + 3)) (zget (I4, h.2) (some (a + 7)) x3) (zgok_lo (ha.w 3 rfl) (by decide))) (fun v49 g50 q51 => ?_)
        obtain ⟨rfl, q51⟩ := q51
        replace q51 := q51.symm
        subst q51
        show Z l G _ d Q k n 102 _ (.int (zget (I39, h.2) (some (a + 3)) (zget (I4, h.2) (some (a + 7)) x3)) :: .int (zget (I4, h.2) (some (a + 7)) x3) :: va_rf (some (a + 3)) :: []) _
        refine z_iload dX0_setDown_102 rfl ?_
        refine z_max dX0_setDown_104 w1107 w906 w186 w907 (by omega) (Nat.le_of_ble_eq_true rfl) ?_
        show Z l G _ d Q k n 107 _ (.int ((imax (zget (I39, h.2) (some (a + 3)) (zget (I4, h.2) (some (a + 7)) x3)) x5)) :: .int (zget (I4, h.2) (some (a + 7)) x3) :: va_rf (some (a + 3)) :: []) _
        refine z_callS (h := (I39, h.2)) (S := []) (M := mX0_setDown) (As := [va_rf (some (a + 3)), .int (zget (I4, h.2) (some (a + 7)) x3), .int ((imax (zget (I39, h.2) (some (a + 3)) (zget (I4, h.2) (some (a + 7)) x3)) x5))]) eX10_put w754 (Or.inr ⟨_, w1077⟩) dX0_setDown_107 rfl (by omega) (Nat.le_of_ble_eq_true rfl) (c_X10_put l G (I39, h.2) (some (a + 3)) (zget (I4, h.2) (some (a + 7)) x3) (imax (zget (I39, h.2) (some (a + 3)) (zget (I4, h.2) (some (a + 7)) x3)) x5) (zpok_lo (ha.w 3 rfl) (by decide))) (fun v52 g53 q54 => ?_)
        obtain ⟨rfl, q54⟩ := q54
        replace q54 := q54.symm
        subst q54
        refine z_nm (r := h.2) rfl (fun I55 e56 => ?_)
        have hw57 := hw47 I55 e56
        refine z_aloadn dX0_setDown_110 rfl rfl ?_
        refine z_getRq (j := 6) zc0 dX0_setDown_111 (ha.k 0 rfl) (ha.lt 0 rfl) (by decide) rfl w492 (ha.r 5 rfl) ?_
        refine z_iload dX0_setDown_114 rfl ?_
        refine z_aloadn dX0_setDown_116 rfl rfl ?_
        refine z_getRq (j := 6) zc0 dX0_setDown_117 (ha.k 0 rfl) (ha.lt 0 rfl) (by decide) rfl w492 (ha.r 5 rfl) ?_
        refine z_iload dX0_setDown_120 rfl ?_
        refine z_callS (h := (I55, h.2)) (S := [.int (zget (I4, h.2) (some (a + 7)) x3), va_rf (some (a + 6))]) (M := mX0_setDown) (As := [va_rf (some (a + 6)), .int (zget (I4, h.2) (some (a + 7)) x3)]) eX10_get w778 (Or.inr ⟨_, w1078⟩) dX0_setDown_122 rfl (by omega) (Nat.le_of_ble_eq_true rfl) (c_X10_get l G (I55, h.2) (some (a + 6)) (zget (I4, h.2) (some (a + 7)) x3) (zgok_lo (ha.w 6 rfl) (by decide))) (fun v58 g59 q60 => ?_)
        obtain ⟨rfl, q60⟩ := q60
        replace q60 := q60.symm
        subst q60
        show Z l G _ d Q k n 125 _ (.int (zget (I55, h.2) (some (a + 6)) (zget (I4, h.2) (some (a + 7)) x3)) :: .int (zget (I4, h.2) (some (a + 7)) x3) :: va_rf (some (a + 6)) :: []) _
        refine z_iconst (v := 1) dX0_setDown_125 (by decide) ?_
        refine z_iloadn dX0_setDown_126 rfl rfl ?_
        refine z_ishl dX0_setDown_127 ?_
        refine z_ior dX0_setDown_128 ?_
        refine z_callS (h := (I55, h.2)) (S := []) (M := mX0_setDown) (As := [va_rf (some (a + 6)), .int (zget (I4, h.2) (some (a + 7)) x3), .int (((zget (I55, h.2) (some (a + 6)) (zget (I4, h.2) (some (a + 7)) x3)) ||| ((1 : Int32) <<< (x1 &&& 31))))]) eX10_put w754 (Or.inr ⟨_, w1077⟩) dX0_setDown_129 rfl (by omega) (Nat.le_of_ble_eq_true rfl) (c_X10_put l G (I55, h.2) (some (a + 6)) (zget (I4, h.2) (some (a + 7)) x3) ((zget (I55, h.2) (some (a + 6)) (zget (I4, h.2) (some (a + 7)) x3)) ||| ((1 : Int32) <<< (x1 &&& 31))) (zpok_lo (ha.w 6 rfl) (by decide))) (fun v61 g62 q63 => ?_)
        obtain ⟨rfl, q63⟩ := q63
        replace q63 := q63.symm
        subst q63
        refine z_nm (r := h.2) rfl (fun I64 e65 => ?_)
        have hw66 := hw57 I64 e65
        exact z_ret (v := none) dX0_setDown_132 rfl rfl hw66
      · have hw48 := hw41.2 c46
        refine z_aloadn dX0_setDown_79 rfl rfl ?_
        refine z_getRq (j := 13) zc0 dX0_setDown_80 (ha.k 0 rfl) (ha.lt 0 rfl) (by decide) rfl w502 (ha.r 12 rfl) ?_
        refine z_iloadn dX0_setDown_83 rfl rfl ?_
        refine z_callS (h := (I39, h.2)) (S := []) (M := mX0_setDown) (As := [va_rf (some (a + 13)), .int x1]) eX10_raise w1099 (Or.inr ⟨_, w1098⟩) dX0_setDown_84 rfl (by omega) (Nat.le_of_ble_eq_true rfl) (c_X10_raise l G (I39, h.2) (some (a + 13)) x1 (zpok_lo (ha.w 13 rfl) (by decide))) (fun v67 g68 q69 => ?_)
        obtain ⟨rfl, q69⟩ := q69
        replace q69 := q69.symm
        subst q69
        refine z_nm (r := h.2) rfl (fun I70 e71 => ?_)
        have hw72 := hw48 I70 e71
        refine z_aloadn dX0_setDown_87 rfl rfl ?_
        refine z_getRq (j := 3) zc0 dX0_setDown_88 (ha.k 0 rfl) (ha.lt 0 rfl) (by decide) rfl w489 (ha.r 2 rfl) ?_
        refine z_iload dX0_setDown_91 rfl ?_
        refine z_aloadn dX0_setDown_93 rfl rfl ?_
        refine z_getRq (j := 3) zc0 dX0_setDown_94 (ha.k 0 rfl) (ha.lt 0 rfl) (by decide) rfl w489 (ha.r 2 rfl) ?_
        refine z_iload dX0_setDown_97 rfl ?_
        refine z_callS (h := (I70, h.2)) (S := [.int (zget (I4, h.2) (some (a + 7)) x3), va_rf (some (a + 3))]) (M := mX0_setDown) (As := [va_rf (some (a + 3)), .int (zget (I4, h.2) (some (a + 7)) x3)]) eX10_get w778 (Or.inr ⟨_, w1078⟩) dX0_setDown_99 rfl (by omega) (Nat.le_of_ble_eq_true rfl) (c_X10_get l G (I70, h.2) (some (a + 3)) (zget (I4, h.2) (some (a + 7)) x3) (zgok_lo (ha.w 3 rfl) (by decide))) (fun v73 g74 q75 => ?_)
        obtain ⟨rfl, q75⟩ := q75
        replace q75 := q75.symm
        subst q75
        show Z l G _ d Q k n 102 _ (.int (zget (I70, h.2) (some (a + 3)) (zget (I4, h.2) (some (a + 7)) x3)) :: .int (zget (I4, h.2) (some (a + 7)) x3) :: va_rf (some (a + 3)) :: []) _
        refine z_iload dX0_setDown_102 rfl ?_
        refine z_max dX0_setDown_104 w1107 w906 w186 w907 (by omega) (Nat.le_of_ble_eq_true rfl) ?_
        show Z l G _ d Q k n 107 _ (.int ((imax (zget (I70, h.2) (some (a + 3)) (zget (I4, h.2) (some (a + 7)) x3)) x5)) :: .int (zget (I4, h.2) (some (a + 7)) x3) :: va_rf (some (a + 3)) :: []) _
        refine z_callS (h := (I70, h.2)) (S := []) (M := mX0_setDown) (As := [va_rf (some (a + 3)), .int (zget (I4, h.2) (some (a + 7)) x3), .int ((imax (zget (I70, h.2) (some (a + 3)) (zget (I4, h.2) (some (a + 7)) x3)) x5))]) eX10_put w754 (Or.inr ⟨_, w1077⟩) dX0_setDown_107 rfl (by omega) (Nat.le_of_ble_eq_true rfl) (c_X10_put l G (I70, h.2) (some (a + 3)) (zget (I4, h.2) (some (a + 7)) x3) (imax (zget (I70, h.2) (some (a + 3)) (zget (I4, h.2) (some (a + 7)) x3)) x5) (zpok_lo (ha.w 3 rfl) (by decide))) (fun v76 g77 q78 => ?_)
        obtain ⟨rfl, q78⟩ := q78
        replace q78 := q78.symm
        subst q78
        refine z_nm (r := h.2) rfl (fun I79 e80 => ?_)
        have hw81 := hw72 I79 e80
        refine z_aloadn dX0_setDown_110 rfl rfl ?_
        refine z_getRq (j := 6) zc0 dX0_setDown_111 (ha.k 0 rfl) (ha.lt 0 rfl) (by decide) rfl w492 (ha.r 5 rfl) ?_
        refine z_iload dX0_setDown_114 rfl ?_
        refine z_aloadn dX0_setDown_116 rfl rfl ?_
        refine z_getRq (j := 6) zc0 dX0_setDown_117 (ha.k 0 rfl) (ha.lt 0 rfl) (by decide) rfl w492 (ha.r 5 rfl) ?_
        refine z_iload dX0_setDown_120 rfl ?_
        refine z_callS (h := (I79, h.2)) (S := [.int (zget (I4, h.2) (some (a + 7)) x3), va_rf (some (a + 6))]) (M := mX0_setDown) (As := [va_rf (some (a + 6)), .int (zget (I4, h.2) (some (a + 7)) x3)]) eX10_get w778 (Or.inr ⟨_, w1078⟩) dX0_setDown_122 rfl (by omega) (Nat.le_of_ble_eq_true rfl) (c_X10_get l G (I79, h.2) (some (a + 6)) (zget (I4, h.2) (some (a + 7)) x3) (zgok_lo (ha.w 6 rfl) (by decide))) (fun v82 g83 q84 => ?_)
        obtain ⟨rfl, q84⟩ := q84
        replace q84 := q84.symm
        subst q84
        show Z l G _ d Q k n 125 _ (.int (zget (I79, h.2) (some (a + 6)) (zget (I4, h.2) (some (a + 7)) x3)) :: .int (zget (I4, h.2) (some (a + 7)) x3) :: va_rf (some (a + 6)) :: []) _
        refine z_iconst (v := 1) dX0_setDown_125 (by decide) ?_
        refine z_iloadn dX0_setDown_126 rfl rfl ?_
        refine z_ishl dX0_setDown_127 ?_
        refine z_ior dX0_setDown_128 ?_
        refine z_callS (h := (I79, h.2)) (S := []) (M := mX0_setDown) (As := [va_rf (some (a + 6)), .int (zget (I4, h.2) (some (a + 7)) x3), .int (((zget (I79, h.2) (some (a + 6)) (zget (I4, h.2) (some (a + 7)) x3)) ||| ((1 : Int32) <<< (x1 &&& 31))))]) eX10_put w754 (Or.inr ⟨_, w1077⟩) dX0_setDown_129 rfl (by omega) (Nat.le_of_ble_eq_true rfl) (c_X10_put l G (I79, h.2) (some (a + 6)) (zget (I4, h.2) (some (a + 7)) x3) ((zget (I79, h.2) (some (a + 6)) (zget (I4, h.2) (some (a + 7)) x3)) ||| ((1 : Int32) <<< (x1 &&& 31))) (zpok_lo (ha.w 6 rfl) (by decide))) (fun v85 g86 q87 => ?_)
        obtain ⟨rfl, q87⟩ := q87
        replace q87 := q87.symm
        subst q87
        refine z_nm (r := h.2) rfl (fun I88 e89 => ?_)
        have hw90 := hw81 I88 e89
        exact z_ret (v := none) dX0_setDown_132 rfl rfl hw90
    · have hw35 := hw13.2 c33
      refine z_aloadn dX0_setDown_38 rfl rfl ?_
      refine z_getRq (j := 11) zc0 dX0_setDown_39 (ha.k 0 rfl) (ha.lt 0 rfl) (by decide) rfl w498 (ha.r 10 rfl) ?_
      refine z_iloadn dX0_setDown_42 rfl rfl ?_
      refine z_callS (h := (I4, h.2)) (S := []) (M := mX0_setDown) (As := [va_rf (some (a + 11)), .int x1]) eX10_raise w1099 (Or.inr ⟨_, w1098⟩) dX0_setDown_43 rfl (by omega) (Nat.le_of_ble_eq_true rfl) (c_X10_raise l G (I4, h.2) (some (a + 11)) x1 (zpok_lo (ha.w 11 rfl) (by decide))) (fun v91 g92 q93 => ?_)
      obtain ⟨rfl, q93⟩ := q93
      replace q93 := q93.symm
      subst q93
      refine z_nm (r := h.2) rfl (fun I94 e95 => ?_)
      have hw96 := hw35 I94 e95
      refine z_aloadn dX0_setDown_46 rfl rfl ?_
      refine z_iloadn dX0_setDown_47 rfl rfl ?_
      refine z_iloadn dX0_setDown_48 rfl rfl ?_
      refine z_iloadn dX0_setDown_49 rfl rfl ?_
      refine z_iload dX0_setDown_50 rfl ?_
      refine z_iload dX0_setDown_52 rfl ?_
      obtain ⟨P97, ct98, hw99⟩ := hw96
      refine z_callV (h := (I94, h.2)) (S := []) (a := a) (M := mX0_setDown) (As := [.int x1, .int x2, .int x3, .int x4, .int x5]) zc0 rfl eX0_press w1105 w48 (Or.inl w1103) dX0_setDown_54 (ha.k 0 rfl) (ha.lt 0 rfl) rfl (by omega) (Nat.le_of_ble_eq_true rfl) ct98 (fun v104 g105 q101 => ?_)
      obtain ⟨I100, rfl, rfl, q101⟩ := q101
      have hw103 := hw99 I100 q101
      show Z l G _ d Q k n 57 _ ([]) _
      exact z_ret (v := none) dX0_setDown_57 rfl rfl hw103

theorem kX0_setDown {l : Launch} {G : zG} {d : Nat} {Q : Option Value → zH → Prop} {k n : Nat} {h : zH} (a : Nat) (x1 : Int32) (x2 : Int32) (x3 : Int32) (x4 : Int32) (x5 : Int32) (hz : Z l G mX0_setDown d Q k n 0 [va_rf (some a), .int x1, .int x2, .int x3, .int x4, .int x5, zU] [] h) : CT l G YX0_setDown d k n [va_rf (some a), .int x1, .int x2, .int x3, .int x4, .int x5] h Q :=
  CT.of (by decide +kernel) (fun t e => by cases e) (by exact Nat.le_of_ble_eq_true rfl) (by exact hz)

theorem sX0_press_0 {l : Launch} {G : zG} {d : Nat} {Q : Option Value → zH → Prop} {k n : Nat} {h : zH} (a : Nat) (x1 : Int32) (x2 : Int32) (x3 : Int32) (x4 : Int32) (x5 : Int32) (ha : lo0 h a) (hd9 : 2 ≤ d)
    (hw : (∀ I4 : Nat → Nat → Int32, I4 = (zput h (some (a + 1)) (zI h a 0) x3).1 → (∀ I10 : Nat → Nat → Int32, I10 = (zput (I4, h.2) (some (a + 2)) (zI (I4, h.2) a 0) x4).1 → (∀ I16 : Nat → Nat → Int32, I16 = (zput (I10, h.2) (some (a + 3)) (zI (I10, h.2) a 0) x5).1 → (∀ I22 : Nat → Nat → Int32, I22 = (zput (I16, h.2) (some (a + 4)) (zI (I16, h.2) a 0) x2).1 → (∀ I28 : Nat → Nat → Int32, I28 = (zput (I22, h.2) (some (a + 5)) (zI (I22, h.2) a 0) x1).1 → (∀ I34 : Nat → Nat → Int32, I34 = (zput (I28, h.2) (some (a + 6)) (zI (I28, h.2) a 0) ((1 : Int32) <<< (x1 &&& 31))).1 → (∀ I40 : Nat → Nat → Int32, I40 = (zput (I34, h.2) (some (a + 7)) x3 (zI (I34, h.2) a 0)).1 → (∀ I43 : Nat → Nat → Int32, I43 = (zwI (I40, h.2) a 0 ((zI (I40, h.2) a 0) + 1)).1 → Q none (I43, h.2)))))))))) :
    Z l G mX0_press d Q k n 0 [va_rf (some a), .int x1, .int x2, .int x3, .int x4, .int x5] [] h := by
  refine z_aloadn dX0_press_0 rfl rfl ?_
  refine z_getRq (j := 1) zc0 dX0_press_1 (ha.k 0 rfl) (ha.lt 0 rfl) (by decide) rfl w487 (ha.r 0 rfl) ?_
  refine z_aloadn dX0_press_4 rfl rfl ?_
  refine z_getI (j := 0) zc0 dX0_press_5 (ha.k 0 rfl) (ha.lt 0 rfl) (by decide) rfl w485 ?_
  refine z_iloadn dX0_press_8 rfl rfl ?_
  refine z_callS (h := h) (S := []) (M := mX0_press) (As := [va_rf (some (a + 1)), .int (zI h a 0), .int x3]) eX10_put w754 (Or.inr ⟨_, w1077⟩) dX0_press_9 rfl (by omega) (Nat.le_of_ble_eq_true rfl) (c_X10_put l G h (some (a + 1)) (zI h a 0) x3 (zpok_lo (ha.w 1 rfl) (by decide))) (fun v1 g2 q3 => ?_)
  obtain ⟨rfl, q3⟩ := q3
  replace q3 := q3.symm
  subst q3
  refine z_nm (r := h.2) rfl (fun I4 e5 => ?_)
  have hw6 := hw I4 e5
  refine z_aloadn dX0_press_12 rfl rfl ?_
  refine z_getRq (j := 2) zc0 dX0_press_13 (ha.k 0 rfl) (ha.lt 0 rfl) (by decide) rfl w488 (ha.r 1 rfl) ?_
  refine z_aloadn dX0_press_16 rfl rfl ?_
  refine z_getI (j := 0) zc0 dX0_press_17 (ha.k 0 rfl) (ha.lt 0 rfl) (by decide) rfl w485 ?_
  refine z_iload dX0_press_20 rfl ?_
  refine z_callS (h := (I4, h.2)) (S := []) (M := mX0_press) (As := [va_rf (some (a + 2)), .int (zI (I4, h.2) a 0), .int x4]) eX10_put w754 (Or.inr ⟨_, w1077⟩) dX0_press_22 rfl (by omega) (Nat.le_of_ble_eq_true rfl) (c_X10_put l G (I4, h.2) (some (a + 2)) (zI (I4, h.2) a 0) x4 (zpok_lo (ha.w 2 rfl) (by decide))) (fun v7 g8 q9 => ?_)
  obtain ⟨rfl, q9⟩ := q9
  replace q9 := q9.symm
  subst q9
  refine z_nm (r := h.2) rfl (fun I10 e11 => ?_)
  have hw12 := hw6 I10 e11
  refine z_aloadn dX0_press_25 rfl rfl ?_
  refine z_getRq (j := 3) zc0 dX0_press_26 (ha.k 0 rfl) (ha.lt 0 rfl) (by decide) rfl w489 (ha.r 2 rfl) ?_
  refine z_aloadn dX0_press_29 rfl rfl ?_
  refine z_getI (j := 0) zc0 dX0_press_30 (ha.k 0 rfl) (ha.lt 0 rfl) (by decide) rfl w485 ?_
  refine z_iload dX0_press_33 rfl ?_
  refine z_callS (h := (I10, h.2)) (S := []) (M := mX0_press) (As := [va_rf (some (a + 3)), .int (zI (I10, h.2) a 0), .int x5]) eX10_put w754 (Or.inr ⟨_, w1077⟩) dX0_press_35 rfl (by omega) (Nat.le_of_ble_eq_true rfl) (c_X10_put l G (I10, h.2) (some (a + 3)) (zI (I10, h.2) a 0) x5 (zpok_lo (ha.w 3 rfl) (by decide))) (fun v13 g14 q15 => ?_)
  obtain ⟨rfl, q15⟩ := q15
  replace q15 := q15.symm
  subst q15
  refine z_nm (r := h.2) rfl (fun I16 e17 => ?_)
  have hw18 := hw12 I16 e17
  refine z_aloadn dX0_press_38 rfl rfl ?_
  refine z_getRq (j := 4) zc0 dX0_press_39 (ha.k 0 rfl) (ha.lt 0 rfl) (by decide) rfl w490 (ha.r 3 rfl) ?_
  refine z_aloadn dX0_press_42 rfl rfl ?_
  refine z_getI (j := 0) zc0 dX0_press_43 (ha.k 0 rfl) (ha.lt 0 rfl) (by decide) rfl w485 ?_
  refine z_iloadn dX0_press_46 rfl rfl ?_
  refine z_callS (h := (I16, h.2)) (S := []) (M := mX0_press) (As := [va_rf (some (a + 4)), .int (zI (I16, h.2) a 0), .int x2]) eX10_put w754 (Or.inr ⟨_, w1077⟩) dX0_press_47 rfl (by omega) (Nat.le_of_ble_eq_true rfl) (c_X10_put l G (I16, h.2) (some (a + 4)) (zI (I16, h.2) a 0) x2 (zpok_lo (ha.w 4 rfl) (by decide))) (fun v19 g20 q21 => ?_)
  obtain ⟨rfl, q21⟩ := q21
  replace q21 := q21.symm
  subst q21
  refine z_nm (r := h.2) rfl (fun I22 e23 => ?_)
  have hw24 := hw18 I22 e23
  refine z_aloadn dX0_press_50 rfl rfl ?_
  refine z_getRq (j := 5) zc0 dX0_press_51 (ha.k 0 rfl) (ha.lt 0 rfl) (by decide) rfl w491 (ha.r 4 rfl) ?_
  refine z_aloadn dX0_press_54 rfl rfl ?_
  refine z_getI (j := 0) zc0 dX0_press_55 (ha.k 0 rfl) (ha.lt 0 rfl) (by decide) rfl w485 ?_
  refine z_iloadn dX0_press_58 rfl rfl ?_
  refine z_callS (h := (I22, h.2)) (S := []) (M := mX0_press) (As := [va_rf (some (a + 5)), .int (zI (I22, h.2) a 0), .int x1]) eX10_put w754 (Or.inr ⟨_, w1077⟩) dX0_press_59 rfl (by omega) (Nat.le_of_ble_eq_true rfl) (c_X10_put l G (I22, h.2) (some (a + 5)) (zI (I22, h.2) a 0) x1 (zpok_lo (ha.w 5 rfl) (by decide))) (fun v25 g26 q27 => ?_)
  obtain ⟨rfl, q27⟩ := q27
  replace q27 := q27.symm
  subst q27
  refine z_nm (r := h.2) rfl (fun I28 e29 => ?_)
  have hw30 := hw24 I28 e29
  refine z_aloadn dX0_press_62 rfl rfl ?_
  refine z_getRq (j := 6) zc0 dX0_press_63 (ha.k 0 rfl) (ha.lt 0 rfl) (by decide) rfl w492 (ha.r 5 rfl) ?_
  refine z_aloadn dX0_press_66 rfl rfl ?_
  refine z_getI (j := 0) zc0 dX0_press_67 (ha.k 0 rfl) (ha.lt 0 rfl) (by decide) rfl w485 ?_
  refine z_iconst (v := 1) dX0_press_70 (by decide) ?_
  refine z_iloadn dX0_press_71 rfl rfl ?_
  refine z_ishl dX0_press_72 ?_
  refine z_callS (h := (I28, h.2)) (S := []) (M := mX0_press) (As := [va_rf (some (a + 6)), .int (zI (I28, h.2) a 0), .int (((1 : Int32) <<< (x1 &&& 31)))]) eX10_put w754 (Or.inr ⟨_, w1077⟩) dX0_press_73 rfl (by omega) (Nat.le_of_ble_eq_true rfl) (c_X10_put l G (I28, h.2) (some (a + 6)) (zI (I28, h.2) a 0) ((1 : Int32) <<< (x1 &&& 31)) (zpok_lo (ha.w 6 rfl) (by decide))) (fun v31 g32 q33 => ?_)
  obtain ⟨rfl, q33⟩ := q33
  replace q33 := q33.symm
  subst q33
  refine z_nm (r := h.2) rfl (fun I34 e35 => ?_)
  have hw36 := hw30 I34 e35
  refine z_aloadn dX0_press_76 rfl rfl ?_
  refine z_getRq (j := 7) zc0 dX0_press_77 (ha.k 0 rfl) (ha.lt 0 rfl) (by decide) rfl w493 (ha.r 6 rfl) ?_
  refine z_iloadn dX0_press_80 rfl rfl ?_
  refine z_aloadn dX0_press_81 rfl rfl ?_
  refine z_getI (j := 0) zc0 dX0_press_82 (ha.k 0 rfl) (ha.lt 0 rfl) (by decide) rfl w485 ?_
  refine z_callS (h := (I34, h.2)) (S := []) (M := mX0_press) (As := [va_rf (some (a + 7)), .int x3, .int (zI (I34, h.2) a 0)]) eX10_put w754 (Or.inr ⟨_, w1077⟩) dX0_press_85 rfl (by omega) (Nat.le_of_ble_eq_true rfl) (c_X10_put l G (I34, h.2) (some (a + 7)) x3 (zI (I34, h.2) a 0) (zpok_lo (ha.w 7 rfl) (by decide))) (fun v37 g38 q39 => ?_)
  obtain ⟨rfl, q39⟩ := q39
  replace q39 := q39.symm
  subst q39
  refine z_nm (r := h.2) rfl (fun I40 e41 => ?_)
  have hw42 := hw36 I40 e41
  refine z_aloadn dX0_press_88 rfl rfl ?_
  refine z_dup dX0_press_89 rfl ?_
  refine z_getI (j := 0) zc0 dX0_press_90 (ha.k 0 rfl) (ha.lt 0 rfl) (by decide) rfl w485 ?_
  refine z_iconst (v := 1) dX0_press_93 (by decide) ?_
  refine z_iadd dX0_press_94 ?_
  refine z_putI (j := 0) zc0 dX0_press_95 (ha.k 0 rfl) (ha.lt 0 rfl) (by decide) rfl rfl (Or.inl rfl) (Or.inl w485) ?_
  refine z_nm (r := h.2) rfl (fun I43 e44 => ?_)
  have hw45 := hw42 I43 e44
  exact z_ret (v := none) dX0_press_98 rfl rfl hw45

theorem kX0_press {l : Launch} {G : zG} {d : Nat} {Q : Option Value → zH → Prop} {k n : Nat} {h : zH} (a : Nat) (x1 : Int32) (x2 : Int32) (x3 : Int32) (x4 : Int32) (x5 : Int32) (hz : Z l G mX0_press d Q k n 0 [va_rf (some a), .int x1, .int x2, .int x3, .int x4, .int x5] [] h) : CT l G YX0_press d k n [va_rf (some a), .int x1, .int x2, .int x3, .int x4, .int x5] h Q :=
  CT.of (by decide +kernel) (fun t e => by cases e) (by exact Nat.le_of_ble_eq_true rfl) (by exact hz)

theorem sX0_part_0 {l : Launch} {G : zG} {d : Nat} {Q : Option Value → zH → Prop} {k n : Nat} {h : zH} (a : Nat) (x1 : Int32) (x2 : Int32) (ha : lo0 h a) (hd9 : 3 ≤ d)
    (hw : ((x1.toInt < (0 : Int) → Q (some (.int ((-2)))) h) ∧ ((0 : Int) ≤ x1.toInt → ((x1.toInt < (zI h a 0).toInt → ((x2.toInt < 0 ∨ 8 < x2.toInt → Q (some (.int ((-2)))) h) ∧ (x2.toInt = 0 → Q (some (.int (zget h (some (a + 1)) x1))) h) ∧ (x2.toInt = 1 → Q (some (.int (zsole (zget h (some (a + 2)) x1)))) h) ∧ (x2.toInt = 2 → Q (some (.int (zfoot (zget h (some (a + 2)) x1)))) h) ∧ (x2.toInt = 3 → Q (some (.int (zside (zget h (some (a + 2)) x1)))) h) ∧ (x2.toInt = 4 → Q (some (.int (zget h (some (a + 3)) x1))) h) ∧ (x2.toInt = 5 → Q (some (.int (zget h (some (a + 4)) x1))) h) ∧ (x2.toInt = 6 → Q (some (.int (zget h (some (a + 5)) x1))) h) ∧ (x2.toInt = 7 → Q (some (.int (zget h (some (a + 6)) x1))) h) ∧ (x2.toInt = 8 → (∃ P53, CTi l G YX0_liesOver 2 [va_rf (some a), .int x1] h P53 ∧ ∀ (y58 : Int32) (I56 : Nat → Nat → Int32), P53 y58 I56 → Q (some (.int y58)) (I56, h.2))))) ∧ ((zI h a 0).toInt ≤ x1.toInt → Q (some (.int ((-2)))) h))))) :
    Z l G mX0_part d Q k n 0 [va_rf (some a), .int x1, .int x2] [] h := by
  refine z_iloadn dX0_part_0 rfl rfl ?_
  refine z_if_lt (t := 12) dX0_part_1 (by decide) (fun c1 => ?_) (fun c2 => ?_)
  · have hw3 := hw.1 c1
    refine z_bipush (v := (-2)) dX0_part_12 (by decide) ?_
    exact z_ret (v := some (.int ((-2)))) dX0_part_14 ⟨_, rfl, rfl⟩ rfl hw3
  · have hw4 := hw.2 c2
    refine z_iloadn dX0_part_4 rfl rfl ?_
    refine z_aloadn dX0_part_5 rfl rfl ?_
    refine z_getI (j := 0) zc0 dX0_part_6 (ha.k 0 rfl) (ha.lt 0 rfl) (by decide) rfl w485 ?_
    refine z_icmp_lt (t := 15) dX0_part_9 (by decide) (fun c5 => ?_) (fun c6 => ?_)
    · have hw7 := hw4.1 c5
      refine z_iloadn dX0_part_15 rfl rfl ?_
      refine z_tswc (td := 155) (ts := [68, 77, 89, 101, 113, 122, 131, 140, 149]) dX0_part_16 (by decide) (by decide) (by decide) (fun c9 => ?_) ⟨fun c9k0 => ?_, fun c9k1 => ?_, fun c9k2 => ?_, fun c9k3 => ?_, fun c9k4 => ?_, fun c9k5 => ?_, fun c9k6 => ?_, fun c9k7 => ?_, fun c9k8 => ?_, trivial⟩
      · have hw10 := hw7.1 c9
        refine z_bipush (v := (-2)) dX0_part_155 (by decide) ?_
        exact z_ret (v := some (.int ((-2)))) dX0_part_157 ⟨_, rfl, rfl⟩ rfl hw10
      · have hw11 := hw7.2.1 c9k0
        refine z_aloadn dX0_part_68 rfl rfl ?_
        refine z_getRq (j := 1) zc0 dX0_part_69 (ha.k 0 rfl) (ha.lt 0 rfl) (by decide) rfl w487 (ha.r 0 rfl) ?_
        refine z_iloadn dX0_part_72 rfl rfl ?_
        refine z_callS (h := h) (S := []) (M := mX0_part) (As := [va_rf (some (a + 1)), .int x1]) eX10_get w778 (Or.inr ⟨_, w1078⟩) dX0_part_73 rfl (by omega) (Nat.le_of_ble_eq_true rfl) (c_X10_get l G h (some (a + 1)) x1 (zgok_lo (ha.w 1 rfl) (by decide))) (fun v12 g13 q14 => ?_)
        obtain ⟨rfl, q14⟩ := q14
        replace q14 := q14.symm
        subst q14
        show Z l G _ d Q k n 76 _ (.int (zget h (some (a + 1)) x1) :: []) _
        exact z_ret (v := some (.int (zget h (some (a + 1)) x1))) dX0_part_76 ⟨_, rfl, rfl⟩ rfl hw11
      · have hw15 := hw7.2.2.1 c9k1
        refine z_aloadn dX0_part_77 rfl rfl ?_
        refine z_getRq (j := 2) zc0 dX0_part_78 (ha.k 0 rfl) (ha.lt 0 rfl) (by decide) rfl w488 (ha.r 1 rfl) ?_
        refine z_iloadn dX0_part_81 rfl rfl ?_
        refine z_callS (h := h) (S := []) (M := mX0_part) (As := [va_rf (some (a + 2)), .int x1]) eX10_get w778 (Or.inr ⟨_, w1078⟩) dX0_part_82 rfl (by omega) (Nat.le_of_ble_eq_true rfl) (c_X10_get l G h (some (a + 2)) x1 (zgok_lo (ha.w 2 rfl) (by decide))) (fun v16 g17 q18 => ?_)
        obtain ⟨rfl, q18⟩ := q18
        replace q18 := q18.symm
        subst q18
        show Z l G _ d Q k n 85 _ (.int (zget h (some (a + 2)) x1) :: []) _
        refine z_callS (h := h) (S := []) (M := mX0_part) (As := [.int (zget h (some (a + 2)) x1)]) eX10_soleOf w1113 (Or.inr ⟨_, w1112⟩) dX0_part_85 rfl (by omega) (Nat.le_of_ble_eq_true rfl) (c_X10_soleOf l G h (zget h (some (a + 2)) x1)) (fun v19 g20 q21 => ?_)
        obtain ⟨rfl, q21⟩ := q21
        replace q21 := q21.symm
        subst q21
        show Z l G _ d Q k n 88 _ (.int (zsole (zget h (some (a + 2)) x1)) :: []) _
        exact z_ret (v := some (.int (zsole (zget h (some (a + 2)) x1)))) dX0_part_88 ⟨_, rfl, rfl⟩ rfl hw15
      · have hw22 := hw7.2.2.2.1 c9k2
        refine z_aloadn dX0_part_89 rfl rfl ?_
        refine z_getRq (j := 2) zc0 dX0_part_90 (ha.k 0 rfl) (ha.lt 0 rfl) (by decide) rfl w488 (ha.r 1 rfl) ?_
        refine z_iloadn dX0_part_93 rfl rfl ?_
        refine z_callS (h := h) (S := []) (M := mX0_part) (As := [va_rf (some (a + 2)), .int x1]) eX10_get w778 (Or.inr ⟨_, w1078⟩) dX0_part_94 rfl (by omega) (Nat.le_of_ble_eq_true rfl) (c_X10_get l G h (some (a + 2)) x1 (zgok_lo (ha.w 2 rfl) (by decide))) (fun v23 g24 q25 => ?_)
        obtain ⟨rfl, q25⟩ := q25
        replace q25 := q25.symm
        subst q25
        show Z l G _ d Q k n 97 _ (.int (zget h (some (a + 2)) x1) :: []) _
        refine z_callS (h := h) (S := []) (M := mX0_part) (As := [.int (zget h (some (a + 2)) x1)]) eX10_footOf w1116 (Or.inr ⟨_, w1115⟩) dX0_part_97 rfl (by omega) (Nat.le_of_ble_eq_true rfl) (c_X10_footOf l G h (zget h (some (a + 2)) x1)) (fun v26 g27 q28 => ?_)
        obtain ⟨rfl, q28⟩ := q28
        replace q28 := q28.symm
        subst q28
        show Z l G _ d Q k n 100 _ (.int (zfoot (zget h (some (a + 2)) x1)) :: []) _
        exact z_ret (v := some (.int (zfoot (zget h (some (a + 2)) x1)))) dX0_part_100 ⟨_, rfl, rfl⟩ rfl hw22
      · have hw29 := hw7.2.2.2.2.1 c9k3
        refine z_aloadn dX0_part_101 rfl rfl ?_
        refine z_getRq (j := 2) zc0 dX0_part_102 (ha.k 0 rfl) (ha.lt 0 rfl) (by decide) rfl w488 (ha.r 1 rfl) ?_
        refine z_iloadn dX0_part_105 rfl rfl ?_
        refine z_callS (h := h) (S := []) (M := mX0_part) (As := [va_rf (some (a + 2)), .int x1]) eX10_get w778 (Or.inr ⟨_, w1078⟩) dX0_part_106 rfl (by omega) (Nat.le_of_ble_eq_true rfl) (c_X10_get l G h (some (a + 2)) x1 (zgok_lo (ha.w 2 rfl) (by decide))) (fun v30 g31 q32 => ?_)
        obtain ⟨rfl, q32⟩ := q32
        replace q32 := q32.symm
        subst q32
        show Z l G _ d Q k n 109 _ (.int (zget h (some (a + 2)) x1) :: []) _
        refine z_callS (h := h) (S := []) (M := mX0_part) (As := [.int (zget h (some (a + 2)) x1)]) eX10_sideOf w1119 (Or.inr ⟨_, w1118⟩) dX0_part_109 rfl (by omega) (Nat.le_of_ble_eq_true rfl) (c_X10_sideOf l G h (zget h (some (a + 2)) x1)) (fun v33 g34 q35 => ?_)
        obtain ⟨rfl, q35⟩ := q35
        replace q35 := q35.symm
        subst q35
        show Z l G _ d Q k n 112 _ (.int (zside (zget h (some (a + 2)) x1)) :: []) _
        exact z_ret (v := some (.int (zside (zget h (some (a + 2)) x1)))) dX0_part_112 ⟨_, rfl, rfl⟩ rfl hw29
      · have hw36 := hw7.2.2.2.2.2.1 c9k4
        refine z_aloadn dX0_part_113 rfl rfl ?_
        refine z_getRq (j := 3) zc0 dX0_part_114 (ha.k 0 rfl) (ha.lt 0 rfl) (by decide) rfl w489 (ha.r 2 rfl) ?_
        refine z_iloadn dX0_part_117 rfl rfl ?_
        refine z_callS (h := h) (S := []) (M := mX0_part) (As := [va_rf (some (a + 3)), .int x1]) eX10_get w778 (Or.inr ⟨_, w1078⟩) dX0_part_118 rfl (by omega) (Nat.le_of_ble_eq_true rfl) (c_X10_get l G h (some (a + 3)) x1 (zgok_lo (ha.w 3 rfl) (by decide))) (fun v37 g38 q39 => ?_)
        obtain ⟨rfl, q39⟩ := q39
        replace q39 := q39.symm
        subst q39
        show Z l G _ d Q k n 121 _ (.int (zget h (some (a + 3)) x1) :: []) _
        exact z_ret (v := some (.int (zget h (some (a + 3)) x1))) dX0_part_121 ⟨_, rfl, rfl⟩ rfl hw36
      · have hw40 := hw7.2.2.2.2.2.2.1 c9k5
        refine z_aloadn dX0_part_122 rfl rfl ?_
        refine z_getRq (j := 4) zc0 dX0_part_123 (ha.k 0 rfl) (ha.lt 0 rfl) (by decide) rfl w490 (ha.r 3 rfl) ?_
        refine z_iloadn dX0_part_126 rfl rfl ?_
        refine z_callS (h := h) (S := []) (M := mX0_part) (As := [va_rf (some (a + 4)), .int x1]) eX10_get w778 (Or.inr ⟨_, w1078⟩) dX0_part_127 rfl (by omega) (Nat.le_of_ble_eq_true rfl) (c_X10_get l G h (some (a + 4)) x1 (zgok_lo (ha.w 4 rfl) (by decide))) (fun v41 g42 q43 => ?_)
        obtain ⟨rfl, q43⟩ := q43
        replace q43 := q43.symm
        subst q43
        show Z l G _ d Q k n 130 _ (.int (zget h (some (a + 4)) x1) :: []) _
        exact z_ret (v := some (.int (zget h (some (a + 4)) x1))) dX0_part_130 ⟨_, rfl, rfl⟩ rfl hw40
      · have hw44 := hw7.2.2.2.2.2.2.2.1 c9k6
        refine z_aloadn dX0_part_131 rfl rfl ?_
        refine z_getRq (j := 5) zc0 dX0_part_132 (ha.k 0 rfl) (ha.lt 0 rfl) (by decide) rfl w491 (ha.r 4 rfl) ?_
        refine z_iloadn dX0_part_135 rfl rfl ?_
        refine z_callS (h := h) (S := []) (M := mX0_part) (As := [va_rf (some (a + 5)), .int x1]) eX10_get w778 (Or.inr ⟨_, w1078⟩) dX0_part_136 rfl (by omega) (Nat.le_of_ble_eq_true rfl) (c_X10_get l G h (some (a + 5)) x1 (zgok_lo (ha.w 5 rfl) (by decide))) (fun v45 g46 q47 => ?_)
        obtain ⟨rfl, q47⟩ := q47
        replace q47 := q47.symm
        subst q47
        show Z l G _ d Q k n 139 _ (.int (zget h (some (a + 5)) x1) :: []) _
        exact z_ret (v := some (.int (zget h (some (a + 5)) x1))) dX0_part_139 ⟨_, rfl, rfl⟩ rfl hw44
      · have hw48 := hw7.2.2.2.2.2.2.2.2.1 c9k7
        refine z_aloadn dX0_part_140 rfl rfl ?_
        refine z_getRq (j := 6) zc0 dX0_part_141 (ha.k 0 rfl) (ha.lt 0 rfl) (by decide) rfl w492 (ha.r 5 rfl) ?_
        refine z_iloadn dX0_part_144 rfl rfl ?_
        refine z_callS (h := h) (S := []) (M := mX0_part) (As := [va_rf (some (a + 6)), .int x1]) eX10_get w778 (Or.inr ⟨_, w1078⟩) dX0_part_145 rfl (by omega) (Nat.le_of_ble_eq_true rfl) (c_X10_get l G h (some (a + 6)) x1 (zgok_lo (ha.w 6 rfl) (by decide))) (fun v49 g50 q51 => ?_)
        obtain ⟨rfl, q51⟩ := q51
        replace q51 := q51.symm
        subst q51
        show Z l G _ d Q k n 148 _ (.int (zget h (some (a + 6)) x1) :: []) _
        exact z_ret (v := some (.int (zget h (some (a + 6)) x1))) dX0_part_148 ⟨_, rfl, rfl⟩ rfl hw48
      · have hw52 := hw7.2.2.2.2.2.2.2.2.2 c9k8
        refine z_aloadn dX0_part_149 rfl rfl ?_
        refine z_iloadn dX0_part_150 rfl rfl ?_
        obtain ⟨P53, ct54, hw55⟩ := hw52
        refine z_callV (h := h) (S := []) (a := a) (M := mX0_part) (As := [.int x1]) zc0 rfl eX0_liesOver w1123 w50 (Or.inl w1121) dX0_part_151 (ha.k 0 rfl) (ha.lt 0 rfl) rfl (by omega) (Nat.le_of_ble_eq_true rfl) ct54 (fun v60 g61 q57 => ?_)
        obtain ⟨y58, I56, rfl, rfl, q57⟩ := q57
        have hw59 := hw55 y58 I56 q57
        show Z l G _ d Q k n 154 _ (.int y58 :: []) _
        exact z_ret (v := some (.int y58)) dX0_part_154 ⟨_, rfl, rfl⟩ rfl hw59
    · have hw8 := hw4.2 c6
      refine z_bipush (v := (-2)) dX0_part_12 (by decide) ?_
      exact z_ret (v := some (.int ((-2)))) dX0_part_14 ⟨_, rfl, rfl⟩ rfl hw8

theorem kX0_part {l : Launch} {G : zG} {d : Nat} {Q : Option Value → zH → Prop} {k n : Nat} {h : zH} (a : Nat) (x1 : Int32) (x2 : Int32) (hz : Z l G mX0_part d Q k n 0 [va_rf (some a), .int x1, .int x2] [] h) : CT l G YX0_part d k n [va_rf (some a), .int x1, .int x2] h Q :=
  CT.of (by decide +kernel) (fun t e => by have e2 : ((some .int) : Option FieldType) = some t := e; cases e2; exact ⟨by decide, by decide⟩) (by exact Nat.le_of_ble_eq_true rfl) (by exact hz)

theorem sX0_liesOver_0 {l : Launch} {G : zG} {d : Nat} {Q : Option Value → zH → Prop} {k n : Nat} {h : zH} (a : Nat) (x1 : Int32) (ha : lo0 h a) (hd9 : 2 ≤ d)
    (hw : Z l G mX0_liesOver d Q k n 4 [va_rf (some a), .int x1, .int 0, .int 0] [] h) :
    Z l G mX0_liesOver d Q k n 0 [va_rf (some a), .int x1, zU, zU] [] h := by
  refine z_iconst (v := 0) dX0_liesOver_0 (by decide) ?_
  refine z_istoren (L' := [va_rf (some a), .int x1, .int 0, zU]) dX0_liesOver_1 rfl (by decide) rfl ?_
  refine z_iconst (v := 0) dX0_liesOver_2 (by decide) ?_
  refine z_istoren (L' := [va_rf (some a), .int x1, .int 0, .int 0]) dX0_liesOver_3 rfl (by decide) rfl ?_
  exact hw

theorem sX0_liesOver_4 {l : Launch} {G : zG} {d : Nat} {Q : Option Value → zH → Prop} {k n : Nat} {h : zH} (a : Nat) (x1 : Int32) (x2 : Int32) (x3 : Int32) (ha : lo0 h a) (hd9 : 2 ≤ d)
    (hw : ((x1.toInt ≤ x3.toInt → Q (some (.int x2)) h) ∧ (x3.toInt < x1.toInt → ((¬ zget h (some (a + 1)) x3 = zget h (some (a + 1)) x1 → Z l G mX0_liesOver d Q k n 4 [va_rf (some a), .int x1, .int x2, .int ((x3 + 1))] [] h) ∧ (zget h (some (a + 1)) x3 = zget h (some (a + 1)) x1 → Z l G mX0_liesOver d Q k n 4 [va_rf (some a), .int x1, .int ((x2 + 1)), .int ((x3 + 1))] [] h))))) :
    Z l G mX0_liesOver d Q k n 4 [va_rf (some a), .int x1, .int x2, .int x3] [] h := by
  refine z_iloadn dX0_liesOver_4 rfl rfl ?_
  refine z_iloadn dX0_liesOver_5 rfl rfl ?_
  refine z_icmp_ge (t := 37) dX0_liesOver_6 (by decide) (fun c1 => ?_) (fun c2 => ?_)
  · have hw3 := hw.1 c1
    refine z_iloadn dX0_liesOver_37 rfl rfl ?_
    exact z_ret (v := some (.int x2)) dX0_liesOver_38 ⟨_, rfl, rfl⟩ rfl hw3
  · have hw4 := hw.2 c2
    refine z_aloadn dX0_liesOver_9 rfl rfl ?_
    refine z_getRq (j := 1) zc0 dX0_liesOver_10 (ha.k 0 rfl) (ha.lt 0 rfl) (by decide) rfl w487 (ha.r 0 rfl) ?_
    refine z_iloadn dX0_liesOver_13 rfl rfl ?_
    refine z_callS (h := h) (S := []) (M := mX0_liesOver) (As := [va_rf (some (a + 1)), .int x3]) eX10_get w778 (Or.inr ⟨_, w1078⟩) dX0_liesOver_14 rfl (by omega) (Nat.le_of_ble_eq_true rfl) (c_X10_get l G h (some (a + 1)) x3 (zgok_lo (ha.w 1 rfl) (by decide))) (fun v5 g6 q7 => ?_)
    obtain ⟨rfl, q7⟩ := q7
    replace q7 := q7.symm
    subst q7
    show Z l G _ d Q k n 17 _ (.int (zget h (some (a + 1)) x3) :: []) _
    refine z_aloadn dX0_liesOver_17 rfl rfl ?_
    refine z_getRq (j := 1) zc0 dX0_liesOver_18 (ha.k 0 rfl) (ha.lt 0 rfl) (by decide) rfl w487 (ha.r 0 rfl) ?_
    refine z_iloadn dX0_liesOver_21 rfl rfl ?_
    refine z_callS (h := h) (S := [.int (zget h (some (a + 1)) x3)]) (M := mX0_liesOver) (As := [va_rf (some (a + 1)), .int x1]) eX10_get w778 (Or.inr ⟨_, w1078⟩) dX0_liesOver_22 rfl (by omega) (Nat.le_of_ble_eq_true rfl) (c_X10_get l G h (some (a + 1)) x1 (zgok_lo (ha.w 1 rfl) (by decide))) (fun v8 g9 q10 => ?_)
    obtain ⟨rfl, q10⟩ := q10
    replace q10 := q10.symm
    subst q10
    show Z l G _ d Q k n 25 _ (.int (zget h (some (a + 1)) x1) :: .int (zget h (some (a + 1)) x3) :: []) _
    refine z_icmp_ne (t := 31) dX0_liesOver_25 (by decide) (fun c11 => ?_) (fun c12 => ?_)
    · have hw13 := hw4.1 c11
      refine z_iinc (v := (x3 + 1)) (L' := [va_rf (some a), .int x1, .int x2, .int ((x3 + 1))]) dX0_liesOver_31 (by decide) rfl rfl rfl ?_
      refine z_goto (t := 4) dX0_liesOver_34 (by decide) ?_
      exact hw13
    · have hw14 := hw4.2 c12
      refine z_iinc (v := (x2 + 1)) (L' := [va_rf (some a), .int x1, .int ((x2 + 1)), .int x3]) dX0_liesOver_28 (by decide) rfl rfl rfl ?_
      refine z_iinc (v := (x3 + 1)) (L' := [va_rf (some a), .int x1, .int ((x2 + 1)), .int ((x3 + 1))]) dX0_liesOver_31 (by decide) rfl rfl rfl ?_
      refine z_goto (t := 4) dX0_liesOver_34 (by decide) ?_
      exact hw14

theorem kX0_liesOver {l : Launch} {G : zG} {d : Nat} {Q : Option Value → zH → Prop} {k n : Nat} {h : zH} (a : Nat) (x1 : Int32) (hz : Z l G mX0_liesOver d Q k n 0 [va_rf (some a), .int x1, zU, zU] [] h) : CT l G YX0_liesOver d k n [va_rf (some a), .int x1] h Q :=
  CT.of (by decide +kernel) (fun t e => by have e2 : ((some .int) : Option FieldType) = some t := e; cases e2; exact ⟨by decide, by decide⟩) (by exact Nat.le_of_ble_eq_true rfl) (by exact hz)

theorem sX0_heightOf_0 {l : Launch} {G : zG} {d : Nat} {Q : Option Value → zH → Prop} {k n : Nat} {h : zH} (a : Nat) (x1 : Int32) (ha : lo0 h a) (hd9 : 2 ≤ d)
    (hw : Z l G mX0_heightOf d Q k n 4 [va_rf (some a), .int x1, .int 0, .int 0] [] h) :
    Z l G mX0_heightOf d Q k n 0 [va_rf (some a), .int x1, zU, zU] [] h := by
  refine z_iconst (v := 0) dX0_heightOf_0 (by decide) ?_
  refine z_istoren (L' := [va_rf (some a), .int x1, .int 0, zU]) dX0_heightOf_1 rfl (by decide) rfl ?_
  refine z_iconst (v := 0) dX0_heightOf_2 (by decide) ?_
  refine z_istoren (L' := [va_rf (some a), .int x1, .int 0, .int 0]) dX0_heightOf_3 rfl (by decide) rfl ?_
  exact hw

theorem sX0_heightOf_4 {l : Launch} {G : zG} {d : Nat} {Q : Option Value → zH → Prop} {k n : Nat} {h : zH} (a : Nat) (x1 : Int32) (x2 : Int32) (x3 : Int32) (ha : lo0 h a) (hd9 : 2 ≤ d)
    (hw : (((zI h a 0).toInt ≤ x3.toInt → Q (some (.int x2)) h) ∧ (x3.toInt < (zI h a 0).toInt → ((¬ zget h (some (a + 1)) x3 = x1 → Z l G mX0_heightOf d Q k n 4 [va_rf (some a), .int x1, .int x2, .int ((x3 + 1))] [] h) ∧ (zget h (some (a + 1)) x3 = x1 → Z l G mX0_heightOf d Q k n 4 [va_rf (some a), .int x1, .int ((x2 + 1)), .int ((x3 + 1))] [] h))))) :
    Z l G mX0_heightOf d Q k n 4 [va_rf (some a), .int x1, .int x2, .int x3] [] h := by
  refine z_iloadn dX0_heightOf_4 rfl rfl ?_
  refine z_aloadn dX0_heightOf_5 rfl rfl ?_
  refine z_getI (j := 0) zc0 dX0_heightOf_6 (ha.k 0 rfl) (ha.lt 0 rfl) (by decide) rfl w485 ?_
  refine z_icmp_ge (t := 33) dX0_heightOf_9 (by decide) (fun c1 => ?_) (fun c2 => ?_)
  · have hw3 := hw.1 c1
    refine z_iloadn dX0_heightOf_33 rfl rfl ?_
    exact z_ret (v := some (.int x2)) dX0_heightOf_34 ⟨_, rfl, rfl⟩ rfl hw3
  · have hw4 := hw.2 c2
    refine z_aloadn dX0_heightOf_12 rfl rfl ?_
    refine z_getRq (j := 1) zc0 dX0_heightOf_13 (ha.k 0 rfl) (ha.lt 0 rfl) (by decide) rfl w487 (ha.r 0 rfl) ?_
    refine z_iloadn dX0_heightOf_16 rfl rfl ?_
    refine z_callS (h := h) (S := []) (M := mX0_heightOf) (As := [va_rf (some (a + 1)), .int x3]) eX10_get w778 (Or.inr ⟨_, w1078⟩) dX0_heightOf_17 rfl (by omega) (Nat.le_of_ble_eq_true rfl) (c_X10_get l G h (some (a + 1)) x3 (zgok_lo (ha.w 1 rfl) (by decide))) (fun v5 g6 q7 => ?_)
    obtain ⟨rfl, q7⟩ := q7
    replace q7 := q7.symm
    subst q7
    show Z l G _ d Q k n 20 _ (.int (zget h (some (a + 1)) x3) :: []) _
    refine z_iloadn dX0_heightOf_20 rfl rfl ?_
    refine z_icmp_ne (t := 27) dX0_heightOf_21 (by decide) (fun c8 => ?_) (fun c9 => ?_)
    · have hw10 := hw4.1 c8
      refine z_iinc (v := (x3 + 1)) (L' := [va_rf (some a), .int x1, .int x2, .int ((x3 + 1))]) dX0_heightOf_27 (by decide) rfl rfl rfl ?_
      refine z_goto (t := 4) dX0_heightOf_30 (by decide) ?_
      exact hw10
    · have hw11 := hw4.2 c9
      refine z_iinc (v := (x2 + 1)) (L' := [va_rf (some a), .int x1, .int ((x2 + 1)), .int x3]) dX0_heightOf_24 (by decide) rfl rfl rfl ?_
      refine z_iinc (v := (x3 + 1)) (L' := [va_rf (some a), .int x1, .int ((x2 + 1)), .int ((x3 + 1))]) dX0_heightOf_27 (by decide) rfl rfl rfl ?_
      refine z_goto (t := 4) dX0_heightOf_30 (by decide) ?_
      exact hw11

theorem kX0_heightOf {l : Launch} {G : zG} {d : Nat} {Q : Option Value → zH → Prop} {k n : Nat} {h : zH} (a : Nat) (x1 : Int32) (hz : Z l G mX0_heightOf d Q k n 0 [va_rf (some a), .int x1, zU, zU] [] h) : CT l G YX0_heightOf d k n [va_rf (some a), .int x1] h Q :=
  CT.of (by decide +kernel) (fun t e => by have e2 : ((some .int) : Option FieldType) = some t := e; cases e2; exact ⟨by decide, by decide⟩) (by exact Nat.le_of_ble_eq_true rfl) (by exact hz)

theorem sX0_topOf_0 {l : Launch} {G : zG} {d : Nat} {Q : Option Value → zH → Prop} {k n : Nat} {h : zH} (a : Nat) (x1 : Int32) (ha : lo0 h a) (hd9 : 2 ≤ d)
    (hw : Q (some (.int (zget h (some (a + 7)) x1))) h) :
    Z l G mX0_topOf d Q k n 0 [va_rf (some a), .int x1] [] h := by
  refine z_aloadn dX0_topOf_0 rfl rfl ?_
  refine z_getRq (j := 7) zc0 dX0_topOf_1 (ha.k 0 rfl) (ha.lt 0 rfl) (by decide) rfl w493 (ha.r 6 rfl) ?_
  refine z_iloadn dX0_topOf_4 rfl rfl ?_
  refine z_callS (h := h) (S := []) (M := mX0_topOf) (As := [va_rf (some (a + 7)), .int x1]) eX10_get w778 (Or.inr ⟨_, w1078⟩) dX0_topOf_5 rfl (by omega) (Nat.le_of_ble_eq_true rfl) (c_X10_get l G h (some (a + 7)) x1 (zgok_lo (ha.w 7 rfl) (by decide))) (fun v1 g2 q3 => ?_)
  obtain ⟨rfl, q3⟩ := q3
  replace q3 := q3.symm
  subst q3
  show Z l G _ d Q k n 8 _ (.int (zget h (some (a + 7)) x1) :: []) _
  exact z_ret (v := some (.int (zget h (some (a + 7)) x1))) dX0_topOf_8 ⟨_, rfl, rfl⟩ rfl hw

theorem kX0_topOf {l : Launch} {G : zG} {d : Nat} {Q : Option Value → zH → Prop} {k n : Nat} {h : zH} (a : Nat) (x1 : Int32) (hz : Z l G mX0_topOf d Q k n 0 [va_rf (some a), .int x1] [] h) : CT l G YX0_topOf d k n [va_rf (some a), .int x1] h Q :=
  CT.of (by decide +kernel) (fun t e => by have e2 : ((some .int) : Option FieldType) = some t := e; cases e2; exact ⟨by decide, by decide⟩) (by exact Nat.le_of_ble_eq_true rfl) (by exact hz)

theorem sX0_depthOf_0 {l : Launch} {G : zG} {d : Nat} {Q : Option Value → zH → Prop} {k n : Nat} {h : zH} (a : Nat) (x1 : Int32) (ha : lo0 h a) (hd9 : 2 ≤ d)
    (hw : Z l G mX0_depthOf d Q k n 4 [va_rf (some a), .int x1, .int 0, .int 0] [] h) :
    Z l G mX0_depthOf d Q k n 0 [va_rf (some a), .int x1, zU, zU] [] h := by
  refine z_iconst (v := 0) dX0_depthOf_0 (by decide) ?_
  refine z_istoren (L' := [va_rf (some a), .int x1, .int 0, zU]) dX0_depthOf_1 rfl (by decide) rfl ?_
  refine z_iconst (v := 0) dX0_depthOf_2 (by decide) ?_
  refine z_istoren (L' := [va_rf (some a), .int x1, .int 0, .int 0]) dX0_depthOf_3 rfl (by decide) rfl ?_
  exact hw

theorem sX0_depthOf_4 {l : Launch} {G : zG} {d : Nat} {Q : Option Value → zH → Prop} {k n : Nat} {h : zH} (a : Nat) (x1 : Int32) (x2 : Int32) (x3 : Int32) (ha : lo0 h a) (hd9 : 2 ≤ d)
    (hw : (((zI h a 0).toInt ≤ x3.toInt → Q (some (.int x2)) h) ∧ (x3.toInt < (zI h a 0).toInt → ((¬ zget h (some (a + 1)) x3 = x1 → Z l G mX0_depthOf d Q k n 4 [va_rf (some a), .int x1, .int x2, .int ((x3 + 1))] [] h) ∧ (zget h (some (a + 1)) x3 = x1 → Z l G mX0_depthOf d Q k n 4 [va_rf (some a), .int x1, .int ((x2 + (zget h (some (a + 3)) x3))), .int ((x3 + 1))] [] h))))) :
    Z l G mX0_depthOf d Q k n 4 [va_rf (some a), .int x1, .int x2, .int x3] [] h := by
  refine z_iloadn dX0_depthOf_4 rfl rfl ?_
  refine z_aloadn dX0_depthOf_5 rfl rfl ?_
  refine z_getI (j := 0) zc0 dX0_depthOf_6 (ha.k 0 rfl) (ha.lt 0 rfl) (by decide) rfl w485 ?_
  refine z_icmp_ge (t := 41) dX0_depthOf_9 (by decide) (fun c1 => ?_) (fun c2 => ?_)
  · have hw3 := hw.1 c1
    refine z_iloadn dX0_depthOf_41 rfl rfl ?_
    exact z_ret (v := some (.int x2)) dX0_depthOf_42 ⟨_, rfl, rfl⟩ rfl hw3
  · have hw4 := hw.2 c2
    refine z_aloadn dX0_depthOf_12 rfl rfl ?_
    refine z_getRq (j := 1) zc0 dX0_depthOf_13 (ha.k 0 rfl) (ha.lt 0 rfl) (by decide) rfl w487 (ha.r 0 rfl) ?_
    refine z_iloadn dX0_depthOf_16 rfl rfl ?_
    refine z_callS (h := h) (S := []) (M := mX0_depthOf) (As := [va_rf (some (a + 1)), .int x3]) eX10_get w778 (Or.inr ⟨_, w1078⟩) dX0_depthOf_17 rfl (by omega) (Nat.le_of_ble_eq_true rfl) (c_X10_get l G h (some (a + 1)) x3 (zgok_lo (ha.w 1 rfl) (by decide))) (fun v5 g6 q7 => ?_)
    obtain ⟨rfl, q7⟩ := q7
    replace q7 := q7.symm
    subst q7
    show Z l G _ d Q k n 20 _ (.int (zget h (some (a + 1)) x3) :: []) _
    refine z_iloadn dX0_depthOf_20 rfl rfl ?_
    refine z_icmp_ne (t := 35) dX0_depthOf_21 (by decide) (fun c8 => ?_) (fun c9 => ?_)
    · have hw10 := hw4.1 c8
      refine z_iinc (v := (x3 + 1)) (L' := [va_rf (some a), .int x1, .int x2, .int ((x3 + 1))]) dX0_depthOf_35 (by decide) rfl rfl rfl ?_
      refine z_goto (t := 4) dX0_depthOf_38 (by decide) ?_
      exact hw10
    · have hw11 := hw4.2 c9
      refine z_iloadn dX0_depthOf_24 rfl rfl ?_
      refine z_aloadn dX0_depthOf_25 rfl rfl ?_
      refine z_getRq (j := 3) zc0 dX0_depthOf_26 (ha.k 0 rfl) (ha.lt 0 rfl) (by decide) rfl w489 (ha.r 2 rfl) ?_
      refine z_iloadn dX0_depthOf_29 rfl rfl ?_
      refine z_callS (h := h) (S := [.int x2]) (M := mX0_depthOf) (As := [va_rf (some (a + 3)), .int x3]) eX10_get w778 (Or.inr ⟨_, w1078⟩) dX0_depthOf_30 rfl (by omega) (Nat.le_of_ble_eq_true rfl) (c_X10_get l G h (some (a + 3)) x3 (zgok_lo (ha.w 3 rfl) (by decide))) (fun v12 g13 q14 => ?_)
      obtain ⟨rfl, q14⟩ := q14
      replace q14 := q14.symm
      subst q14
      show Z l G _ d Q k n 33 _ (.int (zget h (some (a + 3)) x3) :: .int x2 :: []) _
      refine z_iadd dX0_depthOf_33 ?_
      refine z_istoren (L' := [va_rf (some a), .int x1, .int ((x2 + (zget h (some (a + 3)) x3))), .int x3]) dX0_depthOf_34 rfl (by decide) rfl ?_
      refine z_iinc (v := (x3 + 1)) (L' := [va_rf (some a), .int x1, .int ((x2 + (zget h (some (a + 3)) x3))), .int ((x3 + 1))]) dX0_depthOf_35 (by decide) rfl rfl rfl ?_
      refine z_goto (t := 4) dX0_depthOf_38 (by decide) ?_
      exact hw11

theorem kX0_depthOf {l : Launch} {G : zG} {d : Nat} {Q : Option Value → zH → Prop} {k n : Nat} {h : zH} (a : Nat) (x1 : Int32) (hz : Z l G mX0_depthOf d Q k n 0 [va_rf (some a), .int x1, zU, zU] [] h) : CT l G YX0_depthOf d k n [va_rf (some a), .int x1] h Q :=
  CT.of (by decide +kernel) (fun t e => by have e2 : ((some .int) : Option FieldType) = some t := e; cases e2; exact ⟨by decide, by decide⟩) (by exact Nat.le_of_ble_eq_true rfl) (by exact hz)

theorem sX0_usersOf_0 {l : Launch} {G : zG} {d : Nat} {Q : Option Value → zH → Prop} {k n : Nat} {h : zH} (a : Nat) (x1 : Int32) (ha : lo0 h a) (hd9 : 2 ≤ d)
    (hw : Z l G mX0_usersOf d Q k n 4 [va_rf (some a), .int x1, .int 0, .int 0] [] h) :
    Z l G mX0_usersOf d Q k n 0 [va_rf (some a), .int x1, zU, zU] [] h := by
  refine z_iconst (v := 0) dX0_usersOf_0 (by decide) ?_
  refine z_istoren (L' := [va_rf (some a), .int x1, .int 0, zU]) dX0_usersOf_1 rfl (by decide) rfl ?_
  refine z_iconst (v := 0) dX0_usersOf_2 (by decide) ?_
  refine z_istoren (L' := [va_rf (some a), .int x1, .int 0, .int 0]) dX0_usersOf_3 rfl (by decide) rfl ?_
  exact hw

theorem sX0_usersOf_4 {l : Launch} {G : zG} {d : Nat} {Q : Option Value → zH → Prop} {k n : Nat} {h : zH} (a : Nat) (x1 : Int32) (x2 : Int32) (x3 : Int32) (ha : lo0 h a) (hd9 : 2 ≤ d)
    (hw : (((zI h a 0).toInt ≤ x3.toInt → Q (some (.int x2)) h) ∧ (x3.toInt < (zI h a 0).toInt → ((¬ zget h (some (a + 1)) x3 = x1 → Z l G mX0_usersOf d Q k n 4 [va_rf (some a), .int x1, .int x2, .int ((x3 + 1))] [] h) ∧ (zget h (some (a + 1)) x3 = x1 → Z l G mX0_usersOf d Q k n 4 [va_rf (some a), .int x1, .int ((x2 ||| (zget h (some (a + 6)) x3))), .int ((x3 + 1))] [] h))))) :
    Z l G mX0_usersOf d Q k n 4 [va_rf (some a), .int x1, .int x2, .int x3] [] h := by
  refine z_iloadn dX0_usersOf_4 rfl rfl ?_
  refine z_aloadn dX0_usersOf_5 rfl rfl ?_
  refine z_getI (j := 0) zc0 dX0_usersOf_6 (ha.k 0 rfl) (ha.lt 0 rfl) (by decide) rfl w485 ?_
  refine z_icmp_ge (t := 41) dX0_usersOf_9 (by decide) (fun c1 => ?_) (fun c2 => ?_)
  · have hw3 := hw.1 c1
    refine z_iloadn dX0_usersOf_41 rfl rfl ?_
    exact z_ret (v := some (.int x2)) dX0_usersOf_42 ⟨_, rfl, rfl⟩ rfl hw3
  · have hw4 := hw.2 c2
    refine z_aloadn dX0_usersOf_12 rfl rfl ?_
    refine z_getRq (j := 1) zc0 dX0_usersOf_13 (ha.k 0 rfl) (ha.lt 0 rfl) (by decide) rfl w487 (ha.r 0 rfl) ?_
    refine z_iloadn dX0_usersOf_16 rfl rfl ?_
    refine z_callS (h := h) (S := []) (M := mX0_usersOf) (As := [va_rf (some (a + 1)), .int x3]) eX10_get w778 (Or.inr ⟨_, w1078⟩) dX0_usersOf_17 rfl (by omega) (Nat.le_of_ble_eq_true rfl) (c_X10_get l G h (some (a + 1)) x3 (zgok_lo (ha.w 1 rfl) (by decide))) (fun v5 g6 q7 => ?_)
    obtain ⟨rfl, q7⟩ := q7
    replace q7 := q7.symm
    subst q7
    show Z l G _ d Q k n 20 _ (.int (zget h (some (a + 1)) x3) :: []) _
    refine z_iloadn dX0_usersOf_20 rfl rfl ?_
    refine z_icmp_ne (t := 35) dX0_usersOf_21 (by decide) (fun c8 => ?_) (fun c9 => ?_)
    · have hw10 := hw4.1 c8
      refine z_iinc (v := (x3 + 1)) (L' := [va_rf (some a), .int x1, .int x2, .int ((x3 + 1))]) dX0_usersOf_35 (by decide) rfl rfl rfl ?_
      refine z_goto (t := 4) dX0_usersOf_38 (by decide) ?_
      exact hw10
    · have hw11 := hw4.2 c9
      refine z_iloadn dX0_usersOf_24 rfl rfl ?_
      refine z_aloadn dX0_usersOf_25 rfl rfl ?_
      refine z_getRq (j := 6) zc0 dX0_usersOf_26 (ha.k 0 rfl) (ha.lt 0 rfl) (by decide) rfl w492 (ha.r 5 rfl) ?_
      refine z_iloadn dX0_usersOf_29 rfl rfl ?_
      refine z_callS (h := h) (S := [.int x2]) (M := mX0_usersOf) (As := [va_rf (some (a + 6)), .int x3]) eX10_get w778 (Or.inr ⟨_, w1078⟩) dX0_usersOf_30 rfl (by omega) (Nat.le_of_ble_eq_true rfl) (c_X10_get l G h (some (a + 6)) x3 (zgok_lo (ha.w 6 rfl) (by decide))) (fun v12 g13 q14 => ?_)
      obtain ⟨rfl, q14⟩ := q14
      replace q14 := q14.symm
      subst q14
      show Z l G _ d Q k n 33 _ (.int (zget h (some (a + 6)) x3) :: .int x2 :: []) _
      refine z_ior dX0_usersOf_33 ?_
      refine z_istoren (L' := [va_rf (some a), .int x1, .int ((x2 ||| (zget h (some (a + 6)) x3))), .int x3]) dX0_usersOf_34 rfl (by decide) rfl ?_
      refine z_iinc (v := (x3 + 1)) (L' := [va_rf (some a), .int x1, .int ((x2 ||| (zget h (some (a + 6)) x3))), .int ((x3 + 1))]) dX0_usersOf_35 (by decide) rfl rfl rfl ?_
      refine z_goto (t := 4) dX0_usersOf_38 (by decide) ?_
      exact hw11

theorem kX0_usersOf {l : Launch} {G : zG} {d : Nat} {Q : Option Value → zH → Prop} {k n : Nat} {h : zH} (a : Nat) (x1 : Int32) (hz : Z l G mX0_usersOf d Q k n 0 [va_rf (some a), .int x1, zU, zU] [] h) : CT l G YX0_usersOf d k n [va_rf (some a), .int x1] h Q :=
  CT.of (by decide +kernel) (fun t e => by have e2 : ((some .int) : Option FieldType) = some t := e; cases e2; exact ⟨by decide, by decide⟩) (by exact Nat.le_of_ble_eq_true rfl) (by exact hz)

theorem sX0_twins_0 {l : Launch} {G : zG} {d : Nat} {Q : Option Value → zH → Prop} {k n : Nat} {h : zH} (a : Nat) (ha : lo0 h a) (hd9 : 2 ≤ d)
    (hw : Z l G mX0_twins d Q k n 4 [va_rf (some a), .int 0, .int 0, zU] [] h) :
    Z l G mX0_twins d Q k n 0 [va_rf (some a), zU, zU, zU] [] h := by
  refine z_iconst (v := 0) dX0_twins_0 (by decide) ?_
  refine z_istoren (L' := [va_rf (some a), .int 0, zU, zU]) dX0_twins_1 rfl (by decide) rfl ?_
  refine z_iconst (v := 0) dX0_twins_2 (by decide) ?_
  refine z_istoren (L' := [va_rf (some a), .int 0, .int 0, zU]) dX0_twins_3 rfl (by decide) rfl ?_
  exact hw

theorem sX0_twins_4 {l : Launch} {G : zG} {d : Nat} {Q : Option Value → zH → Prop} {k n : Nat} {h : zH} (a : Nat) (x1 : Int32) (x2 : Int32) (u3 : Value) (ha : lo0 h a) (hd9 : 2 ≤ d)
    (hw : (((zI h a 0).toInt ≤ x2.toInt → Q (some (.int x1)) h) ∧ (x2.toInt < (zI h a 0).toInt → Z l G mX0_twins d Q k n 14 [va_rf (some a), .int x1, .int x2, .int 0] [] h))) :
    Z l G mX0_twins d Q k n 4 [va_rf (some a), .int x1, .int x2, u3] [] h := by
  refine z_iloadn dX0_twins_4 rfl rfl ?_
  refine z_aloadn dX0_twins_5 rfl rfl ?_
  refine z_getI (j := 0) zc0 dX0_twins_6 (ha.k 0 rfl) (ha.lt 0 rfl) (by decide) rfl w485 ?_
  refine z_icmp_ge (t := 72) dX0_twins_9 (by decide) (fun c1 => ?_) (fun c2 => ?_)
  · have hw3 := hw.1 c1
    refine z_iloadn dX0_twins_72 rfl rfl ?_
    exact z_ret (v := some (.int x1)) dX0_twins_73 ⟨_, rfl, rfl⟩ rfl hw3
  · have hw4 := hw.2 c2
    refine z_iconst (v := 0) dX0_twins_12 (by decide) ?_
    refine z_istoren (L' := [va_rf (some a), .int x1, .int x2, .int 0]) dX0_twins_13 rfl (by decide) rfl ?_
    exact hw4

theorem sX0_twins_14 {l : Launch} {G : zG} {d : Nat} {Q : Option Value → zH → Prop} {k n : Nat} {h : zH} (a : Nat) (x1 : Int32) (x2 : Int32) (x3 : Int32) (ha : lo0 h a) (hd9 : 2 ≤ d)
    (hw : ((x2.toInt ≤ x3.toInt → Z l G mX0_twins d Q k n 4 [va_rf (some a), .int x1, .int ((x2 + 1)), .int x3] [] h) ∧ (x3.toInt < x2.toInt → ((¬ zget h (some (a + 1)) x2 = zget h (some (a + 1)) x3 → Z l G mX0_twins d Q k n 14 [va_rf (some a), .int x1, .int x2, .int ((x3 + 1))] [] h) ∧ (zget h (some (a + 1)) x2 = zget h (some (a + 1)) x3 → ((¬ zget h (some (a + 2)) x2 = zget h (some (a + 2)) x3 → Z l G mX0_twins d Q k n 14 [va_rf (some a), .int x1, .int x2, .int ((x3 + 1))] [] h) ∧ (zget h (some (a + 2)) x2 = zget h (some (a + 2)) x3 → Z l G mX0_twins d Q k n 14 [va_rf (some a), .int ((x1 + 1)), .int x2, .int ((x3 + 1))] [] h))))))) :
    Z l G mX0_twins d Q k n 14 [va_rf (some a), .int x1, .int x2, .int x3] [] h := by
  refine z_iloadn dX0_twins_14 rfl rfl ?_
  refine z_iloadn dX0_twins_15 rfl rfl ?_
  refine z_icmp_ge (t := 66) dX0_twins_16 (by decide) (fun c1 => ?_) (fun c2 => ?_)
  · have hw3 := hw.1 c1
    refine z_iinc (v := (x2 + 1)) (L' := [va_rf (some a), .int x1, .int ((x2 + 1)), .int x3]) dX0_twins_66 (by decide) rfl rfl rfl ?_
    refine z_goto (t := 4) dX0_twins_69 (by decide) ?_
    exact hw3
  · have hw4 := hw.2 c2
    refine z_aloadn dX0_twins_19 rfl rfl ?_
    refine z_getRq (j := 1) zc0 dX0_twins_20 (ha.k 0 rfl) (ha.lt 0 rfl) (by decide) rfl w487 (ha.r 0 rfl) ?_
    refine z_iloadn dX0_twins_23 rfl rfl ?_
    refine z_callS (h := h) (S := []) (M := mX0_twins) (As := [va_rf (some (a + 1)), .int x2]) eX10_get w778 (Or.inr ⟨_, w1078⟩) dX0_twins_24 rfl (by omega) (Nat.le_of_ble_eq_true rfl) (c_X10_get l G h (some (a + 1)) x2 (zgok_lo (ha.w 1 rfl) (by decide))) (fun v5 g6 q7 => ?_)
    obtain ⟨rfl, q7⟩ := q7
    replace q7 := q7.symm
    subst q7
    show Z l G _ d Q k n 27 _ (.int (zget h (some (a + 1)) x2) :: []) _
    refine z_aloadn dX0_twins_27 rfl rfl ?_
    refine z_getRq (j := 1) zc0 dX0_twins_28 (ha.k 0 rfl) (ha.lt 0 rfl) (by decide) rfl w487 (ha.r 0 rfl) ?_
    refine z_iloadn dX0_twins_31 rfl rfl ?_
    refine z_callS (h := h) (S := [.int (zget h (some (a + 1)) x2)]) (M := mX0_twins) (As := [va_rf (some (a + 1)), .int x3]) eX10_get w778 (Or.inr ⟨_, w1078⟩) dX0_twins_32 rfl (by omega) (Nat.le_of_ble_eq_true rfl) (c_X10_get l G h (some (a + 1)) x3 (zgok_lo (ha.w 1 rfl) (by decide))) (fun v8 g9 q10 => ?_)
    obtain ⟨rfl, q10⟩ := q10
    replace q10 := q10.symm
    subst q10
    show Z l G _ d Q k n 35 _ (.int (zget h (some (a + 1)) x3) :: .int (zget h (some (a + 1)) x2) :: []) _
    refine z_icmp_ne (t := 60) dX0_twins_35 (by decide) (fun c11 => ?_) (fun c12 => ?_)
    · have hw13 := hw4.1 c11
      refine z_iinc (v := (x3 + 1)) (L' := [va_rf (some a), .int x1, .int x2, .int ((x3 + 1))]) dX0_twins_60 (by decide) rfl rfl rfl ?_
      refine z_goto (t := 14) dX0_twins_63 (by decide) ?_
      exact hw13
    · have hw14 := hw4.2 c12
      refine z_aloadn dX0_twins_38 rfl rfl ?_
      refine z_getRq (j := 2) zc0 dX0_twins_39 (ha.k 0 rfl) (ha.lt 0 rfl) (by decide) rfl w488 (ha.r 1 rfl) ?_
      refine z_iloadn dX0_twins_42 rfl rfl ?_
      refine z_callS (h := h) (S := []) (M := mX0_twins) (As := [va_rf (some (a + 2)), .int x2]) eX10_get w778 (Or.inr ⟨_, w1078⟩) dX0_twins_43 rfl (by omega) (Nat.le_of_ble_eq_true rfl) (c_X10_get l G h (some (a + 2)) x2 (zgok_lo (ha.w 2 rfl) (by decide))) (fun v15 g16 q17 => ?_)
      obtain ⟨rfl, q17⟩ := q17
      replace q17 := q17.symm
      subst q17
      show Z l G _ d Q k n 46 _ (.int (zget h (some (a + 2)) x2) :: []) _
      refine z_aloadn dX0_twins_46 rfl rfl ?_
      refine z_getRq (j := 2) zc0 dX0_twins_47 (ha.k 0 rfl) (ha.lt 0 rfl) (by decide) rfl w488 (ha.r 1 rfl) ?_
      refine z_iloadn dX0_twins_50 rfl rfl ?_
      refine z_callS (h := h) (S := [.int (zget h (some (a + 2)) x2)]) (M := mX0_twins) (As := [va_rf (some (a + 2)), .int x3]) eX10_get w778 (Or.inr ⟨_, w1078⟩) dX0_twins_51 rfl (by omega) (Nat.le_of_ble_eq_true rfl) (c_X10_get l G h (some (a + 2)) x3 (zgok_lo (ha.w 2 rfl) (by decide))) (fun v18 g19 q20 => ?_)
      obtain ⟨rfl, q20⟩ := q20
      replace q20 := q20.symm
      subst q20
      show Z l G _ d Q k n 54 _ (.int (zget h (some (a + 2)) x3) :: .int (zget h (some (a + 2)) x2) :: []) _
      refine z_icmp_ne (t := 60) dX0_twins_54 (by decide) (fun c21 => ?_) (fun c22 => ?_)
      · have hw23 := hw14.1 c21
        refine z_iinc (v := (x3 + 1)) (L' := [va_rf (some a), .int x1, .int x2, .int ((x3 + 1))]) dX0_twins_60 (by decide) rfl rfl rfl ?_
        refine z_goto (t := 14) dX0_twins_63 (by decide) ?_
        exact hw23
      · have hw24 := hw14.2 c22
        refine z_iinc (v := (x1 + 1)) (L' := [va_rf (some a), .int ((x1 + 1)), .int x2, .int x3]) dX0_twins_57 (by decide) rfl rfl rfl ?_
        refine z_iinc (v := (x3 + 1)) (L' := [va_rf (some a), .int ((x1 + 1)), .int x2, .int ((x3 + 1))]) dX0_twins_60 (by decide) rfl rfl rfl ?_
        refine z_goto (t := 14) dX0_twins_63 (by decide) ?_
        exact hw24

theorem kX0_twins {l : Launch} {G : zG} {d : Nat} {Q : Option Value → zH → Prop} {k n : Nat} {h : zH} (a : Nat) (hz : Z l G mX0_twins d Q k n 0 [va_rf (some a), zU, zU, zU] [] h) : CT l G YX0_twins d k n [va_rf (some a)] h Q :=
  CT.of (by decide +kernel) (fun t e => by have e2 : ((some .int) : Option FieldType) = some t := e; cases e2; exact ⟨by decide, by decide⟩) (by exact Nat.le_of_ble_eq_true rfl) (by exact hz)

theorem sX0_deepest_0 {l : Launch} {G : zG} {d : Nat} {Q : Option Value → zH → Prop} {k n : Nat} {h : zH} (a : Nat) (ha : lo0 h a) (hd9 : 2 ≤ d)
    (hw : Z l G mX0_deepest d Q k n 4 [va_rf (some a), .int ((-1)), .int 0] [] h) :
    Z l G mX0_deepest d Q k n 0 [va_rf (some a), zU, zU] [] h := by
  refine z_iconst (v := (-1)) dX0_deepest_0 (by decide) ?_
  refine z_istoren (L' := [va_rf (some a), .int ((-1)), zU]) dX0_deepest_1 rfl (by decide) rfl ?_
  refine z_iconst (v := 0) dX0_deepest_2 (by decide) ?_
  refine z_istoren (L' := [va_rf (some a), .int ((-1)), .int 0]) dX0_deepest_3 rfl (by decide) rfl ?_
  exact hw

theorem sX0_deepest_4 {l : Launch} {G : zG} {d : Nat} {Q : Option Value → zH → Prop} {k n : Nat} {h : zH} (a : Nat) (x1 : Int32) (x2 : Int32) (ha : lo0 h a) (hd9 : 2 ≤ d)
    (hw : (((zI h a 0).toInt ≤ x2.toInt → Q (some (.int x1)) h) ∧ (x2.toInt < (zI h a 0).toInt → ((x1 = (-1) → Z l G mX0_deepest d Q k n 4 [va_rf (some a), .int x2, .int ((x2 + 1))] [] h) ∧ (¬ x1 = (-1) → (((zget h (some (a + 3)) x2).toInt ≤ (zget h (some (a + 3)) x1).toInt → Z l G mX0_deepest d Q k n 4 [va_rf (some a), .int x1, .int ((x2 + 1))] [] h) ∧ ((zget h (some (a + 3)) x1).toInt < (zget h (some (a + 3)) x2).toInt → Z l G mX0_deepest d Q k n 4 [va_rf (some a), .int x2, .int ((x2 + 1))] [] h))))))) :
    Z l G mX0_deepest d Q k n 4 [va_rf (some a), .int x1, .int x2] [] h := by
  refine z_iloadn dX0_deepest_4 rfl rfl ?_
  refine z_aloadn dX0_deepest_5 rfl rfl ?_
  refine z_getI (j := 0) zc0 dX0_deepest_6 (ha.k 0 rfl) (ha.lt 0 rfl) (by decide) rfl w485 ?_
  refine z_icmp_ge (t := 44) dX0_deepest_9 (by decide) (fun c1 => ?_) (fun c2 => ?_)
  · have hw3 := hw.1 c1
    refine z_iloadn dX0_deepest_44 rfl rfl ?_
    exact z_ret (v := some (.int x1)) dX0_deepest_45 ⟨_, rfl, rfl⟩ rfl hw3
  · have hw4 := hw.2 c2
    refine z_iloadn dX0_deepest_12 rfl rfl ?_
    refine z_iconst (v := (-1)) dX0_deepest_13 (by decide) ?_
    refine z_icmp_eq (t := 36) dX0_deepest_14 (by decide) (fun c5 => ?_) (fun c6 => ?_)
    · have hw7 := hw4.1 c5
      refine z_iloadn dX0_deepest_36 rfl rfl ?_
      refine z_istoren (L' := [va_rf (some a), .int x2, .int x2]) dX0_deepest_37 rfl (by decide) rfl ?_
      refine z_iinc (v := (x2 + 1)) (L' := [va_rf (some a), .int x2, .int ((x2 + 1))]) dX0_deepest_38 (by decide) rfl rfl rfl ?_
      refine z_goto (t := 4) dX0_deepest_41 (by decide) ?_
      exact hw7
    · have hw8 := hw4.2 c6
      refine z_aloadn dX0_deepest_17 rfl rfl ?_
      refine z_getRq (j := 3) zc0 dX0_deepest_18 (ha.k 0 rfl) (ha.lt 0 rfl) (by decide) rfl w489 (ha.r 2 rfl) ?_
      refine z_iloadn dX0_deepest_21 rfl rfl ?_
      refine z_callS (h := h) (S := []) (M := mX0_deepest) (As := [va_rf (some (a + 3)), .int x2]) eX10_get w778 (Or.inr ⟨_, w1078⟩) dX0_deepest_22 rfl (by omega) (Nat.le_of_ble_eq_true rfl) (c_X10_get l G h (some (a + 3)) x2 (zgok_lo (ha.w 3 rfl) (by decide))) (fun v9 g10 q11 => ?_)
      obtain ⟨rfl, q11⟩ := q11
      replace q11 := q11.symm
      subst q11
      show Z l G _ d Q k n 25 _ (.int (zget h (some (a + 3)) x2) :: []) _
      refine z_aloadn dX0_deepest_25 rfl rfl ?_
      refine z_getRq (j := 3) zc0 dX0_deepest_26 (ha.k 0 rfl) (ha.lt 0 rfl) (by decide) rfl w489 (ha.r 2 rfl) ?_
      refine z_iloadn dX0_deepest_29 rfl rfl ?_
      refine z_callS (h := h) (S := [.int (zget h (some (a + 3)) x2)]) (M := mX0_deepest) (As := [va_rf (some (a + 3)), .int x1]) eX10_get w778 (Or.inr ⟨_, w1078⟩) dX0_deepest_30 rfl (by omega) (Nat.le_of_ble_eq_true rfl) (c_X10_get l G h (some (a + 3)) x1 (zgok_lo (ha.w 3 rfl) (by decide))) (fun v12 g13 q14 => ?_)
      obtain ⟨rfl, q14⟩ := q14
      replace q14 := q14.symm
      subst q14
      show Z l G _ d Q k n 33 _ (.int (zget h (some (a + 3)) x1) :: .int (zget h (some (a + 3)) x2) :: []) _
      refine z_icmp_le (t := 38) dX0_deepest_33 (by decide) (fun c15 => ?_) (fun c16 => ?_)
      · have hw17 := hw8.1 c15
        refine z_iinc (v := (x2 + 1)) (L' := [va_rf (some a), .int x1, .int ((x2 + 1))]) dX0_deepest_38 (by decide) rfl rfl rfl ?_
        refine z_goto (t := 4) dX0_deepest_41 (by decide) ?_
        exact hw17
      · have hw18 := hw8.2 c16
        refine z_iloadn dX0_deepest_36 rfl rfl ?_
        refine z_istoren (L' := [va_rf (some a), .int x2, .int x2]) dX0_deepest_37 rfl (by decide) rfl ?_
        refine z_iinc (v := (x2 + 1)) (L' := [va_rf (some a), .int x2, .int ((x2 + 1))]) dX0_deepest_38 (by decide) rfl rfl rfl ?_
        refine z_goto (t := 4) dX0_deepest_41 (by decide) ?_
        exact hw18

theorem kX0_deepest {l : Launch} {G : zG} {d : Nat} {Q : Option Value → zH → Prop} {k n : Nat} {h : zH} (a : Nat) (hz : Z l G mX0_deepest d Q k n 0 [va_rf (some a), zU, zU] [] h) : CT l G YX0_deepest d k n [va_rf (some a)] h Q :=
  CT.of (by decide +kernel) (fun t e => by have e2 : ((some .int) : Option FieldType) = some t := e; cases e2; exact ⟨by decide, by decide⟩) (by exact Nat.le_of_ble_eq_true rfl) (by exact hz)

theorem sX0_madeBy_0 {l : Launch} {G : zG} {d : Nat} {Q : Option Value → zH → Prop} {k n : Nat} {h : zH} (a : Nat) (x1 : Int32) (ha : lo0 h a) (hd9 : 2 ≤ d)
    (hw : Z l G mX0_madeBy d Q k n 4 [va_rf (some a), .int x1, .int 0, .int 0] [] h) :
    Z l G mX0_madeBy d Q k n 0 [va_rf (some a), .int x1, zU, zU] [] h := by
  refine z_iconst (v := 0) dX0_madeBy_0 (by decide) ?_
  refine z_istoren (L' := [va_rf (some a), .int x1, .int 0, zU]) dX0_madeBy_1 rfl (by decide) rfl ?_
  refine z_iconst (v := 0) dX0_madeBy_2 (by decide) ?_
  refine z_istoren (L' := [va_rf (some a), .int x1, .int 0, .int 0]) dX0_madeBy_3 rfl (by decide) rfl ?_
  exact hw

theorem sX0_madeBy_4 {l : Launch} {G : zG} {d : Nat} {Q : Option Value → zH → Prop} {k n : Nat} {h : zH} (a : Nat) (x1 : Int32) (x2 : Int32) (x3 : Int32) (ha : lo0 h a) (hd9 : 2 ≤ d)
    (hw : (((zI h a 0).toInt ≤ x3.toInt → Q (some (.int x2)) h) ∧ (x3.toInt < (zI h a 0).toInt → ((¬ zget h (some (a + 5)) x3 = x1 → Z l G mX0_madeBy d Q k n 4 [va_rf (some a), .int x1, .int x2, .int ((x3 + 1))] [] h) ∧ (zget h (some (a + 5)) x3 = x1 → Z l G mX0_madeBy d Q k n 4 [va_rf (some a), .int x1, .int ((x2 + 1)), .int ((x3 + 1))] [] h))))) :
    Z l G mX0_madeBy d Q k n 4 [va_rf (some a), .int x1, .int x2, .int x3] [] h := by
  refine z_iloadn dX0_madeBy_4 rfl rfl ?_
  refine z_aloadn dX0_madeBy_5 rfl rfl ?_
  refine z_getI (j := 0) zc0 dX0_madeBy_6 (ha.k 0 rfl) (ha.lt 0 rfl) (by decide) rfl w485 ?_
  refine z_icmp_ge (t := 33) dX0_madeBy_9 (by decide) (fun c1 => ?_) (fun c2 => ?_)
  · have hw3 := hw.1 c1
    refine z_iloadn dX0_madeBy_33 rfl rfl ?_
    exact z_ret (v := some (.int x2)) dX0_madeBy_34 ⟨_, rfl, rfl⟩ rfl hw3
  · have hw4 := hw.2 c2
    refine z_aloadn dX0_madeBy_12 rfl rfl ?_
    refine z_getRq (j := 5) zc0 dX0_madeBy_13 (ha.k 0 rfl) (ha.lt 0 rfl) (by decide) rfl w491 (ha.r 4 rfl) ?_
    refine z_iloadn dX0_madeBy_16 rfl rfl ?_
    refine z_callS (h := h) (S := []) (M := mX0_madeBy) (As := [va_rf (some (a + 5)), .int x3]) eX10_get w778 (Or.inr ⟨_, w1078⟩) dX0_madeBy_17 rfl (by omega) (Nat.le_of_ble_eq_true rfl) (c_X10_get l G h (some (a + 5)) x3 (zgok_lo (ha.w 5 rfl) (by decide))) (fun v5 g6 q7 => ?_)
    obtain ⟨rfl, q7⟩ := q7
    replace q7 := q7.symm
    subst q7
    show Z l G _ d Q k n 20 _ (.int (zget h (some (a + 5)) x3) :: []) _
    refine z_iloadn dX0_madeBy_20 rfl rfl ?_
    refine z_icmp_ne (t := 27) dX0_madeBy_21 (by decide) (fun c8 => ?_) (fun c9 => ?_)
    · have hw10 := hw4.1 c8
      refine z_iinc (v := (x3 + 1)) (L' := [va_rf (some a), .int x1, .int x2, .int ((x3 + 1))]) dX0_madeBy_27 (by decide) rfl rfl rfl ?_
      refine z_goto (t := 4) dX0_madeBy_30 (by decide) ?_
      exact hw10
    · have hw11 := hw4.2 c9
      refine z_iinc (v := (x2 + 1)) (L' := [va_rf (some a), .int x1, .int ((x2 + 1)), .int x3]) dX0_madeBy_24 (by decide) rfl rfl rfl ?_
      refine z_iinc (v := (x3 + 1)) (L' := [va_rf (some a), .int x1, .int ((x2 + 1)), .int ((x3 + 1))]) dX0_madeBy_27 (by decide) rfl rfl rfl ?_
      refine z_goto (t := 4) dX0_madeBy_30 (by decide) ?_
      exact hw11

theorem kX0_madeBy {l : Launch} {G : zG} {d : Nat} {Q : Option Value → zH → Prop} {k n : Nat} {h : zH} (a : Nat) (x1 : Int32) (hz : Z l G mX0_madeBy d Q k n 0 [va_rf (some a), .int x1, zU, zU] [] h) : CT l G YX0_madeBy d k n [va_rf (some a), .int x1] h Q :=
  CT.of (by decide +kernel) (fun t e => by have e2 : ((some .int) : Option FieldType) = some t := e; cases e2; exact ⟨by decide, by decide⟩) (by exact Nat.le_of_ble_eq_true rfl) (by exact hz)

theorem sX0_taxOf_0 {l : Launch} {G : zG} {d : Nat} {Q : Option Value → zH → Prop} {k n : Nat} {h : zH} (a : Nat) (a1 : Nat) (x2 : Int32) (x3 : Int32) (ha : lo0 h a) (ha1 : lo1 h a1) (hd9 : 4 ≤ d)
    (hw : Z l G mX0_taxOf d Q k n 6 [va_rf (some a), va_rf (some a1), .int x2, .int x3, .int 0, .int 0] [] h) :
    Z l G mX0_taxOf d Q k n 0 [va_rf (some a), va_rf (some a1), .int x2, .int x3, zU, zU] [] h := by
  refine z_iconst (v := 0) dX0_taxOf_0 (by decide) ?_
  refine z_istore (L' := [va_rf (some a), va_rf (some a1), .int x2, .int x3, .int 0, zU]) dX0_taxOf_1 (by decide) rfl ?_
  refine z_iconst (v := 0) dX0_taxOf_3 (by decide) ?_
  refine z_istore (L' := [va_rf (some a), va_rf (some a1), .int x2, .int x3, .int 0, .int 0]) dX0_taxOf_4 (by decide) rfl ?_
  exact hw

theorem sX0_taxOf_6 {l : Launch} {G : zG} {d : Nat} {Q : Option Value → zH → Prop} {k n : Nat} {h : zH} (a : Nat) (a1 : Nat) (x2 : Int32) (x3 : Int32) (x4 : Int32) (x5 : Int32) (ha : lo0 h a) (ha1 : lo1 h a1) (hd9 : 4 ≤ d)
    (hw : (((zI h a 0).toInt ≤ x5.toInt → Q (some (.int x4)) h) ∧ (x5.toInt < (zI h a 0).toInt → ((x3 = (-1) → (∃ P9, CTi l G YX0_dueFor 3 [va_rf (some a), va_rf (some a1), .int x2, .int x5] h P9 ∧ ∀ (y14 : Int32) (I12 : Nat → Nat → Int32), P9 y14 I12 → Z l G mX0_taxOf d Q k n 6 [va_rf (some a), va_rf (some a1), .int x2, .int x3, .int ((x4 + y14)), .int ((x5 + 1))] [] (I12, h.2))) ∧ (¬ x3 = (-1) → ((¬ zget h (some (a + 5)) x5 = x3 → Z l G mX0_taxOf d Q k n 6 [va_rf (some a), va_rf (some a1), .int x2, .int x3, .int x4, .int ((x5 + 1))] [] h) ∧ (zget h (some (a + 5)) x5 = x3 → (∃ P25, CTi l G YX0_dueFor 3 [va_rf (some a), va_rf (some a1), .int x2, .int x5] h P25 ∧ ∀ (y30 : Int32) (I28 : Nat → Nat → Int32), P25 y30 I28 → Z l G mX0_taxOf d Q k n 6 [va_rf (some a), va_rf (some a1), .int x2, .int x3, .int ((x4 + y30)), .int ((x5 + 1))] [] (I28, h.2))))))))) :
    Z l G mX0_taxOf d Q k n 6 [va_rf (some a), va_rf (some a1), .int x2, .int x3, .int x4, .int x5] [] h := by
  refine z_iload dX0_taxOf_6 rfl ?_
  refine z_aloadn dX0_taxOf_8 rfl rfl ?_
  refine z_getI (j := 0) zc0 dX0_taxOf_9 (ha.k 0 rfl) (ha.lt 0 rfl) (by decide) rfl w485 ?_
  refine z_icmp_ge (t := 52) dX0_taxOf_12 (by decide) (fun c1 => ?_) (fun c2 => ?_)
  · have hw3 := hw.1 c1
    refine z_iload dX0_taxOf_52 rfl ?_
    exact z_ret (v := some (.int x4)) dX0_taxOf_54 ⟨_, rfl, rfl⟩ rfl hw3
  · have hw4 := hw.2 c2
    refine z_iloadn dX0_taxOf_15 rfl rfl ?_
    refine z_iconst (v := (-1)) dX0_taxOf_16 (by decide) ?_
    refine z_icmp_eq (t := 33) dX0_taxOf_17 (by decide) (fun c5 => ?_) (fun c6 => ?_)
    · have hw7 := hw4.1 c5
      refine z_iload dX0_taxOf_33 rfl ?_
      refine z_aloadn dX0_taxOf_35 rfl rfl ?_
      refine z_aloadn dX0_taxOf_36 rfl rfl ?_
      refine z_iloadn dX0_taxOf_37 rfl rfl ?_
      refine z_iload dX0_taxOf_38 rfl ?_
      obtain ⟨P9, ct10, hw11⟩ := hw7
      refine z_callV (h := h) (S := [.int x4]) (a := a) (M := mX0_taxOf) (As := [va_rf (some a1), .int x2, .int x5]) zc0 rfl eX0_dueFor w1211 w63 (Or.inl w1209) dX0_taxOf_40 (ha.k 0 rfl) (ha.lt 0 rfl) rfl (by omega) (Nat.le_of_ble_eq_true rfl) ct10 (fun v16 g17 q13 => ?_)
      obtain ⟨y14, I12, rfl, rfl, q13⟩ := q13
      have hw15 := hw11 y14 I12 q13
      show Z l G _ d Q k n 43 _ (.int y14 :: .int x4 :: []) _
      refine z_iadd dX0_taxOf_43 ?_
      refine z_istore (L' := [va_rf (some a), va_rf (some a1), .int x2, .int x3, .int ((x4 + y14)), .int x5]) dX0_taxOf_44 (by decide) rfl ?_
      refine z_iinc (v := (x5 + 1)) (L' := [va_rf (some a), va_rf (some a1), .int x2, .int x3, .int ((x4 + y14)), .int ((x5 + 1))]) dX0_taxOf_46 (by decide) rfl rfl rfl ?_
      refine z_goto (t := 6) dX0_taxOf_49 (by decide) ?_
      exact hw15
    · have hw8 := hw4.2 c6
      refine z_aloadn dX0_taxOf_20 rfl rfl ?_
      refine z_getRq (j := 5) zc0 dX0_taxOf_21 (ha.k 0 rfl) (ha.lt 0 rfl) (by decide) rfl w491 (ha.r 4 rfl) ?_
      refine z_iload dX0_taxOf_24 rfl ?_
      refine z_callS (h := h) (S := []) (M := mX0_taxOf) (As := [va_rf (some (a + 5)), .int x5]) eX10_get w778 (Or.inr ⟨_, w1078⟩) dX0_taxOf_26 rfl (by omega) (Nat.le_of_ble_eq_true rfl) (c_X10_get l G h (some (a + 5)) x5 (zgok_lo (ha.w 5 rfl) (by decide))) (fun v18 g19 q20 => ?_)
      obtain ⟨rfl, q20⟩ := q20
      replace q20 := q20.symm
      subst q20
      show Z l G _ d Q k n 29 _ (.int (zget h (some (a + 5)) x5) :: []) _
      refine z_iloadn dX0_taxOf_29 rfl rfl ?_
      refine z_icmp_ne (t := 46) dX0_taxOf_30 (by decide) (fun c21 => ?_) (fun c22 => ?_)
      · have hw23 := hw8.1 c21
        refine z_iinc (v := (x5 + 1)) (L' := [va_rf (some a), va_rf (some a1), .int x2, .int x3, .int x4, .int ((x5 + 1))]) dX0_taxOf_46 (by decide) rfl rfl rfl ?_
        refine z_goto (t := 6) dX0_taxOf_49 (by decide) ?_
        exact hw23
      · have hw24 := hw8.2 c22
        refine z_iload dX0_taxOf_33 rfl ?_
        refine z_aloadn dX0_taxOf_35 rfl rfl ?_
        refine z_aloadn dX0_taxOf_36 rfl rfl ?_
        refine z_iloadn dX0_taxOf_37 rfl rfl ?_
        refine z_iload dX0_taxOf_38 rfl ?_
        obtain ⟨P25, ct26, hw27⟩ := hw24
        refine z_callV (h := h) (S := [.int x4]) (a := a) (M := mX0_taxOf) (As := [va_rf (some a1), .int x2, .int x5]) zc0 rfl eX0_dueFor w1211 w63 (Or.inl w1209) dX0_taxOf_40 (ha.k 0 rfl) (ha.lt 0 rfl) rfl (by omega) (Nat.le_of_ble_eq_true rfl) ct26 (fun v32 g33 q29 => ?_)
        obtain ⟨y30, I28, rfl, rfl, q29⟩ := q29
        have hw31 := hw27 y30 I28 q29
        show Z l G _ d Q k n 43 _ (.int y30 :: .int x4 :: []) _
        refine z_iadd dX0_taxOf_43 ?_
        refine z_istore (L' := [va_rf (some a), va_rf (some a1), .int x2, .int x3, .int ((x4 + y30)), .int x5]) dX0_taxOf_44 (by decide) rfl ?_
        refine z_iinc (v := (x5 + 1)) (L' := [va_rf (some a), va_rf (some a1), .int x2, .int x3, .int ((x4 + y30)), .int ((x5 + 1))]) dX0_taxOf_46 (by decide) rfl rfl rfl ?_
        refine z_goto (t := 6) dX0_taxOf_49 (by decide) ?_
        exact hw31

theorem kX0_taxOf {l : Launch} {G : zG} {d : Nat} {Q : Option Value → zH → Prop} {k n : Nat} {h : zH} (a : Nat) (a1 : Nat) (x2 : Int32) (x3 : Int32) (hz : Z l G mX0_taxOf d Q k n 0 [va_rf (some a), va_rf (some a1), .int x2, .int x3, zU, zU] [] h) : CT l G YX0_taxOf d k n [va_rf (some a), va_rf (some a1), .int x2, .int x3] h Q :=
  CT.of (by decide +kernel) (fun t e => by have e2 : ((some .int) : Option FieldType) = some t := e; cases e2; exact ⟨by decide, by decide⟩) (by exact Nat.le_of_ble_eq_true rfl) (by exact hz)

theorem sX0_dueFor_0 {l : Launch} {G : zG} {d : Nat} {Q : Option Value → zH → Prop} {k n : Nat} {h : zH} (a : Nat) (a1 : Nat) (x2 : Int32) (x3 : Int32) (ha : lo0 h a) (ha1 : lo1 h a1) (hd9 : 3 ≤ d)
    (hw : ((¬ x2 = 0 → ((¬ x2 = 1 → Q (some (.int (zget h (some (a + 3)) x3))) h) ∧ (x2 = 1 → ((zmem h a1 (zget h (some (a + 5)) x3) = none → Q (some (.int (zget h (some (a + 3)) x3))) h) ∧ (∀ b19, zmem h a1 (zget h (some (a + 5)) x3) = some b19 → (lo2 h b19 ∧ Q (some (.int (zI h b19 1))) h)))))) ∧ (x2 = 0 → Q (some (.int 1)) h))) :
    Z l G mX0_dueFor d Q k n 0 [va_rf (some a), va_rf (some a1), .int x2, .int x3, zU] [] h := by
  refine z_iloadn dX0_dueFor_0 rfl rfl ?_
  refine z_if_ne (t := 6) dX0_dueFor_1 (by decide) (fun c1 => ?_) (fun c2 => ?_)
  · have hw3 := hw.1 c1
    refine z_aloadn dX0_dueFor_6 rfl rfl ?_
    refine z_aloadn dX0_dueFor_7 rfl rfl ?_
    refine z_getRq (j := 5) zc0 dX0_dueFor_8 (ha.k 0 rfl) (ha.lt 0 rfl) (by decide) rfl w491 (ha.r 4 rfl) ?_
    refine z_iloadn dX0_dueFor_11 rfl rfl ?_
    refine z_callS (h := h) (S := [va_rf (some a1)]) (M := mX0_dueFor) (As := [va_rf (some (a + 5)), .int x3]) eX10_get w778 (Or.inr ⟨_, w1078⟩) dX0_dueFor_12 rfl (by omega) (Nat.le_of_ble_eq_true rfl) (c_X10_get l G h (some (a + 5)) x3 (zgok_lo (ha.w 5 rfl) (by decide))) (fun v5 g6 q7 => ?_)
    obtain ⟨rfl, q7⟩ := q7
    replace q7 := q7.symm
    subst q7
    show Z l G _ d Q k n 15 _ (.int (zget h (some (a + 5)) x3) :: va_rf (some a1) :: []) _
    refine z_callV (h := h) (S := []) (a := a1) (M := mX0_dueFor) (As := [.int (zget h (some (a + 5)) x3)]) zc1 rfl eX1_member w1011 w34 (Or.inr ⟨_, w1083⟩) dX0_dueFor_15 (ha1.k 0 rfl) (ha1.lt 0 rfl) rfl (by omega) (Nat.le_of_ble_eq_true rfl) (c_X1_member l G h a1 (zget h (some (a + 5)) x3) ha1) (fun v8 g9 q10 => ?_)
    obtain ⟨rfl, q10⟩ := q10
    replace q10 := q10.symm
    subst q10
    show Z l G _ d Q k n 18 _ (va_rf (zmem h a1 (zget h (some (a + 5)) x3)) :: []) _
    refine z_astore (L' := [va_rf (some a), va_rf (some a1), .int x2, .int x3, va_rf (zmem h a1 (zget h (some (a + 5)) x3))]) dX0_dueFor_18 (by decide) rfl ?_
    refine z_iloadn dX0_dueFor_20 rfl rfl ?_
    refine z_iconst (v := 1) dX0_dueFor_21 (by decide) ?_
    refine z_icmp_ne (t := 36) dX0_dueFor_22 (by decide) (fun c11 => ?_) (fun c12 => ?_)
    · have hw13 := hw3.1 c11
      refine z_aloadn dX0_dueFor_36 rfl rfl ?_
      refine z_getRq (j := 3) zc0 dX0_dueFor_37 (ha.k 0 rfl) (ha.lt 0 rfl) (by decide) rfl w489 (ha.r 2 rfl) ?_
      refine z_iloadn dX0_dueFor_40 rfl rfl ?_
      refine z_callS (h := h) (S := []) (M := mX0_dueFor) (As := [va_rf (some (a + 3)), .int x3]) eX10_get w778 (Or.inr ⟨_, w1078⟩) dX0_dueFor_41 rfl (by omega) (Nat.le_of_ble_eq_true rfl) (c_X10_get l G h (some (a + 3)) x3 (zgok_lo (ha.w 3 rfl) (by decide))) (fun v15 g16 q17 => ?_)
      obtain ⟨rfl, q17⟩ := q17
      replace q17 := q17.symm
      subst q17
      show Z l G _ d Q k n 44 _ (.int (zget h (some (a + 3)) x3) :: []) _
      exact z_ret (v := some (.int (zget h (some (a + 3)) x3))) dX0_dueFor_44 ⟨_, rfl, rfl⟩ rfl hw13
    · have hw14 := hw3.2 c12
      refine z_aload dX0_dueFor_25 rfl ?_
      refine z_ifnull (t := 36) dX0_dueFor_27 (by decide) (fun c18 => ?_) (fun b19 c18 => ?_)
      · have hw20 := hw14.1 c18
        refine z_aloadn dX0_dueFor_36 rfl rfl ?_
        refine z_getRq (j := 3) zc0 dX0_dueFor_37 (ha.k 0 rfl) (ha.lt 0 rfl) (by decide) rfl w489 (ha.r 2 rfl) ?_
        refine z_iloadn dX0_dueFor_40 rfl rfl ?_
        refine z_callS (h := h) (S := []) (M := mX0_dueFor) (As := [va_rf (some (a + 3)), .int x3]) eX10_get w778 (Or.inr ⟨_, w1078⟩) dX0_dueFor_41 rfl (by omega) (Nat.le_of_ble_eq_true rfl) (c_X10_get l G h (some (a + 3)) x3 (zgok_lo (ha.w 3 rfl) (by decide))) (fun v22 g23 q24 => ?_)
        obtain ⟨rfl, q24⟩ := q24
        replace q24 := q24.symm
        subst q24
        show Z l G _ d Q k n 44 _ (.int (zget h (some (a + 3)) x3) :: []) _
        exact z_ret (v := some (.int (zget h (some (a + 3)) x3))) dX0_dueFor_44 ⟨_, rfl, rfl⟩ rfl hw20
      · have hw21 := hw14.2 b19 c18
        refine z_aload dX0_dueFor_30 rfl ?_
        refine z_soP [] c18 ?_
        obtain ⟨ho25, hw26⟩ := hw21
        refine z_getIN (j := 1) zc2 dX0_dueFor_32 (ho25.k 0 rfl) (ho25.lt 0 rfl) (by decide) rfl w227 ?_
        exact z_ret (v := some (.int (zI h b19 1))) dX0_dueFor_35 ⟨_, rfl, rfl⟩ rfl hw26
  · have hw4 := hw.2 c2
    refine z_iconst (v := 1) dX0_dueFor_4 (by decide) ?_
    exact z_ret (v := some (.int 1)) dX0_dueFor_5 ⟨_, rfl, rfl⟩ rfl hw4

theorem kX0_dueFor {l : Launch} {G : zG} {d : Nat} {Q : Option Value → zH → Prop} {k n : Nat} {h : zH} (a : Nat) (a1 : Nat) (x2 : Int32) (x3 : Int32) (hz : Z l G mX0_dueFor d Q k n 0 [va_rf (some a), va_rf (some a1), .int x2, .int x3, zU] [] h) : CT l G YX0_dueFor d k n [va_rf (some a), va_rf (some a1), .int x2, .int x3] h Q :=
  CT.of (by decide +kernel) (fun t e => by have e2 : ((some .int) : Option FieldType) = some t := e; cases e2; exact ⟨by decide, by decide⟩) (by exact Nat.le_of_ble_eq_true rfl) (by exact hz)

theorem sX0_shareOf_0 {l : Launch} {G : zG} {d : Nat} {Q : Option Value → zH → Prop} {k n : Nat} {h : zH} (a : Nat) (x1 : Int32) (ha : lo0 h a) (hd9 : 2 ≤ d)
    (hw : Z l G mX0_shareOf d Q k n 4 [va_rf (some a), .int x1, .int 0, .int 0, zU] [] h) :
    Z l G mX0_shareOf d Q k n 0 [va_rf (some a), .int x1, zU, zU, zU] [] h := by
  refine z_iconst (v := 0) dX0_shareOf_0 (by decide) ?_
  refine z_istoren (L' := [va_rf (some a), .int x1, .int 0, zU, zU]) dX0_shareOf_1 rfl (by decide) rfl ?_
  refine z_iconst (v := 0) dX0_shareOf_2 (by decide) ?_
  refine z_istoren (L' := [va_rf (some a), .int x1, .int 0, .int 0, zU]) dX0_shareOf_3 rfl (by decide) rfl ?_
  exact hw

theorem sX0_shareOf_4 {l : Launch} {G : zG} {d : Nat} {Q : Option Value → zH → Prop} {k n : Nat} {h : zH} (a : Nat) (x1 : Int32) (x2 : Int32) (x3 : Int32) (u4 : Value) (ha : lo0 h a) (hd9 : 2 ≤ d)
    (hw : (((zI h a 0).toInt ≤ x3.toInt → Q (some (.int x2)) h) ∧ (x3.toInt < (zI h a 0).toInt → ((¬ (((zget h (some (a + 6)) x3) >>> (x1 &&& 31)) &&& 1) = 1 → Z l G mX0_shareOf d Q k n 4 [va_rf (some a), .int x1, .int x2, .int ((x3 + 1)), .int (zget h (some (a + 6)) x3)] [] h) ∧ ((((zget h (some (a + 6)) x3) >>> (x1 &&& 31)) &&& 1) = 1 → (∃ P12, CTi l G YJ6_bitCount_0f7a4 1 [.int (zget h (some (a + 6)) x3)] h P12 ∧ ∀ (y17 : Int32) (I15 : Nat → Nat → Int32), P12 y17 I15 → (¬ (imax (1 : Int32) y17) = 0 ∧ Z l G mX0_shareOf d Q k n 4 [va_rf (some a), .int x1, .int ((x2 + ((60 : Int32) / (imax (1 : Int32) y17)))), .int ((x3 + 1)), .int (zget h (some (a + 6)) x3)] [] (I15, h.2)))))))) :
    Z l G mX0_shareOf d Q k n 4 [va_rf (some a), .int x1, .int x2, .int x3, u4] [] h := by
  refine z_iloadn dX0_shareOf_4 rfl rfl ?_
  refine z_aloadn dX0_shareOf_5 rfl rfl ?_
  refine z_getI (j := 0) zc0 dX0_shareOf_6 (ha.k 0 rfl) (ha.lt 0 rfl) (by decide) rfl w485 ?_
  refine z_icmp_ge (t := 53) dX0_shareOf_9 (by decide) (fun c1 => ?_) (fun c2 => ?_)
  · have hw3 := hw.1 c1
    refine z_iloadn dX0_shareOf_53 rfl rfl ?_
    exact z_ret (v := some (.int x2)) dX0_shareOf_54 ⟨_, rfl, rfl⟩ rfl hw3
  · have hw4 := hw.2 c2
    refine z_aloadn dX0_shareOf_12 rfl rfl ?_
    refine z_getRq (j := 6) zc0 dX0_shareOf_13 (ha.k 0 rfl) (ha.lt 0 rfl) (by decide) rfl w492 (ha.r 5 rfl) ?_
    refine z_iloadn dX0_shareOf_16 rfl rfl ?_
    refine z_callS (h := h) (S := []) (M := mX0_shareOf) (As := [va_rf (some (a + 6)), .int x3]) eX10_get w778 (Or.inr ⟨_, w1078⟩) dX0_shareOf_17 rfl (by omega) (Nat.le_of_ble_eq_true rfl) (c_X10_get l G h (some (a + 6)) x3 (zgok_lo (ha.w 6 rfl) (by decide))) (fun v5 g6 q7 => ?_)
    obtain ⟨rfl, q7⟩ := q7
    replace q7 := q7.symm
    subst q7
    show Z l G _ d Q k n 20 _ (.int (zget h (some (a + 6)) x3) :: []) _
    refine z_istore (L' := [va_rf (some a), .int x1, .int x2, .int x3, .int (zget h (some (a + 6)) x3)]) dX0_shareOf_20 (by decide) rfl ?_
    refine z_iload dX0_shareOf_22 rfl ?_
    refine z_iloadn dX0_shareOf_24 rfl rfl ?_
    refine z_ishr dX0_shareOf_25 ?_
    refine z_iconst (v := 1) dX0_shareOf_26 (by decide) ?_
    refine z_iand dX0_shareOf_27 ?_
    refine z_iconst (v := 1) dX0_shareOf_28 (by decide) ?_
    refine z_icmp_ne (t := 47) dX0_shareOf_29 (by decide) (fun c8 => ?_) (fun c9 => ?_)
    · have hw10 := hw4.1 c8
      refine z_iinc (v := (x3 + 1)) (L' := [va_rf (some a), .int x1, .int x2, .int ((x3 + 1)), .int (zget h (some (a + 6)) x3)]) dX0_shareOf_47 (by decide) rfl rfl rfl ?_
      refine z_goto (t := 4) dX0_shareOf_50 (by decide) ?_
      exact hw10
    · have hw11 := hw4.2 c9
      refine z_iloadn dX0_shareOf_32 rfl rfl ?_
      refine z_bipush (v := 60) dX0_shareOf_33 (by decide) ?_
      refine z_iconst (v := 1) dX0_shareOf_35 (by decide) ?_
      refine z_iload dX0_shareOf_36 rfl ?_
      obtain ⟨P12, ct13, hw14⟩ := hw11
      refine z_callS (h := h) (S := [.int 1, .int 60, .int x2]) (M := mX0_shareOf) (As := [.int (zget h (some (a + 6)) x3)]) eJ6_bitCount_0f7a4 w1194 (Or.inl w1222) dX0_shareOf_38 rfl (by omega) (Nat.le_of_ble_eq_true rfl) ct13 (fun v19 g20 q16 => ?_)
      obtain ⟨y17, I15, rfl, rfl, q16⟩ := q16
      have hw18 := hw14 y17 I15 q16
      show Z l G _ d Q k n 41 _ (.int y17 :: .int 1 :: .int 60 :: .int x2 :: []) _
      refine z_max dX0_shareOf_41 w1107 w906 w186 w907 (by omega) (Nat.le_of_ble_eq_true rfl) ?_
      show Z l G _ d Q k n 44 _ (.int ((imax (1 : Int32) y17)) :: .int 60 :: .int x2 :: []) _
      have hw21 := hw18.2
      refine z_idiv dX0_shareOf_44 hw18.1 ?_
      refine z_iadd dX0_shareOf_45 ?_
      refine z_istoren (L' := [va_rf (some a), .int x1, .int ((x2 + ((60 : Int32) / (imax (1 : Int32) y17)))), .int x3, .int (zget h (some (a + 6)) x3)]) dX0_shareOf_46 rfl (by decide) rfl ?_
      refine z_iinc (v := (x3 + 1)) (L' := [va_rf (some a), .int x1, .int ((x2 + ((60 : Int32) / (imax (1 : Int32) y17)))), .int ((x3 + 1)), .int (zget h (some (a + 6)) x3)]) dX0_shareOf_47 (by decide) rfl rfl rfl ?_
      refine z_goto (t := 4) dX0_shareOf_50 (by decide) ?_
      exact hw21

theorem kX0_shareOf {l : Launch} {G : zG} {d : Nat} {Q : Option Value → zH → Prop} {k n : Nat} {h : zH} (a : Nat) (x1 : Int32) (hz : Z l G mX0_shareOf d Q k n 0 [va_rf (some a), .int x1, zU, zU, zU] [] h) : CT l G YX0_shareOf d k n [va_rf (some a), .int x1] h Q :=
  CT.of (by decide +kernel) (fun t e => by have e2 : ((some .int) : Option FieldType) = some t := e; cases e2; exact ⟨by decide, by decide⟩) (by exact Nat.le_of_ble_eq_true rfl) (by exact hz)

theorem sX0_showTops_0 {l : Launch} {G : zG} {d : Nat} {Q : Option Value → zH → Prop} {k n : Nat} {h : zH} (a : Nat) (r1 : Option Nat) (ha : lo0 h a) (hd9 : 2 ≤ d)
    (hw : Z l G mX0_showTops d Q k n 2 [va_rf (some a), va_rf r1, .int 0, zU] [] h) :
    Z l G mX0_showTops d Q k n 0 [va_rf (some a), va_rf r1, zU, zU] [] h := by
  refine z_iconst (v := 0) dX0_showTops_0 (by decide) ?_
  refine z_istoren (L' := [va_rf (some a), va_rf r1, .int 0, zU]) dX0_showTops_1 rfl (by decide) ((zs1_rf (j := 1) rfl).trans rfl) ?_
  exact hw

theorem sX0_showTops_2 {l : Launch} {G : zG} {d : Nat} {Q : Option Value → zH → Prop} {k n : Nat} {h : zH} (a : Nat) (r1 : Option Nat) (x2 : Int32) (u3 : Value) (ha : lo0 h a) (hd9 : 2 ≤ d)
    (hw : (((64 : Int) ≤ x2.toInt → Q none h) ∧ (x2.toInt < (64 : Int) → (0 ≤ x2.toInt ∧ x2.toInt < ((64 : Nat) : Int) ∧ ((¬ zI h (a + 7) (zix x2) = (-1) → ((zpok h r1) ∧ (∀ I17 : Nat → Nat → Int32, I17 = (zput h r1 x2 (zget h (some (a + 2)) (zI h (a + 7) (zix x2)))).1 → Z l G mX0_showTops d Q k n 2 [va_rf (some a), va_rf r1, .int ((x2 + 1)), .int (zI h (a + 7) (zix x2))] [] (I17, h.2)))) ∧ (zI h (a + 7) (zix x2) = (-1) → ((zpok h r1) ∧ (∀ I24 : Nat → Nat → Int32, I24 = (zput h r1 x2 (-1 : Int32)).1 → Z l G mX0_showTops d Q k n 2 [va_rf (some a), va_rf r1, .int ((x2 + 1)), .int (zI h (a + 7) (zix x2))] [] (I24, h.2))))))))) :
    Z l G mX0_showTops d Q k n 2 [va_rf (some a), va_rf r1, .int x2, u3] [] h := by
  refine z_iloadn dX0_showTops_2 rfl rfl ?_
  refine z_aloadn dX0_showTops_3 rfl rfl ?_
  refine z_getRq (j := 7) zc0 dX0_showTops_4 (ha.k 0 rfl) (ha.lt 0 rfl) (by decide) rfl w493 (ha.r 6 rfl) ?_
  refine z_alen (v := 64) dX0_showTops_7 (ha.w 7 rfl).r rfl ?_
  refine z_icmp_ge (t := 46) dX0_showTops_8 (by decide) (fun c1 => ?_) (fun c2 => ?_)
  · have hw3 := hw.1 c1
    exact z_ret (v := none) dX0_showTops_46 rfl rfl hw3
  · have hw4 := hw.2 c2
    refine z_aloadn dX0_showTops_11 rfl rfl ?_
    refine z_getRq (j := 7) zc0 dX0_showTops_12 (ha.k 0 rfl) (ha.lt 0 rfl) (by decide) rfl w493 (ha.r 6 rfl) ?_
    refine z_iloadn dX0_showTops_15 rfl rfl ?_
    have hw5 := hw4.2.2
    refine z_iald (N := 64) dX0_showTops_16 (ha.w 7 rfl).r hw4.1 hw4.2.1 ?_
    refine z_istoren (L' := [va_rf (some a), va_rf r1, .int x2, .int (zI h (a + 7) (zix x2))]) dX0_showTops_17 rfl (by decide) rfl ?_
    refine z_aloadn dX0_showTops_18 rfl rfl ?_
    refine z_iloadn dX0_showTops_19 rfl rfl ?_
    refine z_iloadn dX0_showTops_20 rfl rfl ?_
    refine z_iconst (v := (-1)) dX0_showTops_21 (by decide) ?_
    refine z_icmp_ne (t := 29) dX0_showTops_22 (by decide) (fun c6 => ?_) (fun c7 => ?_)
    · have hw8 := hw5.1 c6
      refine z_aloadn dX0_showTops_29 rfl rfl ?_
      refine z_getRq (j := 2) zc0 dX0_showTops_30 (ha.k 0 rfl) (ha.lt 0 rfl) (by decide) rfl w488 (ha.r 1 rfl) ?_
      refine z_iloadn dX0_showTops_33 rfl rfl ?_
      refine z_callS (h := h) (S := [.int x2, va_rf r1]) (M := mX0_showTops) (As := [va_rf (some (a + 2)), .int (zI h (a + 7) (zix x2))]) eX10_get w778 (Or.inr ⟨_, w1078⟩) dX0_showTops_34 rfl (by omega) (Nat.le_of_ble_eq_true rfl) (c_X10_get l G h (some (a + 2)) (zI h (a + 7) (zix x2)) (zgok_lo (ha.w 2 rfl) (by decide))) (fun v10 g11 q12 => ?_)
      obtain ⟨rfl, q12⟩ := q12
      replace q12 := q12.symm
      subst q12
      show Z l G _ d Q k n 37 _ (.int (zget h (some (a + 2)) (zI h (a + 7) (zix x2))) :: .int x2 :: va_rf r1 :: []) _
      have hw13 := hw8.2
      refine z_callS (h := h) (S := []) (M := mX0_showTops) (As := [va_rf r1, .int x2, .int (zget h (some (a + 2)) (zI h (a + 7) (zix x2)))]) eX10_put w754 (Or.inr ⟨_, w1077⟩) dX0_showTops_37 rfl (by omega) (Nat.le_of_ble_eq_true rfl) (c_X10_put l G h r1 x2 (zget h (some (a + 2)) (zI h (a + 7) (zix x2))) hw8.1) (fun v14 g15 q16 => ?_)
      obtain ⟨rfl, q16⟩ := q16
      replace q16 := q16.symm
      subst q16
      refine z_nm (r := h.2) rfl (fun I17 e18 => ?_)
      have hw19 := hw13 I17 e18
      refine z_iinc (v := (x2 + 1)) (L' := [va_rf (some a), va_rf r1, .int ((x2 + 1)), .int (zI h (a + 7) (zix x2))]) dX0_showTops_40 (by decide) rfl rfl ((zs1_rf (j := 1) rfl).trans rfl) ?_
      refine z_goto (t := 2) dX0_showTops_43 (by decide) ?_
      exact hw19
    · have hw9 := hw5.2 c7
      refine z_iconst (v := (-1)) dX0_showTops_25 (by decide) ?_
      refine z_goto (t := 37) dX0_showTops_26 (by decide) ?_
      have hw20 := hw9.2
      refine z_callS (h := h) (S := []) (M := mX0_showTops) (As := [va_rf r1, .int x2, .int ((-1))]) eX10_put w754 (Or.inr ⟨_, w1077⟩) dX0_showTops_37 rfl (by omega) (Nat.le_of_ble_eq_true rfl) (c_X10_put l G h r1 x2 (-1 : Int32) hw9.1) (fun v21 g22 q23 => ?_)
      obtain ⟨rfl, q23⟩ := q23
      replace q23 := q23.symm
      subst q23
      refine z_nm (r := h.2) rfl (fun I24 e25 => ?_)
      have hw26 := hw20 I24 e25
      refine z_iinc (v := (x2 + 1)) (L' := [va_rf (some a), va_rf r1, .int ((x2 + 1)), .int (zI h (a + 7) (zix x2))]) dX0_showTops_40 (by decide) rfl rfl ((zs1_rf (j := 1) rfl).trans rfl) ?_
      refine z_goto (t := 2) dX0_showTops_43 (by decide) ?_
      exact hw26

theorem kX0_showTops {l : Launch} {G : zG} {d : Nat} {Q : Option Value → zH → Prop} {k n : Nat} {h : zH} (a : Nat) (r1 : Option Nat) (hz : Z l G mX0_showTops d Q k n 0 [va_rf (some a), va_rf r1, zU, zU] [] h) : CT l G YX0_showTops d k n [va_rf (some a), va_rf r1] h Q :=
  CT.of (by decide +kernel) (fun t e => by cases e) (by cases r1 <;> exact Nat.le_of_ble_eq_true rfl) (by cases r1 <;> exact hz)

theorem sX1_clear_0 {l : Launch} {G : zG} {d : Nat} {Q : Option Value → zH → Prop} {k n : Nat} {h : zH} (a : Nat) (ha : lo1 h a) (hd9 : 3 ≤ d)
    (hw : (∀ I1 : Nat → Nat → Int32, I1 = (zwI h a 0 (6 : Int32)).1 → (∀ I4 : Nat → Nat → Int32, I4 = (zwI (I1, h.2) a 1 (6 : Int32)).1 → (∀ I7 : Nat → Nat → Int32, I7 = (zwI (I4, h.2) a 2 (2 : Int32)).1 → (∀ I10 : Nat → Nat → Int32, I10 = (zwI (I7, h.2) a 3 (0 : Int32)).1 → (∀ I13 : Nat → Nat → Int32, I13 = (zwI (I10, h.2) a 4 (0 : Int32)).1 → Z l G mX1_clear d Q k n 29 [va_rf (some a), .int 0] [] (I13, h.2))))))) :
    Z l G mX1_clear d Q k n 0 [va_rf (some a), zU] [] h := by
  refine z_aloadn dX1_clear_0 rfl rfl ?_
  refine z_bipush (v := 6) dX1_clear_1 (by decide) ?_
  refine z_putI (j := 0) zc1 dX1_clear_3 (ha.k 0 rfl) (ha.lt 0 rfl) (by decide) rfl rfl (Or.inl rfl) (Or.inl w302) ?_
  refine z_nm (r := h.2) rfl (fun I1 e2 => ?_)
  have hw3 := hw I1 e2
  refine z_aloadn dX1_clear_6 rfl rfl ?_
  refine z_bipush (v := 6) dX1_clear_7 (by decide) ?_
  refine z_putI (j := 1) zc1 dX1_clear_9 (ha.k 0 rfl) (ha.lt 0 rfl) (by decide) rfl rfl (Or.inl rfl) (Or.inl w305) ?_
  refine z_nm (r := h.2) rfl (fun I4 e5 => ?_)
  have hw6 := hw3 I4 e5
  refine z_aloadn dX1_clear_12 rfl rfl ?_
  refine z_iconst (v := 2) dX1_clear_13 (by decide) ?_
  refine z_putI (j := 2) zc1 dX1_clear_14 (ha.k 0 rfl) (ha.lt 0 rfl) (by decide) rfl rfl (Or.inl rfl) (Or.inl w308) ?_
  refine z_nm (r := h.2) rfl (fun I7 e8 => ?_)
  have hw9 := hw6 I7 e8
  refine z_aloadn dX1_clear_17 rfl rfl ?_
  refine z_iconst (v := 0) dX1_clear_18 (by decide) ?_
  refine z_putI (j := 3) zc1 dX1_clear_19 (ha.k 0 rfl) (ha.lt 0 rfl) (by decide) rfl rfl (Or.inl rfl) (Or.inl w312) ?_
  refine z_nm (r := h.2) rfl (fun I10 e11 => ?_)
  have hw12 := hw9 I10 e11
  refine z_aloadn dX1_clear_22 rfl rfl ?_
  refine z_iconst (v := 0) dX1_clear_23 (by decide) ?_
  refine z_putI (j := 4) zc1 dX1_clear_24 (ha.k 0 rfl) (ha.lt 0 rfl) (by decide) rfl rfl (Or.inl rfl) (Or.inl w317) ?_
  refine z_nm (r := h.2) rfl (fun I13 e14 => ?_)
  have hw15 := hw12 I13 e14
  refine z_iconst (v := 0) dX1_clear_27 (by decide) ?_
  refine z_istoren (L' := [va_rf (some a), .int 0]) dX1_clear_28 rfl (by decide) rfl ?_
  exact hw15

theorem sX1_clear_29 {l : Launch} {G : zG} {d : Nat} {Q : Option Value → zH → Prop} {k n : Nat} {h : zH} (a : Nat) (x1 : Int32) (ha : lo1 h a) (hd9 : 3 ≤ d)
    (hw : (((6 : Int) ≤ x1.toInt → (∃ P5, CTv l G YJ7_fill_53178 1 [va_rf (some (a + 5)), .int 0] h P5 ∧ ∀ (I8 : Nat → Nat → Int32), P5 I8 → Q none (I8, h.2))) ∧ (x1.toInt < (6 : Int) → (0 ≤ x1.toInt ∧ x1.toInt < ((6 : Nat) : Int) ∧ (∃ b15, zR h (a + 1) (zix x1) = some b15 ∧ lo2 h b15 ∧ (∃ P19, CTv l G YX2_clear 2 [va_rf (some b15)] h P19 ∧ ∀ (I22 : Nat → Nat → Int32), P19 I22 → Z l G mX1_clear d Q k n 29 [va_rf (some a), .int ((x1 + 1))] [] (I22, h.2))))))) :
    Z l G mX1_clear d Q k n 29 [va_rf (some a), .int x1] [] h := by
  refine z_iloadn dX1_clear_29 rfl rfl ?_
  refine z_aloadn dX1_clear_30 rfl rfl ?_
  refine z_getRq (j := 5) zc1 dX1_clear_31 (ha.k 0 rfl) (ha.lt 0 rfl) (by decide) rfl w321 (ha.r 0 rfl) ?_
  refine z_alenk (v := 6) 4 rfl (by decide) dX1_clear_34 (ha.k 1 rfl) (ha.lt 1 rfl) rfl ?_
  refine z_icmp_ge (t := 53) dX1_clear_35 (by decide) (fun c1 => ?_) (fun c2 => ?_)
  · have hw3 := hw.1 c1
    refine z_aloadn dX1_clear_53 rfl rfl ?_
    refine z_getRq (j := 9) zc1 dX1_clear_54 (ha.k 0 rfl) (ha.lt 0 rfl) (by decide) rfl w331 (ha.r 4 rfl) ?_
    refine z_iconst (v := 0) dX1_clear_57 (by decide) ?_
    obtain ⟨P5, ct6, hw7⟩ := hw3
    refine z_callS (h := h) (S := []) (M := mX1_clear) (As := [va_rf (some (a + 5)), .int 0]) eJ7_fill_53178 w300 (Or.inl w299) dX1_clear_58 rfl (by omega) (Nat.le_of_ble_eq_true rfl) ct6 (fun v12 g13 q9 => ?_)
    obtain ⟨I8, rfl, rfl, q9⟩ := q9
    have hw11 := hw7 I8 q9
    show Z l G _ d Q k n 61 _ ([]) _
    exact z_ret (v := none) dX1_clear_61 rfl rfl hw11
  · have hw4 := hw.2 c2
    refine z_aloadn dX1_clear_38 rfl rfl ?_
    refine z_getRq (j := 5) zc1 dX1_clear_39 (ha.k 0 rfl) (ha.lt 0 rfl) (by decide) rfl w321 (ha.r 0 rfl) ?_
    refine z_iloadn dX1_clear_42 rfl rfl ?_
    have hw14 := hw4.2.2
    refine z_aald (N := 6) 4 rfl (by decide) dX1_clear_43 (ha.k 1 rfl) (ha.lt 1 rfl) hw4.1 hw4.2.1 ?_
    obtain ⟨b15, q16, ho17, hw18⟩ := hw14
    refine z_soP [] q16 ?_
    obtain ⟨P19, ct20, hw21⟩ := hw18
    refine z_callV (h := h) (S := []) (a := b15) (M := mX1_clear) (As := []) zc2 rfl eX2_clear w293 w1 (Or.inr ⟨_, w291⟩) dX1_clear_44 (ho17.k 0 rfl) (ho17.lt 0 rfl) rfl (by omega) (Nat.le_of_ble_eq_true rfl) ct20 (fun v26 g27 q23 => ?_)
    obtain ⟨I22, rfl, rfl, q23⟩ := q23
    have hw25 := hw21 I22 q23
    show Z l G _ d Q k n 47 _ ([]) _
    refine z_iinc (v := (x1 + 1)) (L' := [va_rf (some a), .int ((x1 + 1))]) dX1_clear_47 (by decide) rfl rfl rfl ?_
    refine z_goto (t := 29) dX1_clear_50 (by decide) ?_
    exact hw25

theorem kX1_clear {l : Launch} {G : zG} {d : Nat} {Q : Option Value → zH → Prop} {k n : Nat} {h : zH} (a : Nat) (hz : Z l G mX1_clear d Q k n 0 [va_rf (some a), zU] [] h) : CT l G YX1_clear d k n [va_rf (some a)] h Q :=
  CT.of (by decide +kernel) (fun t e => by cases e) (by exact Nat.le_of_ble_eq_true rfl) (by exact hz)

theorem sX1_copyFrom_0 {l : Launch} {G : zG} {d : Nat} {Q : Option Value → zH → Prop} {k n : Nat} {h : zH} (a : Nat) (a1 : Nat) (ha : lo1 h a) (ha1 : lo1 h a1) (hd9 : 4 ≤ d)
    (hw : (∀ I1 : Nat → Nat → Int32, I1 = (zwI h a 0 (zI h a1 0)).1 → (∀ I4 : Nat → Nat → Int32, I4 = (zwI (I1, h.2) a 1 (zI (I1, h.2) a1 1)).1 → (∀ I7 : Nat → Nat → Int32, I7 = (zwI (I4, h.2) a 2 (zI (I4, h.2) a1 2)).1 → (∀ I10 : Nat → Nat → Int32, I10 = (zwI (I7, h.2) a 3 (zI (I7, h.2) a1 3)).1 → (∀ I13 : Nat → Nat → Int32, I13 = (zwI (I10, h.2) a 4 (zI (I10, h.2) a1 4)).1 → Z l G mX1_copyFrom d Q k n 42 [va_rf (some a), va_rf (some a1), .int 0] [] (I13, h.2))))))) :
    Z l G mX1_copyFrom d Q k n 0 [va_rf (some a), va_rf (some a1), zU] [] h := by
  refine z_aloadn dX1_copyFrom_0 rfl rfl ?_
  refine z_aloadn dX1_copyFrom_1 rfl rfl ?_
  refine z_getI (j := 0) zc1 dX1_copyFrom_2 (ha1.k 0 rfl) (ha1.lt 0 rfl) (by decide) rfl w302 ?_
  refine z_putI (j := 0) zc1 dX1_copyFrom_5 (ha.k 0 rfl) (ha.lt 0 rfl) (by decide) rfl rfl (Or.inl rfl) (Or.inl w302) ?_
  refine z_nm (r := h.2) rfl (fun I1 e2 => ?_)
  have hw3 := hw I1 e2
  refine z_aloadn dX1_copyFrom_8 rfl rfl ?_
  refine z_aloadn dX1_copyFrom_9 rfl rfl ?_
  refine z_getI (j := 1) zc1 dX1_copyFrom_10 (ha1.k 0 rfl) (ha1.lt 0 rfl) (by decide) rfl w305 ?_
  refine z_putI (j := 1) zc1 dX1_copyFrom_13 (ha.k 0 rfl) (ha.lt 0 rfl) (by decide) rfl rfl (Or.inl rfl) (Or.inl w305) ?_
  refine z_nm (r := h.2) rfl (fun I4 e5 => ?_)
  have hw6 := hw3 I4 e5
  refine z_aloadn dX1_copyFrom_16 rfl rfl ?_
  refine z_aloadn dX1_copyFrom_17 rfl rfl ?_
  refine z_getI (j := 2) zc1 dX1_copyFrom_18 (ha1.k 0 rfl) (ha1.lt 0 rfl) (by decide) rfl w308 ?_
  refine z_putI (j := 2) zc1 dX1_copyFrom_21 (ha.k 0 rfl) (ha.lt 0 rfl) (by decide) rfl rfl (Or.inl rfl) (Or.inl w308) ?_
  refine z_nm (r := h.2) rfl (fun I7 e8 => ?_)
  have hw9 := hw6 I7 e8
  refine z_aloadn dX1_copyFrom_24 rfl rfl ?_
  refine z_aloadn dX1_copyFrom_25 rfl rfl ?_
  refine z_getI (j := 3) zc1 dX1_copyFrom_26 (ha1.k 0 rfl) (ha1.lt 0 rfl) (by decide) rfl w312 ?_
  refine z_putI (j := 3) zc1 dX1_copyFrom_29 (ha.k 0 rfl) (ha.lt 0 rfl) (by decide) rfl rfl (Or.inl rfl) (Or.inl w312) ?_
  refine z_nm (r := h.2) rfl (fun I10 e11 => ?_)
  have hw12 := hw9 I10 e11
  refine z_aloadn dX1_copyFrom_32 rfl rfl ?_
  refine z_aloadn dX1_copyFrom_33 rfl rfl ?_
  refine z_getI (j := 4) zc1 dX1_copyFrom_34 (ha1.k 0 rfl) (ha1.lt 0 rfl) (by decide) rfl w317 ?_
  refine z_putI (j := 4) zc1 dX1_copyFrom_37 (ha.k 0 rfl) (ha.lt 0 rfl) (by decide) rfl rfl (Or.inl rfl) (Or.inl w317) ?_
  refine z_nm (r := h.2) rfl (fun I13 e14 => ?_)
  have hw15 := hw12 I13 e14
  refine z_iconst (v := 0) dX1_copyFrom_40 (by decide) ?_
  refine z_istoren (L' := [va_rf (some a), va_rf (some a1), .int 0]) dX1_copyFrom_41 rfl (by decide) rfl ?_
  exact hw15

theorem sX1_copyFrom_42 {l : Launch} {G : zG} {d : Nat} {Q : Option Value → zH → Prop} {k n : Nat} {h : zH} (a : Nat) (a1 : Nat) (x2 : Int32) (ha : lo1 h a) (ha1 : lo1 h a1) (hd9 : 4 ≤ d)
    (hw : (((6 : Int) ≤ x2.toInt → (∃ P5, CTv l G YX10_copy 2 [va_rf (some (a1 + 2)), va_rf (some (a + 2))] h P5 ∧ ∀ (I8 : Nat → Nat → Int32), P5 I8 → (∃ P14, CTv l G YX10_copy 2 [va_rf (some (a1 + 3)), va_rf (some (a + 3))] (I8, h.2) P14 ∧ ∀ (I17 : Nat → Nat → Int32), P14 I17 → (∃ P23, CTv l G YX10_copy 2 [va_rf (some (a1 + 4)), va_rf (some (a + 4))] (I17, h.2) P23 ∧ ∀ (I26 : Nat → Nat → Int32), P23 I26 → (∃ P32, CTv l G YX10_copy 2 [va_rf (some (a1 + 5)), va_rf (some (a + 5))] (I26, h.2) P32 ∧ ∀ (I35 : Nat → Nat → Int32), P32 I35 → Q none (I35, h.2)))))) ∧ (x2.toInt < (6 : Int) → (((6 : Int) ≤ x2.toInt → (∃ P45, CTv l G YX10_copy 2 [va_rf (some (a1 + 2)), va_rf (some (a + 2))] h P45 ∧ ∀ (I48 : Nat → Nat → Int32), P45 I48 → (∃ P54, CTv l G YX10_copy 2 [va_rf (some (a1 + 3)), va_rf (some (a + 3))] (I48, h.2) P54 ∧ ∀ (I57 : Nat → Nat → Int32), P54 I57 → (∃ P63, CTv l G YX10_copy 2 [va_rf (some (a1 + 4)), va_rf (some (a + 4))] (I57, h.2) P63 ∧ ∀ (I66 : Nat → Nat → Int32), P63 I66 → (∃ P72, CTv l G YX10_copy 2 [va_rf (some (a1 + 5)), va_rf (some (a + 5))] (I66, h.2) P72 ∧ ∀ (I75 : Nat → Nat → Int32), P72 I75 → Q none (I75, h.2)))))) ∧ (x2.toInt < (6 : Int) → (0 ≤ x2.toInt ∧ x2.toInt < ((6 : Nat) : Int) ∧ (0 ≤ x2.toInt ∧ x2.toInt < ((6 : Nat) : Int) ∧ (∃ b83, zR h (a + 1) (zix x2) = some b83 ∧ lo2 h b83 ∧ (∃ P87, CTv l G YX2_copyFrom 3 [va_rf (some b83), va_rf (zR h (a1 + 1) (zix x2))] h P87 ∧ ∀ (I90 : Nat → Nat → Int32), P87 I90 → Z l G mX1_copyFrom d Q k n 42 [va_rf (some a), va_rf (some a1), .int ((x2 + 1))] [] (I90, h.2)))))))))) :
    Z l G mX1_copyFrom d Q k n 42 [va_rf (some a), va_rf (some a1), .int x2] [] h := by
  refine z_iloadn dX1_copyFrom_42 rfl rfl ?_
  refine z_aloadn dX1_copyFrom_43 rfl rfl ?_
  refine z_getRq (j := 5) zc1 dX1_copyFrom_44 (ha.k 0 rfl) (ha.lt 0 rfl) (by decide) rfl w321 (ha.r 0 rfl) ?_
  refine z_alenk (v := 6) 4 rfl (by decide) dX1_copyFrom_47 (ha.k 1 rfl) (ha.lt 1 rfl) rfl ?_
  refine z_icmp_ge (t := 81) dX1_copyFrom_48 (by decide) (fun c1 => ?_) (fun c2 => ?_)
  · have hw3 := hw.1 c1
    refine z_aloadn dX1_copyFrom_81 rfl rfl ?_
    refine z_getRq (j := 6) zc1 dX1_copyFrom_82 (ha1.k 0 rfl) (ha1.lt 0 rfl) (by decide) rfl w322 (ha1.r 1 rfl) ?_
    refine z_aloadn dX1_copyFrom_85 rfl rfl ?_
    refine z_getRq (j := 6) zc1 dX1_copyFrom_86 (ha.k 0 rfl) (ha.lt 0 rfl) (by decide) rfl w322 (ha.r 1 rfl) ?_
    obtain ⟨P5, ct6, hw7⟩ := hw3
    refine z_callS (h := h) (S := []) (M := mX1_copyFrom) (As := [va_rf (some (a1 + 2)), va_rf (some (a + 2))]) eX10_copy w945 (Or.inr ⟨_, w951⟩) dX1_copyFrom_89 rfl (by omega) (Nat.le_of_ble_eq_true rfl) ct6 (fun v12 g13 q9 => ?_)
    obtain ⟨I8, rfl, rfl, q9⟩ := q9
    have hw11 := hw7 I8 q9
    show Z l G _ d Q k n 92 _ ([]) _
    refine z_aloadn dX1_copyFrom_92 rfl rfl ?_
    refine z_getRq (j := 7) zc1 dX1_copyFrom_93 (ha1.k 0 rfl) (ha1.lt 0 rfl) (by decide) rfl w325 (ha1.r 2 rfl) ?_
    refine z_aloadn dX1_copyFrom_96 rfl rfl ?_
    refine z_getRq (j := 7) zc1 dX1_copyFrom_97 (ha.k 0 rfl) (ha.lt 0 rfl) (by decide) rfl w325 (ha.r 2 rfl) ?_
    obtain ⟨P14, ct15, hw16⟩ := hw11
    refine z_callS (h := (I8, h.2)) (S := []) (M := mX1_copyFrom) (As := [va_rf (some (a1 + 3)), va_rf (some (a + 3))]) eX10_copy w945 (Or.inr ⟨_, w951⟩) dX1_copyFrom_100 rfl (by omega) (Nat.le_of_ble_eq_true rfl) ct15 (fun v21 g22 q18 => ?_)
    obtain ⟨I17, rfl, rfl, q18⟩ := q18
    have hw20 := hw16 I17 q18
    show Z l G _ d Q k n 103 _ ([]) _
    refine z_aloadn dX1_copyFrom_103 rfl rfl ?_
    refine z_getRq (j := 8) zc1 dX1_copyFrom_104 (ha1.k 0 rfl) (ha1.lt 0 rfl) (by decide) rfl w328 (ha1.r 3 rfl) ?_
    refine z_aloadn dX1_copyFrom_107 rfl rfl ?_
    refine z_getRq (j := 8) zc1 dX1_copyFrom_108 (ha.k 0 rfl) (ha.lt 0 rfl) (by decide) rfl w328 (ha.r 3 rfl) ?_
    obtain ⟨P23, ct24, hw25⟩ := hw20
    refine z_callS (h := (I17, h.2)) (S := []) (M := mX1_copyFrom) (As := [va_rf (some (a1 + 4)), va_rf (some (a + 4))]) eX10_copy w945 (Or.inr ⟨_, w951⟩) dX1_copyFrom_111 rfl (by omega) (Nat.le_of_ble_eq_true rfl) ct24 (fun v30 g31 q27 => ?_)
    obtain ⟨I26, rfl, rfl, q27⟩ := q27
    have hw29 := hw25 I26 q27
    show Z l G _ d Q k n 114 _ ([]) _
    refine z_aloadn dX1_copyFrom_114 rfl rfl ?_
    refine z_getRq (j := 9) zc1 dX1_copyFrom_115 (ha1.k 0 rfl) (ha1.lt 0 rfl) (by decide) rfl w331 (ha1.r 4 rfl) ?_
    refine z_aloadn dX1_copyFrom_118 rfl rfl ?_
    refine z_getRq (j := 9) zc1 dX1_copyFrom_119 (ha.k 0 rfl) (ha.lt 0 rfl) (by decide) rfl w331 (ha.r 4 rfl) ?_
    obtain ⟨P32, ct33, hw34⟩ := hw29
    refine z_callS (h := (I26, h.2)) (S := []) (M := mX1_copyFrom) (As := [va_rf (some (a1 + 5)), va_rf (some (a + 5))]) eX10_copy w945 (Or.inr ⟨_, w951⟩) dX1_copyFrom_122 rfl (by omega) (Nat.le_of_ble_eq_true rfl) ct33 (fun v39 g40 q36 => ?_)
    obtain ⟨I35, rfl, rfl, q36⟩ := q36
    have hw38 := hw34 I35 q36
    show Z l G _ d Q k n 125 _ ([]) _
    exact z_ret (v := none) dX1_copyFrom_125 rfl rfl hw38
  · have hw4 := hw.2 c2
    refine z_iloadn dX1_copyFrom_51 rfl rfl ?_
    refine z_aloadn dX1_copyFrom_52 rfl rfl ?_
    refine z_getRq (j := 5) zc1 dX1_copyFrom_53 (ha1.k 0 rfl) (ha1.lt 0 rfl) (by decide) rfl w321 (ha1.r 0 rfl) ?_
    refine z_alenk (v := 6) 4 rfl (by decide) dX1_copyFrom_56 (ha1.k 1 rfl) (ha1.lt 1 rfl) rfl ?_
    refine z_icmp_ge (t := 81) dX1_copyFrom_57 (by decide) (fun c41 => ?_) (fun c42 => ?_)
    · have hw43 := hw4.1 c41
      refine z_aloadn dX1_copyFrom_81 rfl rfl ?_
      refine z_getRq (j := 6) zc1 dX1_copyFrom_82 (ha1.k 0 rfl) (ha1.lt 0 rfl) (by decide) rfl w322 (ha1.r 1 rfl) ?_
      refine z_aloadn dX1_copyFrom_85 rfl rfl ?_
      refine z_getRq (j := 6) zc1 dX1_copyFrom_86 (ha.k 0 rfl) (ha.lt 0 rfl) (by decide) rfl w322 (ha.r 1 rfl) ?_
      obtain ⟨P45, ct46, hw47⟩ := hw43
      refine z_callS (h := h) (S := []) (M := mX1_copyFrom) (As := [va_rf (some (a1 + 2)), va_rf (some (a + 2))]) eX10_copy w945 (Or.inr ⟨_, w951⟩) dX1_copyFrom_89 rfl (by omega) (Nat.le_of_ble_eq_true rfl) ct46 (fun v52 g53 q49 => ?_)
      obtain ⟨I48, rfl, rfl, q49⟩ := q49
      have hw51 := hw47 I48 q49
      show Z l G _ d Q k n 92 _ ([]) _
      refine z_aloadn dX1_copyFrom_92 rfl rfl ?_
      refine z_getRq (j := 7) zc1 dX1_copyFrom_93 (ha1.k 0 rfl) (ha1.lt 0 rfl) (by decide) rfl w325 (ha1.r 2 rfl) ?_
      refine z_aloadn dX1_copyFrom_96 rfl rfl ?_
      refine z_getRq (j := 7) zc1 dX1_copyFrom_97 (ha.k 0 rfl) (ha.lt 0 rfl) (by decide) rfl w325 (ha.r 2 rfl) ?_
      obtain ⟨P54, ct55, hw56⟩ := hw51
      refine z_callS (h := (I48, h.2)) (S := []) (M := mX1_copyFrom) (As := [va_rf (some (a1 + 3)), va_rf (some (a + 3))]) eX10_copy w945 (Or.inr ⟨_, w951⟩) dX1_copyFrom_100 rfl (by omega) (Nat.le_of_ble_eq_true rfl) ct55 (fun v61 g62 q58 => ?_)
      obtain ⟨I57, rfl, rfl, q58⟩ := q58
      have hw60 := hw56 I57 q58
      show Z l G _ d Q k n 103 _ ([]) _
      refine z_aloadn dX1_copyFrom_103 rfl rfl ?_
      refine z_getRq (j := 8) zc1 dX1_copyFrom_104 (ha1.k 0 rfl) (ha1.lt 0 rfl) (by decide) rfl w328 (ha1.r 3 rfl) ?_
      refine z_aloadn dX1_copyFrom_107 rfl rfl ?_
      refine z_getRq (j := 8) zc1 dX1_copyFrom_108 (ha.k 0 rfl) (ha.lt 0 rfl) (by decide) rfl w328 (ha.r 3 rfl) ?_
      obtain ⟨P63, ct64, hw65⟩ := hw60
      refine z_callS (h := (I57, h.2)) (S := []) (M := mX1_copyFrom) (As := [va_rf (some (a1 + 4)), va_rf (some (a + 4))]) eX10_copy w945 (Or.inr ⟨_, w951⟩) dX1_copyFrom_111 rfl (by omega) (Nat.le_of_ble_eq_true rfl) ct64 (fun v70 g71 q67 => ?_)
      obtain ⟨I66, rfl, rfl, q67⟩ := q67
      have hw69 := hw65 I66 q67
      show Z l G _ d Q k n 114 _ ([]) _
      refine z_aloadn dX1_copyFrom_114 rfl rfl ?_
      refine z_getRq (j := 9) zc1 dX1_copyFrom_115 (ha1.k 0 rfl) (ha1.lt 0 rfl) (by decide) rfl w331 (ha1.r 4 rfl) ?_
      refine z_aloadn dX1_copyFrom_118 rfl rfl ?_
      refine z_getRq (j := 9) zc1 dX1_copyFrom_119 (ha.k 0 rfl) (ha.lt 0 rfl) (by decide) rfl w331 (ha.r 4 rfl) ?_
      obtain ⟨P72, ct73, hw74⟩ := hw69
      refine z_callS (h := (I66, h.2)) (S := []) (M := mX1_copyFrom) (As := [va_rf (some (a1 + 5)), va_rf (some (a + 5))]) eX10_copy w945 (Or.inr ⟨_, w951⟩) dX1_copyFrom_122 rfl (by omega) (Nat.le_of_ble_eq_true rfl) ct73 (fun v79 g80 q76 => ?_)
      obtain ⟨I75, rfl, rfl, q76⟩ := q76
      have hw78 := hw74 I75 q76
      show Z l G _ d Q k n 125 _ ([]) _
      exact z_ret (v := none) dX1_copyFrom_125 rfl rfl hw78
    · have hw44 := hw4.2 c42
      refine z_aloadn dX1_copyFrom_60 rfl rfl ?_
      refine z_getRq (j := 5) zc1 dX1_copyFrom_61 (ha.k 0 rfl) (ha.lt 0 rfl) (by decide) rfl w321 (ha.r 0 rfl) ?_
      refine z_iloadn dX1_copyFrom_64 rfl rfl ?_
      have hw81 := hw44.2.2
      refine z_aald (N := 6) 4 rfl (by decide) dX1_copyFrom_65 (ha.k 1 rfl) (ha.lt 1 rfl) hw44.1 hw44.2.1 ?_
      refine z_aloadn dX1_copyFrom_66 rfl rfl ?_
      refine z_getRq (j := 5) zc1 dX1_copyFrom_67 (ha1.k 0 rfl) (ha1.lt 0 rfl) (by decide) rfl w321 (ha1.r 0 rfl) ?_
      refine z_iloadn dX1_copyFrom_70 rfl rfl ?_
      have hw82 := hw81.2.2
      refine z_aald (N := 6) 4 rfl (by decide) dX1_copyFrom_71 (ha1.k 1 rfl) (ha1.lt 1 rfl) hw81.1 hw81.2.1 ?_
      obtain ⟨b83, q84, ho85, hw86⟩ := hw82
      refine z_soP [va_rf (zR h (a1 + 1) (zix x2))] q84 ?_
      obtain ⟨P87, ct88, hw89⟩ := hw86
      refine z_callV (h := h) (S := []) (a := b83) (M := mX1_copyFrom) (As := [va_rf (zR h (a1 + 1) (zix x2))]) zc2 rfl eX2_copyFrom w942 w26 (Or.inr ⟨_, w940⟩) dX1_copyFrom_72 (ho85.k 0 rfl) (ho85.lt 0 rfl) rfl (by omega) (Nat.le_of_ble_eq_true rfl) ct88 (fun v94 g95 q91 => ?_)
      obtain ⟨I90, rfl, rfl, q91⟩ := q91
      have hw93 := hw89 I90 q91
      show Z l G _ d Q k n 75 _ ([]) _
      refine z_iinc (v := (x2 + 1)) (L' := [va_rf (some a), va_rf (some a1), .int ((x2 + 1))]) dX1_copyFrom_75 (by decide) rfl rfl rfl ?_
      refine z_goto (t := 42) dX1_copyFrom_78 (by decide) ?_
      exact hw93

theorem kX1_copyFrom {l : Launch} {G : zG} {d : Nat} {Q : Option Value → zH → Prop} {k n : Nat} {h : zH} (a : Nat) (a1 : Nat) (hz : Z l G mX1_copyFrom d Q k n 0 [va_rf (some a), va_rf (some a1), zU] [] h) : CT l G YX1_copyFrom d k n [va_rf (some a), va_rf (some a1)] h Q :=
  CT.of (by decide +kernel) (fun t e => by cases e) (by exact Nat.le_of_ble_eq_true rfl) (by exact hz)

theorem sX1_errandPart_0 {l : Launch} {G : zG} {d : Nat} {Q : Option Value → zH → Prop} {k n : Nat} {h : zH} (a : Nat) (x1 : Int32) (ha : lo1 h a) (hd9 : 2 ≤ d)
    (hw : ((x1.toInt < (10 : Int) → ((x1.toInt < (20 : Int) → ((x1.toInt < (30 : Int) → Q (some (.int ((-1)))) h) ∧ ((30 : Int) ≤ x1.toInt → (((zI h a 4).toInt ≤ (x1 - 30).toInt → Q (some (.int ((-1)))) h) ∧ ((x1 - 30).toInt < (zI h a 4).toInt → Q (some (.int (zget h (some (a + 4)) (x1 - 30)))) h))))) ∧ ((20 : Int) ≤ x1.toInt → (((zI h a 4).toInt ≤ (x1 - 20).toInt → ((x1.toInt < (30 : Int) → Q (some (.int ((-1)))) h) ∧ ((30 : Int) ≤ x1.toInt → (((zI h a 4).toInt ≤ (x1 - 30).toInt → Q (some (.int ((-1)))) h) ∧ ((x1 - 30).toInt < (zI h a 4).toInt → Q (some (.int (zget h (some (a + 4)) (x1 - 30)))) h))))) ∧ ((x1 - 20).toInt < (zI h a 4).toInt → Q (some (.int (zget h (some (a + 3)) (x1 - 20)))) h))))) ∧ ((10 : Int) ≤ x1.toInt → (((zI h a 4).toInt ≤ (x1 - 10).toInt → ((x1.toInt < (20 : Int) → ((x1.toInt < (30 : Int) → Q (some (.int ((-1)))) h) ∧ ((30 : Int) ≤ x1.toInt → (((zI h a 4).toInt ≤ (x1 - 30).toInt → Q (some (.int ((-1)))) h) ∧ ((x1 - 30).toInt < (zI h a 4).toInt → Q (some (.int (zget h (some (a + 4)) (x1 - 30)))) h))))) ∧ ((20 : Int) ≤ x1.toInt → (((zI h a 4).toInt ≤ (x1 - 20).toInt → ((x1.toInt < (30 : Int) → Q (some (.int ((-1)))) h) ∧ ((30 : Int) ≤ x1.toInt → (((zI h a 4).toInt ≤ (x1 - 30).toInt → Q (some (.int ((-1)))) h) ∧ ((x1 - 30).toInt < (zI h a 4).toInt → Q (some (.int (zget h (some (a + 4)) (x1 - 30)))) h))))) ∧ ((x1 - 20).toInt < (zI h a 4).toInt → Q (some (.int (zget h (some (a + 3)) (x1 - 20)))) h))))) ∧ ((x1 - 10).toInt < (zI h a 4).toInt → Q (some (.int (zget h (some (a + 2)) (x1 - 10)))) h))))) :
    Z l G mX1_errandPart d Q k n 0 [va_rf (some a), .int x1] [] h := by
  refine z_iloadn dX1_errandPart_0 rfl rfl ?_
  refine z_bipush (v := 10) dX1_errandPart_1 (by decide) ?_
  refine z_icmp_lt (t := 29) dX1_errandPart_3 (by decide) (fun c1 => ?_) (fun c2 => ?_)
  · have hw3 := hw.1 c1
    refine z_iloadn dX1_errandPart_29 rfl rfl ?_
    refine z_bipush (v := 20) dX1_errandPart_30 (by decide) ?_
    refine z_icmp_lt (t := 58) dX1_errandPart_32 (by decide) (fun c5 => ?_) (fun c6 => ?_)
    · have hw7 := hw3.1 c5
      refine z_iloadn dX1_errandPart_58 rfl rfl ?_
      refine z_bipush (v := 30) dX1_errandPart_59 (by decide) ?_
      refine z_icmp_lt (t := 87) dX1_errandPart_61 (by decide) (fun c9 => ?_) (fun c10 => ?_)
      · have hw11 := hw7.1 c9
        refine z_iconst (v := (-1)) dX1_errandPart_87 (by decide) ?_
        exact z_ret (v := some (.int ((-1)))) dX1_errandPart_88 ⟨_, rfl, rfl⟩ rfl hw11
      · have hw12 := hw7.2 c10
        refine z_iloadn dX1_errandPart_64 rfl rfl ?_
        refine z_bipush (v := 30) dX1_errandPart_65 (by decide) ?_
        refine z_isub dX1_errandPart_67 ?_
        refine z_aloadn dX1_errandPart_68 rfl rfl ?_
        refine z_getI (j := 4) zc1 dX1_errandPart_69 (ha.k 0 rfl) (ha.lt 0 rfl) (by decide) rfl w317 ?_
        refine z_icmp_ge (t := 87) dX1_errandPart_72 (by decide) (fun c13 => ?_) (fun c14 => ?_)
        · have hw15 := hw12.1 c13
          refine z_iconst (v := (-1)) dX1_errandPart_87 (by decide) ?_
          exact z_ret (v := some (.int ((-1)))) dX1_errandPart_88 ⟨_, rfl, rfl⟩ rfl hw15
        · have hw16 := hw12.2 c14
          refine z_aloadn dX1_errandPart_75 rfl rfl ?_
          refine z_getRq (j := 8) zc1 dX1_errandPart_76 (ha.k 0 rfl) (ha.lt 0 rfl) (by decide) rfl w328 (ha.r 3 rfl) ?_
          refine z_iloadn dX1_errandPart_79 rfl rfl ?_
          refine z_bipush (v := 30) dX1_errandPart_80 (by decide) ?_
          refine z_isub dX1_errandPart_82 ?_
          refine z_callS (h := h) (S := []) (M := mX1_errandPart) (As := [va_rf (some (a + 4)), .int ((x1 - 30))]) eX10_get w778 (Or.inr ⟨_, w1004⟩) dX1_errandPart_83 rfl (by omega) (Nat.le_of_ble_eq_true rfl) (c_X10_get l G h (some (a + 4)) (x1 - 30) (zgok_lo (ha.w 4 rfl) (by decide))) (fun v17 g18 q19 => ?_)
          obtain ⟨rfl, q19⟩ := q19
          replace q19 := q19.symm
          subst q19
          show Z l G _ d Q k n 86 _ (.int (zget h (some (a + 4)) (x1 - 30)) :: []) _
          exact z_ret (v := some (.int (zget h (some (a + 4)) (x1 - 30)))) dX1_errandPart_86 ⟨_, rfl, rfl⟩ rfl hw16
    · have hw8 := hw3.2 c6
      refine z_iloadn dX1_errandPart_35 rfl rfl ?_
      refine z_bipush (v := 20) dX1_errandPart_36 (by decide) ?_
      refine z_isub dX1_errandPart_38 ?_
      refine z_aloadn dX1_errandPart_39 rfl rfl ?_
      refine z_getI (j := 4) zc1 dX1_errandPart_40 (ha.k 0 rfl) (ha.lt 0 rfl) (by decide) rfl w317 ?_
      refine z_icmp_ge (t := 58) dX1_errandPart_43 (by decide) (fun c20 => ?_) (fun c21 => ?_)
      · have hw22 := hw8.1 c20
        refine z_iloadn dX1_errandPart_58 rfl rfl ?_
        refine z_bipush (v := 30) dX1_errandPart_59 (by decide) ?_
        refine z_icmp_lt (t := 87) dX1_errandPart_61 (by decide) (fun c24 => ?_) (fun c25 => ?_)
        · have hw26 := hw22.1 c24
          refine z_iconst (v := (-1)) dX1_errandPart_87 (by decide) ?_
          exact z_ret (v := some (.int ((-1)))) dX1_errandPart_88 ⟨_, rfl, rfl⟩ rfl hw26
        · have hw27 := hw22.2 c25
          refine z_iloadn dX1_errandPart_64 rfl rfl ?_
          refine z_bipush (v := 30) dX1_errandPart_65 (by decide) ?_
          refine z_isub dX1_errandPart_67 ?_
          refine z_aloadn dX1_errandPart_68 rfl rfl ?_
          refine z_getI (j := 4) zc1 dX1_errandPart_69 (ha.k 0 rfl) (ha.lt 0 rfl) (by decide) rfl w317 ?_
          refine z_icmp_ge (t := 87) dX1_errandPart_72 (by decide) (fun c28 => ?_) (fun c29 => ?_)
          · have hw30 := hw27.1 c28
            refine z_iconst (v := (-1)) dX1_errandPart_87 (by decide) ?_
            exact z_ret (v := some (.int ((-1)))) dX1_errandPart_88 ⟨_, rfl, rfl⟩ rfl hw30
          · have hw31 := hw27.2 c29
            refine z_aloadn dX1_errandPart_75 rfl rfl ?_
            refine z_getRq (j := 8) zc1 dX1_errandPart_76 (ha.k 0 rfl) (ha.lt 0 rfl) (by decide) rfl w328 (ha.r 3 rfl) ?_
            refine z_iloadn dX1_errandPart_79 rfl rfl ?_
            refine z_bipush (v := 30) dX1_errandPart_80 (by decide) ?_
            refine z_isub dX1_errandPart_82 ?_
            refine z_callS (h := h) (S := []) (M := mX1_errandPart) (As := [va_rf (some (a + 4)), .int ((x1 - 30))]) eX10_get w778 (Or.inr ⟨_, w1004⟩) dX1_errandPart_83 rfl (by omega) (Nat.le_of_ble_eq_true rfl) (c_X10_get l G h (some (a + 4)) (x1 - 30) (zgok_lo (ha.w 4 rfl) (by decide))) (fun v32 g33 q34 => ?_)
            obtain ⟨rfl, q34⟩ := q34
            replace q34 := q34.symm
            subst q34
            show Z l G _ d Q k n 86 _ (.int (zget h (some (a + 4)) (x1 - 30)) :: []) _
            exact z_ret (v := some (.int (zget h (some (a + 4)) (x1 - 30)))) dX1_errandPart_86 ⟨_, rfl, rfl⟩ rfl hw31
      · have hw23 := hw8.2 c21
        refine z_aloadn dX1_errandPart_46 rfl rfl ?_
        refine z_getRq (j := 7) zc1 dX1_errandPart_47 (ha.k 0 rfl) (ha.lt 0 rfl) (by decide) rfl w325 (ha.r 2 rfl) ?_
        refine z_iloadn dX1_errandPart_50 rfl rfl ?_
        refine z_bipush (v := 20) dX1_errandPart_51 (by decide) ?_
        refine z_isub dX1_errandPart_53 ?_
        refine z_callS (h := h) (S := []) (M := mX1_errandPart) (As := [va_rf (some (a + 3)), .int ((x1 - 20))]) eX10_get w778 (Or.inr ⟨_, w1004⟩) dX1_errandPart_54 rfl (by omega) (Nat.le_of_ble_eq_true rfl) (c_X10_get l G h (some (a + 3)) (x1 - 20) (zgok_lo (ha.w 3 rfl) (by decide))) (fun v35 g36 q37 => ?_)
        obtain ⟨rfl, q37⟩ := q37
        replace q37 := q37.symm
        subst q37
        show Z l G _ d Q k n 57 _ (.int (zget h (some (a + 3)) (x1 - 20)) :: []) _
        exact z_ret (v := some (.int (zget h (some (a + 3)) (x1 - 20)))) dX1_errandPart_57 ⟨_, rfl, rfl⟩ rfl hw23
  · have hw4 := hw.2 c2
    refine z_iloadn dX1_errandPart_6 rfl rfl ?_
    refine z_bipush (v := 10) dX1_errandPart_7 (by decide) ?_
    refine z_isub dX1_errandPart_9 ?_
    refine z_aloadn dX1_errandPart_10 rfl rfl ?_
    refine z_getI (j := 4) zc1 dX1_errandPart_11 (ha.k 0 rfl) (ha.lt 0 rfl) (by decide) rfl w317 ?_
    refine z_icmp_ge (t := 29) dX1_errandPart_14 (by decide) (fun c38 => ?_) (fun c39 => ?_)
    · have hw40 := hw4.1 c38
      refine z_iloadn dX1_errandPart_29 rfl rfl ?_
      refine z_bipush (v := 20) dX1_errandPart_30 (by decide) ?_
      refine z_icmp_lt (t := 58) dX1_errandPart_32 (by decide) (fun c42 => ?_) (fun c43 => ?_)
      · have hw44 := hw40.1 c42
        refine z_iloadn dX1_errandPart_58 rfl rfl ?_
        refine z_bipush (v := 30) dX1_errandPart_59 (by decide) ?_
        refine z_icmp_lt (t := 87) dX1_errandPart_61 (by decide) (fun c46 => ?_) (fun c47 => ?_)
        · have hw48 := hw44.1 c46
          refine z_iconst (v := (-1)) dX1_errandPart_87 (by decide) ?_
          exact z_ret (v := some (.int ((-1)))) dX1_errandPart_88 ⟨_, rfl, rfl⟩ rfl hw48
        · have hw49 := hw44.2 c47
          refine z_iloadn dX1_errandPart_64 rfl rfl ?_
          refine z_bipush (v := 30) dX1_errandPart_65 (by decide) ?_
          refine z_isub dX1_errandPart_67 ?_
          refine z_aloadn dX1_errandPart_68 rfl rfl ?_
          refine z_getI (j := 4) zc1 dX1_errandPart_69 (ha.k 0 rfl) (ha.lt 0 rfl) (by decide) rfl w317 ?_
          refine z_icmp_ge (t := 87) dX1_errandPart_72 (by decide) (fun c50 => ?_) (fun c51 => ?_)
          · have hw52 := hw49.1 c50
            refine z_iconst (v := (-1)) dX1_errandPart_87 (by decide) ?_
            exact z_ret (v := some (.int ((-1)))) dX1_errandPart_88 ⟨_, rfl, rfl⟩ rfl hw52
          · have hw53 := hw49.2 c51
            refine z_aloadn dX1_errandPart_75 rfl rfl ?_
            refine z_getRq (j := 8) zc1 dX1_errandPart_76 (ha.k 0 rfl) (ha.lt 0 rfl) (by decide) rfl w328 (ha.r 3 rfl) ?_
            refine z_iloadn dX1_errandPart_79 rfl rfl ?_
            refine z_bipush (v := 30) dX1_errandPart_80 (by decide) ?_
            refine z_isub dX1_errandPart_82 ?_
            refine z_callS (h := h) (S := []) (M := mX1_errandPart) (As := [va_rf (some (a + 4)), .int ((x1 - 30))]) eX10_get w778 (Or.inr ⟨_, w1004⟩) dX1_errandPart_83 rfl (by omega) (Nat.le_of_ble_eq_true rfl) (c_X10_get l G h (some (a + 4)) (x1 - 30) (zgok_lo (ha.w 4 rfl) (by decide))) (fun v54 g55 q56 => ?_)
            obtain ⟨rfl, q56⟩ := q56
            replace q56 := q56.symm
            subst q56
            show Z l G _ d Q k n 86 _ (.int (zget h (some (a + 4)) (x1 - 30)) :: []) _
            exact z_ret (v := some (.int (zget h (some (a + 4)) (x1 - 30)))) dX1_errandPart_86 ⟨_, rfl, rfl⟩ rfl hw53
      · have hw45 := hw40.2 c43
        refine z_iloadn dX1_errandPart_35 rfl rfl ?_
        refine z_bipush (v := 20) dX1_errandPart_36 (by decide) ?_
        refine z_isub dX1_errandPart_38 ?_
        refine z_aloadn dX1_errandPart_39 rfl rfl ?_
        refine z_getI (j := 4) zc1 dX1_errandPart_40 (ha.k 0 rfl) (ha.lt 0 rfl) (by decide) rfl w317 ?_
        refine z_icmp_ge (t := 58) dX1_errandPart_43 (by decide) (fun c57 => ?_) (fun c58 => ?_)
        · have hw59 := hw45.1 c57
          refine z_iloadn dX1_errandPart_58 rfl rfl ?_
          refine z_bipush (v := 30) dX1_errandPart_59 (by decide) ?_
          refine z_icmp_lt (t := 87) dX1_errandPart_61 (by decide) (fun c61 => ?_) (fun c62 => ?_)
          · have hw63 := hw59.1 c61
            refine z_iconst (v := (-1)) dX1_errandPart_87 (by decide) ?_
            exact z_ret (v := some (.int ((-1)))) dX1_errandPart_88 ⟨_, rfl, rfl⟩ rfl hw63
          · have hw64 := hw59.2 c62
            refine z_iloadn dX1_errandPart_64 rfl rfl ?_
            refine z_bipush (v := 30) dX1_errandPart_65 (by decide) ?_
            refine z_isub dX1_errandPart_67 ?_
            refine z_aloadn dX1_errandPart_68 rfl rfl ?_
            refine z_getI (j := 4) zc1 dX1_errandPart_69 (ha.k 0 rfl) (ha.lt 0 rfl) (by decide) rfl w317 ?_
            refine z_icmp_ge (t := 87) dX1_errandPart_72 (by decide) (fun c65 => ?_) (fun c66 => ?_)
            · have hw67 := hw64.1 c65
              refine z_iconst (v := (-1)) dX1_errandPart_87 (by decide) ?_
              exact z_ret (v := some (.int ((-1)))) dX1_errandPart_88 ⟨_, rfl, rfl⟩ rfl hw67
            · have hw68 := hw64.2 c66
              refine z_aloadn dX1_errandPart_75 rfl rfl ?_
              refine z_getRq (j := 8) zc1 dX1_errandPart_76 (ha.k 0 rfl) (ha.lt 0 rfl) (by decide) rfl w328 (ha.r 3 rfl) ?_
              refine z_iloadn dX1_errandPart_79 rfl rfl ?_
              refine z_bipush (v := 30) dX1_errandPart_80 (by decide) ?_
              refine z_isub dX1_errandPart_82 ?_
              refine z_callS (h := h) (S := []) (M := mX1_errandPart) (As := [va_rf (some (a + 4)), .int ((x1 - 30))]) eX10_get w778 (Or.inr ⟨_, w1004⟩) dX1_errandPart_83 rfl (by omega) (Nat.le_of_ble_eq_true rfl) (c_X10_get l G h (some (a + 4)) (x1 - 30) (zgok_lo (ha.w 4 rfl) (by decide))) (fun v69 g70 q71 => ?_)
              obtain ⟨rfl, q71⟩ := q71
              replace q71 := q71.symm
              subst q71
              show Z l G _ d Q k n 86 _ (.int (zget h (some (a + 4)) (x1 - 30)) :: []) _
              exact z_ret (v := some (.int (zget h (some (a + 4)) (x1 - 30)))) dX1_errandPart_86 ⟨_, rfl, rfl⟩ rfl hw68
        · have hw60 := hw45.2 c58
          refine z_aloadn dX1_errandPart_46 rfl rfl ?_
          refine z_getRq (j := 7) zc1 dX1_errandPart_47 (ha.k 0 rfl) (ha.lt 0 rfl) (by decide) rfl w325 (ha.r 2 rfl) ?_
          refine z_iloadn dX1_errandPart_50 rfl rfl ?_
          refine z_bipush (v := 20) dX1_errandPart_51 (by decide) ?_
          refine z_isub dX1_errandPart_53 ?_
          refine z_callS (h := h) (S := []) (M := mX1_errandPart) (As := [va_rf (some (a + 3)), .int ((x1 - 20))]) eX10_get w778 (Or.inr ⟨_, w1004⟩) dX1_errandPart_54 rfl (by omega) (Nat.le_of_ble_eq_true rfl) (c_X10_get l G h (some (a + 3)) (x1 - 20) (zgok_lo (ha.w 3 rfl) (by decide))) (fun v72 g73 q74 => ?_)
          obtain ⟨rfl, q74⟩ := q74
          replace q74 := q74.symm
          subst q74
          show Z l G _ d Q k n 57 _ (.int (zget h (some (a + 3)) (x1 - 20)) :: []) _
          exact z_ret (v := some (.int (zget h (some (a + 3)) (x1 - 20)))) dX1_errandPart_57 ⟨_, rfl, rfl⟩ rfl hw60
    · have hw41 := hw4.2 c39
      refine z_aloadn dX1_errandPart_17 rfl rfl ?_
      refine z_getRq (j := 6) zc1 dX1_errandPart_18 (ha.k 0 rfl) (ha.lt 0 rfl) (by decide) rfl w322 (ha.r 1 rfl) ?_
      refine z_iloadn dX1_errandPart_21 rfl rfl ?_
      refine z_bipush (v := 10) dX1_errandPart_22 (by decide) ?_
      refine z_isub dX1_errandPart_24 ?_
      refine z_callS (h := h) (S := []) (M := mX1_errandPart) (As := [va_rf (some (a + 2)), .int ((x1 - 10))]) eX10_get w778 (Or.inr ⟨_, w1004⟩) dX1_errandPart_25 rfl (by omega) (Nat.le_of_ble_eq_true rfl) (c_X10_get l G h (some (a + 2)) (x1 - 10) (zgok_lo (ha.w 2 rfl) (by decide))) (fun v75 g76 q77 => ?_)
      obtain ⟨rfl, q77⟩ := q77
      replace q77 := q77.symm
      subst q77
      show Z l G _ d Q k n 28 _ (.int (zget h (some (a + 2)) (x1 - 10)) :: []) _
      exact z_ret (v := some (.int (zget h (some (a + 2)) (x1 - 10)))) dX1_errandPart_28 ⟨_, rfl, rfl⟩ rfl hw41

theorem kX1_errandPart {l : Launch} {G : zG} {d : Nat} {Q : Option Value → zH → Prop} {k n : Nat} {h : zH} (a : Nat) (x1 : Int32) (hz : Z l G mX1_errandPart d Q k n 0 [va_rf (some a), .int x1] [] h) : CT l G YX1_errandPart d k n [va_rf (some a), .int x1] h Q :=
  CT.of (by decide +kernel) (fun t e => by have e2 : ((some .int) : Option FieldType) = some t := e; cases e2; exact ⟨by decide, by decide⟩) (by exact Nat.le_of_ble_eq_true rfl) (by exact hz)

theorem sX1_stepsMade_0 {l : Launch} {G : zG} {d : Nat} {Q : Option Value → zH → Prop} {k n : Nat} {h : zH} (a : Nat) (a1 : Nat) (ha : lo1 h a) (ha1 : lo2 h a1) (hd9 : 3 ≤ d)
    (hw : (((zwalks h a1) = true → Z l G mX1_stepsMade d Q k n 16 [va_rf (some a), va_rf (some a1), .int (zI h a1 6), .int 1] [] h) ∧ ((zwalks h a1) = false → Q (some (.int 0)) h))) :
    Z l G mX1_stepsMade d Q k n 0 [va_rf (some a), va_rf (some a1), zU, zU] [] h := by
  refine z_aloadn dX1_stepsMade_0 rfl rfl ?_
  refine z_callV (h := h) (S := []) (a := a1) (M := mX1_stepsMade) (As := []) zc2 rfl eX2_walksHimself w1020 w36 (Or.inr ⟨_, w1018⟩) dX1_stepsMade_1 (ha1.k 0 rfl) (ha1.lt 0 rfl) rfl (by omega) (Nat.le_of_ble_eq_true rfl) (c_X2_walksHimself l G h a1 ha1) (fun v1 g2 q3 => ?_)
  obtain ⟨rfl, q3⟩ := q3
  replace q3 := q3.symm
  subst q3
  show Z l G _ d Q k n 4 _ (.int (zb (zwalks h a1)) :: []) _
  refine z_if_ne (t := 9) dX1_stepsMade_4 (by decide) (fun c4 => ?_) (fun c5 => ?_)
  · have hw6 := hw.1 (zb1 c4)
    refine z_aloadn dX1_stepsMade_9 rfl rfl ?_
    refine z_getIN (j := 6) zc2 dX1_stepsMade_10 (ha1.k 0 rfl) (ha1.lt 0 rfl) (by decide) rfl w251 ?_
    refine z_istoren (L' := [va_rf (some a), va_rf (some a1), .int (zI h a1 6), zU]) dX1_stepsMade_13 rfl (by decide) rfl ?_
    refine z_iconst (v := 1) dX1_stepsMade_14 (by decide) ?_
    refine z_istoren (L' := [va_rf (some a), va_rf (some a1), .int (zI h a1 6), .int 1]) dX1_stepsMade_15 rfl (by decide) rfl ?_
    exact hw6
  · have hw7 := hw.2 (zb0 c5)
    refine z_iconst (v := 0) dX1_stepsMade_7 (by decide) ?_
    exact z_ret (v := some (.int 0)) dX1_stepsMade_8 ⟨_, rfl, rfl⟩ rfl hw7

theorem sX1_stepsMade_16 {l : Launch} {G : zG} {d : Nat} {Q : Option Value → zH → Prop} {k n : Nat} {h : zH} (a : Nat) (a1 : Nat) (x2 : Int32) (x3 : Int32) (ha : lo1 h a) (ha1 : lo2 h a1) (hd9 : 3 ≤ d)
    (hw : (((zI h a1 8).toInt < x3.toInt → Q (some (.int (zI h a1 8))) h) ∧ (x3.toInt ≤ (zI h a1 8).toInt → ((¬ zbes (zI h a 0) (zI h a 1) x2 (zsideAt h a1 x3) (zI h a1 1) = (-1) → Z l G mX1_stepsMade d Q k n 16 [va_rf (some a), va_rf (some a1), .int (zbes (zI h a 0) (zI h a 1) x2 (zsideAt h a1 x3) (zI h a1 1)), .int ((x3 + 1))] [] h) ∧ (zbes (zI h a 0) (zI h a 1) x2 (zsideAt h a1 x3) (zI h a1 1) = (-1) → Q (some (.int ((x3 - 1)))) h))))) :
    Z l G mX1_stepsMade d Q k n 16 [va_rf (some a), va_rf (some a1), .int x2, .int x3] [] h := by
  refine z_iloadn dX1_stepsMade_16 rfl rfl ?_
  refine z_aloadn dX1_stepsMade_17 rfl rfl ?_
  refine z_getIN (j := 8) zc2 dX1_stepsMade_18 (ha1.k 0 rfl) (ha1.lt 0 rfl) (by decide) rfl w261 ?_
  refine z_icmp_gt (t := 54) dX1_stepsMade_21 (by decide) (fun c1 => ?_) (fun c2 => ?_)
  · have hw3 := hw.1 c1
    refine z_aloadn dX1_stepsMade_54 rfl rfl ?_
    refine z_getIN (j := 8) zc2 dX1_stepsMade_55 (ha1.k 0 rfl) (ha1.lt 0 rfl) (by decide) rfl w261 ?_
    exact z_ret (v := some (.int (zI h a1 8))) dX1_stepsMade_58 ⟨_, rfl, rfl⟩ rfl hw3
  · have hw4 := hw.2 c2
    refine z_aloadn dX1_stepsMade_24 rfl rfl ?_
    refine z_iloadn dX1_stepsMade_25 rfl rfl ?_
    refine z_aloadn dX1_stepsMade_26 rfl rfl ?_
    refine z_iloadn dX1_stepsMade_27 rfl rfl ?_
    refine z_callV (h := h) (S := [.int x2, va_rf (some a)]) (a := a1) (M := mX1_stepsMade) (As := [.int x3]) zc2 rfl eX2_sideAt w1024 w37 (Or.inr ⟨_, w1022⟩) dX1_stepsMade_28 (ha1.k 0 rfl) (ha1.lt 0 rfl) rfl (by omega) (Nat.le_of_ble_eq_true rfl) (c_X2_sideAt l G h a1 x3 ha1) (fun v5 g6 q7 => ?_)
    obtain ⟨rfl, q7⟩ := q7
    replace q7 := q7.symm
    subst q7
    show Z l G _ d Q k n 31 _ (.int (zsideAt h a1 x3) :: .int x2 :: va_rf (some a) :: []) _
    refine z_aloadn dX1_stepsMade_31 rfl rfl ?_
    refine z_getIN (j := 1) zc2 dX1_stepsMade_32 (ha1.k 0 rfl) (ha1.lt 0 rfl) (by decide) rfl w231 ?_
    refine z_callV (h := h) (S := []) (a := a) (M := mX1_stepsMade) (As := [.int x2, .int (zsideAt h a1 x3), .int (zI h a1 1)]) zc1 rfl eX1_beside w1030 w38 (Or.inl w1028) dX1_stepsMade_35 (ha.k 0 rfl) (ha.lt 0 rfl) rfl (by omega) (Nat.le_of_ble_eq_true rfl) (c_X1_beside l G h a x2 (zsideAt h a1 x3) (zI h a1 1) ha) (fun v8 g9 q10 => ?_)
    obtain ⟨rfl, q10⟩ := q10
    replace q10 := q10.symm
    subst q10
    show Z l G _ d Q k n 38 _ (.int (zbes (zI h a 0) (zI h a 1) x2 (zsideAt h a1 x3) (zI h a1 1)) :: []) _
    refine z_istoren (L' := [va_rf (some a), va_rf (some a1), .int (zbes (zI h a 0) (zI h a 1) x2 (zsideAt h a1 x3) (zI h a1 1)), .int x3]) dX1_stepsMade_38 rfl (by decide) rfl ?_
    refine z_iloadn dX1_stepsMade_39 rfl rfl ?_
    refine z_iconst (v := (-1)) dX1_stepsMade_40 (by decide) ?_
    refine z_icmp_ne (t := 48) dX1_stepsMade_41 (by decide) (fun c11 => ?_) (fun c12 => ?_)
    · have hw13 := hw4.1 c11
      refine z_iinc (v := (x3 + 1)) (L' := [va_rf (some a), va_rf (some a1), .int (zbes (zI h a 0) (zI h a 1) x2 (zsideAt h a1 x3) (zI h a1 1)), .int ((x3 + 1))]) dX1_stepsMade_48 (by decide) rfl rfl rfl ?_
      refine z_goto (t := 16) dX1_stepsMade_51 (by decide) ?_
      exact hw13
    · have hw14 := hw4.2 c12
      refine z_iloadn dX1_stepsMade_44 rfl rfl ?_
      refine z_iconst (v := 1) dX1_stepsMade_45 (by decide) ?_
      refine z_isub dX1_stepsMade_46 ?_
      exact z_ret (v := some (.int ((x3 - 1)))) dX1_stepsMade_47 ⟨_, rfl, rfl⟩ rfl hw14

theorem kX1_stepsMade {l : Launch} {G : zG} {d : Nat} {Q : Option Value → zH → Prop} {k n : Nat} {h : zH} (a : Nat) (a1 : Nat) (hz : Z l G mX1_stepsMade d Q k n 0 [va_rf (some a), va_rf (some a1), zU, zU] [] h) : CT l G YX1_stepsMade d k n [va_rf (some a), va_rf (some a1)] h Q :=
  CT.of (by decide +kernel) (fun t e => by have e2 : ((some .int) : Option FieldType) = some t := e; cases e2; exact ⟨by decide, by decide⟩) (by exact Nat.le_of_ble_eq_true rfl) (by exact hz)

theorem sX1_spot_0 {l : Launch} {G : zG} {d : Nat} {Q : Option Value → zH → Prop} {k n : Nat} {h : zH} (a : Nat) (x1 : Int32) (x2 : Int32) (ha : lo1 h a) (hd9 : 4 ≤ d)
    (hw : ((zmem h a x1 = none → Q (some (.int ((-1)))) h) ∧ (∀ b5, zmem h a x1 = some b5 → (lo2 h b5 ∧ ((¬ zI h b5 5 = (-1) → ((zmem h a (zI h b5 5) = none → Q (some (.int ((-1)))) h) ∧ (∀ b18, zmem h a (zI h b5 5) = some b18 → (lo2 h b18 ∧ ((¬ zI h b18 5 = (-1) → Q (some (.int (zI h b5 6))) h) ∧ (zI h b18 5 = (-1) → (∃ P27, CTi l G YX1_walkedTo 3 [va_rf (some a), va_rf (some b18), .int x2] h P27 ∧ ∀ (y32 : Int32) (I30 : Nat → Nat → Int32), P27 y32 I30 → Q (some (.int y32)) (I30, h.2)))))))) ∧ (zI h b5 5 = (-1) → (∃ P36, CTi l G YX1_walkedTo 3 [va_rf (some a), va_rf (some b5), .int x2] h P36 ∧ ∀ (y41 : Int32) (I39 : Nat → Nat → Int32), P36 y41 I39 → Q (some (.int y41)) (I39, h.2)))))))) :
    Z l G mX1_spot d Q k n 0 [va_rf (some a), .int x1, .int x2, zU, zU] [] h := by
  refine z_aloadn dX1_spot_0 rfl rfl ?_
  refine z_iloadn dX1_spot_1 rfl rfl ?_
  refine z_callV (h := h) (S := []) (a := a) (M := mX1_spot) (As := [.int x1]) zc1 rfl eX1_member w1011 w34 (Or.inl w1043) dX1_spot_2 (ha.k 0 rfl) (ha.lt 0 rfl) rfl (by omega) (Nat.le_of_ble_eq_true rfl) (c_X1_member l G h a x1 ha) (fun v1 g2 q3 => ?_)
  obtain ⟨rfl, q3⟩ := q3
  replace q3 := q3.symm
  subst q3
  show Z l G _ d Q k n 5 _ (va_rf (zmem h a x1) :: []) _
  refine z_astoren (L' := [va_rf (some a), .int x1, .int x2, va_rf (zmem h a x1), zU]) dX1_spot_5 rfl (by decide) rfl ?_
  refine z_aloadn dX1_spot_6 rfl rfl ?_
  refine z_ifnonnull (t := 12) dX1_spot_7 (by decide) (fun b5 c4 => ?_) (fun c4 => ?_)
  · have hw7 := hw.2 b5 c4
    refine z_aloadn dX1_spot_12 rfl rfl ?_
    refine z_soP [] c4 ?_
    obtain ⟨ho8, hw9⟩ := hw7
    refine z_getIN (j := 5) zc2 dX1_spot_13 (ho8.k 0 rfl) (ho8.lt 0 rfl) (by decide) rfl w246 ?_
    refine z_iconst (v := (-1)) dX1_spot_16 (by decide) ?_
    refine z_icmp_ne (t := 27) dX1_spot_17 (by decide) (fun c10 => ?_) (fun c11 => ?_)
    · have hw12 := hw9.1 c10
      refine z_aloadn dX1_spot_27 rfl rfl ?_
      refine z_aloadn dX1_spot_28 rfl rfl ?_
      refine z_soP [] c4 ?_
      refine z_getIN (j := 5) zc2 dX1_spot_29 (ho8.k 0 rfl) (ho8.lt 0 rfl) (by decide) rfl w246 ?_
      refine z_callV (h := h) (S := []) (a := a) (M := mX1_spot) (As := [.int (zI h b5 5)]) zc1 rfl eX1_member w1011 w34 (Or.inl w1043) dX1_spot_32 (ha.k 0 rfl) (ha.lt 0 rfl) rfl (by omega) (Nat.le_of_ble_eq_true rfl) (c_X1_member l G h a (zI h b5 5) ha) (fun v14 g15 q16 => ?_)
      obtain ⟨rfl, q16⟩ := q16
      replace q16 := q16.symm
      subst q16
      show Z l G _ d Q k n 35 _ (va_rf (zmem h a (zI h b5 5)) :: []) _
      refine z_astore (L' := [va_rf (some a), .int x1, .int x2, va_rf (zmem h a x1), va_rf (zmem h a (zI h b5 5))]) dX1_spot_35 (by decide) ((zs1_rf (j := 3) rfl).trans rfl) ?_
      refine z_aload dX1_spot_37 rfl ?_
      refine z_ifnonnull (t := 44) dX1_spot_39 (by decide) (fun b18 c17 => ?_) (fun c17 => ?_)
      · have hw20 := hw12.2 b18 c17
        refine z_aload dX1_spot_44 rfl ?_
        refine z_soP [] c17 ?_
        obtain ⟨ho21, hw22⟩ := hw20
        refine z_getIN (j := 5) zc2 dX1_spot_46 (ho21.k 0 rfl) (ho21.lt 0 rfl) (by decide) rfl w246 ?_
        refine z_iconst (v := (-1)) dX1_spot_49 (by decide) ?_
        refine z_icmp_ne (t := 63) dX1_spot_50 (by decide) (fun c23 => ?_) (fun c24 => ?_)
        · have hw25 := hw22.1 c23
          refine z_aloadn dX1_spot_63 rfl rfl ?_
          refine z_soP [] c4 ?_
          refine z_getIN (j := 6) zc2 dX1_spot_64 (ho8.k 0 rfl) (ho8.lt 0 rfl) (by decide) rfl w251 ?_
          exact z_ret (v := some (.int (zI h b5 6))) dX1_spot_67 ⟨_, rfl, rfl⟩ rfl hw25
        · have hw26 := hw22.2 c24
          refine z_aloadn dX1_spot_53 rfl rfl ?_
          refine z_aload dX1_spot_54 rfl ?_
          refine z_iloadn dX1_spot_56 rfl rfl ?_
          refine z_soP [.int x2] c17 ?_
          obtain ⟨P27, ct28, hw29⟩ := hw26
          refine z_callV (h := h) (S := []) (a := a) (M := mX1_spot) (As := [va_rf (some b18), .int x2]) zc1 rfl eX1_walkedTo w1046 w40 (Or.inl w1044) dX1_spot_57 (ha.k 0 rfl) (ha.lt 0 rfl) rfl (by omega) (Nat.le_of_ble_eq_true rfl) ct28 (fun v34 g35 q31 => ?_)
          obtain ⟨y32, I30, rfl, rfl, q31⟩ := q31
          have hw33 := hw29 y32 I30 q31
          show Z l G _ d Q k n 60 _ (.int y32 :: []) _
          refine z_goto (t := 67) dX1_spot_60 (by decide) ?_
          exact z_ret (v := some (.int y32)) dX1_spot_67 ⟨_, rfl, rfl⟩ rfl hw33
      · have hw19 := hw12.1 c17
        refine z_iconst (v := (-1)) dX1_spot_42 (by decide) ?_
        exact z_ret (v := some (.int ((-1)))) dX1_spot_43 ⟨_, rfl, rfl⟩ rfl hw19
    · have hw13 := hw9.2 c11
      refine z_aloadn dX1_spot_20 rfl rfl ?_
      refine z_aloadn dX1_spot_21 rfl rfl ?_
      refine z_iloadn dX1_spot_22 rfl rfl ?_
      refine z_soP [.int x2] c4 ?_
      obtain ⟨P36, ct37, hw38⟩ := hw13
      refine z_callV (h := h) (S := []) (a := a) (M := mX1_spot) (As := [va_rf (some b5), .int x2]) zc1 rfl eX1_walkedTo w1046 w40 (Or.inl w1044) dX1_spot_23 (ha.k 0 rfl) (ha.lt 0 rfl) rfl (by omega) (Nat.le_of_ble_eq_true rfl) ct37 (fun v43 g44 q40 => ?_)
      obtain ⟨y41, I39, rfl, rfl, q40⟩ := q40
      have hw42 := hw38 y41 I39 q40
      show Z l G _ d Q k n 26 _ (.int y41 :: []) _
      exact z_ret (v := some (.int y41)) dX1_spot_26 ⟨_, rfl, rfl⟩ rfl hw42
  · have hw6 := hw.1 c4
    refine z_iconst (v := (-1)) dX1_spot_10 (by decide) ?_
    exact z_ret (v := some (.int ((-1)))) dX1_spot_11 ⟨_, rfl, rfl⟩ rfl hw6

theorem kX1_spot {l : Launch} {G : zG} {d : Nat} {Q : Option Value → zH → Prop} {k n : Nat} {h : zH} (a : Nat) (x1 : Int32) (x2 : Int32) (hz : Z l G mX1_spot d Q k n 0 [va_rf (some a), .int x1, .int x2, zU, zU] [] h) : CT l G YX1_spot d k n [va_rf (some a), .int x1, .int x2] h Q :=
  CT.of (by decide +kernel) (fun t e => by have e2 : ((some .int) : Option FieldType) = some t := e; cases e2; exact ⟨by decide, by decide⟩) (by exact Nat.le_of_ble_eq_true rfl) (by exact hz)

theorem sX1_walkedTo_0 {l : Launch} {G : zG} {d : Nat} {Q : Option Value → zH → Prop} {k n : Nat} {h : zH} (a : Nat) (a1 : Nat) (x2 : Int32) (ha : lo1 h a) (ha1 : lo2 h a1) (hd9 : 3 ≤ d)
    (hw : ((zI h a1 6 = (-1) → Q (some (.int ((-1)))) h) ∧ (¬ zI h a1 6 = (-1) → (((zI h a1 7).toInt ≤ x2.toInt → Z l G mX1_walkedTo d Q k n 26 [va_rf (some a), va_rf (some a1), .int x2, .int (zI h a1 6), .int 1, zU] [] h) ∧ (x2.toInt < (zI h a1 7).toInt → Q (some (.int ((-1)))) h))))) :
    Z l G mX1_walkedTo d Q k n 0 [va_rf (some a), va_rf (some a1), .int x2, zU, zU, zU] [] h := by
  refine z_aloadn dX1_walkedTo_0 rfl rfl ?_
  refine z_getIN (j := 6) zc2 dX1_walkedTo_1 (ha1.k 0 rfl) (ha1.lt 0 rfl) (by decide) rfl w251 ?_
  refine z_iconst (v := (-1)) dX1_walkedTo_4 (by decide) ?_
  refine z_icmp_eq (t := 16) dX1_walkedTo_5 (by decide) (fun c1 => ?_) (fun c2 => ?_)
  · have hw3 := hw.1 c1
    refine z_iconst (v := (-1)) dX1_walkedTo_16 (by decide) ?_
    exact z_ret (v := some (.int ((-1)))) dX1_walkedTo_17 ⟨_, rfl, rfl⟩ rfl hw3
  · have hw4 := hw.2 c2
    refine z_iloadn dX1_walkedTo_8 rfl rfl ?_
    refine z_aloadn dX1_walkedTo_9 rfl rfl ?_
    refine z_getIN (j := 7) zc2 dX1_walkedTo_10 (ha1.k 0 rfl) (ha1.lt 0 rfl) (by decide) rfl w257 ?_
    refine z_icmp_ge (t := 18) dX1_walkedTo_13 (by decide) (fun c5 => ?_) (fun c6 => ?_)
    · have hw7 := hw4.1 c5
      refine z_aloadn dX1_walkedTo_18 rfl rfl ?_
      refine z_getIN (j := 6) zc2 dX1_walkedTo_19 (ha1.k 0 rfl) (ha1.lt 0 rfl) (by decide) rfl w251 ?_
      refine z_istoren (L' := [va_rf (some a), va_rf (some a1), .int x2, .int (zI h a1 6), zU, zU]) dX1_walkedTo_22 rfl (by decide) rfl ?_
      refine z_iconst (v := 1) dX1_walkedTo_23 (by decide) ?_
      refine z_istore (L' := [va_rf (some a), va_rf (some a1), .int x2, .int (zI h a1 6), .int 1, zU]) dX1_walkedTo_24 (by decide) rfl ?_
      exact hw7
    · have hw8 := hw4.2 c6
      refine z_iconst (v := (-1)) dX1_walkedTo_16 (by decide) ?_
      exact z_ret (v := some (.int ((-1)))) dX1_walkedTo_17 ⟨_, rfl, rfl⟩ rfl hw8

theorem sX1_walkedTo_26 {l : Launch} {G : zG} {d : Nat} {Q : Option Value → zH → Prop} {k n : Nat} {h : zH} (a : Nat) (a1 : Nat) (x2 : Int32) (x3 : Int32) (x4 : Int32) (u5 : Value) (ha : lo1 h a) (ha1 : lo2 h a1) (hd9 : 3 ≤ d)
    (hw : (((zI h a1 8).toInt < x4.toInt → Q (some (.int x3)) h) ∧ (x4.toInt ≤ (zI h a1 8).toInt → (((x2 - (zI h a1 7)).toInt < x4.toInt → Q (some (.int x3)) h) ∧ (x4.toInt ≤ (x2 - (zI h a1 7)).toInt → ((¬ zbes (zI h a 0) (zI h a 1) x3 (zsideAt h a1 x4) (zI h a1 1) = (-1) → Z l G mX1_walkedTo d Q k n 26 [va_rf (some a), va_rf (some a1), .int x2, .int (zbes (zI h a 0) (zI h a 1) x3 (zsideAt h a1 x4) (zI h a1 1)), .int ((x4 + 1)), .int (zbes (zI h a 0) (zI h a 1) x3 (zsideAt h a1 x4) (zI h a1 1))] [] h) ∧ (zbes (zI h a 0) (zI h a 1) x3 (zsideAt h a1 x4) (zI h a1 1) = (-1) → Q (some (.int x3)) h))))))) :
    Z l G mX1_walkedTo d Q k n 26 [va_rf (some a), va_rf (some a1), .int x2, .int x3, .int x4, u5] [] h := by
  refine z_iload dX1_walkedTo_26 rfl ?_
  refine z_aloadn dX1_walkedTo_28 rfl rfl ?_
  refine z_getIN (j := 8) zc2 dX1_walkedTo_29 (ha1.k 0 rfl) (ha1.lt 0 rfl) (by decide) rfl w261 ?_
  refine z_icmp_gt (t := 80) dX1_walkedTo_32 (by decide) (fun c1 => ?_) (fun c2 => ?_)
  · have hw3 := hw.1 c1
    refine z_iloadn dX1_walkedTo_80 rfl rfl ?_
    exact z_ret (v := some (.int x3)) dX1_walkedTo_81 ⟨_, rfl, rfl⟩ rfl hw3
  · have hw4 := hw.2 c2
    refine z_iload dX1_walkedTo_35 rfl ?_
    refine z_iloadn dX1_walkedTo_37 rfl rfl ?_
    refine z_aloadn dX1_walkedTo_38 rfl rfl ?_
    refine z_getIN (j := 7) zc2 dX1_walkedTo_39 (ha1.k 0 rfl) (ha1.lt 0 rfl) (by decide) rfl w257 ?_
    refine z_isub dX1_walkedTo_42 ?_
    refine z_icmp_gt (t := 80) dX1_walkedTo_43 (by decide) (fun c5 => ?_) (fun c6 => ?_)
    · have hw7 := hw4.1 c5
      refine z_iloadn dX1_walkedTo_80 rfl rfl ?_
      exact z_ret (v := some (.int x3)) dX1_walkedTo_81 ⟨_, rfl, rfl⟩ rfl hw7
    · have hw8 := hw4.2 c6
      refine z_aloadn dX1_walkedTo_46 rfl rfl ?_
      refine z_iloadn dX1_walkedTo_47 rfl rfl ?_
      refine z_aloadn dX1_walkedTo_48 rfl rfl ?_
      refine z_iload dX1_walkedTo_49 rfl ?_
      refine z_callV (h := h) (S := [.int x3, va_rf (some a)]) (a := a1) (M := mX1_walkedTo) (As := [.int x4]) zc2 rfl eX2_sideAt w1024 w37 (Or.inr ⟨_, w1022⟩) dX1_walkedTo_51 (ha1.k 0 rfl) (ha1.lt 0 rfl) rfl (by omega) (Nat.le_of_ble_eq_true rfl) (c_X2_sideAt l G h a1 x4 ha1) (fun v9 g10 q11 => ?_)
      obtain ⟨rfl, q11⟩ := q11
      replace q11 := q11.symm
      subst q11
      show Z l G _ d Q k n 54 _ (.int (zsideAt h a1 x4) :: .int x3 :: va_rf (some a) :: []) _
      refine z_aloadn dX1_walkedTo_54 rfl rfl ?_
      refine z_getIN (j := 1) zc2 dX1_walkedTo_55 (ha1.k 0 rfl) (ha1.lt 0 rfl) (by decide) rfl w231 ?_
      refine z_callV (h := h) (S := []) (a := a) (M := mX1_walkedTo) (As := [.int x3, .int (zsideAt h a1 x4), .int (zI h a1 1)]) zc1 rfl eX1_beside w1030 w38 (Or.inl w1028) dX1_walkedTo_58 (ha.k 0 rfl) (ha.lt 0 rfl) rfl (by omega) (Nat.le_of_ble_eq_true rfl) (c_X1_beside l G h a x3 (zsideAt h a1 x4) (zI h a1 1) ha) (fun v12 g13 q14 => ?_)
      obtain ⟨rfl, q14⟩ := q14
      replace q14 := q14.symm
      subst q14
      show Z l G _ d Q k n 61 _ (.int (zbes (zI h a 0) (zI h a 1) x3 (zsideAt h a1 x4) (zI h a1 1)) :: []) _
      refine z_istore (L' := [va_rf (some a), va_rf (some a1), .int x2, .int x3, .int x4, .int (zbes (zI h a 0) (zI h a 1) x3 (zsideAt h a1 x4) (zI h a1 1))]) dX1_walkedTo_61 (by decide) rfl ?_
      refine z_iload dX1_walkedTo_63 rfl ?_
      refine z_iconst (v := (-1)) dX1_walkedTo_65 (by decide) ?_
      refine z_icmp_ne (t := 71) dX1_walkedTo_66 (by decide) (fun c15 => ?_) (fun c16 => ?_)
      · have hw17 := hw8.1 c15
        refine z_iload dX1_walkedTo_71 rfl ?_
        refine z_istoren (L' := [va_rf (some a), va_rf (some a1), .int x2, .int (zbes (zI h a 0) (zI h a 1) x3 (zsideAt h a1 x4) (zI h a1 1)), .int x4, .int (zbes (zI h a 0) (zI h a 1) x3 (zsideAt h a1 x4) (zI h a1 1))]) dX1_walkedTo_73 rfl (by decide) rfl ?_
        refine z_iinc (v := (x4 + 1)) (L' := [va_rf (some a), va_rf (some a1), .int x2, .int (zbes (zI h a 0) (zI h a 1) x3 (zsideAt h a1 x4) (zI h a1 1)), .int ((x4 + 1)), .int (zbes (zI h a 0) (zI h a 1) x3 (zsideAt h a1 x4) (zI h a1 1))]) dX1_walkedTo_74 (by decide) rfl rfl rfl ?_
        refine z_goto (t := 26) dX1_walkedTo_77 (by decide) ?_
        exact hw17
      · have hw18 := hw8.2 c16
        refine z_iloadn dX1_walkedTo_69 rfl rfl ?_
        exact z_ret (v := some (.int x3)) dX1_walkedTo_70 ⟨_, rfl, rfl⟩ rfl hw18

theorem kX1_walkedTo {l : Launch} {G : zG} {d : Nat} {Q : Option Value → zH → Prop} {k n : Nat} {h : zH} (a : Nat) (a1 : Nat) (x2 : Int32) (hz : Z l G mX1_walkedTo d Q k n 0 [va_rf (some a), va_rf (some a1), .int x2, zU, zU, zU] [] h) : CT l G YX1_walkedTo d k n [va_rf (some a), va_rf (some a1), .int x2] h Q :=
  CT.of (by decide +kernel) (fun t e => by have e2 : ((some .int) : Option FieldType) = some t := e; cases e2; exact ⟨by decide, by decide⟩) (by exact Nat.le_of_ble_eq_true rfl) (by exact hz)

theorem sX1_isIn_0 {l : Launch} {G : zG} {d : Nat} {Q : Option Value → zH → Prop} {k n : Nat} {h : zH} (a : Nat) (x1 : Int32) (x2 : Int32) (x3 : Int32) (x4 : Int32) (ha : lo1 h a) (hd9 : 5 ≤ d)
    (hw : Z l G mX1_isIn d Q k n 3 [va_rf (some a), .int x1, .int x2, .int x3, .int x4, .int x3] [] h) :
    Z l G mX1_isIn d Q k n 0 [va_rf (some a), .int x1, .int x2, .int x3, .int x4, zU] [] h := by
  refine z_iloadn dX1_isIn_0 rfl rfl ?_
  refine z_istore (L' := [va_rf (some a), .int x1, .int x2, .int x3, .int x4, .int x3]) dX1_isIn_1 (by decide) rfl ?_
  exact hw

theorem sX1_isIn_3 {l : Launch} {G : zG} {d : Nat} {Q : Option Value → zH → Prop} {k n : Nat} {h : zH} (a : Nat) (x1 : Int32) (x2 : Int32) (x3 : Int32) (x4 : Int32) (x5 : Int32) (ha : lo1 h a) (hd9 : 5 ≤ d)
    (hw : ((x4.toInt < x5.toInt → Q (some (.int 0)) h) ∧ (x5.toInt ≤ x4.toInt → (∃ P5, CTi l G YX1_spot 4 [va_rf (some a), .int x1, .int x5] h P5 ∧ ∀ (y10 : Int32) (I8 : Nat → Nat → Int32), P5 y10 I8 → ((¬ y10 = x2 → Z l G mX1_isIn d Q k n 3 [va_rf (some a), .int x1, .int x2, .int x3, .int x4, .int ((x5 + 1))] [] (I8, h.2)) ∧ (y10 = x2 → Q (some (.int 1)) (I8, h.2))))))) :
    Z l G mX1_isIn d Q k n 3 [va_rf (some a), .int x1, .int x2, .int x3, .int x4, .int x5] [] h := by
  refine z_iload dX1_isIn_3 rfl ?_
  refine z_iload dX1_isIn_5 rfl ?_
  refine z_icmp_gt (t := 29) dX1_isIn_7 (by decide) (fun c1 => ?_) (fun c2 => ?_)
  · have hw3 := hw.1 c1
    refine z_iconst (v := 0) dX1_isIn_29 (by decide) ?_
    exact z_ret (v := some (.int 0)) dX1_isIn_30 ⟨_, rfl, by decide⟩ rfl hw3
  · have hw4 := hw.2 c2
    refine z_aloadn dX1_isIn_10 rfl rfl ?_
    refine z_iloadn dX1_isIn_11 rfl rfl ?_
    refine z_iload dX1_isIn_12 rfl ?_
    obtain ⟨P5, ct6, hw7⟩ := hw4
    refine z_callV (h := h) (S := []) (a := a) (M := mX1_isIn) (As := [.int x1, .int x5]) zc1 rfl eX1_spot w1041 w39 (Or.inl w1177) dX1_isIn_14 (ha.k 0 rfl) (ha.lt 0 rfl) rfl (by omega) (Nat.le_of_ble_eq_true rfl) ct6 (fun v12 g13 q9 => ?_)
    obtain ⟨y10, I8, rfl, rfl, q9⟩ := q9
    have hw11 := hw7 y10 I8 q9
    show Z l G _ d Q k n 17 _ (.int y10 :: []) _
    refine z_iloadn dX1_isIn_17 rfl rfl ?_
    refine z_icmp_ne (t := 23) dX1_isIn_18 (by decide) (fun c14 => ?_) (fun c15 => ?_)
    · have hw16 := hw11.1 c14
      refine z_iinc (v := (x5 + 1)) (L' := [va_rf (some a), .int x1, .int x2, .int x3, .int x4, .int ((x5 + 1))]) dX1_isIn_23 (by decide) rfl rfl rfl ?_
      refine z_goto (t := 3) dX1_isIn_26 (by decide) ?_
      exact hw16
    · have hw17 := hw11.2 c15
      refine z_iconst (v := 1) dX1_isIn_21 (by decide) ?_
      exact z_ret (v := some (.int 1)) dX1_isIn_22 ⟨_, rfl, by decide⟩ rfl hw17

theorem kX1_isIn {l : Launch} {G : zG} {d : Nat} {Q : Option Value → zH → Prop} {k n : Nat} {h : zH} (a : Nat) (x1 : Int32) (x2 : Int32) (x3 : Int32) (x4 : Int32) (hz : Z l G mX1_isIn d Q k n 0 [va_rf (some a), .int x1, .int x2, .int x3, .int x4, zU] [] h) : CT l G YX1_isIn d k n [va_rf (some a), .int x1, .int x2, .int x3, .int x4] h Q :=
  CT.of (by decide +kernel) (fun t e => by have e2 : ((some .boolean) : Option FieldType) = some t := e; cases e2; exact ⟨by decide, by decide⟩) (by exact Nat.le_of_ble_eq_true rfl) (by exact hz)

theorem sX1_loadOf_0 {l : Launch} {G : zG} {d : Nat} {Q : Option Value → zH → Prop} {k n : Nat} {h : zH} (a : Nat) (x1 : Int32) (ha : lo1 h a) (hd9 : 3 ≤ d)
    (hw : Z l G mX1_loadOf d Q k n 7 [va_rf (some a), .int x1, .int (zI h a 2), .int 0, zU] [] h) :
    Z l G mX1_loadOf d Q k n 0 [va_rf (some a), .int x1, zU, zU, zU] [] h := by
  refine z_aloadn dX1_loadOf_0 rfl rfl ?_
  refine z_getI (j := 2) zc1 dX1_loadOf_1 (ha.k 0 rfl) (ha.lt 0 rfl) (by decide) rfl w308 ?_
  refine z_istoren (L' := [va_rf (some a), .int x1, .int (zI h a 2), zU, zU]) dX1_loadOf_4 rfl (by decide) rfl ?_
  refine z_iconst (v := 0) dX1_loadOf_5 (by decide) ?_
  refine z_istoren (L' := [va_rf (some a), .int x1, .int (zI h a 2), .int 0, zU]) dX1_loadOf_6 rfl (by decide) rfl ?_
  exact hw

theorem sX1_loadOf_7 {l : Launch} {G : zG} {d : Nat} {Q : Option Value → zH → Prop} {k n : Nat} {h : zH} (a : Nat) (x1 : Int32) (x2 : Int32) (x3 : Int32) (u4 : Value) (ha : lo1 h a) (hd9 : 3 ≤ d)
    (hw : (((zI h a 3).toInt ≤ x3.toInt → Q (some (.int x2)) h) ∧ (x3.toInt < (zI h a 3).toInt → ((zmem h a x3 = none → Z l G mX1_loadOf d Q k n 7 [va_rf (some a), .int x1, .int x2, .int ((x3 + 1)), va_rf (zmem h a x3)] [] h) ∧ (∀ b9, zmem h a x3 = some b9 → ((x3 = x1 → (lo2 h b9 ∧ Z l G mX1_loadOf d Q k n 7 [va_rf (some a), .int x1, .int ((x2 + (zI h b9 2))), .int ((x3 + 1)), va_rf (zmem h a x3)] [] h)) ∧ (¬ x3 = x1 → (lo2 h b9 ∧ ((¬ zI h b9 5 = x1 → Z l G mX1_loadOf d Q k n 7 [va_rf (some a), .int x1, .int x2, .int ((x3 + 1)), va_rf (zmem h a x3)] [] h) ∧ (zI h b9 5 = x1 → Z l G mX1_loadOf d Q k n 7 [va_rf (some a), .int x1, .int ((x2 + (zI h b9 2))), .int ((x3 + 1)), va_rf (zmem h a x3)] [] h)))))))))) :
    Z l G mX1_loadOf d Q k n 7 [va_rf (some a), .int x1, .int x2, .int x3, u4] [] h := by
  refine z_iloadn dX1_loadOf_7 rfl rfl ?_
  refine z_aloadn dX1_loadOf_8 rfl rfl ?_
  refine z_getI (j := 3) zc1 dX1_loadOf_9 (ha.k 0 rfl) (ha.lt 0 rfl) (by decide) rfl w312 ?_
  refine z_icmp_ge (t := 55) dX1_loadOf_12 (by decide) (fun c1 => ?_) (fun c2 => ?_)
  · have hw3 := hw.1 c1
    refine z_iloadn dX1_loadOf_55 rfl rfl ?_
    exact z_ret (v := some (.int x2)) dX1_loadOf_56 ⟨_, rfl, rfl⟩ rfl hw3
  · have hw4 := hw.2 c2
    refine z_aloadn dX1_loadOf_15 rfl rfl ?_
    refine z_iloadn dX1_loadOf_16 rfl rfl ?_
    refine z_callV (h := h) (S := []) (a := a) (M := mX1_loadOf) (As := [.int x3]) zc1 rfl eX1_member w1011 w34 (Or.inl w1043) dX1_loadOf_17 (ha.k 0 rfl) (ha.lt 0 rfl) rfl (by omega) (Nat.le_of_ble_eq_true rfl) (c_X1_member l G h a x3 ha) (fun v5 g6 q7 => ?_)
    obtain ⟨rfl, q7⟩ := q7
    replace q7 := q7.symm
    subst q7
    show Z l G _ d Q k n 20 _ (va_rf (zmem h a x3) :: []) _
    refine z_astore (L' := [va_rf (some a), .int x1, .int x2, .int x3, va_rf (zmem h a x3)]) dX1_loadOf_20 (by decide) rfl ?_
    refine z_aload dX1_loadOf_22 rfl ?_
    refine z_ifnull (t := 49) dX1_loadOf_24 (by decide) (fun c8 => ?_) (fun b9 c8 => ?_)
    · have hw10 := hw4.1 c8
      refine z_iinc (v := (x3 + 1)) (L' := [va_rf (some a), .int x1, .int x2, .int ((x3 + 1)), va_rf (zmem h a x3)]) dX1_loadOf_49 (by decide) rfl rfl rfl ?_
      refine z_goto (t := 7) dX1_loadOf_52 (by decide) ?_
      exact hw10
    · have hw11 := hw4.2 b9 c8
      refine z_iloadn dX1_loadOf_27 rfl rfl ?_
      refine z_iloadn dX1_loadOf_28 rfl rfl ?_
      refine z_icmp_eq (t := 41) dX1_loadOf_29 (by decide) (fun c12 => ?_) (fun c13 => ?_)
      · have hw14 := hw11.1 c12
        refine z_iloadn dX1_loadOf_41 rfl rfl ?_
        refine z_aload dX1_loadOf_42 rfl ?_
        refine z_soP [] c8 ?_
        obtain ⟨ho16, hw17⟩ := hw14
        refine z_getIN (j := 2) zc2 dX1_loadOf_44 (ho16.k 0 rfl) (ho16.lt 0 rfl) (by decide) rfl w236 ?_
        refine z_iadd dX1_loadOf_47 ?_
        refine z_istoren (L' := [va_rf (some a), .int x1, .int ((x2 + (zI h b9 2))), .int x3, va_rf (zmem h a x3)]) dX1_loadOf_48 rfl (by decide) rfl ?_
        refine z_iinc (v := (x3 + 1)) (L' := [va_rf (some a), .int x1, .int ((x2 + (zI h b9 2))), .int ((x3 + 1)), va_rf (zmem h a x3)]) dX1_loadOf_49 (by decide) rfl rfl rfl ?_
        refine z_goto (t := 7) dX1_loadOf_52 (by decide) ?_
        exact hw17
      · have hw15 := hw11.2 c13
        refine z_aload dX1_loadOf_32 rfl ?_
        refine z_soP [] c8 ?_
        obtain ⟨ho18, hw19⟩ := hw15
        refine z_getIN (j := 5) zc2 dX1_loadOf_34 (ho18.k 0 rfl) (ho18.lt 0 rfl) (by decide) rfl w246 ?_
        refine z_iloadn dX1_loadOf_37 rfl rfl ?_
        refine z_icmp_ne (t := 49) dX1_loadOf_38 (by decide) (fun c20 => ?_) (fun c21 => ?_)
        · have hw22 := hw19.1 c20
          refine z_iinc (v := (x3 + 1)) (L' := [va_rf (some a), .int x1, .int x2, .int ((x3 + 1)), va_rf (zmem h a x3)]) dX1_loadOf_49 (by decide) rfl rfl rfl ?_
          refine z_goto (t := 7) dX1_loadOf_52 (by decide) ?_
          exact hw22
        · have hw23 := hw19.2 c21
          refine z_iloadn dX1_loadOf_41 rfl rfl ?_
          refine z_aload dX1_loadOf_42 rfl ?_
          refine z_soP [] c8 ?_
          refine z_getIN (j := 2) zc2 dX1_loadOf_44 (ho18.k 0 rfl) (ho18.lt 0 rfl) (by decide) rfl w236 ?_
          refine z_iadd dX1_loadOf_47 ?_
          refine z_istoren (L' := [va_rf (some a), .int x1, .int ((x2 + (zI h b9 2))), .int x3, va_rf (zmem h a x3)]) dX1_loadOf_48 rfl (by decide) rfl ?_
          refine z_iinc (v := (x3 + 1)) (L' := [va_rf (some a), .int x1, .int ((x2 + (zI h b9 2))), .int ((x3 + 1)), va_rf (zmem h a x3)]) dX1_loadOf_49 (by decide) rfl rfl rfl ?_
          refine z_goto (t := 7) dX1_loadOf_52 (by decide) ?_
          exact hw23

theorem kX1_loadOf {l : Launch} {G : zG} {d : Nat} {Q : Option Value → zH → Prop} {k n : Nat} {h : zH} (a : Nat) (x1 : Int32) (hz : Z l G mX1_loadOf d Q k n 0 [va_rf (some a), .int x1, zU, zU, zU] [] h) : CT l G YX1_loadOf d k n [va_rf (some a), .int x1] h Q :=
  CT.of (by decide +kernel) (fun t e => by have e2 : ((some .int) : Option FieldType) = some t := e; cases e2; exact ⟨by decide, by decide⟩) (by exact Nat.le_of_ble_eq_true rfl) (by exact hz)

theorem sX2_clear_0 {l : Launch} {G : zG} {d : Nat} {Q : Option Value → zH → Prop} {k n : Nat} {h : zH} (a : Nat) (ha : lo2 h a) (hd9 : 2 ≤ d)
    (hw : (∀ I1 : Nat → Nat → Int32, I1 = (zwI h a 4 (0 : Int32)).1 → (∀ I4 : Nat → Nat → Int32, I4 = (zwI (I1, h.2) a 5 (-1 : Int32)).1 → (∃ P7, CTv l G YX2_stay 1 [va_rf (some a)] (I4, h.2) P7 ∧ ∀ (I10 : Nat → Nat → Int32), P7 I10 → Q none (I10, h.2))))) :
    Z l G mX2_clear d Q k n 0 [va_rf (some a)] [] h := by
  refine z_aloadn dX2_clear_0 rfl rfl ?_
  refine z_iconst (v := 0) dX2_clear_1 (by decide) ?_
  refine z_putI (j := 4) zc2 dX2_clear_2 (ha.k 0 rfl) (ha.lt 0 rfl) (by decide) rfl rfl (Or.inl rfl) (Or.inl w240) ?_
  refine z_nm (r := h.2) rfl (fun I1 e2 => ?_)
  have hw3 := hw I1 e2
  refine z_aloadn dX2_clear_5 rfl rfl ?_
  refine z_iconst (v := (-1)) dX2_clear_6 (by decide) ?_
  refine z_putI (j := 5) zc2 dX2_clear_7 (ha.k 0 rfl) (ha.lt 0 rfl) (by decide) rfl rfl (Or.inl rfl) (Or.inl w244) ?_
  refine z_nm (r := h.2) rfl (fun I4 e5 => ?_)
  have hw6 := hw3 I4 e5
  refine z_aloadn dX2_clear_10 rfl rfl ?_
  obtain ⟨P7, ct8, hw9⟩ := hw6
  refine z_callV (h := (I4, h.2)) (S := []) (a := a) (M := mX2_clear) (As := []) zc2 rfl eX2_stay w297 w2 (Or.inl w295) dX2_clear_11 (ha.k 0 rfl) (ha.lt 0 rfl) rfl (by omega) (Nat.le_of_ble_eq_true rfl) ct8 (fun v14 g15 q11 => ?_)
  obtain ⟨I10, rfl, rfl, q11⟩ := q11
  have hw13 := hw9 I10 q11
  show Z l G _ d Q k n 14 _ ([]) _
  exact z_ret (v := none) dX2_clear_14 rfl rfl hw13

theorem kX2_clear {l : Launch} {G : zG} {d : Nat} {Q : Option Value → zH → Prop} {k n : Nat} {h : zH} (a : Nat) (hz : Z l G mX2_clear d Q k n 0 [va_rf (some a)] [] h) : CT l G YX2_clear d k n [va_rf (some a)] h Q :=
  CT.of (by decide +kernel) (fun t e => by cases e) (by exact Nat.le_of_ble_eq_true rfl) (by exact hz)

theorem sX2_copyFrom_0 {l : Launch} {G : zG} {d : Nat} {Q : Option Value → zH → Prop} {k n : Nat} {h : zH} (a : Nat) (a1 : Nat) (ha : lo2 h a) (ha1 : lo2 h a1) (hd9 : 3 ≤ d)
    (hw : (∀ I1 : Nat → Nat → Int32, I1 = (zwI h a 0 (zI h a1 0)).1 → (∀ I4 : Nat → Nat → Int32, I4 = (zwI (I1, h.2) a 1 (zI (I1, h.2) a1 1)).1 → (∀ I7 : Nat → Nat → Int32, I7 = (zwI (I4, h.2) a 2 (zI (I4, h.2) a1 2)).1 → (∀ I10 : Nat → Nat → Int32, I10 = (zwI (I7, h.2) a 3 (zI (I7, h.2) a1 3)).1 → (∀ I13 : Nat → Nat → Int32, I13 = (zwI (I10, h.2) a 4 (zI (I10, h.2) a1 4)).1 → (∀ I16 : Nat → Nat → Int32, I16 = (zwI (I13, h.2) a 5 (zI (I13, h.2) a1 5)).1 → (∀ I19 : Nat → Nat → Int32, I19 = (zwI (I16, h.2) a 6 (zI (I16, h.2) a1 6)).1 → (∀ I22 : Nat → Nat → Int32, I22 = (zwI (I19, h.2) a 7 (zI (I19, h.2) a1 7)).1 → (∀ I25 : Nat → Nat → Int32, I25 = (zwI (I22, h.2) a 8 (zI (I22, h.2) a1 8)).1 → (∃ P28, CTv l G YX10_copy 2 [va_rf (some (a1 + 1)), va_rf (some (a + 1))] (I25, h.2) P28 ∧ ∀ (I31 : Nat → Nat → Int32), P28 I31 → Q none (I31, h.2)))))))))))) :
    Z l G mX2_copyFrom d Q k n 0 [va_rf (some a), va_rf (some a1)] [] h := by
  refine z_aloadn dX2_copyFrom_0 rfl rfl ?_
  refine z_aloadn dX2_copyFrom_1 rfl rfl ?_
  refine z_getI (j := 0) zc2 dX2_copyFrom_2 (ha1.k 0 rfl) (ha1.lt 0 rfl) (by decide) rfl w221 ?_
  refine z_putI (j := 0) zc2 dX2_copyFrom_5 (ha.k 0 rfl) (ha.lt 0 rfl) (by decide) rfl rfl (Or.inl rfl) (Or.inl w221) ?_
  refine z_nm (r := h.2) rfl (fun I1 e2 => ?_)
  have hw3 := hw I1 e2
  refine z_aloadn dX2_copyFrom_8 rfl rfl ?_
  refine z_aloadn dX2_copyFrom_9 rfl rfl ?_
  refine z_getI (j := 1) zc2 dX2_copyFrom_10 (ha1.k 0 rfl) (ha1.lt 0 rfl) (by decide) rfl w226 ?_
  refine z_putI (j := 1) zc2 dX2_copyFrom_13 (ha.k 0 rfl) (ha.lt 0 rfl) (by decide) rfl rfl (Or.inl rfl) (Or.inl w226) ?_
  refine z_nm (r := h.2) rfl (fun I4 e5 => ?_)
  have hw6 := hw3 I4 e5
  refine z_aloadn dX2_copyFrom_16 rfl rfl ?_
  refine z_aloadn dX2_copyFrom_17 rfl rfl ?_
  refine z_getI (j := 2) zc2 dX2_copyFrom_18 (ha1.k 0 rfl) (ha1.lt 0 rfl) (by decide) rfl w232 ?_
  refine z_putI (j := 2) zc2 dX2_copyFrom_21 (ha.k 0 rfl) (ha.lt 0 rfl) (by decide) rfl rfl (Or.inl rfl) (Or.inl w232) ?_
  refine z_nm (r := h.2) rfl (fun I7 e8 => ?_)
  have hw9 := hw6 I7 e8
  refine z_aloadn dX2_copyFrom_24 rfl rfl ?_
  refine z_aloadn dX2_copyFrom_25 rfl rfl ?_
  refine z_getI (j := 3) zc2 dX2_copyFrom_26 (ha1.k 0 rfl) (ha1.lt 0 rfl) (by decide) rfl w237 ?_
  refine z_putI (j := 3) zc2 dX2_copyFrom_29 (ha.k 0 rfl) (ha.lt 0 rfl) (by decide) rfl rfl (Or.inl rfl) (Or.inl w237) ?_
  refine z_nm (r := h.2) rfl (fun I10 e11 => ?_)
  have hw12 := hw9 I10 e11
  refine z_aloadn dX2_copyFrom_32 rfl rfl ?_
  refine z_aloadn dX2_copyFrom_33 rfl rfl ?_
  refine z_getI (j := 4) zc2 dX2_copyFrom_34 (ha1.k 0 rfl) (ha1.lt 0 rfl) (by decide) rfl w240 ?_
  refine z_putI (j := 4) zc2 dX2_copyFrom_37 (ha.k 0 rfl) (ha.lt 0 rfl) (by decide) rfl rfl (Or.inl rfl) (Or.inl w240) ?_
  refine z_nm (r := h.2) rfl (fun I13 e14 => ?_)
  have hw15 := hw12 I13 e14
  refine z_aloadn dX2_copyFrom_40 rfl rfl ?_
  refine z_aloadn dX2_copyFrom_41 rfl rfl ?_
  refine z_getI (j := 5) zc2 dX2_copyFrom_42 (ha1.k 0 rfl) (ha1.lt 0 rfl) (by decide) rfl w244 ?_
  refine z_putI (j := 5) zc2 dX2_copyFrom_45 (ha.k 0 rfl) (ha.lt 0 rfl) (by decide) rfl rfl (Or.inl rfl) (Or.inl w244) ?_
  refine z_nm (r := h.2) rfl (fun I16 e17 => ?_)
  have hw18 := hw15 I16 e17
  refine z_aloadn dX2_copyFrom_48 rfl rfl ?_
  refine z_aloadn dX2_copyFrom_49 rfl rfl ?_
  refine z_getI (j := 6) zc2 dX2_copyFrom_50 (ha1.k 0 rfl) (ha1.lt 0 rfl) (by decide) rfl w248 ?_
  refine z_putI (j := 6) zc2 dX2_copyFrom_53 (ha.k 0 rfl) (ha.lt 0 rfl) (by decide) rfl rfl (Or.inl rfl) (Or.inl w248) ?_
  refine z_nm (r := h.2) rfl (fun I19 e20 => ?_)
  have hw21 := hw18 I19 e20
  refine z_aloadn dX2_copyFrom_56 rfl rfl ?_
  refine z_aloadn dX2_copyFrom_57 rfl rfl ?_
  refine z_getI (j := 7) zc2 dX2_copyFrom_58 (ha1.k 0 rfl) (ha1.lt 0 rfl) (by decide) rfl w253 ?_
  refine z_putI (j := 7) zc2 dX2_copyFrom_61 (ha.k 0 rfl) (ha.lt 0 rfl) (by decide) rfl rfl (Or.inl rfl) (Or.inl w253) ?_
  refine z_nm (r := h.2) rfl (fun I22 e23 => ?_)
  have hw24 := hw21 I22 e23
  refine z_aloadn dX2_copyFrom_64 rfl rfl ?_
  refine z_aloadn dX2_copyFrom_65 rfl rfl ?_
  refine z_getI (j := 8) zc2 dX2_copyFrom_66 (ha1.k 0 rfl) (ha1.lt 0 rfl) (by decide) rfl w258 ?_
  refine z_putI (j := 8) zc2 dX2_copyFrom_69 (ha.k 0 rfl) (ha.lt 0 rfl) (by decide) rfl rfl (Or.inl rfl) (Or.inl w258) ?_
  refine z_nm (r := h.2) rfl (fun I25 e26 => ?_)
  have hw27 := hw24 I25 e26
  refine z_aloadn dX2_copyFrom_72 rfl rfl ?_
  refine z_getRq (j := 9) zc2 dX2_copyFrom_73 (ha1.k 0 rfl) (ha1.lt 0 rfl) (by decide) rfl w263 (ha1.r 0 rfl) ?_
  refine z_aloadn dX2_copyFrom_76 rfl rfl ?_
  refine z_getRq (j := 9) zc2 dX2_copyFrom_77 (ha.k 0 rfl) (ha.lt 0 rfl) (by decide) rfl w263 (ha.r 0 rfl) ?_
  obtain ⟨P28, ct29, hw30⟩ := hw27
  refine z_callS (h := (I25, h.2)) (S := []) (M := mX2_copyFrom) (As := [va_rf (some (a1 + 1)), va_rf (some (a + 1))]) eX10_copy w945 (Or.inr ⟨_, w944⟩) dX2_copyFrom_80 rfl (by omega) (Nat.le_of_ble_eq_true rfl) ct29 (fun v35 g36 q32 => ?_)
  obtain ⟨I31, rfl, rfl, q32⟩ := q32
  have hw34 := hw30 I31 q32
  show Z l G _ d Q k n 83 _ ([]) _
  exact z_ret (v := none) dX2_copyFrom_83 rfl rfl hw34

theorem kX2_copyFrom {l : Launch} {G : zG} {d : Nat} {Q : Option Value → zH → Prop} {k n : Nat} {h : zH} (a : Nat) (a1 : Nat) (hz : Z l G mX2_copyFrom d Q k n 0 [va_rf (some a), va_rf (some a1)] [] h) : CT l G YX2_copyFrom d k n [va_rf (some a), va_rf (some a1)] h Q :=
  CT.of (by decide +kernel) (fun t e => by cases e) (by exact Nat.le_of_ble_eq_true rfl) (by exact hz)

theorem sX3_copyFrom_0 {l : Launch} {G : zG} {d : Nat} {Q : Option Value → zH → Prop} {k n : Nat} {h : zH} (a : Nat) (a1 : Nat) (ha : lo3 h a) (ha1 : lo3 h a1) (hd9 : 3 ≤ d)
    (hw : (∀ I1 : Nat → Nat → Int32, I1 = (zwI h a 0 (zI h a1 0)).1 → (∃ P4, CTv l G YX10_copy 2 [va_rf (some (a1 + 1)), va_rf (some (a + 1))] (I1, h.2) P4 ∧ ∀ (I7 : Nat → Nat → Int32), P4 I7 → (∃ P13, CTv l G YX10_copy 2 [va_rf (some (a1 + 2)), va_rf (some (a + 2))] (I7, h.2) P13 ∧ ∀ (I16 : Nat → Nat → Int32), P13 I16 → (∃ P22, CTv l G YX10_copy 2 [va_rf (some (a1 + 3)), va_rf (some (a + 3))] (I16, h.2) P22 ∧ ∀ (I25 : Nat → Nat → Int32), P22 I25 → (∃ P31, CTv l G YX10_copy 2 [va_rf (some (a1 + 4)), va_rf (some (a + 4))] (I25, h.2) P31 ∧ ∀ (I34 : Nat → Nat → Int32), P31 I34 → (∃ P40, CTv l G YX10_copy 2 [va_rf (some (a1 + 5)), va_rf (some (a + 5))] (I34, h.2) P40 ∧ ∀ (I43 : Nat → Nat → Int32), P40 I43 → Q none (I43, h.2)))))))) :
    Z l G mX3_copyFrom d Q k n 0 [va_rf (some a), va_rf (some a1)] [] h := by
  refine z_aloadn dX3_copyFrom_0 rfl rfl ?_
  refine z_aloadn dX3_copyFrom_1 rfl rfl ?_
  refine z_getI (j := 0) zc3 dX3_copyFrom_2 (ha1.k 0 rfl) (ha1.lt 0 rfl) (by decide) rfl w360 ?_
  refine z_putI (j := 0) zc3 dX3_copyFrom_5 (ha.k 0 rfl) (ha.lt 0 rfl) (by decide) rfl rfl (Or.inl rfl) (Or.inl w360) ?_
  refine z_nm (r := h.2) rfl (fun I1 e2 => ?_)
  have hw3 := hw I1 e2
  refine z_aloadn dX3_copyFrom_8 rfl rfl ?_
  refine z_getRq (j := 1) zc3 dX3_copyFrom_9 (ha1.k 0 rfl) (ha1.lt 0 rfl) (by decide) rfl w364 (ha1.r 0 rfl) ?_
  refine z_aloadn dX3_copyFrom_12 rfl rfl ?_
  refine z_getRq (j := 1) zc3 dX3_copyFrom_13 (ha.k 0 rfl) (ha.lt 0 rfl) (by decide) rfl w364 (ha.r 0 rfl) ?_
  obtain ⟨P4, ct5, hw6⟩ := hw3
  refine z_callS (h := (I1, h.2)) (S := []) (M := mX3_copyFrom) (As := [va_rf (some (a1 + 1)), va_rf (some (a + 1))]) eX10_copy w945 (Or.inr ⟨_, w961⟩) dX3_copyFrom_16 rfl (by omega) (Nat.le_of_ble_eq_true rfl) ct5 (fun v11 g12 q8 => ?_)
  obtain ⟨I7, rfl, rfl, q8⟩ := q8
  have hw10 := hw6 I7 q8
  show Z l G _ d Q k n 19 _ ([]) _
  refine z_aloadn dX3_copyFrom_19 rfl rfl ?_
  refine z_getRq (j := 2) zc3 dX3_copyFrom_20 (ha1.k 0 rfl) (ha1.lt 0 rfl) (by decide) rfl w367 (ha1.r 1 rfl) ?_
  refine z_aloadn dX3_copyFrom_23 rfl rfl ?_
  refine z_getRq (j := 2) zc3 dX3_copyFrom_24 (ha.k 0 rfl) (ha.lt 0 rfl) (by decide) rfl w367 (ha.r 1 rfl) ?_
  obtain ⟨P13, ct14, hw15⟩ := hw10
  refine z_callS (h := (I7, h.2)) (S := []) (M := mX3_copyFrom) (As := [va_rf (some (a1 + 2)), va_rf (some (a + 2))]) eX10_copy w945 (Or.inr ⟨_, w961⟩) dX3_copyFrom_27 rfl (by omega) (Nat.le_of_ble_eq_true rfl) ct14 (fun v20 g21 q17 => ?_)
  obtain ⟨I16, rfl, rfl, q17⟩ := q17
  have hw19 := hw15 I16 q17
  show Z l G _ d Q k n 30 _ ([]) _
  refine z_aloadn dX3_copyFrom_30 rfl rfl ?_
  refine z_getRq (j := 3) zc3 dX3_copyFrom_31 (ha1.k 0 rfl) (ha1.lt 0 rfl) (by decide) rfl w370 (ha1.r 2 rfl) ?_
  refine z_aloadn dX3_copyFrom_34 rfl rfl ?_
  refine z_getRq (j := 3) zc3 dX3_copyFrom_35 (ha.k 0 rfl) (ha.lt 0 rfl) (by decide) rfl w370 (ha.r 2 rfl) ?_
  obtain ⟨P22, ct23, hw24⟩ := hw19
  refine z_callS (h := (I16, h.2)) (S := []) (M := mX3_copyFrom) (As := [va_rf (some (a1 + 3)), va_rf (some (a + 3))]) eX10_copy w945 (Or.inr ⟨_, w961⟩) dX3_copyFrom_38 rfl (by omega) (Nat.le_of_ble_eq_true rfl) ct23 (fun v29 g30 q26 => ?_)
  obtain ⟨I25, rfl, rfl, q26⟩ := q26
  have hw28 := hw24 I25 q26
  show Z l G _ d Q k n 41 _ ([]) _
  refine z_aloadn dX3_copyFrom_41 rfl rfl ?_
  refine z_getRq (j := 4) zc3 dX3_copyFrom_42 (ha1.k 0 rfl) (ha1.lt 0 rfl) (by decide) rfl w373 (ha1.r 3 rfl) ?_
  refine z_aloadn dX3_copyFrom_45 rfl rfl ?_
  refine z_getRq (j := 4) zc3 dX3_copyFrom_46 (ha.k 0 rfl) (ha.lt 0 rfl) (by decide) rfl w373 (ha.r 3 rfl) ?_
  obtain ⟨P31, ct32, hw33⟩ := hw28
  refine z_callS (h := (I25, h.2)) (S := []) (M := mX3_copyFrom) (As := [va_rf (some (a1 + 4)), va_rf (some (a + 4))]) eX10_copy w945 (Or.inr ⟨_, w961⟩) dX3_copyFrom_49 rfl (by omega) (Nat.le_of_ble_eq_true rfl) ct32 (fun v38 g39 q35 => ?_)
  obtain ⟨I34, rfl, rfl, q35⟩ := q35
  have hw37 := hw33 I34 q35
  show Z l G _ d Q k n 52 _ ([]) _
  refine z_aloadn dX3_copyFrom_52 rfl rfl ?_
  refine z_getRq (j := 5) zc3 dX3_copyFrom_53 (ha1.k 0 rfl) (ha1.lt 0 rfl) (by decide) rfl w376 (ha1.r 4 rfl) ?_
  refine z_aloadn dX3_copyFrom_56 rfl rfl ?_
  refine z_getRq (j := 5) zc3 dX3_copyFrom_57 (ha.k 0 rfl) (ha.lt 0 rfl) (by decide) rfl w376 (ha.r 4 rfl) ?_
  obtain ⟨P40, ct41, hw42⟩ := hw37
  refine z_callS (h := (I34, h.2)) (S := []) (M := mX3_copyFrom) (As := [va_rf (some (a1 + 5)), va_rf (some (a + 5))]) eX10_copy w945 (Or.inr ⟨_, w961⟩) dX3_copyFrom_60 rfl (by omega) (Nat.le_of_ble_eq_true rfl) ct41 (fun v47 g48 q44 => ?_)
  obtain ⟨I43, rfl, rfl, q44⟩ := q44
  have hw46 := hw42 I43 q44
  show Z l G _ d Q k n 63 _ ([]) _
  exact z_ret (v := none) dX3_copyFrom_63 rfl rfl hw46

theorem kX3_copyFrom {l : Launch} {G : zG} {d : Nat} {Q : Option Value → zH → Prop} {k n : Nat} {h : zH} (a : Nat) (a1 : Nat) (hz : Z l G mX3_copyFrom d Q k n 0 [va_rf (some a), va_rf (some a1)] [] h) : CT l G YX3_copyFrom d k n [va_rf (some a), va_rf (some a1)] h Q :=
  CT.of (by decide +kernel) (fun t e => by cases e) (by exact Nat.le_of_ble_eq_true rfl) (by exact hz)

theorem sX3_part_0 {l : Launch} {G : zG} {d : Nat} {Q : Option Value → zH → Prop} {k n : Nat} {h : zH} (a : Nat) (x1 : Int32) (x2 : Int32) (ha : lo3 h a) (hd9 : 2 ≤ d)
    (hw : ((x2.toInt < 0 ∨ 4 < x2.toInt → Q (some (.int ((-2)))) h) ∧ (x2.toInt = 0 → Q (some (.int (zget h (some (a + 1)) x1))) h) ∧ (x2.toInt = 1 → Q (some (.int (zget h (some (a + 2)) x1))) h) ∧ (x2.toInt = 2 → Q (some (.int (zget h (some (a + 3)) x1))) h) ∧ (x2.toInt = 3 → Q (some (.int (zget h (some (a + 4)) x1))) h) ∧ (x2.toInt = 4 → Q (some (.int (zget h (some (a + 5)) x1))) h))) :
    Z l G mX3_part d Q k n 0 [va_rf (some a), .int x1, .int x2] [] h := by
  refine z_iloadn dX3_part_0 rfl rfl ?_
  refine z_tswc (td := 81) (ts := [36, 45, 54, 63, 72]) dX3_part_1 (by decide) (by decide) (by decide) (fun c1 => ?_) ⟨fun c1k0 => ?_, fun c1k1 => ?_, fun c1k2 => ?_, fun c1k3 => ?_, fun c1k4 => ?_, trivial⟩
  · have hw2 := hw.1 c1
    refine z_bipush (v := (-2)) dX3_part_81 (by decide) ?_
    exact z_ret (v := some (.int ((-2)))) dX3_part_83 ⟨_, rfl, rfl⟩ rfl hw2
  · have hw3 := hw.2.1 c1k0
    refine z_aloadn dX3_part_36 rfl rfl ?_
    refine z_getRq (j := 1) zc3 dX3_part_37 (ha.k 0 rfl) (ha.lt 0 rfl) (by decide) rfl w364 (ha.r 0 rfl) ?_
    refine z_iloadn dX3_part_40 rfl rfl ?_
    refine z_callS (h := h) (S := []) (M := mX3_part) (As := [va_rf (some (a + 1)), .int x1]) eX10_get w778 (Or.inr ⟨_, w1380⟩) dX3_part_41 rfl (by omega) (Nat.le_of_ble_eq_true rfl) (c_X10_get l G h (some (a + 1)) x1 (zgok_lo (ha.w 1 rfl) (by decide))) (fun v4 g5 q6 => ?_)
    obtain ⟨rfl, q6⟩ := q6
    replace q6 := q6.symm
    subst q6
    show Z l G _ d Q k n 44 _ (.int (zget h (some (a + 1)) x1) :: []) _
    exact z_ret (v := some (.int (zget h (some (a + 1)) x1))) dX3_part_44 ⟨_, rfl, rfl⟩ rfl hw3
  · have hw7 := hw.2.2.1 c1k1
    refine z_aloadn dX3_part_45 rfl rfl ?_
    refine z_getRq (j := 2) zc3 dX3_part_46 (ha.k 0 rfl) (ha.lt 0 rfl) (by decide) rfl w367 (ha.r 1 rfl) ?_
    refine z_iloadn dX3_part_49 rfl rfl ?_
    refine z_callS (h := h) (S := []) (M := mX3_part) (As := [va_rf (some (a + 2)), .int x1]) eX10_get w778 (Or.inr ⟨_, w1380⟩) dX3_part_50 rfl (by omega) (Nat.le_of_ble_eq_true rfl) (c_X10_get l G h (some (a + 2)) x1 (zgok_lo (ha.w 2 rfl) (by decide))) (fun v8 g9 q10 => ?_)
    obtain ⟨rfl, q10⟩ := q10
    replace q10 := q10.symm
    subst q10
    show Z l G _ d Q k n 53 _ (.int (zget h (some (a + 2)) x1) :: []) _
    exact z_ret (v := some (.int (zget h (some (a + 2)) x1))) dX3_part_53 ⟨_, rfl, rfl⟩ rfl hw7
  · have hw11 := hw.2.2.2.1 c1k2
    refine z_aloadn dX3_part_54 rfl rfl ?_
    refine z_getRq (j := 3) zc3 dX3_part_55 (ha.k 0 rfl) (ha.lt 0 rfl) (by decide) rfl w370 (ha.r 2 rfl) ?_
    refine z_iloadn dX3_part_58 rfl rfl ?_
    refine z_callS (h := h) (S := []) (M := mX3_part) (As := [va_rf (some (a + 3)), .int x1]) eX10_get w778 (Or.inr ⟨_, w1380⟩) dX3_part_59 rfl (by omega) (Nat.le_of_ble_eq_true rfl) (c_X10_get l G h (some (a + 3)) x1 (zgok_lo (ha.w 3 rfl) (by decide))) (fun v12 g13 q14 => ?_)
    obtain ⟨rfl, q14⟩ := q14
    replace q14 := q14.symm
    subst q14
    show Z l G _ d Q k n 62 _ (.int (zget h (some (a + 3)) x1) :: []) _
    exact z_ret (v := some (.int (zget h (some (a + 3)) x1))) dX3_part_62 ⟨_, rfl, rfl⟩ rfl hw11
  · have hw15 := hw.2.2.2.2.1 c1k3
    refine z_aloadn dX3_part_63 rfl rfl ?_
    refine z_getRq (j := 4) zc3 dX3_part_64 (ha.k 0 rfl) (ha.lt 0 rfl) (by decide) rfl w373 (ha.r 3 rfl) ?_
    refine z_iloadn dX3_part_67 rfl rfl ?_
    refine z_callS (h := h) (S := []) (M := mX3_part) (As := [va_rf (some (a + 4)), .int x1]) eX10_get w778 (Or.inr ⟨_, w1380⟩) dX3_part_68 rfl (by omega) (Nat.le_of_ble_eq_true rfl) (c_X10_get l G h (some (a + 4)) x1 (zgok_lo (ha.w 4 rfl) (by decide))) (fun v16 g17 q18 => ?_)
    obtain ⟨rfl, q18⟩ := q18
    replace q18 := q18.symm
    subst q18
    show Z l G _ d Q k n 71 _ (.int (zget h (some (a + 4)) x1) :: []) _
    exact z_ret (v := some (.int (zget h (some (a + 4)) x1))) dX3_part_71 ⟨_, rfl, rfl⟩ rfl hw15
  · have hw19 := hw.2.2.2.2.2 c1k4
    refine z_aloadn dX3_part_72 rfl rfl ?_
    refine z_getRq (j := 5) zc3 dX3_part_73 (ha.k 0 rfl) (ha.lt 0 rfl) (by decide) rfl w376 (ha.r 4 rfl) ?_
    refine z_iloadn dX3_part_76 rfl rfl ?_
    refine z_callS (h := h) (S := []) (M := mX3_part) (As := [va_rf (some (a + 5)), .int x1]) eX10_get w778 (Or.inr ⟨_, w1380⟩) dX3_part_77 rfl (by omega) (Nat.le_of_ble_eq_true rfl) (c_X10_get l G h (some (a + 5)) x1 (zgok_lo (ha.w 5 rfl) (by decide))) (fun v20 g21 q22 => ?_)
    obtain ⟨rfl, q22⟩ := q22
    replace q22 := q22.symm
    subst q22
    show Z l G _ d Q k n 80 _ (.int (zget h (some (a + 5)) x1) :: []) _
    exact z_ret (v := some (.int (zget h (some (a + 5)) x1))) dX3_part_80 ⟨_, rfl, rfl⟩ rfl hw19

theorem kX3_part {l : Launch} {G : zG} {d : Nat} {Q : Option Value → zH → Prop} {k n : Nat} {h : zH} (a : Nat) (x1 : Int32) (x2 : Int32) (hz : Z l G mX3_part d Q k n 0 [va_rf (some a), .int x1, .int x2] [] h) : CT l G YX3_part d k n [va_rf (some a), .int x1, .int x2] h Q :=
  CT.of (by decide +kernel) (fun t e => by have e2 : ((some .int) : Option FieldType) = some t := e; cases e2; exact ⟨by decide, by decide⟩) (by exact Nat.le_of_ble_eq_true rfl) (by exact hz)
