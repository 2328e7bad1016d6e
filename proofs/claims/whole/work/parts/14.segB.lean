set_option maxRecDepth 4000
theorem sX4_compare_0 {l : Launch} {G : zG} {d : Nat} {Q : Option Value → zH → Prop} {k n : Nat} {h : zH} (a : Nat) (a1 : Nat) (a2 : Nat) (ha : lo4 h a) (ha1 : lo1 h a1) (ha2 : lo3 h a2) (hd9 : 5 ≤ d)
    (hw : (∀ I1 : Nat → Nat → Int32, I1 = (zwI h a 0 (zI h a2 0)).1 → (∀ I4 : Nat → Nat → Int32, I4 = (zwI (I1, h.2) a 3 (-1 : Int32)).1 → Z l G mX4_compare d Q k n 15 [va_rf (some a), va_rf (some a1), va_rf (some a2), .int 0, zU, zU] [] (I4, h.2)))) :
    Z l G mX4_compare d Q k n 0 [va_rf (some a), va_rf (some a1), va_rf (some a2), zU, zU, zU] [] h := by
  refine z_aloadn dX4_compare_0 rfl rfl ?_
  refine z_aloadn dX4_compare_1 rfl rfl ?_
  refine z_getIN (j := 0) zc3 dX4_compare_2 (ha2.k 0 rfl) (ha2.lt 0 rfl) (by decide) rfl w361 ?_
  refine z_putI (j := 0) zc4 dX4_compare_5 (ha.k 0 rfl) (ha.lt 0 rfl) (by decide) rfl rfl (Or.inl rfl) (Or.inl w651) ?_
  refine z_nm (r := h.2) rfl (fun I1 e2 => ?_)
  have hw3 := hw I1 e2
  refine z_aloadn dX4_compare_8 rfl rfl ?_
  refine z_iconst (v := (-1)) dX4_compare_9 (by decide) ?_
  refine z_putI (j := 3) zc4 dX4_compare_10 (ha.k 0 rfl) (ha.lt 0 rfl) (by decide) rfl rfl (Or.inl rfl) (Or.inl w656) ?_
  refine z_nm (r := h.2) rfl (fun I4 e5 => ?_)
  have hw6 := hw3 I4 e5
  refine z_iconst (v := 0) dX4_compare_13 (by decide) ?_
  refine z_istoren (L' := [va_rf (some a), va_rf (some a1), va_rf (some a2), .int 0, zU, zU]) dX4_compare_14 rfl (by decide) rfl ?_
  exact hw6

theorem sX4_compare_15 {l : Launch} {G : zG} {d : Nat} {Q : Option Value → zH → Prop} {k n : Nat} {h : zH} (a : Nat) (a1 : Nat) (a2 : Nat) (x3 : Int32) (u4 : Value) (u5 : Value) (ha : lo4 h a) (ha1 : lo1 h a1) (ha2 : lo3 h a2) (hd9 : 5 ≤ d)
    (hw : (((zI h a 0).toInt ≤ x3.toInt → Z l G mX4_compare d Q k n 45 [va_rf (some a), va_rf (some a1), va_rf (some a2), .int 0, u4, u5] [] h) ∧ (x3.toInt < (zI h a 0).toInt → (∃ P5, CTi l G YX4_makersOf 4 [va_rf (some a1), va_rf (some a2), .int x3] h P5 ∧ ∀ (y10 : Int32) (I8 : Nat → Nat → Int32), P5 y10 I8 → (∀ I17 : Nat → Nat → Int32, I17 = (zput (I8, h.2) (some (a + 1)) x3 y10).1 → Z l G mX4_compare d Q k n 15 [va_rf (some a), va_rf (some a1), va_rf (some a2), .int ((x3 + 1)), u4, u5] [] (I17, h.2)))))) :
    Z l G mX4_compare d Q k n 15 [va_rf (some a), va_rf (some a1), va_rf (some a2), .int x3, u4, u5] [] h := by
  refine z_iloadn dX4_compare_15 rfl rfl ?_
  refine z_aloadn dX4_compare_16 rfl rfl ?_
  refine z_getI (j := 0) zc4 dX4_compare_17 (ha.k 0 rfl) (ha.lt 0 rfl) (by decide) rfl w651 ?_
  refine z_icmp_ge (t := 43) dX4_compare_20 (by decide) (fun c1 => ?_) (fun c2 => ?_)
  · have hw3 := hw.1 c1
    refine z_iconst (v := 0) dX4_compare_43 (by decide) ?_
    refine z_istoren (L' := [va_rf (some a), va_rf (some a1), va_rf (some a2), .int 0, u4, u5]) dX4_compare_44 rfl (by decide) rfl ?_
    exact hw3
  · have hw4 := hw.2 c2
    refine z_aloadn dX4_compare_23 rfl rfl ?_
    refine z_getRq (j := 1) zc4 dX4_compare_24 (ha.k 0 rfl) (ha.lt 0 rfl) (by decide) rfl w652 (ha.r 0 rfl) ?_
    refine z_iloadn dX4_compare_27 rfl rfl ?_
    refine z_aloadn dX4_compare_28 rfl rfl ?_
    refine z_aloadn dX4_compare_29 rfl rfl ?_
    refine z_iloadn dX4_compare_30 rfl rfl ?_
    obtain ⟨P5, ct6, hw7⟩ := hw4
    refine z_callS (h := h) (S := [.int x3, va_rf (some (a + 1))]) (M := mX4_compare) (As := [va_rf (some a1), va_rf (some a2), .int x3]) eX4_makersOf w1394 (Or.inl w1393) dX4_compare_31 rfl (by omega) (Nat.le_of_ble_eq_true rfl) ct6 (fun v12 g13 q9 => ?_)
    obtain ⟨y10, I8, rfl, rfl, q9⟩ := q9
    have hw11 := hw7 y10 I8 q9
    show Z l G _ d Q k n 34 _ (.int y10 :: .int x3 :: va_rf (some (a + 1)) :: []) _
    refine z_callS (h := (I8, h.2)) (S := []) (M := mX4_compare) (As := [va_rf (some (a + 1)), .int x3, .int y10]) eX10_put w754 (Or.inr ⟨_, w1402⟩) dX4_compare_34 rfl (by omega) (Nat.le_of_ble_eq_true rfl) (c_X10_put l G (I8, h.2) (some (a + 1)) x3 y10 (zpok_lo (ha.w 1 rfl) (by decide))) (fun v14 g15 q16 => ?_)
    obtain ⟨rfl, q16⟩ := q16
    replace q16 := q16.symm
    subst q16
    refine z_nm (r := h.2) rfl (fun I17 e18 => ?_)
    have hw19 := hw11 I17 e18
    refine z_iinc (v := (x3 + 1)) (L' := [va_rf (some a), va_rf (some a1), va_rf (some a2), .int ((x3 + 1)), u4, u5]) dX4_compare_37 (by decide) rfl rfl rfl ?_
    refine z_goto (t := 15) dX4_compare_40 (by decide) ?_
    exact hw19

theorem sX4_compare_45 {l : Launch} {G : zG} {d : Nat} {Q : Option Value → zH → Prop} {k n : Nat} {h : zH} (a : Nat) (a1 : Nat) (a2 : Nat) (x3 : Int32) (u4 : Value) (u5 : Value) (ha : lo4 h a) (ha1 : lo1 h a1) (ha2 : lo3 h a2) (hd9 : 5 ≤ d)
    (hw : (((zI h a 0).toInt ≤ x3.toInt → Q none h) ∧ (x3.toInt < (zI h a 0).toInt → Z l G mX4_compare d Q k n 59 [va_rf (some a), va_rf (some a1), va_rf (some a2), .int x3, .int 0, .int 0] [] h))) :
    Z l G mX4_compare d Q k n 45 [va_rf (some a), va_rf (some a1), va_rf (some a2), .int x3, u4, u5] [] h := by
  refine z_iloadn dX4_compare_45 rfl rfl ?_
  refine z_aloadn dX4_compare_46 rfl rfl ?_
  refine z_getI (j := 0) zc4 dX4_compare_47 (ha.k 0 rfl) (ha.lt 0 rfl) (by decide) rfl w651 ?_
  refine z_icmp_ge (t := 111) dX4_compare_50 (by decide) (fun c1 => ?_) (fun c2 => ?_)
  · have hw3 := hw.1 c1
    exact z_ret (v := none) dX4_compare_111 rfl rfl hw3
  · have hw4 := hw.2 c2
    refine z_iconst (v := 0) dX4_compare_53 (by decide) ?_
    refine z_istore (L' := [va_rf (some a), va_rf (some a1), va_rf (some a2), .int x3, .int 0, u5]) dX4_compare_54 (by decide) rfl ?_
    refine z_iconst (v := 0) dX4_compare_56 (by decide) ?_
    refine z_istore (L' := [va_rf (some a), va_rf (some a1), va_rf (some a2), .int x3, .int 0, .int 0]) dX4_compare_57 (by decide) rfl ?_
    exact hw4

theorem sX4_compare_59 {l : Launch} {G : zG} {d : Nat} {Q : Option Value → zH → Prop} {k n : Nat} {h : zH} (a : Nat) (a1 : Nat) (a2 : Nat) (x3 : Int32) (x4 : Int32) (x5 : Int32) (ha : lo4 h a) (ha1 : lo1 h a1) (ha2 : lo3 h a2) (hd9 : 5 ≤ d)
    (hw : (((zI h a 0).toInt ≤ x5.toInt → (∀ I8 : Nat → Nat → Int32, I8 = (zput h (some (a + 2)) x3 x4).1 → Z l G mX4_compare d Q k n 45 [va_rf (some a), va_rf (some a1), va_rf (some a2), .int ((x3 + 1)), .int x4, .int x5] [] (I8, h.2))) ∧ (x5.toInt < (zI h a 0).toInt → (∃ P11, CTz l G YX4_mayFollow 3 [va_rf (some a), va_rf (some a1), va_rf (some a2), .int x3, .int x5] h P11 ∧ ∀ (y16 : Bool) (I14 : Nat → Nat → Int32), P11 y16 I14 → ((y16 = false → Z l G mX4_compare d Q k n 59 [va_rf (some a), va_rf (some a1), va_rf (some a2), .int x3, .int x4, .int ((x5 + 1))] [] (I14, h.2)) ∧ (y16 = true → Z l G mX4_compare d Q k n 59 [va_rf (some a), va_rf (some a1), va_rf (some a2), .int x3, .int ((x4 ||| ((1 : Int32) <<< (x5 &&& 31)))), .int ((x5 + 1))] [] (I14, h.2))))))) :
    Z l G mX4_compare d Q k n 59 [va_rf (some a), va_rf (some a1), va_rf (some a2), .int x3, .int x4, .int x5] [] h := by
  refine z_iload dX4_compare_59 rfl ?_
  refine z_aloadn dX4_compare_61 rfl rfl ?_
  refine z_getI (j := 0) zc4 dX4_compare_62 (ha.k 0 rfl) (ha.lt 0 rfl) (by decide) rfl w651 ?_
  refine z_icmp_ge (t := 95) dX4_compare_65 (by decide) (fun c1 => ?_) (fun c2 => ?_)
  · have hw3 := hw.1 c1
    refine z_aloadn dX4_compare_95 rfl rfl ?_
    refine z_getRq (j := 2) zc4 dX4_compare_96 (ha.k 0 rfl) (ha.lt 0 rfl) (by decide) rfl w654 (ha.r 1 rfl) ?_
    refine z_iloadn dX4_compare_99 rfl rfl ?_
    refine z_iload dX4_compare_100 rfl ?_
    refine z_callS (h := h) (S := []) (M := mX4_compare) (As := [va_rf (some (a + 2)), .int x3, .int x4]) eX10_put w754 (Or.inr ⟨_, w1402⟩) dX4_compare_102 rfl (by omega) (Nat.le_of_ble_eq_true rfl) (c_X10_put l G h (some (a + 2)) x3 x4 (zpok_lo (ha.w 2 rfl) (by decide))) (fun v5 g6 q7 => ?_)
    obtain ⟨rfl, q7⟩ := q7
    replace q7 := q7.symm
    subst q7
    refine z_nm (r := h.2) rfl (fun I8 e9 => ?_)
    have hw10 := hw3 I8 e9
    refine z_iinc (v := (x3 + 1)) (L' := [va_rf (some a), va_rf (some a1), va_rf (some a2), .int ((x3 + 1)), .int x4, .int x5]) dX4_compare_105 (by decide) rfl rfl rfl ?_
    refine z_goto (t := 45) dX4_compare_108 (by decide) ?_
    exact hw10
  · have hw4 := hw.2 c2
    refine z_aloadn dX4_compare_68 rfl rfl ?_
    refine z_aloadn dX4_compare_69 rfl rfl ?_
    refine z_aloadn dX4_compare_70 rfl rfl ?_
    refine z_iloadn dX4_compare_71 rfl rfl ?_
    refine z_iload dX4_compare_72 rfl ?_
    obtain ⟨P11, ct12, hw13⟩ := hw4
    refine z_callV (h := h) (S := []) (a := a) (M := mX4_compare) (As := [va_rf (some a1), va_rf (some a2), .int x3, .int x5]) zc4 rfl eX4_mayFollow w1405 w93 (Or.inl w1403) dX4_compare_74 (ha.k 0 rfl) (ha.lt 0 rfl) rfl (by omega) (Nat.le_of_ble_eq_true rfl) ct12 (fun v18 g19 q15 => ?_)
    obtain ⟨y16, I14, rfl, rfl, q15⟩ := q15
    have hw17 := hw13 y16 I14 q15
    show Z l G _ d Q k n 77 _ (.int (zb y16) :: []) _
    refine z_if_eq (t := 89) dX4_compare_77 (by decide) (fun c20 => ?_) (fun c21 => ?_)
    · have hw22 := hw17.1 (zb0 c20)
      refine z_iinc (v := (x5 + 1)) (L' := [va_rf (some a), va_rf (some a1), va_rf (some a2), .int x3, .int x4, .int ((x5 + 1))]) dX4_compare_89 (by decide) rfl rfl rfl ?_
      refine z_goto (t := 59) dX4_compare_92 (by decide) ?_
      exact hw22
    · have hw23 := hw17.2 (zb1 c21)
      refine z_iload dX4_compare_80 rfl ?_
      refine z_iconst (v := 1) dX4_compare_82 (by decide) ?_
      refine z_iload dX4_compare_83 rfl ?_
      refine z_ishl dX4_compare_85 ?_
      refine z_ior dX4_compare_86 ?_
      refine z_istore (L' := [va_rf (some a), va_rf (some a1), va_rf (some a2), .int x3, .int ((x4 ||| ((1 : Int32) <<< (x5 &&& 31)))), .int x5]) dX4_compare_87 (by decide) rfl ?_
      refine z_iinc (v := (x5 + 1)) (L' := [va_rf (some a), va_rf (some a1), va_rf (some a2), .int x3, .int ((x4 ||| ((1 : Int32) <<< (x5 &&& 31)))), .int ((x5 + 1))]) dX4_compare_89 (by decide) rfl rfl rfl ?_
      refine z_goto (t := 59) dX4_compare_92 (by decide) ?_
      exact hw23

theorem kX4_compare {l : Launch} {G : zG} {d : Nat} {Q : Option Value → zH → Prop} {k n : Nat} {h : zH} (a : Nat) (a1 : Nat) (a2 : Nat) (hz : Z l G mX4_compare d Q k n 0 [va_rf (some a), va_rf (some a1), va_rf (some a2), zU, zU, zU] [] h) : CT l G YX4_compare d k n [va_rf (some a), va_rf (some a1), va_rf (some a2)] h Q :=
  CT.of (by decide +kernel) (fun t e => by cases e) (by exact Nat.le_of_ble_eq_true rfl) (by exact hz)

theorem sX4_makersOf_0 {l : Launch} {G : zG} {d : Nat} {Q : Option Value → zH → Prop} {k n : Nat} {h : zH} (a0 : Nat) (a1 : Nat) (x2 : Int32) (ha0 : lo1 h a0) (ha1 : lo3 h a1) (hd9 : 4 ≤ d)
    (hw : Z l G mX4_makersOf d Q k n 15 [va_rf (some a0), va_rf (some a1), .int x2, .int 0, .int (zget h (some (a1 + 2)) x2), .int 0, zU] [] h) :
    Z l G mX4_makersOf d Q k n 0 [va_rf (some a0), va_rf (some a1), .int x2, zU, zU, zU, zU] [] h := by
  refine z_iconst (v := 0) dX4_makersOf_0 (by decide) ?_
  refine z_istoren (L' := [va_rf (some a0), va_rf (some a1), .int x2, .int 0, zU, zU, zU]) dX4_makersOf_1 rfl (by decide) rfl ?_
  refine z_aloadn dX4_makersOf_2 rfl rfl ?_
  refine z_getRNq (j := 2) zc3 dX4_makersOf_3 (ha1.k 0 rfl) (ha1.lt 0 rfl) (by decide) rfl w368 (ha1.r 1 rfl) ?_
  refine z_iloadn dX4_makersOf_6 rfl rfl ?_
  refine z_callS (h := h) (S := []) (M := mX4_makersOf) (As := [va_rf (some (a1 + 2)), .int x2]) eX10_get w778 (Or.inr ⟨_, w1396⟩) dX4_makersOf_7 rfl (by omega) (Nat.le_of_ble_eq_true rfl) (c_X10_get l G h (some (a1 + 2)) x2 (zgok_lo (ha1.w 2 rfl) (by decide))) (fun v1 g2 q3 => ?_)
  obtain ⟨rfl, q3⟩ := q3
  replace q3 := q3.symm
  subst q3
  show Z l G _ d Q k n 10 _ (.int (zget h (some (a1 + 2)) x2) :: []) _
  refine z_istore (L' := [va_rf (some a0), va_rf (some a1), .int x2, .int 0, .int (zget h (some (a1 + 2)) x2), zU, zU]) dX4_makersOf_10 (by decide) rfl ?_
  refine z_iconst (v := 0) dX4_makersOf_12 (by decide) ?_
  refine z_istore (L' := [va_rf (some a0), va_rf (some a1), .int x2, .int 0, .int (zget h (some (a1 + 2)) x2), .int 0, zU]) dX4_makersOf_13 (by decide) rfl ?_
  exact hw

theorem sX4_makersOf_15 {l : Launch} {G : zG} {d : Nat} {Q : Option Value → zH → Prop} {k n : Nat} {h : zH} (a0 : Nat) (a1 : Nat) (x2 : Int32) (x3 : Int32) (x4 : Int32) (x5 : Int32) (u6 : Value) (ha0 : lo1 h a0) (ha1 : lo3 h a1) (hd9 : 4 ≤ d)
    (hw : (((zI h a0 3).toInt ≤ x5.toInt → Q (some (.int x3)) h) ∧ (x5.toInt < (zI h a0 3).toInt → ((zmem h a0 x5 = none → Z l G mX4_makersOf d Q k n 15 [va_rf (some a0), va_rf (some a1), .int x2, .int x3, .int x4, .int ((x5 + 1)), va_rf (zmem h a0 x5)] [] h) ∧ (∀ b9, zmem h a0 x5 = some b9 → ((x4 = 6 → (∃ P16, CTz l G YX4_pressesSo 3 [va_rf (some a0), va_rf (some a1), .int x2, .int x5] h P16 ∧ ∀ (y21 : Bool) (I19 : Nat → Nat → Int32), P16 y21 I19 → ((y21 = false → Z l G mX4_makersOf d Q k n 15 [va_rf (some a0), va_rf (some a1), .int x2, .int x3, .int x4, .int ((x5 + 1)), va_rf (zmem h a0 x5)] [] (I19, h.2)) ∧ (y21 = true → Z l G mX4_makersOf d Q k n 15 [va_rf (some a0), va_rf (some a1), .int x2, .int ((x3 ||| ((1 : Int32) <<< (x5 &&& 31)))), .int x4, .int ((x5 + 1)), va_rf (zmem h a0 x5)] [] (I19, h.2))))) ∧ (¬ x4 = 6 → (lo2 h b9 ∧ ((¬ x4 = zI h b9 0 → Z l G mX4_makersOf d Q k n 15 [va_rf (some a0), va_rf (some a1), .int x2, .int x3, .int x4, .int ((x5 + 1)), va_rf (zmem h a0 x5)] [] h) ∧ (x4 = zI h b9 0 → (∃ P35, CTz l G YX4_pressesSo 3 [va_rf (some a0), va_rf (some a1), .int x2, .int x5] h P35 ∧ ∀ (y40 : Bool) (I38 : Nat → Nat → Int32), P35 y40 I38 → ((y40 = false → Z l G mX4_makersOf d Q k n 15 [va_rf (some a0), va_rf (some a1), .int x2, .int x3, .int x4, .int ((x5 + 1)), va_rf (zmem h a0 x5)] [] (I38, h.2)) ∧ (y40 = true → Z l G mX4_makersOf d Q k n 15 [va_rf (some a0), va_rf (some a1), .int x2, .int ((x3 ||| ((1 : Int32) <<< (x5 &&& 31)))), .int x4, .int ((x5 + 1)), va_rf (zmem h a0 x5)] [] (I38, h.2)))))))))))))) :
    Z l G mX4_makersOf d Q k n 15 [va_rf (some a0), va_rf (some a1), .int x2, .int x3, .int x4, .int x5, u6] [] h := by
  refine z_iload dX4_makersOf_15 rfl ?_
  refine z_aloadn dX4_makersOf_17 rfl rfl ?_
  refine z_getIN (j := 3) zc1 dX4_makersOf_18 (ha0.k 0 rfl) (ha0.lt 0 rfl) (by decide) rfl w315 ?_
  refine z_icmp_ge (t := 78) dX4_makersOf_21 (by decide) (fun c1 => ?_) (fun c2 => ?_)
  · have hw3 := hw.1 c1
    refine z_iloadn dX4_makersOf_78 rfl rfl ?_
    exact z_ret (v := some (.int x3)) dX4_makersOf_79 ⟨_, rfl, rfl⟩ rfl hw3
  · have hw4 := hw.2 c2
    refine z_aloadn dX4_makersOf_24 rfl rfl ?_
    refine z_iload dX4_makersOf_25 rfl ?_
    refine z_callV (h := h) (S := []) (a := a0) (M := mX4_makersOf) (As := [.int x5]) zc1 rfl eX1_member w1011 w34 (Or.inr ⟨_, w1397⟩) dX4_makersOf_27 (ha0.k 0 rfl) (ha0.lt 0 rfl) rfl (by omega) (Nat.le_of_ble_eq_true rfl) (c_X1_member l G h a0 x5 ha0) (fun v5 g6 q7 => ?_)
    obtain ⟨rfl, q7⟩ := q7
    replace q7 := q7.symm
    subst q7
    show Z l G _ d Q k n 30 _ (va_rf (zmem h a0 x5) :: []) _
    refine z_astore (L' := [va_rf (some a0), va_rf (some a1), .int x2, .int x3, .int x4, .int x5, va_rf (zmem h a0 x5)]) dX4_makersOf_30 (by decide) rfl ?_
    refine z_aload dX4_makersOf_32 rfl ?_
    refine z_ifnull (t := 72) dX4_makersOf_34 (by decide) (fun c8 => ?_) (fun b9 c8 => ?_)
    · have hw10 := hw4.1 c8
      refine z_iinc (v := (x5 + 1)) (L' := [va_rf (some a0), va_rf (some a1), .int x2, .int x3, .int x4, .int ((x5 + 1)), va_rf (zmem h a0 x5)]) dX4_makersOf_72 (by decide) rfl rfl rfl ?_
      refine z_goto (t := 15) dX4_makersOf_75 (by decide) ?_
      exact hw10
    · have hw11 := hw4.2 b9 c8
      refine z_iload dX4_makersOf_37 rfl ?_
      refine z_bipush (v := 6) dX4_makersOf_39 (by decide) ?_
      refine z_icmp_eq (t := 54) dX4_makersOf_41 (by decide) (fun c12 => ?_) (fun c13 => ?_)
      · have hw14 := hw11.1 c12
        refine z_aloadn dX4_makersOf_54 rfl rfl ?_
        refine z_aloadn dX4_makersOf_55 rfl rfl ?_
        refine z_iloadn dX4_makersOf_56 rfl rfl ?_
        refine z_iload dX4_makersOf_57 rfl ?_
        obtain ⟨P16, ct17, hw18⟩ := hw14
        refine z_callS (h := h) (S := []) (M := mX4_makersOf) (As := [va_rf (some a0), va_rf (some a1), .int x2, .int x5]) eX4_pressesSo w1399 (Or.inl w1398) dX4_makersOf_59 rfl (by omega) (Nat.le_of_ble_eq_true rfl) ct17 (fun v23 g24 q20 => ?_)
        obtain ⟨y21, I19, rfl, rfl, q20⟩ := q20
        have hw22 := hw18 y21 I19 q20
        show Z l G _ d Q k n 62 _ (.int (zb y21) :: []) _
        refine z_if_eq (t := 72) dX4_makersOf_62 (by decide) (fun c25 => ?_) (fun c26 => ?_)
        · have hw27 := hw22.1 (zb0 c25)
          refine z_iinc (v := (x5 + 1)) (L' := [va_rf (some a0), va_rf (some a1), .int x2, .int x3, .int x4, .int ((x5 + 1)), va_rf (zmem h a0 x5)]) dX4_makersOf_72 (by decide) rfl rfl rfl ?_
          refine z_goto (t := 15) dX4_makersOf_75 (by decide) ?_
          exact hw27
        · have hw28 := hw22.2 (zb1 c26)
          refine z_iloadn dX4_makersOf_65 rfl rfl ?_
          refine z_iconst (v := 1) dX4_makersOf_66 (by decide) ?_
          refine z_iload dX4_makersOf_67 rfl ?_
          refine z_ishl dX4_makersOf_69 ?_
          refine z_ior dX4_makersOf_70 ?_
          refine z_istoren (L' := [va_rf (some a0), va_rf (some a1), .int x2, .int ((x3 ||| ((1 : Int32) <<< (x5 &&& 31)))), .int x4, .int x5, va_rf (zmem h a0 x5)]) dX4_makersOf_71 rfl (by decide) rfl ?_
          refine z_iinc (v := (x5 + 1)) (L' := [va_rf (some a0), va_rf (some a1), .int x2, .int ((x3 ||| ((1 : Int32) <<< (x5 &&& 31)))), .int x4, .int ((x5 + 1)), va_rf (zmem h a0 x5)]) dX4_makersOf_72 (by decide) rfl rfl rfl ?_
          refine z_goto (t := 15) dX4_makersOf_75 (by decide) ?_
          exact hw28
      · have hw15 := hw11.2 c13
        refine z_iload dX4_makersOf_44 rfl ?_
        refine z_aload dX4_makersOf_46 rfl ?_
        refine z_soP [] c8 ?_
        obtain ⟨ho29, hw30⟩ := hw15
        refine z_getIN (j := 0) zc2 dX4_makersOf_48 (ho29.k 0 rfl) (ho29.lt 0 rfl) (by decide) rfl w220 ?_
        refine z_icmp_ne (t := 72) dX4_makersOf_51 (by decide) (fun c31 => ?_) (fun c32 => ?_)
        · have hw33 := hw30.1 c31
          refine z_iinc (v := (x5 + 1)) (L' := [va_rf (some a0), va_rf (some a1), .int x2, .int x3, .int x4, .int ((x5 + 1)), va_rf (zmem h a0 x5)]) dX4_makersOf_72 (by decide) rfl rfl rfl ?_
          refine z_goto (t := 15) dX4_makersOf_75 (by decide) ?_
          exact hw33
        · have hw34 := hw30.2 c32
          refine z_aloadn dX4_makersOf_54 rfl rfl ?_
          refine z_aloadn dX4_makersOf_55 rfl rfl ?_
          refine z_iloadn dX4_makersOf_56 rfl rfl ?_
          refine z_iload dX4_makersOf_57 rfl ?_
          obtain ⟨P35, ct36, hw37⟩ := hw34
          refine z_callS (h := h) (S := []) (M := mX4_makersOf) (As := [va_rf (some a0), va_rf (some a1), .int x2, .int x5]) eX4_pressesSo w1399 (Or.inl w1398) dX4_makersOf_59 rfl (by omega) (Nat.le_of_ble_eq_true rfl) ct36 (fun v42 g43 q39 => ?_)
          obtain ⟨y40, I38, rfl, rfl, q39⟩ := q39
          have hw41 := hw37 y40 I38 q39
          show Z l G _ d Q k n 62 _ (.int (zb y40) :: []) _
          refine z_if_eq (t := 72) dX4_makersOf_62 (by decide) (fun c44 => ?_) (fun c45 => ?_)
          · have hw46 := hw41.1 (zb0 c44)
            refine z_iinc (v := (x5 + 1)) (L' := [va_rf (some a0), va_rf (some a1), .int x2, .int x3, .int x4, .int ((x5 + 1)), va_rf (zmem h a0 x5)]) dX4_makersOf_72 (by decide) rfl rfl rfl ?_
            refine z_goto (t := 15) dX4_makersOf_75 (by decide) ?_
            exact hw46
          · have hw47 := hw41.2 (zb1 c45)
            refine z_iloadn dX4_makersOf_65 rfl rfl ?_
            refine z_iconst (v := 1) dX4_makersOf_66 (by decide) ?_
            refine z_iload dX4_makersOf_67 rfl ?_
            refine z_ishl dX4_makersOf_69 ?_
            refine z_ior dX4_makersOf_70 ?_
            refine z_istoren (L' := [va_rf (some a0), va_rf (some a1), .int x2, .int ((x3 ||| ((1 : Int32) <<< (x5 &&& 31)))), .int x4, .int x5, va_rf (zmem h a0 x5)]) dX4_makersOf_71 rfl (by decide) rfl ?_
            refine z_iinc (v := (x5 + 1)) (L' := [va_rf (some a0), va_rf (some a1), .int x2, .int ((x3 ||| ((1 : Int32) <<< (x5 &&& 31)))), .int x4, .int ((x5 + 1)), va_rf (zmem h a0 x5)]) dX4_makersOf_72 (by decide) rfl rfl rfl ?_
            refine z_goto (t := 15) dX4_makersOf_75 (by decide) ?_
            exact hw47

theorem kX4_makersOf {l : Launch} {G : zG} {d : Nat} {Q : Option Value → zH → Prop} {k n : Nat} {h : zH} (a0 : Nat) (a1 : Nat) (x2 : Int32) (hz : Z l G mX4_makersOf d Q k n 0 [va_rf (some a0), va_rf (some a1), .int x2, zU, zU, zU, zU] [] h) : CT l G YX4_makersOf d k n [va_rf (some a0), va_rf (some a1), .int x2] h Q :=
  CT.of (by decide +kernel) (fun t e => by have e2 : ((some .int) : Option FieldType) = some t := e; cases e2; exact ⟨by decide, by decide⟩) (by exact Nat.le_of_ble_eq_true rfl) (by exact hz)

theorem sX4_pressesSo_0 {l : Launch} {G : zG} {d : Nat} {Q : Option Value → zH → Prop} {k n : Nat} {h : zH} (a0 : Nat) (a1 : Nat) (x2 : Int32) (x3 : Int32) (ha0 : lo1 h a0) (ha1 : lo3 h a1) (hd9 : 3 ≤ d)
    (hw : Z l G mX4_pressesSo d Q k n 10 [va_rf (some a0), va_rf (some a1), .int x2, .int x3, va_rf (zmem h a0 x3), .int 0, zU, zU, zU] [] h) :
    Z l G mX4_pressesSo d Q k n 0 [va_rf (some a0), va_rf (some a1), .int x2, .int x3, zU, zU, zU, zU, zU] [] h := by
  refine z_aloadn dX4_pressesSo_0 rfl rfl ?_
  refine z_iloadn dX4_pressesSo_1 rfl rfl ?_
  refine z_callV (h := h) (S := []) (a := a0) (M := mX4_pressesSo) (As := [.int x3]) zc1 rfl eX1_member w1011 w34 (Or.inr ⟨_, w1397⟩) dX4_pressesSo_2 (ha0.k 0 rfl) (ha0.lt 0 rfl) rfl (by omega) (Nat.le_of_ble_eq_true rfl) (c_X1_member l G h a0 x3 ha0) (fun v1 g2 q3 => ?_)
  obtain ⟨rfl, q3⟩ := q3
  replace q3 := q3.symm
  subst q3
  show Z l G _ d Q k n 5 _ (va_rf (zmem h a0 x3) :: []) _
  refine z_astore (L' := [va_rf (some a0), va_rf (some a1), .int x2, .int x3, va_rf (zmem h a0 x3), zU, zU, zU, zU]) dX4_pressesSo_5 (by decide) rfl ?_
  refine z_iconst (v := 0) dX4_pressesSo_7 (by decide) ?_
  refine z_istore (L' := [va_rf (some a0), va_rf (some a1), .int x2, .int x3, va_rf (zmem h a0 x3), .int 0, zU, zU, zU]) dX4_pressesSo_8 (by decide) ((zs1_rf (j := 4) rfl).trans rfl) ?_
  exact hw

theorem sX4_pressesSo_10 {l : Launch} {G : zG} {d : Nat} {Q : Option Value → zH → Prop} {k n : Nat} {h : zH} (a0 : Nat) (a1 : Nat) (x2 : Int32) (x3 : Int32) (r4 : Option Nat) (x5 : Int32) (u6 : Value) (u7 : Value) (u8 : Value) (ha0 : lo1 h a0) (ha1 : lo3 h a1) (hd9 : 3 ≤ d)
    (hw : (((zI h a0 3).toInt ≤ x5.toInt → Q (some (.int 0)) h) ∧ (x5.toInt < (zI h a0 3).toInt → ((r4 = none → Q (some (.int 0)) h) ∧ (∀ b6, r4 = some b6 → ((zmem h a0 x5 = none → (lo2 h b6 ∧ ((¬ zdep (zI h b6 3) (((zI h b6 2) + 0) + (zI h a0 2)) (zget h (some (a1 + 3)) x2) = zget h (some (a1 + 5)) x2 → Z l G mX4_pressesSo d Q k n 10 [va_rf (some a0), va_rf (some a1), .int x2, .int x3, va_rf r4, .int ((x5 + 1)), va_rf (zmem h a0 x5), .int 0, .int (zdep (zI h b6 3) (((zI h b6 2) + 0) + (zI h a0 2)) (zget h (some (a1 + 3)) x2))] [] h) ∧ (zdep (zI h b6 3) (((zI h b6 2) + 0) + (zI h a0 2)) (zget h (some (a1 + 3)) x2) = zget h (some (a1 + 5)) x2 → Q (some (.int 1)) h)))) ∧ (∀ b13, zmem h a0 x5 = some b13 → ((¬ x5 = x3 → (lo2 h b13 ∧ (lo2 h b6 ∧ ((¬ zdep (zI h b6 3) (((zI h b6 2) + (zI h b13 2)) + (zI h a0 2)) (zget h (some (a1 + 3)) x2) = zget h (some (a1 + 5)) x2 → Z l G mX4_pressesSo d Q k n 10 [va_rf (some a0), va_rf (some a1), .int x2, .int x3, va_rf r4, .int ((x5 + 1)), va_rf (zmem h a0 x5), .int (zI h b13 2), .int (zdep (zI h b6 3) (((zI h b6 2) + (zI h b13 2)) + (zI h a0 2)) (zget h (some (a1 + 3)) x2))] [] h) ∧ (zdep (zI h b6 3) (((zI h b6 2) + (zI h b13 2)) + (zI h a0 2)) (zget h (some (a1 + 3)) x2) = zget h (some (a1 + 5)) x2 → Q (some (.int 1)) h))))) ∧ (x5 = x3 → (lo2 h b6 ∧ ((¬ zdep (zI h b6 3) (((zI h b6 2) + 0) + (zI h a0 2)) (zget h (some (a1 + 3)) x2) = zget h (some (a1 + 5)) x2 → Z l G mX4_pressesSo d Q k n 10 [va_rf (some a0), va_rf (some a1), .int x2, .int x3, va_rf r4, .int ((x5 + 1)), va_rf (zmem h a0 x5), .int 0, .int (zdep (zI h b6 3) (((zI h b6 2) + 0) + (zI h a0 2)) (zget h (some (a1 + 3)) x2))] [] h) ∧ (zdep (zI h b6 3) (((zI h b6 2) + 0) + (zI h a0 2)) (zget h (some (a1 + 3)) x2) = zget h (some (a1 + 5)) x2 → Q (some (.int 1)) h)))))))))))) :
    Z l G mX4_pressesSo d Q k n 10 [va_rf (some a0), va_rf (some a1), .int x2, .int x3, va_rf r4, .int x5, u6, u7, u8] [] h := by
  refine z_iload dX4_pressesSo_10 rfl ?_
  refine z_aloadn dX4_pressesSo_12 rfl rfl ?_
  refine z_getIN (j := 3) zc1 dX4_pressesSo_13 (ha0.k 0 rfl) (ha0.lt 0 rfl) (by decide) rfl w315 ?_
  refine z_icmp_ge (t := 103) dX4_pressesSo_16 (by decide) (fun c1 => ?_) (fun c2 => ?_)
  · have hw3 := hw.1 c1
    refine z_iconst (v := 0) dX4_pressesSo_103 (by decide) ?_
    exact z_ret (v := some (.int 0)) dX4_pressesSo_104 ⟨_, rfl, by decide⟩ rfl hw3
  · have hw4 := hw.2 c2
    refine z_aload dX4_pressesSo_19 rfl ?_
    refine z_ifnull (t := 103) dX4_pressesSo_21 (by decide) (fun c5 => ?_) (fun b6 c5 => ?_)
    · have hw7 := hw4.1 c5
      refine z_iconst (v := 0) dX4_pressesSo_103 (by decide) ?_
      exact z_ret (v := some (.int 0)) dX4_pressesSo_104 ⟨_, rfl, by decide⟩ rfl hw7
    · have hw8 := hw4.2 b6 c5
      refine z_aloadn dX4_pressesSo_24 rfl rfl ?_
      refine z_iload dX4_pressesSo_25 rfl ?_
      refine z_callV (h := h) (S := []) (a := a0) (M := mX4_pressesSo) (As := [.int x5]) zc1 rfl eX1_member w1011 w34 (Or.inr ⟨_, w1397⟩) dX4_pressesSo_27 (ha0.k 0 rfl) (ha0.lt 0 rfl) rfl (by omega) (Nat.le_of_ble_eq_true rfl) (c_X1_member l G h a0 x5 ha0) (fun v9 g10 q11 => ?_)
      obtain ⟨rfl, q11⟩ := q11
      replace q11 := q11.symm
      subst q11
      show Z l G _ d Q k n 30 _ (va_rf (zmem h a0 x5) :: []) _
      refine z_astore (L' := [va_rf (some a0), va_rf (some a1), .int x2, .int x3, va_rf r4, .int x5, va_rf (zmem h a0 x5), u7, u8]) dX4_pressesSo_30 (by decide) rfl ?_
      refine z_aload dX4_pressesSo_32 rfl ?_
      refine z_ifnull (t := 43) dX4_pressesSo_34 (by decide) (fun c12 => ?_) (fun b13 c12 => ?_)
      · have hw14 := hw8.1 c12
        refine z_iconst (v := 0) dX4_pressesSo_43 (by decide) ?_
        refine z_goto (t := 52) dX4_pressesSo_44 (by decide) ?_
        refine z_istore (L' := [va_rf (some a0), va_rf (some a1), .int x2, .int x3, va_rf r4, .int x5, va_rf (zmem h a0 x5), .int 0, u8]) dX4_pressesSo_52 (by decide) ((zs1_rf (j := 6) rfl).trans rfl) ?_
        refine z_aload dX4_pressesSo_54 rfl ?_
        refine z_aload dX4_pressesSo_56 rfl ?_
        refine z_soP [] c5 ?_
        obtain ⟨ho16, hw17⟩ := hw14
        refine z_getIN (j := 2) zc2 dX4_pressesSo_58 (ho16.k 0 rfl) (ho16.lt 0 rfl) (by decide) rfl w233 ?_
        refine z_iload dX4_pressesSo_61 rfl ?_
        refine z_iadd dX4_pressesSo_63 ?_
        refine z_aloadn dX4_pressesSo_64 rfl rfl ?_
        refine z_getIN (j := 2) zc1 dX4_pressesSo_65 (ha0.k 0 rfl) (ha0.lt 0 rfl) (by decide) rfl w309 ?_
        refine z_iadd dX4_pressesSo_68 ?_
        refine z_aloadn dX4_pressesSo_69 rfl rfl ?_
        refine z_getRNq (j := 3) zc3 dX4_pressesSo_70 (ha1.k 0 rfl) (ha1.lt 0 rfl) (by decide) rfl w371 (ha1.r 2 rfl) ?_
        refine z_iloadn dX4_pressesSo_73 rfl rfl ?_
        refine z_callS (h := h) (S := [.int ((((zI h b6 2) + 0) + (zI h a0 2))), va_rf r4]) (M := mX4_pressesSo) (As := [va_rf (some (a1 + 3)), .int x2]) eX10_get w778 (Or.inr ⟨_, w1396⟩) dX4_pressesSo_74 rfl (by omega) (Nat.le_of_ble_eq_true rfl) (c_X10_get l G h (some (a1 + 3)) x2 (zgok_lo (ha1.w 3 rfl) (by decide))) (fun v18 g19 q20 => ?_)
        obtain ⟨rfl, q20⟩ := q20
        replace q20 := q20.symm
        subst q20
        show Z l G _ d Q k n 77 _ (.int (zget h (some (a1 + 3)) x2) :: .int ((((zI h b6 2) + 0) + (zI h a0 2))) :: va_rf r4 :: []) _
        refine z_soP [.int (zget h (some (a1 + 3)) x2), .int ((((zI h b6 2) + 0) + (zI h a0 2)))] c5 ?_
        refine z_callV (h := h) (S := []) (a := b6) (M := mX4_pressesSo) (As := [.int ((((zI h b6 2) + 0) + (zI h a0 2))), .int (zget h (some (a1 + 3)) x2)]) zc2 rfl eX2_depthUnder w1089 w46 (Or.inr ⟨_, w1401⟩) dX4_pressesSo_77 (ho16.k 0 rfl) (ho16.lt 0 rfl) rfl (by omega) (Nat.le_of_ble_eq_true rfl) (c_X2_depthUnder l G h b6 (((zI h b6 2) + 0) + (zI h a0 2)) (zget h (some (a1 + 3)) x2) ho16) (fun v21 g22 q23 => ?_)
        obtain ⟨rfl, q23⟩ := q23
        replace q23 := q23.symm
        subst q23
        show Z l G _ d Q k n 80 _ (.int (zdep (zI h b6 3) (((zI h b6 2) + 0) + (zI h a0 2)) (zget h (some (a1 + 3)) x2)) :: []) _
        refine z_istore (L' := [va_rf (some a0), va_rf (some a1), .int x2, .int x3, va_rf r4, .int x5, va_rf (zmem h a0 x5), .int 0, .int (zdep (zI h b6 3) (((zI h b6 2) + 0) + (zI h a0 2)) (zget h (some (a1 + 3)) x2))]) dX4_pressesSo_80 (by decide) rfl ?_
        refine z_iload dX4_pressesSo_82 rfl ?_
        refine z_aloadn dX4_pressesSo_84 rfl rfl ?_
        refine z_getRNq (j := 5) zc3 dX4_pressesSo_85 (ha1.k 0 rfl) (ha1.lt 0 rfl) (by decide) rfl w377 (ha1.r 4 rfl) ?_
        refine z_iloadn dX4_pressesSo_88 rfl rfl ?_
        refine z_callS (h := h) (S := [.int (zdep (zI h b6 3) (((zI h b6 2) + 0) + (zI h a0 2)) (zget h (some (a1 + 3)) x2))]) (M := mX4_pressesSo) (As := [va_rf (some (a1 + 5)), .int x2]) eX10_get w778 (Or.inr ⟨_, w1396⟩) dX4_pressesSo_89 rfl (by omega) (Nat.le_of_ble_eq_true rfl) (c_X10_get l G h (some (a1 + 5)) x2 (zgok_lo (ha1.w 5 rfl) (by decide))) (fun v24 g25 q26 => ?_)
        obtain ⟨rfl, q26⟩ := q26
        replace q26 := q26.symm
        subst q26
        show Z l G _ d Q k n 92 _ (.int (zget h (some (a1 + 5)) x2) :: .int (zdep (zI h b6 3) (((zI h b6 2) + 0) + (zI h a0 2)) (zget h (some (a1 + 3)) x2)) :: []) _
        refine z_icmp_ne (t := 97) dX4_pressesSo_92 (by decide) (fun c27 => ?_) (fun c28 => ?_)
        · have hw29 := hw17.1 c27
          refine z_iinc (v := (x5 + 1)) (L' := [va_rf (some a0), va_rf (some a1), .int x2, .int x3, va_rf r4, .int ((x5 + 1)), va_rf (zmem h a0 x5), .int 0, .int (zdep (zI h b6 3) (((zI h b6 2) + 0) + (zI h a0 2)) (zget h (some (a1 + 3)) x2))]) dX4_pressesSo_97 (by decide) rfl rfl ((zs1_rf (j := 4) rfl).trans rfl) ?_
          refine z_goto (t := 10) dX4_pressesSo_100 (by decide) ?_
          exact hw29
        · have hw30 := hw17.2 c28
          refine z_iconst (v := 1) dX4_pressesSo_95 (by decide) ?_
          exact z_ret (v := some (.int 1)) dX4_pressesSo_96 ⟨_, rfl, by decide⟩ rfl hw30
      · have hw15 := hw8.2 b13 c12
        refine z_iload dX4_pressesSo_37 rfl ?_
        refine z_iloadn dX4_pressesSo_39 rfl rfl ?_
        refine z_icmp_ne (t := 47) dX4_pressesSo_40 (by decide) (fun c31 => ?_) (fun c32 => ?_)
        · have hw33 := hw15.1 c31
          refine z_aload dX4_pressesSo_47 rfl ?_
          refine z_soP [] c12 ?_
          obtain ⟨ho35, hw36⟩ := hw33
          refine z_getIN (j := 2) zc2 dX4_pressesSo_49 (ho35.k 0 rfl) (ho35.lt 0 rfl) (by decide) rfl w233 ?_
          refine z_istore (L' := [va_rf (some a0), va_rf (some a1), .int x2, .int x3, va_rf r4, .int x5, va_rf (zmem h a0 x5), .int (zI h b13 2), u8]) dX4_pressesSo_52 (by decide) ((zs1_rf (j := 6) rfl).trans rfl) ?_
          refine z_aload dX4_pressesSo_54 rfl ?_
          refine z_aload dX4_pressesSo_56 rfl ?_
          refine z_soP [] c5 ?_
          obtain ⟨ho37, hw38⟩ := hw36
          refine z_getIN (j := 2) zc2 dX4_pressesSo_58 (ho37.k 0 rfl) (ho37.lt 0 rfl) (by decide) rfl w233 ?_
          refine z_iload dX4_pressesSo_61 rfl ?_
          refine z_iadd dX4_pressesSo_63 ?_
          refine z_aloadn dX4_pressesSo_64 rfl rfl ?_
          refine z_getIN (j := 2) zc1 dX4_pressesSo_65 (ha0.k 0 rfl) (ha0.lt 0 rfl) (by decide) rfl w309 ?_
          refine z_iadd dX4_pressesSo_68 ?_
          refine z_aloadn dX4_pressesSo_69 rfl rfl ?_
          refine z_getRNq (j := 3) zc3 dX4_pressesSo_70 (ha1.k 0 rfl) (ha1.lt 0 rfl) (by decide) rfl w371 (ha1.r 2 rfl) ?_
          refine z_iloadn dX4_pressesSo_73 rfl rfl ?_
          refine z_callS (h := h) (S := [.int ((((zI h b6 2) + (zI h b13 2)) + (zI h a0 2))), va_rf r4]) (M := mX4_pressesSo) (As := [va_rf (some (a1 + 3)), .int x2]) eX10_get w778 (Or.inr ⟨_, w1396⟩) dX4_pressesSo_74 rfl (by omega) (Nat.le_of_ble_eq_true rfl) (c_X10_get l G h (some (a1 + 3)) x2 (zgok_lo (ha1.w 3 rfl) (by decide))) (fun v39 g40 q41 => ?_)
          obtain ⟨rfl, q41⟩ := q41
          replace q41 := q41.symm
          subst q41
          show Z l G _ d Q k n 77 _ (.int (zget h (some (a1 + 3)) x2) :: .int ((((zI h b6 2) + (zI h b13 2)) + (zI h a0 2))) :: va_rf r4 :: []) _
          refine z_soP [.int (zget h (some (a1 + 3)) x2), .int ((((zI h b6 2) + (zI h b13 2)) + (zI h a0 2)))] c5 ?_
          refine z_callV (h := h) (S := []) (a := b6) (M := mX4_pressesSo) (As := [.int ((((zI h b6 2) + (zI h b13 2)) + (zI h a0 2))), .int (zget h (some (a1 + 3)) x2)]) zc2 rfl eX2_depthUnder w1089 w46 (Or.inr ⟨_, w1401⟩) dX4_pressesSo_77 (ho37.k 0 rfl) (ho37.lt 0 rfl) rfl (by omega) (Nat.le_of_ble_eq_true rfl) (c_X2_depthUnder l G h b6 (((zI h b6 2) + (zI h b13 2)) + (zI h a0 2)) (zget h (some (a1 + 3)) x2) ho37) (fun v42 g43 q44 => ?_)
          obtain ⟨rfl, q44⟩ := q44
          replace q44 := q44.symm
          subst q44
          show Z l G _ d Q k n 80 _ (.int (zdep (zI h b6 3) (((zI h b6 2) + (zI h b13 2)) + (zI h a0 2)) (zget h (some (a1 + 3)) x2)) :: []) _
          refine z_istore (L' := [va_rf (some a0), va_rf (some a1), .int x2, .int x3, va_rf r4, .int x5, va_rf (zmem h a0 x5), .int (zI h b13 2), .int (zdep (zI h b6 3) (((zI h b6 2) + (zI h b13 2)) + (zI h a0 2)) (zget h (some (a1 + 3)) x2))]) dX4_pressesSo_80 (by decide) rfl ?_
          refine z_iload dX4_pressesSo_82 rfl ?_
          refine z_aloadn dX4_pressesSo_84 rfl rfl ?_
          refine z_getRNq (j := 5) zc3 dX4_pressesSo_85 (ha1.k 0 rfl) (ha1.lt 0 rfl) (by decide) rfl w377 (ha1.r 4 rfl) ?_
          refine z_iloadn dX4_pressesSo_88 rfl rfl ?_
          refine z_callS (h := h) (S := [.int (zdep (zI h b6 3) (((zI h b6 2) + (zI h b13 2)) + (zI h a0 2)) (zget h (some (a1 + 3)) x2))]) (M := mX4_pressesSo) (As := [va_rf (some (a1 + 5)), .int x2]) eX10_get w778 (Or.inr ⟨_, w1396⟩) dX4_pressesSo_89 rfl (by omega) (Nat.le_of_ble_eq_true rfl) (c_X10_get l G h (some (a1 + 5)) x2 (zgok_lo (ha1.w 5 rfl) (by decide))) (fun v45 g46 q47 => ?_)
          obtain ⟨rfl, q47⟩ := q47
          replace q47 := q47.symm
          subst q47
          show Z l G _ d Q k n 92 _ (.int (zget h (some (a1 + 5)) x2) :: .int (zdep (zI h b6 3) (((zI h b6 2) + (zI h b13 2)) + (zI h a0 2)) (zget h (some (a1 + 3)) x2)) :: []) _
          refine z_icmp_ne (t := 97) dX4_pressesSo_92 (by decide) (fun c48 => ?_) (fun c49 => ?_)
          · have hw50 := hw38.1 c48
            refine z_iinc (v := (x5 + 1)) (L' := [va_rf (some a0), va_rf (some a1), .int x2, .int x3, va_rf r4, .int ((x5 + 1)), va_rf (zmem h a0 x5), .int (zI h b13 2), .int (zdep (zI h b6 3) (((zI h b6 2) + (zI h b13 2)) + (zI h a0 2)) (zget h (some (a1 + 3)) x2))]) dX4_pressesSo_97 (by decide) rfl rfl ((zs1_rf (j := 4) rfl).trans rfl) ?_
            refine z_goto (t := 10) dX4_pressesSo_100 (by decide) ?_
            exact hw50
          · have hw51 := hw38.2 c49
            refine z_iconst (v := 1) dX4_pressesSo_95 (by decide) ?_
            exact z_ret (v := some (.int 1)) dX4_pressesSo_96 ⟨_, rfl, by decide⟩ rfl hw51
        · have hw34 := hw15.2 c32
          refine z_iconst (v := 0) dX4_pressesSo_43 (by decide) ?_
          refine z_goto (t := 52) dX4_pressesSo_44 (by decide) ?_
          refine z_istore (L' := [va_rf (some a0), va_rf (some a1), .int x2, .int x3, va_rf r4, .int x5, va_rf (zmem h a0 x5), .int 0, u8]) dX4_pressesSo_52 (by decide) ((zs1_rf (j := 6) rfl).trans rfl) ?_
          refine z_aload dX4_pressesSo_54 rfl ?_
          refine z_aload dX4_pressesSo_56 rfl ?_
          refine z_soP [] c5 ?_
          obtain ⟨ho52, hw53⟩ := hw34
          refine z_getIN (j := 2) zc2 dX4_pressesSo_58 (ho52.k 0 rfl) (ho52.lt 0 rfl) (by decide) rfl w233 ?_
          refine z_iload dX4_pressesSo_61 rfl ?_
          refine z_iadd dX4_pressesSo_63 ?_
          refine z_aloadn dX4_pressesSo_64 rfl rfl ?_
          refine z_getIN (j := 2) zc1 dX4_pressesSo_65 (ha0.k 0 rfl) (ha0.lt 0 rfl) (by decide) rfl w309 ?_
          refine z_iadd dX4_pressesSo_68 ?_
          refine z_aloadn dX4_pressesSo_69 rfl rfl ?_
          refine z_getRNq (j := 3) zc3 dX4_pressesSo_70 (ha1.k 0 rfl) (ha1.lt 0 rfl) (by decide) rfl w371 (ha1.r 2 rfl) ?_
          refine z_iloadn dX4_pressesSo_73 rfl rfl ?_
          refine z_callS (h := h) (S := [.int ((((zI h b6 2) + 0) + (zI h a0 2))), va_rf r4]) (M := mX4_pressesSo) (As := [va_rf (some (a1 + 3)), .int x2]) eX10_get w778 (Or.inr ⟨_, w1396⟩) dX4_pressesSo_74 rfl (by omega) (Nat.le_of_ble_eq_true rfl) (c_X10_get l G h (some (a1 + 3)) x2 (zgok_lo (ha1.w 3 rfl) (by decide))) (fun v54 g55 q56 => ?_)
          obtain ⟨rfl, q56⟩ := q56
          replace q56 := q56.symm
          subst q56
          show Z l G _ d Q k n 77 _ (.int (zget h (some (a1 + 3)) x2) :: .int ((((zI h b6 2) + 0) + (zI h a0 2))) :: va_rf r4 :: []) _
          refine z_soP [.int (zget h (some (a1 + 3)) x2), .int ((((zI h b6 2) + 0) + (zI h a0 2)))] c5 ?_
          refine z_callV (h := h) (S := []) (a := b6) (M := mX4_pressesSo) (As := [.int ((((zI h b6 2) + 0) + (zI h a0 2))), .int (zget h (some (a1 + 3)) x2)]) zc2 rfl eX2_depthUnder w1089 w46 (Or.inr ⟨_, w1401⟩) dX4_pressesSo_77 (ho52.k 0 rfl) (ho52.lt 0 rfl) rfl (by omega) (Nat.le_of_ble_eq_true rfl) (c_X2_depthUnder l G h b6 (((zI h b6 2) + 0) + (zI h a0 2)) (zget h (some (a1 + 3)) x2) ho52) (fun v57 g58 q59 => ?_)
          obtain ⟨rfl, q59⟩ := q59
          replace q59 := q59.symm
          subst q59
          show Z l G _ d Q k n 80 _ (.int (zdep (zI h b6 3) (((zI h b6 2) + 0) + (zI h a0 2)) (zget h (some (a1 + 3)) x2)) :: []) _
          refine z_istore (L' := [va_rf (some a0), va_rf (some a1), .int x2, .int x3, va_rf r4, .int x5, va_rf (zmem h a0 x5), .int 0, .int (zdep (zI h b6 3) (((zI h b6 2) + 0) + (zI h a0 2)) (zget h (some (a1 + 3)) x2))]) dX4_pressesSo_80 (by decide) rfl ?_
          refine z_iload dX4_pressesSo_82 rfl ?_
          refine z_aloadn dX4_pressesSo_84 rfl rfl ?_
          refine z_getRNq (j := 5) zc3 dX4_pressesSo_85 (ha1.k 0 rfl) (ha1.lt 0 rfl) (by decide) rfl w377 (ha1.r 4 rfl) ?_
          refine z_iloadn dX4_pressesSo_88 rfl rfl ?_
          refine z_callS (h := h) (S := [.int (zdep (zI h b6 3) (((zI h b6 2) + 0) + (zI h a0 2)) (zget h (some (a1 + 3)) x2))]) (M := mX4_pressesSo) (As := [va_rf (some (a1 + 5)), .int x2]) eX10_get w778 (Or.inr ⟨_, w1396⟩) dX4_pressesSo_89 rfl (by omega) (Nat.le_of_ble_eq_true rfl) (c_X10_get l G h (some (a1 + 5)) x2 (zgok_lo (ha1.w 5 rfl) (by decide))) (fun v60 g61 q62 => ?_)
          obtain ⟨rfl, q62⟩ := q62
          replace q62 := q62.symm
          subst q62
          show Z l G _ d Q k n 92 _ (.int (zget h (some (a1 + 5)) x2) :: .int (zdep (zI h b6 3) (((zI h b6 2) + 0) + (zI h a0 2)) (zget h (some (a1 + 3)) x2)) :: []) _
          refine z_icmp_ne (t := 97) dX4_pressesSo_92 (by decide) (fun c63 => ?_) (fun c64 => ?_)
          · have hw65 := hw53.1 c63
            refine z_iinc (v := (x5 + 1)) (L' := [va_rf (some a0), va_rf (some a1), .int x2, .int x3, va_rf r4, .int ((x5 + 1)), va_rf (zmem h a0 x5), .int 0, .int (zdep (zI h b6 3) (((zI h b6 2) + 0) + (zI h a0 2)) (zget h (some (a1 + 3)) x2))]) dX4_pressesSo_97 (by decide) rfl rfl ((zs1_rf (j := 4) rfl).trans rfl) ?_
            refine z_goto (t := 10) dX4_pressesSo_100 (by decide) ?_
            exact hw65
          · have hw66 := hw53.2 c64
            refine z_iconst (v := 1) dX4_pressesSo_95 (by decide) ?_
            exact z_ret (v := some (.int 1)) dX4_pressesSo_96 ⟨_, rfl, by decide⟩ rfl hw66

theorem kX4_pressesSo {l : Launch} {G : zG} {d : Nat} {Q : Option Value → zH → Prop} {k n : Nat} {h : zH} (a0 : Nat) (a1 : Nat) (x2 : Int32) (x3 : Int32) (hz : Z l G mX4_pressesSo d Q k n 0 [va_rf (some a0), va_rf (some a1), .int x2, .int x3, zU, zU, zU, zU, zU] [] h) : CT l G YX4_pressesSo d k n [va_rf (some a0), va_rf (some a1), .int x2, .int x3] h Q :=
  CT.of (by decide +kernel) (fun t e => by have e2 : ((some .boolean) : Option FieldType) = some t := e; cases e2; exact ⟨by decide, by decide⟩) (by exact Nat.le_of_ble_eq_true rfl) (by exact hz)

theorem sX4_mayFollow_0 {l : Launch} {G : zG} {d : Nat} {Q : Option Value → zH → Prop} {k n : Nat} {h : zH} (a : Nat) (a1 : Nat) (a2 : Nat) (x3 : Int32) (x4 : Int32) (ha : lo4 h a) (ha1 : lo1 h a1) (ha2 : lo3 h a2) (hd9 : 3 ≤ d)
    (hw : ((¬ zget h (some (a2 + 2)) x3 = zget h (some (a2 + 2)) x4 → Q (some (.int 0)) h) ∧ (zget h (some (a2 + 2)) x3 = zget h (some (a2 + 2)) x4 → ((¬ zget h (some (a2 + 3)) x3 = zget h (some (a2 + 3)) x4 → Z l G mX4_mayFollow d Q k n 77 [va_rf (some a), va_rf (some a1), va_rf (some a2), .int x3, .int x4, .int 1, .int (((zget h (some (a + 1)) x3) &&& (zget h (some (a + 1)) x4))), .int 0, zU, zU] [] h) ∧ (zget h (some (a2 + 3)) x3 = zget h (some (a2 + 3)) x4 → Q (some (.int 0)) h))))) :
    Z l G mX4_mayFollow d Q k n 0 [va_rf (some a), va_rf (some a1), va_rf (some a2), .int x3, .int x4, zU, zU, zU, zU, zU] [] h := by
  refine z_aloadn dX4_mayFollow_0 rfl rfl ?_
  refine z_getRNq (j := 2) zc3 dX4_mayFollow_1 (ha2.k 0 rfl) (ha2.lt 0 rfl) (by decide) rfl w368 (ha2.r 1 rfl) ?_
  refine z_iloadn dX4_mayFollow_4 rfl rfl ?_
  refine z_callS (h := h) (S := []) (M := mX4_mayFollow) (As := [va_rf (some (a2 + 2)), .int x3]) eX10_get w778 (Or.inr ⟨_, w1396⟩) dX4_mayFollow_5 rfl (by omega) (Nat.le_of_ble_eq_true rfl) (c_X10_get l G h (some (a2 + 2)) x3 (zgok_lo (ha2.w 2 rfl) (by decide))) (fun v1 g2 q3 => ?_)
  obtain ⟨rfl, q3⟩ := q3
  replace q3 := q3.symm
  subst q3
  show Z l G _ d Q k n 8 _ (.int (zget h (some (a2 + 2)) x3) :: []) _
  refine z_aloadn dX4_mayFollow_8 rfl rfl ?_
  refine z_getRNq (j := 2) zc3 dX4_mayFollow_9 (ha2.k 0 rfl) (ha2.lt 0 rfl) (by decide) rfl w368 (ha2.r 1 rfl) ?_
  refine z_iload dX4_mayFollow_12 rfl ?_
  refine z_callS (h := h) (S := [.int (zget h (some (a2 + 2)) x3)]) (M := mX4_mayFollow) (As := [va_rf (some (a2 + 2)), .int x4]) eX10_get w778 (Or.inr ⟨_, w1396⟩) dX4_mayFollow_14 rfl (by omega) (Nat.le_of_ble_eq_true rfl) (c_X10_get l G h (some (a2 + 2)) x4 (zgok_lo (ha2.w 2 rfl) (by decide))) (fun v4 g5 q6 => ?_)
  obtain ⟨rfl, q6⟩ := q6
  replace q6 := q6.symm
  subst q6
  show Z l G _ d Q k n 17 _ (.int (zget h (some (a2 + 2)) x4) :: .int (zget h (some (a2 + 2)) x3) :: []) _
  refine z_icmp_ne (t := 24) dX4_mayFollow_17 (by decide) (fun c7 => ?_) (fun c8 => ?_)
  · have hw9 := hw.1 c7
    refine z_iconst (v := 0) dX4_mayFollow_24 (by decide) ?_
    refine z_istore (L' := [va_rf (some a), va_rf (some a1), va_rf (some a2), .int x3, .int x4, .int 0, zU, zU, zU, zU]) dX4_mayFollow_25 (by decide) rfl ?_
    refine z_iload dX4_mayFollow_27 rfl ?_
    refine z_if_eq (t := 52) dX4_mayFollow_29 (by decide) (fun _ => ?_) (fun c11 => absurd c11 (by decide))
    refine z_iconst (v := 0) dX4_mayFollow_52 (by decide) ?_
    exact z_ret (v := some (.int 0)) dX4_mayFollow_53 ⟨_, rfl, by decide⟩ rfl hw9
  · have hw10 := hw.2 c8
    refine z_iconst (v := 1) dX4_mayFollow_20 (by decide) ?_
    refine z_goto (t := 25) dX4_mayFollow_21 (by decide) ?_
    refine z_istore (L' := [va_rf (some a), va_rf (some a1), va_rf (some a2), .int x3, .int x4, .int 1, zU, zU, zU, zU]) dX4_mayFollow_25 (by decide) rfl ?_
    refine z_iload dX4_mayFollow_27 rfl ?_
    refine z_if_eq (t := 52) dX4_mayFollow_29 (by decide) (fun c12 => absurd c12 (by decide)) (fun _ => ?_)
    refine z_aloadn dX4_mayFollow_32 rfl rfl ?_
    refine z_getRNq (j := 3) zc3 dX4_mayFollow_33 (ha2.k 0 rfl) (ha2.lt 0 rfl) (by decide) rfl w371 (ha2.r 2 rfl) ?_
    refine z_iloadn dX4_mayFollow_36 rfl rfl ?_
    refine z_callS (h := h) (S := []) (M := mX4_mayFollow) (As := [va_rf (some (a2 + 3)), .int x3]) eX10_get w778 (Or.inr ⟨_, w1396⟩) dX4_mayFollow_37 rfl (by omega) (Nat.le_of_ble_eq_true rfl) (c_X10_get l G h (some (a2 + 3)) x3 (zgok_lo (ha2.w 3 rfl) (by decide))) (fun v13 g14 q15 => ?_)
    obtain ⟨rfl, q15⟩ := q15
    replace q15 := q15.symm
    subst q15
    show Z l G _ d Q k n 40 _ (.int (zget h (some (a2 + 3)) x3) :: []) _
    refine z_aloadn dX4_mayFollow_40 rfl rfl ?_
    refine z_getRNq (j := 3) zc3 dX4_mayFollow_41 (ha2.k 0 rfl) (ha2.lt 0 rfl) (by decide) rfl w371 (ha2.r 2 rfl) ?_
    refine z_iload dX4_mayFollow_44 rfl ?_
    refine z_callS (h := h) (S := [.int (zget h (some (a2 + 3)) x3)]) (M := mX4_mayFollow) (As := [va_rf (some (a2 + 3)), .int x4]) eX10_get w778 (Or.inr ⟨_, w1396⟩) dX4_mayFollow_46 rfl (by omega) (Nat.le_of_ble_eq_true rfl) (c_X10_get l G h (some (a2 + 3)) x4 (zgok_lo (ha2.w 3 rfl) (by decide))) (fun v16 g17 q18 => ?_)
    obtain ⟨rfl, q18⟩ := q18
    replace q18 := q18.symm
    subst q18
    show Z l G _ d Q k n 49 _ (.int (zget h (some (a2 + 3)) x4) :: .int (zget h (some (a2 + 3)) x3) :: []) _
    refine z_icmp_ne (t := 54) dX4_mayFollow_49 (by decide) (fun c19 => ?_) (fun c20 => ?_)
    · have hw21 := hw10.1 c19
      refine z_aloadn dX4_mayFollow_54 rfl rfl ?_
      refine z_getRq (j := 1) zc4 dX4_mayFollow_55 (ha.k 0 rfl) (ha.lt 0 rfl) (by decide) rfl w652 (ha.r 0 rfl) ?_
      refine z_iloadn dX4_mayFollow_58 rfl rfl ?_
      refine z_callS (h := h) (S := []) (M := mX4_mayFollow) (As := [va_rf (some (a + 1)), .int x3]) eX10_get w778 (Or.inr ⟨_, w1396⟩) dX4_mayFollow_59 rfl (by omega) (Nat.le_of_ble_eq_true rfl) (c_X10_get l G h (some (a + 1)) x3 (zgok_lo (ha.w 1 rfl) (by decide))) (fun v23 g24 q25 => ?_)
      obtain ⟨rfl, q25⟩ := q25
      replace q25 := q25.symm
      subst q25
      show Z l G _ d Q k n 62 _ (.int (zget h (some (a + 1)) x3) :: []) _
      refine z_aloadn dX4_mayFollow_62 rfl rfl ?_
      refine z_getRq (j := 1) zc4 dX4_mayFollow_63 (ha.k 0 rfl) (ha.lt 0 rfl) (by decide) rfl w652 (ha.r 0 rfl) ?_
      refine z_iload dX4_mayFollow_66 rfl ?_
      refine z_callS (h := h) (S := [.int (zget h (some (a + 1)) x3)]) (M := mX4_mayFollow) (As := [va_rf (some (a + 1)), .int x4]) eX10_get w778 (Or.inr ⟨_, w1396⟩) dX4_mayFollow_68 rfl (by omega) (Nat.le_of_ble_eq_true rfl) (c_X10_get l G h (some (a + 1)) x4 (zgok_lo (ha.w 1 rfl) (by decide))) (fun v26 g27 q28 => ?_)
      obtain ⟨rfl, q28⟩ := q28
      replace q28 := q28.symm
      subst q28
      show Z l G _ d Q k n 71 _ (.int (zget h (some (a + 1)) x4) :: .int (zget h (some (a + 1)) x3) :: []) _
      refine z_iand dX4_mayFollow_71 ?_
      refine z_istore (L' := [va_rf (some a), va_rf (some a1), va_rf (some a2), .int x3, .int x4, .int 1, .int (((zget h (some (a + 1)) x3) &&& (zget h (some (a + 1)) x4))), zU, zU, zU]) dX4_mayFollow_72 (by decide) rfl ?_
      refine z_iconst (v := 0) dX4_mayFollow_74 (by decide) ?_
      refine z_istore (L' := [va_rf (some a), va_rf (some a1), va_rf (some a2), .int x3, .int x4, .int 1, .int (((zget h (some (a + 1)) x3) &&& (zget h (some (a + 1)) x4))), .int 0, zU, zU]) dX4_mayFollow_75 (by decide) rfl ?_
      exact hw21
    · have hw22 := hw10.2 c20
      refine z_iconst (v := 0) dX4_mayFollow_52 (by decide) ?_
      exact z_ret (v := some (.int 0)) dX4_mayFollow_53 ⟨_, rfl, by decide⟩ rfl hw22

theorem sX4_mayFollow_77 {l : Launch} {G : zG} {d : Nat} {Q : Option Value → zH → Prop} {k n : Nat} {h : zH} (a : Nat) (a1 : Nat) (a2 : Nat) (x3 : Int32) (x4 : Int32) (u5 : Value) (x6 : Int32) (x7 : Int32) (u8 : Value) (u9 : Value) (ha : lo4 h a) (ha1 : lo1 h a1) (ha2 : lo3 h a2) (hd9 : 3 ≤ d)
    (hw : (((zI h a1 3).toInt ≤ x7.toInt → Q (some (.int 0)) h) ∧ (x7.toInt < (zI h a1 3).toInt → ((zmem h a1 x7 = none → Z l G mX4_mayFollow d Q k n 77 [va_rf (some a), va_rf (some a1), va_rf (some a2), .int x3, .int x4, u5, .int x6, .int ((x7 + 1)), va_rf (zmem h a1 x7), u9] [] h) ∧ (∀ b9, zmem h a1 x7 = some b9 → ((¬ ((x6 >>> (x7 &&& 31)) &&& 1) = 1 → Z l G mX4_mayFollow d Q k n 77 [va_rf (some a), va_rf (some a1), va_rf (some a2), .int x3, .int x4, u5, .int x6, .int ((x7 + 1)), va_rf (zmem h a1 x7), u9] [] h) ∧ (((x6 >>> (x7 &&& 31)) &&& 1) = 1 → (lo2 h b9 ∧ ((zbes (zI h a1 0) (zI h a1 1) (zget h (some (a2 + 1)) x3) (zget h (some (a2 + 4)) x4) (zI h b9 1) = (-1) → Z l G mX4_mayFollow d Q k n 77 [va_rf (some a), va_rf (some a1), va_rf (some a2), .int x3, .int x4, u5, .int x6, .int ((x7 + 1)), va_rf (zmem h a1 x7), .int (zbes (zI h a1 0) (zI h a1 1) (zget h (some (a2 + 1)) x3) (zget h (some (a2 + 4)) x4) (zI h b9 1))] [] h) ∧ (¬ zbes (zI h a1 0) (zI h a1 1) (zget h (some (a2 + 1)) x3) (zget h (some (a2 + 4)) x4) (zI h b9 1) = (-1) → ((¬ zbes (zI h a1 0) (zI h a1 1) (zget h (some (a2 + 1)) x3) (zget h (some (a2 + 4)) x4) (zI h b9 1) = zget h (some (a2 + 1)) x4 → Z l G mX4_mayFollow d Q k n 77 [va_rf (some a), va_rf (some a1), va_rf (some a2), .int x3, .int x4, u5, .int x6, .int ((x7 + 1)), va_rf (zmem h a1 x7), .int (zbes (zI h a1 0) (zI h a1 1) (zget h (some (a2 + 1)) x3) (zget h (some (a2 + 4)) x4) (zI h b9 1))] [] h) ∧ (zbes (zI h a1 0) (zI h a1 1) (zget h (some (a2 + 1)) x3) (zget h (some (a2 + 4)) x4) (zI h b9 1) = zget h (some (a2 + 1)) x4 → Q (some (.int 1)) h)))))))))))) :
    Z l G mX4_mayFollow d Q k n 77 [va_rf (some a), va_rf (some a1), va_rf (some a2), .int x3, .int x4, u5, .int x6, .int x7, u8, u9] [] h := by
  refine z_iload dX4_mayFollow_77 rfl ?_
  refine z_aloadn dX4_mayFollow_79 rfl rfl ?_
  refine z_getIN (j := 3) zc1 dX4_mayFollow_80 (ha1.k 0 rfl) (ha1.lt 0 rfl) (by decide) rfl w315 ?_
  refine z_icmp_ge (t := 166) dX4_mayFollow_83 (by decide) (fun c1 => ?_) (fun c2 => ?_)
  · have hw3 := hw.1 c1
    refine z_iconst (v := 0) dX4_mayFollow_166 (by decide) ?_
    exact z_ret (v := some (.int 0)) dX4_mayFollow_167 ⟨_, rfl, by decide⟩ rfl hw3
  · have hw4 := hw.2 c2
    refine z_aloadn dX4_mayFollow_86 rfl rfl ?_
    refine z_iload dX4_mayFollow_87 rfl ?_
    refine z_callV (h := h) (S := []) (a := a1) (M := mX4_mayFollow) (As := [.int x7]) zc1 rfl eX1_member w1011 w34 (Or.inr ⟨_, w1397⟩) dX4_mayFollow_89 (ha1.k 0 rfl) (ha1.lt 0 rfl) rfl (by omega) (Nat.le_of_ble_eq_true rfl) (c_X1_member l G h a1 x7 ha1) (fun v5 g6 q7 => ?_)
    obtain ⟨rfl, q7⟩ := q7
    replace q7 := q7.symm
    subst q7
    show Z l G _ d Q k n 92 _ (va_rf (zmem h a1 x7) :: []) _
    refine z_astore (L' := [va_rf (some a), va_rf (some a1), va_rf (some a2), .int x3, .int x4, u5, .int x6, .int x7, va_rf (zmem h a1 x7), u9]) dX4_mayFollow_92 (by decide) rfl ?_
    refine z_aload dX4_mayFollow_94 rfl ?_
    refine z_ifnull (t := 160) dX4_mayFollow_96 (by decide) (fun c8 => ?_) (fun b9 c8 => ?_)
    · have hw10 := hw4.1 c8
      refine z_iinc (v := (x7 + 1)) (L' := [va_rf (some a), va_rf (some a1), va_rf (some a2), .int x3, .int x4, u5, .int x6, .int ((x7 + 1)), va_rf (zmem h a1 x7), u9]) dX4_mayFollow_160 (by decide) rfl rfl rfl ?_
      refine z_goto (t := 77) dX4_mayFollow_163 (by decide) ?_
      exact hw10
    · have hw11 := hw4.2 b9 c8
      refine z_iload dX4_mayFollow_99 rfl ?_
      refine z_iload dX4_mayFollow_101 rfl ?_
      refine z_ishr dX4_mayFollow_103 ?_
      refine z_iconst (v := 1) dX4_mayFollow_104 (by decide) ?_
      refine z_iand dX4_mayFollow_105 ?_
      refine z_iconst (v := 1) dX4_mayFollow_106 (by decide) ?_
      refine z_icmp_ne (t := 160) dX4_mayFollow_107 (by decide) (fun c12 => ?_) (fun c13 => ?_)
      · have hw14 := hw11.1 c12
        refine z_iinc (v := (x7 + 1)) (L' := [va_rf (some a), va_rf (some a1), va_rf (some a2), .int x3, .int x4, u5, .int x6, .int ((x7 + 1)), va_rf (zmem h a1 x7), u9]) dX4_mayFollow_160 (by decide) rfl rfl rfl ?_
        refine z_goto (t := 77) dX4_mayFollow_163 (by decide) ?_
        exact hw14
      · have hw15 := hw11.2 c13
        refine z_aloadn dX4_mayFollow_110 rfl rfl ?_
        refine z_aloadn dX4_mayFollow_111 rfl rfl ?_
        refine z_getRNq (j := 1) zc3 dX4_mayFollow_112 (ha2.k 0 rfl) (ha2.lt 0 rfl) (by decide) rfl w365 (ha2.r 0 rfl) ?_
        refine z_iloadn dX4_mayFollow_115 rfl rfl ?_
        refine z_callS (h := h) (S := [va_rf (some a1)]) (M := mX4_mayFollow) (As := [va_rf (some (a2 + 1)), .int x3]) eX10_get w778 (Or.inr ⟨_, w1396⟩) dX4_mayFollow_116 rfl (by omega) (Nat.le_of_ble_eq_true rfl) (c_X10_get l G h (some (a2 + 1)) x3 (zgok_lo (ha2.w 1 rfl) (by decide))) (fun v16 g17 q18 => ?_)
        obtain ⟨rfl, q18⟩ := q18
        replace q18 := q18.symm
        subst q18
        show Z l G _ d Q k n 119 _ (.int (zget h (some (a2 + 1)) x3) :: va_rf (some a1) :: []) _
        refine z_aloadn dX4_mayFollow_119 rfl rfl ?_
        refine z_getRNq (j := 4) zc3 dX4_mayFollow_120 (ha2.k 0 rfl) (ha2.lt 0 rfl) (by decide) rfl w374 (ha2.r 3 rfl) ?_
        refine z_iload dX4_mayFollow_123 rfl ?_
        refine z_callS (h := h) (S := [.int (zget h (some (a2 + 1)) x3), va_rf (some a1)]) (M := mX4_mayFollow) (As := [va_rf (some (a2 + 4)), .int x4]) eX10_get w778 (Or.inr ⟨_, w1396⟩) dX4_mayFollow_125 rfl (by omega) (Nat.le_of_ble_eq_true rfl) (c_X10_get l G h (some (a2 + 4)) x4 (zgok_lo (ha2.w 4 rfl) (by decide))) (fun v19 g20 q21 => ?_)
        obtain ⟨rfl, q21⟩ := q21
        replace q21 := q21.symm
        subst q21
        show Z l G _ d Q k n 128 _ (.int (zget h (some (a2 + 4)) x4) :: .int (zget h (some (a2 + 1)) x3) :: va_rf (some a1) :: []) _
        refine z_aload dX4_mayFollow_128 rfl ?_
        refine z_soP [] c8 ?_
        obtain ⟨ho22, hw23⟩ := hw15
        refine z_getIN (j := 1) zc2 dX4_mayFollow_130 (ho22.k 0 rfl) (ho22.lt 0 rfl) (by decide) rfl w228 ?_
        refine z_callV (h := h) (S := []) (a := a1) (M := mX4_mayFollow) (As := [.int (zget h (some (a2 + 1)) x3), .int (zget h (some (a2 + 4)) x4), .int (zI h b9 1)]) zc1 rfl eX1_beside w1030 w38 (Or.inr ⟨_, w1407⟩) dX4_mayFollow_133 (ha1.k 0 rfl) (ha1.lt 0 rfl) rfl (by omega) (Nat.le_of_ble_eq_true rfl) (c_X1_beside l G h a1 (zget h (some (a2 + 1)) x3) (zget h (some (a2 + 4)) x4) (zI h b9 1) ha1) (fun v24 g25 q26 => ?_)
        obtain ⟨rfl, q26⟩ := q26
        replace q26 := q26.symm
        subst q26
        show Z l G _ d Q k n 136 _ (.int (zbes (zI h a1 0) (zI h a1 1) (zget h (some (a2 + 1)) x3) (zget h (some (a2 + 4)) x4) (zI h b9 1)) :: []) _
        refine z_istore (L' := [va_rf (some a), va_rf (some a1), va_rf (some a2), .int x3, .int x4, u5, .int x6, .int x7, va_rf (zmem h a1 x7), .int (zbes (zI h a1 0) (zI h a1 1) (zget h (some (a2 + 1)) x3) (zget h (some (a2 + 4)) x4) (zI h b9 1))]) dX4_mayFollow_136 (by decide) ((zs1_rf (j := 8) rfl).trans rfl) ?_
        refine z_iload dX4_mayFollow_138 rfl ?_
        refine z_iconst (v := (-1)) dX4_mayFollow_140 (by decide) ?_
        refine z_icmp_eq (t := 160) dX4_mayFollow_141 (by decide) (fun c27 => ?_) (fun c28 => ?_)
        · have hw29 := hw23.1 c27
          refine z_iinc (v := (x7 + 1)) (L' := [va_rf (some a), va_rf (some a1), va_rf (some a2), .int x3, .int x4, u5, .int x6, .int ((x7 + 1)), va_rf (zmem h a1 x7), .int (zbes (zI h a1 0) (zI h a1 1) (zget h (some (a2 + 1)) x3) (zget h (some (a2 + 4)) x4) (zI h b9 1))]) dX4_mayFollow_160 (by decide) rfl rfl rfl ?_
          refine z_goto (t := 77) dX4_mayFollow_163 (by decide) ?_
          exact hw29
        · have hw30 := hw23.2 c28
          refine z_iload dX4_mayFollow_144 rfl ?_
          refine z_aloadn dX4_mayFollow_146 rfl rfl ?_
          refine z_getRNq (j := 1) zc3 dX4_mayFollow_147 (ha2.k 0 rfl) (ha2.lt 0 rfl) (by decide) rfl w365 (ha2.r 0 rfl) ?_
          refine z_iload dX4_mayFollow_150 rfl ?_
          refine z_callS (h := h) (S := [.int (zbes (zI h a1 0) (zI h a1 1) (zget h (some (a2 + 1)) x3) (zget h (some (a2 + 4)) x4) (zI h b9 1))]) (M := mX4_mayFollow) (As := [va_rf (some (a2 + 1)), .int x4]) eX10_get w778 (Or.inr ⟨_, w1396⟩) dX4_mayFollow_152 rfl (by omega) (Nat.le_of_ble_eq_true rfl) (c_X10_get l G h (some (a2 + 1)) x4 (zgok_lo (ha2.w 1 rfl) (by decide))) (fun v31 g32 q33 => ?_)
          obtain ⟨rfl, q33⟩ := q33
          replace q33 := q33.symm
          subst q33
          show Z l G _ d Q k n 155 _ (.int (zget h (some (a2 + 1)) x4) :: .int (zbes (zI h a1 0) (zI h a1 1) (zget h (some (a2 + 1)) x3) (zget h (some (a2 + 4)) x4) (zI h b9 1)) :: []) _
          refine z_icmp_ne (t := 160) dX4_mayFollow_155 (by decide) (fun c34 => ?_) (fun c35 => ?_)
          · have hw36 := hw30.1 c34
            refine z_iinc (v := (x7 + 1)) (L' := [va_rf (some a), va_rf (some a1), va_rf (some a2), .int x3, .int x4, u5, .int x6, .int ((x7 + 1)), va_rf (zmem h a1 x7), .int (zbes (zI h a1 0) (zI h a1 1) (zget h (some (a2 + 1)) x3) (zget h (some (a2 + 4)) x4) (zI h b9 1))]) dX4_mayFollow_160 (by decide) rfl rfl rfl ?_
            refine z_goto (t := 77) dX4_mayFollow_163 (by decide) ?_
            exact hw36
          · have hw37 := hw30.2 c35
            refine z_iconst (v := 1) dX4_mayFollow_158 (by decide) ?_
            exact z_ret (v := some (.int 1)) dX4_mayFollow_159 ⟨_, rfl, by decide⟩ rfl hw37

theorem kX4_mayFollow {l : Launch} {G : zG} {d : Nat} {Q : Option Value → zH → Prop} {k n : Nat} {h : zH} (a : Nat) (a1 : Nat) (a2 : Nat) (x3 : Int32) (x4 : Int32) (hz : Z l G mX4_mayFollow d Q k n 0 [va_rf (some a), va_rf (some a1), va_rf (some a2), .int x3, .int x4, zU, zU, zU, zU, zU] [] h) : CT l G YX4_mayFollow d k n [va_rf (some a), va_rf (some a1), va_rf (some a2), .int x3, .int x4] h Q :=
  CT.of (by decide +kernel) (fun t e => by have e2 : ((some .boolean) : Option FieldType) = some t := e; cases e2; exact ⟨by decide, by decide⟩) (by exact Nat.le_of_ble_eq_true rfl) (by exact hz)

theorem sX4_forged_0 {l : Launch} {G : zG} {d : Nat} {Q : Option Value → zH → Prop} {k n : Nat} {h : zH} (a : Nat) (ha : lo4 h a) (hd9 : 2 ≤ d)
    (hw : Z l G mX4_forged d Q k n 4 [va_rf (some a), .int 0, .int 0] [] h) :
    Z l G mX4_forged d Q k n 0 [va_rf (some a), zU, zU] [] h := by
  refine z_iconst (v := 0) dX4_forged_0 (by decide) ?_
  refine z_istoren (L' := [va_rf (some a), .int 0, zU]) dX4_forged_1 rfl (by decide) rfl ?_
  refine z_iconst (v := 0) dX4_forged_2 (by decide) ?_
  refine z_istoren (L' := [va_rf (some a), .int 0, .int 0]) dX4_forged_3 rfl (by decide) rfl ?_
  exact hw

theorem sX4_forged_4 {l : Launch} {G : zG} {d : Nat} {Q : Option Value → zH → Prop} {k n : Nat} {h : zH} (a : Nat) (x1 : Int32) (x2 : Int32) (ha : lo4 h a) (hd9 : 2 ≤ d)
    (hw : (((zI h a 0).toInt ≤ x2.toInt → Q (some (.int x1)) h) ∧ (x2.toInt < (zI h a 0).toInt → ((¬ zget h (some (a + 1)) x2 = 0 → Z l G mX4_forged d Q k n 4 [va_rf (some a), .int x1, .int ((x2 + 1))] [] h) ∧ (zget h (some (a + 1)) x2 = 0 → Z l G mX4_forged d Q k n 4 [va_rf (some a), .int ((x1 ||| ((1 : Int32) <<< (x2 &&& 31)))), .int ((x2 + 1))] [] h))))) :
    Z l G mX4_forged d Q k n 4 [va_rf (some a), .int x1, .int x2] [] h := by
  refine z_iloadn dX4_forged_4 rfl rfl ?_
  refine z_aloadn dX4_forged_5 rfl rfl ?_
  refine z_getI (j := 0) zc4 dX4_forged_6 (ha.k 0 rfl) (ha.lt 0 rfl) (by decide) rfl w651 ?_
  refine z_icmp_ge (t := 35) dX4_forged_9 (by decide) (fun c1 => ?_) (fun c2 => ?_)
  · have hw3 := hw.1 c1
    refine z_iloadn dX4_forged_35 rfl rfl ?_
    exact z_ret (v := some (.int x1)) dX4_forged_36 ⟨_, rfl, rfl⟩ rfl hw3
  · have hw4 := hw.2 c2
    refine z_aloadn dX4_forged_12 rfl rfl ?_
    refine z_getRq (j := 1) zc4 dX4_forged_13 (ha.k 0 rfl) (ha.lt 0 rfl) (by decide) rfl w652 (ha.r 0 rfl) ?_
    refine z_iloadn dX4_forged_16 rfl rfl ?_
    refine z_callS (h := h) (S := []) (M := mX4_forged) (As := [va_rf (some (a + 1)), .int x2]) eX10_get w778 (Or.inr ⟨_, w1396⟩) dX4_forged_17 rfl (by omega) (Nat.le_of_ble_eq_true rfl) (c_X10_get l G h (some (a + 1)) x2 (zgok_lo (ha.w 1 rfl) (by decide))) (fun v5 g6 q7 => ?_)
    obtain ⟨rfl, q7⟩ := q7
    replace q7 := q7.symm
    subst q7
    show Z l G _ d Q k n 20 _ (.int (zget h (some (a + 1)) x2) :: []) _
    refine z_if_ne (t := 29) dX4_forged_20 (by decide) (fun c8 => ?_) (fun c9 => ?_)
    · have hw10 := hw4.1 c8
      refine z_iinc (v := (x2 + 1)) (L' := [va_rf (some a), .int x1, .int ((x2 + 1))]) dX4_forged_29 (by decide) rfl rfl rfl ?_
      refine z_goto (t := 4) dX4_forged_32 (by decide) ?_
      exact hw10
    · have hw11 := hw4.2 c9
      refine z_iloadn dX4_forged_23 rfl rfl ?_
      refine z_iconst (v := 1) dX4_forged_24 (by decide) ?_
      refine z_iloadn dX4_forged_25 rfl rfl ?_
      refine z_ishl dX4_forged_26 ?_
      refine z_ior dX4_forged_27 ?_
      refine z_istoren (L' := [va_rf (some a), .int ((x1 ||| ((1 : Int32) <<< (x2 &&& 31)))), .int x2]) dX4_forged_28 rfl (by decide) rfl ?_
      refine z_iinc (v := (x2 + 1)) (L' := [va_rf (some a), .int ((x1 ||| ((1 : Int32) <<< (x2 &&& 31)))), .int ((x2 + 1))]) dX4_forged_29 (by decide) rfl rfl rfl ?_
      refine z_goto (t := 4) dX4_forged_32 (by decide) ?_
      exact hw11

theorem kX4_forged {l : Launch} {G : zG} {d : Nat} {Q : Option Value → zH → Prop} {k n : Nat} {h : zH} (a : Nat) (hz : Z l G mX4_forged d Q k n 0 [va_rf (some a), zU, zU] [] h) : CT l G YX4_forged d k n [va_rf (some a)] h Q :=
  CT.of (by decide +kernel) (fun t e => by have e2 : ((some .int) : Option FieldType) = some t := e; cases e2; exact ⟨by decide, by decide⟩) (by exact Nat.le_of_ble_eq_true rfl) (by exact hz)

theorem sX4_couples_0 {l : Launch} {G : zG} {d : Nat} {Q : Option Value → zH → Prop} {k n : Nat} {h : zH} (a : Nat) (ha : lo4 h a) (hd9 : 2 ≤ d)
    (hw : Z l G mX4_couples d Q k n 4 [va_rf (some a), .int 0, .int 0] [] h) :
    Z l G mX4_couples d Q k n 0 [va_rf (some a), zU, zU] [] h := by
  refine z_iconst (v := 0) dX4_couples_0 (by decide) ?_
  refine z_istoren (L' := [va_rf (some a), .int 0, zU]) dX4_couples_1 rfl (by decide) rfl ?_
  refine z_iconst (v := 0) dX4_couples_2 (by decide) ?_
  refine z_istoren (L' := [va_rf (some a), .int 0, .int 0]) dX4_couples_3 rfl (by decide) rfl ?_
  exact hw

theorem sX4_couples_4 {l : Launch} {G : zG} {d : Nat} {Q : Option Value → zH → Prop} {k n : Nat} {h : zH} (a : Nat) (x1 : Int32) (x2 : Int32) (ha : lo4 h a) (hd9 : 2 ≤ d)
    (hw : (((zI h a 0).toInt ≤ x2.toInt → Q (some (.int x1)) h) ∧ (x2.toInt < (zI h a 0).toInt → (∃ P8, CTi l G YJ6_bitCount_0f7a4 1 [.int (zget h (some (a + 2)) x2)] h P8 ∧ ∀ (y13 : Int32) (I11 : Nat → Nat → Int32), P8 y13 I11 → Z l G mX4_couples d Q k n 4 [va_rf (some a), .int ((x1 + y13)), .int ((x2 + 1))] [] (I11, h.2))))) :
    Z l G mX4_couples d Q k n 4 [va_rf (some a), .int x1, .int x2] [] h := by
  refine z_iloadn dX4_couples_4 rfl rfl ?_
  refine z_aloadn dX4_couples_5 rfl rfl ?_
  refine z_getI (j := 0) zc4 dX4_couples_6 (ha.k 0 rfl) (ha.lt 0 rfl) (by decide) rfl w651 ?_
  refine z_icmp_ge (t := 32) dX4_couples_9 (by decide) (fun c1 => ?_) (fun c2 => ?_)
  · have hw3 := hw.1 c1
    refine z_iloadn dX4_couples_32 rfl rfl ?_
    exact z_ret (v := some (.int x1)) dX4_couples_33 ⟨_, rfl, rfl⟩ rfl hw3
  · have hw4 := hw.2 c2
    refine z_iloadn dX4_couples_12 rfl rfl ?_
    refine z_aloadn dX4_couples_13 rfl rfl ?_
    refine z_getRq (j := 2) zc4 dX4_couples_14 (ha.k 0 rfl) (ha.lt 0 rfl) (by decide) rfl w654 (ha.r 1 rfl) ?_
    refine z_iloadn dX4_couples_17 rfl rfl ?_
    refine z_callS (h := h) (S := [.int x1]) (M := mX4_couples) (As := [va_rf (some (a + 2)), .int x2]) eX10_get w778 (Or.inr ⟨_, w1396⟩) dX4_couples_18 rfl (by omega) (Nat.le_of_ble_eq_true rfl) (c_X10_get l G h (some (a + 2)) x2 (zgok_lo (ha.w 2 rfl) (by decide))) (fun v5 g6 q7 => ?_)
    obtain ⟨rfl, q7⟩ := q7
    replace q7 := q7.symm
    subst q7
    show Z l G _ d Q k n 21 _ (.int (zget h (some (a + 2)) x2) :: .int x1 :: []) _
    obtain ⟨P8, ct9, hw10⟩ := hw4
    refine z_callS (h := h) (S := [.int x1]) (M := mX4_couples) (As := [.int (zget h (some (a + 2)) x2)]) eJ6_bitCount_0f7a4 w1194 (Or.inl w1420) dX4_couples_21 rfl (by omega) (Nat.le_of_ble_eq_true rfl) ct9 (fun v15 g16 q12 => ?_)
    obtain ⟨y13, I11, rfl, rfl, q12⟩ := q12
    have hw14 := hw10 y13 I11 q12
    show Z l G _ d Q k n 24 _ (.int y13 :: .int x1 :: []) _
    refine z_iadd dX4_couples_24 ?_
    refine z_istoren (L' := [va_rf (some a), .int ((x1 + y13)), .int x2]) dX4_couples_25 rfl (by decide) rfl ?_
    refine z_iinc (v := (x2 + 1)) (L' := [va_rf (some a), .int ((x1 + y13)), .int ((x2 + 1))]) dX4_couples_26 (by decide) rfl rfl rfl ?_
    refine z_goto (t := 4) dX4_couples_29 (by decide) ?_
    exact hw14

theorem kX4_couples {l : Launch} {G : zG} {d : Nat} {Q : Option Value → zH → Prop} {k n : Nat} {h : zH} (a : Nat) (hz : Z l G mX4_couples d Q k n 0 [va_rf (some a), zU, zU] [] h) : CT l G YX4_couples d k n [va_rf (some a)] h Q :=
  CT.of (by decide +kernel) (fun t e => by have e2 : ((some .int) : Option FieldType) = some t := e; cases e2; exact ⟨by decide, by decide⟩) (by exact Nat.le_of_ble_eq_true rfl) (by exact hz)

theorem sX4_countFewest_0 {l : Launch} {G : zG} {d : Nat} {Q : Option Value → zH → Prop} {k n : Nat} {h : zH} (a : Nat) (ha : lo4 h a) (hd9 : 15 ≤ d)
    (hw : ((¬ zI h a 3 = (-1) → Q none h) ∧ (zI h a 3 = (-1) → (∃ P5, CTi l G YX4_fewestOf 14 [va_rf (some a), .int 10, .int 0] h P5 ∧ ∀ (y10 : Int32) (I8 : Nat → Nat → Int32), P5 y10 I8 → (∀ I14 : Nat → Nat → Int32, I14 = (zwI (I8, h.2) a 3 y10).1 → (∀ I17 : Nat → Nat → Int32, I17 = (zwI (I14, h.2) a 4 (zI (I14, h.2) a 9)).1 → (∃ P20, CTv l G YX10_copy 2 [va_rf (some (a + 6)), va_rf (some (a + 3))] (I17, h.2) P20 ∧ ∀ (I23 : Nat → Nat → Int32), P20 I23 → Q none (I23, h.2)))))))) :
    Z l G mX4_countFewest d Q k n 0 [va_rf (some a)] [] h := by
  refine z_aloadn dX4_countFewest_0 rfl rfl ?_
  refine z_getI (j := 3) zc4 dX4_countFewest_1 (ha.k 0 rfl) (ha.lt 0 rfl) (by decide) rfl w656 ?_
  refine z_iconst (v := (-1)) dX4_countFewest_4 (by decide) ?_
  refine z_icmp_ne (t := 38) dX4_countFewest_5 (by decide) (fun c1 => ?_) (fun c2 => ?_)
  · have hw3 := hw.1 c1
    exact z_ret (v := none) dX4_countFewest_38 rfl rfl hw3
  · have hw4 := hw.2 c2
    refine z_aloadn dX4_countFewest_8 rfl rfl ?_
    refine z_aloadn dX4_countFewest_9 rfl rfl ?_
    refine z_bipush (v := 10) dX4_countFewest_10 (by decide) ?_
    refine z_iconst (v := 0) dX4_countFewest_12 (by decide) ?_
    obtain ⟨P5, ct6, hw7⟩ := hw4
    refine z_callV (h := h) (S := [va_rf (some a)]) (a := a) (M := mX4_countFewest) (As := [.int 10, .int 0]) zc4 rfl eX4_fewestOf w1431 w97 (Or.inl w1429) dX4_countFewest_13 (ha.k 0 rfl) (ha.lt 0 rfl) rfl (by omega) (Nat.le_of_ble_eq_true rfl) ct6 (fun v12 g13 q9 => ?_)
    obtain ⟨y10, I8, rfl, rfl, q9⟩ := q9
    have hw11 := hw7 y10 I8 q9
    show Z l G _ d Q k n 16 _ (.int y10 :: va_rf (some a) :: []) _
    refine z_putI (j := 3) zc4 dX4_countFewest_16 (ha.k 0 rfl) (ha.lt 0 rfl) (by decide) rfl rfl (Or.inl rfl) (Or.inl w656) ?_
    refine z_nm (r := h.2) rfl (fun I14 e15 => ?_)
    have hw16 := hw11 I14 e15
    refine z_aloadn dX4_countFewest_19 rfl rfl ?_
    refine z_aloadn dX4_countFewest_20 rfl rfl ?_
    refine z_getI (j := 9) zc4 dX4_countFewest_21 (ha.k 0 rfl) (ha.lt 0 rfl) (by decide) rfl w665 ?_
    refine z_putI (j := 4) zc4 dX4_countFewest_24 (ha.k 0 rfl) (ha.lt 0 rfl) (by decide) rfl rfl (Or.inl rfl) (Or.inl w658) ?_
    refine z_nm (r := h.2) rfl (fun I17 e18 => ?_)
    have hw19 := hw16 I17 e18
    refine z_aloadn dX4_countFewest_27 rfl rfl ?_
    refine z_getRq (j := 13) zc4 dX4_countFewest_28 (ha.k 0 rfl) (ha.lt 0 rfl) (by decide) rfl w669 (ha.r 5 rfl) ?_
    refine z_aloadn dX4_countFewest_31 rfl rfl ?_
    refine z_getRq (j := 5) zc4 dX4_countFewest_32 (ha.k 0 rfl) (ha.lt 0 rfl) (by decide) rfl w660 (ha.r 2 rfl) ?_
    obtain ⟨P20, ct21, hw22⟩ := hw19
    refine z_callS (h := (I17, h.2)) (S := []) (M := mX4_countFewest) (As := [va_rf (some (a + 6)), va_rf (some (a + 3))]) eX10_copy w945 (Or.inr ⟨_, w1439⟩) dX4_countFewest_35 rfl (by omega) (Nat.le_of_ble_eq_true rfl) ct21 (fun v27 g28 q24 => ?_)
    obtain ⟨I23, rfl, rfl, q24⟩ := q24
    have hw26 := hw22 I23 q24
    show Z l G _ d Q k n 38 _ ([]) _
    exact z_ret (v := none) dX4_countFewest_38 rfl rfl hw26

theorem kX4_countFewest {l : Launch} {G : zG} {d : Nat} {Q : Option Value → zH → Prop} {k n : Nat} {h : zH} (a : Nat) (hz : Z l G mX4_countFewest d Q k n 0 [va_rf (some a)] [] h) : CT l G YX4_countFewest d k n [va_rf (some a)] h Q :=
  CT.of (by decide +kernel) (fun t e => by cases e) (by exact Nat.le_of_ble_eq_true rfl) (by exact hz)

theorem sX4_fewestOf_0 {l : Launch} {G : zG} {d : Nat} {Q : Option Value → zH → Prop} {k n : Nat} {h : zH} (a : Nat) (x1 : Int32) (x2 : Bool) (ha : lo4 h a) (hd9 : 14 ≤ d)
    (hw : (∀ I1 : Nat → Nat → Int32, I1 = (zwI h a 7 (imax (1 : Int32) x1)).1 → (∀ I4 : Nat → Nat → Int32, I4 = (zwI (I1, h.2) a 8 (zb x2)).1 → (∀ I7 : Nat → Nat → Int32, I7 = (zwI (I4, h.2) a 9 (0 : Int32)).1 → (¬ (zI (I7, h.2) a 7) = 0 ∧ Z l G mX4_fewestOf d Q k n 39 [va_rf (some a), .int x1, .int (zb x2), .int (((((zI (I7, h.2) a 0) + (zI (I7, h.2) a 7)) - 1) / (zI (I7, h.2) a 7))), .int (((((zI (I7, h.2) a 0) + (zI (I7, h.2) a 7)) - 1) / (zI (I7, h.2) a 7)))] [] (I7, h.2)))))) :
    Z l G mX4_fewestOf d Q k n 0 [va_rf (some a), .int x1, .int (zb x2), zU, zU] [] h := by
  refine z_aloadn dX4_fewestOf_0 rfl rfl ?_
  refine z_iconst (v := 1) dX4_fewestOf_1 (by decide) ?_
  refine z_iloadn dX4_fewestOf_2 rfl rfl ?_
  refine z_max dX4_fewestOf_3 w1433 w906 w186 w907 (by omega) (Nat.le_of_ble_eq_true rfl) ?_
  show Z l G _ d Q k n 6 _ (.int ((imax (1 : Int32) x1)) :: va_rf (some a) :: []) _
  refine z_putI (j := 7) zc4 dX4_fewestOf_6 (ha.k 0 rfl) (ha.lt 0 rfl) (by decide) rfl rfl (Or.inl rfl) (Or.inl w663) ?_
  refine z_nm (r := h.2) rfl (fun I1 e2 => ?_)
  have hw3 := hw I1 e2
  refine z_aloadn dX4_fewestOf_9 rfl rfl ?_
  refine z_iloadn dX4_fewestOf_10 rfl rfl ?_
  refine z_putI (j := 8) zc4 dX4_fewestOf_11 (ha.k 0 rfl) (ha.lt 0 rfl) (by decide) rfl rfl (Or.inr ⟨rfl, zb_01 _⟩) (Or.inl w664) ?_
  refine z_nm (r := h.2) rfl (fun I4 e5 => ?_)
  have hw6 := hw3 I4 e5
  refine z_aloadn dX4_fewestOf_14 rfl rfl ?_
  refine z_iconst (v := 0) dX4_fewestOf_15 (by decide) ?_
  refine z_putI (j := 9) zc4 dX4_fewestOf_16 (ha.k 0 rfl) (ha.lt 0 rfl) (by decide) rfl rfl (Or.inl rfl) (Or.inl w665) ?_
  refine z_nm (r := h.2) rfl (fun I7 e8 => ?_)
  have hw9 := hw6 I7 e8
  refine z_aloadn dX4_fewestOf_19 rfl rfl ?_
  refine z_getI (j := 0) zc4 dX4_fewestOf_20 (ha.k 0 rfl) (ha.lt 0 rfl) (by decide) rfl w651 ?_
  refine z_aloadn dX4_fewestOf_23 rfl rfl ?_
  refine z_getI (j := 7) zc4 dX4_fewestOf_24 (ha.k 0 rfl) (ha.lt 0 rfl) (by decide) rfl w663 ?_
  refine z_iadd dX4_fewestOf_27 ?_
  refine z_iconst (v := 1) dX4_fewestOf_28 (by decide) ?_
  refine z_isub dX4_fewestOf_29 ?_
  refine z_aloadn dX4_fewestOf_30 rfl rfl ?_
  refine z_getI (j := 7) zc4 dX4_fewestOf_31 (ha.k 0 rfl) (ha.lt 0 rfl) (by decide) rfl w663 ?_
  have hw10 := hw9.2
  refine z_idiv dX4_fewestOf_34 hw9.1 ?_
  refine z_istoren (L' := [va_rf (some a), .int x1, .int (zb x2), .int (((((zI (I7, h.2) a 0) + (zI (I7, h.2) a 7)) - 1) / (zI (I7, h.2) a 7))), zU]) dX4_fewestOf_35 rfl (by decide) rfl ?_
  refine z_iloadn dX4_fewestOf_36 rfl rfl ?_
  refine z_istore (L' := [va_rf (some a), .int x1, .int (zb x2), .int (((((zI (I7, h.2) a 0) + (zI (I7, h.2) a 7)) - 1) / (zI (I7, h.2) a 7))), .int (((((zI (I7, h.2) a 0) + (zI (I7, h.2) a 7)) - 1) / (zI (I7, h.2) a 7)))]) dX4_fewestOf_37 (by decide) rfl ?_
  exact hw10

theorem sX4_fewestOf_39 {l : Launch} {G : zG} {d : Nat} {Q : Option Value → zH → Prop} {k n : Nat} {h : zH} (a : Nat) (x1 : Int32) (x2 : Bool) (u3 : Value) (x4 : Int32) (ha : lo4 h a) (hd9 : 14 ≤ d)
    (hw : (((zI h a 0).toInt < x4.toInt → Q (some (.int (zI h a 6))) h) ∧ (x4.toInt ≤ (zI h a 0).toInt → ((¬ zI h a 9 = 0 → Q (some (.int (zI h a 6))) h) ∧ (zI h a 9 = 0 → (∀ I9 : Nat → Nat → Int32, I9 = (zwI h a 6 x4).1 → (∀ I12 : Nat → Nat → Int32, I12 = (zwI (I9, h.2) a 10 (0 : Int32)).1 → (∃ P15, CTv l G YJ7_fill_53178 1 [va_rf (some (a + 4)), .int ((-1))] (I12, h.2) P15 ∧ ∀ (I18 : Nat → Nat → Int32), P15 I18 → (∃ P24, CTv l G YJ7_fill_53178 1 [va_rf (some (a + 5)), .int ((-1))] (I18, h.2) P24 ∧ ∀ (I27 : Nat → Nat → Int32), P24 I27 → (∃ P33 d40, d40 + 1 ≤ d ∧ CTv l G YX4_search d40 [va_rf (some a), .int 0, .int 0] (I27, h.2) P33 ∧ ∀ (I36 : Nat → Nat → Int32), P33 I36 → Z l G mX4_fewestOf d Q k n 39 [va_rf (some a), .int x1, .int (zb x2), zU, .int ((x4 + 1))] [] (I36, h.2))))))))))) :
    Z l G mX4_fewestOf d Q k n 39 [va_rf (some a), .int x1, .int (zb x2), u3, .int x4] [] h := by
  refine z_iload dX4_fewestOf_39 rfl ?_
  refine z_aloadn dX4_fewestOf_41 rfl rfl ?_
  refine z_getI (j := 0) zc4 dX4_fewestOf_42 (ha.k 0 rfl) (ha.lt 0 rfl) (by decide) rfl w651 ?_
  refine z_icmp_gt (t := 94) dX4_fewestOf_45 (by decide) (fun c1 => ?_) (fun c2 => ?_)
  · have hw3 := hw.1 c1
    refine z_aloadn dX4_fewestOf_94 rfl rfl ?_
    refine z_getI (j := 6) zc4 dX4_fewestOf_95 (ha.k 0 rfl) (ha.lt 0 rfl) (by decide) rfl w662 ?_
    exact z_ret (v := some (.int (zI h a 6))) dX4_fewestOf_98 ⟨_, rfl, rfl⟩ rfl hw3
  · have hw4 := hw.2 c2
    refine z_aloadn dX4_fewestOf_48 rfl rfl ?_
    refine z_getI (j := 9) zc4 dX4_fewestOf_49 (ha.k 0 rfl) (ha.lt 0 rfl) (by decide) rfl w665 ?_
    refine z_if_ne (t := 94) dX4_fewestOf_52 (by decide) (fun c5 => ?_) (fun c6 => ?_)
    · have hw7 := hw4.1 c5
      refine z_aloadn dX4_fewestOf_94 rfl rfl ?_
      refine z_getI (j := 6) zc4 dX4_fewestOf_95 (ha.k 0 rfl) (ha.lt 0 rfl) (by decide) rfl w662 ?_
      exact z_ret (v := some (.int (zI h a 6))) dX4_fewestOf_98 ⟨_, rfl, rfl⟩ rfl hw7
    · have hw8 := hw4.2 c6
      refine z_aloadn dX4_fewestOf_55 rfl rfl ?_
      refine z_iload dX4_fewestOf_56 rfl ?_
      refine z_putI (j := 6) zc4 dX4_fewestOf_58 (ha.k 0 rfl) (ha.lt 0 rfl) (by decide) rfl rfl (Or.inl rfl) (Or.inl w662) ?_
      refine z_nm (r := h.2) rfl (fun I9 e10 => ?_)
      have hw11 := hw8 I9 e10
      refine z_aloadn dX4_fewestOf_61 rfl rfl ?_
      refine z_iconst (v := 0) dX4_fewestOf_62 (by decide) ?_
      refine z_putI (j := 10) zc4 dX4_fewestOf_63 (ha.k 0 rfl) (ha.lt 0 rfl) (by decide) rfl rfl (Or.inl rfl) (Or.inl w666) ?_
      refine z_nm (r := h.2) rfl (fun I12 e13 => ?_)
      have hw14 := hw11 I12 e13
      refine z_aloadn dX4_fewestOf_66 rfl rfl ?_
      refine z_getRq (j := 11) zc4 dX4_fewestOf_67 (ha.k 0 rfl) (ha.lt 0 rfl) (by decide) rfl w667 (ha.r 3 rfl) ?_
      refine z_iconst (v := (-1)) dX4_fewestOf_70 (by decide) ?_
      obtain ⟨P15, ct16, hw17⟩ := hw14
      refine z_callS (h := (I12, h.2)) (S := []) (M := mX4_fewestOf) (As := [va_rf (some (a + 4)), .int ((-1))]) eJ7_fill_53178 w300 (Or.inl w1434) dX4_fewestOf_71 rfl (by omega) (Nat.le_of_ble_eq_true rfl) ct16 (fun v22 g23 q19 => ?_)
      obtain ⟨I18, rfl, rfl, q19⟩ := q19
      have hw21 := hw17 I18 q19
      show Z l G _ d Q k n 74 _ ([]) _
      refine z_aloadn dX4_fewestOf_74 rfl rfl ?_
      refine z_getRq (j := 12) zc4 dX4_fewestOf_75 (ha.k 0 rfl) (ha.lt 0 rfl) (by decide) rfl w668 (ha.r 4 rfl) ?_
      refine z_iconst (v := (-1)) dX4_fewestOf_78 (by decide) ?_
      obtain ⟨P24, ct25, hw26⟩ := hw21
      refine z_callS (h := (I18, h.2)) (S := []) (M := mX4_fewestOf) (As := [va_rf (some (a + 5)), .int ((-1))]) eJ7_fill_53178 w300 (Or.inl w1434) dX4_fewestOf_79 rfl (by omega) (Nat.le_of_ble_eq_true rfl) ct25 (fun v31 g32 q28 => ?_)
      obtain ⟨I27, rfl, rfl, q28⟩ := q28
      have hw30 := hw26 I27 q28
      show Z l G _ d Q k n 82 _ ([]) _
      refine z_aloadn dX4_fewestOf_82 rfl rfl ?_
      refine z_iconst (v := 0) dX4_fewestOf_83 (by decide) ?_
      refine z_iconst (v := 0) dX4_fewestOf_84 (by decide) ?_
      obtain ⟨P33, d40, q41, ct34, hw35⟩ := hw30
      refine z_callV (h := (I27, h.2)) (S := []) (a := a) (M := mX4_fewestOf) (As := [.int 0, .int 0]) zc4 rfl eX4_search w1437 w98 (Or.inl w1435) dX4_fewestOf_85 (ha.k 0 rfl) (ha.lt 0 rfl) rfl q41 (Nat.le_of_ble_eq_true rfl) ct34 (fun v42 g43 q37 => ?_)
      obtain ⟨I36, rfl, rfl, q37⟩ := q37
      have hw39 := hw35 I36 q37
      show Z l G _ d Q k n 88 _ ([]) _
      refine z_forget (L' := [va_rf (some a), .int x1, .int (zb x2), zU, .int x4]) 3 rfl ?_
      refine z_iinc (v := (x4 + 1)) (L' := [va_rf (some a), .int x1, .int (zb x2), zU, .int ((x4 + 1))]) dX4_fewestOf_88 (by decide) rfl rfl rfl ?_
      refine z_goto (t := 39) dX4_fewestOf_91 (by decide) ?_
      exact hw39

theorem kX4_fewestOf {l : Launch} {G : zG} {d : Nat} {Q : Option Value → zH → Prop} {k n : Nat} {h : zH} (a : Nat) (x1 : Int32) (x2 : Bool) (hz : Z l G mX4_fewestOf d Q k n 0 [va_rf (some a), .int x1, .int (zb x2), zU, zU] [] h) : CT l G YX4_fewestOf d k n [va_rf (some a), .int x1, .int (zb x2)] h Q :=
  CT.of (by decide +kernel) (fun t e => by have e2 : ((some .int) : Option FieldType) = some t := e; cases e2; exact ⟨by decide, by decide⟩) (by exact Nat.le_of_ble_eq_true rfl) (by exact hz)

theorem sX4_search_0 {l : Launch} {G : zG} {d : Nat} {Q : Option Value → zH → Prop} {k n : Nat} {h : zH} (a : Nat) (x1 : Int32) (x2 : Int32) (ha : lo4 h a) (hd9 : 3 ≤ d)
    (hw : ((zI h a 8 = 0 → (((zI h a 0).toInt ≤ x1.toInt → ((¬ zI h a 9 = 0 → (∀ I13 : Nat → Nat → Int32, I13 = (zwI h a 9 ((zI h a 9) + 1)).1 → Q none (I13, h.2))) ∧ (zI h a 9 = 0 → (∃ P16, CTv l G YX10_copy 2 [va_rf (some (a + 4)), va_rf (some (a + 6))] h P16 ∧ ∀ (I19 : Nat → Nat → Int32), P16 I19 → (∀ I25 : Nat → Nat → Int32, I25 = (zwI (I19, h.2) a 9 ((zI (I19, h.2) a 9) + 1)).1 → Q none (I25, h.2)))))) ∧ (x1.toInt < (zI h a 0).toInt → ((x1.toInt < (10 : Int) → (∃ P32, CTi l G YX4_endsFrom 2 [va_rf (some a), .int x1] h P32 ∧ ∀ (y37 : Int32) (I35 : Nat → Nat → Int32), P32 y37 I35 → (((x2 + y37).toInt ≤ (zI (I35, h.2) a 6).toInt → Z l G mX4_search d Q k n 75 [va_rf (some a), .int x1, .int x2, .int 0] [] (I35, h.2)) ∧ ((zI (I35, h.2) a 6).toInt < (x2 + y37).toInt → Q none (I35, h.2))))) ∧ ((10 : Int) ≤ x1.toInt → ((¬ zI h a 9 = 0 → (∀ I49 : Nat → Nat → Int32, I49 = (zwI h a 9 ((zI h a 9) + 1)).1 → Q none (I49, h.2))) ∧ (zI h a 9 = 0 → (∃ P52, CTv l G YX10_copy 2 [va_rf (some (a + 4)), va_rf (some (a + 6))] h P52 ∧ ∀ (I55 : Nat → Nat → Int32), P52 I55 → (∀ I61 : Nat → Nat → Int32, I61 = (zwI (I55, h.2) a 9 ((zI (I55, h.2) a 9) + 1)).1 → Q none (I61, h.2)))))))))) ∧ (¬ zI h a 8 = 0 → (((zI h a 9).toInt ≤ (0 : Int) → (((zI h a 0).toInt ≤ x1.toInt → ((¬ zI h a 9 = 0 → (∀ I76 : Nat → Nat → Int32, I76 = (zwI h a 9 ((zI h a 9) + 1)).1 → Q none (I76, h.2))) ∧ (zI h a 9 = 0 → (∃ P79, CTv l G YX10_copy 2 [va_rf (some (a + 4)), va_rf (some (a + 6))] h P79 ∧ ∀ (I82 : Nat → Nat → Int32), P79 I82 → (∀ I88 : Nat → Nat → Int32, I88 = (zwI (I82, h.2) a 9 ((zI (I82, h.2) a 9) + 1)).1 → Q none (I88, h.2)))))) ∧ (x1.toInt < (zI h a 0).toInt → ((x1.toInt < (10 : Int) → (∃ P95, CTi l G YX4_endsFrom 2 [va_rf (some a), .int x1] h P95 ∧ ∀ (y100 : Int32) (I98 : Nat → Nat → Int32), P95 y100 I98 → (((x2 + y100).toInt ≤ (zI (I98, h.2) a 6).toInt → Z l G mX4_search d Q k n 75 [va_rf (some a), .int x1, .int x2, .int 0] [] (I98, h.2)) ∧ ((zI (I98, h.2) a 6).toInt < (x2 + y100).toInt → Q none (I98, h.2))))) ∧ ((10 : Int) ≤ x1.toInt → ((¬ zI h a 9 = 0 → (∀ I112 : Nat → Nat → Int32, I112 = (zwI h a 9 ((zI h a 9) + 1)).1 → Q none (I112, h.2))) ∧ (zI h a 9 = 0 → (∃ P115, CTv l G YX10_copy 2 [va_rf (some (a + 4)), va_rf (some (a + 6))] h P115 ∧ ∀ (I118 : Nat → Nat → Int32), P115 I118 → (∀ I124 : Nat → Nat → Int32, I124 = (zwI (I118, h.2) a 9 ((zI (I118, h.2) a 9) + 1)).1 → Q none (I124, h.2)))))))))) ∧ ((0 : Int) < (zI h a 9).toInt → Q none h))))) :
    Z l G mX4_search d Q k n 0 [va_rf (some a), .int x1, .int x2, zU] [] h := by
  refine z_aloadn dX4_search_0 rfl rfl ?_
  refine z_getI (j := 8) zc4 dX4_search_1 (ha.k 0 rfl) (ha.lt 0 rfl) (by decide) rfl w664 ?_
  refine z_if_eq (t := 15) dX4_search_4 (by decide) (fun c1 => ?_) (fun c2 => ?_)
  · have hw3 := hw.1 c1
    refine z_iloadn dX4_search_15 rfl rfl ?_
    refine z_aloadn dX4_search_16 rfl rfl ?_
    refine z_getI (j := 0) zc4 dX4_search_17 (ha.k 0 rfl) (ha.lt 0 rfl) (by decide) rfl w651 ?_
    refine z_icmp_ge (t := 29) dX4_search_20 (by decide) (fun c5 => ?_) (fun c6 => ?_)
    · have hw7 := hw3.1 c5
      refine z_aloadn dX4_search_29 rfl rfl ?_
      refine z_getI (j := 9) zc4 dX4_search_30 (ha.k 0 rfl) (ha.lt 0 rfl) (by decide) rfl w665 ?_
      refine z_if_ne (t := 47) dX4_search_33 (by decide) (fun c9 => ?_) (fun c10 => ?_)
      · have hw11 := hw7.1 c9
        refine z_aloadn dX4_search_47 rfl rfl ?_
        refine z_dup dX4_search_48 rfl ?_
        refine z_getI (j := 9) zc4 dX4_search_49 (ha.k 0 rfl) (ha.lt 0 rfl) (by decide) rfl w665 ?_
        refine z_iconst (v := 1) dX4_search_52 (by decide) ?_
        refine z_iadd dX4_search_53 ?_
        refine z_putI (j := 9) zc4 dX4_search_54 (ha.k 0 rfl) (ha.lt 0 rfl) (by decide) rfl rfl (Or.inl rfl) (Or.inl w665) ?_
        refine z_nm (r := h.2) rfl (fun I13 e14 => ?_)
        have hw15 := hw11 I13 e14
        exact z_ret (v := none) dX4_search_57 rfl rfl hw15
      · have hw12 := hw7.2 c10
        refine z_aloadn dX4_search_36 rfl rfl ?_
        refine z_getRq (j := 11) zc4 dX4_search_37 (ha.k 0 rfl) (ha.lt 0 rfl) (by decide) rfl w667 (ha.r 3 rfl) ?_
        refine z_aloadn dX4_search_40 rfl rfl ?_
        refine z_getRq (j := 13) zc4 dX4_search_41 (ha.k 0 rfl) (ha.lt 0 rfl) (by decide) rfl w669 (ha.r 5 rfl) ?_
        obtain ⟨P16, ct17, hw18⟩ := hw12
        refine z_callS (h := h) (S := []) (M := mX4_search) (As := [va_rf (some (a + 4)), va_rf (some (a + 6))]) eX10_copy w945 (Or.inr ⟨_, w1439⟩) dX4_search_44 rfl (by omega) (Nat.le_of_ble_eq_true rfl) ct17 (fun v23 g24 q20 => ?_)
        obtain ⟨I19, rfl, rfl, q20⟩ := q20
        have hw22 := hw18 I19 q20
        show Z l G _ d Q k n 47 _ ([]) _
        refine z_aloadn dX4_search_47 rfl rfl ?_
        refine z_dup dX4_search_48 rfl ?_
        refine z_getI (j := 9) zc4 dX4_search_49 (ha.k 0 rfl) (ha.lt 0 rfl) (by decide) rfl w665 ?_
        refine z_iconst (v := 1) dX4_search_52 (by decide) ?_
        refine z_iadd dX4_search_53 ?_
        refine z_putI (j := 9) zc4 dX4_search_54 (ha.k 0 rfl) (ha.lt 0 rfl) (by decide) rfl rfl (Or.inl rfl) (Or.inl w665) ?_
        refine z_nm (r := h.2) rfl (fun I25 e26 => ?_)
        have hw27 := hw22 I25 e26
        exact z_ret (v := none) dX4_search_57 rfl rfl hw27
    · have hw8 := hw3.2 c6
      refine z_iloadn dX4_search_23 rfl rfl ?_
      refine z_bipush (v := 10) dX4_search_24 (by decide) ?_
      refine z_icmp_lt (t := 58) dX4_search_26 (by decide) (fun c28 => ?_) (fun c29 => ?_)
      · have hw30 := hw8.1 c28
        refine z_iloadn dX4_search_58 rfl rfl ?_
        refine z_aloadn dX4_search_59 rfl rfl ?_
        refine z_iloadn dX4_search_60 rfl rfl ?_
        obtain ⟨P32, ct33, hw34⟩ := hw30
        refine z_callV (h := h) (S := [.int x2]) (a := a) (M := mX4_search) (As := [.int x1]) zc4 rfl eX4_endsFrom w1442 w99 (Or.inl w1440) dX4_search_61 (ha.k 0 rfl) (ha.lt 0 rfl) rfl (by omega) (Nat.le_of_ble_eq_true rfl) ct33 (fun v39 g40 q36 => ?_)
        obtain ⟨y37, I35, rfl, rfl, q36⟩ := q36
        have hw38 := hw34 y37 I35 q36
        show Z l G _ d Q k n 64 _ (.int y37 :: .int x2 :: []) _
        refine z_iadd dX4_search_64 ?_
        refine z_aloadn dX4_search_65 rfl rfl ?_
        refine z_getI (j := 6) zc4 dX4_search_66 (ha.k 0 rfl) (ha.lt 0 rfl) (by decide) rfl w662 ?_
        refine z_icmp_le (t := 73) dX4_search_69 (by decide) (fun c41 => ?_) (fun c42 => ?_)
        · have hw43 := hw38.1 c41
          refine z_iconst (v := 0) dX4_search_73 (by decide) ?_
          refine z_istoren (L' := [va_rf (some a), .int x1, .int x2, .int 0]) dX4_search_74 rfl (by decide) rfl ?_
          exact hw43
        · have hw44 := hw38.2 c42
          exact z_ret (v := none) dX4_search_72 rfl rfl hw44
      · have hw31 := hw8.2 c29
        refine z_aloadn dX4_search_29 rfl rfl ?_
        refine z_getI (j := 9) zc4 dX4_search_30 (ha.k 0 rfl) (ha.lt 0 rfl) (by decide) rfl w665 ?_
        refine z_if_ne (t := 47) dX4_search_33 (by decide) (fun c45 => ?_) (fun c46 => ?_)
        · have hw47 := hw31.1 c45
          refine z_aloadn dX4_search_47 rfl rfl ?_
          refine z_dup dX4_search_48 rfl ?_
          refine z_getI (j := 9) zc4 dX4_search_49 (ha.k 0 rfl) (ha.lt 0 rfl) (by decide) rfl w665 ?_
          refine z_iconst (v := 1) dX4_search_52 (by decide) ?_
          refine z_iadd dX4_search_53 ?_
          refine z_putI (j := 9) zc4 dX4_search_54 (ha.k 0 rfl) (ha.lt 0 rfl) (by decide) rfl rfl (Or.inl rfl) (Or.inl w665) ?_
          refine z_nm (r := h.2) rfl (fun I49 e50 => ?_)
          have hw51 := hw47 I49 e50
          exact z_ret (v := none) dX4_search_57 rfl rfl hw51
        · have hw48 := hw31.2 c46
          refine z_aloadn dX4_search_36 rfl rfl ?_
          refine z_getRq (j := 11) zc4 dX4_search_37 (ha.k 0 rfl) (ha.lt 0 rfl) (by decide) rfl w667 (ha.r 3 rfl) ?_
          refine z_aloadn dX4_search_40 rfl rfl ?_
          refine z_getRq (j := 13) zc4 dX4_search_41 (ha.k 0 rfl) (ha.lt 0 rfl) (by decide) rfl w669 (ha.r 5 rfl) ?_
          obtain ⟨P52, ct53, hw54⟩ := hw48
          refine z_callS (h := h) (S := []) (M := mX4_search) (As := [va_rf (some (a + 4)), va_rf (some (a + 6))]) eX10_copy w945 (Or.inr ⟨_, w1439⟩) dX4_search_44 rfl (by omega) (Nat.le_of_ble_eq_true rfl) ct53 (fun v59 g60 q56 => ?_)
          obtain ⟨I55, rfl, rfl, q56⟩ := q56
          have hw58 := hw54 I55 q56
          show Z l G _ d Q k n 47 _ ([]) _
          refine z_aloadn dX4_search_47 rfl rfl ?_
          refine z_dup dX4_search_48 rfl ?_
          refine z_getI (j := 9) zc4 dX4_search_49 (ha.k 0 rfl) (ha.lt 0 rfl) (by decide) rfl w665 ?_
          refine z_iconst (v := 1) dX4_search_52 (by decide) ?_
          refine z_iadd dX4_search_53 ?_
          refine z_putI (j := 9) zc4 dX4_search_54 (ha.k 0 rfl) (ha.lt 0 rfl) (by decide) rfl rfl (Or.inl rfl) (Or.inl w665) ?_
          refine z_nm (r := h.2) rfl (fun I61 e62 => ?_)
          have hw63 := hw58 I61 e62
          exact z_ret (v := none) dX4_search_57 rfl rfl hw63
  · have hw4 := hw.2 c2
    refine z_aloadn dX4_search_7 rfl rfl ?_
    refine z_getI (j := 9) zc4 dX4_search_8 (ha.k 0 rfl) (ha.lt 0 rfl) (by decide) rfl w665 ?_
    refine z_if_le (t := 15) dX4_search_11 (by decide) (fun c64 => ?_) (fun c65 => ?_)
    · have hw66 := hw4.1 c64
      refine z_iloadn dX4_search_15 rfl rfl ?_
      refine z_aloadn dX4_search_16 rfl rfl ?_
      refine z_getI (j := 0) zc4 dX4_search_17 (ha.k 0 rfl) (ha.lt 0 rfl) (by decide) rfl w651 ?_
      refine z_icmp_ge (t := 29) dX4_search_20 (by decide) (fun c68 => ?_) (fun c69 => ?_)
      · have hw70 := hw66.1 c68
        refine z_aloadn dX4_search_29 rfl rfl ?_
        refine z_getI (j := 9) zc4 dX4_search_30 (ha.k 0 rfl) (ha.lt 0 rfl) (by decide) rfl w665 ?_
        refine z_if_ne (t := 47) dX4_search_33 (by decide) (fun c72 => ?_) (fun c73 => ?_)
        · have hw74 := hw70.1 c72
          refine z_aloadn dX4_search_47 rfl rfl ?_
          refine z_dup dX4_search_48 rfl ?_
          refine z_getI (j := 9) zc4 dX4_search_49 (ha.k 0 rfl) (ha.lt 0 rfl) (by decide) rfl w665 ?_
          refine z_iconst (v := 1) dX4_search_52 (by decide) ?_
          refine z_iadd dX4_search_53 ?_
          refine z_putI (j := 9) zc4 dX4_search_54 (ha.k 0 rfl) (ha.lt 0 rfl) (by decide) rfl rfl (Or.inl rfl) (Or.inl w665) ?_
          refine z_nm (r := h.2) rfl (fun I76 e77 => ?_)
          have hw78 := hw74 I76 e77
          exact z_ret (v := none) dX4_search_57 rfl rfl hw78
        · have hw75 := hw70.2 c73
          refine z_aloadn dX4_search_36 rfl rfl ?_
          refine z_getRq (j := 11) zc4 dX4_search_37 (ha.k 0 rfl) (ha.lt 0 rfl) (by decide) rfl w667 (ha.r 3 rfl) ?_
          refine z_aloadn dX4_search_40 rfl rfl ?_
          refine z_getRq (j := 13) zc4 dX4_search_41 (ha.k 0 rfl) (ha.lt 0 rfl) (by decide) rfl w669 (ha.r 5 rfl) ?_
          obtain ⟨P79, ct80, hw81⟩ := hw75
          refine z_callS (h := h) (S := []) (M := mX4_search) (As := [va_rf (some (a + 4)), va_rf (some (a + 6))]) eX10_copy w945 (Or.inr ⟨_, w1439⟩) dX4_search_44 rfl (by omega) (Nat.le_of_ble_eq_true rfl) ct80 (fun v86 g87 q83 => ?_)
          obtain ⟨I82, rfl, rfl, q83⟩ := q83
          have hw85 := hw81 I82 q83
          show Z l G _ d Q k n 47 _ ([]) _
          refine z_aloadn dX4_search_47 rfl rfl ?_
          refine z_dup dX4_search_48 rfl ?_
          refine z_getI (j := 9) zc4 dX4_search_49 (ha.k 0 rfl) (ha.lt 0 rfl) (by decide) rfl w665 ?_
          refine z_iconst (v := 1) dX4_search_52 (by decide) ?_
          refine z_iadd dX4_search_53 ?_
          refine z_putI (j := 9) zc4 dX4_search_54 (ha.k 0 rfl) (ha.lt 0 rfl) (by decide) rfl rfl (Or.inl rfl) (Or.inl w665) ?_
          refine z_nm (r := h.2) rfl (fun I88 e89 => ?_)
          have hw90 := hw85 I88 e89
          exact z_ret (v := none) dX4_search_57 rfl rfl hw90
      · have hw71 := hw66.2 c69
        refine z_iloadn dX4_search_23 rfl rfl ?_
        refine z_bipush (v := 10) dX4_search_24 (by decide) ?_
        refine z_icmp_lt (t := 58) dX4_search_26 (by decide) (fun c91 => ?_) (fun c92 => ?_)
        · have hw93 := hw71.1 c91
          refine z_iloadn dX4_search_58 rfl rfl ?_
          refine z_aloadn dX4_search_59 rfl rfl ?_
          refine z_iloadn dX4_search_60 rfl rfl ?_
          obtain ⟨P95, ct96, hw97⟩ := hw93
          refine z_callV (h := h) (S := [.int x2]) (a := a) (M := mX4_search) (As := [.int x1]) zc4 rfl eX4_endsFrom w1442 w99 (Or.inl w1440) dX4_search_61 (ha.k 0 rfl) (ha.lt 0 rfl) rfl (by omega) (Nat.le_of_ble_eq_true rfl) ct96 (fun v102 g103 q99 => ?_)
          obtain ⟨y100, I98, rfl, rfl, q99⟩ := q99
          have hw101 := hw97 y100 I98 q99
          show Z l G _ d Q k n 64 _ (.int y100 :: .int x2 :: []) _
          refine z_iadd dX4_search_64 ?_
          refine z_aloadn dX4_search_65 rfl rfl ?_
          refine z_getI (j := 6) zc4 dX4_search_66 (ha.k 0 rfl) (ha.lt 0 rfl) (by decide) rfl w662 ?_
          refine z_icmp_le (t := 73) dX4_search_69 (by decide) (fun c104 => ?_) (fun c105 => ?_)
          · have hw106 := hw101.1 c104
            refine z_iconst (v := 0) dX4_search_73 (by decide) ?_
            refine z_istoren (L' := [va_rf (some a), .int x1, .int x2, .int 0]) dX4_search_74 rfl (by decide) rfl ?_
            exact hw106
          · have hw107 := hw101.2 c105
            exact z_ret (v := none) dX4_search_72 rfl rfl hw107
        · have hw94 := hw71.2 c92
          refine z_aloadn dX4_search_29 rfl rfl ?_
          refine z_getI (j := 9) zc4 dX4_search_30 (ha.k 0 rfl) (ha.lt 0 rfl) (by decide) rfl w665 ?_
          refine z_if_ne (t := 47) dX4_search_33 (by decide) (fun c108 => ?_) (fun c109 => ?_)
          · have hw110 := hw94.1 c108
            refine z_aloadn dX4_search_47 rfl rfl ?_
            refine z_dup dX4_search_48 rfl ?_
            refine z_getI (j := 9) zc4 dX4_search_49 (ha.k 0 rfl) (ha.lt 0 rfl) (by decide) rfl w665 ?_
            refine z_iconst (v := 1) dX4_search_52 (by decide) ?_
            refine z_iadd dX4_search_53 ?_
            refine z_putI (j := 9) zc4 dX4_search_54 (ha.k 0 rfl) (ha.lt 0 rfl) (by decide) rfl rfl (Or.inl rfl) (Or.inl w665) ?_
            refine z_nm (r := h.2) rfl (fun I112 e113 => ?_)
            have hw114 := hw110 I112 e113
            exact z_ret (v := none) dX4_search_57 rfl rfl hw114
          · have hw111 := hw94.2 c109
            refine z_aloadn dX4_search_36 rfl rfl ?_
            refine z_getRq (j := 11) zc4 dX4_search_37 (ha.k 0 rfl) (ha.lt 0 rfl) (by decide) rfl w667 (ha.r 3 rfl) ?_
            refine z_aloadn dX4_search_40 rfl rfl ?_
            refine z_getRq (j := 13) zc4 dX4_search_41 (ha.k 0 rfl) (ha.lt 0 rfl) (by decide) rfl w669 (ha.r 5 rfl) ?_
            obtain ⟨P115, ct116, hw117⟩ := hw111
            refine z_callS (h := h) (S := []) (M := mX4_search) (As := [va_rf (some (a + 4)), va_rf (some (a + 6))]) eX10_copy w945 (Or.inr ⟨_, w1439⟩) dX4_search_44 rfl (by omega) (Nat.le_of_ble_eq_true rfl) ct116 (fun v122 g123 q119 => ?_)
            obtain ⟨I118, rfl, rfl, q119⟩ := q119
            have hw121 := hw117 I118 q119
            show Z l G _ d Q k n 47 _ ([]) _
            refine z_aloadn dX4_search_47 rfl rfl ?_
            refine z_dup dX4_search_48 rfl ?_
            refine z_getI (j := 9) zc4 dX4_search_49 (ha.k 0 rfl) (ha.lt 0 rfl) (by decide) rfl w665 ?_
            refine z_iconst (v := 1) dX4_search_52 (by decide) ?_
            refine z_iadd dX4_search_53 ?_
            refine z_putI (j := 9) zc4 dX4_search_54 (ha.k 0 rfl) (ha.lt 0 rfl) (by decide) rfl rfl (Or.inl rfl) (Or.inl w665) ?_
            refine z_nm (r := h.2) rfl (fun I124 e125 => ?_)
            have hw126 := hw121 I124 e125
            exact z_ret (v := none) dX4_search_57 rfl rfl hw126
    · have hw67 := hw4.2 c65
      exact z_ret (v := none) dX4_search_14 rfl rfl hw67

theorem sX4_search_75 {l : Launch} {G : zG} {d : Nat} {Q : Option Value → zH → Prop} {k n : Nat} {h : zH} (a : Nat) (x1 : Int32) (x2 : Int32) (x3 : Int32) (ha : lo4 h a) (hd9 : 3 ≤ d)
    (hw : (((zI h a 0).toInt ≤ x3.toInt → (((zI h a 6).toInt ≤ x2.toInt → Q none h) ∧ (x2.toInt < (zI h a 6).toInt → (∃ P9 d16, d16 + 1 ≤ d ∧ CTv l G YX4_search d16 [va_rf (some a), .int ((x1 + 1)), .int ((x2 + 1))] h P9 ∧ ∀ (I12 : Nat → Nat → Int32), P9 I12 → Q none (I12, h.2))))) ∧ (x3.toInt < (zI h a 0).toInt → (∃ P20, CTz l G YX4_mayJoin 2 [va_rf (some a), .int x1, .int x3] h P20 ∧ ∀ (y25 : Bool) (I23 : Nat → Nat → Int32), P20 y25 I23 → ((y25 = false → Z l G mX4_search d Q k n 75 [va_rf (some a), .int x1, .int x2, .int ((x3 + 1))] [] (I23, h.2)) ∧ (y25 = true → (∀ I36 : Nat → Nat → Int32, I36 = (zput (I23, h.2) (some (a + 4)) x1 x3).1 → (∀ I42 : Nat → Nat → Int32, I42 = (zput (I36, h.2) (some (a + 5)) x3 x1).1 → (∀ I45 : Nat → Nat → Int32, I45 = (zwI (I42, h.2) a 10 ((zI (I42, h.2) a 10) ||| ((1 : Int32) <<< (x3 &&& 31)))).1 → (∃ P48 d55, d55 + 1 ≤ d ∧ CTv l G YX4_search d55 [va_rf (some a), .int ((x1 + 1)), .int x2] (I45, h.2) P48 ∧ ∀ (I51 : Nat → Nat → Int32), P48 I51 → (∀ I59 : Nat → Nat → Int32, I59 = (zwI (I51, h.2) a 10 ((zI (I51, h.2) a 10) &&& (((1 : Int32) <<< (x3 &&& 31)) ^^^ (-1)))).1 → (∀ I65 : Nat → Nat → Int32, I65 = (zput (I59, h.2) (some (a + 5)) x3 (-1 : Int32)).1 → (∀ I71 : Nat → Nat → Int32, I71 = (zput (I65, h.2) (some (a + 4)) x1 (-1 : Int32)).1 → Z l G mX4_search d Q k n 75 [va_rf (some a), .int x1, .int x2, .int ((x3 + 1))] [] (I71, h.2)))))))))))))) :
    Z l G mX4_search d Q k n 75 [va_rf (some a), .int x1, .int x2, .int x3] [] h := by
  refine z_iloadn dX4_search_75 rfl rfl ?_
  refine z_aloadn dX4_search_76 rfl rfl ?_
  refine z_getI (j := 0) zc4 dX4_search_77 (ha.k 0 rfl) (ha.lt 0 rfl) (by decide) rfl w651 ?_
  refine z_icmp_ge (t := 168) dX4_search_80 (by decide) (fun c1 => ?_) (fun c2 => ?_)
  · have hw3 := hw.1 c1
    refine z_iloadn dX4_search_168 rfl rfl ?_
    refine z_aloadn dX4_search_169 rfl rfl ?_
    refine z_getI (j := 6) zc4 dX4_search_170 (ha.k 0 rfl) (ha.lt 0 rfl) (by decide) rfl w662 ?_
    refine z_icmp_ge (t := 186) dX4_search_173 (by decide) (fun c5 => ?_) (fun c6 => ?_)
    · have hw7 := hw3.1 c5
      exact z_ret (v := none) dX4_search_186 rfl rfl hw7
    · have hw8 := hw3.2 c6
      refine z_aloadn dX4_search_176 rfl rfl ?_
      refine z_iloadn dX4_search_177 rfl rfl ?_
      refine z_iconst (v := 1) dX4_search_178 (by decide) ?_
      refine z_iadd dX4_search_179 ?_
      refine z_iloadn dX4_search_180 rfl rfl ?_
      refine z_iconst (v := 1) dX4_search_181 (by decide) ?_
      refine z_iadd dX4_search_182 ?_
      obtain ⟨P9, d16, q17, ct10, hw11⟩ := hw8
      refine z_callV (h := h) (S := []) (a := a) (M := mX4_search) (As := [.int ((x1 + 1)), .int ((x2 + 1))]) zc4 rfl eX4_search w1437 w98 (Or.inl w1435) dX4_search_183 (ha.k 0 rfl) (ha.lt 0 rfl) rfl q17 (Nat.le_of_ble_eq_true rfl) ct10 (fun v18 g19 q13 => ?_)
      obtain ⟨I12, rfl, rfl, q13⟩ := q13
      have hw15 := hw11 I12 q13
      show Z l G _ d Q k n 186 _ ([]) _
      exact z_ret (v := none) dX4_search_186 rfl rfl hw15
  · have hw4 := hw.2 c2
    refine z_aloadn dX4_search_83 rfl rfl ?_
    refine z_iloadn dX4_search_84 rfl rfl ?_
    refine z_iloadn dX4_search_85 rfl rfl ?_
    obtain ⟨P20, ct21, hw22⟩ := hw4
    refine z_callV (h := h) (S := []) (a := a) (M := mX4_search) (As := [.int x1, .int x3]) zc4 rfl eX4_mayJoin w1446 w100 (Or.inl w1444) dX4_search_86 (ha.k 0 rfl) (ha.lt 0 rfl) rfl (by omega) (Nat.le_of_ble_eq_true rfl) ct21 (fun v27 g28 q24 => ?_)
    obtain ⟨y25, I23, rfl, rfl, q24⟩ := q24
    have hw26 := hw22 y25 I23 q24
    show Z l G _ d Q k n 89 _ (.int (zb y25) :: []) _
    refine z_if_eq (t := 162) dX4_search_89 (by decide) (fun c29 => ?_) (fun c30 => ?_)
    · have hw31 := hw26.1 (zb0 c29)
      refine z_iinc (v := (x3 + 1)) (L' := [va_rf (some a), .int x1, .int x2, .int ((x3 + 1))]) dX4_search_162 (by decide) rfl rfl rfl ?_
      refine z_goto (t := 75) dX4_search_165 (by decide) ?_
      exact hw31
    · have hw32 := hw26.2 (zb1 c30)
      refine z_aloadn dX4_search_92 rfl rfl ?_
      refine z_getRq (j := 11) zc4 dX4_search_93 (ha.k 0 rfl) (ha.lt 0 rfl) (by decide) rfl w667 (ha.r 3 rfl) ?_
      refine z_iloadn dX4_search_96 rfl rfl ?_
      refine z_iloadn dX4_search_97 rfl rfl ?_
      refine z_callS (h := (I23, h.2)) (S := []) (M := mX4_search) (As := [va_rf (some (a + 4)), .int x1, .int x3]) eX10_put w754 (Or.inr ⟨_, w1402⟩) dX4_search_98 rfl (by omega) (Nat.le_of_ble_eq_true rfl) (c_X10_put l G (I23, h.2) (some (a + 4)) x1 x3 (zpok_lo (ha.w 4 rfl) (by decide))) (fun v33 g34 q35 => ?_)
      obtain ⟨rfl, q35⟩ := q35
      replace q35 := q35.symm
      subst q35
      refine z_nm (r := h.2) rfl (fun I36 e37 => ?_)
      have hw38 := hw32 I36 e37
      refine z_aloadn dX4_search_101 rfl rfl ?_
      refine z_getRq (j := 12) zc4 dX4_search_102 (ha.k 0 rfl) (ha.lt 0 rfl) (by decide) rfl w668 (ha.r 4 rfl) ?_
      refine z_iloadn dX4_search_105 rfl rfl ?_
      refine z_iloadn dX4_search_106 rfl rfl ?_
      refine z_callS (h := (I36, h.2)) (S := []) (M := mX4_search) (As := [va_rf (some (a + 5)), .int x3, .int x1]) eX10_put w754 (Or.inr ⟨_, w1402⟩) dX4_search_107 rfl (by omega) (Nat.le_of_ble_eq_true rfl) (c_X10_put l G (I36, h.2) (some (a + 5)) x3 x1 (zpok_lo (ha.w 5 rfl) (by decide))) (fun v39 g40 q41 => ?_)
      obtain ⟨rfl, q41⟩ := q41
      replace q41 := q41.symm
      subst q41
      refine z_nm (r := h.2) rfl (fun I42 e43 => ?_)
      have hw44 := hw38 I42 e43
      refine z_aloadn dX4_search_110 rfl rfl ?_
      refine z_dup dX4_search_111 rfl ?_
      refine z_getI (j := 10) zc4 dX4_search_112 (ha.k 0 rfl) (ha.lt 0 rfl) (by decide) rfl w666 ?_
      refine z_iconst (v := 1) dX4_search_115 (by decide) ?_
      refine z_iloadn dX4_search_116 rfl rfl ?_
      refine z_ishl dX4_search_117 ?_
      refine z_ior dX4_search_118 ?_
      refine z_putI (j := 10) zc4 dX4_search_119 (ha.k 0 rfl) (ha.lt 0 rfl) (by decide) rfl rfl (Or.inl rfl) (Or.inl w666) ?_
      refine z_nm (r := h.2) rfl (fun I45 e46 => ?_)
      have hw47 := hw44 I45 e46
      refine z_aloadn dX4_search_122 rfl rfl ?_
      refine z_iloadn dX4_search_123 rfl rfl ?_
      refine z_iconst (v := 1) dX4_search_124 (by decide) ?_
      refine z_iadd dX4_search_125 ?_
      refine z_iloadn dX4_search_126 rfl rfl ?_
      obtain ⟨P48, d55, q56, ct49, hw50⟩ := hw47
      refine z_callV (h := (I45, h.2)) (S := []) (a := a) (M := mX4_search) (As := [.int ((x1 + 1)), .int x2]) zc4 rfl eX4_search w1437 w98 (Or.inl w1435) dX4_search_127 (ha.k 0 rfl) (ha.lt 0 rfl) rfl q56 (Nat.le_of_ble_eq_true rfl) ct49 (fun v57 g58 q52 => ?_)
      obtain ⟨I51, rfl, rfl, q52⟩ := q52
      have hw54 := hw50 I51 q52
      show Z l G _ d Q k n 130 _ ([]) _
      refine z_aloadn dX4_search_130 rfl rfl ?_
      refine z_dup dX4_search_131 rfl ?_
      refine z_getI (j := 10) zc4 dX4_search_132 (ha.k 0 rfl) (ha.lt 0 rfl) (by decide) rfl w666 ?_
      refine z_iconst (v := 1) dX4_search_135 (by decide) ?_
      refine z_iloadn dX4_search_136 rfl rfl ?_
      refine z_ishl dX4_search_137 ?_
      refine z_iconst (v := (-1)) dX4_search_138 (by decide) ?_
      refine z_ixor dX4_search_139 ?_
      refine z_iand dX4_search_140 ?_
      refine z_putI (j := 10) zc4 dX4_search_141 (ha.k 0 rfl) (ha.lt 0 rfl) (by decide) rfl rfl (Or.inl rfl) (Or.inl w666) ?_
      refine z_nm (r := h.2) rfl (fun I59 e60 => ?_)
      have hw61 := hw54 I59 e60
      refine z_aloadn dX4_search_144 rfl rfl ?_
      refine z_getRq (j := 12) zc4 dX4_search_145 (ha.k 0 rfl) (ha.lt 0 rfl) (by decide) rfl w668 (ha.r 4 rfl) ?_
      refine z_iloadn dX4_search_148 rfl rfl ?_
      refine z_iconst (v := (-1)) dX4_search_149 (by decide) ?_
      refine z_callS (h := (I59, h.2)) (S := []) (M := mX4_search) (As := [va_rf (some (a + 5)), .int x3, .int ((-1))]) eX10_put w754 (Or.inr ⟨_, w1402⟩) dX4_search_150 rfl (by omega) (Nat.le_of_ble_eq_true rfl) (c_X10_put l G (I59, h.2) (some (a + 5)) x3 (-1 : Int32) (zpok_lo (ha.w 5 rfl) (by decide))) (fun v62 g63 q64 => ?_)
      obtain ⟨rfl, q64⟩ := q64
      replace q64 := q64.symm
      subst q64
      refine z_nm (r := h.2) rfl (fun I65 e66 => ?_)
      have hw67 := hw61 I65 e66
      refine z_aloadn dX4_search_153 rfl rfl ?_
      refine z_getRq (j := 11) zc4 dX4_search_154 (ha.k 0 rfl) (ha.lt 0 rfl) (by decide) rfl w667 (ha.r 3 rfl) ?_
      refine z_iloadn dX4_search_157 rfl rfl ?_
      refine z_iconst (v := (-1)) dX4_search_158 (by decide) ?_
      refine z_callS (h := (I65, h.2)) (S := []) (M := mX4_search) (As := [va_rf (some (a + 4)), .int x1, .int ((-1))]) eX10_put w754 (Or.inr ⟨_, w1402⟩) dX4_search_159 rfl (by omega) (Nat.le_of_ble_eq_true rfl) (c_X10_put l G (I65, h.2) (some (a + 4)) x1 (-1 : Int32) (zpok_lo (ha.w 4 rfl) (by decide))) (fun v68 g69 q70 => ?_)
      obtain ⟨rfl, q70⟩ := q70
      replace q70 := q70.symm
      subst q70
      refine z_nm (r := h.2) rfl (fun I71 e72 => ?_)
      have hw73 := hw67 I71 e72
      refine z_iinc (v := (x3 + 1)) (L' := [va_rf (some a), .int x1, .int x2, .int ((x3 + 1))]) dX4_search_162 (by decide) rfl rfl rfl ?_
      refine z_goto (t := 75) dX4_search_165 (by decide) ?_
      exact hw73

theorem kX4_search {l : Launch} {G : zG} {d : Nat} {Q : Option Value → zH → Prop} {k n : Nat} {h : zH} (a : Nat) (x1 : Int32) (x2 : Int32) (hz : Z l G mX4_search d Q k n 0 [va_rf (some a), .int x1, .int x2, zU] [] h) : CT l G YX4_search d k n [va_rf (some a), .int x1, .int x2] h Q :=
  CT.of (by decide +kernel) (fun t e => by cases e) (by exact Nat.le_of_ble_eq_true rfl) (by exact hz)

theorem sX4_endsFrom_0 {l : Launch} {G : zG} {d : Nat} {Q : Option Value → zH → Prop} {k n : Nat} {h : zH} (a : Nat) (x1 : Int32) (ha : lo4 h a) (hd9 : 2 ≤ d)
    (hw : Z l G mX4_endsFrom d Q k n 4 [va_rf (some a), .int x1, .int 0, .int x1] [] h) :
    Z l G mX4_endsFrom d Q k n 0 [va_rf (some a), .int x1, zU, zU] [] h := by
  refine z_iconst (v := 0) dX4_endsFrom_0 (by decide) ?_
  refine z_istoren (L' := [va_rf (some a), .int x1, .int 0, zU]) dX4_endsFrom_1 rfl (by decide) rfl ?_
  refine z_iloadn dX4_endsFrom_2 rfl rfl ?_
  refine z_istoren (L' := [va_rf (some a), .int x1, .int 0, .int x1]) dX4_endsFrom_3 rfl (by decide) rfl ?_
  exact hw

theorem sX4_endsFrom_4 {l : Launch} {G : zG} {d : Nat} {Q : Option Value → zH → Prop} {k n : Nat} {h : zH} (a : Nat) (x1 : Int32) (x2 : Int32) (x3 : Int32) (ha : lo4 h a) (hd9 : 2 ≤ d)
    (hw : (((zI h a 0).toInt ≤ x3.toInt → Q (some (.int x2)) h) ∧ (x3.toInt < (zI h a 0).toInt → ((¬ ((zget h (some (a + 2)) x3) &&& ((zI h a 10) ^^^ (-1))) = 0 → Z l G mX4_endsFrom d Q k n 4 [va_rf (some a), .int x1, .int x2, .int ((x3 + 1))] [] h) ∧ (((zget h (some (a + 2)) x3) &&& ((zI h a 10) ^^^ (-1))) = 0 → Z l G mX4_endsFrom d Q k n 4 [va_rf (some a), .int x1, .int ((x2 + 1)), .int ((x3 + 1))] [] h))))) :
    Z l G mX4_endsFrom d Q k n 4 [va_rf (some a), .int x1, .int x2, .int x3] [] h := by
  refine z_iloadn dX4_endsFrom_4 rfl rfl ?_
  refine z_aloadn dX4_endsFrom_5 rfl rfl ?_
  refine z_getI (j := 0) zc4 dX4_endsFrom_6 (ha.k 0 rfl) (ha.lt 0 rfl) (by decide) rfl w651 ?_
  refine z_icmp_ge (t := 39) dX4_endsFrom_9 (by decide) (fun c1 => ?_) (fun c2 => ?_)
  · have hw3 := hw.1 c1
    refine z_iloadn dX4_endsFrom_39 rfl rfl ?_
    exact z_ret (v := some (.int x2)) dX4_endsFrom_40 ⟨_, rfl, rfl⟩ rfl hw3
  · have hw4 := hw.2 c2
    refine z_aloadn dX4_endsFrom_12 rfl rfl ?_
    refine z_getRq (j := 2) zc4 dX4_endsFrom_13 (ha.k 0 rfl) (ha.lt 0 rfl) (by decide) rfl w654 (ha.r 1 rfl) ?_
    refine z_iloadn dX4_endsFrom_16 rfl rfl ?_
    refine z_callS (h := h) (S := []) (M := mX4_endsFrom) (As := [va_rf (some (a + 2)), .int x3]) eX10_get w778 (Or.inr ⟨_, w1396⟩) dX4_endsFrom_17 rfl (by omega) (Nat.le_of_ble_eq_true rfl) (c_X10_get l G h (some (a + 2)) x3 (zgok_lo (ha.w 2 rfl) (by decide))) (fun v5 g6 q7 => ?_)
    obtain ⟨rfl, q7⟩ := q7
    replace q7 := q7.symm
    subst q7
    show Z l G _ d Q k n 20 _ (.int (zget h (some (a + 2)) x3) :: []) _
    refine z_aloadn dX4_endsFrom_20 rfl rfl ?_
    refine z_getI (j := 10) zc4 dX4_endsFrom_21 (ha.k 0 rfl) (ha.lt 0 rfl) (by decide) rfl w666 ?_
    refine z_iconst (v := (-1)) dX4_endsFrom_24 (by decide) ?_
    refine z_ixor dX4_endsFrom_25 ?_
    refine z_iand dX4_endsFrom_26 ?_
    refine z_if_ne (t := 33) dX4_endsFrom_27 (by decide) (fun c8 => ?_) (fun c9 => ?_)
    · have hw10 := hw4.1 c8
      refine z_iinc (v := (x3 + 1)) (L' := [va_rf (some a), .int x1, .int x2, .int ((x3 + 1))]) dX4_endsFrom_33 (by decide) rfl rfl rfl ?_
      refine z_goto (t := 4) dX4_endsFrom_36 (by decide) ?_
      exact hw10
    · have hw11 := hw4.2 c9
      refine z_iinc (v := (x2 + 1)) (L' := [va_rf (some a), .int x1, .int ((x2 + 1)), .int x3]) dX4_endsFrom_30 (by decide) rfl rfl rfl ?_
      refine z_iinc (v := (x3 + 1)) (L' := [va_rf (some a), .int x1, .int ((x2 + 1)), .int ((x3 + 1))]) dX4_endsFrom_33 (by decide) rfl rfl rfl ?_
      refine z_goto (t := 4) dX4_endsFrom_36 (by decide) ?_
      exact hw11

theorem kX4_endsFrom {l : Launch} {G : zG} {d : Nat} {Q : Option Value → zH → Prop} {k n : Nat} {h : zH} (a : Nat) (x1 : Int32) (hz : Z l G mX4_endsFrom d Q k n 0 [va_rf (some a), .int x1, zU, zU] [] h) : CT l G YX4_endsFrom d k n [va_rf (some a), .int x1] h Q :=
  CT.of (by decide +kernel) (fun t e => by have e2 : ((some .int) : Option FieldType) = some t := e; cases e2; exact ⟨by decide, by decide⟩) (by exact Nat.le_of_ble_eq_true rfl) (by exact hz)

theorem sX4_mayJoin_0 {l : Launch} {G : zG} {d : Nat} {Q : Option Value → zH → Prop} {k n : Nat} {h : zH} (a : Nat) (x1 : Int32) (x2 : Int32) (ha : lo4 h a) (hd9 : 2 ≤ d)
    (hw : ((¬ (((zget h (some (a + 2)) x1) &&& ((zI h a 10) ^^^ (-1))) &&& ((1 : Int32) <<< (x2 &&& 31))) = 0 → Z l G mX4_mayJoin d Q k n 29 [va_rf (some a), .int x1, .int x2, .int 2, .int x2, zU] [] h) ∧ ((((zget h (some (a + 2)) x1) &&& ((zI h a 10) ^^^ (-1))) &&& ((1 : Int32) <<< (x2 &&& 31))) = 0 → Q (some (.int 0)) h))) :
    Z l G mX4_mayJoin d Q k n 0 [va_rf (some a), .int x1, .int x2, zU, zU, zU] [] h := by
  refine z_aloadn dX4_mayJoin_0 rfl rfl ?_
  refine z_getRq (j := 2) zc4 dX4_mayJoin_1 (ha.k 0 rfl) (ha.lt 0 rfl) (by decide) rfl w654 (ha.r 1 rfl) ?_
  refine z_iloadn dX4_mayJoin_4 rfl rfl ?_
  refine z_callS (h := h) (S := []) (M := mX4_mayJoin) (As := [va_rf (some (a + 2)), .int x1]) eX10_get w778 (Or.inr ⟨_, w1396⟩) dX4_mayJoin_5 rfl (by omega) (Nat.le_of_ble_eq_true rfl) (c_X10_get l G h (some (a + 2)) x1 (zgok_lo (ha.w 2 rfl) (by decide))) (fun v1 g2 q3 => ?_)
  obtain ⟨rfl, q3⟩ := q3
  replace q3 := q3.symm
  subst q3
  show Z l G _ d Q k n 8 _ (.int (zget h (some (a + 2)) x1) :: []) _
  refine z_aloadn dX4_mayJoin_8 rfl rfl ?_
  refine z_getI (j := 10) zc4 dX4_mayJoin_9 (ha.k 0 rfl) (ha.lt 0 rfl) (by decide) rfl w666 ?_
  refine z_iconst (v := (-1)) dX4_mayJoin_12 (by decide) ?_
  refine z_ixor dX4_mayJoin_13 ?_
  refine z_iand dX4_mayJoin_14 ?_
  refine z_iconst (v := 1) dX4_mayJoin_15 (by decide) ?_
  refine z_iloadn dX4_mayJoin_16 rfl rfl ?_
  refine z_ishl dX4_mayJoin_17 ?_
  refine z_iand dX4_mayJoin_18 ?_
  refine z_if_ne (t := 24) dX4_mayJoin_19 (by decide) (fun c4 => ?_) (fun c5 => ?_)
  · have hw6 := hw.1 c4
    refine z_iconst (v := 2) dX4_mayJoin_24 (by decide) ?_
    refine z_istoren (L' := [va_rf (some a), .int x1, .int x2, .int 2, zU, zU]) dX4_mayJoin_25 rfl (by decide) rfl ?_
    refine z_iloadn dX4_mayJoin_26 rfl rfl ?_
    refine z_istore (L' := [va_rf (some a), .int x1, .int x2, .int 2, .int x2, zU]) dX4_mayJoin_27 (by decide) rfl ?_
    exact hw6
  · have hw7 := hw.2 c5
    refine z_iconst (v := 0) dX4_mayJoin_22 (by decide) ?_
    exact z_ret (v := some (.int 0)) dX4_mayJoin_23 ⟨_, rfl, by decide⟩ rfl hw7

theorem sX4_mayJoin_29 {l : Launch} {G : zG} {d : Nat} {Q : Option Value → zH → Prop} {k n : Nat} {h : zH} (a : Nat) (x1 : Int32) (x2 : Int32) (x3 : Int32) (x4 : Int32) (u5 : Value) (ha : lo4 h a) (hd9 : 2 ≤ d)
    (hw : ((zget h (some (a + 4)) x4 = (-1) → Z l G mX4_mayJoin d Q k n 68 [va_rf (some a), .int x1, .int x2, .int x3, .int x4, .int x1] [] h) ∧ (¬ zget h (some (a + 4)) x4 = (-1) → (((10 : Int) < x3.toInt → Z l G mX4_mayJoin d Q k n 68 [va_rf (some a), .int x1, .int x2, .int x3, .int x4, .int x1] [] h) ∧ (x3.toInt ≤ (10 : Int) → Z l G mX4_mayJoin d Q k n 29 [va_rf (some a), .int x1, .int x2, .int ((x3 + 1)), .int (zget h (some (a + 4)) x4), u5] [] h))))) :
    Z l G mX4_mayJoin d Q k n 29 [va_rf (some a), .int x1, .int x2, .int x3, .int x4, u5] [] h := by
  refine z_aloadn dX4_mayJoin_29 rfl rfl ?_
  refine z_getRq (j := 11) zc4 dX4_mayJoin_30 (ha.k 0 rfl) (ha.lt 0 rfl) (by decide) rfl w667 (ha.r 3 rfl) ?_
  refine z_iload dX4_mayJoin_33 rfl ?_
  refine z_callS (h := h) (S := []) (M := mX4_mayJoin) (As := [va_rf (some (a + 4)), .int x4]) eX10_get w778 (Or.inr ⟨_, w1396⟩) dX4_mayJoin_35 rfl (by omega) (Nat.le_of_ble_eq_true rfl) (c_X10_get l G h (some (a + 4)) x4 (zgok_lo (ha.w 4 rfl) (by decide))) (fun v1 g2 q3 => ?_)
  obtain ⟨rfl, q3⟩ := q3
  replace q3 := q3.symm
  subst q3
  show Z l G _ d Q k n 38 _ (.int (zget h (some (a + 4)) x4) :: []) _
  refine z_iconst (v := (-1)) dX4_mayJoin_38 (by decide) ?_
  refine z_icmp_eq (t := 65) dX4_mayJoin_39 (by decide) (fun c4 => ?_) (fun c5 => ?_)
  · have hw6 := hw.1 c4
    refine z_iloadn dX4_mayJoin_65 rfl rfl ?_
    refine z_istore (L' := [va_rf (some a), .int x1, .int x2, .int x3, .int x4, .int x1]) dX4_mayJoin_66 (by decide) rfl ?_
    exact hw6
  · have hw7 := hw.2 c5
    refine z_iloadn dX4_mayJoin_42 rfl rfl ?_
    refine z_bipush (v := 10) dX4_mayJoin_43 (by decide) ?_
    refine z_icmp_gt (t := 65) dX4_mayJoin_45 (by decide) (fun c8 => ?_) (fun c9 => ?_)
    · have hw10 := hw7.1 c8
      refine z_iloadn dX4_mayJoin_65 rfl rfl ?_
      refine z_istore (L' := [va_rf (some a), .int x1, .int x2, .int x3, .int x4, .int x1]) dX4_mayJoin_66 (by decide) rfl ?_
      exact hw10
    · have hw11 := hw7.2 c9
      refine z_aloadn dX4_mayJoin_48 rfl rfl ?_
      refine z_getRq (j := 11) zc4 dX4_mayJoin_49 (ha.k 0 rfl) (ha.lt 0 rfl) (by decide) rfl w667 (ha.r 3 rfl) ?_
      refine z_iload dX4_mayJoin_52 rfl ?_
      refine z_callS (h := h) (S := []) (M := mX4_mayJoin) (As := [va_rf (some (a + 4)), .int x4]) eX10_get w778 (Or.inr ⟨_, w1396⟩) dX4_mayJoin_54 rfl (by omega) (Nat.le_of_ble_eq_true rfl) (c_X10_get l G h (some (a + 4)) x4 (zgok_lo (ha.w 4 rfl) (by decide))) (fun v12 g13 q14 => ?_)
      obtain ⟨rfl, q14⟩ := q14
      replace q14 := q14.symm
      subst q14
      show Z l G _ d Q k n 57 _ (.int (zget h (some (a + 4)) x4) :: []) _
      refine z_istore (L' := [va_rf (some a), .int x1, .int x2, .int x3, .int (zget h (some (a + 4)) x4), u5]) dX4_mayJoin_57 (by decide) rfl ?_
      refine z_iinc (v := (x3 + 1)) (L' := [va_rf (some a), .int x1, .int x2, .int ((x3 + 1)), .int (zget h (some (a + 4)) x4), u5]) dX4_mayJoin_59 (by decide) rfl rfl rfl ?_
      refine z_goto (t := 29) dX4_mayJoin_62 (by decide) ?_
      exact hw11

theorem sX4_mayJoin_68 {l : Launch} {G : zG} {d : Nat} {Q : Option Value → zH → Prop} {k n : Nat} {h : zH} (a : Nat) (x1 : Int32) (x2 : Int32) (x3 : Int32) (x4 : Int32) (x5 : Int32) (ha : lo4 h a) (hd9 : 2 ≤ d)
    (hw : ((zget h (some (a + 5)) x5 = (-1) → ((x4 = x1 → Q (some (.int 0)) h) ∧ (¬ x4 = x1 → (((zI h a 7).toInt < x3.toInt → Q (some (.int 0)) h) ∧ (x3.toInt ≤ (zI h a 7).toInt → Q (some (.int 1)) h))))) ∧ (¬ zget h (some (a + 5)) x5 = (-1) → (((10 : Int) < x3.toInt → ((x4 = x1 → Q (some (.int 0)) h) ∧ (¬ x4 = x1 → (((zI h a 7).toInt < x3.toInt → Q (some (.int 0)) h) ∧ (x3.toInt ≤ (zI h a 7).toInt → Q (some (.int 1)) h))))) ∧ (x3.toInt ≤ (10 : Int) → Z l G mX4_mayJoin d Q k n 68 [va_rf (some a), .int x1, .int x2, .int ((x3 + 1)), .int x4, .int (zget h (some (a + 5)) x5)] [] h))))) :
    Z l G mX4_mayJoin d Q k n 68 [va_rf (some a), .int x1, .int x2, .int x3, .int x4, .int x5] [] h := by
  refine z_aloadn dX4_mayJoin_68 rfl rfl ?_
  refine z_getRq (j := 12) zc4 dX4_mayJoin_69 (ha.k 0 rfl) (ha.lt 0 rfl) (by decide) rfl w668 (ha.r 4 rfl) ?_
  refine z_iload dX4_mayJoin_72 rfl ?_
  refine z_callS (h := h) (S := []) (M := mX4_mayJoin) (As := [va_rf (some (a + 5)), .int x5]) eX10_get w778 (Or.inr ⟨_, w1396⟩) dX4_mayJoin_74 rfl (by omega) (Nat.le_of_ble_eq_true rfl) (c_X10_get l G h (some (a + 5)) x5 (zgok_lo (ha.w 5 rfl) (by decide))) (fun v1 g2 q3 => ?_)
  obtain ⟨rfl, q3⟩ := q3
  replace q3 := q3.symm
  subst q3
  show Z l G _ d Q k n 77 _ (.int (zget h (some (a + 5)) x5) :: []) _
  refine z_iconst (v := (-1)) dX4_mayJoin_77 (by decide) ?_
  refine z_icmp_eq (t := 104) dX4_mayJoin_78 (by decide) (fun c4 => ?_) (fun c5 => ?_)
  · have hw6 := hw.1 c4
    refine z_iload dX4_mayJoin_104 rfl ?_
    refine z_iloadn dX4_mayJoin_106 rfl rfl ?_
    refine z_icmp_eq (t := 122) dX4_mayJoin_107 (by decide) (fun c8 => ?_) (fun c9 => ?_)
    · have hw10 := hw6.1 c8
      refine z_iconst (v := 0) dX4_mayJoin_122 (by decide) ?_
      exact z_ret (v := some (.int 0)) dX4_mayJoin_123 ⟨_, rfl, by decide⟩ rfl hw10
    · have hw11 := hw6.2 c9
      refine z_iloadn dX4_mayJoin_110 rfl rfl ?_
      refine z_aloadn dX4_mayJoin_111 rfl rfl ?_
      refine z_getI (j := 7) zc4 dX4_mayJoin_112 (ha.k 0 rfl) (ha.lt 0 rfl) (by decide) rfl w663 ?_
      refine z_icmp_gt (t := 122) dX4_mayJoin_115 (by decide) (fun c12 => ?_) (fun c13 => ?_)
      · have hw14 := hw11.1 c12
        refine z_iconst (v := 0) dX4_mayJoin_122 (by decide) ?_
        exact z_ret (v := some (.int 0)) dX4_mayJoin_123 ⟨_, rfl, by decide⟩ rfl hw14
      · have hw15 := hw11.2 c13
        refine z_iconst (v := 1) dX4_mayJoin_118 (by decide) ?_
        refine z_goto (t := 123) dX4_mayJoin_119 (by decide) ?_
        exact z_ret (v := some (.int 1)) dX4_mayJoin_123 ⟨_, rfl, by decide⟩ rfl hw15
  · have hw7 := hw.2 c5
    refine z_iloadn dX4_mayJoin_81 rfl rfl ?_
    refine z_bipush (v := 10) dX4_mayJoin_82 (by decide) ?_
    refine z_icmp_gt (t := 104) dX4_mayJoin_84 (by decide) (fun c16 => ?_) (fun c17 => ?_)
    · have hw18 := hw7.1 c16
      refine z_iload dX4_mayJoin_104 rfl ?_
      refine z_iloadn dX4_mayJoin_106 rfl rfl ?_
      refine z_icmp_eq (t := 122) dX4_mayJoin_107 (by decide) (fun c20 => ?_) (fun c21 => ?_)
      · have hw22 := hw18.1 c20
        refine z_iconst (v := 0) dX4_mayJoin_122 (by decide) ?_
        exact z_ret (v := some (.int 0)) dX4_mayJoin_123 ⟨_, rfl, by decide⟩ rfl hw22
      · have hw23 := hw18.2 c21
        refine z_iloadn dX4_mayJoin_110 rfl rfl ?_
        refine z_aloadn dX4_mayJoin_111 rfl rfl ?_
        refine z_getI (j := 7) zc4 dX4_mayJoin_112 (ha.k 0 rfl) (ha.lt 0 rfl) (by decide) rfl w663 ?_
        refine z_icmp_gt (t := 122) dX4_mayJoin_115 (by decide) (fun c24 => ?_) (fun c25 => ?_)
        · have hw26 := hw23.1 c24
          refine z_iconst (v := 0) dX4_mayJoin_122 (by decide) ?_
          exact z_ret (v := some (.int 0)) dX4_mayJoin_123 ⟨_, rfl, by decide⟩ rfl hw26
        · have hw27 := hw23.2 c25
          refine z_iconst (v := 1) dX4_mayJoin_118 (by decide) ?_
          refine z_goto (t := 123) dX4_mayJoin_119 (by decide) ?_
          exact z_ret (v := some (.int 1)) dX4_mayJoin_123 ⟨_, rfl, by decide⟩ rfl hw27
    · have hw19 := hw7.2 c17
      refine z_aloadn dX4_mayJoin_87 rfl rfl ?_
      refine z_getRq (j := 12) zc4 dX4_mayJoin_88 (ha.k 0 rfl) (ha.lt 0 rfl) (by decide) rfl w668 (ha.r 4 rfl) ?_
      refine z_iload dX4_mayJoin_91 rfl ?_
      refine z_callS (h := h) (S := []) (M := mX4_mayJoin) (As := [va_rf (some (a + 5)), .int x5]) eX10_get w778 (Or.inr ⟨_, w1396⟩) dX4_mayJoin_93 rfl (by omega) (Nat.le_of_ble_eq_true rfl) (c_X10_get l G h (some (a + 5)) x5 (zgok_lo (ha.w 5 rfl) (by decide))) (fun v28 g29 q30 => ?_)
      obtain ⟨rfl, q30⟩ := q30
      replace q30 := q30.symm
      subst q30
      show Z l G _ d Q k n 96 _ (.int (zget h (some (a + 5)) x5) :: []) _
      refine z_istore (L' := [va_rf (some a), .int x1, .int x2, .int x3, .int x4, .int (zget h (some (a + 5)) x5)]) dX4_mayJoin_96 (by decide) rfl ?_
      refine z_iinc (v := (x3 + 1)) (L' := [va_rf (some a), .int x1, .int x2, .int ((x3 + 1)), .int x4, .int (zget h (some (a + 5)) x5)]) dX4_mayJoin_98 (by decide) rfl rfl rfl ?_
      refine z_goto (t := 68) dX4_mayJoin_101 (by decide) ?_
      exact hw19

theorem kX4_mayJoin {l : Launch} {G : zG} {d : Nat} {Q : Option Value → zH → Prop} {k n : Nat} {h : zH} (a : Nat) (x1 : Int32) (x2 : Int32) (hz : Z l G mX4_mayJoin d Q k n 0 [va_rf (some a), .int x1, .int x2, zU, zU, zU] [] h) : CT l G YX4_mayJoin d k n [va_rf (some a), .int x1, .int x2] h Q :=
  CT.of (by decide +kernel) (fun t e => by have e2 : ((some .boolean) : Option FieldType) = some t := e; cases e2; exact ⟨by decide, by decide⟩) (by exact Nat.le_of_ble_eq_true rfl) (by exact hz)

theorem sX5_read_0 {l : Launch} {G : zG} {d : Nat} {Q : Option Value → zH → Prop} {k n : Nat} {h : zH} (a : Nat) (r1 : Option Nat) (x2 : Int32) (x3 : Int32) (ha : lo5 h a) (hd9 : 8 ≤ d)
    (hw : (∀ g1 : zH, g1 = zwR h a 4 r1 → lo5 g1 a ∧ (∀ I6 : Nat → Nat → Int32, I6 = (zwI g1 a 5 x2).1 → (∀ I9 : Nat → Nat → Int32, I9 = (zwI (I6, g1.2) a 8 (0 : Int32)).1 → (∀ I12 : Nat → Nat → Int32, I12 = (zwI (I9, g1.2) a 2 (0 : Int32)).1 → (∀ I15 : Nat → Nat → Int32, I15 = (zwI (I12, g1.2) a 3 (-1 : Int32)).1 → (∀ I18 : Nat → Nat → Int32, I18 = (zwI (I15, g1.2) a 11 (-1 : Int32)).1 → (∀ I21 : Nat → Nat → Int32, I21 = (zwI (I18, g1.2) a 12 (-1 : Int32)).1 → (∃ P24, CTv l G YX1_clear 3 [va_rf (some (a + 1))] (I21, g1.2) P24 ∧ ∀ (I27 : Nat → Nat → Int32), P24 I27 → (∀ I33 : Nat → Nat → Int32, I33 = (zwI (I27, g1.2) (a + 19) 0 (0 : Int32)).1 → (∃ P36, CTv l G YX5_next 3 [va_rf (some a)] (I33, g1.2) P36 ∧ ∀ (I39 : Nat → Nat → Int32), P36 I39 → Z l G mX5_read d Q k n 57 [va_rf (some a), va_rf r1, .int x2, .int x3, .int 0] [] (I39, g1.2)))))))))))) :
    Z l G mX5_read d Q k n 0 [va_rf (some a), va_rf r1, .int x2, .int x3, zU] [] h := by
  refine z_aloadn dX5_read_0 rfl rfl ?_
  refine z_aloadn dX5_read_1 rfl rfl ?_
  refine z_putR (j := 4) zc5 dX5_read_2 (ha.k 0 rfl) (ha.lt 0 rfl) (by decide) rfl rfl (Or.inl w442) ?_
  refine z_nmG (fun g1 e2 => ?_)
  have hw3 := hw g1 e2
  obtain ⟨ho4, hw5⟩ := hw3
  refine z_aloadn dX5_read_5 rfl rfl ?_
  refine z_iloadn dX5_read_6 rfl rfl ?_
  refine z_putI (j := 5) zc5 dX5_read_7 (ho4.k 0 rfl) (ho4.lt 0 rfl) (by decide) rfl rfl (Or.inl rfl) (Or.inl w443) ?_
  refine z_nm (r := g1.2) rfl (fun I6 e7 => ?_)
  have hw8 := hw5 I6 e7
  refine z_aloadn dX5_read_10 rfl rfl ?_
  refine z_iconst (v := 0) dX5_read_11 (by decide) ?_
  refine z_putI (j := 8) zc5 dX5_read_12 (ho4.k 0 rfl) (ho4.lt 0 rfl) (by decide) rfl rfl (Or.inl rfl) (Or.inl w446) ?_
  refine z_nm (r := g1.2) rfl (fun I9 e10 => ?_)
  have hw11 := hw8 I9 e10
  refine z_aloadn dX5_read_15 rfl rfl ?_
  refine z_iconst (v := 0) dX5_read_16 (by decide) ?_
  refine z_putI (j := 2) zc5 dX5_read_17 (ho4.k 0 rfl) (ho4.lt 0 rfl) (by decide) rfl rfl (Or.inl rfl) (Or.inl w438) ?_
  refine z_nm (r := g1.2) rfl (fun I12 e13 => ?_)
  have hw14 := hw11 I12 e13
  refine z_aloadn dX5_read_20 rfl rfl ?_
  refine z_iconst (v := (-1)) dX5_read_21 (by decide) ?_
  refine z_putI (j := 3) zc5 dX5_read_22 (ho4.k 0 rfl) (ho4.lt 0 rfl) (by decide) rfl rfl (Or.inl rfl) (Or.inl w440) ?_
  refine z_nm (r := g1.2) rfl (fun I15 e16 => ?_)
  have hw17 := hw14 I15 e16
  refine z_aloadn dX5_read_25 rfl rfl ?_
  refine z_iconst (v := (-1)) dX5_read_26 (by decide) ?_
  refine z_putI (j := 11) zc5 dX5_read_27 (ho4.k 0 rfl) (ho4.lt 0 rfl) (by decide) rfl rfl (Or.inl rfl) (Or.inl w449) ?_
  refine z_nm (r := g1.2) rfl (fun I18 e19 => ?_)
  have hw20 := hw17 I18 e19
  refine z_aloadn dX5_read_30 rfl rfl ?_
  refine z_iconst (v := (-1)) dX5_read_31 (by decide) ?_
  refine z_putI (j := 12) zc5 dX5_read_32 (ho4.k 0 rfl) (ho4.lt 0 rfl) (by decide) rfl rfl (Or.inl rfl) (Or.inl w450) ?_
  refine z_nm (r := g1.2) rfl (fun I21 e22 => ?_)
  have hw23 := hw20 I21 e22
  refine z_aloadn dX5_read_35 rfl rfl ?_
  refine z_getRq (j := 0) zc5 dX5_read_36 (ho4.k 0 rfl) (ho4.lt 0 rfl) (by decide) rfl w434 (ho4.r 17 rfl) ?_
  obtain ⟨P24, ct25, hw26⟩ := hw23
  refine z_callV (h := (I21, g1.2)) (S := []) (a := (a + 1)) (M := mX5_read) (As := []) zc1 rfl eX1_clear w289 w0 (Or.inr ⟨_, w772⟩) dX5_read_39 (ho4.k 1 rfl) (ho4.lt 1 rfl) rfl (by omega) (Nat.le_of_ble_eq_true rfl) ct25 (fun v31 g32 q28 => ?_)
  obtain ⟨I27, rfl, rfl, q28⟩ := q28
  have hw30 := hw26 I27 q28
  show Z l G _ d Q k n 42 _ ([]) _
  refine z_aloadn dX5_read_42 rfl rfl ?_
  refine z_getRq (j := 1) zc5 dX5_read_43 (ho4.k 0 rfl) (ho4.lt 0 rfl) (by decide) rfl w436 (ho4.r 23 rfl) ?_
  refine z_iconst (v := 0) dX5_read_46 (by decide) ?_
  refine z_putI (j := 0) zc3 dX5_read_47 (ho4.k 19 rfl) (ho4.lt 19 rfl) (by decide) rfl rfl (Or.inl rfl) (Or.inr ⟨_, w362⟩) ?_
  refine z_nm (r := g1.2) rfl (fun I33 e34 => ?_)
  have hw35 := hw30 I33 e34
  refine z_aloadn dX5_read_50 rfl rfl ?_
  obtain ⟨P36, ct37, hw38⟩ := hw35
  refine z_callV (h := (I33, g1.2)) (S := []) (a := a) (M := mX5_read) (As := []) zc5 rfl eX5_next w775 w6 (Or.inl w773) dX5_read_51 (ho4.k 0 rfl) (ho4.lt 0 rfl) rfl (by omega) (Nat.le_of_ble_eq_true rfl) ct37 (fun v43 g44 q40 => ?_)
  obtain ⟨I39, rfl, rfl, q40⟩ := q40
  have hw42 := hw38 I39 q40
  show Z l G _ d Q k n 54 _ ([]) _
  refine z_iconst (v := 0) dX5_read_54 (by decide) ?_
  refine z_istore (L' := [va_rf (some a), va_rf r1, .int x2, .int x3, .int 0]) dX5_read_55 (by decide) rfl ?_
  exact hw42

theorem sX5_read_57 {l : Launch} {G : zG} {d : Nat} {Q : Option Value → zH → Prop} {k n : Nat} {h : zH} (a : Nat) (r1 : Option Nat) (x2 : Int32) (x3 : Int32) (x4 : Int32) (ha : lo5 h a) (hd9 : 8 ≤ d)
    (hw : ((zI h a 6 = 4 → (((zhas h (a + 1) (imax (0 : Int32) (zI h a 11))) = false → (∃ P12, CTv l G YX5_note 1 [va_rf (some a), .int 4] h P12 ∧ ∀ (I15 : Nat → Nat → Int32), P12 I15 → ((¬ zI (I15, h.2) a 2 = 0 → Q (some (.int 0)) (I15, h.2)) ∧ (zI (I15, h.2) a 2 = 0 → Q (some (.int 1)) (I15, h.2))))) ∧ ((zhas h (a + 1) (imax (0 : Int32) (zI h a 11))) = true → (((zI h a 12).toInt < (zI h (a + 1) 3).toInt → ((¬ zI h a 2 = 0 → Q (some (.int 0)) h) ∧ (zI h a 2 = 0 → Q (some (.int 1)) h))) ∧ ((zI h (a + 1) 3).toInt ≤ (zI h a 12).toInt → (∃ P33, CTv l G YX5_note 1 [va_rf (some a), .int 4] h P33 ∧ ∀ (I36 : Nat → Nat → Int32), P33 I36 → ((¬ zI (I36, h.2) a 2 = 0 → Q (some (.int 0)) (I36, h.2)) ∧ (zI (I36, h.2) a 2 = 0 → Q (some (.int 1)) (I36, h.2))))))))) ∧ (¬ zI h a 6 = 4 → (((600 : Int) ≤ x4.toInt → (((zhas h (a + 1) (imax (0 : Int32) (zI h a 11))) = false → (∃ P57, CTv l G YX5_note 1 [va_rf (some a), .int 4] h P57 ∧ ∀ (I60 : Nat → Nat → Int32), P57 I60 → ((¬ zI (I60, h.2) a 2 = 0 → Q (some (.int 0)) (I60, h.2)) ∧ (zI (I60, h.2) a 2 = 0 → Q (some (.int 1)) (I60, h.2))))) ∧ ((zhas h (a + 1) (imax (0 : Int32) (zI h a 11))) = true → (((zI h a 12).toInt < (zI h (a + 1) 3).toInt → ((¬ zI h a 2 = 0 → Q (some (.int 0)) h) ∧ (zI h a 2 = 0 → Q (some (.int 1)) h))) ∧ ((zI h (a + 1) 3).toInt ≤ (zI h a 12).toInt → (∃ P78, CTv l G YX5_note 1 [va_rf (some a), .int 4] h P78 ∧ ∀ (I81 : Nat → Nat → Int32), P78 I81 → ((¬ zI (I81, h.2) a 2 = 0 → Q (some (.int 0)) (I81, h.2)) ∧ (zI (I81, h.2) a 2 = 0 → Q (some (.int 1)) (I81, h.2))))))))) ∧ (x4.toInt < (600 : Int) → (∃ P91, CTz l G YX5_readLine 7 [va_rf (some a), .int x3] h P91 ∧ ∀ (y96 : Bool) (I94 : Nat → Nat → Int32), P91 y96 I94 → ((y96 = true → Z l G mX5_read d Q k n 57 [va_rf (some a), va_rf r1, .int x2, .int x3, .int ((x4 + 1))] [] (I94, h.2)) ∧ (y96 = false → (∀ I104 : Nat → Nat → Int32, I104 = (zwI (I94, h.2) a 2 (1 : Int32)).1 → (∀ I107 : Nat → Nat → Int32, I107 = (zwI (I104, h.2) a 3 (zI (I104, h.2) a 7)).1 → Q (some (.int 0)) (I107, h.2))))))))))) :
    Z l G mX5_read d Q k n 57 [va_rf (some a), va_rf r1, .int x2, .int x3, .int x4] [] h := by
  refine z_aloadn dX5_read_57 rfl rfl ?_
  refine z_getI (j := 6) zc5 dX5_read_58 (ha.k 0 rfl) (ha.lt 0 rfl) (by decide) rfl w444 ?_
  refine z_iconst (v := 4) dX5_read_61 (by decide) ?_
  refine z_icmp_eq (t := 102) dX5_read_62 (by decide) (fun c1 => ?_) (fun c2 => ?_)
  · have hw3 := hw.1 c1
    refine z_aloadn dX5_read_102 rfl rfl ?_
    refine z_getRq (j := 0) zc5 dX5_read_103 (ha.k 0 rfl) (ha.lt 0 rfl) (by decide) rfl w434 (ha.r 17 rfl) ?_
    refine z_iconst (v := 0) dX5_read_106 (by decide) ?_
    refine z_aloadn dX5_read_107 rfl rfl ?_
    refine z_getI (j := 11) zc5 dX5_read_108 (ha.k 0 rfl) (ha.lt 0 rfl) (by decide) rfl w449 ?_
    refine z_max dX5_read_111 w905 w906 w186 w907 (by omega) (Nat.le_of_ble_eq_true rfl) ?_
    show Z l G _ d Q k n 114 _ (.int ((imax (0 : Int32) (zI h a 11))) :: va_rf (some (a + 1)) :: []) _
    refine z_callV (h := h) (S := []) (a := (a + 1)) (M := mX5_read) (As := [.int ((imax (0 : Int32) (zI h a 11)))]) zc1 rfl eX1_hasCell w926 w22 (Or.inr ⟨_, w924⟩) dX5_read_114 (ha.k 1 rfl) (ha.lt 1 rfl) rfl (by omega) (Nat.le_of_ble_eq_true rfl) (c_X1_hasCell l G h (a + 1) (imax (0 : Int32) (zI h a 11)) (los_5_1 ha)) (fun v5 g6 q7 => ?_)
    obtain ⟨rfl, q7⟩ := q7
    replace q7 := q7.symm
    subst q7
    show Z l G _ d Q k n 117 _ (.int (zb (zhas h (a + 1) (imax (0 : Int32) (zI h a 11)))) :: []) _
    refine z_if_eq (t := 134) dX5_read_117 (by decide) (fun c8 => ?_) (fun c9 => ?_)
    · have hw10 := hw3.1 (zb0 c8)
      refine z_aloadn dX5_read_134 rfl rfl ?_
      refine z_iconst (v := 4) dX5_read_135 (by decide) ?_
      obtain ⟨P12, ct13, hw14⟩ := hw10
      refine z_callV (h := h) (S := []) (a := a) (M := mX5_read) (As := [.int 4]) zc5 rfl eX5_note w873 w12 (Or.inl w871) dX5_read_136 (ha.k 0 rfl) (ha.lt 0 rfl) rfl (by omega) (Nat.le_of_ble_eq_true rfl) ct13 (fun v19 g20 q16 => ?_)
      obtain ⟨I15, rfl, rfl, q16⟩ := q16
      have hw18 := hw14 I15 q16
      show Z l G _ d Q k n 139 _ ([]) _
      refine z_aloadn dX5_read_139 rfl rfl ?_
      refine z_getI (j := 2) zc5 dX5_read_140 (ha.k 0 rfl) (ha.lt 0 rfl) (by decide) rfl w438 ?_
      refine z_if_ne (t := 150) dX5_read_143 (by decide) (fun c21 => ?_) (fun c22 => ?_)
      · have hw23 := hw18.1 c21
        refine z_iconst (v := 0) dX5_read_150 (by decide) ?_
        exact z_ret (v := some (.int 0)) dX5_read_151 ⟨_, rfl, by decide⟩ rfl hw23
      · have hw24 := hw18.2 c22
        refine z_iconst (v := 1) dX5_read_146 (by decide) ?_
        refine z_goto (t := 151) dX5_read_147 (by decide) ?_
        exact z_ret (v := some (.int 1)) dX5_read_151 ⟨_, rfl, by decide⟩ rfl hw24
    · have hw11 := hw3.2 (zb1 c9)
      refine z_aloadn dX5_read_120 rfl rfl ?_
      refine z_getI (j := 12) zc5 dX5_read_121 (ha.k 0 rfl) (ha.lt 0 rfl) (by decide) rfl w450 ?_
      refine z_aloadn dX5_read_124 rfl rfl ?_
      refine z_getRq (j := 0) zc5 dX5_read_125 (ha.k 0 rfl) (ha.lt 0 rfl) (by decide) rfl w434 (ha.r 17 rfl) ?_
      refine z_getIN (j := 3) zc1 dX5_read_128 (ha.k 1 rfl) (ha.lt 1 rfl) (by decide) rfl w314 ?_
      refine z_icmp_lt (t := 139) dX5_read_131 (by decide) (fun c25 => ?_) (fun c26 => ?_)
      · have hw27 := hw11.1 c25
        refine z_aloadn dX5_read_139 rfl rfl ?_
        refine z_getI (j := 2) zc5 dX5_read_140 (ha.k 0 rfl) (ha.lt 0 rfl) (by decide) rfl w438 ?_
        refine z_if_ne (t := 150) dX5_read_143 (by decide) (fun c29 => ?_) (fun c30 => ?_)
        · have hw31 := hw27.1 c29
          refine z_iconst (v := 0) dX5_read_150 (by decide) ?_
          exact z_ret (v := some (.int 0)) dX5_read_151 ⟨_, rfl, by decide⟩ rfl hw31
        · have hw32 := hw27.2 c30
          refine z_iconst (v := 1) dX5_read_146 (by decide) ?_
          refine z_goto (t := 151) dX5_read_147 (by decide) ?_
          exact z_ret (v := some (.int 1)) dX5_read_151 ⟨_, rfl, by decide⟩ rfl hw32
      · have hw28 := hw11.2 c26
        refine z_aloadn dX5_read_134 rfl rfl ?_
        refine z_iconst (v := 4) dX5_read_135 (by decide) ?_
        obtain ⟨P33, ct34, hw35⟩ := hw28
        refine z_callV (h := h) (S := []) (a := a) (M := mX5_read) (As := [.int 4]) zc5 rfl eX5_note w873 w12 (Or.inl w871) dX5_read_136 (ha.k 0 rfl) (ha.lt 0 rfl) rfl (by omega) (Nat.le_of_ble_eq_true rfl) ct34 (fun v40 g41 q37 => ?_)
        obtain ⟨I36, rfl, rfl, q37⟩ := q37
        have hw39 := hw35 I36 q37
        show Z l G _ d Q k n 139 _ ([]) _
        refine z_aloadn dX5_read_139 rfl rfl ?_
        refine z_getI (j := 2) zc5 dX5_read_140 (ha.k 0 rfl) (ha.lt 0 rfl) (by decide) rfl w438 ?_
        refine z_if_ne (t := 150) dX5_read_143 (by decide) (fun c42 => ?_) (fun c43 => ?_)
        · have hw44 := hw39.1 c42
          refine z_iconst (v := 0) dX5_read_150 (by decide) ?_
          exact z_ret (v := some (.int 0)) dX5_read_151 ⟨_, rfl, by decide⟩ rfl hw44
        · have hw45 := hw39.2 c43
          refine z_iconst (v := 1) dX5_read_146 (by decide) ?_
          refine z_goto (t := 151) dX5_read_147 (by decide) ?_
          exact z_ret (v := some (.int 1)) dX5_read_151 ⟨_, rfl, by decide⟩ rfl hw45
  · have hw4 := hw.2 c2
    refine z_iload dX5_read_65 rfl ?_
    refine z_sipush (v := 600) dX5_read_67 (by decide) ?_
    refine z_icmp_ge (t := 102) dX5_read_70 (by decide) (fun c46 => ?_) (fun c47 => ?_)
    · have hw48 := hw4.1 c46
      refine z_aloadn dX5_read_102 rfl rfl ?_
      refine z_getRq (j := 0) zc5 dX5_read_103 (ha.k 0 rfl) (ha.lt 0 rfl) (by decide) rfl w434 (ha.r 17 rfl) ?_
      refine z_iconst (v := 0) dX5_read_106 (by decide) ?_
      refine z_aloadn dX5_read_107 rfl rfl ?_
      refine z_getI (j := 11) zc5 dX5_read_108 (ha.k 0 rfl) (ha.lt 0 rfl) (by decide) rfl w449 ?_
      refine z_max dX5_read_111 w905 w906 w186 w907 (by omega) (Nat.le_of_ble_eq_true rfl) ?_
      show Z l G _ d Q k n 114 _ (.int ((imax (0 : Int32) (zI h a 11))) :: va_rf (some (a + 1)) :: []) _
      refine z_callV (h := h) (S := []) (a := (a + 1)) (M := mX5_read) (As := [.int ((imax (0 : Int32) (zI h a 11)))]) zc1 rfl eX1_hasCell w926 w22 (Or.inr ⟨_, w924⟩) dX5_read_114 (ha.k 1 rfl) (ha.lt 1 rfl) rfl (by omega) (Nat.le_of_ble_eq_true rfl) (c_X1_hasCell l G h (a + 1) (imax (0 : Int32) (zI h a 11)) (los_5_1 ha)) (fun v50 g51 q52 => ?_)
      obtain ⟨rfl, q52⟩ := q52
      replace q52 := q52.symm
      subst q52
      show Z l G _ d Q k n 117 _ (.int (zb (zhas h (a + 1) (imax (0 : Int32) (zI h a 11)))) :: []) _
      refine z_if_eq (t := 134) dX5_read_117 (by decide) (fun c53 => ?_) (fun c54 => ?_)
      · have hw55 := hw48.1 (zb0 c53)
        refine z_aloadn dX5_read_134 rfl rfl ?_
        refine z_iconst (v := 4) dX5_read_135 (by decide) ?_
        obtain ⟨P57, ct58, hw59⟩ := hw55
        refine z_callV (h := h) (S := []) (a := a) (M := mX5_read) (As := [.int 4]) zc5 rfl eX5_note w873 w12 (Or.inl w871) dX5_read_136 (ha.k 0 rfl) (ha.lt 0 rfl) rfl (by omega) (Nat.le_of_ble_eq_true rfl) ct58 (fun v64 g65 q61 => ?_)
        obtain ⟨I60, rfl, rfl, q61⟩ := q61
        have hw63 := hw59 I60 q61
        show Z l G _ d Q k n 139 _ ([]) _
        refine z_aloadn dX5_read_139 rfl rfl ?_
        refine z_getI (j := 2) zc5 dX5_read_140 (ha.k 0 rfl) (ha.lt 0 rfl) (by decide) rfl w438 ?_
        refine z_if_ne (t := 150) dX5_read_143 (by decide) (fun c66 => ?_) (fun c67 => ?_)
        · have hw68 := hw63.1 c66
          refine z_iconst (v := 0) dX5_read_150 (by decide) ?_
          exact z_ret (v := some (.int 0)) dX5_read_151 ⟨_, rfl, by decide⟩ rfl hw68
        · have hw69 := hw63.2 c67
          refine z_iconst (v := 1) dX5_read_146 (by decide) ?_
          refine z_goto (t := 151) dX5_read_147 (by decide) ?_
          exact z_ret (v := some (.int 1)) dX5_read_151 ⟨_, rfl, by decide⟩ rfl hw69
      · have hw56 := hw48.2 (zb1 c54)
        refine z_aloadn dX5_read_120 rfl rfl ?_
        refine z_getI (j := 12) zc5 dX5_read_121 (ha.k 0 rfl) (ha.lt 0 rfl) (by decide) rfl w450 ?_
        refine z_aloadn dX5_read_124 rfl rfl ?_
        refine z_getRq (j := 0) zc5 dX5_read_125 (ha.k 0 rfl) (ha.lt 0 rfl) (by decide) rfl w434 (ha.r 17 rfl) ?_
        refine z_getIN (j := 3) zc1 dX5_read_128 (ha.k 1 rfl) (ha.lt 1 rfl) (by decide) rfl w314 ?_
        refine z_icmp_lt (t := 139) dX5_read_131 (by decide) (fun c70 => ?_) (fun c71 => ?_)
        · have hw72 := hw56.1 c70
          refine z_aloadn dX5_read_139 rfl rfl ?_
          refine z_getI (j := 2) zc5 dX5_read_140 (ha.k 0 rfl) (ha.lt 0 rfl) (by decide) rfl w438 ?_
          refine z_if_ne (t := 150) dX5_read_143 (by decide) (fun c74 => ?_) (fun c75 => ?_)
          · have hw76 := hw72.1 c74
            refine z_iconst (v := 0) dX5_read_150 (by decide) ?_
            exact z_ret (v := some (.int 0)) dX5_read_151 ⟨_, rfl, by decide⟩ rfl hw76
          · have hw77 := hw72.2 c75
            refine z_iconst (v := 1) dX5_read_146 (by decide) ?_
            refine z_goto (t := 151) dX5_read_147 (by decide) ?_
            exact z_ret (v := some (.int 1)) dX5_read_151 ⟨_, rfl, by decide⟩ rfl hw77
        · have hw73 := hw56.2 c71
          refine z_aloadn dX5_read_134 rfl rfl ?_
          refine z_iconst (v := 4) dX5_read_135 (by decide) ?_
          obtain ⟨P78, ct79, hw80⟩ := hw73
          refine z_callV (h := h) (S := []) (a := a) (M := mX5_read) (As := [.int 4]) zc5 rfl eX5_note w873 w12 (Or.inl w871) dX5_read_136 (ha.k 0 rfl) (ha.lt 0 rfl) rfl (by omega) (Nat.le_of_ble_eq_true rfl) ct79 (fun v85 g86 q82 => ?_)
          obtain ⟨I81, rfl, rfl, q82⟩ := q82
          have hw84 := hw80 I81 q82
          show Z l G _ d Q k n 139 _ ([]) _
          refine z_aloadn dX5_read_139 rfl rfl ?_
          refine z_getI (j := 2) zc5 dX5_read_140 (ha.k 0 rfl) (ha.lt 0 rfl) (by decide) rfl w438 ?_
          refine z_if_ne (t := 150) dX5_read_143 (by decide) (fun c87 => ?_) (fun c88 => ?_)
          · have hw89 := hw84.1 c87
            refine z_iconst (v := 0) dX5_read_150 (by decide) ?_
            exact z_ret (v := some (.int 0)) dX5_read_151 ⟨_, rfl, by decide⟩ rfl hw89
          · have hw90 := hw84.2 c88
            refine z_iconst (v := 1) dX5_read_146 (by decide) ?_
            refine z_goto (t := 151) dX5_read_147 (by decide) ?_
            exact z_ret (v := some (.int 1)) dX5_read_151 ⟨_, rfl, by decide⟩ rfl hw90
    · have hw49 := hw4.2 c47
      refine z_aloadn dX5_read_73 rfl rfl ?_
      refine z_iloadn dX5_read_74 rfl rfl ?_
      obtain ⟨P91, ct92, hw93⟩ := hw49
      refine z_callV (h := h) (S := []) (a := a) (M := mX5_read) (As := [.int x3]) zc5 rfl eX5_readLine w795 w8 (Or.inl w793) dX5_read_75 (ha.k 0 rfl) (ha.lt 0 rfl) rfl (by omega) (Nat.le_of_ble_eq_true rfl) ct92 (fun v98 g99 q95 => ?_)
      obtain ⟨y96, I94, rfl, rfl, q95⟩ := q95
      have hw97 := hw93 y96 I94 q95
      show Z l G _ d Q k n 78 _ (.int (zb y96) :: []) _
      refine z_if_ne (t := 96) dX5_read_78 (by decide) (fun c100 => ?_) (fun c101 => ?_)
      · have hw102 := hw97.1 (zb1 c100)
        refine z_iinc (v := (x4 + 1)) (L' := [va_rf (some a), va_rf r1, .int x2, .int x3, .int ((x4 + 1))]) dX5_read_96 (by decide) rfl rfl rfl ?_
        refine z_goto (t := 57) dX5_read_99 (by decide) ?_
        exact hw102
      · have hw103 := hw97.2 (zb0 c101)
        refine z_aloadn dX5_read_81 rfl rfl ?_
        refine z_iconst (v := 1) dX5_read_82 (by decide) ?_
        refine z_putI (j := 2) zc5 dX5_read_83 (ha.k 0 rfl) (ha.lt 0 rfl) (by decide) rfl rfl (Or.inl rfl) (Or.inl w438) ?_
        refine z_nm (r := h.2) rfl (fun I104 e105 => ?_)
        have hw106 := hw103 I104 e105
        refine z_aloadn dX5_read_86 rfl rfl ?_
        refine z_aloadn dX5_read_87 rfl rfl ?_
        refine z_getI (j := 7) zc5 dX5_read_88 (ha.k 0 rfl) (ha.lt 0 rfl) (by decide) rfl w445 ?_
        refine z_putI (j := 3) zc5 dX5_read_91 (ha.k 0 rfl) (ha.lt 0 rfl) (by decide) rfl rfl (Or.inl rfl) (Or.inl w440) ?_
        refine z_nm (r := h.2) rfl (fun I107 e108 => ?_)
        have hw109 := hw106 I107 e108
        refine z_iconst (v := 0) dX5_read_94 (by decide) ?_
        exact z_ret (v := some (.int 0)) dX5_read_95 ⟨_, rfl, by decide⟩ rfl hw109

theorem kX5_read {l : Launch} {G : zG} {d : Nat} {Q : Option Value → zH → Prop} {k n : Nat} {h : zH} (a : Nat) (r1 : Option Nat) (x2 : Int32) (x3 : Int32) (hz : Z l G mX5_read d Q k n 0 [va_rf (some a), va_rf r1, .int x2, .int x3, zU] [] h) : CT l G YX5_read d k n [va_rf (some a), va_rf r1, .int x2, .int x3] h Q :=
  CT.of (by decide +kernel) (fun t e => by have e2 : ((some .boolean) : Option FieldType) = some t := e; cases e2; exact ⟨by decide, by decide⟩) (by cases r1 <;> exact Nat.le_of_ble_eq_true rfl) (by cases r1 <;> exact hz)

theorem sX5_readLine_0 {l : Launch} {G : zG} {d : Nat} {Q : Option Value → zH → Prop} {k n : Nat} {h : zH} (a : Nat) (x1 : Int32) (ha : lo5 h a) (hd9 : 7 ≤ d)
    (hw : (∃ P1, CTi l G YX5_lineTold 6 [va_rf (some a), .int x1] h P1 ∧ ∀ (y6 : Int32) (I4 : Nat → Nat → Int32), P1 y6 I4 → ((¬ y6 = (-1) → (∃ P14, CTz l G YX5_isFull 1 [va_rf (some a), .int y6] (I4, h.2) P14 ∧ ∀ (y19 : Bool) (I17 : Nat → Nat → Int32), P14 y19 I17 → ((y19 = false → (∃ P27, CTv l G YX5_next 3 [va_rf (some a)] (I17, h.2) P27 ∧ ∀ (I30 : Nat → Nat → Int32), P27 I30 → ((zgok (I30, h.2) (some 1000001)) ∧ Z l G mX5_readLine d Q k n 41 [va_rf (some a), .int x1, .int y6, .int (zget (I30, h.2) (some 1000001) y6), .int 0] [] (I30, h.2)))) ∧ (y19 = true → (∃ P40, CTv l G YX5_note 1 [va_rf (some a), .int 3] (I17, h.2) P40 ∧ ∀ (I43 : Nat → Nat → Int32), P40 I43 → (∃ P49, CTv l G YX5_next 3 [va_rf (some a)] (I43, h.2) P49 ∧ ∀ (I52 : Nat → Nat → Int32), P49 I52 → ((zgok (I52, h.2) (some 1000001)) ∧ Z l G mX5_readLine d Q k n 41 [va_rf (some a), .int x1, .int y6, .int (zget (I52, h.2) (some 1000001) y6), .int 0] [] (I52, h.2)))))))) ∧ (y6 = (-1) → Q (some (.int 0)) (I4, h.2))))) :
    Z l G mX5_readLine d Q k n 0 [va_rf (some a), .int x1, zU, zU, zU] [] h := by
  refine z_aloadn dX5_readLine_0 rfl rfl ?_
  refine z_iloadn dX5_readLine_1 rfl rfl ?_
  obtain ⟨P1, ct2, hw3⟩ := hw
  refine z_callV (h := h) (S := []) (a := a) (M := mX5_readLine) (As := [.int x1]) zc5 rfl eX5_lineTold w799 w9 (Or.inl w797) dX5_readLine_2 (ha.k 0 rfl) (ha.lt 0 rfl) rfl (by omega) (Nat.le_of_ble_eq_true rfl) ct2 (fun v8 g9 q5 => ?_)
  obtain ⟨y6, I4, rfl, rfl, q5⟩ := q5
  have hw7 := hw3 y6 I4 q5
  show Z l G _ d Q k n 5 _ (.int y6 :: []) _
  refine z_istoren (L' := [va_rf (some a), .int x1, .int y6, zU, zU]) dX5_readLine_5 rfl (by decide) rfl ?_
  refine z_iloadn dX5_readLine_6 rfl rfl ?_
  refine z_iconst (v := (-1)) dX5_readLine_7 (by decide) ?_
  refine z_icmp_ne (t := 13) dX5_readLine_8 (by decide) (fun c10 => ?_) (fun c11 => ?_)
  · have hw12 := hw7.1 c10
    refine z_aloadn dX5_readLine_13 rfl rfl ?_
    refine z_iloadn dX5_readLine_14 rfl rfl ?_
    obtain ⟨P14, ct15, hw16⟩ := hw12
    refine z_callV (h := (I4, h.2)) (S := []) (a := a) (M := mX5_readLine) (As := [.int y6]) zc5 rfl eX5_isFull w869 w11 (Or.inl w867) dX5_readLine_15 (ha.k 0 rfl) (ha.lt 0 rfl) rfl (by omega) (Nat.le_of_ble_eq_true rfl) ct15 (fun v21 g22 q18 => ?_)
    obtain ⟨y19, I17, rfl, rfl, q18⟩ := q18
    have hw20 := hw16 y19 I17 q18
    show Z l G _ d Q k n 18 _ (.int (zb y19) :: []) _
    refine z_if_eq (t := 26) dX5_readLine_18 (by decide) (fun c23 => ?_) (fun c24 => ?_)
    · have hw25 := hw20.1 (zb0 c23)
      refine z_aloadn dX5_readLine_26 rfl rfl ?_
      obtain ⟨P27, ct28, hw29⟩ := hw25
      refine z_callV (h := (I17, h.2)) (S := []) (a := a) (M := mX5_readLine) (As := []) zc5 rfl eX5_next w775 w6 (Or.inl w773) dX5_readLine_27 (ha.k 0 rfl) (ha.lt 0 rfl) rfl (by omega) (Nat.le_of_ble_eq_true rfl) ct28 (fun v34 g35 q31 => ?_)
      obtain ⟨I30, rfl, rfl, q31⟩ := q31
      have hw33 := hw29 I30 q31
      show Z l G _ d Q k n 30 _ ([]) _
      refine z_gets (i := 1) (fun _ _ q => q.2.1) (by decide) dX5_readLine_30 w875 ?_
      refine z_iloadn dX5_readLine_33 rfl rfl ?_
      have hw36 := hw33.2
      refine z_callS (h := (I30, h.2)) (S := []) (M := mX5_readLine) (As := [va_rf (some 1000001), .int y6]) eX10_get w778 (Or.inr ⟨_, w777⟩) dX5_readLine_34 rfl (by omega) (Nat.le_of_ble_eq_true rfl) (c_X10_get l G (I30, h.2) (some 1000001) y6 hw33.1) (fun v37 g38 q39 => ?_)
      obtain ⟨rfl, q39⟩ := q39
      replace q39 := q39.symm
      subst q39
      show Z l G _ d Q k n 37 _ (.int (zget (I30, h.2) (some 1000001) y6) :: []) _
      refine z_istoren (L' := [va_rf (some a), .int x1, .int y6, .int (zget (I30, h.2) (some 1000001) y6), zU]) dX5_readLine_37 rfl (by decide) rfl ?_
      refine z_iconst (v := 0) dX5_readLine_38 (by decide) ?_
      refine z_istore (L' := [va_rf (some a), .int x1, .int y6, .int (zget (I30, h.2) (some 1000001) y6), .int 0]) dX5_readLine_39 (by decide) rfl ?_
      exact hw36
    · have hw26 := hw20.2 (zb1 c24)
      refine z_aloadn dX5_readLine_21 rfl rfl ?_
      refine z_iconst (v := 3) dX5_readLine_22 (by decide) ?_
      obtain ⟨P40, ct41, hw42⟩ := hw26
      refine z_callV (h := (I17, h.2)) (S := []) (a := a) (M := mX5_readLine) (As := [.int 3]) zc5 rfl eX5_note w873 w12 (Or.inl w871) dX5_readLine_23 (ha.k 0 rfl) (ha.lt 0 rfl) rfl (by omega) (Nat.le_of_ble_eq_true rfl) ct41 (fun v47 g48 q44 => ?_)
      obtain ⟨I43, rfl, rfl, q44⟩ := q44
      have hw46 := hw42 I43 q44
      show Z l G _ d Q k n 26 _ ([]) _
      refine z_aloadn dX5_readLine_26 rfl rfl ?_
      obtain ⟨P49, ct50, hw51⟩ := hw46
      refine z_callV (h := (I43, h.2)) (S := []) (a := a) (M := mX5_readLine) (As := []) zc5 rfl eX5_next w775 w6 (Or.inl w773) dX5_readLine_27 (ha.k 0 rfl) (ha.lt 0 rfl) rfl (by omega) (Nat.le_of_ble_eq_true rfl) ct50 (fun v56 g57 q53 => ?_)
      obtain ⟨I52, rfl, rfl, q53⟩ := q53
      have hw55 := hw51 I52 q53
      show Z l G _ d Q k n 30 _ ([]) _
      refine z_gets (i := 1) (fun _ _ q => q.2.1) (by decide) dX5_readLine_30 w875 ?_
      refine z_iloadn dX5_readLine_33 rfl rfl ?_
      have hw58 := hw55.2
      refine z_callS (h := (I52, h.2)) (S := []) (M := mX5_readLine) (As := [va_rf (some 1000001), .int y6]) eX10_get w778 (Or.inr ⟨_, w777⟩) dX5_readLine_34 rfl (by omega) (Nat.le_of_ble_eq_true rfl) (c_X10_get l G (I52, h.2) (some 1000001) y6 hw55.1) (fun v59 g60 q61 => ?_)
      obtain ⟨rfl, q61⟩ := q61
      replace q61 := q61.symm
      subst q61
      show Z l G _ d Q k n 37 _ (.int (zget (I52, h.2) (some 1000001) y6) :: []) _
      refine z_istoren (L' := [va_rf (some a), .int x1, .int y6, .int (zget (I52, h.2) (some 1000001) y6), zU]) dX5_readLine_37 rfl (by decide) rfl ?_
      refine z_iconst (v := 0) dX5_readLine_38 (by decide) ?_
      refine z_istore (L' := [va_rf (some a), .int x1, .int y6, .int (zget (I52, h.2) (some 1000001) y6), .int 0]) dX5_readLine_39 (by decide) rfl ?_
      exact hw58
  · have hw13 := hw7.2 c11
    refine z_iconst (v := 0) dX5_readLine_11 (by decide) ?_
    exact z_ret (v := some (.int 0)) dX5_readLine_12 ⟨_, rfl, by decide⟩ rfl hw13

theorem sX5_readLine_41 {l : Launch} {G : zG} {d : Nat} {Q : Option Value → zH → Prop} {k n : Nat} {h : zH} (a : Nat) (x1 : Int32) (x2 : Int32) (x3 : Int32) (x4 : Int32) (ha : lo5 h a) (hd9 : 7 ≤ d)
    (hw : ((¬ zI h a 6 = 2 → ((x4.toInt < x3.toInt → Q (some (.int 0)) h) ∧ (x3.toInt ≤ x4.toInt → ((zI h a 6 = 3 → ((¬ zI h a 2 = 0 → (∃ P17, CTv l G YX5_next 3 [va_rf (some a)] h P17 ∧ ∀ (I20 : Nat → Nat → Int32), P17 I20 → Q (some (.int 1)) (I20, h.2))) ∧ (zI h a 2 = 0 → (∃ P26, CTv l G YX5_tell 3 [va_rf (some a), .int x2, .int x4] h P26 ∧ ∀ (I29 : Nat → Nat → Int32), P26 I29 → (∃ P35, CTv l G YX5_next 3 [va_rf (some a)] (I29, h.2) P35 ∧ ∀ (I38 : Nat → Nat → Int32), P35 I38 → Q (some (.int 1)) (I38, h.2)))))) ∧ (¬ zI h a 6 = 3 → Q (some (.int 0)) h))))) ∧ (zI h a 6 = 2 → ((x4.toInt < x3.toInt → (((600 : Int) ≤ x4.toInt → ((x4.toInt < x3.toInt → Q (some (.int 0)) h) ∧ (x3.toInt ≤ x4.toInt → ((zI h a 6 = 3 → ((¬ zI h a 2 = 0 → (∃ P64, CTv l G YX5_next 3 [va_rf (some a)] h P64 ∧ ∀ (I67 : Nat → Nat → Int32), P64 I67 → Q (some (.int 1)) (I67, h.2))) ∧ (zI h a 2 = 0 → (∃ P73, CTv l G YX5_tell 3 [va_rf (some a), .int x2, .int x4] h P73 ∧ ∀ (I76 : Nat → Nat → Int32), P73 I76 → (∃ P82, CTv l G YX5_next 3 [va_rf (some a)] (I76, h.2) P82 ∧ ∀ (I85 : Nat → Nat → Int32), P82 I85 → Q (some (.int 1)) (I85, h.2)))))) ∧ (¬ zI h a 6 = 3 → Q (some (.int 0)) h))))) ∧ (x4.toInt < (600 : Int) → (∃ P91, CTv l G YX5_weigh 2 [va_rf (some a), .int x2, .int x4] h P91 ∧ ∀ (I94 : Nat → Nat → Int32), P91 I94 → (∀ I103 : Nat → Nat → Int32, I103 = (zput (I94, h.2) (some (a + 25)) x4 (zI (I94, h.2) a 9)).1 → (∃ P106, CTv l G YX5_next 3 [va_rf (some a)] (I103, h.2) P106 ∧ ∀ (I109 : Nat → Nat → Int32), P106 I109 → Z l G mX5_readLine d Q k n 41 [va_rf (some a), .int x1, .int x2, .int x3, .int ((x4 + 1))] [] (I109, h.2))))))) ∧ (x3.toInt ≤ x4.toInt → ((¬ x2 = 3 → ((x4.toInt < x3.toInt → Q (some (.int 0)) h) ∧ (x3.toInt ≤ x4.toInt → ((zI h a 6 = 3 → ((¬ zI h a 2 = 0 → (∃ P131, CTv l G YX5_next 3 [va_rf (some a)] h P131 ∧ ∀ (I134 : Nat → Nat → Int32), P131 I134 → Q (some (.int 1)) (I134, h.2))) ∧ (zI h a 2 = 0 → (∃ P140, CTv l G YX5_tell 3 [va_rf (some a), .int x2, .int x4] h P140 ∧ ∀ (I143 : Nat → Nat → Int32), P140 I143 → (∃ P149, CTv l G YX5_next 3 [va_rf (some a)] (I143, h.2) P149 ∧ ∀ (I152 : Nat → Nat → Int32), P149 I152 → Q (some (.int 1)) (I152, h.2)))))) ∧ (¬ zI h a 6 = 3 → Q (some (.int 0)) h))))) ∧ (x2 = 3 → (((600 : Int) ≤ x4.toInt → ((x4.toInt < x3.toInt → Q (some (.int 0)) h) ∧ (x3.toInt ≤ x4.toInt → ((zI h a 6 = 3 → ((¬ zI h a 2 = 0 → (∃ P174, CTv l G YX5_next 3 [va_rf (some a)] h P174 ∧ ∀ (I177 : Nat → Nat → Int32), P174 I177 → Q (some (.int 1)) (I177, h.2))) ∧ (zI h a 2 = 0 → (∃ P183, CTv l G YX5_tell 3 [va_rf (some a), .int x2, .int x4] h P183 ∧ ∀ (I186 : Nat → Nat → Int32), P183 I186 → (∃ P192, CTv l G YX5_next 3 [va_rf (some a)] (I186, h.2) P192 ∧ ∀ (I195 : Nat → Nat → Int32), P192 I195 → Q (some (.int 1)) (I195, h.2)))))) ∧ (¬ zI h a 6 = 3 → Q (some (.int 0)) h))))) ∧ (x4.toInt < (600 : Int) → (∃ P201, CTv l G YX5_weigh 2 [va_rf (some a), .int x2, .int x4] h P201 ∧ ∀ (I204 : Nat → Nat → Int32), P201 I204 → (∀ I213 : Nat → Nat → Int32, I213 = (zput (I204, h.2) (some (a + 25)) x4 (zI (I204, h.2) a 9)).1 → (∃ P216, CTv l G YX5_next 3 [va_rf (some a)] (I213, h.2) P216 ∧ ∀ (I219 : Nat → Nat → Int32), P216 I219 → Z l G mX5_readLine d Q k n 41 [va_rf (some a), .int x1, .int x2, .int x3, .int ((x4 + 1))] [] (I219, h.2))))))))))))) :
    Z l G mX5_readLine d Q k n 41 [va_rf (some a), .int x1, .int x2, .int x3, .int x4] [] h := by
  refine z_aloadn dX5_readLine_41 rfl rfl ?_
  refine z_getI (j := 6) zc5 dX5_readLine_42 (ha.k 0 rfl) (ha.lt 0 rfl) (by decide) rfl w444 ?_
  refine z_iconst (v := 2) dX5_readLine_45 (by decide) ?_
  refine z_icmp_ne (t := 98) dX5_readLine_46 (by decide) (fun c1 => ?_) (fun c2 => ?_)
  · have hw3 := hw.1 c1
    refine z_iload dX5_readLine_98 rfl ?_
    refine z_iloadn dX5_readLine_100 rfl rfl ?_
    refine z_icmp_lt (t := 112) dX5_readLine_101 (by decide) (fun c5 => ?_) (fun c6 => ?_)
    · have hw7 := hw3.1 c5
      refine z_iconst (v := 0) dX5_readLine_112 (by decide) ?_
      exact z_ret (v := some (.int 0)) dX5_readLine_113 ⟨_, rfl, by decide⟩ rfl hw7
    · have hw8 := hw3.2 c6
      refine z_aloadn dX5_readLine_104 rfl rfl ?_
      refine z_getI (j := 6) zc5 dX5_readLine_105 (ha.k 0 rfl) (ha.lt 0 rfl) (by decide) rfl w444 ?_
      refine z_iconst (v := 3) dX5_readLine_108 (by decide) ?_
      refine z_icmp_eq (t := 114) dX5_readLine_109 (by decide) (fun c9 => ?_) (fun c10 => ?_)
      · have hw11 := hw8.1 c9
        refine z_aloadn dX5_readLine_114 rfl rfl ?_
        refine z_getI (j := 2) zc5 dX5_readLine_115 (ha.k 0 rfl) (ha.lt 0 rfl) (by decide) rfl w438 ?_
        refine z_if_ne (t := 128) dX5_readLine_118 (by decide) (fun c13 => ?_) (fun c14 => ?_)
        · have hw15 := hw11.1 c13
          refine z_aloadn dX5_readLine_128 rfl rfl ?_
          obtain ⟨P17, ct18, hw19⟩ := hw15
          refine z_callV (h := h) (S := []) (a := a) (M := mX5_readLine) (As := []) zc5 rfl eX5_next w775 w6 (Or.inl w773) dX5_readLine_129 (ha.k 0 rfl) (ha.lt 0 rfl) rfl (by omega) (Nat.le_of_ble_eq_true rfl) ct18 (fun v24 g25 q21 => ?_)
          obtain ⟨I20, rfl, rfl, q21⟩ := q21
          have hw23 := hw19 I20 q21
          show Z l G _ d Q k n 132 _ ([]) _
          refine z_iconst (v := 1) dX5_readLine_132 (by decide) ?_
          exact z_ret (v := some (.int 1)) dX5_readLine_133 ⟨_, rfl, by decide⟩ rfl hw23
        · have hw16 := hw11.2 c14
          refine z_aloadn dX5_readLine_121 rfl rfl ?_
          refine z_iloadn dX5_readLine_122 rfl rfl ?_
          refine z_iload dX5_readLine_123 rfl ?_
          obtain ⟨P26, ct27, hw28⟩ := hw16
          refine z_callV (h := h) (S := []) (a := a) (M := mX5_readLine) (As := [.int x2, .int x4]) zc5 rfl eX5_tell w891 w14 (Or.inl w889) dX5_readLine_125 (ha.k 0 rfl) (ha.lt 0 rfl) rfl (by omega) (Nat.le_of_ble_eq_true rfl) ct27 (fun v33 g34 q30 => ?_)
          obtain ⟨I29, rfl, rfl, q30⟩ := q30
          have hw32 := hw28 I29 q30
          show Z l G _ d Q k n 128 _ ([]) _
          refine z_aloadn dX5_readLine_128 rfl rfl ?_
          obtain ⟨P35, ct36, hw37⟩ := hw32
          refine z_callV (h := (I29, h.2)) (S := []) (a := a) (M := mX5_readLine) (As := []) zc5 rfl eX5_next w775 w6 (Or.inl w773) dX5_readLine_129 (ha.k 0 rfl) (ha.lt 0 rfl) rfl (by omega) (Nat.le_of_ble_eq_true rfl) ct36 (fun v42 g43 q39 => ?_)
          obtain ⟨I38, rfl, rfl, q39⟩ := q39
          have hw41 := hw37 I38 q39
          show Z l G _ d Q k n 132 _ ([]) _
          refine z_iconst (v := 1) dX5_readLine_132 (by decide) ?_
          exact z_ret (v := some (.int 1)) dX5_readLine_133 ⟨_, rfl, by decide⟩ rfl hw41
      · have hw12 := hw8.2 c10
        refine z_iconst (v := 0) dX5_readLine_112 (by decide) ?_
        exact z_ret (v := some (.int 0)) dX5_readLine_113 ⟨_, rfl, by decide⟩ rfl hw12
  · have hw4 := hw.2 c2
    refine z_iload dX5_readLine_49 rfl ?_
    refine z_iloadn dX5_readLine_51 rfl rfl ?_
    refine z_icmp_lt (t := 60) dX5_readLine_52 (by decide) (fun c44 => ?_) (fun c45 => ?_)
    · have hw46 := hw4.1 c44
      refine z_iload dX5_readLine_60 rfl ?_
      refine z_sipush (v := 600) dX5_readLine_62 (by decide) ?_
      refine z_icmp_ge (t := 98) dX5_readLine_65 (by decide) (fun c48 => ?_) (fun c49 => ?_)
      · have hw50 := hw46.1 c48
        refine z_iload dX5_readLine_98 rfl ?_
        refine z_iloadn dX5_readLine_100 rfl rfl ?_
        refine z_icmp_lt (t := 112) dX5_readLine_101 (by decide) (fun c52 => ?_) (fun c53 => ?_)
        · have hw54 := hw50.1 c52
          refine z_iconst (v := 0) dX5_readLine_112 (by decide) ?_
          exact z_ret (v := some (.int 0)) dX5_readLine_113 ⟨_, rfl, by decide⟩ rfl hw54
        · have hw55 := hw50.2 c53
          refine z_aloadn dX5_readLine_104 rfl rfl ?_
          refine z_getI (j := 6) zc5 dX5_readLine_105 (ha.k 0 rfl) (ha.lt 0 rfl) (by decide) rfl w444 ?_
          refine z_iconst (v := 3) dX5_readLine_108 (by decide) ?_
          refine z_icmp_eq (t := 114) dX5_readLine_109 (by decide) (fun c56 => ?_) (fun c57 => ?_)
          · have hw58 := hw55.1 c56
            refine z_aloadn dX5_readLine_114 rfl rfl ?_
            refine z_getI (j := 2) zc5 dX5_readLine_115 (ha.k 0 rfl) (ha.lt 0 rfl) (by decide) rfl w438 ?_
            refine z_if_ne (t := 128) dX5_readLine_118 (by decide) (fun c60 => ?_) (fun c61 => ?_)
            · have hw62 := hw58.1 c60
              refine z_aloadn dX5_readLine_128 rfl rfl ?_
              obtain ⟨P64, ct65, hw66⟩ := hw62
              refine z_callV (h := h) (S := []) (a := a) (M := mX5_readLine) (As := []) zc5 rfl eX5_next w775 w6 (Or.inl w773) dX5_readLine_129 (ha.k 0 rfl) (ha.lt 0 rfl) rfl (by omega) (Nat.le_of_ble_eq_true rfl) ct65 (fun v71 g72 q68 => ?_)
              obtain ⟨I67, rfl, rfl, q68⟩ := q68
              have hw70 := hw66 I67 q68
              show Z l G _ d Q k n 132 _ ([]) _
              refine z_iconst (v := 1) dX5_readLine_132 (by decide) ?_
              exact z_ret (v := some (.int 1)) dX5_readLine_133 ⟨_, rfl, by decide⟩ rfl hw70
            · have hw63 := hw58.2 c61
              refine z_aloadn dX5_readLine_121 rfl rfl ?_
              refine z_iloadn dX5_readLine_122 rfl rfl ?_
              refine z_iload dX5_readLine_123 rfl ?_
              obtain ⟨P73, ct74, hw75⟩ := hw63
              refine z_callV (h := h) (S := []) (a := a) (M := mX5_readLine) (As := [.int x2, .int x4]) zc5 rfl eX5_tell w891 w14 (Or.inl w889) dX5_readLine_125 (ha.k 0 rfl) (ha.lt 0 rfl) rfl (by omega) (Nat.le_of_ble_eq_true rfl) ct74 (fun v80 g81 q77 => ?_)
              obtain ⟨I76, rfl, rfl, q77⟩ := q77
              have hw79 := hw75 I76 q77
              show Z l G _ d Q k n 128 _ ([]) _
              refine z_aloadn dX5_readLine_128 rfl rfl ?_
              obtain ⟨P82, ct83, hw84⟩ := hw79
              refine z_callV (h := (I76, h.2)) (S := []) (a := a) (M := mX5_readLine) (As := []) zc5 rfl eX5_next w775 w6 (Or.inl w773) dX5_readLine_129 (ha.k 0 rfl) (ha.lt 0 rfl) rfl (by omega) (Nat.le_of_ble_eq_true rfl) ct83 (fun v89 g90 q86 => ?_)
              obtain ⟨I85, rfl, rfl, q86⟩ := q86
              have hw88 := hw84 I85 q86
              show Z l G _ d Q k n 132 _ ([]) _
              refine z_iconst (v := 1) dX5_readLine_132 (by decide) ?_
              exact z_ret (v := some (.int 1)) dX5_readLine_133 ⟨_, rfl, by decide⟩ rfl hw88
          · have hw59 := hw55.2 c57
            refine z_iconst (v := 0) dX5_readLine_112 (by decide) ?_
            exact z_ret (v := some (.int 0)) dX5_readLine_113 ⟨_, rfl, by decide⟩ rfl hw59
      · have hw51 := hw46.2 c49
        refine z_aloadn dX5_readLine_68 rfl rfl ?_
        refine z_iloadn dX5_readLine_69 rfl rfl ?_
        refine z_iload dX5_readLine_70 rfl ?_
        obtain ⟨P91, ct92, hw93⟩ := hw51
        refine z_callV (h := h) (S := []) (a := a) (M := mX5_readLine) (As := [.int x2, .int x4]) zc5 rfl eX5_weigh w879 w13 (Or.inl w877) dX5_readLine_72 (ha.k 0 rfl) (ha.lt 0 rfl) rfl (by omega) (Nat.le_of_ble_eq_true rfl) ct92 (fun v98 g99 q95 => ?_)
        obtain ⟨I94, rfl, rfl, q95⟩ := q95
        have hw97 := hw93 I94 q95
        show Z l G _ d Q k n 75 _ ([]) _
        refine z_aloadn dX5_readLine_75 rfl rfl ?_
        refine z_getRq (j := 10) zc5 dX5_readLine_76 (ha.k 0 rfl) (ha.lt 0 rfl) (by decide) rfl w448 (ha.r 24 rfl) ?_
        refine z_iload dX5_readLine_79 rfl ?_
        refine z_aloadn dX5_readLine_81 rfl rfl ?_
        refine z_getI (j := 9) zc5 dX5_readLine_82 (ha.k 0 rfl) (ha.lt 0 rfl) (by decide) rfl w447 ?_
        refine z_callS (h := (I94, h.2)) (S := []) (M := mX5_readLine) (As := [va_rf (some (a + 25)), .int x4, .int (zI (I94, h.2) a 9)]) eX10_put w754 (Or.inr ⟨_, w888⟩) dX5_readLine_85 rfl (by omega) (Nat.le_of_ble_eq_true rfl) (c_X10_put l G (I94, h.2) (some (a + 25)) x4 (zI (I94, h.2) a 9) (zpok_lo (ha.w 25 rfl) (by decide))) (fun v100 g101 q102 => ?_)
        obtain ⟨rfl, q102⟩ := q102
        replace q102 := q102.symm
        subst q102
        refine z_nm (r := h.2) rfl (fun I103 e104 => ?_)
        have hw105 := hw97 I103 e104
        refine z_iinc (v := (x4 + 1)) (L' := [va_rf (some a), .int x1, .int x2, .int x3, .int ((x4 + 1))]) dX5_readLine_88 (by decide) rfl rfl rfl ?_
        refine z_aloadn dX5_readLine_91 rfl rfl ?_
        obtain ⟨P106, ct107, hw108⟩ := hw105
        refine z_callV (h := (I103, h.2)) (S := []) (a := a) (M := mX5_readLine) (As := []) zc5 rfl eX5_next w775 w6 (Or.inl w773) dX5_readLine_92 (ha.k 0 rfl) (ha.lt 0 rfl) rfl (by omega) (Nat.le_of_ble_eq_true rfl) ct107 (fun v113 g114 q110 => ?_)
        obtain ⟨I109, rfl, rfl, q110⟩ := q110
        have hw112 := hw108 I109 q110
        show Z l G _ d Q k n 95 _ ([]) _
        refine z_goto (t := 41) dX5_readLine_95 (by decide) ?_
        exact hw112
    · have hw47 := hw4.2 c45
      refine z_iloadn dX5_readLine_55 rfl rfl ?_
      refine z_iconst (v := 3) dX5_readLine_56 (by decide) ?_
      refine z_icmp_ne (t := 98) dX5_readLine_57 (by decide) (fun c115 => ?_) (fun c116 => ?_)
      · have hw117 := hw47.1 c115
        refine z_iload dX5_readLine_98 rfl ?_
        refine z_iloadn dX5_readLine_100 rfl rfl ?_
        refine z_icmp_lt (t := 112) dX5_readLine_101 (by decide) (fun c119 => ?_) (fun c120 => ?_)
        · have hw121 := hw117.1 c119
          refine z_iconst (v := 0) dX5_readLine_112 (by decide) ?_
          exact z_ret (v := some (.int 0)) dX5_readLine_113 ⟨_, rfl, by decide⟩ rfl hw121
        · have hw122 := hw117.2 c120
          refine z_aloadn dX5_readLine_104 rfl rfl ?_
          refine z_getI (j := 6) zc5 dX5_readLine_105 (ha.k 0 rfl) (ha.lt 0 rfl) (by decide) rfl w444 ?_
          refine z_iconst (v := 3) dX5_readLine_108 (by decide) ?_
          refine z_icmp_eq (t := 114) dX5_readLine_109 (by decide) (fun c123 => ?_) (fun c124 => ?_)
          · have hw125 := hw122.1 c123
            refine z_aloadn dX5_readLine_114 rfl rfl ?_
            refine z_getI (j := 2) zc5 dX5_readLine_115 (ha.k 0 rfl) (ha.lt 0 rfl) (by decide) rfl w438 ?_
            refine z_if_ne (t := 128) dX5_readLine_118 (by decide) (fun c127 => ?_) (fun c128 => ?_)
            · have hw129 := hw125.1 c127
              refine z_aloadn dX5_readLine_128 rfl rfl ?_
              obtain ⟨P131, ct132, hw133⟩ := hw129
              refine z_callV (h := h) (S := []) (a := a) (M := mX5_readLine) (As := []) zc5 rfl eX5_next w775 w6 (Or.inl w773) dX5_readLine_129 (ha.k 0 rfl) (ha.lt 0 rfl) rfl (by omega) (Nat.le_of_ble_eq_true rfl) ct132 (fun v138 g139 q135 => ?_)
              obtain ⟨I134, rfl, rfl, q135⟩ := q135
              have hw137 := hw133 I134 q135
              show Z l G _ d Q k n 132 _ ([]) _
              refine z_iconst (v := 1) dX5_readLine_132 (by decide) ?_
              exact z_ret (v := some (.int 1)) dX5_readLine_133 ⟨_, rfl, by decide⟩ rfl hw137
            · have hw130 := hw125.2 c128
              refine z_aloadn dX5_readLine_121 rfl rfl ?_
              refine z_iloadn dX5_readLine_122 rfl rfl ?_
              refine z_iload dX5_readLine_123 rfl ?_
              obtain ⟨P140, ct141, hw142⟩ := hw130
              refine z_callV (h := h) (S := []) (a := a) (M := mX5_readLine) (As := [.int x2, .int x4]) zc5 rfl eX5_tell w891 w14 (Or.inl w889) dX5_readLine_125 (ha.k 0 rfl) (ha.lt 0 rfl) rfl (by omega) (Nat.le_of_ble_eq_true rfl) ct141 (fun v147 g148 q144 => ?_)
              obtain ⟨I143, rfl, rfl, q144⟩ := q144
              have hw146 := hw142 I143 q144
              show Z l G _ d Q k n 128 _ ([]) _
              refine z_aloadn dX5_readLine_128 rfl rfl ?_
              obtain ⟨P149, ct150, hw151⟩ := hw146
              refine z_callV (h := (I143, h.2)) (S := []) (a := a) (M := mX5_readLine) (As := []) zc5 rfl eX5_next w775 w6 (Or.inl w773) dX5_readLine_129 (ha.k 0 rfl) (ha.lt 0 rfl) rfl (by omega) (Nat.le_of_ble_eq_true rfl) ct150 (fun v156 g157 q153 => ?_)
              obtain ⟨I152, rfl, rfl, q153⟩ := q153
              have hw155 := hw151 I152 q153
              show Z l G _ d Q k n 132 _ ([]) _
              refine z_iconst (v := 1) dX5_readLine_132 (by decide) ?_
              exact z_ret (v := some (.int 1)) dX5_readLine_133 ⟨_, rfl, by decide⟩ rfl hw155
          · have hw126 := hw122.2 c124
            refine z_iconst (v := 0) dX5_readLine_112 (by decide) ?_
            exact z_ret (v := some (.int 0)) dX5_readLine_113 ⟨_, rfl, by decide⟩ rfl hw126
      · have hw118 := hw47.2 c116
        refine z_iload dX5_readLine_60 rfl ?_
        refine z_sipush (v := 600) dX5_readLine_62 (by decide) ?_
        refine z_icmp_ge (t := 98) dX5_readLine_65 (by decide) (fun c158 => ?_) (fun c159 => ?_)
        · have hw160 := hw118.1 c158
          refine z_iload dX5_readLine_98 rfl ?_
          refine z_iloadn dX5_readLine_100 rfl rfl ?_
          refine z_icmp_lt (t := 112) dX5_readLine_101 (by decide) (fun c162 => ?_) (fun c163 => ?_)
          · have hw164 := hw160.1 c162
            refine z_iconst (v := 0) dX5_readLine_112 (by decide) ?_
            exact z_ret (v := some (.int 0)) dX5_readLine_113 ⟨_, rfl, by decide⟩ rfl hw164
          · have hw165 := hw160.2 c163
            refine z_aloadn dX5_readLine_104 rfl rfl ?_
            refine z_getI (j := 6) zc5 dX5_readLine_105 (ha.k 0 rfl) (ha.lt 0 rfl) (by decide) rfl w444 ?_
            refine z_iconst (v := 3) dX5_readLine_108 (by decide) ?_
            refine z_icmp_eq (t := 114) dX5_readLine_109 (by decide) (fun c166 => ?_) (fun c167 => ?_)
            · have hw168 := hw165.1 c166
              refine z_aloadn dX5_readLine_114 rfl rfl ?_
              refine z_getI (j := 2) zc5 dX5_readLine_115 (ha.k 0 rfl) (ha.lt 0 rfl) (by decide) rfl w438 ?_
              refine z_if_ne (t := 128) dX5_readLine_118 (by decide) (fun c170 => ?_) (fun c171 => ?_)
              · have hw172 := hw168.1 c170
                refine z_aloadn dX5_readLine_128 rfl rfl ?_
                obtain ⟨P174, ct175, hw176⟩ := hw172
                refine z_callV (h := h) (S := []) (a := a) (M := mX5_readLine) (As := []) zc5 rfl eX5_next w775 w6 (Or.inl w773) dX5_readLine_129 (ha.k 0 rfl) (ha.lt 0 rfl) rfl (by omega) (Nat.le_of_ble_eq_true rfl) ct175 (fun v181 g182 q178 => ?_)
                obtain ⟨I177, rfl, rfl, q178⟩ := q178
                have hw180 := hw176 I177 q178
                show Z l G _ d Q k n 132 _ ([]) _
                refine z_iconst (v := 1) dX5_readLine_132 (by decide) ?_
                exact z_ret (v := some (.int 1)) dX5_readLine_133 ⟨_, rfl, by decide⟩ rfl hw180
              · have hw173 := hw168.2 c171
                refine z_aloadn dX5_readLine_121 rfl rfl ?_
                refine z_iloadn dX5_readLine_122 rfl rfl ?_
                refine z_iload dX5_readLine_123 rfl ?_
                obtain ⟨P183, ct184, hw185⟩ := hw173
                refine z_callV (h := h) (S := []) (a := a) (M := mX5_readLine) (As := [.int x2, .int x4]) zc5 rfl eX5_tell w891 w14 (Or.inl w889) dX5_readLine_125 (ha.k 0 rfl) (ha.lt 0 rfl) rfl (by omega) (Nat.le_of_ble_eq_true rfl) ct184 (fun v190 g191 q187 => ?_)
                obtain ⟨I186, rfl, rfl, q187⟩ := q187
                have hw189 := hw185 I186 q187
                show Z l G _ d Q k n 128 _ ([]) _
                refine z_aloadn dX5_readLine_128 rfl rfl ?_
                obtain ⟨P192, ct193, hw194⟩ := hw189
                refine z_callV (h := (I186, h.2)) (S := []) (a := a) (M := mX5_readLine) (As := []) zc5 rfl eX5_next w775 w6 (Or.inl w773) dX5_readLine_129 (ha.k 0 rfl) (ha.lt 0 rfl) rfl (by omega) (Nat.le_of_ble_eq_true rfl) ct193 (fun v199 g200 q196 => ?_)
                obtain ⟨I195, rfl, rfl, q196⟩ := q196
                have hw198 := hw194 I195 q196
                show Z l G _ d Q k n 132 _ ([]) _
                refine z_iconst (v := 1) dX5_readLine_132 (by decide) ?_
                exact z_ret (v := some (.int 1)) dX5_readLine_133 ⟨_, rfl, by decide⟩ rfl hw198
            · have hw169 := hw165.2 c167
              refine z_iconst (v := 0) dX5_readLine_112 (by decide) ?_
              exact z_ret (v := some (.int 0)) dX5_readLine_113 ⟨_, rfl, by decide⟩ rfl hw169
        · have hw161 := hw118.2 c159
          refine z_aloadn dX5_readLine_68 rfl rfl ?_
          refine z_iloadn dX5_readLine_69 rfl rfl ?_
          refine z_iload dX5_readLine_70 rfl ?_
          obtain ⟨P201, ct202, hw203⟩ := hw161
          refine z_callV (h := h) (S := []) (a := a) (M := mX5_readLine) (As := [.int x2, .int x4]) zc5 rfl eX5_weigh w879 w13 (Or.inl w877) dX5_readLine_72 (ha.k 0 rfl) (ha.lt 0 rfl) rfl (by omega) (Nat.le_of_ble_eq_true rfl) ct202 (fun v208 g209 q205 => ?_)
          obtain ⟨I204, rfl, rfl, q205⟩ := q205
          have hw207 := hw203 I204 q205
          show Z l G _ d Q k n 75 _ ([]) _
          refine z_aloadn dX5_readLine_75 rfl rfl ?_
          refine z_getRq (j := 10) zc5 dX5_readLine_76 (ha.k 0 rfl) (ha.lt 0 rfl) (by decide) rfl w448 (ha.r 24 rfl) ?_
          refine z_iload dX5_readLine_79 rfl ?_
          refine z_aloadn dX5_readLine_81 rfl rfl ?_
          refine z_getI (j := 9) zc5 dX5_readLine_82 (ha.k 0 rfl) (ha.lt 0 rfl) (by decide) rfl w447 ?_
          refine z_callS (h := (I204, h.2)) (S := []) (M := mX5_readLine) (As := [va_rf (some (a + 25)), .int x4, .int (zI (I204, h.2) a 9)]) eX10_put w754 (Or.inr ⟨_, w888⟩) dX5_readLine_85 rfl (by omega) (Nat.le_of_ble_eq_true rfl) (c_X10_put l G (I204, h.2) (some (a + 25)) x4 (zI (I204, h.2) a 9) (zpok_lo (ha.w 25 rfl) (by decide))) (fun v210 g211 q212 => ?_)
          obtain ⟨rfl, q212⟩ := q212
          replace q212 := q212.symm
          subst q212
          refine z_nm (r := h.2) rfl (fun I213 e214 => ?_)
          have hw215 := hw207 I213 e214
          refine z_iinc (v := (x4 + 1)) (L' := [va_rf (some a), .int x1, .int x2, .int x3, .int ((x4 + 1))]) dX5_readLine_88 (by decide) rfl rfl rfl ?_
          refine z_aloadn dX5_readLine_91 rfl rfl ?_
          obtain ⟨P216, ct217, hw218⟩ := hw215
          refine z_callV (h := (I213, h.2)) (S := []) (a := a) (M := mX5_readLine) (As := []) zc5 rfl eX5_next w775 w6 (Or.inl w773) dX5_readLine_92 (ha.k 0 rfl) (ha.lt 0 rfl) rfl (by omega) (Nat.le_of_ble_eq_true rfl) ct217 (fun v223 g224 q220 => ?_)
          obtain ⟨I219, rfl, rfl, q220⟩ := q220
          have hw222 := hw218 I219 q220
          show Z l G _ d Q k n 95 _ ([]) _
          refine z_goto (t := 41) dX5_readLine_95 (by decide) ?_
          exact hw222

theorem kX5_readLine {l : Launch} {G : zG} {d : Nat} {Q : Option Value → zH → Prop} {k n : Nat} {h : zH} (a : Nat) (x1 : Int32) (hz : Z l G mX5_readLine d Q k n 0 [va_rf (some a), .int x1, zU, zU, zU] [] h) : CT l G YX5_readLine d k n [va_rf (some a), .int x1] h Q :=
  CT.of (by decide +kernel) (fun t e => by have e2 : ((some .boolean) : Option FieldType) = some t := e; cases e2; exact ⟨by decide, by decide⟩) (by exact Nat.le_of_ble_eq_true rfl) (by exact hz)

theorem sX5_lineTold_0 {l : Launch} {G : zG} {d : Nat} {Q : Option Value → zH → Prop} {k n : Nat} {h : zH} (a : Nat) (x1 : Int32) (ha : lo5 h a) (hd9 : 6 ≤ d)
    (hw : ((¬ x1 = 0 → ((¬ x1 = 0 → Z l G mX5_lineTold d Q k n 26 [va_rf (some a), .int x1, .int 10, .int 10, .int 10] [] h) ∧ (x1 = 0 → Z l G mX5_lineTold d Q k n 26 [va_rf (some a), .int x1, .int 10, .int 9, .int 10] [] h))) ∧ (x1 = 0 → ((¬ x1 = 0 → Z l G mX5_lineTold d Q k n 26 [va_rf (some a), .int x1, .int 0, .int 10, .int 0] [] h) ∧ (x1 = 0 → Z l G mX5_lineTold d Q k n 26 [va_rf (some a), .int x1, .int 0, .int 9, .int 0] [] h))))) :
    Z l G mX5_lineTold d Q k n 0 [va_rf (some a), .int x1, zU, zU, zU] [] h := by
  refine z_iloadn dX5_lineTold_0 rfl rfl ?_
  refine z_if_ne (t := 8) dX5_lineTold_1 (by decide) (fun c1 => ?_) (fun c2 => ?_)
  · have hw3 := hw.1 c1
    refine z_bipush (v := 10) dX5_lineTold_8 (by decide) ?_
    refine z_istoren (L' := [va_rf (some a), .int x1, .int 10, zU, zU]) dX5_lineTold_10 rfl (by decide) rfl ?_
    refine z_iloadn dX5_lineTold_11 rfl rfl ?_
    refine z_if_ne (t := 20) dX5_lineTold_12 (by decide) (fun c5 => ?_) (fun c6 => ?_)
    · have hw7 := hw3.1 c5
      refine z_bipush (v := 10) dX5_lineTold_20 (by decide) ?_
      refine z_istoren (L' := [va_rf (some a), .int x1, .int 10, .int 10, zU]) dX5_lineTold_22 rfl (by decide) rfl ?_
      refine z_iloadn dX5_lineTold_23 rfl rfl ?_
      refine z_istore (L' := [va_rf (some a), .int x1, .int 10, .int 10, .int 10]) dX5_lineTold_24 (by decide) rfl ?_
      exact hw7
    · have hw8 := hw3.2 c6
      refine z_bipush (v := 9) dX5_lineTold_15 (by decide) ?_
      refine z_goto (t := 22) dX5_lineTold_17 (by decide) ?_
      refine z_istoren (L' := [va_rf (some a), .int x1, .int 10, .int 9, zU]) dX5_lineTold_22 rfl (by decide) rfl ?_
      refine z_iloadn dX5_lineTold_23 rfl rfl ?_
      refine z_istore (L' := [va_rf (some a), .int x1, .int 10, .int 9, .int 10]) dX5_lineTold_24 (by decide) rfl ?_
      exact hw8
  · have hw4 := hw.2 c2
    refine z_iconst (v := 0) dX5_lineTold_4 (by decide) ?_
    refine z_goto (t := 10) dX5_lineTold_5 (by decide) ?_
    refine z_istoren (L' := [va_rf (some a), .int x1, .int 0, zU, zU]) dX5_lineTold_10 rfl (by decide) rfl ?_
    refine z_iloadn dX5_lineTold_11 rfl rfl ?_
    refine z_if_ne (t := 20) dX5_lineTold_12 (by decide) (fun c9 => ?_) (fun c10 => ?_)
    · have hw11 := hw4.1 c9
      refine z_bipush (v := 10) dX5_lineTold_20 (by decide) ?_
      refine z_istoren (L' := [va_rf (some a), .int x1, .int 0, .int 10, zU]) dX5_lineTold_22 rfl (by decide) rfl ?_
      refine z_iloadn dX5_lineTold_23 rfl rfl ?_
      refine z_istore (L' := [va_rf (some a), .int x1, .int 0, .int 10, .int 0]) dX5_lineTold_24 (by decide) rfl ?_
      exact hw11
    · have hw12 := hw4.2 c10
      refine z_bipush (v := 9) dX5_lineTold_15 (by decide) ?_
      refine z_goto (t := 22) dX5_lineTold_17 (by decide) ?_
      refine z_istoren (L' := [va_rf (some a), .int x1, .int 0, .int 9, zU]) dX5_lineTold_22 rfl (by decide) rfl ?_
      refine z_iloadn dX5_lineTold_23 rfl rfl ?_
      refine z_istore (L' := [va_rf (some a), .int x1, .int 0, .int 9, .int 0]) dX5_lineTold_24 (by decide) rfl ?_
      exact hw12

theorem sX5_lineTold_26 {l : Launch} {G : zG} {d : Nat} {Q : Option Value → zH → Prop} {k n : Nat} {h : zH} (a : Nat) (x1 : Int32) (u2 : Value) (x3 : Int32) (x4 : Int32) (ha : lo5 h a) (hd9 : 6 ≤ d)
    (hw : ((x3.toInt < x4.toInt → Q (some (.int ((-1)))) h) ∧ (x4.toInt ≤ x3.toInt → ((¬ zI h a 6 = 1 → Q (some (.int ((-1)))) h) ∧ (zI h a 6 = 1 → (∃ P9, CTr l G YX5_wordOf 1 [.int x4] h P9 ∧ ∀ (y14 : Option Nat) (I12 : Nat → Nat → Int32), P9 y14 I12 → (∃ P18, CTz l G YX5_spells 5 [va_rf (some a), va_rf y14] (I12, h.2) P18 ∧ ∀ (y23 : Bool) (I21 : Nat → Nat → Int32), P18 y23 I21 → ((y23 = false → Z l G mX5_lineTold d Q k n 26 [va_rf (some a), .int x1, u2, .int x3, .int ((x4 + 1))] [] (I21, h.2)) ∧ (y23 = true → Q (some (.int x4)) (I21, h.2)))))))))) :
    Z l G mX5_lineTold d Q k n 26 [va_rf (some a), .int x1, u2, .int x3, .int x4] [] h := by
  refine z_iload dX5_lineTold_26 rfl ?_
  refine z_iloadn dX5_lineTold_28 rfl rfl ?_
  refine z_icmp_gt (t := 61) dX5_lineTold_29 (by decide) (fun c1 => ?_) (fun c2 => ?_)
  · have hw3 := hw.1 c1
    refine z_iconst (v := (-1)) dX5_lineTold_61 (by decide) ?_
    exact z_ret (v := some (.int ((-1)))) dX5_lineTold_62 ⟨_, rfl, rfl⟩ rfl hw3
  · have hw4 := hw.2 c2
    refine z_aloadn dX5_lineTold_32 rfl rfl ?_
    refine z_getI (j := 6) zc5 dX5_lineTold_33 (ha.k 0 rfl) (ha.lt 0 rfl) (by decide) rfl w444 ?_
    refine z_iconst (v := 1) dX5_lineTold_36 (by decide) ?_
    refine z_icmp_ne (t := 61) dX5_lineTold_37 (by decide) (fun c5 => ?_) (fun c6 => ?_)
    · have hw7 := hw4.1 c5
      refine z_iconst (v := (-1)) dX5_lineTold_61 (by decide) ?_
      exact z_ret (v := some (.int ((-1)))) dX5_lineTold_62 ⟨_, rfl, rfl⟩ rfl hw7
    · have hw8 := hw4.2 c6
      refine z_aloadn dX5_lineTold_40 rfl rfl ?_
      refine z_iload dX5_lineTold_41 rfl ?_
      obtain ⟨P9, ct10, hw11⟩ := hw8
      refine z_callS (h := h) (S := [va_rf (some a)]) (M := mX5_lineTold) (As := [.int x4]) eX5_wordOf w802 (Or.inl w801) dX5_lineTold_43 rfl (by omega) (Nat.le_of_ble_eq_true rfl) ct10 (fun v16 g17 q13 => ?_)
      obtain ⟨y14, I12, rfl, rfl, q13⟩ := q13
      have hw15 := hw11 y14 I12 q13
      show Z l G _ d Q k n 46 _ (va_rf y14 :: va_rf (some a) :: []) _
      obtain ⟨P18, ct19, hw20⟩ := hw15
      refine z_callV (h := (I12, h.2)) (S := []) (a := a) (M := mX5_lineTold) (As := [va_rf y14]) zc5 rfl eX5_spells w817 w10 (Or.inl w815) dX5_lineTold_46 (ha.k 0 rfl) (ha.lt 0 rfl) rfl (by omega) (Nat.le_of_ble_eq_true rfl) ct19 (fun v25 g26 q22 => ?_)
      obtain ⟨y23, I21, rfl, rfl, q22⟩ := q22
      have hw24 := hw20 y23 I21 q22
      show Z l G _ d Q k n 49 _ (.int (zb y23) :: []) _
      refine z_if_eq (t := 55) dX5_lineTold_49 (by decide) (fun c27 => ?_) (fun c28 => ?_)
      · have hw29 := hw24.1 (zb0 c27)
        refine z_iinc (v := (x4 + 1)) (L' := [va_rf (some a), .int x1, u2, .int x3, .int ((x4 + 1))]) dX5_lineTold_55 (by decide) rfl rfl rfl ?_
        refine z_goto (t := 26) dX5_lineTold_58 (by decide) ?_
        exact hw29
      · have hw30 := hw24.2 (zb1 c28)
        refine z_iload dX5_lineTold_52 rfl ?_
        exact z_ret (v := some (.int x4)) dX5_lineTold_54 ⟨_, rfl, rfl⟩ rfl hw30

theorem kX5_lineTold {l : Launch} {G : zG} {d : Nat} {Q : Option Value → zH → Prop} {k n : Nat} {h : zH} (a : Nat) (x1 : Int32) (hz : Z l G mX5_lineTold d Q k n 0 [va_rf (some a), .int x1, zU, zU, zU] [] h) : CT l G YX5_lineTold d k n [va_rf (some a), .int x1] h Q :=
  CT.of (by decide +kernel) (fun t e => by have e2 : ((some .int) : Option FieldType) = some t := e; cases e2; exact ⟨by decide, by decide⟩) (by exact Nat.le_of_ble_eq_true rfl) (by exact hz)

theorem sX5_weigh_0 {l : Launch} {G : zG} {d : Nat} {Q : Option Value → zH → Prop} {k n : Nat} {h : zH} (a : Nat) (x1 : Int32) (x2 : Int32) (ha : lo5 h a) (hd9 : 2 ≤ d)
    (hw : ((¬ x1 = 3 → ((¬ x1 = 4 → Z l G mX5_weigh d Q k n 48 [va_rf (some a), .int x1, .int x2, .int (((x1 * 5) + (imin x2 (4 : Int32)))), zU] [] h) ∧ (x1 = 4 → ((¬ x2 = 1 → Z l G mX5_weigh d Q k n 48 [va_rf (some a), .int x1, .int x2, .int (((x1 * 5) + (imin x2 (4 : Int32)))), zU] [] h) ∧ (x2 = 1 → ((¬ zI h a 9 = zget h (some (a + 25)) (0 : Int32) → Z l G mX5_weigh d Q k n 48 [va_rf (some a), .int x1, .int x2, .int (((x1 * 5) + (imin x2 (4 : Int32)))), zU] [] h) ∧ (zI h a 9 = zget h (some (a + 25)) (0 : Int32) → ((zgok h (some 1000002)) ∧ (((zI h a 9).toInt < (zget h (some 1000002) ((x1 * 5) + (imin x2 (4 : Int32)))).toInt → Z l G mX5_weigh d Q k n 84 [va_rf (some a), .int x1, .int x2, .int (((x1 * 5) + (imin x2 (4 : Int32)))), .int 1] [] h) ∧ ((zget h (some 1000002) ((x1 * 5) + (imin x2 (4 : Int32)))).toInt ≤ (zI h a 9).toInt → ((zgok h (some 1000003)) ∧ (((zget h (some 1000003) ((x1 * 5) + (imin x2 (4 : Int32)))).toInt < (zI h a 9).toInt → Z l G mX5_weigh d Q k n 84 [va_rf (some a), .int x1, .int x2, .int (((x1 * 5) + (imin x2 (4 : Int32)))), .int 1] [] h) ∧ ((zI h a 9).toInt ≤ (zget h (some 1000003) ((x1 * 5) + (imin x2 (4 : Int32)))).toInt → Z l G mX5_weigh d Q k n 84 [va_rf (some a), .int x1, .int x2, .int (((x1 * 5) + (imin x2 (4 : Int32)))), .int 1] [] h))))))))))))) ∧ (x1 = 3 → ((¬ x1 = 4 → Z l G mX5_weigh d Q k n 48 [va_rf (some a), .int x1, .int x2, .int (((x1 * 5) + (imin x2 (3 : Int32)))), zU] [] h) ∧ (x1 = 4 → ((¬ x2 = 1 → Z l G mX5_weigh d Q k n 48 [va_rf (some a), .int x1, .int x2, .int (((x1 * 5) + (imin x2 (3 : Int32)))), zU] [] h) ∧ (x2 = 1 → ((¬ zI h a 9 = zget h (some (a + 25)) (0 : Int32) → Z l G mX5_weigh d Q k n 48 [va_rf (some a), .int x1, .int x2, .int (((x1 * 5) + (imin x2 (3 : Int32)))), zU] [] h) ∧ (zI h a 9 = zget h (some (a + 25)) (0 : Int32) → ((zgok h (some 1000002)) ∧ (((zI h a 9).toInt < (zget h (some 1000002) ((x1 * 5) + (imin x2 (3 : Int32)))).toInt → Z l G mX5_weigh d Q k n 84 [va_rf (some a), .int x1, .int x2, .int (((x1 * 5) + (imin x2 (3 : Int32)))), .int 1] [] h) ∧ ((zget h (some 1000002) ((x1 * 5) + (imin x2 (3 : Int32)))).toInt ≤ (zI h a 9).toInt → ((zgok h (some 1000003)) ∧ (((zget h (some 1000003) ((x1 * 5) + (imin x2 (3 : Int32)))).toInt < (zI h a 9).toInt → Z l G mX5_weigh d Q k n 84 [va_rf (some a), .int x1, .int x2, .int (((x1 * 5) + (imin x2 (3 : Int32)))), .int 1] [] h) ∧ ((zI h a 9).toInt ≤ (zget h (some 1000003) ((x1 * 5) + (imin x2 (3 : Int32)))).toInt → Z l G mX5_weigh d Q k n 84 [va_rf (some a), .int x1, .int x2, .int (((x1 * 5) + (imin x2 (3 : Int32)))), .int 1] [] h))))))))))))))) :
    Z l G mX5_weigh d Q k n 0 [va_rf (some a), .int x1, .int x2, zU, zU] [] h := by
  refine z_iloadn dX5_weigh_0 rfl rfl ?_
  refine z_iconst (v := 5) dX5_weigh_1 (by decide) ?_
  refine z_imul dX5_weigh_2 ?_
  refine z_iloadn dX5_weigh_3 rfl rfl ?_
  refine z_iloadn dX5_weigh_4 rfl rfl ?_
  refine z_iconst (v := 3) dX5_weigh_5 (by decide) ?_
  refine z_icmp_ne (t := 13) dX5_weigh_6 (by decide) (fun c1 => ?_) (fun c2 => ?_)
  · have hw3 := hw.1 c1
    refine z_iconst (v := 4) dX5_weigh_13 (by decide) ?_
    refine z_min dX5_weigh_14 w881 w882 w186 w883 (by omega) (Nat.le_of_ble_eq_true rfl) ?_
    show Z l G _ d Q k n 17 _ (.int ((imin x2 (4 : Int32))) :: .int ((x1 * 5)) :: []) _
    refine z_iadd dX5_weigh_17 ?_
    refine z_istoren (L' := [va_rf (some a), .int x1, .int x2, .int (((x1 * 5) + (imin x2 (4 : Int32)))), zU]) dX5_weigh_18 rfl (by decide) rfl ?_
    refine z_iloadn dX5_weigh_19 rfl rfl ?_
    refine z_iconst (v := 4) dX5_weigh_20 (by decide) ?_
    refine z_icmp_ne (t := 48) dX5_weigh_21 (by decide) (fun c5 => ?_) (fun c6 => ?_)
    · have hw7 := hw3.1 c5
      exact hw7
    · have hw8 := hw3.2 c6
      refine z_iloadn dX5_weigh_24 rfl rfl ?_
      refine z_iconst (v := 1) dX5_weigh_25 (by decide) ?_
      refine z_icmp_ne (t := 48) dX5_weigh_26 (by decide) (fun c9 => ?_) (fun c10 => ?_)
      · have hw11 := hw8.1 c9
        exact hw11
      · have hw12 := hw8.2 c10
        refine z_aloadn dX5_weigh_29 rfl rfl ?_
        refine z_getI (j := 9) zc5 dX5_weigh_30 (ha.k 0 rfl) (ha.lt 0 rfl) (by decide) rfl w447 ?_
        refine z_aloadn dX5_weigh_33 rfl rfl ?_
        refine z_getRq (j := 10) zc5 dX5_weigh_34 (ha.k 0 rfl) (ha.lt 0 rfl) (by decide) rfl w448 (ha.r 24 rfl) ?_
        refine z_iconst (v := 0) dX5_weigh_37 (by decide) ?_
        refine z_callS (h := h) (S := [.int (zI h a 9)]) (M := mX5_weigh) (As := [va_rf (some (a + 25)), .int 0]) eX10_get w778 (Or.inr ⟨_, w777⟩) dX5_weigh_38 rfl (by omega) (Nat.le_of_ble_eq_true rfl) (c_X10_get l G h (some (a + 25)) (0 : Int32) (zgok_lo (ha.w 25 rfl) (by decide))) (fun v13 g14 q15 => ?_)
        obtain ⟨rfl, q15⟩ := q15
        replace q15 := q15.symm
        subst q15
        show Z l G _ d Q k n 41 _ (.int (zget h (some (a + 25)) (0 : Int32)) :: .int (zI h a 9) :: []) _
        refine z_icmp_ne (t := 48) dX5_weigh_41 (by decide) (fun c16 => ?_) (fun c17 => ?_)
        · have hw18 := hw12.1 c16
          exact hw18
        · have hw19 := hw12.2 c17
          refine z_iconst (v := 1) dX5_weigh_44 (by decide) ?_
          refine z_goto (t := 49) dX5_weigh_45 (by decide) ?_
          refine z_istore (L' := [va_rf (some a), .int x1, .int x2, .int (((x1 * 5) + (imin x2 (4 : Int32)))), .int 1]) dX5_weigh_49 (by decide) rfl ?_
          refine z_aloadn dX5_weigh_51 rfl rfl ?_
          refine z_getI (j := 9) zc5 dX5_weigh_52 (ha.k 0 rfl) (ha.lt 0 rfl) (by decide) rfl w447 ?_
          refine z_gets (i := 2) (fun _ _ q => q.2.2.1) (by decide) dX5_weigh_55 w884 ?_
          refine z_iloadn dX5_weigh_58 rfl rfl ?_
          have hw20 := hw19.2
          refine z_callS (h := h) (S := [.int (zI h a 9)]) (M := mX5_weigh) (As := [va_rf (some 1000002), .int (((x1 * 5) + (imin x2 (4 : Int32))))]) eX10_get w778 (Or.inr ⟨_, w777⟩) dX5_weigh_59 rfl (by omega) (Nat.le_of_ble_eq_true rfl) (c_X10_get l G h (some 1000002) ((x1 * 5) + (imin x2 (4 : Int32))) hw19.1) (fun v21 g22 q23 => ?_)
          obtain ⟨rfl, q23⟩ := q23
          replace q23 := q23.symm
          subst q23
          show Z l G _ d Q k n 62 _ (.int (zget h (some 1000002) ((x1 * 5) + (imin x2 (4 : Int32)))) :: .int (zI h a 9) :: []) _
          refine z_icmp_lt (t := 84) dX5_weigh_62 (by decide) (fun c24 => ?_) (fun c25 => ?_)
          · have hw26 := hw20.1 c24
            exact hw26
          · have hw27 := hw20.2 c25
            refine z_aloadn dX5_weigh_65 rfl rfl ?_
            refine z_getI (j := 9) zc5 dX5_weigh_66 (ha.k 0 rfl) (ha.lt 0 rfl) (by decide) rfl w447 ?_
            refine z_gets (i := 3) (fun _ _ q => q.2.2.2.1) (by decide) dX5_weigh_69 w886 ?_
            refine z_iloadn dX5_weigh_72 rfl rfl ?_
            have hw28 := hw27.2
            refine z_callS (h := h) (S := [.int (zI h a 9)]) (M := mX5_weigh) (As := [va_rf (some 1000003), .int (((x1 * 5) + (imin x2 (4 : Int32))))]) eX10_get w778 (Or.inr ⟨_, w777⟩) dX5_weigh_73 rfl (by omega) (Nat.le_of_ble_eq_true rfl) (c_X10_get l G h (some 1000003) ((x1 * 5) + (imin x2 (4 : Int32))) hw27.1) (fun v29 g30 q31 => ?_)
            obtain ⟨rfl, q31⟩ := q31
            replace q31 := q31.symm
            subst q31
            show Z l G _ d Q k n 76 _ (.int (zget h (some 1000003) ((x1 * 5) + (imin x2 (4 : Int32)))) :: .int (zI h a 9) :: []) _
            refine z_icmp_gt (t := 84) dX5_weigh_76 (by decide) (fun c32 => ?_) (fun c33 => ?_)
            · have hw34 := hw28.1 c32
              exact hw34
            · have hw35 := hw28.2 c33
              refine z_iload dX5_weigh_79 rfl ?_
              refine z_if_eq (t := 89) dX5_weigh_81 (by decide) (fun c36 => absurd c36 (by decide)) (fun _ => ?_)
              exact hw35
  · have hw4 := hw.2 c2
    refine z_iconst (v := 3) dX5_weigh_9 (by decide) ?_
    refine z_goto (t := 14) dX5_weigh_10 (by decide) ?_
    refine z_min dX5_weigh_14 w881 w882 w186 w883 (by omega) (Nat.le_of_ble_eq_true rfl) ?_
    show Z l G _ d Q k n 17 _ (.int ((imin x2 (3 : Int32))) :: .int ((x1 * 5)) :: []) _
    refine z_iadd dX5_weigh_17 ?_
    refine z_istoren (L' := [va_rf (some a), .int x1, .int x2, .int (((x1 * 5) + (imin x2 (3 : Int32)))), zU]) dX5_weigh_18 rfl (by decide) rfl ?_
    refine z_iloadn dX5_weigh_19 rfl rfl ?_
    refine z_iconst (v := 4) dX5_weigh_20 (by decide) ?_
    refine z_icmp_ne (t := 48) dX5_weigh_21 (by decide) (fun c37 => ?_) (fun c38 => ?_)
    · have hw39 := hw4.1 c37
      exact hw39
    · have hw40 := hw4.2 c38
      refine z_iloadn dX5_weigh_24 rfl rfl ?_
      refine z_iconst (v := 1) dX5_weigh_25 (by decide) ?_
      refine z_icmp_ne (t := 48) dX5_weigh_26 (by decide) (fun c41 => ?_) (fun c42 => ?_)
      · have hw43 := hw40.1 c41
        exact hw43
      · have hw44 := hw40.2 c42
        refine z_aloadn dX5_weigh_29 rfl rfl ?_
        refine z_getI (j := 9) zc5 dX5_weigh_30 (ha.k 0 rfl) (ha.lt 0 rfl) (by decide) rfl w447 ?_
        refine z_aloadn dX5_weigh_33 rfl rfl ?_
        refine z_getRq (j := 10) zc5 dX5_weigh_34 (ha.k 0 rfl) (ha.lt 0 rfl) (by decide) rfl w448 (ha.r 24 rfl) ?_
        refine z_iconst (v := 0) dX5_weigh_37 (by decide) ?_
        refine z_callS (h := h) (S := [.int (zI h a 9)]) (M := mX5_weigh) (As := [va_rf (some (a + 25)), .int 0]) eX10_get w778 (Or.inr ⟨_, w777⟩) dX5_weigh_38 rfl (by omega) (Nat.le_of_ble_eq_true rfl) (c_X10_get l G h (some (a + 25)) (0 : Int32) (zgok_lo (ha.w 25 rfl) (by decide))) (fun v45 g46 q47 => ?_)
        obtain ⟨rfl, q47⟩ := q47
        replace q47 := q47.symm
        subst q47
        show Z l G _ d Q k n 41 _ (.int (zget h (some (a + 25)) (0 : Int32)) :: .int (zI h a 9) :: []) _
        refine z_icmp_ne (t := 48) dX5_weigh_41 (by decide) (fun c48 => ?_) (fun c49 => ?_)
        · have hw50 := hw44.1 c48
          exact hw50
        · have hw51 := hw44.2 c49
          refine z_iconst (v := 1) dX5_weigh_44 (by decide) ?_
          refine z_goto (t := 49) dX5_weigh_45 (by decide) ?_
          refine z_istore (L' := [va_rf (some a), .int x1, .int x2, .int (((x1 * 5) + (imin x2 (3 : Int32)))), .int 1]) dX5_weigh_49 (by decide) rfl ?_
          refine z_aloadn dX5_weigh_51 rfl rfl ?_
          refine z_getI (j := 9) zc5 dX5_weigh_52 (ha.k 0 rfl) (ha.lt 0 rfl) (by decide) rfl w447 ?_
          refine z_gets (i := 2) (fun _ _ q => q.2.2.1) (by decide) dX5_weigh_55 w884 ?_
          refine z_iloadn dX5_weigh_58 rfl rfl ?_
          have hw52 := hw51.2
          refine z_callS (h := h) (S := [.int (zI h a 9)]) (M := mX5_weigh) (As := [va_rf (some 1000002), .int (((x1 * 5) + (imin x2 (3 : Int32))))]) eX10_get w778 (Or.inr ⟨_, w777⟩) dX5_weigh_59 rfl (by omega) (Nat.le_of_ble_eq_true rfl) (c_X10_get l G h (some 1000002) ((x1 * 5) + (imin x2 (3 : Int32))) hw51.1) (fun v53 g54 q55 => ?_)
          obtain ⟨rfl, q55⟩ := q55
          replace q55 := q55.symm
          subst q55
          show Z l G _ d Q k n 62 _ (.int (zget h (some 1000002) ((x1 * 5) + (imin x2 (3 : Int32)))) :: .int (zI h a 9) :: []) _
          refine z_icmp_lt (t := 84) dX5_weigh_62 (by decide) (fun c56 => ?_) (fun c57 => ?_)
          · have hw58 := hw52.1 c56
            exact hw58
          · have hw59 := hw52.2 c57
            refine z_aloadn dX5_weigh_65 rfl rfl ?_
            refine z_getI (j := 9) zc5 dX5_weigh_66 (ha.k 0 rfl) (ha.lt 0 rfl) (by decide) rfl w447 ?_
            refine z_gets (i := 3) (fun _ _ q => q.2.2.2.1) (by decide) dX5_weigh_69 w886 ?_
            refine z_iloadn dX5_weigh_72 rfl rfl ?_
            have hw60 := hw59.2
            refine z_callS (h := h) (S := [.int (zI h a 9)]) (M := mX5_weigh) (As := [va_rf (some 1000003), .int (((x1 * 5) + (imin x2 (3 : Int32))))]) eX10_get w778 (Or.inr ⟨_, w777⟩) dX5_weigh_73 rfl (by omega) (Nat.le_of_ble_eq_true rfl) (c_X10_get l G h (some 1000003) ((x1 * 5) + (imin x2 (3 : Int32))) hw59.1) (fun v61 g62 q63 => ?_)
            obtain ⟨rfl, q63⟩ := q63
            replace q63 := q63.symm
            subst q63
            show Z l G _ d Q k n 76 _ (.int (zget h (some 1000003) ((x1 * 5) + (imin x2 (3 : Int32)))) :: .int (zI h a 9) :: []) _
            refine z_icmp_gt (t := 84) dX5_weigh_76 (by decide) (fun c64 => ?_) (fun c65 => ?_)
            · have hw66 := hw60.1 c64
              exact hw66
            · have hw67 := hw60.2 c65
              refine z_iload dX5_weigh_79 rfl ?_
              refine z_if_eq (t := 89) dX5_weigh_81 (by decide) (fun c68 => absurd c68 (by decide)) (fun _ => ?_)
              exact hw67

theorem sX5_weigh_48 {l : Launch} {G : zG} {d : Nat} {Q : Option Value → zH → Prop} {k n : Nat} {h : zH} (a : Nat) (x1 : Int32) (x2 : Int32) (x3 : Int32) (u4 : Value) (ha : lo5 h a) (hd9 : 2 ≤ d)
    (hw : ((zgok h (some 1000002)) ∧ (((zI h a 9).toInt < (zget h (some 1000002) x3).toInt → Z l G mX5_weigh d Q k n 84 [va_rf (some a), .int x1, .int x2, .int x3, .int 0] [] h) ∧ ((zget h (some 1000002) x3).toInt ≤ (zI h a 9).toInt → ((zgok h (some 1000003)) ∧ (((zget h (some 1000003) x3).toInt < (zI h a 9).toInt → Z l G mX5_weigh d Q k n 84 [va_rf (some a), .int x1, .int x2, .int x3, .int 0] [] h) ∧ ((zI h a 9).toInt ≤ (zget h (some 1000003) x3).toInt → Z l G mX5_weigh d Q k n 89 [va_rf (some a), .int x1, .int x2, .int x3, .int 0] [] h))))))) :
    Z l G mX5_weigh d Q k n 48 [va_rf (some a), .int x1, .int x2, .int x3, u4] [] h := by
  refine z_iconst (v := 0) dX5_weigh_48 (by decide) ?_
  refine z_istore (L' := [va_rf (some a), .int x1, .int x2, .int x3, .int 0]) dX5_weigh_49 (by decide) rfl ?_
  refine z_aloadn dX5_weigh_51 rfl rfl ?_
  refine z_getI (j := 9) zc5 dX5_weigh_52 (ha.k 0 rfl) (ha.lt 0 rfl) (by decide) rfl w447 ?_
  refine z_gets (i := 2) (fun _ _ q => q.2.2.1) (by decide) dX5_weigh_55 w884 ?_
  refine z_iloadn dX5_weigh_58 rfl rfl ?_
  have hw1 := hw.2
  refine z_callS (h := h) (S := [.int (zI h a 9)]) (M := mX5_weigh) (As := [va_rf (some 1000002), .int x3]) eX10_get w778 (Or.inr ⟨_, w777⟩) dX5_weigh_59 rfl (by omega) (Nat.le_of_ble_eq_true rfl) (c_X10_get l G h (some 1000002) x3 hw.1) (fun v2 g3 q4 => ?_)
  obtain ⟨rfl, q4⟩ := q4
  replace q4 := q4.symm
  subst q4
  show Z l G _ d Q k n 62 _ (.int (zget h (some 1000002) x3) :: .int (zI h a 9) :: []) _
  refine z_icmp_lt (t := 84) dX5_weigh_62 (by decide) (fun c5 => ?_) (fun c6 => ?_)
  · have hw7 := hw1.1 c5
    exact hw7
  · have hw8 := hw1.2 c6
    refine z_aloadn dX5_weigh_65 rfl rfl ?_
    refine z_getI (j := 9) zc5 dX5_weigh_66 (ha.k 0 rfl) (ha.lt 0 rfl) (by decide) rfl w447 ?_
    refine z_gets (i := 3) (fun _ _ q => q.2.2.2.1) (by decide) dX5_weigh_69 w886 ?_
    refine z_iloadn dX5_weigh_72 rfl rfl ?_
    have hw9 := hw8.2
    refine z_callS (h := h) (S := [.int (zI h a 9)]) (M := mX5_weigh) (As := [va_rf (some 1000003), .int x3]) eX10_get w778 (Or.inr ⟨_, w777⟩) dX5_weigh_73 rfl (by omega) (Nat.le_of_ble_eq_true rfl) (c_X10_get l G h (some 1000003) x3 hw8.1) (fun v10 g11 q12 => ?_)
    obtain ⟨rfl, q12⟩ := q12
    replace q12 := q12.symm
    subst q12
    show Z l G _ d Q k n 76 _ (.int (zget h (some 1000003) x3) :: .int (zI h a 9) :: []) _
    refine z_icmp_gt (t := 84) dX5_weigh_76 (by decide) (fun c13 => ?_) (fun c14 => ?_)
    · have hw15 := hw9.1 c13
      exact hw15
    · have hw16 := hw9.2 c14
      refine z_iload dX5_weigh_79 rfl ?_
      refine z_if_eq (t := 89) dX5_weigh_81 (by decide) (fun _ => ?_) (fun c17 => absurd c17 (by decide))
      exact hw16

theorem sX5_weigh_84 {l : Launch} {G : zG} {d : Nat} {Q : Option Value → zH → Prop} {k n : Nat} {h : zH} (a : Nat) (x1 : Int32) (x2 : Int32) (u3 : Value) (u4 : Value) (ha : lo5 h a) (hd9 : 2 ≤ d)
    (hw : (∃ P1, CTv l G YX5_note 1 [va_rf (some a), .int 2] h P1 ∧ ∀ (I4 : Nat → Nat → Int32), P1 I4 → Z l G mX5_weigh d Q k n 89 [va_rf (some a), .int x1, .int x2, u3, u4] [] (I4, h.2))) :
    Z l G mX5_weigh d Q k n 84 [va_rf (some a), .int x1, .int x2, u3, u4] [] h := by
  refine z_aloadn dX5_weigh_84 rfl rfl ?_
  refine z_iconst (v := 2) dX5_weigh_85 (by decide) ?_
  obtain ⟨P1, ct2, hw3⟩ := hw
  refine z_callV (h := h) (S := []) (a := a) (M := mX5_weigh) (As := [.int 2]) zc5 rfl eX5_note w873 w12 (Or.inl w871) dX5_weigh_86 (ha.k 0 rfl) (ha.lt 0 rfl) rfl (by omega) (Nat.le_of_ble_eq_true rfl) ct2 (fun v8 g9 q5 => ?_)
  obtain ⟨I4, rfl, rfl, q5⟩ := q5
  have hw7 := hw3 I4 q5
  show Z l G _ d Q k n 89 _ ([]) _
  exact hw7

theorem sX5_weigh_89 {l : Launch} {G : zG} {d : Nat} {Q : Option Value → zH → Prop} {k n : Nat} {h : zH} (a : Nat) (x1 : Int32) (x2 : Int32) (u3 : Value) (u4 : Value) (ha : lo5 h a) (hd9 : 2 ≤ d)
    (hw : ((¬ x1 = 3 → Z l G mX5_weigh d Q k n 105 [va_rf (some a), .int x1, .int x2, u3, u4] [] h) ∧ (x1 = 3 → ((¬ x2 = 27 → Z l G mX5_weigh d Q k n 105 [va_rf (some a), .int x1, .int x2, u3, u4] [] h) ∧ (x2 = 27 → (∃ P9, CTv l G YX5_note 1 [va_rf (some a), .int 3] h P9 ∧ ∀ (I12 : Nat → Nat → Int32), P9 I12 → Z l G mX5_weigh d Q k n 105 [va_rf (some a), .int x1, .int x2, u3, u4] [] (I12, h.2))))))) :
    Z l G mX5_weigh d Q k n 89 [va_rf (some a), .int x1, .int x2, u3, u4] [] h := by
  refine z_iloadn dX5_weigh_89 rfl rfl ?_
  refine z_iconst (v := 3) dX5_weigh_90 (by decide) ?_
  refine z_icmp_ne (t := 105) dX5_weigh_91 (by decide) (fun c1 => ?_) (fun c2 => ?_)
  · have hw3 := hw.1 c1
    exact hw3
  · have hw4 := hw.2 c2
    refine z_iloadn dX5_weigh_94 rfl rfl ?_
    refine z_bipush (v := 27) dX5_weigh_95 (by decide) ?_
    refine z_icmp_ne (t := 105) dX5_weigh_97 (by decide) (fun c5 => ?_) (fun c6 => ?_)
    · have hw7 := hw4.1 c5
      exact hw7
    · have hw8 := hw4.2 c6
      refine z_aloadn dX5_weigh_100 rfl rfl ?_
      refine z_iconst (v := 3) dX5_weigh_101 (by decide) ?_
      obtain ⟨P9, ct10, hw11⟩ := hw8
      refine z_callV (h := h) (S := []) (a := a) (M := mX5_weigh) (As := [.int 3]) zc5 rfl eX5_note w873 w12 (Or.inl w871) dX5_weigh_102 (ha.k 0 rfl) (ha.lt 0 rfl) rfl (by omega) (Nat.le_of_ble_eq_true rfl) ct10 (fun v16 g17 q13 => ?_)
      obtain ⟨I12, rfl, rfl, q13⟩ := q13
      have hw15 := hw11 I12 q13
      show Z l G _ d Q k n 105 _ ([]) _
      exact hw15

theorem sX5_weigh_105 {l : Launch} {G : zG} {d : Nat} {Q : Option Value → zH → Prop} {k n : Nat} {h : zH} (a : Nat) (x1 : Int32) (x2 : Int32) (u3 : Value) (u4 : Value) (ha : lo5 h a) (hd9 : 2 ≤ d)
    (hw : Q none h) :
    Z l G mX5_weigh d Q k n 105 [va_rf (some a), .int x1, .int x2, u3, u4] [] h := by
  exact z_ret (v := none) dX5_weigh_105 rfl rfl hw

theorem kX5_weigh {l : Launch} {G : zG} {d : Nat} {Q : Option Value → zH → Prop} {k n : Nat} {h : zH} (a : Nat) (x1 : Int32) (x2 : Int32) (hz : Z l G mX5_weigh d Q k n 0 [va_rf (some a), .int x1, .int x2, zU, zU] [] h) : CT l G YX5_weigh d k n [va_rf (some a), .int x1, .int x2] h Q :=
  CT.of (by decide +kernel) (fun t e => by cases e) (by exact Nat.le_of_ble_eq_true rfl) (by exact hz)

theorem sX5_tell_0 {l : Launch} {G : zG} {d : Nat} {Q : Option Value → zH → Prop} {k n : Nat} {h : zH} (a : Nat) (x1 : Int32) (x2 : Int32) (ha : lo5 h a) (hd9 : 3 ≤ d)
    (hw : ((x1.toInt < 0 ∨ 9 < x1.toInt → (∃ P12, CTv l G YX5_tellSign 2 [va_rf (some a)] h P12 ∧ ∀ (I15 : Nat → Nat → Int32), P12 I15 → Q none (I15, h.2))) ∧ (x1.toInt = 0 → (∀ I22 : Nat → Nat → Int32, I22 = (zwI h (a + 1) 0 (zget h (some (a + 25)) (0 : Int32))).1 → (∀ I25 : Nat → Nat → Int32, I25 = (zwI (I22, h.2) (a + 1) 1 (zget h (some (a + 25)) (1 : Int32))).1 → Q none (I25, h.2)))) ∧ (x1.toInt = 1 → (∀ I29 : Nat → Nat → Int32, I29 = (zwI h (a + 1) 2 (zget h (some (a + 25)) (0 : Int32))).1 → Q none (I29, h.2))) ∧ (x1.toInt = 2 → (∃ P36, CTv l G YX5_tellFoot 2 [va_rf (some a), .int (zget h (some (a + 25)) (0 : Int32)), .int (zget h (some (a + 25)) (1 : Int32)), .int (zget h (some (a + 25)) (2 : Int32)), .int (zget h (some (a + 25)) (3 : Int32))] h P36 ∧ ∀ (I39 : Nat → Nat → Int32), P36 I39 → Q none (I39, h.2))) ∧ (x1.toInt = 3 → (∃ P46, CTv l G YX5_tellWalk 2 [va_rf (some a), .int (zget h (some (a + 25)) (0 : Int32)), .int (zget h (some (a + 25)) (1 : Int32)), .int (zget h (some (a + 25)) (2 : Int32)), .int ((x2 - 3))] h P46 ∧ ∀ (I49 : Nat → Nat → Int32), P46 I49 → Q none (I49, h.2))) ∧ (x1.toInt = 4 → (∃ P56, CTv l G YX5_tellCarry 2 [va_rf (some a), .int (zget h (some (a + 25)) (0 : Int32)), .int (zget h (some (a + 25)) (1 : Int32))] h P56 ∧ ∀ (I59 : Nat → Nat → Int32), P56 I59 → Q none (I59, h.2))) ∧ (x1.toInt = 5 → (∃ P66, CTv l G YX5_tellManner 2 [va_rf (some a), .int (zget h (some (a + 25)) (0 : Int32)), .int 0] h P66 ∧ ∀ (I69 : Nat → Nat → Int32), P66 I69 → Q none (I69, h.2))) ∧ (x1.toInt = 6 → (∃ P76, CTv l G YX5_tellManner 2 [va_rf (some a), .int (zget h (some (a + 25)) (0 : Int32)), .int 1] h P76 ∧ ∀ (I79 : Nat → Nat → Int32), P76 I79 → Q none (I79, h.2))) ∧ (x1.toInt = 7 → (∃ P86, CTv l G YX5_tellManner 2 [va_rf (some a), .int (zget h (some (a + 25)) (0 : Int32)), .int 2] h P86 ∧ ∀ (I89 : Nat → Nat → Int32), P86 I89 → Q none (I89, h.2))) ∧ (x1.toInt = 8 → (∀ I99 : Nat → Nat → Int32, I99 = (zput h (some (a + 6)) (zget h (some (a + 25)) (0 : Int32)) (1 : Int32)).1 → Q none (I99, h.2))) ∧ (x1.toInt = 9 → (∃ P103, CTv l G YX5_tellErrand 2 [va_rf (some a), .int (zget h (some (a + 25)) (0 : Int32)), .int (zget h (some (a + 25)) (1 : Int32)), .int (zget h (some (a + 25)) (2 : Int32))] h P103 ∧ ∀ (I106 : Nat → Nat → Int32), P103 I106 → Q none (I106, h.2))))) :
    Z l G mX5_tell d Q k n 0 [va_rf (some a), .int x1, .int x2, zU, zU, zU] [] h := by
  refine z_aloadn dX5_tell_0 rfl rfl ?_
  refine z_getRq (j := 10) zc5 dX5_tell_1 (ha.k 0 rfl) (ha.lt 0 rfl) (by decide) rfl w448 (ha.r 24 rfl) ?_
  refine z_iconst (v := 0) dX5_tell_4 (by decide) ?_
  refine z_callS (h := h) (S := []) (M := mX5_tell) (As := [va_rf (some (a + 25)), .int 0]) eX10_get w778 (Or.inr ⟨_, w777⟩) dX5_tell_5 rfl (by omega) (Nat.le_of_ble_eq_true rfl) (c_X10_get l G h (some (a + 25)) (0 : Int32) (zgok_lo (ha.w 25 rfl) (by decide))) (fun v1 g2 q3 => ?_)
  obtain ⟨rfl, q3⟩ := q3
  replace q3 := q3.symm
  subst q3
  show Z l G _ d Q k n 8 _ (.int (zget h (some (a + 25)) (0 : Int32)) :: []) _
  refine z_istoren (L' := [va_rf (some a), .int x1, .int x2, .int (zget h (some (a + 25)) (0 : Int32)), zU, zU]) dX5_tell_8 rfl (by decide) rfl ?_
  refine z_aloadn dX5_tell_9 rfl rfl ?_
  refine z_getRq (j := 10) zc5 dX5_tell_10 (ha.k 0 rfl) (ha.lt 0 rfl) (by decide) rfl w448 (ha.r 24 rfl) ?_
  refine z_iconst (v := 1) dX5_tell_13 (by decide) ?_
  refine z_callS (h := h) (S := []) (M := mX5_tell) (As := [va_rf (some (a + 25)), .int 1]) eX10_get w778 (Or.inr ⟨_, w777⟩) dX5_tell_14 rfl (by omega) (Nat.le_of_ble_eq_true rfl) (c_X10_get l G h (some (a + 25)) (1 : Int32) (zgok_lo (ha.w 25 rfl) (by decide))) (fun v4 g5 q6 => ?_)
  obtain ⟨rfl, q6⟩ := q6
  replace q6 := q6.symm
  subst q6
  show Z l G _ d Q k n 17 _ (.int (zget h (some (a + 25)) (1 : Int32)) :: []) _
  refine z_istore (L' := [va_rf (some a), .int x1, .int x2, .int (zget h (some (a + 25)) (0 : Int32)), .int (zget h (some (a + 25)) (1 : Int32)), zU]) dX5_tell_17 (by decide) rfl ?_
  refine z_aloadn dX5_tell_19 rfl rfl ?_
  refine z_getRq (j := 10) zc5 dX5_tell_20 (ha.k 0 rfl) (ha.lt 0 rfl) (by decide) rfl w448 (ha.r 24 rfl) ?_
  refine z_iconst (v := 2) dX5_tell_23 (by decide) ?_
  refine z_callS (h := h) (S := []) (M := mX5_tell) (As := [va_rf (some (a + 25)), .int 2]) eX10_get w778 (Or.inr ⟨_, w777⟩) dX5_tell_24 rfl (by omega) (Nat.le_of_ble_eq_true rfl) (c_X10_get l G h (some (a + 25)) (2 : Int32) (zgok_lo (ha.w 25 rfl) (by decide))) (fun v7 g8 q9 => ?_)
  obtain ⟨rfl, q9⟩ := q9
  replace q9 := q9.symm
  subst q9
  show Z l G _ d Q k n 27 _ (.int (zget h (some (a + 25)) (2 : Int32)) :: []) _
  refine z_istore (L' := [va_rf (some a), .int x1, .int x2, .int (zget h (some (a + 25)) (0 : Int32)), .int (zget h (some (a + 25)) (1 : Int32)), .int (zget h (some (a + 25)) (2 : Int32))]) dX5_tell_27 (by decide) rfl ?_
  refine z_iloadn dX5_tell_29 rfl rfl ?_
  refine z_tswc (td := 214) (ts := [84, 104, 115, 135, 150, 160, 169, 178, 187, 202]) dX5_tell_30 (by decide) (by decide) (by decide) (fun c10 => ?_) ⟨fun c10k0 => ?_, fun c10k1 => ?_, fun c10k2 => ?_, fun c10k3 => ?_, fun c10k4 => ?_, fun c10k5 => ?_, fun c10k6 => ?_, fun c10k7 => ?_, fun c10k8 => ?_, fun c10k9 => ?_, trivial⟩
  · have hw11 := hw.1 c10
    refine z_aloadn dX5_tell_214 rfl rfl ?_
    obtain ⟨P12, ct13, hw14⟩ := hw11
    refine z_callV (h := h) (S := []) (a := a) (M := mX5_tell) (As := []) zc5 rfl eX5_tellSign w922 w21 (Or.inl w920) dX5_tell_215 (ha.k 0 rfl) (ha.lt 0 rfl) rfl (by omega) (Nat.le_of_ble_eq_true rfl) ct13 (fun v19 g20 q16 => ?_)
    obtain ⟨I15, rfl, rfl, q16⟩ := q16
    have hw18 := hw14 I15 q16
    show Z l G _ d Q k n 218 _ ([]) _
    exact z_ret (v := none) dX5_tell_218 rfl rfl hw18
  · have hw21 := hw.2.1 c10k0
    refine z_aloadn dX5_tell_84 rfl rfl ?_
    refine z_getRq (j := 0) zc5 dX5_tell_85 (ha.k 0 rfl) (ha.lt 0 rfl) (by decide) rfl w434 (ha.r 17 rfl) ?_
    refine z_iloadn dX5_tell_88 rfl rfl ?_
    refine z_putI (j := 0) zc1 dX5_tell_89 (ha.k 1 rfl) (ha.lt 1 rfl) (by decide) rfl rfl (Or.inl rfl) (Or.inr ⟨_, w304⟩) ?_
    refine z_nm (r := h.2) rfl (fun I22 e23 => ?_)
    have hw24 := hw21 I22 e23
    refine z_aloadn dX5_tell_92 rfl rfl ?_
    refine z_getRq (j := 0) zc5 dX5_tell_93 (ha.k 0 rfl) (ha.lt 0 rfl) (by decide) rfl w434 (ha.r 17 rfl) ?_
    refine z_iload dX5_tell_96 rfl ?_
    refine z_putI (j := 1) zc1 dX5_tell_98 (ha.k 1 rfl) (ha.lt 1 rfl) (by decide) rfl rfl (Or.inl rfl) (Or.inr ⟨_, w307⟩) ?_
    refine z_nm (r := h.2) rfl (fun I25 e26 => ?_)
    have hw27 := hw24 I25 e26
    refine z_goto (t := 218) dX5_tell_101 (by decide) ?_
    exact z_ret (v := none) dX5_tell_218 rfl rfl hw27
  · have hw28 := hw.2.2.1 c10k1
    refine z_aloadn dX5_tell_104 rfl rfl ?_
    refine z_getRq (j := 0) zc5 dX5_tell_105 (ha.k 0 rfl) (ha.lt 0 rfl) (by decide) rfl w434 (ha.r 17 rfl) ?_
    refine z_iloadn dX5_tell_108 rfl rfl ?_
    refine z_putI (j := 2) zc1 dX5_tell_109 (ha.k 1 rfl) (ha.lt 1 rfl) (by decide) rfl rfl (Or.inl rfl) (Or.inr ⟨_, w311⟩) ?_
    refine z_nm (r := h.2) rfl (fun I29 e30 => ?_)
    have hw31 := hw28 I29 e30
    refine z_goto (t := 218) dX5_tell_112 (by decide) ?_
    exact z_ret (v := none) dX5_tell_218 rfl rfl hw31
  · have hw32 := hw.2.2.2.1 c10k2
    refine z_aloadn dX5_tell_115 rfl rfl ?_
    refine z_iloadn dX5_tell_116 rfl rfl ?_
    refine z_iload dX5_tell_117 rfl ?_
    refine z_iload dX5_tell_119 rfl ?_
    refine z_aloadn dX5_tell_121 rfl rfl ?_
    refine z_getRq (j := 10) zc5 dX5_tell_122 (ha.k 0 rfl) (ha.lt 0 rfl) (by decide) rfl w448 (ha.r 24 rfl) ?_
    refine z_iconst (v := 3) dX5_tell_125 (by decide) ?_
    refine z_callS (h := h) (S := [.int (zget h (some (a + 25)) (2 : Int32)), .int (zget h (some (a + 25)) (1 : Int32)), .int (zget h (some (a + 25)) (0 : Int32)), va_rf (some a)]) (M := mX5_tell) (As := [va_rf (some (a + 25)), .int 3]) eX10_get w778 (Or.inr ⟨_, w777⟩) dX5_tell_126 rfl (by omega) (Nat.le_of_ble_eq_true rfl) (c_X10_get l G h (some (a + 25)) (3 : Int32) (zgok_lo (ha.w 25 rfl) (by decide))) (fun v33 g34 q35 => ?_)
    obtain ⟨rfl, q35⟩ := q35
    replace q35 := q35.symm
    subst q35
    show Z l G _ d Q k n 129 _ (.int (zget h (some (a + 25)) (3 : Int32)) :: .int (zget h (some (a + 25)) (2 : Int32)) :: .int (zget h (some (a + 25)) (1 : Int32)) :: .int (zget h (some (a + 25)) (0 : Int32)) :: va_rf (some a) :: []) _
    obtain ⟨P36, ct37, hw38⟩ := hw32
    refine z_callV (h := h) (S := []) (a := a) (M := mX5_tell) (As := [.int (zget h (some (a + 25)) (0 : Int32)), .int (zget h (some (a + 25)) (1 : Int32)), .int (zget h (some (a + 25)) (2 : Int32)), .int (zget h (some (a + 25)) (3 : Int32))]) zc5 rfl eX5_tellFoot w895 w15 (Or.inl w893) dX5_tell_129 (ha.k 0 rfl) (ha.lt 0 rfl) rfl (by omega) (Nat.le_of_ble_eq_true rfl) ct37 (fun v43 g44 q40 => ?_)
    obtain ⟨I39, rfl, rfl, q40⟩ := q40
    have hw42 := hw38 I39 q40
    show Z l G _ d Q k n 132 _ ([]) _
    refine z_goto (t := 218) dX5_tell_132 (by decide) ?_
    exact z_ret (v := none) dX5_tell_218 rfl rfl hw42
  · have hw45 := hw.2.2.2.2.1 c10k3
    refine z_aloadn dX5_tell_135 rfl rfl ?_
    refine z_iloadn dX5_tell_136 rfl rfl ?_
    refine z_iload dX5_tell_137 rfl ?_
    refine z_iload dX5_tell_139 rfl ?_
    refine z_iloadn dX5_tell_141 rfl rfl ?_
    refine z_iconst (v := 3) dX5_tell_142 (by decide) ?_
    refine z_isub dX5_tell_143 ?_
    obtain ⟨P46, ct47, hw48⟩ := hw45
    refine z_callV (h := h) (S := []) (a := a) (M := mX5_tell) (As := [.int (zget h (some (a + 25)) (0 : Int32)), .int (zget h (some (a + 25)) (1 : Int32)), .int (zget h (some (a + 25)) (2 : Int32)), .int ((x2 - 3))]) zc5 rfl eX5_tellWalk w903 w17 (Or.inl w901) dX5_tell_144 (ha.k 0 rfl) (ha.lt 0 rfl) rfl (by omega) (Nat.le_of_ble_eq_true rfl) ct47 (fun v53 g54 q50 => ?_)
    obtain ⟨I49, rfl, rfl, q50⟩ := q50
    have hw52 := hw48 I49 q50
    show Z l G _ d Q k n 147 _ ([]) _
    refine z_goto (t := 218) dX5_tell_147 (by decide) ?_
    exact z_ret (v := none) dX5_tell_218 rfl rfl hw52
  · have hw55 := hw.2.2.2.2.2.1 c10k4
    refine z_aloadn dX5_tell_150 rfl rfl ?_
    refine z_iloadn dX5_tell_151 rfl rfl ?_
    refine z_iload dX5_tell_152 rfl ?_
    obtain ⟨P56, ct57, hw58⟩ := hw55
    refine z_callV (h := h) (S := []) (a := a) (M := mX5_tell) (As := [.int (zget h (some (a + 25)) (0 : Int32)), .int (zget h (some (a + 25)) (1 : Int32))]) zc5 rfl eX5_tellCarry w910 w18 (Or.inl w908) dX5_tell_154 (ha.k 0 rfl) (ha.lt 0 rfl) rfl (by omega) (Nat.le_of_ble_eq_true rfl) ct57 (fun v63 g64 q60 => ?_)
    obtain ⟨I59, rfl, rfl, q60⟩ := q60
    have hw62 := hw58 I59 q60
    show Z l G _ d Q k n 157 _ ([]) _
    refine z_goto (t := 218) dX5_tell_157 (by decide) ?_
    exact z_ret (v := none) dX5_tell_218 rfl rfl hw62
  · have hw65 := hw.2.2.2.2.2.2.1 c10k5
    refine z_aloadn dX5_tell_160 rfl rfl ?_
    refine z_iloadn dX5_tell_161 rfl rfl ?_
    refine z_iconst (v := 0) dX5_tell_162 (by decide) ?_
    obtain ⟨P66, ct67, hw68⟩ := hw65
    refine z_callV (h := h) (S := []) (a := a) (M := mX5_tell) (As := [.int (zget h (some (a + 25)) (0 : Int32)), .int 0]) zc5 rfl eX5_tellManner w914 w19 (Or.inl w912) dX5_tell_163 (ha.k 0 rfl) (ha.lt 0 rfl) rfl (by omega) (Nat.le_of_ble_eq_true rfl) ct67 (fun v73 g74 q70 => ?_)
    obtain ⟨I69, rfl, rfl, q70⟩ := q70
    have hw72 := hw68 I69 q70
    show Z l G _ d Q k n 166 _ ([]) _
    refine z_goto (t := 218) dX5_tell_166 (by decide) ?_
    exact z_ret (v := none) dX5_tell_218 rfl rfl hw72
  · have hw75 := hw.2.2.2.2.2.2.2.1 c10k6
    refine z_aloadn dX5_tell_169 rfl rfl ?_
    refine z_iloadn dX5_tell_170 rfl rfl ?_
    refine z_iconst (v := 1) dX5_tell_171 (by decide) ?_
    obtain ⟨P76, ct77, hw78⟩ := hw75
    refine z_callV (h := h) (S := []) (a := a) (M := mX5_tell) (As := [.int (zget h (some (a + 25)) (0 : Int32)), .int 1]) zc5 rfl eX5_tellManner w914 w19 (Or.inl w912) dX5_tell_172 (ha.k 0 rfl) (ha.lt 0 rfl) rfl (by omega) (Nat.le_of_ble_eq_true rfl) ct77 (fun v83 g84 q80 => ?_)
    obtain ⟨I79, rfl, rfl, q80⟩ := q80
    have hw82 := hw78 I79 q80
    show Z l G _ d Q k n 175 _ ([]) _
    refine z_goto (t := 218) dX5_tell_175 (by decide) ?_
    exact z_ret (v := none) dX5_tell_218 rfl rfl hw82
  · have hw85 := hw.2.2.2.2.2.2.2.2.1 c10k7
    refine z_aloadn dX5_tell_178 rfl rfl ?_
    refine z_iloadn dX5_tell_179 rfl rfl ?_
    refine z_iconst (v := 2) dX5_tell_180 (by decide) ?_
    obtain ⟨P86, ct87, hw88⟩ := hw85
    refine z_callV (h := h) (S := []) (a := a) (M := mX5_tell) (As := [.int (zget h (some (a + 25)) (0 : Int32)), .int 2]) zc5 rfl eX5_tellManner w914 w19 (Or.inl w912) dX5_tell_181 (ha.k 0 rfl) (ha.lt 0 rfl) rfl (by omega) (Nat.le_of_ble_eq_true rfl) ct87 (fun v93 g94 q90 => ?_)
    obtain ⟨I89, rfl, rfl, q90⟩ := q90
    have hw92 := hw88 I89 q90
    show Z l G _ d Q k n 184 _ ([]) _
    refine z_goto (t := 218) dX5_tell_184 (by decide) ?_
    exact z_ret (v := none) dX5_tell_218 rfl rfl hw92
  · have hw95 := hw.2.2.2.2.2.2.2.2.2.1 c10k8
    refine z_aloadn dX5_tell_187 rfl rfl ?_
    refine z_getRq (j := 0) zc5 dX5_tell_188 (ha.k 0 rfl) (ha.lt 0 rfl) (by decide) rfl w434 (ha.r 17 rfl) ?_
    refine z_getRNq (j := 9) zc1 dX5_tell_191 (ha.k 1 rfl) (ha.lt 1 rfl) (by decide) rfl w333 (ha.r 4 rfl) ?_
    refine z_iloadn dX5_tell_194 rfl rfl ?_
    refine z_iconst (v := 1) dX5_tell_195 (by decide) ?_
    refine z_callS (h := h) (S := []) (M := mX5_tell) (As := [va_rf (some (a + 6)), .int (zget h (some (a + 25)) (0 : Int32)), .int 1]) eX10_put w754 (Or.inr ⟨_, w888⟩) dX5_tell_196 rfl (by omega) (Nat.le_of_ble_eq_true rfl) (c_X10_put l G h (some (a + 6)) (zget h (some (a + 25)) (0 : Int32)) (1 : Int32) (zpok_lo (ha.w 6 rfl) (by decide))) (fun v96 g97 q98 => ?_)
    obtain ⟨rfl, q98⟩ := q98
    replace q98 := q98.symm
    subst q98
    refine z_nm (r := h.2) rfl (fun I99 e100 => ?_)
    have hw101 := hw95 I99 e100
    refine z_goto (t := 218) dX5_tell_199 (by decide) ?_
    exact z_ret (v := none) dX5_tell_218 rfl rfl hw101
  · have hw102 := hw.2.2.2.2.2.2.2.2.2.2 c10k9
    refine z_aloadn dX5_tell_202 rfl rfl ?_
    refine z_iloadn dX5_tell_203 rfl rfl ?_
    refine z_iload dX5_tell_204 rfl ?_
    refine z_iload dX5_tell_206 rfl ?_
    obtain ⟨P103, ct104, hw105⟩ := hw102
    refine z_callV (h := h) (S := []) (a := a) (M := mX5_tell) (As := [.int (zget h (some (a + 25)) (0 : Int32)), .int (zget h (some (a + 25)) (1 : Int32)), .int (zget h (some (a + 25)) (2 : Int32))]) zc5 rfl eX5_tellErrand w918 w20 (Or.inl w916) dX5_tell_208 (ha.k 0 rfl) (ha.lt 0 rfl) rfl (by omega) (Nat.le_of_ble_eq_true rfl) ct104 (fun v110 g111 q107 => ?_)
    obtain ⟨I106, rfl, rfl, q107⟩ := q107
    have hw109 := hw105 I106 q107
    show Z l G _ d Q k n 211 _ ([]) _
    refine z_goto (t := 218) dX5_tell_211 (by decide) ?_
    exact z_ret (v := none) dX5_tell_218 rfl rfl hw109

theorem kX5_tell {l : Launch} {G : zG} {d : Nat} {Q : Option Value → zH → Prop} {k n : Nat} {h : zH} (a : Nat) (x1 : Int32) (x2 : Int32) (hz : Z l G mX5_tell d Q k n 0 [va_rf (some a), .int x1, .int x2, zU, zU, zU] [] h) : CT l G YX5_tell d k n [va_rf (some a), .int x1, .int x2] h Q :=
  CT.of (by decide +kernel) (fun t e => by cases e) (by exact Nat.le_of_ble_eq_true rfl) (by exact hz)

theorem sX5_tellFoot_0 {l : Launch} {G : zG} {d : Nat} {Q : Option Value → zH → Prop} {k n : Nat} {h : zH} (a : Nat) (x1 : Int32) (x2 : Int32) (x3 : Int32) (x4 : Int32) (ha : lo5 h a) (hd9 : 2 ≤ d)
    (hw : ((zslot (a + 1) (zI h (a + 1) 3) = none → Q none h) ∧ (∀ b5, zslot (a + 1) (zI h (a + 1) 3) = some b5 → (lo2 h b5 ∧ (∀ I10 : Nat → Nat → Int32, I10 = (zwI h b5 0 x1).1 → (∀ I13 : Nat → Nat → Int32, I13 = (zwI (I10, h.2) b5 1 x2).1 → (∀ I16 : Nat → Nat → Int32, I16 = (zwI (I13, h.2) b5 2 x3).1 → (∀ I19 : Nat → Nat → Int32, I19 = (zwI (I16, h.2) b5 3 x4).1 → (∀ I22 : Nat → Nat → Int32, I22 = (zwI (I19, h.2) (a + 1) 3 ((zI (I19, h.2) (a + 1) 3) + 1)).1 → Q none (I22, h.2)))))))))) :
    Z l G mX5_tellFoot d Q k n 0 [va_rf (some a), .int x1, .int x2, .int x3, .int x4, zU] [] h := by
  refine z_aloadn dX5_tellFoot_0 rfl rfl ?_
  refine z_getRq (j := 0) zc5 dX5_tellFoot_1 (ha.k 0 rfl) (ha.lt 0 rfl) (by decide) rfl w434 (ha.r 17 rfl) ?_
  refine z_aloadn dX5_tellFoot_4 rfl rfl ?_
  refine z_getRq (j := 0) zc5 dX5_tellFoot_5 (ha.k 0 rfl) (ha.lt 0 rfl) (by decide) rfl w434 (ha.r 17 rfl) ?_
  refine z_getIN (j := 3) zc1 dX5_tellFoot_8 (ha.k 1 rfl) (ha.lt 1 rfl) (by decide) rfl w314 ?_
  refine z_callV (h := h) (S := []) (a := (a + 1)) (M := mX5_tellFoot) (As := [.int (zI h (a + 1) 3)]) zc1 rfl eX1_slot w899 w16 (Or.inr ⟨_, w897⟩) dX5_tellFoot_11 (ha.k 1 rfl) (ha.lt 1 rfl) rfl (by omega) (Nat.le_of_ble_eq_true rfl) (c_X1_slot l G h (a + 1) (zI h (a + 1) 3) (los_5_1 ha)) (fun v1 g2 q3 => ?_)
  obtain ⟨rfl, q3⟩ := q3
  replace q3 := q3.symm
  subst q3
  show Z l G _ d Q k n 14 _ (va_rf (zslot (a + 1) (zI h (a + 1) 3)) :: []) _
  refine z_astore (L' := [va_rf (some a), .int x1, .int x2, .int x3, .int x4, va_rf (zslot (a + 1) (zI h (a + 1) 3))]) dX5_tellFoot_14 (by decide) rfl ?_
  refine z_aload dX5_tellFoot_16 rfl ?_
  refine z_ifnull (t := 59) dX5_tellFoot_18 (by decide) (fun c4 => ?_) (fun b5 c4 => ?_)
  · have hw6 := hw.1 c4
    exact z_ret (v := none) dX5_tellFoot_59 rfl rfl hw6
  · have hw7 := hw.2 b5 c4
    refine z_aload dX5_tellFoot_21 rfl ?_
    refine z_iloadn dX5_tellFoot_23 rfl rfl ?_
    refine z_soP [.int x1] c4 ?_
    obtain ⟨ho8, hw9⟩ := hw7
    refine z_putI (j := 0) zc2 dX5_tellFoot_24 (ho8.k 0 rfl) (ho8.lt 0 rfl) (by decide) rfl rfl (Or.inl rfl) (Or.inr ⟨_, w223⟩) ?_
    refine z_nm (r := h.2) rfl (fun I10 e11 => ?_)
    have hw12 := hw9 I10 e11
    refine z_aload dX5_tellFoot_27 rfl ?_
    refine z_iloadn dX5_tellFoot_29 rfl rfl ?_
    refine z_soP [.int x2] c4 ?_
    refine z_putI (j := 1) zc2 dX5_tellFoot_30 (ho8.k 0 rfl) (ho8.lt 0 rfl) (by decide) rfl rfl (Or.inl rfl) (Or.inr ⟨_, w229⟩) ?_
    refine z_nm (r := h.2) rfl (fun I13 e14 => ?_)
    have hw15 := hw12 I13 e14
    refine z_aload dX5_tellFoot_33 rfl ?_
    refine z_iloadn dX5_tellFoot_35 rfl rfl ?_
    refine z_soP [.int x3] c4 ?_
    refine z_putI (j := 2) zc2 dX5_tellFoot_36 (ho8.k 0 rfl) (ho8.lt 0 rfl) (by decide) rfl rfl (Or.inl rfl) (Or.inr ⟨_, w234⟩) ?_
    refine z_nm (r := h.2) rfl (fun I16 e17 => ?_)
    have hw18 := hw15 I16 e17
    refine z_aload dX5_tellFoot_39 rfl ?_
    refine z_iload dX5_tellFoot_41 rfl ?_
    refine z_soP [.int x4] c4 ?_
    refine z_putI (j := 3) zc2 dX5_tellFoot_43 (ho8.k 0 rfl) (ho8.lt 0 rfl) (by decide) rfl rfl (Or.inl rfl) (Or.inr ⟨_, w238⟩) ?_
    refine z_nm (r := h.2) rfl (fun I19 e20 => ?_)
    have hw21 := hw18 I19 e20
    refine z_aloadn dX5_tellFoot_46 rfl rfl ?_
    refine z_getRq (j := 0) zc5 dX5_tellFoot_47 (ha.k 0 rfl) (ha.lt 0 rfl) (by decide) rfl w434 (ha.r 17 rfl) ?_
    refine z_dup dX5_tellFoot_50 rfl ?_
    refine z_getIN (j := 3) zc1 dX5_tellFoot_51 (ha.k 1 rfl) (ha.lt 1 rfl) (by decide) rfl w314 ?_
    refine z_iconst (v := 1) dX5_tellFoot_54 (by decide) ?_
    refine z_iadd dX5_tellFoot_55 ?_
    refine z_putI (j := 3) zc1 dX5_tellFoot_56 (ha.k 1 rfl) (ha.lt 1 rfl) (by decide) rfl rfl (Or.inl rfl) (Or.inr ⟨_, w314⟩) ?_
    refine z_nm (r := h.2) rfl (fun I22 e23 => ?_)
    have hw24 := hw21 I22 e23
    exact z_ret (v := none) dX5_tellFoot_59 rfl rfl hw24

theorem kX5_tellFoot {l : Launch} {G : zG} {d : Nat} {Q : Option Value → zH → Prop} {k n : Nat} {h : zH} (a : Nat) (x1 : Int32) (x2 : Int32) (x3 : Int32) (x4 : Int32) (hz : Z l G mX5_tellFoot d Q k n 0 [va_rf (some a), .int x1, .int x2, .int x3, .int x4, zU] [] h) : CT l G YX5_tellFoot d k n [va_rf (some a), .int x1, .int x2, .int x3, .int x4] h Q :=
  CT.of (by decide +kernel) (fun t e => by cases e) (by exact Nat.le_of_ble_eq_true rfl) (by exact hz)

theorem sX5_tellWalk_0 {l : Launch} {G : zG} {d : Nat} {Q : Option Value → zH → Prop} {k n : Nat} {h : zH} (a : Nat) (x1 : Int32) (x2 : Int32) (x3 : Int32) (x4 : Int32) (ha : lo5 h a) (hd9 : 2 ≤ d)
    (hw : ((zslot (a + 1) x1 = none → (∀ I8 : Nat → Nat → Int32, I8 = (zwI h a 12 (imax (zI h a 12) x1)).1 → (∀ I11 : Nat → Nat → Int32, I11 = (zwI (I8, h.2) a 11 (imax (zI (I8, h.2) a 11) x2)).1 → Q none (I11, h.2)))) ∧ (∀ b5, zslot (a + 1) x1 = some b5 → (lo2 h b5 ∧ (∀ I16 : Nat → Nat → Int32, I16 = (zwI h b5 6 x2).1 → (∀ I19 : Nat → Nat → Int32, I19 = (zwI (I16, h.2) b5 7 x3).1 → (∀ I22 : Nat → Nat → Int32, I22 = (zwI (I19, h.2) b5 8 (imin x4 (24 : Int32))).1 → Z l G mX5_tellWalk d Q k n 42 [va_rf (some a), .int x1, .int x2, .int x3, .int x4, va_rf (zslot (a + 1) x1), .int 0] [] (I22, h.2)))))))) :
    Z l G mX5_tellWalk d Q k n 0 [va_rf (some a), .int x1, .int x2, .int x3, .int x4, zU, zU] [] h := by
  refine z_aloadn dX5_tellWalk_0 rfl rfl ?_
  refine z_getRq (j := 0) zc5 dX5_tellWalk_1 (ha.k 0 rfl) (ha.lt 0 rfl) (by decide) rfl w434 (ha.r 17 rfl) ?_
  refine z_iloadn dX5_tellWalk_4 rfl rfl ?_
  refine z_callV (h := h) (S := []) (a := (a + 1)) (M := mX5_tellWalk) (As := [.int x1]) zc1 rfl eX1_slot w899 w16 (Or.inr ⟨_, w897⟩) dX5_tellWalk_5 (ha.k 1 rfl) (ha.lt 1 rfl) rfl (by omega) (Nat.le_of_ble_eq_true rfl) (c_X1_slot l G h (a + 1) x1 (los_5_1 ha)) (fun v1 g2 q3 => ?_)
  obtain ⟨rfl, q3⟩ := q3
  replace q3 := q3.symm
  subst q3
  show Z l G _ d Q k n 8 _ (va_rf (zslot (a + 1) x1) :: []) _
  refine z_astore (L' := [va_rf (some a), .int x1, .int x2, .int x3, .int x4, va_rf (zslot (a + 1) x1), zU]) dX5_tellWalk_8 (by decide) rfl ?_
  refine z_aload dX5_tellWalk_10 rfl ?_
  refine z_ifnull (t := 79) dX5_tellWalk_12 (by decide) (fun c4 => ?_) (fun b5 c4 => ?_)
  · have hw6 := hw.1 c4
    refine z_aloadn dX5_tellWalk_79 rfl rfl ?_
    refine z_aloadn dX5_tellWalk_80 rfl rfl ?_
    refine z_getI (j := 12) zc5 dX5_tellWalk_81 (ha.k 0 rfl) (ha.lt 0 rfl) (by decide) rfl w450 ?_
    refine z_iloadn dX5_tellWalk_84 rfl rfl ?_
    refine z_max dX5_tellWalk_85 w905 w906 w186 w907 (by omega) (Nat.le_of_ble_eq_true rfl) ?_
    show Z l G _ d Q k n 88 _ (.int ((imax (zI h a 12) x1)) :: va_rf (some a) :: []) _
    refine z_putI (j := 12) zc5 dX5_tellWalk_88 (ha.k 0 rfl) (ha.lt 0 rfl) (by decide) rfl rfl (Or.inl rfl) (Or.inl w450) ?_
    refine z_nm (r := h.2) rfl (fun I8 e9 => ?_)
    have hw10 := hw6 I8 e9
    refine z_aloadn dX5_tellWalk_91 rfl rfl ?_
    refine z_aloadn dX5_tellWalk_92 rfl rfl ?_
    refine z_getI (j := 11) zc5 dX5_tellWalk_93 (ha.k 0 rfl) (ha.lt 0 rfl) (by decide) rfl w449 ?_
    refine z_iloadn dX5_tellWalk_96 rfl rfl ?_
    refine z_max dX5_tellWalk_97 w905 w906 w186 w907 (by omega) (Nat.le_of_ble_eq_true rfl) ?_
    show Z l G _ d Q k n 100 _ (.int ((imax (zI (I8, h.2) a 11) x2)) :: va_rf (some a) :: []) _
    refine z_putI (j := 11) zc5 dX5_tellWalk_100 (ha.k 0 rfl) (ha.lt 0 rfl) (by decide) rfl rfl (Or.inl rfl) (Or.inl w449) ?_
    refine z_nm (r := h.2) rfl (fun I11 e12 => ?_)
    have hw13 := hw10 I11 e12
    exact z_ret (v := none) dX5_tellWalk_103 rfl rfl hw13
  · have hw7 := hw.2 b5 c4
    refine z_aload dX5_tellWalk_15 rfl ?_
    refine z_iloadn dX5_tellWalk_17 rfl rfl ?_
    refine z_soP [.int x2] c4 ?_
    obtain ⟨ho14, hw15⟩ := hw7
    refine z_putI (j := 6) zc2 dX5_tellWalk_18 (ho14.k 0 rfl) (ho14.lt 0 rfl) (by decide) rfl rfl (Or.inl rfl) (Or.inr ⟨_, w252⟩) ?_
    refine z_nm (r := h.2) rfl (fun I16 e17 => ?_)
    have hw18 := hw15 I16 e17
    refine z_aload dX5_tellWalk_21 rfl ?_
    refine z_iloadn dX5_tellWalk_23 rfl rfl ?_
    refine z_soP [.int x3] c4 ?_
    refine z_putI (j := 7) zc2 dX5_tellWalk_24 (ho14.k 0 rfl) (ho14.lt 0 rfl) (by decide) rfl rfl (Or.inl rfl) (Or.inr ⟨_, w256⟩) ?_
    refine z_nm (r := h.2) rfl (fun I19 e20 => ?_)
    have hw21 := hw18 I19 e20
    refine z_aload dX5_tellWalk_27 rfl ?_
    refine z_iload dX5_tellWalk_29 rfl ?_
    refine z_bipush (v := 24) dX5_tellWalk_31 (by decide) ?_
    refine z_min dX5_tellWalk_33 w881 w882 w186 w883 (by omega) (Nat.le_of_ble_eq_true rfl) ?_
    show Z l G _ d Q k n 36 _ (.int ((imin x4 (24 : Int32))) :: va_rf (zslot (a + 1) x1) :: []) _
    refine z_soP [.int ((imin x4 (24 : Int32)))] c4 ?_
    refine z_putI (j := 8) zc2 dX5_tellWalk_36 (ho14.k 0 rfl) (ho14.lt 0 rfl) (by decide) rfl rfl (Or.inl rfl) (Or.inr ⟨_, w262⟩) ?_
    refine z_nm (r := h.2) rfl (fun I22 e23 => ?_)
    have hw24 := hw21 I22 e23
    refine z_iconst (v := 0) dX5_tellWalk_39 (by decide) ?_
    refine z_istore (L' := [va_rf (some a), .int x1, .int x2, .int x3, .int x4, va_rf (zslot (a + 1) x1), .int 0]) dX5_tellWalk_40 (by decide) ((zs1_rf (j := 5) rfl).trans rfl) ?_
    exact hw24

theorem sX5_tellWalk_42 {l : Launch} {G : zG} {d : Nat} {Q : Option Value → zH → Prop} {k n : Nat} {h : zH} (a : Nat) (x1 : Int32) (x2 : Int32) (x3 : Int32) (x4 : Int32) (r5 : Option Nat) (x6 : Int32) (ha : lo5 h a) (hd9 : 2 ≤ d)
    (hw : (∃ b1, r5 = some b1 ∧ lo2 h b1 ∧ (((zI h b1 8).toInt ≤ x6.toInt → (∀ I9 : Nat → Nat → Int32, I9 = (zwI h a 12 (imax (zI h a 12) x1)).1 → (∀ I12 : Nat → Nat → Int32, I12 = (zwI (I9, h.2) a 11 (imax (zI (I9, h.2) a 11) x2)).1 → Q none (I12, h.2)))) ∧ (x6.toInt < (zI h b1 8).toInt → (∀ I21 : Nat → Nat → Int32, I21 = (zput h (some (b1 + 1)) x6 (zget h (some (a + 25)) (3 + x6))).1 → Z l G mX5_tellWalk d Q k n 42 [va_rf (some a), .int x1, .int x2, .int x3, .int x4, va_rf r5, .int ((x6 + 1))] [] (I21, h.2)))))) :
    Z l G mX5_tellWalk d Q k n 42 [va_rf (some a), .int x1, .int x2, .int x3, .int x4, va_rf r5, .int x6] [] h := by
  refine z_iload dX5_tellWalk_42 rfl ?_
  refine z_aload dX5_tellWalk_44 rfl ?_
  obtain ⟨b1, q2, ho3, hw4⟩ := hw
  refine z_soP [] q2 ?_
  refine z_getIN (j := 8) zc2 dX5_tellWalk_46 (ho3.k 0 rfl) (ho3.lt 0 rfl) (by decide) rfl w262 ?_
  refine z_icmp_ge (t := 79) dX5_tellWalk_49 (by decide) (fun c5 => ?_) (fun c6 => ?_)
  · have hw7 := hw4.1 c5
    refine z_aloadn dX5_tellWalk_79 rfl rfl ?_
    refine z_aloadn dX5_tellWalk_80 rfl rfl ?_
    refine z_getI (j := 12) zc5 dX5_tellWalk_81 (ha.k 0 rfl) (ha.lt 0 rfl) (by decide) rfl w450 ?_
    refine z_iloadn dX5_tellWalk_84 rfl rfl ?_
    refine z_max dX5_tellWalk_85 w905 w906 w186 w907 (by omega) (Nat.le_of_ble_eq_true rfl) ?_
    show Z l G _ d Q k n 88 _ (.int ((imax (zI h a 12) x1)) :: va_rf (some a) :: []) _
    refine z_putI (j := 12) zc5 dX5_tellWalk_88 (ha.k 0 rfl) (ha.lt 0 rfl) (by decide) rfl rfl (Or.inl rfl) (Or.inl w450) ?_
    refine z_nm (r := h.2) rfl (fun I9 e10 => ?_)
    have hw11 := hw7 I9 e10
    refine z_aloadn dX5_tellWalk_91 rfl rfl ?_
    refine z_aloadn dX5_tellWalk_92 rfl rfl ?_
    refine z_getI (j := 11) zc5 dX5_tellWalk_93 (ha.k 0 rfl) (ha.lt 0 rfl) (by decide) rfl w449 ?_
    refine z_iloadn dX5_tellWalk_96 rfl rfl ?_
    refine z_max dX5_tellWalk_97 w905 w906 w186 w907 (by omega) (Nat.le_of_ble_eq_true rfl) ?_
    show Z l G _ d Q k n 100 _ (.int ((imax (zI (I9, h.2) a 11) x2)) :: va_rf (some a) :: []) _
    refine z_putI (j := 11) zc5 dX5_tellWalk_100 (ha.k 0 rfl) (ha.lt 0 rfl) (by decide) rfl rfl (Or.inl rfl) (Or.inl w449) ?_
    refine z_nm (r := h.2) rfl (fun I12 e13 => ?_)
    have hw14 := hw11 I12 e13
    exact z_ret (v := none) dX5_tellWalk_103 rfl rfl hw14
  · have hw8 := hw4.2 c6
    refine z_aload dX5_tellWalk_52 rfl ?_
    refine z_soP [] q2 ?_
    refine z_getRNq (j := 9) zc2 dX5_tellWalk_54 (ho3.k 0 rfl) (ho3.lt 0 rfl) (by decide) rfl w264 (ho3.r 0 rfl) ?_
    refine z_iload dX5_tellWalk_57 rfl ?_
    refine z_aloadn dX5_tellWalk_59 rfl rfl ?_
    refine z_getRq (j := 10) zc5 dX5_tellWalk_60 (ha.k 0 rfl) (ha.lt 0 rfl) (by decide) rfl w448 (ha.r 24 rfl) ?_
    refine z_iconst (v := 3) dX5_tellWalk_63 (by decide) ?_
    refine z_iload dX5_tellWalk_64 rfl ?_
    refine z_iadd dX5_tellWalk_66 ?_
    refine z_callS (h := h) (S := [.int x6, va_rf (some (b1 + 1))]) (M := mX5_tellWalk) (As := [va_rf (some (a + 25)), .int ((3 + x6))]) eX10_get w778 (Or.inr ⟨_, w777⟩) dX5_tellWalk_67 rfl (by omega) (Nat.le_of_ble_eq_true rfl) (c_X10_get l G h (some (a + 25)) (3 + x6) (zgok_lo (ha.w 25 rfl) (by decide))) (fun v15 g16 q17 => ?_)
    obtain ⟨rfl, q17⟩ := q17
    replace q17 := q17.symm
    subst q17
    show Z l G _ d Q k n 70 _ (.int (zget h (some (a + 25)) (3 + x6)) :: .int x6 :: va_rf (some (b1 + 1)) :: []) _
    refine z_callS (h := h) (S := []) (M := mX5_tellWalk) (As := [va_rf (some (b1 + 1)), .int x6, .int (zget h (some (a + 25)) (3 + x6))]) eX10_put w754 (Or.inr ⟨_, w888⟩) dX5_tellWalk_70 rfl (by omega) (Nat.le_of_ble_eq_true rfl) (c_X10_put l G h (some (b1 + 1)) x6 (zget h (some (a + 25)) (3 + x6)) (zpok_lo (ho3.w 1 rfl) (by decide))) (fun v18 g19 q20 => ?_)
    obtain ⟨rfl, q20⟩ := q20
    replace q20 := q20.symm
    subst q20
    refine z_nm (r := h.2) rfl (fun I21 e22 => ?_)
    have hw23 := hw8 I21 e22
    refine z_iinc (v := (x6 + 1)) (L' := [va_rf (some a), .int x1, .int x2, .int x3, .int x4, va_rf r5, .int ((x6 + 1))]) dX5_tellWalk_73 (by decide) rfl rfl ((zs1_rf (j := 5) rfl).trans rfl) ?_
    refine z_goto (t := 42) dX5_tellWalk_76 (by decide) ?_
    exact hw23

theorem kX5_tellWalk {l : Launch} {G : zG} {d : Nat} {Q : Option Value → zH → Prop} {k n : Nat} {h : zH} (a : Nat) (x1 : Int32) (x2 : Int32) (x3 : Int32) (x4 : Int32) (hz : Z l G mX5_tellWalk d Q k n 0 [va_rf (some a), .int x1, .int x2, .int x3, .int x4, zU, zU] [] h) : CT l G YX5_tellWalk d k n [va_rf (some a), .int x1, .int x2, .int x3, .int x4] h Q :=
  CT.of (by decide +kernel) (fun t e => by cases e) (by exact Nat.le_of_ble_eq_true rfl) (by exact hz)

theorem sX5_tellCarry_0 {l : Launch} {G : zG} {d : Nat} {Q : Option Value → zH → Prop} {k n : Nat} {h : zH} (a : Nat) (x1 : Int32) (x2 : Int32) (ha : lo5 h a) (hd9 : 2 ≤ d)
    (hw : ((zslot (a + 1) x2 = none → (∀ I8 : Nat → Nat → Int32, I8 = (zwI h a 12 (imax (zI h a 12) (imax x1 x2))).1 → Q none (I8, h.2))) ∧ (∀ b5, zslot (a + 1) x2 = some b5 → (lo2 h b5 ∧ (∀ I13 : Nat → Nat → Int32, I13 = (zwI h b5 5 x1).1 → (∀ I16 : Nat → Nat → Int32, I16 = (zwI (I13, h.2) a 12 (imax (zI (I13, h.2) a 12) (imax x1 x2))).1 → Q none (I16, h.2))))))) :
    Z l G mX5_tellCarry d Q k n 0 [va_rf (some a), .int x1, .int x2, zU] [] h := by
  refine z_aloadn dX5_tellCarry_0 rfl rfl ?_
  refine z_getRq (j := 0) zc5 dX5_tellCarry_1 (ha.k 0 rfl) (ha.lt 0 rfl) (by decide) rfl w434 (ha.r 17 rfl) ?_
  refine z_iloadn dX5_tellCarry_4 rfl rfl ?_
  refine z_callV (h := h) (S := []) (a := (a + 1)) (M := mX5_tellCarry) (As := [.int x2]) zc1 rfl eX1_slot w899 w16 (Or.inr ⟨_, w897⟩) dX5_tellCarry_5 (ha.k 1 rfl) (ha.lt 1 rfl) rfl (by omega) (Nat.le_of_ble_eq_true rfl) (c_X1_slot l G h (a + 1) x2 (los_5_1 ha)) (fun v1 g2 q3 => ?_)
  obtain ⟨rfl, q3⟩ := q3
  replace q3 := q3.symm
  subst q3
  show Z l G _ d Q k n 8 _ (va_rf (zslot (a + 1) x2) :: []) _
  refine z_astoren (L' := [va_rf (some a), .int x1, .int x2, va_rf (zslot (a + 1) x2)]) dX5_tellCarry_8 rfl (by decide) rfl ?_
  refine z_aloadn dX5_tellCarry_9 rfl rfl ?_
  refine z_ifnull (t := 18) dX5_tellCarry_10 (by decide) (fun c4 => ?_) (fun b5 c4 => ?_)
  · have hw6 := hw.1 c4
    refine z_aloadn dX5_tellCarry_18 rfl rfl ?_
    refine z_aloadn dX5_tellCarry_19 rfl rfl ?_
    refine z_getI (j := 12) zc5 dX5_tellCarry_20 (ha.k 0 rfl) (ha.lt 0 rfl) (by decide) rfl w450 ?_
    refine z_iloadn dX5_tellCarry_23 rfl rfl ?_
    refine z_iloadn dX5_tellCarry_24 rfl rfl ?_
    refine z_max dX5_tellCarry_25 w905 w906 w186 w907 (by omega) (Nat.le_of_ble_eq_true rfl) ?_
    show Z l G _ d Q k n 28 _ (.int ((imax x1 x2)) :: .int (zI h a 12) :: va_rf (some a) :: []) _
    refine z_max dX5_tellCarry_28 w905 w906 w186 w907 (by omega) (Nat.le_of_ble_eq_true rfl) ?_
    show Z l G _ d Q k n 31 _ (.int ((imax (zI h a 12) (imax x1 x2))) :: va_rf (some a) :: []) _
    refine z_putI (j := 12) zc5 dX5_tellCarry_31 (ha.k 0 rfl) (ha.lt 0 rfl) (by decide) rfl rfl (Or.inl rfl) (Or.inl w450) ?_
    refine z_nm (r := h.2) rfl (fun I8 e9 => ?_)
    have hw10 := hw6 I8 e9
    exact z_ret (v := none) dX5_tellCarry_34 rfl rfl hw10
  · have hw7 := hw.2 b5 c4
    refine z_aloadn dX5_tellCarry_13 rfl rfl ?_
    refine z_iloadn dX5_tellCarry_14 rfl rfl ?_
    refine z_soP [.int x1] c4 ?_
    obtain ⟨ho11, hw12⟩ := hw7
    refine z_putI (j := 5) zc2 dX5_tellCarry_15 (ho11.k 0 rfl) (ho11.lt 0 rfl) (by decide) rfl rfl (Or.inl rfl) (Or.inr ⟨_, w247⟩) ?_
    refine z_nm (r := h.2) rfl (fun I13 e14 => ?_)
    have hw15 := hw12 I13 e14
    refine z_aloadn dX5_tellCarry_18 rfl rfl ?_
    refine z_aloadn dX5_tellCarry_19 rfl rfl ?_
    refine z_getI (j := 12) zc5 dX5_tellCarry_20 (ha.k 0 rfl) (ha.lt 0 rfl) (by decide) rfl w450 ?_
    refine z_iloadn dX5_tellCarry_23 rfl rfl ?_
    refine z_iloadn dX5_tellCarry_24 rfl rfl ?_
    refine z_max dX5_tellCarry_25 w905 w906 w186 w907 (by omega) (Nat.le_of_ble_eq_true rfl) ?_
    show Z l G _ d Q k n 28 _ (.int ((imax x1 x2)) :: .int (zI (I13, h.2) a 12) :: va_rf (some a) :: []) _
    refine z_max dX5_tellCarry_28 w905 w906 w186 w907 (by omega) (Nat.le_of_ble_eq_true rfl) ?_
    show Z l G _ d Q k n 31 _ (.int ((imax (zI (I13, h.2) a 12) (imax x1 x2))) :: va_rf (some a) :: []) _
    refine z_putI (j := 12) zc5 dX5_tellCarry_31 (ha.k 0 rfl) (ha.lt 0 rfl) (by decide) rfl rfl (Or.inl rfl) (Or.inl w450) ?_
    refine z_nm (r := h.2) rfl (fun I16 e17 => ?_)
    have hw18 := hw15 I16 e17
    exact z_ret (v := none) dX5_tellCarry_34 rfl rfl hw18

theorem kX5_tellCarry {l : Launch} {G : zG} {d : Nat} {Q : Option Value → zH → Prop} {k n : Nat} {h : zH} (a : Nat) (x1 : Int32) (x2 : Int32) (hz : Z l G mX5_tellCarry d Q k n 0 [va_rf (some a), .int x1, .int x2, zU] [] h) : CT l G YX5_tellCarry d k n [va_rf (some a), .int x1, .int x2] h Q :=
  CT.of (by decide +kernel) (fun t e => by cases e) (by exact Nat.le_of_ble_eq_true rfl) (by exact hz)

theorem sX5_tellManner_0 {l : Launch} {G : zG} {d : Nat} {Q : Option Value → zH → Prop} {k n : Nat} {h : zH} (a : Nat) (x1 : Int32) (x2 : Int32) (ha : lo5 h a) (hd9 : 2 ≤ d)
    (hw : ((zslot (a + 1) x1 = none → (∀ I8 : Nat → Nat → Int32, I8 = (zwI h a 12 (imax (zI h a 12) x1)).1 → Q none (I8, h.2))) ∧ (∀ b5, zslot (a + 1) x1 = some b5 → (lo2 h b5 ∧ (∀ I13 : Nat → Nat → Int32, I13 = (zwI h b5 4 x2).1 → (∀ I16 : Nat → Nat → Int32, I16 = (zwI (I13, h.2) a 12 (imax (zI (I13, h.2) a 12) x1)).1 → Q none (I16, h.2))))))) :
    Z l G mX5_tellManner d Q k n 0 [va_rf (some a), .int x1, .int x2, zU] [] h := by
  refine z_aloadn dX5_tellManner_0 rfl rfl ?_
  refine z_getRq (j := 0) zc5 dX5_tellManner_1 (ha.k 0 rfl) (ha.lt 0 rfl) (by decide) rfl w434 (ha.r 17 rfl) ?_
  refine z_iloadn dX5_tellManner_4 rfl rfl ?_
  refine z_callV (h := h) (S := []) (a := (a + 1)) (M := mX5_tellManner) (As := [.int x1]) zc1 rfl eX1_slot w899 w16 (Or.inr ⟨_, w897⟩) dX5_tellManner_5 (ha.k 1 rfl) (ha.lt 1 rfl) rfl (by omega) (Nat.le_of_ble_eq_true rfl) (c_X1_slot l G h (a + 1) x1 (los_5_1 ha)) (fun v1 g2 q3 => ?_)
  obtain ⟨rfl, q3⟩ := q3
  replace q3 := q3.symm
  subst q3
  show Z l G _ d Q k n 8 _ (va_rf (zslot (a + 1) x1) :: []) _
  refine z_astoren (L' := [va_rf (some a), .int x1, .int x2, va_rf (zslot (a + 1) x1)]) dX5_tellManner_8 rfl (by decide) rfl ?_
  refine z_aloadn dX5_tellManner_9 rfl rfl ?_
  refine z_ifnull (t := 18) dX5_tellManner_10 (by decide) (fun c4 => ?_) (fun b5 c4 => ?_)
  · have hw6 := hw.1 c4
    refine z_aloadn dX5_tellManner_18 rfl rfl ?_
    refine z_aloadn dX5_tellManner_19 rfl rfl ?_
    refine z_getI (j := 12) zc5 dX5_tellManner_20 (ha.k 0 rfl) (ha.lt 0 rfl) (by decide) rfl w450 ?_
    refine z_iloadn dX5_tellManner_23 rfl rfl ?_
    refine z_max dX5_tellManner_24 w905 w906 w186 w907 (by omega) (Nat.le_of_ble_eq_true rfl) ?_
    show Z l G _ d Q k n 27 _ (.int ((imax (zI h a 12) x1)) :: va_rf (some a) :: []) _
    refine z_putI (j := 12) zc5 dX5_tellManner_27 (ha.k 0 rfl) (ha.lt 0 rfl) (by decide) rfl rfl (Or.inl rfl) (Or.inl w450) ?_
    refine z_nm (r := h.2) rfl (fun I8 e9 => ?_)
    have hw10 := hw6 I8 e9
    exact z_ret (v := none) dX5_tellManner_30 rfl rfl hw10
  · have hw7 := hw.2 b5 c4
    refine z_aloadn dX5_tellManner_13 rfl rfl ?_
    refine z_iloadn dX5_tellManner_14 rfl rfl ?_
    refine z_soP [.int x2] c4 ?_
    obtain ⟨ho11, hw12⟩ := hw7
    refine z_putI (j := 4) zc2 dX5_tellManner_15 (ho11.k 0 rfl) (ho11.lt 0 rfl) (by decide) rfl rfl (Or.inl rfl) (Or.inr ⟨_, w243⟩) ?_
    refine z_nm (r := h.2) rfl (fun I13 e14 => ?_)
    have hw15 := hw12 I13 e14
    refine z_aloadn dX5_tellManner_18 rfl rfl ?_
    refine z_aloadn dX5_tellManner_19 rfl rfl ?_
    refine z_getI (j := 12) zc5 dX5_tellManner_20 (ha.k 0 rfl) (ha.lt 0 rfl) (by decide) rfl w450 ?_
    refine z_iloadn dX5_tellManner_23 rfl rfl ?_
    refine z_max dX5_tellManner_24 w905 w906 w186 w907 (by omega) (Nat.le_of_ble_eq_true rfl) ?_
    show Z l G _ d Q k n 27 _ (.int ((imax (zI (I13, h.2) a 12) x1)) :: va_rf (some a) :: []) _
    refine z_putI (j := 12) zc5 dX5_tellManner_27 (ha.k 0 rfl) (ha.lt 0 rfl) (by decide) rfl rfl (Or.inl rfl) (Or.inl w450) ?_
    refine z_nm (r := h.2) rfl (fun I16 e17 => ?_)
    have hw18 := hw15 I16 e17
    exact z_ret (v := none) dX5_tellManner_30 rfl rfl hw18

theorem kX5_tellManner {l : Launch} {G : zG} {d : Nat} {Q : Option Value → zH → Prop} {k n : Nat} {h : zH} (a : Nat) (x1 : Int32) (x2 : Int32) (hz : Z l G mX5_tellManner d Q k n 0 [va_rf (some a), .int x1, .int x2, zU] [] h) : CT l G YX5_tellManner d k n [va_rf (some a), .int x1, .int x2] h Q :=
  CT.of (by decide +kernel) (fun t e => by cases e) (by exact Nat.le_of_ble_eq_true rfl) (by exact hz)

theorem sX5_tellErrand_0 {l : Launch} {G : zG} {d : Nat} {Q : Option Value → zH → Prop} {k n : Nat} {h : zH} (a : Nat) (x1 : Int32) (x2 : Int32) (x3 : Int32) (ha : lo5 h a) (hd9 : 2 ≤ d)
    (hw : (∀ I4 : Nat → Nat → Int32, I4 = (zput h (some (a + 3)) (zI h (a + 1) 4) x1).1 → (∀ I10 : Nat → Nat → Int32, I10 = (zput (I4, h.2) (some (a + 4)) (zI (I4, h.2) (a + 1) 4) x2).1 → (∀ I16 : Nat → Nat → Int32, I16 = (zput (I10, h.2) (some (a + 5)) (zI (I10, h.2) (a + 1) 4) x3).1 → (∀ I19 : Nat → Nat → Int32, I19 = (zwI (I16, h.2) (a + 1) 4 ((zI (I16, h.2) (a + 1) 4) + 1)).1 → (∀ I22 : Nat → Nat → Int32, I22 = (zwI (I19, h.2) a 12 (imax (zI (I19, h.2) a 12) x1)).1 → (∀ I25 : Nat → Nat → Int32, I25 = (zwI (I22, h.2) a 11 (imax (zI (I22, h.2) a 11) (imax x2 x3))).1 → Q none (I25, h.2)))))))) :
    Z l G mX5_tellErrand d Q k n 0 [va_rf (some a), .int x1, .int x2, .int x3] [] h := by
  refine z_aloadn dX5_tellErrand_0 rfl rfl ?_
  refine z_getRq (j := 0) zc5 dX5_tellErrand_1 (ha.k 0 rfl) (ha.lt 0 rfl) (by decide) rfl w434 (ha.r 17 rfl) ?_
  refine z_getRNq (j := 6) zc1 dX5_tellErrand_4 (ha.k 1 rfl) (ha.lt 1 rfl) (by decide) rfl w324 (ha.r 1 rfl) ?_
  refine z_aloadn dX5_tellErrand_7 rfl rfl ?_
  refine z_getRq (j := 0) zc5 dX5_tellErrand_8 (ha.k 0 rfl) (ha.lt 0 rfl) (by decide) rfl w434 (ha.r 17 rfl) ?_
  refine z_getIN (j := 4) zc1 dX5_tellErrand_11 (ha.k 1 rfl) (ha.lt 1 rfl) (by decide) rfl w319 ?_
  refine z_iloadn dX5_tellErrand_14 rfl rfl ?_
  refine z_callS (h := h) (S := []) (M := mX5_tellErrand) (As := [va_rf (some (a + 3)), .int (zI h (a + 1) 4), .int x1]) eX10_put w754 (Or.inr ⟨_, w888⟩) dX5_tellErrand_15 rfl (by omega) (Nat.le_of_ble_eq_true rfl) (c_X10_put l G h (some (a + 3)) (zI h (a + 1) 4) x1 (zpok_lo (ha.w 3 rfl) (by decide))) (fun v1 g2 q3 => ?_)
  obtain ⟨rfl, q3⟩ := q3
  replace q3 := q3.symm
  subst q3
  refine z_nm (r := h.2) rfl (fun I4 e5 => ?_)
  have hw6 := hw I4 e5
  refine z_aloadn dX5_tellErrand_18 rfl rfl ?_
  refine z_getRq (j := 0) zc5 dX5_tellErrand_19 (ha.k 0 rfl) (ha.lt 0 rfl) (by decide) rfl w434 (ha.r 17 rfl) ?_
  refine z_getRNq (j := 7) zc1 dX5_tellErrand_22 (ha.k 1 rfl) (ha.lt 1 rfl) (by decide) rfl w327 (ha.r 2 rfl) ?_
  refine z_aloadn dX5_tellErrand_25 rfl rfl ?_
  refine z_getRq (j := 0) zc5 dX5_tellErrand_26 (ha.k 0 rfl) (ha.lt 0 rfl) (by decide) rfl w434 (ha.r 17 rfl) ?_
  refine z_getIN (j := 4) zc1 dX5_tellErrand_29 (ha.k 1 rfl) (ha.lt 1 rfl) (by decide) rfl w319 ?_
  refine z_iloadn dX5_tellErrand_32 rfl rfl ?_
  refine z_callS (h := (I4, h.2)) (S := []) (M := mX5_tellErrand) (As := [va_rf (some (a + 4)), .int (zI (I4, h.2) (a + 1) 4), .int x2]) eX10_put w754 (Or.inr ⟨_, w888⟩) dX5_tellErrand_33 rfl (by omega) (Nat.le_of_ble_eq_true rfl) (c_X10_put l G (I4, h.2) (some (a + 4)) (zI (I4, h.2) (a + 1) 4) x2 (zpok_lo (ha.w 4 rfl) (by decide))) (fun v7 g8 q9 => ?_)
  obtain ⟨rfl, q9⟩ := q9
  replace q9 := q9.symm
  subst q9
  refine z_nm (r := h.2) rfl (fun I10 e11 => ?_)
  have hw12 := hw6 I10 e11
  refine z_aloadn dX5_tellErrand_36 rfl rfl ?_
  refine z_getRq (j := 0) zc5 dX5_tellErrand_37 (ha.k 0 rfl) (ha.lt 0 rfl) (by decide) rfl w434 (ha.r 17 rfl) ?_
  refine z_getRNq (j := 8) zc1 dX5_tellErrand_40 (ha.k 1 rfl) (ha.lt 1 rfl) (by decide) rfl w330 (ha.r 3 rfl) ?_
  refine z_aloadn dX5_tellErrand_43 rfl rfl ?_
  refine z_getRq (j := 0) zc5 dX5_tellErrand_44 (ha.k 0 rfl) (ha.lt 0 rfl) (by decide) rfl w434 (ha.r 17 rfl) ?_
  refine z_getIN (j := 4) zc1 dX5_tellErrand_47 (ha.k 1 rfl) (ha.lt 1 rfl) (by decide) rfl w319 ?_
  refine z_iloadn dX5_tellErrand_50 rfl rfl ?_
  refine z_callS (h := (I10, h.2)) (S := []) (M := mX5_tellErrand) (As := [va_rf (some (a + 5)), .int (zI (I10, h.2) (a + 1) 4), .int x3]) eX10_put w754 (Or.inr ⟨_, w888⟩) dX5_tellErrand_51 rfl (by omega) (Nat.le_of_ble_eq_true rfl) (c_X10_put l G (I10, h.2) (some (a + 5)) (zI (I10, h.2) (a + 1) 4) x3 (zpok_lo (ha.w 5 rfl) (by decide))) (fun v13 g14 q15 => ?_)
  obtain ⟨rfl, q15⟩ := q15
  replace q15 := q15.symm
  subst q15
  refine z_nm (r := h.2) rfl (fun I16 e17 => ?_)
  have hw18 := hw12 I16 e17
  refine z_aloadn dX5_tellErrand_54 rfl rfl ?_
  refine z_getRq (j := 0) zc5 dX5_tellErrand_55 (ha.k 0 rfl) (ha.lt 0 rfl) (by decide) rfl w434 (ha.r 17 rfl) ?_
  refine z_dup dX5_tellErrand_58 rfl ?_
  refine z_getIN (j := 4) zc1 dX5_tellErrand_59 (ha.k 1 rfl) (ha.lt 1 rfl) (by decide) rfl w319 ?_
  refine z_iconst (v := 1) dX5_tellErrand_62 (by decide) ?_
  refine z_iadd dX5_tellErrand_63 ?_
  refine z_putI (j := 4) zc1 dX5_tellErrand_64 (ha.k 1 rfl) (ha.lt 1 rfl) (by decide) rfl rfl (Or.inl rfl) (Or.inr ⟨_, w319⟩) ?_
  refine z_nm (r := h.2) rfl (fun I19 e20 => ?_)
  have hw21 := hw18 I19 e20
  refine z_aloadn dX5_tellErrand_67 rfl rfl ?_
  refine z_aloadn dX5_tellErrand_68 rfl rfl ?_
  refine z_getI (j := 12) zc5 dX5_tellErrand_69 (ha.k 0 rfl) (ha.lt 0 rfl) (by decide) rfl w450 ?_
  refine z_iloadn dX5_tellErrand_72 rfl rfl ?_
  refine z_max dX5_tellErrand_73 w905 w906 w186 w907 (by omega) (Nat.le_of_ble_eq_true rfl) ?_
  show Z l G _ d Q k n 76 _ (.int ((imax (zI (I19, h.2) a 12) x1)) :: va_rf (some a) :: []) _
  refine z_putI (j := 12) zc5 dX5_tellErrand_76 (ha.k 0 rfl) (ha.lt 0 rfl) (by decide) rfl rfl (Or.inl rfl) (Or.inl w450) ?_
  refine z_nm (r := h.2) rfl (fun I22 e23 => ?_)
  have hw24 := hw21 I22 e23
  refine z_aloadn dX5_tellErrand_79 rfl rfl ?_
  refine z_aloadn dX5_tellErrand_80 rfl rfl ?_
  refine z_getI (j := 11) zc5 dX5_tellErrand_81 (ha.k 0 rfl) (ha.lt 0 rfl) (by decide) rfl w449 ?_
  refine z_iloadn dX5_tellErrand_84 rfl rfl ?_
  refine z_iloadn dX5_tellErrand_85 rfl rfl ?_
  refine z_max dX5_tellErrand_86 w905 w906 w186 w907 (by omega) (Nat.le_of_ble_eq_true rfl) ?_
  show Z l G _ d Q k n 89 _ (.int ((imax x2 x3)) :: .int (zI (I22, h.2) a 11) :: va_rf (some a) :: []) _
  refine z_max dX5_tellErrand_89 w905 w906 w186 w907 (by omega) (Nat.le_of_ble_eq_true rfl) ?_
  show Z l G _ d Q k n 92 _ (.int ((imax (zI (I22, h.2) a 11) (imax x2 x3))) :: va_rf (some a) :: []) _
  refine z_putI (j := 11) zc5 dX5_tellErrand_92 (ha.k 0 rfl) (ha.lt 0 rfl) (by decide) rfl rfl (Or.inl rfl) (Or.inl w449) ?_
  refine z_nm (r := h.2) rfl (fun I25 e26 => ?_)
  have hw27 := hw24 I25 e26
  exact z_ret (v := none) dX5_tellErrand_95 rfl rfl hw27

theorem kX5_tellErrand {l : Launch} {G : zG} {d : Nat} {Q : Option Value → zH → Prop} {k n : Nat} {h : zH} (a : Nat) (x1 : Int32) (x2 : Int32) (x3 : Int32) (hz : Z l G mX5_tellErrand d Q k n 0 [va_rf (some a), .int x1, .int x2, .int x3] [] h) : CT l G YX5_tellErrand d k n [va_rf (some a), .int x1, .int x2, .int x3] h Q :=
  CT.of (by decide +kernel) (fun t e => by cases e) (by exact Nat.le_of_ble_eq_true rfl) (by exact hz)

theorem sX5_tellSign_0 {l : Launch} {G : zG} {d : Nat} {Q : Option Value → zH → Prop} {k n : Nat} {h : zH} (a : Nat) (ha : lo5 h a) (hd9 : 2 ≤ d)
    (hw : (∀ I7 : Nat → Nat → Int32, I7 = (zput h (some (a + 20)) (zI h (a + 19) 0) (zget h (some (a + 25)) (0 : Int32))).1 → (∀ I16 : Nat → Nat → Int32, I16 = (zput (I7, h.2) (some (a + 21)) (zI (I7, h.2) (a + 19) 0) (zget (I7, h.2) (some (a + 25)) (1 : Int32))).1 → (∀ I25 : Nat → Nat → Int32, I25 = (zput (I16, h.2) (some (a + 22)) (zI (I16, h.2) (a + 19) 0) (zget (I16, h.2) (some (a + 25)) (2 : Int32))).1 → (∀ I34 : Nat → Nat → Int32, I34 = (zput (I25, h.2) (some (a + 23)) (zI (I25, h.2) (a + 19) 0) (zget (I25, h.2) (some (a + 25)) (3 : Int32))).1 → (∀ I43 : Nat → Nat → Int32, I43 = (zput (I34, h.2) (some (a + 24)) (zI (I34, h.2) (a + 19) 0) (zget (I34, h.2) (some (a + 25)) (4 : Int32))).1 → (∀ I46 : Nat → Nat → Int32, I46 = (zwI (I43, h.2) (a + 19) 0 ((zI (I43, h.2) (a + 19) 0) + 1)).1 → Q none (I46, h.2)))))))) :
    Z l G mX5_tellSign d Q k n 0 [va_rf (some a)] [] h := by
  refine z_aloadn dX5_tellSign_0 rfl rfl ?_
  refine z_getRq (j := 1) zc5 dX5_tellSign_1 (ha.k 0 rfl) (ha.lt 0 rfl) (by decide) rfl w436 (ha.r 23 rfl) ?_
  refine z_getRNq (j := 1) zc3 dX5_tellSign_4 (ha.k 19 rfl) (ha.lt 19 rfl) (by decide) rfl w366 (ha.r 18 rfl) ?_
  refine z_aloadn dX5_tellSign_7 rfl rfl ?_
  refine z_getRq (j := 1) zc5 dX5_tellSign_8 (ha.k 0 rfl) (ha.lt 0 rfl) (by decide) rfl w436 (ha.r 23 rfl) ?_
  refine z_getIN (j := 0) zc3 dX5_tellSign_11 (ha.k 19 rfl) (ha.lt 19 rfl) (by decide) rfl w362 ?_
  refine z_aloadn dX5_tellSign_14 rfl rfl ?_
  refine z_getRq (j := 10) zc5 dX5_tellSign_15 (ha.k 0 rfl) (ha.lt 0 rfl) (by decide) rfl w448 (ha.r 24 rfl) ?_
  refine z_iconst (v := 0) dX5_tellSign_18 (by decide) ?_
  refine z_callS (h := h) (S := [.int (zI h (a + 19) 0), va_rf (some (a + 20))]) (M := mX5_tellSign) (As := [va_rf (some (a + 25)), .int 0]) eX10_get w778 (Or.inr ⟨_, w777⟩) dX5_tellSign_19 rfl (by omega) (Nat.le_of_ble_eq_true rfl) (c_X10_get l G h (some (a + 25)) (0 : Int32) (zgok_lo (ha.w 25 rfl) (by decide))) (fun v1 g2 q3 => ?_)
  obtain ⟨rfl, q3⟩ := q3
  replace q3 := q3.symm
  subst q3
  show Z l G _ d Q k n 22 _ (.int (zget h (some (a + 25)) (0 : Int32)) :: .int (zI h (a + 19) 0) :: va_rf (some (a + 20)) :: []) _
  refine z_callS (h := h) (S := []) (M := mX5_tellSign) (As := [va_rf (some (a + 20)), .int (zI h (a + 19) 0), .int (zget h (some (a + 25)) (0 : Int32))]) eX10_put w754 (Or.inr ⟨_, w888⟩) dX5_tellSign_22 rfl (by omega) (Nat.le_of_ble_eq_true rfl) (c_X10_put l G h (some (a + 20)) (zI h (a + 19) 0) (zget h (some (a + 25)) (0 : Int32)) (zpok_lo (ha.w 20 rfl) (by decide))) (fun v4 g5 q6 => ?_)
  obtain ⟨rfl, q6⟩ := q6
  replace q6 := q6.symm
  subst q6
  refine z_nm (r := h.2) rfl (fun I7 e8 => ?_)
  have hw9 := hw I7 e8
  refine z_aloadn dX5_tellSign_25 rfl rfl ?_
  refine z_getRq (j := 1) zc5 dX5_tellSign_26 (ha.k 0 rfl) (ha.lt 0 rfl) (by decide) rfl w436 (ha.r 23 rfl) ?_
  refine z_getRNq (j := 2) zc3 dX5_tellSign_29 (ha.k 19 rfl) (ha.lt 19 rfl) (by decide) rfl w369 (ha.r 19 rfl) ?_
  refine z_aloadn dX5_tellSign_32 rfl rfl ?_
  refine z_getRq (j := 1) zc5 dX5_tellSign_33 (ha.k 0 rfl) (ha.lt 0 rfl) (by decide) rfl w436 (ha.r 23 rfl) ?_
  refine z_getIN (j := 0) zc3 dX5_tellSign_36 (ha.k 19 rfl) (ha.lt 19 rfl) (by decide) rfl w362 ?_
  refine z_aloadn dX5_tellSign_39 rfl rfl ?_
  refine z_getRq (j := 10) zc5 dX5_tellSign_40 (ha.k 0 rfl) (ha.lt 0 rfl) (by decide) rfl w448 (ha.r 24 rfl) ?_
  refine z_iconst (v := 1) dX5_tellSign_43 (by decide) ?_
  refine z_callS (h := (I7, h.2)) (S := [.int (zI (I7, h.2) (a + 19) 0), va_rf (some (a + 21))]) (M := mX5_tellSign) (As := [va_rf (some (a + 25)), .int 1]) eX10_get w778 (Or.inr ⟨_, w777⟩) dX5_tellSign_44 rfl (by omega) (Nat.le_of_ble_eq_true rfl) (c_X10_get l G (I7, h.2) (some (a + 25)) (1 : Int32) (zgok_lo (ha.w 25 rfl) (by decide))) (fun v10 g11 q12 => ?_)
  obtain ⟨rfl, q12⟩ := q12
  replace q12 := q12.symm
  subst q12
  show Z l G _ d Q k n 47 _ (.int (zget (I7, h.2) (some (a + 25)) (1 : Int32)) :: .int (zI (I7, h.2) (a + 19) 0) :: va_rf (some (a + 21)) :: []) _
  refine z_callS (h := (I7, h.2)) (S := []) (M := mX5_tellSign) (As := [va_rf (some (a + 21)), .int (zI (I7, h.2) (a + 19) 0), .int (zget (I7, h.2) (some (a + 25)) (1 : Int32))]) eX10_put w754 (Or.inr ⟨_, w888⟩) dX5_tellSign_47 rfl (by omega) (Nat.le_of_ble_eq_true rfl) (c_X10_put l G (I7, h.2) (some (a + 21)) (zI (I7, h.2) (a + 19) 0) (zget (I7, h.2) (some (a + 25)) (1 : Int32)) (zpok_lo (ha.w 21 rfl) (by decide))) (fun v13 g14 q15 => ?_)
  obtain ⟨rfl, q15⟩ := q15
  replace q15 := q15.symm
  subst q15
  refine z_nm (r := h.2) rfl (fun I16 e17 => ?_)
  have hw18 := hw9 I16 e17
  refine z_aloadn dX5_tellSign_50 rfl rfl ?_
  refine z_getRq (j := 1) zc5 dX5_tellSign_51 (ha.k 0 rfl) (ha.lt 0 rfl) (by decide) rfl w436 (ha.r 23 rfl) ?_
  refine z_getRNq (j := 3) zc3 dX5_tellSign_54 (ha.k 19 rfl) (ha.lt 19 rfl) (by decide) rfl w372 (ha.r 20 rfl) ?_
  refine z_aloadn dX5_tellSign_57 rfl rfl ?_
  refine z_getRq (j := 1) zc5 dX5_tellSign_58 (ha.k 0 rfl) (ha.lt 0 rfl) (by decide) rfl w436 (ha.r 23 rfl) ?_
  refine z_getIN (j := 0) zc3 dX5_tellSign_61 (ha.k 19 rfl) (ha.lt 19 rfl) (by decide) rfl w362 ?_
  refine z_aloadn dX5_tellSign_64 rfl rfl ?_
  refine z_getRq (j := 10) zc5 dX5_tellSign_65 (ha.k 0 rfl) (ha.lt 0 rfl) (by decide) rfl w448 (ha.r 24 rfl) ?_
  refine z_iconst (v := 2) dX5_tellSign_68 (by decide) ?_
  refine z_callS (h := (I16, h.2)) (S := [.int (zI (I16, h.2) (a + 19) 0), va_rf (some (a + 22))]) (M := mX5_tellSign) (As := [va_rf (some (a + 25)), .int 2]) eX10_get w778 (Or.inr ⟨_, w777⟩) dX5_tellSign_69 rfl (by omega) (Nat.le_of_ble_eq_true rfl) (c_X10_get l G (I16, h.2) (some (a + 25)) (2 : Int32) (zgok_lo (ha.w 25 rfl) (by decide))) (fun v19 g20 q21 => ?_)
  obtain ⟨rfl, q21⟩ := q21
  replace q21 := q21.symm
  subst q21
  show Z l G _ d Q k n 72 _ (.int (zget (I16, h.2) (some (a + 25)) (2 : Int32)) :: .int (zI (I16, h.2) (a + 19) 0) :: va_rf (some (a + 22)) :: []) _
  refine z_callS (h := (I16, h.2)) (S := []) (M := mX5_tellSign) (As := [va_rf (some (a + 22)), .int (zI (I16, h.2) (a + 19) 0), .int (zget (I16, h.2) (some (a + 25)) (2 : Int32))]) eX10_put w754 (Or.inr ⟨_, w888⟩) dX5_tellSign_72 rfl (by omega) (Nat.le_of_ble_eq_true rfl) (c_X10_put l G (I16, h.2) (some (a + 22)) (zI (I16, h.2) (a + 19) 0) (zget (I16, h.2) (some (a + 25)) (2 : Int32)) (zpok_lo (ha.w 22 rfl) (by decide))) (fun v22 g23 q24 => ?_)
  obtain ⟨rfl, q24⟩ := q24
  replace q24 := q24.symm
  subst q24
  refine z_nm (r := h.2) rfl (fun I25 e26 => ?_)
  have hw27 := hw18 I25 e26
  refine z_aloadn dX5_tellSign_75 rfl rfl ?_
  refine z_getRq (j := 1) zc5 dX5_tellSign_76 (ha.k 0 rfl) (ha.lt 0 rfl) (by decide) rfl w436 (ha.r 23 rfl) ?_
  refine z_getRNq (j := 4) zc3 dX5_tellSign_79 (ha.k 19 rfl) (ha.lt 19 rfl) (by decide) rfl w375 (ha.r 21 rfl) ?_
  refine z_aloadn dX5_tellSign_82 rfl rfl ?_
  refine z_getRq (j := 1) zc5 dX5_tellSign_83 (ha.k 0 rfl) (ha.lt 0 rfl) (by decide) rfl w436 (ha.r 23 rfl) ?_
  refine z_getIN (j := 0) zc3 dX5_tellSign_86 (ha.k 19 rfl) (ha.lt 19 rfl) (by decide) rfl w362 ?_
  refine z_aloadn dX5_tellSign_89 rfl rfl ?_
  refine z_getRq (j := 10) zc5 dX5_tellSign_90 (ha.k 0 rfl) (ha.lt 0 rfl) (by decide) rfl w448 (ha.r 24 rfl) ?_
  refine z_iconst (v := 3) dX5_tellSign_93 (by decide) ?_
  refine z_callS (h := (I25, h.2)) (S := [.int (zI (I25, h.2) (a + 19) 0), va_rf (some (a + 23))]) (M := mX5_tellSign) (As := [va_rf (some (a + 25)), .int 3]) eX10_get w778 (Or.inr ⟨_, w777⟩) dX5_tellSign_94 rfl (by omega) (Nat.le_of_ble_eq_true rfl) (c_X10_get l G (I25, h.2) (some (a + 25)) (3 : Int32) (zgok_lo (ha.w 25 rfl) (by decide))) (fun v28 g29 q30 => ?_)
  obtain ⟨rfl, q30⟩ := q30
  replace q30 := q30.symm
  subst q30
  show Z l G _ d Q k n 97 _ (.int (zget (I25, h.2) (some (a + 25)) (3 : Int32)) :: .int (zI (I25, h.2) (a + 19) 0) :: va_rf (some (a + 23)) :: []) _
  refine z_callS (h := (I25, h.2)) (S := []) (M := mX5_tellSign) (As := [va_rf (some (a + 23)), .int (zI (I25, h.2) (a + 19) 0), .int (zget (I25, h.2) (some (a + 25)) (3 : Int32))]) eX10_put w754 (Or.inr ⟨_, w888⟩) dX5_tellSign_97 rfl (by omega) (Nat.le_of_ble_eq_true rfl) (c_X10_put l G (I25, h.2) (some (a + 23)) (zI (I25, h.2) (a + 19) 0) (zget (I25, h.2) (some (a + 25)) (3 : Int32)) (zpok_lo (ha.w 23 rfl) (by decide))) (fun v31 g32 q33 => ?_)
  obtain ⟨rfl, q33⟩ := q33
  replace q33 := q33.symm
  subst q33
  refine z_nm (r := h.2) rfl (fun I34 e35 => ?_)
  have hw36 := hw27 I34 e35
  refine z_aloadn dX5_tellSign_100 rfl rfl ?_
  refine z_getRq (j := 1) zc5 dX5_tellSign_101 (ha.k 0 rfl) (ha.lt 0 rfl) (by decide) rfl w436 (ha.r 23 rfl) ?_
  refine z_getRNq (j := 5) zc3 dX5_tellSign_104 (ha.k 19 rfl) (ha.lt 19 rfl) (by decide) rfl w378 (ha.r 22 rfl) ?_
  refine z_aloadn dX5_tellSign_107 rfl rfl ?_
  refine z_getRq (j := 1) zc5 dX5_tellSign_108 (ha.k 0 rfl) (ha.lt 0 rfl) (by decide) rfl w436 (ha.r 23 rfl) ?_
  refine z_getIN (j := 0) zc3 dX5_tellSign_111 (ha.k 19 rfl) (ha.lt 19 rfl) (by decide) rfl w362 ?_
  refine z_aloadn dX5_tellSign_114 rfl rfl ?_
  refine z_getRq (j := 10) zc5 dX5_tellSign_115 (ha.k 0 rfl) (ha.lt 0 rfl) (by decide) rfl w448 (ha.r 24 rfl) ?_
  refine z_iconst (v := 4) dX5_tellSign_118 (by decide) ?_
  refine z_callS (h := (I34, h.2)) (S := [.int (zI (I34, h.2) (a + 19) 0), va_rf (some (a + 24))]) (M := mX5_tellSign) (As := [va_rf (some (a + 25)), .int 4]) eX10_get w778 (Or.inr ⟨_, w777⟩) dX5_tellSign_119 rfl (by omega) (Nat.le_of_ble_eq_true rfl) (c_X10_get l G (I34, h.2) (some (a + 25)) (4 : Int32) (zgok_lo (ha.w 25 rfl) (by decide))) (fun v37 g38 q39 => ?_)
  obtain ⟨rfl, q39⟩ := q39
  replace q39 := q39.symm
  subst q39
  show Z l G _ d Q k n 122 _ (.int (zget (I34, h.2) (some (a + 25)) (4 : Int32)) :: .int (zI (I34, h.2) (a + 19) 0) :: va_rf (some (a + 24)) :: []) _
  refine z_callS (h := (I34, h.2)) (S := []) (M := mX5_tellSign) (As := [va_rf (some (a + 24)), .int (zI (I34, h.2) (a + 19) 0), .int (zget (I34, h.2) (some (a + 25)) (4 : Int32))]) eX10_put w754 (Or.inr ⟨_, w888⟩) dX5_tellSign_122 rfl (by omega) (Nat.le_of_ble_eq_true rfl) (c_X10_put l G (I34, h.2) (some (a + 24)) (zI (I34, h.2) (a + 19) 0) (zget (I34, h.2) (some (a + 25)) (4 : Int32)) (zpok_lo (ha.w 24 rfl) (by decide))) (fun v40 g41 q42 => ?_)
  obtain ⟨rfl, q42⟩ := q42
  replace q42 := q42.symm
  subst q42
  refine z_nm (r := h.2) rfl (fun I43 e44 => ?_)
  have hw45 := hw36 I43 e44
  refine z_aloadn dX5_tellSign_125 rfl rfl ?_
  refine z_getRq (j := 1) zc5 dX5_tellSign_126 (ha.k 0 rfl) (ha.lt 0 rfl) (by decide) rfl w436 (ha.r 23 rfl) ?_
  refine z_dup dX5_tellSign_129 rfl ?_
  refine z_getIN (j := 0) zc3 dX5_tellSign_130 (ha.k 19 rfl) (ha.lt 19 rfl) (by decide) rfl w362 ?_
  refine z_iconst (v := 1) dX5_tellSign_133 (by decide) ?_
  refine z_iadd dX5_tellSign_134 ?_
  refine z_putI (j := 0) zc3 dX5_tellSign_135 (ha.k 19 rfl) (ha.lt 19 rfl) (by decide) rfl rfl (Or.inl rfl) (Or.inr ⟨_, w362⟩) ?_
  refine z_nm (r := h.2) rfl (fun I46 e47 => ?_)
  have hw48 := hw45 I46 e47
  exact z_ret (v := none) dX5_tellSign_138 rfl rfl hw48

theorem kX5_tellSign {l : Launch} {G : zG} {d : Nat} {Q : Option Value → zH → Prop} {k n : Nat} {h : zH} (a : Nat) (hz : Z l G mX5_tellSign d Q k n 0 [va_rf (some a)] [] h) : CT l G YX5_tellSign d k n [va_rf (some a)] h Q :=
  CT.of (by decide +kernel) (fun t e => by cases e) (by exact Nat.le_of_ble_eq_true rfl) (by exact hz)

theorem sX5_next_0 {l : Launch} {G : zG} {d : Nat} {Q : Option Value → zH → Prop} {k n : Nat} {h : zH} (a : Nat) (ha : lo5 h a) (hd9 : 3 ≤ d)
    (hw : (∀ I1 : Nat → Nat → Int32, I1 = (zwI h a 7 (zI h a 8)).1 → Z l G mX5_next d Q k n 8 [va_rf (some a), zU] [] (I1, h.2))) :
    Z l G mX5_next d Q k n 0 [va_rf (some a), zU] [] h := by
  refine z_aloadn dX5_next_0 rfl rfl ?_
  refine z_aloadn dX5_next_1 rfl rfl ?_
  refine z_getI (j := 8) zc5 dX5_next_2 (ha.k 0 rfl) (ha.lt 0 rfl) (by decide) rfl w446 ?_
  refine z_putI (j := 7) zc5 dX5_next_5 (ha.k 0 rfl) (ha.lt 0 rfl) (by decide) rfl rfl (Or.inl rfl) (Or.inl w445) ?_
  refine z_nm (r := h.2) rfl (fun I1 e2 => ?_)
  have hw3 := hw I1 e2
  exact hw3

theorem sX5_next_8 {l : Launch} {G : zG} {d : Nat} {Q : Option Value → zH → Prop} {k n : Nat} {h : zH} (a : Nat) (u1 : Value) (ha : lo5 h a) (hd9 : 3 ≤ d)
    (hw : (((zI h a 5).toInt ≤ (zI h a 7).toInt → (((zI h a 7).toInt < (zI h a 5).toInt → ((zgok h (zR h a 4)) ∧ (∀ I13 : Nat → Nat → Int32, I13 = (zwI h a 8 ((zI h a 7) + 1)).1 → (((zletter (zget h (zR h a 4) (zI h a 7))) = false → (((zdigit (zget h (zR h a 4) (zI h a 7))) = false → ((¬ zget h (zR h a 4) (zI h a 7) = 59 → (∀ I34 : Nat → Nat → Int32, I34 = (zwI (I13, h.2) a 6 (0 : Int32)).1 → Q none (I34, h.2))) ∧ (zget h (zR h a 4) (zI h a 7) = 59 → (∀ I37 : Nat → Nat → Int32, I37 = (zwI (I13, h.2) a 6 (3 : Int32)).1 → Q none (I37, h.2))))) ∧ ((zdigit (zget h (zR h a 4) (zI h a 7))) = true → (∃ P40, CTv l G YX5_nextNumber 2 [va_rf (some a), .int (((zget h (zR h a 4) (zI h a 7)) - 48))] (I13, h.2) P40 ∧ ∀ (I43 : Nat → Nat → Int32), P40 I43 → Q none (I43, h.2))))) ∧ ((zletter (zget h (zR h a 4) (zI h a 7))) = true → (∀ I49 : Nat → Nat → Int32, I49 = (zwI (I13, h.2) a 6 (1 : Int32)).1 → Z l G mX5_next d Q k n 108 [va_rf (some a), .int (zget h (zR h a 4) (zI h a 7))] [] (I49, h.2))))))) ∧ ((zI h a 5).toInt ≤ (zI h a 7).toInt → (∀ I52 : Nat → Nat → Int32, I52 = (zwI h a 6 (4 : Int32)).1 → (∀ I55 : Nat → Nat → Int32, I55 = (zwI (I52, h.2) a 8 (zI (I52, h.2) a 7)).1 → Q none (I55, h.2)))))) ∧ ((zI h a 7).toInt < (zI h a 5).toInt → ((zgok h (zR h a 4)) ∧ (((zblank (zget h (zR h a 4) (zI h a 7))) = false → (((zI h a 7).toInt < (zI h a 5).toInt → ((zgok h (zR h a 4)) ∧ (∀ I77 : Nat → Nat → Int32, I77 = (zwI h a 8 ((zI h a 7) + 1)).1 → (((zletter (zget h (zR h a 4) (zI h a 7))) = false → (((zdigit (zget h (zR h a 4) (zI h a 7))) = false → ((¬ zget h (zR h a 4) (zI h a 7) = 59 → (∀ I98 : Nat → Nat → Int32, I98 = (zwI (I77, h.2) a 6 (0 : Int32)).1 → Q none (I98, h.2))) ∧ (zget h (zR h a 4) (zI h a 7) = 59 → (∀ I101 : Nat → Nat → Int32, I101 = (zwI (I77, h.2) a 6 (3 : Int32)).1 → Q none (I101, h.2))))) ∧ ((zdigit (zget h (zR h a 4) (zI h a 7))) = true → (∃ P104, CTv l G YX5_nextNumber 2 [va_rf (some a), .int (((zget h (zR h a 4) (zI h a 7)) - 48))] (I77, h.2) P104 ∧ ∀ (I107 : Nat → Nat → Int32), P104 I107 → Q none (I107, h.2))))) ∧ ((zletter (zget h (zR h a 4) (zI h a 7))) = true → (∀ I113 : Nat → Nat → Int32, I113 = (zwI (I77, h.2) a 6 (1 : Int32)).1 → Z l G mX5_next d Q k n 108 [va_rf (some a), .int (zget h (zR h a 4) (zI h a 7))] [] (I113, h.2))))))) ∧ ((zI h a 5).toInt ≤ (zI h a 7).toInt → (∀ I116 : Nat → Nat → Int32, I116 = (zwI h a 6 (4 : Int32)).1 → (∀ I119 : Nat → Nat → Int32, I119 = (zwI (I116, h.2) a 8 (zI (I116, h.2) a 7)).1 → Q none (I119, h.2)))))) ∧ ((zblank (zget h (zR h a 4) (zI h a 7))) = true → (∀ I122 : Nat → Nat → Int32, I122 = (zwI h a 7 ((zI h a 7) + 1)).1 → Z l G mX5_next d Q k n 8 [va_rf (some a), u1] [] (I122, h.2)))))))) :
    Z l G mX5_next d Q k n 8 [va_rf (some a), u1] [] h := by
  refine z_aloadn dX5_next_8 rfl rfl ?_
  refine z_getI (j := 7) zc5 dX5_next_9 (ha.k 0 rfl) (ha.lt 0 rfl) (by decide) rfl w445 ?_
  refine z_aloadn dX5_next_12 rfl rfl ?_
  refine z_getI (j := 5) zc5 dX5_next_13 (ha.k 0 rfl) (ha.lt 0 rfl) (by decide) rfl w443 ?_
  refine z_icmp_ge (t := 49) dX5_next_16 (by decide) (fun c1 => ?_) (fun c2 => ?_)
  · have hw3 := hw.1 c1
    refine z_aloadn dX5_next_49 rfl rfl ?_
    refine z_getI (j := 7) zc5 dX5_next_50 (ha.k 0 rfl) (ha.lt 0 rfl) (by decide) rfl w445 ?_
    refine z_aloadn dX5_next_53 rfl rfl ?_
    refine z_getI (j := 5) zc5 dX5_next_54 (ha.k 0 rfl) (ha.lt 0 rfl) (by decide) rfl w443 ?_
    refine z_icmp_lt (t := 74) dX5_next_57 (by decide) (fun c5 => ?_) (fun c6 => ?_)
    · have hw7 := hw3.1 c5
      refine z_aloadn dX5_next_74 rfl rfl ?_
      refine z_getRq (j := 4) zc5 dX5_next_75 (ha.k 0 rfl) (ha.lt 0 rfl) (by decide) rfl w442 rfl ?_
      refine z_aloadn dX5_next_78 rfl rfl ?_
      refine z_getI (j := 7) zc5 dX5_next_79 (ha.k 0 rfl) (ha.lt 0 rfl) (by decide) rfl w445 ?_
      have hw9 := hw7.2
      refine z_callS (h := h) (S := []) (M := mX5_next) (As := [va_rf (zR h a 4), .int (zI h a 7)]) eX10_get w778 (Or.inr ⟨_, w777⟩) dX5_next_82 rfl (by omega) (Nat.le_of_ble_eq_true rfl) (c_X10_get l G h (zR h a 4) (zI h a 7) hw7.1) (fun v10 g11 q12 => ?_)
      obtain ⟨rfl, q12⟩ := q12
      replace q12 := q12.symm
      subst q12
      show Z l G _ d Q k n 85 _ (.int (zget h (zR h a 4) (zI h a 7)) :: []) _
      refine z_istoren (L' := [va_rf (some a), .int (zget h (zR h a 4) (zI h a 7))]) dX5_next_85 rfl (by decide) rfl ?_
      refine z_aloadn dX5_next_86 rfl rfl ?_
      refine z_aloadn dX5_next_87 rfl rfl ?_
      refine z_getI (j := 7) zc5 dX5_next_88 (ha.k 0 rfl) (ha.lt 0 rfl) (by decide) rfl w445 ?_
      refine z_iconst (v := 1) dX5_next_91 (by decide) ?_
      refine z_iadd dX5_next_92 ?_
      refine z_putI (j := 8) zc5 dX5_next_93 (ha.k 0 rfl) (ha.lt 0 rfl) (by decide) rfl rfl (Or.inl rfl) (Or.inl w446) ?_
      refine z_nm (r := h.2) rfl (fun I13 e14 => ?_)
      have hw15 := hw9 I13 e14
      refine z_iloadn dX5_next_96 rfl rfl ?_
      refine z_callS (h := (I13, h.2)) (S := []) (M := mX5_next) (As := [.int (zget h (zR h a 4) (zI h a 7))]) eX5_isLetter w784 (Or.inl w783) dX5_next_97 rfl (by omega) (Nat.le_of_ble_eq_true rfl) (c_X5_isLetter l G (I13, h.2) (zget h (zR h a 4) (zI h a 7))) (fun v16 g17 q18 => ?_)
      obtain ⟨rfl, q18⟩ := q18
      replace q18 := q18.symm
      subst q18
      show Z l G _ d Q k n 100 _ (.int (zb (zletter (zget h (zR h a 4) (zI h a 7)))) :: []) _
      refine z_if_eq (t := 149) dX5_next_100 (by decide) (fun c19 => ?_) (fun c20 => ?_)
      · have hw21 := hw15.1 (zb0 c19)
        refine z_iloadn dX5_next_149 rfl rfl ?_
        refine z_callS (h := (I13, h.2)) (S := []) (M := mX5_next) (As := [.int (zget h (zR h a 4) (zI h a 7))]) eX5_isDigit w787 (Or.inl w786) dX5_next_150 rfl (by omega) (Nat.le_of_ble_eq_true rfl) (c_X5_isDigit l G (I13, h.2) (zget h (zR h a 4) (zI h a 7))) (fun v23 g24 q25 => ?_)
        obtain ⟨rfl, q25⟩ := q25
        replace q25 := q25.symm
        subst q25
        show Z l G _ d Q k n 153 _ (.int (zb (zdigit (zget h (zR h a 4) (zI h a 7)))) :: []) _
        refine z_if_eq (t := 167) dX5_next_153 (by decide) (fun c26 => ?_) (fun c27 => ?_)
        · have hw28 := hw21.1 (zb0 c26)
          refine z_aloadn dX5_next_167 rfl rfl ?_
          refine z_iloadn dX5_next_168 rfl rfl ?_
          refine z_bipush (v := 59) dX5_next_169 (by decide) ?_
          refine z_icmp_ne (t := 178) dX5_next_171 (by decide) (fun c30 => ?_) (fun c31 => ?_)
          · have hw32 := hw28.1 c30
            refine z_iconst (v := 0) dX5_next_178 (by decide) ?_
            refine z_putI (j := 6) zc5 dX5_next_179 (ha.k 0 rfl) (ha.lt 0 rfl) (by decide) rfl rfl (Or.inl rfl) (Or.inl w444) ?_
            refine z_nm (r := h.2) rfl (fun I34 e35 => ?_)
            have hw36 := hw32 I34 e35
            exact z_ret (v := none) dX5_next_182 rfl rfl hw36
          · have hw33 := hw28.2 c31
            refine z_iconst (v := 3) dX5_next_174 (by decide) ?_
            refine z_goto (t := 179) dX5_next_175 (by decide) ?_
            refine z_putI (j := 6) zc5 dX5_next_179 (ha.k 0 rfl) (ha.lt 0 rfl) (by decide) rfl rfl (Or.inl rfl) (Or.inl w444) ?_
            refine z_nm (r := h.2) rfl (fun I37 e38 => ?_)
            have hw39 := hw33 I37 e38
            exact z_ret (v := none) dX5_next_182 rfl rfl hw39
        · have hw29 := hw21.2 (zb1 c27)
          refine z_aloadn dX5_next_156 rfl rfl ?_
          refine z_iloadn dX5_next_157 rfl rfl ?_
          refine z_bipush (v := 48) dX5_next_158 (by decide) ?_
          refine z_isub dX5_next_160 ?_
          obtain ⟨P40, ct41, hw42⟩ := hw29
          refine z_callV (h := (I13, h.2)) (S := []) (a := a) (M := mX5_next) (As := [.int (((zget h (zR h a 4) (zI h a 7)) - 48))]) zc5 rfl eX5_nextNumber w791 w7 (Or.inl w789) dX5_next_161 (ha.k 0 rfl) (ha.lt 0 rfl) rfl (by omega) (Nat.le_of_ble_eq_true rfl) ct41 (fun v47 g48 q44 => ?_)
          obtain ⟨I43, rfl, rfl, q44⟩ := q44
          have hw46 := hw42 I43 q44
          show Z l G _ d Q k n 164 _ ([]) _
          refine z_goto (t := 182) dX5_next_164 (by decide) ?_
          exact z_ret (v := none) dX5_next_182 rfl rfl hw46
      · have hw22 := hw15.2 (zb1 c20)
        refine z_aloadn dX5_next_103 rfl rfl ?_
        refine z_iconst (v := 1) dX5_next_104 (by decide) ?_
        refine z_putI (j := 6) zc5 dX5_next_105 (ha.k 0 rfl) (ha.lt 0 rfl) (by decide) rfl rfl (Or.inl rfl) (Or.inl w444) ?_
        refine z_nm (r := h.2) rfl (fun I49 e50 => ?_)
        have hw51 := hw22 I49 e50
        exact hw51
    · have hw8 := hw3.2 c6
      refine z_aloadn dX5_next_60 rfl rfl ?_
      refine z_iconst (v := 4) dX5_next_61 (by decide) ?_
      refine z_putI (j := 6) zc5 dX5_next_62 (ha.k 0 rfl) (ha.lt 0 rfl) (by decide) rfl rfl (Or.inl rfl) (Or.inl w444) ?_
      refine z_nm (r := h.2) rfl (fun I52 e53 => ?_)
      have hw54 := hw8 I52 e53
      refine z_aloadn dX5_next_65 rfl rfl ?_
      refine z_aloadn dX5_next_66 rfl rfl ?_
      refine z_getI (j := 7) zc5 dX5_next_67 (ha.k 0 rfl) (ha.lt 0 rfl) (by decide) rfl w445 ?_
      refine z_putI (j := 8) zc5 dX5_next_70 (ha.k 0 rfl) (ha.lt 0 rfl) (by decide) rfl rfl (Or.inl rfl) (Or.inl w446) ?_
      refine z_nm (r := h.2) rfl (fun I55 e56 => ?_)
      have hw57 := hw54 I55 e56
      exact z_ret (v := none) dX5_next_73 rfl rfl hw57
  · have hw4 := hw.2 c2
    refine z_aloadn dX5_next_19 rfl rfl ?_
    refine z_getRq (j := 4) zc5 dX5_next_20 (ha.k 0 rfl) (ha.lt 0 rfl) (by decide) rfl w442 rfl ?_
    refine z_aloadn dX5_next_23 rfl rfl ?_
    refine z_getI (j := 7) zc5 dX5_next_24 (ha.k 0 rfl) (ha.lt 0 rfl) (by decide) rfl w445 ?_
    have hw58 := hw4.2
    refine z_callS (h := h) (S := []) (M := mX5_next) (As := [va_rf (zR h a 4), .int (zI h a 7)]) eX10_get w778 (Or.inr ⟨_, w777⟩) dX5_next_27 rfl (by omega) (Nat.le_of_ble_eq_true rfl) (c_X10_get l G h (zR h a 4) (zI h a 7) hw4.1) (fun v59 g60 q61 => ?_)
    obtain ⟨rfl, q61⟩ := q61
    replace q61 := q61.symm
    subst q61
    show Z l G _ d Q k n 30 _ (.int (zget h (zR h a 4) (zI h a 7)) :: []) _
    refine z_callS (h := h) (S := []) (M := mX5_next) (As := [.int (zget h (zR h a 4) (zI h a 7))]) eX5_isBlank w781 (Or.inl w780) dX5_next_30 rfl (by omega) (Nat.le_of_ble_eq_true rfl) (c_X5_isBlank l G h (zget h (zR h a 4) (zI h a 7))) (fun v62 g63 q64 => ?_)
    obtain ⟨rfl, q64⟩ := q64
    replace q64 := q64.symm
    subst q64
    show Z l G _ d Q k n 33 _ (.int (zb (zblank (zget h (zR h a 4) (zI h a 7)))) :: []) _
    refine z_if_eq (t := 49) dX5_next_33 (by decide) (fun c65 => ?_) (fun c66 => ?_)
    · have hw67 := hw58.1 (zb0 c65)
      refine z_aloadn dX5_next_49 rfl rfl ?_
      refine z_getI (j := 7) zc5 dX5_next_50 (ha.k 0 rfl) (ha.lt 0 rfl) (by decide) rfl w445 ?_
      refine z_aloadn dX5_next_53 rfl rfl ?_
      refine z_getI (j := 5) zc5 dX5_next_54 (ha.k 0 rfl) (ha.lt 0 rfl) (by decide) rfl w443 ?_
      refine z_icmp_lt (t := 74) dX5_next_57 (by decide) (fun c69 => ?_) (fun c70 => ?_)
      · have hw71 := hw67.1 c69
        refine z_aloadn dX5_next_74 rfl rfl ?_
        refine z_getRq (j := 4) zc5 dX5_next_75 (ha.k 0 rfl) (ha.lt 0 rfl) (by decide) rfl w442 rfl ?_
        refine z_aloadn dX5_next_78 rfl rfl ?_
        refine z_getI (j := 7) zc5 dX5_next_79 (ha.k 0 rfl) (ha.lt 0 rfl) (by decide) rfl w445 ?_
        have hw73 := hw71.2
        refine z_callS (h := h) (S := []) (M := mX5_next) (As := [va_rf (zR h a 4), .int (zI h a 7)]) eX10_get w778 (Or.inr ⟨_, w777⟩) dX5_next_82 rfl (by omega) (Nat.le_of_ble_eq_true rfl) (c_X10_get l G h (zR h a 4) (zI h a 7) hw71.1) (fun v74 g75 q76 => ?_)
        obtain ⟨rfl, q76⟩ := q76
        replace q76 := q76.symm
        subst q76
        show Z l G _ d Q k n 85 _ (.int (zget h (zR h a 4) (zI h a 7)) :: []) _
        refine z_istoren (L' := [va_rf (some a), .int (zget h (zR h a 4) (zI h a 7))]) dX5_next_85 rfl (by decide) rfl ?_
        refine z_aloadn dX5_next_86 rfl rfl ?_
        refine z_aloadn dX5_next_87 rfl rfl ?_
        refine z_getI (j := 7) zc5 dX5_next_88 (ha.k 0 rfl) (ha.lt 0 rfl) (by decide) rfl w445 ?_
        refine z_iconst (v := 1) dX5_next_91 (by decide) ?_
        refine z_iadd dX5_next_92 ?_
        refine z_putI (j := 8) zc5 dX5_next_93 (ha.k 0 rfl) (ha.lt 0 rfl) (by decide) rfl rfl (Or.inl rfl) (Or.inl w446) ?_
        refine z_nm (r := h.2) rfl (fun I77 e78 => ?_)
        have hw79 := hw73 I77 e78
        refine z_iloadn dX5_next_96 rfl rfl ?_
        refine z_callS (h := (I77, h.2)) (S := []) (M := mX5_next) (As := [.int (zget h (zR h a 4) (zI h a 7))]) eX5_isLetter w784 (Or.inl w783) dX5_next_97 rfl (by omega) (Nat.le_of_ble_eq_true rfl) (c_X5_isLetter l G (I77, h.2) (zget h (zR h a 4) (zI h a 7))) (fun v80 g81 q82 => ?_)
        obtain ⟨rfl, q82⟩ := q82
        replace q82 := q82.symm
        subst q82
        show Z l G _ d Q k n 100 _ (.int (zb (zletter (zget h (zR h a 4) (zI h a 7)))) :: []) _
        refine z_if_eq (t := 149) dX5_next_100 (by decide) (fun c83 => ?_) (fun c84 => ?_)
        · have hw85 := hw79.1 (zb0 c83)
          refine z_iloadn dX5_next_149 rfl rfl ?_
          refine z_callS (h := (I77, h.2)) (S := []) (M := mX5_next) (As := [.int (zget h (zR h a 4) (zI h a 7))]) eX5_isDigit w787 (Or.inl w786) dX5_next_150 rfl (by omega) (Nat.le_of_ble_eq_true rfl) (c_X5_isDigit l G (I77, h.2) (zget h (zR h a 4) (zI h a 7))) (fun v87 g88 q89 => ?_)
          obtain ⟨rfl, q89⟩ := q89
          replace q89 := q89.symm
          subst q89
          show Z l G _ d Q k n 153 _ (.int (zb (zdigit (zget h (zR h a 4) (zI h a 7)))) :: []) _
          refine z_if_eq (t := 167) dX5_next_153 (by decide) (fun c90 => ?_) (fun c91 => ?_)
          · have hw92 := hw85.1 (zb0 c90)
            refine z_aloadn dX5_next_167 rfl rfl ?_
            refine z_iloadn dX5_next_168 rfl rfl ?_
            refine z_bipush (v := 59) dX5_next_169 (by decide) ?_
            refine z_icmp_ne (t := 178) dX5_next_171 (by decide) (fun c94 => ?_) (fun c95 => ?_)
            · have hw96 := hw92.1 c94
              refine z_iconst (v := 0) dX5_next_178 (by decide) ?_
              refine z_putI (j := 6) zc5 dX5_next_179 (ha.k 0 rfl) (ha.lt 0 rfl) (by decide) rfl rfl (Or.inl rfl) (Or.inl w444) ?_
              refine z_nm (r := h.2) rfl (fun I98 e99 => ?_)
              have hw100 := hw96 I98 e99
              exact z_ret (v := none) dX5_next_182 rfl rfl hw100
            · have hw97 := hw92.2 c95
              refine z_iconst (v := 3) dX5_next_174 (by decide) ?_
              refine z_goto (t := 179) dX5_next_175 (by decide) ?_
              refine z_putI (j := 6) zc5 dX5_next_179 (ha.k 0 rfl) (ha.lt 0 rfl) (by decide) rfl rfl (Or.inl rfl) (Or.inl w444) ?_
              refine z_nm (r := h.2) rfl (fun I101 e102 => ?_)
              have hw103 := hw97 I101 e102
              exact z_ret (v := none) dX5_next_182 rfl rfl hw103
          · have hw93 := hw85.2 (zb1 c91)
            refine z_aloadn dX5_next_156 rfl rfl ?_
            refine z_iloadn dX5_next_157 rfl rfl ?_
            refine z_bipush (v := 48) dX5_next_158 (by decide) ?_
            refine z_isub dX5_next_160 ?_
            obtain ⟨P104, ct105, hw106⟩ := hw93
            refine z_callV (h := (I77, h.2)) (S := []) (a := a) (M := mX5_next) (As := [.int (((zget h (zR h a 4) (zI h a 7)) - 48))]) zc5 rfl eX5_nextNumber w791 w7 (Or.inl w789) dX5_next_161 (ha.k 0 rfl) (ha.lt 0 rfl) rfl (by omega) (Nat.le_of_ble_eq_true rfl) ct105 (fun v111 g112 q108 => ?_)
            obtain ⟨I107, rfl, rfl, q108⟩ := q108
            have hw110 := hw106 I107 q108
            show Z l G _ d Q k n 164 _ ([]) _
            refine z_goto (t := 182) dX5_next_164 (by decide) ?_
            exact z_ret (v := none) dX5_next_182 rfl rfl hw110
        · have hw86 := hw79.2 (zb1 c84)
          refine z_aloadn dX5_next_103 rfl rfl ?_
          refine z_iconst (v := 1) dX5_next_104 (by decide) ?_
          refine z_putI (j := 6) zc5 dX5_next_105 (ha.k 0 rfl) (ha.lt 0 rfl) (by decide) rfl rfl (Or.inl rfl) (Or.inl w444) ?_
          refine z_nm (r := h.2) rfl (fun I113 e114 => ?_)
          have hw115 := hw86 I113 e114
          exact hw115
      · have hw72 := hw67.2 c70
        refine z_aloadn dX5_next_60 rfl rfl ?_
        refine z_iconst (v := 4) dX5_next_61 (by decide) ?_
        refine z_putI (j := 6) zc5 dX5_next_62 (ha.k 0 rfl) (ha.lt 0 rfl) (by decide) rfl rfl (Or.inl rfl) (Or.inl w444) ?_
        refine z_nm (r := h.2) rfl (fun I116 e117 => ?_)
        have hw118 := hw72 I116 e117
        refine z_aloadn dX5_next_65 rfl rfl ?_
        refine z_aloadn dX5_next_66 rfl rfl ?_
        refine z_getI (j := 7) zc5 dX5_next_67 (ha.k 0 rfl) (ha.lt 0 rfl) (by decide) rfl w445 ?_
        refine z_putI (j := 8) zc5 dX5_next_70 (ha.k 0 rfl) (ha.lt 0 rfl) (by decide) rfl rfl (Or.inl rfl) (Or.inl w446) ?_
        refine z_nm (r := h.2) rfl (fun I119 e120 => ?_)
        have hw121 := hw118 I119 e120
        exact z_ret (v := none) dX5_next_73 rfl rfl hw121
    · have hw68 := hw58.2 (zb1 c66)
      refine z_aloadn dX5_next_36 rfl rfl ?_
      refine z_dup dX5_next_37 rfl ?_
      refine z_getI (j := 7) zc5 dX5_next_38 (ha.k 0 rfl) (ha.lt 0 rfl) (by decide) rfl w445 ?_
      refine z_iconst (v := 1) dX5_next_41 (by decide) ?_
      refine z_iadd dX5_next_42 ?_
      refine z_putI (j := 7) zc5 dX5_next_43 (ha.k 0 rfl) (ha.lt 0 rfl) (by decide) rfl rfl (Or.inl rfl) (Or.inl w445) ?_
      refine z_nm (r := h.2) rfl (fun I122 e123 => ?_)
      have hw124 := hw68 I122 e123
      refine z_goto (t := 8) dX5_next_46 (by decide) ?_
      exact hw124

theorem sX5_next_108 {l : Launch} {G : zG} {d : Nat} {Q : Option Value → zH → Prop} {k n : Nat} {h : zH} (a : Nat) (u1 : Value) (ha : lo5 h a) (hd9 : 3 ≤ d)
    (hw : (((zI h a 5).toInt ≤ (zI h a 8).toInt → Q none h) ∧ ((zI h a 8).toInt < (zI h a 5).toInt → ((zgok h (zR h a 4)) ∧ (((zletter (zget h (zR h a 4) (zI h a 8))) = false → Q none h) ∧ ((zletter (zget h (zR h a 4) (zI h a 8))) = true → (∀ I16 : Nat → Nat → Int32, I16 = (zwI h a 8 ((zI h a 8) + 1)).1 → Z l G mX5_next d Q k n 108 [va_rf (some a), u1] [] (I16, h.2)))))))) :
    Z l G mX5_next d Q k n 108 [va_rf (some a), u1] [] h := by
  refine z_aloadn dX5_next_108 rfl rfl ?_
  refine z_getI (j := 8) zc5 dX5_next_109 (ha.k 0 rfl) (ha.lt 0 rfl) (by decide) rfl w446 ?_
  refine z_aloadn dX5_next_112 rfl rfl ?_
  refine z_getI (j := 5) zc5 dX5_next_113 (ha.k 0 rfl) (ha.lt 0 rfl) (by decide) rfl w443 ?_
  refine z_icmp_ge (t := 182) dX5_next_116 (by decide) (fun c1 => ?_) (fun c2 => ?_)
  · have hw3 := hw.1 c1
    exact z_ret (v := none) dX5_next_182 rfl rfl hw3
  · have hw4 := hw.2 c2
    refine z_aloadn dX5_next_119 rfl rfl ?_
    refine z_getRq (j := 4) zc5 dX5_next_120 (ha.k 0 rfl) (ha.lt 0 rfl) (by decide) rfl w442 rfl ?_
    refine z_aloadn dX5_next_123 rfl rfl ?_
    refine z_getI (j := 8) zc5 dX5_next_124 (ha.k 0 rfl) (ha.lt 0 rfl) (by decide) rfl w446 ?_
    have hw5 := hw4.2
    refine z_callS (h := h) (S := []) (M := mX5_next) (As := [va_rf (zR h a 4), .int (zI h a 8)]) eX10_get w778 (Or.inr ⟨_, w777⟩) dX5_next_127 rfl (by omega) (Nat.le_of_ble_eq_true rfl) (c_X10_get l G h (zR h a 4) (zI h a 8) hw4.1) (fun v6 g7 q8 => ?_)
    obtain ⟨rfl, q8⟩ := q8
    replace q8 := q8.symm
    subst q8
    show Z l G _ d Q k n 130 _ (.int (zget h (zR h a 4) (zI h a 8)) :: []) _
    refine z_callS (h := h) (S := []) (M := mX5_next) (As := [.int (zget h (zR h a 4) (zI h a 8))]) eX5_isLetter w784 (Or.inl w783) dX5_next_130 rfl (by omega) (Nat.le_of_ble_eq_true rfl) (c_X5_isLetter l G h (zget h (zR h a 4) (zI h a 8))) (fun v9 g10 q11 => ?_)
    obtain ⟨rfl, q11⟩ := q11
    replace q11 := q11.symm
    subst q11
    show Z l G _ d Q k n 133 _ (.int (zb (zletter (zget h (zR h a 4) (zI h a 8)))) :: []) _
    refine z_if_eq (t := 182) dX5_next_133 (by decide) (fun c12 => ?_) (fun c13 => ?_)
    · have hw14 := hw5.1 (zb0 c12)
      exact z_ret (v := none) dX5_next_182 rfl rfl hw14
    · have hw15 := hw5.2 (zb1 c13)
      refine z_aloadn dX5_next_136 rfl rfl ?_
      refine z_dup dX5_next_137 rfl ?_
      refine z_getI (j := 8) zc5 dX5_next_138 (ha.k 0 rfl) (ha.lt 0 rfl) (by decide) rfl w446 ?_
      refine z_iconst (v := 1) dX5_next_141 (by decide) ?_
      refine z_iadd dX5_next_142 ?_
      refine z_putI (j := 8) zc5 dX5_next_143 (ha.k 0 rfl) (ha.lt 0 rfl) (by decide) rfl rfl (Or.inl rfl) (Or.inl w446) ?_
      refine z_nm (r := h.2) rfl (fun I16 e17 => ?_)
      have hw18 := hw15 I16 e17
      refine z_goto (t := 108) dX5_next_146 (by decide) ?_
      exact hw18

theorem kX5_next {l : Launch} {G : zG} {d : Nat} {Q : Option Value → zH → Prop} {k n : Nat} {h : zH} (a : Nat) (hz : Z l G mX5_next d Q k n 0 [va_rf (some a), zU] [] h) : CT l G YX5_next d k n [va_rf (some a)] h Q :=
  CT.of (by decide +kernel) (fun t e => by cases e) (by exact Nat.le_of_ble_eq_true rfl) (by exact hz)

theorem sX5_nextNumber_0 {l : Launch} {G : zG} {d : Nat} {Q : Option Value → zH → Prop} {k n : Nat} {h : zH} (a : Nat) (x1 : Int32) (ha : lo5 h a) (hd9 : 2 ≤ d)
    (hw : (∀ I1 : Nat → Nat → Int32, I1 = (zwI h a 9 x1).1 → Z l G mX5_nextNumber d Q k n 5 [va_rf (some a), .int x1] [] (I1, h.2))) :
    Z l G mX5_nextNumber d Q k n 0 [va_rf (some a), .int x1] [] h := by
  refine z_aloadn dX5_nextNumber_0 rfl rfl ?_
  refine z_iloadn dX5_nextNumber_1 rfl rfl ?_
  refine z_putI (j := 9) zc5 dX5_nextNumber_2 (ha.k 0 rfl) (ha.lt 0 rfl) (by decide) rfl rfl (Or.inl rfl) (Or.inl w447) ?_
  refine z_nm (r := h.2) rfl (fun I1 e2 => ?_)
  have hw3 := hw I1 e2
  exact hw3

theorem sX5_nextNumber_5 {l : Launch} {G : zG} {d : Nat} {Q : Option Value → zH → Prop} {k n : Nat} {h : zH} (a : Nat) (x1 : Int32) (ha : lo5 h a) (hd9 : 2 ≤ d)
    (hw : (((zI h a 5).toInt ≤ (zI h a 8).toInt → (((2 : Int) < ((zI h a 8) - (zI h a 7)).toInt → (∀ I9 : Nat → Nat → Int32, I9 = (zwI h a 6 (0 : Int32)).1 → Q none (I9, h.2))) ∧ (((zI h a 8) - (zI h a 7)).toInt ≤ (2 : Int) → (∀ I12 : Nat → Nat → Int32, I12 = (zwI h a 6 (2 : Int32)).1 → Q none (I12, h.2))))) ∧ ((zI h a 8).toInt < (zI h a 5).toInt → ((zgok h (zR h a 4)) ∧ (((zdigit (zget h (zR h a 4) (zI h a 8))) = false → (((2 : Int) < ((zI h a 8) - (zI h a 7)).toInt → (∀ I30 : Nat → Nat → Int32, I30 = (zwI h a 6 (0 : Int32)).1 → Q none (I30, h.2))) ∧ (((zI h a 8) - (zI h a 7)).toInt ≤ (2 : Int) → (∀ I33 : Nat → Nat → Int32, I33 = (zwI h a 6 (2 : Int32)).1 → Q none (I33, h.2))))) ∧ ((zdigit (zget h (zR h a 4) (zI h a 8))) = true → ((zgok h (zR h a 4)) ∧ (∀ I40 : Nat → Nat → Int32, I40 = (zwI h a 9 (zrem ((((zI h a 9) * 10) + (zget h (zR h a 4) (zI h a 8))) - 48) 1000)).1 → (∀ I43 : Nat → Nat → Int32, I43 = (zwI (I40, h.2) a 8 ((zI (I40, h.2) a 8) + 1)).1 → Z l G mX5_nextNumber d Q k n 5 [va_rf (some a), .int x1] [] (I43, h.2)))))))))) :
    Z l G mX5_nextNumber d Q k n 5 [va_rf (some a), .int x1] [] h := by
  refine z_aloadn dX5_nextNumber_5 rfl rfl ?_
  refine z_getI (j := 8) zc5 dX5_nextNumber_6 (ha.k 0 rfl) (ha.lt 0 rfl) (by decide) rfl w446 ?_
  refine z_aloadn dX5_nextNumber_9 rfl rfl ?_
  refine z_getI (j := 5) zc5 dX5_nextNumber_10 (ha.k 0 rfl) (ha.lt 0 rfl) (by decide) rfl w443 ?_
  refine z_icmp_ge (t := 76) dX5_nextNumber_13 (by decide) (fun c1 => ?_) (fun c2 => ?_)
  · have hw3 := hw.1 c1
    refine z_aloadn dX5_nextNumber_76 rfl rfl ?_
    refine z_aloadn dX5_nextNumber_77 rfl rfl ?_
    refine z_getI (j := 8) zc5 dX5_nextNumber_78 (ha.k 0 rfl) (ha.lt 0 rfl) (by decide) rfl w446 ?_
    refine z_aloadn dX5_nextNumber_81 rfl rfl ?_
    refine z_getI (j := 7) zc5 dX5_nextNumber_82 (ha.k 0 rfl) (ha.lt 0 rfl) (by decide) rfl w445 ?_
    refine z_isub dX5_nextNumber_85 ?_
    refine z_iconst (v := 2) dX5_nextNumber_86 (by decide) ?_
    refine z_icmp_gt (t := 94) dX5_nextNumber_87 (by decide) (fun c5 => ?_) (fun c6 => ?_)
    · have hw7 := hw3.1 c5
      refine z_iconst (v := 0) dX5_nextNumber_94 (by decide) ?_
      refine z_putI (j := 6) zc5 dX5_nextNumber_95 (ha.k 0 rfl) (ha.lt 0 rfl) (by decide) rfl rfl (Or.inl rfl) (Or.inl w444) ?_
      refine z_nm (r := h.2) rfl (fun I9 e10 => ?_)
      have hw11 := hw7 I9 e10
      exact z_ret (v := none) dX5_nextNumber_98 rfl rfl hw11
    · have hw8 := hw3.2 c6
      refine z_iconst (v := 2) dX5_nextNumber_90 (by decide) ?_
      refine z_goto (t := 95) dX5_nextNumber_91 (by decide) ?_
      refine z_putI (j := 6) zc5 dX5_nextNumber_95 (ha.k 0 rfl) (ha.lt 0 rfl) (by decide) rfl rfl (Or.inl rfl) (Or.inl w444) ?_
      refine z_nm (r := h.2) rfl (fun I12 e13 => ?_)
      have hw14 := hw8 I12 e13
      exact z_ret (v := none) dX5_nextNumber_98 rfl rfl hw14
  · have hw4 := hw.2 c2
    refine z_aloadn dX5_nextNumber_16 rfl rfl ?_
    refine z_getRq (j := 4) zc5 dX5_nextNumber_17 (ha.k 0 rfl) (ha.lt 0 rfl) (by decide) rfl w442 rfl ?_
    refine z_aloadn dX5_nextNumber_20 rfl rfl ?_
    refine z_getI (j := 8) zc5 dX5_nextNumber_21 (ha.k 0 rfl) (ha.lt 0 rfl) (by decide) rfl w446 ?_
    have hw15 := hw4.2
    refine z_callS (h := h) (S := []) (M := mX5_nextNumber) (As := [va_rf (zR h a 4), .int (zI h a 8)]) eX10_get w778 (Or.inr ⟨_, w777⟩) dX5_nextNumber_24 rfl (by omega) (Nat.le_of_ble_eq_true rfl) (c_X10_get l G h (zR h a 4) (zI h a 8) hw4.1) (fun v16 g17 q18 => ?_)
    obtain ⟨rfl, q18⟩ := q18
    replace q18 := q18.symm
    subst q18
    show Z l G _ d Q k n 27 _ (.int (zget h (zR h a 4) (zI h a 8)) :: []) _
    refine z_callS (h := h) (S := []) (M := mX5_nextNumber) (As := [.int (zget h (zR h a 4) (zI h a 8))]) eX5_isDigit w787 (Or.inl w786) dX5_nextNumber_27 rfl (by omega) (Nat.le_of_ble_eq_true rfl) (c_X5_isDigit l G h (zget h (zR h a 4) (zI h a 8))) (fun v19 g20 q21 => ?_)
    obtain ⟨rfl, q21⟩ := q21
    replace q21 := q21.symm
    subst q21
    show Z l G _ d Q k n 30 _ (.int (zb (zdigit (zget h (zR h a 4) (zI h a 8)))) :: []) _
    refine z_if_eq (t := 76) dX5_nextNumber_30 (by decide) (fun c22 => ?_) (fun c23 => ?_)
    · have hw24 := hw15.1 (zb0 c22)
      refine z_aloadn dX5_nextNumber_76 rfl rfl ?_
      refine z_aloadn dX5_nextNumber_77 rfl rfl ?_
      refine z_getI (j := 8) zc5 dX5_nextNumber_78 (ha.k 0 rfl) (ha.lt 0 rfl) (by decide) rfl w446 ?_
      refine z_aloadn dX5_nextNumber_81 rfl rfl ?_
      refine z_getI (j := 7) zc5 dX5_nextNumber_82 (ha.k 0 rfl) (ha.lt 0 rfl) (by decide) rfl w445 ?_
      refine z_isub dX5_nextNumber_85 ?_
      refine z_iconst (v := 2) dX5_nextNumber_86 (by decide) ?_
      refine z_icmp_gt (t := 94) dX5_nextNumber_87 (by decide) (fun c26 => ?_) (fun c27 => ?_)
      · have hw28 := hw24.1 c26
        refine z_iconst (v := 0) dX5_nextNumber_94 (by decide) ?_
        refine z_putI (j := 6) zc5 dX5_nextNumber_95 (ha.k 0 rfl) (ha.lt 0 rfl) (by decide) rfl rfl (Or.inl rfl) (Or.inl w444) ?_
        refine z_nm (r := h.2) rfl (fun I30 e31 => ?_)
        have hw32 := hw28 I30 e31
        exact z_ret (v := none) dX5_nextNumber_98 rfl rfl hw32
      · have hw29 := hw24.2 c27
        refine z_iconst (v := 2) dX5_nextNumber_90 (by decide) ?_
        refine z_goto (t := 95) dX5_nextNumber_91 (by decide) ?_
        refine z_putI (j := 6) zc5 dX5_nextNumber_95 (ha.k 0 rfl) (ha.lt 0 rfl) (by decide) rfl rfl (Or.inl rfl) (Or.inl w444) ?_
        refine z_nm (r := h.2) rfl (fun I33 e34 => ?_)
        have hw35 := hw29 I33 e34
        exact z_ret (v := none) dX5_nextNumber_98 rfl rfl hw35
    · have hw25 := hw15.2 (zb1 c23)
      refine z_aloadn dX5_nextNumber_33 rfl rfl ?_
      refine z_aloadn dX5_nextNumber_34 rfl rfl ?_
      refine z_getI (j := 9) zc5 dX5_nextNumber_35 (ha.k 0 rfl) (ha.lt 0 rfl) (by decide) rfl w447 ?_
      refine z_bipush (v := 10) dX5_nextNumber_38 (by decide) ?_
      refine z_imul dX5_nextNumber_40 ?_
      refine z_aloadn dX5_nextNumber_41 rfl rfl ?_
      refine z_getRq (j := 4) zc5 dX5_nextNumber_42 (ha.k 0 rfl) (ha.lt 0 rfl) (by decide) rfl w442 rfl ?_
      refine z_aloadn dX5_nextNumber_45 rfl rfl ?_
      refine z_getI (j := 8) zc5 dX5_nextNumber_46 (ha.k 0 rfl) (ha.lt 0 rfl) (by decide) rfl w446 ?_
      have hw36 := hw25.2
      refine z_callS (h := h) (S := [.int (((zI h a 9) * 10)), va_rf (some a)]) (M := mX5_nextNumber) (As := [va_rf (zR h a 4), .int (zI h a 8)]) eX10_get w778 (Or.inr ⟨_, w777⟩) dX5_nextNumber_49 rfl (by omega) (Nat.le_of_ble_eq_true rfl) (c_X10_get l G h (zR h a 4) (zI h a 8) hw25.1) (fun v37 g38 q39 => ?_)
      obtain ⟨rfl, q39⟩ := q39
      replace q39 := q39.symm
      subst q39
      show Z l G _ d Q k n 52 _ (.int (zget h (zR h a 4) (zI h a 8)) :: .int (((zI h a 9) * 10)) :: va_rf (some a) :: []) _
      refine z_iadd dX5_nextNumber_52 ?_
      refine z_bipush (v := 48) dX5_nextNumber_53 (by decide) ?_
      refine z_isub dX5_nextNumber_55 ?_
      refine z_sipush (v := 1000) dX5_nextNumber_56 (by decide) ?_
      refine z_irem dX5_nextNumber_59 (by decide) ?_
      refine z_putI (j := 9) zc5 dX5_nextNumber_60 (ha.k 0 rfl) (ha.lt 0 rfl) (by decide) rfl rfl (Or.inl rfl) (Or.inl w447) ?_
      refine z_nm (r := h.2) rfl (fun I40 e41 => ?_)
      have hw42 := hw36 I40 e41
      refine z_aloadn dX5_nextNumber_63 rfl rfl ?_
      refine z_dup dX5_nextNumber_64 rfl ?_
      refine z_getI (j := 8) zc5 dX5_nextNumber_65 (ha.k 0 rfl) (ha.lt 0 rfl) (by decide) rfl w446 ?_
      refine z_iconst (v := 1) dX5_nextNumber_68 (by decide) ?_
      refine z_iadd dX5_nextNumber_69 ?_
      refine z_putI (j := 8) zc5 dX5_nextNumber_70 (ha.k 0 rfl) (ha.lt 0 rfl) (by decide) rfl rfl (Or.inl rfl) (Or.inl w446) ?_
      refine z_nm (r := h.2) rfl (fun I43 e44 => ?_)
      have hw45 := hw42 I43 e44
      refine z_goto (t := 5) dX5_nextNumber_73 (by decide) ?_
      exact hw45

theorem kX5_nextNumber {l : Launch} {G : zG} {d : Nat} {Q : Option Value → zH → Prop} {k n : Nat} {h : zH} (a : Nat) (x1 : Int32) (hz : Z l G mX5_nextNumber d Q k n 0 [va_rf (some a), .int x1] [] h) : CT l G YX5_nextNumber d k n [va_rf (some a), .int x1] h Q :=
  CT.of (by decide +kernel) (fun t e => by cases e) (by exact Nat.le_of_ble_eq_true rfl) (by exact hz)

theorem sX6_append_0 {l : Launch} {G : zG} {d : Nat} {Q : Option Value → zH → Prop} {k n : Nat} {h : zH} (a : Nat) (x1 : Int32) (ha : lo6 h a) (hd9 : 2 ≤ d)
    (hw : Z l G mX6_append d Q k n 3 [va_rf (some a), .int x1, .int 24] [] h) :
    Z l G mX6_append d Q k n 0 [va_rf (some a), .int x1, zU] [] h := by
  refine z_bipush (v := 24) dX6_append_0 (by decide) ?_
  refine z_istoren (L' := [va_rf (some a), .int x1, .int 24]) dX6_append_2 rfl (by decide) rfl ?_
  exact hw

theorem sX6_append_3 {l : Launch} {G : zG} {d : Nat} {Q : Option Value → zH → Prop} {k n : Nat} {h : zH} (a : Nat) (x1 : Int32) (x2 : Int32) (ha : lo6 h a) (hd9 : 2 ≤ d)
    (hw : ((x2.toInt < (0 : Int) → Q none h) ∧ ((0 : Int) ≤ x2.toInt → (∀ I8 : Nat → Nat → Int32, I8 = (zput h (some (a + 1)) (zI h a 1) ((zushr x1 x2) &&& 255)).1 → (∀ I11 : Nat → Nat → Int32, I11 = (zwI (I8, h.2) a 1 ((zI (I8, h.2) a 1) + 1)).1 → Z l G mX6_append d Q k n 3 [va_rf (some a), .int x1, .int ((x2 + (-8)))] [] (I11, h.2)))))) :
    Z l G mX6_append d Q k n 3 [va_rf (some a), .int x1, .int x2] [] h := by
  refine z_iloadn dX6_append_3 rfl rfl ?_
  refine z_if_lt (t := 41) dX6_append_4 (by decide) (fun c1 => ?_) (fun c2 => ?_)
  · have hw3 := hw.1 c1
    exact z_ret (v := none) dX6_append_41 rfl rfl hw3
  · have hw4 := hw.2 c2
    refine z_aloadn dX6_append_7 rfl rfl ?_
    refine z_getRq (j := 0) zc6 dX6_append_8 (ha.k 0 rfl) (ha.lt 0 rfl) (by decide) rfl w392 (ha.r 0 rfl) ?_
    refine z_aloadn dX6_append_11 rfl rfl ?_
    refine z_getI (j := 1) zc6 dX6_append_12 (ha.k 0 rfl) (ha.lt 0 rfl) (by decide) rfl w395 ?_
    refine z_iloadn dX6_append_15 rfl rfl ?_
    refine z_iloadn dX6_append_16 rfl rfl ?_
    refine z_iushr dX6_append_17 rfl ?_
    refine z_sipush (v := 255) dX6_append_18 (by decide) ?_
    refine z_iand dX6_append_21 ?_
    refine z_callS (h := h) (S := []) (M := mX6_append) (As := [va_rf (some (a + 1)), .int (zI h a 1), .int (((zushr x1 x2) &&& 255))]) eX10_put w754 (Or.inr ⟨_, w753⟩) dX6_append_22 rfl (by omega) (Nat.le_of_ble_eq_true rfl) (c_X10_put l G h (some (a + 1)) (zI h a 1) ((zushr x1 x2) &&& 255) (zpok_lo (ha.w 1 rfl) (by decide))) (fun v5 g6 q7 => ?_)
    obtain ⟨rfl, q7⟩ := q7
    replace q7 := q7.symm
    subst q7
    refine z_nm (r := h.2) rfl (fun I8 e9 => ?_)
    have hw10 := hw4 I8 e9
    refine z_aloadn dX6_append_25 rfl rfl ?_
    refine z_dup dX6_append_26 rfl ?_
    refine z_getI (j := 1) zc6 dX6_append_27 (ha.k 0 rfl) (ha.lt 0 rfl) (by decide) rfl w395 ?_
    refine z_iconst (v := 1) dX6_append_30 (by decide) ?_
    refine z_iadd dX6_append_31 ?_
    refine z_putI (j := 1) zc6 dX6_append_32 (ha.k 0 rfl) (ha.lt 0 rfl) (by decide) rfl rfl (Or.inl rfl) (Or.inl w395) ?_
    refine z_nm (r := h.2) rfl (fun I11 e12 => ?_)
    have hw13 := hw10 I11 e12
    refine z_iinc (v := (x2 + (-8))) (L' := [va_rf (some a), .int x1, .int ((x2 + (-8)))]) dX6_append_35 (by decide) rfl rfl rfl ?_
    refine z_goto (t := 3) dX6_append_38 (by decide) ?_
    exact hw13

theorem kX6_append {l : Launch} {G : zG} {d : Nat} {Q : Option Value → zH → Prop} {k n : Nat} {h : zH} (a : Nat) (x1 : Int32) (hz : Z l G mX6_append d Q k n 0 [va_rf (some a), .int x1, zU] [] h) : CT l G YX6_append d k n [va_rf (some a), .int x1] h Q :=
  CT.of (by decide +kernel) (fun t e => by cases e) (by exact Nat.le_of_ble_eq_true rfl) (by exact hz)

theorem sX6_tellNight_0 {l : Launch} {G : zG} {d : Nat} {Q : Option Value → zH → Prop} {k n : Nat} {h : zH} (a : Nat) (x1 : Int32) (a2 : Nat) (ha : lo6 h a) (ha2 : lo1 h a2) (hd9 : 5 ≤ d)
    (hw : ((x1.toInt < (0 : Int) → Q none h) ∧ ((0 : Int) ≤ x1.toInt → (((2 : Int) ≤ x1.toInt → Q none h) ∧ (x1.toInt < (2 : Int) → (0 ≤ x1.toInt ∧ x1.toInt < ((2 : Nat) : Int) ∧ (∃ b10, zR h (a + 2) (zix x1) = some b10 ∧ lo1 h b10 ∧ (∃ P14, CTv l G YX1_copyFrom 4 [va_rf (some b10), va_rf (some a2)] h P14 ∧ ∀ (I17 : Nat → Nat → Int32), P14 I17 → (∀ I23 : Nat → Nat → Int32, I23 = (zwI (I17, h.2) a 5 (imax (zI (I17, h.2) a 5) (x1 + 1))).1 → Q none (I23, h.2)))))))))) :
    Z l G mX6_tellNight d Q k n 0 [va_rf (some a), .int x1, va_rf (some a2)] [] h := by
  refine z_iloadn dX6_tellNight_0 rfl rfl ?_
  refine z_if_lt (t := 37) dX6_tellNight_1 (by decide) (fun c1 => ?_) (fun c2 => ?_)
  · have hw3 := hw.1 c1
    exact z_ret (v := none) dX6_tellNight_37 rfl rfl hw3
  · have hw4 := hw.2 c2
    refine z_iloadn dX6_tellNight_4 rfl rfl ?_
    refine z_aloadn dX6_tellNight_5 rfl rfl ?_
    refine z_getRq (j := 4) zc6 dX6_tellNight_6 (ha.k 0 rfl) (ha.lt 0 rfl) (by decide) rfl w400 (ha.r 1 rfl) ?_
    refine z_alenk (v := 2) 3 rfl (by decide) dX6_tellNight_9 (ha.k 2 rfl) (ha.lt 2 rfl) rfl ?_
    refine z_icmp_ge (t := 37) dX6_tellNight_10 (by decide) (fun c5 => ?_) (fun c6 => ?_)
    · have hw7 := hw4.1 c5
      exact z_ret (v := none) dX6_tellNight_37 rfl rfl hw7
    · have hw8 := hw4.2 c6
      refine z_aloadn dX6_tellNight_13 rfl rfl ?_
      refine z_getRq (j := 4) zc6 dX6_tellNight_14 (ha.k 0 rfl) (ha.lt 0 rfl) (by decide) rfl w400 (ha.r 1 rfl) ?_
      refine z_iloadn dX6_tellNight_17 rfl rfl ?_
      have hw9 := hw8.2.2
      refine z_aald (N := 2) 3 rfl (by decide) dX6_tellNight_18 (ha.k 2 rfl) (ha.lt 2 rfl) hw8.1 hw8.2.1 ?_
      refine z_aloadn dX6_tellNight_19 rfl rfl ?_
      obtain ⟨b10, q11, ho12, hw13⟩ := hw9
      refine z_soP [va_rf (some a2)] q11 ?_
      obtain ⟨P14, ct15, hw16⟩ := hw13
      refine z_callV (h := h) (S := []) (a := b10) (M := mX6_tellNight) (As := [va_rf (some a2)]) zc1 rfl eX1_copyFrom w938 w25 (Or.inr ⟨_, w936⟩) dX6_tellNight_20 (ho12.k 0 rfl) (ho12.lt 0 rfl) rfl (by omega) (Nat.le_of_ble_eq_true rfl) ct15 (fun v21 g22 q18 => ?_)
      obtain ⟨I17, rfl, rfl, q18⟩ := q18
      have hw20 := hw16 I17 q18
      show Z l G _ d Q k n 23 _ ([]) _
      refine z_aloadn dX6_tellNight_23 rfl rfl ?_
      refine z_aloadn dX6_tellNight_24 rfl rfl ?_
      refine z_getI (j := 5) zc6 dX6_tellNight_25 (ha.k 0 rfl) (ha.lt 0 rfl) (by decide) rfl w401 ?_
      refine z_iloadn dX6_tellNight_28 rfl rfl ?_
      refine z_iconst (v := 1) dX6_tellNight_29 (by decide) ?_
      refine z_iadd dX6_tellNight_30 ?_
      refine z_max dX6_tellNight_31 w952 w906 w186 w907 (by omega) (Nat.le_of_ble_eq_true rfl) ?_
      show Z l G _ d Q k n 34 _ (.int ((imax (zI (I17, h.2) a 5) (x1 + 1))) :: va_rf (some a) :: []) _
      refine z_putI (j := 5) zc6 dX6_tellNight_34 (ha.k 0 rfl) (ha.lt 0 rfl) (by decide) rfl rfl (Or.inl rfl) (Or.inl w401) ?_
      refine z_nm (r := h.2) rfl (fun I23 e24 => ?_)
      have hw25 := hw20 I23 e24
      exact z_ret (v := none) dX6_tellNight_37 rfl rfl hw25

theorem kX6_tellNight {l : Launch} {G : zG} {d : Nat} {Q : Option Value → zH → Prop} {k n : Nat} {h : zH} (a : Nat) (x1 : Int32) (a2 : Nat) (hz : Z l G mX6_tellNight d Q k n 0 [va_rf (some a), .int x1, va_rf (some a2)] [] h) : CT l G YX6_tellNight d k n [va_rf (some a), .int x1, va_rf (some a2)] h Q :=
  CT.of (by decide +kernel) (fun t e => by cases e) (by exact Nat.le_of_ble_eq_true rfl) (by exact hz)

theorem sX6_tellReading_0 {l : Launch} {G : zG} {d : Nat} {Q : Option Value → zH → Prop} {k n : Nat} {h : zH} (a : Nat) (x1 : Int32) (a2 : Nat) (ha : lo6 h a) (ha2 : lo3 h a2) (hd9 : 4 ≤ d)
    (hw : ((x1.toInt < (0 : Int) → Q none h) ∧ ((0 : Int) ≤ x1.toInt → (((2 : Int) ≤ x1.toInt → Q none h) ∧ (x1.toInt < (2 : Int) → (0 ≤ x1.toInt ∧ x1.toInt < ((2 : Nat) : Int) ∧ (∃ b10, zR h (a + 3) (zix x1) = some b10 ∧ lo3 h b10 ∧ (∃ P14, CTv l G YX3_copyFrom 3 [va_rf (some b10), va_rf (some a2)] h P14 ∧ ∀ (I17 : Nat → Nat → Int32), P14 I17 → (∀ I23 : Nat → Nat → Int32, I23 = (zwI (I17, h.2) a 7 (imax (zI (I17, h.2) a 7) (x1 + 1))).1 → Q none (I23, h.2)))))))))) :
    Z l G mX6_tellReading d Q k n 0 [va_rf (some a), .int x1, va_rf (some a2)] [] h := by
  refine z_iloadn dX6_tellReading_0 rfl rfl ?_
  refine z_if_lt (t := 37) dX6_tellReading_1 (by decide) (fun c1 => ?_) (fun c2 => ?_)
  · have hw3 := hw.1 c1
    exact z_ret (v := none) dX6_tellReading_37 rfl rfl hw3
  · have hw4 := hw.2 c2
    refine z_iloadn dX6_tellReading_4 rfl rfl ?_
    refine z_aloadn dX6_tellReading_5 rfl rfl ?_
    refine z_getRq (j := 6) zc6 dX6_tellReading_6 (ha.k 0 rfl) (ha.lt 0 rfl) (by decide) rfl w403 (ha.r 2 rfl) ?_
    refine z_alenk (v := 2) 5 rfl (by decide) dX6_tellReading_9 (ha.k 3 rfl) (ha.lt 3 rfl) rfl ?_
    refine z_icmp_ge (t := 37) dX6_tellReading_10 (by decide) (fun c5 => ?_) (fun c6 => ?_)
    · have hw7 := hw4.1 c5
      exact z_ret (v := none) dX6_tellReading_37 rfl rfl hw7
    · have hw8 := hw4.2 c6
      refine z_aloadn dX6_tellReading_13 rfl rfl ?_
      refine z_getRq (j := 6) zc6 dX6_tellReading_14 (ha.k 0 rfl) (ha.lt 0 rfl) (by decide) rfl w403 (ha.r 2 rfl) ?_
      refine z_iloadn dX6_tellReading_17 rfl rfl ?_
      have hw9 := hw8.2.2
      refine z_aald (N := 2) 5 rfl (by decide) dX6_tellReading_18 (ha.k 3 rfl) (ha.lt 3 rfl) hw8.1 hw8.2.1 ?_
      refine z_aloadn dX6_tellReading_19 rfl rfl ?_
      obtain ⟨b10, q11, ho12, hw13⟩ := hw9
      refine z_soP [va_rf (some a2)] q11 ?_
      obtain ⟨P14, ct15, hw16⟩ := hw13
      refine z_callV (h := h) (S := []) (a := b10) (M := mX6_tellReading) (As := [va_rf (some a2)]) zc3 rfl eX3_copyFrom w959 w28 (Or.inr ⟨_, w957⟩) dX6_tellReading_20 (ho12.k 0 rfl) (ho12.lt 0 rfl) rfl (by omega) (Nat.le_of_ble_eq_true rfl) ct15 (fun v21 g22 q18 => ?_)
      obtain ⟨I17, rfl, rfl, q18⟩ := q18
      have hw20 := hw16 I17 q18
      show Z l G _ d Q k n 23 _ ([]) _
      refine z_aloadn dX6_tellReading_23 rfl rfl ?_
      refine z_aloadn dX6_tellReading_24 rfl rfl ?_
      refine z_getI (j := 7) zc6 dX6_tellReading_25 (ha.k 0 rfl) (ha.lt 0 rfl) (by decide) rfl w404 ?_
      refine z_iloadn dX6_tellReading_28 rfl rfl ?_
      refine z_iconst (v := 1) dX6_tellReading_29 (by decide) ?_
      refine z_iadd dX6_tellReading_30 ?_
      refine z_max dX6_tellReading_31 w952 w906 w186 w907 (by omega) (Nat.le_of_ble_eq_true rfl) ?_
      show Z l G _ d Q k n 34 _ (.int ((imax (zI (I17, h.2) a 7) (x1 + 1))) :: va_rf (some a) :: []) _
      refine z_putI (j := 7) zc6 dX6_tellReading_34 (ha.k 0 rfl) (ha.lt 0 rfl) (by decide) rfl rfl (Or.inl rfl) (Or.inl w404) ?_
      refine z_nm (r := h.2) rfl (fun I23 e24 => ?_)
      have hw25 := hw20 I23 e24
      exact z_ret (v := none) dX6_tellReading_37 rfl rfl hw25

theorem kX6_tellReading {l : Launch} {G : zG} {d : Nat} {Q : Option Value → zH → Prop} {k n : Nat} {h : zH} (a : Nat) (x1 : Int32) (a2 : Nat) (hz : Z l G mX6_tellReading d Q k n 0 [va_rf (some a), .int x1, va_rf (some a2)] [] h) : CT l G YX6_tellReading d k n [va_rf (some a), .int x1, va_rf (some a2)] h Q :=
  CT.of (by decide +kernel) (fun t e => by cases e) (by exact Nat.le_of_ble_eq_true rfl) (by exact hz)

theorem sX6_copyFrom_0 {l : Launch} {G : zG} {d : Nat} {Q : Option Value → zH → Prop} {k n : Nat} {h : zH} (a : Nat) (a1 : Nat) (ha : lo6 h a) (ha1 : lo6 h a1) (hd9 : 5 ≤ d)
    (hw : (∃ P1, CTv l G YX10_copy 2 [va_rf (some (a1 + 1)), va_rf (some (a + 1))] h P1 ∧ ∀ (I4 : Nat → Nat → Int32), P1 I4 → (∀ I10 : Nat → Nat → Int32, I10 = (zwI (I4, h.2) a 1 (zI (I4, h.2) a1 1)).1 → (∀ I13 : Nat → Nat → Int32, I13 = (zwI (I10, h.2) a 2 (zI (I10, h.2) a1 2)).1 → (∀ I16 : Nat → Nat → Int32, I16 = (zwI (I13, h.2) a 3 (zI (I13, h.2) a1 3)).1 → (∀ I19 : Nat → Nat → Int32, I19 = (zwI (I16, h.2) a 5 (zI (I16, h.2) a1 5)).1 → (∀ I22 : Nat → Nat → Int32, I22 = (zwI (I19, h.2) a 7 (zI (I19, h.2) a1 7)).1 → Z l G mX6_copyFrom d Q k n 53 [va_rf (some a), va_rf (some a1), .int 0] [] (I22, h.2)))))))) :
    Z l G mX6_copyFrom d Q k n 0 [va_rf (some a), va_rf (some a1), zU] [] h := by
  refine z_aloadn dX6_copyFrom_0 rfl rfl ?_
  refine z_getRq (j := 0) zc6 dX6_copyFrom_1 (ha1.k 0 rfl) (ha1.lt 0 rfl) (by decide) rfl w392 (ha1.r 0 rfl) ?_
  refine z_aloadn dX6_copyFrom_4 rfl rfl ?_
  refine z_getRq (j := 0) zc6 dX6_copyFrom_5 (ha.k 0 rfl) (ha.lt 0 rfl) (by decide) rfl w392 (ha.r 0 rfl) ?_
  obtain ⟨P1, ct2, hw3⟩ := hw
  refine z_callS (h := h) (S := []) (M := mX6_copyFrom) (As := [va_rf (some (a1 + 1)), va_rf (some (a + 1))]) eX10_copy w945 (Or.inr ⟨_, w983⟩) dX6_copyFrom_8 rfl (by omega) (Nat.le_of_ble_eq_true rfl) ct2 (fun v8 g9 q5 => ?_)
  obtain ⟨I4, rfl, rfl, q5⟩ := q5
  have hw7 := hw3 I4 q5
  show Z l G _ d Q k n 11 _ ([]) _
  refine z_aloadn dX6_copyFrom_11 rfl rfl ?_
  refine z_aloadn dX6_copyFrom_12 rfl rfl ?_
  refine z_getI (j := 1) zc6 dX6_copyFrom_13 (ha1.k 0 rfl) (ha1.lt 0 rfl) (by decide) rfl w395 ?_
  refine z_putI (j := 1) zc6 dX6_copyFrom_16 (ha.k 0 rfl) (ha.lt 0 rfl) (by decide) rfl rfl (Or.inl rfl) (Or.inl w395) ?_
  refine z_nm (r := h.2) rfl (fun I10 e11 => ?_)
  have hw12 := hw7 I10 e11
  refine z_aloadn dX6_copyFrom_19 rfl rfl ?_
  refine z_aloadn dX6_copyFrom_20 rfl rfl ?_
  refine z_getI (j := 2) zc6 dX6_copyFrom_21 (ha1.k 0 rfl) (ha1.lt 0 rfl) (by decide) rfl w397 ?_
  refine z_putI (j := 2) zc6 dX6_copyFrom_24 (ha.k 0 rfl) (ha.lt 0 rfl) (by decide) rfl rfl (Or.inl rfl) (Or.inl w397) ?_
  refine z_nm (r := h.2) rfl (fun I13 e14 => ?_)
  have hw15 := hw12 I13 e14
  refine z_aloadn dX6_copyFrom_27 rfl rfl ?_
  refine z_aloadn dX6_copyFrom_28 rfl rfl ?_
  refine z_getI (j := 3) zc6 dX6_copyFrom_29 (ha1.k 0 rfl) (ha1.lt 0 rfl) (by decide) rfl w398 ?_
  refine z_putI (j := 3) zc6 dX6_copyFrom_32 (ha.k 0 rfl) (ha.lt 0 rfl) (by decide) rfl rfl (Or.inl rfl) (Or.inl w398) ?_
  refine z_nm (r := h.2) rfl (fun I16 e17 => ?_)
  have hw18 := hw15 I16 e17
  refine z_aloadn dX6_copyFrom_35 rfl rfl ?_
  refine z_aloadn dX6_copyFrom_36 rfl rfl ?_
  refine z_getI (j := 5) zc6 dX6_copyFrom_37 (ha1.k 0 rfl) (ha1.lt 0 rfl) (by decide) rfl w401 ?_
  refine z_putI (j := 5) zc6 dX6_copyFrom_40 (ha.k 0 rfl) (ha.lt 0 rfl) (by decide) rfl rfl (Or.inl rfl) (Or.inl w401) ?_
  refine z_nm (r := h.2) rfl (fun I19 e20 => ?_)
  have hw21 := hw18 I19 e20
  refine z_aloadn dX6_copyFrom_43 rfl rfl ?_
  refine z_aloadn dX6_copyFrom_44 rfl rfl ?_
  refine z_getI (j := 7) zc6 dX6_copyFrom_45 (ha1.k 0 rfl) (ha1.lt 0 rfl) (by decide) rfl w404 ?_
  refine z_putI (j := 7) zc6 dX6_copyFrom_48 (ha.k 0 rfl) (ha.lt 0 rfl) (by decide) rfl rfl (Or.inl rfl) (Or.inl w404) ?_
  refine z_nm (r := h.2) rfl (fun I22 e23 => ?_)
  have hw24 := hw21 I22 e23
  refine z_iconst (v := 0) dX6_copyFrom_51 (by decide) ?_
  refine z_istoren (L' := [va_rf (some a), va_rf (some a1), .int 0]) dX6_copyFrom_52 rfl (by decide) rfl ?_
  exact hw24

theorem sX6_copyFrom_53 {l : Launch} {G : zG} {d : Nat} {Q : Option Value → zH → Prop} {k n : Nat} {h : zH} (a : Nat) (a1 : Nat) (x2 : Int32) (ha : lo6 h a) (ha1 : lo6 h a1) (hd9 : 5 ≤ d)
    (hw : (((2 : Int) ≤ x2.toInt → Z l G mX6_copyFrom d Q k n 94 [va_rf (some a), va_rf (some a1), .int 0] [] h) ∧ (x2.toInt < (2 : Int) → (((2 : Int) ≤ x2.toInt → Z l G mX6_copyFrom d Q k n 94 [va_rf (some a), va_rf (some a1), .int 0] [] h) ∧ (x2.toInt < (2 : Int) → (0 ≤ x2.toInt ∧ x2.toInt < ((2 : Nat) : Int) ∧ (0 ≤ x2.toInt ∧ x2.toInt < ((2 : Nat) : Int) ∧ (∃ b11, zR h (a + 2) (zix x2) = some b11 ∧ lo1 h b11 ∧ (∃ P15, CTv l G YX1_copyFrom 4 [va_rf (some b11), va_rf (zR h (a1 + 2) (zix x2))] h P15 ∧ ∀ (I18 : Nat → Nat → Int32), P15 I18 → Z l G mX6_copyFrom d Q k n 53 [va_rf (some a), va_rf (some a1), .int ((x2 + 1))] [] (I18, h.2)))))))))) :
    Z l G mX6_copyFrom d Q k n 53 [va_rf (some a), va_rf (some a1), .int x2] [] h := by
  refine z_iloadn dX6_copyFrom_53 rfl rfl ?_
  refine z_aloadn dX6_copyFrom_54 rfl rfl ?_
  refine z_getRq (j := 4) zc6 dX6_copyFrom_55 (ha.k 0 rfl) (ha.lt 0 rfl) (by decide) rfl w400 (ha.r 1 rfl) ?_
  refine z_alenk (v := 2) 3 rfl (by decide) dX6_copyFrom_58 (ha.k 2 rfl) (ha.lt 2 rfl) rfl ?_
  refine z_icmp_ge (t := 92) dX6_copyFrom_59 (by decide) (fun c1 => ?_) (fun c2 => ?_)
  · have hw3 := hw.1 c1
    refine z_iconst (v := 0) dX6_copyFrom_92 (by decide) ?_
    refine z_istoren (L' := [va_rf (some a), va_rf (some a1), .int 0]) dX6_copyFrom_93 rfl (by decide) rfl ?_
    exact hw3
  · have hw4 := hw.2 c2
    refine z_iloadn dX6_copyFrom_62 rfl rfl ?_
    refine z_aloadn dX6_copyFrom_63 rfl rfl ?_
    refine z_getRq (j := 4) zc6 dX6_copyFrom_64 (ha1.k 0 rfl) (ha1.lt 0 rfl) (by decide) rfl w400 (ha1.r 1 rfl) ?_
    refine z_alenk (v := 2) 3 rfl (by decide) dX6_copyFrom_67 (ha1.k 2 rfl) (ha1.lt 2 rfl) rfl ?_
    refine z_icmp_ge (t := 92) dX6_copyFrom_68 (by decide) (fun c5 => ?_) (fun c6 => ?_)
    · have hw7 := hw4.1 c5
      refine z_iconst (v := 0) dX6_copyFrom_92 (by decide) ?_
      refine z_istoren (L' := [va_rf (some a), va_rf (some a1), .int 0]) dX6_copyFrom_93 rfl (by decide) rfl ?_
      exact hw7
    · have hw8 := hw4.2 c6
      refine z_aloadn dX6_copyFrom_71 rfl rfl ?_
      refine z_getRq (j := 4) zc6 dX6_copyFrom_72 (ha.k 0 rfl) (ha.lt 0 rfl) (by decide) rfl w400 (ha.r 1 rfl) ?_
      refine z_iloadn dX6_copyFrom_75 rfl rfl ?_
      have hw9 := hw8.2.2
      refine z_aald (N := 2) 3 rfl (by decide) dX6_copyFrom_76 (ha.k 2 rfl) (ha.lt 2 rfl) hw8.1 hw8.2.1 ?_
      refine z_aloadn dX6_copyFrom_77 rfl rfl ?_
      refine z_getRq (j := 4) zc6 dX6_copyFrom_78 (ha1.k 0 rfl) (ha1.lt 0 rfl) (by decide) rfl w400 (ha1.r 1 rfl) ?_
      refine z_iloadn dX6_copyFrom_81 rfl rfl ?_
      have hw10 := hw9.2.2
      refine z_aald (N := 2) 3 rfl (by decide) dX6_copyFrom_82 (ha1.k 2 rfl) (ha1.lt 2 rfl) hw9.1 hw9.2.1 ?_
      obtain ⟨b11, q12, ho13, hw14⟩ := hw10
      refine z_soP [va_rf (zR h (a1 + 2) (zix x2))] q12 ?_
      obtain ⟨P15, ct16, hw17⟩ := hw14
      refine z_callV (h := h) (S := []) (a := b11) (M := mX6_copyFrom) (As := [va_rf (zR h (a1 + 2) (zix x2))]) zc1 rfl eX1_copyFrom w938 w25 (Or.inr ⟨_, w936⟩) dX6_copyFrom_83 (ho13.k 0 rfl) (ho13.lt 0 rfl) rfl (by omega) (Nat.le_of_ble_eq_true rfl) ct16 (fun v22 g23 q19 => ?_)
      obtain ⟨I18, rfl, rfl, q19⟩ := q19
      have hw21 := hw17 I18 q19
      show Z l G _ d Q k n 86 _ ([]) _
      refine z_iinc (v := (x2 + 1)) (L' := [va_rf (some a), va_rf (some a1), .int ((x2 + 1))]) dX6_copyFrom_86 (by decide) rfl rfl rfl ?_
      refine z_goto (t := 53) dX6_copyFrom_89 (by decide) ?_
      exact hw21

theorem sX6_copyFrom_94 {l : Launch} {G : zG} {d : Nat} {Q : Option Value → zH → Prop} {k n : Nat} {h : zH} (a : Nat) (a1 : Nat) (x2 : Int32) (ha : lo6 h a) (ha1 : lo6 h a1) (hd9 : 5 ≤ d)
    (hw : (((2 : Int) ≤ x2.toInt → Q none h) ∧ (x2.toInt < (2 : Int) → (((2 : Int) ≤ x2.toInt → Q none h) ∧ (x2.toInt < (2 : Int) → (0 ≤ x2.toInt ∧ x2.toInt < ((2 : Nat) : Int) ∧ (0 ≤ x2.toInt ∧ x2.toInt < ((2 : Nat) : Int) ∧ (∃ b11, zR h (a + 3) (zix x2) = some b11 ∧ lo3 h b11 ∧ (∃ P15, CTv l G YX3_copyFrom 3 [va_rf (some b11), va_rf (zR h (a1 + 3) (zix x2))] h P15 ∧ ∀ (I18 : Nat → Nat → Int32), P15 I18 → Z l G mX6_copyFrom d Q k n 94 [va_rf (some a), va_rf (some a1), .int ((x2 + 1))] [] (I18, h.2)))))))))) :
    Z l G mX6_copyFrom d Q k n 94 [va_rf (some a), va_rf (some a1), .int x2] [] h := by
  refine z_iloadn dX6_copyFrom_94 rfl rfl ?_
  refine z_aloadn dX6_copyFrom_95 rfl rfl ?_
  refine z_getRq (j := 6) zc6 dX6_copyFrom_96 (ha.k 0 rfl) (ha.lt 0 rfl) (by decide) rfl w403 (ha.r 2 rfl) ?_
  refine z_alenk (v := 2) 5 rfl (by decide) dX6_copyFrom_99 (ha.k 3 rfl) (ha.lt 3 rfl) rfl ?_
  refine z_icmp_ge (t := 133) dX6_copyFrom_100 (by decide) (fun c1 => ?_) (fun c2 => ?_)
  · have hw3 := hw.1 c1
    exact z_ret (v := none) dX6_copyFrom_133 rfl rfl hw3
  · have hw4 := hw.2 c2
    refine z_iloadn dX6_copyFrom_103 rfl rfl ?_
    refine z_aloadn dX6_copyFrom_104 rfl rfl ?_
    refine z_getRq (j := 6) zc6 dX6_copyFrom_105 (ha1.k 0 rfl) (ha1.lt 0 rfl) (by decide) rfl w403 (ha1.r 2 rfl) ?_
    refine z_alenk (v := 2) 5 rfl (by decide) dX6_copyFrom_108 (ha1.k 3 rfl) (ha1.lt 3 rfl) rfl ?_
    refine z_icmp_ge (t := 133) dX6_copyFrom_109 (by decide) (fun c5 => ?_) (fun c6 => ?_)
    · have hw7 := hw4.1 c5
      exact z_ret (v := none) dX6_copyFrom_133 rfl rfl hw7
    · have hw8 := hw4.2 c6
      refine z_aloadn dX6_copyFrom_112 rfl rfl ?_
      refine z_getRq (j := 6) zc6 dX6_copyFrom_113 (ha.k 0 rfl) (ha.lt 0 rfl) (by decide) rfl w403 (ha.r 2 rfl) ?_
      refine z_iloadn dX6_copyFrom_116 rfl rfl ?_
      have hw9 := hw8.2.2
      refine z_aald (N := 2) 5 rfl (by decide) dX6_copyFrom_117 (ha.k 3 rfl) (ha.lt 3 rfl) hw8.1 hw8.2.1 ?_
      refine z_aloadn dX6_copyFrom_118 rfl rfl ?_
      refine z_getRq (j := 6) zc6 dX6_copyFrom_119 (ha1.k 0 rfl) (ha1.lt 0 rfl) (by decide) rfl w403 (ha1.r 2 rfl) ?_
      refine z_iloadn dX6_copyFrom_122 rfl rfl ?_
      have hw10 := hw9.2.2
      refine z_aald (N := 2) 5 rfl (by decide) dX6_copyFrom_123 (ha1.k 3 rfl) (ha1.lt 3 rfl) hw9.1 hw9.2.1 ?_
      obtain ⟨b11, q12, ho13, hw14⟩ := hw10
      refine z_soP [va_rf (zR h (a1 + 3) (zix x2))] q12 ?_
      obtain ⟨P15, ct16, hw17⟩ := hw14
      refine z_callV (h := h) (S := []) (a := b11) (M := mX6_copyFrom) (As := [va_rf (zR h (a1 + 3) (zix x2))]) zc3 rfl eX3_copyFrom w959 w28 (Or.inr ⟨_, w957⟩) dX6_copyFrom_124 (ho13.k 0 rfl) (ho13.lt 0 rfl) rfl (by omega) (Nat.le_of_ble_eq_true rfl) ct16 (fun v22 g23 q19 => ?_)
      obtain ⟨I18, rfl, rfl, q19⟩ := q19
      have hw21 := hw17 I18 q19
      show Z l G _ d Q k n 127 _ ([]) _
      refine z_iinc (v := (x2 + 1)) (L' := [va_rf (some a), va_rf (some a1), .int ((x2 + 1))]) dX6_copyFrom_127 (by decide) rfl rfl rfl ?_
      refine z_goto (t := 94) dX6_copyFrom_130 (by decide) ?_
      exact hw21

theorem kX6_copyFrom {l : Launch} {G : zG} {d : Nat} {Q : Option Value → zH → Prop} {k n : Nat} {h : zH} (a : Nat) (a1 : Nat) (hz : Z l G mX6_copyFrom d Q k n 0 [va_rf (some a), va_rf (some a1), zU] [] h) : CT l G YX6_copyFrom d k n [va_rf (some a), va_rf (some a1)] h Q :=
  CT.of (by decide +kernel) (fun t e => by cases e) (by exact Nat.le_of_ble_eq_true rfl) (by exact hz)
