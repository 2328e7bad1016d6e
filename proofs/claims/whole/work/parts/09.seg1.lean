set_option maxRecDepth 4000
theorem sX1_member_0 {l : Launch} {G : zG} {d : Nat} {Q : Option Value → zH → Prop} {k n : Nat} {h : zH} (a : Nat) (x1 : Int32) (ha : lo1 h a) (hd9 : 2 ≤ d)
    (hw : (((zI h a 3).toInt ≤ x1.toInt → Q (some (va_rf none)) h) ∧ (x1.toInt < (zI h a 3).toInt → Q (some (va_rf (zslot a x1))) h))) :
    Z l G mX1_member d Q k n 0 [va_rf (some a), .int x1] [] h := by
  refine z_iloadn dX1_member_0 rfl rfl ?_
  refine z_aloadn dX1_member_1 rfl rfl ?_
  refine z_getI (j := 3) zc1 dX1_member_2 (ha.k 0 rfl) (ha.lt 0 rfl) (by decide) rfl w312 ?_
  refine z_icmp_ge (t := 16) dX1_member_5 (by decide) (fun c1 => ?_) (fun c2 => ?_)
  · have hw3 := hw.1 c1
    refine z_null dX1_member_16 ?_
    exact z_ret (v := some (va_rf none)) dX1_member_17 ⟨_, rfl⟩ rfl hw3
  · have hw4 := hw.2 c2
    refine z_aloadn dX1_member_8 rfl rfl ?_
    refine z_iloadn dX1_member_9 rfl rfl ?_
    refine z_callV (h := h) (S := []) (a := a) (M := mX1_member) (As := [.int x1]) zc1 rfl eX1_slot w899 w16 (Or.inl w1013) dX1_member_10 (ha.k 0 rfl) (ha.lt 0 rfl) rfl (by omega) (Nat.le_of_ble_eq_true rfl) (c_X1_slot l G h a x1 ha) (fun v5 g6 q7 => ?_)
    obtain ⟨rfl, q7⟩ := q7
    replace q7 := q7.symm
    subst q7
    show Z l G _ d Q k n 13 _ (va_rf (zslot a x1) :: []) _
    refine z_goto (t := 17) dX1_member_13 (by decide) ?_
    exact z_ret (v := some (va_rf (zslot a x1))) dX1_member_17 ⟨_, rfl⟩ rfl hw4

theorem kX1_member {l : Launch} {G : zG} {d : Nat} {Q : Option Value → zH → Prop} {k n : Nat} {h : zH} (a : Nat) (x1 : Int32) (hz : Z l G mX1_member d Q k n 0 [va_rf (some a), .int x1] [] h) : CT l G YX1_member d k n [va_rf (some a), .int x1] h Q :=
  CT.of (by decide +kernel) (fun t e => by have e2 : ((some (.object "ClayPrints$Person")) : Option FieldType) = some t := e; cases e2; exact ⟨by decide, by decide⟩) (by exact Nat.le_of_ble_eq_true rfl) (by exact hz)

theorem sX1_hasCell_0 {l : Launch} {G : zG} {d : Nat} {Q : Option Value → zH → Prop} {k n : Nat} {h : zH} (a : Nat) (x1 : Int32) (ha : lo1 h a) (hd9 : 2 ≤ d)
    (hw : ((x1.toInt < (0 : Int) → Q (some (.int 0)) h) ∧ ((0 : Int) ≤ x1.toInt → (((zcells h a).toInt ≤ x1.toInt → Q (some (.int 0)) h) ∧ (x1.toInt < (zcells h a).toInt → Q (some (.int 1)) h))))) :
    Z l G mX1_hasCell d Q k n 0 [va_rf (some a), .int x1] [] h := by
  refine z_iloadn dX1_hasCell_0 rfl rfl ?_
  refine z_if_lt (t := 16) dX1_hasCell_1 (by decide) (fun c1 => ?_) (fun c2 => ?_)
  · have hw3 := hw.1 c1
    refine z_iconst (v := 0) dX1_hasCell_16 (by decide) ?_
    exact z_ret (v := some (.int 0)) dX1_hasCell_17 ⟨_, rfl, by decide⟩ rfl hw3
  · have hw4 := hw.2 c2
    refine z_iloadn dX1_hasCell_4 rfl rfl ?_
    refine z_aloadn dX1_hasCell_5 rfl rfl ?_
    refine z_callV (h := h) (S := [.int x1]) (a := a) (M := mX1_hasCell) (As := []) zc1 rfl eX1_cells w930 w23 (Or.inl w928) dX1_hasCell_6 (ha.k 0 rfl) (ha.lt 0 rfl) rfl (by omega) (Nat.le_of_ble_eq_true rfl) (c_X1_cells l G h a ha) (fun v5 g6 q7 => ?_)
    obtain ⟨rfl, q7⟩ := q7
    replace q7 := q7.symm
    subst q7
    show Z l G _ d Q k n 9 _ (.int (zcells h a) :: .int x1 :: []) _
    refine z_icmp_ge (t := 16) dX1_hasCell_9 (by decide) (fun c8 => ?_) (fun c9 => ?_)
    · have hw10 := hw4.1 c8
      refine z_iconst (v := 0) dX1_hasCell_16 (by decide) ?_
      exact z_ret (v := some (.int 0)) dX1_hasCell_17 ⟨_, rfl, by decide⟩ rfl hw10
    · have hw11 := hw4.2 c9
      refine z_iconst (v := 1) dX1_hasCell_12 (by decide) ?_
      refine z_goto (t := 17) dX1_hasCell_13 (by decide) ?_
      exact z_ret (v := some (.int 1)) dX1_hasCell_17 ⟨_, rfl, by decide⟩ rfl hw11

theorem kX1_hasCell {l : Launch} {G : zG} {d : Nat} {Q : Option Value → zH → Prop} {k n : Nat} {h : zH} (a : Nat) (x1 : Int32) (hz : Z l G mX1_hasCell d Q k n 0 [va_rf (some a), .int x1] [] h) : CT l G YX1_hasCell d k n [va_rf (some a), .int x1] h Q :=
  CT.of (by decide +kernel) (fun t e => by have e2 : ((some .boolean) : Option FieldType) = some t := e; cases e2; exact ⟨by decide, by decide⟩) (by exact Nat.le_of_ble_eq_true rfl) (by exact hz)

theorem sX1_distance_0 {l : Launch} {G : zG} {d : Nat} {Q : Option Value → zH → Prop} {k n : Nat} {h : zH} (a : Nat) (x1 : Int32) (x2 : Int32) (ha : lo1 h a) (hd9 : 2 ≤ d)
    (hw : (((1 : Int) ≤ (zI h a 0).toInt → (¬ (zI h a 0) = 0 ∧ (¬ (zI h a 0) = 0 ∧ (¬ (zI h a 0) = 0 ∧ (¬ (zI h a 0) = 0 ∧ Q (some (.int (((iabs ((x1 / (zI h a 0)) - (x2 / (zI h a 0)))) + (iabs ((zrem x1 (zI h a 0)) - (zrem x2 (zI h a 0)))))))) h))))) ∧ ((zI h a 0).toInt < (1 : Int) → Q (some (.int 0)) h))) :
    Z l G mX1_distance d Q k n 0 [va_rf (some a), .int x1, .int x2] [] h := by
  refine z_aloadn dX1_distance_0 rfl rfl ?_
  refine z_getI (j := 0) zc1 dX1_distance_1 (ha.k 0 rfl) (ha.lt 0 rfl) (by decide) rfl w302 ?_
  refine z_iconst (v := 1) dX1_distance_4 (by decide) ?_
  refine z_icmp_ge (t := 10) dX1_distance_5 (by decide) (fun c1 => ?_) (fun c2 => ?_)
  · have hw3 := hw.1 c1
    refine z_iloadn dX1_distance_10 rfl rfl ?_
    refine z_aloadn dX1_distance_11 rfl rfl ?_
    refine z_getI (j := 0) zc1 dX1_distance_12 (ha.k 0 rfl) (ha.lt 0 rfl) (by decide) rfl w302 ?_
    have hw5 := hw3.2
    refine z_idiv dX1_distance_15 hw3.1 ?_
    refine z_iloadn dX1_distance_16 rfl rfl ?_
    refine z_aloadn dX1_distance_17 rfl rfl ?_
    refine z_getI (j := 0) zc1 dX1_distance_18 (ha.k 0 rfl) (ha.lt 0 rfl) (by decide) rfl w302 ?_
    have hw6 := hw5.2
    refine z_idiv dX1_distance_21 hw5.1 ?_
    refine z_isub dX1_distance_22 ?_
    refine z_abs dX1_distance_23 w1057 w1058 w186 w1059 (by omega) (Nat.le_of_ble_eq_true rfl) ?_
    show Z l G _ d Q k n 26 _ (.int ((iabs ((x1 / (zI h a 0)) - (x2 / (zI h a 0))))) :: []) _
    refine z_iloadn dX1_distance_26 rfl rfl ?_
    refine z_aloadn dX1_distance_27 rfl rfl ?_
    refine z_getI (j := 0) zc1 dX1_distance_28 (ha.k 0 rfl) (ha.lt 0 rfl) (by decide) rfl w302 ?_
    have hw7 := hw6.2
    refine z_irem dX1_distance_31 hw6.1 ?_
    refine z_iloadn dX1_distance_32 rfl rfl ?_
    refine z_aloadn dX1_distance_33 rfl rfl ?_
    refine z_getI (j := 0) zc1 dX1_distance_34 (ha.k 0 rfl) (ha.lt 0 rfl) (by decide) rfl w302 ?_
    have hw8 := hw7.2
    refine z_irem dX1_distance_37 hw7.1 ?_
    refine z_isub dX1_distance_38 ?_
    refine z_abs dX1_distance_39 w1057 w1058 w186 w1059 (by omega) (Nat.le_of_ble_eq_true rfl) ?_
    show Z l G _ d Q k n 42 _ (.int ((iabs ((zrem x1 (zI h a 0)) - (zrem x2 (zI h a 0))))) :: .int ((iabs ((x1 / (zI h a 0)) - (x2 / (zI h a 0))))) :: []) _
    refine z_iadd dX1_distance_42 ?_
    exact z_ret (v := some (.int (((iabs ((x1 / (zI h a 0)) - (x2 / (zI h a 0)))) + (iabs ((zrem x1 (zI h a 0)) - (zrem x2 (zI h a 0)))))))) dX1_distance_43 ⟨_, rfl, rfl⟩ rfl hw8
  · have hw4 := hw.2 c2
    refine z_iconst (v := 0) dX1_distance_8 (by decide) ?_
    exact z_ret (v := some (.int 0)) dX1_distance_9 ⟨_, rfl, rfl⟩ rfl hw4

theorem kX1_distance {l : Launch} {G : zG} {d : Nat} {Q : Option Value → zH → Prop} {k n : Nat} {h : zH} (a : Nat) (x1 : Int32) (x2 : Int32) (hz : Z l G mX1_distance d Q k n 0 [va_rf (some a), .int x1, .int x2] [] h) : CT l G YX1_distance d k n [va_rf (some a), .int x1, .int x2] h Q :=
  CT.of (by decide +kernel) (fun t e => by have e2 : ((some .int) : Option FieldType) = some t := e; cases e2; exact ⟨by decide, by decide⟩) (by exact Nat.le_of_ble_eq_true rfl) (by exact hz)

theorem sX2_sideAt_0 {l : Launch} {G : zG} {d : Nat} {Q : Option Value → zH → Prop} {k n : Nat} {h : zH} (a : Nat) (x1 : Int32) (ha : lo2 h a) (hd9 : 2 ≤ d)
    (hw : Q (some (.int (zget h (some (a + 1)) (imax (0 : Int32) (x1 - 1))))) h) :
    Z l G mX2_sideAt d Q k n 0 [va_rf (some a), .int x1] [] h := by
  refine z_aloadn dX2_sideAt_0 rfl rfl ?_
  refine z_getRq (j := 9) zc2 dX2_sideAt_1 (ha.k 0 rfl) (ha.lt 0 rfl) (by decide) rfl w263 (ha.r 0 rfl) ?_
  refine z_iconst (v := 0) dX2_sideAt_4 (by decide) ?_
  refine z_iloadn dX2_sideAt_5 rfl rfl ?_
  refine z_iconst (v := 1) dX2_sideAt_6 (by decide) ?_
  refine z_isub dX2_sideAt_7 ?_
  refine z_max dX2_sideAt_8 w1026 w906 w186 w907 (by omega) (Nat.le_of_ble_eq_true rfl) ?_
  show Z l G _ d Q k n 11 _ (.int ((imax (0 : Int32) (x1 - 1))) :: va_rf (some (a + 1)) :: []) _
  refine z_callS (h := h) (S := []) (M := mX2_sideAt) (As := [va_rf (some (a + 1)), .int ((imax (0 : Int32) (x1 - 1)))]) eX10_get w778 (Or.inr ⟨_, w1027⟩) dX2_sideAt_11 rfl (by omega) (Nat.le_of_ble_eq_true rfl) (c_X10_get l G h (some (a + 1)) (imax (0 : Int32) (x1 - 1)) (zgok_lo (ha.w 1 rfl) (by decide))) (fun v1 g2 q3 => ?_)
  obtain ⟨rfl, q3⟩ := q3
  replace q3 := q3.symm
  subst q3
  show Z l G _ d Q k n 14 _ (.int (zget h (some (a + 1)) (imax (0 : Int32) (x1 - 1))) :: []) _
  exact z_ret (v := some (.int (zget h (some (a + 1)) (imax (0 : Int32) (x1 - 1))))) dX2_sideAt_14 ⟨_, rfl, rfl⟩ rfl hw

theorem kX2_sideAt {l : Launch} {G : zG} {d : Nat} {Q : Option Value → zH → Prop} {k n : Nat} {h : zH} (a : Nat) (x1 : Int32) (hz : Z l G mX2_sideAt d Q k n 0 [va_rf (some a), .int x1] [] h) : CT l G YX2_sideAt d k n [va_rf (some a), .int x1] h Q :=
  CT.of (by decide +kernel) (fun t e => by have e2 : ((some .int) : Option FieldType) = some t := e; cases e2; exact ⟨by decide, by decide⟩) (by exact Nat.le_of_ble_eq_true rfl) (by exact hz)

theorem sX2_depthUnder_0 {l : Launch} {G : zG} {d : Nat} {Q : Option Value → zH → Prop} {k n : Nat} {h : zH} (a : Nat) (x1 : Int32) (x2 : Int32) (ha : lo2 h a) (hd9 : 2 ≤ d)
    (hw : ((¬ zI h a 3 = (x2 + 1) → Q (some (.int x1)) h) ∧ (zI h a 3 = (x2 + 1) → Q (some (.int ((imax (1 : Int32) (x1 / (2 : Int32)))))) h))) :
    Z l G mX2_depthUnder d Q k n 0 [va_rf (some a), .int x1, .int x2] [] h := by
  refine z_aloadn dX2_depthUnder_0 rfl rfl ?_
  refine z_getI (j := 3) zc2 dX2_depthUnder_1 (ha.k 0 rfl) (ha.lt 0 rfl) (by decide) rfl w237 ?_
  refine z_iloadn dX2_depthUnder_4 rfl rfl ?_
  refine z_iconst (v := 1) dX2_depthUnder_5 (by decide) ?_
  refine z_iadd dX2_depthUnder_6 ?_
  refine z_icmp_ne (t := 20) dX2_depthUnder_7 (by decide) (fun c1 => ?_) (fun c2 => ?_)
  · have hw3 := hw.1 c1
    refine z_iloadn dX2_depthUnder_20 rfl rfl ?_
    exact z_ret (v := some (.int x1)) dX2_depthUnder_21 ⟨_, rfl, rfl⟩ rfl hw3
  · have hw4 := hw.2 c2
    refine z_iconst (v := 1) dX2_depthUnder_10 (by decide) ?_
    refine z_iloadn dX2_depthUnder_11 rfl rfl ?_
    refine z_iconst (v := 2) dX2_depthUnder_12 (by decide) ?_
    refine z_idiv dX2_depthUnder_13 (by decide) ?_
    refine z_max dX2_depthUnder_14 w1026 w906 w186 w907 (by omega) (Nat.le_of_ble_eq_true rfl) ?_
    show Z l G _ d Q k n 17 _ (.int ((imax (1 : Int32) (x1 / (2 : Int32)))) :: []) _
    refine z_goto (t := 21) dX2_depthUnder_17 (by decide) ?_
    exact z_ret (v := some (.int ((imax (1 : Int32) (x1 / (2 : Int32)))))) dX2_depthUnder_21 ⟨_, rfl, rfl⟩ rfl hw4

theorem kX2_depthUnder {l : Launch} {G : zG} {d : Nat} {Q : Option Value → zH → Prop} {k n : Nat} {h : zH} (a : Nat) (x1 : Int32) (x2 : Int32) (hz : Z l G mX2_depthUnder d Q k n 0 [va_rf (some a), .int x1, .int x2] [] h) : CT l G YX2_depthUnder d k n [va_rf (some a), .int x1, .int x2] h Q :=
  CT.of (by decide +kernel) (fun t e => by have e2 : ((some .int) : Option FieldType) = some t := e; cases e2; exact ⟨by decide, by decide⟩) (by exact Nat.le_of_ble_eq_true rfl) (by exact hz)

theorem sX9_costAt_0 {l : Launch} {G : zG} {d : Nat} {Q : Option Value → zH → Prop} {k n : Nat} {h : zH} (a : Nat) (x1 : Int32) (x2 : Int32) (ha : lo9 h a) (hd9 : 2 ≤ d)
    (hw : ((¬ x2 = (-1) → Q (some (.int (zget h (some (a + 2)) ((x1 * 64) + x2)))) h) ∧ (x2 = (-1) → Q (some (.int 1000)) h))) :
    Z l G mX9_costAt d Q k n 0 [va_rf (some a), .int x1, .int x2] [] h := by
  refine z_iloadn dX9_costAt_0 rfl rfl ?_
  refine z_iconst (v := (-1)) dX9_costAt_1 (by decide) ?_
  refine z_icmp_ne (t := 11) dX9_costAt_2 (by decide) (fun c1 => ?_) (fun c2 => ?_)
  · have hw3 := hw.1 c1
    refine z_aloadn dX9_costAt_11 rfl rfl ?_
    refine z_getRq (j := 8) zc9 dX9_costAt_12 (ha.k 0 rfl) (ha.lt 0 rfl) (by decide) rfl w554 (ha.r 1 rfl) ?_
    refine z_iloadn dX9_costAt_15 rfl rfl ?_
    refine z_bipush (v := 64) dX9_costAt_16 (by decide) ?_
    refine z_imul dX9_costAt_18 ?_
    refine z_iloadn dX9_costAt_19 rfl rfl ?_
    refine z_iadd dX9_costAt_20 ?_
    refine z_callS (h := h) (S := []) (M := mX9_costAt) (As := [va_rf (some (a + 2)), .int (((x1 * 64) + x2))]) eX10_get w778 (Or.inr ⟨_, w1305⟩) dX9_costAt_21 rfl (by omega) (Nat.le_of_ble_eq_true rfl) (c_X10_get l G h (some (a + 2)) ((x1 * 64) + x2) (zgok_lo (ha.w 2 rfl) (by decide))) (fun v5 g6 q7 => ?_)
    obtain ⟨rfl, q7⟩ := q7
    replace q7 := q7.symm
    subst q7
    show Z l G _ d Q k n 24 _ (.int (zget h (some (a + 2)) ((x1 * 64) + x2)) :: []) _
    exact z_ret (v := some (.int (zget h (some (a + 2)) ((x1 * 64) + x2)))) dX9_costAt_24 ⟨_, rfl, rfl⟩ rfl hw3
  · have hw4 := hw.2 c2
    refine z_sipush (v := 1000) dX9_costAt_5 (by decide) ?_
    refine z_goto (t := 24) dX9_costAt_8 (by decide) ?_
    exact z_ret (v := some (.int 1000)) dX9_costAt_24 ⟨_, rfl, rfl⟩ rfl hw4

theorem kX9_costAt {l : Launch} {G : zG} {d : Nat} {Q : Option Value → zH → Prop} {k n : Nat} {h : zH} (a : Nat) (x1 : Int32) (x2 : Int32) (hz : Z l G mX9_costAt d Q k n 0 [va_rf (some a), .int x1, .int x2] [] h) : CT l G YX9_costAt d k n [va_rf (some a), .int x1, .int x2] h Q :=
  CT.of (by decide +kernel) (fun t e => by have e2 : ((some .int) : Option FieldType) = some t := e; cases e2; exact ⟨by decide, by decide⟩) (by exact Nat.le_of_ble_eq_true rfl) (by exact hz)

theorem sX10_raise_0 {l : Launch} {G : zG} {d : Nat} {Q : Option Value → zH → Prop} {k n : Nat} {h : zH} (r0 : Option Nat) (x1 : Int32)  (hd9 : 2 ≤ d)
    (hw : ((zgok h r0) ∧ ((zpok h r0) ∧ (∀ I9 : Nat → Nat → Int32, I9 = (zput h r0 x1 ((zget h r0 x1) + 1)).1 → Q none (I9, h.2))))) :
    Z l G mX10_raise d Q k n 0 [va_rf r0, .int x1] [] h := by
  refine z_aloadn dX10_raise_0 rfl rfl ?_
  refine z_iloadn dX10_raise_1 rfl rfl ?_
  refine z_aloadn dX10_raise_2 rfl rfl ?_
  refine z_iloadn dX10_raise_3 rfl rfl ?_
  have hw1 := hw.2
  refine z_callS (h := h) (S := [.int x1, va_rf r0]) (M := mX10_raise) (As := [va_rf r0, .int x1]) eX10_get w778 (Or.inl w1101) dX10_raise_4 rfl (by omega) (Nat.le_of_ble_eq_true rfl) (c_X10_get l G h r0 x1 hw.1) (fun v2 g3 q4 => ?_)
  obtain ⟨rfl, q4⟩ := q4
  replace q4 := q4.symm
  subst q4
  show Z l G _ d Q k n 7 _ (.int (zget h r0 x1) :: .int x1 :: va_rf r0 :: []) _
  refine z_iconst (v := 1) dX10_raise_7 (by decide) ?_
  refine z_iadd dX10_raise_8 ?_
  have hw5 := hw1.2
  refine z_callS (h := h) (S := []) (M := mX10_raise) (As := [va_rf r0, .int x1, .int (((zget h r0 x1) + 1))]) eX10_put w754 (Or.inl w1102) dX10_raise_9 rfl (by omega) (Nat.le_of_ble_eq_true rfl) (c_X10_put l G h r0 x1 ((zget h r0 x1) + 1) hw1.1) (fun v6 g7 q8 => ?_)
  obtain ⟨rfl, q8⟩ := q8
  replace q8 := q8.symm
  subst q8
  refine z_nm (r := h.2) rfl (fun I9 e10 => ?_)
  have hw11 := hw5 I9 e10
  exact z_ret (v := none) dX10_raise_12 rfl rfl hw11

theorem kX10_raise {l : Launch} {G : zG} {d : Nat} {Q : Option Value → zH → Prop} {k n : Nat} {h : zH} (r0 : Option Nat) (x1 : Int32) (hz : Z l G mX10_raise d Q k n 0 [va_rf r0, .int x1] [] h) : CT l G YX10_raise d k n [va_rf r0, .int x1] h Q :=
  CT.of (by decide +kernel) (fun t e => by cases e) (by cases r0 <;> exact Nat.le_of_ble_eq_true rfl) (by cases r0 <;> exact hz)

theorem sX11_people_0 {l : Launch} {G : zG} {d : Nat} {Q : Option Value → zH → Prop} {k n : Nat} {h : zH} (a : Nat) (ha : lo11 h a) (hd9 : 2 ≤ d)
    (hw : ((zofk h a (3 : Int32)) ∧ Q (some (.int (zof h a (3 : Int32)))) h)) :
    Z l G mX11_people d Q k n 0 [va_rf (some a)] [] h := by
  refine z_aloadn dX11_people_0 rfl rfl ?_
  refine z_iconst (v := 3) dX11_people_1 (by decide) ?_
  have hw1 := hw.2
  refine z_callV (h := h) (S := []) (a := a) (M := mX11_people) (As := [.int 3]) zc11 rfl eX11_of w1732 w120 (Or.inl w1730) dX11_people_2 (ha.k 0 rfl) (ha.lt 0 rfl) rfl (by omega) (Nat.le_of_ble_eq_true rfl) (c_X11_of l G h a (3 : Int32) ha hw.1) (fun v2 g3 q4 => ?_)
  obtain ⟨rfl, q4⟩ := q4
  replace q4 := q4.symm
  subst q4
  show Z l G _ d Q k n 5 _ (.int (zof h a (3 : Int32)) :: []) _
  exact z_ret (v := some (.int (zof h a (3 : Int32)))) dX11_people_5 ⟨_, rfl, rfl⟩ rfl hw1

theorem kX11_people {l : Launch} {G : zG} {d : Nat} {Q : Option Value → zH → Prop} {k n : Nat} {h : zH} (a : Nat) (hz : Z l G mX11_people d Q k n 0 [va_rf (some a)] [] h) : CT l G YX11_people d k n [va_rf (some a)] h Q :=
  CT.of (by decide +kernel) (fun t e => by have e2 : ((some .int) : Option FieldType) = some t := e; cases e2; exact ⟨by decide, by decide⟩) (by exact Nat.le_of_ble_eq_true rfl) (by exact hz)

theorem sX11_cells_0 {l : Launch} {G : zG} {d : Nat} {Q : Option Value → zH → Prop} {k n : Nat} {h : zH} (a : Nat) (ha : lo11 h a) (hd9 : 2 ≤ d)
    (hw : ((zofk h a (0 : Int32)) ∧ ((zofk h a (1 : Int32)) ∧ Q (some (.int (((zof h a (0 : Int32)) * (zof h a (1 : Int32)))))) h))) :
    Z l G mX11_cells d Q k n 0 [va_rf (some a)] [] h := by
  refine z_aloadn dX11_cells_0 rfl rfl ?_
  refine z_iconst (v := 0) dX11_cells_1 (by decide) ?_
  have hw1 := hw.2
  refine z_callV (h := h) (S := []) (a := a) (M := mX11_cells) (As := [.int 0]) zc11 rfl eX11_of w1732 w120 (Or.inl w1730) dX11_cells_2 (ha.k 0 rfl) (ha.lt 0 rfl) rfl (by omega) (Nat.le_of_ble_eq_true rfl) (c_X11_of l G h a (0 : Int32) ha hw.1) (fun v2 g3 q4 => ?_)
  obtain ⟨rfl, q4⟩ := q4
  replace q4 := q4.symm
  subst q4
  show Z l G _ d Q k n 5 _ (.int (zof h a (0 : Int32)) :: []) _
  refine z_aloadn dX11_cells_5 rfl rfl ?_
  refine z_iconst (v := 1) dX11_cells_6 (by decide) ?_
  have hw5 := hw1.2
  refine z_callV (h := h) (S := [.int (zof h a (0 : Int32))]) (a := a) (M := mX11_cells) (As := [.int 1]) zc11 rfl eX11_of w1732 w120 (Or.inl w1730) dX11_cells_7 (ha.k 0 rfl) (ha.lt 0 rfl) rfl (by omega) (Nat.le_of_ble_eq_true rfl) (c_X11_of l G h a (1 : Int32) ha hw1.1) (fun v6 g7 q8 => ?_)
  obtain ⟨rfl, q8⟩ := q8
  replace q8 := q8.symm
  subst q8
  show Z l G _ d Q k n 10 _ (.int (zof h a (1 : Int32)) :: .int (zof h a (0 : Int32)) :: []) _
  refine z_imul dX11_cells_10 ?_
  exact z_ret (v := some (.int (((zof h a (0 : Int32)) * (zof h a (1 : Int32)))))) dX11_cells_11 ⟨_, rfl, rfl⟩ rfl hw5

theorem kX11_cells {l : Launch} {G : zG} {d : Nat} {Q : Option Value → zH → Prop} {k n : Nat} {h : zH} (a : Nat) (hz : Z l G mX11_cells d Q k n 0 [va_rf (some a)] [] h) : CT l G YX11_cells d k n [va_rf (some a)] h Q :=
  CT.of (by decide +kernel) (fun t e => by have e2 : ((some .int) : Option FieldType) = some t := e; cases e2; exact ⟨by decide, by decide⟩) (by exact Nat.le_of_ble_eq_true rfl) (by exact hz)

theorem sX11_isOf_0 {l : Launch} {G : zG} {d : Nat} {Q : Option Value → zH → Prop} {k n : Nat} {h : zH} (a : Nat) (x1 : Int32) (x2 : Int32) (ha : lo11 h a) (hd9 : 2 ≤ d)
    (hw : (0 ≤ x1.toInt ∧ x1.toInt < ((5392 : Nat) : Int) ∧ Q (some (.int (zb (zin3 x2 (0 : Int32) ((zI h (a + 1) (zix x1)) - 1))))) h)) :
    Z l G mX11_isOf d Q k n 0 [va_rf (some a), .int x1, .int x2] [] h := by
  refine z_iloadn dX11_isOf_0 rfl rfl ?_
  refine z_iconst (v := 0) dX11_isOf_1 (by decide) ?_
  refine z_aloadn dX11_isOf_2 rfl rfl ?_
  refine z_getRq (j := 0) zc11 dX11_isOf_3 (ha.k 0 rfl) (ha.lt 0 rfl) (by decide) rfl w1459 (ha.r 0 rfl) ?_
  refine z_iloadn dX11_isOf_6 rfl rfl ?_
  have hw1 := hw.2.2
  refine z_iald (N := 5392) dX11_isOf_7 (ha.w 1 rfl).r hw.1 hw.2.1 ?_
  refine z_iconst (v := 1) dX11_isOf_8 (by decide) ?_
  refine z_isub dX11_isOf_9 ?_
  refine z_callS (h := h) (S := []) (M := mX11_isOf) (As := [.int x2, .int 0, .int (((zI h (a + 1) (zix x1)) - 1))]) eX11_isIn w1623 (Or.inl w1622) dX11_isOf_10 rfl (by omega) (Nat.le_of_ble_eq_true rfl) (c_X11_isIn l G h x2 (0 : Int32) ((zI h (a + 1) (zix x1)) - 1)) (fun v2 g3 q4 => ?_)
  obtain ⟨rfl, q4⟩ := q4
  replace q4 := q4.symm
  subst q4
  show Z l G _ d Q k n 13 _ (.int (zb (zin3 x2 (0 : Int32) ((zI h (a + 1) (zix x1)) - 1))) :: []) _
  exact z_ret (v := some (.int (zb (zin3 x2 (0 : Int32) ((zI h (a + 1) (zix x1)) - 1))))) dX11_isOf_13 (zb_fit _) rfl hw1

theorem kX11_isOf {l : Launch} {G : zG} {d : Nat} {Q : Option Value → zH → Prop} {k n : Nat} {h : zH} (a : Nat) (x1 : Int32) (x2 : Int32) (hz : Z l G mX11_isOf d Q k n 0 [va_rf (some a), .int x1, .int x2] [] h) : CT l G YX11_isOf d k n [va_rf (some a), .int x1, .int x2] h Q :=
  CT.of (by decide +kernel) (fun t e => by have e2 : ((some .boolean) : Option FieldType) = some t := e; cases e2; exact ⟨by decide, by decide⟩) (by exact Nat.le_of_ble_eq_true rfl) (by exact hz)

theorem sX11_isMinute_0 {l : Launch} {G : zG} {d : Nat} {Q : Option Value → zH → Prop} {k n : Nat} {h : zH} (a : Nat) (x1 : Int32) (ha : lo11 h a) (hd9 : 2 ≤ d)
    (hw : Q (some (.int (zb (zin3 x1 (0 : Int32) (99 : Int32))))) h) :
    Z l G mX11_isMinute d Q k n 0 [va_rf (some a), .int x1] [] h := by
  refine z_iloadn dX11_isMinute_0 rfl rfl ?_
  refine z_iconst (v := 0) dX11_isMinute_1 (by decide) ?_
  refine z_bipush (v := 99) dX11_isMinute_2 (by decide) ?_
  refine z_callS (h := h) (S := []) (M := mX11_isMinute) (As := [.int x1, .int 0, .int 99]) eX11_isIn w1623 (Or.inl w1622) dX11_isMinute_4 rfl (by omega) (Nat.le_of_ble_eq_true rfl) (c_X11_isIn l G h x1 (0 : Int32) (99 : Int32)) (fun v1 g2 q3 => ?_)
  obtain ⟨rfl, q3⟩ := q3
  replace q3 := q3.symm
  subst q3
  show Z l G _ d Q k n 7 _ (.int (zb (zin3 x1 (0 : Int32) (99 : Int32))) :: []) _
  exact z_ret (v := some (.int (zb (zin3 x1 (0 : Int32) (99 : Int32))))) dX11_isMinute_7 (zb_fit _) rfl hw

theorem kX11_isMinute {l : Launch} {G : zG} {d : Nat} {Q : Option Value → zH → Prop} {k n : Nat} {h : zH} (a : Nat) (x1 : Int32) (hz : Z l G mX11_isMinute d Q k n 0 [va_rf (some a), .int x1] [] h) : CT l G YX11_isMinute d k n [va_rf (some a), .int x1] h Q :=
  CT.of (by decide +kernel) (fun t e => by have e2 : ((some .boolean) : Option FieldType) = some t := e; cases e2; exact ⟨by decide, by decide⟩) (by exact Nat.le_of_ble_eq_true rfl) (by exact hz)

theorem sX11_soleOf_0 {l : Launch} {G : zG} {d : Nat} {Q : Option Value → zH → Prop} {k n : Nat} {h : zH} (a : Nat) (x1 : Int32) (ha : lo11 h a) (hd9 : 2 ≤ d)
    (hw : ((¬ x1 = zI h a 14 → ((ztok h a x1 (0 : Int32)) ∧ Q (some (.int (ztold h a x1 (0 : Int32)))) h)) ∧ (x1 = zI h a 14 → Q (some (.int (zI h a 15))) h))) :
    Z l G mX11_soleOf d Q k n 0 [va_rf (some a), .int x1] [] h := by
  refine z_iloadn dX11_soleOf_0 rfl rfl ?_
  refine z_aloadn dX11_soleOf_1 rfl rfl ?_
  refine z_getI (j := 14) zc11 dX11_soleOf_2 (ha.k 0 rfl) (ha.lt 0 rfl) (by decide) rfl w1473 ?_
  refine z_icmp_ne (t := 15) dX11_soleOf_5 (by decide) (fun c1 => ?_) (fun c2 => ?_)
  · have hw3 := hw.1 c1
    refine z_aloadn dX11_soleOf_15 rfl rfl ?_
    refine z_iloadn dX11_soleOf_16 rfl rfl ?_
    refine z_iconst (v := 0) dX11_soleOf_17 (by decide) ?_
    have hw5 := hw3.2
    refine z_callV (h := h) (S := []) (a := a) (M := mX11_soleOf) (As := [.int x1, .int 0]) zc11 rfl eX11_told w1752 w124 (Or.inl w1750) dX11_soleOf_18 (ha.k 0 rfl) (ha.lt 0 rfl) rfl (by omega) (Nat.le_of_ble_eq_true rfl) (c_X11_told l G h a x1 (0 : Int32) ha hw3.1) (fun v6 g7 q8 => ?_)
    obtain ⟨rfl, q8⟩ := q8
    replace q8 := q8.symm
    subst q8
    show Z l G _ d Q k n 21 _ (.int (ztold h a x1 (0 : Int32)) :: []) _
    exact z_ret (v := some (.int (ztold h a x1 (0 : Int32)))) dX11_soleOf_21 ⟨_, rfl, rfl⟩ rfl hw5
  · have hw4 := hw.2 c2
    refine z_aloadn dX11_soleOf_8 rfl rfl ?_
    refine z_getI (j := 15) zc11 dX11_soleOf_9 (ha.k 0 rfl) (ha.lt 0 rfl) (by decide) rfl w1474 ?_
    refine z_goto (t := 21) dX11_soleOf_12 (by decide) ?_
    exact z_ret (v := some (.int (zI h a 15))) dX11_soleOf_21 ⟨_, rfl, rfl⟩ rfl hw4

theorem kX11_soleOf {l : Launch} {G : zG} {d : Nat} {Q : Option Value → zH → Prop} {k n : Nat} {h : zH} (a : Nat) (x1 : Int32) (hz : Z l G mX11_soleOf d Q k n 0 [va_rf (some a), .int x1] [] h) : CT l G YX11_soleOf d k n [va_rf (some a), .int x1] h Q :=
  CT.of (by decide +kernel) (fun t e => by have e2 : ((some .int) : Option FieldType) = some t := e; cases e2; exact ⟨by decide, by decide⟩) (by exact Nat.le_of_ble_eq_true rfl) (by exact hz)

theorem sX11_carrierOf_0 {l : Launch} {G : zG} {d : Nat} {Q : Option Value → zH → Prop} {k n : Nat} {h : zH} (a : Nat) (x1 : Int32) (ha : lo11 h a) (hd9 : 2 ≤ d)
    (hw : ((¬ x1 = zI h a 18 → ((ztok h a x1 (5 : Int32)) ∧ Q (some (.int (ztold h a x1 (5 : Int32)))) h)) ∧ (x1 = zI h a 18 → Q (some (.int (zI h a 19))) h))) :
    Z l G mX11_carrierOf d Q k n 0 [va_rf (some a), .int x1] [] h := by
  refine z_iloadn dX11_carrierOf_0 rfl rfl ?_
  refine z_aloadn dX11_carrierOf_1 rfl rfl ?_
  refine z_getI (j := 18) zc11 dX11_carrierOf_2 (ha.k 0 rfl) (ha.lt 0 rfl) (by decide) rfl w1477 ?_
  refine z_icmp_ne (t := 15) dX11_carrierOf_5 (by decide) (fun c1 => ?_) (fun c2 => ?_)
  · have hw3 := hw.1 c1
    refine z_aloadn dX11_carrierOf_15 rfl rfl ?_
    refine z_iloadn dX11_carrierOf_16 rfl rfl ?_
    refine z_iconst (v := 5) dX11_carrierOf_17 (by decide) ?_
    have hw5 := hw3.2
    refine z_callV (h := h) (S := []) (a := a) (M := mX11_carrierOf) (As := [.int x1, .int 5]) zc11 rfl eX11_told w1752 w124 (Or.inl w1750) dX11_carrierOf_18 (ha.k 0 rfl) (ha.lt 0 rfl) rfl (by omega) (Nat.le_of_ble_eq_true rfl) (c_X11_told l G h a x1 (5 : Int32) ha hw3.1) (fun v6 g7 q8 => ?_)
    obtain ⟨rfl, q8⟩ := q8
    replace q8 := q8.symm
    subst q8
    show Z l G _ d Q k n 21 _ (.int (ztold h a x1 (5 : Int32)) :: []) _
    exact z_ret (v := some (.int (ztold h a x1 (5 : Int32)))) dX11_carrierOf_21 ⟨_, rfl, rfl⟩ rfl hw5
  · have hw4 := hw.2 c2
    refine z_aloadn dX11_carrierOf_8 rfl rfl ?_
    refine z_getI (j := 19) zc11 dX11_carrierOf_9 (ha.k 0 rfl) (ha.lt 0 rfl) (by decide) rfl w1478 ?_
    refine z_goto (t := 21) dX11_carrierOf_12 (by decide) ?_
    exact z_ret (v := some (.int (zI h a 19))) dX11_carrierOf_21 ⟨_, rfl, rfl⟩ rfl hw4

theorem kX11_carrierOf {l : Launch} {G : zG} {d : Nat} {Q : Option Value → zH → Prop} {k n : Nat} {h : zH} (a : Nat) (x1 : Int32) (hz : Z l G mX11_carrierOf d Q k n 0 [va_rf (some a), .int x1] [] h) : CT l G YX11_carrierOf d k n [va_rf (some a), .int x1] h Q :=
  CT.of (by decide +kernel) (fun t e => by have e2 : ((some .int) : Option FieldType) = some t := e; cases e2; exact ⟨by decide, by decide⟩) (by exact Nat.le_of_ble_eq_true rfl) (by exact hz)

theorem sX11_minuteOf_0 {l : Launch} {G : zG} {d : Nat} {Q : Option Value → zH → Prop} {k n : Nat} {h : zH} (a : Nat) (x1 : Int32) (ha : lo11 h a) (hd9 : 2 ≤ d)
    (hw : ((¬ x1 = zI h a 16 → ((ztok h a x1 (7 : Int32)) ∧ Q (some (.int (ztold h a x1 (7 : Int32)))) h)) ∧ (x1 = zI h a 16 → Q (some (.int (zI h a 17))) h))) :
    Z l G mX11_minuteOf d Q k n 0 [va_rf (some a), .int x1] [] h := by
  refine z_iloadn dX11_minuteOf_0 rfl rfl ?_
  refine z_aloadn dX11_minuteOf_1 rfl rfl ?_
  refine z_getI (j := 16) zc11 dX11_minuteOf_2 (ha.k 0 rfl) (ha.lt 0 rfl) (by decide) rfl w1475 ?_
  refine z_icmp_ne (t := 15) dX11_minuteOf_5 (by decide) (fun c1 => ?_) (fun c2 => ?_)
  · have hw3 := hw.1 c1
    refine z_aloadn dX11_minuteOf_15 rfl rfl ?_
    refine z_iloadn dX11_minuteOf_16 rfl rfl ?_
    refine z_bipush (v := 7) dX11_minuteOf_17 (by decide) ?_
    have hw5 := hw3.2
    refine z_callV (h := h) (S := []) (a := a) (M := mX11_minuteOf) (As := [.int x1, .int 7]) zc11 rfl eX11_told w1752 w124 (Or.inl w1750) dX11_minuteOf_19 (ha.k 0 rfl) (ha.lt 0 rfl) rfl (by omega) (Nat.le_of_ble_eq_true rfl) (c_X11_told l G h a x1 (7 : Int32) ha hw3.1) (fun v6 g7 q8 => ?_)
    obtain ⟨rfl, q8⟩ := q8
    replace q8 := q8.symm
    subst q8
    show Z l G _ d Q k n 22 _ (.int (ztold h a x1 (7 : Int32)) :: []) _
    exact z_ret (v := some (.int (ztold h a x1 (7 : Int32)))) dX11_minuteOf_22 ⟨_, rfl, rfl⟩ rfl hw5
  · have hw4 := hw.2 c2
    refine z_aloadn dX11_minuteOf_8 rfl rfl ?_
    refine z_getI (j := 17) zc11 dX11_minuteOf_9 (ha.k 0 rfl) (ha.lt 0 rfl) (by decide) rfl w1476 ?_
    refine z_goto (t := 22) dX11_minuteOf_12 (by decide) ?_
    exact z_ret (v := some (.int (zI h a 17))) dX11_minuteOf_22 ⟨_, rfl, rfl⟩ rfl hw4

theorem kX11_minuteOf {l : Launch} {G : zG} {d : Nat} {Q : Option Value → zH → Prop} {k n : Nat} {h : zH} (a : Nat) (x1 : Int32) (hz : Z l G mX11_minuteOf d Q k n 0 [va_rf (some a), .int x1] [] h) : CT l G YX11_minuteOf d k n [va_rf (some a), .int x1] h Q :=
  CT.of (by decide +kernel) (fun t e => by have e2 : ((some .int) : Option FieldType) = some t := e; cases e2; exact ⟨by decide, by decide⟩) (by exact Nat.le_of_ble_eq_true rfl) (by exact hz)

theorem sX11_errandOf_0 {l : Launch} {G : zG} {d : Nat} {Q : Option Value → zH → Prop} {k n : Nat} {h : zH} (a : Nat) (x1 : Int32) (x2 : Int32) (ha : lo11 h a) (hd9 : 2 ≤ d)
    (hw : ((zofk h a ((105 + (3 * x1)) + x2)) ∧ Q (some (.int (zof h a ((105 + (3 * x1)) + x2)))) h)) :
    Z l G mX11_errandOf d Q k n 0 [va_rf (some a), .int x1, .int x2] [] h := by
  refine z_aloadn dX11_errandOf_0 rfl rfl ?_
  refine z_bipush (v := 105) dX11_errandOf_1 (by decide) ?_
  refine z_iconst (v := 3) dX11_errandOf_3 (by decide) ?_
  refine z_iloadn dX11_errandOf_4 rfl rfl ?_
  refine z_imul dX11_errandOf_5 ?_
  refine z_iadd dX11_errandOf_6 ?_
  refine z_iloadn dX11_errandOf_7 rfl rfl ?_
  refine z_iadd dX11_errandOf_8 ?_
  have hw1 := hw.2
  refine z_callV (h := h) (S := []) (a := a) (M := mX11_errandOf) (As := [.int (((105 + (3 * x1)) + x2))]) zc11 rfl eX11_of w1732 w120 (Or.inl w1730) dX11_errandOf_9 (ha.k 0 rfl) (ha.lt 0 rfl) rfl (by omega) (Nat.le_of_ble_eq_true rfl) (c_X11_of l G h a ((105 + (3 * x1)) + x2) ha hw.1) (fun v2 g3 q4 => ?_)
  obtain ⟨rfl, q4⟩ := q4
  replace q4 := q4.symm
  subst q4
  show Z l G _ d Q k n 12 _ (.int (zof h a ((105 + (3 * x1)) + x2)) :: []) _
  exact z_ret (v := some (.int (zof h a ((105 + (3 * x1)) + x2)))) dX11_errandOf_12 ⟨_, rfl, rfl⟩ rfl hw1

theorem kX11_errandOf {l : Launch} {G : zG} {d : Nat} {Q : Option Value → zH → Prop} {k n : Nat} {h : zH} (a : Nat) (x1 : Int32) (x2 : Int32) (hz : Z l G mX11_errandOf d Q k n 0 [va_rf (some a), .int x1, .int x2] [] h) : CT l G YX11_errandOf d k n [va_rf (some a), .int x1, .int x2] h Q :=
  CT.of (by decide +kernel) (fun t e => by have e2 : ((some .int) : Option FieldType) = some t := e; cases e2; exact ⟨by decide, by decide⟩) (by exact Nat.le_of_ble_eq_true rfl) (by exact hz)
