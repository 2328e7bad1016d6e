set_option maxRecDepth 4000
theorem los_5_1 {h : zH} {a : Nat} (q : lo5 h a) : lo1 h (a + 1) := zlo.sub q 1 (by decide +kernel) (by decide +kernel) (by decide +kernel)
theorem los_10_1 {h : zH} {a : Nat} (q : lo10 h a) : lo6 h (a + 1) := zlo.sub q 1 (by decide +kernel) (by decide +kernel) (by decide +kernel)
theorem los_10_95 {h : zH} {a : Nat} (q : lo10 h a) : lo1 h (a + 95) := zlo.sub q 95 (by decide +kernel) (by decide +kernel) (by decide +kernel)
theorem sX0_hidden_0 {l : Launch} {G : zG} {d : Nat} {Q : Option Value → zH → Prop} {k n : Nat} {h : zH} (a : Nat) (ha : lo0 h a) (hd9 : 1 ≤ d)
    (hw : Z l G mX0_hidden d Q k n 7 [va_rf (some a), .int (zI h a 0), .int 0] [] h) :
    Z l G mX0_hidden d Q k n 0 [va_rf (some a), zU, zU] [] h := by
  refine z_aloadn dX0_hidden_0 rfl rfl ?_
  refine z_getI (j := 0) zc0 dX0_hidden_1 (ha.k 0 rfl) (ha.lt 0 rfl) (by decide) rfl w485 ?_
  refine z_istoren (L' := [va_rf (some a), .int (zI h a 0), zU]) dX0_hidden_4 rfl (by decide) rfl ?_
  refine z_iconst (v := 0) dX0_hidden_5 (by decide) ?_
  refine z_istoren (L' := [va_rf (some a), .int (zI h a 0), .int 0]) dX0_hidden_6 rfl (by decide) rfl ?_
  exact hw

theorem sX0_hidden_7 {l : Launch} {G : zG} {d : Nat} {Q : Option Value → zH → Prop} {k n : Nat} {h : zH} (a : Nat) (x1 : Int32) (x2 : Int32) (ha : lo0 h a) (hd9 : 1 ≤ d)
    (hw : (((64 : Int) ≤ x2.toInt → Q (some (.int x1)) h) ∧ (x2.toInt < (64 : Int) → (0 ≤ x2.toInt ∧ x2.toInt < ((64 : Nat) : Int) ∧ ((zI h (a + 7) (zix x2) = (-1) → Z l G mX0_hidden d Q k n 7 [va_rf (some a), .int x1, .int ((x2 + 1))] [] h) ∧ (¬ zI h (a + 7) (zix x2) = (-1) → Z l G mX0_hidden d Q k n 7 [va_rf (some a), .int ((x1 + (-1))), .int ((x2 + 1))] [] h)))))) :
    Z l G mX0_hidden d Q k n 7 [va_rf (some a), .int x1, .int x2] [] h := by
  refine z_iloadn dX0_hidden_7 rfl rfl ?_
  refine z_aloadn dX0_hidden_8 rfl rfl ?_
  refine z_getRq (j := 7) zc0 dX0_hidden_9 (ha.k 0 rfl) (ha.lt 0 rfl) (by decide) rfl w493 (ha.r 6 rfl) ?_
  refine z_alen (v := 64) dX0_hidden_12 (ha.w 7 rfl).r rfl ?_
  refine z_icmp_ge (t := 35) dX0_hidden_13 (by decide) (fun c1 => ?_) (fun c2 => ?_)
  · have hw3 := hw.1 c1
    refine z_iloadn dX0_hidden_35 rfl rfl ?_
    exact z_ret (v := some (.int x1)) dX0_hidden_36 ⟨_, rfl, rfl⟩ rfl hw3
  · have hw4 := hw.2 c2
    refine z_aloadn dX0_hidden_16 rfl rfl ?_
    refine z_getRq (j := 7) zc0 dX0_hidden_17 (ha.k 0 rfl) (ha.lt 0 rfl) (by decide) rfl w493 (ha.r 6 rfl) ?_
    refine z_iloadn dX0_hidden_20 rfl rfl ?_
    have hw5 := hw4.2.2
    refine z_iald (N := 64) dX0_hidden_21 (ha.w 7 rfl).r hw4.1 hw4.2.1 ?_
    refine z_iconst (v := (-1)) dX0_hidden_22 (by decide) ?_
    refine z_icmp_eq (t := 29) dX0_hidden_23 (by decide) (fun c6 => ?_) (fun c7 => ?_)
    · have hw8 := hw5.1 c6
      refine z_iinc (v := (x2 + 1)) (L' := [va_rf (some a), .int x1, .int ((x2 + 1))]) dX0_hidden_29 (by decide) rfl rfl rfl ?_
      refine z_goto (t := 7) dX0_hidden_32 (by decide) ?_
      exact hw8
    · have hw9 := hw5.2 c7
      refine z_iinc (v := (x1 + (-1))) (L' := [va_rf (some a), .int ((x1 + (-1))), .int x2]) dX0_hidden_26 (by decide) rfl rfl rfl ?_
      refine z_iinc (v := (x2 + 1)) (L' := [va_rf (some a), .int ((x1 + (-1))), .int ((x2 + 1))]) dX0_hidden_29 (by decide) rfl rfl rfl ?_
      refine z_goto (t := 7) dX0_hidden_32 (by decide) ?_
      exact hw9

theorem kX0_hidden {l : Launch} {G : zG} {d : Nat} {Q : Option Value → zH → Prop} {k n : Nat} {h : zH} (a : Nat) (hz : Z l G mX0_hidden d Q k n 0 [va_rf (some a), zU, zU] [] h) : CT l G YX0_hidden d k n [va_rf (some a)] h Q :=
  CT.of (by decide +kernel) (fun t e => by have e2 : ((some .int) : Option FieldType) = some t := e; cases e2; exact ⟨by decide, by decide⟩) (by exact Nat.le_of_ble_eq_true rfl) (by exact hz)

theorem sX1_slot_0 {l : Launch} {G : zG} {d : Nat} {Q : Option Value → zH → Prop} {k n : Nat} {h : zH} (a : Nat) (x1 : Int32) (ha : lo1 h a) (hd9 : 1 ≤ d)
    (hw : ((x1.toInt < (0 : Int) → Q (some (va_rf none)) h) ∧ ((0 : Int) ≤ x1.toInt → (((6 : Int) ≤ x1.toInt → Q (some (va_rf none)) h) ∧ (x1.toInt < (6 : Int) → (0 ≤ x1.toInt ∧ x1.toInt < ((6 : Nat) : Int) ∧ Q (some (va_rf (zR h (a + 1) (zix x1)))) h)))))) :
    Z l G mX1_slot d Q k n 0 [va_rf (some a), .int x1] [] h := by
  refine z_iloadn dX1_slot_0 rfl rfl ?_
  refine z_if_lt (t := 22) dX1_slot_1 (by decide) (fun c1 => ?_) (fun c2 => ?_)
  · have hw3 := hw.1 c1
    refine z_null dX1_slot_22 ?_
    exact z_ret (v := some (va_rf none)) dX1_slot_23 ⟨_, rfl⟩ rfl hw3
  · have hw4 := hw.2 c2
    refine z_iloadn dX1_slot_4 rfl rfl ?_
    refine z_aloadn dX1_slot_5 rfl rfl ?_
    refine z_getRq (j := 5) zc1 dX1_slot_6 (ha.k 0 rfl) (ha.lt 0 rfl) (by decide) rfl w321 (ha.r 0 rfl) ?_
    refine z_alenk (v := 6) 4 rfl (by decide) dX1_slot_9 (ha.k 1 rfl) (ha.lt 1 rfl) rfl ?_
    refine z_icmp_ge (t := 22) dX1_slot_10 (by decide) (fun c5 => ?_) (fun c6 => ?_)
    · have hw7 := hw4.1 c5
      refine z_null dX1_slot_22 ?_
      exact z_ret (v := some (va_rf none)) dX1_slot_23 ⟨_, rfl⟩ rfl hw7
    · have hw8 := hw4.2 c6
      refine z_aloadn dX1_slot_13 rfl rfl ?_
      refine z_getRq (j := 5) zc1 dX1_slot_14 (ha.k 0 rfl) (ha.lt 0 rfl) (by decide) rfl w321 (ha.r 0 rfl) ?_
      refine z_iloadn dX1_slot_17 rfl rfl ?_
      have hw9 := hw8.2.2
      refine z_aald (N := 6) 4 rfl (by decide) dX1_slot_18 (ha.k 1 rfl) (ha.lt 1 rfl) hw8.1 hw8.2.1 ?_
      refine z_goto (t := 23) dX1_slot_19 (by decide) ?_
      exact z_ret (v := some (va_rf (zR h (a + 1) (zix x1)))) dX1_slot_23 ⟨_, rfl⟩ rfl hw9

theorem kX1_slot {l : Launch} {G : zG} {d : Nat} {Q : Option Value → zH → Prop} {k n : Nat} {h : zH} (a : Nat) (x1 : Int32) (hz : Z l G mX1_slot d Q k n 0 [va_rf (some a), .int x1] [] h) : CT l G YX1_slot d k n [va_rf (some a), .int x1] h Q :=
  CT.of (by decide +kernel) (fun t e => by have e2 : ((some (.object "ClayPrints$Person")) : Option FieldType) = some t := e; cases e2; exact ⟨by decide, by decide⟩) (by exact Nat.le_of_ble_eq_true rfl) (by exact hz)

theorem sX1_cells_0 {l : Launch} {G : zG} {d : Nat} {Q : Option Value → zH → Prop} {k n : Nat} {h : zH} (a : Nat) (ha : lo1 h a) (hd9 : 1 ≤ d)
    (hw : Q (some (.int (((zI h a 0) * (zI h a 1))))) h) :
    Z l G mX1_cells d Q k n 0 [va_rf (some a)] [] h := by
  refine z_aloadn dX1_cells_0 rfl rfl ?_
  refine z_getI (j := 0) zc1 dX1_cells_1 (ha.k 0 rfl) (ha.lt 0 rfl) (by decide) rfl w302 ?_
  refine z_aloadn dX1_cells_4 rfl rfl ?_
  refine z_getI (j := 1) zc1 dX1_cells_5 (ha.k 0 rfl) (ha.lt 0 rfl) (by decide) rfl w305 ?_
  refine z_imul dX1_cells_8 ?_
  exact z_ret (v := some (.int (((zI h a 0) * (zI h a 1))))) dX1_cells_9 ⟨_, rfl, rfl⟩ rfl hw

theorem kX1_cells {l : Launch} {G : zG} {d : Nat} {Q : Option Value → zH → Prop} {k n : Nat} {h : zH} (a : Nat) (hz : Z l G mX1_cells d Q k n 0 [va_rf (some a)] [] h) : CT l G YX1_cells d k n [va_rf (some a)] h Q :=
  CT.of (by decide +kernel) (fun t e => by have e2 : ((some .int) : Option FieldType) = some t := e; cases e2; exact ⟨by decide, by decide⟩) (by exact Nat.le_of_ble_eq_true rfl) (by exact hz)

theorem sX1_rainyMinutes_0 {l : Launch} {G : zG} {d : Nat} {Q : Option Value → zH → Prop} {k n : Nat} {h : zH} (a : Nat) (ha : lo1 h a) (hd9 : 1 ≤ d)
    (hw : Z l G mX1_rainyMinutes d Q k n 4 [va_rf (some a), .int 0, .int 0] [] h) :
    Z l G mX1_rainyMinutes d Q k n 0 [va_rf (some a), zU, zU] [] h := by
  refine z_iconst (v := 0) dX1_rainyMinutes_0 (by decide) ?_
  refine z_istoren (L' := [va_rf (some a), .int 0, zU]) dX1_rainyMinutes_1 rfl (by decide) rfl ?_
  refine z_iconst (v := 0) dX1_rainyMinutes_2 (by decide) ?_
  refine z_istoren (L' := [va_rf (some a), .int 0, .int 0]) dX1_rainyMinutes_3 rfl (by decide) rfl ?_
  exact hw

theorem sX1_rainyMinutes_4 {l : Launch} {G : zG} {d : Nat} {Q : Option Value → zH → Prop} {k n : Nat} {h : zH} (a : Nat) (x1 : Int32) (x2 : Int32) (ha : lo1 h a) (hd9 : 1 ≤ d)
    (hw : (((100 : Int) ≤ x2.toInt → Q (some (.int x1)) h) ∧ (x2.toInt < (100 : Int) → (0 ≤ x2.toInt ∧ x2.toInt < ((100 : Nat) : Int) ∧ Z l G mX1_rainyMinutes d Q k n 4 [va_rf (some a), .int ((x1 + (zI h (a + 5) (zix x2)))), .int ((x2 + 1))] [] h)))) :
    Z l G mX1_rainyMinutes d Q k n 4 [va_rf (some a), .int x1, .int x2] [] h := by
  refine z_iloadn dX1_rainyMinutes_4 rfl rfl ?_
  refine z_aloadn dX1_rainyMinutes_5 rfl rfl ?_
  refine z_getRq (j := 9) zc1 dX1_rainyMinutes_6 (ha.k 0 rfl) (ha.lt 0 rfl) (by decide) rfl w331 (ha.r 4 rfl) ?_
  refine z_alen (v := 100) dX1_rainyMinutes_9 (ha.w 5 rfl).r rfl ?_
  refine z_icmp_ge (t := 28) dX1_rainyMinutes_10 (by decide) (fun c1 => ?_) (fun c2 => ?_)
  · have hw3 := hw.1 c1
    refine z_iloadn dX1_rainyMinutes_28 rfl rfl ?_
    exact z_ret (v := some (.int x1)) dX1_rainyMinutes_29 ⟨_, rfl, rfl⟩ rfl hw3
  · have hw4 := hw.2 c2
    refine z_iloadn dX1_rainyMinutes_13 rfl rfl ?_
    refine z_aloadn dX1_rainyMinutes_14 rfl rfl ?_
    refine z_getRq (j := 9) zc1 dX1_rainyMinutes_15 (ha.k 0 rfl) (ha.lt 0 rfl) (by decide) rfl w331 (ha.r 4 rfl) ?_
    refine z_iloadn dX1_rainyMinutes_18 rfl rfl ?_
    have hw5 := hw4.2.2
    refine z_iald (N := 100) dX1_rainyMinutes_19 (ha.w 5 rfl).r hw4.1 hw4.2.1 ?_
    refine z_iadd dX1_rainyMinutes_20 ?_
    refine z_istoren (L' := [va_rf (some a), .int ((x1 + (zI h (a + 5) (zix x2)))), .int x2]) dX1_rainyMinutes_21 rfl (by decide) rfl ?_
    refine z_iinc (v := (x2 + 1)) (L' := [va_rf (some a), .int ((x1 + (zI h (a + 5) (zix x2)))), .int ((x2 + 1))]) dX1_rainyMinutes_22 (by decide) rfl rfl rfl ?_
    refine z_goto (t := 4) dX1_rainyMinutes_25 (by decide) ?_
    exact hw5

theorem kX1_rainyMinutes {l : Launch} {G : zG} {d : Nat} {Q : Option Value → zH → Prop} {k n : Nat} {h : zH} (a : Nat) (hz : Z l G mX1_rainyMinutes d Q k n 0 [va_rf (some a), zU, zU] [] h) : CT l G YX1_rainyMinutes d k n [va_rf (some a)] h Q :=
  CT.of (by decide +kernel) (fun t e => by have e2 : ((some .int) : Option FieldType) = some t := e; cases e2; exact ⟨by decide, by decide⟩) (by exact Nat.le_of_ble_eq_true rfl) (by exact hz)

theorem sX1_beside_0 {l : Launch} {G : zG} {d : Nat} {Q : Option Value → zH → Prop} {k n : Nat} {h : zH} (a : Nat) (x1 : Int32) (x2 : Int32) (x3 : Int32) (ha : lo1 h a) (hd9 : 1 ≤ d)
    (hw : ((x1.toInt < (0 : Int) → Q (some (.int ((-1)))) h) ∧ ((0 : Int) ≤ x1.toInt → ((((zI h a 0) * (zI h a 1)).toInt ≤ x1.toInt → Q (some (.int ((-1)))) h) ∧ (x1.toInt < ((zI h a 0) * (zI h a 1)).toInt → (((1 : Int) ≤ (zI h a 0).toInt → (¬ (zI h a 0) = 0 ∧ (¬ (zI h a 0) = 0 ∧ ((x2.toInt < 0 ∨ 2 < x2.toInt → (((x1 / (zI h a 0)).toInt < (0 : Int) → Q (some (.int ((-1)))) h) ∧ ((0 : Int) ≤ (x1 / (zI h a 0)).toInt → (((zI h a 1).toInt ≤ (x1 / (zI h a 0)).toInt → Q (some (.int ((-1)))) h) ∧ ((x1 / (zI h a 0)).toInt < (zI h a 1).toInt → ((((zrem x1 (zI h a 0)) - x3).toInt < (0 : Int) → Q (some (.int ((-1)))) h) ∧ ((0 : Int) ≤ ((zrem x1 (zI h a 0)) - x3).toInt → (((zI h a 0).toInt ≤ ((zrem x1 (zI h a 0)) - x3).toInt → Q (some (.int ((-1)))) h) ∧ (((zrem x1 (zI h a 0)) - x3).toInt < (zI h a 0).toInt → Q (some (.int ((((x1 / (zI h a 0)) * (zI h a 0)) + ((zrem x1 (zI h a 0)) - x3))))) h))))))))) ∧ (x2.toInt = 0 → ((((x1 / (zI h a 0)) - x3).toInt < (0 : Int) → Q (some (.int ((-1)))) h) ∧ ((0 : Int) ≤ ((x1 / (zI h a 0)) - x3).toInt → (((zI h a 1).toInt ≤ ((x1 / (zI h a 0)) - x3).toInt → Q (some (.int ((-1)))) h) ∧ (((x1 / (zI h a 0)) - x3).toInt < (zI h a 1).toInt → (((zrem x1 (zI h a 0)).toInt < (0 : Int) → Q (some (.int ((-1)))) h) ∧ ((0 : Int) ≤ (zrem x1 (zI h a 0)).toInt → (((zI h a 0).toInt ≤ (zrem x1 (zI h a 0)).toInt → Q (some (.int ((-1)))) h) ∧ ((zrem x1 (zI h a 0)).toInt < (zI h a 0).toInt → Q (some (.int (((((x1 / (zI h a 0)) - x3) * (zI h a 0)) + (zrem x1 (zI h a 0)))))) h))))))))) ∧ (x2.toInt = 1 → (((x1 / (zI h a 0)).toInt < (0 : Int) → Q (some (.int ((-1)))) h) ∧ ((0 : Int) ≤ (x1 / (zI h a 0)).toInt → (((zI h a 1).toInt ≤ (x1 / (zI h a 0)).toInt → Q (some (.int ((-1)))) h) ∧ ((x1 / (zI h a 0)).toInt < (zI h a 1).toInt → ((((zrem x1 (zI h a 0)) + x3).toInt < (0 : Int) → Q (some (.int ((-1)))) h) ∧ ((0 : Int) ≤ ((zrem x1 (zI h a 0)) + x3).toInt → (((zI h a 0).toInt ≤ ((zrem x1 (zI h a 0)) + x3).toInt → Q (some (.int ((-1)))) h) ∧ (((zrem x1 (zI h a 0)) + x3).toInt < (zI h a 0).toInt → Q (some (.int ((((x1 / (zI h a 0)) * (zI h a 0)) + ((zrem x1 (zI h a 0)) + x3))))) h))))))))) ∧ (x2.toInt = 2 → ((((x1 / (zI h a 0)) + x3).toInt < (0 : Int) → Q (some (.int ((-1)))) h) ∧ ((0 : Int) ≤ ((x1 / (zI h a 0)) + x3).toInt → (((zI h a 1).toInt ≤ ((x1 / (zI h a 0)) + x3).toInt → Q (some (.int ((-1)))) h) ∧ (((x1 / (zI h a 0)) + x3).toInt < (zI h a 1).toInt → (((zrem x1 (zI h a 0)).toInt < (0 : Int) → Q (some (.int ((-1)))) h) ∧ ((0 : Int) ≤ (zrem x1 (zI h a 0)).toInt → (((zI h a 0).toInt ≤ (zrem x1 (zI h a 0)).toInt → Q (some (.int ((-1)))) h) ∧ ((zrem x1 (zI h a 0)).toInt < (zI h a 0).toInt → Q (some (.int (((((x1 / (zI h a 0)) + x3) * (zI h a 0)) + (zrem x1 (zI h a 0)))))) h))))))))))))) ∧ ((zI h a 0).toInt < (1 : Int) → Q (some (.int ((-1)))) h))))))) :
    Z l G mX1_beside d Q k n 0 [va_rf (some a), .int x1, .int x2, .int x3, zU, zU, zU] [] h := by
  refine z_iloadn dX1_beside_0 rfl rfl ?_
  refine z_if_lt (t := 25) dX1_beside_1 (by decide) (fun c1 => ?_) (fun c2 => ?_)
  · have hw3 := hw.1 c1
    refine z_iconst (v := (-1)) dX1_beside_25 (by decide) ?_
    exact z_ret (v := some (.int ((-1)))) dX1_beside_26 ⟨_, rfl, rfl⟩ rfl hw3
  · have hw4 := hw.2 c2
    refine z_iloadn dX1_beside_4 rfl rfl ?_
    refine z_aloadn dX1_beside_5 rfl rfl ?_
    refine z_getI (j := 0) zc1 dX1_beside_6 (ha.k 0 rfl) (ha.lt 0 rfl) (by decide) rfl w302 ?_
    refine z_aloadn dX1_beside_9 rfl rfl ?_
    refine z_getI (j := 1) zc1 dX1_beside_10 (ha.k 0 rfl) (ha.lt 0 rfl) (by decide) rfl w305 ?_
    refine z_imul dX1_beside_13 ?_
    refine z_icmp_ge (t := 25) dX1_beside_14 (by decide) (fun c5 => ?_) (fun c6 => ?_)
    · have hw7 := hw4.1 c5
      refine z_iconst (v := (-1)) dX1_beside_25 (by decide) ?_
      exact z_ret (v := some (.int ((-1)))) dX1_beside_26 ⟨_, rfl, rfl⟩ rfl hw7
    · have hw8 := hw4.2 c6
      refine z_aloadn dX1_beside_17 rfl rfl ?_
      refine z_getI (j := 0) zc1 dX1_beside_18 (ha.k 0 rfl) (ha.lt 0 rfl) (by decide) rfl w302 ?_
      refine z_iconst (v := 1) dX1_beside_21 (by decide) ?_
      refine z_icmp_ge (t := 27) dX1_beside_22 (by decide) (fun c9 => ?_) (fun c10 => ?_)
      · have hw11 := hw8.1 c9
        refine z_iloadn dX1_beside_27 rfl rfl ?_
        refine z_aloadn dX1_beside_28 rfl rfl ?_
        refine z_getI (j := 0) zc1 dX1_beside_29 (ha.k 0 rfl) (ha.lt 0 rfl) (by decide) rfl w302 ?_
        have hw13 := hw11.2
        refine z_idiv dX1_beside_32 hw11.1 ?_
        refine z_istore (L' := [va_rf (some a), .int x1, .int x2, .int x3, .int ((x1 / (zI h a 0))), zU, zU]) dX1_beside_33 (by decide) rfl ?_
        refine z_iloadn dX1_beside_35 rfl rfl ?_
        refine z_aloadn dX1_beside_36 rfl rfl ?_
        refine z_getI (j := 0) zc1 dX1_beside_37 (ha.k 0 rfl) (ha.lt 0 rfl) (by decide) rfl w302 ?_
        have hw14 := hw13.2
        refine z_irem dX1_beside_40 hw13.1 ?_
        refine z_istore (L' := [va_rf (some a), .int x1, .int x2, .int x3, .int ((x1 / (zI h a 0))), .int ((zrem x1 (zI h a 0))), zU]) dX1_beside_41 (by decide) rfl ?_
        refine z_iloadn dX1_beside_43 rfl rfl ?_
        refine z_tswc (td := 99) (ts := [72, 81, 90]) dX1_beside_44 (by decide) (by decide) (by decide) (fun c15 => ?_) ⟨fun c15k0 => ?_, fun c15k1 => ?_, fun c15k2 => ?_, trivial⟩
        · have hw16 := hw14.1 c15
          refine z_iload dX1_beside_99 rfl ?_
          refine z_iloadn dX1_beside_101 rfl rfl ?_
          refine z_isub dX1_beside_102 ?_
          refine z_istore (L' := [va_rf (some a), .int x1, .int x2, .int x3, .int ((x1 / (zI h a 0))), .int (((zrem x1 (zI h a 0)) - x3)), zU]) dX1_beside_103 (by decide) rfl ?_
          refine z_iload dX1_beside_105 rfl ?_
          refine z_if_lt (t := 137) dX1_beside_107 (by decide) (fun c17 => ?_) (fun c18 => ?_)
          · have hw19 := hw16.1 c17
            refine z_iconst (v := 0) dX1_beside_137 (by decide) ?_
            refine z_istore (L' := [va_rf (some a), .int x1, .int x2, .int x3, .int ((x1 / (zI h a 0))), .int (((zrem x1 (zI h a 0)) - x3)), .int 0]) dX1_beside_138 (by decide) rfl ?_
            refine z_iload dX1_beside_140 rfl ?_
            refine z_if_eq (t := 158) dX1_beside_142 (by decide) (fun _ => ?_) (fun c21 => absurd c21 (by decide))
            refine z_iconst (v := (-1)) dX1_beside_158 (by decide) ?_
            exact z_ret (v := some (.int ((-1)))) dX1_beside_159 ⟨_, rfl, rfl⟩ rfl hw19
          · have hw20 := hw16.2 c18
            refine z_iload dX1_beside_110 rfl ?_
            refine z_aloadn dX1_beside_112 rfl rfl ?_
            refine z_getI (j := 1) zc1 dX1_beside_113 (ha.k 0 rfl) (ha.lt 0 rfl) (by decide) rfl w305 ?_
            refine z_icmp_ge (t := 137) dX1_beside_116 (by decide) (fun c22 => ?_) (fun c23 => ?_)
            · have hw24 := hw20.1 c22
              refine z_iconst (v := 0) dX1_beside_137 (by decide) ?_
              refine z_istore (L' := [va_rf (some a), .int x1, .int x2, .int x3, .int ((x1 / (zI h a 0))), .int (((zrem x1 (zI h a 0)) - x3)), .int 0]) dX1_beside_138 (by decide) rfl ?_
              refine z_iload dX1_beside_140 rfl ?_
              refine z_if_eq (t := 158) dX1_beside_142 (by decide) (fun _ => ?_) (fun c26 => absurd c26 (by decide))
              refine z_iconst (v := (-1)) dX1_beside_158 (by decide) ?_
              exact z_ret (v := some (.int ((-1)))) dX1_beside_159 ⟨_, rfl, rfl⟩ rfl hw24
            · have hw25 := hw20.2 c23
              refine z_iload dX1_beside_119 rfl ?_
              refine z_if_lt (t := 137) dX1_beside_121 (by decide) (fun c27 => ?_) (fun c28 => ?_)
              · have hw29 := hw25.1 c27
                refine z_iconst (v := 0) dX1_beside_137 (by decide) ?_
                refine z_istore (L' := [va_rf (some a), .int x1, .int x2, .int x3, .int ((x1 / (zI h a 0))), .int (((zrem x1 (zI h a 0)) - x3)), .int 0]) dX1_beside_138 (by decide) rfl ?_
                refine z_iload dX1_beside_140 rfl ?_
                refine z_if_eq (t := 158) dX1_beside_142 (by decide) (fun _ => ?_) (fun c31 => absurd c31 (by decide))
                refine z_iconst (v := (-1)) dX1_beside_158 (by decide) ?_
                exact z_ret (v := some (.int ((-1)))) dX1_beside_159 ⟨_, rfl, rfl⟩ rfl hw29
              · have hw30 := hw25.2 c28
                refine z_iload dX1_beside_124 rfl ?_
                refine z_aloadn dX1_beside_126 rfl rfl ?_
                refine z_getI (j := 0) zc1 dX1_beside_127 (ha.k 0 rfl) (ha.lt 0 rfl) (by decide) rfl w302 ?_
                refine z_icmp_ge (t := 137) dX1_beside_130 (by decide) (fun c32 => ?_) (fun c33 => ?_)
                · have hw34 := hw30.1 c32
                  refine z_iconst (v := 0) dX1_beside_137 (by decide) ?_
                  refine z_istore (L' := [va_rf (some a), .int x1, .int x2, .int x3, .int ((x1 / (zI h a 0))), .int (((zrem x1 (zI h a 0)) - x3)), .int 0]) dX1_beside_138 (by decide) rfl ?_
                  refine z_iload dX1_beside_140 rfl ?_
                  refine z_if_eq (t := 158) dX1_beside_142 (by decide) (fun _ => ?_) (fun c36 => absurd c36 (by decide))
                  refine z_iconst (v := (-1)) dX1_beside_158 (by decide) ?_
                  exact z_ret (v := some (.int ((-1)))) dX1_beside_159 ⟨_, rfl, rfl⟩ rfl hw34
                · have hw35 := hw30.2 c33
                  refine z_iconst (v := 1) dX1_beside_133 (by decide) ?_
                  refine z_goto (t := 138) dX1_beside_134 (by decide) ?_
                  refine z_istore (L' := [va_rf (some a), .int x1, .int x2, .int x3, .int ((x1 / (zI h a 0))), .int (((zrem x1 (zI h a 0)) - x3)), .int 1]) dX1_beside_138 (by decide) rfl ?_
                  refine z_iload dX1_beside_140 rfl ?_
                  refine z_if_eq (t := 158) dX1_beside_142 (by decide) (fun c37 => absurd c37 (by decide)) (fun _ => ?_)
                  refine z_iload dX1_beside_145 rfl ?_
                  refine z_aloadn dX1_beside_147 rfl rfl ?_
                  refine z_getI (j := 0) zc1 dX1_beside_148 (ha.k 0 rfl) (ha.lt 0 rfl) (by decide) rfl w302 ?_
                  refine z_imul dX1_beside_151 ?_
                  refine z_iload dX1_beside_152 rfl ?_
                  refine z_iadd dX1_beside_154 ?_
                  refine z_goto (t := 159) dX1_beside_155 (by decide) ?_
                  exact z_ret (v := some (.int ((((x1 / (zI h a 0)) * (zI h a 0)) + ((zrem x1 (zI h a 0)) - x3))))) dX1_beside_159 ⟨_, rfl, rfl⟩ rfl hw35
        · have hw38 := hw14.2.1 c15k0
          refine z_iload dX1_beside_72 rfl ?_
          refine z_iloadn dX1_beside_74 rfl rfl ?_
          refine z_isub dX1_beside_75 ?_
          refine z_istore (L' := [va_rf (some a), .int x1, .int x2, .int x3, .int (((x1 / (zI h a 0)) - x3)), .int ((zrem x1 (zI h a 0))), zU]) dX1_beside_76 (by decide) rfl ?_
          refine z_goto (t := 105) dX1_beside_78 (by decide) ?_
          refine z_iload dX1_beside_105 rfl ?_
          refine z_if_lt (t := 137) dX1_beside_107 (by decide) (fun c39 => ?_) (fun c40 => ?_)
          · have hw41 := hw38.1 c39
            refine z_iconst (v := 0) dX1_beside_137 (by decide) ?_
            refine z_istore (L' := [va_rf (some a), .int x1, .int x2, .int x3, .int (((x1 / (zI h a 0)) - x3)), .int ((zrem x1 (zI h a 0))), .int 0]) dX1_beside_138 (by decide) rfl ?_
            refine z_iload dX1_beside_140 rfl ?_
            refine z_if_eq (t := 158) dX1_beside_142 (by decide) (fun _ => ?_) (fun c43 => absurd c43 (by decide))
            refine z_iconst (v := (-1)) dX1_beside_158 (by decide) ?_
            exact z_ret (v := some (.int ((-1)))) dX1_beside_159 ⟨_, rfl, rfl⟩ rfl hw41
          · have hw42 := hw38.2 c40
            refine z_iload dX1_beside_110 rfl ?_
            refine z_aloadn dX1_beside_112 rfl rfl ?_
            refine z_getI (j := 1) zc1 dX1_beside_113 (ha.k 0 rfl) (ha.lt 0 rfl) (by decide) rfl w305 ?_
            refine z_icmp_ge (t := 137) dX1_beside_116 (by decide) (fun c44 => ?_) (fun c45 => ?_)
            · have hw46 := hw42.1 c44
              refine z_iconst (v := 0) dX1_beside_137 (by decide) ?_
              refine z_istore (L' := [va_rf (some a), .int x1, .int x2, .int x3, .int (((x1 / (zI h a 0)) - x3)), .int ((zrem x1 (zI h a 0))), .int 0]) dX1_beside_138 (by decide) rfl ?_
              refine z_iload dX1_beside_140 rfl ?_
              refine z_if_eq (t := 158) dX1_beside_142 (by decide) (fun _ => ?_) (fun c48 => absurd c48 (by decide))
              refine z_iconst (v := (-1)) dX1_beside_158 (by decide) ?_
              exact z_ret (v := some (.int ((-1)))) dX1_beside_159 ⟨_, rfl, rfl⟩ rfl hw46
            · have hw47 := hw42.2 c45
              refine z_iload dX1_beside_119 rfl ?_
              refine z_if_lt (t := 137) dX1_beside_121 (by decide) (fun c49 => ?_) (fun c50 => ?_)
              · have hw51 := hw47.1 c49
                refine z_iconst (v := 0) dX1_beside_137 (by decide) ?_
                refine z_istore (L' := [va_rf (some a), .int x1, .int x2, .int x3, .int (((x1 / (zI h a 0)) - x3)), .int ((zrem x1 (zI h a 0))), .int 0]) dX1_beside_138 (by decide) rfl ?_
                refine z_iload dX1_beside_140 rfl ?_
                refine z_if_eq (t := 158) dX1_beside_142 (by decide) (fun _ => ?_) (fun c53 => absurd c53 (by decide))
                refine z_iconst (v := (-1)) dX1_beside_158 (by decide) ?_
                exact z_ret (v := some (.int ((-1)))) dX1_beside_159 ⟨_, rfl, rfl⟩ rfl hw51
              · have hw52 := hw47.2 c50
                refine z_iload dX1_beside_124 rfl ?_
                refine z_aloadn dX1_beside_126 rfl rfl ?_
                refine z_getI (j := 0) zc1 dX1_beside_127 (ha.k 0 rfl) (ha.lt 0 rfl) (by decide) rfl w302 ?_
                refine z_icmp_ge (t := 137) dX1_beside_130 (by decide) (fun c54 => ?_) (fun c55 => ?_)
                · have hw56 := hw52.1 c54
                  refine z_iconst (v := 0) dX1_beside_137 (by decide) ?_
                  refine z_istore (L' := [va_rf (some a), .int x1, .int x2, .int x3, .int (((x1 / (zI h a 0)) - x3)), .int ((zrem x1 (zI h a 0))), .int 0]) dX1_beside_138 (by decide) rfl ?_
                  refine z_iload dX1_beside_140 rfl ?_
                  refine z_if_eq (t := 158) dX1_beside_142 (by decide) (fun _ => ?_) (fun c58 => absurd c58 (by decide))
                  refine z_iconst (v := (-1)) dX1_beside_158 (by decide) ?_
                  exact z_ret (v := some (.int ((-1)))) dX1_beside_159 ⟨_, rfl, rfl⟩ rfl hw56
                · have hw57 := hw52.2 c55
                  refine z_iconst (v := 1) dX1_beside_133 (by decide) ?_
                  refine z_goto (t := 138) dX1_beside_134 (by decide) ?_
                  refine z_istore (L' := [va_rf (some a), .int x1, .int x2, .int x3, .int (((x1 / (zI h a 0)) - x3)), .int ((zrem x1 (zI h a 0))), .int 1]) dX1_beside_138 (by decide) rfl ?_
                  refine z_iload dX1_beside_140 rfl ?_
                  refine z_if_eq (t := 158) dX1_beside_142 (by decide) (fun c59 => absurd c59 (by decide)) (fun _ => ?_)
                  refine z_iload dX1_beside_145 rfl ?_
                  refine z_aloadn dX1_beside_147 rfl rfl ?_
                  refine z_getI (j := 0) zc1 dX1_beside_148 (ha.k 0 rfl) (ha.lt 0 rfl) (by decide) rfl w302 ?_
                  refine z_imul dX1_beside_151 ?_
                  refine z_iload dX1_beside_152 rfl ?_
                  refine z_iadd dX1_beside_154 ?_
                  refine z_goto (t := 159) dX1_beside_155 (by decide) ?_
                  exact z_ret (v := some (.int (((((x1 / (zI h a 0)) - x3) * (zI h a 0)) + (zrem x1 (zI h a 0)))))) dX1_beside_159 ⟨_, rfl, rfl⟩ rfl hw57
        · have hw60 := hw14.2.2.1 c15k1
          refine z_iload dX1_beside_81 rfl ?_
          refine z_iloadn dX1_beside_83 rfl rfl ?_
          refine z_iadd dX1_beside_84 ?_
          refine z_istore (L' := [va_rf (some a), .int x1, .int x2, .int x3, .int ((x1 / (zI h a 0))), .int (((zrem x1 (zI h a 0)) + x3)), zU]) dX1_beside_85 (by decide) rfl ?_
          refine z_goto (t := 105) dX1_beside_87 (by decide) ?_
          refine z_iload dX1_beside_105 rfl ?_
          refine z_if_lt (t := 137) dX1_beside_107 (by decide) (fun c61 => ?_) (fun c62 => ?_)
          · have hw63 := hw60.1 c61
            refine z_iconst (v := 0) dX1_beside_137 (by decide) ?_
            refine z_istore (L' := [va_rf (some a), .int x1, .int x2, .int x3, .int ((x1 / (zI h a 0))), .int (((zrem x1 (zI h a 0)) + x3)), .int 0]) dX1_beside_138 (by decide) rfl ?_
            refine z_iload dX1_beside_140 rfl ?_
            refine z_if_eq (t := 158) dX1_beside_142 (by decide) (fun _ => ?_) (fun c65 => absurd c65 (by decide))
            refine z_iconst (v := (-1)) dX1_beside_158 (by decide) ?_
            exact z_ret (v := some (.int ((-1)))) dX1_beside_159 ⟨_, rfl, rfl⟩ rfl hw63
          · have hw64 := hw60.2 c62
            refine z_iload dX1_beside_110 rfl ?_
            refine z_aloadn dX1_beside_112 rfl rfl ?_
            refine z_getI (j := 1) zc1 dX1_beside_113 (ha.k 0 rfl) (ha.lt 0 rfl) (by decide) rfl w305 ?_
            refine z_icmp_ge (t := 137) dX1_beside_116 (by decide) (fun c66 => ?_) (fun c67 => ?_)
            · have hw68 := hw64.1 c66
              refine z_iconst (v := 0) dX1_beside_137 (by decide) ?_
              refine z_istore (L' := [va_rf (some a), .int x1, .int x2, .int x3, .int ((x1 / (zI h a 0))), .int (((zrem x1 (zI h a 0)) + x3)), .int 0]) dX1_beside_138 (by decide) rfl ?_
              refine z_iload dX1_beside_140 rfl ?_
              refine z_if_eq (t := 158) dX1_beside_142 (by decide) (fun _ => ?_) (fun c70 => absurd c70 (by decide))
              refine z_iconst (v := (-1)) dX1_beside_158 (by decide) ?_
              exact z_ret (v := some (.int ((-1)))) dX1_beside_159 ⟨_, rfl, rfl⟩ rfl hw68
            · have hw69 := hw64.2 c67
              refine z_iload dX1_beside_119 rfl ?_
              refine z_if_lt (t := 137) dX1_beside_121 (by decide) (fun c71 => ?_) (fun c72 => ?_)
              · have hw73 := hw69.1 c71
                refine z_iconst (v := 0) dX1_beside_137 (by decide) ?_
                refine z_istore (L' := [va_rf (some a), .int x1, .int x2, .int x3, .int ((x1 / (zI h a 0))), .int (((zrem x1 (zI h a 0)) + x3)), .int 0]) dX1_beside_138 (by decide) rfl ?_
                refine z_iload dX1_beside_140 rfl ?_
                refine z_if_eq (t := 158) dX1_beside_142 (by decide) (fun _ => ?_) (fun c75 => absurd c75 (by decide))
                refine z_iconst (v := (-1)) dX1_beside_158 (by decide) ?_
                exact z_ret (v := some (.int ((-1)))) dX1_beside_159 ⟨_, rfl, rfl⟩ rfl hw73
              · have hw74 := hw69.2 c72
                refine z_iload dX1_beside_124 rfl ?_
                refine z_aloadn dX1_beside_126 rfl rfl ?_
                refine z_getI (j := 0) zc1 dX1_beside_127 (ha.k 0 rfl) (ha.lt 0 rfl) (by decide) rfl w302 ?_
                refine z_icmp_ge (t := 137) dX1_beside_130 (by decide) (fun c76 => ?_) (fun c77 => ?_)
                · have hw78 := hw74.1 c76
                  refine z_iconst (v := 0) dX1_beside_137 (by decide) ?_
                  refine z_istore (L' := [va_rf (some a), .int x1, .int x2, .int x3, .int ((x1 / (zI h a 0))), .int (((zrem x1 (zI h a 0)) + x3)), .int 0]) dX1_beside_138 (by decide) rfl ?_
                  refine z_iload dX1_beside_140 rfl ?_
                  refine z_if_eq (t := 158) dX1_beside_142 (by decide) (fun _ => ?_) (fun c80 => absurd c80 (by decide))
                  refine z_iconst (v := (-1)) dX1_beside_158 (by decide) ?_
                  exact z_ret (v := some (.int ((-1)))) dX1_beside_159 ⟨_, rfl, rfl⟩ rfl hw78
                · have hw79 := hw74.2 c77
                  refine z_iconst (v := 1) dX1_beside_133 (by decide) ?_
                  refine z_goto (t := 138) dX1_beside_134 (by decide) ?_
                  refine z_istore (L' := [va_rf (some a), .int x1, .int x2, .int x3, .int ((x1 / (zI h a 0))), .int (((zrem x1 (zI h a 0)) + x3)), .int 1]) dX1_beside_138 (by decide) rfl ?_
                  refine z_iload dX1_beside_140 rfl ?_
                  refine z_if_eq (t := 158) dX1_beside_142 (by decide) (fun c81 => absurd c81 (by decide)) (fun _ => ?_)
                  refine z_iload dX1_beside_145 rfl ?_
                  refine z_aloadn dX1_beside_147 rfl rfl ?_
                  refine z_getI (j := 0) zc1 dX1_beside_148 (ha.k 0 rfl) (ha.lt 0 rfl) (by decide) rfl w302 ?_
                  refine z_imul dX1_beside_151 ?_
                  refine z_iload dX1_beside_152 rfl ?_
                  refine z_iadd dX1_beside_154 ?_
                  refine z_goto (t := 159) dX1_beside_155 (by decide) ?_
                  exact z_ret (v := some (.int ((((x1 / (zI h a 0)) * (zI h a 0)) + ((zrem x1 (zI h a 0)) + x3))))) dX1_beside_159 ⟨_, rfl, rfl⟩ rfl hw79
        · have hw82 := hw14.2.2.2 c15k2
          refine z_iload dX1_beside_90 rfl ?_
          refine z_iloadn dX1_beside_92 rfl rfl ?_
          refine z_iadd dX1_beside_93 ?_
          refine z_istore (L' := [va_rf (some a), .int x1, .int x2, .int x3, .int (((x1 / (zI h a 0)) + x3)), .int ((zrem x1 (zI h a 0))), zU]) dX1_beside_94 (by decide) rfl ?_
          refine z_goto (t := 105) dX1_beside_96 (by decide) ?_
          refine z_iload dX1_beside_105 rfl ?_
          refine z_if_lt (t := 137) dX1_beside_107 (by decide) (fun c83 => ?_) (fun c84 => ?_)
          · have hw85 := hw82.1 c83
            refine z_iconst (v := 0) dX1_beside_137 (by decide) ?_
            refine z_istore (L' := [va_rf (some a), .int x1, .int x2, .int x3, .int (((x1 / (zI h a 0)) + x3)), .int ((zrem x1 (zI h a 0))), .int 0]) dX1_beside_138 (by decide) rfl ?_
            refine z_iload dX1_beside_140 rfl ?_
            refine z_if_eq (t := 158) dX1_beside_142 (by decide) (fun _ => ?_) (fun c87 => absurd c87 (by decide))
            refine z_iconst (v := (-1)) dX1_beside_158 (by decide) ?_
            exact z_ret (v := some (.int ((-1)))) dX1_beside_159 ⟨_, rfl, rfl⟩ rfl hw85
          · have hw86 := hw82.2 c84
            refine z_iload dX1_beside_110 rfl ?_
            refine z_aloadn dX1_beside_112 rfl rfl ?_
            refine z_getI (j := 1) zc1 dX1_beside_113 (ha.k 0 rfl) (ha.lt 0 rfl) (by decide) rfl w305 ?_
            refine z_icmp_ge (t := 137) dX1_beside_116 (by decide) (fun c88 => ?_) (fun c89 => ?_)
            · have hw90 := hw86.1 c88
              refine z_iconst (v := 0) dX1_beside_137 (by decide) ?_
              refine z_istore (L' := [va_rf (some a), .int x1, .int x2, .int x3, .int (((x1 / (zI h a 0)) + x3)), .int ((zrem x1 (zI h a 0))), .int 0]) dX1_beside_138 (by decide) rfl ?_
              refine z_iload dX1_beside_140 rfl ?_
              refine z_if_eq (t := 158) dX1_beside_142 (by decide) (fun _ => ?_) (fun c92 => absurd c92 (by decide))
              refine z_iconst (v := (-1)) dX1_beside_158 (by decide) ?_
              exact z_ret (v := some (.int ((-1)))) dX1_beside_159 ⟨_, rfl, rfl⟩ rfl hw90
            · have hw91 := hw86.2 c89
              refine z_iload dX1_beside_119 rfl ?_
              refine z_if_lt (t := 137) dX1_beside_121 (by decide) (fun c93 => ?_) (fun c94 => ?_)
              · have hw95 := hw91.1 c93
                refine z_iconst (v := 0) dX1_beside_137 (by decide) ?_
                refine z_istore (L' := [va_rf (some a), .int x1, .int x2, .int x3, .int (((x1 / (zI h a 0)) + x3)), .int ((zrem x1 (zI h a 0))), .int 0]) dX1_beside_138 (by decide) rfl ?_
                refine z_iload dX1_beside_140 rfl ?_
                refine z_if_eq (t := 158) dX1_beside_142 (by decide) (fun _ => ?_) (fun c97 => absurd c97 (by decide))
                refine z_iconst (v := (-1)) dX1_beside_158 (by decide) ?_
                exact z_ret (v := some (.int ((-1)))) dX1_beside_159 ⟨_, rfl, rfl⟩ rfl hw95
              · have hw96 := hw91.2 c94
                refine z_iload dX1_beside_124 rfl ?_
                refine z_aloadn dX1_beside_126 rfl rfl ?_
                refine z_getI (j := 0) zc1 dX1_beside_127 (ha.k 0 rfl) (ha.lt 0 rfl) (by decide) rfl w302 ?_
                refine z_icmp_ge (t := 137) dX1_beside_130 (by decide) (fun c98 => ?_) (fun c99 => ?_)
                · have hw100 := hw96.1 c98
                  refine z_iconst (v := 0) dX1_beside_137 (by decide) ?_
                  refine z_istore (L' := [va_rf (some a), .int x1, .int x2, .int x3, .int (((x1 / (zI h a 0)) + x3)), .int ((zrem x1 (zI h a 0))), .int 0]) dX1_beside_138 (by decide) rfl ?_
                  refine z_iload dX1_beside_140 rfl ?_
                  refine z_if_eq (t := 158) dX1_beside_142 (by decide) (fun _ => ?_) (fun c102 => absurd c102 (by decide))
                  refine z_iconst (v := (-1)) dX1_beside_158 (by decide) ?_
                  exact z_ret (v := some (.int ((-1)))) dX1_beside_159 ⟨_, rfl, rfl⟩ rfl hw100
                · have hw101 := hw96.2 c99
                  refine z_iconst (v := 1) dX1_beside_133 (by decide) ?_
                  refine z_goto (t := 138) dX1_beside_134 (by decide) ?_
                  refine z_istore (L' := [va_rf (some a), .int x1, .int x2, .int x3, .int (((x1 / (zI h a 0)) + x3)), .int ((zrem x1 (zI h a 0))), .int 1]) dX1_beside_138 (by decide) rfl ?_
                  refine z_iload dX1_beside_140 rfl ?_
                  refine z_if_eq (t := 158) dX1_beside_142 (by decide) (fun c103 => absurd c103 (by decide)) (fun _ => ?_)
                  refine z_iload dX1_beside_145 rfl ?_
                  refine z_aloadn dX1_beside_147 rfl rfl ?_
                  refine z_getI (j := 0) zc1 dX1_beside_148 (ha.k 0 rfl) (ha.lt 0 rfl) (by decide) rfl w302 ?_
                  refine z_imul dX1_beside_151 ?_
                  refine z_iload dX1_beside_152 rfl ?_
                  refine z_iadd dX1_beside_154 ?_
                  refine z_goto (t := 159) dX1_beside_155 (by decide) ?_
                  exact z_ret (v := some (.int (((((x1 / (zI h a 0)) + x3) * (zI h a 0)) + (zrem x1 (zI h a 0)))))) dX1_beside_159 ⟨_, rfl, rfl⟩ rfl hw101
      · have hw12 := hw8.2 c10
        refine z_iconst (v := (-1)) dX1_beside_25 (by decide) ?_
        exact z_ret (v := some (.int ((-1)))) dX1_beside_26 ⟨_, rfl, rfl⟩ rfl hw12

theorem kX1_beside {l : Launch} {G : zG} {d : Nat} {Q : Option Value → zH → Prop} {k n : Nat} {h : zH} (a : Nat) (x1 : Int32) (x2 : Int32) (x3 : Int32) (hz : Z l G mX1_beside d Q k n 0 [va_rf (some a), .int x1, .int x2, .int x3, zU, zU, zU] [] h) : CT l G YX1_beside d k n [va_rf (some a), .int x1, .int x2, .int x3] h Q :=
  CT.of (by decide +kernel) (fun t e => by have e2 : ((some .int) : Option FieldType) = some t := e; cases e2; exact ⟨by decide, by decide⟩) (by exact Nat.le_of_ble_eq_true rfl) (by exact hz)

theorem sX1_drawRains_0 {l : Launch} {G : zG} {d : Nat} {Q : Option Value → zH → Prop} {k n : Nat} {h : zH} (a : Nat) (x1 : Int32) (x2 : Int32) (ha : lo1 h a) (hd9 : 1 ≤ d)
    (hw : Z l G mX1_drawRains d Q k n 8 [va_rf (some a), .int x1, .int x2, .int x1, .int 0, .int 0] [] h) :
    Z l G mX1_drawRains d Q k n 0 [va_rf (some a), .int x1, .int x2, zU, zU, zU] [] h := by
  refine z_iloadn dX1_drawRains_0 rfl rfl ?_
  refine z_istoren (L' := [va_rf (some a), .int x1, .int x2, .int x1, zU, zU]) dX1_drawRains_1 rfl (by decide) rfl ?_
  refine z_iconst (v := 0) dX1_drawRains_2 (by decide) ?_
  refine z_istore (L' := [va_rf (some a), .int x1, .int x2, .int x1, .int 0, zU]) dX1_drawRains_3 (by decide) rfl ?_
  refine z_iconst (v := 0) dX1_drawRains_5 (by decide) ?_
  refine z_istore (L' := [va_rf (some a), .int x1, .int x2, .int x1, .int 0, .int 0]) dX1_drawRains_6 (by decide) rfl ?_
  exact hw

theorem sX1_drawRains_8 {l : Launch} {G : zG} {d : Nat} {Q : Option Value → zH → Prop} {k n : Nat} {h : zH} (a : Nat) (x1 : Int32) (x2 : Int32) (x3 : Int32) (x4 : Int32) (x5 : Int32) (ha : lo1 h a) (hd9 : 1 ≤ d)
    (hw : (((100 : Int) ≤ x5.toInt → Q (some (.int x4)) h) ∧ (x5.toInt < (100 : Int) → ((x2.toInt ≤ (zrem (zushr ((x3 * 1103515245) + 12345) 16) 100).toInt → Z l G mX1_drawRains d Q k n 8 [va_rf (some a), .int x1, .int x2, .int (((x3 * 1103515245) + 12345)), .int x4, .int ((x5 + 1))] [] h) ∧ ((zrem (zushr ((x3 * 1103515245) + 12345) 16) 100).toInt < x2.toInt → (0 ≤ x5.toInt ∧ x5.toInt < ((100 : Nat) : Int) ∧ (∀ I10 : Nat → Nat → Int32, I10 = (zwI h (a + 5) (zix x5) (1 : Int32)).1 → Z l G mX1_drawRains d Q k n 8 [va_rf (some a), .int x1, .int x2, .int (((x3 * 1103515245) + 12345)), .int ((x4 + 1)), .int ((x5 + 1))] [] (I10, h.2)))))))) :
    Z l G mX1_drawRains d Q k n 8 [va_rf (some a), .int x1, .int x2, .int x3, .int x4, .int x5] [] h := by
  refine z_iload dX1_drawRains_8 rfl ?_
  refine z_aloadn dX1_drawRains_10 rfl rfl ?_
  refine z_getRq (j := 9) zc1 dX1_drawRains_11 (ha.k 0 rfl) (ha.lt 0 rfl) (by decide) rfl w331 (ha.r 4 rfl) ?_
  refine z_alen (v := 100) dX1_drawRains_14 (ha.w 5 rfl).r rfl ?_
  refine z_icmp_ge (t := 55) dX1_drawRains_15 (by decide) (fun c1 => ?_) (fun c2 => ?_)
  · have hw3 := hw.1 c1
    refine z_iload dX1_drawRains_55 rfl ?_
    exact z_ret (v := some (.int x4)) dX1_drawRains_57 ⟨_, rfl, rfl⟩ rfl hw3
  · have hw4 := hw.2 c2
    refine z_iloadn dX1_drawRains_18 rfl rfl ?_
    refine z_ldc w1261 dX1_drawRains_19 ?_
    refine z_imul dX1_drawRains_21 ?_
    refine z_sipush (v := 12345) dX1_drawRains_22 (by decide) ?_
    refine z_iadd dX1_drawRains_25 ?_
    refine z_istoren (L' := [va_rf (some a), .int x1, .int x2, .int (((x3 * 1103515245) + 12345)), .int x4, .int x5]) dX1_drawRains_26 rfl (by decide) rfl ?_
    refine z_iloadn dX1_drawRains_27 rfl rfl ?_
    refine z_bipush (v := 16) dX1_drawRains_28 (by decide) ?_
    refine z_iushr dX1_drawRains_30 rfl ?_
    refine z_bipush (v := 100) dX1_drawRains_31 (by decide) ?_
    refine z_irem dX1_drawRains_33 (by decide) ?_
    refine z_iloadn dX1_drawRains_34 rfl rfl ?_
    refine z_icmp_ge (t := 49) dX1_drawRains_35 (by decide) (fun c5 => ?_) (fun c6 => ?_)
    · have hw7 := hw4.1 c5
      refine z_iinc (v := (x5 + 1)) (L' := [va_rf (some a), .int x1, .int x2, .int (((x3 * 1103515245) + 12345)), .int x4, .int ((x5 + 1))]) dX1_drawRains_49 (by decide) rfl rfl rfl ?_
      refine z_goto (t := 8) dX1_drawRains_52 (by decide) ?_
      exact hw7
    · have hw8 := hw4.2 c6
      refine z_aloadn dX1_drawRains_38 rfl rfl ?_
      refine z_getRq (j := 9) zc1 dX1_drawRains_39 (ha.k 0 rfl) (ha.lt 0 rfl) (by decide) rfl w331 (ha.r 4 rfl) ?_
      refine z_iload dX1_drawRains_42 rfl ?_
      refine z_iconst (v := 1) dX1_drawRains_44 (by decide) ?_
      have hw9 := hw8.2.2
      refine z_iast (N := 100) dX1_drawRains_45 (ha.w 5 rfl) hw8.1 hw8.2.1 ?_
      refine z_nm (r := h.2) rfl (fun I10 e11 => ?_)
      have hw12 := hw9 I10 e11
      refine z_iinc (v := (x4 + 1)) (L' := [va_rf (some a), .int x1, .int x2, .int (((x3 * 1103515245) + 12345)), .int ((x4 + 1)), .int x5]) dX1_drawRains_46 (by decide) rfl rfl rfl ?_
      refine z_iinc (v := (x5 + 1)) (L' := [va_rf (some a), .int x1, .int x2, .int (((x3 * 1103515245) + 12345)), .int ((x4 + 1)), .int ((x5 + 1))]) dX1_drawRains_49 (by decide) rfl rfl rfl ?_
      refine z_goto (t := 8) dX1_drawRains_52 (by decide) ?_
      exact hw12

theorem kX1_drawRains {l : Launch} {G : zG} {d : Nat} {Q : Option Value → zH → Prop} {k n : Nat} {h : zH} (a : Nat) (x1 : Int32) (x2 : Int32) (hz : Z l G mX1_drawRains d Q k n 0 [va_rf (some a), .int x1, .int x2, zU, zU, zU] [] h) : CT l G YX1_drawRains d k n [va_rf (some a), .int x1, .int x2] h Q :=
  CT.of (by decide +kernel) (fun t e => by have e2 : ((some .int) : Option FieldType) = some t := e; cases e2; exact ⟨by decide, by decide⟩) (by exact Nat.le_of_ble_eq_true rfl) (by exact hz)

theorem sX2_stay_0 {l : Launch} {G : zG} {d : Nat} {Q : Option Value → zH → Prop} {k n : Nat} {h : zH} (a : Nat) (ha : lo2 h a) (hd9 : 1 ≤ d)
    (hw : (∀ I1 : Nat → Nat → Int32, I1 = (zwI h a 6 (-1 : Int32)).1 → (∀ I4 : Nat → Nat → Int32, I4 = (zwI (I1, h.2) a 7 (-1 : Int32)).1 → (∀ I7 : Nat → Nat → Int32, I7 = (zwI (I4, h.2) a 8 (0 : Int32)).1 → Q none (I7, h.2))))) :
    Z l G mX2_stay d Q k n 0 [va_rf (some a)] [] h := by
  refine z_aloadn dX2_stay_0 rfl rfl ?_
  refine z_iconst (v := (-1)) dX2_stay_1 (by decide) ?_
  refine z_putI (j := 6) zc2 dX2_stay_2 (ha.k 0 rfl) (ha.lt 0 rfl) (by decide) rfl rfl (Or.inl rfl) (Or.inl w248) ?_
  refine z_nm (r := h.2) rfl (fun I1 e2 => ?_)
  have hw3 := hw I1 e2
  refine z_aloadn dX2_stay_5 rfl rfl ?_
  refine z_iconst (v := (-1)) dX2_stay_6 (by decide) ?_
  refine z_putI (j := 7) zc2 dX2_stay_7 (ha.k 0 rfl) (ha.lt 0 rfl) (by decide) rfl rfl (Or.inl rfl) (Or.inl w253) ?_
  refine z_nm (r := h.2) rfl (fun I4 e5 => ?_)
  have hw6 := hw3 I4 e5
  refine z_aloadn dX2_stay_10 rfl rfl ?_
  refine z_iconst (v := 0) dX2_stay_11 (by decide) ?_
  refine z_putI (j := 8) zc2 dX2_stay_12 (ha.k 0 rfl) (ha.lt 0 rfl) (by decide) rfl rfl (Or.inl rfl) (Or.inl w258) ?_
  refine z_nm (r := h.2) rfl (fun I7 e8 => ?_)
  have hw9 := hw6 I7 e8
  exact z_ret (v := none) dX2_stay_15 rfl rfl hw9

theorem kX2_stay {l : Launch} {G : zG} {d : Nat} {Q : Option Value → zH → Prop} {k n : Nat} {h : zH} (a : Nat) (hz : Z l G mX2_stay d Q k n 0 [va_rf (some a)] [] h) : CT l G YX2_stay d k n [va_rf (some a)] h Q :=
  CT.of (by decide +kernel) (fun t e => by cases e) (by exact Nat.le_of_ble_eq_true rfl) (by exact hz)

theorem sX2_walksHimself_0 {l : Launch} {G : zG} {d : Nat} {Q : Option Value → zH → Prop} {k n : Nat} {h : zH} (a : Nat) (ha : lo2 h a) (hd9 : 1 ≤ d)
    (hw : ((¬ zI h a 5 = (-1) → Q (some (.int 0)) h) ∧ (zI h a 5 = (-1) → ((zI h a 6 = (-1) → Q (some (.int 0)) h) ∧ (¬ zI h a 6 = (-1) → Q (some (.int 1)) h))))) :
    Z l G mX2_walksHimself d Q k n 0 [va_rf (some a)] [] h := by
  refine z_aloadn dX2_walksHimself_0 rfl rfl ?_
  refine z_getI (j := 5) zc2 dX2_walksHimself_1 (ha.k 0 rfl) (ha.lt 0 rfl) (by decide) rfl w244 ?_
  refine z_iconst (v := (-1)) dX2_walksHimself_4 (by decide) ?_
  refine z_icmp_ne (t := 20) dX2_walksHimself_5 (by decide) (fun c1 => ?_) (fun c2 => ?_)
  · have hw3 := hw.1 c1
    refine z_iconst (v := 0) dX2_walksHimself_20 (by decide) ?_
    exact z_ret (v := some (.int 0)) dX2_walksHimself_21 ⟨_, rfl, by decide⟩ rfl hw3
  · have hw4 := hw.2 c2
    refine z_aloadn dX2_walksHimself_8 rfl rfl ?_
    refine z_getI (j := 6) zc2 dX2_walksHimself_9 (ha.k 0 rfl) (ha.lt 0 rfl) (by decide) rfl w248 ?_
    refine z_iconst (v := (-1)) dX2_walksHimself_12 (by decide) ?_
    refine z_icmp_eq (t := 20) dX2_walksHimself_13 (by decide) (fun c5 => ?_) (fun c6 => ?_)
    · have hw7 := hw4.1 c5
      refine z_iconst (v := 0) dX2_walksHimself_20 (by decide) ?_
      exact z_ret (v := some (.int 0)) dX2_walksHimself_21 ⟨_, rfl, by decide⟩ rfl hw7
    · have hw8 := hw4.2 c6
      refine z_iconst (v := 1) dX2_walksHimself_16 (by decide) ?_
      refine z_goto (t := 21) dX2_walksHimself_17 (by decide) ?_
      exact z_ret (v := some (.int 1)) dX2_walksHimself_21 ⟨_, rfl, by decide⟩ rfl hw8

theorem kX2_walksHimself {l : Launch} {G : zG} {d : Nat} {Q : Option Value → zH → Prop} {k n : Nat} {h : zH} (a : Nat) (hz : Z l G mX2_walksHimself d Q k n 0 [va_rf (some a)] [] h) : CT l G YX2_walksHimself d k n [va_rf (some a)] h Q :=
  CT.of (by decide +kernel) (fun t e => by have e2 : ((some .boolean) : Option FieldType) = some t := e; cases e2; exact ⟨by decide, by decide⟩) (by exact Nat.le_of_ble_eq_true rfl) (by exact hz)

theorem sX3_hasSign_0 {l : Launch} {G : zG} {d : Nat} {Q : Option Value → zH → Prop} {k n : Nat} {h : zH} (a : Nat) (x1 : Int32) (ha : lo3 h a) (hd9 : 1 ≤ d)
    (hw : ((x1.toInt < (0 : Int) → Q (some (.int 0)) h) ∧ ((0 : Int) ≤ x1.toInt → (((zI h a 0).toInt ≤ x1.toInt → Q (some (.int 0)) h) ∧ (x1.toInt < (zI h a 0).toInt → Q (some (.int 1)) h))))) :
    Z l G mX3_hasSign d Q k n 0 [va_rf (some a), .int x1] [] h := by
  refine z_iloadn dX3_hasSign_0 rfl rfl ?_
  refine z_if_lt (t := 16) dX3_hasSign_1 (by decide) (fun c1 => ?_) (fun c2 => ?_)
  · have hw3 := hw.1 c1
    refine z_iconst (v := 0) dX3_hasSign_16 (by decide) ?_
    exact z_ret (v := some (.int 0)) dX3_hasSign_17 ⟨_, rfl, by decide⟩ rfl hw3
  · have hw4 := hw.2 c2
    refine z_iloadn dX3_hasSign_4 rfl rfl ?_
    refine z_aloadn dX3_hasSign_5 rfl rfl ?_
    refine z_getI (j := 0) zc3 dX3_hasSign_6 (ha.k 0 rfl) (ha.lt 0 rfl) (by decide) rfl w360 ?_
    refine z_icmp_ge (t := 16) dX3_hasSign_9 (by decide) (fun c5 => ?_) (fun c6 => ?_)
    · have hw7 := hw4.1 c5
      refine z_iconst (v := 0) dX3_hasSign_16 (by decide) ?_
      exact z_ret (v := some (.int 0)) dX3_hasSign_17 ⟨_, rfl, by decide⟩ rfl hw7
    · have hw8 := hw4.2 c6
      refine z_iconst (v := 1) dX3_hasSign_12 (by decide) ?_
      refine z_goto (t := 17) dX3_hasSign_13 (by decide) ?_
      exact z_ret (v := some (.int 1)) dX3_hasSign_17 ⟨_, rfl, by decide⟩ rfl hw8

theorem kX3_hasSign {l : Launch} {G : zG} {d : Nat} {Q : Option Value → zH → Prop} {k n : Nat} {h : zH} (a : Nat) (x1 : Int32) (hz : Z l G mX3_hasSign d Q k n 0 [va_rf (some a), .int x1] [] h) : CT l G YX3_hasSign d k n [va_rf (some a), .int x1] h Q :=
  CT.of (by decide +kernel) (fun t e => by have e2 : ((some .boolean) : Option FieldType) = some t := e; cases e2; exact ⟨by decide, by decide⟩) (by exact Nat.le_of_ble_eq_true rfl) (by exact hz)

theorem sX5_wordOf_0 {l : Launch} {G : zG} {d : Nat} {Q : Option Value → zH → Prop} {k n : Nat} {h : zH} (x0 : Int32)  (hd9 : 1 ≤ d)
    (hw : ((x0.toInt < 0 ∨ 9 < x0.toInt → Q (some (va_rf (some 1000020))) h) ∧ (x0.toInt = 0 → Q (some (va_rf (some 1000010))) h) ∧ (x0.toInt = 1 → Q (some (va_rf (some 1000011))) h) ∧ (x0.toInt = 2 → Q (some (va_rf (some 1000012))) h) ∧ (x0.toInt = 3 → Q (some (va_rf (some 1000013))) h) ∧ (x0.toInt = 4 → Q (some (va_rf (some 1000014))) h) ∧ (x0.toInt = 5 → Q (some (va_rf (some 1000015))) h) ∧ (x0.toInt = 6 → Q (some (va_rf (some 1000016))) h) ∧ (x0.toInt = 7 → Q (some (va_rf (some 1000017))) h) ∧ (x0.toInt = 8 → Q (some (va_rf (some 1000018))) h) ∧ (x0.toInt = 9 → Q (some (va_rf (some 1000019))) h))) :
    Z l G mX5_wordOf d Q k n 0 [.int x0] [] h := by
  refine z_iloadn dX5_wordOf_0 rfl rfl ?_
  refine z_tswc (td := 86) (ts := [56, 59, 62, 65, 68, 71, 74, 77, 80, 83]) dX5_wordOf_1 (by decide) (by decide) (by decide) (fun c1 => ?_) ⟨fun c1k0 => ?_, fun c1k1 => ?_, fun c1k2 => ?_, fun c1k3 => ?_, fun c1k4 => ?_, fun c1k5 => ?_, fun c1k6 => ?_, fun c1k7 => ?_, fun c1k8 => ?_, fun c1k9 => ?_, trivial⟩
  · have hw2 := hw.1 c1
    refine z_ldcs (i := 10) rfl rfl dX5_wordOf_86 ?_
    exact z_ret (v := some (va_rf (some 1000020))) dX5_wordOf_88 ⟨_, rfl⟩ rfl hw2
  · have hw3 := hw.2.1 c1k0
    refine z_ldcs (i := 0) rfl rfl dX5_wordOf_56 ?_
    exact z_ret (v := some (va_rf (some 1000010))) dX5_wordOf_58 ⟨_, rfl⟩ rfl hw3
  · have hw4 := hw.2.2.1 c1k1
    refine z_ldcs (i := 1) rfl rfl dX5_wordOf_59 ?_
    exact z_ret (v := some (va_rf (some 1000011))) dX5_wordOf_61 ⟨_, rfl⟩ rfl hw4
  · have hw5 := hw.2.2.2.1 c1k2
    refine z_ldcs (i := 2) rfl rfl dX5_wordOf_62 ?_
    exact z_ret (v := some (va_rf (some 1000012))) dX5_wordOf_64 ⟨_, rfl⟩ rfl hw5
  · have hw6 := hw.2.2.2.2.1 c1k3
    refine z_ldcs (i := 3) rfl rfl dX5_wordOf_65 ?_
    exact z_ret (v := some (va_rf (some 1000013))) dX5_wordOf_67 ⟨_, rfl⟩ rfl hw6
  · have hw7 := hw.2.2.2.2.2.1 c1k4
    refine z_ldcs (i := 4) rfl rfl dX5_wordOf_68 ?_
    exact z_ret (v := some (va_rf (some 1000014))) dX5_wordOf_70 ⟨_, rfl⟩ rfl hw7
  · have hw8 := hw.2.2.2.2.2.2.1 c1k5
    refine z_ldcs (i := 5) rfl rfl dX5_wordOf_71 ?_
    exact z_ret (v := some (va_rf (some 1000015))) dX5_wordOf_73 ⟨_, rfl⟩ rfl hw8
  · have hw9 := hw.2.2.2.2.2.2.2.1 c1k6
    refine z_ldcs (i := 6) rfl rfl dX5_wordOf_74 ?_
    exact z_ret (v := some (va_rf (some 1000016))) dX5_wordOf_76 ⟨_, rfl⟩ rfl hw9
  · have hw10 := hw.2.2.2.2.2.2.2.2.1 c1k7
    refine z_ldcs (i := 7) rfl rfl dX5_wordOf_77 ?_
    exact z_ret (v := some (va_rf (some 1000017))) dX5_wordOf_79 ⟨_, rfl⟩ rfl hw10
  · have hw11 := hw.2.2.2.2.2.2.2.2.2.1 c1k8
    refine z_ldcs (i := 8) rfl rfl dX5_wordOf_80 ?_
    exact z_ret (v := some (va_rf (some 1000018))) dX5_wordOf_82 ⟨_, rfl⟩ rfl hw11
  · have hw12 := hw.2.2.2.2.2.2.2.2.2.2 c1k9
    refine z_ldcs (i := 9) rfl rfl dX5_wordOf_83 ?_
    exact z_ret (v := some (va_rf (some 1000019))) dX5_wordOf_85 ⟨_, rfl⟩ rfl hw12

theorem kX5_wordOf {l : Launch} {G : zG} {d : Nat} {Q : Option Value → zH → Prop} {k n : Nat} {h : zH} (x0 : Int32) (hz : Z l G mX5_wordOf d Q k n 0 [.int x0] [] h) : CT l G YX5_wordOf d k n [.int x0] h Q :=
  CT.of (by decide +kernel) (fun t e => by have e2 : ((some (.object "java/lang/String")) : Option FieldType) = some t := e; cases e2; exact ⟨by decide, by decide⟩) (by exact Nat.le_of_ble_eq_true rfl) (by exact hz)

theorem sX5_isFull_0 {l : Launch} {G : zG} {d : Nat} {Q : Option Value → zH → Prop} {k n : Nat} {h : zH} (a : Nat) (x1 : Int32) (ha : lo5 h a) (hd9 : 1 ≤ d)
    (hw : ((x1.toInt = 2 → (((zI h (a + 1) 3).toInt < (6 : Int) → Q (some (.int 0)) h) ∧ ((6 : Int) ≤ (zI h (a + 1) 3).toInt → Q (some (.int 1)) h))) ∧ (¬ x1.toInt = 2 → ((x1.toInt = 9 → (((zI h (a + 1) 4).toInt < (5 : Int) → Q (some (.int 0)) h) ∧ ((5 : Int) ≤ (zI h (a + 1) 4).toInt → Q (some (.int 1)) h))) ∧ (¬ x1.toInt = 9 → ((x1.toInt = 10 → (((zI h (a + 19) 0).toInt < (10 : Int) → Q (some (.int 0)) h) ∧ ((10 : Int) ≤ (zI h (a + 19) 0).toInt → Q (some (.int 1)) h))) ∧ (¬ x1.toInt = 10 → Q (some (.int 0)) h))))))) :
    Z l G mX5_isFull d Q k n 0 [va_rf (some a), .int x1] [] h := by
  refine z_iloadn dX5_isFull_0 rfl rfl ?_
  refine z_lswc (td := 89) (ts := [(2, 36), (9, 54), (10, 71)]) dX5_isFull_1 (by decide) (by decide) (by decide) ?_
  refine ⟨fun c1 => ?_, fun c2 => ?_⟩
  · have hw3 := hw.1 c1
    refine z_aloadn dX5_isFull_36 rfl rfl ?_
    refine z_getRq (j := 0) zc5 dX5_isFull_37 (ha.k 0 rfl) (ha.lt 0 rfl) (by decide) rfl w434 (ha.r 17 rfl) ?_
    refine z_getIN (j := 3) zc1 dX5_isFull_40 (ha.k 1 rfl) (ha.lt 1 rfl) (by decide) rfl w314 ?_
    refine z_bipush (v := 6) dX5_isFull_43 (by decide) ?_
    refine z_icmp_lt (t := 52) dX5_isFull_45 (by decide) (fun c4 => ?_) (fun c5 => ?_)
    · have hw6 := hw3.1 c4
      refine z_iconst (v := 0) dX5_isFull_52 (by decide) ?_
      exact z_ret (v := some (.int 0)) dX5_isFull_53 ⟨_, rfl, by decide⟩ rfl hw6
    · have hw7 := hw3.2 c5
      refine z_iconst (v := 1) dX5_isFull_48 (by decide) ?_
      refine z_goto (t := 53) dX5_isFull_49 (by decide) ?_
      exact z_ret (v := some (.int 1)) dX5_isFull_53 ⟨_, rfl, by decide⟩ rfl hw7
  have hw8 := hw.2 c2
  refine ⟨fun c9 => ?_, fun c10 => ?_⟩
  · have hw11 := hw8.1 c9
    refine z_aloadn dX5_isFull_54 rfl rfl ?_
    refine z_getRq (j := 0) zc5 dX5_isFull_55 (ha.k 0 rfl) (ha.lt 0 rfl) (by decide) rfl w434 (ha.r 17 rfl) ?_
    refine z_getIN (j := 4) zc1 dX5_isFull_58 (ha.k 1 rfl) (ha.lt 1 rfl) (by decide) rfl w319 ?_
    refine z_iconst (v := 5) dX5_isFull_61 (by decide) ?_
    refine z_icmp_lt (t := 69) dX5_isFull_62 (by decide) (fun c12 => ?_) (fun c13 => ?_)
    · have hw14 := hw11.1 c12
      refine z_iconst (v := 0) dX5_isFull_69 (by decide) ?_
      exact z_ret (v := some (.int 0)) dX5_isFull_70 ⟨_, rfl, by decide⟩ rfl hw14
    · have hw15 := hw11.2 c13
      refine z_iconst (v := 1) dX5_isFull_65 (by decide) ?_
      refine z_goto (t := 70) dX5_isFull_66 (by decide) ?_
      exact z_ret (v := some (.int 1)) dX5_isFull_70 ⟨_, rfl, by decide⟩ rfl hw15
  have hw16 := hw8.2 c10
  refine ⟨fun c17 => ?_, fun c18 => ?_⟩
  · have hw19 := hw16.1 c17
    refine z_aloadn dX5_isFull_71 rfl rfl ?_
    refine z_getRq (j := 1) zc5 dX5_isFull_72 (ha.k 0 rfl) (ha.lt 0 rfl) (by decide) rfl w436 (ha.r 23 rfl) ?_
    refine z_getIN (j := 0) zc3 dX5_isFull_75 (ha.k 19 rfl) (ha.lt 19 rfl) (by decide) rfl w362 ?_
    refine z_bipush (v := 10) dX5_isFull_78 (by decide) ?_
    refine z_icmp_lt (t := 87) dX5_isFull_80 (by decide) (fun c20 => ?_) (fun c21 => ?_)
    · have hw22 := hw19.1 c20
      refine z_iconst (v := 0) dX5_isFull_87 (by decide) ?_
      exact z_ret (v := some (.int 0)) dX5_isFull_88 ⟨_, rfl, by decide⟩ rfl hw22
    · have hw23 := hw19.2 c21
      refine z_iconst (v := 1) dX5_isFull_83 (by decide) ?_
      refine z_goto (t := 88) dX5_isFull_84 (by decide) ?_
      exact z_ret (v := some (.int 1)) dX5_isFull_88 ⟨_, rfl, by decide⟩ rfl hw23
  have hw24 := hw16.2 c18
  refine z_iconst (v := 0) dX5_isFull_89 (by decide) ?_
  exact z_ret (v := some (.int 0)) dX5_isFull_90 ⟨_, rfl, by decide⟩ rfl hw24

theorem kX5_isFull {l : Launch} {G : zG} {d : Nat} {Q : Option Value → zH → Prop} {k n : Nat} {h : zH} (a : Nat) (x1 : Int32) (hz : Z l G mX5_isFull d Q k n 0 [va_rf (some a), .int x1] [] h) : CT l G YX5_isFull d k n [va_rf (some a), .int x1] h Q :=
  CT.of (by decide +kernel) (fun t e => by have e2 : ((some .boolean) : Option FieldType) = some t := e; cases e2; exact ⟨by decide, by decide⟩) (by exact Nat.le_of_ble_eq_true rfl) (by exact hz)

theorem sX5_note_0 {l : Launch} {G : zG} {d : Nat} {Q : Option Value → zH → Prop} {k n : Nat} {h : zH} (a : Nat) (x1 : Int32) (ha : lo5 h a) (hd9 : 1 ≤ d)
    (hw : ((¬ zI h a 2 = 0 → Q none h) ∧ (zI h a 2 = 0 → (∀ I5 : Nat → Nat → Int32, I5 = (zwI h a 2 x1).1 → (∀ I8 : Nat → Nat → Int32, I8 = (zwI (I5, h.2) a 3 (zI (I5, h.2) a 7)).1 → Q none (I8, h.2)))))) :
    Z l G mX5_note d Q k n 0 [va_rf (some a), .int x1] [] h := by
  refine z_aloadn dX5_note_0 rfl rfl ?_
  refine z_getI (j := 2) zc5 dX5_note_1 (ha.k 0 rfl) (ha.lt 0 rfl) (by decide) rfl w438 ?_
  refine z_if_ne (t := 20) dX5_note_4 (by decide) (fun c1 => ?_) (fun c2 => ?_)
  · have hw3 := hw.1 c1
    exact z_ret (v := none) dX5_note_20 rfl rfl hw3
  · have hw4 := hw.2 c2
    refine z_aloadn dX5_note_7 rfl rfl ?_
    refine z_iloadn dX5_note_8 rfl rfl ?_
    refine z_putI (j := 2) zc5 dX5_note_9 (ha.k 0 rfl) (ha.lt 0 rfl) (by decide) rfl rfl (Or.inl rfl) (Or.inl w438) ?_
    refine z_nm (r := h.2) rfl (fun I5 e6 => ?_)
    have hw7 := hw4 I5 e6
    refine z_aloadn dX5_note_12 rfl rfl ?_
    refine z_aloadn dX5_note_13 rfl rfl ?_
    refine z_getI (j := 7) zc5 dX5_note_14 (ha.k 0 rfl) (ha.lt 0 rfl) (by decide) rfl w445 ?_
    refine z_putI (j := 3) zc5 dX5_note_17 (ha.k 0 rfl) (ha.lt 0 rfl) (by decide) rfl rfl (Or.inl rfl) (Or.inl w440) ?_
    refine z_nm (r := h.2) rfl (fun I8 e9 => ?_)
    have hw10 := hw7 I8 e9
    exact z_ret (v := none) dX5_note_20 rfl rfl hw10

theorem kX5_note {l : Launch} {G : zG} {d : Nat} {Q : Option Value → zH → Prop} {k n : Nat} {h : zH} (a : Nat) (x1 : Int32) (hz : Z l G mX5_note d Q k n 0 [va_rf (some a), .int x1] [] h) : CT l G YX5_note d k n [va_rf (some a), .int x1] h Q :=
  CT.of (by decide +kernel) (fun t e => by cases e) (by exact Nat.le_of_ble_eq_true rfl) (by exact hz)

theorem sX5_isBlank_0 {l : Launch} {G : zG} {d : Nat} {Q : Option Value → zH → Prop} {k n : Nat} {h : zH} (x0 : Int32)  (hd9 : 1 ≤ d)
    (hw : ((x0 = 10 → Q (some (.int 1)) h) ∧ (¬ x0 = 10 → ((¬ x0 = 32 → Q (some (.int 0)) h) ∧ (x0 = 32 → Q (some (.int 1)) h))))) :
    Z l G mX5_isBlank d Q k n 0 [.int x0] [] h := by
  refine z_iloadn dX5_isBlank_0 rfl rfl ?_
  refine z_bipush (v := 10) dX5_isBlank_1 (by decide) ?_
  refine z_icmp_eq (t := 12) dX5_isBlank_3 (by decide) (fun c1 => ?_) (fun c2 => ?_)
  · have hw3 := hw.1 c1
    refine z_iconst (v := 1) dX5_isBlank_12 (by decide) ?_
    refine z_goto (t := 17) dX5_isBlank_13 (by decide) ?_
    exact z_ret (v := some (.int 1)) dX5_isBlank_17 ⟨_, rfl, by decide⟩ rfl hw3
  · have hw4 := hw.2 c2
    refine z_iloadn dX5_isBlank_6 rfl rfl ?_
    refine z_bipush (v := 32) dX5_isBlank_7 (by decide) ?_
    refine z_icmp_ne (t := 16) dX5_isBlank_9 (by decide) (fun c5 => ?_) (fun c6 => ?_)
    · have hw7 := hw4.1 c5
      refine z_iconst (v := 0) dX5_isBlank_16 (by decide) ?_
      exact z_ret (v := some (.int 0)) dX5_isBlank_17 ⟨_, rfl, by decide⟩ rfl hw7
    · have hw8 := hw4.2 c6
      refine z_iconst (v := 1) dX5_isBlank_12 (by decide) ?_
      refine z_goto (t := 17) dX5_isBlank_13 (by decide) ?_
      exact z_ret (v := some (.int 1)) dX5_isBlank_17 ⟨_, rfl, by decide⟩ rfl hw8

theorem kX5_isBlank {l : Launch} {G : zG} {d : Nat} {Q : Option Value → zH → Prop} {k n : Nat} {h : zH} (x0 : Int32) (hz : Z l G mX5_isBlank d Q k n 0 [.int x0] [] h) : CT l G YX5_isBlank d k n [.int x0] h Q :=
  CT.of (by decide +kernel) (fun t e => by have e2 : ((some .boolean) : Option FieldType) = some t := e; cases e2; exact ⟨by decide, by decide⟩) (by exact Nat.le_of_ble_eq_true rfl) (by exact hz)

theorem sX5_isLetter_0 {l : Launch} {G : zG} {d : Nat} {Q : Option Value → zH → Prop} {k n : Nat} {h : zH} (x0 : Int32)  (hd9 : 1 ≤ d)
    (hw : ((x0.toInt < (97 : Int) → Q (some (.int 0)) h) ∧ ((97 : Int) ≤ x0.toInt → (((122 : Int) < x0.toInt → Q (some (.int 0)) h) ∧ (x0.toInt ≤ (122 : Int) → Q (some (.int 1)) h))))) :
    Z l G mX5_isLetter d Q k n 0 [.int x0] [] h := by
  refine z_iloadn dX5_isLetter_0 rfl rfl ?_
  refine z_bipush (v := 97) dX5_isLetter_1 (by decide) ?_
  refine z_icmp_lt (t := 16) dX5_isLetter_3 (by decide) (fun c1 => ?_) (fun c2 => ?_)
  · have hw3 := hw.1 c1
    refine z_iconst (v := 0) dX5_isLetter_16 (by decide) ?_
    exact z_ret (v := some (.int 0)) dX5_isLetter_17 ⟨_, rfl, by decide⟩ rfl hw3
  · have hw4 := hw.2 c2
    refine z_iloadn dX5_isLetter_6 rfl rfl ?_
    refine z_bipush (v := 122) dX5_isLetter_7 (by decide) ?_
    refine z_icmp_gt (t := 16) dX5_isLetter_9 (by decide) (fun c5 => ?_) (fun c6 => ?_)
    · have hw7 := hw4.1 c5
      refine z_iconst (v := 0) dX5_isLetter_16 (by decide) ?_
      exact z_ret (v := some (.int 0)) dX5_isLetter_17 ⟨_, rfl, by decide⟩ rfl hw7
    · have hw8 := hw4.2 c6
      refine z_iconst (v := 1) dX5_isLetter_12 (by decide) ?_
      refine z_goto (t := 17) dX5_isLetter_13 (by decide) ?_
      exact z_ret (v := some (.int 1)) dX5_isLetter_17 ⟨_, rfl, by decide⟩ rfl hw8

theorem kX5_isLetter {l : Launch} {G : zG} {d : Nat} {Q : Option Value → zH → Prop} {k n : Nat} {h : zH} (x0 : Int32) (hz : Z l G mX5_isLetter d Q k n 0 [.int x0] [] h) : CT l G YX5_isLetter d k n [.int x0] h Q :=
  CT.of (by decide +kernel) (fun t e => by have e2 : ((some .boolean) : Option FieldType) = some t := e; cases e2; exact ⟨by decide, by decide⟩) (by exact Nat.le_of_ble_eq_true rfl) (by exact hz)

theorem sX5_isDigit_0 {l : Launch} {G : zG} {d : Nat} {Q : Option Value → zH → Prop} {k n : Nat} {h : zH} (x0 : Int32)  (hd9 : 1 ≤ d)
    (hw : ((x0.toInt < (48 : Int) → Q (some (.int 0)) h) ∧ ((48 : Int) ≤ x0.toInt → (((57 : Int) < x0.toInt → Q (some (.int 0)) h) ∧ (x0.toInt ≤ (57 : Int) → Q (some (.int 1)) h))))) :
    Z l G mX5_isDigit d Q k n 0 [.int x0] [] h := by
  refine z_iloadn dX5_isDigit_0 rfl rfl ?_
  refine z_bipush (v := 48) dX5_isDigit_1 (by decide) ?_
  refine z_icmp_lt (t := 16) dX5_isDigit_3 (by decide) (fun c1 => ?_) (fun c2 => ?_)
  · have hw3 := hw.1 c1
    refine z_iconst (v := 0) dX5_isDigit_16 (by decide) ?_
    exact z_ret (v := some (.int 0)) dX5_isDigit_17 ⟨_, rfl, by decide⟩ rfl hw3
  · have hw4 := hw.2 c2
    refine z_iloadn dX5_isDigit_6 rfl rfl ?_
    refine z_bipush (v := 57) dX5_isDigit_7 (by decide) ?_
    refine z_icmp_gt (t := 16) dX5_isDigit_9 (by decide) (fun c5 => ?_) (fun c6 => ?_)
    · have hw7 := hw4.1 c5
      refine z_iconst (v := 0) dX5_isDigit_16 (by decide) ?_
      exact z_ret (v := some (.int 0)) dX5_isDigit_17 ⟨_, rfl, by decide⟩ rfl hw7
    · have hw8 := hw4.2 c6
      refine z_iconst (v := 1) dX5_isDigit_12 (by decide) ?_
      refine z_goto (t := 17) dX5_isDigit_13 (by decide) ?_
      exact z_ret (v := some (.int 1)) dX5_isDigit_17 ⟨_, rfl, by decide⟩ rfl hw8

theorem kX5_isDigit {l : Launch} {G : zG} {d : Nat} {Q : Option Value → zH → Prop} {k n : Nat} {h : zH} (x0 : Int32) (hz : Z l G mX5_isDigit d Q k n 0 [.int x0] [] h) : CT l G YX5_isDigit d k n [.int x0] h Q :=
  CT.of (by decide +kernel) (fun t e => by have e2 : ((some .boolean) : Option FieldType) = some t := e; cases e2; exact ⟨by decide, by decide⟩) (by exact Nat.le_of_ble_eq_true rfl) (by exact hz)

theorem sX6_nightAt_0 {l : Launch} {G : zG} {d : Nat} {Q : Option Value → zH → Prop} {k n : Nat} {h : zH} (a : Nat) (x1 : Int32) (ha : lo6 h a) (hd9 : 1 ≤ d)
    (hw : ((x1.toInt < (0 : Int) → Q (some (va_rf none)) h) ∧ ((0 : Int) ≤ x1.toInt → (((zI h a 5).toInt ≤ x1.toInt → Q (some (va_rf none)) h) ∧ (x1.toInt < (zI h a 5).toInt → (((2 : Int) ≤ x1.toInt → Q (some (va_rf none)) h) ∧ (x1.toInt < (2 : Int) → (0 ≤ x1.toInt ∧ x1.toInt < ((2 : Nat) : Int) ∧ Q (some (va_rf (zR h (a + 2) (zix x1)))) h)))))))) :
    Z l G mX6_nightAt d Q k n 0 [va_rf (some a), .int x1] [] h := by
  refine z_iloadn dX6_nightAt_0 rfl rfl ?_
  refine z_if_lt (t := 30) dX6_nightAt_1 (by decide) (fun c1 => ?_) (fun c2 => ?_)
  · have hw3 := hw.1 c1
    refine z_null dX6_nightAt_30 ?_
    exact z_ret (v := some (va_rf none)) dX6_nightAt_31 ⟨_, rfl⟩ rfl hw3
  · have hw4 := hw.2 c2
    refine z_iloadn dX6_nightAt_4 rfl rfl ?_
    refine z_aloadn dX6_nightAt_5 rfl rfl ?_
    refine z_getI (j := 5) zc6 dX6_nightAt_6 (ha.k 0 rfl) (ha.lt 0 rfl) (by decide) rfl w401 ?_
    refine z_icmp_ge (t := 30) dX6_nightAt_9 (by decide) (fun c5 => ?_) (fun c6 => ?_)
    · have hw7 := hw4.1 c5
      refine z_null dX6_nightAt_30 ?_
      exact z_ret (v := some (va_rf none)) dX6_nightAt_31 ⟨_, rfl⟩ rfl hw7
    · have hw8 := hw4.2 c6
      refine z_iloadn dX6_nightAt_12 rfl rfl ?_
      refine z_aloadn dX6_nightAt_13 rfl rfl ?_
      refine z_getRq (j := 4) zc6 dX6_nightAt_14 (ha.k 0 rfl) (ha.lt 0 rfl) (by decide) rfl w400 (ha.r 1 rfl) ?_
      refine z_alenk (v := 2) 3 rfl (by decide) dX6_nightAt_17 (ha.k 2 rfl) (ha.lt 2 rfl) rfl ?_
      refine z_icmp_ge (t := 30) dX6_nightAt_18 (by decide) (fun c9 => ?_) (fun c10 => ?_)
      · have hw11 := hw8.1 c9
        refine z_null dX6_nightAt_30 ?_
        exact z_ret (v := some (va_rf none)) dX6_nightAt_31 ⟨_, rfl⟩ rfl hw11
      · have hw12 := hw8.2 c10
        refine z_aloadn dX6_nightAt_21 rfl rfl ?_
        refine z_getRq (j := 4) zc6 dX6_nightAt_22 (ha.k 0 rfl) (ha.lt 0 rfl) (by decide) rfl w400 (ha.r 1 rfl) ?_
        refine z_iloadn dX6_nightAt_25 rfl rfl ?_
        have hw13 := hw12.2.2
        refine z_aald (N := 2) 3 rfl (by decide) dX6_nightAt_26 (ha.k 2 rfl) (ha.lt 2 rfl) hw12.1 hw12.2.1 ?_
        refine z_goto (t := 31) dX6_nightAt_27 (by decide) ?_
        exact z_ret (v := some (va_rf (zR h (a + 2) (zix x1)))) dX6_nightAt_31 ⟨_, rfl⟩ rfl hw13

theorem kX6_nightAt {l : Launch} {G : zG} {d : Nat} {Q : Option Value → zH → Prop} {k n : Nat} {h : zH} (a : Nat) (x1 : Int32) (hz : Z l G mX6_nightAt d Q k n 0 [va_rf (some a), .int x1] [] h) : CT l G YX6_nightAt d k n [va_rf (some a), .int x1] h Q :=
  CT.of (by decide +kernel) (fun t e => by have e2 : ((some (.object "ClayPrints$Night")) : Option FieldType) = some t := e; cases e2; exact ⟨by decide, by decide⟩) (by exact Nat.le_of_ble_eq_true rfl) (by exact hz)

theorem sX6_readingAt_0 {l : Launch} {G : zG} {d : Nat} {Q : Option Value → zH → Prop} {k n : Nat} {h : zH} (a : Nat) (x1 : Int32) (ha : lo6 h a) (hd9 : 1 ≤ d)
    (hw : ((x1.toInt < (0 : Int) → Q (some (va_rf none)) h) ∧ ((0 : Int) ≤ x1.toInt → (((zI h a 7).toInt ≤ x1.toInt → Q (some (va_rf none)) h) ∧ (x1.toInt < (zI h a 7).toInt → (((2 : Int) ≤ x1.toInt → Q (some (va_rf none)) h) ∧ (x1.toInt < (2 : Int) → (0 ≤ x1.toInt ∧ x1.toInt < ((2 : Nat) : Int) ∧ Q (some (va_rf (zR h (a + 3) (zix x1)))) h)))))))) :
    Z l G mX6_readingAt d Q k n 0 [va_rf (some a), .int x1] [] h := by
  refine z_iloadn dX6_readingAt_0 rfl rfl ?_
  refine z_if_lt (t := 30) dX6_readingAt_1 (by decide) (fun c1 => ?_) (fun c2 => ?_)
  · have hw3 := hw.1 c1
    refine z_null dX6_readingAt_30 ?_
    exact z_ret (v := some (va_rf none)) dX6_readingAt_31 ⟨_, rfl⟩ rfl hw3
  · have hw4 := hw.2 c2
    refine z_iloadn dX6_readingAt_4 rfl rfl ?_
    refine z_aloadn dX6_readingAt_5 rfl rfl ?_
    refine z_getI (j := 7) zc6 dX6_readingAt_6 (ha.k 0 rfl) (ha.lt 0 rfl) (by decide) rfl w404 ?_
    refine z_icmp_ge (t := 30) dX6_readingAt_9 (by decide) (fun c5 => ?_) (fun c6 => ?_)
    · have hw7 := hw4.1 c5
      refine z_null dX6_readingAt_30 ?_
      exact z_ret (v := some (va_rf none)) dX6_readingAt_31 ⟨_, rfl⟩ rfl hw7
    · have hw8 := hw4.2 c6
      refine z_iloadn dX6_readingAt_12 rfl rfl ?_
      refine z_aloadn dX6_readingAt_13 rfl rfl ?_
      refine z_getRq (j := 6) zc6 dX6_readingAt_14 (ha.k 0 rfl) (ha.lt 0 rfl) (by decide) rfl w403 (ha.r 2 rfl) ?_
      refine z_alenk (v := 2) 5 rfl (by decide) dX6_readingAt_17 (ha.k 3 rfl) (ha.lt 3 rfl) rfl ?_
      refine z_icmp_ge (t := 30) dX6_readingAt_18 (by decide) (fun c9 => ?_) (fun c10 => ?_)
      · have hw11 := hw8.1 c9
        refine z_null dX6_readingAt_30 ?_
        exact z_ret (v := some (va_rf none)) dX6_readingAt_31 ⟨_, rfl⟩ rfl hw11
      · have hw12 := hw8.2 c10
        refine z_aloadn dX6_readingAt_21 rfl rfl ?_
        refine z_getRq (j := 6) zc6 dX6_readingAt_22 (ha.k 0 rfl) (ha.lt 0 rfl) (by decide) rfl w403 (ha.r 2 rfl) ?_
        refine z_iloadn dX6_readingAt_25 rfl rfl ?_
        have hw13 := hw12.2.2
        refine z_aald (N := 2) 5 rfl (by decide) dX6_readingAt_26 (ha.k 3 rfl) (ha.lt 3 rfl) hw12.1 hw12.2.1 ?_
        refine z_goto (t := 31) dX6_readingAt_27 (by decide) ?_
        exact z_ret (v := some (va_rf (zR h (a + 3) (zix x1)))) dX6_readingAt_31 ⟨_, rfl⟩ rfl hw13

theorem kX6_readingAt {l : Launch} {G : zG} {d : Nat} {Q : Option Value → zH → Prop} {k n : Nat} {h : zH} (a : Nat) (x1 : Int32) (hz : Z l G mX6_readingAt d Q k n 0 [va_rf (some a), .int x1] [] h) : CT l G YX6_readingAt d k n [va_rf (some a), .int x1] h Q :=
  CT.of (by decide +kernel) (fun t e => by have e2 : ((some (.object "ClayPrints$Reading")) : Option FieldType) = some t := e; cases e2; exact ⟨by decide, by decide⟩) (by exact Nat.le_of_ble_eq_true rfl) (by exact hz)

theorem sX6_slotFor_0 {l : Launch} {G : zG} {d : Nat} {Q : Option Value → zH → Prop} {k n : Nat} {h : zH} (a : Nat) (x1 : Int32) (x2 : Int32) (ha : lo6 h a) (hd9 : 1 ≤ d)
    (hw : ((x1 = 0 → ((¬ x1 = 0 → ((¬ x2 = (-1) → ((x2.toInt < (0 : Int) → Q (some (.int ((-1)))) h) ∧ ((0 : Int) ≤ x2.toInt → (((zI h a 7).toInt ≤ x2.toInt → Q (some (.int ((-1)))) h) ∧ (x2.toInt < (zI h a 7).toInt → Q (some (.int x2)) h))))) ∧ (x2 = (-1) → (((2 : Int) ≤ (zI h a 7).toInt → Q (some (.int ((-1)))) h) ∧ ((zI h a 7).toInt < (2 : Int) → Q (some (.int (zI h a 7))) h))))) ∧ (x1 = 0 → ((¬ x2 = (-1) → ((x2.toInt < (0 : Int) → Q (some (.int ((-1)))) h) ∧ ((0 : Int) ≤ x2.toInt → (((zI h a 5).toInt ≤ x2.toInt → Q (some (.int ((-1)))) h) ∧ (x2.toInt < (zI h a 5).toInt → Q (some (.int x2)) h))))) ∧ (x2 = (-1) → (((2 : Int) ≤ (zI h a 5).toInt → Q (some (.int ((-1)))) h) ∧ ((zI h a 5).toInt < (2 : Int) → Q (some (.int (zI h a 5))) h))))))) ∧ (¬ x1 = 0 → ((x1 = 1 → ((¬ x1 = 0 → ((¬ x2 = (-1) → ((x2.toInt < (0 : Int) → Q (some (.int ((-1)))) h) ∧ ((0 : Int) ≤ x2.toInt → (((zI h a 7).toInt ≤ x2.toInt → Q (some (.int ((-1)))) h) ∧ (x2.toInt < (zI h a 7).toInt → Q (some (.int x2)) h))))) ∧ (x2 = (-1) → (((2 : Int) ≤ (zI h a 7).toInt → Q (some (.int ((-1)))) h) ∧ ((zI h a 7).toInt < (2 : Int) → Q (some (.int (zI h a 7))) h))))) ∧ (x1 = 0 → ((¬ x2 = (-1) → ((x2.toInt < (0 : Int) → Q (some (.int ((-1)))) h) ∧ ((0 : Int) ≤ x2.toInt → (((zI h a 5).toInt ≤ x2.toInt → Q (some (.int ((-1)))) h) ∧ (x2.toInt < (zI h a 5).toInt → Q (some (.int x2)) h))))) ∧ (x2 = (-1) → (((2 : Int) ≤ (zI h a 5).toInt → Q (some (.int ((-1)))) h) ∧ ((zI h a 5).toInt < (2 : Int) → Q (some (.int (zI h a 5))) h))))))) ∧ (¬ x1 = 1 → Q (some (.int ((-1)))) h))))) :
    Z l G mX6_slotFor d Q k n 0 [va_rf (some a), .int x1, .int x2, zU] [] h := by
  refine z_iloadn dX6_slotFor_0 rfl rfl ?_
  refine z_if_eq (t := 11) dX6_slotFor_1 (by decide) (fun c1 => ?_) (fun c2 => ?_)
  · have hw3 := hw.1 c1
    refine z_iloadn dX6_slotFor_11 rfl rfl ?_
    refine z_if_ne (t := 22) dX6_slotFor_12 (by decide) (fun c5 => ?_) (fun c6 => ?_)
    · have hw7 := hw3.1 c5
      refine z_aloadn dX6_slotFor_22 rfl rfl ?_
      refine z_getI (j := 7) zc6 dX6_slotFor_23 (ha.k 0 rfl) (ha.lt 0 rfl) (by decide) rfl w404 ?_
      refine z_istoren (L' := [va_rf (some a), .int x1, .int x2, .int (zI h a 7)]) dX6_slotFor_26 rfl (by decide) rfl ?_
      refine z_iloadn dX6_slotFor_27 rfl rfl ?_
      refine z_iconst (v := (-1)) dX6_slotFor_28 (by decide) ?_
      refine z_icmp_ne (t := 43) dX6_slotFor_29 (by decide) (fun c9 => ?_) (fun c10 => ?_)
      · have hw11 := hw7.1 c9
        refine z_iloadn dX6_slotFor_43 rfl rfl ?_
        refine z_if_lt (t := 56) dX6_slotFor_44 (by decide) (fun c13 => ?_) (fun c14 => ?_)
        · have hw15 := hw11.1 c13
          refine z_iconst (v := (-1)) dX6_slotFor_56 (by decide) ?_
          exact z_ret (v := some (.int ((-1)))) dX6_slotFor_57 ⟨_, rfl, rfl⟩ rfl hw15
        · have hw16 := hw11.2 c14
          refine z_iloadn dX6_slotFor_47 rfl rfl ?_
          refine z_iloadn dX6_slotFor_48 rfl rfl ?_
          refine z_icmp_ge (t := 56) dX6_slotFor_49 (by decide) (fun c17 => ?_) (fun c18 => ?_)
          · have hw19 := hw16.1 c17
            refine z_iconst (v := (-1)) dX6_slotFor_56 (by decide) ?_
            exact z_ret (v := some (.int ((-1)))) dX6_slotFor_57 ⟨_, rfl, rfl⟩ rfl hw19
          · have hw20 := hw16.2 c18
            refine z_iloadn dX6_slotFor_52 rfl rfl ?_
            refine z_goto (t := 57) dX6_slotFor_53 (by decide) ?_
            exact z_ret (v := some (.int x2)) dX6_slotFor_57 ⟨_, rfl, rfl⟩ rfl hw20
      · have hw12 := hw7.2 c10
        refine z_iloadn dX6_slotFor_32 rfl rfl ?_
        refine z_iconst (v := 2) dX6_slotFor_33 (by decide) ?_
        refine z_icmp_ge (t := 41) dX6_slotFor_34 (by decide) (fun c21 => ?_) (fun c22 => ?_)
        · have hw23 := hw12.1 c21
          refine z_iconst (v := (-1)) dX6_slotFor_41 (by decide) ?_
          exact z_ret (v := some (.int ((-1)))) dX6_slotFor_42 ⟨_, rfl, rfl⟩ rfl hw23
        · have hw24 := hw12.2 c22
          refine z_iloadn dX6_slotFor_37 rfl rfl ?_
          refine z_goto (t := 42) dX6_slotFor_38 (by decide) ?_
          exact z_ret (v := some (.int (zI h a 7))) dX6_slotFor_42 ⟨_, rfl, rfl⟩ rfl hw24
    · have hw8 := hw3.2 c6
      refine z_aloadn dX6_slotFor_15 rfl rfl ?_
      refine z_getI (j := 5) zc6 dX6_slotFor_16 (ha.k 0 rfl) (ha.lt 0 rfl) (by decide) rfl w401 ?_
      refine z_goto (t := 26) dX6_slotFor_19 (by decide) ?_
      refine z_istoren (L' := [va_rf (some a), .int x1, .int x2, .int (zI h a 5)]) dX6_slotFor_26 rfl (by decide) rfl ?_
      refine z_iloadn dX6_slotFor_27 rfl rfl ?_
      refine z_iconst (v := (-1)) dX6_slotFor_28 (by decide) ?_
      refine z_icmp_ne (t := 43) dX6_slotFor_29 (by decide) (fun c25 => ?_) (fun c26 => ?_)
      · have hw27 := hw8.1 c25
        refine z_iloadn dX6_slotFor_43 rfl rfl ?_
        refine z_if_lt (t := 56) dX6_slotFor_44 (by decide) (fun c29 => ?_) (fun c30 => ?_)
        · have hw31 := hw27.1 c29
          refine z_iconst (v := (-1)) dX6_slotFor_56 (by decide) ?_
          exact z_ret (v := some (.int ((-1)))) dX6_slotFor_57 ⟨_, rfl, rfl⟩ rfl hw31
        · have hw32 := hw27.2 c30
          refine z_iloadn dX6_slotFor_47 rfl rfl ?_
          refine z_iloadn dX6_slotFor_48 rfl rfl ?_
          refine z_icmp_ge (t := 56) dX6_slotFor_49 (by decide) (fun c33 => ?_) (fun c34 => ?_)
          · have hw35 := hw32.1 c33
            refine z_iconst (v := (-1)) dX6_slotFor_56 (by decide) ?_
            exact z_ret (v := some (.int ((-1)))) dX6_slotFor_57 ⟨_, rfl, rfl⟩ rfl hw35
          · have hw36 := hw32.2 c34
            refine z_iloadn dX6_slotFor_52 rfl rfl ?_
            refine z_goto (t := 57) dX6_slotFor_53 (by decide) ?_
            exact z_ret (v := some (.int x2)) dX6_slotFor_57 ⟨_, rfl, rfl⟩ rfl hw36
      · have hw28 := hw8.2 c26
        refine z_iloadn dX6_slotFor_32 rfl rfl ?_
        refine z_iconst (v := 2) dX6_slotFor_33 (by decide) ?_
        refine z_icmp_ge (t := 41) dX6_slotFor_34 (by decide) (fun c37 => ?_) (fun c38 => ?_)
        · have hw39 := hw28.1 c37
          refine z_iconst (v := (-1)) dX6_slotFor_41 (by decide) ?_
          exact z_ret (v := some (.int ((-1)))) dX6_slotFor_42 ⟨_, rfl, rfl⟩ rfl hw39
        · have hw40 := hw28.2 c38
          refine z_iloadn dX6_slotFor_37 rfl rfl ?_
          refine z_goto (t := 42) dX6_slotFor_38 (by decide) ?_
          exact z_ret (v := some (.int (zI h a 5))) dX6_slotFor_42 ⟨_, rfl, rfl⟩ rfl hw40
  · have hw4 := hw.2 c2
    refine z_iloadn dX6_slotFor_4 rfl rfl ?_
    refine z_iconst (v := 1) dX6_slotFor_5 (by decide) ?_
    refine z_icmp_eq (t := 11) dX6_slotFor_6 (by decide) (fun c41 => ?_) (fun c42 => ?_)
    · have hw43 := hw4.1 c41
      refine z_iloadn dX6_slotFor_11 rfl rfl ?_
      refine z_if_ne (t := 22) dX6_slotFor_12 (by decide) (fun c45 => ?_) (fun c46 => ?_)
      · have hw47 := hw43.1 c45
        refine z_aloadn dX6_slotFor_22 rfl rfl ?_
        refine z_getI (j := 7) zc6 dX6_slotFor_23 (ha.k 0 rfl) (ha.lt 0 rfl) (by decide) rfl w404 ?_
        refine z_istoren (L' := [va_rf (some a), .int x1, .int x2, .int (zI h a 7)]) dX6_slotFor_26 rfl (by decide) rfl ?_
        refine z_iloadn dX6_slotFor_27 rfl rfl ?_
        refine z_iconst (v := (-1)) dX6_slotFor_28 (by decide) ?_
        refine z_icmp_ne (t := 43) dX6_slotFor_29 (by decide) (fun c49 => ?_) (fun c50 => ?_)
        · have hw51 := hw47.1 c49
          refine z_iloadn dX6_slotFor_43 rfl rfl ?_
          refine z_if_lt (t := 56) dX6_slotFor_44 (by decide) (fun c53 => ?_) (fun c54 => ?_)
          · have hw55 := hw51.1 c53
            refine z_iconst (v := (-1)) dX6_slotFor_56 (by decide) ?_
            exact z_ret (v := some (.int ((-1)))) dX6_slotFor_57 ⟨_, rfl, rfl⟩ rfl hw55
          · have hw56 := hw51.2 c54
            refine z_iloadn dX6_slotFor_47 rfl rfl ?_
            refine z_iloadn dX6_slotFor_48 rfl rfl ?_
            refine z_icmp_ge (t := 56) dX6_slotFor_49 (by decide) (fun c57 => ?_) (fun c58 => ?_)
            · have hw59 := hw56.1 c57
              refine z_iconst (v := (-1)) dX6_slotFor_56 (by decide) ?_
              exact z_ret (v := some (.int ((-1)))) dX6_slotFor_57 ⟨_, rfl, rfl⟩ rfl hw59
            · have hw60 := hw56.2 c58
              refine z_iloadn dX6_slotFor_52 rfl rfl ?_
              refine z_goto (t := 57) dX6_slotFor_53 (by decide) ?_
              exact z_ret (v := some (.int x2)) dX6_slotFor_57 ⟨_, rfl, rfl⟩ rfl hw60
        · have hw52 := hw47.2 c50
          refine z_iloadn dX6_slotFor_32 rfl rfl ?_
          refine z_iconst (v := 2) dX6_slotFor_33 (by decide) ?_
          refine z_icmp_ge (t := 41) dX6_slotFor_34 (by decide) (fun c61 => ?_) (fun c62 => ?_)
          · have hw63 := hw52.1 c61
            refine z_iconst (v := (-1)) dX6_slotFor_41 (by decide) ?_
            exact z_ret (v := some (.int ((-1)))) dX6_slotFor_42 ⟨_, rfl, rfl⟩ rfl hw63
          · have hw64 := hw52.2 c62
            refine z_iloadn dX6_slotFor_37 rfl rfl ?_
            refine z_goto (t := 42) dX6_slotFor_38 (by decide) ?_
            exact z_ret (v := some (.int (zI h a 7))) dX6_slotFor_42 ⟨_, rfl, rfl⟩ rfl hw64
      · have hw48 := hw43.2 c46
        refine z_aloadn dX6_slotFor_15 rfl rfl ?_
        refine z_getI (j := 5) zc6 dX6_slotFor_16 (ha.k 0 rfl) (ha.lt 0 rfl) (by decide) rfl w401 ?_
        refine z_goto (t := 26) dX6_slotFor_19 (by decide) ?_
        refine z_istoren (L' := [va_rf (some a), .int x1, .int x2, .int (zI h a 5)]) dX6_slotFor_26 rfl (by decide) rfl ?_
        refine z_iloadn dX6_slotFor_27 rfl rfl ?_
        refine z_iconst (v := (-1)) dX6_slotFor_28 (by decide) ?_
        refine z_icmp_ne (t := 43) dX6_slotFor_29 (by decide) (fun c65 => ?_) (fun c66 => ?_)
        · have hw67 := hw48.1 c65
          refine z_iloadn dX6_slotFor_43 rfl rfl ?_
          refine z_if_lt (t := 56) dX6_slotFor_44 (by decide) (fun c69 => ?_) (fun c70 => ?_)
          · have hw71 := hw67.1 c69
            refine z_iconst (v := (-1)) dX6_slotFor_56 (by decide) ?_
            exact z_ret (v := some (.int ((-1)))) dX6_slotFor_57 ⟨_, rfl, rfl⟩ rfl hw71
          · have hw72 := hw67.2 c70
            refine z_iloadn dX6_slotFor_47 rfl rfl ?_
            refine z_iloadn dX6_slotFor_48 rfl rfl ?_
            refine z_icmp_ge (t := 56) dX6_slotFor_49 (by decide) (fun c73 => ?_) (fun c74 => ?_)
            · have hw75 := hw72.1 c73
              refine z_iconst (v := (-1)) dX6_slotFor_56 (by decide) ?_
              exact z_ret (v := some (.int ((-1)))) dX6_slotFor_57 ⟨_, rfl, rfl⟩ rfl hw75
            · have hw76 := hw72.2 c74
              refine z_iloadn dX6_slotFor_52 rfl rfl ?_
              refine z_goto (t := 57) dX6_slotFor_53 (by decide) ?_
              exact z_ret (v := some (.int x2)) dX6_slotFor_57 ⟨_, rfl, rfl⟩ rfl hw76
        · have hw68 := hw48.2 c66
          refine z_iloadn dX6_slotFor_32 rfl rfl ?_
          refine z_iconst (v := 2) dX6_slotFor_33 (by decide) ?_
          refine z_icmp_ge (t := 41) dX6_slotFor_34 (by decide) (fun c77 => ?_) (fun c78 => ?_)
          · have hw79 := hw68.1 c77
            refine z_iconst (v := (-1)) dX6_slotFor_41 (by decide) ?_
            exact z_ret (v := some (.int ((-1)))) dX6_slotFor_42 ⟨_, rfl, rfl⟩ rfl hw79
          · have hw80 := hw68.2 c78
            refine z_iloadn dX6_slotFor_37 rfl rfl ?_
            refine z_goto (t := 42) dX6_slotFor_38 (by decide) ?_
            exact z_ret (v := some (.int (zI h a 5))) dX6_slotFor_42 ⟨_, rfl, rfl⟩ rfl hw80
    · have hw44 := hw4.2 c42
      refine z_iconst (v := (-1)) dX6_slotFor_9 (by decide) ?_
      exact z_ret (v := some (.int ((-1)))) dX6_slotFor_10 ⟨_, rfl, rfl⟩ rfl hw44

theorem kX6_slotFor {l : Launch} {G : zG} {d : Nat} {Q : Option Value → zH → Prop} {k n : Nat} {h : zH} (a : Nat) (x1 : Int32) (x2 : Int32) (hz : Z l G mX6_slotFor d Q k n 0 [va_rf (some a), .int x1, .int x2, zU] [] h) : CT l G YX6_slotFor d k n [va_rf (some a), .int x1, .int x2] h Q :=
  CT.of (by decide +kernel) (fun t e => by have e2 : ((some .int) : Option FieldType) = some t := e; cases e2; exact ⟨by decide, by decide⟩) (by exact Nat.le_of_ble_eq_true rfl) (by exact hz)

theorem sX7_groundAt_0 {l : Launch} {G : zG} {d : Nat} {Q : Option Value → zH → Prop} {k n : Nat} {h : zH} (a : Nat) (x1 : Int32) (ha : lo7 h a) (hd9 : 1 ≤ d)
    (hw : ((x1.toInt < (0 : Int) → Q (some (va_rf none)) h) ∧ ((0 : Int) ≤ x1.toInt → (((6 : Int) ≤ x1.toInt → Q (some (va_rf none)) h) ∧ (x1.toInt < (6 : Int) → (0 ≤ x1.toInt ∧ x1.toInt < ((6 : Nat) : Int) ∧ Q (some (va_rf (zR h (a + 3) (zix x1)))) h)))))) :
    Z l G mX7_groundAt d Q k n 0 [va_rf (some a), .int x1] [] h := by
  refine z_iloadn dX7_groundAt_0 rfl rfl ?_
  refine z_if_lt (t := 22) dX7_groundAt_1 (by decide) (fun c1 => ?_) (fun c2 => ?_)
  · have hw3 := hw.1 c1
    refine z_null dX7_groundAt_22 ?_
    exact z_ret (v := some (va_rf none)) dX7_groundAt_23 ⟨_, rfl⟩ rfl hw3
  · have hw4 := hw.2 c2
    refine z_iloadn dX7_groundAt_4 rfl rfl ?_
    refine z_aloadn dX7_groundAt_5 rfl rfl ?_
    refine z_getRq (j := 6) zc7 dX7_groundAt_6 (ha.k 0 rfl) (ha.lt 0 rfl) (by decide) rfl w626 (ha.r 8 rfl) ?_
    refine z_alenk (v := 6) 2 rfl (by decide) dX7_groundAt_9 (ha.k 3 rfl) (ha.lt 3 rfl) rfl ?_
    refine z_icmp_ge (t := 22) dX7_groundAt_10 (by decide) (fun c5 => ?_) (fun c6 => ?_)
    · have hw7 := hw4.1 c5
      refine z_null dX7_groundAt_22 ?_
      exact z_ret (v := some (va_rf none)) dX7_groundAt_23 ⟨_, rfl⟩ rfl hw7
    · have hw8 := hw4.2 c6
      refine z_aloadn dX7_groundAt_13 rfl rfl ?_
      refine z_getRq (j := 6) zc7 dX7_groundAt_14 (ha.k 0 rfl) (ha.lt 0 rfl) (by decide) rfl w626 (ha.r 8 rfl) ?_
      refine z_iloadn dX7_groundAt_17 rfl rfl ?_
      have hw9 := hw8.2.2
      refine z_aald99 (N := 6) dX7_groundAt_18 (ha.k 3 rfl) (ha.lt 3 rfl) hw8.1 hw8.2.1 ?_
      refine z_goto (t := 23) dX7_groundAt_19 (by decide) ?_
      exact z_ret (v := some (va_rf (zR h (a + 3) (zix x1)))) dX7_groundAt_23 ⟨_, rfl⟩ rfl hw9

theorem kX7_groundAt {l : Launch} {G : zG} {d : Nat} {Q : Option Value → zH → Prop} {k n : Nat} {h : zH} (a : Nat) (x1 : Int32) (hz : Z l G mX7_groundAt d Q k n 0 [va_rf (some a), .int x1] [] h) : CT l G YX7_groundAt d k n [va_rf (some a), .int x1] h Q :=
  CT.of (by decide +kernel) (fun t e => by have e2 : ((some (.array .int)) : Option FieldType) = some t := e; cases e2; exact ⟨by decide, by decide⟩) (by exact Nat.le_of_ble_eq_true rfl) (by exact hz)

theorem sX10_end_0 {l : Launch} {G : zG} {d : Nat} {Q : Option Value → zH → Prop} {k n : Nat} {h : zH} (a : Nat) (x1 : Int32) (ha : lo10 h a) (hd9 : 1 ≤ d)
    (hw : ((x1.toInt < (0 : Int) → Q (some (.int ((-1)))) h) ∧ ((0 : Int) ≤ x1.toInt → ((x1.toInt ≤ (zI h (a + 1) 1).toInt → (∀ I9 : Nat → Nat → Int32, I9 = (zwI h (a + 1) 1 x1).1 → Q (some (.int x1)) (I9, h.2))) ∧ ((zI h (a + 1) 1).toInt < x1.toInt → Q (some (.int ((-1)))) h))))) :
    Z l G mX10_end d Q k n 0 [va_rf (some a), .int x1] [] h := by
  refine z_iloadn dX10_end_0 rfl rfl ?_
  refine z_if_lt (t := 15) dX10_end_1 (by decide) (fun c1 => ?_) (fun c2 => ?_)
  · have hw3 := hw.1 c1
    refine z_iconst (v := (-1)) dX10_end_15 (by decide) ?_
    exact z_ret (v := some (.int ((-1)))) dX10_end_16 ⟨_, rfl, rfl⟩ rfl hw3
  · have hw4 := hw.2 c2
    refine z_iloadn dX10_end_4 rfl rfl ?_
    refine z_aloadn dX10_end_5 rfl rfl ?_
    refine z_getRq (j := 0) zc10 dX10_end_6 (ha.k 0 rfl) (ha.lt 0 rfl) (by decide) rfl w699 (ha.r 51 rfl) ?_
    refine z_getIN (j := 1) zc6 dX10_end_9 (ha.k 1 rfl) (ha.lt 1 rfl) (by decide) rfl w394 ?_
    refine z_icmp_le (t := 17) dX10_end_12 (by decide) (fun c5 => ?_) (fun c6 => ?_)
    · have hw7 := hw4.1 c5
      refine z_aloadn dX10_end_17 rfl rfl ?_
      refine z_getRq (j := 0) zc10 dX10_end_18 (ha.k 0 rfl) (ha.lt 0 rfl) (by decide) rfl w699 (ha.r 51 rfl) ?_
      refine z_iloadn dX10_end_21 rfl rfl ?_
      refine z_putI (j := 1) zc6 dX10_end_22 (ha.k 1 rfl) (ha.lt 1 rfl) (by decide) rfl rfl (Or.inl rfl) (Or.inr ⟨_, w394⟩) ?_
      refine z_nm (r := h.2) rfl (fun I9 e10 => ?_)
      have hw11 := hw7 I9 e10
      refine z_iloadn dX10_end_25 rfl rfl ?_
      exact z_ret (v := some (.int x1)) dX10_end_26 ⟨_, rfl, rfl⟩ rfl hw11
    · have hw8 := hw4.2 c6
      refine z_iconst (v := (-1)) dX10_end_15 (by decide) ?_
      exact z_ret (v := some (.int ((-1)))) dX10_end_16 ⟨_, rfl, rfl⟩ rfl hw8

theorem kX10_end {l : Launch} {G : zG} {d : Nat} {Q : Option Value → zH → Prop} {k n : Nat} {h : zH} (a : Nat) (x1 : Int32) (hz : Z l G mX10_end d Q k n 0 [va_rf (some a), .int x1] [] h) : CT l G YX10_end d k n [va_rf (some a), .int x1] h Q :=
  CT.of (by decide +kernel) (fun t e => by have e2 : ((some .int) : Option FieldType) = some t := e; cases e2; exact ⟨by decide, by decide⟩) (by exact Nat.le_of_ble_eq_true rfl) (by exact hz)

theorem sX10_fault_0 {l : Launch} {G : zG} {d : Nat} {Q : Option Value → zH → Prop} {k n : Nat} {h : zH} (a : Nat) (x1 : Int32) (ha : lo10 h a) (hd9 : 1 ≤ d)
    (hw : ((¬ x1 = 0 → ((¬ x1 = 1 → Q (some (.int ((-1)))) h) ∧ (x1 = 1 → Q (some (.int (zI h (a + 1) 3))) h))) ∧ (x1 = 0 → Q (some (.int (zI h (a + 1) 2))) h))) :
    Z l G mX10_fault d Q k n 0 [va_rf (some a), .int x1] [] h := by
  refine z_iloadn dX10_fault_0 rfl rfl ?_
  refine z_if_ne (t := 12) dX10_fault_1 (by decide) (fun c1 => ?_) (fun c2 => ?_)
  · have hw3 := hw.1 c1
    refine z_iloadn dX10_fault_12 rfl rfl ?_
    refine z_iconst (v := 1) dX10_fault_13 (by decide) ?_
    refine z_icmp_ne (t := 27) dX10_fault_14 (by decide) (fun c5 => ?_) (fun c6 => ?_)
    · have hw7 := hw3.1 c5
      refine z_iconst (v := (-1)) dX10_fault_27 (by decide) ?_
      exact z_ret (v := some (.int ((-1)))) dX10_fault_28 ⟨_, rfl, rfl⟩ rfl hw7
    · have hw8 := hw3.2 c6
      refine z_aloadn dX10_fault_17 rfl rfl ?_
      refine z_getRq (j := 0) zc10 dX10_fault_18 (ha.k 0 rfl) (ha.lt 0 rfl) (by decide) rfl w699 (ha.r 51 rfl) ?_
      refine z_getIN (j := 3) zc6 dX10_fault_21 (ha.k 1 rfl) (ha.lt 1 rfl) (by decide) rfl w399 ?_
      refine z_goto (t := 28) dX10_fault_24 (by decide) ?_
      exact z_ret (v := some (.int (zI h (a + 1) 3))) dX10_fault_28 ⟨_, rfl, rfl⟩ rfl hw8
  · have hw4 := hw.2 c2
    refine z_aloadn dX10_fault_4 rfl rfl ?_
    refine z_getRq (j := 0) zc10 dX10_fault_5 (ha.k 0 rfl) (ha.lt 0 rfl) (by decide) rfl w699 (ha.r 51 rfl) ?_
    refine z_getIN (j := 2) zc6 dX10_fault_8 (ha.k 1 rfl) (ha.lt 1 rfl) (by decide) rfl w396 ?_
    exact z_ret (v := some (.int (zI h (a + 1) 2))) dX10_fault_11 ⟨_, rfl, rfl⟩ rfl hw4

theorem kX10_fault {l : Launch} {G : zG} {d : Nat} {Q : Option Value → zH → Prop} {k n : Nat} {h : zH} (a : Nat) (x1 : Int32) (hz : Z l G mX10_fault d Q k n 0 [va_rf (some a), .int x1] [] h) : CT l G YX10_fault d k n [va_rf (some a), .int x1] h Q :=
  CT.of (by decide +kernel) (fun t e => by have e2 : ((some .int) : Option FieldType) = some t := e; cases e2; exact ⟨by decide, by decide⟩) (by exact Nat.le_of_ble_eq_true rfl) (by exact hz)

theorem sX10_count_0 {l : Launch} {G : zG} {d : Nat} {Q : Option Value → zH → Prop} {k n : Nat} {h : zH} (a : Nat) (x1 : Int32) (ha : lo10 h a) (hd9 : 1 ≤ d)
    (hw : ((¬ x1 = 0 → ((¬ x1 = 1 → Q (some (.int ((-2)))) h) ∧ (x1 = 1 → Q (some (.int (zI h (a + 1) 7))) h))) ∧ (x1 = 0 → Q (some (.int (zI h (a + 1) 5))) h))) :
    Z l G mX10_count d Q k n 0 [va_rf (some a), .int x1] [] h := by
  refine z_iloadn dX10_count_0 rfl rfl ?_
  refine z_if_ne (t := 12) dX10_count_1 (by decide) (fun c1 => ?_) (fun c2 => ?_)
  · have hw3 := hw.1 c1
    refine z_iloadn dX10_count_12 rfl rfl ?_
    refine z_iconst (v := 1) dX10_count_13 (by decide) ?_
    refine z_icmp_ne (t := 27) dX10_count_14 (by decide) (fun c5 => ?_) (fun c6 => ?_)
    · have hw7 := hw3.1 c5
      refine z_bipush (v := (-2)) dX10_count_27 (by decide) ?_
      exact z_ret (v := some (.int ((-2)))) dX10_count_29 ⟨_, rfl, rfl⟩ rfl hw7
    · have hw8 := hw3.2 c6
      refine z_aloadn dX10_count_17 rfl rfl ?_
      refine z_getRq (j := 0) zc10 dX10_count_18 (ha.k 0 rfl) (ha.lt 0 rfl) (by decide) rfl w699 (ha.r 51 rfl) ?_
      refine z_getIN (j := 7) zc6 dX10_count_21 (ha.k 1 rfl) (ha.lt 1 rfl) (by decide) rfl w405 ?_
      refine z_goto (t := 29) dX10_count_24 (by decide) ?_
      exact z_ret (v := some (.int (zI h (a + 1) 7))) dX10_count_29 ⟨_, rfl, rfl⟩ rfl hw8
  · have hw4 := hw.2 c2
    refine z_aloadn dX10_count_4 rfl rfl ?_
    refine z_getRq (j := 0) zc10 dX10_count_5 (ha.k 0 rfl) (ha.lt 0 rfl) (by decide) rfl w699 (ha.r 51 rfl) ?_
    refine z_getIN (j := 5) zc6 dX10_count_8 (ha.k 1 rfl) (ha.lt 1 rfl) (by decide) rfl w402 ?_
    exact z_ret (v := some (.int (zI h (a + 1) 5))) dX10_count_11 ⟨_, rfl, rfl⟩ rfl hw4

theorem kX10_count {l : Launch} {G : zG} {d : Nat} {Q : Option Value → zH → Prop} {k n : Nat} {h : zH} (a : Nat) (x1 : Int32) (hz : Z l G mX10_count d Q k n 0 [va_rf (some a), .int x1] [] h) : CT l G YX10_count d k n [va_rf (some a), .int x1] h Q :=
  CT.of (by decide +kernel) (fun t e => by have e2 : ((some .int) : Option FieldType) = some t := e; cases e2; exact ⟨by decide, by decide⟩) (by exact Nat.le_of_ble_eq_true rfl) (by exact hz)

theorem sX10_forgetFindings_0 {l : Launch} {G : zG} {d : Nat} {Q : Option Value → zH → Prop} {k n : Nat} {h : zH} (a : Nat) (ha : lo10 h a) (hd9 : 1 ≤ d)
    (hw : (∀ I1 : Nat → Nat → Int32, I1 = (zwI h a 11 (-1 : Int32)).1 → (∀ I4 : Nat → Nat → Int32, I4 = (zwI (I1, h.2) a 13 (-1 : Int32)).1 → (∀ I7 : Nat → Nat → Int32, I7 = (zwI (I4, h.2) a 14 (-1 : Int32)).1 → Q none (I7, h.2))))) :
    Z l G mX10_forgetFindings d Q k n 0 [va_rf (some a)] [] h := by
  refine z_aloadn dX10_forgetFindings_0 rfl rfl ?_
  refine z_iconst (v := (-1)) dX10_forgetFindings_1 (by decide) ?_
  refine z_putI (j := 11) zc10 dX10_forgetFindings_2 (ha.k 0 rfl) (ha.lt 0 rfl) (by decide) rfl rfl (Or.inl rfl) (Or.inl w710) ?_
  refine z_nm (r := h.2) rfl (fun I1 e2 => ?_)
  have hw3 := hw I1 e2
  refine z_aloadn dX10_forgetFindings_5 rfl rfl ?_
  refine z_iconst (v := (-1)) dX10_forgetFindings_6 (by decide) ?_
  refine z_putI (j := 13) zc10 dX10_forgetFindings_7 (ha.k 0 rfl) (ha.lt 0 rfl) (by decide) rfl rfl (Or.inl rfl) (Or.inl w712) ?_
  refine z_nm (r := h.2) rfl (fun I4 e5 => ?_)
  have hw6 := hw3 I4 e5
  refine z_aloadn dX10_forgetFindings_10 rfl rfl ?_
  refine z_iconst (v := (-1)) dX10_forgetFindings_11 (by decide) ?_
  refine z_putI (j := 14) zc10 dX10_forgetFindings_12 (ha.k 0 rfl) (ha.lt 0 rfl) (by decide) rfl rfl (Or.inl rfl) (Or.inl w713) ?_
  refine z_nm (r := h.2) rfl (fun I7 e8 => ?_)
  have hw9 := hw6 I7 e8
  exact z_ret (v := none) dX10_forgetFindings_15 rfl rfl hw9

theorem kX10_forgetFindings {l : Launch} {G : zG} {d : Nat} {Q : Option Value → zH → Prop} {k n : Nat} {h : zH} (a : Nat) (hz : Z l G mX10_forgetFindings d Q k n 0 [va_rf (some a)] [] h) : CT l G YX10_forgetFindings d k n [va_rf (some a)] h Q :=
  CT.of (by decide +kernel) (fun t e => by cases e) (by exact Nat.le_of_ble_eq_true rfl) (by exact hz)

theorem sX10_get_0 {l : Launch} {G : zG} {d : Nat} {Q : Option Value → zH → Prop} {k n : Nat} {h : zH} (r0 : Option Nat) (x1 : Int32)  (hd9 : 1 ≤ d)
    (hw : ((r0 = none → Q (some (.int ((-1)))) h) ∧ (∀ b2, r0 = some b2 → ((x1.toInt < (0 : Int) → Q (some (.int ((-1)))) h) ∧ ((0 : Int) ≤ x1.toInt → (∃ N9, zAr h b2 N9 ∧ (((Int32.ofNat N9).toInt ≤ x1.toInt → Q (some (.int ((-1)))) h) ∧ (x1.toInt < (Int32.ofNat N9).toInt → (∃ N18, zAr h b2 N18 ∧ 0 ≤ x1.toInt ∧ x1.toInt < ((N18 : Nat) : Int) ∧ Q (some (.int (zI h b2 (zix x1)))) h))))))))) :
    Z l G mX10_get d Q k n 0 [va_rf r0, .int x1] [] h := by
  refine z_aloadn dX10_get_0 rfl rfl ?_
  refine z_ifnull (t := 20) dX10_get_1 (by decide) (fun c1 => ?_) (fun b2 c1 => ?_)
  · have hw3 := hw.1 c1
    refine z_iconst (v := (-1)) dX10_get_20 (by decide) ?_
    exact z_ret (v := some (.int ((-1)))) dX10_get_21 ⟨_, rfl, rfl⟩ rfl hw3
  · have hw4 := hw.2 b2 c1
    refine z_iloadn dX10_get_4 rfl rfl ?_
    refine z_if_lt (t := 20) dX10_get_5 (by decide) (fun c5 => ?_) (fun c6 => ?_)
    · have hw7 := hw4.1 c5
      refine z_iconst (v := (-1)) dX10_get_20 (by decide) ?_
      exact z_ret (v := some (.int ((-1)))) dX10_get_21 ⟨_, rfl, rfl⟩ rfl hw7
    · have hw8 := hw4.2 c6
      refine z_iloadn dX10_get_8 rfl rfl ?_
      refine z_aloadn dX10_get_9 rfl rfl ?_
      refine z_soP [] c1 ?_
      obtain ⟨N9, qa10, hw11⟩ := hw8
      refine z_alen (N := N9) dX10_get_10 qa10 rfl ?_
      refine z_icmp_ge (t := 20) dX10_get_11 (by decide) (fun c12 => ?_) (fun c13 => ?_)
      · have hw14 := hw11.1 c12
        refine z_iconst (v := (-1)) dX10_get_20 (by decide) ?_
        exact z_ret (v := some (.int ((-1)))) dX10_get_21 ⟨_, rfl, rfl⟩ rfl hw14
      · have hw15 := hw11.2 c13
        refine z_aloadn dX10_get_14 rfl rfl ?_
        refine z_iloadn dX10_get_15 rfl rfl ?_
        refine z_soP [.int x1] c1 ?_
        obtain ⟨N18, qa20, qz21, qy22, hw16⟩ := hw15
        refine z_iald (N := N18) dX10_get_16 qa20 qz21 qy22 ?_
        refine z_goto (t := 21) dX10_get_17 (by decide) ?_
        exact z_ret (v := some (.int (zI h b2 (zix x1)))) dX10_get_21 ⟨_, rfl, rfl⟩ rfl hw16

theorem kX10_get {l : Launch} {G : zG} {d : Nat} {Q : Option Value → zH → Prop} {k n : Nat} {h : zH} (r0 : Option Nat) (x1 : Int32) (hz : Z l G mX10_get d Q k n 0 [va_rf r0, .int x1] [] h) : CT l G YX10_get d k n [va_rf r0, .int x1] h Q :=
  CT.of (by decide +kernel) (fun t e => by have e2 : ((some .int) : Option FieldType) = some t := e; cases e2; exact ⟨by decide, by decide⟩) (by cases r0 <;> exact Nat.le_of_ble_eq_true rfl) (by cases r0 <;> exact hz)

theorem sX10_put_0 {l : Launch} {G : zG} {d : Nat} {Q : Option Value → zH → Prop} {k n : Nat} {h : zH} (r0 : Option Nat) (x1 : Int32) (x2 : Int32)  (hd9 : 1 ≤ d)
    (hw : ((r0 = none → Q none h) ∧ (∀ b2, r0 = some b2 → ((x1.toInt < (0 : Int) → Q none h) ∧ ((0 : Int) ≤ x1.toInt → (∃ N9, zAr h b2 N9 ∧ (((Int32.ofNat N9).toInt ≤ x1.toInt → Q none h) ∧ (x1.toInt < (Int32.ofNat N9).toInt → (∃ N20, zAw h b2 N20 ∧ 0 ≤ x1.toInt ∧ x1.toInt < ((N20 : Nat) : Int) ∧ (∀ I17 : Nat → Nat → Int32, I17 = (zwI h b2 (zix x1) x2).1 → Q none (I17, h.2))))))))))) :
    Z l G mX10_put d Q k n 0 [va_rf r0, .int x1, .int x2] [] h := by
  refine z_aloadn dX10_put_0 rfl rfl ?_
  refine z_ifnull (t := 18) dX10_put_1 (by decide) (fun c1 => ?_) (fun b2 c1 => ?_)
  · have hw3 := hw.1 c1
    exact z_ret (v := none) dX10_put_18 rfl rfl hw3
  · have hw4 := hw.2 b2 c1
    refine z_iloadn dX10_put_4 rfl rfl ?_
    refine z_if_lt (t := 18) dX10_put_5 (by decide) (fun c5 => ?_) (fun c6 => ?_)
    · have hw7 := hw4.1 c5
      exact z_ret (v := none) dX10_put_18 rfl rfl hw7
    · have hw8 := hw4.2 c6
      refine z_iloadn dX10_put_8 rfl rfl ?_
      refine z_aloadn dX10_put_9 rfl rfl ?_
      refine z_soP [] c1 ?_
      obtain ⟨N9, qa10, hw11⟩ := hw8
      refine z_alen (N := N9) dX10_put_10 qa10 rfl ?_
      refine z_icmp_ge (t := 18) dX10_put_11 (by decide) (fun c12 => ?_) (fun c13 => ?_)
      · have hw14 := hw11.1 c12
        exact z_ret (v := none) dX10_put_18 rfl rfl hw14
      · have hw15 := hw11.2 c13
        refine z_aloadn dX10_put_14 rfl rfl ?_
        refine z_iloadn dX10_put_15 rfl rfl ?_
        refine z_iloadn dX10_put_16 rfl rfl ?_
        refine z_soP [.int x2, .int x1] c1 ?_
        obtain ⟨N20, qa21, qz22, qy23, hw16⟩ := hw15
        refine z_iast (N := N20) dX10_put_17 qa21 qz22 qy23 ?_
        refine z_nm (r := h.2) rfl (fun I17 e18 => ?_)
        have hw19 := hw16 I17 e18
        exact z_ret (v := none) dX10_put_18 rfl rfl hw19

theorem kX10_put {l : Launch} {G : zG} {d : Nat} {Q : Option Value → zH → Prop} {k n : Nat} {h : zH} (r0 : Option Nat) (x1 : Int32) (x2 : Int32) (hz : Z l G mX10_put d Q k n 0 [va_rf r0, .int x1, .int x2] [] h) : CT l G YX10_put d k n [va_rf r0, .int x1, .int x2] h Q :=
  CT.of (by decide +kernel) (fun t e => by cases e) (by cases r0 <;> exact Nat.le_of_ble_eq_true rfl) (by cases r0 <;> exact hz)

theorem sX10_isMinute_0 {l : Launch} {G : zG} {d : Nat} {Q : Option Value → zH → Prop} {k n : Nat} {h : zH} (x0 : Int32)  (hd9 : 1 ≤ d)
    (hw : ((x0.toInt < (0 : Int) → Q (some (.int 0)) h) ∧ ((0 : Int) ≤ x0.toInt → (((100 : Int) ≤ x0.toInt → Q (some (.int 0)) h) ∧ (x0.toInt < (100 : Int) → Q (some (.int 1)) h))))) :
    Z l G mX10_isMinute d Q k n 0 [.int x0] [] h := by
  refine z_iloadn dX10_isMinute_0 rfl rfl ?_
  refine z_if_lt (t := 14) dX10_isMinute_1 (by decide) (fun c1 => ?_) (fun c2 => ?_)
  · have hw3 := hw.1 c1
    refine z_iconst (v := 0) dX10_isMinute_14 (by decide) ?_
    exact z_ret (v := some (.int 0)) dX10_isMinute_15 ⟨_, rfl, by decide⟩ rfl hw3
  · have hw4 := hw.2 c2
    refine z_iloadn dX10_isMinute_4 rfl rfl ?_
    refine z_bipush (v := 100) dX10_isMinute_5 (by decide) ?_
    refine z_icmp_ge (t := 14) dX10_isMinute_7 (by decide) (fun c5 => ?_) (fun c6 => ?_)
    · have hw7 := hw4.1 c5
      refine z_iconst (v := 0) dX10_isMinute_14 (by decide) ?_
      exact z_ret (v := some (.int 0)) dX10_isMinute_15 ⟨_, rfl, by decide⟩ rfl hw7
    · have hw8 := hw4.2 c6
      refine z_iconst (v := 1) dX10_isMinute_10 (by decide) ?_
      refine z_goto (t := 15) dX10_isMinute_11 (by decide) ?_
      exact z_ret (v := some (.int 1)) dX10_isMinute_15 ⟨_, rfl, by decide⟩ rfl hw8

theorem kX10_isMinute {l : Launch} {G : zG} {d : Nat} {Q : Option Value → zH → Prop} {k n : Nat} {h : zH} (x0 : Int32) (hz : Z l G mX10_isMinute d Q k n 0 [.int x0] [] h) : CT l G YX10_isMinute d k n [.int x0] h Q :=
  CT.of (by decide +kernel) (fun t e => by have e2 : ((some .boolean) : Option FieldType) = some t := e; cases e2; exact ⟨by decide, by decide⟩) (by exact Nat.le_of_ble_eq_true rfl) (by exact hz)

theorem sX10_greatestDivisor_0 {l : Launch} {G : zG} {d : Nat} {Q : Option Value → zH → Prop} {k n : Nat} {h : zH} (x0 : Int32)  (hd9 : 1 ≤ d)
    (hw : Z l G mX10_greatestDivisor d Q k n 3 [.int x0, .int 60] [] h) :
    Z l G mX10_greatestDivisor d Q k n 0 [.int x0, zU] [] h := by
  refine z_bipush (v := 60) dX10_greatestDivisor_0 (by decide) ?_
  refine z_istoren (L' := [.int x0, .int 60]) dX10_greatestDivisor_2 rfl (by decide) rfl ?_
  exact hw

theorem sX10_greatestDivisor_3 {l : Launch} {G : zG} {d : Nat} {Q : Option Value → zH → Prop} {k n : Nat} {h : zH} (x0 : Int32) (x1 : Int32)  (hd9 : 1 ≤ d)
    (hw : ((x1.toInt ≤ (1 : Int) → Q (some (.int 1)) h) ∧ ((1 : Int) < x1.toInt → (¬ x1 = 0 ∧ ((¬ (zrem 60 x1) = 0 → Z l G mX10_greatestDivisor d Q k n 3 [.int x0, .int ((x1 + (-1)))] [] h) ∧ ((zrem 60 x1) = 0 → (¬ x1 = 0 ∧ ((¬ (zrem x0 x1) = 0 → Z l G mX10_greatestDivisor d Q k n 3 [.int x0, .int ((x1 + (-1)))] [] h) ∧ ((zrem x0 x1) = 0 → Q (some (.int x1)) h))))))))) :
    Z l G mX10_greatestDivisor d Q k n 3 [.int x0, .int x1] [] h := by
  refine z_iloadn dX10_greatestDivisor_3 rfl rfl ?_
  refine z_iconst (v := 1) dX10_greatestDivisor_4 (by decide) ?_
  refine z_icmp_le (t := 29) dX10_greatestDivisor_5 (by decide) (fun c1 => ?_) (fun c2 => ?_)
  · have hw3 := hw.1 c1
    refine z_iconst (v := 1) dX10_greatestDivisor_29 (by decide) ?_
    exact z_ret (v := some (.int 1)) dX10_greatestDivisor_30 ⟨_, rfl, rfl⟩ rfl hw3
  · have hw4 := hw.2 c2
    refine z_bipush (v := 60) dX10_greatestDivisor_8 (by decide) ?_
    refine z_iloadn dX10_greatestDivisor_10 rfl rfl ?_
    have hw5 := hw4.2
    refine z_irem dX10_greatestDivisor_11 hw4.1 ?_
    refine z_if_ne (t := 23) dX10_greatestDivisor_12 (by decide) (fun c6 => ?_) (fun c7 => ?_)
    · have hw8 := hw5.1 c6
      refine z_iinc (v := (x1 + (-1))) (L' := [.int x0, .int ((x1 + (-1)))]) dX10_greatestDivisor_23 (by decide) rfl rfl rfl ?_
      refine z_goto (t := 3) dX10_greatestDivisor_26 (by decide) ?_
      exact hw8
    · have hw9 := hw5.2 c7
      refine z_iloadn dX10_greatestDivisor_15 rfl rfl ?_
      refine z_iloadn dX10_greatestDivisor_16 rfl rfl ?_
      have hw10 := hw9.2
      refine z_irem dX10_greatestDivisor_17 hw9.1 ?_
      refine z_if_ne (t := 23) dX10_greatestDivisor_18 (by decide) (fun c11 => ?_) (fun c12 => ?_)
      · have hw13 := hw10.1 c11
        refine z_iinc (v := (x1 + (-1))) (L' := [.int x0, .int ((x1 + (-1)))]) dX10_greatestDivisor_23 (by decide) rfl rfl rfl ?_
        refine z_goto (t := 3) dX10_greatestDivisor_26 (by decide) ?_
        exact hw13
      · have hw14 := hw10.2 c12
        refine z_iloadn dX10_greatestDivisor_21 rfl rfl ?_
        exact z_ret (v := some (.int x1)) dX10_greatestDivisor_22 ⟨_, rfl, rfl⟩ rfl hw14

theorem kX10_greatestDivisor {l : Launch} {G : zG} {d : Nat} {Q : Option Value → zH → Prop} {k n : Nat} {h : zH} (x0 : Int32) (hz : Z l G mX10_greatestDivisor d Q k n 0 [.int x0, zU] [] h) : CT l G YX10_greatestDivisor d k n [.int x0] h Q :=
  CT.of (by decide +kernel) (fun t e => by have e2 : ((some .int) : Option FieldType) = some t := e; cases e2; exact ⟨by decide, by decide⟩) (by exact Nat.le_of_ble_eq_true rfl) (by exact hz)

theorem sX10_shape_0 {l : Launch} {G : zG} {d : Nat} {Q : Option Value → zH → Prop} {k n : Nat} {h : zH} (x0 : Int32) (x1 : Int32) (x2 : Int32)  (hd9 : 1 ≤ d)
    (hw : Q (some (.int ((((x0 <<< ((3 : Int32) &&& 31)) ||| (x1 <<< ((2 : Int32) &&& 31))) ||| x2)))) h) :
    Z l G mX10_shape d Q k n 0 [.int x0, .int x1, .int x2] [] h := by
  refine z_iloadn dX10_shape_0 rfl rfl ?_
  refine z_iconst (v := 3) dX10_shape_1 (by decide) ?_
  refine z_ishl dX10_shape_2 ?_
  refine z_iloadn dX10_shape_3 rfl rfl ?_
  refine z_iconst (v := 2) dX10_shape_4 (by decide) ?_
  refine z_ishl dX10_shape_5 ?_
  refine z_ior dX10_shape_6 ?_
  refine z_iloadn dX10_shape_7 rfl rfl ?_
  refine z_ior dX10_shape_8 ?_
  exact z_ret (v := some (.int ((((x0 <<< ((3 : Int32) &&& 31)) ||| (x1 <<< ((2 : Int32) &&& 31))) ||| x2)))) dX10_shape_9 ⟨_, rfl, rfl⟩ rfl hw

theorem kX10_shape {l : Launch} {G : zG} {d : Nat} {Q : Option Value → zH → Prop} {k n : Nat} {h : zH} (x0 : Int32) (x1 : Int32) (x2 : Int32) (hz : Z l G mX10_shape d Q k n 0 [.int x0, .int x1, .int x2] [] h) : CT l G YX10_shape d k n [.int x0, .int x1, .int x2] h Q :=
  CT.of (by decide +kernel) (fun t e => by have e2 : ((some .int) : Option FieldType) = some t := e; cases e2; exact ⟨by decide, by decide⟩) (by exact Nat.le_of_ble_eq_true rfl) (by exact hz)

theorem sX10_soleOf_0 {l : Launch} {G : zG} {d : Nat} {Q : Option Value → zH → Prop} {k n : Nat} {h : zH} (x0 : Int32)  (hd9 : 1 ≤ d)
    (hw : Q (some (.int ((x0 >>> ((3 : Int32) &&& 31))))) h) :
    Z l G mX10_soleOf d Q k n 0 [.int x0] [] h := by
  refine z_iloadn dX10_soleOf_0 rfl rfl ?_
  refine z_iconst (v := 3) dX10_soleOf_1 (by decide) ?_
  refine z_ishr dX10_soleOf_2 ?_
  exact z_ret (v := some (.int ((x0 >>> ((3 : Int32) &&& 31))))) dX10_soleOf_3 ⟨_, rfl, rfl⟩ rfl hw

theorem kX10_soleOf {l : Launch} {G : zG} {d : Nat} {Q : Option Value → zH → Prop} {k n : Nat} {h : zH} (x0 : Int32) (hz : Z l G mX10_soleOf d Q k n 0 [.int x0] [] h) : CT l G YX10_soleOf d k n [.int x0] h Q :=
  CT.of (by decide +kernel) (fun t e => by have e2 : ((some .int) : Option FieldType) = some t := e; cases e2; exact ⟨by decide, by decide⟩) (by exact Nat.le_of_ble_eq_true rfl) (by exact hz)

theorem sX10_footOf_0 {l : Launch} {G : zG} {d : Nat} {Q : Option Value → zH → Prop} {k n : Nat} {h : zH} (x0 : Int32)  (hd9 : 1 ≤ d)
    (hw : Q (some (.int (((x0 >>> ((2 : Int32) &&& 31)) &&& 1)))) h) :
    Z l G mX10_footOf d Q k n 0 [.int x0] [] h := by
  refine z_iloadn dX10_footOf_0 rfl rfl ?_
  refine z_iconst (v := 2) dX10_footOf_1 (by decide) ?_
  refine z_ishr dX10_footOf_2 ?_
  refine z_iconst (v := 1) dX10_footOf_3 (by decide) ?_
  refine z_iand dX10_footOf_4 ?_
  exact z_ret (v := some (.int (((x0 >>> ((2 : Int32) &&& 31)) &&& 1)))) dX10_footOf_5 ⟨_, rfl, rfl⟩ rfl hw

theorem kX10_footOf {l : Launch} {G : zG} {d : Nat} {Q : Option Value → zH → Prop} {k n : Nat} {h : zH} (x0 : Int32) (hz : Z l G mX10_footOf d Q k n 0 [.int x0] [] h) : CT l G YX10_footOf d k n [.int x0] h Q :=
  CT.of (by decide +kernel) (fun t e => by have e2 : ((some .int) : Option FieldType) = some t := e; cases e2; exact ⟨by decide, by decide⟩) (by exact Nat.le_of_ble_eq_true rfl) (by exact hz)

theorem sX10_sideOf_0 {l : Launch} {G : zG} {d : Nat} {Q : Option Value → zH → Prop} {k n : Nat} {h : zH} (x0 : Int32)  (hd9 : 1 ≤ d)
    (hw : Q (some (.int ((x0 &&& 3)))) h) :
    Z l G mX10_sideOf d Q k n 0 [.int x0] [] h := by
  refine z_iloadn dX10_sideOf_0 rfl rfl ?_
  refine z_iconst (v := 3) dX10_sideOf_1 (by decide) ?_
  refine z_iand dX10_sideOf_2 ?_
  exact z_ret (v := some (.int ((x0 &&& 3)))) dX10_sideOf_3 ⟨_, rfl, rfl⟩ rfl hw

theorem kX10_sideOf {l : Launch} {G : zG} {d : Nat} {Q : Option Value → zH → Prop} {k n : Nat} {h : zH} (x0 : Int32) (hz : Z l G mX10_sideOf d Q k n 0 [.int x0] [] h) : CT l G YX10_sideOf d k n [.int x0] h Q :=
  CT.of (by decide +kernel) (fun t e => by have e2 : ((some .int) : Option FieldType) = some t := e; cases e2; exact ⟨by decide, by decide⟩) (by exact Nat.le_of_ble_eq_true rfl) (by exact hz)

theorem sX11_isIn_0 {l : Launch} {G : zG} {d : Nat} {Q : Option Value → zH → Prop} {k n : Nat} {h : zH} (x0 : Int32) (x1 : Int32) (x2 : Int32)  (hd9 : 1 ≤ d)
    (hw : ((x0.toInt < x1.toInt → Q (some (.int 0)) h) ∧ (x1.toInt ≤ x0.toInt → ((x2.toInt < x0.toInt → Q (some (.int 0)) h) ∧ (x0.toInt ≤ x2.toInt → Q (some (.int 1)) h))))) :
    Z l G mX11_isIn d Q k n 0 [.int x0, .int x1, .int x2] [] h := by
  refine z_iloadn dX11_isIn_0 rfl rfl ?_
  refine z_iloadn dX11_isIn_1 rfl rfl ?_
  refine z_icmp_lt (t := 14) dX11_isIn_2 (by decide) (fun c1 => ?_) (fun c2 => ?_)
  · have hw3 := hw.1 c1
    refine z_iconst (v := 0) dX11_isIn_14 (by decide) ?_
    exact z_ret (v := some (.int 0)) dX11_isIn_15 ⟨_, rfl, by decide⟩ rfl hw3
  · have hw4 := hw.2 c2
    refine z_iloadn dX11_isIn_5 rfl rfl ?_
    refine z_iloadn dX11_isIn_6 rfl rfl ?_
    refine z_icmp_gt (t := 14) dX11_isIn_7 (by decide) (fun c5 => ?_) (fun c6 => ?_)
    · have hw7 := hw4.1 c5
      refine z_iconst (v := 0) dX11_isIn_14 (by decide) ?_
      exact z_ret (v := some (.int 0)) dX11_isIn_15 ⟨_, rfl, by decide⟩ rfl hw7
    · have hw8 := hw4.2 c6
      refine z_iconst (v := 1) dX11_isIn_10 (by decide) ?_
      refine z_goto (t := 15) dX11_isIn_11 (by decide) ?_
      exact z_ret (v := some (.int 1)) dX11_isIn_15 ⟨_, rfl, by decide⟩ rfl hw8

theorem kX11_isIn {l : Launch} {G : zG} {d : Nat} {Q : Option Value → zH → Prop} {k n : Nat} {h : zH} (x0 : Int32) (x1 : Int32) (x2 : Int32) (hz : Z l G mX11_isIn d Q k n 0 [.int x0, .int x1, .int x2] [] h) : CT l G YX11_isIn d k n [.int x0, .int x1, .int x2] h Q :=
  CT.of (by decide +kernel) (fun t e => by have e2 : ((some .boolean) : Option FieldType) = some t := e; cases e2; exact ⟨by decide, by decide⟩) (by exact Nat.le_of_ble_eq_true rfl) (by exact hz)

theorem sX11_feed_0 {l : Launch} {G : zG} {d : Nat} {Q : Option Value → zH → Prop} {k n : Nat} {h : zH} (a : Nat) (x1 : Int32) (x2 : Int32) (x3 : Int32) (x4 : Int32) (x5 : Int32) (ha : lo11 h a) (hd9 : 1 ≤ d)
    (hw : ((((zI h (a + 1) (zix (2 : Int32))) + 20).toInt ≤ (600 : Int) → Z l G mX11_feed d Q k n 20 [va_rf (some a), .int x1, .int x2, .int x3, .int x4, .int x5, .int 0, zU] [] h) ∧ ((600 : Int) < ((zI h (a + 1) (zix (2 : Int32))) + 20).toInt → Q (some (.int ((-1)))) h))) :
    Z l G mX11_feed d Q k n 0 [va_rf (some a), .int x1, .int x2, .int x3, .int x4, .int x5, zU, zU] [] h := by
  refine z_aloadn dX11_feed_0 rfl rfl ?_
  refine z_getRq (j := 0) zc11 dX11_feed_1 (ha.k 0 rfl) (ha.lt 0 rfl) (by decide) rfl w1459 (ha.r 0 rfl) ?_
  refine z_iconst (v := 2) dX11_feed_4 (by decide) ?_
  refine z_iald (N := 5392) dX11_feed_5 (ha.w 1 rfl).r (by decide) (by decide) ?_
  refine z_bipush (v := 20) dX11_feed_6 (by decide) ?_
  refine z_iadd dX11_feed_8 ?_
  refine z_sipush (v := 600) dX11_feed_9 (by decide) ?_
  refine z_icmp_le (t := 17) dX11_feed_12 (by decide) (fun c2 => ?_) (fun c3 => ?_)
  · have hw4 := hw.1 c2
    refine z_iconst (v := 0) dX11_feed_17 (by decide) ?_
    refine z_istore (L' := [va_rf (some a), .int x1, .int x2, .int x3, .int x4, .int x5, .int 0, zU]) dX11_feed_18 (by decide) rfl ?_
    exact hw4
  · have hw5 := hw.2 c3
    refine z_iconst (v := (-1)) dX11_feed_15 (by decide) ?_
    exact z_ret (v := some (.int ((-1)))) dX11_feed_16 ⟨_, rfl, rfl⟩ rfl hw5

theorem sX11_feed_20 {l : Launch} {G : zG} {d : Nat} {Q : Option Value → zH → Prop} {k n : Nat} {h : zH} (a : Nat) (x1 : Int32) (x2 : Int32) (x3 : Int32) (x4 : Int32) (x5 : Int32) (x6 : Int32) (u7 : Value) (ha : lo11 h a) (hd9 : 1 ≤ d)
    (hw : (((20 : Int) ≤ x6.toInt → Q (some (.int (zI h (a + 1) (zix (2 : Int32))))) h) ∧ (x6.toInt < (20 : Int) → (((4 : Int) ≤ x6.toInt → (((8 : Int) ≤ x6.toInt → (((12 : Int) ≤ x6.toInt → (((16 : Int) ≤ x6.toInt → (0 ≤ (10 + (zI h (a + 1) (zix (2 : Int32)))).toInt ∧ (10 + (zI h (a + 1) (zix (2 : Int32)))).toInt < ((5392 : Nat) : Int) ∧ (∀ I24 : Nat → Nat → Int32, I24 = (zwI h (a + 1) (zix (10 + (zI h (a + 1) (zix (2 : Int32))))) ((x5 >>> ((24 - (8 * (zrem x6 4))) &&& 31)) &&& 255)).1 → (∀ I29 : Nat → Nat → Int32, I29 = (zwI (I24, h.2) (a + 1) (zix (2 : Int32)) ((zI (I24, h.2) (a + 1) (zix (2 : Int32))) + 1)).1 → Z l G mX11_feed d Q k n 20 [va_rf (some a), .int x1, .int x2, .int x3, .int x4, .int x5, .int ((x6 + 1)), .int x5] [] (I29, h.2))))) ∧ (x6.toInt < (16 : Int) → (0 ≤ (10 + (zI h (a + 1) (zix (2 : Int32)))).toInt ∧ (10 + (zI h (a + 1) (zix (2 : Int32)))).toInt < ((5392 : Nat) : Int) ∧ (∀ I34 : Nat → Nat → Int32, I34 = (zwI h (a + 1) (zix (10 + (zI h (a + 1) (zix (2 : Int32))))) ((x4 >>> ((24 - (8 * (zrem x6 4))) &&& 31)) &&& 255)).1 → (∀ I39 : Nat → Nat → Int32, I39 = (zwI (I34, h.2) (a + 1) (zix (2 : Int32)) ((zI (I34, h.2) (a + 1) (zix (2 : Int32))) + 1)).1 → Z l G mX11_feed d Q k n 20 [va_rf (some a), .int x1, .int x2, .int x3, .int x4, .int x5, .int ((x6 + 1)), .int x4] [] (I39, h.2))))))) ∧ (x6.toInt < (12 : Int) → (0 ≤ (10 + (zI h (a + 1) (zix (2 : Int32)))).toInt ∧ (10 + (zI h (a + 1) (zix (2 : Int32)))).toInt < ((5392 : Nat) : Int) ∧ (∀ I44 : Nat → Nat → Int32, I44 = (zwI h (a + 1) (zix (10 + (zI h (a + 1) (zix (2 : Int32))))) ((x3 >>> ((24 - (8 * (zrem x6 4))) &&& 31)) &&& 255)).1 → (∀ I49 : Nat → Nat → Int32, I49 = (zwI (I44, h.2) (a + 1) (zix (2 : Int32)) ((zI (I44, h.2) (a + 1) (zix (2 : Int32))) + 1)).1 → Z l G mX11_feed d Q k n 20 [va_rf (some a), .int x1, .int x2, .int x3, .int x4, .int x5, .int ((x6 + 1)), .int x3] [] (I49, h.2))))))) ∧ (x6.toInt < (8 : Int) → (0 ≤ (10 + (zI h (a + 1) (zix (2 : Int32)))).toInt ∧ (10 + (zI h (a + 1) (zix (2 : Int32)))).toInt < ((5392 : Nat) : Int) ∧ (∀ I54 : Nat → Nat → Int32, I54 = (zwI h (a + 1) (zix (10 + (zI h (a + 1) (zix (2 : Int32))))) ((x2 >>> ((24 - (8 * (zrem x6 4))) &&& 31)) &&& 255)).1 → (∀ I59 : Nat → Nat → Int32, I59 = (zwI (I54, h.2) (a + 1) (zix (2 : Int32)) ((zI (I54, h.2) (a + 1) (zix (2 : Int32))) + 1)).1 → Z l G mX11_feed d Q k n 20 [va_rf (some a), .int x1, .int x2, .int x3, .int x4, .int x5, .int ((x6 + 1)), .int x2] [] (I59, h.2))))))) ∧ (x6.toInt < (4 : Int) → (0 ≤ (10 + (zI h (a + 1) (zix (2 : Int32)))).toInt ∧ (10 + (zI h (a + 1) (zix (2 : Int32)))).toInt < ((5392 : Nat) : Int) ∧ (∀ I64 : Nat → Nat → Int32, I64 = (zwI h (a + 1) (zix (10 + (zI h (a + 1) (zix (2 : Int32))))) ((x1 >>> ((24 - (8 * (zrem x6 4))) &&& 31)) &&& 255)).1 → (∀ I69 : Nat → Nat → Int32, I69 = (zwI (I64, h.2) (a + 1) (zix (2 : Int32)) ((zI (I64, h.2) (a + 1) (zix (2 : Int32))) + 1)).1 → Z l G mX11_feed d Q k n 20 [va_rf (some a), .int x1, .int x2, .int x3, .int x4, .int x5, .int ((x6 + 1)), .int x1] [] (I69, h.2))))))))) :
    Z l G mX11_feed d Q k n 20 [va_rf (some a), .int x1, .int x2, .int x3, .int x4, .int x5, .int x6, u7] [] h := by
  refine z_iload dX11_feed_20 rfl ?_
  refine z_bipush (v := 20) dX11_feed_22 (by decide) ?_
  refine z_icmp_ge (t := 122) dX11_feed_24 (by decide) (fun c1 => ?_) (fun c2 => ?_)
  · have hw3 := hw.1 c1
    refine z_aloadn dX11_feed_122 rfl rfl ?_
    refine z_getRq (j := 0) zc11 dX11_feed_123 (ha.k 0 rfl) (ha.lt 0 rfl) (by decide) rfl w1459 (ha.r 0 rfl) ?_
    refine z_iconst (v := 2) dX11_feed_126 (by decide) ?_
    refine z_iald (N := 5392) dX11_feed_127 (ha.w 1 rfl).r (by decide) (by decide) ?_
    exact z_ret (v := some (.int (zI h (a + 1) (zix (2 : Int32))))) dX11_feed_128 ⟨_, rfl, rfl⟩ rfl hw3
  · have hw4 := hw.2 c2
    refine z_iload dX11_feed_27 rfl ?_
    refine z_iconst (v := 4) dX11_feed_29 (by decide) ?_
    refine z_icmp_ge (t := 37) dX11_feed_30 (by decide) (fun c6 => ?_) (fun c7 => ?_)
    · have hw8 := hw4.1 c6
      refine z_iload dX11_feed_37 rfl ?_
      refine z_bipush (v := 8) dX11_feed_39 (by decide) ?_
      refine z_icmp_ge (t := 48) dX11_feed_41 (by decide) (fun c10 => ?_) (fun c11 => ?_)
      · have hw12 := hw8.1 c10
        refine z_iload dX11_feed_48 rfl ?_
        refine z_bipush (v := 12) dX11_feed_50 (by decide) ?_
        refine z_icmp_ge (t := 59) dX11_feed_52 (by decide) (fun c14 => ?_) (fun c15 => ?_)
        · have hw16 := hw12.1 c14
          refine z_iload dX11_feed_59 rfl ?_
          refine z_bipush (v := 16) dX11_feed_61 (by decide) ?_
          refine z_icmp_ge (t := 71) dX11_feed_63 (by decide) (fun c18 => ?_) (fun c19 => ?_)
          · have hw20 := hw16.1 c18
            refine z_iload dX11_feed_71 rfl ?_
            refine z_istore (L' := [va_rf (some a), .int x1, .int x2, .int x3, .int x4, .int x5, .int x6, .int x5]) dX11_feed_73 (by decide) rfl ?_
            refine z_aloadn dX11_feed_75 rfl rfl ?_
            refine z_getRq (j := 0) zc11 dX11_feed_76 (ha.k 0 rfl) (ha.lt 0 rfl) (by decide) rfl w1459 (ha.r 0 rfl) ?_
            refine z_bipush (v := 10) dX11_feed_79 (by decide) ?_
            refine z_aloadn dX11_feed_81 rfl rfl ?_
            refine z_getRq (j := 0) zc11 dX11_feed_82 (ha.k 0 rfl) (ha.lt 0 rfl) (by decide) rfl w1459 (ha.r 0 rfl) ?_
            refine z_iconst (v := 2) dX11_feed_85 (by decide) ?_
            refine z_iald (N := 5392) dX11_feed_86 (ha.w 1 rfl).r (by decide) (by decide) ?_
            refine z_iadd dX11_feed_87 ?_
            refine z_iload dX11_feed_88 rfl ?_
            refine z_bipush (v := 24) dX11_feed_90 (by decide) ?_
            refine z_bipush (v := 8) dX11_feed_92 (by decide) ?_
            refine z_iload dX11_feed_94 rfl ?_
            refine z_iconst (v := 4) dX11_feed_96 (by decide) ?_
            refine z_irem dX11_feed_97 (by decide) ?_
            refine z_imul dX11_feed_98 ?_
            refine z_isub dX11_feed_99 ?_
            refine z_ishr dX11_feed_100 ?_
            refine z_sipush (v := 255) dX11_feed_101 (by decide) ?_
            refine z_iand dX11_feed_104 ?_
            have hw23 := hw20.2.2
            refine z_iast (N := 5392) dX11_feed_105 (ha.w 1 rfl) hw20.1 hw20.2.1 ?_
            refine z_nm (r := h.2) rfl (fun I24 e25 => ?_)
            have hw26 := hw23 I24 e25
            refine z_aloadn dX11_feed_106 rfl rfl ?_
            refine z_getRq (j := 0) zc11 dX11_feed_107 (ha.k 0 rfl) (ha.lt 0 rfl) (by decide) rfl w1459 (ha.r 0 rfl) ?_
            refine z_iconst (v := 2) dX11_feed_110 (by decide) ?_
            refine z_dup2 dX11_feed_111 rfl rfl ?_
            refine z_iald (N := 5392) dX11_feed_112 (ha.w 1 rfl).r (by decide) (by decide) ?_
            refine z_iconst (v := 1) dX11_feed_113 (by decide) ?_
            refine z_iadd dX11_feed_114 ?_
            refine z_iast (N := 5392) dX11_feed_115 (ha.w 1 rfl) (by decide) (by decide) ?_
            refine z_nm (r := h.2) rfl (fun I29 e30 => ?_)
            have hw31 := hw26 I29 e30
            refine z_iinc (v := (x6 + 1)) (L' := [va_rf (some a), .int x1, .int x2, .int x3, .int x4, .int x5, .int ((x6 + 1)), .int x5]) dX11_feed_116 (by decide) rfl rfl rfl ?_
            refine z_goto (t := 20) dX11_feed_119 (by decide) ?_
            exact hw31
          · have hw21 := hw16.2 c19
            refine z_iload dX11_feed_66 rfl ?_
            refine z_goto (t := 73) dX11_feed_68 (by decide) ?_
            refine z_istore (L' := [va_rf (some a), .int x1, .int x2, .int x3, .int x4, .int x5, .int x6, .int x4]) dX11_feed_73 (by decide) rfl ?_
            refine z_aloadn dX11_feed_75 rfl rfl ?_
            refine z_getRq (j := 0) zc11 dX11_feed_76 (ha.k 0 rfl) (ha.lt 0 rfl) (by decide) rfl w1459 (ha.r 0 rfl) ?_
            refine z_bipush (v := 10) dX11_feed_79 (by decide) ?_
            refine z_aloadn dX11_feed_81 rfl rfl ?_
            refine z_getRq (j := 0) zc11 dX11_feed_82 (ha.k 0 rfl) (ha.lt 0 rfl) (by decide) rfl w1459 (ha.r 0 rfl) ?_
            refine z_iconst (v := 2) dX11_feed_85 (by decide) ?_
            refine z_iald (N := 5392) dX11_feed_86 (ha.w 1 rfl).r (by decide) (by decide) ?_
            refine z_iadd dX11_feed_87 ?_
            refine z_iload dX11_feed_88 rfl ?_
            refine z_bipush (v := 24) dX11_feed_90 (by decide) ?_
            refine z_bipush (v := 8) dX11_feed_92 (by decide) ?_
            refine z_iload dX11_feed_94 rfl ?_
            refine z_iconst (v := 4) dX11_feed_96 (by decide) ?_
            refine z_irem dX11_feed_97 (by decide) ?_
            refine z_imul dX11_feed_98 ?_
            refine z_isub dX11_feed_99 ?_
            refine z_ishr dX11_feed_100 ?_
            refine z_sipush (v := 255) dX11_feed_101 (by decide) ?_
            refine z_iand dX11_feed_104 ?_
            have hw33 := hw21.2.2
            refine z_iast (N := 5392) dX11_feed_105 (ha.w 1 rfl) hw21.1 hw21.2.1 ?_
            refine z_nm (r := h.2) rfl (fun I34 e35 => ?_)
            have hw36 := hw33 I34 e35
            refine z_aloadn dX11_feed_106 rfl rfl ?_
            refine z_getRq (j := 0) zc11 dX11_feed_107 (ha.k 0 rfl) (ha.lt 0 rfl) (by decide) rfl w1459 (ha.r 0 rfl) ?_
            refine z_iconst (v := 2) dX11_feed_110 (by decide) ?_
            refine z_dup2 dX11_feed_111 rfl rfl ?_
            refine z_iald (N := 5392) dX11_feed_112 (ha.w 1 rfl).r (by decide) (by decide) ?_
            refine z_iconst (v := 1) dX11_feed_113 (by decide) ?_
            refine z_iadd dX11_feed_114 ?_
            refine z_iast (N := 5392) dX11_feed_115 (ha.w 1 rfl) (by decide) (by decide) ?_
            refine z_nm (r := h.2) rfl (fun I39 e40 => ?_)
            have hw41 := hw36 I39 e40
            refine z_iinc (v := (x6 + 1)) (L' := [va_rf (some a), .int x1, .int x2, .int x3, .int x4, .int x5, .int ((x6 + 1)), .int x4]) dX11_feed_116 (by decide) rfl rfl rfl ?_
            refine z_goto (t := 20) dX11_feed_119 (by decide) ?_
            exact hw41
        · have hw17 := hw12.2 c15
          refine z_iloadn dX11_feed_55 rfl rfl ?_
          refine z_goto (t := 73) dX11_feed_56 (by decide) ?_
          refine z_istore (L' := [va_rf (some a), .int x1, .int x2, .int x3, .int x4, .int x5, .int x6, .int x3]) dX11_feed_73 (by decide) rfl ?_
          refine z_aloadn dX11_feed_75 rfl rfl ?_
          refine z_getRq (j := 0) zc11 dX11_feed_76 (ha.k 0 rfl) (ha.lt 0 rfl) (by decide) rfl w1459 (ha.r 0 rfl) ?_
          refine z_bipush (v := 10) dX11_feed_79 (by decide) ?_
          refine z_aloadn dX11_feed_81 rfl rfl ?_
          refine z_getRq (j := 0) zc11 dX11_feed_82 (ha.k 0 rfl) (ha.lt 0 rfl) (by decide) rfl w1459 (ha.r 0 rfl) ?_
          refine z_iconst (v := 2) dX11_feed_85 (by decide) ?_
          refine z_iald (N := 5392) dX11_feed_86 (ha.w 1 rfl).r (by decide) (by decide) ?_
          refine z_iadd dX11_feed_87 ?_
          refine z_iload dX11_feed_88 rfl ?_
          refine z_bipush (v := 24) dX11_feed_90 (by decide) ?_
          refine z_bipush (v := 8) dX11_feed_92 (by decide) ?_
          refine z_iload dX11_feed_94 rfl ?_
          refine z_iconst (v := 4) dX11_feed_96 (by decide) ?_
          refine z_irem dX11_feed_97 (by decide) ?_
          refine z_imul dX11_feed_98 ?_
          refine z_isub dX11_feed_99 ?_
          refine z_ishr dX11_feed_100 ?_
          refine z_sipush (v := 255) dX11_feed_101 (by decide) ?_
          refine z_iand dX11_feed_104 ?_
          have hw43 := hw17.2.2
          refine z_iast (N := 5392) dX11_feed_105 (ha.w 1 rfl) hw17.1 hw17.2.1 ?_
          refine z_nm (r := h.2) rfl (fun I44 e45 => ?_)
          have hw46 := hw43 I44 e45
          refine z_aloadn dX11_feed_106 rfl rfl ?_
          refine z_getRq (j := 0) zc11 dX11_feed_107 (ha.k 0 rfl) (ha.lt 0 rfl) (by decide) rfl w1459 (ha.r 0 rfl) ?_
          refine z_iconst (v := 2) dX11_feed_110 (by decide) ?_
          refine z_dup2 dX11_feed_111 rfl rfl ?_
          refine z_iald (N := 5392) dX11_feed_112 (ha.w 1 rfl).r (by decide) (by decide) ?_
          refine z_iconst (v := 1) dX11_feed_113 (by decide) ?_
          refine z_iadd dX11_feed_114 ?_
          refine z_iast (N := 5392) dX11_feed_115 (ha.w 1 rfl) (by decide) (by decide) ?_
          refine z_nm (r := h.2) rfl (fun I49 e50 => ?_)
          have hw51 := hw46 I49 e50
          refine z_iinc (v := (x6 + 1)) (L' := [va_rf (some a), .int x1, .int x2, .int x3, .int x4, .int x5, .int ((x6 + 1)), .int x3]) dX11_feed_116 (by decide) rfl rfl rfl ?_
          refine z_goto (t := 20) dX11_feed_119 (by decide) ?_
          exact hw51
      · have hw13 := hw8.2 c11
        refine z_iloadn dX11_feed_44 rfl rfl ?_
        refine z_goto (t := 73) dX11_feed_45 (by decide) ?_
        refine z_istore (L' := [va_rf (some a), .int x1, .int x2, .int x3, .int x4, .int x5, .int x6, .int x2]) dX11_feed_73 (by decide) rfl ?_
        refine z_aloadn dX11_feed_75 rfl rfl ?_
        refine z_getRq (j := 0) zc11 dX11_feed_76 (ha.k 0 rfl) (ha.lt 0 rfl) (by decide) rfl w1459 (ha.r 0 rfl) ?_
        refine z_bipush (v := 10) dX11_feed_79 (by decide) ?_
        refine z_aloadn dX11_feed_81 rfl rfl ?_
        refine z_getRq (j := 0) zc11 dX11_feed_82 (ha.k 0 rfl) (ha.lt 0 rfl) (by decide) rfl w1459 (ha.r 0 rfl) ?_
        refine z_iconst (v := 2) dX11_feed_85 (by decide) ?_
        refine z_iald (N := 5392) dX11_feed_86 (ha.w 1 rfl).r (by decide) (by decide) ?_
        refine z_iadd dX11_feed_87 ?_
        refine z_iload dX11_feed_88 rfl ?_
        refine z_bipush (v := 24) dX11_feed_90 (by decide) ?_
        refine z_bipush (v := 8) dX11_feed_92 (by decide) ?_
        refine z_iload dX11_feed_94 rfl ?_
        refine z_iconst (v := 4) dX11_feed_96 (by decide) ?_
        refine z_irem dX11_feed_97 (by decide) ?_
        refine z_imul dX11_feed_98 ?_
        refine z_isub dX11_feed_99 ?_
        refine z_ishr dX11_feed_100 ?_
        refine z_sipush (v := 255) dX11_feed_101 (by decide) ?_
        refine z_iand dX11_feed_104 ?_
        have hw53 := hw13.2.2
        refine z_iast (N := 5392) dX11_feed_105 (ha.w 1 rfl) hw13.1 hw13.2.1 ?_
        refine z_nm (r := h.2) rfl (fun I54 e55 => ?_)
        have hw56 := hw53 I54 e55
        refine z_aloadn dX11_feed_106 rfl rfl ?_
        refine z_getRq (j := 0) zc11 dX11_feed_107 (ha.k 0 rfl) (ha.lt 0 rfl) (by decide) rfl w1459 (ha.r 0 rfl) ?_
        refine z_iconst (v := 2) dX11_feed_110 (by decide) ?_
        refine z_dup2 dX11_feed_111 rfl rfl ?_
        refine z_iald (N := 5392) dX11_feed_112 (ha.w 1 rfl).r (by decide) (by decide) ?_
        refine z_iconst (v := 1) dX11_feed_113 (by decide) ?_
        refine z_iadd dX11_feed_114 ?_
        refine z_iast (N := 5392) dX11_feed_115 (ha.w 1 rfl) (by decide) (by decide) ?_
        refine z_nm (r := h.2) rfl (fun I59 e60 => ?_)
        have hw61 := hw56 I59 e60
        refine z_iinc (v := (x6 + 1)) (L' := [va_rf (some a), .int x1, .int x2, .int x3, .int x4, .int x5, .int ((x6 + 1)), .int x2]) dX11_feed_116 (by decide) rfl rfl rfl ?_
        refine z_goto (t := 20) dX11_feed_119 (by decide) ?_
        exact hw61
    · have hw9 := hw4.2 c7
      refine z_iloadn dX11_feed_33 rfl rfl ?_
      refine z_goto (t := 73) dX11_feed_34 (by decide) ?_
      refine z_istore (L' := [va_rf (some a), .int x1, .int x2, .int x3, .int x4, .int x5, .int x6, .int x1]) dX11_feed_73 (by decide) rfl ?_
      refine z_aloadn dX11_feed_75 rfl rfl ?_
      refine z_getRq (j := 0) zc11 dX11_feed_76 (ha.k 0 rfl) (ha.lt 0 rfl) (by decide) rfl w1459 (ha.r 0 rfl) ?_
      refine z_bipush (v := 10) dX11_feed_79 (by decide) ?_
      refine z_aloadn dX11_feed_81 rfl rfl ?_
      refine z_getRq (j := 0) zc11 dX11_feed_82 (ha.k 0 rfl) (ha.lt 0 rfl) (by decide) rfl w1459 (ha.r 0 rfl) ?_
      refine z_iconst (v := 2) dX11_feed_85 (by decide) ?_
      refine z_iald (N := 5392) dX11_feed_86 (ha.w 1 rfl).r (by decide) (by decide) ?_
      refine z_iadd dX11_feed_87 ?_
      refine z_iload dX11_feed_88 rfl ?_
      refine z_bipush (v := 24) dX11_feed_90 (by decide) ?_
      refine z_bipush (v := 8) dX11_feed_92 (by decide) ?_
      refine z_iload dX11_feed_94 rfl ?_
      refine z_iconst (v := 4) dX11_feed_96 (by decide) ?_
      refine z_irem dX11_feed_97 (by decide) ?_
      refine z_imul dX11_feed_98 ?_
      refine z_isub dX11_feed_99 ?_
      refine z_ishr dX11_feed_100 ?_
      refine z_sipush (v := 255) dX11_feed_101 (by decide) ?_
      refine z_iand dX11_feed_104 ?_
      have hw63 := hw9.2.2
      refine z_iast (N := 5392) dX11_feed_105 (ha.w 1 rfl) hw9.1 hw9.2.1 ?_
      refine z_nm (r := h.2) rfl (fun I64 e65 => ?_)
      have hw66 := hw63 I64 e65
      refine z_aloadn dX11_feed_106 rfl rfl ?_
      refine z_getRq (j := 0) zc11 dX11_feed_107 (ha.k 0 rfl) (ha.lt 0 rfl) (by decide) rfl w1459 (ha.r 0 rfl) ?_
      refine z_iconst (v := 2) dX11_feed_110 (by decide) ?_
      refine z_dup2 dX11_feed_111 rfl rfl ?_
      refine z_iald (N := 5392) dX11_feed_112 (ha.w 1 rfl).r (by decide) (by decide) ?_
      refine z_iconst (v := 1) dX11_feed_113 (by decide) ?_
      refine z_iadd dX11_feed_114 ?_
      refine z_iast (N := 5392) dX11_feed_115 (ha.w 1 rfl) (by decide) (by decide) ?_
      refine z_nm (r := h.2) rfl (fun I69 e70 => ?_)
      have hw71 := hw66 I69 e70
      refine z_iinc (v := (x6 + 1)) (L' := [va_rf (some a), .int x1, .int x2, .int x3, .int x4, .int x5, .int ((x6 + 1)), .int x1]) dX11_feed_116 (by decide) rfl rfl rfl ?_
      refine z_goto (t := 20) dX11_feed_119 (by decide) ?_
      exact hw71

theorem kX11_feed {l : Launch} {G : zG} {d : Nat} {Q : Option Value → zH → Prop} {k n : Nat} {h : zH} (a : Nat) (x1 : Int32) (x2 : Int32) (x3 : Int32) (x4 : Int32) (x5 : Int32) (hz : Z l G mX11_feed d Q k n 0 [va_rf (some a), .int x1, .int x2, .int x3, .int x4, .int x5, zU, zU] [] h) : CT l G YX11_feed d k n [va_rf (some a), .int x1, .int x2, .int x3, .int x4, .int x5] h Q :=
  CT.of (by decide +kernel) (fun t e => by have e2 : ((some .int) : Option FieldType) = some t := e; cases e2; exact ⟨by decide, by decide⟩) (by exact Nat.le_of_ble_eq_true rfl) (by exact hz)

theorem sX11_end_0 {l : Launch} {G : zG} {d : Nat} {Q : Option Value → zH → Prop} {k n : Nat} {h : zH} (a : Nat) (x1 : Int32) (ha : lo11 h a) (hd9 : 1 ≤ d)
    (hw : ((x1.toInt < (0 : Int) → Q (some (.int ((-1)))) h) ∧ ((0 : Int) ≤ x1.toInt → ((x1.toInt ≤ (zI h (a + 1) (zix (2 : Int32))).toInt → (∀ I11 : Nat → Nat → Int32, I11 = (zwI h (a + 1) (zix (2 : Int32)) x1).1 → Q (some (.int x1)) (I11, h.2))) ∧ ((zI h (a + 1) (zix (2 : Int32))).toInt < x1.toInt → Q (some (.int ((-1)))) h))))) :
    Z l G mX11_end d Q k n 0 [va_rf (some a), .int x1] [] h := by
  refine z_iloadn dX11_end_0 rfl rfl ?_
  refine z_if_lt (t := 14) dX11_end_1 (by decide) (fun c1 => ?_) (fun c2 => ?_)
  · have hw3 := hw.1 c1
    refine z_iconst (v := (-1)) dX11_end_14 (by decide) ?_
    exact z_ret (v := some (.int ((-1)))) dX11_end_15 ⟨_, rfl, rfl⟩ rfl hw3
  · have hw4 := hw.2 c2
    refine z_iloadn dX11_end_4 rfl rfl ?_
    refine z_aloadn dX11_end_5 rfl rfl ?_
    refine z_getRq (j := 0) zc11 dX11_end_6 (ha.k 0 rfl) (ha.lt 0 rfl) (by decide) rfl w1459 (ha.r 0 rfl) ?_
    refine z_iconst (v := 2) dX11_end_9 (by decide) ?_
    refine z_iald (N := 5392) dX11_end_10 (ha.w 1 rfl).r (by decide) (by decide) ?_
    refine z_icmp_le (t := 16) dX11_end_11 (by decide) (fun c6 => ?_) (fun c7 => ?_)
    · have hw8 := hw4.1 c6
      refine z_aloadn dX11_end_16 rfl rfl ?_
      refine z_getRq (j := 0) zc11 dX11_end_17 (ha.k 0 rfl) (ha.lt 0 rfl) (by decide) rfl w1459 (ha.r 0 rfl) ?_
      refine z_iconst (v := 2) dX11_end_20 (by decide) ?_
      refine z_iloadn dX11_end_21 rfl rfl ?_
      refine z_iast (N := 5392) dX11_end_22 (ha.w 1 rfl) (by decide) (by decide) ?_
      refine z_nm (r := h.2) rfl (fun I11 e12 => ?_)
      have hw13 := hw8 I11 e12
      refine z_iloadn dX11_end_23 rfl rfl ?_
      exact z_ret (v := some (.int x1)) dX11_end_24 ⟨_, rfl, rfl⟩ rfl hw13
    · have hw9 := hw4.2 c7
      refine z_iconst (v := (-1)) dX11_end_14 (by decide) ?_
      exact z_ret (v := some (.int ((-1)))) dX11_end_15 ⟨_, rfl, rfl⟩ rfl hw9

theorem kX11_end {l : Launch} {G : zG} {d : Nat} {Q : Option Value → zH → Prop} {k n : Nat} {h : zH} (a : Nat) (x1 : Int32) (hz : Z l G mX11_end d Q k n 0 [va_rf (some a), .int x1] [] h) : CT l G YX11_end d k n [va_rf (some a), .int x1] h Q :=
  CT.of (by decide +kernel) (fun t e => by have e2 : ((some .int) : Option FieldType) = some t := e; cases e2; exact ⟨by decide, by decide⟩) (by exact Nat.le_of_ble_eq_true rfl) (by exact hz)

theorem sX11_byteAt_0 {l : Launch} {G : zG} {d : Nat} {Q : Option Value → zH → Prop} {k n : Nat} {h : zH} (a : Nat) (x1 : Int32) (ha : lo11 h a) (hd9 : 1 ≤ d)
    (hw : (((zI h a 2).toInt ≤ x1.toInt → Q (some (.int ((-1)))) h) ∧ (x1.toInt < (zI h a 2).toInt → (0 ≤ (10 + x1).toInt ∧ (10 + x1).toInt < ((5392 : Nat) : Int) ∧ Q (some (.int (zI h (a + 1) (zix (10 + x1))))) h)))) :
    Z l G mX11_byteAt d Q k n 0 [va_rf (some a), .int x1] [] h := by
  refine z_iloadn dX11_byteAt_0 rfl rfl ?_
  refine z_aloadn dX11_byteAt_1 rfl rfl ?_
  refine z_getI (j := 2) zc11 dX11_byteAt_2 (ha.k 0 rfl) (ha.lt 0 rfl) (by decide) rfl w1461 ?_
  refine z_icmp_ge (t := 20) dX11_byteAt_5 (by decide) (fun c1 => ?_) (fun c2 => ?_)
  · have hw3 := hw.1 c1
    refine z_iconst (v := (-1)) dX11_byteAt_20 (by decide) ?_
    exact z_ret (v := some (.int ((-1)))) dX11_byteAt_21 ⟨_, rfl, rfl⟩ rfl hw3
  · have hw4 := hw.2 c2
    refine z_aloadn dX11_byteAt_8 rfl rfl ?_
    refine z_getRq (j := 0) zc11 dX11_byteAt_9 (ha.k 0 rfl) (ha.lt 0 rfl) (by decide) rfl w1459 (ha.r 0 rfl) ?_
    refine z_bipush (v := 10) dX11_byteAt_12 (by decide) ?_
    refine z_iloadn dX11_byteAt_14 rfl rfl ?_
    refine z_iadd dX11_byteAt_15 ?_
    have hw5 := hw4.2.2
    refine z_iald (N := 5392) dX11_byteAt_16 (ha.w 1 rfl).r hw4.1 hw4.2.1 ?_
    refine z_goto (t := 21) dX11_byteAt_17 (by decide) ?_
    exact z_ret (v := some (.int (zI h (a + 1) (zix (10 + x1))))) dX11_byteAt_21 ⟨_, rfl, rfl⟩ rfl hw5

theorem kX11_byteAt {l : Launch} {G : zG} {d : Nat} {Q : Option Value → zH → Prop} {k n : Nat} {h : zH} (a : Nat) (x1 : Int32) (hz : Z l G mX11_byteAt d Q k n 0 [va_rf (some a), .int x1] [] h) : CT l G YX11_byteAt d k n [va_rf (some a), .int x1] h Q :=
  CT.of (by decide +kernel) (fun t e => by have e2 : ((some .int) : Option FieldType) = some t := e; cases e2; exact ⟨by decide, by decide⟩) (by exact Nat.le_of_ble_eq_true rfl) (by exact hz)

theorem sX11_isLetter_0 {l : Launch} {G : zG} {d : Nat} {Q : Option Value → zH → Prop} {k n : Nat} {h : zH} (x0 : Int32)  (hd9 : 1 ≤ d)
    (hw : ((x0.toInt < (97 : Int) → Q (some (.int 0)) h) ∧ ((97 : Int) ≤ x0.toInt → (((122 : Int) < x0.toInt → Q (some (.int 0)) h) ∧ (x0.toInt ≤ (122 : Int) → Q (some (.int 1)) h))))) :
    Z l G mX11_isLetter d Q k n 0 [.int x0] [] h := by
  refine z_iloadn dX11_isLetter_0 rfl rfl ?_
  refine z_bipush (v := 97) dX11_isLetter_1 (by decide) ?_
  refine z_icmp_lt (t := 16) dX11_isLetter_3 (by decide) (fun c1 => ?_) (fun c2 => ?_)
  · have hw3 := hw.1 c1
    refine z_iconst (v := 0) dX11_isLetter_16 (by decide) ?_
    exact z_ret (v := some (.int 0)) dX11_isLetter_17 ⟨_, rfl, by decide⟩ rfl hw3
  · have hw4 := hw.2 c2
    refine z_iloadn dX11_isLetter_6 rfl rfl ?_
    refine z_bipush (v := 122) dX11_isLetter_7 (by decide) ?_
    refine z_icmp_gt (t := 16) dX11_isLetter_9 (by decide) (fun c5 => ?_) (fun c6 => ?_)
    · have hw7 := hw4.1 c5
      refine z_iconst (v := 0) dX11_isLetter_16 (by decide) ?_
      exact z_ret (v := some (.int 0)) dX11_isLetter_17 ⟨_, rfl, by decide⟩ rfl hw7
    · have hw8 := hw4.2 c6
      refine z_iconst (v := 1) dX11_isLetter_12 (by decide) ?_
      refine z_goto (t := 17) dX11_isLetter_13 (by decide) ?_
      exact z_ret (v := some (.int 1)) dX11_isLetter_17 ⟨_, rfl, by decide⟩ rfl hw8

theorem kX11_isLetter {l : Launch} {G : zG} {d : Nat} {Q : Option Value → zH → Prop} {k n : Nat} {h : zH} (x0 : Int32) (hz : Z l G mX11_isLetter d Q k n 0 [.int x0] [] h) : CT l G YX11_isLetter d k n [.int x0] h Q :=
  CT.of (by decide +kernel) (fun t e => by have e2 : ((some .boolean) : Option FieldType) = some t := e; cases e2; exact ⟨by decide, by decide⟩) (by exact Nat.le_of_ble_eq_true rfl) (by exact hz)

theorem sX11_isDigit_0 {l : Launch} {G : zG} {d : Nat} {Q : Option Value → zH → Prop} {k n : Nat} {h : zH} (x0 : Int32)  (hd9 : 1 ≤ d)
    (hw : ((x0.toInt < (48 : Int) → Q (some (.int 0)) h) ∧ ((48 : Int) ≤ x0.toInt → (((57 : Int) < x0.toInt → Q (some (.int 0)) h) ∧ (x0.toInt ≤ (57 : Int) → Q (some (.int 1)) h))))) :
    Z l G mX11_isDigit d Q k n 0 [.int x0] [] h := by
  refine z_iloadn dX11_isDigit_0 rfl rfl ?_
  refine z_bipush (v := 48) dX11_isDigit_1 (by decide) ?_
  refine z_icmp_lt (t := 16) dX11_isDigit_3 (by decide) (fun c1 => ?_) (fun c2 => ?_)
  · have hw3 := hw.1 c1
    refine z_iconst (v := 0) dX11_isDigit_16 (by decide) ?_
    exact z_ret (v := some (.int 0)) dX11_isDigit_17 ⟨_, rfl, by decide⟩ rfl hw3
  · have hw4 := hw.2 c2
    refine z_iloadn dX11_isDigit_6 rfl rfl ?_
    refine z_bipush (v := 57) dX11_isDigit_7 (by decide) ?_
    refine z_icmp_gt (t := 16) dX11_isDigit_9 (by decide) (fun c5 => ?_) (fun c6 => ?_)
    · have hw7 := hw4.1 c5
      refine z_iconst (v := 0) dX11_isDigit_16 (by decide) ?_
      exact z_ret (v := some (.int 0)) dX11_isDigit_17 ⟨_, rfl, by decide⟩ rfl hw7
    · have hw8 := hw4.2 c6
      refine z_iconst (v := 1) dX11_isDigit_12 (by decide) ?_
      refine z_goto (t := 17) dX11_isDigit_13 (by decide) ?_
      exact z_ret (v := some (.int 1)) dX11_isDigit_17 ⟨_, rfl, by decide⟩ rfl hw8

theorem kX11_isDigit {l : Launch} {G : zG} {d : Nat} {Q : Option Value → zH → Prop} {k n : Nat} {h : zH} (x0 : Int32) (hz : Z l G mX11_isDigit d Q k n 0 [.int x0] [] h) : CT l G YX11_isDigit d k n [.int x0] h Q :=
  CT.of (by decide +kernel) (fun t e => by have e2 : ((some .boolean) : Option FieldType) = some t := e; cases e2; exact ⟨by decide, by decide⟩) (by exact Nat.le_of_ble_eq_true rfl) (by exact hz)

theorem sX11_four_0 {l : Launch} {G : zG} {d : Nat} {Q : Option Value → zH → Prop} {k n : Nat} {h : zH} (x0 : Int32) (x1 : Int32) (x2 : Int32) (x3 : Int32)  (hd9 : 1 ≤ d)
    (hw : Q (some (.long (((((((x0 * 32) + x1) * 32) + x2) * 32) + x3).toInt64))) h) :
    Z l G mX11_four d Q k n 0 [.int x0, .int x1, .int x2, .int x3] [] h := by
  refine z_iloadn dX11_four_0 rfl rfl ?_
  refine z_bipush (v := 32) dX11_four_1 (by decide) ?_
  refine z_imul dX11_four_3 ?_
  refine z_iloadn dX11_four_4 rfl rfl ?_
  refine z_iadd dX11_four_5 ?_
  refine z_bipush (v := 32) dX11_four_6 (by decide) ?_
  refine z_imul dX11_four_8 ?_
  refine z_iloadn dX11_four_9 rfl rfl ?_
  refine z_iadd dX11_four_10 ?_
  refine z_bipush (v := 32) dX11_four_11 (by decide) ?_
  refine z_imul dX11_four_13 ?_
  refine z_iloadn dX11_four_14 rfl rfl ?_
  refine z_iadd dX11_four_15 ?_
  refine z_i2l dX11_four_16 rfl ?_
  exact z_ret (v := some (.long (((((((x0 * 32) + x1) * 32) + x2) * 32) + x3).toInt64))) dX11_four_17 ⟨_, rfl⟩ rfl hw

theorem kX11_four {l : Launch} {G : zG} {d : Nat} {Q : Option Value → zH → Prop} {k n : Nat} {h : zH} (x0 : Int32) (x1 : Int32) (x2 : Int32) (x3 : Int32) (hz : Z l G mX11_four d Q k n 0 [.int x0, .int x1, .int x2, .int x3] [] h) : CT l G YX11_four d k n [.int x0, .int x1, .int x2, .int x3] h Q :=
  CT.of (by decide +kernel) (fun t e => by have e2 : ((some .long) : Option FieldType) = some t := e; cases e2; exact ⟨by decide, by decide⟩) (by exact Nat.le_of_ble_eq_true rfl) (by exact hz)

theorem sX11_ends_0 {l : Launch} {G : zG} {d : Nat} {Q : Option Value → zH → Prop} {k n : Nat} {h : zH} (a : Nat) (ha : lo11 h a) (hd9 : 1 ≤ d)
    (hw : ((zI h a 8 = 0 → (∀ I5 : Nat → Nat → Int32, I5 = (zwI h a 8 (1 : Int32)).1 → (∀ I9 : Nat → Nat → Int32, I9 = (zwI (I5, h.2) (a + 1) (zix (3 : Int32)) (1 : Int32)).1 → (∀ I13 : Nat → Nat → Int32, I13 = (zwI (I9, h.2) (a + 1) (zix (4 : Int32)) (zI (I9, h.2) a 4)).1 → Q none (I13, h.2))))) ∧ (¬ zI h a 8 = 0 → Q none h))) :
    Z l G mX11_ends d Q k n 0 [va_rf (some a)] [] h := by
  refine z_aloadn dX11_ends_0 rfl rfl ?_
  refine z_getI (j := 8) zc11 dX11_ends_1 (ha.k 0 rfl) (ha.lt 0 rfl) (by decide) rfl w1467 ?_
  refine z_if_eq (t := 8) dX11_ends_4 (by decide) (fun c1 => ?_) (fun c2 => ?_)
  · have hw3 := hw.1 c1
    refine z_aloadn dX11_ends_8 rfl rfl ?_
    refine z_iconst (v := 1) dX11_ends_9 (by decide) ?_
    refine z_putI (j := 8) zc11 dX11_ends_10 (ha.k 0 rfl) (ha.lt 0 rfl) (by decide) rfl rfl (Or.inr ⟨rfl, by decide⟩) (Or.inl w1467) ?_
    refine z_nm (r := h.2) rfl (fun I5 e6 => ?_)
    have hw7 := hw3 I5 e6
    refine z_aloadn dX11_ends_13 rfl rfl ?_
    refine z_getRq (j := 0) zc11 dX11_ends_14 (ha.k 0 rfl) (ha.lt 0 rfl) (by decide) rfl w1459 (ha.r 0 rfl) ?_
    refine z_iconst (v := 3) dX11_ends_17 (by decide) ?_
    refine z_iconst (v := 1) dX11_ends_18 (by decide) ?_
    refine z_iast (N := 5392) dX11_ends_19 (ha.w 1 rfl) (by decide) (by decide) ?_
    refine z_nm (r := h.2) rfl (fun I9 e10 => ?_)
    have hw11 := hw7 I9 e10
    refine z_aloadn dX11_ends_20 rfl rfl ?_
    refine z_getRq (j := 0) zc11 dX11_ends_21 (ha.k 0 rfl) (ha.lt 0 rfl) (by decide) rfl w1459 (ha.r 0 rfl) ?_
    refine z_iconst (v := 4) dX11_ends_24 (by decide) ?_
    refine z_aloadn dX11_ends_25 rfl rfl ?_
    refine z_getI (j := 4) zc11 dX11_ends_26 (ha.k 0 rfl) (ha.lt 0 rfl) (by decide) rfl w1463 ?_
    refine z_iast (N := 5392) dX11_ends_29 (ha.w 1 rfl) (by decide) (by decide) ?_
    refine z_nm (r := h.2) rfl (fun I13 e14 => ?_)
    have hw15 := hw11 I13 e14
    exact z_ret (v := none) dX11_ends_30 rfl rfl hw15
  · have hw4 := hw.2 c2
    exact z_ret (v := none) dX11_ends_7 rfl rfl hw4

theorem kX11_ends {l : Launch} {G : zG} {d : Nat} {Q : Option Value → zH → Prop} {k n : Nat} {h : zH} (a : Nat) (hz : Z l G mX11_ends d Q k n 0 [va_rf (some a)] [] h) : CT l G YX11_ends d k n [va_rf (some a)] h Q :=
  CT.of (by decide +kernel) (fun t e => by cases e) (by exact Nat.le_of_ble_eq_true rfl) (by exact hz)

theorem sX11_also_0 {l : Launch} {G : zG} {d : Nat} {Q : Option Value → zH → Prop} {k n : Nat} {h : zH} (a : Nat) (x1 : Int32) (x2 : Int32) (ha : lo11 h a) (hd9 : 1 ≤ d)
    (hw : ((¬ zI h a 8 = 0 → Q none h) ∧ (zI h a 8 = 0 → ((zI h (a + 1) (zix (3 : Int32)) = 0 → (∀ I11 : Nat → Nat → Int32, I11 = (zwI h (a + 1) (zix (3 : Int32)) x1).1 → (∀ I15 : Nat → Nat → Int32, I15 = (zwI (I11, h.2) (a + 1) (zix (4 : Int32)) x2).1 → Q none (I15, h.2)))) ∧ (¬ zI h (a + 1) (zix (3 : Int32)) = 0 → (((zI h (a + 1) (zix (4 : Int32))).toInt < x2.toInt → Q none h) ∧ (x2.toInt ≤ (zI h (a + 1) (zix (4 : Int32))).toInt → ((¬ zI h (a + 1) (zix (4 : Int32)) = x2 → (∀ I29 : Nat → Nat → Int32, I29 = (zwI h (a + 1) (zix (3 : Int32)) x1).1 → (∀ I33 : Nat → Nat → Int32, I33 = (zwI (I29, h.2) (a + 1) (zix (4 : Int32)) x2).1 → Q none (I33, h.2)))) ∧ (zI h (a + 1) (zix (4 : Int32)) = x2 → ((x1.toInt < (zI h (a + 1) (zix (3 : Int32))).toInt → (∀ I42 : Nat → Nat → Int32, I42 = (zwI h (a + 1) (zix (3 : Int32)) x1).1 → (∀ I46 : Nat → Nat → Int32, I46 = (zwI (I42, h.2) (a + 1) (zix (4 : Int32)) x2).1 → Q none (I46, h.2)))) ∧ ((zI h (a + 1) (zix (3 : Int32))).toInt ≤ x1.toInt → Q none h))))))))))) :
    Z l G mX11_also d Q k n 0 [va_rf (some a), .int x1, .int x2] [] h := by
  refine z_aloadn dX11_also_0 rfl rfl ?_
  refine z_getI (j := 8) zc11 dX11_also_1 (ha.k 0 rfl) (ha.lt 0 rfl) (by decide) rfl w1467 ?_
  refine z_if_ne (t := 46) dX11_also_4 (by decide) (fun c1 => ?_) (fun c2 => ?_)
  · have hw3 := hw.1 c1
    exact z_ret (v := none) dX11_also_46 rfl rfl hw3
  · have hw4 := hw.2 c2
    refine z_aloadn dX11_also_7 rfl rfl ?_
    refine z_getRq (j := 0) zc11 dX11_also_8 (ha.k 0 rfl) (ha.lt 0 rfl) (by decide) rfl w1459 (ha.r 0 rfl) ?_
    refine z_iconst (v := 3) dX11_also_11 (by decide) ?_
    refine z_iald (N := 5392) dX11_also_12 (ha.w 1 rfl).r (by decide) (by decide) ?_
    refine z_if_eq (t := 47) dX11_also_13 (by decide) (fun c6 => ?_) (fun c7 => ?_)
    · have hw8 := hw4.1 c6
      refine z_aloadn dX11_also_47 rfl rfl ?_
      refine z_getRq (j := 0) zc11 dX11_also_48 (ha.k 0 rfl) (ha.lt 0 rfl) (by decide) rfl w1459 (ha.r 0 rfl) ?_
      refine z_iconst (v := 3) dX11_also_51 (by decide) ?_
      refine z_iloadn dX11_also_52 rfl rfl ?_
      refine z_iast (N := 5392) dX11_also_53 (ha.w 1 rfl) (by decide) (by decide) ?_
      refine z_nm (r := h.2) rfl (fun I11 e12 => ?_)
      have hw13 := hw8 I11 e12
      refine z_aloadn dX11_also_54 rfl rfl ?_
      refine z_getRq (j := 0) zc11 dX11_also_55 (ha.k 0 rfl) (ha.lt 0 rfl) (by decide) rfl w1459 (ha.r 0 rfl) ?_
      refine z_iconst (v := 4) dX11_also_58 (by decide) ?_
      refine z_iloadn dX11_also_59 rfl rfl ?_
      refine z_iast (N := 5392) dX11_also_60 (ha.w 1 rfl) (by decide) (by decide) ?_
      refine z_nm (r := h.2) rfl (fun I15 e16 => ?_)
      have hw17 := hw13 I15 e16
      exact z_ret (v := none) dX11_also_61 rfl rfl hw17
    · have hw9 := hw4.2 c7
      refine z_aloadn dX11_also_16 rfl rfl ?_
      refine z_getRq (j := 0) zc11 dX11_also_17 (ha.k 0 rfl) (ha.lt 0 rfl) (by decide) rfl w1459 (ha.r 0 rfl) ?_
      refine z_iconst (v := 4) dX11_also_20 (by decide) ?_
      refine z_iald (N := 5392) dX11_also_21 (ha.w 1 rfl).r (by decide) (by decide) ?_
      refine z_iloadn dX11_also_22 rfl rfl ?_
      refine z_icmp_lt (t := 46) dX11_also_23 (by decide) (fun c19 => ?_) (fun c20 => ?_)
      · have hw21 := hw9.1 c19
        exact z_ret (v := none) dX11_also_46 rfl rfl hw21
      · have hw22 := hw9.2 c20
        refine z_aloadn dX11_also_26 rfl rfl ?_
        refine z_getRq (j := 0) zc11 dX11_also_27 (ha.k 0 rfl) (ha.lt 0 rfl) (by decide) rfl w1459 (ha.r 0 rfl) ?_
        refine z_iconst (v := 4) dX11_also_30 (by decide) ?_
        refine z_iald (N := 5392) dX11_also_31 (ha.w 1 rfl).r (by decide) (by decide) ?_
        refine z_iloadn dX11_also_32 rfl rfl ?_
        refine z_icmp_ne (t := 47) dX11_also_33 (by decide) (fun c24 => ?_) (fun c25 => ?_)
        · have hw26 := hw22.1 c24
          refine z_aloadn dX11_also_47 rfl rfl ?_
          refine z_getRq (j := 0) zc11 dX11_also_48 (ha.k 0 rfl) (ha.lt 0 rfl) (by decide) rfl w1459 (ha.r 0 rfl) ?_
          refine z_iconst (v := 3) dX11_also_51 (by decide) ?_
          refine z_iloadn dX11_also_52 rfl rfl ?_
          refine z_iast (N := 5392) dX11_also_53 (ha.w 1 rfl) (by decide) (by decide) ?_
          refine z_nm (r := h.2) rfl (fun I29 e30 => ?_)
          have hw31 := hw26 I29 e30
          refine z_aloadn dX11_also_54 rfl rfl ?_
          refine z_getRq (j := 0) zc11 dX11_also_55 (ha.k 0 rfl) (ha.lt 0 rfl) (by decide) rfl w1459 (ha.r 0 rfl) ?_
          refine z_iconst (v := 4) dX11_also_58 (by decide) ?_
          refine z_iloadn dX11_also_59 rfl rfl ?_
          refine z_iast (N := 5392) dX11_also_60 (ha.w 1 rfl) (by decide) (by decide) ?_
          refine z_nm (r := h.2) rfl (fun I33 e34 => ?_)
          have hw35 := hw31 I33 e34
          exact z_ret (v := none) dX11_also_61 rfl rfl hw35
        · have hw27 := hw22.2 c25
          refine z_aloadn dX11_also_36 rfl rfl ?_
          refine z_getRq (j := 0) zc11 dX11_also_37 (ha.k 0 rfl) (ha.lt 0 rfl) (by decide) rfl w1459 (ha.r 0 rfl) ?_
          refine z_iconst (v := 3) dX11_also_40 (by decide) ?_
          refine z_iald (N := 5392) dX11_also_41 (ha.w 1 rfl).r (by decide) (by decide) ?_
          refine z_iloadn dX11_also_42 rfl rfl ?_
          refine z_icmp_gt (t := 47) dX11_also_43 (by decide) (fun c37 => ?_) (fun c38 => ?_)
          · have hw39 := hw27.1 c37
            refine z_aloadn dX11_also_47 rfl rfl ?_
            refine z_getRq (j := 0) zc11 dX11_also_48 (ha.k 0 rfl) (ha.lt 0 rfl) (by decide) rfl w1459 (ha.r 0 rfl) ?_
            refine z_iconst (v := 3) dX11_also_51 (by decide) ?_
            refine z_iloadn dX11_also_52 rfl rfl ?_
            refine z_iast (N := 5392) dX11_also_53 (ha.w 1 rfl) (by decide) (by decide) ?_
            refine z_nm (r := h.2) rfl (fun I42 e43 => ?_)
            have hw44 := hw39 I42 e43
            refine z_aloadn dX11_also_54 rfl rfl ?_
            refine z_getRq (j := 0) zc11 dX11_also_55 (ha.k 0 rfl) (ha.lt 0 rfl) (by decide) rfl w1459 (ha.r 0 rfl) ?_
            refine z_iconst (v := 4) dX11_also_58 (by decide) ?_
            refine z_iloadn dX11_also_59 rfl rfl ?_
            refine z_iast (N := 5392) dX11_also_60 (ha.w 1 rfl) (by decide) (by decide) ?_
            refine z_nm (r := h.2) rfl (fun I46 e47 => ?_)
            have hw48 := hw44 I46 e47
            exact z_ret (v := none) dX11_also_61 rfl rfl hw48
          · have hw40 := hw27.2 c38
            exact z_ret (v := none) dX11_also_46 rfl rfl hw40

theorem kX11_also {l : Launch} {G : zG} {d : Nat} {Q : Option Value → zH → Prop} {k n : Nat} {h : zH} (a : Nat) (x1 : Int32) (x2 : Int32) (hz : Z l G mX11_also d Q k n 0 [va_rf (some a), .int x1, .int x2] [] h) : CT l G YX11_also d k n [va_rf (some a), .int x1, .int x2] h Q :=
  CT.of (by decide +kernel) (fun t e => by cases e) (by exact Nat.le_of_ble_eq_true rfl) (by exact hz)

theorem sX11_placeOf_0 {l : Launch} {G : zG} {d : Nat} {Q : Option Value → zH → Prop} {k n : Nat} {h : zH} (x0 : Int32) (x1 : Int32)  (hd9 : 1 ≤ d)
    (hw : ((¬ x0 = 0 → Q (some (.int ((1246 + (51 * x1))))) h) ∧ (x0 = 0 → Q (some (.int ((610 + (318 * x1))))) h))) :
    Z l G mX11_placeOf d Q k n 0 [.int x0, .int x1] [] h := by
  refine z_iloadn dX11_placeOf_0 rfl rfl ?_
  refine z_if_ne (t := 16) dX11_placeOf_1 (by decide) (fun c1 => ?_) (fun c2 => ?_)
  · have hw3 := hw.1 c1
    refine z_sipush (v := 1246) dX11_placeOf_16 (by decide) ?_
    refine z_bipush (v := 51) dX11_placeOf_19 (by decide) ?_
    refine z_iloadn dX11_placeOf_21 rfl rfl ?_
    refine z_imul dX11_placeOf_22 ?_
    refine z_iadd dX11_placeOf_23 ?_
    exact z_ret (v := some (.int ((1246 + (51 * x1))))) dX11_placeOf_24 ⟨_, rfl, rfl⟩ rfl hw3
  · have hw4 := hw.2 c2
    refine z_sipush (v := 610) dX11_placeOf_4 (by decide) ?_
    refine z_sipush (v := 318) dX11_placeOf_7 (by decide) ?_
    refine z_iloadn dX11_placeOf_10 rfl rfl ?_
    refine z_imul dX11_placeOf_11 ?_
    refine z_iadd dX11_placeOf_12 ?_
    refine z_goto (t := 24) dX11_placeOf_13 (by decide) ?_
    exact z_ret (v := some (.int ((610 + (318 * x1))))) dX11_placeOf_24 ⟨_, rfl, rfl⟩ rfl hw4

theorem kX11_placeOf {l : Launch} {G : zG} {d : Nat} {Q : Option Value → zH → Prop} {k n : Nat} {h : zH} (x0 : Int32) (x1 : Int32) (hz : Z l G mX11_placeOf d Q k n 0 [.int x0, .int x1] [] h) : CT l G YX11_placeOf d k n [.int x0, .int x1] h Q :=
  CT.of (by decide +kernel) (fun t e => by have e2 : ((some .int) : Option FieldType) = some t := e; cases e2; exact ⟨by decide, by decide⟩) (by exact Nat.le_of_ble_eq_true rfl) (by exact hz)

theorem sX11_clears_0 {l : Launch} {G : zG} {d : Nat} {Q : Option Value → zH → Prop} {k n : Nat} {h : zH} (a : Nat) (x1 : Int32) (ha : lo11 h a) (hd9 : 1 ≤ d)
    (hw : Z l G mX11_clears d Q k n 2 [va_rf (some a), .int x1, .int 0] [] h) :
    Z l G mX11_clears d Q k n 0 [va_rf (some a), .int x1, zU] [] h := by
  refine z_iconst (v := 0) dX11_clears_0 (by decide) ?_
  refine z_istoren (L' := [va_rf (some a), .int x1, .int 0]) dX11_clears_1 rfl (by decide) rfl ?_
  exact hw

theorem sX11_clears_2 {l : Launch} {G : zG} {d : Nat} {Q : Option Value → zH → Prop} {k n : Nat} {h : zH} (a : Nat) (x1 : Int32) (x2 : Int32) (ha : lo11 h a) (hd9 : 1 ≤ d)
    (hw : (((318 : Int) ≤ x2.toInt → ((¬ x1 = 1 → (∀ I10 : Nat → Nat → Int32, I10 = (zwI h (a + 3) (zix (0 : Int32)) (6 : Int32)).1 → (∀ I14 : Nat → Nat → Int32, I14 = (zwI (I10, h.2) (a + 3) (zix (1 : Int32)) (6 : Int32)).1 → (∀ I18 : Nat → Nat → Int32, I18 = (zwI (I14, h.2) (a + 3) (zix (2 : Int32)) (2 : Int32)).1 → Z l G mX11_clears d Q k n 53 [va_rf (some a), .int x1, .int 0] [] (I18, h.2))))) ∧ (x1 = 1 → Q none h))) ∧ (x2.toInt < (318 : Int) → (0 ≤ x2.toInt ∧ x2.toInt < ((318 : Nat) : Int) ∧ (∀ I22 : Nat → Nat → Int32, I22 = (zwI h (a + 3) (zix x2) (0 : Int32)).1 → Z l G mX11_clears d Q k n 2 [va_rf (some a), .int x1, .int ((x2 + 1))] [] (I22, h.2)))))) :
    Z l G mX11_clears d Q k n 2 [va_rf (some a), .int x1, .int x2] [] h := by
  refine z_iloadn dX11_clears_2 rfl rfl ?_
  refine z_sipush (v := 318) dX11_clears_3 (by decide) ?_
  refine z_icmp_ge (t := 22) dX11_clears_6 (by decide) (fun c1 => ?_) (fun c2 => ?_)
  · have hw3 := hw.1 c1
    refine z_iloadn dX11_clears_22 rfl rfl ?_
    refine z_iconst (v := 1) dX11_clears_23 (by decide) ?_
    refine z_icmp_ne (t := 28) dX11_clears_24 (by decide) (fun c5 => ?_) (fun c6 => ?_)
    · have hw7 := hw3.1 c5
      refine z_aloadn dX11_clears_28 rfl rfl ?_
      refine z_getRq (j := 11) zc11 dX11_clears_29 (ha.k 0 rfl) (ha.lt 0 rfl) (by decide) rfl w1470 (ha.r 2 rfl) ?_
      refine z_iconst (v := 0) dX11_clears_32 (by decide) ?_
      refine z_bipush (v := 6) dX11_clears_33 (by decide) ?_
      refine z_iast (N := 318) dX11_clears_35 (ha.w 3 rfl) (by decide) (by decide) ?_
      refine z_nm (r := h.2) rfl (fun I10 e11 => ?_)
      have hw12 := hw7 I10 e11
      refine z_aloadn dX11_clears_36 rfl rfl ?_
      refine z_getRq (j := 11) zc11 dX11_clears_37 (ha.k 0 rfl) (ha.lt 0 rfl) (by decide) rfl w1470 (ha.r 2 rfl) ?_
      refine z_iconst (v := 1) dX11_clears_40 (by decide) ?_
      refine z_bipush (v := 6) dX11_clears_41 (by decide) ?_
      refine z_iast (N := 318) dX11_clears_43 (ha.w 3 rfl) (by decide) (by decide) ?_
      refine z_nm (r := h.2) rfl (fun I14 e15 => ?_)
      have hw16 := hw12 I14 e15
      refine z_aloadn dX11_clears_44 rfl rfl ?_
      refine z_getRq (j := 11) zc11 dX11_clears_45 (ha.k 0 rfl) (ha.lt 0 rfl) (by decide) rfl w1470 (ha.r 2 rfl) ?_
      refine z_iconst (v := 2) dX11_clears_48 (by decide) ?_
      refine z_iconst (v := 2) dX11_clears_49 (by decide) ?_
      refine z_iast (N := 318) dX11_clears_50 (ha.w 3 rfl) (by decide) (by decide) ?_
      refine z_nm (r := h.2) rfl (fun I18 e19 => ?_)
      have hw20 := hw16 I18 e19
      refine z_iconst (v := 0) dX11_clears_51 (by decide) ?_
      refine z_istoren (L' := [va_rf (some a), .int x1, .int 0]) dX11_clears_52 rfl (by decide) rfl ?_
      exact hw20
    · have hw8 := hw3.2 c6
      exact z_ret (v := none) dX11_clears_27 rfl rfl hw8
  · have hw4 := hw.2 c2
    refine z_aloadn dX11_clears_9 rfl rfl ?_
    refine z_getRq (j := 11) zc11 dX11_clears_10 (ha.k 0 rfl) (ha.lt 0 rfl) (by decide) rfl w1470 (ha.r 2 rfl) ?_
    refine z_iloadn dX11_clears_13 rfl rfl ?_
    refine z_iconst (v := 0) dX11_clears_14 (by decide) ?_
    have hw21 := hw4.2.2
    refine z_iast (N := 318) dX11_clears_15 (ha.w 3 rfl) hw4.1 hw4.2.1 ?_
    refine z_nm (r := h.2) rfl (fun I22 e23 => ?_)
    have hw24 := hw21 I22 e23
    refine z_iinc (v := (x2 + 1)) (L' := [va_rf (some a), .int x1, .int ((x2 + 1))]) dX11_clears_16 (by decide) rfl rfl rfl ?_
    refine z_goto (t := 2) dX11_clears_19 (by decide) ?_
    exact hw24

theorem sX11_clears_53 {l : Launch} {G : zG} {d : Nat} {Q : Option Value → zH → Prop} {k n : Nat} {h : zH} (a : Nat) (x1 : Int32) (x2 : Int32) (ha : lo11 h a) (hd9 : 1 ≤ d)
    (hw : (((6 : Int) ≤ x2.toInt → Q none h) ∧ (x2.toInt < (6 : Int) → (0 ≤ ((120 + (33 * x2)) + 5).toInt ∧ ((120 + (33 * x2)) + 5).toInt < ((318 : Nat) : Int) ∧ (∀ I6 : Nat → Nat → Int32, I6 = (zwI h (a + 3) (zix ((120 + (33 * x2)) + 5)) (-1 : Int32)).1 → (0 ≤ ((120 + (33 * x2)) + 6).toInt ∧ ((120 + (33 * x2)) + 6).toInt < ((318 : Nat) : Int) ∧ (∀ I10 : Nat → Nat → Int32, I10 = (zwI (I6, h.2) (a + 3) (zix ((120 + (33 * x2)) + 6)) (-1 : Int32)).1 → (0 ≤ ((120 + (33 * x2)) + 7).toInt ∧ ((120 + (33 * x2)) + 7).toInt < ((318 : Nat) : Int) ∧ (∀ I14 : Nat → Nat → Int32, I14 = (zwI (I10, h.2) (a + 3) (zix ((120 + (33 * x2)) + 7)) (-1 : Int32)).1 → Z l G mX11_clears d Q k n 53 [va_rf (some a), .int x1, .int ((x2 + 1))] [] (I14, h.2)))))))))) :
    Z l G mX11_clears d Q k n 53 [va_rf (some a), .int x1, .int x2] [] h := by
  refine z_iloadn dX11_clears_53 rfl rfl ?_
  refine z_bipush (v := 6) dX11_clears_54 (by decide) ?_
  refine z_icmp_ge (t := 112) dX11_clears_56 (by decide) (fun c1 => ?_) (fun c2 => ?_)
  · have hw3 := hw.1 c1
    exact z_ret (v := none) dX11_clears_112 rfl rfl hw3
  · have hw4 := hw.2 c2
    refine z_aloadn dX11_clears_59 rfl rfl ?_
    refine z_getRq (j := 11) zc11 dX11_clears_60 (ha.k 0 rfl) (ha.lt 0 rfl) (by decide) rfl w1470 (ha.r 2 rfl) ?_
    refine z_bipush (v := 120) dX11_clears_63 (by decide) ?_
    refine z_bipush (v := 33) dX11_clears_65 (by decide) ?_
    refine z_iloadn dX11_clears_67 rfl rfl ?_
    refine z_imul dX11_clears_68 ?_
    refine z_iadd dX11_clears_69 ?_
    refine z_iconst (v := 5) dX11_clears_70 (by decide) ?_
    refine z_iadd dX11_clears_71 ?_
    refine z_iconst (v := (-1)) dX11_clears_72 (by decide) ?_
    have hw5 := hw4.2.2
    refine z_iast (N := 318) dX11_clears_73 (ha.w 3 rfl) hw4.1 hw4.2.1 ?_
    refine z_nm (r := h.2) rfl (fun I6 e7 => ?_)
    have hw8 := hw5 I6 e7
    refine z_aloadn dX11_clears_74 rfl rfl ?_
    refine z_getRq (j := 11) zc11 dX11_clears_75 (ha.k 0 rfl) (ha.lt 0 rfl) (by decide) rfl w1470 (ha.r 2 rfl) ?_
    refine z_bipush (v := 120) dX11_clears_78 (by decide) ?_
    refine z_bipush (v := 33) dX11_clears_80 (by decide) ?_
    refine z_iloadn dX11_clears_82 rfl rfl ?_
    refine z_imul dX11_clears_83 ?_
    refine z_iadd dX11_clears_84 ?_
    refine z_bipush (v := 6) dX11_clears_85 (by decide) ?_
    refine z_iadd dX11_clears_87 ?_
    refine z_iconst (v := (-1)) dX11_clears_88 (by decide) ?_
    have hw9 := hw8.2.2
    refine z_iast (N := 318) dX11_clears_89 (ha.w 3 rfl) hw8.1 hw8.2.1 ?_
    refine z_nm (r := h.2) rfl (fun I10 e11 => ?_)
    have hw12 := hw9 I10 e11
    refine z_aloadn dX11_clears_90 rfl rfl ?_
    refine z_getRq (j := 11) zc11 dX11_clears_91 (ha.k 0 rfl) (ha.lt 0 rfl) (by decide) rfl w1470 (ha.r 2 rfl) ?_
    refine z_bipush (v := 120) dX11_clears_94 (by decide) ?_
    refine z_bipush (v := 33) dX11_clears_96 (by decide) ?_
    refine z_iloadn dX11_clears_98 rfl rfl ?_
    refine z_imul dX11_clears_99 ?_
    refine z_iadd dX11_clears_100 ?_
    refine z_bipush (v := 7) dX11_clears_101 (by decide) ?_
    refine z_iadd dX11_clears_103 ?_
    refine z_iconst (v := (-1)) dX11_clears_104 (by decide) ?_
    have hw13 := hw12.2.2
    refine z_iast (N := 318) dX11_clears_105 (ha.w 3 rfl) hw12.1 hw12.2.1 ?_
    refine z_nm (r := h.2) rfl (fun I14 e15 => ?_)
    have hw16 := hw13 I14 e15
    refine z_iinc (v := (x2 + 1)) (L' := [va_rf (some a), .int x1, .int ((x2 + 1))]) dX11_clears_106 (by decide) rfl rfl rfl ?_
    refine z_goto (t := 53) dX11_clears_109 (by decide) ?_
    exact hw16

theorem kX11_clears {l : Launch} {G : zG} {d : Nat} {Q : Option Value → zH → Prop} {k n : Nat} {h : zH} (a : Nat) (x1 : Int32) (hz : Z l G mX11_clears d Q k n 0 [va_rf (some a), .int x1, zU] [] h) : CT l G YX11_clears d k n [va_rf (some a), .int x1] h Q :=
  CT.of (by decide +kernel) (fun t e => by cases e) (by exact Nat.le_of_ble_eq_true rfl) (by exact hz)

theorem sX11_fault_0 {l : Launch} {G : zG} {d : Nat} {Q : Option Value → zH → Prop} {k n : Nat} {h : zH} (a : Nat) (x1 : Int32) (ha : lo11 h a) (hd9 : 1 ≤ d)
    (hw : ((¬ x1 = 0 → ((¬ x1 = 1 → Q (some (.int ((-1)))) h) ∧ (x1 = 1 → Q (some (.int (zI h (a + 1) (zix (4 : Int32))))) h))) ∧ (x1 = 0 → Q (some (.int (zI h (a + 1) (zix (3 : Int32))))) h))) :
    Z l G mX11_fault d Q k n 0 [va_rf (some a), .int x1] [] h := by
  refine z_iloadn dX11_fault_0 rfl rfl ?_
  refine z_if_ne (t := 13) dX11_fault_1 (by decide) (fun c1 => ?_) (fun c2 => ?_)
  · have hw3 := hw.1 c1
    refine z_iloadn dX11_fault_13 rfl rfl ?_
    refine z_iconst (v := 1) dX11_fault_14 (by decide) ?_
    refine z_icmp_ne (t := 27) dX11_fault_15 (by decide) (fun c5 => ?_) (fun c6 => ?_)
    · have hw7 := hw3.1 c5
      refine z_iconst (v := (-1)) dX11_fault_27 (by decide) ?_
      exact z_ret (v := some (.int ((-1)))) dX11_fault_28 ⟨_, rfl, rfl⟩ rfl hw7
    · have hw8 := hw3.2 c6
      refine z_aloadn dX11_fault_18 rfl rfl ?_
      refine z_getRq (j := 0) zc11 dX11_fault_19 (ha.k 0 rfl) (ha.lt 0 rfl) (by decide) rfl w1459 (ha.r 0 rfl) ?_
      refine z_iconst (v := 4) dX11_fault_22 (by decide) ?_
      refine z_iald (N := 5392) dX11_fault_23 (ha.w 1 rfl).r (by decide) (by decide) ?_
      refine z_goto (t := 28) dX11_fault_24 (by decide) ?_
      exact z_ret (v := some (.int (zI h (a + 1) (zix (4 : Int32))))) dX11_fault_28 ⟨_, rfl, rfl⟩ rfl hw8
  · have hw4 := hw.2 c2
    refine z_aloadn dX11_fault_4 rfl rfl ?_
    refine z_getRq (j := 0) zc11 dX11_fault_5 (ha.k 0 rfl) (ha.lt 0 rfl) (by decide) rfl w1459 (ha.r 0 rfl) ?_
    refine z_iconst (v := 3) dX11_fault_8 (by decide) ?_
    refine z_iald (N := 5392) dX11_fault_9 (ha.w 1 rfl).r (by decide) (by decide) ?_
    refine z_goto (t := 28) dX11_fault_10 (by decide) ?_
    exact z_ret (v := some (.int (zI h (a + 1) (zix (3 : Int32))))) dX11_fault_28 ⟨_, rfl, rfl⟩ rfl hw4

theorem kX11_fault {l : Launch} {G : zG} {d : Nat} {Q : Option Value → zH → Prop} {k n : Nat} {h : zH} (a : Nat) (x1 : Int32) (hz : Z l G mX11_fault d Q k n 0 [va_rf (some a), .int x1] [] h) : CT l G YX11_fault d k n [va_rf (some a), .int x1] h Q :=
  CT.of (by decide +kernel) (fun t e => by have e2 : ((some .int) : Option FieldType) = some t := e; cases e2; exact ⟨by decide, by decide⟩) (by exact Nat.le_of_ble_eq_true rfl) (by exact hz)

theorem sX11_of_0 {l : Launch} {G : zG} {d : Nat} {Q : Option Value → zH → Prop} {k n : Nat} {h : zH} (a : Nat) (x1 : Int32) (ha : lo11 h a) (hd9 : 1 ≤ d)
    (hw : (0 ≤ ((zI h a 12) + x1).toInt ∧ ((zI h a 12) + x1).toInt < ((5392 : Nat) : Int) ∧ Q (some (.int (zI h (a + 1) (zix ((zI h a 12) + x1))))) h)) :
    Z l G mX11_of d Q k n 0 [va_rf (some a), .int x1] [] h := by
  refine z_aloadn dX11_of_0 rfl rfl ?_
  refine z_getRq (j := 0) zc11 dX11_of_1 (ha.k 0 rfl) (ha.lt 0 rfl) (by decide) rfl w1459 (ha.r 0 rfl) ?_
  refine z_aloadn dX11_of_4 rfl rfl ?_
  refine z_getI (j := 12) zc11 dX11_of_5 (ha.k 0 rfl) (ha.lt 0 rfl) (by decide) rfl w1471 ?_
  refine z_iloadn dX11_of_8 rfl rfl ?_
  refine z_iadd dX11_of_9 ?_
  have hw1 := hw.2.2
  refine z_iald (N := 5392) dX11_of_10 (ha.w 1 rfl).r hw.1 hw.2.1 ?_
  exact z_ret (v := some (.int (zI h (a + 1) (zix ((zI h a 12) + x1))))) dX11_of_11 ⟨_, rfl, rfl⟩ rfl hw1

theorem kX11_of {l : Launch} {G : zG} {d : Nat} {Q : Option Value → zH → Prop} {k n : Nat} {h : zH} (a : Nat) (x1 : Int32) (hz : Z l G mX11_of d Q k n 0 [va_rf (some a), .int x1] [] h) : CT l G YX11_of d k n [va_rf (some a), .int x1] h Q :=
  CT.of (by decide +kernel) (fun t e => by have e2 : ((some .int) : Option FieldType) = some t := e; cases e2; exact ⟨by decide, by decide⟩) (by exact Nat.le_of_ble_eq_true rfl) (by exact hz)

theorem sX11_told_0 {l : Launch} {G : zG} {d : Nat} {Q : Option Value → zH → Prop} {k n : Nat} {h : zH} (a : Nat) (x1 : Int32) (x2 : Int32) (ha : lo11 h a) (hd9 : 1 ≤ d)
    (hw : (0 ≤ ((((zI h a 12) + 120) + (33 * x1)) + x2).toInt ∧ ((((zI h a 12) + 120) + (33 * x1)) + x2).toInt < ((5392 : Nat) : Int) ∧ Q (some (.int (zI h (a + 1) (zix ((((zI h a 12) + 120) + (33 * x1)) + x2))))) h)) :
    Z l G mX11_told d Q k n 0 [va_rf (some a), .int x1, .int x2] [] h := by
  refine z_aloadn dX11_told_0 rfl rfl ?_
  refine z_getRq (j := 0) zc11 dX11_told_1 (ha.k 0 rfl) (ha.lt 0 rfl) (by decide) rfl w1459 (ha.r 0 rfl) ?_
  refine z_aloadn dX11_told_4 rfl rfl ?_
  refine z_getI (j := 12) zc11 dX11_told_5 (ha.k 0 rfl) (ha.lt 0 rfl) (by decide) rfl w1471 ?_
  refine z_bipush (v := 120) dX11_told_8 (by decide) ?_
  refine z_iadd dX11_told_10 ?_
  refine z_bipush (v := 33) dX11_told_11 (by decide) ?_
  refine z_iloadn dX11_told_13 rfl rfl ?_
  refine z_imul dX11_told_14 ?_
  refine z_iadd dX11_told_15 ?_
  refine z_iloadn dX11_told_16 rfl rfl ?_
  refine z_iadd dX11_told_17 ?_
  have hw1 := hw.2.2
  refine z_iald (N := 5392) dX11_told_18 (ha.w 1 rfl).r hw.1 hw.2.1 ?_
  exact z_ret (v := some (.int (zI h (a + 1) (zix ((((zI h a 12) + 120) + (33 * x1)) + x2))))) dX11_told_19 ⟨_, rfl, rfl⟩ rfl hw1

theorem kX11_told {l : Launch} {G : zG} {d : Nat} {Q : Option Value → zH → Prop} {k n : Nat} {h : zH} (a : Nat) (x1 : Int32) (x2 : Int32) (hz : Z l G mX11_told d Q k n 0 [va_rf (some a), .int x1, .int x2] [] h) : CT l G YX11_told d k n [va_rf (some a), .int x1, .int x2] h Q :=
  CT.of (by decide +kernel) (fun t e => by have e2 : ((some .int) : Option FieldType) = some t := e; cases e2; exact ⟨by decide, by decide⟩) (by exact Nat.le_of_ble_eq_true rfl) (by exact hz)

theorem sX11_plain_0 {l : Launch} {G : zG} {d : Nat} {Q : Option Value → zH → Prop} {k n : Nat} {h : zH} (a : Nat) (ha : lo11 h a) (hd9 : 1 ≤ d)
    (hw : (∀ I1 : Nat → Nat → Int32, I1 = (zwI h a 13 (-1 : Int32)).1 → (∀ I4 : Nat → Nat → Int32, I4 = (zwI (I1, h.2) a 14 (-1 : Int32)).1 → (∀ I7 : Nat → Nat → Int32, I7 = (zwI (I4, h.2) a 16 (-1 : Int32)).1 → (∀ I10 : Nat → Nat → Int32, I10 = (zwI (I7, h.2) a 18 (-1 : Int32)).1 → Z l G mX11_plain d Q k n 22 [va_rf (some a), .int 0] [] (I10, h.2)))))) :
    Z l G mX11_plain d Q k n 0 [va_rf (some a), zU] [] h := by
  refine z_aloadn dX11_plain_0 rfl rfl ?_
  refine z_iconst (v := (-1)) dX11_plain_1 (by decide) ?_
  refine z_putI (j := 13) zc11 dX11_plain_2 (ha.k 0 rfl) (ha.lt 0 rfl) (by decide) rfl rfl (Or.inl rfl) (Or.inl w1472) ?_
  refine z_nm (r := h.2) rfl (fun I1 e2 => ?_)
  have hw3 := hw I1 e2
  refine z_aloadn dX11_plain_5 rfl rfl ?_
  refine z_iconst (v := (-1)) dX11_plain_6 (by decide) ?_
  refine z_putI (j := 14) zc11 dX11_plain_7 (ha.k 0 rfl) (ha.lt 0 rfl) (by decide) rfl rfl (Or.inl rfl) (Or.inl w1473) ?_
  refine z_nm (r := h.2) rfl (fun I4 e5 => ?_)
  have hw6 := hw3 I4 e5
  refine z_aloadn dX11_plain_10 rfl rfl ?_
  refine z_iconst (v := (-1)) dX11_plain_11 (by decide) ?_
  refine z_putI (j := 16) zc11 dX11_plain_12 (ha.k 0 rfl) (ha.lt 0 rfl) (by decide) rfl rfl (Or.inl rfl) (Or.inl w1475) ?_
  refine z_nm (r := h.2) rfl (fun I7 e8 => ?_)
  have hw9 := hw6 I7 e8
  refine z_aloadn dX11_plain_15 rfl rfl ?_
  refine z_iconst (v := (-1)) dX11_plain_16 (by decide) ?_
  refine z_putI (j := 18) zc11 dX11_plain_17 (ha.k 0 rfl) (ha.lt 0 rfl) (by decide) rfl rfl (Or.inl rfl) (Or.inl w1477) ?_
  refine z_nm (r := h.2) rfl (fun I10 e11 => ?_)
  have hw12 := hw9 I10 e11
  refine z_iconst (v := 0) dX11_plain_20 (by decide) ?_
  refine z_istoren (L' := [va_rf (some a), .int 0]) dX11_plain_21 rfl (by decide) rfl ?_
  exact hw12

theorem sX11_plain_22 {l : Launch} {G : zG} {d : Nat} {Q : Option Value → zH → Prop} {k n : Nat} {h : zH} (a : Nat) (x1 : Int32) (ha : lo11 h a) (hd9 : 1 ≤ d)
    (hw : (((100 : Int) ≤ x1.toInt → Q none h) ∧ (x1.toInt < (100 : Int) → (0 ≤ x1.toInt ∧ x1.toInt < ((100 : Nat) : Int) ∧ (∀ I6 : Nat → Nat → Int32, I6 = (zwI h (a + 4) (zix x1) (0 : Int32)).1 → Z l G mX11_plain d Q k n 22 [va_rf (some a), .int ((x1 + 1))] [] (I6, h.2)))))) :
    Z l G mX11_plain d Q k n 22 [va_rf (some a), .int x1] [] h := by
  refine z_iloadn dX11_plain_22 rfl rfl ?_
  refine z_bipush (v := 100) dX11_plain_23 (by decide) ?_
  refine z_icmp_ge (t := 41) dX11_plain_25 (by decide) (fun c1 => ?_) (fun c2 => ?_)
  · have hw3 := hw.1 c1
    exact z_ret (v := none) dX11_plain_41 rfl rfl hw3
  · have hw4 := hw.2 c2
    refine z_aloadn dX11_plain_28 rfl rfl ?_
    refine z_getRq (j := 20) zc11 dX11_plain_29 (ha.k 0 rfl) (ha.lt 0 rfl) (by decide) rfl w1479 (ha.r 3 rfl) ?_
    refine z_iloadn dX11_plain_32 rfl rfl ?_
    refine z_iconst (v := 0) dX11_plain_33 (by decide) ?_
    have hw5 := hw4.2.2
    refine z_bast (N := 100) dX11_plain_34 (ha.k 4 rfl) (ha.lt 4 rfl) hw4.1 hw4.2.1 (by decide) ?_
    refine z_nm (r := h.2) rfl (fun I6 e7 => ?_)
    have hw8 := hw5 I6 e7
    refine z_iinc (v := (x1 + 1)) (L' := [va_rf (some a), .int ((x1 + 1))]) dX11_plain_35 (by decide) rfl rfl rfl ?_
    refine z_goto (t := 22) dX11_plain_38 (by decide) ?_
    exact hw8

theorem kX11_plain {l : Launch} {G : zG} {d : Nat} {Q : Option Value → zH → Prop} {k n : Nat} {h : zH} (a : Nat) (hz : Z l G mX11_plain d Q k n 0 [va_rf (some a), zU] [] h) : CT l G YX11_plain d k n [va_rf (some a)] h Q :=
  CT.of (by decide +kernel) (fun t e => by cases e) (by exact Nat.le_of_ble_eq_true rfl) (by exact hz)

theorem sX11_half_0 {l : Launch} {G : zG} {d : Nat} {Q : Option Value → zH → Prop} {k n : Nat} {h : zH} (a : Nat) (x1 : Int32) (ha : lo11 h a) (hd9 : 1 ≤ d)
    (hw : (((4 : Int) ≤ x1.toInt → Q (some (.int ((x1 / (2 : Int32))))) h) ∧ (x1.toInt < (4 : Int) → Q (some (.int 1)) h))) :
    Z l G mX11_half d Q k n 0 [va_rf (some a), .int x1] [] h := by
  refine z_iloadn dX11_half_0 rfl rfl ?_
  refine z_iconst (v := 4) dX11_half_1 (by decide) ?_
  refine z_icmp_ge (t := 9) dX11_half_2 (by decide) (fun c1 => ?_) (fun c2 => ?_)
  · have hw3 := hw.1 c1
    refine z_iloadn dX11_half_9 rfl rfl ?_
    refine z_iconst (v := 2) dX11_half_10 (by decide) ?_
    refine z_idiv dX11_half_11 (by decide) ?_
    exact z_ret (v := some (.int ((x1 / (2 : Int32))))) dX11_half_12 ⟨_, rfl, rfl⟩ rfl hw3
  · have hw4 := hw.2 c2
    refine z_iconst (v := 1) dX11_half_5 (by decide) ?_
    refine z_goto (t := 12) dX11_half_6 (by decide) ?_
    exact z_ret (v := some (.int 1)) dX11_half_12 ⟨_, rfl, rfl⟩ rfl hw4

theorem kX11_half {l : Launch} {G : zG} {d : Nat} {Q : Option Value → zH → Prop} {k n : Nat} {h : zH} (a : Nat) (x1 : Int32) (hz : Z l G mX11_half d Q k n 0 [va_rf (some a), .int x1] [] h) : CT l G YX11_half d k n [va_rf (some a), .int x1] h Q :=
  CT.of (by decide +kernel) (fun t e => by have e2 : ((some .int) : Option FieldType) = some t := e; cases e2; exact ⟨by decide, by decide⟩) (by exact Nat.le_of_ble_eq_true rfl) (by exact hz)

theorem sX11_topmost_0 {l : Launch} {G : zG} {d : Nat} {Q : Option Value → zH → Prop} {k n : Nat} {h : zH} (a : Nat) (x1 : Int32) (ha : lo11 h a) (hd9 : 1 ≤ d)
    (hw : Z l G mX11_topmost d Q k n 7 [va_rf (some a), .int x1, .int (((zI h a 23) - 1))] [] h) :
    Z l G mX11_topmost d Q k n 0 [va_rf (some a), .int x1, zU] [] h := by
  refine z_aloadn dX11_topmost_0 rfl rfl ?_
  refine z_getI (j := 23) zc11 dX11_topmost_1 (ha.k 0 rfl) (ha.lt 0 rfl) (by decide) rfl w1482 ?_
  refine z_iconst (v := 1) dX11_topmost_4 (by decide) ?_
  refine z_isub dX11_topmost_5 ?_
  refine z_istoren (L' := [va_rf (some a), .int x1, .int (((zI h a 23) - 1))]) dX11_topmost_6 rfl (by decide) rfl ?_
  exact hw

theorem sX11_topmost_7 {l : Launch} {G : zG} {d : Nat} {Q : Option Value → zH → Prop} {k n : Nat} {h : zH} (a : Nat) (x1 : Int32) (x2 : Int32) (ha : lo11 h a) (hd9 : 1 ≤ d)
    (hw : ((x2.toInt < (0 : Int) → Q (some (.int ((-1)))) h) ∧ ((0 : Int) ≤ x2.toInt → (0 ≤ x2.toInt ∧ x2.toInt < ((160 : Nat) : Int) ∧ ((¬ zI h (a + 7) (zix x2) = x1 → Z l G mX11_topmost d Q k n 7 [va_rf (some a), .int x1, .int ((x2 + (-1)))] [] h) ∧ (zI h (a + 7) (zix x2) = x1 → Q (some (.int x2)) h)))))) :
    Z l G mX11_topmost d Q k n 7 [va_rf (some a), .int x1, .int x2] [] h := by
  refine z_iloadn dX11_topmost_7 rfl rfl ?_
  refine z_if_lt (t := 29) dX11_topmost_8 (by decide) (fun c1 => ?_) (fun c2 => ?_)
  · have hw3 := hw.1 c1
    refine z_iconst (v := (-1)) dX11_topmost_29 (by decide) ?_
    exact z_ret (v := some (.int ((-1)))) dX11_topmost_30 ⟨_, rfl, rfl⟩ rfl hw3
  · have hw4 := hw.2 c2
    refine z_aloadn dX11_topmost_11 rfl rfl ?_
    refine z_getRq (j := 24) zc11 dX11_topmost_12 (ha.k 0 rfl) (ha.lt 0 rfl) (by decide) rfl w1483 (ha.r 6 rfl) ?_
    refine z_iloadn dX11_topmost_15 rfl rfl ?_
    have hw5 := hw4.2.2
    refine z_iald (N := 160) dX11_topmost_16 (ha.w 7 rfl).r hw4.1 hw4.2.1 ?_
    refine z_iloadn dX11_topmost_17 rfl rfl ?_
    refine z_icmp_ne (t := 23) dX11_topmost_18 (by decide) (fun c6 => ?_) (fun c7 => ?_)
    · have hw8 := hw5.1 c6
      refine z_iinc (v := (x2 + (-1))) (L' := [va_rf (some a), .int x1, .int ((x2 + (-1)))]) dX11_topmost_23 (by decide) rfl rfl rfl ?_
      refine z_goto (t := 7) dX11_topmost_26 (by decide) ?_
      exact hw8
    · have hw9 := hw5.2 c7
      refine z_iloadn dX11_topmost_21 rfl rfl ?_
      exact z_ret (v := some (.int x2)) dX11_topmost_22 ⟨_, rfl, rfl⟩ rfl hw9

theorem kX11_topmost {l : Launch} {G : zG} {d : Nat} {Q : Option Value → zH → Prop} {k n : Nat} {h : zH} (a : Nat) (x1 : Int32) (hz : Z l G mX11_topmost d Q k n 0 [va_rf (some a), .int x1, zU] [] h) : CT l G YX11_topmost d k n [va_rf (some a), .int x1] h Q :=
  CT.of (by decide +kernel) (fun t e => by have e2 : ((some .int) : Option FieldType) = some t := e; cases e2; exact ⟨by decide, by decide⟩) (by exact Nat.le_of_ble_eq_true rfl) (by exact hz)

theorem sX11_over_0 {l : Launch} {G : zG} {d : Nat} {Q : Option Value → zH → Prop} {k n : Nat} {h : zH} (a : Nat) (x1 : Int32) (ha : lo11 h a) (hd9 : 1 ≤ d)
    (hw : Z l G mX11_over d Q k n 4 [va_rf (some a), .int x1, .int 0, .int 0] [] h) :
    Z l G mX11_over d Q k n 0 [va_rf (some a), .int x1, zU, zU] [] h := by
  refine z_iconst (v := 0) dX11_over_0 (by decide) ?_
  refine z_istoren (L' := [va_rf (some a), .int x1, .int 0, zU]) dX11_over_1 rfl (by decide) rfl ?_
  refine z_iconst (v := 0) dX11_over_2 (by decide) ?_
  refine z_istoren (L' := [va_rf (some a), .int x1, .int 0, .int 0]) dX11_over_3 rfl (by decide) rfl ?_
  exact hw

theorem sX11_over_4 {l : Launch} {G : zG} {d : Nat} {Q : Option Value → zH → Prop} {k n : Nat} {h : zH} (a : Nat) (x1 : Int32) (x2 : Int32) (x3 : Int32) (ha : lo11 h a) (hd9 : 1 ≤ d)
    (hw : ((x1.toInt ≤ x3.toInt → Q (some (.int x2)) h) ∧ (x3.toInt < x1.toInt → (0 ≤ x3.toInt ∧ x3.toInt < ((160 : Nat) : Int) ∧ (0 ≤ x1.toInt ∧ x1.toInt < ((160 : Nat) : Int) ∧ ((¬ zI h (a + 7) (zix x3) = zI h (a + 7) (zix x1) → Z l G mX11_over d Q k n 4 [va_rf (some a), .int x1, .int ((x2 + 0)), .int ((x3 + 1))] [] h) ∧ (zI h (a + 7) (zix x3) = zI h (a + 7) (zix x1) → Z l G mX11_over d Q k n 4 [va_rf (some a), .int x1, .int ((x2 + 1)), .int ((x3 + 1))] [] h))))))) :
    Z l G mX11_over d Q k n 4 [va_rf (some a), .int x1, .int x2, .int x3] [] h := by
  refine z_iloadn dX11_over_4 rfl rfl ?_
  refine z_iloadn dX11_over_5 rfl rfl ?_
  refine z_icmp_ge (t := 38) dX11_over_6 (by decide) (fun c1 => ?_) (fun c2 => ?_)
  · have hw3 := hw.1 c1
    refine z_iloadn dX11_over_38 rfl rfl ?_
    exact z_ret (v := some (.int x2)) dX11_over_39 ⟨_, rfl, rfl⟩ rfl hw3
  · have hw4 := hw.2 c2
    refine z_iloadn dX11_over_9 rfl rfl ?_
    refine z_aloadn dX11_over_10 rfl rfl ?_
    refine z_getRq (j := 24) zc11 dX11_over_11 (ha.k 0 rfl) (ha.lt 0 rfl) (by decide) rfl w1483 (ha.r 6 rfl) ?_
    refine z_iloadn dX11_over_14 rfl rfl ?_
    have hw5 := hw4.2.2
    refine z_iald (N := 160) dX11_over_15 (ha.w 7 rfl).r hw4.1 hw4.2.1 ?_
    refine z_aloadn dX11_over_16 rfl rfl ?_
    refine z_getRq (j := 24) zc11 dX11_over_17 (ha.k 0 rfl) (ha.lt 0 rfl) (by decide) rfl w1483 (ha.r 6 rfl) ?_
    refine z_iloadn dX11_over_20 rfl rfl ?_
    have hw6 := hw5.2.2
    refine z_iald (N := 160) dX11_over_21 (ha.w 7 rfl).r hw5.1 hw5.2.1 ?_
    refine z_icmp_ne (t := 29) dX11_over_22 (by decide) (fun c7 => ?_) (fun c8 => ?_)
    · have hw9 := hw6.1 c7
      refine z_iconst (v := 0) dX11_over_29 (by decide) ?_
      refine z_iadd dX11_over_30 ?_
      refine z_istoren (L' := [va_rf (some a), .int x1, .int ((x2 + 0)), .int x3]) dX11_over_31 rfl (by decide) rfl ?_
      refine z_iinc (v := (x3 + 1)) (L' := [va_rf (some a), .int x1, .int ((x2 + 0)), .int ((x3 + 1))]) dX11_over_32 (by decide) rfl rfl rfl ?_
      refine z_goto (t := 4) dX11_over_35 (by decide) ?_
      exact hw9
    · have hw10 := hw6.2 c8
      refine z_iconst (v := 1) dX11_over_25 (by decide) ?_
      refine z_goto (t := 30) dX11_over_26 (by decide) ?_
      refine z_iadd dX11_over_30 ?_
      refine z_istoren (L' := [va_rf (some a), .int x1, .int ((x2 + 1)), .int x3]) dX11_over_31 rfl (by decide) rfl ?_
      refine z_iinc (v := (x3 + 1)) (L' := [va_rf (some a), .int x1, .int ((x2 + 1)), .int ((x3 + 1))]) dX11_over_32 (by decide) rfl rfl rfl ?_
      refine z_goto (t := 4) dX11_over_35 (by decide) ?_
      exact hw10

theorem kX11_over {l : Launch} {G : zG} {d : Nat} {Q : Option Value → zH → Prop} {k n : Nat} {h : zH} (a : Nat) (x1 : Int32) (hz : Z l G mX11_over d Q k n 0 [va_rf (some a), .int x1, zU, zU] [] h) : CT l G YX11_over d k n [va_rf (some a), .int x1] h Q :=
  CT.of (by decide +kernel) (fun t e => by have e2 : ((some .int) : Option FieldType) = some t := e; cases e2; exact ⟨by decide, by decide⟩) (by exact Nat.le_of_ble_eq_true rfl) (by exact hz)

theorem sX11_usersOf_0 {l : Launch} {G : zG} {d : Nat} {Q : Option Value → zH → Prop} {k n : Nat} {h : zH} (a : Nat) (x1 : Int32) (ha : lo11 h a) (hd9 : 1 ≤ d)
    (hw : Z l G mX11_usersOf d Q k n 4 [va_rf (some a), .int x1, .int 0, .int 0] [] h) :
    Z l G mX11_usersOf d Q k n 0 [va_rf (some a), .int x1, zU, zU] [] h := by
  refine z_iconst (v := 0) dX11_usersOf_0 (by decide) ?_
  refine z_istoren (L' := [va_rf (some a), .int x1, .int 0, zU]) dX11_usersOf_1 rfl (by decide) rfl ?_
  refine z_iconst (v := 0) dX11_usersOf_2 (by decide) ?_
  refine z_istoren (L' := [va_rf (some a), .int x1, .int 0, .int 0]) dX11_usersOf_3 rfl (by decide) rfl ?_
  exact hw

theorem sX11_usersOf_4 {l : Launch} {G : zG} {d : Nat} {Q : Option Value → zH → Prop} {k n : Nat} {h : zH} (a : Nat) (x1 : Int32) (x2 : Int32) (x3 : Int32) (ha : lo11 h a) (hd9 : 1 ≤ d)
    (hw : (((zI h a 23).toInt ≤ x3.toInt → Q (some (.int x2)) h) ∧ (x3.toInt < (zI h a 23).toInt → (0 ≤ x3.toInt ∧ x3.toInt < ((160 : Nat) : Int) ∧ ((¬ zI h (a + 7) (zix x3) = x1 → Z l G mX11_usersOf d Q k n 4 [va_rf (some a), .int x1, .int ((x2 ||| 0)), .int ((x3 + 1))] [] h) ∧ (zI h (a + 7) (zix x3) = x1 → (0 ≤ x3.toInt ∧ x3.toInt < ((160 : Nat) : Int) ∧ Z l G mX11_usersOf d Q k n 4 [va_rf (some a), .int x1, .int ((x2 ||| (zI h (a + 14) (zix x3)))), .int ((x3 + 1))] [] h))))))) :
    Z l G mX11_usersOf d Q k n 4 [va_rf (some a), .int x1, .int x2, .int x3] [] h := by
  refine z_iloadn dX11_usersOf_4 rfl rfl ?_
  refine z_aloadn dX11_usersOf_5 rfl rfl ?_
  refine z_getI (j := 23) zc11 dX11_usersOf_6 (ha.k 0 rfl) (ha.lt 0 rfl) (by decide) rfl w1482 ?_
  refine z_icmp_ge (t := 41) dX11_usersOf_9 (by decide) (fun c1 => ?_) (fun c2 => ?_)
  · have hw3 := hw.1 c1
    refine z_iloadn dX11_usersOf_41 rfl rfl ?_
    exact z_ret (v := some (.int x2)) dX11_usersOf_42 ⟨_, rfl, rfl⟩ rfl hw3
  · have hw4 := hw.2 c2
    refine z_iloadn dX11_usersOf_12 rfl rfl ?_
    refine z_aloadn dX11_usersOf_13 rfl rfl ?_
    refine z_getRq (j := 24) zc11 dX11_usersOf_14 (ha.k 0 rfl) (ha.lt 0 rfl) (by decide) rfl w1483 (ha.r 6 rfl) ?_
    refine z_iloadn dX11_usersOf_17 rfl rfl ?_
    have hw5 := hw4.2.2
    refine z_iald (N := 160) dX11_usersOf_18 (ha.w 7 rfl).r hw4.1 hw4.2.1 ?_
    refine z_iloadn dX11_usersOf_19 rfl rfl ?_
    refine z_icmp_ne (t := 32) dX11_usersOf_20 (by decide) (fun c6 => ?_) (fun c7 => ?_)
    · have hw8 := hw5.1 c6
      refine z_iconst (v := 0) dX11_usersOf_32 (by decide) ?_
      refine z_ior dX11_usersOf_33 ?_
      refine z_istoren (L' := [va_rf (some a), .int x1, .int ((x2 ||| 0)), .int x3]) dX11_usersOf_34 rfl (by decide) rfl ?_
      refine z_iinc (v := (x3 + 1)) (L' := [va_rf (some a), .int x1, .int ((x2 ||| 0)), .int ((x3 + 1))]) dX11_usersOf_35 (by decide) rfl rfl rfl ?_
      refine z_goto (t := 4) dX11_usersOf_38 (by decide) ?_
      exact hw8
    · have hw9 := hw5.2 c7
      refine z_aloadn dX11_usersOf_23 rfl rfl ?_
      refine z_getRq (j := 31) zc11 dX11_usersOf_24 (ha.k 0 rfl) (ha.lt 0 rfl) (by decide) rfl w1490 (ha.r 13 rfl) ?_
      refine z_iloadn dX11_usersOf_27 rfl rfl ?_
      have hw10 := hw9.2.2
      refine z_iald (N := 160) dX11_usersOf_28 (ha.w 14 rfl).r hw9.1 hw9.2.1 ?_
      refine z_goto (t := 33) dX11_usersOf_29 (by decide) ?_
      refine z_ior dX11_usersOf_33 ?_
      refine z_istoren (L' := [va_rf (some a), .int x1, .int ((x2 ||| (zI h (a + 14) (zix x3)))), .int x3]) dX11_usersOf_34 rfl (by decide) rfl ?_
      refine z_iinc (v := (x3 + 1)) (L' := [va_rf (some a), .int x1, .int ((x2 ||| (zI h (a + 14) (zix x3)))), .int ((x3 + 1))]) dX11_usersOf_35 (by decide) rfl rfl rfl ?_
      refine z_goto (t := 4) dX11_usersOf_38 (by decide) ?_
      exact hw10

theorem kX11_usersOf {l : Launch} {G : zG} {d : Nat} {Q : Option Value → zH → Prop} {k n : Nat} {h : zH} (a : Nat) (x1 : Int32) (hz : Z l G mX11_usersOf d Q k n 0 [va_rf (some a), .int x1, zU, zU] [] h) : CT l G YX11_usersOf d k n [va_rf (some a), .int x1] h Q :=
  CT.of (by decide +kernel) (fun t e => by have e2 : ((some .int) : Option FieldType) = some t := e; cases e2; exact ⟨by decide, by decide⟩) (by exact Nat.le_of_ble_eq_true rfl) (by exact hz)

theorem sX11_bits_0 {l : Launch} {G : zG} {d : Nat} {Q : Option Value → zH → Prop} {k n : Nat} {h : zH} (x0 : Int32)  (hd9 : 1 ≤ d)
    (hw : Z l G mX11_bits d Q k n 4 [.int x0, .int 0, .int 0] [] h) :
    Z l G mX11_bits d Q k n 0 [.int x0, zU, zU] [] h := by
  refine z_iconst (v := 0) dX11_bits_0 (by decide) ?_
  refine z_istoren (L' := [.int x0, .int 0, zU]) dX11_bits_1 rfl (by decide) rfl ?_
  refine z_iconst (v := 0) dX11_bits_2 (by decide) ?_
  refine z_istoren (L' := [.int x0, .int 0, .int 0]) dX11_bits_3 rfl (by decide) rfl ?_
  exact hw

theorem sX11_bits_4 {l : Launch} {G : zG} {d : Nat} {Q : Option Value → zH → Prop} {k n : Nat} {h : zH} (x0 : Int32) (x1 : Int32) (x2 : Int32)  (hd9 : 1 ≤ d)
    (hw : (((31 : Int) ≤ x2.toInt → Q (some (.int x1)) h) ∧ (x2.toInt < (31 : Int) → Z l G mX11_bits d Q k n 4 [.int x0, .int ((x1 + ((x0 >>> (x2 &&& 31)) &&& 1))), .int ((x2 + 1))] [] h))) :
    Z l G mX11_bits d Q k n 4 [.int x0, .int x1, .int x2] [] h := by
  refine z_iloadn dX11_bits_4 rfl rfl ?_
  refine z_bipush (v := 31) dX11_bits_5 (by decide) ?_
  refine z_icmp_ge (t := 24) dX11_bits_7 (by decide) (fun c1 => ?_) (fun c2 => ?_)
  · have hw3 := hw.1 c1
    refine z_iloadn dX11_bits_24 rfl rfl ?_
    exact z_ret (v := some (.int x1)) dX11_bits_25 ⟨_, rfl, rfl⟩ rfl hw3
  · have hw4 := hw.2 c2
    refine z_iloadn dX11_bits_10 rfl rfl ?_
    refine z_iloadn dX11_bits_11 rfl rfl ?_
    refine z_iloadn dX11_bits_12 rfl rfl ?_
    refine z_ishr dX11_bits_13 ?_
    refine z_iconst (v := 1) dX11_bits_14 (by decide) ?_
    refine z_iand dX11_bits_15 ?_
    refine z_iadd dX11_bits_16 ?_
    refine z_istoren (L' := [.int x0, .int ((x1 + ((x0 >>> (x2 &&& 31)) &&& 1))), .int x2]) dX11_bits_17 rfl (by decide) rfl ?_
    refine z_iinc (v := (x2 + 1)) (L' := [.int x0, .int ((x1 + ((x0 >>> (x2 &&& 31)) &&& 1))), .int ((x2 + 1))]) dX11_bits_18 (by decide) rfl rfl rfl ?_
    refine z_goto (t := 4) dX11_bits_21 (by decide) ?_
    exact hw4

theorem kX11_bits {l : Launch} {G : zG} {d : Nat} {Q : Option Value → zH → Prop} {k n : Nat} {h : zH} (x0 : Int32) (hz : Z l G mX11_bits d Q k n 0 [.int x0, zU, zU] [] h) : CT l G YX11_bits d k n [.int x0] h Q :=
  CT.of (by decide +kernel) (fun t e => by have e2 : ((some .int) : Option FieldType) = some t := e; cases e2; exact ⟨by decide, by decide⟩) (by exact Nat.le_of_ble_eq_true rfl) (by exact hz)

theorem sX11_common_0 {l : Launch} {G : zG} {d : Nat} {Q : Option Value → zH → Prop} {k n : Nat} {h : zH} (x0 : Int64) (x2 : Int64)  (hd9 : 1 ≤ d)
    (hw : Z l G mX11_common d Q k n 6 [.long (x0), zU, .long (x2), zU, .long (x0), zU, .long (x2), zU, zU, zU] [] h) :
    Z l G mX11_common d Q k n 0 [.long (x0), zU, .long (x2), zU, zU, zU, zU, zU, zU, zU] [] h := by
  refine z_lloadn dX11_common_0 rfl rfl ?_
  refine z_lstore (L' := [.long (x0), zU, .long (x2), zU, .long (x0), zU, zU, zU, zU, zU]) dX11_common_1 (by decide) rfl ?_
  refine z_lloadn dX11_common_3 rfl rfl ?_
  refine z_lstore (L' := [.long (x0), zU, .long (x2), zU, .long (x0), zU, .long (x2), zU, zU, zU]) dX11_common_4 (by decide) rfl ?_
  exact hw

theorem sX11_common_6 {l : Launch} {G : zG} {d : Nat} {Q : Option Value → zH → Prop} {k n : Nat} {h : zH} (x0 : Int64) (x2 : Int64) (x4 : Int64) (x6 : Int64) (u8 : Value) (u9 : Value)  (hd9 : 1 ≤ d)
    (hw : (((lg_cmp x6 0) = 0 → Q (some (.long (x4))) h) ∧ (¬ (lg_cmp x6 0) = 0 → (¬ x6 = 0 ∧ Z l G mX11_common d Q k n 6 [.long (x0), zU, .long (x2), zU, .long (x6), zU, .long ((x4 - x4 / x6 * x6)), zU, .long ((x4 - x4 / x6 * x6)), zU] [] h)))) :
    Z l G mX11_common d Q k n 6 [.long (x0), zU, .long (x2), zU, .long (x4), zU, .long (x6), zU, u8, u9] [] h := by
  refine z_lload dX11_common_6 rfl ?_
  refine z_lconst (v := 0) dX11_common_8 (by decide) ?_
  refine z_lcmp dX11_common_9 ?_
  refine z_if_eq (t := 31) dX11_common_10 (by decide) (fun c1 => ?_) (fun c2 => ?_)
  · have hw3 := hw.1 c1
    refine z_lload dX11_common_31 rfl ?_
    exact z_ret (v := some (.long (x4))) dX11_common_33 ⟨_, rfl⟩ rfl hw3
  · have hw4 := hw.2 c2
    refine z_lload dX11_common_13 rfl ?_
    refine z_lload dX11_common_15 rfl ?_
    have hw5 := hw4.2
    refine z_lrem dX11_common_17 hw4.1 ?_
    refine z_lstore (L' := [.long (x0), zU, .long (x2), zU, .long (x4), zU, .long (x6), zU, .long ((x4 - x4 / x6 * x6)), zU]) dX11_common_18 (by decide) rfl ?_
    refine z_lload dX11_common_20 rfl ?_
    refine z_lstore (L' := [.long (x0), zU, .long (x2), zU, .long (x6), zU, .long (x6), zU, .long ((x4 - x4 / x6 * x6)), zU]) dX11_common_22 (by decide) rfl ?_
    refine z_lload dX11_common_24 rfl ?_
    refine z_lstore (L' := [.long (x0), zU, .long (x2), zU, .long (x6), zU, .long ((x4 - x4 / x6 * x6)), zU, .long ((x4 - x4 / x6 * x6)), zU]) dX11_common_26 (by decide) rfl ?_
    refine z_goto (t := 6) dX11_common_28 (by decide) ?_
    exact hw5

theorem kX11_common {l : Launch} {G : zG} {d : Nat} {Q : Option Value → zH → Prop} {k n : Nat} {h : zH} (x0 : Int64) (x2 : Int64) (hz : Z l G mX11_common d Q k n 0 [.long (x0), zU, .long (x2), zU, zU, zU, zU, zU, zU, zU] [] h) : CT l G YX11_common d k n [.long (x0), .long (x2)] h Q :=
  CT.of (by decide +kernel) (fun t e => by have e2 : ((some .long) : Option FieldType) = some t := e; cases e2; exact ⟨by decide, by decide⟩) (by exact Nat.le_of_ble_eq_true rfl) (by exact hz)

theorem sX11_apart_0 {l : Launch} {G : zG} {d : Nat} {Q : Option Value → zH → Prop} {k n : Nat} {h : zH} (x0 : Int32) (x1 : Int32)  (hd9 : 1 ≤ d)
    (hw : ((x0.toInt ≤ x1.toInt → Q (some (.int ((x1 - x0)))) h) ∧ (x1.toInt < x0.toInt → Q (some (.int ((x0 - x1)))) h))) :
    Z l G mX11_apart d Q k n 0 [.int x0, .int x1] [] h := by
  refine z_iloadn dX11_apart_0 rfl rfl ?_
  refine z_iloadn dX11_apart_1 rfl rfl ?_
  refine z_icmp_le (t := 11) dX11_apart_2 (by decide) (fun c1 => ?_) (fun c2 => ?_)
  · have hw3 := hw.1 c1
    refine z_iloadn dX11_apart_11 rfl rfl ?_
    refine z_iloadn dX11_apart_12 rfl rfl ?_
    refine z_isub dX11_apart_13 ?_
    exact z_ret (v := some (.int ((x1 - x0)))) dX11_apart_14 ⟨_, rfl, rfl⟩ rfl hw3
  · have hw4 := hw.2 c2
    refine z_iloadn dX11_apart_5 rfl rfl ?_
    refine z_iloadn dX11_apart_6 rfl rfl ?_
    refine z_isub dX11_apart_7 ?_
    refine z_goto (t := 14) dX11_apart_8 (by decide) ?_
    exact z_ret (v := some (.int ((x0 - x1)))) dX11_apart_14 ⟨_, rfl, rfl⟩ rfl hw4

theorem kX11_apart {l : Launch} {G : zG} {d : Nat} {Q : Option Value → zH → Prop} {k n : Nat} {h : zH} (x0 : Int32) (x1 : Int32) (hz : Z l G mX11_apart d Q k n 0 [.int x0, .int x1] [] h) : CT l G YX11_apart d k n [.int x0, .int x1] h Q :=
  CT.of (by decide +kernel) (fun t e => by have e2 : ((some .int) : Option FieldType) = some t := e; cases e2; exact ⟨by decide, by decide⟩) (by exact Nat.le_of_ble_eq_true rfl) (by exact hz)

theorem sX11_signs_0 {l : Launch} {G : zG} {d : Nat} {Q : Option Value → zH → Prop} {k n : Nat} {h : zH} (a : Nat) (ha : lo11 h a) (hd9 : 1 ≤ d)
    (hw : (0 ≤ (zI h a 43).toInt ∧ (zI h a 43).toInt < ((5392 : Nat) : Int) ∧ Q (some (.int (zI h (a + 1) (zix (zI h a 43))))) h)) :
    Z l G mX11_signs d Q k n 0 [va_rf (some a)] [] h := by
  refine z_aloadn dX11_signs_0 rfl rfl ?_
  refine z_getRq (j := 0) zc11 dX11_signs_1 (ha.k 0 rfl) (ha.lt 0 rfl) (by decide) rfl w1459 (ha.r 0 rfl) ?_
  refine z_aloadn dX11_signs_4 rfl rfl ?_
  refine z_getI (j := 43) zc11 dX11_signs_5 (ha.k 0 rfl) (ha.lt 0 rfl) (by decide) rfl w1502 ?_
  have hw1 := hw.2.2
  refine z_iald (N := 5392) dX11_signs_8 (ha.w 1 rfl).r hw.1 hw.2.1 ?_
  exact z_ret (v := some (.int (zI h (a + 1) (zix (zI h a 43))))) dX11_signs_9 ⟨_, rfl, rfl⟩ rfl hw1

theorem kX11_signs {l : Launch} {G : zG} {d : Nat} {Q : Option Value → zH → Prop} {k n : Nat} {h : zH} (a : Nat) (hz : Z l G mX11_signs d Q k n 0 [va_rf (some a)] [] h) : CT l G YX11_signs d k n [va_rf (some a)] h Q :=
  CT.of (by decide +kernel) (fun t e => by have e2 : ((some .int) : Option FieldType) = some t := e; cases e2; exact ⟨by decide, by decide⟩) (by exact Nat.le_of_ble_eq_true rfl) (by exact hz)

theorem sX11_signOf_0 {l : Launch} {G : zG} {d : Nat} {Q : Option Value → zH → Prop} {k n : Nat} {h : zH} (a : Nat) (x1 : Int32) (x2 : Int32) (ha : lo11 h a) (hd9 : 1 ≤ d)
    (hw : (0 ≤ ((((zI h a 43) + 1) + (5 * x1)) + x2).toInt ∧ ((((zI h a 43) + 1) + (5 * x1)) + x2).toInt < ((5392 : Nat) : Int) ∧ Q (some (.int (zI h (a + 1) (zix ((((zI h a 43) + 1) + (5 * x1)) + x2))))) h)) :
    Z l G mX11_signOf d Q k n 0 [va_rf (some a), .int x1, .int x2] [] h := by
  refine z_aloadn dX11_signOf_0 rfl rfl ?_
  refine z_getRq (j := 0) zc11 dX11_signOf_1 (ha.k 0 rfl) (ha.lt 0 rfl) (by decide) rfl w1459 (ha.r 0 rfl) ?_
  refine z_aloadn dX11_signOf_4 rfl rfl ?_
  refine z_getI (j := 43) zc11 dX11_signOf_5 (ha.k 0 rfl) (ha.lt 0 rfl) (by decide) rfl w1502 ?_
  refine z_iconst (v := 1) dX11_signOf_8 (by decide) ?_
  refine z_iadd dX11_signOf_9 ?_
  refine z_iconst (v := 5) dX11_signOf_10 (by decide) ?_
  refine z_iloadn dX11_signOf_11 rfl rfl ?_
  refine z_imul dX11_signOf_12 ?_
  refine z_iadd dX11_signOf_13 ?_
  refine z_iloadn dX11_signOf_14 rfl rfl ?_
  refine z_iadd dX11_signOf_15 ?_
  have hw1 := hw.2.2
  refine z_iald (N := 5392) dX11_signOf_16 (ha.w 1 rfl).r hw.1 hw.2.1 ?_
  exact z_ret (v := some (.int (zI h (a + 1) (zix ((((zI h a 43) + 1) + (5 * x1)) + x2))))) dX11_signOf_17 ⟨_, rfl, rfl⟩ rfl hw1

theorem kX11_signOf {l : Launch} {G : zG} {d : Nat} {Q : Option Value → zH → Prop} {k n : Nat} {h : zH} (a : Nat) (x1 : Int32) (x2 : Int32) (hz : Z l G mX11_signOf d Q k n 0 [va_rf (some a), .int x1, .int x2] [] h) : CT l G YX11_signOf d k n [va_rf (some a), .int x1, .int x2] h Q :=
  CT.of (by decide +kernel) (fun t e => by have e2 : ((some .int) : Option FieldType) = some t := e; cases e2; exact ⟨by decide, by decide⟩) (by exact Nat.le_of_ble_eq_true rfl) (by exact hz)

theorem sX11_twins_0 {l : Launch} {G : zG} {d : Nat} {Q : Option Value → zH → Prop} {k n : Nat} {h : zH} (a : Nat) (ha : lo11 h a) (hd9 : 1 ≤ d)
    (hw : Z l G mX11_twins d Q k n 4 [va_rf (some a), .int 0, .int 0, zU] [] h) :
    Z l G mX11_twins d Q k n 0 [va_rf (some a), zU, zU, zU] [] h := by
  refine z_iconst (v := 0) dX11_twins_0 (by decide) ?_
  refine z_istoren (L' := [va_rf (some a), .int 0, zU, zU]) dX11_twins_1 rfl (by decide) rfl ?_
  refine z_iconst (v := 0) dX11_twins_2 (by decide) ?_
  refine z_istoren (L' := [va_rf (some a), .int 0, .int 0, zU]) dX11_twins_3 rfl (by decide) rfl ?_
  exact hw

theorem sX11_twins_4 {l : Launch} {G : zG} {d : Nat} {Q : Option Value → zH → Prop} {k n : Nat} {h : zH} (a : Nat) (x1 : Int32) (x2 : Int32) (u3 : Value) (ha : lo11 h a) (hd9 : 1 ≤ d)
    (hw : (((zI h a 23).toInt ≤ x2.toInt → Q (some (.int x1)) h) ∧ (x2.toInt < (zI h a 23).toInt → Z l G mX11_twins d Q k n 16 [va_rf (some a), .int x1, .int x2, .int ((x2 + 1))] [] h))) :
    Z l G mX11_twins d Q k n 4 [va_rf (some a), .int x1, .int x2, u3] [] h := by
  refine z_iloadn dX11_twins_4 rfl rfl ?_
  refine z_aloadn dX11_twins_5 rfl rfl ?_
  refine z_getI (j := 23) zc11 dX11_twins_6 (ha.k 0 rfl) (ha.lt 0 rfl) (by decide) rfl w1482 ?_
  refine z_icmp_ge (t := 104) dX11_twins_9 (by decide) (fun c1 => ?_) (fun c2 => ?_)
  · have hw3 := hw.1 c1
    refine z_iloadn dX11_twins_104 rfl rfl ?_
    exact z_ret (v := some (.int x1)) dX11_twins_105 ⟨_, rfl, rfl⟩ rfl hw3
  · have hw4 := hw.2 c2
    refine z_iloadn dX11_twins_12 rfl rfl ?_
    refine z_iconst (v := 1) dX11_twins_13 (by decide) ?_
    refine z_iadd dX11_twins_14 ?_
    refine z_istoren (L' := [va_rf (some a), .int x1, .int x2, .int ((x2 + 1))]) dX11_twins_15 rfl (by decide) rfl ?_
    exact hw4

theorem sX11_twins_16 {l : Launch} {G : zG} {d : Nat} {Q : Option Value → zH → Prop} {k n : Nat} {h : zH} (a : Nat) (x1 : Int32) (x2 : Int32) (x3 : Int32) (ha : lo11 h a) (hd9 : 1 ≤ d)
    (hw : (((zI h a 23).toInt ≤ x3.toInt → Z l G mX11_twins d Q k n 4 [va_rf (some a), .int x1, .int ((x2 + 1)), .int x3] [] h) ∧ (x3.toInt < (zI h a 23).toInt → (0 ≤ x2.toInt ∧ x2.toInt < ((160 : Nat) : Int) ∧ (0 ≤ x3.toInt ∧ x3.toInt < ((160 : Nat) : Int) ∧ ((¬ zI h (a + 7) (zix x2) = zI h (a + 7) (zix x3) → Z l G mX11_twins d Q k n 16 [va_rf (some a), .int ((x1 + 0)), .int x2, .int ((x3 + 1))] [] h) ∧ (zI h (a + 7) (zix x2) = zI h (a + 7) (zix x3) → (0 ≤ x2.toInt ∧ x2.toInt < ((160 : Nat) : Int) ∧ (0 ≤ x3.toInt ∧ x3.toInt < ((160 : Nat) : Int) ∧ ((¬ zI h (a + 8) (zix x2) = zI h (a + 8) (zix x3) → Z l G mX11_twins d Q k n 16 [va_rf (some a), .int ((x1 + 0)), .int x2, .int ((x3 + 1))] [] h) ∧ (zI h (a + 8) (zix x2) = zI h (a + 8) (zix x3) → (0 ≤ x2.toInt ∧ x2.toInt < ((160 : Nat) : Int) ∧ (0 ≤ x3.toInt ∧ x3.toInt < ((160 : Nat) : Int) ∧ ((¬ zI h (a + 9) (zix x2) = zI h (a + 9) (zix x3) → Z l G mX11_twins d Q k n 16 [va_rf (some a), .int ((x1 + 0)), .int x2, .int ((x3 + 1))] [] h) ∧ (zI h (a + 9) (zix x2) = zI h (a + 9) (zix x3) → (0 ≤ x2.toInt ∧ x2.toInt < ((160 : Nat) : Int) ∧ (0 ≤ x3.toInt ∧ x3.toInt < ((160 : Nat) : Int) ∧ ((¬ zI h (a + 10) (zix x2) = zI h (a + 10) (zix x3) → Z l G mX11_twins d Q k n 16 [va_rf (some a), .int ((x1 + 0)), .int x2, .int ((x3 + 1))] [] h) ∧ (zI h (a + 10) (zix x2) = zI h (a + 10) (zix x3) → Z l G mX11_twins d Q k n 16 [va_rf (some a), .int ((x1 + 1)), .int x2, .int ((x3 + 1))] [] h))))))))))))))))))) :
    Z l G mX11_twins d Q k n 16 [va_rf (some a), .int x1, .int x2, .int x3] [] h := by
  refine z_iloadn dX11_twins_16 rfl rfl ?_
  refine z_aloadn dX11_twins_17 rfl rfl ?_
  refine z_getI (j := 23) zc11 dX11_twins_18 (ha.k 0 rfl) (ha.lt 0 rfl) (by decide) rfl w1482 ?_
  refine z_icmp_ge (t := 98) dX11_twins_21 (by decide) (fun c1 => ?_) (fun c2 => ?_)
  · have hw3 := hw.1 c1
    refine z_iinc (v := (x2 + 1)) (L' := [va_rf (some a), .int x1, .int ((x2 + 1)), .int x3]) dX11_twins_98 (by decide) rfl rfl rfl ?_
    refine z_goto (t := 4) dX11_twins_101 (by decide) ?_
    exact hw3
  · have hw4 := hw.2 c2
    refine z_iloadn dX11_twins_24 rfl rfl ?_
    refine z_aloadn dX11_twins_25 rfl rfl ?_
    refine z_getRq (j := 24) zc11 dX11_twins_26 (ha.k 0 rfl) (ha.lt 0 rfl) (by decide) rfl w1483 (ha.r 6 rfl) ?_
    refine z_iloadn dX11_twins_29 rfl rfl ?_
    have hw5 := hw4.2.2
    refine z_iald (N := 160) dX11_twins_30 (ha.w 7 rfl).r hw4.1 hw4.2.1 ?_
    refine z_aloadn dX11_twins_31 rfl rfl ?_
    refine z_getRq (j := 24) zc11 dX11_twins_32 (ha.k 0 rfl) (ha.lt 0 rfl) (by decide) rfl w1483 (ha.r 6 rfl) ?_
    refine z_iloadn dX11_twins_35 rfl rfl ?_
    have hw6 := hw5.2.2
    refine z_iald (N := 160) dX11_twins_36 (ha.w 7 rfl).r hw5.1 hw5.2.1 ?_
    refine z_icmp_ne (t := 89) dX11_twins_37 (by decide) (fun c7 => ?_) (fun c8 => ?_)
    · have hw9 := hw6.1 c7
      refine z_iconst (v := 0) dX11_twins_89 (by decide) ?_
      refine z_iadd dX11_twins_90 ?_
      refine z_istoren (L' := [va_rf (some a), .int ((x1 + 0)), .int x2, .int x3]) dX11_twins_91 rfl (by decide) rfl ?_
      refine z_iinc (v := (x3 + 1)) (L' := [va_rf (some a), .int ((x1 + 0)), .int x2, .int ((x3 + 1))]) dX11_twins_92 (by decide) rfl rfl rfl ?_
      refine z_goto (t := 16) dX11_twins_95 (by decide) ?_
      exact hw9
    · have hw10 := hw6.2 c8
      refine z_aloadn dX11_twins_40 rfl rfl ?_
      refine z_getRq (j := 25) zc11 dX11_twins_41 (ha.k 0 rfl) (ha.lt 0 rfl) (by decide) rfl w1484 (ha.r 7 rfl) ?_
      refine z_iloadn dX11_twins_44 rfl rfl ?_
      have hw11 := hw10.2.2
      refine z_iald (N := 160) dX11_twins_45 (ha.w 8 rfl).r hw10.1 hw10.2.1 ?_
      refine z_aloadn dX11_twins_46 rfl rfl ?_
      refine z_getRq (j := 25) zc11 dX11_twins_47 (ha.k 0 rfl) (ha.lt 0 rfl) (by decide) rfl w1484 (ha.r 7 rfl) ?_
      refine z_iloadn dX11_twins_50 rfl rfl ?_
      have hw12 := hw11.2.2
      refine z_iald (N := 160) dX11_twins_51 (ha.w 8 rfl).r hw11.1 hw11.2.1 ?_
      refine z_icmp_ne (t := 89) dX11_twins_52 (by decide) (fun c13 => ?_) (fun c14 => ?_)
      · have hw15 := hw12.1 c13
        refine z_iconst (v := 0) dX11_twins_89 (by decide) ?_
        refine z_iadd dX11_twins_90 ?_
        refine z_istoren (L' := [va_rf (some a), .int ((x1 + 0)), .int x2, .int x3]) dX11_twins_91 rfl (by decide) rfl ?_
        refine z_iinc (v := (x3 + 1)) (L' := [va_rf (some a), .int ((x1 + 0)), .int x2, .int ((x3 + 1))]) dX11_twins_92 (by decide) rfl rfl rfl ?_
        refine z_goto (t := 16) dX11_twins_95 (by decide) ?_
        exact hw15
      · have hw16 := hw12.2 c14
        refine z_aloadn dX11_twins_55 rfl rfl ?_
        refine z_getRq (j := 26) zc11 dX11_twins_56 (ha.k 0 rfl) (ha.lt 0 rfl) (by decide) rfl w1485 (ha.r 8 rfl) ?_
        refine z_iloadn dX11_twins_59 rfl rfl ?_
        have hw17 := hw16.2.2
        refine z_iald (N := 160) dX11_twins_60 (ha.w 9 rfl).r hw16.1 hw16.2.1 ?_
        refine z_aloadn dX11_twins_61 rfl rfl ?_
        refine z_getRq (j := 26) zc11 dX11_twins_62 (ha.k 0 rfl) (ha.lt 0 rfl) (by decide) rfl w1485 (ha.r 8 rfl) ?_
        refine z_iloadn dX11_twins_65 rfl rfl ?_
        have hw18 := hw17.2.2
        refine z_iald (N := 160) dX11_twins_66 (ha.w 9 rfl).r hw17.1 hw17.2.1 ?_
        refine z_icmp_ne (t := 89) dX11_twins_67 (by decide) (fun c19 => ?_) (fun c20 => ?_)
        · have hw21 := hw18.1 c19
          refine z_iconst (v := 0) dX11_twins_89 (by decide) ?_
          refine z_iadd dX11_twins_90 ?_
          refine z_istoren (L' := [va_rf (some a), .int ((x1 + 0)), .int x2, .int x3]) dX11_twins_91 rfl (by decide) rfl ?_
          refine z_iinc (v := (x3 + 1)) (L' := [va_rf (some a), .int ((x1 + 0)), .int x2, .int ((x3 + 1))]) dX11_twins_92 (by decide) rfl rfl rfl ?_
          refine z_goto (t := 16) dX11_twins_95 (by decide) ?_
          exact hw21
        · have hw22 := hw18.2 c20
          refine z_aloadn dX11_twins_70 rfl rfl ?_
          refine z_getRq (j := 27) zc11 dX11_twins_71 (ha.k 0 rfl) (ha.lt 0 rfl) (by decide) rfl w1486 (ha.r 9 rfl) ?_
          refine z_iloadn dX11_twins_74 rfl rfl ?_
          have hw23 := hw22.2.2
          refine z_iald (N := 160) dX11_twins_75 (ha.w 10 rfl).r hw22.1 hw22.2.1 ?_
          refine z_aloadn dX11_twins_76 rfl rfl ?_
          refine z_getRq (j := 27) zc11 dX11_twins_77 (ha.k 0 rfl) (ha.lt 0 rfl) (by decide) rfl w1486 (ha.r 9 rfl) ?_
          refine z_iloadn dX11_twins_80 rfl rfl ?_
          have hw24 := hw23.2.2
          refine z_iald (N := 160) dX11_twins_81 (ha.w 10 rfl).r hw23.1 hw23.2.1 ?_
          refine z_icmp_ne (t := 89) dX11_twins_82 (by decide) (fun c25 => ?_) (fun c26 => ?_)
          · have hw27 := hw24.1 c25
            refine z_iconst (v := 0) dX11_twins_89 (by decide) ?_
            refine z_iadd dX11_twins_90 ?_
            refine z_istoren (L' := [va_rf (some a), .int ((x1 + 0)), .int x2, .int x3]) dX11_twins_91 rfl (by decide) rfl ?_
            refine z_iinc (v := (x3 + 1)) (L' := [va_rf (some a), .int ((x1 + 0)), .int x2, .int ((x3 + 1))]) dX11_twins_92 (by decide) rfl rfl rfl ?_
            refine z_goto (t := 16) dX11_twins_95 (by decide) ?_
            exact hw27
          · have hw28 := hw24.2 c26
            refine z_iconst (v := 1) dX11_twins_85 (by decide) ?_
            refine z_goto (t := 90) dX11_twins_86 (by decide) ?_
            refine z_iadd dX11_twins_90 ?_
            refine z_istoren (L' := [va_rf (some a), .int ((x1 + 1)), .int x2, .int x3]) dX11_twins_91 rfl (by decide) rfl ?_
            refine z_iinc (v := (x3 + 1)) (L' := [va_rf (some a), .int ((x1 + 1)), .int x2, .int ((x3 + 1))]) dX11_twins_92 (by decide) rfl rfl rfl ?_
            refine z_goto (t := 16) dX11_twins_95 (by decide) ?_
            exact hw28

theorem kX11_twins {l : Launch} {G : zG} {d : Nat} {Q : Option Value → zH → Prop} {k n : Nat} {h : zH} (a : Nat) (hz : Z l G mX11_twins d Q k n 0 [va_rf (some a), zU, zU, zU] [] h) : CT l G YX11_twins d k n [va_rf (some a)] h Q :=
  CT.of (by decide +kernel) (fun t e => by have e2 : ((some .int) : Option FieldType) = some t := e; cases e2; exact ⟨by decide, by decide⟩) (by exact Nat.le_of_ble_eq_true rfl) (by exact hz)

theorem sX11_deepest_0 {l : Launch} {G : zG} {d : Nat} {Q : Option Value → zH → Prop} {k n : Nat} {h : zH} (a : Nat) (ha : lo11 h a) (hd9 : 1 ≤ d)
    (hw : Z l G mX11_deepest d Q k n 4 [va_rf (some a), .int ((-1)), .int 0] [] h) :
    Z l G mX11_deepest d Q k n 0 [va_rf (some a), zU, zU] [] h := by
  refine z_iconst (v := (-1)) dX11_deepest_0 (by decide) ?_
  refine z_istoren (L' := [va_rf (some a), .int ((-1)), zU]) dX11_deepest_1 rfl (by decide) rfl ?_
  refine z_iconst (v := 0) dX11_deepest_2 (by decide) ?_
  refine z_istoren (L' := [va_rf (some a), .int ((-1)), .int 0]) dX11_deepest_3 rfl (by decide) rfl ?_
  exact hw

theorem sX11_deepest_4 {l : Launch} {G : zG} {d : Nat} {Q : Option Value → zH → Prop} {k n : Nat} {h : zH} (a : Nat) (x1 : Int32) (x2 : Int32) (ha : lo11 h a) (hd9 : 1 ≤ d)
    (hw : (((zI h a 23).toInt ≤ x2.toInt → Q (some (.int x1)) h) ∧ (x2.toInt < (zI h a 23).toInt → ((x1.toInt < (0 : Int) → Z l G mX11_deepest d Q k n 4 [va_rf (some a), .int x2, .int ((x2 + 1))] [] h) ∧ ((0 : Int) ≤ x1.toInt → (0 ≤ x2.toInt ∧ x2.toInt < ((160 : Nat) : Int) ∧ (0 ≤ x1.toInt ∧ x1.toInt < ((160 : Nat) : Int) ∧ (((zI h (a + 11) (zix x2)).toInt ≤ (zI h (a + 11) (zix x1)).toInt → Z l G mX11_deepest d Q k n 4 [va_rf (some a), .int x1, .int ((x2 + 1))] [] h) ∧ ((zI h (a + 11) (zix x1)).toInt < (zI h (a + 11) (zix x2)).toInt → Z l G mX11_deepest d Q k n 4 [va_rf (some a), .int x2, .int ((x2 + 1))] [] h))))))))) :
    Z l G mX11_deepest d Q k n 4 [va_rf (some a), .int x1, .int x2] [] h := by
  refine z_iloadn dX11_deepest_4 rfl rfl ?_
  refine z_aloadn dX11_deepest_5 rfl rfl ?_
  refine z_getI (j := 23) zc11 dX11_deepest_6 (ha.k 0 rfl) (ha.lt 0 rfl) (by decide) rfl w1482 ?_
  refine z_icmp_ge (t := 43) dX11_deepest_9 (by decide) (fun c1 => ?_) (fun c2 => ?_)
  · have hw3 := hw.1 c1
    refine z_iloadn dX11_deepest_43 rfl rfl ?_
    exact z_ret (v := some (.int x1)) dX11_deepest_44 ⟨_, rfl, rfl⟩ rfl hw3
  · have hw4 := hw.2 c2
    refine z_iloadn dX11_deepest_12 rfl rfl ?_
    refine z_if_lt (t := 31) dX11_deepest_13 (by decide) (fun c5 => ?_) (fun c6 => ?_)
    · have hw7 := hw4.1 c5
      refine z_iloadn dX11_deepest_31 rfl rfl ?_
      refine z_goto (t := 36) dX11_deepest_32 (by decide) ?_
      refine z_istoren (L' := [va_rf (some a), .int x2, .int x2]) dX11_deepest_36 rfl (by decide) rfl ?_
      refine z_iinc (v := (x2 + 1)) (L' := [va_rf (some a), .int x2, .int ((x2 + 1))]) dX11_deepest_37 (by decide) rfl rfl rfl ?_
      refine z_goto (t := 4) dX11_deepest_40 (by decide) ?_
      exact hw7
    · have hw8 := hw4.2 c6
      refine z_aloadn dX11_deepest_16 rfl rfl ?_
      refine z_getRq (j := 28) zc11 dX11_deepest_17 (ha.k 0 rfl) (ha.lt 0 rfl) (by decide) rfl w1487 (ha.r 10 rfl) ?_
      refine z_iloadn dX11_deepest_20 rfl rfl ?_
      have hw9 := hw8.2.2
      refine z_iald (N := 160) dX11_deepest_21 (ha.w 11 rfl).r hw8.1 hw8.2.1 ?_
      refine z_aloadn dX11_deepest_22 rfl rfl ?_
      refine z_getRq (j := 28) zc11 dX11_deepest_23 (ha.k 0 rfl) (ha.lt 0 rfl) (by decide) rfl w1487 (ha.r 10 rfl) ?_
      refine z_iloadn dX11_deepest_26 rfl rfl ?_
      have hw10 := hw9.2.2
      refine z_iald (N := 160) dX11_deepest_27 (ha.w 11 rfl).r hw9.1 hw9.2.1 ?_
      refine z_icmp_le (t := 35) dX11_deepest_28 (by decide) (fun c11 => ?_) (fun c12 => ?_)
      · have hw13 := hw10.1 c11
        refine z_iloadn dX11_deepest_35 rfl rfl ?_
        refine z_istoren (L' := [va_rf (some a), .int x1, .int x2]) dX11_deepest_36 rfl (by decide) rfl ?_
        refine z_iinc (v := (x2 + 1)) (L' := [va_rf (some a), .int x1, .int ((x2 + 1))]) dX11_deepest_37 (by decide) rfl rfl rfl ?_
        refine z_goto (t := 4) dX11_deepest_40 (by decide) ?_
        exact hw13
      · have hw14 := hw10.2 c12
        refine z_iloadn dX11_deepest_31 rfl rfl ?_
        refine z_goto (t := 36) dX11_deepest_32 (by decide) ?_
        refine z_istoren (L' := [va_rf (some a), .int x2, .int x2]) dX11_deepest_36 rfl (by decide) rfl ?_
        refine z_iinc (v := (x2 + 1)) (L' := [va_rf (some a), .int x2, .int ((x2 + 1))]) dX11_deepest_37 (by decide) rfl rfl rfl ?_
        refine z_goto (t := 4) dX11_deepest_40 (by decide) ?_
        exact hw14

theorem kX11_deepest {l : Launch} {G : zG} {d : Nat} {Q : Option Value → zH → Prop} {k n : Nat} {h : zH} (a : Nat) (hz : Z l G mX11_deepest d Q k n 0 [va_rf (some a), zU, zU] [] h) : CT l G YX11_deepest d k n [va_rf (some a)] h Q :=
  CT.of (by decide +kernel) (fun t e => by have e2 : ((some .int) : Option FieldType) = some t := e; cases e2; exact ⟨by decide, by decide⟩) (by exact Nat.le_of_ble_eq_true rfl) (by exact hz)

theorem sJ6_bitCount_0f7a4_0 {l : Launch} {G : zG} {d : Nat} {Q : Option Value → zH → Prop} {k n : Nat} {h : zH} (x0 : Int32)  (hd9 : 1 ≤ d)
    (hw : Q (some (.int (((((((((x0 - ((zushr x0 1) &&& 1431655765)) &&& 858993459) + ((zushr (x0 - ((zushr x0 1) &&& 1431655765)) 2) &&& 858993459)) + (zushr (((x0 - ((zushr x0 1) &&& 1431655765)) &&& 858993459) + ((zushr (x0 - ((zushr x0 1) &&& 1431655765)) 2) &&& 858993459)) 4)) &&& 252645135) + (zushr (((((x0 - ((zushr x0 1) &&& 1431655765)) &&& 858993459) + ((zushr (x0 - ((zushr x0 1) &&& 1431655765)) 2) &&& 858993459)) + (zushr (((x0 - ((zushr x0 1) &&& 1431655765)) &&& 858993459) + ((zushr (x0 - ((zushr x0 1) &&& 1431655765)) 2) &&& 858993459)) 4)) &&& 252645135) 8)) + (zushr ((((((x0 - ((zushr x0 1) &&& 1431655765)) &&& 858993459) + ((zushr (x0 - ((zushr x0 1) &&& 1431655765)) 2) &&& 858993459)) + (zushr (((x0 - ((zushr x0 1) &&& 1431655765)) &&& 858993459) + ((zushr (x0 - ((zushr x0 1) &&& 1431655765)) 2) &&& 858993459)) 4)) &&& 252645135) + (zushr (((((x0 - ((zushr x0 1) &&& 1431655765)) &&& 858993459) + ((zushr (x0 - ((zushr x0 1) &&& 1431655765)) 2) &&& 858993459)) + (zushr (((x0 - ((zushr x0 1) &&& 1431655765)) &&& 858993459) + ((zushr (x0 - ((zushr x0 1) &&& 1431655765)) 2) &&& 858993459)) 4)) &&& 252645135) 8)) 16)) &&& 63)))) h) :
    Z l G mJ6_bitCount_0f7a4 d Q k n 0 [.int x0] [] h := by
  refine z_iloadn dJ6_bitCount_0f7a4_0 rfl rfl ?_
  refine z_iloadn dJ6_bitCount_0f7a4_1 rfl rfl ?_
  refine z_iconst (v := 1) dJ6_bitCount_0f7a4_2 (by decide) ?_
  refine z_iushr dJ6_bitCount_0f7a4_3 rfl ?_
  refine z_ldcw w1196 dJ6_bitCount_0f7a4_4 ?_
  refine z_iand dJ6_bitCount_0f7a4_7 ?_
  refine z_isub dJ6_bitCount_0f7a4_8 ?_
  refine z_istoren (L' := [.int ((x0 - ((zushr x0 1) &&& 1431655765)))]) dJ6_bitCount_0f7a4_9 rfl (by decide) rfl ?_
  refine z_iloadn dJ6_bitCount_0f7a4_10 rfl rfl ?_
  refine z_ldcw w1197 dJ6_bitCount_0f7a4_11 ?_
  refine z_iand dJ6_bitCount_0f7a4_14 ?_
  refine z_iloadn dJ6_bitCount_0f7a4_15 rfl rfl ?_
  refine z_iconst (v := 2) dJ6_bitCount_0f7a4_16 (by decide) ?_
  refine z_iushr dJ6_bitCount_0f7a4_17 rfl ?_
  refine z_ldcw w1197 dJ6_bitCount_0f7a4_18 ?_
  refine z_iand dJ6_bitCount_0f7a4_21 ?_
  refine z_iadd dJ6_bitCount_0f7a4_22 ?_
  refine z_istoren (L' := [.int ((((x0 - ((zushr x0 1) &&& 1431655765)) &&& 858993459) + ((zushr (x0 - ((zushr x0 1) &&& 1431655765)) 2) &&& 858993459)))]) dJ6_bitCount_0f7a4_23 rfl (by decide) rfl ?_
  refine z_iloadn dJ6_bitCount_0f7a4_24 rfl rfl ?_
  refine z_iloadn dJ6_bitCount_0f7a4_25 rfl rfl ?_
  refine z_iconst (v := 4) dJ6_bitCount_0f7a4_26 (by decide) ?_
  refine z_iushr dJ6_bitCount_0f7a4_27 rfl ?_
  refine z_iadd dJ6_bitCount_0f7a4_28 ?_
  refine z_ldcw w1198 dJ6_bitCount_0f7a4_29 ?_
  refine z_iand dJ6_bitCount_0f7a4_32 ?_
  refine z_istoren (L' := [.int ((((((x0 - ((zushr x0 1) &&& 1431655765)) &&& 858993459) + ((zushr (x0 - ((zushr x0 1) &&& 1431655765)) 2) &&& 858993459)) + (zushr (((x0 - ((zushr x0 1) &&& 1431655765)) &&& 858993459) + ((zushr (x0 - ((zushr x0 1) &&& 1431655765)) 2) &&& 858993459)) 4)) &&& 252645135))]) dJ6_bitCount_0f7a4_33 rfl (by decide) rfl ?_
  refine z_iloadn dJ6_bitCount_0f7a4_34 rfl rfl ?_
  refine z_iloadn dJ6_bitCount_0f7a4_35 rfl rfl ?_
  refine z_bipush (v := 8) dJ6_bitCount_0f7a4_36 (by decide) ?_
  refine z_iushr dJ6_bitCount_0f7a4_38 rfl ?_
  refine z_iadd dJ6_bitCount_0f7a4_39 ?_
  refine z_istoren (L' := [.int (((((((x0 - ((zushr x0 1) &&& 1431655765)) &&& 858993459) + ((zushr (x0 - ((zushr x0 1) &&& 1431655765)) 2) &&& 858993459)) + (zushr (((x0 - ((zushr x0 1) &&& 1431655765)) &&& 858993459) + ((zushr (x0 - ((zushr x0 1) &&& 1431655765)) 2) &&& 858993459)) 4)) &&& 252645135) + (zushr (((((x0 - ((zushr x0 1) &&& 1431655765)) &&& 858993459) + ((zushr (x0 - ((zushr x0 1) &&& 1431655765)) 2) &&& 858993459)) + (zushr (((x0 - ((zushr x0 1) &&& 1431655765)) &&& 858993459) + ((zushr (x0 - ((zushr x0 1) &&& 1431655765)) 2) &&& 858993459)) 4)) &&& 252645135) 8)))]) dJ6_bitCount_0f7a4_40 rfl (by decide) rfl ?_
  refine z_iloadn dJ6_bitCount_0f7a4_41 rfl rfl ?_
  refine z_iloadn dJ6_bitCount_0f7a4_42 rfl rfl ?_
  refine z_bipush (v := 16) dJ6_bitCount_0f7a4_43 (by decide) ?_
  refine z_iushr dJ6_bitCount_0f7a4_45 rfl ?_
  refine z_iadd dJ6_bitCount_0f7a4_46 ?_
  refine z_istoren (L' := [.int ((((((((x0 - ((zushr x0 1) &&& 1431655765)) &&& 858993459) + ((zushr (x0 - ((zushr x0 1) &&& 1431655765)) 2) &&& 858993459)) + (zushr (((x0 - ((zushr x0 1) &&& 1431655765)) &&& 858993459) + ((zushr (x0 - ((zushr x0 1) &&& 1431655765)) 2) &&& 858993459)) 4)) &&& 252645135) + (zushr (((((x0 - ((zushr x0 1) &&& 1431655765)) &&& 858993459) + ((zushr (x0 - ((zushr x0 1) &&& 1431655765)) 2) &&& 858993459)) + (zushr (((x0 - ((zushr x0 1) &&& 1431655765)) &&& 858993459) + ((zushr (x0 - ((zushr x0 1) &&& 1431655765)) 2) &&& 858993459)) 4)) &&& 252645135) 8)) + (zushr ((((((x0 - ((zushr x0 1) &&& 1431655765)) &&& 858993459) + ((zushr (x0 - ((zushr x0 1) &&& 1431655765)) 2) &&& 858993459)) + (zushr (((x0 - ((zushr x0 1) &&& 1431655765)) &&& 858993459) + ((zushr (x0 - ((zushr x0 1) &&& 1431655765)) 2) &&& 858993459)) 4)) &&& 252645135) + (zushr (((((x0 - ((zushr x0 1) &&& 1431655765)) &&& 858993459) + ((zushr (x0 - ((zushr x0 1) &&& 1431655765)) 2) &&& 858993459)) + (zushr (((x0 - ((zushr x0 1) &&& 1431655765)) &&& 858993459) + ((zushr (x0 - ((zushr x0 1) &&& 1431655765)) 2) &&& 858993459)) 4)) &&& 252645135) 8)) 16)))]) dJ6_bitCount_0f7a4_47 rfl (by decide) rfl ?_
  refine z_iloadn dJ6_bitCount_0f7a4_48 rfl rfl ?_
  refine z_bipush (v := 63) dJ6_bitCount_0f7a4_49 (by decide) ?_
  refine z_iand dJ6_bitCount_0f7a4_51 ?_
  exact z_ret (v := some (.int (((((((((x0 - ((zushr x0 1) &&& 1431655765)) &&& 858993459) + ((zushr (x0 - ((zushr x0 1) &&& 1431655765)) 2) &&& 858993459)) + (zushr (((x0 - ((zushr x0 1) &&& 1431655765)) &&& 858993459) + ((zushr (x0 - ((zushr x0 1) &&& 1431655765)) 2) &&& 858993459)) 4)) &&& 252645135) + (zushr (((((x0 - ((zushr x0 1) &&& 1431655765)) &&& 858993459) + ((zushr (x0 - ((zushr x0 1) &&& 1431655765)) 2) &&& 858993459)) + (zushr (((x0 - ((zushr x0 1) &&& 1431655765)) &&& 858993459) + ((zushr (x0 - ((zushr x0 1) &&& 1431655765)) 2) &&& 858993459)) 4)) &&& 252645135) 8)) + (zushr ((((((x0 - ((zushr x0 1) &&& 1431655765)) &&& 858993459) + ((zushr (x0 - ((zushr x0 1) &&& 1431655765)) 2) &&& 858993459)) + (zushr (((x0 - ((zushr x0 1) &&& 1431655765)) &&& 858993459) + ((zushr (x0 - ((zushr x0 1) &&& 1431655765)) 2) &&& 858993459)) 4)) &&& 252645135) + (zushr (((((x0 - ((zushr x0 1) &&& 1431655765)) &&& 858993459) + ((zushr (x0 - ((zushr x0 1) &&& 1431655765)) 2) &&& 858993459)) + (zushr (((x0 - ((zushr x0 1) &&& 1431655765)) &&& 858993459) + ((zushr (x0 - ((zushr x0 1) &&& 1431655765)) 2) &&& 858993459)) 4)) &&& 252645135) 8)) 16)) &&& 63)))) dJ6_bitCount_0f7a4_52 ⟨_, rfl, rfl⟩ rfl hw

theorem kJ6_bitCount_0f7a4 {l : Launch} {G : zG} {d : Nat} {Q : Option Value → zH → Prop} {k n : Nat} {h : zH} (x0 : Int32) (hz : Z l G mJ6_bitCount_0f7a4 d Q k n 0 [.int x0] [] h) : CT l G YJ6_bitCount_0f7a4 d k n [.int x0] h Q :=
  CT.of (by decide +kernel) (fun t e => by have e2 : ((some .int) : Option FieldType) = some t := e; cases e2; exact ⟨by decide, by decide⟩) (by exact Nat.le_of_ble_eq_true rfl) (by exact hz)

theorem sJ7_fill_53178_0 {l : Launch} {G : zG} {d : Nat} {Q : Option Value → zH → Prop} {k n : Nat} {h : zH} (r0 : Option Nat) (x1 : Int32)  (hd9 : 1 ≤ d)
    (hw : (∃ b4 N1, r0 = some b4 ∧ zAr h b4 N1 ∧ Z l G mJ7_fill_53178 d Q k n 5 [va_rf r0, .int x1, .int 0, .int (Int32.ofNat N1)] [] h)) :
    Z l G mJ7_fill_53178 d Q k n 0 [va_rf r0, .int x1, zU, zU] [] h := by
  refine z_iconst (v := 0) dJ7_fill_53178_0 (by decide) ?_
  refine z_istoren (L' := [va_rf r0, .int x1, .int 0, zU]) dJ7_fill_53178_1 rfl (by decide) rfl ?_
  refine z_aloadn dJ7_fill_53178_2 rfl rfl ?_
  obtain ⟨b4, N1, q5, qa2, hw3⟩ := hw
  refine z_soP [] q5 ?_
  refine z_alen (N := N1) dJ7_fill_53178_3 qa2 rfl ?_
  refine z_istoren (L' := [va_rf r0, .int x1, .int 0, .int (Int32.ofNat N1)]) dJ7_fill_53178_4 rfl (by decide) rfl ?_
  exact hw3

theorem sJ7_fill_53178_5 {l : Launch} {G : zG} {d : Nat} {Q : Option Value → zH → Prop} {k n : Nat} {h : zH} (r0 : Option Nat) (x1 : Int32) (x2 : Int32) (x3 : Int32)  (hd9 : 1 ≤ d)
    (hw : ((x3.toInt ≤ x2.toInt → Q none h) ∧ (x2.toInt < x3.toInt → (∃ b13 N9, r0 = some b13 ∧ zAw h b13 N9 ∧ 0 ≤ x2.toInt ∧ x2.toInt < ((N9 : Nat) : Int) ∧ (∀ I6 : Nat → Nat → Int32, I6 = (zwI h b13 (zix x2) x1).1 → Z l G mJ7_fill_53178 d Q k n 5 [va_rf r0, .int x1, .int ((x2 + 1)), .int x3] [] (I6, h.2)))))) :
    Z l G mJ7_fill_53178 d Q k n 5 [va_rf r0, .int x1, .int x2, .int x3] [] h := by
  refine z_iloadn dJ7_fill_53178_5 rfl rfl ?_
  refine z_iloadn dJ7_fill_53178_6 rfl rfl ?_
  refine z_icmp_ge (t := 20) dJ7_fill_53178_7 (by decide) (fun c1 => ?_) (fun c2 => ?_)
  · have hw3 := hw.1 c1
    exact z_ret (v := none) dJ7_fill_53178_20 rfl rfl hw3
  · have hw4 := hw.2 c2
    refine z_aloadn dJ7_fill_53178_10 rfl rfl ?_
    refine z_iloadn dJ7_fill_53178_11 rfl rfl ?_
    refine z_iloadn dJ7_fill_53178_12 rfl rfl ?_
    obtain ⟨b13, N9, q14, qa10, qz11, qy12, hw5⟩ := hw4
    refine z_soP [.int x1, .int x2] q14 ?_
    refine z_iast (N := N9) dJ7_fill_53178_13 qa10 qz11 qy12 ?_
    refine z_nm (r := h.2) rfl (fun I6 e7 => ?_)
    have hw8 := hw5 I6 e7
    refine z_iinc (v := (x2 + 1)) (L' := [va_rf r0, .int x1, .int ((x2 + 1)), .int x3]) dJ7_fill_53178_14 (by decide) rfl rfl rfl ?_
    refine z_goto (t := 5) dJ7_fill_53178_17 (by decide) ?_
    exact hw8

theorem kJ7_fill_53178 {l : Launch} {G : zG} {d : Nat} {Q : Option Value → zH → Prop} {k n : Nat} {h : zH} (r0 : Option Nat) (x1 : Int32) (hz : Z l G mJ7_fill_53178 d Q k n 0 [va_rf r0, .int x1, zU, zU] [] h) : CT l G YJ7_fill_53178 d k n [va_rf r0, .int x1] h Q :=
  CT.of (by decide +kernel) (fun t e => by cases e) (by cases r0 <;> exact Nat.le_of_ble_eq_true rfl) (by cases r0 <;> exact hz)
