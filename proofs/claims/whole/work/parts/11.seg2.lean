set_option maxRecDepth 4000
theorem sX11_isPerson_0 {l : Launch} {G : zG} {d : Nat} {Q : Option Value → zH → Prop} {k n : Nat} {h : zH} (a : Nat) (x1 : Int32) (ha : lo11 h a) (hd9 : 3 ≤ d)
    (hw : ((zofk h a 3) ∧ Q (some (.int (zb (zin3 x1 (0 : Int32) ((zof h a 3) - 1))))) h)) :
    Z l G mX11_isPerson d Q k n 0 [va_rf (some a), .int x1] [] h := by
  refine z_iloadn dX11_isPerson_0 rfl rfl ?_
  refine z_iconst (v := 0) dX11_isPerson_1 (by decide) ?_
  refine z_aloadn dX11_isPerson_2 rfl rfl ?_
  have hw1 := hw.2
  refine z_callV (h := h) (S := [.int 0, .int x1]) (a := a) (M := mX11_isPerson) (As := []) zc11 rfl eX11_people w1748 w123 (Or.inl w1746) dX11_isPerson_3 (ha.k 0 rfl) (ha.lt 0 rfl) rfl (by omega) (Nat.le_of_ble_eq_true rfl) (c_X11_people l G h a ha hw.1) (fun v2 g3 q4 => ?_)
  obtain ⟨rfl, q4⟩ := q4
  replace q4 := q4.symm
  subst q4
  show Z l G _ d Q k n 6 _ (.int (zof h a 3) :: .int 0 :: .int x1 :: []) _
  refine z_iconst (v := 1) dX11_isPerson_6 (by decide) ?_
  refine z_isub dX11_isPerson_7 ?_
  refine z_callS (h := h) (S := []) (M := mX11_isPerson) (As := [.int x1, .int 0, .int (((zof h a 3) - 1))]) eX11_isIn w1623 (Or.inl w1622) dX11_isPerson_8 rfl (by omega) (Nat.le_of_ble_eq_true rfl) (c_X11_isIn l G h x1 (0 : Int32) ((zof h a 3) - 1)) (fun v5 g6 q7 => ?_)
  obtain ⟨rfl, q7⟩ := q7
  replace q7 := q7.symm
  subst q7
  show Z l G _ d Q k n 11 _ (.int (zb (zin3 x1 (0 : Int32) ((zof h a 3) - 1))) :: []) _
  exact z_ret (v := some (.int (zb (zin3 x1 (0 : Int32) ((zof h a 3) - 1))))) dX11_isPerson_11 (zb_fit _) rfl hw1

theorem kX11_isPerson {l : Launch} {G : zG} {d : Nat} {Q : Option Value → zH → Prop} {k n : Nat} {h : zH} (a : Nat) (x1 : Int32) (hz : Z l G mX11_isPerson d Q k n 0 [va_rf (some a), .int x1] [] h) : CT l G YX11_isPerson d k n [va_rf (some a), .int x1] h Q :=
  CT.of (by decide +kernel) (fun t e => by have e2 : ((some .boolean) : Option FieldType) = some t := e; cases e2; exact ⟨by decide, by decide⟩) (by exact Nat.le_of_ble_eq_true rfl) (by exact hz)

theorem sX11_isCell_0 {l : Launch} {G : zG} {d : Nat} {Q : Option Value → zH → Prop} {k n : Nat} {h : zH} (a : Nat) (x1 : Int32) (ha : lo11 h a) (hd9 : 3 ≤ d)
    (hw : ((zofk h a 0 ∧ zofk h a 1) ∧ Q (some (.int (zb (zin3 x1 (0 : Int32) ((zcel h a) - 1))))) h)) :
    Z l G mX11_isCell d Q k n 0 [va_rf (some a), .int x1] [] h := by
  refine z_iloadn dX11_isCell_0 rfl rfl ?_
  refine z_iconst (v := 0) dX11_isCell_1 (by decide) ?_
  refine z_aloadn dX11_isCell_2 rfl rfl ?_
  have hw1 := hw.2
  refine z_callV (h := h) (S := [.int 0, .int x1]) (a := a) (M := mX11_isCell) (As := []) zc11 rfl eX11_cells w1828 w140 (Or.inl w1826) dX11_isCell_3 (ha.k 0 rfl) (ha.lt 0 rfl) rfl (by omega) (Nat.le_of_ble_eq_true rfl) (c_X11_cells l G h a ha hw.1) (fun v2 g3 q4 => ?_)
  obtain ⟨rfl, q4⟩ := q4
  replace q4 := q4.symm
  subst q4
  show Z l G _ d Q k n 6 _ (.int (zcel h a) :: .int 0 :: .int x1 :: []) _
  refine z_iconst (v := 1) dX11_isCell_6 (by decide) ?_
  refine z_isub dX11_isCell_7 ?_
  refine z_callS (h := h) (S := []) (M := mX11_isCell) (As := [.int x1, .int 0, .int (((zcel h a) - 1))]) eX11_isIn w1623 (Or.inl w1622) dX11_isCell_8 rfl (by omega) (Nat.le_of_ble_eq_true rfl) (c_X11_isIn l G h x1 (0 : Int32) ((zcel h a) - 1)) (fun v5 g6 q7 => ?_)
  obtain ⟨rfl, q7⟩ := q7
  replace q7 := q7.symm
  subst q7
  show Z l G _ d Q k n 11 _ (.int (zb (zin3 x1 (0 : Int32) ((zcel h a) - 1))) :: []) _
  exact z_ret (v := some (.int (zb (zin3 x1 (0 : Int32) ((zcel h a) - 1))))) dX11_isCell_11 (zb_fit _) rfl hw1

theorem kX11_isCell {l : Launch} {G : zG} {d : Nat} {Q : Option Value → zH → Prop} {k n : Nat} {h : zH} (a : Nat) (x1 : Int32) (hz : Z l G mX11_isCell d Q k n 0 [va_rf (some a), .int x1] [] h) : CT l G YX11_isCell d k n [va_rf (some a), .int x1] h Q :=
  CT.of (by decide +kernel) (fun t e => by have e2 : ((some .boolean) : Option FieldType) = some t := e; cases e2; exact ⟨by decide, by decide⟩) (by exact Nat.le_of_ble_eq_true rfl) (by exact hz)

theorem sX11_isCarried_0 {l : Launch} {G : zG} {d : Nat} {Q : Option Value → zH → Prop} {k n : Nat} {h : zH} (a : Nat) (x1 : Int32) (ha : lo11 h a) (hd9 : 3 ≤ d)
    (hw : ((ztok h a x1 5) ∧ (((if x1 = zI h a 18 then zI h a 19 else ztold h a x1 5) = (-1) → Q (some (.int 0)) h) ∧ (¬ (if x1 = zI h a 18 then zI h a 19 else ztold h a x1 5) = (-1) → Q (some (.int 1)) h)))) :
    Z l G mX11_isCarried d Q k n 0 [va_rf (some a), .int x1] [] h := by
  refine z_aloadn dX11_isCarried_0 rfl rfl ?_
  refine z_iloadn dX11_isCarried_1 rfl rfl ?_
  have hw1 := hw.2
  refine z_callV (h := h) (S := []) (a := a) (M := mX11_isCarried) (As := [.int x1]) zc11 rfl eX11_carrierOf w1764 w127 (Or.inl w1762) dX11_isCarried_2 (ha.k 0 rfl) (ha.lt 0 rfl) rfl (by omega) (Nat.le_of_ble_eq_true rfl) (c_X11_carrierOf l G h a x1 ha hw.1) (fun v2 g3 q4 => ?_)
  obtain ⟨rfl, q4⟩ := q4
  replace q4 := q4.symm
  subst q4
  show Z l G _ d Q k n 5 _ (.int ((if x1 = zI h a 18 then zI h a 19 else ztold h a x1 5)) :: []) _
  refine z_iconst (v := (-1)) dX11_isCarried_5 (by decide) ?_
  refine z_icmp_eq (t := 13) dX11_isCarried_6 (by decide) (fun c5 => ?_) (fun c6 => ?_)
  · have hw7 := hw1.1 c5
    refine z_iconst (v := 0) dX11_isCarried_13 (by decide) ?_
    exact z_ret (v := some (.int 0)) dX11_isCarried_14 ⟨_, rfl, by decide⟩ rfl hw7
  · have hw8 := hw1.2 c6
    refine z_iconst (v := 1) dX11_isCarried_9 (by decide) ?_
    refine z_goto (t := 14) dX11_isCarried_10 (by decide) ?_
    exact z_ret (v := some (.int 1)) dX11_isCarried_14 ⟨_, rfl, by decide⟩ rfl hw8

theorem kX11_isCarried {l : Launch} {G : zG} {d : Nat} {Q : Option Value → zH → Prop} {k n : Nat} {h : zH} (a : Nat) (x1 : Int32) (hz : Z l G mX11_isCarried d Q k n 0 [va_rf (some a), .int x1] [] h) : CT l G YX11_isCarried d k n [va_rf (some a), .int x1] h Q :=
  CT.of (by decide +kernel) (fun t e => by have e2 : ((some .boolean) : Option FieldType) = some t := e; cases e2; exact ⟨by decide, by decide⟩) (by exact Nat.le_of_ble_eq_true rfl) (by exact hz)
