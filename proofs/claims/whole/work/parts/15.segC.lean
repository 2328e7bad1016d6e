set_option maxRecDepth 4000
theorem sX7_begin_0 {l : Launch} {G : zG} {d : Nat} {Q : Option Value → zH → Prop} {k n : Nat} {h : zH} (a : Nat) (a1 : Nat) (r2 : Option Nat) (ha : lo7 h a) (ha1 : lo1 h a1) (hd9 : 3 ≤ d)
    (hw : (∀ g1 : zH, g1 = zwR h a 3 (some a1) → lo7 g1 a ∧ lo1 g1 a1 ∧ (∀ I8 : Nat → Nat → Int32, I8 = (zwI g1 a 4 (0 : Int32)).1 → (∀ I11 : Nat → Nat → Int32, I11 = (zwI (I8, g1.2) a 0 (-1 : Int32)).1 → (∀ I14 : Nat → Nat → Int32, I14 = (zwI (I11, g1.2) a 1 (0 : Int32)).1 → (∃ P20, CTv l G YX10_copy 2 [va_rf r2, va_rf (zgrd a (0 : Int32))] (I14, g1.2) P20 ∧ ∀ (I23 : Nat → Nat → Int32), P20 I23 → Q none (I23, g1.2))))))) :
    Z l G mX7_begin d Q k n 0 [va_rf (some a), va_rf (some a1), va_rf r2] [] h := by
  refine z_aloadn dX7_begin_0 rfl rfl ?_
  refine z_aloadn dX7_begin_1 rfl rfl ?_
  refine z_putR (j := 3) zc7 dX7_begin_2 (ha.k 0 rfl) (ha.lt 0 rfl) (by decide) rfl rfl (Or.inl w623) ?_
  refine z_nmG (fun g1 e2 => ?_)
  have hw3 := hw g1 e2
  obtain ⟨ho4, hw6⟩ := hw3
  obtain ⟨ho5, hw7⟩ := hw6
  refine z_aloadn dX7_begin_5 rfl rfl ?_
  refine z_iconst (v := 0) dX7_begin_6 (by decide) ?_
  refine z_putI (j := 4) zc7 dX7_begin_7 (ho4.k 0 rfl) (ho4.lt 0 rfl) (by decide) rfl rfl (Or.inl rfl) (Or.inl w624) ?_
  refine z_nm (r := g1.2) rfl (fun I8 e9 => ?_)
  have hw10 := hw7 I8 e9
  refine z_aloadn dX7_begin_10 rfl rfl ?_
  refine z_iconst (v := (-1)) dX7_begin_11 (by decide) ?_
  refine z_putI (j := 0) zc7 dX7_begin_12 (ho4.k 0 rfl) (ho4.lt 0 rfl) (by decide) rfl rfl (Or.inl rfl) (Or.inl w617) ?_
  refine z_nm (r := g1.2) rfl (fun I11 e12 => ?_)
  have hw13 := hw10 I11 e12
  refine z_aloadn dX7_begin_15 rfl rfl ?_
  refine z_iconst (v := 0) dX7_begin_16 (by decide) ?_
  refine z_putI (j := 1) zc7 dX7_begin_17 (ho4.k 0 rfl) (ho4.lt 0 rfl) (by decide) rfl rfl (Or.inl rfl) (Or.inl w619) ?_
  refine z_nm (r := g1.2) rfl (fun I14 e15 => ?_)
  have hw16 := hw13 I14 e15
  refine z_aloadn dX7_begin_20 rfl rfl ?_
  refine z_aloadn dX7_begin_21 rfl rfl ?_
  refine z_iconst (v := 0) dX7_begin_22 (by decide) ?_
  refine z_callV (h := (I14, g1.2)) (S := [va_rf r2]) (a := a) (M := mX7_begin) (As := [.int 0]) zc7 rfl eX7_groundAt w1344 w84 (Or.inl w1342) dX7_begin_23 (ho4.k 0 rfl) (ho4.lt 0 rfl) rfl (by omega) (Nat.le_of_ble_eq_true rfl) (c_X7_groundAt l G (I14, g1.2) a (0 : Int32) ho4) (fun v17 g18 q19 => ?_)
  obtain ⟨rfl, q19⟩ := q19
  replace q19 := q19.symm
  subst q19
  show Z l G _ d Q k n 26 _ (va_rf (zgrd a (0 : Int32)) :: va_rf r2 :: []) _
  obtain ⟨P20, ct21, hw22⟩ := hw16
  refine z_callS (h := (I14, g1.2)) (S := []) (M := mX7_begin) (As := [va_rf r2, va_rf (zgrd a (0 : Int32))]) eX10_copy w945 (Or.inr ⟨_, w1346⟩) dX7_begin_26 rfl (by omega) (Nat.le_of_ble_eq_true rfl) ct21 (fun v27 g28 q24 => ?_)
  obtain ⟨I23, rfl, rfl, q24⟩ := q24
  have hw26 := hw22 I23 q24
  show Z l G _ d Q k n 29 _ ([]) _
  exact z_ret (v := none) dX7_begin_29 rfl rfl hw26

theorem kX7_begin {l : Launch} {G : zG} {d : Nat} {Q : Option Value → zH → Prop} {k n : Nat} {h : zH} (a : Nat) (a1 : Nat) (r2 : Option Nat) (hz : Z l G mX7_begin d Q k n 0 [va_rf (some a), va_rf (some a1), va_rf r2] [] h) : CT l G YX7_begin d k n [va_rf (some a), va_rf (some a1), va_rf r2] h Q :=
  CT.of (by decide +kernel) (fun t e => by cases e) (by cases r2 <;> exact Nat.le_of_ble_eq_true rfl) (by cases r2 <;> exact hz)

theorem sX7_extend_0 {l : Launch} {G : zG} {d : Nat} {Q : Option Value → zH → Prop} {k n : Nat} {h : zH} (a : Nat) (x1 : Int32) (x2 : Int32) (x3 : Int32) (ha : lo7 h a) (hd9 : 7 ≤ d)
    (hw : ((zI h a 0 = (-1) → (∃ b5, zR h a 3 = some b5 ∧ lo1 h b5 ∧ (((zI h b5 4).toInt ≤ x1.toInt → (∀ I13 : Nat → Nat → Int32, I13 = (zwI h a 0 x2).1 → (∀ I16 : Nat → Nat → Int32, I16 = (zwI (I13, h.2) a 1 x3).1 → (∃ P19, CTv l G YX10_copy 2 [va_rf (some (a + 2)), va_rf (some (a + 1))] (I16, h.2) P19 ∧ ∀ (I22 : Nat → Nat → Int32), P19 I22 → Q none (I22, h.2))))) ∧ (x1.toInt < (zI h b5 4).toInt → ((x1.toInt < (5 : Int) → Z l G mX7_extend d Q k n 58 [va_rf (some a), .int x1, .int x2, .int x3, .int 0, zU] [] h) ∧ ((5 : Int) ≤ x1.toInt → (∀ I32 : Nat → Nat → Int32, I32 = (zwI h a 0 x2).1 → (∀ I35 : Nat → Nat → Int32, I35 = (zwI (I32, h.2) a 1 x3).1 → (∃ P38, CTv l G YX10_copy 2 [va_rf (some (a + 2)), va_rf (some (a + 1))] (I35, h.2) P38 ∧ ∀ (I41 : Nat → Nat → Int32), P38 I41 → Q none (I41, h.2)))))))))) ∧ (¬ zI h a 0 = (-1) → ((x2.toInt < (zI h a 0).toInt → (∃ b51, zR h a 3 = some b51 ∧ lo1 h b51 ∧ (((zI h b51 4).toInt ≤ x1.toInt → (∀ I59 : Nat → Nat → Int32, I59 = (zwI h a 0 x2).1 → (∀ I62 : Nat → Nat → Int32, I62 = (zwI (I59, h.2) a 1 x3).1 → (∃ P65, CTv l G YX10_copy 2 [va_rf (some (a + 2)), va_rf (some (a + 1))] (I62, h.2) P65 ∧ ∀ (I68 : Nat → Nat → Int32), P65 I68 → Q none (I68, h.2))))) ∧ (x1.toInt < (zI h b51 4).toInt → ((x1.toInt < (5 : Int) → Z l G mX7_extend d Q k n 58 [va_rf (some a), .int x1, .int x2, .int x3, .int 0, zU] [] h) ∧ ((5 : Int) ≤ x1.toInt → (∀ I78 : Nat → Nat → Int32, I78 = (zwI h a 0 x2).1 → (∀ I81 : Nat → Nat → Int32, I81 = (zwI (I78, h.2) a 1 x3).1 → (∃ P84, CTv l G YX10_copy 2 [va_rf (some (a + 2)), va_rf (some (a + 1))] (I81, h.2) P84 ∧ ∀ (I87 : Nat → Nat → Int32), P84 I87 → Q none (I87, h.2)))))))))) ∧ ((zI h a 0).toInt ≤ x2.toInt → Q none h))))) :
    Z l G mX7_extend d Q k n 0 [va_rf (some a), .int x1, .int x2, .int x3, zU, zU] [] h := by
  refine z_aloadn dX7_extend_0 rfl rfl ?_
  refine z_getI (j := 0) zc7 dX7_extend_1 (ha.k 0 rfl) (ha.lt 0 rfl) (by decide) rfl w617 ?_
  refine z_iconst (v := (-1)) dX7_extend_4 (by decide) ?_
  refine z_icmp_eq (t := 17) dX7_extend_5 (by decide) (fun c1 => ?_) (fun c2 => ?_)
  · have hw3 := hw.1 c1
    refine z_iloadn dX7_extend_17 rfl rfl ?_
    refine z_aloadn dX7_extend_18 rfl rfl ?_
    refine z_getRq (j := 3) zc7 dX7_extend_19 (ha.k 0 rfl) (ha.lt 0 rfl) (by decide) rfl w623 rfl ?_
    obtain ⟨b5, q6, ho7, hw8⟩ := hw3
    refine z_soP [] q6 ?_
    refine z_getIN (j := 4) zc1 dX7_extend_22 (ho7.k 0 rfl) (ho7.lt 0 rfl) (by decide) rfl w318 ?_
    refine z_icmp_ge (t := 33) dX7_extend_25 (by decide) (fun c9 => ?_) (fun c10 => ?_)
    · have hw11 := hw8.1 c9
      refine z_aloadn dX7_extend_33 rfl rfl ?_
      refine z_iloadn dX7_extend_34 rfl rfl ?_
      refine z_putI (j := 0) zc7 dX7_extend_35 (ha.k 0 rfl) (ha.lt 0 rfl) (by decide) rfl rfl (Or.inl rfl) (Or.inl w617) ?_
      refine z_nm (r := h.2) rfl (fun I13 e14 => ?_)
      have hw15 := hw11 I13 e14
      refine z_aloadn dX7_extend_38 rfl rfl ?_
      refine z_iloadn dX7_extend_39 rfl rfl ?_
      refine z_putI (j := 1) zc7 dX7_extend_40 (ha.k 0 rfl) (ha.lt 0 rfl) (by decide) rfl rfl (Or.inl rfl) (Or.inl w619) ?_
      refine z_nm (r := h.2) rfl (fun I16 e17 => ?_)
      have hw18 := hw15 I16 e17
      refine z_aloadn dX7_extend_43 rfl rfl ?_
      refine z_getRq (j := 5) zc7 dX7_extend_44 (ha.k 0 rfl) (ha.lt 0 rfl) (by decide) rfl w625 (ha.r 1 rfl) ?_
      refine z_aloadn dX7_extend_47 rfl rfl ?_
      refine z_getRq (j := 2) zc7 dX7_extend_48 (ha.k 0 rfl) (ha.lt 0 rfl) (by decide) rfl w621 (ha.r 0 rfl) ?_
      obtain ⟨P19, ct20, hw21⟩ := hw18
      refine z_callS (h := (I16, h.2)) (S := []) (M := mX7_extend) (As := [va_rf (some (a + 2)), va_rf (some (a + 1))]) eX10_copy w945 (Or.inr ⟨_, w1346⟩) dX7_extend_51 rfl (by omega) (Nat.le_of_ble_eq_true rfl) ct20 (fun v26 g27 q23 => ?_)
      obtain ⟨I22, rfl, rfl, q23⟩ := q23
      have hw25 := hw21 I22 q23
      show Z l G _ d Q k n 54 _ ([]) _
      exact z_ret (v := none) dX7_extend_54 rfl rfl hw25
    · have hw12 := hw8.2 c10
      refine z_iloadn dX7_extend_28 rfl rfl ?_
      refine z_iconst (v := 5) dX7_extend_29 (by decide) ?_
      refine z_icmp_lt (t := 55) dX7_extend_30 (by decide) (fun c28 => ?_) (fun c29 => ?_)
      · have hw30 := hw12.1 c28
        refine z_iconst (v := 0) dX7_extend_55 (by decide) ?_
        refine z_istore (L' := [va_rf (some a), .int x1, .int x2, .int x3, .int 0, zU]) dX7_extend_56 (by decide) rfl ?_
        exact hw30
      · have hw31 := hw12.2 c29
        refine z_aloadn dX7_extend_33 rfl rfl ?_
        refine z_iloadn dX7_extend_34 rfl rfl ?_
        refine z_putI (j := 0) zc7 dX7_extend_35 (ha.k 0 rfl) (ha.lt 0 rfl) (by decide) rfl rfl (Or.inl rfl) (Or.inl w617) ?_
        refine z_nm (r := h.2) rfl (fun I32 e33 => ?_)
        have hw34 := hw31 I32 e33
        refine z_aloadn dX7_extend_38 rfl rfl ?_
        refine z_iloadn dX7_extend_39 rfl rfl ?_
        refine z_putI (j := 1) zc7 dX7_extend_40 (ha.k 0 rfl) (ha.lt 0 rfl) (by decide) rfl rfl (Or.inl rfl) (Or.inl w619) ?_
        refine z_nm (r := h.2) rfl (fun I35 e36 => ?_)
        have hw37 := hw34 I35 e36
        refine z_aloadn dX7_extend_43 rfl rfl ?_
        refine z_getRq (j := 5) zc7 dX7_extend_44 (ha.k 0 rfl) (ha.lt 0 rfl) (by decide) rfl w625 (ha.r 1 rfl) ?_
        refine z_aloadn dX7_extend_47 rfl rfl ?_
        refine z_getRq (j := 2) zc7 dX7_extend_48 (ha.k 0 rfl) (ha.lt 0 rfl) (by decide) rfl w621 (ha.r 0 rfl) ?_
        obtain ⟨P38, ct39, hw40⟩ := hw37
        refine z_callS (h := (I35, h.2)) (S := []) (M := mX7_extend) (As := [va_rf (some (a + 2)), va_rf (some (a + 1))]) eX10_copy w945 (Or.inr ⟨_, w1346⟩) dX7_extend_51 rfl (by omega) (Nat.le_of_ble_eq_true rfl) ct39 (fun v45 g46 q42 => ?_)
        obtain ⟨I41, rfl, rfl, q42⟩ := q42
        have hw44 := hw40 I41 q42
        show Z l G _ d Q k n 54 _ ([]) _
        exact z_ret (v := none) dX7_extend_54 rfl rfl hw44
  · have hw4 := hw.2 c2
    refine z_iloadn dX7_extend_8 rfl rfl ?_
    refine z_aloadn dX7_extend_9 rfl rfl ?_
    refine z_getI (j := 0) zc7 dX7_extend_10 (ha.k 0 rfl) (ha.lt 0 rfl) (by decide) rfl w617 ?_
    refine z_icmp_lt (t := 17) dX7_extend_13 (by decide) (fun c47 => ?_) (fun c48 => ?_)
    · have hw49 := hw4.1 c47
      refine z_iloadn dX7_extend_17 rfl rfl ?_
      refine z_aloadn dX7_extend_18 rfl rfl ?_
      refine z_getRq (j := 3) zc7 dX7_extend_19 (ha.k 0 rfl) (ha.lt 0 rfl) (by decide) rfl w623 rfl ?_
      obtain ⟨b51, q52, ho53, hw54⟩ := hw49
      refine z_soP [] q52 ?_
      refine z_getIN (j := 4) zc1 dX7_extend_22 (ho53.k 0 rfl) (ho53.lt 0 rfl) (by decide) rfl w318 ?_
      refine z_icmp_ge (t := 33) dX7_extend_25 (by decide) (fun c55 => ?_) (fun c56 => ?_)
      · have hw57 := hw54.1 c55
        refine z_aloadn dX7_extend_33 rfl rfl ?_
        refine z_iloadn dX7_extend_34 rfl rfl ?_
        refine z_putI (j := 0) zc7 dX7_extend_35 (ha.k 0 rfl) (ha.lt 0 rfl) (by decide) rfl rfl (Or.inl rfl) (Or.inl w617) ?_
        refine z_nm (r := h.2) rfl (fun I59 e60 => ?_)
        have hw61 := hw57 I59 e60
        refine z_aloadn dX7_extend_38 rfl rfl ?_
        refine z_iloadn dX7_extend_39 rfl rfl ?_
        refine z_putI (j := 1) zc7 dX7_extend_40 (ha.k 0 rfl) (ha.lt 0 rfl) (by decide) rfl rfl (Or.inl rfl) (Or.inl w619) ?_
        refine z_nm (r := h.2) rfl (fun I62 e63 => ?_)
        have hw64 := hw61 I62 e63
        refine z_aloadn dX7_extend_43 rfl rfl ?_
        refine z_getRq (j := 5) zc7 dX7_extend_44 (ha.k 0 rfl) (ha.lt 0 rfl) (by decide) rfl w625 (ha.r 1 rfl) ?_
        refine z_aloadn dX7_extend_47 rfl rfl ?_
        refine z_getRq (j := 2) zc7 dX7_extend_48 (ha.k 0 rfl) (ha.lt 0 rfl) (by decide) rfl w621 (ha.r 0 rfl) ?_
        obtain ⟨P65, ct66, hw67⟩ := hw64
        refine z_callS (h := (I62, h.2)) (S := []) (M := mX7_extend) (As := [va_rf (some (a + 2)), va_rf (some (a + 1))]) eX10_copy w945 (Or.inr ⟨_, w1346⟩) dX7_extend_51 rfl (by omega) (Nat.le_of_ble_eq_true rfl) ct66 (fun v72 g73 q69 => ?_)
        obtain ⟨I68, rfl, rfl, q69⟩ := q69
        have hw71 := hw67 I68 q69
        show Z l G _ d Q k n 54 _ ([]) _
        exact z_ret (v := none) dX7_extend_54 rfl rfl hw71
      · have hw58 := hw54.2 c56
        refine z_iloadn dX7_extend_28 rfl rfl ?_
        refine z_iconst (v := 5) dX7_extend_29 (by decide) ?_
        refine z_icmp_lt (t := 55) dX7_extend_30 (by decide) (fun c74 => ?_) (fun c75 => ?_)
        · have hw76 := hw58.1 c74
          refine z_iconst (v := 0) dX7_extend_55 (by decide) ?_
          refine z_istore (L' := [va_rf (some a), .int x1, .int x2, .int x3, .int 0, zU]) dX7_extend_56 (by decide) rfl ?_
          exact hw76
        · have hw77 := hw58.2 c75
          refine z_aloadn dX7_extend_33 rfl rfl ?_
          refine z_iloadn dX7_extend_34 rfl rfl ?_
          refine z_putI (j := 0) zc7 dX7_extend_35 (ha.k 0 rfl) (ha.lt 0 rfl) (by decide) rfl rfl (Or.inl rfl) (Or.inl w617) ?_
          refine z_nm (r := h.2) rfl (fun I78 e79 => ?_)
          have hw80 := hw77 I78 e79
          refine z_aloadn dX7_extend_38 rfl rfl ?_
          refine z_iloadn dX7_extend_39 rfl rfl ?_
          refine z_putI (j := 1) zc7 dX7_extend_40 (ha.k 0 rfl) (ha.lt 0 rfl) (by decide) rfl rfl (Or.inl rfl) (Or.inl w619) ?_
          refine z_nm (r := h.2) rfl (fun I81 e82 => ?_)
          have hw83 := hw80 I81 e82
          refine z_aloadn dX7_extend_43 rfl rfl ?_
          refine z_getRq (j := 5) zc7 dX7_extend_44 (ha.k 0 rfl) (ha.lt 0 rfl) (by decide) rfl w625 (ha.r 1 rfl) ?_
          refine z_aloadn dX7_extend_47 rfl rfl ?_
          refine z_getRq (j := 2) zc7 dX7_extend_48 (ha.k 0 rfl) (ha.lt 0 rfl) (by decide) rfl w621 (ha.r 0 rfl) ?_
          obtain ⟨P84, ct85, hw86⟩ := hw83
          refine z_callS (h := (I81, h.2)) (S := []) (M := mX7_extend) (As := [va_rf (some (a + 2)), va_rf (some (a + 1))]) eX10_copy w945 (Or.inr ⟨_, w1346⟩) dX7_extend_51 rfl (by omega) (Nat.le_of_ble_eq_true rfl) ct85 (fun v91 g92 q88 => ?_)
          obtain ⟨I87, rfl, rfl, q88⟩ := q88
          have hw90 := hw86 I87 q88
          show Z l G _ d Q k n 54 _ ([]) _
          exact z_ret (v := none) dX7_extend_54 rfl rfl hw90
    · have hw50 := hw4.2 c48
      exact z_ret (v := none) dX7_extend_16 rfl rfl hw50

theorem sX7_extend_58 {l : Launch} {G : zG} {d : Nat} {Q : Option Value → zH → Prop} {k n : Nat} {h : zH} (a : Nat) (x1 : Int32) (x2 : Int32) (x3 : Int32) (x4 : Int32) (u5 : Value) (ha : lo7 h a) (hd9 : 7 ≤ d)
    (hw : (∃ b1, zR h a 3 = some b1 ∧ lo1 h b1 ∧ (((zI h b1 4).toInt ≤ x4.toInt → Q none h) ∧ (x4.toInt < (zI h b1 4).toInt → ((¬ (((zI h a 4) >>> (x4 &&& 31)) &&& 1) = 0 → Z l G mX7_extend d Q k n 58 [va_rf (some a), .int x1, .int x2, .int x3, .int ((x4 + 1)), u5] [] h) ∧ ((((zI h a 4) >>> (x4 &&& 31)) &&& 1) = 0 → (∃ P25, CTvG l G YX9_seek 6 [va_rf (some (a + 10)), va_rf (some b1), va_rf (zgrd a x1), .int (zget h (some (b1 + 2)) x4), .int (zget h (some (b1 + 3)) x4), .int (zget h (some (b1 + 4)) x4)] h P25 ∧ ∀ (g33 : zH), P25 g33 → lo7 g33 a ∧ ((¬ zI g33 (a + 10) 0 = (-1) → (∃ P43, CTv l G YX9_tread 3 [va_rf (some (a + 10)), va_rf (zgrd a (x1 + 1))] g33 P43 ∧ ∀ (I46 : Nat → Nat → Int32), P43 I46 → (∀ I52 : Nat → Nat → Int32, I52 = (zwI (I46, g33.2) a 4 ((zI (I46, g33.2) a 4) ||| ((1 : Int32) <<< (x4 &&& 31)))).1 → (∀ I58 : Nat → Nat → Int32, I58 = (zput (I52, g33.2) (some (a + 2)) x1 x4).1 → (∃ P61 d68, d68 + 1 ≤ d ∧ CTvG l G YX7_extend d68 [va_rf (some a), .int ((x1 + 1)), .int ((x2 + (zI (I58, g33.2) (a + 10) 0))), .int ((x3 + (zI (I58, g33.2) (a + 10) 1)))] (I58, g33.2) P61 ∧ ∀ (g71 : zH), P61 g71 → lo7 g71 a ∧ (∀ I74 : Nat → Nat → Int32, I74 = (zwI g71 a 4 ((zI g71 a 4) &&& (((1 : Int32) <<< (x4 &&& 31)) ^^^ (-1)))).1 → Z l G mX7_extend d Q k n 58 [va_rf (some a), .int x1, .int x2, .int x3, .int ((x4 + 1)), .int (zget h (some (b1 + 2)) x4)] [] (I74, g71.2))))))) ∧ (zI g33 (a + 10) 0 = (-1) → Q none g33))))))))) :
    Z l G mX7_extend d Q k n 58 [va_rf (some a), .int x1, .int x2, .int x3, .int x4, u5] [] h := by
  refine z_iload dX7_extend_58 rfl ?_
  refine z_aloadn dX7_extend_60 rfl rfl ?_
  refine z_getRq (j := 3) zc7 dX7_extend_61 (ha.k 0 rfl) (ha.lt 0 rfl) (by decide) rfl w623 rfl ?_
  obtain ⟨b1, q2, ho3, hw4⟩ := hw
  refine z_soP [] q2 ?_
  refine z_getIN (j := 4) zc1 dX7_extend_64 (ho3.k 0 rfl) (ho3.lt 0 rfl) (by decide) rfl w318 ?_
  refine z_icmp_ge (t := 233) dX7_extend_67 (by decide) (fun c5 => ?_) (fun c6 => ?_)
  · have hw7 := hw4.1 c5
    exact z_ret (v := none) dX7_extend_233 rfl rfl hw7
  · have hw8 := hw4.2 c6
    refine z_aloadn dX7_extend_70 rfl rfl ?_
    refine z_getI (j := 4) zc7 dX7_extend_71 (ha.k 0 rfl) (ha.lt 0 rfl) (by decide) rfl w624 ?_
    refine z_iload dX7_extend_74 rfl ?_
    refine z_ishr dX7_extend_76 ?_
    refine z_iconst (v := 1) dX7_extend_77 (by decide) ?_
    refine z_iand dX7_extend_78 ?_
    refine z_if_ne (t := 227) dX7_extend_79 (by decide) (fun c9 => ?_) (fun c10 => ?_)
    · have hw11 := hw8.1 c9
      refine z_iinc (v := (x4 + 1)) (L' := [va_rf (some a), .int x1, .int x2, .int x3, .int ((x4 + 1)), u5]) dX7_extend_227 (by decide) rfl rfl rfl ?_
      refine z_goto (t := 58) dX7_extend_230 (by decide) ?_
      exact hw11
    · have hw12 := hw8.2 c10
      refine z_aloadn dX7_extend_82 rfl rfl ?_
      refine z_getRq (j := 3) zc7 dX7_extend_83 (ha.k 0 rfl) (ha.lt 0 rfl) (by decide) rfl w623 rfl ?_
      refine z_soP [] q2 ?_
      refine z_getRNq (j := 6) zc1 dX7_extend_86 (ho3.k 0 rfl) (ho3.lt 0 rfl) (by decide) rfl w323 (ho3.r 1 rfl) ?_
      refine z_iload dX7_extend_89 rfl ?_
      refine z_callS (h := h) (S := []) (M := mX7_extend) (As := [va_rf (some (b1 + 2)), .int x4]) eX10_get w778 (Or.inr ⟨_, w1351⟩) dX7_extend_91 rfl (by omega) (Nat.le_of_ble_eq_true rfl) (c_X10_get l G h (some (b1 + 2)) x4 (zgok_lo (ho3.w 2 rfl) (by decide))) (fun v13 g14 q15 => ?_)
      obtain ⟨rfl, q15⟩ := q15
      replace q15 := q15.symm
      subst q15
      show Z l G _ d Q k n 94 _ (.int (zget h (some (b1 + 2)) x4) :: []) _
      refine z_istore (L' := [va_rf (some a), .int x1, .int x2, .int x3, .int x4, .int (zget h (some (b1 + 2)) x4)]) dX7_extend_94 (by decide) rfl ?_
      refine z_aloadn dX7_extend_96 rfl rfl ?_
      refine z_getRq (j := 7) zc7 dX7_extend_97 (ha.k 0 rfl) (ha.lt 0 rfl) (by decide) rfl w627 (ha.r 12 rfl) ?_
      refine z_aloadn dX7_extend_100 rfl rfl ?_
      refine z_getRq (j := 3) zc7 dX7_extend_101 (ha.k 0 rfl) (ha.lt 0 rfl) (by decide) rfl w623 rfl ?_
      refine z_aloadn dX7_extend_104 rfl rfl ?_
      refine z_iloadn dX7_extend_105 rfl rfl ?_
      refine z_callV (h := h) (S := [va_rf (zR h a 3), va_rf (some (a + 10))]) (a := a) (M := mX7_extend) (As := [.int x1]) zc7 rfl eX7_groundAt w1344 w84 (Or.inl w1342) dX7_extend_106 (ha.k 0 rfl) (ha.lt 0 rfl) rfl (by omega) (Nat.le_of_ble_eq_true rfl) (c_X7_groundAt l G h a x1 ha) (fun v16 g17 q18 => ?_)
      obtain ⟨rfl, q18⟩ := q18
      replace q18 := q18.symm
      subst q18
      show Z l G _ d Q k n 109 _ (va_rf (zgrd a x1) :: va_rf (zR h a 3) :: va_rf (some (a + 10)) :: []) _
      refine z_iload dX7_extend_109 rfl ?_
      refine z_aloadn dX7_extend_111 rfl rfl ?_
      refine z_getRq (j := 3) zc7 dX7_extend_112 (ha.k 0 rfl) (ha.lt 0 rfl) (by decide) rfl w623 rfl ?_
      refine z_soP [] q2 ?_
      refine z_getRNq (j := 7) zc1 dX7_extend_115 (ho3.k 0 rfl) (ho3.lt 0 rfl) (by decide) rfl w326 (ho3.r 2 rfl) ?_
      refine z_iload dX7_extend_118 rfl ?_
      refine z_callS (h := h) (S := [.int (zget h (some (b1 + 2)) x4), va_rf (zgrd a x1), va_rf (zR h a 3), va_rf (some (a + 10))]) (M := mX7_extend) (As := [va_rf (some (b1 + 3)), .int x4]) eX10_get w778 (Or.inr ⟨_, w1351⟩) dX7_extend_120 rfl (by omega) (Nat.le_of_ble_eq_true rfl) (c_X10_get l G h (some (b1 + 3)) x4 (zgok_lo (ho3.w 3 rfl) (by decide))) (fun v19 g20 q21 => ?_)
      obtain ⟨rfl, q21⟩ := q21
      replace q21 := q21.symm
      subst q21
      show Z l G _ d Q k n 123 _ (.int (zget h (some (b1 + 3)) x4) :: .int (zget h (some (b1 + 2)) x4) :: va_rf (zgrd a x1) :: va_rf (zR h a 3) :: va_rf (some (a + 10)) :: []) _
      refine z_aloadn dX7_extend_123 rfl rfl ?_
      refine z_getRq (j := 3) zc7 dX7_extend_124 (ha.k 0 rfl) (ha.lt 0 rfl) (by decide) rfl w623 rfl ?_
      refine z_soP [] q2 ?_
      refine z_getRNq (j := 8) zc1 dX7_extend_127 (ho3.k 0 rfl) (ho3.lt 0 rfl) (by decide) rfl w329 (ho3.r 3 rfl) ?_
      refine z_iload dX7_extend_130 rfl ?_
      refine z_callS8 (h := h) (S := [.int (zget h (some (b1 + 3)) x4), .int (zget h (some (b1 + 2)) x4), va_rf (zgrd a x1), va_rf (zR h a 3), va_rf (some (a + 10))]) (M := mX7_extend) (As := [va_rf (some (b1 + 4)), .int x4]) eX10_get w778 (Or.inr ⟨_, w1351⟩) dX7_extend_132 rfl (by omega) ⟨Nat.le_of_ble_eq_true rfl, ⟨rfl, ⟨rfl, ⟨va_cat _, ⟨va_cat _, ⟨rfl, trivial⟩⟩⟩⟩⟩⟩ (c_X10_get l G h (some (b1 + 4)) x4 (zgok_lo (ho3.w 4 rfl) (by decide))) (fun v22 g23 q24 => ?_)
      obtain ⟨rfl, q24⟩ := q24
      replace q24 := q24.symm
      subst q24
      show Z l G _ d Q k n 135 _ (.int (zget h (some (b1 + 4)) x4) :: .int (zget h (some (b1 + 3)) x4) :: .int (zget h (some (b1 + 2)) x4) :: va_rf (zgrd a x1) :: va_rf (zR h a 3) :: va_rf (some (a + 10)) :: []) _
      refine z_soP [.int (zget h (some (b1 + 4)) x4), .int (zget h (some (b1 + 3)) x4), .int (zget h (some (b1 + 2)) x4), va_rf (zgrd a x1)] q2 ?_
      obtain ⟨P25, ct26, hw27⟩ := hw12
      refine z_callV (h := h) (S := []) (a := (a + 10)) (M := mX7_extend) (As := [va_rf (some b1), va_rf (zgrd a x1), .int (zget h (some (b1 + 2)) x4), .int (zget h (some (b1 + 3)) x4), .int (zget h (some (b1 + 4)) x4)]) zc9 rfl eX9_seek w1288 w73 (Or.inr ⟨_, w1352⟩) dX7_extend_135 (ha.k 10 rfl) (ha.lt 10 rfl) rfl (by omega) (Nat.le_of_ble_eq_true rfl) ct26 (fun v32 g33 q29 => ?_)
      obtain ⟨rfl, q29⟩ := q29
      have hw31 := hw27 g33 q29
      obtain ⟨ho34, hw35⟩ := hw31
      show Z l G _ d Q k n 138 _ ([]) _
      refine z_aloadn dX7_extend_138 rfl rfl ?_
      refine z_getRq (j := 7) zc7 dX7_extend_139 (ho34.k 0 rfl) (ho34.lt 0 rfl) (by decide) rfl w627 (ho34.r 12 rfl) ?_
      refine z_getIN (j := 0) zc9 dX7_extend_142 (ho34.k 10 rfl) (ho34.lt 10 rfl) (by decide) rfl w542 ?_
      refine z_iconst (v := (-1)) dX7_extend_145 (by decide) ?_
      refine z_icmp_ne (t := 150) dX7_extend_146 (by decide) (fun c36 => ?_) (fun c37 => ?_)
      · have hw38 := hw35.1 c36
        refine z_aloadn dX7_extend_150 rfl rfl ?_
        refine z_getRq (j := 7) zc7 dX7_extend_151 (ho34.k 0 rfl) (ho34.lt 0 rfl) (by decide) rfl w627 (ho34.r 12 rfl) ?_
        refine z_aloadn dX7_extend_154 rfl rfl ?_
        refine z_iloadn dX7_extend_155 rfl rfl ?_
        refine z_iconst (v := 1) dX7_extend_156 (by decide) ?_
        refine z_iadd dX7_extend_157 ?_
        refine z_callV (h := g33) (S := [va_rf (some (a + 10))]) (a := a) (M := mX7_extend) (As := [.int ((x1 + 1))]) zc7 rfl eX7_groundAt w1344 w84 (Or.inl w1342) dX7_extend_158 (ho34.k 0 rfl) (ho34.lt 0 rfl) rfl (by omega) (Nat.le_of_ble_eq_true rfl) (c_X7_groundAt l G g33 a (x1 + 1) ho34) (fun v40 g41 q42 => ?_)
        obtain ⟨rfl, q42⟩ := q42
        replace q42 := q42.symm
        subst q42
        show Z l G _ d Q k n 161 _ (va_rf (zgrd a (x1 + 1)) :: va_rf (some (a + 10)) :: []) _
        obtain ⟨P43, ct44, hw45⟩ := hw38
        refine z_callV (h := g33) (S := []) (a := (a + 10)) (M := mX7_extend) (As := [va_rf (zgrd a (x1 + 1))]) zc9 rfl eX9_tread w1355 w86 (Or.inr ⟨_, w1353⟩) dX7_extend_161 (ho34.k 10 rfl) (ho34.lt 10 rfl) rfl (by omega) (Nat.le_of_ble_eq_true rfl) ct44 (fun v50 g51 q47 => ?_)
        obtain ⟨I46, rfl, rfl, q47⟩ := q47
        have hw49 := hw45 I46 q47
        show Z l G _ d Q k n 164 _ ([]) _
        refine z_aloadn dX7_extend_164 rfl rfl ?_
        refine z_dup dX7_extend_165 rfl ?_
        refine z_getI (j := 4) zc7 dX7_extend_166 (ho34.k 0 rfl) (ho34.lt 0 rfl) (by decide) rfl w624 ?_
        refine z_iconst (v := 1) dX7_extend_169 (by decide) ?_
        refine z_iload dX7_extend_170 rfl ?_
        refine z_ishl dX7_extend_172 ?_
        refine z_ior dX7_extend_173 ?_
        refine z_putI (j := 4) zc7 dX7_extend_174 (ho34.k 0 rfl) (ho34.lt 0 rfl) (by decide) rfl rfl (Or.inl rfl) (Or.inl w624) ?_
        refine z_nm (r := g33.2) rfl (fun I52 e53 => ?_)
        have hw54 := hw49 I52 e53
        refine z_aloadn dX7_extend_177 rfl rfl ?_
        refine z_getRq (j := 5) zc7 dX7_extend_178 (ho34.k 0 rfl) (ho34.lt 0 rfl) (by decide) rfl w625 (ho34.r 1 rfl) ?_
        refine z_iloadn dX7_extend_181 rfl rfl ?_
        refine z_iload dX7_extend_182 rfl ?_
        refine z_callS (h := (I52, g33.2)) (S := []) (M := mX7_extend) (As := [va_rf (some (a + 2)), .int x1, .int x4]) eX10_put w754 (Or.inr ⟨_, w1362⟩) dX7_extend_184 rfl (by omega) (Nat.le_of_ble_eq_true rfl) (c_X10_put l G (I52, g33.2) (some (a + 2)) x1 x4 (zpok_lo (ho34.w 2 rfl) (by decide))) (fun v55 g56 q57 => ?_)
        obtain ⟨rfl, q57⟩ := q57
        replace q57 := q57.symm
        subst q57
        refine z_nm (r := g33.2) rfl (fun I58 e59 => ?_)
        have hw60 := hw54 I58 e59
        refine z_aloadn dX7_extend_187 rfl rfl ?_
        refine z_iloadn dX7_extend_188 rfl rfl ?_
        refine z_iconst (v := 1) dX7_extend_189 (by decide) ?_
        refine z_iadd dX7_extend_190 ?_
        refine z_iloadn dX7_extend_191 rfl rfl ?_
        refine z_aloadn dX7_extend_192 rfl rfl ?_
        refine z_getRq (j := 7) zc7 dX7_extend_193 (ho34.k 0 rfl) (ho34.lt 0 rfl) (by decide) rfl w627 (ho34.r 12 rfl) ?_
        refine z_getIN (j := 0) zc9 dX7_extend_196 (ho34.k 10 rfl) (ho34.lt 10 rfl) (by decide) rfl w542 ?_
        refine z_iadd dX7_extend_199 ?_
        refine z_iloadn dX7_extend_200 rfl rfl ?_
        refine z_aloadn dX7_extend_201 rfl rfl ?_
        refine z_getRq (j := 7) zc7 dX7_extend_202 (ho34.k 0 rfl) (ho34.lt 0 rfl) (by decide) rfl w627 (ho34.r 12 rfl) ?_
        refine z_getIN (j := 1) zc9 dX7_extend_205 (ho34.k 10 rfl) (ho34.lt 10 rfl) (by decide) rfl w545 ?_
        refine z_iadd dX7_extend_208 ?_
        obtain ⟨P61, d68, q69, ct62, hw63⟩ := hw60
        refine z_callV (h := (I58, g33.2)) (S := []) (a := a) (M := mX7_extend) (As := [.int ((x1 + 1)), .int ((x2 + (zI (I58, g33.2) (a + 10) 0))), .int ((x3 + (zI (I58, g33.2) (a + 10) 1)))]) zc7 rfl eX7_extend w1349 w85 (Or.inl w1363) dX7_extend_209 (ho34.k 0 rfl) (ho34.lt 0 rfl) rfl q69 (Nat.le_of_ble_eq_true rfl) ct62 (fun v70 g71 q65 => ?_)
        obtain ⟨rfl, q65⟩ := q65
        have hw67 := hw63 g71 q65
        obtain ⟨ho72, hw73⟩ := hw67
        show Z l G _ d Q k n 212 _ ([]) _
        refine z_aloadn dX7_extend_212 rfl rfl ?_
        refine z_dup dX7_extend_213 rfl ?_
        refine z_getI (j := 4) zc7 dX7_extend_214 (ho72.k 0 rfl) (ho72.lt 0 rfl) (by decide) rfl w624 ?_
        refine z_iconst (v := 1) dX7_extend_217 (by decide) ?_
        refine z_iload dX7_extend_218 rfl ?_
        refine z_ishl dX7_extend_220 ?_
        refine z_iconst (v := (-1)) dX7_extend_221 (by decide) ?_
        refine z_ixor dX7_extend_222 ?_
        refine z_iand dX7_extend_223 ?_
        refine z_putI (j := 4) zc7 dX7_extend_224 (ho72.k 0 rfl) (ho72.lt 0 rfl) (by decide) rfl rfl (Or.inl rfl) (Or.inl w624) ?_
        refine z_nm (r := g71.2) rfl (fun I74 e75 => ?_)
        have hw76 := hw73 I74 e75
        refine z_iinc (v := (x4 + 1)) (L' := [va_rf (some a), .int x1, .int x2, .int x3, .int ((x4 + 1)), .int (zget h (some (b1 + 2)) x4)]) dX7_extend_227 (by decide) rfl rfl rfl ?_
        refine z_goto (t := 58) dX7_extend_230 (by decide) ?_
        exact hw76
      · have hw39 := hw35.2 c37
        exact z_ret (v := none) dX7_extend_149 rfl rfl hw39

theorem kX7_extend {l : Launch} {G : zG} {d : Nat} {Q : Option Value → zH → Prop} {k n : Nat} {h : zH} (a : Nat) (x1 : Int32) (x2 : Int32) (x3 : Int32) (hz : Z l G mX7_extend d Q k n 0 [va_rf (some a), .int x1, .int x2, .int x3, zU, zU] [] h) : CT l G YX7_extend d k n [va_rf (some a), .int x1, .int x2, .int x3] h Q :=
  CT.of (by decide +kernel) (fun t e => by cases e) (by exact Nat.le_of_ble_eq_true rfl) (by exact hz)

theorem sX8_set_0 {l : Launch} {G : zG} {d : Nat} {Q : Option Value → zH → Prop} {k n : Nat} {h : zH} (a : Nat) (a1 : Nat) (x2 : Int32) (x3 : Int32) (ha : lo8 h a) (ha1 : lo0 h a1) (hd9 : 7 ≤ d)
    (hw : (∀ I1 : Nat → Nat → Int32, I1 = (zwI h a 1 x2).1 → (∀ I4 : Nat → Nat → Int32, I4 = (zwI (I1, h.2) a 2 x3).1 → (∀ I7 : Nat → Nat → Int32, I7 = (zwI (I4, h.2) a 3 (0 : Int32)).1 → Z l G mX8_set d Q k n 18 [va_rf (some a), va_rf (some a1), .int x2, .int x3, .int 0, zU] [] (I7, h.2))))) :
    Z l G mX8_set d Q k n 0 [va_rf (some a), va_rf (some a1), .int x2, .int x3, zU, zU] [] h := by
  refine z_aloadn dX8_set_0 rfl rfl ?_
  refine z_iloadn dX8_set_1 rfl rfl ?_
  refine z_putI (j := 1) zc8 dX8_set_2 (ha.k 0 rfl) (ha.lt 0 rfl) (by decide) rfl rfl (Or.inl rfl) (Or.inl w584) ?_
  refine z_nm (r := h.2) rfl (fun I1 e2 => ?_)
  have hw3 := hw I1 e2
  refine z_aloadn dX8_set_5 rfl rfl ?_
  refine z_iloadn dX8_set_6 rfl rfl ?_
  refine z_putI (j := 2) zc8 dX8_set_7 (ha.k 0 rfl) (ha.lt 0 rfl) (by decide) rfl rfl (Or.inl rfl) (Or.inl w585) ?_
  refine z_nm (r := h.2) rfl (fun I4 e5 => ?_)
  have hw6 := hw3 I4 e5
  refine z_aloadn dX8_set_10 rfl rfl ?_
  refine z_iconst (v := 0) dX8_set_11 (by decide) ?_
  refine z_putI (j := 3) zc8 dX8_set_12 (ha.k 0 rfl) (ha.lt 0 rfl) (by decide) rfl rfl (Or.inl rfl) (Or.inl w586) ?_
  refine z_nm (r := h.2) rfl (fun I7 e8 => ?_)
  have hw9 := hw6 I7 e8
  refine z_iconst (v := 0) dX8_set_15 (by decide) ?_
  refine z_istore (L' := [va_rf (some a), va_rf (some a1), .int x2, .int x3, .int 0, zU]) dX8_set_16 (by decide) rfl ?_
  exact hw9

theorem sX8_set_18 {l : Launch} {G : zG} {d : Nat} {Q : Option Value → zH → Prop} {k n : Nat} {h : zH} (a : Nat) (a1 : Nat) (x2 : Int32) (x3 : Int32) (x4 : Int32) (u5 : Value) (ha : lo8 h a) (ha1 : lo0 h a1) (hd9 : 7 ≤ d)
    (hw : (((zI h a 1).toInt ≤ x4.toInt → (∀ I5 : Nat → Nat → Int32, I5 = (zwI h a 6 (-1 : Int32)).1 → (∃ P8 d15, d15 + 1 ≤ d ∧ CTv l G YX8_choose d15 [va_rf (some a), .int 0, .int 0, .int 0] (I5, h.2) P8 ∧ ∀ (I11 : Nat → Nat → Int32), P8 I11 → Q none (I11, h.2)))) ∧ (x4.toInt < (zI h a 1).toInt → (∃ P19, CTi l G YX0_usersOf 2 [va_rf (some a1), .int x4] h P19 ∧ ∀ (y24 : Int32) (I22 : Nat → Nat → Int32), P19 y24 I22 → (∀ I31 : Nat → Nat → Int32, I31 = (zput (I22, h.2) (some (a + 1)) x4 y24).1 → (∀ I34 : Nat → Nat → Int32, I34 = (zwI (I31, h.2) a 3 ((zI (I31, h.2) a 3) ||| y24)).1 → Z l G mX8_set d Q k n 18 [va_rf (some a), va_rf (some a1), .int x2, .int x3, .int ((x4 + 1)), .int y24] [] (I34, h.2))))))) :
    Z l G mX8_set d Q k n 18 [va_rf (some a), va_rf (some a1), .int x2, .int x3, .int x4, u5] [] h := by
  refine z_iload dX8_set_18 rfl ?_
  refine z_aloadn dX8_set_20 rfl rfl ?_
  refine z_getI (j := 1) zc8 dX8_set_21 (ha.k 0 rfl) (ha.lt 0 rfl) (by decide) rfl w584 ?_
  refine z_icmp_ge (t := 63) dX8_set_24 (by decide) (fun c1 => ?_) (fun c2 => ?_)
  · have hw3 := hw.1 c1
    refine z_aloadn dX8_set_63 rfl rfl ?_
    refine z_iconst (v := (-1)) dX8_set_64 (by decide) ?_
    refine z_putI (j := 6) zc8 dX8_set_65 (ha.k 0 rfl) (ha.lt 0 rfl) (by decide) rfl rfl (Or.inl rfl) (Or.inl w590) ?_
    refine z_nm (r := h.2) rfl (fun I5 e6 => ?_)
    have hw7 := hw3 I5 e6
    refine z_aloadn dX8_set_68 rfl rfl ?_
    refine z_iconst (v := 0) dX8_set_69 (by decide) ?_
    refine z_iconst (v := 0) dX8_set_70 (by decide) ?_
    refine z_iconst (v := 0) dX8_set_71 (by decide) ?_
    obtain ⟨P8, d15, q16, ct9, hw10⟩ := hw7
    refine z_callV (h := (I5, h.2)) (S := []) (a := a) (M := mX8_set) (As := [.int 0, .int 0, .int 0]) zc8 rfl eX8_choose w1191 w61 (Or.inl w1189) dX8_set_72 (ha.k 0 rfl) (ha.lt 0 rfl) rfl q16 (Nat.le_of_ble_eq_true rfl) ct9 (fun v17 g18 q12 => ?_)
    obtain ⟨I11, rfl, rfl, q12⟩ := q12
    have hw14 := hw10 I11 q12
    show Z l G _ d Q k n 75 _ ([]) _
    exact z_ret (v := none) dX8_set_75 rfl rfl hw14
  · have hw4 := hw.2 c2
    refine z_aloadn dX8_set_27 rfl rfl ?_
    refine z_iload dX8_set_28 rfl ?_
    obtain ⟨P19, ct20, hw21⟩ := hw4
    refine z_callV (h := h) (S := []) (a := a1) (M := mX8_set) (As := [.int x4]) zc0 rfl eX0_usersOf w1143 w54 (Or.inr ⟨_, w1187⟩) dX8_set_30 (ha1.k 0 rfl) (ha1.lt 0 rfl) rfl (by omega) (Nat.le_of_ble_eq_true rfl) ct20 (fun v26 g27 q23 => ?_)
    obtain ⟨y24, I22, rfl, rfl, q23⟩ := q23
    have hw25 := hw21 y24 I22 q23
    show Z l G _ d Q k n 33 _ (.int y24 :: []) _
    refine z_istore (L' := [va_rf (some a), va_rf (some a1), .int x2, .int x3, .int x4, .int y24]) dX8_set_33 (by decide) rfl ?_
    refine z_aloadn dX8_set_35 rfl rfl ?_
    refine z_getRq (j := 0) zc8 dX8_set_36 (ha.k 0 rfl) (ha.lt 0 rfl) (by decide) rfl w583 (ha.r 0 rfl) ?_
    refine z_iload dX8_set_39 rfl ?_
    refine z_iload dX8_set_41 rfl ?_
    refine z_callS (h := (I22, h.2)) (S := []) (M := mX8_set) (As := [va_rf (some (a + 1)), .int x4, .int y24]) eX10_put w754 (Or.inr ⟨_, w1188⟩) dX8_set_43 rfl (by omega) (Nat.le_of_ble_eq_true rfl) (c_X10_put l G (I22, h.2) (some (a + 1)) x4 y24 (zpok_lo (ha.w 1 rfl) (by decide))) (fun v28 g29 q30 => ?_)
    obtain ⟨rfl, q30⟩ := q30
    replace q30 := q30.symm
    subst q30
    refine z_nm (r := h.2) rfl (fun I31 e32 => ?_)
    have hw33 := hw25 I31 e32
    refine z_aloadn dX8_set_46 rfl rfl ?_
    refine z_dup dX8_set_47 rfl ?_
    refine z_getI (j := 3) zc8 dX8_set_48 (ha.k 0 rfl) (ha.lt 0 rfl) (by decide) rfl w586 ?_
    refine z_iload dX8_set_51 rfl ?_
    refine z_ior dX8_set_53 ?_
    refine z_putI (j := 3) zc8 dX8_set_54 (ha.k 0 rfl) (ha.lt 0 rfl) (by decide) rfl rfl (Or.inl rfl) (Or.inl w586) ?_
    refine z_nm (r := h.2) rfl (fun I34 e35 => ?_)
    have hw36 := hw33 I34 e35
    refine z_iinc (v := (x4 + 1)) (L' := [va_rf (some a), va_rf (some a1), .int x2, .int x3, .int ((x4 + 1)), .int y24]) dX8_set_57 (by decide) rfl rfl rfl ?_
    refine z_goto (t := 18) dX8_set_60 (by decide) ?_
    exact hw36

theorem kX8_set {l : Launch} {G : zG} {d : Nat} {Q : Option Value → zH → Prop} {k n : Nat} {h : zH} (a : Nat) (a1 : Nat) (x2 : Int32) (x3 : Int32) (hz : Z l G mX8_set d Q k n 0 [va_rf (some a), va_rf (some a1), .int x2, .int x3, zU, zU] [] h) : CT l G YX8_set d k n [va_rf (some a), va_rf (some a1), .int x2, .int x3] h Q :=
  CT.of (by decide +kernel) (fun t e => by cases e) (by exact Nat.le_of_ble_eq_true rfl) (by exact hz)

theorem sX8_choose_0 {l : Launch} {G : zG} {d : Nat} {Q : Option Value → zH → Prop} {k n : Nat} {h : zH} (a : Nat) (x1 : Int32) (x2 : Int32) (x3 : Int32) (ha : lo8 h a) (hd9 : 3 ≤ d)
    (hw : (((zI h a 2).toInt ≤ x1.toInt → (∃ P5, CTi l G YJ6_bitCount_0f7a4 1 [.int x3] h P5 ∧ ∀ (y10 : Int32) (I8 : Nat → Nat → Int32), P5 y10 I8 → ((y10.toInt ≤ (zI (I8, h.2) a 6).toInt → Q none (I8, h.2)) ∧ ((zI (I8, h.2) a 6).toInt < y10.toInt → (∃ P18, CTi l G YJ6_bitCount_0f7a4 1 [.int x3] (I8, h.2) P18 ∧ ∀ (y23 : Int32) (I21 : Nat → Nat → Int32), P18 y23 I21 → (∀ I27 : Nat → Nat → Int32, I27 = (zwI (I21, h.2) a 6 y23).1 → (∃ P30, CTv l G YX10_copy 2 [va_rf (some (a + 2)), va_rf (some (a + 3))] (I27, h.2) P30 ∧ ∀ (I33 : Nat → Nat → Int32), P30 I33 → Q none (I33, h.2)))))))) ∧ (x1.toInt < (zI h a 2).toInt → ((x1.toInt < (3 : Int) → Z l G mX8_choose d Q k n 47 [va_rf (some a), .int x1, .int x2, .int x3, .int x2] [] h) ∧ ((3 : Int) ≤ x1.toInt → (∃ P43, CTi l G YJ6_bitCount_0f7a4 1 [.int x3] h P43 ∧ ∀ (y48 : Int32) (I46 : Nat → Nat → Int32), P43 y48 I46 → ((y48.toInt ≤ (zI (I46, h.2) a 6).toInt → Q none (I46, h.2)) ∧ ((zI (I46, h.2) a 6).toInt < y48.toInt → (∃ P56, CTi l G YJ6_bitCount_0f7a4 1 [.int x3] (I46, h.2) P56 ∧ ∀ (y61 : Int32) (I59 : Nat → Nat → Int32), P56 y61 I59 → (∀ I65 : Nat → Nat → Int32, I65 = (zwI (I59, h.2) a 6 y61).1 → (∃ P68, CTv l G YX10_copy 2 [va_rf (some (a + 2)), va_rf (some (a + 3))] (I65, h.2) P68 ∧ ∀ (I71 : Nat → Nat → Int32), P68 I71 → Q none (I71, h.2)))))))))))) :
    Z l G mX8_choose d Q k n 0 [va_rf (some a), .int x1, .int x2, .int x3, zU] [] h := by
  refine z_iloadn dX8_choose_0 rfl rfl ?_
  refine z_aloadn dX8_choose_1 rfl rfl ?_
  refine z_getI (j := 2) zc8 dX8_choose_2 (ha.k 0 rfl) (ha.lt 0 rfl) (by decide) rfl w585 ?_
  refine z_icmp_ge (t := 13) dX8_choose_5 (by decide) (fun c1 => ?_) (fun c2 => ?_)
  · have hw3 := hw.1 c1
    refine z_iloadn dX8_choose_13 rfl rfl ?_
    obtain ⟨P5, ct6, hw7⟩ := hw3
    refine z_callS (h := h) (S := []) (M := mX8_choose) (As := [.int x3]) eJ6_bitCount_0f7a4 w1194 (Or.inl w1193) dX8_choose_14 rfl (by omega) (Nat.le_of_ble_eq_true rfl) ct6 (fun v12 g13 q9 => ?_)
    obtain ⟨y10, I8, rfl, rfl, q9⟩ := q9
    have hw11 := hw7 y10 I8 q9
    show Z l G _ d Q k n 17 _ (.int y10 :: []) _
    refine z_aloadn dX8_choose_17 rfl rfl ?_
    refine z_getI (j := 6) zc8 dX8_choose_18 (ha.k 0 rfl) (ha.lt 0 rfl) (by decide) rfl w590 ?_
    refine z_icmp_le (t := 43) dX8_choose_21 (by decide) (fun c14 => ?_) (fun c15 => ?_)
    · have hw16 := hw11.1 c14
      exact z_ret (v := none) dX8_choose_43 rfl rfl hw16
    · have hw17 := hw11.2 c15
      refine z_aloadn dX8_choose_24 rfl rfl ?_
      refine z_iloadn dX8_choose_25 rfl rfl ?_
      obtain ⟨P18, ct19, hw20⟩ := hw17
      refine z_callS (h := (I8, h.2)) (S := [va_rf (some a)]) (M := mX8_choose) (As := [.int x3]) eJ6_bitCount_0f7a4 w1194 (Or.inl w1193) dX8_choose_26 rfl (by omega) (Nat.le_of_ble_eq_true rfl) ct19 (fun v25 g26 q22 => ?_)
      obtain ⟨y23, I21, rfl, rfl, q22⟩ := q22
      have hw24 := hw20 y23 I21 q22
      show Z l G _ d Q k n 29 _ (.int y23 :: va_rf (some a) :: []) _
      refine z_putI (j := 6) zc8 dX8_choose_29 (ha.k 0 rfl) (ha.lt 0 rfl) (by decide) rfl rfl (Or.inl rfl) (Or.inl w590) ?_
      refine z_nm (r := h.2) rfl (fun I27 e28 => ?_)
      have hw29 := hw24 I27 e28
      refine z_aloadn dX8_choose_32 rfl rfl ?_
      refine z_getRq (j := 4) zc8 dX8_choose_33 (ha.k 0 rfl) (ha.lt 0 rfl) (by decide) rfl w587 (ha.r 1 rfl) ?_
      refine z_aloadn dX8_choose_36 rfl rfl ?_
      refine z_getRq (j := 5) zc8 dX8_choose_37 (ha.k 0 rfl) (ha.lt 0 rfl) (by decide) rfl w588 (ha.r 2 rfl) ?_
      obtain ⟨P30, ct31, hw32⟩ := hw29
      refine z_callS (h := (I27, h.2)) (S := []) (M := mX8_choose) (As := [va_rf (some (a + 2)), va_rf (some (a + 3))]) eX10_copy w945 (Or.inr ⟨_, w1199⟩) dX8_choose_40 rfl (by omega) (Nat.le_of_ble_eq_true rfl) ct31 (fun v37 g38 q34 => ?_)
      obtain ⟨I33, rfl, rfl, q34⟩ := q34
      have hw36 := hw32 I33 q34
      show Z l G _ d Q k n 43 _ ([]) _
      exact z_ret (v := none) dX8_choose_43 rfl rfl hw36
  · have hw4 := hw.2 c2
    refine z_iloadn dX8_choose_8 rfl rfl ?_
    refine z_iconst (v := 3) dX8_choose_9 (by decide) ?_
    refine z_icmp_lt (t := 44) dX8_choose_10 (by decide) (fun c39 => ?_) (fun c40 => ?_)
    · have hw41 := hw4.1 c39
      refine z_iloadn dX8_choose_44 rfl rfl ?_
      refine z_istore (L' := [va_rf (some a), .int x1, .int x2, .int x3, .int x2]) dX8_choose_45 (by decide) rfl ?_
      exact hw41
    · have hw42 := hw4.2 c40
      refine z_iloadn dX8_choose_13 rfl rfl ?_
      obtain ⟨P43, ct44, hw45⟩ := hw42
      refine z_callS (h := h) (S := []) (M := mX8_choose) (As := [.int x3]) eJ6_bitCount_0f7a4 w1194 (Or.inl w1193) dX8_choose_14 rfl (by omega) (Nat.le_of_ble_eq_true rfl) ct44 (fun v50 g51 q47 => ?_)
      obtain ⟨y48, I46, rfl, rfl, q47⟩ := q47
      have hw49 := hw45 y48 I46 q47
      show Z l G _ d Q k n 17 _ (.int y48 :: []) _
      refine z_aloadn dX8_choose_17 rfl rfl ?_
      refine z_getI (j := 6) zc8 dX8_choose_18 (ha.k 0 rfl) (ha.lt 0 rfl) (by decide) rfl w590 ?_
      refine z_icmp_le (t := 43) dX8_choose_21 (by decide) (fun c52 => ?_) (fun c53 => ?_)
      · have hw54 := hw49.1 c52
        exact z_ret (v := none) dX8_choose_43 rfl rfl hw54
      · have hw55 := hw49.2 c53
        refine z_aloadn dX8_choose_24 rfl rfl ?_
        refine z_iloadn dX8_choose_25 rfl rfl ?_
        obtain ⟨P56, ct57, hw58⟩ := hw55
        refine z_callS (h := (I46, h.2)) (S := [va_rf (some a)]) (M := mX8_choose) (As := [.int x3]) eJ6_bitCount_0f7a4 w1194 (Or.inl w1193) dX8_choose_26 rfl (by omega) (Nat.le_of_ble_eq_true rfl) ct57 (fun v63 g64 q60 => ?_)
        obtain ⟨y61, I59, rfl, rfl, q60⟩ := q60
        have hw62 := hw58 y61 I59 q60
        show Z l G _ d Q k n 29 _ (.int y61 :: va_rf (some a) :: []) _
        refine z_putI (j := 6) zc8 dX8_choose_29 (ha.k 0 rfl) (ha.lt 0 rfl) (by decide) rfl rfl (Or.inl rfl) (Or.inl w590) ?_
        refine z_nm (r := h.2) rfl (fun I65 e66 => ?_)
        have hw67 := hw62 I65 e66
        refine z_aloadn dX8_choose_32 rfl rfl ?_
        refine z_getRq (j := 4) zc8 dX8_choose_33 (ha.k 0 rfl) (ha.lt 0 rfl) (by decide) rfl w587 (ha.r 1 rfl) ?_
        refine z_aloadn dX8_choose_36 rfl rfl ?_
        refine z_getRq (j := 5) zc8 dX8_choose_37 (ha.k 0 rfl) (ha.lt 0 rfl) (by decide) rfl w588 (ha.r 2 rfl) ?_
        obtain ⟨P68, ct69, hw70⟩ := hw67
        refine z_callS (h := (I65, h.2)) (S := []) (M := mX8_choose) (As := [va_rf (some (a + 2)), va_rf (some (a + 3))]) eX10_copy w945 (Or.inr ⟨_, w1199⟩) dX8_choose_40 rfl (by omega) (Nat.le_of_ble_eq_true rfl) ct69 (fun v75 g76 q72 => ?_)
        obtain ⟨I71, rfl, rfl, q72⟩ := q72
        have hw74 := hw70 I71 q72
        show Z l G _ d Q k n 43 _ ([]) _
        exact z_ret (v := none) dX8_choose_43 rfl rfl hw74

theorem sX8_choose_47 {l : Launch} {G : zG} {d : Nat} {Q : Option Value → zH → Prop} {k n : Nat} {h : zH} (a : Nat) (x1 : Int32) (x2 : Int32) (x3 : Int32) (x4 : Int32) (ha : lo8 h a) (hd9 : 3 ≤ d)
    (hw : (((zI h a 1).toInt ≤ x4.toInt → Q none h) ∧ (x4.toInt < (zI h a 1).toInt → (∃ P5, CTi l G YJ6_bitCount_0f7a4 1 [.int (zI h a 3)] h P5 ∧ ∀ (y10 : Int32) (I8 : Nat → Nat → Int32), P5 y10 I8 → ((y10.toInt ≤ (zI h a 6).toInt → Q none (I8, h.2)) ∧ ((zI h a 6).toInt < y10.toInt → (∀ I21 : Nat → Nat → Int32, I21 = (zput (I8, h.2) (some (a + 2)) x1 x4).1 → (∃ P27 d34, d34 + 1 ≤ d ∧ CTv l G YX8_choose d34 [va_rf (some a), .int ((x1 + 1)), .int ((x4 + 1)), .int ((x3 ||| (zget (I21, h.2) (some (a + 1)) x4)))] (I21, h.2) P27 ∧ ∀ (I30 : Nat → Nat → Int32), P27 I30 → Z l G mX8_choose d Q k n 47 [va_rf (some a), .int x1, .int x2, .int x3, .int ((x4 + 1))] [] (I30, h.2))))))))) :
    Z l G mX8_choose d Q k n 47 [va_rf (some a), .int x1, .int x2, .int x3, .int x4] [] h := by
  refine z_iload dX8_choose_47 rfl ?_
  refine z_aloadn dX8_choose_49 rfl rfl ?_
  refine z_getI (j := 1) zc8 dX8_choose_50 (ha.k 0 rfl) (ha.lt 0 rfl) (by decide) rfl w584 ?_
  refine z_icmp_ge (t := 108) dX8_choose_53 (by decide) (fun c1 => ?_) (fun c2 => ?_)
  · have hw3 := hw.1 c1
    exact z_ret (v := none) dX8_choose_108 rfl rfl hw3
  · have hw4 := hw.2 c2
    refine z_aloadn dX8_choose_56 rfl rfl ?_
    refine z_getI (j := 6) zc8 dX8_choose_57 (ha.k 0 rfl) (ha.lt 0 rfl) (by decide) rfl w590 ?_
    refine z_aloadn dX8_choose_60 rfl rfl ?_
    refine z_getI (j := 3) zc8 dX8_choose_61 (ha.k 0 rfl) (ha.lt 0 rfl) (by decide) rfl w586 ?_
    obtain ⟨P5, ct6, hw7⟩ := hw4
    refine z_callS (h := h) (S := [.int (zI h a 6)]) (M := mX8_choose) (As := [.int (zI h a 3)]) eJ6_bitCount_0f7a4 w1194 (Or.inl w1193) dX8_choose_64 rfl (by omega) (Nat.le_of_ble_eq_true rfl) ct6 (fun v12 g13 q9 => ?_)
    obtain ⟨y10, I8, rfl, rfl, q9⟩ := q9
    have hw11 := hw7 y10 I8 q9
    show Z l G _ d Q k n 67 _ (.int y10 :: .int (zI h a 6) :: []) _
    refine z_icmp_ge (t := 108) dX8_choose_67 (by decide) (fun c14 => ?_) (fun c15 => ?_)
    · have hw16 := hw11.1 c14
      exact z_ret (v := none) dX8_choose_108 rfl rfl hw16
    · have hw17 := hw11.2 c15
      refine z_aloadn dX8_choose_70 rfl rfl ?_
      refine z_getRq (j := 4) zc8 dX8_choose_71 (ha.k 0 rfl) (ha.lt 0 rfl) (by decide) rfl w587 (ha.r 1 rfl) ?_
      refine z_iloadn dX8_choose_74 rfl rfl ?_
      refine z_iload dX8_choose_75 rfl ?_
      refine z_callS (h := (I8, h.2)) (S := []) (M := mX8_choose) (As := [va_rf (some (a + 2)), .int x1, .int x4]) eX10_put w754 (Or.inr ⟨_, w1188⟩) dX8_choose_77 rfl (by omega) (Nat.le_of_ble_eq_true rfl) (c_X10_put l G (I8, h.2) (some (a + 2)) x1 x4 (zpok_lo (ha.w 2 rfl) (by decide))) (fun v18 g19 q20 => ?_)
      obtain ⟨rfl, q20⟩ := q20
      replace q20 := q20.symm
      subst q20
      refine z_nm (r := h.2) rfl (fun I21 e22 => ?_)
      have hw23 := hw17 I21 e22
      refine z_aloadn dX8_choose_80 rfl rfl ?_
      refine z_iloadn dX8_choose_81 rfl rfl ?_
      refine z_iconst (v := 1) dX8_choose_82 (by decide) ?_
      refine z_iadd dX8_choose_83 ?_
      refine z_iload dX8_choose_84 rfl ?_
      refine z_iconst (v := 1) dX8_choose_86 (by decide) ?_
      refine z_iadd dX8_choose_87 ?_
      refine z_iloadn dX8_choose_88 rfl rfl ?_
      refine z_aloadn dX8_choose_89 rfl rfl ?_
      refine z_getRq (j := 0) zc8 dX8_choose_90 (ha.k 0 rfl) (ha.lt 0 rfl) (by decide) rfl w583 (ha.r 0 rfl) ?_
      refine z_iload dX8_choose_93 rfl ?_
      refine z_callS (h := (I21, h.2)) (S := [.int x3, .int ((x4 + 1)), .int ((x1 + 1)), va_rf (some a)]) (M := mX8_choose) (As := [va_rf (some (a + 1)), .int x4]) eX10_get w778 (Or.inr ⟨_, w1200⟩) dX8_choose_95 rfl (by omega) (Nat.le_of_ble_eq_true rfl) (c_X10_get l G (I21, h.2) (some (a + 1)) x4 (zgok_lo (ha.w 1 rfl) (by decide))) (fun v24 g25 q26 => ?_)
      obtain ⟨rfl, q26⟩ := q26
      replace q26 := q26.symm
      subst q26
      show Z l G _ d Q k n 98 _ (.int (zget (I21, h.2) (some (a + 1)) x4) :: .int x3 :: .int ((x4 + 1)) :: .int ((x1 + 1)) :: va_rf (some a) :: []) _
      refine z_ior dX8_choose_98 ?_
      obtain ⟨P27, d34, q35, ct28, hw29⟩ := hw23
      refine z_callV (h := (I21, h.2)) (S := []) (a := a) (M := mX8_choose) (As := [.int ((x1 + 1)), .int ((x4 + 1)), .int ((x3 ||| (zget (I21, h.2) (some (a + 1)) x4)))]) zc8 rfl eX8_choose w1191 w61 (Or.inl w1189) dX8_choose_99 (ha.k 0 rfl) (ha.lt 0 rfl) rfl q35 (Nat.le_of_ble_eq_true rfl) ct28 (fun v36 g37 q31 => ?_)
      obtain ⟨I30, rfl, rfl, q31⟩ := q31
      have hw33 := hw29 I30 q31
      show Z l G _ d Q k n 102 _ ([]) _
      refine z_iinc (v := (x4 + 1)) (L' := [va_rf (some a), .int x1, .int x2, .int x3, .int ((x4 + 1))]) dX8_choose_102 (by decide) rfl rfl rfl ?_
      refine z_goto (t := 47) dX8_choose_105 (by decide) ?_
      exact hw33

theorem kX8_choose {l : Launch} {G : zG} {d : Nat} {Q : Option Value → zH → Prop} {k n : Nat} {h : zH} (a : Nat) (x1 : Int32) (x2 : Int32) (x3 : Int32) (hz : Z l G mX8_choose d Q k n 0 [va_rf (some a), .int x1, .int x2, .int x3, zU] [] h) : CT l G YX8_choose d k n [va_rf (some a), .int x1, .int x2, .int x3] h Q :=
  CT.of (by decide +kernel) (fun t e => by cases e) (by exact Nat.le_of_ble_eq_true rfl) (by exact hz)

theorem sX9_seek_0 {l : Launch} {G : zG} {d : Nat} {Q : Option Value → zH → Prop} {k n : Nat} {h : zH} (a : Nat) (a1 : Nat) (r2 : Option Nat) (x3 : Int32) (x4 : Int32) (x5 : Int32) (ha : lo9 h a) (ha1 : lo1 h a1) (hd9 : 6 ≤ d)
    (hw : (∀ I1 : Nat → Nat → Int32, I1 = (zwI h a 0 (-1 : Int32)).1 → (∀ I4 : Nat → Nat → Int32, I4 = (zwI (I1, h.2) a 1 (0 : Int32)).1 → ((zmem (I4, h.2) a1 x3 = none → Q none (I4, h.2)) ∧ (∀ b11, zmem (I4, h.2) a1 x3 = some b11 → (∀ g14 : zH, g14 = zwR (I4, h.2) a 3 (some a1) → lo9 g14 a ∧ lo1 g14 a1 ∧ (∀ g21 : zH, g21 = zwR g14 a 4 r2 → lo9 g21 a ∧ lo1 g21 a1 ∧ (∃ b28, zmem (I4, h.2) a1 x3 = some b28 ∧ lo2 g21 b28 ∧ (∀ I32 : Nat → Nat → Int32, I32 = (zwI g21 a 5 (zI g21 b28 0)).1 → (∀ I35 : Nat → Nat → Int32, I35 = (zwI (I32, g21.2) a 6 (zI (I32, g21.2) b28 1)).1 → (∀ I38 : Nat → Nat → Int32, I38 = (zwI (I35, g21.2) a 7 x4).1 → ((¬ x4 = x5 → (∃ P45, CTi l G YX9_fewestPrints 5 [va_rf (some a), .int x4, .int x5] (I38, g21.2) P45 ∧ ∀ (y50 : Int32) (I48 : Nat → Nat → Int32), P45 y50 I48 → (((1000 : Int) ≤ y50.toInt → Q none (I48, g21.2)) ∧ (y50.toInt < (1000 : Int) → (∀ I58 : Nat → Nat → Int32, I58 = (zwI (I48, g21.2) a 0 y50).1 → (∃ P61, CTv l G YX9_trace 5 [va_rf (some a), .int x4, .int x5] (I58, g21.2) P61 ∧ ∀ (I64 : Nat → Nat → Int32), P61 I64 → Q none (I64, g21.2))))))) ∧ (x4 = x5 → (∀ I70 : Nat → Nat → Int32, I70 = (zwI (I38, g21.2) a 0 (0 : Int32)).1 → Q none (I70, g21.2))))))))))))))) :
    Z l G mX9_seek d Q k n 0 [va_rf (some a), va_rf (some a1), va_rf r2, .int x3, .int x4, .int x5, zU, zU] [] h := by
  refine z_aloadn dX9_seek_0 rfl rfl ?_
  refine z_iconst (v := (-1)) dX9_seek_1 (by decide) ?_
  refine z_putI (j := 0) zc9 dX9_seek_2 (ha.k 0 rfl) (ha.lt 0 rfl) (by decide) rfl rfl (Or.inl rfl) (Or.inl w541) ?_
  refine z_nm (r := h.2) rfl (fun I1 e2 => ?_)
  have hw3 := hw I1 e2
  refine z_aloadn dX9_seek_5 rfl rfl ?_
  refine z_iconst (v := 0) dX9_seek_6 (by decide) ?_
  refine z_putI (j := 1) zc9 dX9_seek_7 (ha.k 0 rfl) (ha.lt 0 rfl) (by decide) rfl rfl (Or.inl rfl) (Or.inl w544) ?_
  refine z_nm (r := h.2) rfl (fun I4 e5 => ?_)
  have hw6 := hw3 I4 e5
  refine z_aloadn dX9_seek_10 rfl rfl ?_
  refine z_iloadn dX9_seek_11 rfl rfl ?_
  refine z_callV (h := (I4, h.2)) (S := []) (a := a1) (M := mX9_seek) (As := [.int x3]) zc1 rfl eX1_member w1011 w34 (Or.inr ⟨_, w1290⟩) dX9_seek_12 (ha1.k 0 rfl) (ha1.lt 0 rfl) rfl (by omega) (Nat.le_of_ble_eq_true rfl) (c_X1_member l G (I4, h.2) a1 x3 ha1) (fun v7 g8 q9 => ?_)
  obtain ⟨rfl, q9⟩ := q9
  replace q9 := q9.symm
  subst q9
  show Z l G _ d Q k n 15 _ (va_rf (zmem (I4, h.2) a1 x3) :: []) _
  refine z_astore (L' := [va_rf (some a), va_rf (some a1), va_rf r2, .int x3, .int x4, .int x5, va_rf (zmem (I4, h.2) a1 x3), zU]) dX9_seek_15 (by decide) rfl ?_
  refine z_aload dX9_seek_17 rfl ?_
  refine z_ifnonnull (t := 23) dX9_seek_19 (by decide) (fun b11 c10 => ?_) (fun c10 => ?_)
  · have hw13 := hw6.2 b11 c10
    refine z_aloadn dX9_seek_23 rfl rfl ?_
    refine z_aloadn dX9_seek_24 rfl rfl ?_
    refine z_putR (j := 3) zc9 dX9_seek_25 (ha.k 0 rfl) (ha.lt 0 rfl) (by decide) rfl rfl (Or.inl w549) ?_
    refine z_nmG (fun g14 e15 => ?_)
    have hw16 := hw13 g14 e15
    obtain ⟨ho17, hw19⟩ := hw16
    obtain ⟨ho18, hw20⟩ := hw19
    refine z_aloadn dX9_seek_28 rfl rfl ?_
    refine z_aloadn dX9_seek_29 rfl rfl ?_
    refine z_putR (j := 4) zc9 dX9_seek_30 (ho17.k 0 rfl) (ho17.lt 0 rfl) (by decide) rfl rfl (Or.inl w550) ?_
    refine z_nmG (fun g21 e22 => ?_)
    have hw23 := hw20 g21 e22
    obtain ⟨ho24, hw26⟩ := hw23
    obtain ⟨ho25, hw27⟩ := hw26
    refine z_aloadn dX9_seek_33 rfl rfl ?_
    refine z_aload dX9_seek_34 rfl ?_
    obtain ⟨b28, q29, ho30, hw31⟩ := hw27
    refine z_soP [] q29 ?_
    refine z_getIN (j := 0) zc2 dX9_seek_36 (ho30.k 0 rfl) (ho30.lt 0 rfl) (by decide) rfl w219 ?_
    refine z_putI (j := 5) zc9 dX9_seek_39 (ho24.k 0 rfl) (ho24.lt 0 rfl) (by decide) rfl rfl (Or.inl rfl) (Or.inl w551) ?_
    refine z_nm (r := g21.2) rfl (fun I32 e33 => ?_)
    have hw34 := hw31 I32 e33
    refine z_aloadn dX9_seek_42 rfl rfl ?_
    refine z_aload dX9_seek_43 rfl ?_
    refine z_soP [] q29 ?_
    refine z_getIN (j := 1) zc2 dX9_seek_45 (ho30.k 0 rfl) (ho30.lt 0 rfl) (by decide) rfl w225 ?_
    refine z_putI (j := 6) zc9 dX9_seek_48 (ho24.k 0 rfl) (ho24.lt 0 rfl) (by decide) rfl rfl (Or.inl rfl) (Or.inl w552) ?_
    refine z_nm (r := g21.2) rfl (fun I35 e36 => ?_)
    have hw37 := hw34 I35 e36
    refine z_aloadn dX9_seek_51 rfl rfl ?_
    refine z_iload dX9_seek_52 rfl ?_
    refine z_putI (j := 7) zc9 dX9_seek_54 (ho24.k 0 rfl) (ho24.lt 0 rfl) (by decide) rfl rfl (Or.inl rfl) (Or.inl w553) ?_
    refine z_nm (r := g21.2) rfl (fun I38 e39 => ?_)
    have hw40 := hw37 I38 e39
    refine z_iload dX9_seek_57 rfl ?_
    refine z_iload dX9_seek_59 rfl ?_
    refine z_icmp_ne (t := 70) dX9_seek_61 (by decide) (fun c41 => ?_) (fun c42 => ?_)
    · have hw43 := hw40.1 c41
      refine z_aloadn dX9_seek_70 rfl rfl ?_
      refine z_iload dX9_seek_71 rfl ?_
      refine z_iload dX9_seek_73 rfl ?_
      obtain ⟨P45, ct46, hw47⟩ := hw43
      refine z_callV (h := (I38, g21.2)) (S := []) (a := a) (M := mX9_seek) (As := [.int x4, .int x5]) zc9 rfl eX9_fewestPrints w1293 w74 (Or.inl w1291) dX9_seek_75 (ho24.k 0 rfl) (ho24.lt 0 rfl) rfl (by omega) (Nat.le_of_ble_eq_true rfl) ct46 (fun v52 g53 q49 => ?_)
      obtain ⟨y50, I48, rfl, rfl, q49⟩ := q49
      have hw51 := hw47 y50 I48 q49
      show Z l G _ d Q k n 78 _ (.int y50 :: []) _
      refine z_istore (L' := [va_rf (some a), va_rf (some a1), va_rf r2, .int x3, .int x4, .int x5, va_rf (zmem (I4, h.2) a1 x3), .int y50]) dX9_seek_78 (by decide) ((zs1_rf (j := 6) rfl).trans rfl) ?_
      refine z_iload dX9_seek_80 rfl ?_
      refine z_sipush (v := 1000) dX9_seek_82 (by decide) ?_
      refine z_icmp_ge (t := 102) dX9_seek_85 (by decide) (fun c54 => ?_) (fun c55 => ?_)
      · have hw56 := hw51.1 c54
        exact z_ret (v := none) dX9_seek_102 rfl rfl hw56
      · have hw57 := hw51.2 c55
        refine z_aloadn dX9_seek_88 rfl rfl ?_
        refine z_iload dX9_seek_89 rfl ?_
        refine z_putI (j := 0) zc9 dX9_seek_91 (ho24.k 0 rfl) (ho24.lt 0 rfl) (by decide) rfl rfl (Or.inl rfl) (Or.inl w541) ?_
        refine z_nm (r := g21.2) rfl (fun I58 e59 => ?_)
        have hw60 := hw57 I58 e59
        refine z_aloadn dX9_seek_94 rfl rfl ?_
        refine z_iload dX9_seek_95 rfl ?_
        refine z_iload dX9_seek_97 rfl ?_
        obtain ⟨P61, ct62, hw63⟩ := hw60
        refine z_callV (h := (I58, g21.2)) (S := []) (a := a) (M := mX9_seek) (As := [.int x4, .int x5]) zc9 rfl eX9_trace w1324 w80 (Or.inl w1322) dX9_seek_99 (ho24.k 0 rfl) (ho24.lt 0 rfl) rfl (by omega) (Nat.le_of_ble_eq_true rfl) ct62 (fun v68 g69 q65 => ?_)
        obtain ⟨I64, rfl, rfl, q65⟩ := q65
        have hw67 := hw63 I64 q65
        show Z l G _ d Q k n 102 _ ([]) _
        exact z_ret (v := none) dX9_seek_102 rfl rfl hw67
    · have hw44 := hw40.2 c42
      refine z_aloadn dX9_seek_64 rfl rfl ?_
      refine z_iconst (v := 0) dX9_seek_65 (by decide) ?_
      refine z_putI (j := 0) zc9 dX9_seek_66 (ho24.k 0 rfl) (ho24.lt 0 rfl) (by decide) rfl rfl (Or.inl rfl) (Or.inl w541) ?_
      refine z_nm (r := g21.2) rfl (fun I70 e71 => ?_)
      have hw72 := hw44 I70 e71
      exact z_ret (v := none) dX9_seek_69 rfl rfl hw72
  · have hw12 := hw6.1 c10
    exact z_ret (v := none) dX9_seek_22 rfl rfl hw12

theorem kX9_seek {l : Launch} {G : zG} {d : Nat} {Q : Option Value → zH → Prop} {k n : Nat} {h : zH} (a : Nat) (a1 : Nat) (r2 : Option Nat) (x3 : Int32) (x4 : Int32) (x5 : Int32) (hz : Z l G mX9_seek d Q k n 0 [va_rf (some a), va_rf (some a1), va_rf r2, .int x3, .int x4, .int x5, zU, zU] [] h) : CT l G YX9_seek d k n [va_rf (some a), va_rf (some a1), va_rf r2, .int x3, .int x4, .int x5] h Q :=
  CT.of (by decide +kernel) (fun t e => by cases e) (by cases r2 <;> exact Nat.le_of_ble_eq_true rfl) (by cases r2 <;> exact hz)

theorem sX9_fewestPrints_0 {l : Launch} {G : zG} {d : Nat} {Q : Option Value → zH → Prop} {k n : Nat} {h : zH} (a : Nat) (x1 : Int32) (x2 : Int32) (ha : lo9 h a) (hd9 : 5 ≤ d)
    (hw : (∃ P1, CTv l G YJ7_fill_53178 1 [va_rf (some (a + 3)), .int 1000] h P1 ∧ ∀ (I4 : Nat → Nat → Int32), P1 I4 → (∃ P10, CTv l G YX9_clearLayer 2 [va_rf (some a), .int 0] (I4, h.2) P10 ∧ ∀ (I13 : Nat → Nat → Int32), P10 I13 → (∀ I22 : Nat → Nat → Int32, I22 = (zput (I13, h.2) (some (a + 2)) x1 (0 : Int32)).1 → Z l G mX9_fewestPrints d Q k n 34 [va_rf (some a), .int x1, .int x2, .int 1000, .int 1, .int 0] [] (I22, h.2))))) :
    Z l G mX9_fewestPrints d Q k n 0 [va_rf (some a), .int x1, .int x2, zU, zU, zU] [] h := by
  refine z_aloadn dX9_fewestPrints_0 rfl rfl ?_
  refine z_getRq (j := 9) zc9 dX9_fewestPrints_1 (ha.k 0 rfl) (ha.lt 0 rfl) (by decide) rfl w555 (ha.r 2 rfl) ?_
  refine z_sipush (v := 1000) dX9_fewestPrints_4 (by decide) ?_
  obtain ⟨P1, ct2, hw3⟩ := hw
  refine z_callS (h := h) (S := []) (M := mX9_fewestPrints) (As := [va_rf (some (a + 3)), .int 1000]) eJ7_fill_53178 w300 (Or.inl w1295) dX9_fewestPrints_7 rfl (by omega) (Nat.le_of_ble_eq_true rfl) ct2 (fun v8 g9 q5 => ?_)
  obtain ⟨I4, rfl, rfl, q5⟩ := q5
  have hw7 := hw3 I4 q5
  show Z l G _ d Q k n 10 _ ([]) _
  refine z_aloadn dX9_fewestPrints_10 rfl rfl ?_
  refine z_iconst (v := 0) dX9_fewestPrints_11 (by decide) ?_
  obtain ⟨P10, ct11, hw12⟩ := hw7
  refine z_callV (h := (I4, h.2)) (S := []) (a := a) (M := mX9_fewestPrints) (As := [.int 0]) zc9 rfl eX9_clearLayer w1298 w75 (Or.inl w1296) dX9_fewestPrints_12 (ha.k 0 rfl) (ha.lt 0 rfl) rfl (by omega) (Nat.le_of_ble_eq_true rfl) ct11 (fun v17 g18 q14 => ?_)
  obtain ⟨I13, rfl, rfl, q14⟩ := q14
  have hw16 := hw12 I13 q14
  show Z l G _ d Q k n 15 _ ([]) _
  refine z_aloadn dX9_fewestPrints_15 rfl rfl ?_
  refine z_getRq (j := 8) zc9 dX9_fewestPrints_16 (ha.k 0 rfl) (ha.lt 0 rfl) (by decide) rfl w554 (ha.r 1 rfl) ?_
  refine z_iloadn dX9_fewestPrints_19 rfl rfl ?_
  refine z_iconst (v := 0) dX9_fewestPrints_20 (by decide) ?_
  refine z_callS (h := (I13, h.2)) (S := []) (M := mX9_fewestPrints) (As := [va_rf (some (a + 2)), .int x1, .int 0]) eX10_put w754 (Or.inr ⟨_, w1300⟩) dX9_fewestPrints_21 rfl (by omega) (Nat.le_of_ble_eq_true rfl) (c_X10_put l G (I13, h.2) (some (a + 2)) x1 (0 : Int32) (zpok_lo (ha.w 2 rfl) (by decide))) (fun v19 g20 q21 => ?_)
  obtain ⟨rfl, q21⟩ := q21
  replace q21 := q21.symm
  subst q21
  refine z_nm (r := h.2) rfl (fun I22 e23 => ?_)
  have hw24 := hw16 I22 e23
  refine z_sipush (v := 1000) dX9_fewestPrints_24 (by decide) ?_
  refine z_istoren (L' := [va_rf (some a), .int x1, .int x2, .int 1000, zU, zU]) dX9_fewestPrints_27 rfl (by decide) rfl ?_
  refine z_iconst (v := 1) dX9_fewestPrints_28 (by decide) ?_
  refine z_istore (L' := [va_rf (some a), .int x1, .int x2, .int 1000, .int 1, zU]) dX9_fewestPrints_29 (by decide) rfl ?_
  refine z_iconst (v := 0) dX9_fewestPrints_31 (by decide) ?_
  refine z_istore (L' := [va_rf (some a), .int x1, .int x2, .int 1000, .int 1, .int 0]) dX9_fewestPrints_32 (by decide) rfl ?_
  exact hw24

theorem sX9_fewestPrints_34 {l : Launch} {G : zG} {d : Nat} {Q : Option Value → zH → Prop} {k n : Nat} {h : zH} (a : Nat) (x1 : Int32) (x2 : Int32) (x3 : Int32) (x4 : Int32) (x5 : Int32) (ha : lo9 h a) (hd9 : 5 ≤ d)
    (hw : (((40 : Int) < x5.toInt → Q (some (.int x3)) h) ∧ (x5.toInt ≤ (40 : Int) → ((x4 = 0 → Q (some (.int x3)) h) ∧ (¬ x4 = 0 → ((x3.toInt ≤ (zcost h a x5 x2).toInt → (((40 : Int) ≤ x5.toInt → Z l G mX9_fewestPrints d Q k n 34 [va_rf (some a), .int x1, .int x2, .int x3, .int 0, .int ((x5 + 1))] [] h) ∧ (x5.toInt < (40 : Int) → (∃ P20, CTz l G YX9_spread 4 [va_rf (some a), .int x5, .int x3] h P20 ∧ ∀ (y25 : Bool) (I23 : Nat → Nat → Int32), P20 y25 I23 → ((y25 = false → Z l G mX9_fewestPrints d Q k n 34 [va_rf (some a), .int x1, .int x2, .int x3, .int 0, .int ((x5 + 1))] [] (I23, h.2)) ∧ (y25 = true → Z l G mX9_fewestPrints d Q k n 34 [va_rf (some a), .int x1, .int x2, .int x3, .int 1, .int ((x5 + 1))] [] (I23, h.2))))))) ∧ ((zcost h a x5 x2).toInt < x3.toInt → (∀ I36 : Nat → Nat → Int32, I36 = (zwI h a 1 x5).1 → (((40 : Int) ≤ x5.toInt → Z l G mX9_fewestPrints d Q k n 34 [va_rf (some a), .int x1, .int x2, .int (zcost h a x5 x2), .int 0, .int ((x5 + 1))] [] (I36, h.2)) ∧ (x5.toInt < (40 : Int) → (∃ P43, CTz l G YX9_spread 4 [va_rf (some a), .int x5, .int (zcost h a x5 x2)] (I36, h.2) P43 ∧ ∀ (y48 : Bool) (I46 : Nat → Nat → Int32), P43 y48 I46 → ((y48 = false → Z l G mX9_fewestPrints d Q k n 34 [va_rf (some a), .int x1, .int x2, .int (zcost h a x5 x2), .int 0, .int ((x5 + 1))] [] (I46, h.2)) ∧ (y48 = true → Z l G mX9_fewestPrints d Q k n 34 [va_rf (some a), .int x1, .int x2, .int (zcost h a x5 x2), .int 1, .int ((x5 + 1))] [] (I46, h.2)))))))))))))) :
    Z l G mX9_fewestPrints d Q k n 34 [va_rf (some a), .int x1, .int x2, .int x3, .int x4, .int x5] [] h := by
  refine z_iload dX9_fewestPrints_34 rfl ?_
  refine z_bipush (v := 40) dX9_fewestPrints_36 (by decide) ?_
  refine z_icmp_gt (t := 101) dX9_fewestPrints_38 (by decide) (fun c1 => ?_) (fun c2 => ?_)
  · have hw3 := hw.1 c1
    refine z_iloadn dX9_fewestPrints_101 rfl rfl ?_
    exact z_ret (v := some (.int x3)) dX9_fewestPrints_102 ⟨_, rfl, rfl⟩ rfl hw3
  · have hw4 := hw.2 c2
    refine z_iload dX9_fewestPrints_41 rfl ?_
    refine z_if_eq (t := 101) dX9_fewestPrints_43 (by decide) (fun c5 => ?_) (fun c6 => ?_)
    · have hw7 := hw4.1 c5
      refine z_iloadn dX9_fewestPrints_101 rfl rfl ?_
      exact z_ret (v := some (.int x3)) dX9_fewestPrints_102 ⟨_, rfl, rfl⟩ rfl hw7
    · have hw8 := hw4.2 c6
      refine z_aloadn dX9_fewestPrints_46 rfl rfl ?_
      refine z_iload dX9_fewestPrints_47 rfl ?_
      refine z_iloadn dX9_fewestPrints_49 rfl rfl ?_
      refine z_callV (h := h) (S := []) (a := a) (M := mX9_fewestPrints) (As := [.int x5, .int x2]) zc9 rfl eX9_costAt w1303 w76 (Or.inl w1301) dX9_fewestPrints_50 (ha.k 0 rfl) (ha.lt 0 rfl) rfl (by omega) (Nat.le_of_ble_eq_true rfl) (c_X9_costAt l G h a x5 x2 ha) (fun v9 g10 q11 => ?_)
      obtain ⟨rfl, q11⟩ := q11
      replace q11 := q11.symm
      subst q11
      show Z l G _ d Q k n 53 _ (.int (zcost h a x5 x2) :: []) _
      refine z_iloadn dX9_fewestPrints_53 rfl rfl ?_
      refine z_icmp_ge (t := 71) dX9_fewestPrints_54 (by decide) (fun c12 => ?_) (fun c13 => ?_)
      · have hw14 := hw8.1 c12
        refine z_iload dX9_fewestPrints_71 rfl ?_
        refine z_bipush (v := 40) dX9_fewestPrints_73 (by decide) ?_
        refine z_icmp_ge (t := 92) dX9_fewestPrints_75 (by decide) (fun c16 => ?_) (fun c17 => ?_)
        · have hw18 := hw14.1 c16
          refine z_iconst (v := 0) dX9_fewestPrints_92 (by decide) ?_
          refine z_istore (L' := [va_rf (some a), .int x1, .int x2, .int x3, .int 0, .int x5]) dX9_fewestPrints_93 (by decide) rfl ?_
          refine z_iinc (v := (x5 + 1)) (L' := [va_rf (some a), .int x1, .int x2, .int x3, .int 0, .int ((x5 + 1))]) dX9_fewestPrints_95 (by decide) rfl rfl rfl ?_
          refine z_goto (t := 34) dX9_fewestPrints_98 (by decide) ?_
          exact hw18
        · have hw19 := hw14.2 c17
          refine z_aloadn dX9_fewestPrints_78 rfl rfl ?_
          refine z_iload dX9_fewestPrints_79 rfl ?_
          refine z_iloadn dX9_fewestPrints_81 rfl rfl ?_
          obtain ⟨P20, ct21, hw22⟩ := hw19
          refine z_callV (h := h) (S := []) (a := a) (M := mX9_fewestPrints) (As := [.int x5, .int x3]) zc9 rfl eX9_spread w1308 w77 (Or.inl w1306) dX9_fewestPrints_82 (ha.k 0 rfl) (ha.lt 0 rfl) rfl (by omega) (Nat.le_of_ble_eq_true rfl) ct21 (fun v27 g28 q24 => ?_)
          obtain ⟨y25, I23, rfl, rfl, q24⟩ := q24
          have hw26 := hw22 y25 I23 q24
          show Z l G _ d Q k n 85 _ (.int (zb y25) :: []) _
          refine z_if_eq (t := 92) dX9_fewestPrints_85 (by decide) (fun c29 => ?_) (fun c30 => ?_)
          · have hw31 := hw26.1 (zb0 c29)
            refine z_iconst (v := 0) dX9_fewestPrints_92 (by decide) ?_
            refine z_istore (L' := [va_rf (some a), .int x1, .int x2, .int x3, .int 0, .int x5]) dX9_fewestPrints_93 (by decide) rfl ?_
            refine z_iinc (v := (x5 + 1)) (L' := [va_rf (some a), .int x1, .int x2, .int x3, .int 0, .int ((x5 + 1))]) dX9_fewestPrints_95 (by decide) rfl rfl rfl ?_
            refine z_goto (t := 34) dX9_fewestPrints_98 (by decide) ?_
            exact hw31
          · have hw32 := hw26.2 (zb1 c30)
            refine z_iconst (v := 1) dX9_fewestPrints_88 (by decide) ?_
            refine z_goto (t := 93) dX9_fewestPrints_89 (by decide) ?_
            refine z_istore (L' := [va_rf (some a), .int x1, .int x2, .int x3, .int 1, .int x5]) dX9_fewestPrints_93 (by decide) rfl ?_
            refine z_iinc (v := (x5 + 1)) (L' := [va_rf (some a), .int x1, .int x2, .int x3, .int 1, .int ((x5 + 1))]) dX9_fewestPrints_95 (by decide) rfl rfl rfl ?_
            refine z_goto (t := 34) dX9_fewestPrints_98 (by decide) ?_
            exact hw32
      · have hw15 := hw8.2 c13
        refine z_aloadn dX9_fewestPrints_57 rfl rfl ?_
        refine z_iload dX9_fewestPrints_58 rfl ?_
        refine z_iloadn dX9_fewestPrints_60 rfl rfl ?_
        refine z_callV (h := h) (S := []) (a := a) (M := mX9_fewestPrints) (As := [.int x5, .int x2]) zc9 rfl eX9_costAt w1303 w76 (Or.inl w1301) dX9_fewestPrints_61 (ha.k 0 rfl) (ha.lt 0 rfl) rfl (by omega) (Nat.le_of_ble_eq_true rfl) (c_X9_costAt l G h a x5 x2 ha) (fun v33 g34 q35 => ?_)
        obtain ⟨rfl, q35⟩ := q35
        replace q35 := q35.symm
        subst q35
        show Z l G _ d Q k n 64 _ (.int (zcost h a x5 x2) :: []) _
        refine z_istoren (L' := [va_rf (some a), .int x1, .int x2, .int (zcost h a x5 x2), .int x4, .int x5]) dX9_fewestPrints_64 rfl (by decide) rfl ?_
        refine z_aloadn dX9_fewestPrints_65 rfl rfl ?_
        refine z_iload dX9_fewestPrints_66 rfl ?_
        refine z_putI (j := 1) zc9 dX9_fewestPrints_68 (ha.k 0 rfl) (ha.lt 0 rfl) (by decide) rfl rfl (Or.inl rfl) (Or.inl w544) ?_
        refine z_nm (r := h.2) rfl (fun I36 e37 => ?_)
        have hw38 := hw15 I36 e37
        refine z_iload dX9_fewestPrints_71 rfl ?_
        refine z_bipush (v := 40) dX9_fewestPrints_73 (by decide) ?_
        refine z_icmp_ge (t := 92) dX9_fewestPrints_75 (by decide) (fun c39 => ?_) (fun c40 => ?_)
        · have hw41 := hw38.1 c39
          refine z_iconst (v := 0) dX9_fewestPrints_92 (by decide) ?_
          refine z_istore (L' := [va_rf (some a), .int x1, .int x2, .int (zcost h a x5 x2), .int 0, .int x5]) dX9_fewestPrints_93 (by decide) rfl ?_
          refine z_iinc (v := (x5 + 1)) (L' := [va_rf (some a), .int x1, .int x2, .int (zcost h a x5 x2), .int 0, .int ((x5 + 1))]) dX9_fewestPrints_95 (by decide) rfl rfl rfl ?_
          refine z_goto (t := 34) dX9_fewestPrints_98 (by decide) ?_
          exact hw41
        · have hw42 := hw38.2 c40
          refine z_aloadn dX9_fewestPrints_78 rfl rfl ?_
          refine z_iload dX9_fewestPrints_79 rfl ?_
          refine z_iloadn dX9_fewestPrints_81 rfl rfl ?_
          obtain ⟨P43, ct44, hw45⟩ := hw42
          refine z_callV (h := (I36, h.2)) (S := []) (a := a) (M := mX9_fewestPrints) (As := [.int x5, .int (zcost h a x5 x2)]) zc9 rfl eX9_spread w1308 w77 (Or.inl w1306) dX9_fewestPrints_82 (ha.k 0 rfl) (ha.lt 0 rfl) rfl (by omega) (Nat.le_of_ble_eq_true rfl) ct44 (fun v50 g51 q47 => ?_)
          obtain ⟨y48, I46, rfl, rfl, q47⟩ := q47
          have hw49 := hw45 y48 I46 q47
          show Z l G _ d Q k n 85 _ (.int (zb y48) :: []) _
          refine z_if_eq (t := 92) dX9_fewestPrints_85 (by decide) (fun c52 => ?_) (fun c53 => ?_)
          · have hw54 := hw49.1 (zb0 c52)
            refine z_iconst (v := 0) dX9_fewestPrints_92 (by decide) ?_
            refine z_istore (L' := [va_rf (some a), .int x1, .int x2, .int (zcost h a x5 x2), .int 0, .int x5]) dX9_fewestPrints_93 (by decide) rfl ?_
            refine z_iinc (v := (x5 + 1)) (L' := [va_rf (some a), .int x1, .int x2, .int (zcost h a x5 x2), .int 0, .int ((x5 + 1))]) dX9_fewestPrints_95 (by decide) rfl rfl rfl ?_
            refine z_goto (t := 34) dX9_fewestPrints_98 (by decide) ?_
            exact hw54
          · have hw55 := hw49.2 (zb1 c53)
            refine z_iconst (v := 1) dX9_fewestPrints_88 (by decide) ?_
            refine z_goto (t := 93) dX9_fewestPrints_89 (by decide) ?_
            refine z_istore (L' := [va_rf (some a), .int x1, .int x2, .int (zcost h a x5 x2), .int 1, .int x5]) dX9_fewestPrints_93 (by decide) rfl ?_
            refine z_iinc (v := (x5 + 1)) (L' := [va_rf (some a), .int x1, .int x2, .int (zcost h a x5 x2), .int 1, .int ((x5 + 1))]) dX9_fewestPrints_95 (by decide) rfl rfl rfl ?_
            refine z_goto (t := 34) dX9_fewestPrints_98 (by decide) ?_
            exact hw55

theorem kX9_fewestPrints {l : Launch} {G : zG} {d : Nat} {Q : Option Value → zH → Prop} {k n : Nat} {h : zH} (a : Nat) (x1 : Int32) (x2 : Int32) (hz : Z l G mX9_fewestPrints d Q k n 0 [va_rf (some a), .int x1, .int x2, zU, zU, zU] [] h) : CT l G YX9_fewestPrints d k n [va_rf (some a), .int x1, .int x2] h Q :=
  CT.of (by decide +kernel) (fun t e => by have e2 : ((some .int) : Option FieldType) = some t := e; cases e2; exact ⟨by decide, by decide⟩) (by exact Nat.le_of_ble_eq_true rfl) (by exact hz)

theorem sX9_clearLayer_0 {l : Launch} {G : zG} {d : Nat} {Q : Option Value → zH → Prop} {k n : Nat} {h : zH} (a : Nat) (x1 : Int32) (ha : lo9 h a) (hd9 : 2 ≤ d)
    (hw : Z l G mX9_clearLayer d Q k n 2 [va_rf (some a), .int x1, .int 0] [] h) :
    Z l G mX9_clearLayer d Q k n 0 [va_rf (some a), .int x1, zU] [] h := by
  refine z_iconst (v := 0) dX9_clearLayer_0 (by decide) ?_
  refine z_istoren (L' := [va_rf (some a), .int x1, .int 0]) dX9_clearLayer_1 rfl (by decide) rfl ?_
  exact hw

theorem sX9_clearLayer_2 {l : Launch} {G : zG} {d : Nat} {Q : Option Value → zH → Prop} {k n : Nat} {h : zH} (a : Nat) (x1 : Int32) (x2 : Int32) (ha : lo9 h a) (hd9 : 2 ≤ d)
    (hw : (((64 : Int) ≤ x2.toInt → Q none h) ∧ (x2.toInt < (64 : Int) → (∀ I8 : Nat → Nat → Int32, I8 = (zput h (some (a + 2)) ((x1 * 64) + x2) (1000 : Int32)).1 → Z l G mX9_clearLayer d Q k n 2 [va_rf (some a), .int x1, .int ((x2 + 1))] [] (I8, h.2))))) :
    Z l G mX9_clearLayer d Q k n 2 [va_rf (some a), .int x1, .int x2] [] h := by
  refine z_iloadn dX9_clearLayer_2 rfl rfl ?_
  refine z_bipush (v := 64) dX9_clearLayer_3 (by decide) ?_
  refine z_icmp_ge (t := 30) dX9_clearLayer_5 (by decide) (fun c1 => ?_) (fun c2 => ?_)
  · have hw3 := hw.1 c1
    exact z_ret (v := none) dX9_clearLayer_30 rfl rfl hw3
  · have hw4 := hw.2 c2
    refine z_aloadn dX9_clearLayer_8 rfl rfl ?_
    refine z_getRq (j := 8) zc9 dX9_clearLayer_9 (ha.k 0 rfl) (ha.lt 0 rfl) (by decide) rfl w554 (ha.r 1 rfl) ?_
    refine z_iloadn dX9_clearLayer_12 rfl rfl ?_
    refine z_bipush (v := 64) dX9_clearLayer_13 (by decide) ?_
    refine z_imul dX9_clearLayer_15 ?_
    refine z_iloadn dX9_clearLayer_16 rfl rfl ?_
    refine z_iadd dX9_clearLayer_17 ?_
    refine z_sipush (v := 1000) dX9_clearLayer_18 (by decide) ?_
    refine z_callS (h := h) (S := []) (M := mX9_clearLayer) (As := [va_rf (some (a + 2)), .int (((x1 * 64) + x2)), .int 1000]) eX10_put w754 (Or.inr ⟨_, w1300⟩) dX9_clearLayer_21 rfl (by omega) (Nat.le_of_ble_eq_true rfl) (c_X10_put l G h (some (a + 2)) ((x1 * 64) + x2) (1000 : Int32) (zpok_lo (ha.w 2 rfl) (by decide))) (fun v5 g6 q7 => ?_)
    obtain ⟨rfl, q7⟩ := q7
    replace q7 := q7.symm
    subst q7
    refine z_nm (r := h.2) rfl (fun I8 e9 => ?_)
    have hw10 := hw4 I8 e9
    refine z_iinc (v := (x2 + 1)) (L' := [va_rf (some a), .int x1, .int ((x2 + 1))]) dX9_clearLayer_24 (by decide) rfl rfl rfl ?_
    refine z_goto (t := 2) dX9_clearLayer_27 (by decide) ?_
    exact hw10

theorem kX9_clearLayer {l : Launch} {G : zG} {d : Nat} {Q : Option Value → zH → Prop} {k n : Nat} {h : zH} (a : Nat) (x1 : Int32) (hz : Z l G mX9_clearLayer d Q k n 0 [va_rf (some a), .int x1, zU] [] h) : CT l G YX9_clearLayer d k n [va_rf (some a), .int x1] h Q :=
  CT.of (by decide +kernel) (fun t e => by cases e) (by exact Nat.le_of_ble_eq_true rfl) (by exact hz)

theorem sX9_spread_0 {l : Launch} {G : zG} {d : Nat} {Q : Option Value → zH → Prop} {k n : Nat} {h : zH} (a : Nat) (x1 : Int32) (x2 : Int32) (ha : lo9 h a) (hd9 : 4 ≤ d)
    (hw : (∃ P1, CTv l G YX9_clearLayer 2 [va_rf (some a), .int ((x1 + 1))] h P1 ∧ ∀ (I4 : Nat → Nat → Int32), P1 I4 → Z l G mX9_spread d Q k n 12 [va_rf (some a), .int x1, .int x2, .int 0, .int 0, zU, zU] [] (I4, h.2))) :
    Z l G mX9_spread d Q k n 0 [va_rf (some a), .int x1, .int x2, zU, zU, zU, zU] [] h := by
  refine z_aloadn dX9_spread_0 rfl rfl ?_
  refine z_iloadn dX9_spread_1 rfl rfl ?_
  refine z_iconst (v := 1) dX9_spread_2 (by decide) ?_
  refine z_iadd dX9_spread_3 ?_
  obtain ⟨P1, ct2, hw3⟩ := hw
  refine z_callV (h := h) (S := []) (a := a) (M := mX9_spread) (As := [.int ((x1 + 1))]) zc9 rfl eX9_clearLayer w1298 w75 (Or.inl w1296) dX9_spread_4 (ha.k 0 rfl) (ha.lt 0 rfl) rfl (by omega) (Nat.le_of_ble_eq_true rfl) ct2 (fun v8 g9 q5 => ?_)
  obtain ⟨I4, rfl, rfl, q5⟩ := q5
  have hw7 := hw3 I4 q5
  show Z l G _ d Q k n 7 _ ([]) _
  refine z_iconst (v := 0) dX9_spread_7 (by decide) ?_
  refine z_istoren (L' := [va_rf (some a), .int x1, .int x2, .int 0, zU, zU, zU]) dX9_spread_8 rfl (by decide) rfl ?_
  refine z_iconst (v := 0) dX9_spread_9 (by decide) ?_
  refine z_istore (L' := [va_rf (some a), .int x1, .int x2, .int 0, .int 0, zU, zU]) dX9_spread_10 (by decide) rfl ?_
  exact hw7

theorem sX9_spread_12 {l : Launch} {G : zG} {d : Nat} {Q : Option Value → zH → Prop} {k n : Nat} {h : zH} (a : Nat) (x1 : Int32) (x2 : Int32) (x3 : Bool) (x4 : Int32) (u5 : Value) (u6 : Value) (ha : lo9 h a) (hd9 : 4 ≤ d)
    (hw : (∃ b1, zR h a 3 = some b1 ∧ lo1 h b1 ∧ (((zcells h b1).toInt ≤ x4.toInt → Q (some (.int (zb x3))) h) ∧ (x4.toInt < (zcells h b1).toInt → ((x2.toInt ≤ (zcost h a x1 x4).toInt → Z l G mX9_spread d Q k n 12 [va_rf (some a), .int x1, .int x2, .int (zb x3), .int ((x4 + 1)), .int (zcost h a x1 x4), .int ((((zrem x1 2) * 64) + x4))] [] h) ∧ ((zcost h a x1 x4).toInt < x2.toInt → (((zget h (some (a + 3)) (((zrem x1 2) * 64) + x4)).toInt ≤ (zcost h a x1 x4).toInt → Z l G mX9_spread d Q k n 12 [va_rf (some a), .int x1, .int x2, .int (zb x3), .int ((x4 + 1)), .int (zcost h a x1 x4), .int ((((zrem x1 2) * 64) + x4))] [] h) ∧ ((zcost h a x1 x4).toInt < (zget h (some (a + 3)) (((zrem x1 2) * 64) + x4)).toInt → ((x1.toInt ≤ (0 : Int) → (∃ P30, CTv l G YX9_reachFrom 3 [va_rf (some a), .int x1, .int x4, .int (zcost h a x1 x4)] h P30 ∧ ∀ (I33 : Nat → Nat → Int32), P30 I33 → Z l G mX9_spread d Q k n 12 [va_rf (some a), .int x1, .int x2, .int 1, .int ((x4 + 1)), .int (zcost h a x1 x4), .int ((((zrem x1 2) * 64) + x4))] [] (I33, h.2))) ∧ ((0 : Int) < x1.toInt → (∀ I42 : Nat → Nat → Int32, I42 = (zput h (some (a + 3)) (((zrem x1 2) * 64) + x4) (zcost h a x1 x4)).1 → (∃ P45, CTv l G YX9_reachFrom 3 [va_rf (some a), .int x1, .int x4, .int (zcost h a x1 x4)] (I42, h.2) P45 ∧ ∀ (I48 : Nat → Nat → Int32), P45 I48 → Z l G mX9_spread d Q k n 12 [va_rf (some a), .int x1, .int x2, .int 1, .int ((x4 + 1)), .int (zcost h a x1 x4), .int ((((zrem x1 2) * 64) + x4))] [] (I48, h.2))))))))))))) :
    Z l G mX9_spread d Q k n 12 [va_rf (some a), .int x1, .int x2, .int (zb x3), .int x4, u5, u6] [] h := by
  refine z_iload dX9_spread_12 rfl ?_
  refine z_aloadn dX9_spread_14 rfl rfl ?_
  refine z_getRq (j := 3) zc9 dX9_spread_15 (ha.k 0 rfl) (ha.lt 0 rfl) (by decide) rfl w549 rfl ?_
  obtain ⟨b1, q2, ho3, hw4⟩ := hw
  refine z_soP [] q2 ?_
  refine z_callV (h := h) (S := [.int x4]) (a := b1) (M := mX9_spread) (As := []) zc1 rfl eX1_cells w930 w23 (Or.inr ⟨_, w1310⟩) dX9_spread_18 (ho3.k 0 rfl) (ho3.lt 0 rfl) rfl (by omega) (Nat.le_of_ble_eq_true rfl) (c_X1_cells l G h b1 ho3) (fun v5 g6 q7 => ?_)
  obtain ⟨rfl, q7⟩ := q7
  replace q7 := q7.symm
  subst q7
  show Z l G _ d Q k n 21 _ (.int (zcells h b1) :: .int x4 :: []) _
  refine z_icmp_ge (t := 96) dX9_spread_21 (by decide) (fun c8 => ?_) (fun c9 => ?_)
  · have hw10 := hw4.1 c8
    refine z_iloadn dX9_spread_96 rfl rfl ?_
    exact z_ret (v := some (.int (zb x3))) dX9_spread_97 (zb_fit _) rfl hw10
  · have hw11 := hw4.2 c9
    refine z_aloadn dX9_spread_24 rfl rfl ?_
    refine z_iloadn dX9_spread_25 rfl rfl ?_
    refine z_iload dX9_spread_26 rfl ?_
    refine z_callV (h := h) (S := []) (a := a) (M := mX9_spread) (As := [.int x1, .int x4]) zc9 rfl eX9_costAt w1303 w76 (Or.inl w1301) dX9_spread_28 (ha.k 0 rfl) (ha.lt 0 rfl) rfl (by omega) (Nat.le_of_ble_eq_true rfl) (c_X9_costAt l G h a x1 x4 ha) (fun v12 g13 q14 => ?_)
    obtain ⟨rfl, q14⟩ := q14
    replace q14 := q14.symm
    subst q14
    show Z l G _ d Q k n 31 _ (.int (zcost h a x1 x4) :: []) _
    refine z_istore (L' := [va_rf (some a), .int x1, .int x2, .int (zb x3), .int x4, .int (zcost h a x1 x4), u6]) dX9_spread_31 (by decide) rfl ?_
    refine z_iloadn dX9_spread_33 rfl rfl ?_
    refine z_iconst (v := 2) dX9_spread_34 (by decide) ?_
    refine z_irem dX9_spread_35 (by decide) ?_
    refine z_bipush (v := 64) dX9_spread_36 (by decide) ?_
    refine z_imul dX9_spread_38 ?_
    refine z_iload dX9_spread_39 rfl ?_
    refine z_iadd dX9_spread_41 ?_
    refine z_istore (L' := [va_rf (some a), .int x1, .int x2, .int (zb x3), .int x4, .int (zcost h a x1 x4), .int ((((zrem x1 2) * 64) + x4))]) dX9_spread_42 (by decide) rfl ?_
    refine z_iload dX9_spread_44 rfl ?_
    refine z_iloadn dX9_spread_46 rfl rfl ?_
    refine z_icmp_ge (t := 90) dX9_spread_47 (by decide) (fun c15 => ?_) (fun c16 => ?_)
    · have hw17 := hw11.1 c15
      refine z_iinc (v := (x4 + 1)) (L' := [va_rf (some a), .int x1, .int x2, .int (zb x3), .int ((x4 + 1)), .int (zcost h a x1 x4), .int ((((zrem x1 2) * 64) + x4))]) dX9_spread_90 (by decide) rfl rfl rfl ?_
      refine z_goto (t := 12) dX9_spread_93 (by decide) ?_
      exact hw17
    · have hw18 := hw11.2 c16
      refine z_iload dX9_spread_50 rfl ?_
      refine z_aloadn dX9_spread_52 rfl rfl ?_
      refine z_getRq (j := 9) zc9 dX9_spread_53 (ha.k 0 rfl) (ha.lt 0 rfl) (by decide) rfl w555 (ha.r 2 rfl) ?_
      refine z_iload dX9_spread_56 rfl ?_
      refine z_callS (h := h) (S := [.int (zcost h a x1 x4)]) (M := mX9_spread) (As := [va_rf (some (a + 3)), .int ((((zrem x1 2) * 64) + x4))]) eX10_get w778 (Or.inr ⟨_, w1305⟩) dX9_spread_58 rfl (by omega) (Nat.le_of_ble_eq_true rfl) (c_X10_get l G h (some (a + 3)) (((zrem x1 2) * 64) + x4) (zgok_lo (ha.w 3 rfl) (by decide))) (fun v19 g20 q21 => ?_)
      obtain ⟨rfl, q21⟩ := q21
      replace q21 := q21.symm
      subst q21
      show Z l G _ d Q k n 61 _ (.int (zget h (some (a + 3)) (((zrem x1 2) * 64) + x4)) :: .int (zcost h a x1 x4) :: []) _
      refine z_icmp_ge (t := 90) dX9_spread_61 (by decide) (fun c22 => ?_) (fun c23 => ?_)
      · have hw24 := hw18.1 c22
        refine z_iinc (v := (x4 + 1)) (L' := [va_rf (some a), .int x1, .int x2, .int (zb x3), .int ((x4 + 1)), .int (zcost h a x1 x4), .int ((((zrem x1 2) * 64) + x4))]) dX9_spread_90 (by decide) rfl rfl rfl ?_
        refine z_goto (t := 12) dX9_spread_93 (by decide) ?_
        exact hw24
      · have hw25 := hw18.2 c23
        refine z_iconst (v := 1) dX9_spread_64 (by decide) ?_
        refine z_istoren (L' := [va_rf (some a), .int x1, .int x2, .int 1, .int x4, .int (zcost h a x1 x4), .int ((((zrem x1 2) * 64) + x4))]) dX9_spread_65 rfl (by decide) rfl ?_
        refine z_iloadn dX9_spread_66 rfl rfl ?_
        refine z_if_le (t := 81) dX9_spread_67 (by decide) (fun c26 => ?_) (fun c27 => ?_)
        · have hw28 := hw25.1 c26
          refine z_aloadn dX9_spread_81 rfl rfl ?_
          refine z_iloadn dX9_spread_82 rfl rfl ?_
          refine z_iload dX9_spread_83 rfl ?_
          refine z_iload dX9_spread_85 rfl ?_
          obtain ⟨P30, ct31, hw32⟩ := hw28
          refine z_callV (h := h) (S := []) (a := a) (M := mX9_spread) (As := [.int x1, .int x4, .int (zcost h a x1 x4)]) zc9 rfl eX9_reachFrom w1313 w78 (Or.inl w1311) dX9_spread_87 (ha.k 0 rfl) (ha.lt 0 rfl) rfl (by omega) (Nat.le_of_ble_eq_true rfl) ct31 (fun v37 g38 q34 => ?_)
          obtain ⟨I33, rfl, rfl, q34⟩ := q34
          have hw36 := hw32 I33 q34
          show Z l G _ d Q k n 90 _ ([]) _
          refine z_iinc (v := (x4 + 1)) (L' := [va_rf (some a), .int x1, .int x2, .int 1, .int ((x4 + 1)), .int (zcost h a x1 x4), .int ((((zrem x1 2) * 64) + x4))]) dX9_spread_90 (by decide) rfl rfl rfl ?_
          refine z_goto (t := 12) dX9_spread_93 (by decide) ?_
          exact hw36
        · have hw29 := hw25.2 c27
          refine z_aloadn dX9_spread_70 rfl rfl ?_
          refine z_getRq (j := 9) zc9 dX9_spread_71 (ha.k 0 rfl) (ha.lt 0 rfl) (by decide) rfl w555 (ha.r 2 rfl) ?_
          refine z_iload dX9_spread_74 rfl ?_
          refine z_iload dX9_spread_76 rfl ?_
          refine z_callS (h := h) (S := []) (M := mX9_spread) (As := [va_rf (some (a + 3)), .int ((((zrem x1 2) * 64) + x4)), .int (zcost h a x1 x4)]) eX10_put w754 (Or.inr ⟨_, w1300⟩) dX9_spread_78 rfl (by omega) (Nat.le_of_ble_eq_true rfl) (c_X10_put l G h (some (a + 3)) (((zrem x1 2) * 64) + x4) (zcost h a x1 x4) (zpok_lo (ha.w 3 rfl) (by decide))) (fun v39 g40 q41 => ?_)
          obtain ⟨rfl, q41⟩ := q41
          replace q41 := q41.symm
          subst q41
          refine z_nm (r := h.2) rfl (fun I42 e43 => ?_)
          have hw44 := hw29 I42 e43
          refine z_aloadn dX9_spread_81 rfl rfl ?_
          refine z_iloadn dX9_spread_82 rfl rfl ?_
          refine z_iload dX9_spread_83 rfl ?_
          refine z_iload dX9_spread_85 rfl ?_
          obtain ⟨P45, ct46, hw47⟩ := hw44
          refine z_callV (h := (I42, h.2)) (S := []) (a := a) (M := mX9_spread) (As := [.int x1, .int x4, .int (zcost h a x1 x4)]) zc9 rfl eX9_reachFrom w1313 w78 (Or.inl w1311) dX9_spread_87 (ha.k 0 rfl) (ha.lt 0 rfl) rfl (by omega) (Nat.le_of_ble_eq_true rfl) ct46 (fun v52 g53 q49 => ?_)
          obtain ⟨I48, rfl, rfl, q49⟩ := q49
          have hw51 := hw47 I48 q49
          show Z l G _ d Q k n 90 _ ([]) _
          refine z_iinc (v := (x4 + 1)) (L' := [va_rf (some a), .int x1, .int x2, .int 1, .int ((x4 + 1)), .int (zcost h a x1 x4), .int ((((zrem x1 2) * 64) + x4))]) dX9_spread_90 (by decide) rfl rfl rfl ?_
          refine z_goto (t := 12) dX9_spread_93 (by decide) ?_
          exact hw51

theorem kX9_spread {l : Launch} {G : zG} {d : Nat} {Q : Option Value → zH → Prop} {k n : Nat} {h : zH} (a : Nat) (x1 : Int32) (x2 : Int32) (hz : Z l G mX9_spread d Q k n 0 [va_rf (some a), .int x1, .int x2, zU, zU, zU, zU] [] h) : CT l G YX9_spread d k n [va_rf (some a), .int x1, .int x2] h Q :=
  CT.of (by decide +kernel) (fun t e => by have e2 : ((some .boolean) : Option FieldType) = some t := e; cases e2; exact ⟨by decide, by decide⟩) (by exact Nat.le_of_ble_eq_true rfl) (by exact hz)

theorem sX9_reachFrom_0 {l : Launch} {G : zG} {d : Nat} {Q : Option Value → zH → Prop} {k n : Nat} {h : zH} (a : Nat) (x1 : Int32) (x2 : Int32) (x3 : Int32) (ha : lo9 h a) (hd9 : 3 ≤ d)
    (hw : Z l G mX9_reachFrom d Q k n 3 [va_rf (some a), .int x1, .int x2, .int x3, .int 0, zU, zU] [] h) :
    Z l G mX9_reachFrom d Q k n 0 [va_rf (some a), .int x1, .int x2, .int x3, zU, zU, zU] [] h := by
  refine z_iconst (v := 0) dX9_reachFrom_0 (by decide) ?_
  refine z_istore (L' := [va_rf (some a), .int x1, .int x2, .int x3, .int 0, zU, zU]) dX9_reachFrom_1 (by decide) rfl ?_
  exact hw

theorem sX9_reachFrom_3 {l : Launch} {G : zG} {d : Nat} {Q : Option Value → zH → Prop} {k n : Nat} {h : zH} (a : Nat) (x1 : Int32) (x2 : Int32) (x3 : Int32) (x4 : Int32) (u5 : Value) (u6 : Value) (ha : lo9 h a) (hd9 : 3 ≤ d)
    (hw : (((4 : Int) ≤ x4.toInt → Q none h) ∧ (x4.toInt < (4 : Int) → (∃ b5, zR h a 3 = some b5 ∧ lo1 h b5 ∧ ((zbes (zI h b5 0) (zI h b5 1) x2 x4 (zI h a 6) = (-1) → Z l G mX9_reachFrom d Q k n 3 [va_rf (some a), .int x1, .int x2, .int x3, .int ((x4 + 1)), .int (zbes (zI h b5 0) (zI h b5 1) x2 x4 (zI h a 6)), u6] [] h) ∧ (¬ zbes (zI h b5 0) (zI h b5 1) x2 x4 (zI h a 6) = (-1) → (∃ P19, CTi l G YX9_priceOf 2 [va_rf (some a), .int x1, .int x2, .int x4, .int (zbes (zI h b5 0) (zI h b5 1) x2 x4 (zI h a 6))] h P19 ∧ ∀ (y24 : Int32) (I22 : Nat → Nat → Int32), P19 y24 I22 → (∀ I31 : Nat → Nat → Int32, I31 = (zput (I22, h.2) (some (a + 2)) (((x1 + 1) * 64) + (zbes (zI h b5 0) (zI h b5 1) x2 x4 (zI h a 6))) (imin (zcost h a (x1 + 1) (zbes (zI h b5 0) (zI h b5 1) x2 x4 (zI h a 6))) (x3 + y24))).1 → Z l G mX9_reachFrom d Q k n 3 [va_rf (some a), .int x1, .int x2, .int x3, .int ((x4 + 1)), .int (zbes (zI h b5 0) (zI h b5 1) x2 x4 (zI h a 6)), .int ((imin (zcost h a (x1 + 1) (zbes (zI h b5 0) (zI h b5 1) x2 x4 (zI h a 6))) (x3 + y24)))] [] (I31, h.2))))))))) :
    Z l G mX9_reachFrom d Q k n 3 [va_rf (some a), .int x1, .int x2, .int x3, .int x4, u5, u6] [] h := by
  refine z_iload dX9_reachFrom_3 rfl ?_
  refine z_iconst (v := 4) dX9_reachFrom_5 (by decide) ?_
  refine z_icmp_ge (t := 81) dX9_reachFrom_6 (by decide) (fun c1 => ?_) (fun c2 => ?_)
  · have hw3 := hw.1 c1
    exact z_ret (v := none) dX9_reachFrom_81 rfl rfl hw3
  · have hw4 := hw.2 c2
    refine z_aloadn dX9_reachFrom_9 rfl rfl ?_
    refine z_getRq (j := 3) zc9 dX9_reachFrom_10 (ha.k 0 rfl) (ha.lt 0 rfl) (by decide) rfl w549 rfl ?_
    refine z_iloadn dX9_reachFrom_13 rfl rfl ?_
    refine z_iload dX9_reachFrom_14 rfl ?_
    refine z_aloadn dX9_reachFrom_16 rfl rfl ?_
    refine z_getI (j := 6) zc9 dX9_reachFrom_17 (ha.k 0 rfl) (ha.lt 0 rfl) (by decide) rfl w552 ?_
    obtain ⟨b5, q6, ho7, hw8⟩ := hw4
    refine z_soP [.int (zI h a 6), .int x4, .int x2] q6 ?_
    refine z_callV (h := h) (S := []) (a := b5) (M := mX9_reachFrom) (As := [.int x2, .int x4, .int (zI h a 6)]) zc1 rfl eX1_beside w1030 w38 (Or.inr ⟨_, w1315⟩) dX9_reachFrom_20 (ho7.k 0 rfl) (ho7.lt 0 rfl) rfl (by omega) (Nat.le_of_ble_eq_true rfl) (c_X1_beside l G h b5 x2 x4 (zI h a 6) ho7) (fun v9 g10 q11 => ?_)
    obtain ⟨rfl, q11⟩ := q11
    replace q11 := q11.symm
    subst q11
    show Z l G _ d Q k n 23 _ (.int (zbes (zI h b5 0) (zI h b5 1) x2 x4 (zI h a 6)) :: []) _
    refine z_istore (L' := [va_rf (some a), .int x1, .int x2, .int x3, .int x4, .int (zbes (zI h b5 0) (zI h b5 1) x2 x4 (zI h a 6)), u6]) dX9_reachFrom_23 (by decide) rfl ?_
    refine z_iload dX9_reachFrom_25 rfl ?_
    refine z_iconst (v := (-1)) dX9_reachFrom_27 (by decide) ?_
    refine z_icmp_eq (t := 75) dX9_reachFrom_28 (by decide) (fun c12 => ?_) (fun c13 => ?_)
    · have hw14 := hw8.1 c12
      refine z_iinc (v := (x4 + 1)) (L' := [va_rf (some a), .int x1, .int x2, .int x3, .int ((x4 + 1)), .int (zbes (zI h b5 0) (zI h b5 1) x2 x4 (zI h a 6)), u6]) dX9_reachFrom_75 (by decide) rfl rfl rfl ?_
      refine z_goto (t := 3) dX9_reachFrom_78 (by decide) ?_
      exact hw14
    · have hw15 := hw8.2 c13
      refine z_aloadn dX9_reachFrom_31 rfl rfl ?_
      refine z_iloadn dX9_reachFrom_32 rfl rfl ?_
      refine z_iconst (v := 1) dX9_reachFrom_33 (by decide) ?_
      refine z_iadd dX9_reachFrom_34 ?_
      refine z_iload dX9_reachFrom_35 rfl ?_
      refine z_callV (h := h) (S := []) (a := a) (M := mX9_reachFrom) (As := [.int ((x1 + 1)), .int (zbes (zI h b5 0) (zI h b5 1) x2 x4 (zI h a 6))]) zc9 rfl eX9_costAt w1303 w76 (Or.inl w1301) dX9_reachFrom_37 (ha.k 0 rfl) (ha.lt 0 rfl) rfl (by omega) (Nat.le_of_ble_eq_true rfl) (c_X9_costAt l G h a (x1 + 1) (zbes (zI h b5 0) (zI h b5 1) x2 x4 (zI h a 6)) ha) (fun v16 g17 q18 => ?_)
      obtain ⟨rfl, q18⟩ := q18
      replace q18 := q18.symm
      subst q18
      show Z l G _ d Q k n 40 _ (.int (zcost h a (x1 + 1) (zbes (zI h b5 0) (zI h b5 1) x2 x4 (zI h a 6))) :: []) _
      refine z_iloadn dX9_reachFrom_40 rfl rfl ?_
      refine z_aloadn dX9_reachFrom_41 rfl rfl ?_
      refine z_iloadn dX9_reachFrom_42 rfl rfl ?_
      refine z_iloadn dX9_reachFrom_43 rfl rfl ?_
      refine z_iload dX9_reachFrom_44 rfl ?_
      refine z_iload dX9_reachFrom_46 rfl ?_
      obtain ⟨P19, ct20, hw21⟩ := hw15
      refine z_callV (h := h) (S := [.int x3, .int (zcost h a (x1 + 1) (zbes (zI h b5 0) (zI h b5 1) x2 x4 (zI h a 6)))]) (a := a) (M := mX9_reachFrom) (As := [.int x1, .int x2, .int x4, .int (zbes (zI h b5 0) (zI h b5 1) x2 x4 (zI h a 6))]) zc9 rfl eX9_priceOf w1318 w79 (Or.inl w1316) dX9_reachFrom_48 (ha.k 0 rfl) (ha.lt 0 rfl) rfl (by omega) (Nat.le_of_ble_eq_true rfl) ct20 (fun v26 g27 q23 => ?_)
      obtain ⟨y24, I22, rfl, rfl, q23⟩ := q23
      have hw25 := hw21 y24 I22 q23
      show Z l G _ d Q k n 51 _ (.int y24 :: .int x3 :: .int (zcost h a (x1 + 1) (zbes (zI h b5 0) (zI h b5 1) x2 x4 (zI h a 6))) :: []) _
      refine z_iadd dX9_reachFrom_51 ?_
      refine z_min dX9_reachFrom_52 w1321 w882 w186 w883 (by omega) (Nat.le_of_ble_eq_true rfl) ?_
      show Z l G _ d Q k n 55 _ (.int ((imin (zcost h a (x1 + 1) (zbes (zI h b5 0) (zI h b5 1) x2 x4 (zI h a 6))) (x3 + y24))) :: []) _
      refine z_istore (L' := [va_rf (some a), .int x1, .int x2, .int x3, .int x4, .int (zbes (zI h b5 0) (zI h b5 1) x2 x4 (zI h a 6)), .int ((imin (zcost h a (x1 + 1) (zbes (zI h b5 0) (zI h b5 1) x2 x4 (zI h a 6))) (x3 + y24)))]) dX9_reachFrom_55 (by decide) rfl ?_
      refine z_aloadn dX9_reachFrom_57 rfl rfl ?_
      refine z_getRq (j := 8) zc9 dX9_reachFrom_58 (ha.k 0 rfl) (ha.lt 0 rfl) (by decide) rfl w554 (ha.r 1 rfl) ?_
      refine z_iloadn dX9_reachFrom_61 rfl rfl ?_
      refine z_iconst (v := 1) dX9_reachFrom_62 (by decide) ?_
      refine z_iadd dX9_reachFrom_63 ?_
      refine z_bipush (v := 64) dX9_reachFrom_64 (by decide) ?_
      refine z_imul dX9_reachFrom_66 ?_
      refine z_iload dX9_reachFrom_67 rfl ?_
      refine z_iadd dX9_reachFrom_69 ?_
      refine z_iload dX9_reachFrom_70 rfl ?_
      refine z_callS (h := (I22, h.2)) (S := []) (M := mX9_reachFrom) (As := [va_rf (some (a + 2)), .int ((((x1 + 1) * 64) + (zbes (zI h b5 0) (zI h b5 1) x2 x4 (zI h a 6)))), .int ((imin (zcost h a (x1 + 1) (zbes (zI h b5 0) (zI h b5 1) x2 x4 (zI h a 6))) (x3 + y24)))]) eX10_put w754 (Or.inr ⟨_, w1300⟩) dX9_reachFrom_72 rfl (by omega) (Nat.le_of_ble_eq_true rfl) (c_X10_put l G (I22, h.2) (some (a + 2)) (((x1 + 1) * 64) + (zbes (zI h b5 0) (zI h b5 1) x2 x4 (zI h a 6))) (imin (zcost h a (x1 + 1) (zbes (zI h b5 0) (zI h b5 1) x2 x4 (zI h a 6))) (x3 + y24)) (zpok_lo (ha.w 2 rfl) (by decide))) (fun v28 g29 q30 => ?_)
      obtain ⟨rfl, q30⟩ := q30
      replace q30 := q30.symm
      subst q30
      refine z_nm (r := h.2) rfl (fun I31 e32 => ?_)
      have hw33 := hw25 I31 e32
      refine z_iinc (v := (x4 + 1)) (L' := [va_rf (some a), .int x1, .int x2, .int x3, .int ((x4 + 1)), .int (zbes (zI h b5 0) (zI h b5 1) x2 x4 (zI h a 6)), .int ((imin (zcost h a (x1 + 1) (zbes (zI h b5 0) (zI h b5 1) x2 x4 (zI h a 6))) (x3 + y24)))]) dX9_reachFrom_75 (by decide) rfl rfl rfl ?_
      refine z_goto (t := 3) dX9_reachFrom_78 (by decide) ?_
      exact hw33

theorem kX9_reachFrom {l : Launch} {G : zG} {d : Nat} {Q : Option Value → zH → Prop} {k n : Nat} {h : zH} (a : Nat) (x1 : Int32) (x2 : Int32) (x3 : Int32) (hz : Z l G mX9_reachFrom d Q k n 0 [va_rf (some a), .int x1, .int x2, .int x3, zU, zU, zU] [] h) : CT l G YX9_reachFrom d k n [va_rf (some a), .int x1, .int x2, .int x3] h Q :=
  CT.of (by decide +kernel) (fun t e => by cases e) (by exact Nat.le_of_ble_eq_true rfl) (by exact hz)

theorem sX9_priceOf_0 {l : Launch} {G : zG} {d : Nat} {Q : Option Value → zH → Prop} {k n : Nat} {h : zH} (a : Nat) (x1 : Int32) (x2 : Int32) (x3 : Int32) (x4 : Int32) (ha : lo9 h a) (hd9 : 2 ≤ d)
    (hw : ((zgok h (zR h a 4)) ∧ ((¬ zget h (zR h a 4) x4 = zshape (zI h a 5) (zrem (x1 + 1) 2) x3 → ((¬ x1 = 0 → Q (some (.int 1)) h) ∧ (x1 = 0 → ((zgok h (zR h a 4)) ∧ ((zget h (zR h a 4) x2 = zshape (zI h a 5) (0 : Int32) x3 → Q (some (.int 1)) h) ∧ (¬ zget h (zR h a 4) x2 = zshape (zI h a 5) (0 : Int32) x3 → Q (some (.int ((1 + 1)))) h)))))) ∧ (zget h (zR h a 4) x4 = zshape (zI h a 5) (zrem (x1 + 1) 2) x3 → ((¬ x1 = 0 → Q (some (.int 0)) h) ∧ (x1 = 0 → ((zgok h (zR h a 4)) ∧ ((zget h (zR h a 4) x2 = zshape (zI h a 5) (0 : Int32) x3 → Q (some (.int 0)) h) ∧ (¬ zget h (zR h a 4) x2 = zshape (zI h a 5) (0 : Int32) x3 → Q (some (.int ((0 + 1)))) h))))))))) :
    Z l G mX9_priceOf d Q k n 0 [va_rf (some a), .int x1, .int x2, .int x3, .int x4, zU] [] h := by
  refine z_aloadn dX9_priceOf_0 rfl rfl ?_
  refine z_getRq (j := 4) zc9 dX9_priceOf_1 (ha.k 0 rfl) (ha.lt 0 rfl) (by decide) rfl w550 rfl ?_
  refine z_iload dX9_priceOf_4 rfl ?_
  have hw1 := hw.2
  refine z_callS (h := h) (S := []) (M := mX9_priceOf) (As := [va_rf (zR h a 4), .int x4]) eX10_get w778 (Or.inr ⟨_, w1305⟩) dX9_priceOf_6 rfl (by omega) (Nat.le_of_ble_eq_true rfl) (c_X10_get l G h (zR h a 4) x4 hw.1) (fun v2 g3 q4 => ?_)
  obtain ⟨rfl, q4⟩ := q4
  replace q4 := q4.symm
  subst q4
  show Z l G _ d Q k n 9 _ (.int (zget h (zR h a 4) x4) :: []) _
  refine z_aloadn dX9_priceOf_9 rfl rfl ?_
  refine z_getI (j := 5) zc9 dX9_priceOf_10 (ha.k 0 rfl) (ha.lt 0 rfl) (by decide) rfl w551 ?_
  refine z_iloadn dX9_priceOf_13 rfl rfl ?_
  refine z_iconst (v := 1) dX9_priceOf_14 (by decide) ?_
  refine z_iadd dX9_priceOf_15 ?_
  refine z_iconst (v := 2) dX9_priceOf_16 (by decide) ?_
  refine z_irem dX9_priceOf_17 (by decide) ?_
  refine z_iloadn dX9_priceOf_18 rfl rfl ?_
  refine z_callS (h := h) (S := [.int (zget h (zR h a 4) x4)]) (M := mX9_priceOf) (As := [.int (zI h a 5), .int ((zrem (x1 + 1) 2)), .int x3]) eX10_shape w1092 (Or.inr ⟨_, w1320⟩) dX9_priceOf_19 rfl (by omega) (Nat.le_of_ble_eq_true rfl) (c_X10_shape l G h (zI h a 5) (zrem (x1 + 1) 2) x3) (fun v5 g6 q7 => ?_)
  obtain ⟨rfl, q7⟩ := q7
  replace q7 := q7.symm
  subst q7
  show Z l G _ d Q k n 22 _ (.int (zshape (zI h a 5) (zrem (x1 + 1) 2) x3) :: .int (zget h (zR h a 4) x4) :: []) _
  refine z_icmp_ne (t := 29) dX9_priceOf_22 (by decide) (fun c8 => ?_) (fun c9 => ?_)
  · have hw10 := hw1.1 c8
    refine z_iconst (v := 1) dX9_priceOf_29 (by decide) ?_
    refine z_istore (L' := [va_rf (some a), .int x1, .int x2, .int x3, .int x4, .int 1]) dX9_priceOf_30 (by decide) rfl ?_
    refine z_iloadn dX9_priceOf_32 rfl rfl ?_
    refine z_if_ne (t := 63) dX9_priceOf_33 (by decide) (fun c12 => ?_) (fun c13 => ?_)
    · have hw14 := hw10.1 c12
      refine z_iload dX9_priceOf_63 rfl ?_
      exact z_ret (v := some (.int 1)) dX9_priceOf_65 ⟨_, rfl, rfl⟩ rfl hw14
    · have hw15 := hw10.2 c13
      refine z_aloadn dX9_priceOf_36 rfl rfl ?_
      refine z_getRq (j := 4) zc9 dX9_priceOf_37 (ha.k 0 rfl) (ha.lt 0 rfl) (by decide) rfl w550 rfl ?_
      refine z_iloadn dX9_priceOf_40 rfl rfl ?_
      have hw16 := hw15.2
      refine z_callS (h := h) (S := []) (M := mX9_priceOf) (As := [va_rf (zR h a 4), .int x2]) eX10_get w778 (Or.inr ⟨_, w1305⟩) dX9_priceOf_41 rfl (by omega) (Nat.le_of_ble_eq_true rfl) (c_X10_get l G h (zR h a 4) x2 hw15.1) (fun v17 g18 q19 => ?_)
      obtain ⟨rfl, q19⟩ := q19
      replace q19 := q19.symm
      subst q19
      show Z l G _ d Q k n 44 _ (.int (zget h (zR h a 4) x2) :: []) _
      refine z_aloadn dX9_priceOf_44 rfl rfl ?_
      refine z_getI (j := 5) zc9 dX9_priceOf_45 (ha.k 0 rfl) (ha.lt 0 rfl) (by decide) rfl w551 ?_
      refine z_iconst (v := 0) dX9_priceOf_48 (by decide) ?_
      refine z_iloadn dX9_priceOf_49 rfl rfl ?_
      refine z_callS (h := h) (S := [.int (zget h (zR h a 4) x2)]) (M := mX9_priceOf) (As := [.int (zI h a 5), .int 0, .int x3]) eX10_shape w1092 (Or.inr ⟨_, w1320⟩) dX9_priceOf_50 rfl (by omega) (Nat.le_of_ble_eq_true rfl) (c_X10_shape l G h (zI h a 5) (0 : Int32) x3) (fun v20 g21 q22 => ?_)
      obtain ⟨rfl, q22⟩ := q22
      replace q22 := q22.symm
      subst q22
      show Z l G _ d Q k n 53 _ (.int (zshape (zI h a 5) (0 : Int32) x3) :: .int (zget h (zR h a 4) x2) :: []) _
      refine z_icmp_eq (t := 63) dX9_priceOf_53 (by decide) (fun c23 => ?_) (fun c24 => ?_)
      · have hw25 := hw16.1 c23
        refine z_iload dX9_priceOf_63 rfl ?_
        exact z_ret (v := some (.int 1)) dX9_priceOf_65 ⟨_, rfl, rfl⟩ rfl hw25
      · have hw26 := hw16.2 c24
        refine z_iload dX9_priceOf_56 rfl ?_
        refine z_iconst (v := 1) dX9_priceOf_58 (by decide) ?_
        refine z_iadd dX9_priceOf_59 ?_
        refine z_goto (t := 65) dX9_priceOf_60 (by decide) ?_
        exact z_ret (v := some (.int ((1 + 1)))) dX9_priceOf_65 ⟨_, rfl, rfl⟩ rfl hw26
  · have hw11 := hw1.2 c9
    refine z_iconst (v := 0) dX9_priceOf_25 (by decide) ?_
    refine z_goto (t := 30) dX9_priceOf_26 (by decide) ?_
    refine z_istore (L' := [va_rf (some a), .int x1, .int x2, .int x3, .int x4, .int 0]) dX9_priceOf_30 (by decide) rfl ?_
    refine z_iloadn dX9_priceOf_32 rfl rfl ?_
    refine z_if_ne (t := 63) dX9_priceOf_33 (by decide) (fun c27 => ?_) (fun c28 => ?_)
    · have hw29 := hw11.1 c27
      refine z_iload dX9_priceOf_63 rfl ?_
      exact z_ret (v := some (.int 0)) dX9_priceOf_65 ⟨_, rfl, rfl⟩ rfl hw29
    · have hw30 := hw11.2 c28
      refine z_aloadn dX9_priceOf_36 rfl rfl ?_
      refine z_getRq (j := 4) zc9 dX9_priceOf_37 (ha.k 0 rfl) (ha.lt 0 rfl) (by decide) rfl w550 rfl ?_
      refine z_iloadn dX9_priceOf_40 rfl rfl ?_
      have hw31 := hw30.2
      refine z_callS (h := h) (S := []) (M := mX9_priceOf) (As := [va_rf (zR h a 4), .int x2]) eX10_get w778 (Or.inr ⟨_, w1305⟩) dX9_priceOf_41 rfl (by omega) (Nat.le_of_ble_eq_true rfl) (c_X10_get l G h (zR h a 4) x2 hw30.1) (fun v32 g33 q34 => ?_)
      obtain ⟨rfl, q34⟩ := q34
      replace q34 := q34.symm
      subst q34
      show Z l G _ d Q k n 44 _ (.int (zget h (zR h a 4) x2) :: []) _
      refine z_aloadn dX9_priceOf_44 rfl rfl ?_
      refine z_getI (j := 5) zc9 dX9_priceOf_45 (ha.k 0 rfl) (ha.lt 0 rfl) (by decide) rfl w551 ?_
      refine z_iconst (v := 0) dX9_priceOf_48 (by decide) ?_
      refine z_iloadn dX9_priceOf_49 rfl rfl ?_
      refine z_callS (h := h) (S := [.int (zget h (zR h a 4) x2)]) (M := mX9_priceOf) (As := [.int (zI h a 5), .int 0, .int x3]) eX10_shape w1092 (Or.inr ⟨_, w1320⟩) dX9_priceOf_50 rfl (by omega) (Nat.le_of_ble_eq_true rfl) (c_X10_shape l G h (zI h a 5) (0 : Int32) x3) (fun v35 g36 q37 => ?_)
      obtain ⟨rfl, q37⟩ := q37
      replace q37 := q37.symm
      subst q37
      show Z l G _ d Q k n 53 _ (.int (zshape (zI h a 5) (0 : Int32) x3) :: .int (zget h (zR h a 4) x2) :: []) _
      refine z_icmp_eq (t := 63) dX9_priceOf_53 (by decide) (fun c38 => ?_) (fun c39 => ?_)
      · have hw40 := hw31.1 c38
        refine z_iload dX9_priceOf_63 rfl ?_
        exact z_ret (v := some (.int 0)) dX9_priceOf_65 ⟨_, rfl, rfl⟩ rfl hw40
      · have hw41 := hw31.2 c39
        refine z_iload dX9_priceOf_56 rfl ?_
        refine z_iconst (v := 1) dX9_priceOf_58 (by decide) ?_
        refine z_iadd dX9_priceOf_59 ?_
        refine z_goto (t := 65) dX9_priceOf_60 (by decide) ?_
        exact z_ret (v := some (.int ((0 + 1)))) dX9_priceOf_65 ⟨_, rfl, rfl⟩ rfl hw41

theorem kX9_priceOf {l : Launch} {G : zG} {d : Nat} {Q : Option Value → zH → Prop} {k n : Nat} {h : zH} (a : Nat) (x1 : Int32) (x2 : Int32) (x3 : Int32) (x4 : Int32) (hz : Z l G mX9_priceOf d Q k n 0 [va_rf (some a), .int x1, .int x2, .int x3, .int x4, zU] [] h) : CT l G YX9_priceOf d k n [va_rf (some a), .int x1, .int x2, .int x3, .int x4] h Q :=
  CT.of (by decide +kernel) (fun t e => by have e2 : ((some .int) : Option FieldType) = some t := e; cases e2; exact ⟨by decide, by decide⟩) (by exact Nat.le_of_ble_eq_true rfl) (by exact hz)

theorem sX9_trace_0 {l : Launch} {G : zG} {d : Nat} {Q : Option Value → zH → Prop} {k n : Nat} {h : zH} (a : Nat) (x1 : Int32) (x2 : Int32) (ha : lo9 h a) (hd9 : 5 ≤ d)
    (hw : (∃ P4, CTv l G YX9_clearLayer 2 [va_rf (some a), .int (zI h a 1)] h P4 ∧ ∀ (I7 : Nat → Nat → Int32), P4 I7 → (∀ I16 : Nat → Nat → Int32, I16 = (zput (I7, h.2) (some (a + 2)) (((zI (I7, h.2) a 1) * 64) + x2) (zcost h a (zI h a 1) x2)).1 → Z l G mX9_trace d Q k n 43 [va_rf (some a), .int x1, .int x2, .int (zcost h a (zI h a 1) x2), .int (((zI (I16, h.2) a 1) - 1)), zU, zU] [] (I16, h.2)))) :
    Z l G mX9_trace d Q k n 0 [va_rf (some a), .int x1, .int x2, zU, zU, zU, zU] [] h := by
  refine z_aloadn dX9_trace_0 rfl rfl ?_
  refine z_aloadn dX9_trace_1 rfl rfl ?_
  refine z_getI (j := 1) zc9 dX9_trace_2 (ha.k 0 rfl) (ha.lt 0 rfl) (by decide) rfl w544 ?_
  refine z_iloadn dX9_trace_5 rfl rfl ?_
  refine z_callV (h := h) (S := []) (a := a) (M := mX9_trace) (As := [.int (zI h a 1), .int x2]) zc9 rfl eX9_costAt w1303 w76 (Or.inl w1301) dX9_trace_6 (ha.k 0 rfl) (ha.lt 0 rfl) rfl (by omega) (Nat.le_of_ble_eq_true rfl) (c_X9_costAt l G h a (zI h a 1) x2 ha) (fun v1 g2 q3 => ?_)
  obtain ⟨rfl, q3⟩ := q3
  replace q3 := q3.symm
  subst q3
  show Z l G _ d Q k n 9 _ (.int (zcost h a (zI h a 1) x2) :: []) _
  refine z_istoren (L' := [va_rf (some a), .int x1, .int x2, .int (zcost h a (zI h a 1) x2), zU, zU, zU]) dX9_trace_9 rfl (by decide) rfl ?_
  refine z_aloadn dX9_trace_10 rfl rfl ?_
  refine z_aloadn dX9_trace_11 rfl rfl ?_
  refine z_getI (j := 1) zc9 dX9_trace_12 (ha.k 0 rfl) (ha.lt 0 rfl) (by decide) rfl w544 ?_
  obtain ⟨P4, ct5, hw6⟩ := hw
  refine z_callV (h := h) (S := []) (a := a) (M := mX9_trace) (As := [.int (zI h a 1)]) zc9 rfl eX9_clearLayer w1298 w75 (Or.inl w1296) dX9_trace_15 (ha.k 0 rfl) (ha.lt 0 rfl) rfl (by omega) (Nat.le_of_ble_eq_true rfl) ct5 (fun v11 g12 q8 => ?_)
  obtain ⟨I7, rfl, rfl, q8⟩ := q8
  have hw10 := hw6 I7 q8
  show Z l G _ d Q k n 18 _ ([]) _
  refine z_aloadn dX9_trace_18 rfl rfl ?_
  refine z_getRq (j := 8) zc9 dX9_trace_19 (ha.k 0 rfl) (ha.lt 0 rfl) (by decide) rfl w554 (ha.r 1 rfl) ?_
  refine z_aloadn dX9_trace_22 rfl rfl ?_
  refine z_getI (j := 1) zc9 dX9_trace_23 (ha.k 0 rfl) (ha.lt 0 rfl) (by decide) rfl w544 ?_
  refine z_bipush (v := 64) dX9_trace_26 (by decide) ?_
  refine z_imul dX9_trace_28 ?_
  refine z_iloadn dX9_trace_29 rfl rfl ?_
  refine z_iadd dX9_trace_30 ?_
  refine z_iloadn dX9_trace_31 rfl rfl ?_
  refine z_callS (h := (I7, h.2)) (S := []) (M := mX9_trace) (As := [va_rf (some (a + 2)), .int ((((zI (I7, h.2) a 1) * 64) + x2)), .int (zcost h a (zI h a 1) x2)]) eX10_put w754 (Or.inr ⟨_, w1300⟩) dX9_trace_32 rfl (by omega) (Nat.le_of_ble_eq_true rfl) (c_X10_put l G (I7, h.2) (some (a + 2)) (((zI (I7, h.2) a 1) * 64) + x2) (zcost h a (zI h a 1) x2) (zpok_lo (ha.w 2 rfl) (by decide))) (fun v13 g14 q15 => ?_)
  obtain ⟨rfl, q15⟩ := q15
  replace q15 := q15.symm
  subst q15
  refine z_nm (r := h.2) rfl (fun I16 e17 => ?_)
  have hw18 := hw10 I16 e17
  refine z_aloadn dX9_trace_35 rfl rfl ?_
  refine z_getI (j := 1) zc9 dX9_trace_36 (ha.k 0 rfl) (ha.lt 0 rfl) (by decide) rfl w544 ?_
  refine z_iconst (v := 1) dX9_trace_39 (by decide) ?_
  refine z_isub dX9_trace_40 ?_
  refine z_istore (L' := [va_rf (some a), .int x1, .int x2, .int (zcost h a (zI h a 1) x2), .int (((zI (I16, h.2) a 1) - 1)), zU, zU]) dX9_trace_41 (by decide) rfl ?_
  exact hw18

theorem sX9_trace_43 {l : Launch} {G : zG} {d : Nat} {Q : Option Value → zH → Prop} {k n : Nat} {h : zH} (a : Nat) (x1 : Int32) (x2 : Int32) (u3 : Value) (x4 : Int32) (u5 : Value) (u6 : Value) (ha : lo9 h a) (hd9 : 5 ≤ d)
    (hw : ((x4.toInt ≤ (0 : Int) → Z l G mX9_trace d Q k n 66 [va_rf (some a), .int x1, .int x2, zU, .int x1, .int 0, u6] [] h) ∧ ((0 : Int) < x4.toInt → (∃ P5, CTv l G YX9_strikeLost 4 [va_rf (some a), .int x4] h P5 ∧ ∀ (I8 : Nat → Nat → Int32), P5 I8 → Z l G mX9_trace d Q k n 43 [va_rf (some a), .int x1, .int x2, zU, .int ((x4 + (-1))), u5, u6] [] (I8, h.2))))) :
    Z l G mX9_trace d Q k n 43 [va_rf (some a), .int x1, .int x2, u3, .int x4, u5, u6] [] h := by
  refine z_iload dX9_trace_43 rfl ?_
  refine z_if_le (t := 60) dX9_trace_45 (by decide) (fun c1 => ?_) (fun c2 => ?_)
  · have hw3 := hw.1 c1
    refine z_iloadn dX9_trace_60 rfl rfl ?_
    refine z_forget (L' := [va_rf (some a), .int x1, .int x2, zU, .int x4, u5, u6]) 3 rfl ?_
    refine z_istore (L' := [va_rf (some a), .int x1, .int x2, zU, .int x1, u5, u6]) dX9_trace_61 (by decide) rfl ?_
    refine z_iconst (v := 0) dX9_trace_63 (by decide) ?_
    refine z_istore (L' := [va_rf (some a), .int x1, .int x2, zU, .int x1, .int 0, u6]) dX9_trace_64 (by decide) rfl ?_
    exact hw3
  · have hw4 := hw.2 c2
    refine z_aloadn dX9_trace_48 rfl rfl ?_
    refine z_iload dX9_trace_49 rfl ?_
    obtain ⟨P5, ct6, hw7⟩ := hw4
    refine z_callV (h := h) (S := []) (a := a) (M := mX9_trace) (As := [.int x4]) zc9 rfl eX9_strikeLost w1328 w81 (Or.inl w1326) dX9_trace_51 (ha.k 0 rfl) (ha.lt 0 rfl) rfl (by omega) (Nat.le_of_ble_eq_true rfl) ct6 (fun v12 g13 q9 => ?_)
    obtain ⟨I8, rfl, rfl, q9⟩ := q9
    have hw11 := hw7 I8 q9
    show Z l G _ d Q k n 54 _ ([]) _
    refine z_forget (L' := [va_rf (some a), .int x1, .int x2, zU, .int x4, u5, u6]) 3 rfl ?_
    refine z_iinc (v := (x4 + (-1))) (L' := [va_rf (some a), .int x1, .int x2, zU, .int ((x4 + (-1))), u5, u6]) dX9_trace_54 (by decide) rfl rfl rfl ?_
    refine z_goto (t := 43) dX9_trace_57 (by decide) ?_
    exact hw11

theorem sX9_trace_66 {l : Launch} {G : zG} {d : Nat} {Q : Option Value → zH → Prop} {k n : Nat} {h : zH} (a : Nat) (x1 : Int32) (x2 : Int32) (u3 : Value) (x4 : Int32) (x5 : Int32) (u6 : Value) (ha : lo9 h a) (hd9 : 5 ≤ d)
    (hw : (((zI h a 1).toInt ≤ x5.toInt → Q none h) ∧ (x5.toInt < (zI h a 1).toInt → (∃ P5, CTi l G YX9_sideOn 3 [va_rf (some a), .int x5, .int x4] h P5 ∧ ∀ (y10 : Int32) (I8 : Nat → Nat → Int32), P5 y10 I8 → (∀ I17 : Nat → Nat → Int32, I17 = (zput (I8, h.2) (some (a + 1)) x5 y10).1 → (∃ b20, zR (I17, h.2) a 3 = some b20 ∧ lo1 (I17, h.2) b20 ∧ Z l G mX9_trace d Q k n 66 [va_rf (some a), .int x1, .int x2, zU, .int (zbes (zI (I17, h.2) b20 0) (zI (I17, h.2) b20 1) x4 y10 (zI (I17, h.2) a 6)), .int ((x5 + 1)), .int y10] [] (I17, h.2))))))) :
    Z l G mX9_trace d Q k n 66 [va_rf (some a), .int x1, .int x2, u3, .int x4, .int x5, u6] [] h := by
  refine z_iload dX9_trace_66 rfl ?_
  refine z_aloadn dX9_trace_68 rfl rfl ?_
  refine z_getI (j := 1) zc9 dX9_trace_69 (ha.k 0 rfl) (ha.lt 0 rfl) (by decide) rfl w544 ?_
  refine z_icmp_ge (t := 119) dX9_trace_72 (by decide) (fun c1 => ?_) (fun c2 => ?_)
  · have hw3 := hw.1 c1
    exact z_ret (v := none) dX9_trace_119 rfl rfl hw3
  · have hw4 := hw.2 c2
    refine z_aloadn dX9_trace_75 rfl rfl ?_
    refine z_iload dX9_trace_76 rfl ?_
    refine z_iload dX9_trace_78 rfl ?_
    obtain ⟨P5, ct6, hw7⟩ := hw4
    refine z_callV (h := h) (S := []) (a := a) (M := mX9_trace) (As := [.int x5, .int x4]) zc9 rfl eX9_sideOn w1332 w82 (Or.inl w1330) dX9_trace_80 (ha.k 0 rfl) (ha.lt 0 rfl) rfl (by omega) (Nat.le_of_ble_eq_true rfl) ct6 (fun v12 g13 q9 => ?_)
    obtain ⟨y10, I8, rfl, rfl, q9⟩ := q9
    have hw11 := hw7 y10 I8 q9
    show Z l G _ d Q k n 83 _ (.int y10 :: []) _
    refine z_istore (L' := [va_rf (some a), .int x1, .int x2, u3, .int x4, .int x5, .int y10]) dX9_trace_83 (by decide) rfl ?_
    refine z_aloadn dX9_trace_85 rfl rfl ?_
    refine z_getRq (j := 2) zc9 dX9_trace_86 (ha.k 0 rfl) (ha.lt 0 rfl) (by decide) rfl w547 (ha.r 0 rfl) ?_
    refine z_iload dX9_trace_89 rfl ?_
    refine z_iload dX9_trace_91 rfl ?_
    refine z_callS (h := (I8, h.2)) (S := []) (M := mX9_trace) (As := [va_rf (some (a + 1)), .int x5, .int y10]) eX10_put w754 (Or.inr ⟨_, w1300⟩) dX9_trace_93 rfl (by omega) (Nat.le_of_ble_eq_true rfl) (c_X10_put l G (I8, h.2) (some (a + 1)) x5 y10 (zpok_lo (ha.w 1 rfl) (by decide))) (fun v14 g15 q16 => ?_)
    obtain ⟨rfl, q16⟩ := q16
    replace q16 := q16.symm
    subst q16
    refine z_nm (r := h.2) rfl (fun I17 e18 => ?_)
    have hw19 := hw11 I17 e18
    refine z_aloadn dX9_trace_96 rfl rfl ?_
    refine z_getRq (j := 3) zc9 dX9_trace_97 (ha.k 0 rfl) (ha.lt 0 rfl) (by decide) rfl w549 rfl ?_
    refine z_iload dX9_trace_100 rfl ?_
    refine z_iload dX9_trace_102 rfl ?_
    refine z_aloadn dX9_trace_104 rfl rfl ?_
    refine z_getI (j := 6) zc9 dX9_trace_105 (ha.k 0 rfl) (ha.lt 0 rfl) (by decide) rfl w552 ?_
    obtain ⟨b20, q21, ho22, hw23⟩ := hw19
    refine z_soP [.int (zI (I17, h.2) a 6), .int y10, .int x4] q21 ?_
    refine z_callV (h := (I17, h.2)) (S := []) (a := b20) (M := mX9_trace) (As := [.int x4, .int y10, .int (zI (I17, h.2) a 6)]) zc1 rfl eX1_beside w1030 w38 (Or.inr ⟨_, w1315⟩) dX9_trace_108 (ho22.k 0 rfl) (ho22.lt 0 rfl) rfl (by omega) (Nat.le_of_ble_eq_true rfl) (c_X1_beside l G (I17, h.2) b20 x4 y10 (zI (I17, h.2) a 6) ho22) (fun v24 g25 q26 => ?_)
    obtain ⟨rfl, q26⟩ := q26
    replace q26 := q26.symm
    subst q26
    show Z l G _ d Q k n 111 _ (.int (zbes (zI (I17, h.2) b20 0) (zI (I17, h.2) b20 1) x4 y10 (zI (I17, h.2) a 6)) :: []) _
    refine z_forget (L' := [va_rf (some a), .int x1, .int x2, zU, .int x4, .int x5, .int y10]) 3 rfl ?_
    refine z_istore (L' := [va_rf (some a), .int x1, .int x2, zU, .int (zbes (zI (I17, h.2) b20 0) (zI (I17, h.2) b20 1) x4 y10 (zI (I17, h.2) a 6)), .int x5, .int y10]) dX9_trace_111 (by decide) rfl ?_
    refine z_iinc (v := (x5 + 1)) (L' := [va_rf (some a), .int x1, .int x2, zU, .int (zbes (zI (I17, h.2) b20 0) (zI (I17, h.2) b20 1) x4 y10 (zI (I17, h.2) a 6)), .int ((x5 + 1)), .int y10]) dX9_trace_113 (by decide) rfl rfl rfl ?_
    refine z_goto (t := 66) dX9_trace_116 (by decide) ?_
    exact hw23

theorem kX9_trace {l : Launch} {G : zG} {d : Nat} {Q : Option Value → zH → Prop} {k n : Nat} {h : zH} (a : Nat) (x1 : Int32) (x2 : Int32) (hz : Z l G mX9_trace d Q k n 0 [va_rf (some a), .int x1, .int x2, zU, zU, zU, zU] [] h) : CT l G YX9_trace d k n [va_rf (some a), .int x1, .int x2] h Q :=
  CT.of (by decide +kernel) (fun t e => by cases e) (by exact Nat.le_of_ble_eq_true rfl) (by exact hz)

theorem sX9_strikeLost_0 {l : Launch} {G : zG} {d : Nat} {Q : Option Value → zH → Prop} {k n : Nat} {h : zH} (a : Nat) (x1 : Int32) (ha : lo9 h a) (hd9 : 4 ≤ d)
    (hw : Z l G mX9_strikeLost d Q k n 2 [va_rf (some a), .int x1, .int 0] [] h) :
    Z l G mX9_strikeLost d Q k n 0 [va_rf (some a), .int x1, zU] [] h := by
  refine z_iconst (v := 0) dX9_strikeLost_0 (by decide) ?_
  refine z_istoren (L' := [va_rf (some a), .int x1, .int 0]) dX9_strikeLost_1 rfl (by decide) rfl ?_
  exact hw

theorem sX9_strikeLost_2 {l : Launch} {G : zG} {d : Nat} {Q : Option Value → zH → Prop} {k n : Nat} {h : zH} (a : Nat) (x1 : Int32) (x2 : Int32) (ha : lo9 h a) (hd9 : 4 ≤ d)
    (hw : (∃ b1, zR h a 3 = some b1 ∧ lo1 h b1 ∧ (((zcells h b1).toInt ≤ x2.toInt → Q none h) ∧ (x2.toInt < (zcells h b1).toInt → (((1000 : Int) ≤ (zcost h a x1 x2).toInt → Z l G mX9_strikeLost d Q k n 2 [va_rf (some a), .int x1, .int ((x2 + 1))] [] h) ∧ ((zcost h a x1 x2).toInt < (1000 : Int) → (∃ P19, CTi l G YX9_sideOn 3 [va_rf (some a), .int x1, .int x2] h P19 ∧ ∀ (y24 : Int32) (I22 : Nat → Nat → Int32), P19 y24 I22 → ((¬ y24 = (-1) → Z l G mX9_strikeLost d Q k n 2 [va_rf (some a), .int x1, .int ((x2 + 1))] [] (I22, h.2)) ∧ (y24 = (-1) → (∀ I35 : Nat → Nat → Int32, I35 = (zput (I22, h.2) (some (a + 2)) ((x1 * 64) + x2) (1000 : Int32)).1 → Z l G mX9_strikeLost d Q k n 2 [va_rf (some a), .int x1, .int ((x2 + 1))] [] (I35, h.2))))))))))) :
    Z l G mX9_strikeLost d Q k n 2 [va_rf (some a), .int x1, .int x2] [] h := by
  refine z_iloadn dX9_strikeLost_2 rfl rfl ?_
  refine z_aloadn dX9_strikeLost_3 rfl rfl ?_
  refine z_getRq (j := 3) zc9 dX9_strikeLost_4 (ha.k 0 rfl) (ha.lt 0 rfl) (by decide) rfl w549 rfl ?_
  obtain ⟨b1, q2, ho3, hw4⟩ := hw
  refine z_soP [] q2 ?_
  refine z_callV (h := h) (S := [.int x2]) (a := b1) (M := mX9_strikeLost) (As := []) zc1 rfl eX1_cells w930 w23 (Or.inr ⟨_, w1310⟩) dX9_strikeLost_7 (ho3.k 0 rfl) (ho3.lt 0 rfl) rfl (by omega) (Nat.le_of_ble_eq_true rfl) (c_X1_cells l G h b1 ho3) (fun v5 g6 q7 => ?_)
  obtain ⟨rfl, q7⟩ := q7
  replace q7 := q7.symm
  subst q7
  show Z l G _ d Q k n 10 _ (.int (zcells h b1) :: .int x2 :: []) _
  refine z_icmp_ge (t := 57) dX9_strikeLost_10 (by decide) (fun c8 => ?_) (fun c9 => ?_)
  · have hw10 := hw4.1 c8
    exact z_ret (v := none) dX9_strikeLost_57 rfl rfl hw10
  · have hw11 := hw4.2 c9
    refine z_aloadn dX9_strikeLost_13 rfl rfl ?_
    refine z_iloadn dX9_strikeLost_14 rfl rfl ?_
    refine z_iloadn dX9_strikeLost_15 rfl rfl ?_
    refine z_callV (h := h) (S := []) (a := a) (M := mX9_strikeLost) (As := [.int x1, .int x2]) zc9 rfl eX9_costAt w1303 w76 (Or.inl w1301) dX9_strikeLost_16 (ha.k 0 rfl) (ha.lt 0 rfl) rfl (by omega) (Nat.le_of_ble_eq_true rfl) (c_X9_costAt l G h a x1 x2 ha) (fun v12 g13 q14 => ?_)
    obtain ⟨rfl, q14⟩ := q14
    replace q14 := q14.symm
    subst q14
    show Z l G _ d Q k n 19 _ (.int (zcost h a x1 x2) :: []) _
    refine z_sipush (v := 1000) dX9_strikeLost_19 (by decide) ?_
    refine z_icmp_ge (t := 51) dX9_strikeLost_22 (by decide) (fun c15 => ?_) (fun c16 => ?_)
    · have hw17 := hw11.1 c15
      refine z_iinc (v := (x2 + 1)) (L' := [va_rf (some a), .int x1, .int ((x2 + 1))]) dX9_strikeLost_51 (by decide) rfl rfl rfl ?_
      refine z_goto (t := 2) dX9_strikeLost_54 (by decide) ?_
      exact hw17
    · have hw18 := hw11.2 c16
      refine z_aloadn dX9_strikeLost_25 rfl rfl ?_
      refine z_iloadn dX9_strikeLost_26 rfl rfl ?_
      refine z_iloadn dX9_strikeLost_27 rfl rfl ?_
      obtain ⟨P19, ct20, hw21⟩ := hw18
      refine z_callV (h := h) (S := []) (a := a) (M := mX9_strikeLost) (As := [.int x1, .int x2]) zc9 rfl eX9_sideOn w1332 w82 (Or.inl w1330) dX9_strikeLost_28 (ha.k 0 rfl) (ha.lt 0 rfl) rfl (by omega) (Nat.le_of_ble_eq_true rfl) ct20 (fun v26 g27 q23 => ?_)
      obtain ⟨y24, I22, rfl, rfl, q23⟩ := q23
      have hw25 := hw21 y24 I22 q23
      show Z l G _ d Q k n 31 _ (.int y24 :: []) _
      refine z_iconst (v := (-1)) dX9_strikeLost_31 (by decide) ?_
      refine z_icmp_ne (t := 51) dX9_strikeLost_32 (by decide) (fun c28 => ?_) (fun c29 => ?_)
      · have hw30 := hw25.1 c28
        refine z_iinc (v := (x2 + 1)) (L' := [va_rf (some a), .int x1, .int ((x2 + 1))]) dX9_strikeLost_51 (by decide) rfl rfl rfl ?_
        refine z_goto (t := 2) dX9_strikeLost_54 (by decide) ?_
        exact hw30
      · have hw31 := hw25.2 c29
        refine z_aloadn dX9_strikeLost_35 rfl rfl ?_
        refine z_getRq (j := 8) zc9 dX9_strikeLost_36 (ha.k 0 rfl) (ha.lt 0 rfl) (by decide) rfl w554 (ha.r 1 rfl) ?_
        refine z_iloadn dX9_strikeLost_39 rfl rfl ?_
        refine z_bipush (v := 64) dX9_strikeLost_40 (by decide) ?_
        refine z_imul dX9_strikeLost_42 ?_
        refine z_iloadn dX9_strikeLost_43 rfl rfl ?_
        refine z_iadd dX9_strikeLost_44 ?_
        refine z_sipush (v := 1000) dX9_strikeLost_45 (by decide) ?_
        refine z_callS (h := (I22, h.2)) (S := []) (M := mX9_strikeLost) (As := [va_rf (some (a + 2)), .int (((x1 * 64) + x2)), .int 1000]) eX10_put w754 (Or.inr ⟨_, w1300⟩) dX9_strikeLost_48 rfl (by omega) (Nat.le_of_ble_eq_true rfl) (c_X10_put l G (I22, h.2) (some (a + 2)) ((x1 * 64) + x2) (1000 : Int32) (zpok_lo (ha.w 2 rfl) (by decide))) (fun v32 g33 q34 => ?_)
        obtain ⟨rfl, q34⟩ := q34
        replace q34 := q34.symm
        subst q34
        refine z_nm (r := h.2) rfl (fun I35 e36 => ?_)
        have hw37 := hw31 I35 e36
        refine z_iinc (v := (x2 + 1)) (L' := [va_rf (some a), .int x1, .int ((x2 + 1))]) dX9_strikeLost_51 (by decide) rfl rfl rfl ?_
        refine z_goto (t := 2) dX9_strikeLost_54 (by decide) ?_
        exact hw37

theorem kX9_strikeLost {l : Launch} {G : zG} {d : Nat} {Q : Option Value → zH → Prop} {k n : Nat} {h : zH} (a : Nat) (x1 : Int32) (hz : Z l G mX9_strikeLost d Q k n 0 [va_rf (some a), .int x1, zU] [] h) : CT l G YX9_strikeLost d k n [va_rf (some a), .int x1] h Q :=
  CT.of (by decide +kernel) (fun t e => by cases e) (by exact Nat.le_of_ble_eq_true rfl) (by exact hz)

theorem sX9_sideOn_0 {l : Launch} {G : zG} {d : Nat} {Q : Option Value → zH → Prop} {k n : Nat} {h : zH} (a : Nat) (x1 : Int32) (x2 : Int32) (ha : lo9 h a) (hd9 : 3 ≤ d)
    (hw : Z l G mX9_sideOn d Q k n 2 [va_rf (some a), .int x1, .int x2, .int 0, zU, zU] [] h) :
    Z l G mX9_sideOn d Q k n 0 [va_rf (some a), .int x1, .int x2, zU, zU, zU] [] h := by
  refine z_iconst (v := 0) dX9_sideOn_0 (by decide) ?_
  refine z_istoren (L' := [va_rf (some a), .int x1, .int x2, .int 0, zU, zU]) dX9_sideOn_1 rfl (by decide) rfl ?_
  exact hw

theorem sX9_sideOn_2 {l : Launch} {G : zG} {d : Nat} {Q : Option Value → zH → Prop} {k n : Nat} {h : zH} (a : Nat) (x1 : Int32) (x2 : Int32) (x3 : Int32) (u4 : Value) (u5 : Value) (ha : lo9 h a) (hd9 : 3 ≤ d)
    (hw : (((4 : Int) ≤ x3.toInt → Q (some (.int ((-1)))) h) ∧ (x3.toInt < (4 : Int) → (∃ b5, zR h a 3 = some b5 ∧ lo1 h b5 ∧ (((1000 : Int) ≤ (zcost h a (x1 + 1) (zbes (zI h b5 0) (zI h b5 1) x2 x3 (zI h a 6))).toInt → Z l G mX9_sideOn d Q k n 2 [va_rf (some a), .int x1, .int x2, .int ((x3 + 1)), .int (zbes (zI h b5 0) (zI h b5 1) x2 x3 (zI h a 6)), .int (zcost h a (x1 + 1) (zbes (zI h b5 0) (zI h b5 1) x2 x3 (zI h a 6)))] [] h) ∧ ((zcost h a (x1 + 1) (zbes (zI h b5 0) (zI h b5 1) x2 x3 (zI h a 6))).toInt < (1000 : Int) → (∃ P22, CTi l G YX9_priceOf 2 [va_rf (some a), .int x1, .int x2, .int x3, .int (zbes (zI h b5 0) (zI h b5 1) x2 x3 (zI h a 6))] h P22 ∧ ∀ (y27 : Int32) (I25 : Nat → Nat → Int32), P22 y27 I25 → ((¬ zcost h a (x1 + 1) (zbes (zI h b5 0) (zI h b5 1) x2 x3 (zI h a 6)) = ((zcost h a x1 x2) + y27) → Z l G mX9_sideOn d Q k n 2 [va_rf (some a), .int x1, .int x2, .int ((x3 + 1)), .int (zbes (zI h b5 0) (zI h b5 1) x2 x3 (zI h a 6)), .int (zcost h a (x1 + 1) (zbes (zI h b5 0) (zI h b5 1) x2 x3 (zI h a 6)))] [] (I25, h.2)) ∧ (zcost h a (x1 + 1) (zbes (zI h b5 0) (zI h b5 1) x2 x3 (zI h a 6)) = ((zcost h a x1 x2) + y27) → Q (some (.int x3)) (I25, h.2)))))))))) :
    Z l G mX9_sideOn d Q k n 2 [va_rf (some a), .int x1, .int x2, .int x3, u4, u5] [] h := by
  refine z_iloadn dX9_sideOn_2 rfl rfl ?_
  refine z_iconst (v := 4) dX9_sideOn_3 (by decide) ?_
  refine z_icmp_ge (t := 70) dX9_sideOn_4 (by decide) (fun c1 => ?_) (fun c2 => ?_)
  · have hw3 := hw.1 c1
    refine z_iconst (v := (-1)) dX9_sideOn_70 (by decide) ?_
    exact z_ret (v := some (.int ((-1)))) dX9_sideOn_71 ⟨_, rfl, rfl⟩ rfl hw3
  · have hw4 := hw.2 c2
    refine z_aloadn dX9_sideOn_7 rfl rfl ?_
    refine z_getRq (j := 3) zc9 dX9_sideOn_8 (ha.k 0 rfl) (ha.lt 0 rfl) (by decide) rfl w549 rfl ?_
    refine z_iloadn dX9_sideOn_11 rfl rfl ?_
    refine z_iloadn dX9_sideOn_12 rfl rfl ?_
    refine z_aloadn dX9_sideOn_13 rfl rfl ?_
    refine z_getI (j := 6) zc9 dX9_sideOn_14 (ha.k 0 rfl) (ha.lt 0 rfl) (by decide) rfl w552 ?_
    obtain ⟨b5, q6, ho7, hw8⟩ := hw4
    refine z_soP [.int (zI h a 6), .int x3, .int x2] q6 ?_
    refine z_callV (h := h) (S := []) (a := b5) (M := mX9_sideOn) (As := [.int x2, .int x3, .int (zI h a 6)]) zc1 rfl eX1_beside w1030 w38 (Or.inr ⟨_, w1315⟩) dX9_sideOn_17 (ho7.k 0 rfl) (ho7.lt 0 rfl) rfl (by omega) (Nat.le_of_ble_eq_true rfl) (c_X1_beside l G h b5 x2 x3 (zI h a 6) ho7) (fun v9 g10 q11 => ?_)
    obtain ⟨rfl, q11⟩ := q11
    replace q11 := q11.symm
    subst q11
    show Z l G _ d Q k n 20 _ (.int (zbes (zI h b5 0) (zI h b5 1) x2 x3 (zI h a 6)) :: []) _
    refine z_istore (L' := [va_rf (some a), .int x1, .int x2, .int x3, .int (zbes (zI h b5 0) (zI h b5 1) x2 x3 (zI h a 6)), u5]) dX9_sideOn_20 (by decide) rfl ?_
    refine z_aloadn dX9_sideOn_22 rfl rfl ?_
    refine z_iloadn dX9_sideOn_23 rfl rfl ?_
    refine z_iconst (v := 1) dX9_sideOn_24 (by decide) ?_
    refine z_iadd dX9_sideOn_25 ?_
    refine z_iload dX9_sideOn_26 rfl ?_
    refine z_callV (h := h) (S := []) (a := a) (M := mX9_sideOn) (As := [.int ((x1 + 1)), .int (zbes (zI h b5 0) (zI h b5 1) x2 x3 (zI h a 6))]) zc9 rfl eX9_costAt w1303 w76 (Or.inl w1301) dX9_sideOn_28 (ha.k 0 rfl) (ha.lt 0 rfl) rfl (by omega) (Nat.le_of_ble_eq_true rfl) (c_X9_costAt l G h a (x1 + 1) (zbes (zI h b5 0) (zI h b5 1) x2 x3 (zI h a 6)) ha) (fun v12 g13 q14 => ?_)
    obtain ⟨rfl, q14⟩ := q14
    replace q14 := q14.symm
    subst q14
    show Z l G _ d Q k n 31 _ (.int (zcost h a (x1 + 1) (zbes (zI h b5 0) (zI h b5 1) x2 x3 (zI h a 6))) :: []) _
    refine z_istore (L' := [va_rf (some a), .int x1, .int x2, .int x3, .int (zbes (zI h b5 0) (zI h b5 1) x2 x3 (zI h a 6)), .int (zcost h a (x1 + 1) (zbes (zI h b5 0) (zI h b5 1) x2 x3 (zI h a 6)))]) dX9_sideOn_31 (by decide) rfl ?_
    refine z_iload dX9_sideOn_33 rfl ?_
    refine z_sipush (v := 1000) dX9_sideOn_35 (by decide) ?_
    refine z_icmp_ge (t := 64) dX9_sideOn_38 (by decide) (fun c15 => ?_) (fun c16 => ?_)
    · have hw17 := hw8.1 c15
      refine z_iinc (v := (x3 + 1)) (L' := [va_rf (some a), .int x1, .int x2, .int ((x3 + 1)), .int (zbes (zI h b5 0) (zI h b5 1) x2 x3 (zI h a 6)), .int (zcost h a (x1 + 1) (zbes (zI h b5 0) (zI h b5 1) x2 x3 (zI h a 6)))]) dX9_sideOn_64 (by decide) rfl rfl rfl ?_
      refine z_goto (t := 2) dX9_sideOn_67 (by decide) ?_
      exact hw17
    · have hw18 := hw8.2 c16
      refine z_iload dX9_sideOn_41 rfl ?_
      refine z_aloadn dX9_sideOn_43 rfl rfl ?_
      refine z_iloadn dX9_sideOn_44 rfl rfl ?_
      refine z_iloadn dX9_sideOn_45 rfl rfl ?_
      refine z_callV (h := h) (S := [.int (zcost h a (x1 + 1) (zbes (zI h b5 0) (zI h b5 1) x2 x3 (zI h a 6)))]) (a := a) (M := mX9_sideOn) (As := [.int x1, .int x2]) zc9 rfl eX9_costAt w1303 w76 (Or.inl w1301) dX9_sideOn_46 (ha.k 0 rfl) (ha.lt 0 rfl) rfl (by omega) (Nat.le_of_ble_eq_true rfl) (c_X9_costAt l G h a x1 x2 ha) (fun v19 g20 q21 => ?_)
      obtain ⟨rfl, q21⟩ := q21
      replace q21 := q21.symm
      subst q21
      show Z l G _ d Q k n 49 _ (.int (zcost h a x1 x2) :: .int (zcost h a (x1 + 1) (zbes (zI h b5 0) (zI h b5 1) x2 x3 (zI h a 6))) :: []) _
      refine z_aloadn dX9_sideOn_49 rfl rfl ?_
      refine z_iloadn dX9_sideOn_50 rfl rfl ?_
      refine z_iloadn dX9_sideOn_51 rfl rfl ?_
      refine z_iloadn dX9_sideOn_52 rfl rfl ?_
      refine z_iload dX9_sideOn_53 rfl ?_
      obtain ⟨P22, ct23, hw24⟩ := hw18
      refine z_callV (h := h) (S := [.int (zcost h a x1 x2), .int (zcost h a (x1 + 1) (zbes (zI h b5 0) (zI h b5 1) x2 x3 (zI h a 6)))]) (a := a) (M := mX9_sideOn) (As := [.int x1, .int x2, .int x3, .int (zbes (zI h b5 0) (zI h b5 1) x2 x3 (zI h a 6))]) zc9 rfl eX9_priceOf w1318 w79 (Or.inl w1316) dX9_sideOn_55 (ha.k 0 rfl) (ha.lt 0 rfl) rfl (by omega) (Nat.le_of_ble_eq_true rfl) ct23 (fun v29 g30 q26 => ?_)
      obtain ⟨y27, I25, rfl, rfl, q26⟩ := q26
      have hw28 := hw24 y27 I25 q26
      show Z l G _ d Q k n 58 _ (.int y27 :: .int (zcost h a x1 x2) :: .int (zcost h a (x1 + 1) (zbes (zI h b5 0) (zI h b5 1) x2 x3 (zI h a 6))) :: []) _
      refine z_iadd dX9_sideOn_58 ?_
      refine z_icmp_ne (t := 64) dX9_sideOn_59 (by decide) (fun c31 => ?_) (fun c32 => ?_)
      · have hw33 := hw28.1 c31
        refine z_iinc (v := (x3 + 1)) (L' := [va_rf (some a), .int x1, .int x2, .int ((x3 + 1)), .int (zbes (zI h b5 0) (zI h b5 1) x2 x3 (zI h a 6)), .int (zcost h a (x1 + 1) (zbes (zI h b5 0) (zI h b5 1) x2 x3 (zI h a 6)))]) dX9_sideOn_64 (by decide) rfl rfl rfl ?_
        refine z_goto (t := 2) dX9_sideOn_67 (by decide) ?_
        exact hw33
      · have hw34 := hw28.2 c32
        refine z_iloadn dX9_sideOn_62 rfl rfl ?_
        exact z_ret (v := some (.int x3)) dX9_sideOn_63 ⟨_, rfl, rfl⟩ rfl hw34

theorem kX9_sideOn {l : Launch} {G : zG} {d : Nat} {Q : Option Value → zH → Prop} {k n : Nat} {h : zH} (a : Nat) (x1 : Int32) (x2 : Int32) (hz : Z l G mX9_sideOn d Q k n 0 [va_rf (some a), .int x1, .int x2, zU, zU, zU] [] h) : CT l G YX9_sideOn d k n [va_rf (some a), .int x1, .int x2] h Q :=
  CT.of (by decide +kernel) (fun t e => by have e2 : ((some .int) : Option FieldType) = some t := e; cases e2; exact ⟨by decide, by decide⟩) (by exact Nat.le_of_ble_eq_true rfl) (by exact hz)

theorem sX9_tread_0 {l : Launch} {G : zG} {d : Nat} {Q : Option Value → zH → Prop} {k n : Nat} {h : zH} (a : Nat) (r1 : Option Nat) (ha : lo9 h a) (hd9 : 3 ≤ d)
    (hw : (∃ P1, CTv l G YX10_copy 2 [va_rf (zR h a 4), va_rf r1] h P1 ∧ ∀ (I4 : Nat → Nat → Int32), P1 I4 → Z l G mX9_tread d Q k n 15 [va_rf (some a), va_rf r1, .int (zI (I4, h.2) a 7), .int 0, zU] [] (I4, h.2))) :
    Z l G mX9_tread d Q k n 0 [va_rf (some a), va_rf r1, zU, zU, zU] [] h := by
  refine z_aloadn dX9_tread_0 rfl rfl ?_
  refine z_getRq (j := 4) zc9 dX9_tread_1 (ha.k 0 rfl) (ha.lt 0 rfl) (by decide) rfl w550 rfl ?_
  refine z_aloadn dX9_tread_4 rfl rfl ?_
  obtain ⟨P1, ct2, hw3⟩ := hw
  refine z_callS (h := h) (S := []) (M := mX9_tread) (As := [va_rf (zR h a 4), va_rf r1]) eX10_copy w945 (Or.inr ⟨_, w1357⟩) dX9_tread_5 rfl (by omega) (Nat.le_of_ble_eq_true rfl) ct2 (fun v8 g9 q5 => ?_)
  obtain ⟨I4, rfl, rfl, q5⟩ := q5
  have hw7 := hw3 I4 q5
  show Z l G _ d Q k n 8 _ ([]) _
  refine z_aloadn dX9_tread_8 rfl rfl ?_
  refine z_getI (j := 7) zc9 dX9_tread_9 (ha.k 0 rfl) (ha.lt 0 rfl) (by decide) rfl w553 ?_
  refine z_istoren (L' := [va_rf (some a), va_rf r1, .int (zI (I4, h.2) a 7), zU, zU]) dX9_tread_12 rfl (by decide) ((zs1_rf (j := 1) rfl).trans rfl) ?_
  refine z_iconst (v := 0) dX9_tread_13 (by decide) ?_
  refine z_istoren (L' := [va_rf (some a), va_rf r1, .int (zI (I4, h.2) a 7), .int 0, zU]) dX9_tread_14 rfl (by decide) rfl ?_
  exact hw7

theorem sX9_tread_15 {l : Launch} {G : zG} {d : Nat} {Q : Option Value → zH → Prop} {k n : Nat} {h : zH} (a : Nat) (r1 : Option Nat) (x2 : Int32) (x3 : Int32) (u4 : Value) (ha : lo9 h a) (hd9 : 3 ≤ d)
    (hw : (((zI h a 1).toInt ≤ x3.toInt → Q none h) ∧ (x3.toInt < (zI h a 1).toInt → ((¬ x3 = 0 → (∃ b12, zR h a 3 = some b12 ∧ lo1 h b12 ∧ (∃ P22, CTv l G YX9_pressIn 2 [va_rf (some a), va_rf r1, .int (zbes (zI h b12 0) (zI h b12 1) x2 (zget h (some (a + 1)) x3) (zI h a 6)), .int (zshape (zI h a 5) (zrem (x3 + 1) 2) (zget h (some (a + 1)) x3))] h P22 ∧ ∀ (I25 : Nat → Nat → Int32), P22 I25 → Z l G mX9_tread d Q k n 15 [va_rf (some a), va_rf r1, .int (zbes (zI h b12 0) (zI h b12 1) x2 (zget h (some (a + 1)) x3) (zI h a 6)), .int ((x3 + 1)), .int (zget h (some (a + 1)) x3)] [] (I25, h.2)))) ∧ (x3 = 0 → (∃ P34, CTv l G YX9_pressIn 2 [va_rf (some a), va_rf r1, .int x2, .int (zshape (zI h a 5) (0 : Int32) (zget h (some (a + 1)) x3))] h P34 ∧ ∀ (I37 : Nat → Nat → Int32), P34 I37 → (∃ b43, zR (I37, h.2) a 3 = some b43 ∧ lo1 (I37, h.2) b43 ∧ (∃ P53, CTv l G YX9_pressIn 2 [va_rf (some a), va_rf r1, .int (zbes (zI (I37, h.2) b43 0) (zI (I37, h.2) b43 1) x2 (zget h (some (a + 1)) x3) (zI (I37, h.2) a 6)), .int (zshape (zI (I37, h.2) a 5) (zrem (x3 + 1) 2) (zget h (some (a + 1)) x3))] (I37, h.2) P53 ∧ ∀ (I56 : Nat → Nat → Int32), P53 I56 → Z l G mX9_tread d Q k n 15 [va_rf (some a), va_rf r1, .int (zbes (zI (I37, h.2) b43 0) (zI (I37, h.2) b43 1) x2 (zget h (some (a + 1)) x3) (zI (I37, h.2) a 6)), .int ((x3 + 1)), .int (zget h (some (a + 1)) x3)] [] (I56, h.2))))))))) :
    Z l G mX9_tread d Q k n 15 [va_rf (some a), va_rf r1, .int x2, .int x3, u4] [] h := by
  refine z_iloadn dX9_tread_15 rfl rfl ?_
  refine z_aloadn dX9_tread_16 rfl rfl ?_
  refine z_getI (j := 1) zc9 dX9_tread_17 (ha.k 0 rfl) (ha.lt 0 rfl) (by decide) rfl w544 ?_
  refine z_icmp_ge (t := 94) dX9_tread_20 (by decide) (fun c1 => ?_) (fun c2 => ?_)
  · have hw3 := hw.1 c1
    exact z_ret (v := none) dX9_tread_94 rfl rfl hw3
  · have hw4 := hw.2 c2
    refine z_aloadn dX9_tread_23 rfl rfl ?_
    refine z_getRq (j := 2) zc9 dX9_tread_24 (ha.k 0 rfl) (ha.lt 0 rfl) (by decide) rfl w547 (ha.r 0 rfl) ?_
    refine z_iloadn dX9_tread_27 rfl rfl ?_
    refine z_callS (h := h) (S := []) (M := mX9_tread) (As := [va_rf (some (a + 1)), .int x3]) eX10_get w778 (Or.inr ⟨_, w1305⟩) dX9_tread_28 rfl (by omega) (Nat.le_of_ble_eq_true rfl) (c_X10_get l G h (some (a + 1)) x3 (zgok_lo (ha.w 1 rfl) (by decide))) (fun v5 g6 q7 => ?_)
    obtain ⟨rfl, q7⟩ := q7
    replace q7 := q7.symm
    subst q7
    show Z l G _ d Q k n 31 _ (.int (zget h (some (a + 1)) x3) :: []) _
    refine z_istore (L' := [va_rf (some a), va_rf r1, .int x2, .int x3, .int (zget h (some (a + 1)) x3)]) dX9_tread_31 (by decide) rfl ?_
    refine z_iloadn dX9_tread_33 rfl rfl ?_
    refine z_if_ne (t := 53) dX9_tread_34 (by decide) (fun c8 => ?_) (fun c9 => ?_)
    · have hw10 := hw4.1 c8
      refine z_aloadn dX9_tread_53 rfl rfl ?_
      refine z_getRq (j := 3) zc9 dX9_tread_54 (ha.k 0 rfl) (ha.lt 0 rfl) (by decide) rfl w549 rfl ?_
      refine z_iloadn dX9_tread_57 rfl rfl ?_
      refine z_iload dX9_tread_58 rfl ?_
      refine z_aloadn dX9_tread_60 rfl rfl ?_
      refine z_getI (j := 6) zc9 dX9_tread_61 (ha.k 0 rfl) (ha.lt 0 rfl) (by decide) rfl w552 ?_
      obtain ⟨b12, q13, ho14, hw15⟩ := hw10
      refine z_soP [.int (zI h a 6), .int (zget h (some (a + 1)) x3), .int x2] q13 ?_
      refine z_callV (h := h) (S := []) (a := b12) (M := mX9_tread) (As := [.int x2, .int (zget h (some (a + 1)) x3), .int (zI h a 6)]) zc1 rfl eX1_beside w1030 w38 (Or.inr ⟨_, w1315⟩) dX9_tread_64 (ho14.k 0 rfl) (ho14.lt 0 rfl) rfl (by omega) (Nat.le_of_ble_eq_true rfl) (c_X1_beside l G h b12 x2 (zget h (some (a + 1)) x3) (zI h a 6) ho14) (fun v16 g17 q18 => ?_)
      obtain ⟨rfl, q18⟩ := q18
      replace q18 := q18.symm
      subst q18
      show Z l G _ d Q k n 67 _ (.int (zbes (zI h b12 0) (zI h b12 1) x2 (zget h (some (a + 1)) x3) (zI h a 6)) :: []) _
      refine z_istoren (L' := [va_rf (some a), va_rf r1, .int (zbes (zI h b12 0) (zI h b12 1) x2 (zget h (some (a + 1)) x3) (zI h a 6)), .int x3, .int (zget h (some (a + 1)) x3)]) dX9_tread_67 rfl (by decide) ((zs1_rf (j := 1) rfl).trans rfl) ?_
      refine z_aloadn dX9_tread_68 rfl rfl ?_
      refine z_aloadn dX9_tread_69 rfl rfl ?_
      refine z_iloadn dX9_tread_70 rfl rfl ?_
      refine z_aloadn dX9_tread_71 rfl rfl ?_
      refine z_getI (j := 5) zc9 dX9_tread_72 (ha.k 0 rfl) (ha.lt 0 rfl) (by decide) rfl w551 ?_
      refine z_iloadn dX9_tread_75 rfl rfl ?_
      refine z_iconst (v := 1) dX9_tread_76 (by decide) ?_
      refine z_iadd dX9_tread_77 ?_
      refine z_iconst (v := 2) dX9_tread_78 (by decide) ?_
      refine z_irem dX9_tread_79 (by decide) ?_
      refine z_iload dX9_tread_80 rfl ?_
      refine z_callS (h := h) (S := [.int (zbes (zI h b12 0) (zI h b12 1) x2 (zget h (some (a + 1)) x3) (zI h a 6)), va_rf r1, va_rf (some a)]) (M := mX9_tread) (As := [.int (zI h a 5), .int ((zrem (x3 + 1) 2)), .int (zget h (some (a + 1)) x3)]) eX10_shape w1092 (Or.inr ⟨_, w1320⟩) dX9_tread_82 rfl (by omega) (Nat.le_of_ble_eq_true rfl) (c_X10_shape l G h (zI h a 5) (zrem (x3 + 1) 2) (zget h (some (a + 1)) x3)) (fun v19 g20 q21 => ?_)
      obtain ⟨rfl, q21⟩ := q21
      replace q21 := q21.symm
      subst q21
      show Z l G _ d Q k n 85 _ (.int (zshape (zI h a 5) (zrem (x3 + 1) 2) (zget h (some (a + 1)) x3)) :: .int (zbes (zI h b12 0) (zI h b12 1) x2 (zget h (some (a + 1)) x3) (zI h a 6)) :: va_rf r1 :: va_rf (some a) :: []) _
      obtain ⟨P22, ct23, hw24⟩ := hw15
      refine z_callV (h := h) (S := []) (a := a) (M := mX9_tread) (As := [va_rf r1, .int (zbes (zI h b12 0) (zI h b12 1) x2 (zget h (some (a + 1)) x3) (zI h a 6)), .int (zshape (zI h a 5) (zrem (x3 + 1) 2) (zget h (some (a + 1)) x3))]) zc9 rfl eX9_pressIn w1360 w87 (Or.inl w1358) dX9_tread_85 (ha.k 0 rfl) (ha.lt 0 rfl) rfl (by omega) (Nat.le_of_ble_eq_true rfl) ct23 (fun v29 g30 q26 => ?_)
      obtain ⟨I25, rfl, rfl, q26⟩ := q26
      have hw28 := hw24 I25 q26
      show Z l G _ d Q k n 88 _ ([]) _
      refine z_iinc (v := (x3 + 1)) (L' := [va_rf (some a), va_rf r1, .int (zbes (zI h b12 0) (zI h b12 1) x2 (zget h (some (a + 1)) x3) (zI h a 6)), .int ((x3 + 1)), .int (zget h (some (a + 1)) x3)]) dX9_tread_88 (by decide) rfl rfl rfl ?_
      refine z_goto (t := 15) dX9_tread_91 (by decide) ?_
      exact hw28
    · have hw11 := hw4.2 c9
      refine z_aloadn dX9_tread_37 rfl rfl ?_
      refine z_aloadn dX9_tread_38 rfl rfl ?_
      refine z_iloadn dX9_tread_39 rfl rfl ?_
      refine z_aloadn dX9_tread_40 rfl rfl ?_
      refine z_getI (j := 5) zc9 dX9_tread_41 (ha.k 0 rfl) (ha.lt 0 rfl) (by decide) rfl w551 ?_
      refine z_iconst (v := 0) dX9_tread_44 (by decide) ?_
      refine z_iload dX9_tread_45 rfl ?_
      refine z_callS (h := h) (S := [.int x2, va_rf r1, va_rf (some a)]) (M := mX9_tread) (As := [.int (zI h a 5), .int 0, .int (zget h (some (a + 1)) x3)]) eX10_shape w1092 (Or.inr ⟨_, w1320⟩) dX9_tread_47 rfl (by omega) (Nat.le_of_ble_eq_true rfl) (c_X10_shape l G h (zI h a 5) (0 : Int32) (zget h (some (a + 1)) x3)) (fun v31 g32 q33 => ?_)
      obtain ⟨rfl, q33⟩ := q33
      replace q33 := q33.symm
      subst q33
      show Z l G _ d Q k n 50 _ (.int (zshape (zI h a 5) (0 : Int32) (zget h (some (a + 1)) x3)) :: .int x2 :: va_rf r1 :: va_rf (some a) :: []) _
      obtain ⟨P34, ct35, hw36⟩ := hw11
      refine z_callV (h := h) (S := []) (a := a) (M := mX9_tread) (As := [va_rf r1, .int x2, .int (zshape (zI h a 5) (0 : Int32) (zget h (some (a + 1)) x3))]) zc9 rfl eX9_pressIn w1360 w87 (Or.inl w1358) dX9_tread_50 (ha.k 0 rfl) (ha.lt 0 rfl) rfl (by omega) (Nat.le_of_ble_eq_true rfl) ct35 (fun v41 g42 q38 => ?_)
      obtain ⟨I37, rfl, rfl, q38⟩ := q38
      have hw40 := hw36 I37 q38
      show Z l G _ d Q k n 53 _ ([]) _
      refine z_aloadn dX9_tread_53 rfl rfl ?_
      refine z_getRq (j := 3) zc9 dX9_tread_54 (ha.k 0 rfl) (ha.lt 0 rfl) (by decide) rfl w549 rfl ?_
      refine z_iloadn dX9_tread_57 rfl rfl ?_
      refine z_iload dX9_tread_58 rfl ?_
      refine z_aloadn dX9_tread_60 rfl rfl ?_
      refine z_getI (j := 6) zc9 dX9_tread_61 (ha.k 0 rfl) (ha.lt 0 rfl) (by decide) rfl w552 ?_
      obtain ⟨b43, q44, ho45, hw46⟩ := hw40
      refine z_soP [.int (zI (I37, h.2) a 6), .int (zget h (some (a + 1)) x3), .int x2] q44 ?_
      refine z_callV (h := (I37, h.2)) (S := []) (a := b43) (M := mX9_tread) (As := [.int x2, .int (zget h (some (a + 1)) x3), .int (zI (I37, h.2) a 6)]) zc1 rfl eX1_beside w1030 w38 (Or.inr ⟨_, w1315⟩) dX9_tread_64 (ho45.k 0 rfl) (ho45.lt 0 rfl) rfl (by omega) (Nat.le_of_ble_eq_true rfl) (c_X1_beside l G (I37, h.2) b43 x2 (zget h (some (a + 1)) x3) (zI (I37, h.2) a 6) ho45) (fun v47 g48 q49 => ?_)
      obtain ⟨rfl, q49⟩ := q49
      replace q49 := q49.symm
      subst q49
      show Z l G _ d Q k n 67 _ (.int (zbes (zI (I37, h.2) b43 0) (zI (I37, h.2) b43 1) x2 (zget h (some (a + 1)) x3) (zI (I37, h.2) a 6)) :: []) _
      refine z_istoren (L' := [va_rf (some a), va_rf r1, .int (zbes (zI (I37, h.2) b43 0) (zI (I37, h.2) b43 1) x2 (zget h (some (a + 1)) x3) (zI (I37, h.2) a 6)), .int x3, .int (zget h (some (a + 1)) x3)]) dX9_tread_67 rfl (by decide) ((zs1_rf (j := 1) rfl).trans rfl) ?_
      refine z_aloadn dX9_tread_68 rfl rfl ?_
      refine z_aloadn dX9_tread_69 rfl rfl ?_
      refine z_iloadn dX9_tread_70 rfl rfl ?_
      refine z_aloadn dX9_tread_71 rfl rfl ?_
      refine z_getI (j := 5) zc9 dX9_tread_72 (ha.k 0 rfl) (ha.lt 0 rfl) (by decide) rfl w551 ?_
      refine z_iloadn dX9_tread_75 rfl rfl ?_
      refine z_iconst (v := 1) dX9_tread_76 (by decide) ?_
      refine z_iadd dX9_tread_77 ?_
      refine z_iconst (v := 2) dX9_tread_78 (by decide) ?_
      refine z_irem dX9_tread_79 (by decide) ?_
      refine z_iload dX9_tread_80 rfl ?_
      refine z_callS (h := (I37, h.2)) (S := [.int (zbes (zI (I37, h.2) b43 0) (zI (I37, h.2) b43 1) x2 (zget h (some (a + 1)) x3) (zI (I37, h.2) a 6)), va_rf r1, va_rf (some a)]) (M := mX9_tread) (As := [.int (zI (I37, h.2) a 5), .int ((zrem (x3 + 1) 2)), .int (zget h (some (a + 1)) x3)]) eX10_shape w1092 (Or.inr ⟨_, w1320⟩) dX9_tread_82 rfl (by omega) (Nat.le_of_ble_eq_true rfl) (c_X10_shape l G (I37, h.2) (zI (I37, h.2) a 5) (zrem (x3 + 1) 2) (zget h (some (a + 1)) x3)) (fun v50 g51 q52 => ?_)
      obtain ⟨rfl, q52⟩ := q52
      replace q52 := q52.symm
      subst q52
      show Z l G _ d Q k n 85 _ (.int (zshape (zI (I37, h.2) a 5) (zrem (x3 + 1) 2) (zget h (some (a + 1)) x3)) :: .int (zbes (zI (I37, h.2) b43 0) (zI (I37, h.2) b43 1) x2 (zget h (some (a + 1)) x3) (zI (I37, h.2) a 6)) :: va_rf r1 :: va_rf (some a) :: []) _
      obtain ⟨P53, ct54, hw55⟩ := hw46
      refine z_callV (h := (I37, h.2)) (S := []) (a := a) (M := mX9_tread) (As := [va_rf r1, .int (zbes (zI (I37, h.2) b43 0) (zI (I37, h.2) b43 1) x2 (zget h (some (a + 1)) x3) (zI (I37, h.2) a 6)), .int (zshape (zI (I37, h.2) a 5) (zrem (x3 + 1) 2) (zget h (some (a + 1)) x3))]) zc9 rfl eX9_pressIn w1360 w87 (Or.inl w1358) dX9_tread_85 (ha.k 0 rfl) (ha.lt 0 rfl) rfl (by omega) (Nat.le_of_ble_eq_true rfl) ct54 (fun v60 g61 q57 => ?_)
      obtain ⟨I56, rfl, rfl, q57⟩ := q57
      have hw59 := hw55 I56 q57
      show Z l G _ d Q k n 88 _ ([]) _
      refine z_iinc (v := (x3 + 1)) (L' := [va_rf (some a), va_rf r1, .int (zbes (zI (I37, h.2) b43 0) (zI (I37, h.2) b43 1) x2 (zget h (some (a + 1)) x3) (zI (I37, h.2) a 6)), .int ((x3 + 1)), .int (zget h (some (a + 1)) x3)]) dX9_tread_88 (by decide) rfl rfl rfl ?_
      refine z_goto (t := 15) dX9_tread_91 (by decide) ?_
      exact hw59

theorem kX9_tread {l : Launch} {G : zG} {d : Nat} {Q : Option Value → zH → Prop} {k n : Nat} {h : zH} (a : Nat) (r1 : Option Nat) (hz : Z l G mX9_tread d Q k n 0 [va_rf (some a), va_rf r1, zU, zU, zU] [] h) : CT l G YX9_tread d k n [va_rf (some a), va_rf r1] h Q :=
  CT.of (by decide +kernel) (fun t e => by cases e) (by cases r1 <;> exact Nat.le_of_ble_eq_true rfl) (by cases r1 <;> exact hz)

theorem sX9_pressIn_0 {l : Launch} {G : zG} {d : Nat} {Q : Option Value → zH → Prop} {k n : Nat} {h : zH} (a : Nat) (r1 : Option Nat) (x2 : Int32) (x3 : Int32) (ha : lo9 h a) (hd9 : 2 ≤ d)
    (hw : ((zgok h (zR h a 4)) ∧ ((zget h (zR h a 4) x2 = x3 → Q none h) ∧ (¬ zget h (zR h a 4) x2 = x3 → ((zpok h r1) ∧ (∀ I13 : Nat → Nat → Int32, I13 = (zput h r1 x2 x3).1 → Q none (I13, h.2))))))) :
    Z l G mX9_pressIn d Q k n 0 [va_rf (some a), va_rf r1, .int x2, .int x3] [] h := by
  refine z_aloadn dX9_pressIn_0 rfl rfl ?_
  refine z_getRq (j := 4) zc9 dX9_pressIn_1 (ha.k 0 rfl) (ha.lt 0 rfl) (by decide) rfl w550 rfl ?_
  refine z_iloadn dX9_pressIn_4 rfl rfl ?_
  have hw1 := hw.2
  refine z_callS (h := h) (S := []) (M := mX9_pressIn) (As := [va_rf (zR h a 4), .int x2]) eX10_get w778 (Or.inr ⟨_, w1305⟩) dX9_pressIn_5 rfl (by omega) (Nat.le_of_ble_eq_true rfl) (c_X10_get l G h (zR h a 4) x2 hw.1) (fun v2 g3 q4 => ?_)
  obtain ⟨rfl, q4⟩ := q4
  replace q4 := q4.symm
  subst q4
  show Z l G _ d Q k n 8 _ (.int (zget h (zR h a 4) x2) :: []) _
  refine z_iloadn dX9_pressIn_8 rfl rfl ?_
  refine z_icmp_eq (t := 18) dX9_pressIn_9 (by decide) (fun c5 => ?_) (fun c6 => ?_)
  · have hw7 := hw1.1 c5
    exact z_ret (v := none) dX9_pressIn_18 rfl rfl hw7
  · have hw8 := hw1.2 c6
    refine z_aloadn dX9_pressIn_12 rfl rfl ?_
    refine z_iloadn dX9_pressIn_13 rfl rfl ?_
    refine z_iloadn dX9_pressIn_14 rfl rfl ?_
    have hw9 := hw8.2
    refine z_callS (h := h) (S := []) (M := mX9_pressIn) (As := [va_rf r1, .int x2, .int x3]) eX10_put w754 (Or.inr ⟨_, w1300⟩) dX9_pressIn_15 rfl (by omega) (Nat.le_of_ble_eq_true rfl) (c_X10_put l G h r1 x2 x3 hw8.1) (fun v10 g11 q12 => ?_)
    obtain ⟨rfl, q12⟩ := q12
    replace q12 := q12.symm
    subst q12
    refine z_nm (r := h.2) rfl (fun I13 e14 => ?_)
    have hw15 := hw9 I13 e14
    exact z_ret (v := none) dX9_pressIn_18 rfl rfl hw15

theorem kX9_pressIn {l : Launch} {G : zG} {d : Nat} {Q : Option Value → zH → Prop} {k n : Nat} {h : zH} (a : Nat) (r1 : Option Nat) (x2 : Int32) (x3 : Int32) (hz : Z l G mX9_pressIn d Q k n 0 [va_rf (some a), va_rf r1, .int x2, .int x3] [] h) : CT l G YX9_pressIn d k n [va_rf (some a), va_rf r1, .int x2, .int x3] h Q :=
  CT.of (by decide +kernel) (fun t e => by cases e) (by cases r1 <;> exact Nat.le_of_ble_eq_true rfl) (by cases r1 <;> exact hz)
