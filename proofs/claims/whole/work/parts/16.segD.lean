set_option maxRecDepth 4000
theorem sX10_feed_0 {l : Launch} {G : zG} {d : Nat} {Q : Option Value → zH → Prop} {k n : Nat} {h : zH} (a : Nat) (x1 : Int32) (x2 : Int32) (x3 : Int32) (x4 : Int32) (x5 : Int32) (ha : lo10 h a) (hd9 : 3 ≤ d)
    (hw : ((((zI h (a + 1) 1) + 20).toInt ≤ (600 : Int) → (∃ P5, CTv l G YX6_append 2 [va_rf (some (a + 1)), .int x1] h P5 ∧ ∀ (I8 : Nat → Nat → Int32), P5 I8 → (∃ P14, CTv l G YX6_append 2 [va_rf (some (a + 1)), .int x2] (I8, h.2) P14 ∧ ∀ (I17 : Nat → Nat → Int32), P14 I17 → (∃ P23, CTv l G YX6_append 2 [va_rf (some (a + 1)), .int x3] (I17, h.2) P23 ∧ ∀ (I26 : Nat → Nat → Int32), P23 I26 → (∃ P32, CTv l G YX6_append 2 [va_rf (some (a + 1)), .int x4] (I26, h.2) P32 ∧ ∀ (I35 : Nat → Nat → Int32), P32 I35 → (∃ P41, CTv l G YX6_append 2 [va_rf (some (a + 1)), .int x5] (I35, h.2) P41 ∧ ∀ (I44 : Nat → Nat → Int32), P41 I44 → Q (some (.int (zI (I44, h.2) (a + 1) 1))) (I44, h.2))))))) ∧ ((600 : Int) < ((zI h (a + 1) 1) + 20).toInt → Q (some (.int ((-1)))) h))) :
    Z l G mX10_feed d Q k n 0 [va_rf (some a), .int x1, .int x2, .int x3, .int x4, .int x5] [] h := by
  refine z_aloadn dX10_feed_0 rfl rfl ?_
  refine z_getRq (j := 0) zc10 dX10_feed_1 (ha.k 0 rfl) (ha.lt 0 rfl) (by decide) rfl w699 (ha.r 51 rfl) ?_
  refine z_getIN (j := 1) zc6 dX10_feed_4 (ha.k 1 rfl) (ha.lt 1 rfl) (by decide) rfl w394 ?_
  refine z_bipush (v := 20) dX10_feed_7 (by decide) ?_
  refine z_iadd dX10_feed_9 ?_
  refine z_sipush (v := 600) dX10_feed_10 (by decide) ?_
  refine z_icmp_le (t := 18) dX10_feed_13 (by decide) (fun c1 => ?_) (fun c2 => ?_)
  · have hw3 := hw.1 c1
    refine z_aloadn dX10_feed_18 rfl rfl ?_
    refine z_getRq (j := 0) zc10 dX10_feed_19 (ha.k 0 rfl) (ha.lt 0 rfl) (by decide) rfl w699 (ha.r 51 rfl) ?_
    refine z_iloadn dX10_feed_22 rfl rfl ?_
    obtain ⟨P5, ct6, hw7⟩ := hw3
    refine z_callV (h := h) (S := []) (a := (a + 1)) (M := mX10_feed) (As := [.int x1]) zc6 rfl eX6_append w751 w3 (Or.inr ⟨_, w749⟩) dX10_feed_23 (ha.k 1 rfl) (ha.lt 1 rfl) rfl (by omega) (Nat.le_of_ble_eq_true rfl) ct6 (fun v12 g13 q9 => ?_)
    obtain ⟨I8, rfl, rfl, q9⟩ := q9
    have hw11 := hw7 I8 q9
    show Z l G _ d Q k n 26 _ ([]) _
    refine z_aloadn dX10_feed_26 rfl rfl ?_
    refine z_getRq (j := 0) zc10 dX10_feed_27 (ha.k 0 rfl) (ha.lt 0 rfl) (by decide) rfl w699 (ha.r 51 rfl) ?_
    refine z_iloadn dX10_feed_30 rfl rfl ?_
    obtain ⟨P14, ct15, hw16⟩ := hw11
    refine z_callV (h := (I8, h.2)) (S := []) (a := (a + 1)) (M := mX10_feed) (As := [.int x2]) zc6 rfl eX6_append w751 w3 (Or.inr ⟨_, w749⟩) dX10_feed_31 (ha.k 1 rfl) (ha.lt 1 rfl) rfl (by omega) (Nat.le_of_ble_eq_true rfl) ct15 (fun v21 g22 q18 => ?_)
    obtain ⟨I17, rfl, rfl, q18⟩ := q18
    have hw20 := hw16 I17 q18
    show Z l G _ d Q k n 34 _ ([]) _
    refine z_aloadn dX10_feed_34 rfl rfl ?_
    refine z_getRq (j := 0) zc10 dX10_feed_35 (ha.k 0 rfl) (ha.lt 0 rfl) (by decide) rfl w699 (ha.r 51 rfl) ?_
    refine z_iloadn dX10_feed_38 rfl rfl ?_
    obtain ⟨P23, ct24, hw25⟩ := hw20
    refine z_callV (h := (I17, h.2)) (S := []) (a := (a + 1)) (M := mX10_feed) (As := [.int x3]) zc6 rfl eX6_append w751 w3 (Or.inr ⟨_, w749⟩) dX10_feed_39 (ha.k 1 rfl) (ha.lt 1 rfl) rfl (by omega) (Nat.le_of_ble_eq_true rfl) ct24 (fun v30 g31 q27 => ?_)
    obtain ⟨I26, rfl, rfl, q27⟩ := q27
    have hw29 := hw25 I26 q27
    show Z l G _ d Q k n 42 _ ([]) _
    refine z_aloadn dX10_feed_42 rfl rfl ?_
    refine z_getRq (j := 0) zc10 dX10_feed_43 (ha.k 0 rfl) (ha.lt 0 rfl) (by decide) rfl w699 (ha.r 51 rfl) ?_
    refine z_iload dX10_feed_46 rfl ?_
    obtain ⟨P32, ct33, hw34⟩ := hw29
    refine z_callV (h := (I26, h.2)) (S := []) (a := (a + 1)) (M := mX10_feed) (As := [.int x4]) zc6 rfl eX6_append w751 w3 (Or.inr ⟨_, w749⟩) dX10_feed_48 (ha.k 1 rfl) (ha.lt 1 rfl) rfl (by omega) (Nat.le_of_ble_eq_true rfl) ct33 (fun v39 g40 q36 => ?_)
    obtain ⟨I35, rfl, rfl, q36⟩ := q36
    have hw38 := hw34 I35 q36
    show Z l G _ d Q k n 51 _ ([]) _
    refine z_aloadn dX10_feed_51 rfl rfl ?_
    refine z_getRq (j := 0) zc10 dX10_feed_52 (ha.k 0 rfl) (ha.lt 0 rfl) (by decide) rfl w699 (ha.r 51 rfl) ?_
    refine z_iload dX10_feed_55 rfl ?_
    obtain ⟨P41, ct42, hw43⟩ := hw38
    refine z_callV (h := (I35, h.2)) (S := []) (a := (a + 1)) (M := mX10_feed) (As := [.int x5]) zc6 rfl eX6_append w751 w3 (Or.inr ⟨_, w749⟩) dX10_feed_57 (ha.k 1 rfl) (ha.lt 1 rfl) rfl (by omega) (Nat.le_of_ble_eq_true rfl) ct42 (fun v48 g49 q45 => ?_)
    obtain ⟨I44, rfl, rfl, q45⟩ := q45
    have hw47 := hw43 I44 q45
    show Z l G _ d Q k n 60 _ ([]) _
    refine z_aloadn dX10_feed_60 rfl rfl ?_
    refine z_getRq (j := 0) zc10 dX10_feed_61 (ha.k 0 rfl) (ha.lt 0 rfl) (by decide) rfl w699 (ha.r 51 rfl) ?_
    refine z_getIN (j := 1) zc6 dX10_feed_64 (ha.k 1 rfl) (ha.lt 1 rfl) (by decide) rfl w394 ?_
    exact z_ret (v := some (.int (zI (I44, h.2) (a + 1) 1))) dX10_feed_67 ⟨_, rfl, rfl⟩ rfl hw47
  · have hw4 := hw.2 c2
    refine z_iconst (v := (-1)) dX10_feed_16 (by decide) ?_
    exact z_ret (v := some (.int ((-1)))) dX10_feed_17 ⟨_, rfl, rfl⟩ rfl hw4

theorem kX10_feed {l : Launch} {G : zG} {d : Nat} {Q : Option Value → zH → Prop} {k n : Nat} {h : zH} (a : Nat) (x1 : Int32) (x2 : Int32) (x3 : Int32) (x4 : Int32) (x5 : Int32) (hz : Z l G mX10_feed d Q k n 0 [va_rf (some a), .int x1, .int x2, .int x3, .int x4, .int x5] [] h) : CT l G YX10_feed d k n [va_rf (some a), .int x1, .int x2, .int x3, .int x4, .int x5] h Q :=
  CT.of (by decide +kernel) (fun t e => by have e2 : ((some .int) : Option FieldType) = some t := e; cases e2; exact ⟨by decide, by decide⟩) (by exact Nat.le_of_ble_eq_true rfl) (by exact hz)

theorem sX10_text_0 {l : Launch} {G : zG} {d : Nat} {Q : Option Value → zH → Prop} {k n : Nat} {h : zH} (a : Nat) (x1 : Int32) (x2 : Int32) (ha : lo10 h a) (hd9 : 9 ≤ d)
    (hw : (∀ I1 : Nat → Nat → Int32, I1 = (zwI h (a + 1) 1 (0 : Int32)).1 → (∀ I4 : Nat → Nat → Int32, I4 = (zwI (I1, h.2) (a + 1) 2 (0 : Int32)).1 → (∀ I7 : Nat → Nat → Int32, I7 = (zwI (I4, h.2) (a + 1) 3 (-1 : Int32)).1 → (∃ P10, CTi l G YX6_slotFor 1 [va_rf (some (a + 1)), .int x1, .int x2] (I7, h.2) P10 ∧ ∀ (y15 : Int32) (I13 : Nat → Nat → Int32), P10 y15 I13 → ((¬ y15 = (-1) → (∃ P23, CTzG l G YX5_read 8 [va_rf (some (a + 55)), va_rf (some (a + 2)), .int (zI h (a + 1) 1), .int x1] (I13, h.2) P23 ∧ ∀ (y28 : Bool) (g31 : zH), P23 y28 g31 → lo10 g31 a ∧ ((y28 = true → ((¬ x1 = 0 → (∃ P42, CTv l G YX6_tellReading 4 [va_rf (some (a + 1)), .int y15, va_rf (some (a + 74))] g31 P42 ∧ ∀ (I45 : Nat → Nat → Int32), P42 I45 → (∃ P51, CTv l G YX10_forgetFindings 1 [va_rf (some a)] (I45, g31.2) P51 ∧ ∀ (I54 : Nat → Nat → Int32), P51 I54 → Q (some (.int y15)) (I54, g31.2)))) ∧ (x1 = 0 → (∃ P60, CTv l G YX6_tellNight 5 [va_rf (some (a + 1)), .int y15, va_rf (some (a + 56))] g31 P60 ∧ ∀ (I63 : Nat → Nat → Int32), P60 I63 → (∃ P69, CTv l G YX10_forgetFindings 1 [va_rf (some a)] (I63, g31.2) P69 ∧ ∀ (I72 : Nat → Nat → Int32), P69 I72 → Q (some (.int y15)) (I72, g31.2)))))) ∧ (y28 = false → (∀ I78 : Nat → Nat → Int32, I78 = (zwI g31 (a + 1) 2 (zI g31 (a + 55) 2)).1 → (∀ I81 : Nat → Nat → Int32, I81 = (zwI (I78, g31.2) (a + 1) 3 (zI (I78, g31.2) (a + 55) 3)).1 → Q (some (.int ((-1)))) (I81, g31.2))))))) ∧ (y15 = (-1) → Q (some (.int ((-2)))) (I13, h.2)))))))) :
    Z l G mX10_text d Q k n 0 [va_rf (some a), .int x1, .int x2, zU, zU] [] h := by
  refine z_aloadn dX10_text_0 rfl rfl ?_
  refine z_getRq (j := 0) zc10 dX10_text_1 (ha.k 0 rfl) (ha.lt 0 rfl) (by decide) rfl w699 (ha.r 51 rfl) ?_
  refine z_getIN (j := 1) zc6 dX10_text_4 (ha.k 1 rfl) (ha.lt 1 rfl) (by decide) rfl w394 ?_
  refine z_istoren (L' := [va_rf (some a), .int x1, .int x2, .int (zI h (a + 1) 1), zU]) dX10_text_7 rfl (by decide) rfl ?_
  refine z_aloadn dX10_text_8 rfl rfl ?_
  refine z_getRq (j := 0) zc10 dX10_text_9 (ha.k 0 rfl) (ha.lt 0 rfl) (by decide) rfl w699 (ha.r 51 rfl) ?_
  refine z_iconst (v := 0) dX10_text_12 (by decide) ?_
  refine z_putI (j := 1) zc6 dX10_text_13 (ha.k 1 rfl) (ha.lt 1 rfl) (by decide) rfl rfl (Or.inl rfl) (Or.inr ⟨_, w394⟩) ?_
  refine z_nm (r := h.2) rfl (fun I1 e2 => ?_)
  have hw3 := hw I1 e2
  refine z_aloadn dX10_text_16 rfl rfl ?_
  refine z_getRq (j := 0) zc10 dX10_text_17 (ha.k 0 rfl) (ha.lt 0 rfl) (by decide) rfl w699 (ha.r 51 rfl) ?_
  refine z_iconst (v := 0) dX10_text_20 (by decide) ?_
  refine z_putI (j := 2) zc6 dX10_text_21 (ha.k 1 rfl) (ha.lt 1 rfl) (by decide) rfl rfl (Or.inl rfl) (Or.inr ⟨_, w396⟩) ?_
  refine z_nm (r := h.2) rfl (fun I4 e5 => ?_)
  have hw6 := hw3 I4 e5
  refine z_aloadn dX10_text_24 rfl rfl ?_
  refine z_getRq (j := 0) zc10 dX10_text_25 (ha.k 0 rfl) (ha.lt 0 rfl) (by decide) rfl w699 (ha.r 51 rfl) ?_
  refine z_iconst (v := (-1)) dX10_text_28 (by decide) ?_
  refine z_putI (j := 3) zc6 dX10_text_29 (ha.k 1 rfl) (ha.lt 1 rfl) (by decide) rfl rfl (Or.inl rfl) (Or.inr ⟨_, w399⟩) ?_
  refine z_nm (r := h.2) rfl (fun I7 e8 => ?_)
  have hw9 := hw6 I7 e8
  refine z_aloadn dX10_text_32 rfl rfl ?_
  refine z_getRq (j := 0) zc10 dX10_text_33 (ha.k 0 rfl) (ha.lt 0 rfl) (by decide) rfl w699 (ha.r 51 rfl) ?_
  refine z_iloadn dX10_text_36 rfl rfl ?_
  refine z_iloadn dX10_text_37 rfl rfl ?_
  obtain ⟨P10, ct11, hw12⟩ := hw9
  refine z_callV (h := (I7, h.2)) (S := []) (a := (a + 1)) (M := mX10_text) (As := [.int x1, .int x2]) zc6 rfl eX6_slotFor w766 w4 (Or.inr ⟨_, w764⟩) dX10_text_38 (ha.k 1 rfl) (ha.lt 1 rfl) rfl (by omega) (Nat.le_of_ble_eq_true rfl) ct11 (fun v17 g18 q14 => ?_)
  obtain ⟨y15, I13, rfl, rfl, q14⟩ := q14
  have hw16 := hw12 y15 I13 q14
  show Z l G _ d Q k n 41 _ (.int y15 :: []) _
  refine z_istore (L' := [va_rf (some a), .int x1, .int x2, .int (zI h (a + 1) 1), .int y15]) dX10_text_41 (by decide) rfl ?_
  refine z_iload dX10_text_43 rfl ?_
  refine z_iconst (v := (-1)) dX10_text_45 (by decide) ?_
  refine z_icmp_ne (t := 52) dX10_text_46 (by decide) (fun c19 => ?_) (fun c20 => ?_)
  · have hw21 := hw16.1 c19
    refine z_aloadn dX10_text_52 rfl rfl ?_
    refine z_getRq (j := 3) zc10 dX10_text_53 (ha.k 0 rfl) (ha.lt 0 rfl) (by decide) rfl w702 (ha.r 79 rfl) ?_
    refine z_aloadn dX10_text_56 rfl rfl ?_
    refine z_getRq (j := 0) zc10 dX10_text_57 (ha.k 0 rfl) (ha.lt 0 rfl) (by decide) rfl w699 (ha.r 51 rfl) ?_
    refine z_getRNq (j := 0) zc6 dX10_text_60 (ha.k 1 rfl) (ha.lt 1 rfl) (by decide) rfl w393 (ha.r 0 rfl) ?_
    refine z_iloadn dX10_text_63 rfl rfl ?_
    refine z_iloadn dX10_text_64 rfl rfl ?_
    obtain ⟨P23, ct24, hw25⟩ := hw21
    refine z_callV (h := (I13, h.2)) (S := []) (a := (a + 55)) (M := mX10_text) (As := [va_rf (some (a + 2)), .int (zI h (a + 1) 1), .int x1]) zc5 rfl eX5_read w770 w5 (Or.inr ⟨_, w768⟩) dX10_text_65 (ha.k 55 rfl) (ha.lt 55 rfl) rfl (by omega) (Nat.le_of_ble_eq_true rfl) ct24 (fun v30 g31 q27 => ?_)
    obtain ⟨y28, rfl, q27⟩ := q27
    have hw29 := hw25 y28 g31 q27
    obtain ⟨ho32, hw33⟩ := hw29
    show Z l G _ d Q k n 68 _ (.int (zb y28) :: []) _
    refine z_if_ne (t := 101) dX10_text_68 (by decide) (fun c34 => ?_) (fun c35 => ?_)
    · have hw36 := hw33.1 (zb1 c34)
      refine z_iloadn dX10_text_101 rfl rfl ?_
      refine z_if_ne (t := 124) dX10_text_102 (by decide) (fun c38 => ?_) (fun c39 => ?_)
      · have hw40 := hw36.1 c38
        refine z_aloadn dX10_text_124 rfl rfl ?_
        refine z_getRq (j := 0) zc10 dX10_text_125 (ho32.k 0 rfl) (ho32.lt 0 rfl) (by decide) rfl w699 (ho32.r 51 rfl) ?_
        refine z_iload dX10_text_128 rfl ?_
        refine z_aloadn dX10_text_130 rfl rfl ?_
        refine z_getRq (j := 3) zc10 dX10_text_131 (ho32.k 0 rfl) (ho32.lt 0 rfl) (by decide) rfl w702 (ho32.r 79 rfl) ?_
        refine z_getRNq (j := 1) zc5 dX10_text_134 (ho32.k 55 rfl) (ho32.lt 55 rfl) (by decide) rfl w437 (ho32.r 77 rfl) ?_
        obtain ⟨P42, ct43, hw44⟩ := hw40
        refine z_callV (h := g31) (S := []) (a := (a + 1)) (M := mX10_text) (As := [.int y15, va_rf (some (a + 74))]) zc6 rfl eX6_tellReading w955 w27 (Or.inr ⟨_, w953⟩) dX10_text_137 (ho32.k 1 rfl) (ho32.lt 1 rfl) rfl (by omega) (Nat.le_of_ble_eq_true rfl) ct43 (fun v49 g50 q46 => ?_)
        obtain ⟨I45, rfl, rfl, q46⟩ := q46
        have hw48 := hw44 I45 q46
        show Z l G _ d Q k n 140 _ ([]) _
        refine z_aloadn dX10_text_140 rfl rfl ?_
        obtain ⟨P51, ct52, hw53⟩ := hw48
        refine z_callV (h := (I45, g31.2)) (S := []) (a := a) (M := mX10_text) (As := []) zc10 rfl eX10_forgetFindings w964 w29 (Or.inl w962) dX10_text_141 (ho32.k 0 rfl) (ho32.lt 0 rfl) rfl (by omega) (Nat.le_of_ble_eq_true rfl) ct52 (fun v58 g59 q55 => ?_)
        obtain ⟨I54, rfl, rfl, q55⟩ := q55
        have hw57 := hw53 I54 q55
        show Z l G _ d Q k n 144 _ ([]) _
        refine z_iload dX10_text_144 rfl ?_
        exact z_ret (v := some (.int y15)) dX10_text_146 ⟨_, rfl, rfl⟩ rfl hw57
      · have hw41 := hw36.2 c39
        refine z_aloadn dX10_text_105 rfl rfl ?_
        refine z_getRq (j := 0) zc10 dX10_text_106 (ho32.k 0 rfl) (ho32.lt 0 rfl) (by decide) rfl w699 (ho32.r 51 rfl) ?_
        refine z_iload dX10_text_109 rfl ?_
        refine z_aloadn dX10_text_111 rfl rfl ?_
        refine z_getRq (j := 3) zc10 dX10_text_112 (ho32.k 0 rfl) (ho32.lt 0 rfl) (by decide) rfl w702 (ho32.r 79 rfl) ?_
        refine z_getRNq (j := 0) zc5 dX10_text_115 (ho32.k 55 rfl) (ho32.lt 55 rfl) (by decide) rfl w435 (ho32.r 71 rfl) ?_
        obtain ⟨P60, ct61, hw62⟩ := hw41
        refine z_callV (h := g31) (S := []) (a := (a + 1)) (M := mX10_text) (As := [.int y15, va_rf (some (a + 56))]) zc6 rfl eX6_tellNight w934 w24 (Or.inr ⟨_, w932⟩) dX10_text_118 (ho32.k 1 rfl) (ho32.lt 1 rfl) rfl (by omega) (Nat.le_of_ble_eq_true rfl) ct61 (fun v67 g68 q64 => ?_)
        obtain ⟨I63, rfl, rfl, q64⟩ := q64
        have hw66 := hw62 I63 q64
        show Z l G _ d Q k n 121 _ ([]) _
        refine z_goto (t := 140) dX10_text_121 (by decide) ?_
        refine z_aloadn dX10_text_140 rfl rfl ?_
        obtain ⟨P69, ct70, hw71⟩ := hw66
        refine z_callV (h := (I63, g31.2)) (S := []) (a := a) (M := mX10_text) (As := []) zc10 rfl eX10_forgetFindings w964 w29 (Or.inl w962) dX10_text_141 (ho32.k 0 rfl) (ho32.lt 0 rfl) rfl (by omega) (Nat.le_of_ble_eq_true rfl) ct70 (fun v76 g77 q73 => ?_)
        obtain ⟨I72, rfl, rfl, q73⟩ := q73
        have hw75 := hw71 I72 q73
        show Z l G _ d Q k n 144 _ ([]) _
        refine z_iload dX10_text_144 rfl ?_
        exact z_ret (v := some (.int y15)) dX10_text_146 ⟨_, rfl, rfl⟩ rfl hw75
    · have hw37 := hw33.2 (zb0 c35)
      refine z_aloadn dX10_text_71 rfl rfl ?_
      refine z_getRq (j := 0) zc10 dX10_text_72 (ho32.k 0 rfl) (ho32.lt 0 rfl) (by decide) rfl w699 (ho32.r 51 rfl) ?_
      refine z_aloadn dX10_text_75 rfl rfl ?_
      refine z_getRq (j := 3) zc10 dX10_text_76 (ho32.k 0 rfl) (ho32.lt 0 rfl) (by decide) rfl w702 (ho32.r 79 rfl) ?_
      refine z_getIN (j := 2) zc5 dX10_text_79 (ho32.k 55 rfl) (ho32.lt 55 rfl) (by decide) rfl w439 ?_
      refine z_putI (j := 2) zc6 dX10_text_82 (ho32.k 1 rfl) (ho32.lt 1 rfl) (by decide) rfl rfl (Or.inl rfl) (Or.inr ⟨_, w396⟩) ?_
      refine z_nm (r := g31.2) rfl (fun I78 e79 => ?_)
      have hw80 := hw37 I78 e79
      refine z_aloadn dX10_text_85 rfl rfl ?_
      refine z_getRq (j := 0) zc10 dX10_text_86 (ho32.k 0 rfl) (ho32.lt 0 rfl) (by decide) rfl w699 (ho32.r 51 rfl) ?_
      refine z_aloadn dX10_text_89 rfl rfl ?_
      refine z_getRq (j := 3) zc10 dX10_text_90 (ho32.k 0 rfl) (ho32.lt 0 rfl) (by decide) rfl w702 (ho32.r 79 rfl) ?_
      refine z_getIN (j := 3) zc5 dX10_text_93 (ho32.k 55 rfl) (ho32.lt 55 rfl) (by decide) rfl w441 ?_
      refine z_putI (j := 3) zc6 dX10_text_96 (ho32.k 1 rfl) (ho32.lt 1 rfl) (by decide) rfl rfl (Or.inl rfl) (Or.inr ⟨_, w399⟩) ?_
      refine z_nm (r := g31.2) rfl (fun I81 e82 => ?_)
      have hw83 := hw80 I81 e82
      refine z_iconst (v := (-1)) dX10_text_99 (by decide) ?_
      exact z_ret (v := some (.int ((-1)))) dX10_text_100 ⟨_, rfl, rfl⟩ rfl hw83
  · have hw22 := hw16.2 c20
    refine z_bipush (v := (-2)) dX10_text_49 (by decide) ?_
    exact z_ret (v := some (.int ((-2)))) dX10_text_51 ⟨_, rfl, rfl⟩ rfl hw22

theorem kX10_text {l : Launch} {G : zG} {d : Nat} {Q : Option Value → zH → Prop} {k n : Nat} {h : zH} (a : Nat) (x1 : Int32) (x2 : Int32) (hz : Z l G mX10_text d Q k n 0 [va_rf (some a), .int x1, .int x2, zU, zU] [] h) : CT l G YX10_text d k n [va_rf (some a), .int x1, .int x2] h Q :=
  CT.of (by decide +kernel) (fun t e => by have e2 : ((some .int) : Option FieldType) = some t := e; cases e2; exact ⟨by decide, by decide⟩) (by exact Nat.le_of_ble_eq_true rfl) (by exact hz)

theorem sX10_image_0 {l : Launch} {G : zG} {d : Nat} {Q : Option Value → zH → Prop} {k n : Nat} {h : zH} (a : Nat) (x1 : Int32) (ha : lo10 h a) (hd9 : 6 ≤ d)
    (hw : ((x1.toInt < (0 : Int) → Q (some (.int 0)) h) ∧ ((0 : Int) ≤ x1.toInt → (((3 : Int) ≤ x1.toInt → Q (some (.int 0)) h) ∧ (x1.toInt < (3 : Int) → ((x1.toInt < (3 : Int) → (0 ≤ x1.toInt ∧ x1.toInt < ((3 : Nat) : Int) ∧ (∃ b14, zR h (a + 53) (zix x1) = some b14 ∧ lo6 h b14 ∧ (∃ P18, CTv l G YX6_copyFrom 5 [va_rf (some b14), va_rf (some (a + 1))] h P18 ∧ ∀ (I21 : Nat → Nat → Int32), P18 I21 → (0 ≤ x1.toInt ∧ x1.toInt < ((3 : Nat) : Int) ∧ (∀ I28 : Nat → Nat → Int32, I28 = (zwI (I21, h.2) (a + 54) (zix x1) (1 : Int32)).1 → Q (some (.int 1)) (I28, h.2))))))) ∧ ((3 : Int) ≤ x1.toInt → Q (some (.int 0)) h))))))) :
    Z l G mX10_image d Q k n 0 [va_rf (some a), .int x1] [] h := by
  refine z_iloadn dX10_image_0 rfl rfl ?_
  refine z_if_lt (t := 22) dX10_image_1 (by decide) (fun c1 => ?_) (fun c2 => ?_)
  · have hw3 := hw.1 c1
    refine z_iconst (v := 0) dX10_image_22 (by decide) ?_
    exact z_ret (v := some (.int 0)) dX10_image_23 ⟨_, rfl, by decide⟩ rfl hw3
  · have hw4 := hw.2 c2
    refine z_iloadn dX10_image_4 rfl rfl ?_
    refine z_aloadn dX10_image_5 rfl rfl ?_
    refine z_getRq (j := 1) zc10 dX10_image_6 (ha.k 0 rfl) (ha.lt 0 rfl) (by decide) rfl w700 (ha.r 52 rfl) ?_
    refine z_alenk (v := 3) 6 rfl (by decide) dX10_image_9 (ha.k 53 rfl) (ha.lt 53 rfl) rfl ?_
    refine z_icmp_ge (t := 22) dX10_image_10 (by decide) (fun c5 => ?_) (fun c6 => ?_)
    · have hw7 := hw4.1 c5
      refine z_iconst (v := 0) dX10_image_22 (by decide) ?_
      exact z_ret (v := some (.int 0)) dX10_image_23 ⟨_, rfl, by decide⟩ rfl hw7
    · have hw8 := hw4.2 c6
      refine z_iloadn dX10_image_13 rfl rfl ?_
      refine z_aloadn dX10_image_14 rfl rfl ?_
      refine z_getRq (j := 2) zc10 dX10_image_15 (ha.k 0 rfl) (ha.lt 0 rfl) (by decide) rfl w701 (ha.r 53 rfl) ?_
      refine z_alenk (v := 3) 1 rfl (by decide) dX10_image_18 (ha.k 54 rfl) (ha.lt 54 rfl) rfl ?_
      refine z_icmp_lt (t := 24) dX10_image_19 (by decide) (fun c9 => ?_) (fun c10 => ?_)
      · have hw11 := hw8.1 c9
        refine z_aloadn dX10_image_24 rfl rfl ?_
        refine z_getRq (j := 1) zc10 dX10_image_25 (ha.k 0 rfl) (ha.lt 0 rfl) (by decide) rfl w700 (ha.r 52 rfl) ?_
        refine z_iloadn dX10_image_28 rfl rfl ?_
        have hw13 := hw11.2.2
        refine z_aald (N := 3) 6 rfl (by decide) dX10_image_29 (ha.k 53 rfl) (ha.lt 53 rfl) hw11.1 hw11.2.1 ?_
        refine z_aloadn dX10_image_30 rfl rfl ?_
        refine z_getRq (j := 0) zc10 dX10_image_31 (ha.k 0 rfl) (ha.lt 0 rfl) (by decide) rfl w699 (ha.r 51 rfl) ?_
        obtain ⟨b14, q15, ho16, hw17⟩ := hw13
        refine z_soP [va_rf (some (a + 1))] q15 ?_
        obtain ⟨P18, ct19, hw20⟩ := hw17
        refine z_callV (h := h) (S := []) (a := b14) (M := mX10_image) (As := [va_rf (some (a + 1))]) zc6 rfl eX6_copyFrom w981 w30 (Or.inr ⟨_, w979⟩) dX10_image_34 (ho16.k 0 rfl) (ho16.lt 0 rfl) rfl (by omega) (Nat.le_of_ble_eq_true rfl) ct19 (fun v25 g26 q22 => ?_)
        obtain ⟨I21, rfl, rfl, q22⟩ := q22
        have hw24 := hw20 I21 q22
        show Z l G _ d Q k n 37 _ ([]) _
        refine z_aloadn dX10_image_37 rfl rfl ?_
        refine z_getRq (j := 2) zc10 dX10_image_38 (ha.k 0 rfl) (ha.lt 0 rfl) (by decide) rfl w701 (ha.r 53 rfl) ?_
        refine z_iloadn dX10_image_41 rfl rfl ?_
        refine z_iconst (v := 1) dX10_image_42 (by decide) ?_
        have hw27 := hw24.2.2
        refine z_bast (N := 3) dX10_image_43 (ha.k 54 rfl) (ha.lt 54 rfl) hw24.1 hw24.2.1 (by decide) ?_
        refine z_nm (r := h.2) rfl (fun I28 e29 => ?_)
        have hw30 := hw27 I28 e29
        refine z_iconst (v := 1) dX10_image_44 (by decide) ?_
        exact z_ret (v := some (.int 1)) dX10_image_45 ⟨_, rfl, by decide⟩ rfl hw30
      · have hw12 := hw8.2 c10
        refine z_iconst (v := 0) dX10_image_22 (by decide) ?_
        exact z_ret (v := some (.int 0)) dX10_image_23 ⟨_, rfl, by decide⟩ rfl hw12

theorem kX10_image {l : Launch} {G : zG} {d : Nat} {Q : Option Value → zH → Prop} {k n : Nat} {h : zH} (a : Nat) (x1 : Int32) (hz : Z l G mX10_image d Q k n 0 [va_rf (some a), .int x1] [] h) : CT l G YX10_image d k n [va_rf (some a), .int x1] h Q :=
  CT.of (by decide +kernel) (fun t e => by have e2 : ((some .boolean) : Option FieldType) = some t := e; cases e2; exact ⟨by decide, by decide⟩) (by exact Nat.le_of_ble_eq_true rfl) (by exact hz)

theorem sX10_again_0 {l : Launch} {G : zG} {d : Nat} {Q : Option Value → zH → Prop} {k n : Nat} {h : zH} (a : Nat) (x1 : Int32) (ha : lo10 h a) (hd9 : 6 ≤ d)
    (hw : ((x1.toInt < (0 : Int) → Q (some (.int 0)) h) ∧ ((0 : Int) ≤ x1.toInt → (((3 : Int) ≤ x1.toInt → Q (some (.int 0)) h) ∧ (x1.toInt < (3 : Int) → (((3 : Int) ≤ x1.toInt → Q (some (.int 0)) h) ∧ (x1.toInt < (3 : Int) → (0 ≤ x1.toInt ∧ x1.toInt < ((3 : Nat) : Int) ∧ ((¬ zI h (a + 54) (zix x1) = 0 → (0 ≤ x1.toInt ∧ x1.toInt < ((3 : Nat) : Int) ∧ (∃ P19, CTv l G YX6_copyFrom 5 [va_rf (some (a + 1)), va_rf (zR h (a + 53) (zix x1))] h P19 ∧ ∀ (I22 : Nat → Nat → Int32), P19 I22 → (∃ P28, CTv l G YX10_forgetFindings 1 [va_rf (some a)] (I22, h.2) P28 ∧ ∀ (I31 : Nat → Nat → Int32), P28 I31 → Q (some (.int 1)) (I31, h.2))))) ∧ (zI h (a + 54) (zix x1) = 0 → Q (some (.int 0)) h)))))))))) :
    Z l G mX10_again d Q k n 0 [va_rf (some a), .int x1] [] h := by
  refine z_iloadn dX10_again_0 rfl rfl ?_
  refine z_if_lt (t := 31) dX10_again_1 (by decide) (fun c1 => ?_) (fun c2 => ?_)
  · have hw3 := hw.1 c1
    refine z_iconst (v := 0) dX10_again_31 (by decide) ?_
    exact z_ret (v := some (.int 0)) dX10_again_32 ⟨_, rfl, by decide⟩ rfl hw3
  · have hw4 := hw.2 c2
    refine z_iloadn dX10_again_4 rfl rfl ?_
    refine z_aloadn dX10_again_5 rfl rfl ?_
    refine z_getRq (j := 1) zc10 dX10_again_6 (ha.k 0 rfl) (ha.lt 0 rfl) (by decide) rfl w700 (ha.r 52 rfl) ?_
    refine z_alenk (v := 3) 6 rfl (by decide) dX10_again_9 (ha.k 53 rfl) (ha.lt 53 rfl) rfl ?_
    refine z_icmp_ge (t := 31) dX10_again_10 (by decide) (fun c5 => ?_) (fun c6 => ?_)
    · have hw7 := hw4.1 c5
      refine z_iconst (v := 0) dX10_again_31 (by decide) ?_
      exact z_ret (v := some (.int 0)) dX10_again_32 ⟨_, rfl, by decide⟩ rfl hw7
    · have hw8 := hw4.2 c6
      refine z_iloadn dX10_again_13 rfl rfl ?_
      refine z_aloadn dX10_again_14 rfl rfl ?_
      refine z_getRq (j := 2) zc10 dX10_again_15 (ha.k 0 rfl) (ha.lt 0 rfl) (by decide) rfl w701 (ha.r 53 rfl) ?_
      refine z_alenk (v := 3) 1 rfl (by decide) dX10_again_18 (ha.k 54 rfl) (ha.lt 54 rfl) rfl ?_
      refine z_icmp_ge (t := 31) dX10_again_19 (by decide) (fun c9 => ?_) (fun c10 => ?_)
      · have hw11 := hw8.1 c9
        refine z_iconst (v := 0) dX10_again_31 (by decide) ?_
        exact z_ret (v := some (.int 0)) dX10_again_32 ⟨_, rfl, by decide⟩ rfl hw11
      · have hw12 := hw8.2 c10
        refine z_aloadn dX10_again_22 rfl rfl ?_
        refine z_getRq (j := 2) zc10 dX10_again_23 (ha.k 0 rfl) (ha.lt 0 rfl) (by decide) rfl w701 (ha.r 53 rfl) ?_
        refine z_iloadn dX10_again_26 rfl rfl ?_
        have hw13 := hw12.2.2
        refine z_bald (N := 3) dX10_again_27 (ha.k 54 rfl) (ha.lt 54 rfl) hw12.1 hw12.2.1 ?_
        refine z_if_ne (t := 33) dX10_again_28 (by decide) (fun c14 => ?_) (fun c15 => ?_)
        · have hw16 := hw13.1 c14
          refine z_aloadn dX10_again_33 rfl rfl ?_
          refine z_getRq (j := 0) zc10 dX10_again_34 (ha.k 0 rfl) (ha.lt 0 rfl) (by decide) rfl w699 (ha.r 51 rfl) ?_
          refine z_aloadn dX10_again_37 rfl rfl ?_
          refine z_getRq (j := 1) zc10 dX10_again_38 (ha.k 0 rfl) (ha.lt 0 rfl) (by decide) rfl w700 (ha.r 52 rfl) ?_
          refine z_iloadn dX10_again_41 rfl rfl ?_
          have hw18 := hw16.2.2
          refine z_aald (N := 3) 6 rfl (by decide) dX10_again_42 (ha.k 53 rfl) (ha.lt 53 rfl) hw16.1 hw16.2.1 ?_
          obtain ⟨P19, ct20, hw21⟩ := hw18
          refine z_callV (h := h) (S := []) (a := (a + 1)) (M := mX10_again) (As := [va_rf (zR h (a + 53) (zix x1))]) zc6 rfl eX6_copyFrom w981 w30 (Or.inr ⟨_, w979⟩) dX10_again_43 (ha.k 1 rfl) (ha.lt 1 rfl) rfl (by omega) (Nat.le_of_ble_eq_true rfl) ct20 (fun v26 g27 q23 => ?_)
          obtain ⟨I22, rfl, rfl, q23⟩ := q23
          have hw25 := hw21 I22 q23
          show Z l G _ d Q k n 46 _ ([]) _
          refine z_aloadn dX10_again_46 rfl rfl ?_
          obtain ⟨P28, ct29, hw30⟩ := hw25
          refine z_callV (h := (I22, h.2)) (S := []) (a := a) (M := mX10_again) (As := []) zc10 rfl eX10_forgetFindings w964 w29 (Or.inl w962) dX10_again_47 (ha.k 0 rfl) (ha.lt 0 rfl) rfl (by omega) (Nat.le_of_ble_eq_true rfl) ct29 (fun v35 g36 q32 => ?_)
          obtain ⟨I31, rfl, rfl, q32⟩ := q32
          have hw34 := hw30 I31 q32
          show Z l G _ d Q k n 50 _ ([]) _
          refine z_iconst (v := 1) dX10_again_50 (by decide) ?_
          exact z_ret (v := some (.int 1)) dX10_again_51 ⟨_, rfl, by decide⟩ rfl hw34
        · have hw17 := hw13.2 c15
          refine z_iconst (v := 0) dX10_again_31 (by decide) ?_
          exact z_ret (v := some (.int 0)) dX10_again_32 ⟨_, rfl, by decide⟩ rfl hw17

theorem kX10_again {l : Launch} {G : zG} {d : Nat} {Q : Option Value → zH → Prop} {k n : Nat} {h : zH} (a : Nat) (x1 : Int32) (hz : Z l G mX10_again d Q k n 0 [va_rf (some a), .int x1] [] h) : CT l G YX10_again d k n [va_rf (some a), .int x1] h Q :=
  CT.of (by decide +kernel) (fun t e => by have e2 : ((some .boolean) : Option FieldType) = some t := e; cases e2; exact ⟨by decide, by decide⟩) (by exact Nat.le_of_ble_eq_true rfl) (by exact hz)

theorem sX10_night_0 {l : Launch} {G : zG} {d : Nat} {Q : Option Value → zH → Prop} {k n : Nat} {h : zH} (a : Nat) (x1 : Int32) (x2 : Int32) (ha : lo10 h a) (hd9 : 3 ≤ d)
    (hw : ((znat h (a + 1) x1 = none → Q (some (.int ((-1)))) h) ∧ (∀ b5, znat h (a + 1) x1 = some b5 → ((x2.toInt < 0 ∨ 5 < x2.toInt → (lo1 h b5 ∧ (∃ P12, CTi l G YX1_errandPart 2 [va_rf (some b5), .int x2] h P12 ∧ ∀ (y17 : Int32) (I15 : Nat → Nat → Int32), P12 y17 I15 → Q (some (.int y17)) (I15, h.2)))) ∧ (x2.toInt = 0 → (lo1 h b5 ∧ Q (some (.int (zI h b5 0))) h)) ∧ (x2.toInt = 1 → (lo1 h b5 ∧ Q (some (.int (zI h b5 1))) h)) ∧ (x2.toInt = 2 → (lo1 h b5 ∧ Q (some (.int (zI h b5 2))) h)) ∧ (x2.toInt = 3 → (lo1 h b5 ∧ Q (some (.int (zI h b5 3))) h)) ∧ (x2.toInt = 4 → (lo1 h b5 ∧ Q (some (.int (zI h b5 4))) h)) ∧ (x2.toInt = 5 → (lo1 h b5 ∧ (∃ P39, CTi l G YX1_rainyMinutes 1 [va_rf (some b5)] h P39 ∧ ∀ (y44 : Int32) (I42 : Nat → Nat → Int32), P39 y44 I42 → Q (some (.int y44)) (I42, h.2)))))))) :
    Z l G mX10_night d Q k n 0 [va_rf (some a), .int x1, .int x2, zU] [] h := by
  refine z_aloadn dX10_night_0 rfl rfl ?_
  refine z_getRq (j := 0) zc10 dX10_night_1 (ha.k 0 rfl) (ha.lt 0 rfl) (by decide) rfl w699 (ha.r 51 rfl) ?_
  refine z_iloadn dX10_night_4 rfl rfl ?_
  refine z_callV (h := h) (S := []) (a := (a + 1)) (M := mX10_night) (As := [.int x1]) zc6 rfl eX6_nightAt w994 w31 (Or.inr ⟨_, w992⟩) dX10_night_5 (ha.k 1 rfl) (ha.lt 1 rfl) rfl (by omega) (Nat.le_of_ble_eq_true rfl) (c_X6_nightAt l G h (a + 1) x1 (los_10_1 ha)) (fun v1 g2 q3 => ?_)
  obtain ⟨rfl, q3⟩ := q3
  replace q3 := q3.symm
  subst q3
  show Z l G _ d Q k n 8 _ (va_rf (znat h (a + 1) x1) :: []) _
  refine z_astoren (L' := [va_rf (some a), .int x1, .int x2, va_rf (znat h (a + 1) x1)]) dX10_night_8 rfl (by decide) rfl ?_
  refine z_aloadn dX10_night_9 rfl rfl ?_
  refine z_ifnonnull (t := 15) dX10_night_10 (by decide) (fun b5 c4 => ?_) (fun c4 => ?_)
  · have hw7 := hw.2 b5 c4
    refine z_iloadn dX10_night_15 rfl rfl ?_
    refine z_tswc (td := 86) (ts := [56, 61, 66, 71, 76, 81]) dX10_night_16 (by decide) (by decide) (by decide) (fun c8 => ?_) ⟨fun c8k0 => ?_, fun c8k1 => ?_, fun c8k2 => ?_, fun c8k3 => ?_, fun c8k4 => ?_, fun c8k5 => ?_, trivial⟩
    · have hw9 := hw7.1 c8
      refine z_aloadn dX10_night_86 rfl rfl ?_
      refine z_iloadn dX10_night_87 rfl rfl ?_
      refine z_soP [.int x2] c4 ?_
      obtain ⟨ho10, hw11⟩ := hw9
      obtain ⟨P12, ct13, hw14⟩ := hw11
      refine z_callV (h := h) (S := []) (a := b5) (M := mX10_night) (As := [.int x2]) zc1 rfl eX1_errandPart w1002 w33 (Or.inr ⟨_, w1000⟩) dX10_night_88 (ho10.k 0 rfl) (ho10.lt 0 rfl) rfl (by omega) (Nat.le_of_ble_eq_true rfl) ct13 (fun v19 g20 q16 => ?_)
      obtain ⟨y17, I15, rfl, rfl, q16⟩ := q16
      have hw18 := hw14 y17 I15 q16
      show Z l G _ d Q k n 91 _ (.int y17 :: []) _
      exact z_ret (v := some (.int y17)) dX10_night_91 ⟨_, rfl, rfl⟩ rfl hw18
    · have hw21 := hw7.2.1 c8k0
      refine z_aloadn dX10_night_56 rfl rfl ?_
      refine z_soP [] c4 ?_
      obtain ⟨ho22, hw23⟩ := hw21
      refine z_getIN (j := 0) zc1 dX10_night_57 (ho22.k 0 rfl) (ho22.lt 0 rfl) (by decide) rfl w303 ?_
      exact z_ret (v := some (.int (zI h b5 0))) dX10_night_60 ⟨_, rfl, rfl⟩ rfl hw23
    · have hw24 := hw7.2.2.1 c8k1
      refine z_aloadn dX10_night_61 rfl rfl ?_
      refine z_soP [] c4 ?_
      obtain ⟨ho25, hw26⟩ := hw24
      refine z_getIN (j := 1) zc1 dX10_night_62 (ho25.k 0 rfl) (ho25.lt 0 rfl) (by decide) rfl w306 ?_
      exact z_ret (v := some (.int (zI h b5 1))) dX10_night_65 ⟨_, rfl, rfl⟩ rfl hw26
    · have hw27 := hw7.2.2.2.1 c8k2
      refine z_aloadn dX10_night_66 rfl rfl ?_
      refine z_soP [] c4 ?_
      obtain ⟨ho28, hw29⟩ := hw27
      refine z_getIN (j := 2) zc1 dX10_night_67 (ho28.k 0 rfl) (ho28.lt 0 rfl) (by decide) rfl w310 ?_
      exact z_ret (v := some (.int (zI h b5 2))) dX10_night_70 ⟨_, rfl, rfl⟩ rfl hw29
    · have hw30 := hw7.2.2.2.2.1 c8k3
      refine z_aloadn dX10_night_71 rfl rfl ?_
      refine z_soP [] c4 ?_
      obtain ⟨ho31, hw32⟩ := hw30
      refine z_getIN (j := 3) zc1 dX10_night_72 (ho31.k 0 rfl) (ho31.lt 0 rfl) (by decide) rfl w316 ?_
      exact z_ret (v := some (.int (zI h b5 3))) dX10_night_75 ⟨_, rfl, rfl⟩ rfl hw32
    · have hw33 := hw7.2.2.2.2.2.1 c8k4
      refine z_aloadn dX10_night_76 rfl rfl ?_
      refine z_soP [] c4 ?_
      obtain ⟨ho34, hw35⟩ := hw33
      refine z_getIN (j := 4) zc1 dX10_night_77 (ho34.k 0 rfl) (ho34.lt 0 rfl) (by decide) rfl w320 ?_
      exact z_ret (v := some (.int (zI h b5 4))) dX10_night_80 ⟨_, rfl, rfl⟩ rfl hw35
    · have hw36 := hw7.2.2.2.2.2.2 c8k5
      refine z_aloadn dX10_night_81 rfl rfl ?_
      refine z_soP [] c4 ?_
      obtain ⟨ho37, hw38⟩ := hw36
      obtain ⟨P39, ct40, hw41⟩ := hw38
      refine z_callV (h := h) (S := []) (a := b5) (M := mX10_night) (As := []) zc1 rfl eX1_rainyMinutes w998 w32 (Or.inr ⟨_, w996⟩) dX10_night_82 (ho37.k 0 rfl) (ho37.lt 0 rfl) rfl (by omega) (Nat.le_of_ble_eq_true rfl) ct40 (fun v46 g47 q43 => ?_)
      obtain ⟨y44, I42, rfl, rfl, q43⟩ := q43
      have hw45 := hw41 y44 I42 q43
      show Z l G _ d Q k n 85 _ (.int y44 :: []) _
      exact z_ret (v := some (.int y44)) dX10_night_85 ⟨_, rfl, rfl⟩ rfl hw45
  · have hw6 := hw.1 c4
    refine z_iconst (v := (-1)) dX10_night_13 (by decide) ?_
    exact z_ret (v := some (.int ((-1)))) dX10_night_14 ⟨_, rfl, rfl⟩ rfl hw6

theorem kX10_night {l : Launch} {G : zG} {d : Nat} {Q : Option Value → zH → Prop} {k n : Nat} {h : zH} (a : Nat) (x1 : Int32) (x2 : Int32) (hz : Z l G mX10_night d Q k n 0 [va_rf (some a), .int x1, .int x2, zU] [] h) : CT l G YX10_night d k n [va_rf (some a), .int x1, .int x2] h Q :=
  CT.of (by decide +kernel) (fun t e => by have e2 : ((some .int) : Option FieldType) = some t := e; cases e2; exact ⟨by decide, by decide⟩) (by exact Nat.le_of_ble_eq_true rfl) (by exact hz)

theorem sX10_person_0 {l : Launch} {G : zG} {d : Nat} {Q : Option Value → zH → Prop} {k n : Nat} {h : zH} (a : Nat) (x1 : Int32) (x2 : Int32) (x3 : Int32) (ha : lo10 h a) (hd9 : 4 ≤ d)
    (hw : ((znat h (a + 1) x1 = none → Q (some (.int ((-2)))) h) ∧ (∀ b5, znat h (a + 1) x1 = some b5 → (lo1 h b5 ∧ ((zmem h b5 x2 = none → Q (some (.int ((-2)))) h) ∧ (∀ b15, zmem h b5 x2 = some b15 → ((x3.toInt < 0 ∨ 9 < x3.toInt → Q (some (.int ((-2)))) h) ∧ (x3.toInt = 0 → (lo2 h b15 ∧ Q (some (.int (zI h b15 0))) h)) ∧ (x3.toInt = 1 → (lo2 h b15 ∧ Q (some (.int (zI h b15 1))) h)) ∧ (x3.toInt = 2 → (lo2 h b15 ∧ Q (some (.int (zI h b15 2))) h)) ∧ (x3.toInt = 3 → (lo2 h b15 ∧ Q (some (.int (zI h b15 3))) h)) ∧ (x3.toInt = 4 → (lo2 h b15 ∧ Q (some (.int (zI h b15 4))) h)) ∧ (x3.toInt = 5 → (lo2 h b15 ∧ Q (some (.int (zI h b15 5))) h)) ∧ (x3.toInt = 6 → (lo2 h b15 ∧ Q (some (.int (zI h b15 6))) h)) ∧ (x3.toInt = 7 → (lo2 h b15 ∧ Q (some (.int (zI h b15 7))) h)) ∧ (x3.toInt = 8 → (lo2 h b15 ∧ Q (some (.int (zI h b15 8))) h)) ∧ (x3.toInt = 9 → (∃ P48, CTi l G YX1_stepsMade 3 [va_rf (some b5), va_rf (some b15)] h P48 ∧ ∀ (y53 : Int32) (I51 : Nat → Nat → Int32), P48 y53 I51 → Q (some (.int y53)) (I51, h.2)))))))))) :
    Z l G mX10_person d Q k n 0 [va_rf (some a), .int x1, .int x2, .int x3, zU, zU] [] h := by
  refine z_aloadn dX10_person_0 rfl rfl ?_
  refine z_getRq (j := 0) zc10 dX10_person_1 (ha.k 0 rfl) (ha.lt 0 rfl) (by decide) rfl w699 (ha.r 51 rfl) ?_
  refine z_iloadn dX10_person_4 rfl rfl ?_
  refine z_callV (h := h) (S := []) (a := (a + 1)) (M := mX10_person) (As := [.int x1]) zc6 rfl eX6_nightAt w994 w31 (Or.inr ⟨_, w992⟩) dX10_person_5 (ha.k 1 rfl) (ha.lt 1 rfl) rfl (by omega) (Nat.le_of_ble_eq_true rfl) (c_X6_nightAt l G h (a + 1) x1 (los_10_1 ha)) (fun v1 g2 q3 => ?_)
  obtain ⟨rfl, q3⟩ := q3
  replace q3 := q3.symm
  subst q3
  show Z l G _ d Q k n 8 _ (va_rf (znat h (a + 1) x1) :: []) _
  refine z_astore (L' := [va_rf (some a), .int x1, .int x2, .int x3, va_rf (znat h (a + 1) x1), zU]) dX10_person_8 (by decide) rfl ?_
  refine z_aload dX10_person_10 rfl ?_
  refine z_ifnonnull (t := 19) dX10_person_12 (by decide) (fun b5 c4 => ?_) (fun c4 => ?_)
  · have hw7 := hw.2 b5 c4
    refine z_aload dX10_person_19 rfl ?_
    refine z_iloadn dX10_person_21 rfl rfl ?_
    refine z_soP [.int x2] c4 ?_
    obtain ⟨ho9, hw10⟩ := hw7
    refine z_callV (h := h) (S := []) (a := b5) (M := mX10_person) (As := [.int x2]) zc1 rfl eX1_member w1011 w34 (Or.inr ⟨_, w1009⟩) dX10_person_22 (ho9.k 0 rfl) (ho9.lt 0 rfl) rfl (by omega) (Nat.le_of_ble_eq_true rfl) (c_X1_member l G h b5 x2 ho9) (fun v11 g12 q13 => ?_)
    obtain ⟨rfl, q13⟩ := q13
    replace q13 := q13.symm
    subst q13
    show Z l G _ d Q k n 25 _ (va_rf (zmem h b5 x2) :: []) _
    refine z_astore (L' := [va_rf (some a), .int x1, .int x2, .int x3, va_rf (znat h (a + 1) x1), va_rf (zmem h b5 x2)]) dX10_person_25 (by decide) ((zs1_rf (j := 4) rfl).trans rfl) ?_
    refine z_aload dX10_person_27 rfl ?_
    refine z_ifnonnull (t := 35) dX10_person_29 (by decide) (fun b15 c14 => ?_) (fun c14 => ?_)
    · have hw17 := hw10.2 b15 c14
      refine z_iloadn dX10_person_35 rfl rfl ?_
      refine z_tswc (td := 154) (ts := [92, 98, 104, 110, 116, 122, 128, 134, 140, 146]) dX10_person_36 (by decide) (by decide) (by decide) (fun c18 => ?_) ⟨fun c18k0 => ?_, fun c18k1 => ?_, fun c18k2 => ?_, fun c18k3 => ?_, fun c18k4 => ?_, fun c18k5 => ?_, fun c18k6 => ?_, fun c18k7 => ?_, fun c18k8 => ?_, fun c18k9 => ?_, trivial⟩
      · have hw19 := hw17.1 c18
        refine z_bipush (v := (-2)) dX10_person_154 (by decide) ?_
        exact z_ret (v := some (.int ((-2)))) dX10_person_156 ⟨_, rfl, rfl⟩ rfl hw19
      · have hw20 := hw17.2.1 c18k0
        refine z_aload dX10_person_92 rfl ?_
        refine z_soP [] c14 ?_
        obtain ⟨ho21, hw22⟩ := hw20
        refine z_getIN (j := 0) zc2 dX10_person_94 (ho21.k 0 rfl) (ho21.lt 0 rfl) (by decide) rfl w224 ?_
        exact z_ret (v := some (.int (zI h b15 0))) dX10_person_97 ⟨_, rfl, rfl⟩ rfl hw22
      · have hw23 := hw17.2.2.1 c18k1
        refine z_aload dX10_person_98 rfl ?_
        refine z_soP [] c14 ?_
        obtain ⟨ho24, hw25⟩ := hw23
        refine z_getIN (j := 1) zc2 dX10_person_100 (ho24.k 0 rfl) (ho24.lt 0 rfl) (by decide) rfl w230 ?_
        exact z_ret (v := some (.int (zI h b15 1))) dX10_person_103 ⟨_, rfl, rfl⟩ rfl hw25
      · have hw26 := hw17.2.2.2.1 c18k2
        refine z_aload dX10_person_104 rfl ?_
        refine z_soP [] c14 ?_
        obtain ⟨ho27, hw28⟩ := hw26
        refine z_getIN (j := 2) zc2 dX10_person_106 (ho27.k 0 rfl) (ho27.lt 0 rfl) (by decide) rfl w235 ?_
        exact z_ret (v := some (.int (zI h b15 2))) dX10_person_109 ⟨_, rfl, rfl⟩ rfl hw28
      · have hw29 := hw17.2.2.2.2.1 c18k3
        refine z_aload dX10_person_110 rfl ?_
        refine z_soP [] c14 ?_
        obtain ⟨ho30, hw31⟩ := hw29
        refine z_getIN (j := 3) zc2 dX10_person_112 (ho30.k 0 rfl) (ho30.lt 0 rfl) (by decide) rfl w239 ?_
        exact z_ret (v := some (.int (zI h b15 3))) dX10_person_115 ⟨_, rfl, rfl⟩ rfl hw31
      · have hw32 := hw17.2.2.2.2.2.1 c18k4
        refine z_aload dX10_person_116 rfl ?_
        refine z_soP [] c14 ?_
        obtain ⟨ho33, hw34⟩ := hw32
        refine z_getIN (j := 4) zc2 dX10_person_118 (ho33.k 0 rfl) (ho33.lt 0 rfl) (by decide) rfl w242 ?_
        exact z_ret (v := some (.int (zI h b15 4))) dX10_person_121 ⟨_, rfl, rfl⟩ rfl hw34
      · have hw35 := hw17.2.2.2.2.2.2.1 c18k5
        refine z_aload dX10_person_122 rfl ?_
        refine z_soP [] c14 ?_
        obtain ⟨ho36, hw37⟩ := hw35
        refine z_getIN (j := 5) zc2 dX10_person_124 (ho36.k 0 rfl) (ho36.lt 0 rfl) (by decide) rfl w245 ?_
        exact z_ret (v := some (.int (zI h b15 5))) dX10_person_127 ⟨_, rfl, rfl⟩ rfl hw37
      · have hw38 := hw17.2.2.2.2.2.2.2.1 c18k6
        refine z_aload dX10_person_128 rfl ?_
        refine z_soP [] c14 ?_
        obtain ⟨ho39, hw40⟩ := hw38
        refine z_getIN (j := 6) zc2 dX10_person_130 (ho39.k 0 rfl) (ho39.lt 0 rfl) (by decide) rfl w250 ?_
        exact z_ret (v := some (.int (zI h b15 6))) dX10_person_133 ⟨_, rfl, rfl⟩ rfl hw40
      · have hw41 := hw17.2.2.2.2.2.2.2.2.1 c18k7
        refine z_aload dX10_person_134 rfl ?_
        refine z_soP [] c14 ?_
        obtain ⟨ho42, hw43⟩ := hw41
        refine z_getIN (j := 7) zc2 dX10_person_136 (ho42.k 0 rfl) (ho42.lt 0 rfl) (by decide) rfl w255 ?_
        exact z_ret (v := some (.int (zI h b15 7))) dX10_person_139 ⟨_, rfl, rfl⟩ rfl hw43
      · have hw44 := hw17.2.2.2.2.2.2.2.2.2.1 c18k8
        refine z_aload dX10_person_140 rfl ?_
        refine z_soP [] c14 ?_
        obtain ⟨ho45, hw46⟩ := hw44
        refine z_getIN (j := 8) zc2 dX10_person_142 (ho45.k 0 rfl) (ho45.lt 0 rfl) (by decide) rfl w260 ?_
        exact z_ret (v := some (.int (zI h b15 8))) dX10_person_145 ⟨_, rfl, rfl⟩ rfl hw46
      · have hw47 := hw17.2.2.2.2.2.2.2.2.2.2 c18k9
        refine z_aload dX10_person_146 rfl ?_
        refine z_aload dX10_person_148 rfl ?_
        refine z_soP [va_rf (zmem h b5 x2)] c4 ?_
        refine z_soP [] c14 ?_
        obtain ⟨P48, ct49, hw50⟩ := hw47
        refine z_callV (h := h) (S := []) (a := b5) (M := mX10_person) (As := [va_rf (some b15)]) zc1 rfl eX1_stepsMade w1016 w35 (Or.inr ⟨_, w1014⟩) dX10_person_150 (ho9.k 0 rfl) (ho9.lt 0 rfl) rfl (by omega) (Nat.le_of_ble_eq_true rfl) ct49 (fun v55 g56 q52 => ?_)
        obtain ⟨y53, I51, rfl, rfl, q52⟩ := q52
        have hw54 := hw50 y53 I51 q52
        show Z l G _ d Q k n 153 _ (.int y53 :: []) _
        exact z_ret (v := some (.int y53)) dX10_person_153 ⟨_, rfl, rfl⟩ rfl hw54
    · have hw16 := hw10.1 c14
      refine z_bipush (v := (-2)) dX10_person_32 (by decide) ?_
      exact z_ret (v := some (.int ((-2)))) dX10_person_34 ⟨_, rfl, rfl⟩ rfl hw16
  · have hw6 := hw.1 c4
    refine z_null dX10_person_15 ?_
    refine z_goto (t := 25) dX10_person_16 (by decide) ?_
    refine z_astore (L' := [va_rf (some a), .int x1, .int x2, .int x3, va_rf (znat h (a + 1) x1), va_rf none]) dX10_person_25 (by decide) ((zs1_rf (j := 4) rfl).trans rfl) ?_
    refine z_aload dX10_person_27 rfl ?_
    refine z_ifnonnull (t := 35) dX10_person_29 (by decide) (fun _ c8 => by cases c8) (fun _ => ?_)
    refine z_bipush (v := (-2)) dX10_person_32 (by decide) ?_
    exact z_ret (v := some (.int ((-2)))) dX10_person_34 ⟨_, rfl, rfl⟩ rfl hw6

theorem kX10_person {l : Launch} {G : zG} {d : Nat} {Q : Option Value → zH → Prop} {k n : Nat} {h : zH} (a : Nat) (x1 : Int32) (x2 : Int32) (x3 : Int32) (hz : Z l G mX10_person d Q k n 0 [va_rf (some a), .int x1, .int x2, .int x3, zU, zU] [] h) : CT l G YX10_person d k n [va_rf (some a), .int x1, .int x2, .int x3] h Q :=
  CT.of (by decide +kernel) (fun t e => by have e2 : ((some .int) : Option FieldType) = some t := e; cases e2; exact ⟨by decide, by decide⟩) (by exact Nat.le_of_ble_eq_true rfl) (by exact hz)

theorem sX10_where_0 {l : Launch} {G : zG} {d : Nat} {Q : Option Value → zH → Prop} {k n : Nat} {h : zH} (a : Nat) (x1 : Int32) (x2 : Int32) (x3 : Int32) (ha : lo10 h a) (hd9 : 5 ≤ d)
    (hw : ((znat h (a + 1) x1 = none → Q (some (.int ((-2)))) h) ∧ (∀ b5, znat h (a + 1) x1 = some b5 → (lo1 h b5 ∧ ((zmem h b5 x2 = none → Q (some (.int ((-2)))) h) ∧ (∀ b14, zmem h b5 x2 = some b14 → (((zmin x3) = true → (∃ P24, CTi l G YX1_spot 4 [va_rf (some b5), .int x2, .int x3] h P24 ∧ ∀ (y29 : Int32) (I27 : Nat → Nat → Int32), P24 y29 I27 → Q (some (.int y29)) (I27, h.2))) ∧ ((zmin x3) = false → Q (some (.int ((-2)))) h)))))))) :
    Z l G mX10_where d Q k n 0 [va_rf (some a), .int x1, .int x2, .int x3, zU] [] h := by
  refine z_aloadn dX10_where_0 rfl rfl ?_
  refine z_getRq (j := 0) zc10 dX10_where_1 (ha.k 0 rfl) (ha.lt 0 rfl) (by decide) rfl w699 (ha.r 51 rfl) ?_
  refine z_iloadn dX10_where_4 rfl rfl ?_
  refine z_callV (h := h) (S := []) (a := (a + 1)) (M := mX10_where) (As := [.int x1]) zc6 rfl eX6_nightAt w994 w31 (Or.inr ⟨_, w992⟩) dX10_where_5 (ha.k 1 rfl) (ha.lt 1 rfl) rfl (by omega) (Nat.le_of_ble_eq_true rfl) (c_X6_nightAt l G h (a + 1) x1 (los_10_1 ha)) (fun v1 g2 q3 => ?_)
  obtain ⟨rfl, q3⟩ := q3
  replace q3 := q3.symm
  subst q3
  show Z l G _ d Q k n 8 _ (va_rf (znat h (a + 1) x1) :: []) _
  refine z_astore (L' := [va_rf (some a), .int x1, .int x2, .int x3, va_rf (znat h (a + 1) x1)]) dX10_where_8 (by decide) rfl ?_
  refine z_aload dX10_where_10 rfl ?_
  refine z_ifnull (t := 31) dX10_where_12 (by decide) (fun c4 => ?_) (fun b5 c4 => ?_)
  · have hw6 := hw.1 c4
    refine z_bipush (v := (-2)) dX10_where_31 (by decide) ?_
    exact z_ret (v := some (.int ((-2)))) dX10_where_33 ⟨_, rfl, rfl⟩ rfl hw6
  · have hw7 := hw.2 b5 c4
    refine z_aload dX10_where_15 rfl ?_
    refine z_iloadn dX10_where_17 rfl rfl ?_
    refine z_soP [.int x2] c4 ?_
    obtain ⟨ho8, hw9⟩ := hw7
    refine z_callV (h := h) (S := []) (a := b5) (M := mX10_where) (As := [.int x2]) zc1 rfl eX1_member w1011 w34 (Or.inr ⟨_, w1009⟩) dX10_where_18 (ho8.k 0 rfl) (ho8.lt 0 rfl) rfl (by omega) (Nat.le_of_ble_eq_true rfl) (c_X1_member l G h b5 x2 ho8) (fun v10 g11 q12 => ?_)
    obtain ⟨rfl, q12⟩ := q12
    replace q12 := q12.symm
    subst q12
    show Z l G _ d Q k n 21 _ (va_rf (zmem h b5 x2) :: []) _
    refine z_ifnull (t := 31) dX10_where_21 (by decide) (fun c13 => ?_) (fun b14 c13 => ?_)
    · have hw15 := hw9.1 c13
      refine z_bipush (v := (-2)) dX10_where_31 (by decide) ?_
      exact z_ret (v := some (.int ((-2)))) dX10_where_33 ⟨_, rfl, rfl⟩ rfl hw15
    · have hw16 := hw9.2 b14 c13
      refine z_iloadn dX10_where_24 rfl rfl ?_
      refine z_callS (h := h) (S := []) (M := mX10_where) (As := [.int x3]) eX10_isMinute w1037 (Or.inl w1036) dX10_where_25 rfl (by omega) (Nat.le_of_ble_eq_true rfl) (c_X10_isMinute l G h x3) (fun v17 g18 q19 => ?_)
      obtain ⟨rfl, q19⟩ := q19
      replace q19 := q19.symm
      subst q19
      show Z l G _ d Q k n 28 _ (.int (zb (zmin x3)) :: []) _
      refine z_if_ne (t := 34) dX10_where_28 (by decide) (fun c20 => ?_) (fun c21 => ?_)
      · have hw22 := hw16.1 (zb1 c20)
        refine z_aload dX10_where_34 rfl ?_
        refine z_iloadn dX10_where_36 rfl rfl ?_
        refine z_iloadn dX10_where_37 rfl rfl ?_
        refine z_soP [.int x3, .int x2] c4 ?_
        obtain ⟨P24, ct25, hw26⟩ := hw22
        refine z_callV (h := h) (S := []) (a := b5) (M := mX10_where) (As := [.int x2, .int x3]) zc1 rfl eX1_spot w1041 w39 (Or.inr ⟨_, w1039⟩) dX10_where_38 (ho8.k 0 rfl) (ho8.lt 0 rfl) rfl (by omega) (Nat.le_of_ble_eq_true rfl) ct25 (fun v31 g32 q28 => ?_)
        obtain ⟨y29, I27, rfl, rfl, q28⟩ := q28
        have hw30 := hw26 y29 I27 q28
        show Z l G _ d Q k n 41 _ (.int y29 :: []) _
        exact z_ret (v := some (.int y29)) dX10_where_41 ⟨_, rfl, rfl⟩ rfl hw30
      · have hw23 := hw16.2 (zb0 c21)
        refine z_bipush (v := (-2)) dX10_where_31 (by decide) ?_
        exact z_ret (v := some (.int ((-2)))) dX10_where_33 ⟨_, rfl, rfl⟩ rfl hw23

theorem kX10_where {l : Launch} {G : zG} {d : Nat} {Q : Option Value → zH → Prop} {k n : Nat} {h : zH} (a : Nat) (x1 : Int32) (x2 : Int32) (x3 : Int32) (hz : Z l G mX10_where d Q k n 0 [va_rf (some a), .int x1, .int x2, .int x3, zU] [] h) : CT l G YX10_where d k n [va_rf (some a), .int x1, .int x2, .int x3] h Q :=
  CT.of (by decide +kernel) (fun t e => by have e2 : ((some .int) : Option FieldType) = some t := e; cases e2; exact ⟨by decide, by decide⟩) (by exact Nat.le_of_ble_eq_true rfl) (by exact hz)

theorem sX10_near_0 {l : Launch} {G : zG} {d : Nat} {Q : Option Value → zH → Prop} {k n : Nat} {h : zH} (a : Nat) (x1 : Int32) (x2 : Int32) (x3 : Int32) (x4 : Int32) (ha : lo10 h a) (hd9 : 5 ≤ d)
    (hw : ((znat h (a + 1) x1 = none → Q (some (.int ((-1)))) h) ∧ (∀ b5, znat h (a + 1) x1 = some b5 → (lo1 h b5 ∧ (((zhas h b5 x2) = false → Q (some (.int ((-1)))) h) ∧ ((zhas h b5 x2) = true → ((x3.toInt < (0 : Int) → Q (some (.int ((-1)))) h) ∧ ((0 : Int) ≤ x3.toInt → (((14 : Int) < x3.toInt → Q (some (.int ((-1)))) h) ∧ (x3.toInt ≤ (14 : Int) → (((zmin x4) = true → Z l G mX10_near d Q k n 50 [va_rf (some a), .int x1, .int x2, .int x3, .int x4, va_rf (znat h (a + 1) x1), .int 0, .int 0, zU] [] h) ∧ ((zmin x4) = false → Q (some (.int ((-1)))) h)))))))))))) :
    Z l G mX10_near d Q k n 0 [va_rf (some a), .int x1, .int x2, .int x3, .int x4, zU, zU, zU, zU] [] h := by
  refine z_aloadn dX10_near_0 rfl rfl ?_
  refine z_getRq (j := 0) zc10 dX10_near_1 (ha.k 0 rfl) (ha.lt 0 rfl) (by decide) rfl w699 (ha.r 51 rfl) ?_
  refine z_iloadn dX10_near_4 rfl rfl ?_
  refine z_callV (h := h) (S := []) (a := (a + 1)) (M := mX10_near) (As := [.int x1]) zc6 rfl eX6_nightAt w994 w31 (Or.inr ⟨_, w992⟩) dX10_near_5 (ha.k 1 rfl) (ha.lt 1 rfl) rfl (by omega) (Nat.le_of_ble_eq_true rfl) (c_X6_nightAt l G h (a + 1) x1 (los_10_1 ha)) (fun v1 g2 q3 => ?_)
  obtain ⟨rfl, q3⟩ := q3
  replace q3 := q3.symm
  subst q3
  show Z l G _ d Q k n 8 _ (va_rf (znat h (a + 1) x1) :: []) _
  refine z_astore (L' := [va_rf (some a), .int x1, .int x2, .int x3, .int x4, va_rf (znat h (a + 1) x1), zU, zU, zU]) dX10_near_8 (by decide) rfl ?_
  refine z_aload dX10_near_10 rfl ?_
  refine z_ifnull (t := 42) dX10_near_12 (by decide) (fun c4 => ?_) (fun b5 c4 => ?_)
  · have hw6 := hw.1 c4
    refine z_iconst (v := (-1)) dX10_near_42 (by decide) ?_
    exact z_ret (v := some (.int ((-1)))) dX10_near_43 ⟨_, rfl, rfl⟩ rfl hw6
  · have hw7 := hw.2 b5 c4
    refine z_aload dX10_near_15 rfl ?_
    refine z_iloadn dX10_near_17 rfl rfl ?_
    refine z_soP [.int x2] c4 ?_
    obtain ⟨ho8, hw9⟩ := hw7
    refine z_callV (h := h) (S := []) (a := b5) (M := mX10_near) (As := [.int x2]) zc1 rfl eX1_hasCell w926 w22 (Or.inr ⟨_, w1052⟩) dX10_near_18 (ho8.k 0 rfl) (ho8.lt 0 rfl) rfl (by omega) (Nat.le_of_ble_eq_true rfl) (c_X1_hasCell l G h b5 x2 ho8) (fun v10 g11 q12 => ?_)
    obtain ⟨rfl, q12⟩ := q12
    replace q12 := q12.symm
    subst q12
    show Z l G _ d Q k n 21 _ (.int (zb (zhas h b5 x2)) :: []) _
    refine z_if_eq (t := 42) dX10_near_21 (by decide) (fun c13 => ?_) (fun c14 => ?_)
    · have hw15 := hw9.1 (zb0 c13)
      refine z_iconst (v := (-1)) dX10_near_42 (by decide) ?_
      exact z_ret (v := some (.int ((-1)))) dX10_near_43 ⟨_, rfl, rfl⟩ rfl hw15
    · have hw16 := hw9.2 (zb1 c14)
      refine z_iloadn dX10_near_24 rfl rfl ?_
      refine z_if_lt (t := 42) dX10_near_25 (by decide) (fun c17 => ?_) (fun c18 => ?_)
      · have hw19 := hw16.1 c17
        refine z_iconst (v := (-1)) dX10_near_42 (by decide) ?_
        exact z_ret (v := some (.int ((-1)))) dX10_near_43 ⟨_, rfl, rfl⟩ rfl hw19
      · have hw20 := hw16.2 c18
        refine z_iloadn dX10_near_28 rfl rfl ?_
        refine z_bipush (v := 14) dX10_near_29 (by decide) ?_
        refine z_icmp_gt (t := 42) dX10_near_31 (by decide) (fun c21 => ?_) (fun c22 => ?_)
        · have hw23 := hw20.1 c21
          refine z_iconst (v := (-1)) dX10_near_42 (by decide) ?_
          exact z_ret (v := some (.int ((-1)))) dX10_near_43 ⟨_, rfl, rfl⟩ rfl hw23
        · have hw24 := hw20.2 c22
          refine z_iload dX10_near_34 rfl ?_
          refine z_callS (h := h) (S := []) (M := mX10_near) (As := [.int x4]) eX10_isMinute w1037 (Or.inl w1036) dX10_near_36 rfl (by omega) (Nat.le_of_ble_eq_true rfl) (c_X10_isMinute l G h x4) (fun v25 g26 q27 => ?_)
          obtain ⟨rfl, q27⟩ := q27
          replace q27 := q27.symm
          subst q27
          show Z l G _ d Q k n 39 _ (.int (zb (zmin x4)) :: []) _
          refine z_if_ne (t := 44) dX10_near_39 (by decide) (fun c28 => ?_) (fun c29 => ?_)
          · have hw30 := hw24.1 (zb1 c28)
            refine z_iconst (v := 0) dX10_near_44 (by decide) ?_
            refine z_istore (L' := [va_rf (some a), .int x1, .int x2, .int x3, .int x4, va_rf (znat h (a + 1) x1), .int 0, zU, zU]) dX10_near_45 (by decide) ((zs1_rf (j := 5) rfl).trans rfl) ?_
            refine z_iconst (v := 0) dX10_near_47 (by decide) ?_
            refine z_istore (L' := [va_rf (some a), .int x1, .int x2, .int x3, .int x4, va_rf (znat h (a + 1) x1), .int 0, .int 0, zU]) dX10_near_48 (by decide) rfl ?_
            exact hw30
          · have hw31 := hw24.2 (zb0 c29)
            refine z_iconst (v := (-1)) dX10_near_42 (by decide) ?_
            exact z_ret (v := some (.int ((-1)))) dX10_near_43 ⟨_, rfl, rfl⟩ rfl hw31

theorem sX10_near_50 {l : Launch} {G : zG} {d : Nat} {Q : Option Value → zH → Prop} {k n : Nat} {h : zH} (a : Nat) (x1 : Int32) (x2 : Int32) (x3 : Int32) (x4 : Int32) (r5 : Option Nat) (x6 : Int32) (x7 : Int32) (u8 : Value) (ha : lo10 h a) (hd9 : 5 ≤ d)
    (hw : (∃ b1, r5 = some b1 ∧ lo1 h b1 ∧ (((zI h b1 3).toInt ≤ x7.toInt → Q (some (.int x6)) h) ∧ (x7.toInt < (zI h b1 3).toInt → (∃ P9, CTi l G YX1_spot 4 [va_rf (some b1), .int x7, .int x4] h P9 ∧ ∀ (y14 : Int32) (I12 : Nat → Nat → Int32), P9 y14 I12 → ((y14 = (-1) → Z l G mX10_near d Q k n 50 [va_rf (some a), .int x1, .int x2, .int x3, .int x4, va_rf r5, .int x6, .int ((x7 + 1)), .int y14] [] (I12, h.2)) ∧ (¬ y14 = (-1) → ((x3.toInt < (zdist (zI (I12, h.2) b1 0) y14 x2).toInt → Z l G mX10_near d Q k n 50 [va_rf (some a), .int x1, .int x2, .int x3, .int x4, va_rf r5, .int x6, .int ((x7 + 1)), .int y14] [] (I12, h.2)) ∧ ((zdist (zI (I12, h.2) b1 0) y14 x2).toInt ≤ x3.toInt → Z l G mX10_near d Q k n 50 [va_rf (some a), .int x1, .int x2, .int x3, .int x4, va_rf r5, .int ((x6 ||| ((1 : Int32) <<< (x7 &&& 31)))), .int ((x7 + 1)), .int y14] [] (I12, h.2)))))))))) :
    Z l G mX10_near d Q k n 50 [va_rf (some a), .int x1, .int x2, .int x3, .int x4, va_rf r5, .int x6, .int x7, u8] [] h := by
  refine z_iload dX10_near_50 rfl ?_
  refine z_aload dX10_near_52 rfl ?_
  obtain ⟨b1, q2, ho3, hw4⟩ := hw
  refine z_soP [] q2 ?_
  refine z_getIN (j := 3) zc1 dX10_near_54 (ho3.k 0 rfl) (ho3.lt 0 rfl) (by decide) rfl w316 ?_
  refine z_icmp_ge (t := 104) dX10_near_57 (by decide) (fun c5 => ?_) (fun c6 => ?_)
  · have hw7 := hw4.1 c5
    refine z_iload dX10_near_104 rfl ?_
    exact z_ret (v := some (.int x6)) dX10_near_106 ⟨_, rfl, rfl⟩ rfl hw7
  · have hw8 := hw4.2 c6
    refine z_aload dX10_near_60 rfl ?_
    refine z_iload dX10_near_62 rfl ?_
    refine z_iload dX10_near_64 rfl ?_
    refine z_soP [.int x4, .int x7] q2 ?_
    obtain ⟨P9, ct10, hw11⟩ := hw8
    refine z_callV (h := h) (S := []) (a := b1) (M := mX10_near) (As := [.int x7, .int x4]) zc1 rfl eX1_spot w1041 w39 (Or.inr ⟨_, w1039⟩) dX10_near_66 (ho3.k 0 rfl) (ho3.lt 0 rfl) rfl (by omega) (Nat.le_of_ble_eq_true rfl) ct10 (fun v16 g17 q13 => ?_)
    obtain ⟨y14, I12, rfl, rfl, q13⟩ := q13
    have hw15 := hw11 y14 I12 q13
    show Z l G _ d Q k n 69 _ (.int y14 :: []) _
    refine z_istore (L' := [va_rf (some a), .int x1, .int x2, .int x3, .int x4, va_rf r5, .int x6, .int x7, .int y14]) dX10_near_69 (by decide) rfl ?_
    refine z_iload dX10_near_71 rfl ?_
    refine z_iconst (v := (-1)) dX10_near_73 (by decide) ?_
    refine z_icmp_eq (t := 98) dX10_near_74 (by decide) (fun c18 => ?_) (fun c19 => ?_)
    · have hw20 := hw15.1 c18
      refine z_iinc (v := (x7 + 1)) (L' := [va_rf (some a), .int x1, .int x2, .int x3, .int x4, va_rf r5, .int x6, .int ((x7 + 1)), .int y14]) dX10_near_98 (by decide) rfl rfl rfl ?_
      refine z_goto (t := 50) dX10_near_101 (by decide) ?_
      exact hw20
    · have hw21 := hw15.2 c19
      refine z_aload dX10_near_77 rfl ?_
      refine z_iload dX10_near_79 rfl ?_
      refine z_iloadn dX10_near_81 rfl rfl ?_
      refine z_soP [.int x2, .int y14] q2 ?_
      refine z_callV (h := (I12, h.2)) (S := []) (a := b1) (M := mX10_near) (As := [.int y14, .int x2]) zc1 rfl eX1_distance w1055 w41 (Or.inr ⟨_, w1053⟩) dX10_near_82 (ho3.k 0 rfl) (ho3.lt 0 rfl) rfl (by omega) (Nat.le_of_ble_eq_true rfl) (c_X1_distance l G (I12, h.2) b1 y14 x2 ho3) (fun v22 g23 q24 => ?_)
      obtain ⟨rfl, q24⟩ := q24
      replace q24 := q24.symm
      subst q24
      show Z l G _ d Q k n 85 _ (.int (zdist (zI (I12, h.2) b1 0) y14 x2) :: []) _
      refine z_iloadn dX10_near_85 rfl rfl ?_
      refine z_icmp_gt (t := 98) dX10_near_86 (by decide) (fun c25 => ?_) (fun c26 => ?_)
      · have hw27 := hw21.1 c25
        refine z_iinc (v := (x7 + 1)) (L' := [va_rf (some a), .int x1, .int x2, .int x3, .int x4, va_rf r5, .int x6, .int ((x7 + 1)), .int y14]) dX10_near_98 (by decide) rfl rfl rfl ?_
        refine z_goto (t := 50) dX10_near_101 (by decide) ?_
        exact hw27
      · have hw28 := hw21.2 c26
        refine z_iload dX10_near_89 rfl ?_
        refine z_iconst (v := 1) dX10_near_91 (by decide) ?_
        refine z_iload dX10_near_92 rfl ?_
        refine z_ishl dX10_near_94 ?_
        refine z_ior dX10_near_95 ?_
        refine z_istore (L' := [va_rf (some a), .int x1, .int x2, .int x3, .int x4, va_rf r5, .int ((x6 ||| ((1 : Int32) <<< (x7 &&& 31)))), .int x7, .int y14]) dX10_near_96 (by decide) ((zs1_rf (j := 5) rfl).trans rfl) ?_
        refine z_iinc (v := (x7 + 1)) (L' := [va_rf (some a), .int x1, .int x2, .int x3, .int x4, va_rf r5, .int ((x6 ||| ((1 : Int32) <<< (x7 &&& 31)))), .int ((x7 + 1)), .int y14]) dX10_near_98 (by decide) rfl rfl rfl ?_
        refine z_goto (t := 50) dX10_near_101 (by decide) ?_
        exact hw28

theorem kX10_near {l : Launch} {G : zG} {d : Nat} {Q : Option Value → zH → Prop} {k n : Nat} {h : zH} (a : Nat) (x1 : Int32) (x2 : Int32) (x3 : Int32) (x4 : Int32) (hz : Z l G mX10_near d Q k n 0 [va_rf (some a), .int x1, .int x2, .int x3, .int x4, zU, zU, zU, zU] [] h) : CT l G YX10_near d k n [va_rf (some a), .int x1, .int x2, .int x3, .int x4] h Q :=
  CT.of (by decide +kernel) (fun t e => by have e2 : ((some .int) : Option FieldType) = some t := e; cases e2; exact ⟨by decide, by decide⟩) (by exact Nat.le_of_ble_eq_true rfl) (by exact hz)

theorem sX10_print_0 {l : Launch} {G : zG} {d : Nat} {Q : Option Value → zH → Prop} {k n : Nat} {h : zH} (a : Nat) (x1 : Int32) (x2 : Int32) (x3 : Int32) (x4 : Int32) (ha : lo10 h a) (hd9 : 6 ≤ d)
    (hw : ((znat h (a + 1) x1 = none → Q (some (.int ((-2)))) h) ∧ (∀ b5, znat h (a + 1) x1 = some b5 → (((zmin x2) = true → (∃ P15, CTv l G YX0_lay 5 [va_rf (some (a + 81)), va_rf (some b5), .int x2] h P15 ∧ ∀ (I18 : Nat → Nat → Int32), P15 I18 → ((¬ x3 = (-1) → (∃ P28, CTi l G YX0_part 3 [va_rf (some (a + 81)), .int x3, .int x4] (I18, h.2) P28 ∧ ∀ (y33 : Int32) (I31 : Nat → Nat → Int32), P28 y33 I31 → Q (some (.int y33)) (I31, h.2))) ∧ (x3 = (-1) → ((¬ x4 = 0 → Q (some (.int ((-2)))) (I18, h.2)) ∧ (x4 = 0 → Q (some (.int (zI (I18, h.2) (a + 81) 0))) (I18, h.2))))))) ∧ ((zmin x2) = false → Q (some (.int ((-2)))) h))))) :
    Z l G mX10_print d Q k n 0 [va_rf (some a), .int x1, .int x2, .int x3, .int x4, zU] [] h := by
  refine z_aloadn dX10_print_0 rfl rfl ?_
  refine z_getRq (j := 0) zc10 dX10_print_1 (ha.k 0 rfl) (ha.lt 0 rfl) (by decide) rfl w699 (ha.r 51 rfl) ?_
  refine z_iloadn dX10_print_4 rfl rfl ?_
  refine z_callV (h := h) (S := []) (a := (a + 1)) (M := mX10_print) (As := [.int x1]) zc6 rfl eX6_nightAt w994 w31 (Or.inr ⟨_, w992⟩) dX10_print_5 (ha.k 1 rfl) (ha.lt 1 rfl) rfl (by omega) (Nat.le_of_ble_eq_true rfl) (c_X6_nightAt l G h (a + 1) x1 (los_10_1 ha)) (fun v1 g2 q3 => ?_)
  obtain ⟨rfl, q3⟩ := q3
  replace q3 := q3.symm
  subst q3
  show Z l G _ d Q k n 8 _ (va_rf (znat h (a + 1) x1) :: []) _
  refine z_astore (L' := [va_rf (some a), .int x1, .int x2, .int x3, .int x4, va_rf (znat h (a + 1) x1)]) dX10_print_8 (by decide) rfl ?_
  refine z_aload dX10_print_10 rfl ?_
  refine z_ifnull (t := 22) dX10_print_12 (by decide) (fun c4 => ?_) (fun b5 c4 => ?_)
  · have hw6 := hw.1 c4
    refine z_bipush (v := (-2)) dX10_print_22 (by decide) ?_
    exact z_ret (v := some (.int ((-2)))) dX10_print_24 ⟨_, rfl, rfl⟩ rfl hw6
  · have hw7 := hw.2 b5 c4
    refine z_iloadn dX10_print_15 rfl rfl ?_
    refine z_callS (h := h) (S := []) (M := mX10_print) (As := [.int x2]) eX10_isMinute w1037 (Or.inl w1036) dX10_print_16 rfl (by omega) (Nat.le_of_ble_eq_true rfl) (c_X10_isMinute l G h x2) (fun v8 g9 q10 => ?_)
    obtain ⟨rfl, q10⟩ := q10
    replace q10 := q10.symm
    subst q10
    show Z l G _ d Q k n 19 _ (.int (zb (zmin x2)) :: []) _
    refine z_if_ne (t := 25) dX10_print_19 (by decide) (fun c11 => ?_) (fun c12 => ?_)
    · have hw13 := hw7.1 (zb1 c11)
      refine z_aloadn dX10_print_25 rfl rfl ?_
      refine z_getRq (j := 4) zc10 dX10_print_26 (ha.k 0 rfl) (ha.lt 0 rfl) (by decide) rfl w703 (ha.r 93 rfl) ?_
      refine z_aload dX10_print_29 rfl ?_
      refine z_iloadn dX10_print_31 rfl rfl ?_
      refine z_soP [.int x2] c4 ?_
      obtain ⟨P15, ct16, hw17⟩ := hw13
      refine z_callV (h := h) (S := []) (a := (a + 81)) (M := mX10_print) (As := [va_rf (some b5), .int x2]) zc0 rfl eX0_lay w1066 w42 (Or.inr ⟨_, w1064⟩) dX10_print_32 (ha.k 81 rfl) (ha.lt 81 rfl) rfl (by omega) (Nat.le_of_ble_eq_true rfl) ct16 (fun v22 g23 q19 => ?_)
      obtain ⟨I18, rfl, rfl, q19⟩ := q19
      have hw21 := hw17 I18 q19
      show Z l G _ d Q k n 35 _ ([]) _
      refine z_iloadn dX10_print_35 rfl rfl ?_
      refine z_iconst (v := (-1)) dX10_print_36 (by decide) ?_
      refine z_icmp_ne (t := 58) dX10_print_37 (by decide) (fun c24 => ?_) (fun c25 => ?_)
      · have hw26 := hw21.1 c24
        refine z_aloadn dX10_print_58 rfl rfl ?_
        refine z_getRq (j := 4) zc10 dX10_print_59 (ha.k 0 rfl) (ha.lt 0 rfl) (by decide) rfl w703 (ha.r 93 rfl) ?_
        refine z_iloadn dX10_print_62 rfl rfl ?_
        refine z_iload dX10_print_63 rfl ?_
        obtain ⟨P28, ct29, hw30⟩ := hw26
        refine z_callV (h := (I18, h.2)) (S := []) (a := (a + 81)) (M := mX10_print) (As := [.int x3, .int x4]) zc0 rfl eX0_part w1110 w49 (Or.inr ⟨_, w1108⟩) dX10_print_65 (ha.k 81 rfl) (ha.lt 81 rfl) rfl (by omega) (Nat.le_of_ble_eq_true rfl) ct29 (fun v35 g36 q32 => ?_)
        obtain ⟨y33, I31, rfl, rfl, q32⟩ := q32
        have hw34 := hw30 y33 I31 q32
        show Z l G _ d Q k n 68 _ (.int y33 :: []) _
        exact z_ret (v := some (.int y33)) dX10_print_68 ⟨_, rfl, rfl⟩ rfl hw34
      · have hw27 := hw21.2 c25
        refine z_iload dX10_print_40 rfl ?_
        refine z_if_ne (t := 55) dX10_print_42 (by decide) (fun c37 => ?_) (fun c38 => ?_)
        · have hw39 := hw27.1 c37
          refine z_bipush (v := (-2)) dX10_print_55 (by decide) ?_
          exact z_ret (v := some (.int ((-2)))) dX10_print_57 ⟨_, rfl, rfl⟩ rfl hw39
        · have hw40 := hw27.2 c38
          refine z_aloadn dX10_print_45 rfl rfl ?_
          refine z_getRq (j := 4) zc10 dX10_print_46 (ha.k 0 rfl) (ha.lt 0 rfl) (by decide) rfl w703 (ha.r 93 rfl) ?_
          refine z_getIN (j := 0) zc0 dX10_print_49 (ha.k 81 rfl) (ha.lt 81 rfl) (by decide) rfl w486 ?_
          refine z_goto (t := 57) dX10_print_52 (by decide) ?_
          exact z_ret (v := some (.int (zI (I18, h.2) (a + 81) 0))) dX10_print_57 ⟨_, rfl, rfl⟩ rfl hw40
    · have hw14 := hw7.2 (zb0 c12)
      refine z_bipush (v := (-2)) dX10_print_22 (by decide) ?_
      exact z_ret (v := some (.int ((-2)))) dX10_print_24 ⟨_, rfl, rfl⟩ rfl hw14

theorem kX10_print {l : Launch} {G : zG} {d : Nat} {Q : Option Value → zH → Prop} {k n : Nat} {h : zH} (a : Nat) (x1 : Int32) (x2 : Int32) (x3 : Int32) (x4 : Int32) (hz : Z l G mX10_print d Q k n 0 [va_rf (some a), .int x1, .int x2, .int x3, .int x4, zU] [] h) : CT l G YX10_print d k n [va_rf (some a), .int x1, .int x2, .int x3, .int x4] h Q :=
  CT.of (by decide +kernel) (fun t e => by have e2 : ((some .int) : Option FieldType) = some t := e; cases e2; exact ⟨by decide, by decide⟩) (by exact Nat.le_of_ble_eq_true rfl) (by exact hz)

theorem sX10_cell_0 {l : Launch} {G : zG} {d : Nat} {Q : Option Value → zH → Prop} {k n : Nat} {h : zH} (a : Nat) (x1 : Int32) (x2 : Int32) (x3 : Int32) (x4 : Int32) (ha : lo10 h a) (hd9 : 6 ≤ d)
    (hw : ((znat h (a + 1) x1 = none → Q (some (.int ((-2)))) h) ∧ (∀ b5, znat h (a + 1) x1 = some b5 → (((zmin x2) = false → Q (some (.int ((-2)))) h) ∧ ((zmin x2) = true → (lo1 h b5 ∧ (((zhas h b5 x3) = true → (∃ P24, CTv l G YX0_lay 5 [va_rf (some (a + 81)), va_rf (some b5), .int x2] h P24 ∧ ∀ (I27 : Nat → Nat → Int32), P24 I27 → ((x4.toInt < 0 ∨ 3 < x4.toInt → Q (some (.int ((-2)))) (I27, h.2)) ∧ (x4.toInt = 0 → (∃ P36, CTi l G YX0_heightOf 2 [va_rf (some (a + 81)), .int x3] (I27, h.2) P36 ∧ ∀ (y41 : Int32) (I39 : Nat → Nat → Int32), P36 y41 I39 → Q (some (.int y41)) (I39, h.2))) ∧ (x4.toInt = 1 → (∃ P46, CTi l G YX0_topOf 2 [va_rf (some (a + 81)), .int x3] (I27, h.2) P46 ∧ ∀ (y51 : Int32) (I49 : Nat → Nat → Int32), P46 y51 I49 → Q (some (.int y51)) (I49, h.2))) ∧ (x4.toInt = 2 → (∃ P56, CTi l G YX0_depthOf 2 [va_rf (some (a + 81)), .int x3] (I27, h.2) P56 ∧ ∀ (y61 : Int32) (I59 : Nat → Nat → Int32), P56 y61 I59 → Q (some (.int y61)) (I59, h.2))) ∧ (x4.toInt = 3 → (∃ P66, CTi l G YX0_usersOf 2 [va_rf (some (a + 81)), .int x3] (I27, h.2) P66 ∧ ∀ (y71 : Int32) (I69 : Nat → Nat → Int32), P66 y71 I69 → Q (some (.int y71)) (I69, h.2)))))) ∧ ((zhas h b5 x3) = false → Q (some (.int ((-2)))) h)))))))) :
    Z l G mX10_cell d Q k n 0 [va_rf (some a), .int x1, .int x2, .int x3, .int x4, zU] [] h := by
  refine z_aloadn dX10_cell_0 rfl rfl ?_
  refine z_getRq (j := 0) zc10 dX10_cell_1 (ha.k 0 rfl) (ha.lt 0 rfl) (by decide) rfl w699 (ha.r 51 rfl) ?_
  refine z_iloadn dX10_cell_4 rfl rfl ?_
  refine z_callV (h := h) (S := []) (a := (a + 1)) (M := mX10_cell) (As := [.int x1]) zc6 rfl eX6_nightAt w994 w31 (Or.inr ⟨_, w992⟩) dX10_cell_5 (ha.k 1 rfl) (ha.lt 1 rfl) rfl (by omega) (Nat.le_of_ble_eq_true rfl) (c_X6_nightAt l G h (a + 1) x1 (los_10_1 ha)) (fun v1 g2 q3 => ?_)
  obtain ⟨rfl, q3⟩ := q3
  replace q3 := q3.symm
  subst q3
  show Z l G _ d Q k n 8 _ (va_rf (znat h (a + 1) x1) :: []) _
  refine z_astore (L' := [va_rf (some a), .int x1, .int x2, .int x3, .int x4, va_rf (znat h (a + 1) x1)]) dX10_cell_8 (by decide) rfl ?_
  refine z_aload dX10_cell_10 rfl ?_
  refine z_ifnull (t := 31) dX10_cell_12 (by decide) (fun c4 => ?_) (fun b5 c4 => ?_)
  · have hw6 := hw.1 c4
    refine z_bipush (v := (-2)) dX10_cell_31 (by decide) ?_
    exact z_ret (v := some (.int ((-2)))) dX10_cell_33 ⟨_, rfl, rfl⟩ rfl hw6
  · have hw7 := hw.2 b5 c4
    refine z_iloadn dX10_cell_15 rfl rfl ?_
    refine z_callS (h := h) (S := []) (M := mX10_cell) (As := [.int x2]) eX10_isMinute w1037 (Or.inl w1036) dX10_cell_16 rfl (by omega) (Nat.le_of_ble_eq_true rfl) (c_X10_isMinute l G h x2) (fun v8 g9 q10 => ?_)
    obtain ⟨rfl, q10⟩ := q10
    replace q10 := q10.symm
    subst q10
    show Z l G _ d Q k n 19 _ (.int (zb (zmin x2)) :: []) _
    refine z_if_eq (t := 31) dX10_cell_19 (by decide) (fun c11 => ?_) (fun c12 => ?_)
    · have hw13 := hw7.1 (zb0 c11)
      refine z_bipush (v := (-2)) dX10_cell_31 (by decide) ?_
      exact z_ret (v := some (.int ((-2)))) dX10_cell_33 ⟨_, rfl, rfl⟩ rfl hw13
    · have hw14 := hw7.2 (zb1 c12)
      refine z_aload dX10_cell_22 rfl ?_
      refine z_iloadn dX10_cell_24 rfl rfl ?_
      refine z_soP [.int x3] c4 ?_
      obtain ⟨ho15, hw16⟩ := hw14
      refine z_callV (h := h) (S := []) (a := b5) (M := mX10_cell) (As := [.int x3]) zc1 rfl eX1_hasCell w926 w22 (Or.inr ⟨_, w1052⟩) dX10_cell_25 (ho15.k 0 rfl) (ho15.lt 0 rfl) rfl (by omega) (Nat.le_of_ble_eq_true rfl) (c_X1_hasCell l G h b5 x3 ho15) (fun v17 g18 q19 => ?_)
      obtain ⟨rfl, q19⟩ := q19
      replace q19 := q19.symm
      subst q19
      show Z l G _ d Q k n 28 _ (.int (zb (zhas h b5 x3)) :: []) _
      refine z_if_ne (t := 34) dX10_cell_28 (by decide) (fun c20 => ?_) (fun c21 => ?_)
      · have hw22 := hw16.1 (zb1 c20)
        refine z_aloadn dX10_cell_34 rfl rfl ?_
        refine z_getRq (j := 4) zc10 dX10_cell_35 (ha.k 0 rfl) (ha.lt 0 rfl) (by decide) rfl w703 (ha.r 93 rfl) ?_
        refine z_aload dX10_cell_38 rfl ?_
        refine z_iloadn dX10_cell_40 rfl rfl ?_
        refine z_soP [.int x2] c4 ?_
        obtain ⟨P24, ct25, hw26⟩ := hw22
        refine z_callV (h := h) (S := []) (a := (a + 81)) (M := mX10_cell) (As := [va_rf (some b5), .int x2]) zc0 rfl eX0_lay w1066 w42 (Or.inr ⟨_, w1064⟩) dX10_cell_41 (ha.k 81 rfl) (ha.lt 81 rfl) rfl (by omega) (Nat.le_of_ble_eq_true rfl) ct25 (fun v31 g32 q28 => ?_)
        obtain ⟨I27, rfl, rfl, q28⟩ := q28
        have hw30 := hw26 I27 q28
        show Z l G _ d Q k n 44 _ ([]) _
        refine z_iload dX10_cell_44 rfl ?_
        refine z_tswc (td := 112) (ts := [76, 85, 94, 103]) dX10_cell_46 (by decide) (by decide) (by decide) (fun c33 => ?_) ⟨fun c33k0 => ?_, fun c33k1 => ?_, fun c33k2 => ?_, fun c33k3 => ?_, trivial⟩
        · have hw34 := hw30.1 c33
          refine z_bipush (v := (-2)) dX10_cell_112 (by decide) ?_
          exact z_ret (v := some (.int ((-2)))) dX10_cell_114 ⟨_, rfl, rfl⟩ rfl hw34
        · have hw35 := hw30.2.1 c33k0
          refine z_aloadn dX10_cell_76 rfl rfl ?_
          refine z_getRq (j := 4) zc10 dX10_cell_77 (ha.k 0 rfl) (ha.lt 0 rfl) (by decide) rfl w703 (ha.r 93 rfl) ?_
          refine z_iloadn dX10_cell_80 rfl rfl ?_
          obtain ⟨P36, ct37, hw38⟩ := hw35
          refine z_callV (h := (I27, h.2)) (S := []) (a := (a + 81)) (M := mX10_cell) (As := [.int x3]) zc0 rfl eX0_heightOf w1131 w51 (Or.inr ⟨_, w1129⟩) dX10_cell_81 (ha.k 81 rfl) (ha.lt 81 rfl) rfl (by omega) (Nat.le_of_ble_eq_true rfl) ct37 (fun v43 g44 q40 => ?_)
          obtain ⟨y41, I39, rfl, rfl, q40⟩ := q40
          have hw42 := hw38 y41 I39 q40
          show Z l G _ d Q k n 84 _ (.int y41 :: []) _
          exact z_ret (v := some (.int y41)) dX10_cell_84 ⟨_, rfl, rfl⟩ rfl hw42
        · have hw45 := hw30.2.2.1 c33k1
          refine z_aloadn dX10_cell_85 rfl rfl ?_
          refine z_getRq (j := 4) zc10 dX10_cell_86 (ha.k 0 rfl) (ha.lt 0 rfl) (by decide) rfl w703 (ha.r 93 rfl) ?_
          refine z_iloadn dX10_cell_89 rfl rfl ?_
          obtain ⟨P46, ct47, hw48⟩ := hw45
          refine z_callV (h := (I27, h.2)) (S := []) (a := (a + 81)) (M := mX10_cell) (As := [.int x3]) zc0 rfl eX0_topOf w1135 w52 (Or.inr ⟨_, w1133⟩) dX10_cell_90 (ha.k 81 rfl) (ha.lt 81 rfl) rfl (by omega) (Nat.le_of_ble_eq_true rfl) ct47 (fun v53 g54 q50 => ?_)
          obtain ⟨y51, I49, rfl, rfl, q50⟩ := q50
          have hw52 := hw48 y51 I49 q50
          show Z l G _ d Q k n 93 _ (.int y51 :: []) _
          exact z_ret (v := some (.int y51)) dX10_cell_93 ⟨_, rfl, rfl⟩ rfl hw52
        · have hw55 := hw30.2.2.2.1 c33k2
          refine z_aloadn dX10_cell_94 rfl rfl ?_
          refine z_getRq (j := 4) zc10 dX10_cell_95 (ha.k 0 rfl) (ha.lt 0 rfl) (by decide) rfl w703 (ha.r 93 rfl) ?_
          refine z_iloadn dX10_cell_98 rfl rfl ?_
          obtain ⟨P56, ct57, hw58⟩ := hw55
          refine z_callV (h := (I27, h.2)) (S := []) (a := (a + 81)) (M := mX10_cell) (As := [.int x3]) zc0 rfl eX0_depthOf w1139 w53 (Or.inr ⟨_, w1137⟩) dX10_cell_99 (ha.k 81 rfl) (ha.lt 81 rfl) rfl (by omega) (Nat.le_of_ble_eq_true rfl) ct57 (fun v63 g64 q60 => ?_)
          obtain ⟨y61, I59, rfl, rfl, q60⟩ := q60
          have hw62 := hw58 y61 I59 q60
          show Z l G _ d Q k n 102 _ (.int y61 :: []) _
          exact z_ret (v := some (.int y61)) dX10_cell_102 ⟨_, rfl, rfl⟩ rfl hw62
        · have hw65 := hw30.2.2.2.2 c33k3
          refine z_aloadn dX10_cell_103 rfl rfl ?_
          refine z_getRq (j := 4) zc10 dX10_cell_104 (ha.k 0 rfl) (ha.lt 0 rfl) (by decide) rfl w703 (ha.r 93 rfl) ?_
          refine z_iloadn dX10_cell_107 rfl rfl ?_
          obtain ⟨P66, ct67, hw68⟩ := hw65
          refine z_callV (h := (I27, h.2)) (S := []) (a := (a + 81)) (M := mX10_cell) (As := [.int x3]) zc0 rfl eX0_usersOf w1143 w54 (Or.inr ⟨_, w1141⟩) dX10_cell_108 (ha.k 81 rfl) (ha.lt 81 rfl) rfl (by omega) (Nat.le_of_ble_eq_true rfl) ct67 (fun v73 g74 q70 => ?_)
          obtain ⟨y71, I69, rfl, rfl, q70⟩ := q70
          have hw72 := hw68 y71 I69 q70
          show Z l G _ d Q k n 111 _ (.int y71 :: []) _
          exact z_ret (v := some (.int y71)) dX10_cell_111 ⟨_, rfl, rfl⟩ rfl hw72
      · have hw23 := hw16.2 (zb0 c21)
        refine z_bipush (v := (-2)) dX10_cell_31 (by decide) ?_
        exact z_ret (v := some (.int ((-2)))) dX10_cell_33 ⟨_, rfl, rfl⟩ rfl hw23

theorem kX10_cell {l : Launch} {G : zG} {d : Nat} {Q : Option Value → zH → Prop} {k n : Nat} {h : zH} (a : Nat) (x1 : Int32) (x2 : Int32) (x3 : Int32) (x4 : Int32) (hz : Z l G mX10_cell d Q k n 0 [va_rf (some a), .int x1, .int x2, .int x3, .int x4, zU] [] h) : CT l G YX10_cell d k n [va_rf (some a), .int x1, .int x2, .int x3, .int x4] h Q :=
  CT.of (by decide +kernel) (fun t e => by have e2 : ((some .int) : Option FieldType) = some t := e; cases e2; exact ⟨by decide, by decide⟩) (by exact Nat.le_of_ble_eq_true rfl) (by exact hz)

theorem sX10_gait_0 {l : Launch} {G : zG} {d : Nat} {Q : Option Value → zH → Prop} {k n : Nat} {h : zH} (a : Nat) (x1 : Int32) (x2 : Int32) (x3 : Int32) (ha : lo10 h a) (hd9 : 6 ≤ d)
    (hw : ((znat h (a + 1) x1 = none → Q (some (.int ((-2)))) h) ∧ (∀ b5, znat h (a + 1) x1 = some b5 → (lo1 h b5 ∧ ((zmem h b5 x2 = none → Q (some (.int ((-2)))) h) ∧ (∀ b14, zmem h b5 x2 = some b14 → (∃ P17, CTv l G YX0_lay 5 [va_rf (some (a + 81)), va_rf (some b5), .int 99] h P17 ∧ ∀ (I20 : Nat → Nat → Int32), P17 I20 → ((x3.toInt < 0 ∨ 3 < x3.toInt → Q (some (.int ((-2)))) (I20, h.2)) ∧ (x3.toInt = 0 → Q (some (.int (zget (I20, h.2) (some (a + 91)) x2))) (I20, h.2)) ∧ (x3.toInt = 1 → Q (some (.int (zget (I20, h.2) (some (a + 92)) x2))) (I20, h.2)) ∧ (x3.toInt = 2 → Q (some (.int (zget (I20, h.2) (some (a + 93)) x2))) (I20, h.2)) ∧ (x3.toInt = 3 → Q (some (.int (zget (I20, h.2) (some (a + 94)) x2))) (I20, h.2)))))))))) :
    Z l G mX10_gait d Q k n 0 [va_rf (some a), .int x1, .int x2, .int x3, zU] [] h := by
  refine z_aloadn dX10_gait_0 rfl rfl ?_
  refine z_getRq (j := 0) zc10 dX10_gait_1 (ha.k 0 rfl) (ha.lt 0 rfl) (by decide) rfl w699 (ha.r 51 rfl) ?_
  refine z_iloadn dX10_gait_4 rfl rfl ?_
  refine z_callV (h := h) (S := []) (a := (a + 1)) (M := mX10_gait) (As := [.int x1]) zc6 rfl eX6_nightAt w994 w31 (Or.inr ⟨_, w992⟩) dX10_gait_5 (ha.k 1 rfl) (ha.lt 1 rfl) rfl (by omega) (Nat.le_of_ble_eq_true rfl) (c_X6_nightAt l G h (a + 1) x1 (los_10_1 ha)) (fun v1 g2 q3 => ?_)
  obtain ⟨rfl, q3⟩ := q3
  replace q3 := q3.symm
  subst q3
  show Z l G _ d Q k n 8 _ (va_rf (znat h (a + 1) x1) :: []) _
  refine z_astore (L' := [va_rf (some a), .int x1, .int x2, .int x3, va_rf (znat h (a + 1) x1)]) dX10_gait_8 (by decide) rfl ?_
  refine z_aload dX10_gait_10 rfl ?_
  refine z_ifnull (t := 24) dX10_gait_12 (by decide) (fun c4 => ?_) (fun b5 c4 => ?_)
  · have hw6 := hw.1 c4
    refine z_bipush (v := (-2)) dX10_gait_24 (by decide) ?_
    exact z_ret (v := some (.int ((-2)))) dX10_gait_26 ⟨_, rfl, rfl⟩ rfl hw6
  · have hw7 := hw.2 b5 c4
    refine z_aload dX10_gait_15 rfl ?_
    refine z_iloadn dX10_gait_17 rfl rfl ?_
    refine z_soP [.int x2] c4 ?_
    obtain ⟨ho8, hw9⟩ := hw7
    refine z_callV (h := h) (S := []) (a := b5) (M := mX10_gait) (As := [.int x2]) zc1 rfl eX1_member w1011 w34 (Or.inr ⟨_, w1009⟩) dX10_gait_18 (ho8.k 0 rfl) (ho8.lt 0 rfl) rfl (by omega) (Nat.le_of_ble_eq_true rfl) (c_X1_member l G h b5 x2 ho8) (fun v10 g11 q12 => ?_)
    obtain ⟨rfl, q12⟩ := q12
    replace q12 := q12.symm
    subst q12
    show Z l G _ d Q k n 21 _ (va_rf (zmem h b5 x2) :: []) _
    refine z_ifnonnull (t := 27) dX10_gait_21 (by decide) (fun b14 c13 => ?_) (fun c13 => ?_)
    · have hw16 := hw9.2 b14 c13
      refine z_aloadn dX10_gait_27 rfl rfl ?_
      refine z_getRq (j := 4) zc10 dX10_gait_28 (ha.k 0 rfl) (ha.lt 0 rfl) (by decide) rfl w703 (ha.r 93 rfl) ?_
      refine z_aload dX10_gait_31 rfl ?_
      refine z_bipush (v := 99) dX10_gait_33 (by decide) ?_
      refine z_soP [.int 99] c4 ?_
      obtain ⟨P17, ct18, hw19⟩ := hw16
      refine z_callV (h := h) (S := []) (a := (a + 81)) (M := mX10_gait) (As := [va_rf (some b5), .int 99]) zc0 rfl eX0_lay w1066 w42 (Or.inr ⟨_, w1064⟩) dX10_gait_35 (ha.k 81 rfl) (ha.lt 81 rfl) rfl (by omega) (Nat.le_of_ble_eq_true rfl) ct18 (fun v24 g25 q21 => ?_)
      obtain ⟨I20, rfl, rfl, q21⟩ := q21
      have hw23 := hw19 I20 q21
      show Z l G _ d Q k n 38 _ ([]) _
      refine z_iloadn dX10_gait_38 rfl rfl ?_
      refine z_tswc (td := 116) (ts := [68, 80, 92, 104]) dX10_gait_39 (by decide) (by decide) (by decide) (fun c26 => ?_) ⟨fun c26k0 => ?_, fun c26k1 => ?_, fun c26k2 => ?_, fun c26k3 => ?_, trivial⟩
      · have hw27 := hw23.1 c26
        refine z_bipush (v := (-2)) dX10_gait_116 (by decide) ?_
        exact z_ret (v := some (.int ((-2)))) dX10_gait_118 ⟨_, rfl, rfl⟩ rfl hw27
      · have hw28 := hw23.2.1 c26k0
        refine z_aloadn dX10_gait_68 rfl rfl ?_
        refine z_getRq (j := 4) zc10 dX10_gait_69 (ha.k 0 rfl) (ha.lt 0 rfl) (by decide) rfl w703 (ha.r 93 rfl) ?_
        refine z_getRNq (j := 10) zc0 dX10_gait_72 (ha.k 81 rfl) (ha.lt 81 rfl) (by decide) rfl w497 (ha.r 89 rfl) ?_
        refine z_iloadn dX10_gait_75 rfl rfl ?_
        refine z_callS (h := (I20, h.2)) (S := []) (M := mX10_gait) (As := [va_rf (some (a + 91)), .int x2]) eX10_get w778 (Or.inl w1101) dX10_gait_76 rfl (by omega) (Nat.le_of_ble_eq_true rfl) (c_X10_get l G (I20, h.2) (some (a + 91)) x2 (zgok_lo (ha.w 91 rfl) (by decide))) (fun v29 g30 q31 => ?_)
        obtain ⟨rfl, q31⟩ := q31
        replace q31 := q31.symm
        subst q31
        show Z l G _ d Q k n 79 _ (.int (zget (I20, h.2) (some (a + 91)) x2) :: []) _
        exact z_ret (v := some (.int (zget (I20, h.2) (some (a + 91)) x2))) dX10_gait_79 ⟨_, rfl, rfl⟩ rfl hw28
      · have hw32 := hw23.2.2.1 c26k1
        refine z_aloadn dX10_gait_80 rfl rfl ?_
        refine z_getRq (j := 4) zc10 dX10_gait_81 (ha.k 0 rfl) (ha.lt 0 rfl) (by decide) rfl w703 (ha.r 93 rfl) ?_
        refine z_getRNq (j := 11) zc0 dX10_gait_84 (ha.k 81 rfl) (ha.lt 81 rfl) (by decide) rfl w499 (ha.r 90 rfl) ?_
        refine z_iloadn dX10_gait_87 rfl rfl ?_
        refine z_callS (h := (I20, h.2)) (S := []) (M := mX10_gait) (As := [va_rf (some (a + 92)), .int x2]) eX10_get w778 (Or.inl w1101) dX10_gait_88 rfl (by omega) (Nat.le_of_ble_eq_true rfl) (c_X10_get l G (I20, h.2) (some (a + 92)) x2 (zgok_lo (ha.w 92 rfl) (by decide))) (fun v33 g34 q35 => ?_)
        obtain ⟨rfl, q35⟩ := q35
        replace q35 := q35.symm
        subst q35
        show Z l G _ d Q k n 91 _ (.int (zget (I20, h.2) (some (a + 92)) x2) :: []) _
        exact z_ret (v := some (.int (zget (I20, h.2) (some (a + 92)) x2))) dX10_gait_91 ⟨_, rfl, rfl⟩ rfl hw32
      · have hw36 := hw23.2.2.2.1 c26k2
        refine z_aloadn dX10_gait_92 rfl rfl ?_
        refine z_getRq (j := 4) zc10 dX10_gait_93 (ha.k 0 rfl) (ha.lt 0 rfl) (by decide) rfl w703 (ha.r 93 rfl) ?_
        refine z_getRNq (j := 12) zc0 dX10_gait_96 (ha.k 81 rfl) (ha.lt 81 rfl) (by decide) rfl w501 (ha.r 91 rfl) ?_
        refine z_iloadn dX10_gait_99 rfl rfl ?_
        refine z_callS (h := (I20, h.2)) (S := []) (M := mX10_gait) (As := [va_rf (some (a + 93)), .int x2]) eX10_get w778 (Or.inl w1101) dX10_gait_100 rfl (by omega) (Nat.le_of_ble_eq_true rfl) (c_X10_get l G (I20, h.2) (some (a + 93)) x2 (zgok_lo (ha.w 93 rfl) (by decide))) (fun v37 g38 q39 => ?_)
        obtain ⟨rfl, q39⟩ := q39
        replace q39 := q39.symm
        subst q39
        show Z l G _ d Q k n 103 _ (.int (zget (I20, h.2) (some (a + 93)) x2) :: []) _
        exact z_ret (v := some (.int (zget (I20, h.2) (some (a + 93)) x2))) dX10_gait_103 ⟨_, rfl, rfl⟩ rfl hw36
      · have hw40 := hw23.2.2.2.2 c26k3
        refine z_aloadn dX10_gait_104 rfl rfl ?_
        refine z_getRq (j := 4) zc10 dX10_gait_105 (ha.k 0 rfl) (ha.lt 0 rfl) (by decide) rfl w703 (ha.r 93 rfl) ?_
        refine z_getRNq (j := 13) zc0 dX10_gait_108 (ha.k 81 rfl) (ha.lt 81 rfl) (by decide) rfl w503 (ha.r 92 rfl) ?_
        refine z_iloadn dX10_gait_111 rfl rfl ?_
        refine z_callS (h := (I20, h.2)) (S := []) (M := mX10_gait) (As := [va_rf (some (a + 94)), .int x2]) eX10_get w778 (Or.inl w1101) dX10_gait_112 rfl (by omega) (Nat.le_of_ble_eq_true rfl) (c_X10_get l G (I20, h.2) (some (a + 94)) x2 (zgok_lo (ha.w 94 rfl) (by decide))) (fun v41 g42 q43 => ?_)
        obtain ⟨rfl, q43⟩ := q43
        replace q43 := q43.symm
        subst q43
        show Z l G _ d Q k n 115 _ (.int (zget (I20, h.2) (some (a + 94)) x2) :: []) _
        exact z_ret (v := some (.int (zget (I20, h.2) (some (a + 94)) x2))) dX10_gait_115 ⟨_, rfl, rfl⟩ rfl hw40
    · have hw15 := hw9.1 c13
      refine z_bipush (v := (-2)) dX10_gait_24 (by decide) ?_
      exact z_ret (v := some (.int ((-2)))) dX10_gait_26 ⟨_, rfl, rfl⟩ rfl hw15

theorem kX10_gait {l : Launch} {G : zG} {d : Nat} {Q : Option Value → zH → Prop} {k n : Nat} {h : zH} (a : Nat) (x1 : Int32) (x2 : Int32) (x3 : Int32) (hz : Z l G mX10_gait d Q k n 0 [va_rf (some a), .int x1, .int x2, .int x3, zU] [] h) : CT l G YX10_gait d k n [va_rf (some a), .int x1, .int x2, .int x3] h Q :=
  CT.of (by decide +kernel) (fun t e => by have e2 : ((some .int) : Option FieldType) = some t := e; cases e2; exact ⟨by decide, by decide⟩) (by exact Nat.le_of_ble_eq_true rfl) (by exact hz)

theorem sX10_dawn_0 {l : Launch} {G : zG} {d : Nat} {Q : Option Value → zH → Prop} {k n : Nat} {h : zH} (a : Nat) (x1 : Int32) (x2 : Int32) (ha : lo10 h a) (hd9 : 6 ≤ d)
    (hw : ((znat h (a + 1) x1 = none → Q (some (.int ((-2)))) h) ∧ (∀ b5, znat h (a + 1) x1 = some b5 → (∃ P8, CTv l G YX0_lay 5 [va_rf (some (a + 81)), va_rf (some b5), .int 99] h P8 ∧ ∀ (I11 : Nat → Nat → Int32), P8 I11 → ((x2.toInt < 0 ∨ 2 < x2.toInt → (lo1 (I11, h.2) b5 ∧ ((zmem (I11, h.2) b5 (x2 - 10) = none → Q (some (.int ((-2)))) (I11, h.2)) ∧ (∀ b25, zmem (I11, h.2) b5 (x2 - 10) = some b25 → (∃ P28, CTi l G YX0_madeBy 2 [va_rf (some (a + 81)), .int ((x2 - 10))] (I11, h.2) P28 ∧ ∀ (y33 : Int32) (I31 : Nat → Nat → Int32), P28 y33 I31 → Q (some (.int y33)) (I31, h.2)))))) ∧ (x2.toInt = 0 → (∃ P38, CTi l G YX0_hidden 1 [va_rf (some (a + 81))] (I11, h.2) P38 ∧ ∀ (y43 : Int32) (I41 : Nat → Nat → Int32), P38 y43 I41 → Q (some (.int y43)) (I41, h.2))) ∧ (x2.toInt = 1 → (∃ P48, CTi l G YX0_twins 2 [va_rf (some (a + 81))] (I11, h.2) P48 ∧ ∀ (y53 : Int32) (I51 : Nat → Nat → Int32), P48 y53 I51 → Q (some (.int y53)) (I51, h.2))) ∧ (x2.toInt = 2 → (∃ P58, CTi l G YX0_deepest 2 [va_rf (some (a + 81))] (I11, h.2) P58 ∧ ∀ (y63 : Int32) (I61 : Nat → Nat → Int32), P58 y63 I61 → Q (some (.int y63)) (I61, h.2)))))))) :
    Z l G mX10_dawn d Q k n 0 [va_rf (some a), .int x1, .int x2, zU] [] h := by
  refine z_aloadn dX10_dawn_0 rfl rfl ?_
  refine z_getRq (j := 0) zc10 dX10_dawn_1 (ha.k 0 rfl) (ha.lt 0 rfl) (by decide) rfl w699 (ha.r 51 rfl) ?_
  refine z_iloadn dX10_dawn_4 rfl rfl ?_
  refine z_callV (h := h) (S := []) (a := (a + 1)) (M := mX10_dawn) (As := [.int x1]) zc6 rfl eX6_nightAt w994 w31 (Or.inr ⟨_, w992⟩) dX10_dawn_5 (ha.k 1 rfl) (ha.lt 1 rfl) rfl (by omega) (Nat.le_of_ble_eq_true rfl) (c_X6_nightAt l G h (a + 1) x1 (los_10_1 ha)) (fun v1 g2 q3 => ?_)
  obtain ⟨rfl, q3⟩ := q3
  replace q3 := q3.symm
  subst q3
  show Z l G _ d Q k n 8 _ (va_rf (znat h (a + 1) x1) :: []) _
  refine z_astoren (L' := [va_rf (some a), .int x1, .int x2, va_rf (znat h (a + 1) x1)]) dX10_dawn_8 rfl (by decide) rfl ?_
  refine z_aloadn dX10_dawn_9 rfl rfl ?_
  refine z_ifnonnull (t := 16) dX10_dawn_10 (by decide) (fun b5 c4 => ?_) (fun c4 => ?_)
  · have hw7 := hw.2 b5 c4
    refine z_aloadn dX10_dawn_16 rfl rfl ?_
    refine z_getRq (j := 4) zc10 dX10_dawn_17 (ha.k 0 rfl) (ha.lt 0 rfl) (by decide) rfl w703 (ha.r 93 rfl) ?_
    refine z_aloadn dX10_dawn_20 rfl rfl ?_
    refine z_bipush (v := 99) dX10_dawn_21 (by decide) ?_
    refine z_soP [.int 99] c4 ?_
    obtain ⟨P8, ct9, hw10⟩ := hw7
    refine z_callV (h := h) (S := []) (a := (a + 81)) (M := mX10_dawn) (As := [va_rf (some b5), .int 99]) zc0 rfl eX0_lay w1066 w42 (Or.inr ⟨_, w1064⟩) dX10_dawn_23 (ha.k 81 rfl) (ha.lt 81 rfl) rfl (by omega) (Nat.le_of_ble_eq_true rfl) ct9 (fun v15 g16 q12 => ?_)
    obtain ⟨I11, rfl, rfl, q12⟩ := q12
    have hw14 := hw10 I11 q12
    show Z l G _ d Q k n 26 _ ([]) _
    refine z_iloadn dX10_dawn_26 rfl rfl ?_
    refine z_tswc (td := 76) (ts := [52, 60, 68]) dX10_dawn_27 (by decide) (by decide) (by decide) (fun c17 => ?_) ⟨fun c17k0 => ?_, fun c17k1 => ?_, fun c17k2 => ?_, trivial⟩
    · have hw18 := hw14.1 c17
      refine z_aloadn dX10_dawn_76 rfl rfl ?_
      refine z_iloadn dX10_dawn_77 rfl rfl ?_
      refine z_bipush (v := 10) dX10_dawn_78 (by decide) ?_
      refine z_isub dX10_dawn_80 ?_
      refine z_soP [.int ((x2 - 10))] c4 ?_
      obtain ⟨ho19, hw20⟩ := hw18
      refine z_callV (h := (I11, h.2)) (S := []) (a := b5) (M := mX10_dawn) (As := [.int ((x2 - 10))]) zc1 rfl eX1_member w1011 w34 (Or.inr ⟨_, w1009⟩) dX10_dawn_81 (ho19.k 0 rfl) (ho19.lt 0 rfl) rfl (by omega) (Nat.le_of_ble_eq_true rfl) (c_X1_member l G (I11, h.2) b5 (x2 - 10) ho19) (fun v21 g22 q23 => ?_)
      obtain ⟨rfl, q23⟩ := q23
      replace q23 := q23.symm
      subst q23
      show Z l G _ d Q k n 84 _ (va_rf (zmem (I11, h.2) b5 (x2 - 10)) :: []) _
      refine z_ifnonnull (t := 92) dX10_dawn_84 (by decide) (fun b25 c24 => ?_) (fun c24 => ?_)
      · have hw27 := hw20.2 b25 c24
        refine z_aloadn dX10_dawn_92 rfl rfl ?_
        refine z_getRq (j := 4) zc10 dX10_dawn_93 (ha.k 0 rfl) (ha.lt 0 rfl) (by decide) rfl w703 (ha.r 93 rfl) ?_
        refine z_iloadn dX10_dawn_96 rfl rfl ?_
        refine z_bipush (v := 10) dX10_dawn_97 (by decide) ?_
        refine z_isub dX10_dawn_99 ?_
        obtain ⟨P28, ct29, hw30⟩ := hw27
        refine z_callV (h := (I11, h.2)) (S := []) (a := (a + 81)) (M := mX10_dawn) (As := [.int ((x2 - 10))]) zc0 rfl eX0_madeBy w1167 w58 (Or.inr ⟨_, w1165⟩) dX10_dawn_100 (ha.k 81 rfl) (ha.lt 81 rfl) rfl (by omega) (Nat.le_of_ble_eq_true rfl) ct29 (fun v35 g36 q32 => ?_)
        obtain ⟨y33, I31, rfl, rfl, q32⟩ := q32
        have hw34 := hw30 y33 I31 q32
        show Z l G _ d Q k n 103 _ (.int y33 :: []) _
        exact z_ret (v := some (.int y33)) dX10_dawn_103 ⟨_, rfl, rfl⟩ rfl hw34
      · have hw26 := hw20.1 c24
        refine z_bipush (v := (-2)) dX10_dawn_87 (by decide) ?_
        refine z_goto (t := 103) dX10_dawn_89 (by decide) ?_
        exact z_ret (v := some (.int ((-2)))) dX10_dawn_103 ⟨_, rfl, rfl⟩ rfl hw26
    · have hw37 := hw14.2.1 c17k0
      refine z_aloadn dX10_dawn_52 rfl rfl ?_
      refine z_getRq (j := 4) zc10 dX10_dawn_53 (ha.k 0 rfl) (ha.lt 0 rfl) (by decide) rfl w703 (ha.r 93 rfl) ?_
      obtain ⟨P38, ct39, hw40⟩ := hw37
      refine z_callV (h := (I11, h.2)) (S := []) (a := (a + 81)) (M := mX10_dawn) (As := []) zc0 rfl eX0_hidden w1155 w55 (Or.inr ⟨_, w1153⟩) dX10_dawn_56 (ha.k 81 rfl) (ha.lt 81 rfl) rfl (by omega) (Nat.le_of_ble_eq_true rfl) ct39 (fun v45 g46 q42 => ?_)
      obtain ⟨y43, I41, rfl, rfl, q42⟩ := q42
      have hw44 := hw40 y43 I41 q42
      show Z l G _ d Q k n 59 _ (.int y43 :: []) _
      exact z_ret (v := some (.int y43)) dX10_dawn_59 ⟨_, rfl, rfl⟩ rfl hw44
    · have hw47 := hw14.2.2.1 c17k1
      refine z_aloadn dX10_dawn_60 rfl rfl ?_
      refine z_getRq (j := 4) zc10 dX10_dawn_61 (ha.k 0 rfl) (ha.lt 0 rfl) (by decide) rfl w703 (ha.r 93 rfl) ?_
      obtain ⟨P48, ct49, hw50⟩ := hw47
      refine z_callV (h := (I11, h.2)) (S := []) (a := (a + 81)) (M := mX10_dawn) (As := []) zc0 rfl eX0_twins w1159 w56 (Or.inr ⟨_, w1157⟩) dX10_dawn_64 (ha.k 81 rfl) (ha.lt 81 rfl) rfl (by omega) (Nat.le_of_ble_eq_true rfl) ct49 (fun v55 g56 q52 => ?_)
      obtain ⟨y53, I51, rfl, rfl, q52⟩ := q52
      have hw54 := hw50 y53 I51 q52
      show Z l G _ d Q k n 67 _ (.int y53 :: []) _
      exact z_ret (v := some (.int y53)) dX10_dawn_67 ⟨_, rfl, rfl⟩ rfl hw54
    · have hw57 := hw14.2.2.2 c17k2
      refine z_aloadn dX10_dawn_68 rfl rfl ?_
      refine z_getRq (j := 4) zc10 dX10_dawn_69 (ha.k 0 rfl) (ha.lt 0 rfl) (by decide) rfl w703 (ha.r 93 rfl) ?_
      obtain ⟨P58, ct59, hw60⟩ := hw57
      refine z_callV (h := (I11, h.2)) (S := []) (a := (a + 81)) (M := mX10_dawn) (As := []) zc0 rfl eX0_deepest w1163 w57 (Or.inr ⟨_, w1161⟩) dX10_dawn_72 (ha.k 81 rfl) (ha.lt 81 rfl) rfl (by omega) (Nat.le_of_ble_eq_true rfl) ct59 (fun v65 g66 q62 => ?_)
      obtain ⟨y63, I61, rfl, rfl, q62⟩ := q62
      have hw64 := hw60 y63 I61 q62
      show Z l G _ d Q k n 75 _ (.int y63 :: []) _
      exact z_ret (v := some (.int y63)) dX10_dawn_75 ⟨_, rfl, rfl⟩ rfl hw64
  · have hw6 := hw.1 c4
    refine z_bipush (v := (-2)) dX10_dawn_13 (by decide) ?_
    exact z_ret (v := some (.int ((-2)))) dX10_dawn_15 ⟨_, rfl, rfl⟩ rfl hw6

theorem kX10_dawn {l : Launch} {G : zG} {d : Nat} {Q : Option Value → zH → Prop} {k n : Nat} {h : zH} (a : Nat) (x1 : Int32) (x2 : Int32) (hz : Z l G mX10_dawn d Q k n 0 [va_rf (some a), .int x1, .int x2, zU] [] h) : CT l G YX10_dawn d k n [va_rf (some a), .int x1, .int x2] h Q :=
  CT.of (by decide +kernel) (fun t e => by have e2 : ((some .int) : Option FieldType) = some t := e; cases e2; exact ⟨by decide, by decide⟩) (by exact Nat.le_of_ble_eq_true rfl) (by exact hz)

theorem sX10_thieves_0 {l : Launch} {G : zG} {d : Nat} {Q : Option Value → zH → Prop} {k n : Nat} {h : zH} (a : Nat) (x1 : Int32) (x2 : Int32) (x3 : Int32) (x4 : Int32) (ha : lo10 h a) (hd9 : 6 ≤ d)
    (hw : ((znat h (a + 1) x1 = none → Q (some (.int ((-1)))) h) ∧ (∀ b5, znat h (a + 1) x1 = some b5 → (lo1 h b5 ∧ (((zhas h b5 x2) = false → Q (some (.int ((-1)))) h) ∧ ((zhas h b5 x2) = true → (((zmin x3) = false → Q (some (.int ((-1)))) h) ∧ ((zmin x3) = true → (((zmin x4) = false → Q (some (.int ((-1)))) h) ∧ ((zmin x4) = true → ((x3.toInt ≤ x4.toInt → (∃ P35, CTv l G YX0_lay 5 [va_rf (some (a + 81)), va_rf (some b5), .int 99] h P35 ∧ ∀ (I38 : Nat → Nat → Int32), P35 I38 → (∃ P44, CTi l G YX0_usersOf 2 [va_rf (some (a + 81)), .int x2] (I38, h.2) P44 ∧ ∀ (y49 : Int32) (I47 : Nat → Nat → Int32), P44 y49 I47 → Z l G mX10_thieves d Q k n 74 [va_rf (some a), .int x1, .int x2, .int x3, .int x4, va_rf (znat h (a + 1) x1), .int y49, .int 0, .int 0] [] (I47, h.2)))) ∧ (x4.toInt < x3.toInt → Q (some (.int ((-1)))) h)))))))))))) :
    Z l G mX10_thieves d Q k n 0 [va_rf (some a), .int x1, .int x2, .int x3, .int x4, zU, zU, zU, zU] [] h := by
  refine z_aloadn dX10_thieves_0 rfl rfl ?_
  refine z_getRq (j := 0) zc10 dX10_thieves_1 (ha.k 0 rfl) (ha.lt 0 rfl) (by decide) rfl w699 (ha.r 51 rfl) ?_
  refine z_iloadn dX10_thieves_4 rfl rfl ?_
  refine z_callV (h := h) (S := []) (a := (a + 1)) (M := mX10_thieves) (As := [.int x1]) zc6 rfl eX6_nightAt w994 w31 (Or.inr ⟨_, w992⟩) dX10_thieves_5 (ha.k 1 rfl) (ha.lt 1 rfl) rfl (by omega) (Nat.le_of_ble_eq_true rfl) (c_X6_nightAt l G h (a + 1) x1 (los_10_1 ha)) (fun v1 g2 q3 => ?_)
  obtain ⟨rfl, q3⟩ := q3
  replace q3 := q3.symm
  subst q3
  show Z l G _ d Q k n 8 _ (va_rf (znat h (a + 1) x1) :: []) _
  refine z_astore (L' := [va_rf (some a), .int x1, .int x2, .int x3, .int x4, va_rf (znat h (a + 1) x1), zU, zU, zU]) dX10_thieves_8 (by decide) rfl ?_
  refine z_aload dX10_thieves_10 rfl ?_
  refine z_ifnull (t := 45) dX10_thieves_12 (by decide) (fun c4 => ?_) (fun b5 c4 => ?_)
  · have hw6 := hw.1 c4
    refine z_iconst (v := (-1)) dX10_thieves_45 (by decide) ?_
    exact z_ret (v := some (.int ((-1)))) dX10_thieves_46 ⟨_, rfl, rfl⟩ rfl hw6
  · have hw7 := hw.2 b5 c4
    refine z_aload dX10_thieves_15 rfl ?_
    refine z_iloadn dX10_thieves_17 rfl rfl ?_
    refine z_soP [.int x2] c4 ?_
    obtain ⟨ho8, hw9⟩ := hw7
    refine z_callV (h := h) (S := []) (a := b5) (M := mX10_thieves) (As := [.int x2]) zc1 rfl eX1_hasCell w926 w22 (Or.inr ⟨_, w1052⟩) dX10_thieves_18 (ho8.k 0 rfl) (ho8.lt 0 rfl) rfl (by omega) (Nat.le_of_ble_eq_true rfl) (c_X1_hasCell l G h b5 x2 ho8) (fun v10 g11 q12 => ?_)
    obtain ⟨rfl, q12⟩ := q12
    replace q12 := q12.symm
    subst q12
    show Z l G _ d Q k n 21 _ (.int (zb (zhas h b5 x2)) :: []) _
    refine z_if_eq (t := 45) dX10_thieves_21 (by decide) (fun c13 => ?_) (fun c14 => ?_)
    · have hw15 := hw9.1 (zb0 c13)
      refine z_iconst (v := (-1)) dX10_thieves_45 (by decide) ?_
      exact z_ret (v := some (.int ((-1)))) dX10_thieves_46 ⟨_, rfl, rfl⟩ rfl hw15
    · have hw16 := hw9.2 (zb1 c14)
      refine z_iloadn dX10_thieves_24 rfl rfl ?_
      refine z_callS (h := h) (S := []) (M := mX10_thieves) (As := [.int x3]) eX10_isMinute w1037 (Or.inl w1036) dX10_thieves_25 rfl (by omega) (Nat.le_of_ble_eq_true rfl) (c_X10_isMinute l G h x3) (fun v17 g18 q19 => ?_)
      obtain ⟨rfl, q19⟩ := q19
      replace q19 := q19.symm
      subst q19
      show Z l G _ d Q k n 28 _ (.int (zb (zmin x3)) :: []) _
      refine z_if_eq (t := 45) dX10_thieves_28 (by decide) (fun c20 => ?_) (fun c21 => ?_)
      · have hw22 := hw16.1 (zb0 c20)
        refine z_iconst (v := (-1)) dX10_thieves_45 (by decide) ?_
        exact z_ret (v := some (.int ((-1)))) dX10_thieves_46 ⟨_, rfl, rfl⟩ rfl hw22
      · have hw23 := hw16.2 (zb1 c21)
        refine z_iload dX10_thieves_31 rfl ?_
        refine z_callS (h := h) (S := []) (M := mX10_thieves) (As := [.int x4]) eX10_isMinute w1037 (Or.inl w1036) dX10_thieves_33 rfl (by omega) (Nat.le_of_ble_eq_true rfl) (c_X10_isMinute l G h x4) (fun v24 g25 q26 => ?_)
        obtain ⟨rfl, q26⟩ := q26
        replace q26 := q26.symm
        subst q26
        show Z l G _ d Q k n 36 _ (.int (zb (zmin x4)) :: []) _
        refine z_if_eq (t := 45) dX10_thieves_36 (by decide) (fun c27 => ?_) (fun c28 => ?_)
        · have hw29 := hw23.1 (zb0 c27)
          refine z_iconst (v := (-1)) dX10_thieves_45 (by decide) ?_
          exact z_ret (v := some (.int ((-1)))) dX10_thieves_46 ⟨_, rfl, rfl⟩ rfl hw29
        · have hw30 := hw23.2 (zb1 c28)
          refine z_iloadn dX10_thieves_39 rfl rfl ?_
          refine z_iload dX10_thieves_40 rfl ?_
          refine z_icmp_le (t := 47) dX10_thieves_42 (by decide) (fun c31 => ?_) (fun c32 => ?_)
          · have hw33 := hw30.1 c31
            refine z_aloadn dX10_thieves_47 rfl rfl ?_
            refine z_getRq (j := 4) zc10 dX10_thieves_48 (ha.k 0 rfl) (ha.lt 0 rfl) (by decide) rfl w703 (ha.r 93 rfl) ?_
            refine z_aload dX10_thieves_51 rfl ?_
            refine z_bipush (v := 99) dX10_thieves_53 (by decide) ?_
            refine z_soP [.int 99] c4 ?_
            obtain ⟨P35, ct36, hw37⟩ := hw33
            refine z_callV (h := h) (S := []) (a := (a + 81)) (M := mX10_thieves) (As := [va_rf (some b5), .int 99]) zc0 rfl eX0_lay w1066 w42 (Or.inr ⟨_, w1064⟩) dX10_thieves_55 (ha.k 81 rfl) (ha.lt 81 rfl) rfl (by omega) (Nat.le_of_ble_eq_true rfl) ct36 (fun v42 g43 q39 => ?_)
            obtain ⟨I38, rfl, rfl, q39⟩ := q39
            have hw41 := hw37 I38 q39
            show Z l G _ d Q k n 58 _ ([]) _
            refine z_aloadn dX10_thieves_58 rfl rfl ?_
            refine z_getRq (j := 4) zc10 dX10_thieves_59 (ha.k 0 rfl) (ha.lt 0 rfl) (by decide) rfl w703 (ha.r 93 rfl) ?_
            refine z_iloadn dX10_thieves_62 rfl rfl ?_
            obtain ⟨P44, ct45, hw46⟩ := hw41
            refine z_callV (h := (I38, h.2)) (S := []) (a := (a + 81)) (M := mX10_thieves) (As := [.int x2]) zc0 rfl eX0_usersOf w1143 w54 (Or.inr ⟨_, w1141⟩) dX10_thieves_63 (ha.k 81 rfl) (ha.lt 81 rfl) rfl (by omega) (Nat.le_of_ble_eq_true rfl) ct45 (fun v51 g52 q48 => ?_)
            obtain ⟨y49, I47, rfl, rfl, q48⟩ := q48
            have hw50 := hw46 y49 I47 q48
            show Z l G _ d Q k n 66 _ (.int y49 :: []) _
            refine z_istore (L' := [va_rf (some a), .int x1, .int x2, .int x3, .int x4, va_rf (znat h (a + 1) x1), .int y49, zU, zU]) dX10_thieves_66 (by decide) ((zs1_rf (j := 5) rfl).trans rfl) ?_
            refine z_iconst (v := 0) dX10_thieves_68 (by decide) ?_
            refine z_istore (L' := [va_rf (some a), .int x1, .int x2, .int x3, .int x4, va_rf (znat h (a + 1) x1), .int y49, .int 0, zU]) dX10_thieves_69 (by decide) rfl ?_
            refine z_iconst (v := 0) dX10_thieves_71 (by decide) ?_
            refine z_istore (L' := [va_rf (some a), .int x1, .int x2, .int x3, .int x4, va_rf (znat h (a + 1) x1), .int y49, .int 0, .int 0]) dX10_thieves_72 (by decide) rfl ?_
            exact hw50
          · have hw34 := hw30.2 c32
            refine z_iconst (v := (-1)) dX10_thieves_45 (by decide) ?_
            exact z_ret (v := some (.int ((-1)))) dX10_thieves_46 ⟨_, rfl, rfl⟩ rfl hw34

theorem sX10_thieves_74 {l : Launch} {G : zG} {d : Nat} {Q : Option Value → zH → Prop} {k n : Nat} {h : zH} (a : Nat) (x1 : Int32) (x2 : Int32) (x3 : Int32) (x4 : Int32) (r5 : Option Nat) (x6 : Int32) (x7 : Int32) (x8 : Int32) (ha : lo10 h a) (hd9 : 6 ≤ d)
    (hw : (∃ b1, r5 = some b1 ∧ lo1 h b1 ∧ (((zI h b1 3).toInt ≤ x8.toInt → Q (some (.int x7)) h) ∧ (x8.toInt < (zI h b1 3).toInt → ((¬ ((x6 >>> (x8 &&& 31)) &&& 1) = 0 → Z l G mX10_thieves d Q k n 74 [va_rf (some a), .int x1, .int x2, .int x3, .int x4, va_rf r5, .int x6, .int x7, .int ((x8 + 1))] [] h) ∧ (((x6 >>> (x8 &&& 31)) &&& 1) = 0 → (∃ P13, CTz l G YX1_isIn 5 [va_rf (some b1), .int x8, .int x2, .int x3, .int x4] h P13 ∧ ∀ (y18 : Bool) (I16 : Nat → Nat → Int32), P13 y18 I16 → ((y18 = false → Z l G mX10_thieves d Q k n 74 [va_rf (some a), .int x1, .int x2, .int x3, .int x4, va_rf r5, .int x6, .int x7, .int ((x8 + 1))] [] (I16, h.2)) ∧ (y18 = true → Z l G mX10_thieves d Q k n 74 [va_rf (some a), .int x1, .int x2, .int x3, .int x4, va_rf r5, .int x6, .int ((x7 ||| ((1 : Int32) <<< (x8 &&& 31)))), .int ((x8 + 1))] [] (I16, h.2)))))))))) :
    Z l G mX10_thieves d Q k n 74 [va_rf (some a), .int x1, .int x2, .int x3, .int x4, va_rf r5, .int x6, .int x7, .int x8] [] h := by
  refine z_iload dX10_thieves_74 rfl ?_
  refine z_aload dX10_thieves_76 rfl ?_
  obtain ⟨b1, q2, ho3, hw4⟩ := hw
  refine z_soP [] q2 ?_
  refine z_getIN (j := 3) zc1 dX10_thieves_78 (ho3.k 0 rfl) (ho3.lt 0 rfl) (by decide) rfl w316 ?_
  refine z_icmp_ge (t := 123) dX10_thieves_81 (by decide) (fun c5 => ?_) (fun c6 => ?_)
  · have hw7 := hw4.1 c5
    refine z_iload dX10_thieves_123 rfl ?_
    exact z_ret (v := some (.int x7)) dX10_thieves_125 ⟨_, rfl, rfl⟩ rfl hw7
  · have hw8 := hw4.2 c6
    refine z_iload dX10_thieves_84 rfl ?_
    refine z_iload dX10_thieves_86 rfl ?_
    refine z_ishr dX10_thieves_88 ?_
    refine z_iconst (v := 1) dX10_thieves_89 (by decide) ?_
    refine z_iand dX10_thieves_90 ?_
    refine z_if_ne (t := 117) dX10_thieves_91 (by decide) (fun c9 => ?_) (fun c10 => ?_)
    · have hw11 := hw8.1 c9
      refine z_iinc (v := (x8 + 1)) (L' := [va_rf (some a), .int x1, .int x2, .int x3, .int x4, va_rf r5, .int x6, .int x7, .int ((x8 + 1))]) dX10_thieves_117 (by decide) rfl rfl rfl ?_
      refine z_goto (t := 74) dX10_thieves_120 (by decide) ?_
      exact hw11
    · have hw12 := hw8.2 c10
      refine z_aload dX10_thieves_94 rfl ?_
      refine z_iload dX10_thieves_96 rfl ?_
      refine z_iloadn dX10_thieves_98 rfl rfl ?_
      refine z_iloadn dX10_thieves_99 rfl rfl ?_
      refine z_iload dX10_thieves_100 rfl ?_
      refine z_soP [.int x4, .int x3, .int x2, .int x8] q2 ?_
      obtain ⟨P13, ct14, hw15⟩ := hw12
      refine z_callV (h := h) (S := []) (a := b1) (M := mX10_thieves) (As := [.int x8, .int x2, .int x3, .int x4]) zc1 rfl eX1_isIn w1175 w59 (Or.inr ⟨_, w1173⟩) dX10_thieves_102 (ho3.k 0 rfl) (ho3.lt 0 rfl) rfl (by omega) (Nat.le_of_ble_eq_true rfl) ct14 (fun v20 g21 q17 => ?_)
      obtain ⟨y18, I16, rfl, rfl, q17⟩ := q17
      have hw19 := hw15 y18 I16 q17
      show Z l G _ d Q k n 105 _ (.int (zb y18) :: []) _
      refine z_if_eq (t := 117) dX10_thieves_105 (by decide) (fun c22 => ?_) (fun c23 => ?_)
      · have hw24 := hw19.1 (zb0 c22)
        refine z_iinc (v := (x8 + 1)) (L' := [va_rf (some a), .int x1, .int x2, .int x3, .int x4, va_rf r5, .int x6, .int x7, .int ((x8 + 1))]) dX10_thieves_117 (by decide) rfl rfl rfl ?_
        refine z_goto (t := 74) dX10_thieves_120 (by decide) ?_
        exact hw24
      · have hw25 := hw19.2 (zb1 c23)
        refine z_iload dX10_thieves_108 rfl ?_
        refine z_iconst (v := 1) dX10_thieves_110 (by decide) ?_
        refine z_iload dX10_thieves_111 rfl ?_
        refine z_ishl dX10_thieves_113 ?_
        refine z_ior dX10_thieves_114 ?_
        refine z_istore (L' := [va_rf (some a), .int x1, .int x2, .int x3, .int x4, va_rf r5, .int x6, .int ((x7 ||| ((1 : Int32) <<< (x8 &&& 31)))), .int x8]) dX10_thieves_115 (by decide) rfl ?_
        refine z_iinc (v := (x8 + 1)) (L' := [va_rf (some a), .int x1, .int x2, .int x3, .int x4, va_rf r5, .int x6, .int ((x7 ||| ((1 : Int32) <<< (x8 &&& 31)))), .int ((x8 + 1))]) dX10_thieves_117 (by decide) rfl rfl rfl ?_
        refine z_goto (t := 74) dX10_thieves_120 (by decide) ?_
        exact hw25

theorem kX10_thieves {l : Launch} {G : zG} {d : Nat} {Q : Option Value → zH → Prop} {k n : Nat} {h : zH} (a : Nat) (x1 : Int32) (x2 : Int32) (x3 : Int32) (x4 : Int32) (hz : Z l G mX10_thieves d Q k n 0 [va_rf (some a), .int x1, .int x2, .int x3, .int x4, zU, zU, zU, zU] [] h) : CT l G YX10_thieves d k n [va_rf (some a), .int x1, .int x2, .int x3, .int x4] h Q :=
  CT.of (by decide +kernel) (fun t e => by have e2 : ((some .int) : Option FieldType) = some t := e; cases e2; exact ⟨by decide, by decide⟩) (by exact Nat.le_of_ble_eq_true rfl) (by exact hz)

theorem sX10_traps_0 {l : Launch} {G : zG} {d : Nat} {Q : Option Value → zH → Prop} {k n : Nat} {h : zH} (a : Nat) (x1 : Int32) (x2 : Int32) (x3 : Int32) (ha : lo10 h a) (hd9 : 8 ≤ d)
    (hw : ((znat h (a + 1) x1 = none → Q (some (.int ((-1)))) h) ∧ (∀ b5, znat h (a + 1) x1 = some b5 → ((x2.toInt < (1 : Int) → Q (some (.int ((-1)))) h) ∧ ((1 : Int) ≤ x2.toInt → (((3 : Int) < x2.toInt → Q (some (.int ((-1)))) h) ∧ (x2.toInt ≤ (3 : Int) → ((x3.toInt < (0 : Int) → Q (some (.int ((-1)))) h) ∧ ((0 : Int) ≤ x3.toInt → ((x3.toInt ≤ x2.toInt → (∃ P24, CTv l G YX0_lay 5 [va_rf (some (a + 81)), va_rf (some b5), .int 99] h P24 ∧ ∀ (I27 : Nat → Nat → Int32), P24 I27 → (lo1 (I27, h.2) b5 ∧ (∃ P38, CTv l G YX8_set 7 [va_rf (some (a + 132)), va_rf (some (a + 81)), .int (zcells (I27, h.2) b5), .int x2] (I27, h.2) P38 ∧ ∀ (I41 : Nat → Nat → Int32), P38 I41 → ((¬ x3 = 0 → Q (some (.int (zget (I41, h.2) (some (a + 135)) (x3 - 1)))) (I41, h.2)) ∧ (x3 = 0 → Q (some (.int (zI (I41, h.2) (a + 132) 6))) (I41, h.2))))))) ∧ (x2.toInt < x3.toInt → Q (some (.int ((-1)))) h))))))))))) :
    Z l G mX10_traps d Q k n 0 [va_rf (some a), .int x1, .int x2, .int x3, zU] [] h := by
  refine z_aloadn dX10_traps_0 rfl rfl ?_
  refine z_getRq (j := 0) zc10 dX10_traps_1 (ha.k 0 rfl) (ha.lt 0 rfl) (by decide) rfl w699 (ha.r 51 rfl) ?_
  refine z_iloadn dX10_traps_4 rfl rfl ?_
  refine z_callV (h := h) (S := []) (a := (a + 1)) (M := mX10_traps) (As := [.int x1]) zc6 rfl eX6_nightAt w994 w31 (Or.inr ⟨_, w992⟩) dX10_traps_5 (ha.k 1 rfl) (ha.lt 1 rfl) rfl (by omega) (Nat.le_of_ble_eq_true rfl) (c_X6_nightAt l G h (a + 1) x1 (los_10_1 ha)) (fun v1 g2 q3 => ?_)
  obtain ⟨rfl, q3⟩ := q3
  replace q3 := q3.symm
  subst q3
  show Z l G _ d Q k n 8 _ (va_rf (znat h (a + 1) x1) :: []) _
  refine z_astore (L' := [va_rf (some a), .int x1, .int x2, .int x3, va_rf (znat h (a + 1) x1)]) dX10_traps_8 (by decide) rfl ?_
  refine z_aload dX10_traps_10 rfl ?_
  refine z_ifnull (t := 34) dX10_traps_12 (by decide) (fun c4 => ?_) (fun b5 c4 => ?_)
  · have hw6 := hw.1 c4
    refine z_iconst (v := (-1)) dX10_traps_34 (by decide) ?_
    exact z_ret (v := some (.int ((-1)))) dX10_traps_35 ⟨_, rfl, rfl⟩ rfl hw6
  · have hw7 := hw.2 b5 c4
    refine z_iloadn dX10_traps_15 rfl rfl ?_
    refine z_iconst (v := 1) dX10_traps_16 (by decide) ?_
    refine z_icmp_lt (t := 34) dX10_traps_17 (by decide) (fun c8 => ?_) (fun c9 => ?_)
    · have hw10 := hw7.1 c8
      refine z_iconst (v := (-1)) dX10_traps_34 (by decide) ?_
      exact z_ret (v := some (.int ((-1)))) dX10_traps_35 ⟨_, rfl, rfl⟩ rfl hw10
    · have hw11 := hw7.2 c9
      refine z_iloadn dX10_traps_20 rfl rfl ?_
      refine z_iconst (v := 3) dX10_traps_21 (by decide) ?_
      refine z_icmp_gt (t := 34) dX10_traps_22 (by decide) (fun c12 => ?_) (fun c13 => ?_)
      · have hw14 := hw11.1 c12
        refine z_iconst (v := (-1)) dX10_traps_34 (by decide) ?_
        exact z_ret (v := some (.int ((-1)))) dX10_traps_35 ⟨_, rfl, rfl⟩ rfl hw14
      · have hw15 := hw11.2 c13
        refine z_iloadn dX10_traps_25 rfl rfl ?_
        refine z_if_lt (t := 34) dX10_traps_26 (by decide) (fun c16 => ?_) (fun c17 => ?_)
        · have hw18 := hw15.1 c16
          refine z_iconst (v := (-1)) dX10_traps_34 (by decide) ?_
          exact z_ret (v := some (.int ((-1)))) dX10_traps_35 ⟨_, rfl, rfl⟩ rfl hw18
        · have hw19 := hw15.2 c17
          refine z_iloadn dX10_traps_29 rfl rfl ?_
          refine z_iloadn dX10_traps_30 rfl rfl ?_
          refine z_icmp_le (t := 36) dX10_traps_31 (by decide) (fun c20 => ?_) (fun c21 => ?_)
          · have hw22 := hw19.1 c20
            refine z_aloadn dX10_traps_36 rfl rfl ?_
            refine z_getRq (j := 4) zc10 dX10_traps_37 (ha.k 0 rfl) (ha.lt 0 rfl) (by decide) rfl w703 (ha.r 93 rfl) ?_
            refine z_aload dX10_traps_40 rfl ?_
            refine z_bipush (v := 99) dX10_traps_42 (by decide) ?_
            refine z_soP [.int 99] c4 ?_
            obtain ⟨P24, ct25, hw26⟩ := hw22
            refine z_callV (h := h) (S := []) (a := (a + 81)) (M := mX10_traps) (As := [va_rf (some b5), .int 99]) zc0 rfl eX0_lay w1066 w42 (Or.inr ⟨_, w1064⟩) dX10_traps_44 (ha.k 81 rfl) (ha.lt 81 rfl) rfl (by omega) (Nat.le_of_ble_eq_true rfl) ct25 (fun v31 g32 q28 => ?_)
            obtain ⟨I27, rfl, rfl, q28⟩ := q28
            have hw30 := hw26 I27 q28
            show Z l G _ d Q k n 47 _ ([]) _
            refine z_aloadn dX10_traps_47 rfl rfl ?_
            refine z_getRq (j := 9) zc10 dX10_traps_48 (ha.k 0 rfl) (ha.lt 0 rfl) (by decide) rfl w708 (ha.r 134 rfl) ?_
            refine z_aloadn dX10_traps_51 rfl rfl ?_
            refine z_getRq (j := 4) zc10 dX10_traps_52 (ha.k 0 rfl) (ha.lt 0 rfl) (by decide) rfl w703 (ha.r 93 rfl) ?_
            refine z_aload dX10_traps_55 rfl ?_
            refine z_soP [] c4 ?_
            obtain ⟨ho33, hw34⟩ := hw30
            refine z_callV (h := (I27, h.2)) (S := [va_rf (some (a + 81)), va_rf (some (a + 132))]) (a := b5) (M := mX10_traps) (As := []) zc1 rfl eX1_cells w930 w23 (Or.inr ⟨_, w1182⟩) dX10_traps_57 (ho33.k 0 rfl) (ho33.lt 0 rfl) rfl (by omega) (Nat.le_of_ble_eq_true rfl) (c_X1_cells l G (I27, h.2) b5 ho33) (fun v35 g36 q37 => ?_)
            obtain ⟨rfl, q37⟩ := q37
            replace q37 := q37.symm
            subst q37
            show Z l G _ d Q k n 60 _ (.int (zcells (I27, h.2) b5) :: va_rf (some (a + 81)) :: va_rf (some (a + 132)) :: []) _
            refine z_iloadn dX10_traps_60 rfl rfl ?_
            obtain ⟨P38, ct39, hw40⟩ := hw34
            refine z_callV (h := (I27, h.2)) (S := []) (a := (a + 132)) (M := mX10_traps) (As := [va_rf (some (a + 81)), .int (zcells (I27, h.2) b5), .int x2]) zc8 rfl eX8_set w1185 w60 (Or.inr ⟨_, w1183⟩) dX10_traps_61 (ha.k 132 rfl) (ha.lt 132 rfl) rfl (by omega) (Nat.le_of_ble_eq_true rfl) ct39 (fun v45 g46 q42 => ?_)
            obtain ⟨I41, rfl, rfl, q42⟩ := q42
            have hw44 := hw40 I41 q42
            show Z l G _ d Q k n 64 _ ([]) _
            refine z_iloadn dX10_traps_64 rfl rfl ?_
            refine z_if_ne (t := 78) dX10_traps_65 (by decide) (fun c47 => ?_) (fun c48 => ?_)
            · have hw49 := hw44.1 c47
              refine z_aloadn dX10_traps_78 rfl rfl ?_
              refine z_getRq (j := 9) zc10 dX10_traps_79 (ha.k 0 rfl) (ha.lt 0 rfl) (by decide) rfl w708 (ha.r 134 rfl) ?_
              refine z_getRNq (j := 5) zc8 dX10_traps_82 (ha.k 132 rfl) (ha.lt 132 rfl) (by decide) rfl w589 (ha.r 133 rfl) ?_
              refine z_iloadn dX10_traps_85 rfl rfl ?_
              refine z_iconst (v := 1) dX10_traps_86 (by decide) ?_
              refine z_isub dX10_traps_87 ?_
              refine z_callS (h := (I41, h.2)) (S := []) (M := mX10_traps) (As := [va_rf (some (a + 135)), .int ((x3 - 1))]) eX10_get w778 (Or.inl w1101) dX10_traps_88 rfl (by omega) (Nat.le_of_ble_eq_true rfl) (c_X10_get l G (I41, h.2) (some (a + 135)) (x3 - 1) (zgok_lo (ha.w 135 rfl) (by decide))) (fun v51 g52 q53 => ?_)
              obtain ⟨rfl, q53⟩ := q53
              replace q53 := q53.symm
              subst q53
              show Z l G _ d Q k n 91 _ (.int (zget (I41, h.2) (some (a + 135)) (x3 - 1)) :: []) _
              exact z_ret (v := some (.int (zget (I41, h.2) (some (a + 135)) (x3 - 1)))) dX10_traps_91 ⟨_, rfl, rfl⟩ rfl hw49
            · have hw50 := hw44.2 c48
              refine z_aloadn dX10_traps_68 rfl rfl ?_
              refine z_getRq (j := 9) zc10 dX10_traps_69 (ha.k 0 rfl) (ha.lt 0 rfl) (by decide) rfl w708 (ha.r 134 rfl) ?_
              refine z_getIN (j := 6) zc8 dX10_traps_72 (ha.k 132 rfl) (ha.lt 132 rfl) (by decide) rfl w591 ?_
              refine z_goto (t := 91) dX10_traps_75 (by decide) ?_
              exact z_ret (v := some (.int (zI (I41, h.2) (a + 132) 6))) dX10_traps_91 ⟨_, rfl, rfl⟩ rfl hw50
          · have hw23 := hw19.2 c21
            refine z_iconst (v := (-1)) dX10_traps_34 (by decide) ?_
            exact z_ret (v := some (.int ((-1)))) dX10_traps_35 ⟨_, rfl, rfl⟩ rfl hw23

theorem kX10_traps {l : Launch} {G : zG} {d : Nat} {Q : Option Value → zH → Prop} {k n : Nat} {h : zH} (a : Nat) (x1 : Int32) (x2 : Int32) (x3 : Int32) (hz : Z l G mX10_traps d Q k n 0 [va_rf (some a), .int x1, .int x2, .int x3, zU] [] h) : CT l G YX10_traps d k n [va_rf (some a), .int x1, .int x2, .int x3] h Q :=
  CT.of (by decide +kernel) (fun t e => by have e2 : ((some .int) : Option FieldType) = some t := e; cases e2; exact ⟨by decide, by decide⟩) (by exact Nat.le_of_ble_eq_true rfl) (by exact hz)

theorem sX10_tax_0 {l : Launch} {G : zG} {d : Nat} {Q : Option Value → zH → Prop} {k n : Nat} {h : zH} (a : Nat) (x1 : Int32) (x2 : Int32) (x3 : Int32) (ha : lo10 h a) (hd9 : 6 ≤ d)
    (hw : ((znat h (a + 1) x1 = none → Q (some (.int ((-1)))) h) ∧ (∀ b5, znat h (a + 1) x1 = some b5 → ((x2.toInt < (0 : Int) → Q (some (.int ((-1)))) h) ∧ ((0 : Int) ≤ x2.toInt → ((x2.toInt < (3 : Int) → ((x3 = (-1) → (∃ P20, CTv l G YX0_lay 5 [va_rf (some (a + 81)), va_rf (some b5), .int 99] h P20 ∧ ∀ (I23 : Nat → Nat → Int32), P20 I23 → (∃ P29, CTi l G YX0_taxOf 4 [va_rf (some (a + 81)), va_rf (some b5), .int x2, .int x3] (I23, h.2) P29 ∧ ∀ (y34 : Int32) (I32 : Nat → Nat → Int32), P29 y34 I32 → Q (some (.int y34)) (I32, h.2)))) ∧ (¬ x3 = (-1) → (lo1 h b5 ∧ ((zmem h b5 x3 = none → Q (some (.int ((-1)))) h) ∧ (∀ b44, zmem h b5 x3 = some b44 → (∃ P47, CTv l G YX0_lay 5 [va_rf (some (a + 81)), va_rf (some b5), .int 99] h P47 ∧ ∀ (I50 : Nat → Nat → Int32), P47 I50 → (∃ P56, CTi l G YX0_taxOf 4 [va_rf (some (a + 81)), va_rf (some b5), .int x2, .int x3] (I50, h.2) P56 ∧ ∀ (y61 : Int32) (I59 : Nat → Nat → Int32), P56 y61 I59 → Q (some (.int y61)) (I59, h.2))))))))) ∧ ((3 : Int) ≤ x2.toInt → Q (some (.int ((-1)))) h))))))) :
    Z l G mX10_tax d Q k n 0 [va_rf (some a), .int x1, .int x2, .int x3, zU] [] h := by
  refine z_aloadn dX10_tax_0 rfl rfl ?_
  refine z_getRq (j := 0) zc10 dX10_tax_1 (ha.k 0 rfl) (ha.lt 0 rfl) (by decide) rfl w699 (ha.r 51 rfl) ?_
  refine z_iloadn dX10_tax_4 rfl rfl ?_
  refine z_callV (h := h) (S := []) (a := (a + 1)) (M := mX10_tax) (As := [.int x1]) zc6 rfl eX6_nightAt w994 w31 (Or.inr ⟨_, w992⟩) dX10_tax_5 (ha.k 1 rfl) (ha.lt 1 rfl) rfl (by omega) (Nat.le_of_ble_eq_true rfl) (c_X6_nightAt l G h (a + 1) x1 (los_10_1 ha)) (fun v1 g2 q3 => ?_)
  obtain ⟨rfl, q3⟩ := q3
  replace q3 := q3.symm
  subst q3
  show Z l G _ d Q k n 8 _ (va_rf (znat h (a + 1) x1) :: []) _
  refine z_astore (L' := [va_rf (some a), .int x1, .int x2, .int x3, va_rf (znat h (a + 1) x1)]) dX10_tax_8 (by decide) rfl ?_
  refine z_aload dX10_tax_10 rfl ?_
  refine z_ifnull (t := 24) dX10_tax_12 (by decide) (fun c4 => ?_) (fun b5 c4 => ?_)
  · have hw6 := hw.1 c4
    refine z_iconst (v := (-1)) dX10_tax_24 (by decide) ?_
    exact z_ret (v := some (.int ((-1)))) dX10_tax_25 ⟨_, rfl, rfl⟩ rfl hw6
  · have hw7 := hw.2 b5 c4
    refine z_iloadn dX10_tax_15 rfl rfl ?_
    refine z_if_lt (t := 24) dX10_tax_16 (by decide) (fun c8 => ?_) (fun c9 => ?_)
    · have hw10 := hw7.1 c8
      refine z_iconst (v := (-1)) dX10_tax_24 (by decide) ?_
      exact z_ret (v := some (.int ((-1)))) dX10_tax_25 ⟨_, rfl, rfl⟩ rfl hw10
    · have hw11 := hw7.2 c9
      refine z_iloadn dX10_tax_19 rfl rfl ?_
      refine z_iconst (v := 3) dX10_tax_20 (by decide) ?_
      refine z_icmp_lt (t := 26) dX10_tax_21 (by decide) (fun c12 => ?_) (fun c13 => ?_)
      · have hw14 := hw11.1 c12
        refine z_iloadn dX10_tax_26 rfl rfl ?_
        refine z_iconst (v := (-1)) dX10_tax_27 (by decide) ?_
        refine z_icmp_eq (t := 42) dX10_tax_28 (by decide) (fun c16 => ?_) (fun c17 => ?_)
        · have hw18 := hw14.1 c16
          refine z_aloadn dX10_tax_42 rfl rfl ?_
          refine z_getRq (j := 4) zc10 dX10_tax_43 (ha.k 0 rfl) (ha.lt 0 rfl) (by decide) rfl w703 (ha.r 93 rfl) ?_
          refine z_aload dX10_tax_46 rfl ?_
          refine z_bipush (v := 99) dX10_tax_48 (by decide) ?_
          refine z_soP [.int 99] c4 ?_
          obtain ⟨P20, ct21, hw22⟩ := hw18
          refine z_callV (h := h) (S := []) (a := (a + 81)) (M := mX10_tax) (As := [va_rf (some b5), .int 99]) zc0 rfl eX0_lay w1066 w42 (Or.inr ⟨_, w1064⟩) dX10_tax_50 (ha.k 81 rfl) (ha.lt 81 rfl) rfl (by omega) (Nat.le_of_ble_eq_true rfl) ct21 (fun v27 g28 q24 => ?_)
          obtain ⟨I23, rfl, rfl, q24⟩ := q24
          have hw26 := hw22 I23 q24
          show Z l G _ d Q k n 53 _ ([]) _
          refine z_aloadn dX10_tax_53 rfl rfl ?_
          refine z_getRq (j := 4) zc10 dX10_tax_54 (ha.k 0 rfl) (ha.lt 0 rfl) (by decide) rfl w703 (ha.r 93 rfl) ?_
          refine z_aload dX10_tax_57 rfl ?_
          refine z_iloadn dX10_tax_59 rfl rfl ?_
          refine z_iloadn dX10_tax_60 rfl rfl ?_
          refine z_soP [.int x3, .int x2] c4 ?_
          obtain ⟨P29, ct30, hw31⟩ := hw26
          refine z_callV (h := (I23, h.2)) (S := []) (a := (a + 81)) (M := mX10_tax) (As := [va_rf (some b5), .int x2, .int x3]) zc0 rfl eX0_taxOf w1207 w62 (Or.inr ⟨_, w1205⟩) dX10_tax_61 (ha.k 81 rfl) (ha.lt 81 rfl) rfl (by omega) (Nat.le_of_ble_eq_true rfl) ct30 (fun v36 g37 q33 => ?_)
          obtain ⟨y34, I32, rfl, rfl, q33⟩ := q33
          have hw35 := hw31 y34 I32 q33
          show Z l G _ d Q k n 64 _ (.int y34 :: []) _
          exact z_ret (v := some (.int y34)) dX10_tax_64 ⟨_, rfl, rfl⟩ rfl hw35
        · have hw19 := hw14.2 c17
          refine z_aload dX10_tax_31 rfl ?_
          refine z_iloadn dX10_tax_33 rfl rfl ?_
          refine z_soP [.int x3] c4 ?_
          obtain ⟨ho38, hw39⟩ := hw19
          refine z_callV (h := h) (S := []) (a := b5) (M := mX10_tax) (As := [.int x3]) zc1 rfl eX1_member w1011 w34 (Or.inr ⟨_, w1009⟩) dX10_tax_34 (ho38.k 0 rfl) (ho38.lt 0 rfl) rfl (by omega) (Nat.le_of_ble_eq_true rfl) (c_X1_member l G h b5 x3 ho38) (fun v40 g41 q42 => ?_)
          obtain ⟨rfl, q42⟩ := q42
          replace q42 := q42.symm
          subst q42
          show Z l G _ d Q k n 37 _ (va_rf (zmem h b5 x3) :: []) _
          refine z_ifnonnull (t := 42) dX10_tax_37 (by decide) (fun b44 c43 => ?_) (fun c43 => ?_)
          · have hw46 := hw39.2 b44 c43
            refine z_aloadn dX10_tax_42 rfl rfl ?_
            refine z_getRq (j := 4) zc10 dX10_tax_43 (ha.k 0 rfl) (ha.lt 0 rfl) (by decide) rfl w703 (ha.r 93 rfl) ?_
            refine z_aload dX10_tax_46 rfl ?_
            refine z_bipush (v := 99) dX10_tax_48 (by decide) ?_
            refine z_soP [.int 99] c4 ?_
            obtain ⟨P47, ct48, hw49⟩ := hw46
            refine z_callV (h := h) (S := []) (a := (a + 81)) (M := mX10_tax) (As := [va_rf (some b5), .int 99]) zc0 rfl eX0_lay w1066 w42 (Or.inr ⟨_, w1064⟩) dX10_tax_50 (ha.k 81 rfl) (ha.lt 81 rfl) rfl (by omega) (Nat.le_of_ble_eq_true rfl) ct48 (fun v54 g55 q51 => ?_)
            obtain ⟨I50, rfl, rfl, q51⟩ := q51
            have hw53 := hw49 I50 q51
            show Z l G _ d Q k n 53 _ ([]) _
            refine z_aloadn dX10_tax_53 rfl rfl ?_
            refine z_getRq (j := 4) zc10 dX10_tax_54 (ha.k 0 rfl) (ha.lt 0 rfl) (by decide) rfl w703 (ha.r 93 rfl) ?_
            refine z_aload dX10_tax_57 rfl ?_
            refine z_iloadn dX10_tax_59 rfl rfl ?_
            refine z_iloadn dX10_tax_60 rfl rfl ?_
            refine z_soP [.int x3, .int x2] c4 ?_
            obtain ⟨P56, ct57, hw58⟩ := hw53
            refine z_callV (h := (I50, h.2)) (S := []) (a := (a + 81)) (M := mX10_tax) (As := [va_rf (some b5), .int x2, .int x3]) zc0 rfl eX0_taxOf w1207 w62 (Or.inr ⟨_, w1205⟩) dX10_tax_61 (ha.k 81 rfl) (ha.lt 81 rfl) rfl (by omega) (Nat.le_of_ble_eq_true rfl) ct57 (fun v63 g64 q60 => ?_)
            obtain ⟨y61, I59, rfl, rfl, q60⟩ := q60
            have hw62 := hw58 y61 I59 q60
            show Z l G _ d Q k n 64 _ (.int y61 :: []) _
            exact z_ret (v := some (.int y61)) dX10_tax_64 ⟨_, rfl, rfl⟩ rfl hw62
          · have hw45 := hw39.1 c43
            refine z_iconst (v := (-1)) dX10_tax_40 (by decide) ?_
            exact z_ret (v := some (.int ((-1)))) dX10_tax_41 ⟨_, rfl, rfl⟩ rfl hw45
      · have hw15 := hw11.2 c13
        refine z_iconst (v := (-1)) dX10_tax_24 (by decide) ?_
        exact z_ret (v := some (.int ((-1)))) dX10_tax_25 ⟨_, rfl, rfl⟩ rfl hw15

theorem kX10_tax {l : Launch} {G : zG} {d : Nat} {Q : Option Value → zH → Prop} {k n : Nat} {h : zH} (a : Nat) (x1 : Int32) (x2 : Int32) (x3 : Int32) (hz : Z l G mX10_tax d Q k n 0 [va_rf (some a), .int x1, .int x2, .int x3, zU] [] h) : CT l G YX10_tax d k n [va_rf (some a), .int x1, .int x2, .int x3] h Q :=
  CT.of (by decide +kernel) (fun t e => by have e2 : ((some .int) : Option FieldType) = some t := e; cases e2; exact ⟨by decide, by decide⟩) (by exact Nat.le_of_ble_eq_true rfl) (by exact hz)

theorem sX10_fair_0 {l : Launch} {G : zG} {d : Nat} {Q : Option Value → zH → Prop} {k n : Nat} {h : zH} (a : Nat) (x1 : Int32) (x2 : Int32) (x3 : Bool) (ha : lo10 h a) (hd9 : 6 ≤ d)
    (hw : ((znat h (a + 1) x1 = none → Q (some (.long ((-1)))) h) ∧ (∀ b5, znat h (a + 1) x1 = some b5 → (lo1 h b5 ∧ ((zmem h b5 x2 = none → Q (some (.long ((-1)))) h) ∧ (∀ b14, zmem h b5 x2 = some b14 → (∃ P17, CTv l G YX0_lay 5 [va_rf (some (a + 81)), va_rf (some b5), .int 99] h P17 ∧ ∀ (I20 : Nat → Nat → Int32), P17 I20 → (∃ P26, CTi l G YX0_shareOf 2 [va_rf (some (a + 81)), .int x2] (I20, h.2) P26 ∧ ∀ (y31 : Int32) (I29 : Nat → Nat → Int32), P26 y31 I29 → (∃ P35, CTi l G YX10_greatestDivisor 1 [.int y31] (I29, h.2) P35 ∧ ∀ (y40 : Int32) (I38 : Nat → Nat → Int32), P35 y40 I38 → ((x3 = false → (¬ (imax (1 : Int32) y40) = 0 ∧ Q (some (.long ((y31 / (imax (1 : Int32) y40)).toInt64))) (I38, h.2))) ∧ (x3 = true → (¬ (imax (1 : Int32) y40) = 0 ∧ Q (some (.long (((60 : Int32) / (imax (1 : Int32) y40)).toInt64))) (I38, h.2))))))))))))) :
    Z l G mX10_fair d Q k n 0 [va_rf (some a), .int x1, .int x2, .int (zb x3), zU, zU, zU] [] h := by
  refine z_aloadn dX10_fair_0 rfl rfl ?_
  refine z_getRq (j := 0) zc10 dX10_fair_1 (ha.k 0 rfl) (ha.lt 0 rfl) (by decide) rfl w699 (ha.r 51 rfl) ?_
  refine z_iloadn dX10_fair_4 rfl rfl ?_
  refine z_callV (h := h) (S := []) (a := (a + 1)) (M := mX10_fair) (As := [.int x1]) zc6 rfl eX6_nightAt w994 w31 (Or.inr ⟨_, w992⟩) dX10_fair_5 (ha.k 1 rfl) (ha.lt 1 rfl) rfl (by omega) (Nat.le_of_ble_eq_true rfl) (c_X6_nightAt l G h (a + 1) x1 (los_10_1 ha)) (fun v1 g2 q3 => ?_)
  obtain ⟨rfl, q3⟩ := q3
  replace q3 := q3.symm
  subst q3
  show Z l G _ d Q k n 8 _ (va_rf (znat h (a + 1) x1) :: []) _
  refine z_astore (L' := [va_rf (some a), .int x1, .int x2, .int (zb x3), va_rf (znat h (a + 1) x1), zU, zU]) dX10_fair_8 (by decide) rfl ?_
  refine z_aload dX10_fair_10 rfl ?_
  refine z_ifnull (t := 24) dX10_fair_12 (by decide) (fun c4 => ?_) (fun b5 c4 => ?_)
  · have hw6 := hw.1 c4
    refine z_ldc2 w1217 dX10_fair_24 ?_
    exact z_ret (v := some (.long ((-1)))) dX10_fair_27 ⟨_, rfl⟩ rfl hw6
  · have hw7 := hw.2 b5 c4
    refine z_aload dX10_fair_15 rfl ?_
    refine z_iloadn dX10_fair_17 rfl rfl ?_
    refine z_soP [.int x2] c4 ?_
    obtain ⟨ho8, hw9⟩ := hw7
    refine z_callV (h := h) (S := []) (a := b5) (M := mX10_fair) (As := [.int x2]) zc1 rfl eX1_member w1011 w34 (Or.inr ⟨_, w1009⟩) dX10_fair_18 (ho8.k 0 rfl) (ho8.lt 0 rfl) rfl (by omega) (Nat.le_of_ble_eq_true rfl) (c_X1_member l G h b5 x2 ho8) (fun v10 g11 q12 => ?_)
    obtain ⟨rfl, q12⟩ := q12
    replace q12 := q12.symm
    subst q12
    show Z l G _ d Q k n 21 _ (va_rf (zmem h b5 x2) :: []) _
    refine z_ifnonnull (t := 28) dX10_fair_21 (by decide) (fun b14 c13 => ?_) (fun c13 => ?_)
    · have hw16 := hw9.2 b14 c13
      refine z_aloadn dX10_fair_28 rfl rfl ?_
      refine z_getRq (j := 4) zc10 dX10_fair_29 (ha.k 0 rfl) (ha.lt 0 rfl) (by decide) rfl w703 (ha.r 93 rfl) ?_
      refine z_aload dX10_fair_32 rfl ?_
      refine z_bipush (v := 99) dX10_fair_34 (by decide) ?_
      refine z_soP [.int 99] c4 ?_
      obtain ⟨P17, ct18, hw19⟩ := hw16
      refine z_callV (h := h) (S := []) (a := (a + 81)) (M := mX10_fair) (As := [va_rf (some b5), .int 99]) zc0 rfl eX0_lay w1066 w42 (Or.inr ⟨_, w1064⟩) dX10_fair_36 (ha.k 81 rfl) (ha.lt 81 rfl) rfl (by omega) (Nat.le_of_ble_eq_true rfl) ct18 (fun v24 g25 q21 => ?_)
      obtain ⟨I20, rfl, rfl, q21⟩ := q21
      have hw23 := hw19 I20 q21
      show Z l G _ d Q k n 39 _ ([]) _
      refine z_aloadn dX10_fair_39 rfl rfl ?_
      refine z_getRq (j := 4) zc10 dX10_fair_40 (ha.k 0 rfl) (ha.lt 0 rfl) (by decide) rfl w703 (ha.r 93 rfl) ?_
      refine z_iloadn dX10_fair_43 rfl rfl ?_
      obtain ⟨P26, ct27, hw28⟩ := hw23
      refine z_callV (h := (I20, h.2)) (S := []) (a := (a + 81)) (M := mX10_fair) (As := [.int x2]) zc0 rfl eX0_shareOf w1220 w64 (Or.inr ⟨_, w1218⟩) dX10_fair_44 (ha.k 81 rfl) (ha.lt 81 rfl) rfl (by omega) (Nat.le_of_ble_eq_true rfl) ct27 (fun v33 g34 q30 => ?_)
      obtain ⟨y31, I29, rfl, rfl, q30⟩ := q30
      have hw32 := hw28 y31 I29 q30
      show Z l G _ d Q k n 47 _ (.int y31 :: []) _
      refine z_istore (L' := [va_rf (some a), .int x1, .int x2, .int (zb x3), va_rf (znat h (a + 1) x1), .int y31, zU]) dX10_fair_47 (by decide) ((zs1_rf (j := 4) rfl).trans rfl) ?_
      refine z_iconst (v := 1) dX10_fair_49 (by decide) ?_
      refine z_iload dX10_fair_50 rfl ?_
      obtain ⟨P35, ct36, hw37⟩ := hw32
      refine z_callS (h := (I29, h.2)) (S := [.int 1]) (M := mX10_fair) (As := [.int y31]) eX10_greatestDivisor w1224 (Or.inl w1223) dX10_fair_52 rfl (by omega) (Nat.le_of_ble_eq_true rfl) ct36 (fun v42 g43 q39 => ?_)
      obtain ⟨y40, I38, rfl, rfl, q39⟩ := q39
      have hw41 := hw37 y40 I38 q39
      show Z l G _ d Q k n 55 _ (.int y40 :: .int 1 :: []) _
      refine z_max dX10_fair_55 w1226 w906 w186 w907 (by omega) (Nat.le_of_ble_eq_true rfl) ?_
      show Z l G _ d Q k n 58 _ (.int ((imax (1 : Int32) y40)) :: []) _
      refine z_istore (L' := [va_rf (some a), .int x1, .int x2, .int (zb x3), va_rf (znat h (a + 1) x1), .int y31, .int ((imax (1 : Int32) y40))]) dX10_fair_58 (by decide) rfl ?_
      refine z_iloadn dX10_fair_60 rfl rfl ?_
      refine z_if_eq (t := 69) dX10_fair_61 (by decide) (fun c44 => ?_) (fun c45 => ?_)
      · have hw46 := hw41.1 (zb0 c44)
        refine z_iload dX10_fair_69 rfl ?_
        refine z_iload dX10_fair_71 rfl ?_
        have hw48 := hw46.2
        refine z_idiv dX10_fair_73 hw46.1 ?_
        refine z_i2l dX10_fair_74 rfl ?_
        exact z_ret (v := some (.long ((y31 / (imax (1 : Int32) y40)).toInt64))) dX10_fair_75 ⟨_, rfl⟩ rfl hw48
      · have hw47 := hw41.2 (zb1 c45)
        refine z_bipush (v := 60) dX10_fair_64 (by decide) ?_
        refine z_goto (t := 71) dX10_fair_66 (by decide) ?_
        refine z_iload dX10_fair_71 rfl ?_
        have hw49 := hw47.2
        refine z_idiv dX10_fair_73 hw47.1 ?_
        refine z_i2l dX10_fair_74 rfl ?_
        exact z_ret (v := some (.long (((60 : Int32) / (imax (1 : Int32) y40)).toInt64))) dX10_fair_75 ⟨_, rfl⟩ rfl hw49
    · have hw15 := hw9.1 c13
      refine z_ldc2 w1217 dX10_fair_24 ?_
      exact z_ret (v := some (.long ((-1)))) dX10_fair_27 ⟨_, rfl⟩ rfl hw15

theorem kX10_fair {l : Launch} {G : zG} {d : Nat} {Q : Option Value → zH → Prop} {k n : Nat} {h : zH} (a : Nat) (x1 : Int32) (x2 : Int32) (x3 : Bool) (hz : Z l G mX10_fair d Q k n 0 [va_rf (some a), .int x1, .int x2, .int (zb x3), zU, zU, zU] [] h) : CT l G YX10_fair d k n [va_rf (some a), .int x1, .int x2, .int (zb x3)] h Q :=
  CT.of (by decide +kernel) (fun t e => by have e2 : ((some .long) : Option FieldType) = some t := e; cases e2; exact ⟨by decide, by decide⟩) (by exact Nat.le_of_ble_eq_true rfl) (by exact hz)

theorem sX10_alone_0 {l : Launch} {G : zG} {d : Nat} {Q : Option Value → zH → Prop} {k n : Nat} {h : zH} (a : Nat) (x1 : Int32) (x2 : Int32) (ha : lo10 h a) (hd9 : 8 ≤ d)
    (hw : ((znat h (a + 1) x1 = none → Q (some (.int ((-2)))) h) ∧ (∀ b5, znat h (a + 1) x1 = some b5 → ((¬ x2 = (-1) → (lo1 h b5 ∧ ((zmem h b5 x2 = none → Q (some (.int ((-2)))) h) ∧ (∀ b18, zmem h b5 x2 = some b18 → (∃ P21, CTi l G YX10_printsAlone 6 [va_rf (some a), va_rf (some b5), .int x2] h P21 ∧ ∀ (y26 : Int32) (I24 : Nat → Nat → Int32), P21 y26 I24 → Q (some (.int y26)) (I24, h.2)))))) ∧ (x2 = (-1) → (∃ P30, CTi l G YX10_leavers 7 [va_rf (some a), va_rf (some b5)] h P30 ∧ ∀ (y35 : Int32) (I33 : Nat → Nat → Int32), P30 y35 I33 → Q (some (.int y35)) (I33, h.2))))))) :
    Z l G mX10_alone d Q k n 0 [va_rf (some a), .int x1, .int x2, zU] [] h := by
  refine z_aloadn dX10_alone_0 rfl rfl ?_
  refine z_getRq (j := 0) zc10 dX10_alone_1 (ha.k 0 rfl) (ha.lt 0 rfl) (by decide) rfl w699 (ha.r 51 rfl) ?_
  refine z_iloadn dX10_alone_4 rfl rfl ?_
  refine z_callV (h := h) (S := []) (a := (a + 1)) (M := mX10_alone) (As := [.int x1]) zc6 rfl eX6_nightAt w994 w31 (Or.inr ⟨_, w992⟩) dX10_alone_5 (ha.k 1 rfl) (ha.lt 1 rfl) rfl (by omega) (Nat.le_of_ble_eq_true rfl) (c_X6_nightAt l G h (a + 1) x1 (los_10_1 ha)) (fun v1 g2 q3 => ?_)
  obtain ⟨rfl, q3⟩ := q3
  replace q3 := q3.symm
  subst q3
  show Z l G _ d Q k n 8 _ (va_rf (znat h (a + 1) x1) :: []) _
  refine z_astoren (L' := [va_rf (some a), .int x1, .int x2, va_rf (znat h (a + 1) x1)]) dX10_alone_8 rfl (by decide) rfl ?_
  refine z_aloadn dX10_alone_9 rfl rfl ?_
  refine z_ifnonnull (t := 16) dX10_alone_10 (by decide) (fun b5 c4 => ?_) (fun c4 => ?_)
  · have hw7 := hw.2 b5 c4
    refine z_iloadn dX10_alone_16 rfl rfl ?_
    refine z_iconst (v := (-1)) dX10_alone_17 (by decide) ?_
    refine z_icmp_ne (t := 27) dX10_alone_18 (by decide) (fun c8 => ?_) (fun c9 => ?_)
    · have hw10 := hw7.1 c8
      refine z_aloadn dX10_alone_27 rfl rfl ?_
      refine z_iloadn dX10_alone_28 rfl rfl ?_
      refine z_soP [.int x2] c4 ?_
      obtain ⟨ho12, hw13⟩ := hw10
      refine z_callV (h := h) (S := []) (a := b5) (M := mX10_alone) (As := [.int x2]) zc1 rfl eX1_member w1011 w34 (Or.inr ⟨_, w1009⟩) dX10_alone_29 (ho12.k 0 rfl) (ho12.lt 0 rfl) rfl (by omega) (Nat.le_of_ble_eq_true rfl) (c_X1_member l G h b5 x2 ho12) (fun v14 g15 q16 => ?_)
      obtain ⟨rfl, q16⟩ := q16
      replace q16 := q16.symm
      subst q16
      show Z l G _ d Q k n 32 _ (va_rf (zmem h b5 x2) :: []) _
      refine z_ifnonnull (t := 40) dX10_alone_32 (by decide) (fun b18 c17 => ?_) (fun c17 => ?_)
      · have hw20 := hw13.2 b18 c17
        refine z_aloadn dX10_alone_40 rfl rfl ?_
        refine z_aloadn dX10_alone_41 rfl rfl ?_
        refine z_iloadn dX10_alone_42 rfl rfl ?_
        refine z_soP [.int x2] c4 ?_
        obtain ⟨P21, ct22, hw23⟩ := hw20
        refine z_callV (h := h) (S := []) (a := a) (M := mX10_alone) (As := [va_rf (some b5), .int x2]) zc10 rfl eX10_printsAlone w1237 w66 (Or.inl w1235) dX10_alone_43 (ha.k 0 rfl) (ha.lt 0 rfl) rfl (by omega) (Nat.le_of_ble_eq_true rfl) ct22 (fun v28 g29 q25 => ?_)
        obtain ⟨y26, I24, rfl, rfl, q25⟩ := q25
        have hw27 := hw23 y26 I24 q25
        show Z l G _ d Q k n 46 _ (.int y26 :: []) _
        exact z_ret (v := some (.int y26)) dX10_alone_46 ⟨_, rfl, rfl⟩ rfl hw27
      · have hw19 := hw13.1 c17
        refine z_bipush (v := (-2)) dX10_alone_35 (by decide) ?_
        refine z_goto (t := 46) dX10_alone_37 (by decide) ?_
        exact z_ret (v := some (.int ((-2)))) dX10_alone_46 ⟨_, rfl, rfl⟩ rfl hw19
    · have hw11 := hw7.2 c9
      refine z_aloadn dX10_alone_21 rfl rfl ?_
      refine z_aloadn dX10_alone_22 rfl rfl ?_
      refine z_soP [] c4 ?_
      obtain ⟨P30, ct31, hw32⟩ := hw11
      refine z_callV (h := h) (S := []) (a := a) (M := mX10_alone) (As := [va_rf (some b5)]) zc10 rfl eX10_leavers w1233 w65 (Or.inl w1231) dX10_alone_23 (ha.k 0 rfl) (ha.lt 0 rfl) rfl (by omega) (Nat.le_of_ble_eq_true rfl) ct31 (fun v37 g38 q34 => ?_)
      obtain ⟨y35, I33, rfl, rfl, q34⟩ := q34
      have hw36 := hw32 y35 I33 q34
      show Z l G _ d Q k n 26 _ (.int y35 :: []) _
      exact z_ret (v := some (.int y35)) dX10_alone_26 ⟨_, rfl, rfl⟩ rfl hw36
  · have hw6 := hw.1 c4
    refine z_bipush (v := (-2)) dX10_alone_13 (by decide) ?_
    exact z_ret (v := some (.int ((-2)))) dX10_alone_15 ⟨_, rfl, rfl⟩ rfl hw6

theorem kX10_alone {l : Launch} {G : zG} {d : Nat} {Q : Option Value → zH → Prop} {k n : Nat} {h : zH} (a : Nat) (x1 : Int32) (x2 : Int32) (hz : Z l G mX10_alone d Q k n 0 [va_rf (some a), .int x1, .int x2, zU] [] h) : CT l G YX10_alone d k n [va_rf (some a), .int x1, .int x2] h Q :=
  CT.of (by decide +kernel) (fun t e => by have e2 : ((some .int) : Option FieldType) = some t := e; cases e2; exact ⟨by decide, by decide⟩) (by exact Nat.le_of_ble_eq_true rfl) (by exact hz)

theorem sX10_leavers_0 {l : Launch} {G : zG} {d : Nat} {Q : Option Value → zH → Prop} {k n : Nat} {h : zH} (a : Nat) (a1 : Nat) (ha : lo10 h a) (ha1 : lo1 h a1) (hd9 : 7 ≤ d)
    (hw : (∃ P1, CTv l G YX0_lay 5 [va_rf (some (a + 81)), va_rf (some a1), .int 99] h P1 ∧ ∀ (I4 : Nat → Nat → Int32), P1 I4 → Z l G mX10_leavers d Q k n 14 [va_rf (some a), va_rf (some a1), .int 0, .int 0] [] (I4, h.2))) :
    Z l G mX10_leavers d Q k n 0 [va_rf (some a), va_rf (some a1), zU, zU] [] h := by
  refine z_aloadn dX10_leavers_0 rfl rfl ?_
  refine z_getRq (j := 4) zc10 dX10_leavers_1 (ha.k 0 rfl) (ha.lt 0 rfl) (by decide) rfl w703 (ha.r 93 rfl) ?_
  refine z_aloadn dX10_leavers_4 rfl rfl ?_
  refine z_bipush (v := 99) dX10_leavers_5 (by decide) ?_
  obtain ⟨P1, ct2, hw3⟩ := hw
  refine z_callV (h := h) (S := []) (a := (a + 81)) (M := mX10_leavers) (As := [va_rf (some a1), .int 99]) zc0 rfl eX0_lay w1066 w42 (Or.inr ⟨_, w1064⟩) dX10_leavers_7 (ha.k 81 rfl) (ha.lt 81 rfl) rfl (by omega) (Nat.le_of_ble_eq_true rfl) ct2 (fun v8 g9 q5 => ?_)
  obtain ⟨I4, rfl, rfl, q5⟩ := q5
  have hw7 := hw3 I4 q5
  show Z l G _ d Q k n 10 _ ([]) _
  refine z_iconst (v := 0) dX10_leavers_10 (by decide) ?_
  refine z_istoren (L' := [va_rf (some a), va_rf (some a1), .int 0, zU]) dX10_leavers_11 rfl (by decide) rfl ?_
  refine z_iconst (v := 0) dX10_leavers_12 (by decide) ?_
  refine z_istoren (L' := [va_rf (some a), va_rf (some a1), .int 0, .int 0]) dX10_leavers_13 rfl (by decide) rfl ?_
  exact hw7

theorem sX10_leavers_14 {l : Launch} {G : zG} {d : Nat} {Q : Option Value → zH → Prop} {k n : Nat} {h : zH} (a : Nat) (a1 : Nat) (x2 : Int32) (x3 : Int32) (ha : lo10 h a) (ha1 : lo1 h a1) (hd9 : 7 ≤ d)
    (hw : (((zI h a1 3).toInt ≤ x3.toInt → Q (some (.int x2)) h) ∧ (x3.toInt < (zI h a1 3).toInt → (∃ P5, CTi l G YX10_printsAlone 6 [va_rf (some a), va_rf (some a1), .int x3] h P5 ∧ ∀ (y10 : Int32) (I8 : Nat → Nat → Int32), P5 y10 I8 → (∃ P14, CTi l G YX0_shareOf 2 [va_rf (some (a + 81)), .int x3] (I8, h.2) P14 ∧ ∀ (y19 : Int32) (I17 : Nat → Nat → Int32), P14 y19 I17 → ((y19.toInt ≤ (y10 * 60).toInt → Z l G mX10_leavers d Q k n 14 [va_rf (some a), va_rf (some a1), .int x2, .int ((x3 + 1))] [] (I17, h.2)) ∧ ((y10 * 60).toInt < y19.toInt → Z l G mX10_leavers d Q k n 14 [va_rf (some a), va_rf (some a1), .int ((x2 ||| ((1 : Int32) <<< (x3 &&& 31)))), .int ((x3 + 1))] [] (I17, h.2)))))))) :
    Z l G mX10_leavers d Q k n 14 [va_rf (some a), va_rf (some a1), .int x2, .int x3] [] h := by
  refine z_iloadn dX10_leavers_14 rfl rfl ?_
  refine z_aloadn dX10_leavers_15 rfl rfl ?_
  refine z_getIN (j := 3) zc1 dX10_leavers_16 (ha1.k 0 rfl) (ha1.lt 0 rfl) (by decide) rfl w316 ?_
  refine z_icmp_ge (t := 54) dX10_leavers_19 (by decide) (fun c1 => ?_) (fun c2 => ?_)
  · have hw3 := hw.1 c1
    refine z_iloadn dX10_leavers_54 rfl rfl ?_
    exact z_ret (v := some (.int x2)) dX10_leavers_55 ⟨_, rfl, rfl⟩ rfl hw3
  · have hw4 := hw.2 c2
    refine z_aloadn dX10_leavers_22 rfl rfl ?_
    refine z_aloadn dX10_leavers_23 rfl rfl ?_
    refine z_iloadn dX10_leavers_24 rfl rfl ?_
    obtain ⟨P5, ct6, hw7⟩ := hw4
    refine z_callV (h := h) (S := []) (a := a) (M := mX10_leavers) (As := [va_rf (some a1), .int x3]) zc10 rfl eX10_printsAlone w1237 w66 (Or.inl w1235) dX10_leavers_25 (ha.k 0 rfl) (ha.lt 0 rfl) rfl (by omega) (Nat.le_of_ble_eq_true rfl) ct6 (fun v12 g13 q9 => ?_)
    obtain ⟨y10, I8, rfl, rfl, q9⟩ := q9
    have hw11 := hw7 y10 I8 q9
    show Z l G _ d Q k n 28 _ (.int y10 :: []) _
    refine z_bipush (v := 60) dX10_leavers_28 (by decide) ?_
    refine z_imul dX10_leavers_30 ?_
    refine z_aloadn dX10_leavers_31 rfl rfl ?_
    refine z_getRq (j := 4) zc10 dX10_leavers_32 (ha.k 0 rfl) (ha.lt 0 rfl) (by decide) rfl w703 (ha.r 93 rfl) ?_
    refine z_iloadn dX10_leavers_35 rfl rfl ?_
    obtain ⟨P14, ct15, hw16⟩ := hw11
    refine z_callV (h := (I8, h.2)) (S := [.int ((y10 * 60))]) (a := (a + 81)) (M := mX10_leavers) (As := [.int x3]) zc0 rfl eX0_shareOf w1220 w64 (Or.inr ⟨_, w1218⟩) dX10_leavers_36 (ha.k 81 rfl) (ha.lt 81 rfl) rfl (by omega) (Nat.le_of_ble_eq_true rfl) ct15 (fun v21 g22 q18 => ?_)
    obtain ⟨y19, I17, rfl, rfl, q18⟩ := q18
    have hw20 := hw16 y19 I17 q18
    show Z l G _ d Q k n 39 _ (.int y19 :: .int ((y10 * 60)) :: []) _
    refine z_icmp_ge (t := 48) dX10_leavers_39 (by decide) (fun c23 => ?_) (fun c24 => ?_)
    · have hw25 := hw20.1 c23
      refine z_iinc (v := (x3 + 1)) (L' := [va_rf (some a), va_rf (some a1), .int x2, .int ((x3 + 1))]) dX10_leavers_48 (by decide) rfl rfl rfl ?_
      refine z_goto (t := 14) dX10_leavers_51 (by decide) ?_
      exact hw25
    · have hw26 := hw20.2 c24
      refine z_iloadn dX10_leavers_42 rfl rfl ?_
      refine z_iconst (v := 1) dX10_leavers_43 (by decide) ?_
      refine z_iloadn dX10_leavers_44 rfl rfl ?_
      refine z_ishl dX10_leavers_45 ?_
      refine z_ior dX10_leavers_46 ?_
      refine z_istoren (L' := [va_rf (some a), va_rf (some a1), .int ((x2 ||| ((1 : Int32) <<< (x3 &&& 31)))), .int x3]) dX10_leavers_47 rfl (by decide) rfl ?_
      refine z_iinc (v := (x3 + 1)) (L' := [va_rf (some a), va_rf (some a1), .int ((x2 ||| ((1 : Int32) <<< (x3 &&& 31)))), .int ((x3 + 1))]) dX10_leavers_48 (by decide) rfl rfl rfl ?_
      refine z_goto (t := 14) dX10_leavers_51 (by decide) ?_
      exact hw26

theorem kX10_leavers {l : Launch} {G : zG} {d : Nat} {Q : Option Value → zH → Prop} {k n : Nat} {h : zH} (a : Nat) (a1 : Nat) (hz : Z l G mX10_leavers d Q k n 0 [va_rf (some a), va_rf (some a1), zU, zU] [] h) : CT l G YX10_leavers d k n [va_rf (some a), va_rf (some a1)] h Q :=
  CT.of (by decide +kernel) (fun t e => by have e2 : ((some .int) : Option FieldType) = some t := e; cases e2; exact ⟨by decide, by decide⟩) (by exact Nat.le_of_ble_eq_true rfl) (by exact hz)

theorem sX10_printsAlone_0 {l : Launch} {G : zG} {d : Nat} {Q : Option Value → zH → Prop} {k n : Nat} {h : zH} (a : Nat) (a1 : Nat) (x2 : Int32) (ha : lo10 h a) (ha1 : lo1 h a1) (hd9 : 6 ≤ d)
    (hw : (∃ P1, CTv l G YX1_copyFrom 4 [va_rf (some (a + 95)), va_rf (some a1)] h P1 ∧ ∀ (I4 : Nat → Nat → Int32), P1 I4 → Z l G mX10_printsAlone d Q k n 10 [va_rf (some a), va_rf (some a1), .int x2, .int 0, zU] [] (I4, h.2))) :
    Z l G mX10_printsAlone d Q k n 0 [va_rf (some a), va_rf (some a1), .int x2, zU, zU] [] h := by
  refine z_aloadn dX10_printsAlone_0 rfl rfl ?_
  refine z_getRq (j := 5) zc10 dX10_printsAlone_1 (ha.k 0 rfl) (ha.lt 0 rfl) (by decide) rfl w704 (ha.r 111 rfl) ?_
  refine z_aloadn dX10_printsAlone_4 rfl rfl ?_
  obtain ⟨P1, ct2, hw3⟩ := hw
  refine z_callV (h := h) (S := []) (a := (a + 95)) (M := mX10_printsAlone) (As := [va_rf (some a1)]) zc1 rfl eX1_copyFrom w938 w25 (Or.inr ⟨_, w1239⟩) dX10_printsAlone_5 (ha.k 95 rfl) (ha.lt 95 rfl) rfl (by omega) (Nat.le_of_ble_eq_true rfl) ct2 (fun v8 g9 q5 => ?_)
  obtain ⟨I4, rfl, rfl, q5⟩ := q5
  have hw7 := hw3 I4 q5
  show Z l G _ d Q k n 8 _ ([]) _
  refine z_iconst (v := 0) dX10_printsAlone_8 (by decide) ?_
  refine z_istoren (L' := [va_rf (some a), va_rf (some a1), .int x2, .int 0, zU]) dX10_printsAlone_9 rfl (by decide) rfl ?_
  exact hw7

theorem sX10_printsAlone_10 {l : Launch} {G : zG} {d : Nat} {Q : Option Value → zH → Prop} {k n : Nat} {h : zH} (a : Nat) (a1 : Nat) (x2 : Int32) (x3 : Int32) (u4 : Value) (ha : lo10 h a) (ha1 : lo1 h a1) (hd9 : 6 ≤ d)
    (hw : (((zI h (a + 95) 3).toInt ≤ x3.toInt → (∃ P5, CTv l G YX0_lay 5 [va_rf (some (a + 113)), va_rf (some (a + 95)), .int 99] h P5 ∧ ∀ (I8 : Nat → Nat → Int32), P5 I8 → Q (some (.int (zI (I8, h.2) (a + 113) 0))) (I8, h.2))) ∧ (x3.toInt < (zI h (a + 95) 3).toInt → ((zmem h (a + 95) x3 = none → Z l G mX10_printsAlone d Q k n 10 [va_rf (some a), va_rf (some a1), .int x2, .int ((x3 + 1)), va_rf (zmem h (a + 95) x3)] [] h) ∧ (∀ b18, zmem h (a + 95) x3 = some b18 → ((x3 = x2 → Z l G mX10_printsAlone d Q k n 10 [va_rf (some a), va_rf (some a1), .int x2, .int ((x3 + 1)), va_rf (zmem h (a + 95) x3)] [] h) ∧ (¬ x3 = x2 → (lo2 h b18 ∧ (∃ P27, CTv l G YX2_stay 1 [va_rf (some b18)] h P27 ∧ ∀ (I30 : Nat → Nat → Int32), P27 I30 → Z l G mX10_printsAlone d Q k n 10 [va_rf (some a), va_rf (some a1), .int x2, .int ((x3 + 1)), va_rf (zmem h (a + 95) x3)] [] (I30, h.2)))))))))) :
    Z l G mX10_printsAlone d Q k n 10 [va_rf (some a), va_rf (some a1), .int x2, .int x3, u4] [] h := by
  refine z_iloadn dX10_printsAlone_10 rfl rfl ?_
  refine z_aloadn dX10_printsAlone_11 rfl rfl ?_
  refine z_getRq (j := 5) zc10 dX10_printsAlone_12 (ha.k 0 rfl) (ha.lt 0 rfl) (by decide) rfl w704 (ha.r 111 rfl) ?_
  refine z_getIN (j := 3) zc1 dX10_printsAlone_15 (ha.k 95 rfl) (ha.lt 95 rfl) (by decide) rfl w316 ?_
  refine z_icmp_ge (t := 52) dX10_printsAlone_18 (by decide) (fun c1 => ?_) (fun c2 => ?_)
  · have hw3 := hw.1 c1
    refine z_aloadn dX10_printsAlone_52 rfl rfl ?_
    refine z_getRq (j := 6) zc10 dX10_printsAlone_53 (ha.k 0 rfl) (ha.lt 0 rfl) (by decide) rfl w705 (ha.r 125 rfl) ?_
    refine z_aloadn dX10_printsAlone_56 rfl rfl ?_
    refine z_getRq (j := 5) zc10 dX10_printsAlone_57 (ha.k 0 rfl) (ha.lt 0 rfl) (by decide) rfl w704 (ha.r 111 rfl) ?_
    refine z_bipush (v := 99) dX10_printsAlone_60 (by decide) ?_
    obtain ⟨P5, ct6, hw7⟩ := hw3
    refine z_callV (h := h) (S := []) (a := (a + 113)) (M := mX10_printsAlone) (As := [va_rf (some (a + 95)), .int 99]) zc0 rfl eX0_lay w1066 w42 (Or.inr ⟨_, w1064⟩) dX10_printsAlone_62 (ha.k 113 rfl) (ha.lt 113 rfl) rfl (by omega) (Nat.le_of_ble_eq_true rfl) ct6 (fun v12 g13 q9 => ?_)
    obtain ⟨I8, rfl, rfl, q9⟩ := q9
    have hw11 := hw7 I8 q9
    show Z l G _ d Q k n 65 _ ([]) _
    refine z_aloadn dX10_printsAlone_65 rfl rfl ?_
    refine z_getRq (j := 6) zc10 dX10_printsAlone_66 (ha.k 0 rfl) (ha.lt 0 rfl) (by decide) rfl w705 (ha.r 125 rfl) ?_
    refine z_getIN (j := 0) zc0 dX10_printsAlone_69 (ha.k 113 rfl) (ha.lt 113 rfl) (by decide) rfl w486 ?_
    exact z_ret (v := some (.int (zI (I8, h.2) (a + 113) 0))) dX10_printsAlone_72 ⟨_, rfl, rfl⟩ rfl hw11
  · have hw4 := hw.2 c2
    refine z_aloadn dX10_printsAlone_21 rfl rfl ?_
    refine z_getRq (j := 5) zc10 dX10_printsAlone_22 (ha.k 0 rfl) (ha.lt 0 rfl) (by decide) rfl w704 (ha.r 111 rfl) ?_
    refine z_iloadn dX10_printsAlone_25 rfl rfl ?_
    refine z_callV (h := h) (S := []) (a := (a + 95)) (M := mX10_printsAlone) (As := [.int x3]) zc1 rfl eX1_member w1011 w34 (Or.inr ⟨_, w1009⟩) dX10_printsAlone_26 (ha.k 95 rfl) (ha.lt 95 rfl) rfl (by omega) (Nat.le_of_ble_eq_true rfl) (c_X1_member l G h (a + 95) x3 (los_10_95 ha)) (fun v14 g15 q16 => ?_)
    obtain ⟨rfl, q16⟩ := q16
    replace q16 := q16.symm
    subst q16
    show Z l G _ d Q k n 29 _ (va_rf (zmem h (a + 95) x3) :: []) _
    refine z_astore (L' := [va_rf (some a), va_rf (some a1), .int x2, .int x3, va_rf (zmem h (a + 95) x3)]) dX10_printsAlone_29 (by decide) rfl ?_
    refine z_aload dX10_printsAlone_31 rfl ?_
    refine z_ifnull (t := 46) dX10_printsAlone_33 (by decide) (fun c17 => ?_) (fun b18 c17 => ?_)
    · have hw19 := hw4.1 c17
      refine z_iinc (v := (x3 + 1)) (L' := [va_rf (some a), va_rf (some a1), .int x2, .int ((x3 + 1)), va_rf (zmem h (a + 95) x3)]) dX10_printsAlone_46 (by decide) rfl rfl rfl ?_
      refine z_goto (t := 10) dX10_printsAlone_49 (by decide) ?_
      exact hw19
    · have hw20 := hw4.2 b18 c17
      refine z_iloadn dX10_printsAlone_36 rfl rfl ?_
      refine z_iloadn dX10_printsAlone_37 rfl rfl ?_
      refine z_icmp_eq (t := 46) dX10_printsAlone_38 (by decide) (fun c21 => ?_) (fun c22 => ?_)
      · have hw23 := hw20.1 c21
        refine z_iinc (v := (x3 + 1)) (L' := [va_rf (some a), va_rf (some a1), .int x2, .int ((x3 + 1)), va_rf (zmem h (a + 95) x3)]) dX10_printsAlone_46 (by decide) rfl rfl rfl ?_
        refine z_goto (t := 10) dX10_printsAlone_49 (by decide) ?_
        exact hw23
      · have hw24 := hw20.2 c22
        refine z_aload dX10_printsAlone_41 rfl ?_
        refine z_soP [] c17 ?_
        obtain ⟨ho25, hw26⟩ := hw24
        obtain ⟨P27, ct28, hw29⟩ := hw26
        refine z_callV (h := h) (S := []) (a := b18) (M := mX10_printsAlone) (As := []) zc2 rfl eX2_stay w297 w2 (Or.inr ⟨_, w1240⟩) dX10_printsAlone_43 (ho25.k 0 rfl) (ho25.lt 0 rfl) rfl (by omega) (Nat.le_of_ble_eq_true rfl) ct28 (fun v34 g35 q31 => ?_)
        obtain ⟨I30, rfl, rfl, q31⟩ := q31
        have hw33 := hw29 I30 q31
        show Z l G _ d Q k n 46 _ ([]) _
        refine z_iinc (v := (x3 + 1)) (L' := [va_rf (some a), va_rf (some a1), .int x2, .int ((x3 + 1)), va_rf (zmem h (a + 95) x3)]) dX10_printsAlone_46 (by decide) rfl rfl rfl ?_
        refine z_goto (t := 10) dX10_printsAlone_49 (by decide) ?_
        exact hw33

theorem kX10_printsAlone {l : Launch} {G : zG} {d : Nat} {Q : Option Value → zH → Prop} {k n : Nat} {h : zH} (a : Nat) (a1 : Nat) (x2 : Int32) (hz : Z l G mX10_printsAlone d Q k n 0 [va_rf (some a), va_rf (some a1), .int x2, zU, zU] [] h) : CT l G YX10_printsAlone d k n [va_rf (some a), va_rf (some a1), .int x2] h Q :=
  CT.of (by decide +kernel) (fun t e => by have e2 : ((some .int) : Option FieldType) = some t := e; cases e2; exact ⟨by decide, by decide⟩) (by exact Nat.le_of_ble_eq_true rfl) (by exact hz)

theorem sX10_pays_0 {l : Launch} {G : zG} {d : Nat} {Q : Option Value → zH → Prop} {k n : Nat} {h : zH} (a : Nat) (x1 : Int32) (x2 : Int32) (ha : lo10 h a) (hd9 : 7 ≤ d)
    (hw : ((znat h (a + 1) x1 = none → Q (some (.int ((-1)))) h) ∧ (∀ b5, znat h (a + 1) x1 = some b5 → ((¬ x2 = (-1) → ((x2.toInt < (0 : Int) → Q (some (.int ((-1)))) h) ∧ ((0 : Int) ≤ x2.toInt → ((x2.toInt < (3 : Int) → (∃ P20, CTi l G YX10_dearestPayer 6 [va_rf (some a), va_rf (some b5), .int x2] h P20 ∧ ∀ (y25 : Int32) (I23 : Nat → Nat → Int32), P20 y25 I23 → Q (some (.int y25)) (I23, h.2))) ∧ ((3 : Int) ≤ x2.toInt → Q (some (.int ((-1)))) h))))) ∧ (x2 = (-1) → (∃ P29, CTi l G YX10_dearestLaw 6 [va_rf (some a), va_rf (some b5)] h P29 ∧ ∀ (y34 : Int32) (I32 : Nat → Nat → Int32), P29 y34 I32 → Q (some (.int y34)) (I32, h.2))))))) :
    Z l G mX10_pays d Q k n 0 [va_rf (some a), .int x1, .int x2, zU] [] h := by
  refine z_aloadn dX10_pays_0 rfl rfl ?_
  refine z_getRq (j := 0) zc10 dX10_pays_1 (ha.k 0 rfl) (ha.lt 0 rfl) (by decide) rfl w699 (ha.r 51 rfl) ?_
  refine z_iloadn dX10_pays_4 rfl rfl ?_
  refine z_callV (h := h) (S := []) (a := (a + 1)) (M := mX10_pays) (As := [.int x1]) zc6 rfl eX6_nightAt w994 w31 (Or.inr ⟨_, w992⟩) dX10_pays_5 (ha.k 1 rfl) (ha.lt 1 rfl) rfl (by omega) (Nat.le_of_ble_eq_true rfl) (c_X6_nightAt l G h (a + 1) x1 (los_10_1 ha)) (fun v1 g2 q3 => ?_)
  obtain ⟨rfl, q3⟩ := q3
  replace q3 := q3.symm
  subst q3
  show Z l G _ d Q k n 8 _ (va_rf (znat h (a + 1) x1) :: []) _
  refine z_astoren (L' := [va_rf (some a), .int x1, .int x2, va_rf (znat h (a + 1) x1)]) dX10_pays_8 rfl (by decide) rfl ?_
  refine z_aloadn dX10_pays_9 rfl rfl ?_
  refine z_ifnonnull (t := 15) dX10_pays_10 (by decide) (fun b5 c4 => ?_) (fun c4 => ?_)
  · have hw7 := hw.2 b5 c4
    refine z_iloadn dX10_pays_15 rfl rfl ?_
    refine z_iconst (v := (-1)) dX10_pays_16 (by decide) ?_
    refine z_icmp_ne (t := 26) dX10_pays_17 (by decide) (fun c8 => ?_) (fun c9 => ?_)
    · have hw10 := hw7.1 c8
      refine z_iloadn dX10_pays_26 rfl rfl ?_
      refine z_if_lt (t := 35) dX10_pays_27 (by decide) (fun c12 => ?_) (fun c13 => ?_)
      · have hw14 := hw10.1 c12
        refine z_iconst (v := (-1)) dX10_pays_35 (by decide) ?_
        refine z_goto (t := 45) dX10_pays_36 (by decide) ?_
        exact z_ret (v := some (.int ((-1)))) dX10_pays_45 ⟨_, rfl, rfl⟩ rfl hw14
      · have hw15 := hw10.2 c13
        refine z_iloadn dX10_pays_30 rfl rfl ?_
        refine z_iconst (v := 3) dX10_pays_31 (by decide) ?_
        refine z_icmp_lt (t := 39) dX10_pays_32 (by decide) (fun c16 => ?_) (fun c17 => ?_)
        · have hw18 := hw15.1 c16
          refine z_aloadn dX10_pays_39 rfl rfl ?_
          refine z_aloadn dX10_pays_40 rfl rfl ?_
          refine z_iloadn dX10_pays_41 rfl rfl ?_
          refine z_soP [.int x2] c4 ?_
          obtain ⟨P20, ct21, hw22⟩ := hw18
          refine z_callV (h := h) (S := []) (a := a) (M := mX10_pays) (As := [va_rf (some b5), .int x2]) zc10 rfl eX10_dearestPayer w1251 w68 (Or.inl w1249) dX10_pays_42 (ha.k 0 rfl) (ha.lt 0 rfl) rfl (by omega) (Nat.le_of_ble_eq_true rfl) ct21 (fun v27 g28 q24 => ?_)
          obtain ⟨y25, I23, rfl, rfl, q24⟩ := q24
          have hw26 := hw22 y25 I23 q24
          show Z l G _ d Q k n 45 _ (.int y25 :: []) _
          exact z_ret (v := some (.int y25)) dX10_pays_45 ⟨_, rfl, rfl⟩ rfl hw26
        · have hw19 := hw15.2 c17
          refine z_iconst (v := (-1)) dX10_pays_35 (by decide) ?_
          refine z_goto (t := 45) dX10_pays_36 (by decide) ?_
          exact z_ret (v := some (.int ((-1)))) dX10_pays_45 ⟨_, rfl, rfl⟩ rfl hw19
    · have hw11 := hw7.2 c9
      refine z_aloadn dX10_pays_20 rfl rfl ?_
      refine z_aloadn dX10_pays_21 rfl rfl ?_
      refine z_soP [] c4 ?_
      obtain ⟨P29, ct30, hw31⟩ := hw11
      refine z_callV (h := h) (S := []) (a := a) (M := mX10_pays) (As := [va_rf (some b5)]) zc10 rfl eX10_dearestLaw w1247 w67 (Or.inl w1245) dX10_pays_22 (ha.k 0 rfl) (ha.lt 0 rfl) rfl (by omega) (Nat.le_of_ble_eq_true rfl) ct30 (fun v36 g37 q33 => ?_)
      obtain ⟨y34, I32, rfl, rfl, q33⟩ := q33
      have hw35 := hw31 y34 I32 q33
      show Z l G _ d Q k n 25 _ (.int y34 :: []) _
      exact z_ret (v := some (.int y34)) dX10_pays_25 ⟨_, rfl, rfl⟩ rfl hw35
  · have hw6 := hw.1 c4
    refine z_iconst (v := (-1)) dX10_pays_13 (by decide) ?_
    exact z_ret (v := some (.int ((-1)))) dX10_pays_14 ⟨_, rfl, rfl⟩ rfl hw6

theorem kX10_pays {l : Launch} {G : zG} {d : Nat} {Q : Option Value → zH → Prop} {k n : Nat} {h : zH} (a : Nat) (x1 : Int32) (x2 : Int32) (hz : Z l G mX10_pays d Q k n 0 [va_rf (some a), .int x1, .int x2, zU] [] h) : CT l G YX10_pays d k n [va_rf (some a), .int x1, .int x2] h Q :=
  CT.of (by decide +kernel) (fun t e => by have e2 : ((some .int) : Option FieldType) = some t := e; cases e2; exact ⟨by decide, by decide⟩) (by exact Nat.le_of_ble_eq_true rfl) (by exact hz)

theorem sX10_dearestLaw_0 {l : Launch} {G : zG} {d : Nat} {Q : Option Value → zH → Prop} {k n : Nat} {h : zH} (a : Nat) (a1 : Nat) (ha : lo10 h a) (ha1 : lo1 h a1) (hd9 : 6 ≤ d)
    (hw : (∃ P1, CTv l G YX0_lay 5 [va_rf (some (a + 81)), va_rf (some a1), .int 99] h P1 ∧ ∀ (I4 : Nat → Nat → Int32), P1 I4 → Z l G mX10_dearestLaw d Q k n 14 [va_rf (some a), va_rf (some a1), .int 0, .int 1] [] (I4, h.2))) :
    Z l G mX10_dearestLaw d Q k n 0 [va_rf (some a), va_rf (some a1), zU, zU] [] h := by
  refine z_aloadn dX10_dearestLaw_0 rfl rfl ?_
  refine z_getRq (j := 4) zc10 dX10_dearestLaw_1 (ha.k 0 rfl) (ha.lt 0 rfl) (by decide) rfl w703 (ha.r 93 rfl) ?_
  refine z_aloadn dX10_dearestLaw_4 rfl rfl ?_
  refine z_bipush (v := 99) dX10_dearestLaw_5 (by decide) ?_
  obtain ⟨P1, ct2, hw3⟩ := hw
  refine z_callV (h := h) (S := []) (a := (a + 81)) (M := mX10_dearestLaw) (As := [va_rf (some a1), .int 99]) zc0 rfl eX0_lay w1066 w42 (Or.inr ⟨_, w1064⟩) dX10_dearestLaw_7 (ha.k 81 rfl) (ha.lt 81 rfl) rfl (by omega) (Nat.le_of_ble_eq_true rfl) ct2 (fun v8 g9 q5 => ?_)
  obtain ⟨I4, rfl, rfl, q5⟩ := q5
  have hw7 := hw3 I4 q5
  show Z l G _ d Q k n 10 _ ([]) _
  refine z_iconst (v := 0) dX10_dearestLaw_10 (by decide) ?_
  refine z_istoren (L' := [va_rf (some a), va_rf (some a1), .int 0, zU]) dX10_dearestLaw_11 rfl (by decide) rfl ?_
  refine z_iconst (v := 1) dX10_dearestLaw_12 (by decide) ?_
  refine z_istoren (L' := [va_rf (some a), va_rf (some a1), .int 0, .int 1]) dX10_dearestLaw_13 rfl (by decide) rfl ?_
  exact hw7

theorem sX10_dearestLaw_14 {l : Launch} {G : zG} {d : Nat} {Q : Option Value → zH → Prop} {k n : Nat} {h : zH} (a : Nat) (a1 : Nat) (x2 : Int32) (x3 : Int32) (ha : lo10 h a) (ha1 : lo1 h a1) (hd9 : 6 ≤ d)
    (hw : (((3 : Int) ≤ x3.toInt → Q (some (.int x2)) h) ∧ (x3.toInt < (3 : Int) → (∃ P5, CTi l G YX0_taxOf 4 [va_rf (some (a + 81)), va_rf (some a1), .int x3, .int ((-1))] h P5 ∧ ∀ (y10 : Int32) (I8 : Nat → Nat → Int32), P5 y10 I8 → (∃ P14, CTi l G YX0_taxOf 4 [va_rf (some (a + 81)), va_rf (some a1), .int x2, .int ((-1))] (I8, h.2) P14 ∧ ∀ (y19 : Int32) (I17 : Nat → Nat → Int32), P14 y19 I17 → ((y10.toInt ≤ y19.toInt → Z l G mX10_dearestLaw d Q k n 14 [va_rf (some a), va_rf (some a1), .int x2, .int ((x3 + 1))] [] (I17, h.2)) ∧ (y19.toInt < y10.toInt → Z l G mX10_dearestLaw d Q k n 14 [va_rf (some a), va_rf (some a1), .int x3, .int ((x3 + 1))] [] (I17, h.2)))))))) :
    Z l G mX10_dearestLaw d Q k n 14 [va_rf (some a), va_rf (some a1), .int x2, .int x3] [] h := by
  refine z_iloadn dX10_dearestLaw_14 rfl rfl ?_
  refine z_iconst (v := 3) dX10_dearestLaw_15 (by decide) ?_
  refine z_icmp_ge (t := 50) dX10_dearestLaw_16 (by decide) (fun c1 => ?_) (fun c2 => ?_)
  · have hw3 := hw.1 c1
    refine z_iloadn dX10_dearestLaw_50 rfl rfl ?_
    exact z_ret (v := some (.int x2)) dX10_dearestLaw_51 ⟨_, rfl, rfl⟩ rfl hw3
  · have hw4 := hw.2 c2
    refine z_aloadn dX10_dearestLaw_19 rfl rfl ?_
    refine z_getRq (j := 4) zc10 dX10_dearestLaw_20 (ha.k 0 rfl) (ha.lt 0 rfl) (by decide) rfl w703 (ha.r 93 rfl) ?_
    refine z_aloadn dX10_dearestLaw_23 rfl rfl ?_
    refine z_iloadn dX10_dearestLaw_24 rfl rfl ?_
    refine z_iconst (v := (-1)) dX10_dearestLaw_25 (by decide) ?_
    obtain ⟨P5, ct6, hw7⟩ := hw4
    refine z_callV (h := h) (S := []) (a := (a + 81)) (M := mX10_dearestLaw) (As := [va_rf (some a1), .int x3, .int ((-1))]) zc0 rfl eX0_taxOf w1207 w62 (Or.inr ⟨_, w1205⟩) dX10_dearestLaw_26 (ha.k 81 rfl) (ha.lt 81 rfl) rfl (by omega) (Nat.le_of_ble_eq_true rfl) ct6 (fun v12 g13 q9 => ?_)
    obtain ⟨y10, I8, rfl, rfl, q9⟩ := q9
    have hw11 := hw7 y10 I8 q9
    show Z l G _ d Q k n 29 _ (.int y10 :: []) _
    refine z_aloadn dX10_dearestLaw_29 rfl rfl ?_
    refine z_getRq (j := 4) zc10 dX10_dearestLaw_30 (ha.k 0 rfl) (ha.lt 0 rfl) (by decide) rfl w703 (ha.r 93 rfl) ?_
    refine z_aloadn dX10_dearestLaw_33 rfl rfl ?_
    refine z_iloadn dX10_dearestLaw_34 rfl rfl ?_
    refine z_iconst (v := (-1)) dX10_dearestLaw_35 (by decide) ?_
    obtain ⟨P14, ct15, hw16⟩ := hw11
    refine z_callV (h := (I8, h.2)) (S := [.int y10]) (a := (a + 81)) (M := mX10_dearestLaw) (As := [va_rf (some a1), .int x2, .int ((-1))]) zc0 rfl eX0_taxOf w1207 w62 (Or.inr ⟨_, w1205⟩) dX10_dearestLaw_36 (ha.k 81 rfl) (ha.lt 81 rfl) rfl (by omega) (Nat.le_of_ble_eq_true rfl) ct15 (fun v21 g22 q18 => ?_)
    obtain ⟨y19, I17, rfl, rfl, q18⟩ := q18
    have hw20 := hw16 y19 I17 q18
    show Z l G _ d Q k n 39 _ (.int y19 :: .int y10 :: []) _
    refine z_icmp_le (t := 44) dX10_dearestLaw_39 (by decide) (fun c23 => ?_) (fun c24 => ?_)
    · have hw25 := hw20.1 c23
      refine z_iinc (v := (x3 + 1)) (L' := [va_rf (some a), va_rf (some a1), .int x2, .int ((x3 + 1))]) dX10_dearestLaw_44 (by decide) rfl rfl rfl ?_
      refine z_goto (t := 14) dX10_dearestLaw_47 (by decide) ?_
      exact hw25
    · have hw26 := hw20.2 c24
      refine z_iloadn dX10_dearestLaw_42 rfl rfl ?_
      refine z_istoren (L' := [va_rf (some a), va_rf (some a1), .int x3, .int x3]) dX10_dearestLaw_43 rfl (by decide) rfl ?_
      refine z_iinc (v := (x3 + 1)) (L' := [va_rf (some a), va_rf (some a1), .int x3, .int ((x3 + 1))]) dX10_dearestLaw_44 (by decide) rfl rfl rfl ?_
      refine z_goto (t := 14) dX10_dearestLaw_47 (by decide) ?_
      exact hw26

theorem kX10_dearestLaw {l : Launch} {G : zG} {d : Nat} {Q : Option Value → zH → Prop} {k n : Nat} {h : zH} (a : Nat) (a1 : Nat) (hz : Z l G mX10_dearestLaw d Q k n 0 [va_rf (some a), va_rf (some a1), zU, zU] [] h) : CT l G YX10_dearestLaw d k n [va_rf (some a), va_rf (some a1)] h Q :=
  CT.of (by decide +kernel) (fun t e => by have e2 : ((some .int) : Option FieldType) = some t := e; cases e2; exact ⟨by decide, by decide⟩) (by exact Nat.le_of_ble_eq_true rfl) (by exact hz)

theorem sX10_dearestPayer_0 {l : Launch} {G : zG} {d : Nat} {Q : Option Value → zH → Prop} {k n : Nat} {h : zH} (a : Nat) (a1 : Nat) (x2 : Int32) (ha : lo10 h a) (ha1 : lo1 h a1) (hd9 : 6 ≤ d)
    (hw : (∃ P1, CTv l G YX0_lay 5 [va_rf (some (a + 81)), va_rf (some a1), .int 99] h P1 ∧ ∀ (I4 : Nat → Nat → Int32), P1 I4 → Z l G mX10_dearestPayer d Q k n 18 [va_rf (some a), va_rf (some a1), .int x2, .int ((-1)), .int ((-1)), .int 0, zU] [] (I4, h.2))) :
    Z l G mX10_dearestPayer d Q k n 0 [va_rf (some a), va_rf (some a1), .int x2, zU, zU, zU, zU] [] h := by
  refine z_aloadn dX10_dearestPayer_0 rfl rfl ?_
  refine z_getRq (j := 4) zc10 dX10_dearestPayer_1 (ha.k 0 rfl) (ha.lt 0 rfl) (by decide) rfl w703 (ha.r 93 rfl) ?_
  refine z_aloadn dX10_dearestPayer_4 rfl rfl ?_
  refine z_bipush (v := 99) dX10_dearestPayer_5 (by decide) ?_
  obtain ⟨P1, ct2, hw3⟩ := hw
  refine z_callV (h := h) (S := []) (a := (a + 81)) (M := mX10_dearestPayer) (As := [va_rf (some a1), .int 99]) zc0 rfl eX0_lay w1066 w42 (Or.inr ⟨_, w1064⟩) dX10_dearestPayer_7 (ha.k 81 rfl) (ha.lt 81 rfl) rfl (by omega) (Nat.le_of_ble_eq_true rfl) ct2 (fun v8 g9 q5 => ?_)
  obtain ⟨I4, rfl, rfl, q5⟩ := q5
  have hw7 := hw3 I4 q5
  show Z l G _ d Q k n 10 _ ([]) _
  refine z_iconst (v := (-1)) dX10_dearestPayer_10 (by decide) ?_
  refine z_istoren (L' := [va_rf (some a), va_rf (some a1), .int x2, .int ((-1)), zU, zU, zU]) dX10_dearestPayer_11 rfl (by decide) rfl ?_
  refine z_iconst (v := (-1)) dX10_dearestPayer_12 (by decide) ?_
  refine z_istore (L' := [va_rf (some a), va_rf (some a1), .int x2, .int ((-1)), .int ((-1)), zU, zU]) dX10_dearestPayer_13 (by decide) rfl ?_
  refine z_iconst (v := 0) dX10_dearestPayer_15 (by decide) ?_
  refine z_istore (L' := [va_rf (some a), va_rf (some a1), .int x2, .int ((-1)), .int ((-1)), .int 0, zU]) dX10_dearestPayer_16 (by decide) rfl ?_
  exact hw7

theorem sX10_dearestPayer_18 {l : Launch} {G : zG} {d : Nat} {Q : Option Value → zH → Prop} {k n : Nat} {h : zH} (a : Nat) (a1 : Nat) (x2 : Int32) (x3 : Int32) (x4 : Int32) (x5 : Int32) (u6 : Value) (ha : lo10 h a) (ha1 : lo1 h a1) (hd9 : 6 ≤ d)
    (hw : (((zI h a1 3).toInt ≤ x5.toInt → Q (some (.int x4)) h) ∧ (x5.toInt < (zI h a1 3).toInt → (∃ P5, CTi l G YX0_taxOf 4 [va_rf (some (a + 81)), va_rf (some a1), .int x2, .int x5] h P5 ∧ ∀ (y10 : Int32) (I8 : Nat → Nat → Int32), P5 y10 I8 → ((y10.toInt ≤ x3.toInt → Z l G mX10_dearestPayer d Q k n 18 [va_rf (some a), va_rf (some a1), .int x2, .int x3, .int x4, .int ((x5 + 1)), .int y10] [] (I8, h.2)) ∧ (x3.toInt < y10.toInt → Z l G mX10_dearestPayer d Q k n 18 [va_rf (some a), va_rf (some a1), .int x2, .int y10, .int x5, .int ((x5 + 1)), .int y10] [] (I8, h.2))))))) :
    Z l G mX10_dearestPayer d Q k n 18 [va_rf (some a), va_rf (some a1), .int x2, .int x3, .int x4, .int x5, u6] [] h := by
  refine z_iload dX10_dearestPayer_18 rfl ?_
  refine z_aloadn dX10_dearestPayer_20 rfl rfl ?_
  refine z_getIN (j := 3) zc1 dX10_dearestPayer_21 (ha1.k 0 rfl) (ha1.lt 0 rfl) (by decide) rfl w316 ?_
  refine z_icmp_ge (t := 59) dX10_dearestPayer_24 (by decide) (fun c1 => ?_) (fun c2 => ?_)
  · have hw3 := hw.1 c1
    refine z_iload dX10_dearestPayer_59 rfl ?_
    exact z_ret (v := some (.int x4)) dX10_dearestPayer_61 ⟨_, rfl, rfl⟩ rfl hw3
  · have hw4 := hw.2 c2
    refine z_aloadn dX10_dearestPayer_27 rfl rfl ?_
    refine z_getRq (j := 4) zc10 dX10_dearestPayer_28 (ha.k 0 rfl) (ha.lt 0 rfl) (by decide) rfl w703 (ha.r 93 rfl) ?_
    refine z_aloadn dX10_dearestPayer_31 rfl rfl ?_
    refine z_iloadn dX10_dearestPayer_32 rfl rfl ?_
    refine z_iload dX10_dearestPayer_33 rfl ?_
    obtain ⟨P5, ct6, hw7⟩ := hw4
    refine z_callV (h := h) (S := []) (a := (a + 81)) (M := mX10_dearestPayer) (As := [va_rf (some a1), .int x2, .int x5]) zc0 rfl eX0_taxOf w1207 w62 (Or.inr ⟨_, w1205⟩) dX10_dearestPayer_35 (ha.k 81 rfl) (ha.lt 81 rfl) rfl (by omega) (Nat.le_of_ble_eq_true rfl) ct6 (fun v12 g13 q9 => ?_)
    obtain ⟨y10, I8, rfl, rfl, q9⟩ := q9
    have hw11 := hw7 y10 I8 q9
    show Z l G _ d Q k n 38 _ (.int y10 :: []) _
    refine z_istore (L' := [va_rf (some a), va_rf (some a1), .int x2, .int x3, .int x4, .int x5, .int y10]) dX10_dearestPayer_38 (by decide) rfl ?_
    refine z_iload dX10_dearestPayer_40 rfl ?_
    refine z_iloadn dX10_dearestPayer_42 rfl rfl ?_
    refine z_icmp_le (t := 53) dX10_dearestPayer_43 (by decide) (fun c14 => ?_) (fun c15 => ?_)
    · have hw16 := hw11.1 c14
      refine z_iinc (v := (x5 + 1)) (L' := [va_rf (some a), va_rf (some a1), .int x2, .int x3, .int x4, .int ((x5 + 1)), .int y10]) dX10_dearestPayer_53 (by decide) rfl rfl rfl ?_
      refine z_goto (t := 18) dX10_dearestPayer_56 (by decide) ?_
      exact hw16
    · have hw17 := hw11.2 c15
      refine z_iload dX10_dearestPayer_46 rfl ?_
      refine z_istoren (L' := [va_rf (some a), va_rf (some a1), .int x2, .int y10, .int x4, .int x5, .int y10]) dX10_dearestPayer_48 rfl (by decide) rfl ?_
      refine z_iload dX10_dearestPayer_49 rfl ?_
      refine z_istore (L' := [va_rf (some a), va_rf (some a1), .int x2, .int y10, .int x5, .int x5, .int y10]) dX10_dearestPayer_51 (by decide) rfl ?_
      refine z_iinc (v := (x5 + 1)) (L' := [va_rf (some a), va_rf (some a1), .int x2, .int y10, .int x5, .int ((x5 + 1)), .int y10]) dX10_dearestPayer_53 (by decide) rfl rfl rfl ?_
      refine z_goto (t := 18) dX10_dearestPayer_56 (by decide) ?_
      exact hw17

theorem kX10_dearestPayer {l : Launch} {G : zG} {d : Nat} {Q : Option Value → zH → Prop} {k n : Nat} {h : zH} (a : Nat) (a1 : Nat) (x2 : Int32) (hz : Z l G mX10_dearestPayer d Q k n 0 [va_rf (some a), va_rf (some a1), .int x2, zU, zU, zU, zU] [] h) : CT l G YX10_dearestPayer d k n [va_rf (some a), va_rf (some a1), .int x2] h Q :=
  CT.of (by decide +kernel) (fun t e => by have e2 : ((some .int) : Option FieldType) = some t := e; cases e2; exact ⟨by decide, by decide⟩) (by exact Nat.le_of_ble_eq_true rfl) (by exact hz)

theorem sX10_drawn_0 {l : Launch} {G : zG} {d : Nat} {Q : Option Value → zH → Prop} {k n : Nat} {h : zH} (a : Nat) (x1 : Int32) (x2 : Int32) (x3 : Int32) (x4 : Int32) (ha : lo10 h a) (hd9 : 6 ≤ d)
    (hw : ((znat h (a + 1) x1 = none → Q (some (.int ((-1)))) h) ∧ (∀ b5, znat h (a + 1) x1 = some b5 → ((x3.toInt < (0 : Int) → Q (some (.int ((-1)))) h) ∧ ((0 : Int) ≤ x3.toInt → ((x3.toInt ≤ (100 : Int) → (∃ P16, CTv l G YX1_copyFrom 4 [va_rf (some (a + 95)), va_rf (some b5)] h P16 ∧ ∀ (I19 : Nat → Nat → Int32), P16 I19 → (∃ P25, CTi l G YX1_drawRains 1 [va_rf (some (a + 95)), .int x2, .int x3] (I19, h.2) P25 ∧ ∀ (y30 : Int32) (I28 : Nat → Nat → Int32), P25 y30 I28 → (∃ P34, CTv l G YX0_lay 5 [va_rf (some (a + 113)), va_rf (some (a + 95)), .int 99] (I28, h.2) P34 ∧ ∀ (I37 : Nat → Nat → Int32), P34 I37 → ((x4.toInt < 0 ∨ 2 < x4.toInt → (lo1 (I37, h.2) b5 ∧ ((zmem (I37, h.2) b5 (x4 - 10) = none → Q (some (.int ((-1)))) (I37, h.2)) ∧ (∀ b51, zmem (I37, h.2) b5 (x4 - 10) = some b51 → (∃ P54, CTi l G YX0_madeBy 2 [va_rf (some (a + 113)), .int ((x4 - 10))] (I37, h.2) P54 ∧ ∀ (y59 : Int32) (I57 : Nat → Nat → Int32), P54 y59 I57 → Q (some (.int y59)) (I57, h.2)))))) ∧ (x4.toInt = 0 → Q (some (.int (zI (I37, h.2) (a + 113) 0))) (I37, h.2)) ∧ (x4.toInt = 1 → (∃ P65, CTi l G YX0_taxOf 4 [va_rf (some (a + 113)), va_rf (some (a + 95)), .int 2, .int ((-1))] (I37, h.2) P65 ∧ ∀ (y70 : Int32) (I68 : Nat → Nat → Int32), P65 y70 I68 → Q (some (.int y70)) (I68, h.2))) ∧ (x4.toInt = 2 → Q (some (.int y30)) (I37, h.2))))))) ∧ ((100 : Int) < x3.toInt → Q (some (.int ((-1)))) h))))))) :
    Z l G mX10_drawn d Q k n 0 [va_rf (some a), .int x1, .int x2, .int x3, .int x4, zU, zU] [] h := by
  refine z_aloadn dX10_drawn_0 rfl rfl ?_
  refine z_getRq (j := 0) zc10 dX10_drawn_1 (ha.k 0 rfl) (ha.lt 0 rfl) (by decide) rfl w699 (ha.r 51 rfl) ?_
  refine z_iloadn dX10_drawn_4 rfl rfl ?_
  refine z_callV (h := h) (S := []) (a := (a + 1)) (M := mX10_drawn) (As := [.int x1]) zc6 rfl eX6_nightAt w994 w31 (Or.inr ⟨_, w992⟩) dX10_drawn_5 (ha.k 1 rfl) (ha.lt 1 rfl) rfl (by omega) (Nat.le_of_ble_eq_true rfl) (c_X6_nightAt l G h (a + 1) x1 (los_10_1 ha)) (fun v1 g2 q3 => ?_)
  obtain ⟨rfl, q3⟩ := q3
  replace q3 := q3.symm
  subst q3
  show Z l G _ d Q k n 8 _ (va_rf (znat h (a + 1) x1) :: []) _
  refine z_astore (L' := [va_rf (some a), .int x1, .int x2, .int x3, .int x4, va_rf (znat h (a + 1) x1), zU]) dX10_drawn_8 (by decide) rfl ?_
  refine z_aload dX10_drawn_10 rfl ?_
  refine z_ifnull (t := 25) dX10_drawn_12 (by decide) (fun c4 => ?_) (fun b5 c4 => ?_)
  · have hw6 := hw.1 c4
    refine z_iconst (v := (-1)) dX10_drawn_25 (by decide) ?_
    exact z_ret (v := some (.int ((-1)))) dX10_drawn_26 ⟨_, rfl, rfl⟩ rfl hw6
  · have hw7 := hw.2 b5 c4
    refine z_iloadn dX10_drawn_15 rfl rfl ?_
    refine z_if_lt (t := 25) dX10_drawn_16 (by decide) (fun c8 => ?_) (fun c9 => ?_)
    · have hw10 := hw7.1 c8
      refine z_iconst (v := (-1)) dX10_drawn_25 (by decide) ?_
      exact z_ret (v := some (.int ((-1)))) dX10_drawn_26 ⟨_, rfl, rfl⟩ rfl hw10
    · have hw11 := hw7.2 c9
      refine z_iloadn dX10_drawn_19 rfl rfl ?_
      refine z_bipush (v := 100) dX10_drawn_20 (by decide) ?_
      refine z_icmp_le (t := 27) dX10_drawn_22 (by decide) (fun c12 => ?_) (fun c13 => ?_)
      · have hw14 := hw11.1 c12
        refine z_aloadn dX10_drawn_27 rfl rfl ?_
        refine z_getRq (j := 5) zc10 dX10_drawn_28 (ha.k 0 rfl) (ha.lt 0 rfl) (by decide) rfl w704 (ha.r 111 rfl) ?_
        refine z_aload dX10_drawn_31 rfl ?_
        refine z_soP [] c4 ?_
        obtain ⟨P16, ct17, hw18⟩ := hw14
        refine z_callV (h := h) (S := []) (a := (a + 95)) (M := mX10_drawn) (As := [va_rf (some b5)]) zc1 rfl eX1_copyFrom w938 w25 (Or.inr ⟨_, w1239⟩) dX10_drawn_33 (ha.k 95 rfl) (ha.lt 95 rfl) rfl (by omega) (Nat.le_of_ble_eq_true rfl) ct17 (fun v23 g24 q20 => ?_)
        obtain ⟨I19, rfl, rfl, q20⟩ := q20
        have hw22 := hw18 I19 q20
        show Z l G _ d Q k n 36 _ ([]) _
        refine z_aloadn dX10_drawn_36 rfl rfl ?_
        refine z_getRq (j := 5) zc10 dX10_drawn_37 (ha.k 0 rfl) (ha.lt 0 rfl) (by decide) rfl w704 (ha.r 111 rfl) ?_
        refine z_iloadn dX10_drawn_40 rfl rfl ?_
        refine z_iloadn dX10_drawn_41 rfl rfl ?_
        obtain ⟨P25, ct26, hw27⟩ := hw22
        refine z_callV (h := (I19, h.2)) (S := []) (a := (a + 95)) (M := mX10_drawn) (As := [.int x2, .int x3]) zc1 rfl eX1_drawRains w1259 w69 (Or.inr ⟨_, w1257⟩) dX10_drawn_42 (ha.k 95 rfl) (ha.lt 95 rfl) rfl (by omega) (Nat.le_of_ble_eq_true rfl) ct26 (fun v32 g33 q29 => ?_)
        obtain ⟨y30, I28, rfl, rfl, q29⟩ := q29
        have hw31 := hw27 y30 I28 q29
        show Z l G _ d Q k n 45 _ (.int y30 :: []) _
        refine z_istore (L' := [va_rf (some a), .int x1, .int x2, .int x3, .int x4, va_rf (znat h (a + 1) x1), .int y30]) dX10_drawn_45 (by decide) ((zs1_rf (j := 5) rfl).trans rfl) ?_
        refine z_aloadn dX10_drawn_47 rfl rfl ?_
        refine z_getRq (j := 6) zc10 dX10_drawn_48 (ha.k 0 rfl) (ha.lt 0 rfl) (by decide) rfl w705 (ha.r 125 rfl) ?_
        refine z_aloadn dX10_drawn_51 rfl rfl ?_
        refine z_getRq (j := 5) zc10 dX10_drawn_52 (ha.k 0 rfl) (ha.lt 0 rfl) (by decide) rfl w704 (ha.r 111 rfl) ?_
        refine z_bipush (v := 99) dX10_drawn_55 (by decide) ?_
        obtain ⟨P34, ct35, hw36⟩ := hw31
        refine z_callV (h := (I28, h.2)) (S := []) (a := (a + 113)) (M := mX10_drawn) (As := [va_rf (some (a + 95)), .int 99]) zc0 rfl eX0_lay w1066 w42 (Or.inr ⟨_, w1064⟩) dX10_drawn_57 (ha.k 113 rfl) (ha.lt 113 rfl) rfl (by omega) (Nat.le_of_ble_eq_true rfl) ct35 (fun v41 g42 q38 => ?_)
        obtain ⟨I37, rfl, rfl, q38⟩ := q38
        have hw40 := hw36 I37 q38
        show Z l G _ d Q k n 60 _ ([]) _
        refine z_iload dX10_drawn_60 rfl ?_
        refine z_tswc (td := 113) (ts := [88, 96, 110]) dX10_drawn_62 (by decide) (by decide) (by decide) (fun c43 => ?_) ⟨fun c43k0 => ?_, fun c43k1 => ?_, fun c43k2 => ?_, trivial⟩
        · have hw44 := hw40.1 c43
          refine z_aload dX10_drawn_113 rfl ?_
          refine z_iload dX10_drawn_115 rfl ?_
          refine z_bipush (v := 10) dX10_drawn_117 (by decide) ?_
          refine z_isub dX10_drawn_119 ?_
          refine z_soP [.int ((x4 - 10))] c4 ?_
          obtain ⟨ho45, hw46⟩ := hw44
          refine z_callV (h := (I37, h.2)) (S := []) (a := b5) (M := mX10_drawn) (As := [.int ((x4 - 10))]) zc1 rfl eX1_member w1011 w34 (Or.inr ⟨_, w1009⟩) dX10_drawn_120 (ho45.k 0 rfl) (ho45.lt 0 rfl) rfl (by omega) (Nat.le_of_ble_eq_true rfl) (c_X1_member l G (I37, h.2) b5 (x4 - 10) ho45) (fun v47 g48 q49 => ?_)
          obtain ⟨rfl, q49⟩ := q49
          replace q49 := q49.symm
          subst q49
          show Z l G _ d Q k n 123 _ (va_rf (zmem (I37, h.2) b5 (x4 - 10)) :: []) _
          refine z_ifnonnull (t := 130) dX10_drawn_123 (by decide) (fun b51 c50 => ?_) (fun c50 => ?_)
          · have hw53 := hw46.2 b51 c50
            refine z_aloadn dX10_drawn_130 rfl rfl ?_
            refine z_getRq (j := 6) zc10 dX10_drawn_131 (ha.k 0 rfl) (ha.lt 0 rfl) (by decide) rfl w705 (ha.r 125 rfl) ?_
            refine z_iload dX10_drawn_134 rfl ?_
            refine z_bipush (v := 10) dX10_drawn_136 (by decide) ?_
            refine z_isub dX10_drawn_138 ?_
            obtain ⟨P54, ct55, hw56⟩ := hw53
            refine z_callV (h := (I37, h.2)) (S := []) (a := (a + 113)) (M := mX10_drawn) (As := [.int ((x4 - 10))]) zc0 rfl eX0_madeBy w1167 w58 (Or.inr ⟨_, w1165⟩) dX10_drawn_139 (ha.k 113 rfl) (ha.lt 113 rfl) rfl (by omega) (Nat.le_of_ble_eq_true rfl) ct55 (fun v61 g62 q58 => ?_)
            obtain ⟨y59, I57, rfl, rfl, q58⟩ := q58
            have hw60 := hw56 y59 I57 q58
            show Z l G _ d Q k n 142 _ (.int y59 :: []) _
            exact z_ret (v := some (.int y59)) dX10_drawn_142 ⟨_, rfl, rfl⟩ rfl hw60
          · have hw52 := hw46.1 c50
            refine z_iconst (v := (-1)) dX10_drawn_126 (by decide) ?_
            refine z_goto (t := 142) dX10_drawn_127 (by decide) ?_
            exact z_ret (v := some (.int ((-1)))) dX10_drawn_142 ⟨_, rfl, rfl⟩ rfl hw52
        · have hw63 := hw40.2.1 c43k0
          refine z_aloadn dX10_drawn_88 rfl rfl ?_
          refine z_getRq (j := 6) zc10 dX10_drawn_89 (ha.k 0 rfl) (ha.lt 0 rfl) (by decide) rfl w705 (ha.r 125 rfl) ?_
          refine z_getIN (j := 0) zc0 dX10_drawn_92 (ha.k 113 rfl) (ha.lt 113 rfl) (by decide) rfl w486 ?_
          exact z_ret (v := some (.int (zI (I37, h.2) (a + 113) 0))) dX10_drawn_95 ⟨_, rfl, rfl⟩ rfl hw63
        · have hw64 := hw40.2.2.1 c43k1
          refine z_aloadn dX10_drawn_96 rfl rfl ?_
          refine z_getRq (j := 6) zc10 dX10_drawn_97 (ha.k 0 rfl) (ha.lt 0 rfl) (by decide) rfl w705 (ha.r 125 rfl) ?_
          refine z_aloadn dX10_drawn_100 rfl rfl ?_
          refine z_getRq (j := 5) zc10 dX10_drawn_101 (ha.k 0 rfl) (ha.lt 0 rfl) (by decide) rfl w704 (ha.r 111 rfl) ?_
          refine z_iconst (v := 2) dX10_drawn_104 (by decide) ?_
          refine z_iconst (v := (-1)) dX10_drawn_105 (by decide) ?_
          obtain ⟨P65, ct66, hw67⟩ := hw64
          refine z_callV (h := (I37, h.2)) (S := []) (a := (a + 113)) (M := mX10_drawn) (As := [va_rf (some (a + 95)), .int 2, .int ((-1))]) zc0 rfl eX0_taxOf w1207 w62 (Or.inr ⟨_, w1205⟩) dX10_drawn_106 (ha.k 113 rfl) (ha.lt 113 rfl) rfl (by omega) (Nat.le_of_ble_eq_true rfl) ct66 (fun v72 g73 q69 => ?_)
          obtain ⟨y70, I68, rfl, rfl, q69⟩ := q69
          have hw71 := hw67 y70 I68 q69
          show Z l G _ d Q k n 109 _ (.int y70 :: []) _
          exact z_ret (v := some (.int y70)) dX10_drawn_109 ⟨_, rfl, rfl⟩ rfl hw71
        · have hw74 := hw40.2.2.2 c43k2
          refine z_iload dX10_drawn_110 rfl ?_
          exact z_ret (v := some (.int y30)) dX10_drawn_112 ⟨_, rfl, rfl⟩ rfl hw74
      · have hw15 := hw11.2 c13
        refine z_iconst (v := (-1)) dX10_drawn_25 (by decide) ?_
        exact z_ret (v := some (.int ((-1)))) dX10_drawn_26 ⟨_, rfl, rfl⟩ rfl hw15

theorem kX10_drawn {l : Launch} {G : zG} {d : Nat} {Q : Option Value → zH → Prop} {k n : Nat} {h : zH} (a : Nat) (x1 : Int32) (x2 : Int32) (x3 : Int32) (x4 : Int32) (hz : Z l G mX10_drawn d Q k n 0 [va_rf (some a), .int x1, .int x2, .int x3, .int x4, zU, zU] [] h) : CT l G YX10_drawn d k n [va_rf (some a), .int x1, .int x2, .int x3, .int x4] h Q :=
  CT.of (by decide +kernel) (fun t e => by have e2 : ((some .int) : Option FieldType) = some t := e; cases e2; exact ⟨by decide, by decide⟩) (by exact Nat.le_of_ble_eq_true rfl) (by exact hz)

theorem sX10_carried_0 {l : Launch} {G : zG} {d : Nat} {Q : Option Value → zH → Prop} {k n : Nat} {h : zH} (a : Nat) (x1 : Int32) (x2 : Int32) (x3 : Int32) (x4 : Bool) (ha : lo10 h a) (hd9 : 6 ≤ d)
    (hw : ((znat h (a + 1) x1 = none → Q (some (.int ((-1)))) h) ∧ (∀ b5, znat h (a + 1) x1 = some b5 → (lo1 h b5 ∧ ((zmem h b5 x2 = none → Q (some (.int ((-1)))) h) ∧ (∀ b14, zmem h b5 x2 = some b14 → ((zmem h b5 x3 = none → Q (some (.int ((-1)))) h) ∧ (∀ b21, zmem h b5 x3 = some b21 → ((¬ x2 = x3 → (∃ P28, CTv l G YX1_copyFrom 4 [va_rf (some (a + 95)), va_rf (some b5)] h P28 ∧ ∀ (I31 : Nat → Nat → Int32), P28 I31 → ((zmem (I31, h.2) (a + 95) x2 = none → (∃ P44, CTv l G YX0_lay 5 [va_rf (some (a + 113)), va_rf (some (a + 95)), .int 99] (I31, h.2) P44 ∧ ∀ (I47 : Nat → Nat → Int32), P44 I47 → ((x4 = false → (∃ P57, CTi l G YX0_madeBy 2 [va_rf (some (a + 113)), .int x2] (I47, h.2) P57 ∧ ∀ (y62 : Int32) (I60 : Nat → Nat → Int32), P57 y62 I60 → Q (some (.int y62)) (I60, h.2))) ∧ (x4 = true → (∃ P66, CTi l G YX0_madeBy 2 [va_rf (some (a + 113)), .int x3] (I47, h.2) P66 ∧ ∀ (y71 : Int32) (I69 : Nat → Nat → Int32), P66 y71 I69 → Q (some (.int y71)) (I69, h.2)))))) ∧ (∀ b41, zmem (I31, h.2) (a + 95) x2 = some b41 → (lo2 (I31, h.2) b41 ∧ (∀ I77 : Nat → Nat → Int32, I77 = (zwI (I31, h.2) b41 5 x3).1 → (∃ P80, CTv l G YX0_lay 5 [va_rf (some (a + 113)), va_rf (some (a + 95)), .int 99] (I77, h.2) P80 ∧ ∀ (I83 : Nat → Nat → Int32), P80 I83 → ((x4 = false → (∃ P93, CTi l G YX0_madeBy 2 [va_rf (some (a + 113)), .int x2] (I83, h.2) P93 ∧ ∀ (y98 : Int32) (I96 : Nat → Nat → Int32), P93 y98 I96 → Q (some (.int y98)) (I96, h.2))) ∧ (x4 = true → (∃ P102, CTi l G YX0_madeBy 2 [va_rf (some (a + 113)), .int x3] (I83, h.2) P102 ∧ ∀ (y107 : Int32) (I105 : Nat → Nat → Int32), P102 y107 I105 → Q (some (.int y107)) (I105, h.2))))))))))) ∧ (x2 = x3 → Q (some (.int ((-1)))) h)))))))))) :
    Z l G mX10_carried d Q k n 0 [va_rf (some a), .int x1, .int x2, .int x3, .int (zb x4), zU, zU] [] h := by
  refine z_aloadn dX10_carried_0 rfl rfl ?_
  refine z_getRq (j := 0) zc10 dX10_carried_1 (ha.k 0 rfl) (ha.lt 0 rfl) (by decide) rfl w699 (ha.r 51 rfl) ?_
  refine z_iloadn dX10_carried_4 rfl rfl ?_
  refine z_callV (h := h) (S := []) (a := (a + 1)) (M := mX10_carried) (As := [.int x1]) zc6 rfl eX6_nightAt w994 w31 (Or.inr ⟨_, w992⟩) dX10_carried_5 (ha.k 1 rfl) (ha.lt 1 rfl) rfl (by omega) (Nat.le_of_ble_eq_true rfl) (c_X6_nightAt l G h (a + 1) x1 (los_10_1 ha)) (fun v1 g2 q3 => ?_)
  obtain ⟨rfl, q3⟩ := q3
  replace q3 := q3.symm
  subst q3
  show Z l G _ d Q k n 8 _ (va_rf (znat h (a + 1) x1) :: []) _
  refine z_astore (L' := [va_rf (some a), .int x1, .int x2, .int x3, .int (zb x4), va_rf (znat h (a + 1) x1), zU]) dX10_carried_8 (by decide) rfl ?_
  refine z_aload dX10_carried_10 rfl ?_
  refine z_ifnull (t := 38) dX10_carried_12 (by decide) (fun c4 => ?_) (fun b5 c4 => ?_)
  · have hw6 := hw.1 c4
    refine z_iconst (v := (-1)) dX10_carried_38 (by decide) ?_
    exact z_ret (v := some (.int ((-1)))) dX10_carried_39 ⟨_, rfl, rfl⟩ rfl hw6
  · have hw7 := hw.2 b5 c4
    refine z_aload dX10_carried_15 rfl ?_
    refine z_iloadn dX10_carried_17 rfl rfl ?_
    refine z_soP [.int x2] c4 ?_
    obtain ⟨ho8, hw9⟩ := hw7
    refine z_callV (h := h) (S := []) (a := b5) (M := mX10_carried) (As := [.int x2]) zc1 rfl eX1_member w1011 w34 (Or.inr ⟨_, w1009⟩) dX10_carried_18 (ho8.k 0 rfl) (ho8.lt 0 rfl) rfl (by omega) (Nat.le_of_ble_eq_true rfl) (c_X1_member l G h b5 x2 ho8) (fun v10 g11 q12 => ?_)
    obtain ⟨rfl, q12⟩ := q12
    replace q12 := q12.symm
    subst q12
    show Z l G _ d Q k n 21 _ (va_rf (zmem h b5 x2) :: []) _
    refine z_ifnull (t := 38) dX10_carried_21 (by decide) (fun c13 => ?_) (fun b14 c13 => ?_)
    · have hw15 := hw9.1 c13
      refine z_iconst (v := (-1)) dX10_carried_38 (by decide) ?_
      exact z_ret (v := some (.int ((-1)))) dX10_carried_39 ⟨_, rfl, rfl⟩ rfl hw15
    · have hw16 := hw9.2 b14 c13
      refine z_aload dX10_carried_24 rfl ?_
      refine z_iloadn dX10_carried_26 rfl rfl ?_
      refine z_soP [.int x3] c4 ?_
      refine z_callV (h := h) (S := []) (a := b5) (M := mX10_carried) (As := [.int x3]) zc1 rfl eX1_member w1011 w34 (Or.inr ⟨_, w1009⟩) dX10_carried_27 (ho8.k 0 rfl) (ho8.lt 0 rfl) rfl (by omega) (Nat.le_of_ble_eq_true rfl) (c_X1_member l G h b5 x3 ho8) (fun v17 g18 q19 => ?_)
      obtain ⟨rfl, q19⟩ := q19
      replace q19 := q19.symm
      subst q19
      show Z l G _ d Q k n 30 _ (va_rf (zmem h b5 x3) :: []) _
      refine z_ifnull (t := 38) dX10_carried_30 (by decide) (fun c20 => ?_) (fun b21 c20 => ?_)
      · have hw22 := hw16.1 c20
        refine z_iconst (v := (-1)) dX10_carried_38 (by decide) ?_
        exact z_ret (v := some (.int ((-1)))) dX10_carried_39 ⟨_, rfl, rfl⟩ rfl hw22
      · have hw23 := hw16.2 b21 c20
        refine z_iloadn dX10_carried_33 rfl rfl ?_
        refine z_iloadn dX10_carried_34 rfl rfl ?_
        refine z_icmp_ne (t := 40) dX10_carried_35 (by decide) (fun c24 => ?_) (fun c25 => ?_)
        · have hw26 := hw23.1 c24
          refine z_aloadn dX10_carried_40 rfl rfl ?_
          refine z_getRq (j := 5) zc10 dX10_carried_41 (ha.k 0 rfl) (ha.lt 0 rfl) (by decide) rfl w704 (ha.r 111 rfl) ?_
          refine z_aload dX10_carried_44 rfl ?_
          refine z_soP [] c4 ?_
          obtain ⟨P28, ct29, hw30⟩ := hw26
          refine z_callV (h := h) (S := []) (a := (a + 95)) (M := mX10_carried) (As := [va_rf (some b5)]) zc1 rfl eX1_copyFrom w938 w25 (Or.inr ⟨_, w1239⟩) dX10_carried_46 (ha.k 95 rfl) (ha.lt 95 rfl) rfl (by omega) (Nat.le_of_ble_eq_true rfl) ct29 (fun v35 g36 q32 => ?_)
          obtain ⟨I31, rfl, rfl, q32⟩ := q32
          have hw34 := hw30 I31 q32
          show Z l G _ d Q k n 49 _ ([]) _
          refine z_aloadn dX10_carried_49 rfl rfl ?_
          refine z_getRq (j := 5) zc10 dX10_carried_50 (ha.k 0 rfl) (ha.lt 0 rfl) (by decide) rfl w704 (ha.r 111 rfl) ?_
          refine z_iloadn dX10_carried_53 rfl rfl ?_
          refine z_callV (h := (I31, h.2)) (S := []) (a := (a + 95)) (M := mX10_carried) (As := [.int x2]) zc1 rfl eX1_member w1011 w34 (Or.inr ⟨_, w1009⟩) dX10_carried_54 (ha.k 95 rfl) (ha.lt 95 rfl) rfl (by omega) (Nat.le_of_ble_eq_true rfl) (c_X1_member l G (I31, h.2) (a + 95) x2 (los_10_95 ha)) (fun v37 g38 q39 => ?_)
          obtain ⟨rfl, q39⟩ := q39
          replace q39 := q39.symm
          subst q39
          show Z l G _ d Q k n 57 _ (va_rf (zmem (I31, h.2) (a + 95) x2) :: []) _
          refine z_astore (L' := [va_rf (some a), .int x1, .int x2, .int x3, .int (zb x4), va_rf (znat h (a + 1) x1), va_rf (zmem (I31, h.2) (a + 95) x2)]) dX10_carried_57 (by decide) ((zs1_rf (j := 5) rfl).trans rfl) ?_
          refine z_aload dX10_carried_59 rfl ?_
          refine z_ifnull (t := 70) dX10_carried_61 (by decide) (fun c40 => ?_) (fun b41 c40 => ?_)
          · have hw42 := hw34.1 c40
            refine z_aloadn dX10_carried_70 rfl rfl ?_
            refine z_getRq (j := 6) zc10 dX10_carried_71 (ha.k 0 rfl) (ha.lt 0 rfl) (by decide) rfl w705 (ha.r 125 rfl) ?_
            refine z_aloadn dX10_carried_74 rfl rfl ?_
            refine z_getRq (j := 5) zc10 dX10_carried_75 (ha.k 0 rfl) (ha.lt 0 rfl) (by decide) rfl w704 (ha.r 111 rfl) ?_
            refine z_bipush (v := 99) dX10_carried_78 (by decide) ?_
            obtain ⟨P44, ct45, hw46⟩ := hw42
            refine z_callV (h := (I31, h.2)) (S := []) (a := (a + 113)) (M := mX10_carried) (As := [va_rf (some (a + 95)), .int 99]) zc0 rfl eX0_lay w1066 w42 (Or.inr ⟨_, w1064⟩) dX10_carried_80 (ha.k 113 rfl) (ha.lt 113 rfl) rfl (by omega) (Nat.le_of_ble_eq_true rfl) ct45 (fun v51 g52 q48 => ?_)
            obtain ⟨I47, rfl, rfl, q48⟩ := q48
            have hw50 := hw46 I47 q48
            show Z l G _ d Q k n 83 _ ([]) _
            refine z_aloadn dX10_carried_83 rfl rfl ?_
            refine z_getRq (j := 6) zc10 dX10_carried_84 (ha.k 0 rfl) (ha.lt 0 rfl) (by decide) rfl w705 (ha.r 125 rfl) ?_
            refine z_iload dX10_carried_87 rfl ?_
            refine z_if_eq (t := 96) dX10_carried_89 (by decide) (fun c53 => ?_) (fun c54 => ?_)
            · have hw55 := hw50.1 (zb0 c53)
              refine z_iloadn dX10_carried_96 rfl rfl ?_
              obtain ⟨P57, ct58, hw59⟩ := hw55
              refine z_callV (h := (I47, h.2)) (S := []) (a := (a + 113)) (M := mX10_carried) (As := [.int x2]) zc0 rfl eX0_madeBy w1167 w58 (Or.inr ⟨_, w1165⟩) dX10_carried_97 (ha.k 113 rfl) (ha.lt 113 rfl) rfl (by omega) (Nat.le_of_ble_eq_true rfl) ct58 (fun v64 g65 q61 => ?_)
              obtain ⟨y62, I60, rfl, rfl, q61⟩ := q61
              have hw63 := hw59 y62 I60 q61
              show Z l G _ d Q k n 100 _ (.int y62 :: []) _
              exact z_ret (v := some (.int y62)) dX10_carried_100 ⟨_, rfl, rfl⟩ rfl hw63
            · have hw56 := hw50.2 (zb1 c54)
              refine z_iloadn dX10_carried_92 rfl rfl ?_
              refine z_goto (t := 97) dX10_carried_93 (by decide) ?_
              obtain ⟨P66, ct67, hw68⟩ := hw56
              refine z_callV (h := (I47, h.2)) (S := []) (a := (a + 113)) (M := mX10_carried) (As := [.int x3]) zc0 rfl eX0_madeBy w1167 w58 (Or.inr ⟨_, w1165⟩) dX10_carried_97 (ha.k 113 rfl) (ha.lt 113 rfl) rfl (by omega) (Nat.le_of_ble_eq_true rfl) ct67 (fun v73 g74 q70 => ?_)
              obtain ⟨y71, I69, rfl, rfl, q70⟩ := q70
              have hw72 := hw68 y71 I69 q70
              show Z l G _ d Q k n 100 _ (.int y71 :: []) _
              exact z_ret (v := some (.int y71)) dX10_carried_100 ⟨_, rfl, rfl⟩ rfl hw72
          · have hw43 := hw34.2 b41 c40
            refine z_aload dX10_carried_64 rfl ?_
            refine z_iloadn dX10_carried_66 rfl rfl ?_
            refine z_soP [.int x3] c40 ?_
            obtain ⟨ho75, hw76⟩ := hw43
            refine z_putI (j := 5) zc2 dX10_carried_67 (ho75.k 0 rfl) (ho75.lt 0 rfl) (by decide) rfl rfl (Or.inl rfl) (Or.inr ⟨_, w245⟩) ?_
            refine z_nm (r := h.2) rfl (fun I77 e78 => ?_)
            have hw79 := hw76 I77 e78
            refine z_aloadn dX10_carried_70 rfl rfl ?_
            refine z_getRq (j := 6) zc10 dX10_carried_71 (ha.k 0 rfl) (ha.lt 0 rfl) (by decide) rfl w705 (ha.r 125 rfl) ?_
            refine z_aloadn dX10_carried_74 rfl rfl ?_
            refine z_getRq (j := 5) zc10 dX10_carried_75 (ha.k 0 rfl) (ha.lt 0 rfl) (by decide) rfl w704 (ha.r 111 rfl) ?_
            refine z_bipush (v := 99) dX10_carried_78 (by decide) ?_
            obtain ⟨P80, ct81, hw82⟩ := hw79
            refine z_callV (h := (I77, h.2)) (S := []) (a := (a + 113)) (M := mX10_carried) (As := [va_rf (some (a + 95)), .int 99]) zc0 rfl eX0_lay w1066 w42 (Or.inr ⟨_, w1064⟩) dX10_carried_80 (ha.k 113 rfl) (ha.lt 113 rfl) rfl (by omega) (Nat.le_of_ble_eq_true rfl) ct81 (fun v87 g88 q84 => ?_)
            obtain ⟨I83, rfl, rfl, q84⟩ := q84
            have hw86 := hw82 I83 q84
            show Z l G _ d Q k n 83 _ ([]) _
            refine z_aloadn dX10_carried_83 rfl rfl ?_
            refine z_getRq (j := 6) zc10 dX10_carried_84 (ha.k 0 rfl) (ha.lt 0 rfl) (by decide) rfl w705 (ha.r 125 rfl) ?_
            refine z_iload dX10_carried_87 rfl ?_
            refine z_if_eq (t := 96) dX10_carried_89 (by decide) (fun c89 => ?_) (fun c90 => ?_)
            · have hw91 := hw86.1 (zb0 c89)
              refine z_iloadn dX10_carried_96 rfl rfl ?_
              obtain ⟨P93, ct94, hw95⟩ := hw91
              refine z_callV (h := (I83, h.2)) (S := []) (a := (a + 113)) (M := mX10_carried) (As := [.int x2]) zc0 rfl eX0_madeBy w1167 w58 (Or.inr ⟨_, w1165⟩) dX10_carried_97 (ha.k 113 rfl) (ha.lt 113 rfl) rfl (by omega) (Nat.le_of_ble_eq_true rfl) ct94 (fun v100 g101 q97 => ?_)
              obtain ⟨y98, I96, rfl, rfl, q97⟩ := q97
              have hw99 := hw95 y98 I96 q97
              show Z l G _ d Q k n 100 _ (.int y98 :: []) _
              exact z_ret (v := some (.int y98)) dX10_carried_100 ⟨_, rfl, rfl⟩ rfl hw99
            · have hw92 := hw86.2 (zb1 c90)
              refine z_iloadn dX10_carried_92 rfl rfl ?_
              refine z_goto (t := 97) dX10_carried_93 (by decide) ?_
              obtain ⟨P102, ct103, hw104⟩ := hw92
              refine z_callV (h := (I83, h.2)) (S := []) (a := (a + 113)) (M := mX10_carried) (As := [.int x3]) zc0 rfl eX0_madeBy w1167 w58 (Or.inr ⟨_, w1165⟩) dX10_carried_97 (ha.k 113 rfl) (ha.lt 113 rfl) rfl (by omega) (Nat.le_of_ble_eq_true rfl) ct103 (fun v109 g110 q106 => ?_)
              obtain ⟨y107, I105, rfl, rfl, q106⟩ := q106
              have hw108 := hw104 y107 I105 q106
              show Z l G _ d Q k n 100 _ (.int y107 :: []) _
              exact z_ret (v := some (.int y107)) dX10_carried_100 ⟨_, rfl, rfl⟩ rfl hw108
        · have hw27 := hw23.2 c25
          refine z_iconst (v := (-1)) dX10_carried_38 (by decide) ?_
          exact z_ret (v := some (.int ((-1)))) dX10_carried_39 ⟨_, rfl, rfl⟩ rfl hw27

theorem kX10_carried {l : Launch} {G : zG} {d : Nat} {Q : Option Value → zH → Prop} {k n : Nat} {h : zH} (a : Nat) (x1 : Int32) (x2 : Int32) (x3 : Int32) (x4 : Bool) (hz : Z l G mX10_carried d Q k n 0 [va_rf (some a), .int x1, .int x2, .int x3, .int (zb x4), zU, zU] [] h) : CT l G YX10_carried d k n [va_rf (some a), .int x1, .int x2, .int x3, .int (zb x4)] h Q :=
  CT.of (by decide +kernel) (fun t e => by have e2 : ((some .int) : Option FieldType) = some t := e; cases e2; exact ⟨by decide, by decide⟩) (by exact Nat.le_of_ble_eq_true rfl) (by exact hz)

theorem sX10_better_0 {l : Launch} {G : zG} {d : Nat} {Q : Option Value → zH → Prop} {k n : Nat} {h : zH} (a : Nat) (x1 : Int32) (x2 : Int32) (x3 : Bool) (ha : lo10 h a) (hd9 : 7 ≤ d)
    (hw : ((znat h (a + 1) x1 = none → Q (some (.int ((-1)))) h) ∧ (∀ b5, znat h (a + 1) x1 = some b5 → (lo1 h b5 ∧ ((zmem h b5 x2 = none → Q (some (.int ((-1)))) h) ∧ (∀ b14, zmem h b5 x2 = some b14 → (∃ P17, CTv l G YX1_copyFrom 4 [va_rf (some (a + 95)), va_rf (some b5)] h P17 ∧ ∀ (I20 : Nat → Nat → Int32), P17 I20 → ((zmem (I20, h.2) (a + 95) x2 = none → Q (some (.int ((-1)))) (I20, h.2)) ∧ (∀ b30, zmem (I20, h.2) (a + 95) x2 = some b30 → ((x3 = true → (lo2 (I20, h.2) b30 ∧ ((¬ zI (I20, h.2) b30 6 = (-1) → (∃ P43, CTi l G YX10_bestHour 6 [va_rf (some a), .int x2, va_rf (some b30)] (I20, h.2) P43 ∧ ∀ (y48 : Int32) (I46 : Nat → Nat → Int32), P43 y48 I46 → Q (some (.int y48)) (I46, h.2))) ∧ (zI (I20, h.2) b30 6 = (-1) → Q (some (.int ((-1)))) (I20, h.2))))) ∧ (x3 = false → (∃ P52, CTi l G YX10_bestSole 6 [va_rf (some a), va_rf (some b30)] (I20, h.2) P52 ∧ ∀ (y57 : Int32) (I55 : Nat → Nat → Int32), P52 y57 I55 → Q (some (.int y57)) (I55, h.2))))))))))))) :
    Z l G mX10_better d Q k n 0 [va_rf (some a), .int x1, .int x2, .int (zb x3), zU, zU] [] h := by
  refine z_aloadn dX10_better_0 rfl rfl ?_
  refine z_getRq (j := 0) zc10 dX10_better_1 (ha.k 0 rfl) (ha.lt 0 rfl) (by decide) rfl w699 (ha.r 51 rfl) ?_
  refine z_iloadn dX10_better_4 rfl rfl ?_
  refine z_callV (h := h) (S := []) (a := (a + 1)) (M := mX10_better) (As := [.int x1]) zc6 rfl eX6_nightAt w994 w31 (Or.inr ⟨_, w992⟩) dX10_better_5 (ha.k 1 rfl) (ha.lt 1 rfl) rfl (by omega) (Nat.le_of_ble_eq_true rfl) (c_X6_nightAt l G h (a + 1) x1 (los_10_1 ha)) (fun v1 g2 q3 => ?_)
  obtain ⟨rfl, q3⟩ := q3
  replace q3 := q3.symm
  subst q3
  show Z l G _ d Q k n 8 _ (va_rf (znat h (a + 1) x1) :: []) _
  refine z_astore (L' := [va_rf (some a), .int x1, .int x2, .int (zb x3), va_rf (znat h (a + 1) x1), zU]) dX10_better_8 (by decide) rfl ?_
  refine z_aload dX10_better_10 rfl ?_
  refine z_ifnull (t := 24) dX10_better_12 (by decide) (fun c4 => ?_) (fun b5 c4 => ?_)
  · have hw6 := hw.1 c4
    refine z_iconst (v := (-1)) dX10_better_24 (by decide) ?_
    exact z_ret (v := some (.int ((-1)))) dX10_better_25 ⟨_, rfl, rfl⟩ rfl hw6
  · have hw7 := hw.2 b5 c4
    refine z_aload dX10_better_15 rfl ?_
    refine z_iloadn dX10_better_17 rfl rfl ?_
    refine z_soP [.int x2] c4 ?_
    obtain ⟨ho8, hw9⟩ := hw7
    refine z_callV (h := h) (S := []) (a := b5) (M := mX10_better) (As := [.int x2]) zc1 rfl eX1_member w1011 w34 (Or.inr ⟨_, w1009⟩) dX10_better_18 (ho8.k 0 rfl) (ho8.lt 0 rfl) rfl (by omega) (Nat.le_of_ble_eq_true rfl) (c_X1_member l G h b5 x2 ho8) (fun v10 g11 q12 => ?_)
    obtain ⟨rfl, q12⟩ := q12
    replace q12 := q12.symm
    subst q12
    show Z l G _ d Q k n 21 _ (va_rf (zmem h b5 x2) :: []) _
    refine z_ifnonnull (t := 26) dX10_better_21 (by decide) (fun b14 c13 => ?_) (fun c13 => ?_)
    · have hw16 := hw9.2 b14 c13
      refine z_aloadn dX10_better_26 rfl rfl ?_
      refine z_getRq (j := 5) zc10 dX10_better_27 (ha.k 0 rfl) (ha.lt 0 rfl) (by decide) rfl w704 (ha.r 111 rfl) ?_
      refine z_aload dX10_better_30 rfl ?_
      refine z_soP [] c4 ?_
      obtain ⟨P17, ct18, hw19⟩ := hw16
      refine z_callV (h := h) (S := []) (a := (a + 95)) (M := mX10_better) (As := [va_rf (some b5)]) zc1 rfl eX1_copyFrom w938 w25 (Or.inr ⟨_, w1239⟩) dX10_better_32 (ha.k 95 rfl) (ha.lt 95 rfl) rfl (by omega) (Nat.le_of_ble_eq_true rfl) ct18 (fun v24 g25 q21 => ?_)
      obtain ⟨I20, rfl, rfl, q21⟩ := q21
      have hw23 := hw19 I20 q21
      show Z l G _ d Q k n 35 _ ([]) _
      refine z_aloadn dX10_better_35 rfl rfl ?_
      refine z_getRq (j := 5) zc10 dX10_better_36 (ha.k 0 rfl) (ha.lt 0 rfl) (by decide) rfl w704 (ha.r 111 rfl) ?_
      refine z_iloadn dX10_better_39 rfl rfl ?_
      refine z_callV (h := (I20, h.2)) (S := []) (a := (a + 95)) (M := mX10_better) (As := [.int x2]) zc1 rfl eX1_member w1011 w34 (Or.inr ⟨_, w1009⟩) dX10_better_40 (ha.k 95 rfl) (ha.lt 95 rfl) rfl (by omega) (Nat.le_of_ble_eq_true rfl) (c_X1_member l G (I20, h.2) (a + 95) x2 (los_10_95 ha)) (fun v26 g27 q28 => ?_)
      obtain ⟨rfl, q28⟩ := q28
      replace q28 := q28.symm
      subst q28
      show Z l G _ d Q k n 43 _ (va_rf (zmem (I20, h.2) (a + 95) x2) :: []) _
      refine z_astore (L' := [va_rf (some a), .int x1, .int x2, .int (zb x3), va_rf (znat h (a + 1) x1), va_rf (zmem (I20, h.2) (a + 95) x2)]) dX10_better_43 (by decide) ((zs1_rf (j := 4) rfl).trans rfl) ?_
      refine z_aload dX10_better_45 rfl ?_
      refine z_ifnonnull (t := 52) dX10_better_47 (by decide) (fun b30 c29 => ?_) (fun c29 => ?_)
      · have hw32 := hw23.2 b30 c29
        refine z_iloadn dX10_better_52 rfl rfl ?_
        refine z_if_ne (t := 63) dX10_better_53 (by decide) (fun c33 => ?_) (fun c34 => ?_)
        · have hw35 := hw32.1 (zb1 c33)
          refine z_aload dX10_better_63 rfl ?_
          refine z_soP [] c29 ?_
          obtain ⟨ho37, hw38⟩ := hw35
          refine z_getIN (j := 6) zc2 dX10_better_65 (ho37.k 0 rfl) (ho37.lt 0 rfl) (by decide) rfl w250 ?_
          refine z_iconst (v := (-1)) dX10_better_68 (by decide) ?_
          refine z_icmp_ne (t := 76) dX10_better_69 (by decide) (fun c39 => ?_) (fun c40 => ?_)
          · have hw41 := hw38.1 c39
            refine z_aloadn dX10_better_76 rfl rfl ?_
            refine z_iloadn dX10_better_77 rfl rfl ?_
            refine z_aload dX10_better_78 rfl ?_
            refine z_soP [] c29 ?_
            obtain ⟨P43, ct44, hw45⟩ := hw41
            refine z_callV (h := (I20, h.2)) (S := []) (a := a) (M := mX10_better) (As := [.int x2, va_rf (some b30)]) zc10 rfl eX10_bestHour w1276 w71 (Or.inl w1274) dX10_better_80 (ha.k 0 rfl) (ha.lt 0 rfl) rfl (by omega) (Nat.le_of_ble_eq_true rfl) ct44 (fun v50 g51 q47 => ?_)
            obtain ⟨y48, I46, rfl, rfl, q47⟩ := q47
            have hw49 := hw45 y48 I46 q47
            show Z l G _ d Q k n 83 _ (.int y48 :: []) _
            exact z_ret (v := some (.int y48)) dX10_better_83 ⟨_, rfl, rfl⟩ rfl hw49
          · have hw42 := hw38.2 c40
            refine z_iconst (v := (-1)) dX10_better_72 (by decide) ?_
            refine z_goto (t := 83) dX10_better_73 (by decide) ?_
            exact z_ret (v := some (.int ((-1)))) dX10_better_83 ⟨_, rfl, rfl⟩ rfl hw42
        · have hw36 := hw32.2 (zb0 c34)
          refine z_aloadn dX10_better_56 rfl rfl ?_
          refine z_aload dX10_better_57 rfl ?_
          refine z_soP [] c29 ?_
          obtain ⟨P52, ct53, hw54⟩ := hw36
          refine z_callV (h := (I20, h.2)) (S := []) (a := a) (M := mX10_better) (As := [va_rf (some b30)]) zc10 rfl eX10_bestSole w1272 w70 (Or.inl w1270) dX10_better_59 (ha.k 0 rfl) (ha.lt 0 rfl) rfl (by omega) (Nat.le_of_ble_eq_true rfl) ct53 (fun v59 g60 q56 => ?_)
          obtain ⟨y57, I55, rfl, rfl, q56⟩ := q56
          have hw58 := hw54 y57 I55 q56
          show Z l G _ d Q k n 62 _ (.int y57 :: []) _
          exact z_ret (v := some (.int y57)) dX10_better_62 ⟨_, rfl, rfl⟩ rfl hw58
      · have hw31 := hw23.1 c29
        refine z_iconst (v := (-1)) dX10_better_50 (by decide) ?_
        exact z_ret (v := some (.int ((-1)))) dX10_better_51 ⟨_, rfl, rfl⟩ rfl hw31
    · have hw15 := hw9.1 c13
      refine z_iconst (v := (-1)) dX10_better_24 (by decide) ?_
      exact z_ret (v := some (.int ((-1)))) dX10_better_25 ⟨_, rfl, rfl⟩ rfl hw15

theorem kX10_better {l : Launch} {G : zG} {d : Nat} {Q : Option Value → zH → Prop} {k n : Nat} {h : zH} (a : Nat) (x1 : Int32) (x2 : Int32) (x3 : Bool) (hz : Z l G mX10_better d Q k n 0 [va_rf (some a), .int x1, .int x2, .int (zb x3), zU, zU] [] h) : CT l G YX10_better d k n [va_rf (some a), .int x1, .int x2, .int (zb x3)] h Q :=
  CT.of (by decide +kernel) (fun t e => by have e2 : ((some .int) : Option FieldType) = some t := e; cases e2; exact ⟨by decide, by decide⟩) (by exact Nat.le_of_ble_eq_true rfl) (by exact hz)

theorem sX10_bestSole_0 {l : Launch} {G : zG} {d : Nat} {Q : Option Value → zH → Prop} {k n : Nat} {h : zH} (a : Nat) (a1 : Nat) (ha : lo10 h a) (ha1 : lo2 h a1) (hd9 : 6 ≤ d)
    (hw : Z l G mX10_bestSole d Q k n 9 [va_rf (some a), va_rf (some a1), .int ((-1)), .int 151, .int 0] [] h) :
    Z l G mX10_bestSole d Q k n 0 [va_rf (some a), va_rf (some a1), zU, zU, zU] [] h := by
  refine z_iconst (v := (-1)) dX10_bestSole_0 (by decide) ?_
  refine z_istoren (L' := [va_rf (some a), va_rf (some a1), .int ((-1)), zU, zU]) dX10_bestSole_1 rfl (by decide) rfl ?_
  refine z_sipush (v := 151) dX10_bestSole_2 (by decide) ?_
  refine z_istoren (L' := [va_rf (some a), va_rf (some a1), .int ((-1)), .int 151, zU]) dX10_bestSole_5 rfl (by decide) rfl ?_
  refine z_iconst (v := 0) dX10_bestSole_6 (by decide) ?_
  refine z_istore (L' := [va_rf (some a), va_rf (some a1), .int ((-1)), .int 151, .int 0]) dX10_bestSole_7 (by decide) rfl ?_
  exact hw

theorem sX10_bestSole_9 {l : Launch} {G : zG} {d : Nat} {Q : Option Value → zH → Prop} {k n : Nat} {h : zH} (a : Nat) (a1 : Nat) (x2 : Int32) (x3 : Int32) (x4 : Int32) (ha : lo10 h a) (ha1 : lo2 h a1) (hd9 : 6 ≤ d)
    (hw : (((6 : Int) ≤ x4.toInt → Q (some (.int x2)) h) ∧ (x4.toInt < (6 : Int) → (∀ I5 : Nat → Nat → Int32, I5 = (zwI h a1 0 x4).1 → (∃ P8, CTv l G YX0_lay 5 [va_rf (some (a + 113)), va_rf (some (a + 95)), .int 99] (I5, h.2) P8 ∧ ∀ (I11 : Nat → Nat → Int32), P8 I11 → ((x3.toInt ≤ (zI (I11, h.2) (a + 113) 0).toInt → Z l G mX10_bestSole d Q k n 9 [va_rf (some a), va_rf (some a1), .int x2, .int x3, .int ((x4 + 1))] [] (I11, h.2)) ∧ ((zI (I11, h.2) (a + 113) 0).toInt < x3.toInt → Z l G mX10_bestSole d Q k n 9 [va_rf (some a), va_rf (some a1), .int x4, .int (zI (I11, h.2) (a + 113) 0), .int ((x4 + 1))] [] (I11, h.2)))))))) :
    Z l G mX10_bestSole d Q k n 9 [va_rf (some a), va_rf (some a1), .int x2, .int x3, .int x4] [] h := by
  refine z_iload dX10_bestSole_9 rfl ?_
  refine z_bipush (v := 6) dX10_bestSole_11 (by decide) ?_
  refine z_icmp_ge (t := 63) dX10_bestSole_13 (by decide) (fun c1 => ?_) (fun c2 => ?_)
  · have hw3 := hw.1 c1
    refine z_iloadn dX10_bestSole_63 rfl rfl ?_
    exact z_ret (v := some (.int x2)) dX10_bestSole_64 ⟨_, rfl, rfl⟩ rfl hw3
  · have hw4 := hw.2 c2
    refine z_aloadn dX10_bestSole_16 rfl rfl ?_
    refine z_iload dX10_bestSole_17 rfl ?_
    refine z_putI (j := 0) zc2 dX10_bestSole_19 (ha1.k 0 rfl) (ha1.lt 0 rfl) (by decide) rfl rfl (Or.inl rfl) (Or.inr ⟨_, w224⟩) ?_
    refine z_nm (r := h.2) rfl (fun I5 e6 => ?_)
    have hw7 := hw4 I5 e6
    refine z_aloadn dX10_bestSole_22 rfl rfl ?_
    refine z_getRq (j := 6) zc10 dX10_bestSole_23 (ha.k 0 rfl) (ha.lt 0 rfl) (by decide) rfl w705 (ha.r 125 rfl) ?_
    refine z_aloadn dX10_bestSole_26 rfl rfl ?_
    refine z_getRq (j := 5) zc10 dX10_bestSole_27 (ha.k 0 rfl) (ha.lt 0 rfl) (by decide) rfl w704 (ha.r 111 rfl) ?_
    refine z_bipush (v := 99) dX10_bestSole_30 (by decide) ?_
    obtain ⟨P8, ct9, hw10⟩ := hw7
    refine z_callV (h := (I5, h.2)) (S := []) (a := (a + 113)) (M := mX10_bestSole) (As := [va_rf (some (a + 95)), .int 99]) zc0 rfl eX0_lay w1066 w42 (Or.inr ⟨_, w1064⟩) dX10_bestSole_32 (ha.k 113 rfl) (ha.lt 113 rfl) rfl (by omega) (Nat.le_of_ble_eq_true rfl) ct9 (fun v15 g16 q12 => ?_)
    obtain ⟨I11, rfl, rfl, q12⟩ := q12
    have hw14 := hw10 I11 q12
    show Z l G _ d Q k n 35 _ ([]) _
    refine z_aloadn dX10_bestSole_35 rfl rfl ?_
    refine z_getRq (j := 6) zc10 dX10_bestSole_36 (ha.k 0 rfl) (ha.lt 0 rfl) (by decide) rfl w705 (ha.r 125 rfl) ?_
    refine z_getIN (j := 0) zc0 dX10_bestSole_39 (ha.k 113 rfl) (ha.lt 113 rfl) (by decide) rfl w486 ?_
    refine z_iloadn dX10_bestSole_42 rfl rfl ?_
    refine z_icmp_ge (t := 57) dX10_bestSole_43 (by decide) (fun c17 => ?_) (fun c18 => ?_)
    · have hw19 := hw14.1 c17
      refine z_iinc (v := (x4 + 1)) (L' := [va_rf (some a), va_rf (some a1), .int x2, .int x3, .int ((x4 + 1))]) dX10_bestSole_57 (by decide) rfl rfl rfl ?_
      refine z_goto (t := 9) dX10_bestSole_60 (by decide) ?_
      exact hw19
    · have hw20 := hw14.2 c18
      refine z_aloadn dX10_bestSole_46 rfl rfl ?_
      refine z_getRq (j := 6) zc10 dX10_bestSole_47 (ha.k 0 rfl) (ha.lt 0 rfl) (by decide) rfl w705 (ha.r 125 rfl) ?_
      refine z_getIN (j := 0) zc0 dX10_bestSole_50 (ha.k 113 rfl) (ha.lt 113 rfl) (by decide) rfl w486 ?_
      refine z_istoren (L' := [va_rf (some a), va_rf (some a1), .int x2, .int (zI (I11, h.2) (a + 113) 0), .int x4]) dX10_bestSole_53 rfl (by decide) rfl ?_
      refine z_iload dX10_bestSole_54 rfl ?_
      refine z_istoren (L' := [va_rf (some a), va_rf (some a1), .int x4, .int (zI (I11, h.2) (a + 113) 0), .int x4]) dX10_bestSole_56 rfl (by decide) rfl ?_
      refine z_iinc (v := (x4 + 1)) (L' := [va_rf (some a), va_rf (some a1), .int x4, .int (zI (I11, h.2) (a + 113) 0), .int ((x4 + 1))]) dX10_bestSole_57 (by decide) rfl rfl rfl ?_
      refine z_goto (t := 9) dX10_bestSole_60 (by decide) ?_
      exact hw20

theorem kX10_bestSole {l : Launch} {G : zG} {d : Nat} {Q : Option Value → zH → Prop} {k n : Nat} {h : zH} (a : Nat) (a1 : Nat) (hz : Z l G mX10_bestSole d Q k n 0 [va_rf (some a), va_rf (some a1), zU, zU, zU] [] h) : CT l G YX10_bestSole d k n [va_rf (some a), va_rf (some a1)] h Q :=
  CT.of (by decide +kernel) (fun t e => by have e2 : ((some .int) : Option FieldType) = some t := e; cases e2; exact ⟨by decide, by decide⟩) (by exact Nat.le_of_ble_eq_true rfl) (by exact hz)

theorem sX10_bestHour_0 {l : Launch} {G : zG} {d : Nat} {Q : Option Value → zH → Prop} {k n : Nat} {h : zH} (a : Nat) (x1 : Int32) (a2 : Nat) (ha : lo10 h a) (ha2 : lo2 h a2) (hd9 : 6 ≤ d)
    (hw : Z l G mX10_bestHour d Q k n 10 [va_rf (some a), .int x1, va_rf (some a2), .int ((-1)), .int 151, .int 0, zU] [] h) :
    Z l G mX10_bestHour d Q k n 0 [va_rf (some a), .int x1, va_rf (some a2), zU, zU, zU, zU] [] h := by
  refine z_iconst (v := (-1)) dX10_bestHour_0 (by decide) ?_
  refine z_istoren (L' := [va_rf (some a), .int x1, va_rf (some a2), .int ((-1)), zU, zU, zU]) dX10_bestHour_1 rfl (by decide) rfl ?_
  refine z_sipush (v := 151) dX10_bestHour_2 (by decide) ?_
  refine z_istore (L' := [va_rf (some a), .int x1, va_rf (some a2), .int ((-1)), .int 151, zU, zU]) dX10_bestHour_5 (by decide) rfl ?_
  refine z_iconst (v := 0) dX10_bestHour_7 (by decide) ?_
  refine z_istore (L' := [va_rf (some a), .int x1, va_rf (some a2), .int ((-1)), .int 151, .int 0, zU]) dX10_bestHour_8 (by decide) rfl ?_
  exact hw

theorem sX10_bestHour_10 {l : Launch} {G : zG} {d : Nat} {Q : Option Value → zH → Prop} {k n : Nat} {h : zH} (a : Nat) (x1 : Int32) (a2 : Nat) (x3 : Int32) (x4 : Int32) (x5 : Int32) (u6 : Value) (ha : lo10 h a) (ha2 : lo2 h a2) (hd9 : 6 ≤ d)
    (hw : (((60 : Int) < x5.toInt → Q (some (.int x3)) h) ∧ (x5.toInt ≤ (60 : Int) → (∀ I5 : Nat → Nat → Int32, I5 = (zwI h a2 7 x5).1 → (∃ P8, CTv l G YX0_lay 5 [va_rf (some (a + 113)), va_rf (some (a + 95)), .int 99] (I5, h.2) P8 ∧ ∀ (I11 : Nat → Nat → Int32), P8 I11 → (∃ P17, CTi l G YX0_madeBy 2 [va_rf (some (a + 113)), .int x1] (I11, h.2) P17 ∧ ∀ (y22 : Int32) (I20 : Nat → Nat → Int32), P17 y22 I20 → ((x4.toInt ≤ y22.toInt → Z l G mX10_bestHour d Q k n 10 [va_rf (some a), .int x1, va_rf (some a2), .int x3, .int x4, .int ((x5 + 1)), .int y22] [] (I20, h.2)) ∧ (y22.toInt < x4.toInt → Z l G mX10_bestHour d Q k n 10 [va_rf (some a), .int x1, va_rf (some a2), .int x5, .int y22, .int ((x5 + 1)), .int y22] [] (I20, h.2))))))))) :
    Z l G mX10_bestHour d Q k n 10 [va_rf (some a), .int x1, va_rf (some a2), .int x3, .int x4, .int x5, u6] [] h := by
  refine z_iload dX10_bestHour_10 rfl ?_
  refine z_bipush (v := 60) dX10_bestHour_12 (by decide) ?_
  refine z_icmp_gt (t := 66) dX10_bestHour_14 (by decide) (fun c1 => ?_) (fun c2 => ?_)
  · have hw3 := hw.1 c1
    refine z_iloadn dX10_bestHour_66 rfl rfl ?_
    exact z_ret (v := some (.int x3)) dX10_bestHour_67 ⟨_, rfl, rfl⟩ rfl hw3
  · have hw4 := hw.2 c2
    refine z_aloadn dX10_bestHour_17 rfl rfl ?_
    refine z_iload dX10_bestHour_18 rfl ?_
    refine z_putI (j := 7) zc2 dX10_bestHour_20 (ha2.k 0 rfl) (ha2.lt 0 rfl) (by decide) rfl rfl (Or.inl rfl) (Or.inr ⟨_, w255⟩) ?_
    refine z_nm (r := h.2) rfl (fun I5 e6 => ?_)
    have hw7 := hw4 I5 e6
    refine z_aloadn dX10_bestHour_23 rfl rfl ?_
    refine z_getRq (j := 6) zc10 dX10_bestHour_24 (ha.k 0 rfl) (ha.lt 0 rfl) (by decide) rfl w705 (ha.r 125 rfl) ?_
    refine z_aloadn dX10_bestHour_27 rfl rfl ?_
    refine z_getRq (j := 5) zc10 dX10_bestHour_28 (ha.k 0 rfl) (ha.lt 0 rfl) (by decide) rfl w704 (ha.r 111 rfl) ?_
    refine z_bipush (v := 99) dX10_bestHour_31 (by decide) ?_
    obtain ⟨P8, ct9, hw10⟩ := hw7
    refine z_callV (h := (I5, h.2)) (S := []) (a := (a + 113)) (M := mX10_bestHour) (As := [va_rf (some (a + 95)), .int 99]) zc0 rfl eX0_lay w1066 w42 (Or.inr ⟨_, w1064⟩) dX10_bestHour_33 (ha.k 113 rfl) (ha.lt 113 rfl) rfl (by omega) (Nat.le_of_ble_eq_true rfl) ct9 (fun v15 g16 q12 => ?_)
    obtain ⟨I11, rfl, rfl, q12⟩ := q12
    have hw14 := hw10 I11 q12
    show Z l G _ d Q k n 36 _ ([]) _
    refine z_aloadn dX10_bestHour_36 rfl rfl ?_
    refine z_getRq (j := 6) zc10 dX10_bestHour_37 (ha.k 0 rfl) (ha.lt 0 rfl) (by decide) rfl w705 (ha.r 125 rfl) ?_
    refine z_iloadn dX10_bestHour_40 rfl rfl ?_
    obtain ⟨P17, ct18, hw19⟩ := hw14
    refine z_callV (h := (I11, h.2)) (S := []) (a := (a + 113)) (M := mX10_bestHour) (As := [.int x1]) zc0 rfl eX0_madeBy w1167 w58 (Or.inr ⟨_, w1165⟩) dX10_bestHour_41 (ha.k 113 rfl) (ha.lt 113 rfl) rfl (by omega) (Nat.le_of_ble_eq_true rfl) ct18 (fun v24 g25 q21 => ?_)
    obtain ⟨y22, I20, rfl, rfl, q21⟩ := q21
    have hw23 := hw19 y22 I20 q21
    show Z l G _ d Q k n 44 _ (.int y22 :: []) _
    refine z_istore (L' := [va_rf (some a), .int x1, va_rf (some a2), .int x3, .int x4, .int x5, .int y22]) dX10_bestHour_44 (by decide) rfl ?_
    refine z_iload dX10_bestHour_46 rfl ?_
    refine z_iload dX10_bestHour_48 rfl ?_
    refine z_icmp_ge (t := 60) dX10_bestHour_50 (by decide) (fun c26 => ?_) (fun c27 => ?_)
    · have hw28 := hw23.1 c26
      refine z_iinc (v := (x5 + 1)) (L' := [va_rf (some a), .int x1, va_rf (some a2), .int x3, .int x4, .int ((x5 + 1)), .int y22]) dX10_bestHour_60 (by decide) rfl rfl rfl ?_
      refine z_goto (t := 10) dX10_bestHour_63 (by decide) ?_
      exact hw28
    · have hw29 := hw23.2 c27
      refine z_iload dX10_bestHour_53 rfl ?_
      refine z_istore (L' := [va_rf (some a), .int x1, va_rf (some a2), .int x3, .int y22, .int x5, .int y22]) dX10_bestHour_55 (by decide) rfl ?_
      refine z_iload dX10_bestHour_57 rfl ?_
      refine z_istoren (L' := [va_rf (some a), .int x1, va_rf (some a2), .int x5, .int y22, .int x5, .int y22]) dX10_bestHour_59 rfl (by decide) rfl ?_
      refine z_iinc (v := (x5 + 1)) (L' := [va_rf (some a), .int x1, va_rf (some a2), .int x5, .int y22, .int ((x5 + 1)), .int y22]) dX10_bestHour_60 (by decide) rfl rfl rfl ?_
      refine z_goto (t := 10) dX10_bestHour_63 (by decide) ?_
      exact hw29

theorem kX10_bestHour {l : Launch} {G : zG} {d : Nat} {Q : Option Value → zH → Prop} {k n : Nat} {h : zH} (a : Nat) (x1 : Int32) (a2 : Nat) (hz : Z l G mX10_bestHour d Q k n 0 [va_rf (some a), .int x1, va_rf (some a2), zU, zU, zU, zU] [] h) : CT l G YX10_bestHour d k n [va_rf (some a), .int x1, va_rf (some a2)] h Q :=
  CT.of (by decide +kernel) (fun t e => by have e2 : ((some .int) : Option FieldType) = some t := e; cases e2; exact ⟨by decide, by decide⟩) (by exact Nat.le_of_ble_eq_true rfl) (by exact hz)

theorem sX10_way_0 {l : Launch} {G : zG} {d : Nat} {Q : Option Value → zH → Prop} {k n : Nat} {h : zH} (a : Nat) (x1 : Int32) (x2 : Int32) (x3 : Int32) (x4 : Int32) (x5 : Int32) (ha : lo10 h a) (hd9 : 7 ≤ d)
    (hw : ((znat h (a + 1) x1 = none → Q (some (.int ((-1)))) h) ∧ (∀ b5, znat h (a + 1) x1 = some b5 → (lo1 h b5 ∧ ((zmem h b5 x2 = none → Q (some (.int ((-1)))) h) ∧ (∀ b14, zmem h b5 x2 = some b14 → (((zhas h b5 x3) = false → Q (some (.int ((-1)))) h) ∧ ((zhas h b5 x3) = true → (((zhas h b5 x4) = true → (∃ P31, CTv l G YX0_lay 5 [va_rf (some (a + 81)), va_rf (some b5), .int 99] h P31 ∧ ∀ (I34 : Nat → Nat → Int32), P31 I34 → (∃ P40, CTv l G YX0_showTops 2 [va_rf (some (a + 81)), va_rf (some (a + 127))] (I34, h.2) P40 ∧ ∀ (I43 : Nat → Nat → Int32), P40 I43 → (∃ P49, CTvG l G YX9_seek 6 [va_rf (some (a + 128)), va_rf (some b5), va_rf (some (a + 127)), .int x2, .int x3, .int x4] (I43, h.2) P49 ∧ ∀ (g57 : zH), P49 g57 → lo10 g57 a ∧ ((¬ zI g57 (a + 128) 0 = (-1) → ((x5.toInt = 0 → Q (some (.int (zI g57 (a + 128) 0))) g57) ∧ (¬ x5.toInt = 0 → ((x5.toInt = 1 → Q (some (.int (zI g57 (a + 128) 1))) g57) ∧ (¬ x5.toInt = 1 → ((x5.toInt < (10 : Int) → Q (some (.int ((-1)))) g57) ∧ ((10 : Int) ≤ x5.toInt → (((zI g57 (a + 128) 1).toInt ≤ (x5 - 10).toInt → Q (some (.int ((-1)))) g57) ∧ ((x5 - 10).toInt < (zI g57 (a + 128) 1).toInt → Q (some (.int (zget g57 (some (a + 129)) (x5 - 10)))) g57))))))))) ∧ (zI g57 (a + 128) 0 = (-1) → Q (some (.int ((-1)))) g57)))))) ∧ ((zhas h b5 x4) = false → Q (some (.int ((-1)))) h)))))))))) :
    Z l G mX10_way d Q k n 0 [va_rf (some a), .int x1, .int x2, .int x3, .int x4, .int x5, zU] [] h := by
  refine z_aloadn dX10_way_0 rfl rfl ?_
  refine z_getRq (j := 0) zc10 dX10_way_1 (ha.k 0 rfl) (ha.lt 0 rfl) (by decide) rfl w699 (ha.r 51 rfl) ?_
  refine z_iloadn dX10_way_4 rfl rfl ?_
  refine z_callV (h := h) (S := []) (a := (a + 1)) (M := mX10_way) (As := [.int x1]) zc6 rfl eX6_nightAt w994 w31 (Or.inr ⟨_, w992⟩) dX10_way_5 (ha.k 1 rfl) (ha.lt 1 rfl) rfl (by omega) (Nat.le_of_ble_eq_true rfl) (c_X6_nightAt l G h (a + 1) x1 (los_10_1 ha)) (fun v1 g2 q3 => ?_)
  obtain ⟨rfl, q3⟩ := q3
  replace q3 := q3.symm
  subst q3
  show Z l G _ d Q k n 8 _ (va_rf (znat h (a + 1) x1) :: []) _
  refine z_astore (L' := [va_rf (some a), .int x1, .int x2, .int x3, .int x4, .int x5, va_rf (znat h (a + 1) x1)]) dX10_way_8 (by decide) rfl ?_
  refine z_aload dX10_way_10 rfl ?_
  refine z_ifnull (t := 43) dX10_way_12 (by decide) (fun c4 => ?_) (fun b5 c4 => ?_)
  · have hw6 := hw.1 c4
    refine z_iconst (v := (-1)) dX10_way_43 (by decide) ?_
    exact z_ret (v := some (.int ((-1)))) dX10_way_44 ⟨_, rfl, rfl⟩ rfl hw6
  · have hw7 := hw.2 b5 c4
    refine z_aload dX10_way_15 rfl ?_
    refine z_iloadn dX10_way_17 rfl rfl ?_
    refine z_soP [.int x2] c4 ?_
    obtain ⟨ho8, hw9⟩ := hw7
    refine z_callV (h := h) (S := []) (a := b5) (M := mX10_way) (As := [.int x2]) zc1 rfl eX1_member w1011 w34 (Or.inr ⟨_, w1009⟩) dX10_way_18 (ho8.k 0 rfl) (ho8.lt 0 rfl) rfl (by omega) (Nat.le_of_ble_eq_true rfl) (c_X1_member l G h b5 x2 ho8) (fun v10 g11 q12 => ?_)
    obtain ⟨rfl, q12⟩ := q12
    replace q12 := q12.symm
    subst q12
    show Z l G _ d Q k n 21 _ (va_rf (zmem h b5 x2) :: []) _
    refine z_ifnull (t := 43) dX10_way_21 (by decide) (fun c13 => ?_) (fun b14 c13 => ?_)
    · have hw15 := hw9.1 c13
      refine z_iconst (v := (-1)) dX10_way_43 (by decide) ?_
      exact z_ret (v := some (.int ((-1)))) dX10_way_44 ⟨_, rfl, rfl⟩ rfl hw15
    · have hw16 := hw9.2 b14 c13
      refine z_aload dX10_way_24 rfl ?_
      refine z_iloadn dX10_way_26 rfl rfl ?_
      refine z_soP [.int x3] c4 ?_
      refine z_callV (h := h) (S := []) (a := b5) (M := mX10_way) (As := [.int x3]) zc1 rfl eX1_hasCell w926 w22 (Or.inr ⟨_, w1052⟩) dX10_way_27 (ho8.k 0 rfl) (ho8.lt 0 rfl) rfl (by omega) (Nat.le_of_ble_eq_true rfl) (c_X1_hasCell l G h b5 x3 ho8) (fun v17 g18 q19 => ?_)
      obtain ⟨rfl, q19⟩ := q19
      replace q19 := q19.symm
      subst q19
      show Z l G _ d Q k n 30 _ (.int (zb (zhas h b5 x3)) :: []) _
      refine z_if_eq (t := 43) dX10_way_30 (by decide) (fun c20 => ?_) (fun c21 => ?_)
      · have hw22 := hw16.1 (zb0 c20)
        refine z_iconst (v := (-1)) dX10_way_43 (by decide) ?_
        exact z_ret (v := some (.int ((-1)))) dX10_way_44 ⟨_, rfl, rfl⟩ rfl hw22
      · have hw23 := hw16.2 (zb1 c21)
        refine z_aload dX10_way_33 rfl ?_
        refine z_iload dX10_way_35 rfl ?_
        refine z_soP [.int x4] c4 ?_
        refine z_callV (h := h) (S := []) (a := b5) (M := mX10_way) (As := [.int x4]) zc1 rfl eX1_hasCell w926 w22 (Or.inr ⟨_, w1052⟩) dX10_way_37 (ho8.k 0 rfl) (ho8.lt 0 rfl) rfl (by omega) (Nat.le_of_ble_eq_true rfl) (c_X1_hasCell l G h b5 x4 ho8) (fun v24 g25 q26 => ?_)
        obtain ⟨rfl, q26⟩ := q26
        replace q26 := q26.symm
        subst q26
        show Z l G _ d Q k n 40 _ (.int (zb (zhas h b5 x4)) :: []) _
        refine z_if_ne (t := 45) dX10_way_40 (by decide) (fun c27 => ?_) (fun c28 => ?_)
        · have hw29 := hw23.1 (zb1 c27)
          refine z_aloadn dX10_way_45 rfl rfl ?_
          refine z_getRq (j := 4) zc10 dX10_way_46 (ha.k 0 rfl) (ha.lt 0 rfl) (by decide) rfl w703 (ha.r 93 rfl) ?_
          refine z_aload dX10_way_49 rfl ?_
          refine z_bipush (v := 99) dX10_way_51 (by decide) ?_
          refine z_soP [.int 99] c4 ?_
          obtain ⟨P31, ct32, hw33⟩ := hw29
          refine z_callV (h := h) (S := []) (a := (a + 81)) (M := mX10_way) (As := [va_rf (some b5), .int 99]) zc0 rfl eX0_lay w1066 w42 (Or.inr ⟨_, w1064⟩) dX10_way_53 (ha.k 81 rfl) (ha.lt 81 rfl) rfl (by omega) (Nat.le_of_ble_eq_true rfl) ct32 (fun v38 g39 q35 => ?_)
          obtain ⟨I34, rfl, rfl, q35⟩ := q35
          have hw37 := hw33 I34 q35
          show Z l G _ d Q k n 56 _ ([]) _
          refine z_aloadn dX10_way_56 rfl rfl ?_
          refine z_getRq (j := 4) zc10 dX10_way_57 (ha.k 0 rfl) (ha.lt 0 rfl) (by decide) rfl w703 (ha.r 93 rfl) ?_
          refine z_aloadn dX10_way_60 rfl rfl ?_
          refine z_getRq (j := 7) zc10 dX10_way_61 (ha.k 0 rfl) (ha.lt 0 rfl) (by decide) rfl w706 (ha.r 126 rfl) ?_
          obtain ⟨P40, ct41, hw42⟩ := hw37
          refine z_callV (h := (I34, h.2)) (S := []) (a := (a + 81)) (M := mX10_way) (As := [va_rf (some (a + 127))]) zc0 rfl eX0_showTops w1284 w72 (Or.inr ⟨_, w1282⟩) dX10_way_64 (ha.k 81 rfl) (ha.lt 81 rfl) rfl (by omega) (Nat.le_of_ble_eq_true rfl) ct41 (fun v47 g48 q44 => ?_)
          obtain ⟨I43, rfl, rfl, q44⟩ := q44
          have hw46 := hw42 I43 q44
          show Z l G _ d Q k n 67 _ ([]) _
          refine z_aloadn dX10_way_67 rfl rfl ?_
          refine z_getRq (j := 8) zc10 dX10_way_68 (ha.k 0 rfl) (ha.lt 0 rfl) (by decide) rfl w707 (ha.r 130 rfl) ?_
          refine z_aload dX10_way_71 rfl ?_
          refine z_aloadn dX10_way_73 rfl rfl ?_
          refine z_getRq (j := 7) zc10 dX10_way_74 (ha.k 0 rfl) (ha.lt 0 rfl) (by decide) rfl w706 (ha.r 126 rfl) ?_
          refine z_iloadn dX10_way_77 rfl rfl ?_
          refine z_iloadn dX10_way_78 rfl rfl ?_
          refine z_iload dX10_way_79 rfl ?_
          refine z_soP [.int x4, .int x3, .int x2, va_rf (some (a + 127))] c4 ?_
          obtain ⟨P49, ct50, hw51⟩ := hw46
          refine z_callV (h := (I43, h.2)) (S := []) (a := (a + 128)) (M := mX10_way) (As := [va_rf (some b5), va_rf (some (a + 127)), .int x2, .int x3, .int x4]) zc9 rfl eX9_seek w1288 w73 (Or.inr ⟨_, w1286⟩) dX10_way_81 (ha.k 128 rfl) (ha.lt 128 rfl) rfl (by omega) (Nat.le_of_ble_eq_true rfl) ct50 (fun v56 g57 q53 => ?_)
          obtain ⟨rfl, q53⟩ := q53
          have hw55 := hw51 g57 q53
          obtain ⟨ho58, hw59⟩ := hw55
          show Z l G _ d Q k n 84 _ ([]) _
          refine z_aloadn dX10_way_84 rfl rfl ?_
          refine z_getRq (j := 8) zc10 dX10_way_85 (ho58.k 0 rfl) (ho58.lt 0 rfl) (by decide) rfl w707 (ho58.r 130 rfl) ?_
          refine z_getIN (j := 0) zc9 dX10_way_88 (ho58.k 128 rfl) (ho58.lt 128 rfl) (by decide) rfl w543 ?_
          refine z_iconst (v := (-1)) dX10_way_91 (by decide) ?_
          refine z_icmp_ne (t := 97) dX10_way_92 (by decide) (fun c60 => ?_) (fun c61 => ?_)
          · have hw62 := hw59.1 c60
            refine z_iload dX10_way_97 rfl ?_
            refine z_lswc (td := 140) (ts := [(0, 124), (1, 132)]) dX10_way_99 (by decide) (by decide) (by decide) ?_
            refine ⟨fun c64 => ?_, fun c65 => ?_⟩
            · have hw66 := hw62.1 c64
              refine z_aloadn dX10_way_124 rfl rfl ?_
              refine z_getRq (j := 8) zc10 dX10_way_125 (ho58.k 0 rfl) (ho58.lt 0 rfl) (by decide) rfl w707 (ho58.r 130 rfl) ?_
              refine z_getIN (j := 0) zc9 dX10_way_128 (ho58.k 128 rfl) (ho58.lt 128 rfl) (by decide) rfl w543 ?_
              exact z_ret (v := some (.int (zI g57 (a + 128) 0))) dX10_way_131 ⟨_, rfl, rfl⟩ rfl hw66
            have hw67 := hw62.2 c65
            refine ⟨fun c68 => ?_, fun c69 => ?_⟩
            · have hw70 := hw67.1 c68
              refine z_aloadn dX10_way_132 rfl rfl ?_
              refine z_getRq (j := 8) zc10 dX10_way_133 (ho58.k 0 rfl) (ho58.lt 0 rfl) (by decide) rfl w707 (ho58.r 130 rfl) ?_
              refine z_getIN (j := 1) zc9 dX10_way_136 (ho58.k 128 rfl) (ho58.lt 128 rfl) (by decide) rfl w546 ?_
              exact z_ret (v := some (.int (zI g57 (a + 128) 1))) dX10_way_139 ⟨_, rfl, rfl⟩ rfl hw70
            have hw71 := hw67.2 c69
            refine z_iload dX10_way_140 rfl ?_
            refine z_bipush (v := 10) dX10_way_142 (by decide) ?_
            refine z_icmp_lt (t := 180) dX10_way_144 (by decide) (fun c72 => ?_) (fun c73 => ?_)
            · have hw74 := hw71.1 c72
              refine z_iconst (v := (-1)) dX10_way_180 (by decide) ?_
              exact z_ret (v := some (.int ((-1)))) dX10_way_181 ⟨_, rfl, rfl⟩ rfl hw74
            · have hw75 := hw71.2 c73
              refine z_iload dX10_way_147 rfl ?_
              refine z_bipush (v := 10) dX10_way_149 (by decide) ?_
              refine z_isub dX10_way_151 ?_
              refine z_aloadn dX10_way_152 rfl rfl ?_
              refine z_getRq (j := 8) zc10 dX10_way_153 (ho58.k 0 rfl) (ho58.lt 0 rfl) (by decide) rfl w707 (ho58.r 130 rfl) ?_
              refine z_getIN (j := 1) zc9 dX10_way_156 (ho58.k 128 rfl) (ho58.lt 128 rfl) (by decide) rfl w546 ?_
              refine z_icmp_ge (t := 180) dX10_way_159 (by decide) (fun c76 => ?_) (fun c77 => ?_)
              · have hw78 := hw75.1 c76
                refine z_iconst (v := (-1)) dX10_way_180 (by decide) ?_
                exact z_ret (v := some (.int ((-1)))) dX10_way_181 ⟨_, rfl, rfl⟩ rfl hw78
              · have hw79 := hw75.2 c77
                refine z_aloadn dX10_way_162 rfl rfl ?_
                refine z_getRq (j := 8) zc10 dX10_way_163 (ho58.k 0 rfl) (ho58.lt 0 rfl) (by decide) rfl w707 (ho58.r 130 rfl) ?_
                refine z_getRNq (j := 2) zc9 dX10_way_166 (ho58.k 128 rfl) (ho58.lt 128 rfl) (by decide) rfl w548 (ho58.r 127 rfl) ?_
                refine z_iload dX10_way_169 rfl ?_
                refine z_bipush (v := 10) dX10_way_171 (by decide) ?_
                refine z_isub dX10_way_173 ?_
                refine z_callS (h := g57) (S := []) (M := mX10_way) (As := [va_rf (some (a + 129)), .int ((x5 - 10))]) eX10_get w778 (Or.inl w1101) dX10_way_174 rfl (by omega) (Nat.le_of_ble_eq_true rfl) (c_X10_get l G g57 (some (a + 129)) (x5 - 10) (zgok_lo (ho58.w 129 rfl) (by decide))) (fun v80 g81 q82 => ?_)
                obtain ⟨rfl, q82⟩ := q82
                replace q82 := q82.symm
                subst q82
                show Z l G _ d Q k n 177 _ (.int (zget g57 (some (a + 129)) (x5 - 10)) :: []) _
                refine z_goto (t := 181) dX10_way_177 (by decide) ?_
                exact z_ret (v := some (.int (zget g57 (some (a + 129)) (x5 - 10)))) dX10_way_181 ⟨_, rfl, rfl⟩ rfl hw79
          · have hw63 := hw59.2 c61
            refine z_iconst (v := (-1)) dX10_way_95 (by decide) ?_
            exact z_ret (v := some (.int ((-1)))) dX10_way_96 ⟨_, rfl, rfl⟩ rfl hw63
        · have hw30 := hw23.2 (zb0 c28)
          refine z_iconst (v := (-1)) dX10_way_43 (by decide) ?_
          exact z_ret (v := some (.int ((-1)))) dX10_way_44 ⟨_, rfl, rfl⟩ rfl hw30

theorem kX10_way {l : Launch} {G : zG} {d : Nat} {Q : Option Value → zH → Prop} {k n : Nat} {h : zH} (a : Nat) (x1 : Int32) (x2 : Int32) (x3 : Int32) (x4 : Int32) (x5 : Int32) (hz : Z l G mX10_way d Q k n 0 [va_rf (some a), .int x1, .int x2, .int x3, .int x4, .int x5, zU] [] h) : CT l G YX10_way d k n [va_rf (some a), .int x1, .int x2, .int x3, .int x4, .int x5] h Q :=
  CT.of (by decide +kernel) (fun t e => by have e2 : ((some .int) : Option FieldType) = some t := e; cases e2; exact ⟨by decide, by decide⟩) (by exact Nat.le_of_ble_eq_true rfl) (by exact hz)

theorem sX10_tour_0 {l : Launch} {G : zG} {d : Nat} {Q : Option Value → zH → Prop} {k n : Nat} {h : zH} (a : Nat) (x1 : Int32) (x2 : Int32) (ha : lo10 h a) (hd9 : 13 ≤ d)
    (hw : ((znat h (a + 1) x1 = none → Q (some (.int ((-1)))) h) ∧ (∀ b5, znat h (a + 1) x1 = some b5 → ((zI h a 11 = x1 → ((¬ zI h (a + 136) 0 = (-1) → ((x2.toInt = 0 → Q (some (.int (zI h (a + 136) 0))) h) ∧ (¬ x2.toInt = 0 → ((x2.toInt = 1 → Q (some (.int (zI h (a + 136) 1))) h) ∧ (¬ x2.toInt = 1 → ((x2.toInt < (10 : Int) → Q (some (.int ((-1)))) h) ∧ ((10 : Int) ≤ x2.toInt → (lo1 h b5 ∧ (((zI h b5 4).toInt ≤ (x2 - 10).toInt → Q (some (.int ((-1)))) h) ∧ ((x2 - 10).toInt < (zI h b5 4).toInt → Q (some (.int (zget h (some (a + 137)) (x2 - 10)))) h)))))))))) ∧ (zI h (a + 136) 0 = (-1) → Q (some (.int ((-1)))) h))) ∧ (¬ zI h a 11 = x1 → (∃ P37, CTv l G YX0_lay 5 [va_rf (some (a + 81)), va_rf (some b5), .int 99] h P37 ∧ ∀ (I40 : Nat → Nat → Int32), P37 I40 → (∃ P46, CTv l G YX0_showTops 2 [va_rf (some (a + 81)), va_rf (some (a + 127))] (I40, h.2) P46 ∧ ∀ (I49 : Nat → Nat → Int32), P46 I49 → (∃ P55, CTvG l G YX7_begin 3 [va_rf (some (a + 136)), va_rf (some b5), va_rf (some (a + 127))] (I49, h.2) P55 ∧ ∀ (g63 : zH), P55 g63 → lo10 g63 a ∧ (∃ P66 d73, d73 + 1 ≤ d ∧ CTvG l G YX7_extend d73 [va_rf (some (a + 136)), .int 0, .int 0, .int 0] g63 P66 ∧ ∀ (g76 : zH), P66 g76 → lo10 g76 a ∧ (∀ I79 : Nat → Nat → Int32, I79 = (zwI g76 a 11 x1).1 → ((¬ zI (I79, g76.2) (a + 136) 0 = (-1) → ((x2.toInt = 0 → Q (some (.int (zI (I79, g76.2) (a + 136) 0))) (I79, g76.2)) ∧ (¬ x2.toInt = 0 → ((x2.toInt = 1 → Q (some (.int (zI (I79, g76.2) (a + 136) 1))) (I79, g76.2)) ∧ (¬ x2.toInt = 1 → ((x2.toInt < (10 : Int) → Q (some (.int ((-1)))) (I79, g76.2)) ∧ ((10 : Int) ≤ x2.toInt → (∃ b98, znat h (a + 1) x1 = some b98 ∧ lo1 (I79, g76.2) b98 ∧ (((zI (I79, g76.2) b98 4).toInt ≤ (x2 - 10).toInt → Q (some (.int ((-1)))) (I79, g76.2)) ∧ ((x2 - 10).toInt < (zI (I79, g76.2) b98 4).toInt → Q (some (.int (zget (I79, g76.2) (some (a + 137)) (x2 - 10)))) (I79, g76.2))))))))))) ∧ (zI (I79, g76.2) (a + 136) 0 = (-1) → Q (some (.int ((-1)))) (I79, g76.2))))))))))))) :
    Z l G mX10_tour d Q k n 0 [va_rf (some a), .int x1, .int x2, zU] [] h := by
  refine z_aloadn dX10_tour_0 rfl rfl ?_
  refine z_getRq (j := 0) zc10 dX10_tour_1 (ha.k 0 rfl) (ha.lt 0 rfl) (by decide) rfl w699 (ha.r 51 rfl) ?_
  refine z_iloadn dX10_tour_4 rfl rfl ?_
  refine z_callV (h := h) (S := []) (a := (a + 1)) (M := mX10_tour) (As := [.int x1]) zc6 rfl eX6_nightAt w994 w31 (Or.inr ⟨_, w992⟩) dX10_tour_5 (ha.k 1 rfl) (ha.lt 1 rfl) rfl (by omega) (Nat.le_of_ble_eq_true rfl) (c_X6_nightAt l G h (a + 1) x1 (los_10_1 ha)) (fun v1 g2 q3 => ?_)
  obtain ⟨rfl, q3⟩ := q3
  replace q3 := q3.symm
  subst q3
  show Z l G _ d Q k n 8 _ (va_rf (znat h (a + 1) x1) :: []) _
  refine z_astoren (L' := [va_rf (some a), .int x1, .int x2, va_rf (znat h (a + 1) x1)]) dX10_tour_8 rfl (by decide) rfl ?_
  refine z_aloadn dX10_tour_9 rfl rfl ?_
  refine z_ifnonnull (t := 15) dX10_tour_10 (by decide) (fun b5 c4 => ?_) (fun c4 => ?_)
  · have hw7 := hw.2 b5 c4
    refine z_aloadn dX10_tour_15 rfl rfl ?_
    refine z_getI (j := 11) zc10 dX10_tour_16 (ha.k 0 rfl) (ha.lt 0 rfl) (by decide) rfl w710 ?_
    refine z_iloadn dX10_tour_19 rfl rfl ?_
    refine z_icmp_eq (t := 71) dX10_tour_20 (by decide) (fun c8 => ?_) (fun c9 => ?_)
    · have hw10 := hw7.1 c8
      refine z_aloadn dX10_tour_71 rfl rfl ?_
      refine z_getRq (j := 10) zc10 dX10_tour_72 (ha.k 0 rfl) (ha.lt 0 rfl) (by decide) rfl w709 (ha.r 148 rfl) ?_
      refine z_getIN (j := 0) zc7 dX10_tour_75 (ha.k 136 rfl) (ha.lt 136 rfl) (by decide) rfl w618 ?_
      refine z_iconst (v := (-1)) dX10_tour_78 (by decide) ?_
      refine z_icmp_ne (t := 84) dX10_tour_79 (by decide) (fun c12 => ?_) (fun c13 => ?_)
      · have hw14 := hw10.1 c12
        refine z_iloadn dX10_tour_84 rfl rfl ?_
        refine z_lswc (td := 128) (ts := [(0, 112), (1, 120)]) dX10_tour_85 (by decide) (by decide) (by decide) ?_
        refine ⟨fun c16 => ?_, fun c17 => ?_⟩
        · have hw18 := hw14.1 c16
          refine z_aloadn dX10_tour_112 rfl rfl ?_
          refine z_getRq (j := 10) zc10 dX10_tour_113 (ha.k 0 rfl) (ha.lt 0 rfl) (by decide) rfl w709 (ha.r 148 rfl) ?_
          refine z_getIN (j := 0) zc7 dX10_tour_116 (ha.k 136 rfl) (ha.lt 136 rfl) (by decide) rfl w618 ?_
          exact z_ret (v := some (.int (zI h (a + 136) 0))) dX10_tour_119 ⟨_, rfl, rfl⟩ rfl hw18
        have hw19 := hw14.2 c17
        refine ⟨fun c20 => ?_, fun c21 => ?_⟩
        · have hw22 := hw19.1 c20
          refine z_aloadn dX10_tour_120 rfl rfl ?_
          refine z_getRq (j := 10) zc10 dX10_tour_121 (ha.k 0 rfl) (ha.lt 0 rfl) (by decide) rfl w709 (ha.r 148 rfl) ?_
          refine z_getIN (j := 1) zc7 dX10_tour_124 (ha.k 136 rfl) (ha.lt 136 rfl) (by decide) rfl w620 ?_
          exact z_ret (v := some (.int (zI h (a + 136) 1))) dX10_tour_127 ⟨_, rfl, rfl⟩ rfl hw22
        have hw23 := hw19.2 c21
        refine z_iloadn dX10_tour_128 rfl rfl ?_
        refine z_bipush (v := 10) dX10_tour_129 (by decide) ?_
        refine z_icmp_lt (t := 162) dX10_tour_131 (by decide) (fun c24 => ?_) (fun c25 => ?_)
        · have hw26 := hw23.1 c24
          refine z_iconst (v := (-1)) dX10_tour_162 (by decide) ?_
          exact z_ret (v := some (.int ((-1)))) dX10_tour_163 ⟨_, rfl, rfl⟩ rfl hw26
        · have hw27 := hw23.2 c25
          refine z_iloadn dX10_tour_134 rfl rfl ?_
          refine z_bipush (v := 10) dX10_tour_135 (by decide) ?_
          refine z_isub dX10_tour_137 ?_
          refine z_aloadn dX10_tour_138 rfl rfl ?_
          refine z_soP [] c4 ?_
          obtain ⟨ho28, hw29⟩ := hw27
          refine z_getIN (j := 4) zc1 dX10_tour_139 (ho28.k 0 rfl) (ho28.lt 0 rfl) (by decide) rfl w320 ?_
          refine z_icmp_ge (t := 162) dX10_tour_142 (by decide) (fun c30 => ?_) (fun c31 => ?_)
          · have hw32 := hw29.1 c30
            refine z_iconst (v := (-1)) dX10_tour_162 (by decide) ?_
            exact z_ret (v := some (.int ((-1)))) dX10_tour_163 ⟨_, rfl, rfl⟩ rfl hw32
          · have hw33 := hw29.2 c31
            refine z_aloadn dX10_tour_145 rfl rfl ?_
            refine z_getRq (j := 10) zc10 dX10_tour_146 (ha.k 0 rfl) (ha.lt 0 rfl) (by decide) rfl w709 (ha.r 148 rfl) ?_
            refine z_getRNq (j := 2) zc7 dX10_tour_149 (ha.k 136 rfl) (ha.lt 136 rfl) (by decide) rfl w622 (ha.r 135 rfl) ?_
            refine z_iloadn dX10_tour_152 rfl rfl ?_
            refine z_bipush (v := 10) dX10_tour_153 (by decide) ?_
            refine z_isub dX10_tour_155 ?_
            refine z_callS (h := h) (S := []) (M := mX10_tour) (As := [va_rf (some (a + 137)), .int ((x2 - 10))]) eX10_get w778 (Or.inl w1101) dX10_tour_156 rfl (by omega) (Nat.le_of_ble_eq_true rfl) (c_X10_get l G h (some (a + 137)) (x2 - 10) (zgok_lo (ha.w 137 rfl) (by decide))) (fun v34 g35 q36 => ?_)
            obtain ⟨rfl, q36⟩ := q36
            replace q36 := q36.symm
            subst q36
            show Z l G _ d Q k n 159 _ (.int (zget h (some (a + 137)) (x2 - 10)) :: []) _
            refine z_goto (t := 163) dX10_tour_159 (by decide) ?_
            exact z_ret (v := some (.int (zget h (some (a + 137)) (x2 - 10)))) dX10_tour_163 ⟨_, rfl, rfl⟩ rfl hw33
      · have hw15 := hw10.2 c13
        refine z_iconst (v := (-1)) dX10_tour_82 (by decide) ?_
        exact z_ret (v := some (.int ((-1)))) dX10_tour_83 ⟨_, rfl, rfl⟩ rfl hw15
    · have hw11 := hw7.2 c9
      refine z_aloadn dX10_tour_23 rfl rfl ?_
      refine z_getRq (j := 4) zc10 dX10_tour_24 (ha.k 0 rfl) (ha.lt 0 rfl) (by decide) rfl w703 (ha.r 93 rfl) ?_
      refine z_aloadn dX10_tour_27 rfl rfl ?_
      refine z_bipush (v := 99) dX10_tour_28 (by decide) ?_
      refine z_soP [.int 99] c4 ?_
      obtain ⟨P37, ct38, hw39⟩ := hw11
      refine z_callV (h := h) (S := []) (a := (a + 81)) (M := mX10_tour) (As := [va_rf (some b5), .int 99]) zc0 rfl eX0_lay w1066 w42 (Or.inr ⟨_, w1064⟩) dX10_tour_30 (ha.k 81 rfl) (ha.lt 81 rfl) rfl (by omega) (Nat.le_of_ble_eq_true rfl) ct38 (fun v44 g45 q41 => ?_)
      obtain ⟨I40, rfl, rfl, q41⟩ := q41
      have hw43 := hw39 I40 q41
      show Z l G _ d Q k n 33 _ ([]) _
      refine z_aloadn dX10_tour_33 rfl rfl ?_
      refine z_getRq (j := 4) zc10 dX10_tour_34 (ha.k 0 rfl) (ha.lt 0 rfl) (by decide) rfl w703 (ha.r 93 rfl) ?_
      refine z_aloadn dX10_tour_37 rfl rfl ?_
      refine z_getRq (j := 7) zc10 dX10_tour_38 (ha.k 0 rfl) (ha.lt 0 rfl) (by decide) rfl w706 (ha.r 126 rfl) ?_
      obtain ⟨P46, ct47, hw48⟩ := hw43
      refine z_callV (h := (I40, h.2)) (S := []) (a := (a + 81)) (M := mX10_tour) (As := [va_rf (some (a + 127))]) zc0 rfl eX0_showTops w1284 w72 (Or.inr ⟨_, w1282⟩) dX10_tour_41 (ha.k 81 rfl) (ha.lt 81 rfl) rfl (by omega) (Nat.le_of_ble_eq_true rfl) ct47 (fun v53 g54 q50 => ?_)
      obtain ⟨I49, rfl, rfl, q50⟩ := q50
      have hw52 := hw48 I49 q50
      show Z l G _ d Q k n 44 _ ([]) _
      refine z_aloadn dX10_tour_44 rfl rfl ?_
      refine z_getRq (j := 10) zc10 dX10_tour_45 (ha.k 0 rfl) (ha.lt 0 rfl) (by decide) rfl w709 (ha.r 148 rfl) ?_
      refine z_aloadn dX10_tour_48 rfl rfl ?_
      refine z_aloadn dX10_tour_49 rfl rfl ?_
      refine z_getRq (j := 7) zc10 dX10_tour_50 (ha.k 0 rfl) (ha.lt 0 rfl) (by decide) rfl w706 (ha.r 126 rfl) ?_
      refine z_soP [va_rf (some (a + 127))] c4 ?_
      obtain ⟨P55, ct56, hw57⟩ := hw52
      refine z_callV (h := (I49, h.2)) (S := []) (a := (a + 136)) (M := mX10_tour) (As := [va_rf (some b5), va_rf (some (a + 127))]) zc7 rfl eX7_begin w1340 w83 (Or.inr ⟨_, w1338⟩) dX10_tour_53 (ha.k 136 rfl) (ha.lt 136 rfl) rfl (by omega) (Nat.le_of_ble_eq_true rfl) ct56 (fun v62 g63 q59 => ?_)
      obtain ⟨rfl, q59⟩ := q59
      have hw61 := hw57 g63 q59
      obtain ⟨ho64, hw65⟩ := hw61
      show Z l G _ d Q k n 56 _ ([]) _
      refine z_aloadn dX10_tour_56 rfl rfl ?_
      refine z_getRq (j := 10) zc10 dX10_tour_57 (ho64.k 0 rfl) (ho64.lt 0 rfl) (by decide) rfl w709 (ho64.r 148 rfl) ?_
      refine z_iconst (v := 0) dX10_tour_60 (by decide) ?_
      refine z_iconst (v := 0) dX10_tour_61 (by decide) ?_
      refine z_iconst (v := 0) dX10_tour_62 (by decide) ?_
      obtain ⟨P66, d73, q74, ct67, hw68⟩ := hw65
      refine z_callV (h := g63) (S := []) (a := (a + 136)) (M := mX10_tour) (As := [.int 0, .int 0, .int 0]) zc7 rfl eX7_extend w1349 w85 (Or.inr ⟨_, w1347⟩) dX10_tour_63 (ho64.k 136 rfl) (ho64.lt 136 rfl) rfl q74 (Nat.le_of_ble_eq_true rfl) ct67 (fun v75 g76 q70 => ?_)
      obtain ⟨rfl, q70⟩ := q70
      have hw72 := hw68 g76 q70
      obtain ⟨ho77, hw78⟩ := hw72
      show Z l G _ d Q k n 66 _ ([]) _
      refine z_aloadn dX10_tour_66 rfl rfl ?_
      refine z_iloadn dX10_tour_67 rfl rfl ?_
      refine z_putI (j := 11) zc10 dX10_tour_68 (ho77.k 0 rfl) (ho77.lt 0 rfl) (by decide) rfl rfl (Or.inl rfl) (Or.inl w710) ?_
      refine z_nm (r := g76.2) rfl (fun I79 e80 => ?_)
      have hw81 := hw78 I79 e80
      refine z_aloadn dX10_tour_71 rfl rfl ?_
      refine z_getRq (j := 10) zc10 dX10_tour_72 (ho77.k 0 rfl) (ho77.lt 0 rfl) (by decide) rfl w709 (ho77.r 148 rfl) ?_
      refine z_getIN (j := 0) zc7 dX10_tour_75 (ho77.k 136 rfl) (ho77.lt 136 rfl) (by decide) rfl w618 ?_
      refine z_iconst (v := (-1)) dX10_tour_78 (by decide) ?_
      refine z_icmp_ne (t := 84) dX10_tour_79 (by decide) (fun c82 => ?_) (fun c83 => ?_)
      · have hw84 := hw81.1 c82
        refine z_iloadn dX10_tour_84 rfl rfl ?_
        refine z_lswc (td := 128) (ts := [(0, 112), (1, 120)]) dX10_tour_85 (by decide) (by decide) (by decide) ?_
        refine ⟨fun c86 => ?_, fun c87 => ?_⟩
        · have hw88 := hw84.1 c86
          refine z_aloadn dX10_tour_112 rfl rfl ?_
          refine z_getRq (j := 10) zc10 dX10_tour_113 (ho77.k 0 rfl) (ho77.lt 0 rfl) (by decide) rfl w709 (ho77.r 148 rfl) ?_
          refine z_getIN (j := 0) zc7 dX10_tour_116 (ho77.k 136 rfl) (ho77.lt 136 rfl) (by decide) rfl w618 ?_
          exact z_ret (v := some (.int (zI (I79, g76.2) (a + 136) 0))) dX10_tour_119 ⟨_, rfl, rfl⟩ rfl hw88
        have hw89 := hw84.2 c87
        refine ⟨fun c90 => ?_, fun c91 => ?_⟩
        · have hw92 := hw89.1 c90
          refine z_aloadn dX10_tour_120 rfl rfl ?_
          refine z_getRq (j := 10) zc10 dX10_tour_121 (ho77.k 0 rfl) (ho77.lt 0 rfl) (by decide) rfl w709 (ho77.r 148 rfl) ?_
          refine z_getIN (j := 1) zc7 dX10_tour_124 (ho77.k 136 rfl) (ho77.lt 136 rfl) (by decide) rfl w620 ?_
          exact z_ret (v := some (.int (zI (I79, g76.2) (a + 136) 1))) dX10_tour_127 ⟨_, rfl, rfl⟩ rfl hw92
        have hw93 := hw89.2 c91
        refine z_iloadn dX10_tour_128 rfl rfl ?_
        refine z_bipush (v := 10) dX10_tour_129 (by decide) ?_
        refine z_icmp_lt (t := 162) dX10_tour_131 (by decide) (fun c94 => ?_) (fun c95 => ?_)
        · have hw96 := hw93.1 c94
          refine z_iconst (v := (-1)) dX10_tour_162 (by decide) ?_
          exact z_ret (v := some (.int ((-1)))) dX10_tour_163 ⟨_, rfl, rfl⟩ rfl hw96
        · have hw97 := hw93.2 c95
          refine z_iloadn dX10_tour_134 rfl rfl ?_
          refine z_bipush (v := 10) dX10_tour_135 (by decide) ?_
          refine z_isub dX10_tour_137 ?_
          refine z_aloadn dX10_tour_138 rfl rfl ?_
          obtain ⟨b98, q99, ho100, hw101⟩ := hw97
          refine z_soP [] q99 ?_
          refine z_getIN (j := 4) zc1 dX10_tour_139 (ho100.k 0 rfl) (ho100.lt 0 rfl) (by decide) rfl w320 ?_
          refine z_icmp_ge (t := 162) dX10_tour_142 (by decide) (fun c102 => ?_) (fun c103 => ?_)
          · have hw104 := hw101.1 c102
            refine z_iconst (v := (-1)) dX10_tour_162 (by decide) ?_
            exact z_ret (v := some (.int ((-1)))) dX10_tour_163 ⟨_, rfl, rfl⟩ rfl hw104
          · have hw105 := hw101.2 c103
            refine z_aloadn dX10_tour_145 rfl rfl ?_
            refine z_getRq (j := 10) zc10 dX10_tour_146 (ho77.k 0 rfl) (ho77.lt 0 rfl) (by decide) rfl w709 (ho77.r 148 rfl) ?_
            refine z_getRNq (j := 2) zc7 dX10_tour_149 (ho77.k 136 rfl) (ho77.lt 136 rfl) (by decide) rfl w622 (ho77.r 135 rfl) ?_
            refine z_iloadn dX10_tour_152 rfl rfl ?_
            refine z_bipush (v := 10) dX10_tour_153 (by decide) ?_
            refine z_isub dX10_tour_155 ?_
            refine z_callS (h := (I79, g76.2)) (S := []) (M := mX10_tour) (As := [va_rf (some (a + 137)), .int ((x2 - 10))]) eX10_get w778 (Or.inl w1101) dX10_tour_156 rfl (by omega) (Nat.le_of_ble_eq_true rfl) (c_X10_get l G (I79, g76.2) (some (a + 137)) (x2 - 10) (zgok_lo (ho77.w 137 rfl) (by decide))) (fun v106 g107 q108 => ?_)
            obtain ⟨rfl, q108⟩ := q108
            replace q108 := q108.symm
            subst q108
            show Z l G _ d Q k n 159 _ (.int (zget (I79, g76.2) (some (a + 137)) (x2 - 10)) :: []) _
            refine z_goto (t := 163) dX10_tour_159 (by decide) ?_
            exact z_ret (v := some (.int (zget (I79, g76.2) (some (a + 137)) (x2 - 10)))) dX10_tour_163 ⟨_, rfl, rfl⟩ rfl hw105
      · have hw85 := hw81.2 c83
        refine z_iconst (v := (-1)) dX10_tour_82 (by decide) ?_
        exact z_ret (v := some (.int ((-1)))) dX10_tour_83 ⟨_, rfl, rfl⟩ rfl hw85
  · have hw6 := hw.1 c4
    refine z_iconst (v := (-1)) dX10_tour_13 (by decide) ?_
    exact z_ret (v := some (.int ((-1)))) dX10_tour_14 ⟨_, rfl, rfl⟩ rfl hw6

theorem kX10_tour {l : Launch} {G : zG} {d : Nat} {Q : Option Value → zH → Prop} {k n : Nat} {h : zH} (a : Nat) (x1 : Int32) (x2 : Int32) (hz : Z l G mX10_tour d Q k n 0 [va_rf (some a), .int x1, .int x2, zU] [] h) : CT l G YX10_tour d k n [va_rf (some a), .int x1, .int x2] h Q :=
  CT.of (by decide +kernel) (fun t e => by have e2 : ((some .int) : Option FieldType) = some t := e; cases e2; exact ⟨by decide, by decide⟩) (by exact Nat.le_of_ble_eq_true rfl) (by exact hz)

theorem sX10_sign_0 {l : Launch} {G : zG} {d : Nat} {Q : Option Value → zH → Prop} {k n : Nat} {h : zH} (a : Nat) (x1 : Int32) (x2 : Int32) (x3 : Int32) (ha : lo10 h a) (hd9 : 3 ≤ d)
    (hw : ((zrat h (a + 1) x1 = none → Q (some (.int ((-2)))) h) ∧ (∀ b5, zrat h (a + 1) x1 = some b5 → ((¬ x2 = (-1) → (lo3 h b5 ∧ (((zhs h b5 x2) = false → Q (some (.int ((-2)))) h) ∧ ((zhs h b5 x2) = true → (∃ P21, CTi l G YX3_part 2 [va_rf (some b5), .int x2, .int x3] h P21 ∧ ∀ (y26 : Int32) (I24 : Nat → Nat → Int32), P21 y26 I24 → Q (some (.int y26)) (I24, h.2)))))) ∧ (x2 = (-1) → ((¬ x3 = 0 → Q (some (.int ((-2)))) h) ∧ (x3 = 0 → (lo3 h b5 ∧ Q (some (.int (zI h b5 0))) h)))))))) :
    Z l G mX10_sign d Q k n 0 [va_rf (some a), .int x1, .int x2, .int x3, zU] [] h := by
  refine z_aloadn dX10_sign_0 rfl rfl ?_
  refine z_getRq (j := 0) zc10 dX10_sign_1 (ha.k 0 rfl) (ha.lt 0 rfl) (by decide) rfl w699 (ha.r 51 rfl) ?_
  refine z_iloadn dX10_sign_4 rfl rfl ?_
  refine z_callV (h := h) (S := []) (a := (a + 1)) (M := mX10_sign) (As := [.int x1]) zc6 rfl eX6_readingAt w1370 w88 (Or.inr ⟨_, w1368⟩) dX10_sign_5 (ha.k 1 rfl) (ha.lt 1 rfl) rfl (by omega) (Nat.le_of_ble_eq_true rfl) (c_X6_readingAt l G h (a + 1) x1 (los_10_1 ha)) (fun v1 g2 q3 => ?_)
  obtain ⟨rfl, q3⟩ := q3
  replace q3 := q3.symm
  subst q3
  show Z l G _ d Q k n 8 _ (va_rf (zrat h (a + 1) x1) :: []) _
  refine z_astore (L' := [va_rf (some a), .int x1, .int x2, .int x3, va_rf (zrat h (a + 1) x1)]) dX10_sign_8 (by decide) rfl ?_
  refine z_aload dX10_sign_10 rfl ?_
  refine z_ifnonnull (t := 18) dX10_sign_12 (by decide) (fun b5 c4 => ?_) (fun c4 => ?_)
  · have hw7 := hw.2 b5 c4
    refine z_iloadn dX10_sign_18 rfl rfl ?_
    refine z_iconst (v := (-1)) dX10_sign_19 (by decide) ?_
    refine z_icmp_ne (t := 38) dX10_sign_20 (by decide) (fun c8 => ?_) (fun c9 => ?_)
    · have hw10 := hw7.1 c8
      refine z_aload dX10_sign_38 rfl ?_
      refine z_iloadn dX10_sign_40 rfl rfl ?_
      refine z_soP [.int x2] c4 ?_
      obtain ⟨ho12, hw13⟩ := hw10
      refine z_callV (h := h) (S := []) (a := b5) (M := mX10_sign) (As := [.int x2]) zc3 rfl eX3_hasSign w1374 w89 (Or.inr ⟨_, w1372⟩) dX10_sign_41 (ho12.k 0 rfl) (ho12.lt 0 rfl) rfl (by omega) (Nat.le_of_ble_eq_true rfl) (c_X3_hasSign l G h b5 x2 ho12) (fun v14 g15 q16 => ?_)
      obtain ⟨rfl, q16⟩ := q16
      replace q16 := q16.symm
      subst q16
      show Z l G _ d Q k n 44 _ (.int (zb (zhs h b5 x2)) :: []) _
      refine z_if_eq (t := 57) dX10_sign_44 (by decide) (fun c17 => ?_) (fun c18 => ?_)
      · have hw19 := hw13.1 (zb0 c17)
        refine z_bipush (v := (-2)) dX10_sign_57 (by decide) ?_
        exact z_ret (v := some (.int ((-2)))) dX10_sign_59 ⟨_, rfl, rfl⟩ rfl hw19
      · have hw20 := hw13.2 (zb1 c18)
        refine z_aload dX10_sign_47 rfl ?_
        refine z_iloadn dX10_sign_49 rfl rfl ?_
        refine z_iloadn dX10_sign_50 rfl rfl ?_
        refine z_soP [.int x3, .int x2] c4 ?_
        obtain ⟨P21, ct22, hw23⟩ := hw20
        refine z_callV (h := h) (S := []) (a := b5) (M := mX10_sign) (As := [.int x2, .int x3]) zc3 rfl eX3_part w1378 w90 (Or.inr ⟨_, w1376⟩) dX10_sign_51 (ho12.k 0 rfl) (ho12.lt 0 rfl) rfl (by omega) (Nat.le_of_ble_eq_true rfl) ct22 (fun v28 g29 q25 => ?_)
        obtain ⟨y26, I24, rfl, rfl, q25⟩ := q25
        have hw27 := hw23 y26 I24 q25
        show Z l G _ d Q k n 54 _ (.int y26 :: []) _
        refine z_goto (t := 59) dX10_sign_54 (by decide) ?_
        exact z_ret (v := some (.int y26)) dX10_sign_59 ⟨_, rfl, rfl⟩ rfl hw27
    · have hw11 := hw7.2 c9
      refine z_iloadn dX10_sign_23 rfl rfl ?_
      refine z_if_ne (t := 35) dX10_sign_24 (by decide) (fun c30 => ?_) (fun c31 => ?_)
      · have hw32 := hw11.1 c30
        refine z_bipush (v := (-2)) dX10_sign_35 (by decide) ?_
        exact z_ret (v := some (.int ((-2)))) dX10_sign_37 ⟨_, rfl, rfl⟩ rfl hw32
      · have hw33 := hw11.2 c31
        refine z_aload dX10_sign_27 rfl ?_
        refine z_soP [] c4 ?_
        obtain ⟨ho34, hw35⟩ := hw33
        refine z_getIN (j := 0) zc3 dX10_sign_29 (ho34.k 0 rfl) (ho34.lt 0 rfl) (by decide) rfl w363 ?_
        refine z_goto (t := 37) dX10_sign_32 (by decide) ?_
        exact z_ret (v := some (.int (zI h b5 0))) dX10_sign_37 ⟨_, rfl, rfl⟩ rfl hw35
  · have hw6 := hw.1 c4
    refine z_bipush (v := (-2)) dX10_sign_15 (by decide) ?_
    exact z_ret (v := some (.int ((-2)))) dX10_sign_17 ⟨_, rfl, rfl⟩ rfl hw6

theorem kX10_sign {l : Launch} {G : zG} {d : Nat} {Q : Option Value → zH → Prop} {k n : Nat} {h : zH} (a : Nat) (x1 : Int32) (x2 : Int32) (x3 : Int32) (hz : Z l G mX10_sign d Q k n 0 [va_rf (some a), .int x1, .int x2, .int x3, zU] [] h) : CT l G YX10_sign d k n [va_rf (some a), .int x1, .int x2, .int x3] h Q :=
  CT.of (by decide +kernel) (fun t e => by have e2 : ((some .int) : Option FieldType) = some t := e; cases e2; exact ⟨by decide, by decide⟩) (by exact Nat.le_of_ble_eq_true rfl) (by exact hz)

theorem sX10_makers_0 {l : Launch} {G : zG} {d : Nat} {Q : Option Value → zH → Prop} {k n : Nat} {h : zH} (a : Nat) (x1 : Int32) (x2 : Int32) (x3 : Int32) (ha : lo10 h a) (hd9 : 7 ≤ d)
    (hw : ((zrat h (a + 1) x2 = none → Q (some (.int ((-2)))) h) ∧ (∀ b5, zrat h (a + 1) x2 = some b5 → ((x3 = (-1) → (∃ P12, CTz l G YX10_compare 6 [va_rf (some a), .int x1, .int x2] h P12 ∧ ∀ (y17 : Bool) (I15 : Nat → Nat → Int32), P12 y17 I15 → ((y17 = true → ((¬ x3 = (-1) → Q (some (.int (zget (I15, h.2) (some (a + 151)) x3))) (I15, h.2)) ∧ (x3 = (-1) → (∃ P32, CTi l G YX4_forged 2 [va_rf (some (a + 150))] (I15, h.2) P32 ∧ ∀ (y37 : Int32) (I35 : Nat → Nat → Int32), P32 y37 I35 → Q (some (.int y37)) (I35, h.2))))) ∧ (y17 = false → Q (some (.int ((-2)))) (I15, h.2))))) ∧ (¬ x3 = (-1) → (lo3 h b5 ∧ (((zhs h b5 x3) = false → Q (some (.int ((-2)))) h) ∧ ((zhs h b5 x3) = true → (∃ P50, CTz l G YX10_compare 6 [va_rf (some a), .int x1, .int x2] h P50 ∧ ∀ (y55 : Bool) (I53 : Nat → Nat → Int32), P50 y55 I53 → ((y55 = true → ((¬ x3 = (-1) → Q (some (.int (zget (I53, h.2) (some (a + 151)) x3))) (I53, h.2)) ∧ (x3 = (-1) → (∃ P70, CTi l G YX4_forged 2 [va_rf (some (a + 150))] (I53, h.2) P70 ∧ ∀ (y75 : Int32) (I73 : Nat → Nat → Int32), P70 y75 I73 → Q (some (.int y75)) (I73, h.2))))) ∧ (y55 = false → Q (some (.int ((-2)))) (I53, h.2)))))))))))) :
    Z l G mX10_makers d Q k n 0 [va_rf (some a), .int x1, .int x2, .int x3, zU] [] h := by
  refine z_aloadn dX10_makers_0 rfl rfl ?_
  refine z_getRq (j := 0) zc10 dX10_makers_1 (ha.k 0 rfl) (ha.lt 0 rfl) (by decide) rfl w699 (ha.r 51 rfl) ?_
  refine z_iloadn dX10_makers_4 rfl rfl ?_
  refine z_callV (h := h) (S := []) (a := (a + 1)) (M := mX10_makers) (As := [.int x2]) zc6 rfl eX6_readingAt w1370 w88 (Or.inr ⟨_, w1368⟩) dX10_makers_5 (ha.k 1 rfl) (ha.lt 1 rfl) rfl (by omega) (Nat.le_of_ble_eq_true rfl) (c_X6_readingAt l G h (a + 1) x2 (los_10_1 ha)) (fun v1 g2 q3 => ?_)
  obtain ⟨rfl, q3⟩ := q3
  replace q3 := q3.symm
  subst q3
  show Z l G _ d Q k n 8 _ (va_rf (zrat h (a + 1) x2) :: []) _
  refine z_astore (L' := [va_rf (some a), .int x1, .int x2, .int x3, va_rf (zrat h (a + 1) x2)]) dX10_makers_8 (by decide) rfl ?_
  refine z_aload dX10_makers_10 rfl ?_
  refine z_ifnull (t := 38) dX10_makers_12 (by decide) (fun c4 => ?_) (fun b5 c4 => ?_)
  · have hw6 := hw.1 c4
    refine z_bipush (v := (-2)) dX10_makers_38 (by decide) ?_
    exact z_ret (v := some (.int ((-2)))) dX10_makers_40 ⟨_, rfl, rfl⟩ rfl hw6
  · have hw7 := hw.2 b5 c4
    refine z_iloadn dX10_makers_15 rfl rfl ?_
    refine z_iconst (v := (-1)) dX10_makers_16 (by decide) ?_
    refine z_icmp_eq (t := 29) dX10_makers_17 (by decide) (fun c8 => ?_) (fun c9 => ?_)
    · have hw10 := hw7.1 c8
      refine z_aloadn dX10_makers_29 rfl rfl ?_
      refine z_iloadn dX10_makers_30 rfl rfl ?_
      refine z_iloadn dX10_makers_31 rfl rfl ?_
      obtain ⟨P12, ct13, hw14⟩ := hw10
      refine z_callV (h := h) (S := []) (a := a) (M := mX10_makers) (As := [.int x1, .int x2]) zc10 rfl eX10_compare w1387 w91 (Or.inl w1385) dX10_makers_32 (ha.k 0 rfl) (ha.lt 0 rfl) rfl (by omega) (Nat.le_of_ble_eq_true rfl) ct13 (fun v19 g20 q16 => ?_)
      obtain ⟨y17, I15, rfl, rfl, q16⟩ := q16
      have hw18 := hw14 y17 I15 q16
      show Z l G _ d Q k n 35 _ (.int (zb y17) :: []) _
      refine z_if_ne (t := 41) dX10_makers_35 (by decide) (fun c21 => ?_) (fun c22 => ?_)
      · have hw23 := hw18.1 (zb1 c21)
        refine z_iloadn dX10_makers_41 rfl rfl ?_
        refine z_iconst (v := (-1)) dX10_makers_42 (by decide) ?_
        refine z_icmp_ne (t := 56) dX10_makers_43 (by decide) (fun c25 => ?_) (fun c26 => ?_)
        · have hw27 := hw23.1 c25
          refine z_aloadn dX10_makers_56 rfl rfl ?_
          refine z_getRq (j := 12) zc10 dX10_makers_57 (ha.k 0 rfl) (ha.lt 0 rfl) (by decide) rfl w711 (ha.r 155 rfl) ?_
          refine z_getRNq (j := 1) zc4 dX10_makers_60 (ha.k 150 rfl) (ha.lt 150 rfl) (by decide) rfl w653 (ha.r 149 rfl) ?_
          refine z_iloadn dX10_makers_63 rfl rfl ?_
          refine z_callS (h := (I15, h.2)) (S := []) (M := mX10_makers) (As := [va_rf (some (a + 151)), .int x3]) eX10_get w778 (Or.inl w1101) dX10_makers_64 rfl (by omega) (Nat.le_of_ble_eq_true rfl) (c_X10_get l G (I15, h.2) (some (a + 151)) x3 (zgok_lo (ha.w 151 rfl) (by decide))) (fun v29 g30 q31 => ?_)
          obtain ⟨rfl, q31⟩ := q31
          replace q31 := q31.symm
          subst q31
          show Z l G _ d Q k n 67 _ (.int (zget (I15, h.2) (some (a + 151)) x3) :: []) _
          exact z_ret (v := some (.int (zget (I15, h.2) (some (a + 151)) x3))) dX10_makers_67 ⟨_, rfl, rfl⟩ rfl hw27
        · have hw28 := hw23.2 c26
          refine z_aloadn dX10_makers_46 rfl rfl ?_
          refine z_getRq (j := 12) zc10 dX10_makers_47 (ha.k 0 rfl) (ha.lt 0 rfl) (by decide) rfl w711 (ha.r 155 rfl) ?_
          obtain ⟨P32, ct33, hw34⟩ := hw28
          refine z_callV (h := (I15, h.2)) (S := []) (a := (a + 150)) (M := mX10_makers) (As := []) zc4 rfl eX4_forged w1410 w94 (Or.inr ⟨_, w1408⟩) dX10_makers_50 (ha.k 150 rfl) (ha.lt 150 rfl) rfl (by omega) (Nat.le_of_ble_eq_true rfl) ct33 (fun v39 g40 q36 => ?_)
          obtain ⟨y37, I35, rfl, rfl, q36⟩ := q36
          have hw38 := hw34 y37 I35 q36
          show Z l G _ d Q k n 53 _ (.int y37 :: []) _
          refine z_goto (t := 67) dX10_makers_53 (by decide) ?_
          exact z_ret (v := some (.int y37)) dX10_makers_67 ⟨_, rfl, rfl⟩ rfl hw38
      · have hw24 := hw18.2 (zb0 c22)
        refine z_bipush (v := (-2)) dX10_makers_38 (by decide) ?_
        exact z_ret (v := some (.int ((-2)))) dX10_makers_40 ⟨_, rfl, rfl⟩ rfl hw24
    · have hw11 := hw7.2 c9
      refine z_aload dX10_makers_20 rfl ?_
      refine z_iloadn dX10_makers_22 rfl rfl ?_
      refine z_soP [.int x3] c4 ?_
      obtain ⟨ho41, hw42⟩ := hw11
      refine z_callV (h := h) (S := []) (a := b5) (M := mX10_makers) (As := [.int x3]) zc3 rfl eX3_hasSign w1374 w89 (Or.inr ⟨_, w1372⟩) dX10_makers_23 (ho41.k 0 rfl) (ho41.lt 0 rfl) rfl (by omega) (Nat.le_of_ble_eq_true rfl) (c_X3_hasSign l G h b5 x3 ho41) (fun v43 g44 q45 => ?_)
      obtain ⟨rfl, q45⟩ := q45
      replace q45 := q45.symm
      subst q45
      show Z l G _ d Q k n 26 _ (.int (zb (zhs h b5 x3)) :: []) _
      refine z_if_eq (t := 38) dX10_makers_26 (by decide) (fun c46 => ?_) (fun c47 => ?_)
      · have hw48 := hw42.1 (zb0 c46)
        refine z_bipush (v := (-2)) dX10_makers_38 (by decide) ?_
        exact z_ret (v := some (.int ((-2)))) dX10_makers_40 ⟨_, rfl, rfl⟩ rfl hw48
      · have hw49 := hw42.2 (zb1 c47)
        refine z_aloadn dX10_makers_29 rfl rfl ?_
        refine z_iloadn dX10_makers_30 rfl rfl ?_
        refine z_iloadn dX10_makers_31 rfl rfl ?_
        obtain ⟨P50, ct51, hw52⟩ := hw49
        refine z_callV (h := h) (S := []) (a := a) (M := mX10_makers) (As := [.int x1, .int x2]) zc10 rfl eX10_compare w1387 w91 (Or.inl w1385) dX10_makers_32 (ha.k 0 rfl) (ha.lt 0 rfl) rfl (by omega) (Nat.le_of_ble_eq_true rfl) ct51 (fun v57 g58 q54 => ?_)
        obtain ⟨y55, I53, rfl, rfl, q54⟩ := q54
        have hw56 := hw52 y55 I53 q54
        show Z l G _ d Q k n 35 _ (.int (zb y55) :: []) _
        refine z_if_ne (t := 41) dX10_makers_35 (by decide) (fun c59 => ?_) (fun c60 => ?_)
        · have hw61 := hw56.1 (zb1 c59)
          refine z_iloadn dX10_makers_41 rfl rfl ?_
          refine z_iconst (v := (-1)) dX10_makers_42 (by decide) ?_
          refine z_icmp_ne (t := 56) dX10_makers_43 (by decide) (fun c63 => ?_) (fun c64 => ?_)
          · have hw65 := hw61.1 c63
            refine z_aloadn dX10_makers_56 rfl rfl ?_
            refine z_getRq (j := 12) zc10 dX10_makers_57 (ha.k 0 rfl) (ha.lt 0 rfl) (by decide) rfl w711 (ha.r 155 rfl) ?_
            refine z_getRNq (j := 1) zc4 dX10_makers_60 (ha.k 150 rfl) (ha.lt 150 rfl) (by decide) rfl w653 (ha.r 149 rfl) ?_
            refine z_iloadn dX10_makers_63 rfl rfl ?_
            refine z_callS (h := (I53, h.2)) (S := []) (M := mX10_makers) (As := [va_rf (some (a + 151)), .int x3]) eX10_get w778 (Or.inl w1101) dX10_makers_64 rfl (by omega) (Nat.le_of_ble_eq_true rfl) (c_X10_get l G (I53, h.2) (some (a + 151)) x3 (zgok_lo (ha.w 151 rfl) (by decide))) (fun v67 g68 q69 => ?_)
            obtain ⟨rfl, q69⟩ := q69
            replace q69 := q69.symm
            subst q69
            show Z l G _ d Q k n 67 _ (.int (zget (I53, h.2) (some (a + 151)) x3) :: []) _
            exact z_ret (v := some (.int (zget (I53, h.2) (some (a + 151)) x3))) dX10_makers_67 ⟨_, rfl, rfl⟩ rfl hw65
          · have hw66 := hw61.2 c64
            refine z_aloadn dX10_makers_46 rfl rfl ?_
            refine z_getRq (j := 12) zc10 dX10_makers_47 (ha.k 0 rfl) (ha.lt 0 rfl) (by decide) rfl w711 (ha.r 155 rfl) ?_
            obtain ⟨P70, ct71, hw72⟩ := hw66
            refine z_callV (h := (I53, h.2)) (S := []) (a := (a + 150)) (M := mX10_makers) (As := []) zc4 rfl eX4_forged w1410 w94 (Or.inr ⟨_, w1408⟩) dX10_makers_50 (ha.k 150 rfl) (ha.lt 150 rfl) rfl (by omega) (Nat.le_of_ble_eq_true rfl) ct71 (fun v77 g78 q74 => ?_)
            obtain ⟨y75, I73, rfl, rfl, q74⟩ := q74
            have hw76 := hw72 y75 I73 q74
            show Z l G _ d Q k n 53 _ (.int y75 :: []) _
            refine z_goto (t := 67) dX10_makers_53 (by decide) ?_
            exact z_ret (v := some (.int y75)) dX10_makers_67 ⟨_, rfl, rfl⟩ rfl hw76
        · have hw62 := hw56.2 (zb0 c60)
          refine z_bipush (v := (-2)) dX10_makers_38 (by decide) ?_
          exact z_ret (v := some (.int ((-2)))) dX10_makers_40 ⟨_, rfl, rfl⟩ rfl hw62

theorem kX10_makers {l : Launch} {G : zG} {d : Nat} {Q : Option Value → zH → Prop} {k n : Nat} {h : zH} (a : Nat) (x1 : Int32) (x2 : Int32) (x3 : Int32) (hz : Z l G mX10_makers d Q k n 0 [va_rf (some a), .int x1, .int x2, .int x3, zU] [] h) : CT l G YX10_makers d k n [va_rf (some a), .int x1, .int x2, .int x3] h Q :=
  CT.of (by decide +kernel) (fun t e => by have e2 : ((some .int) : Option FieldType) = some t := e; cases e2; exact ⟨by decide, by decide⟩) (by exact Nat.le_of_ble_eq_true rfl) (by exact hz)

theorem sX10_follows_0 {l : Launch} {G : zG} {d : Nat} {Q : Option Value → zH → Prop} {k n : Nat} {h : zH} (a : Nat) (x1 : Int32) (x2 : Int32) (x3 : Int32) (ha : lo10 h a) (hd9 : 7 ≤ d)
    (hw : ((zrat h (a + 1) x2 = none → Q (some (.int ((-2)))) h) ∧ (∀ b5, zrat h (a + 1) x2 = some b5 → ((x3 = (-1) → (∃ P12, CTz l G YX10_compare 6 [va_rf (some a), .int x1, .int x2] h P12 ∧ ∀ (y17 : Bool) (I15 : Nat → Nat → Int32), P12 y17 I15 → ((y17 = true → ((¬ x3 = (-1) → Q (some (.int (zget (I15, h.2) (some (a + 152)) x3))) (I15, h.2)) ∧ (x3 = (-1) → (∃ P32, CTi l G YX4_couples 2 [va_rf (some (a + 150))] (I15, h.2) P32 ∧ ∀ (y37 : Int32) (I35 : Nat → Nat → Int32), P32 y37 I35 → Q (some (.int y37)) (I35, h.2))))) ∧ (y17 = false → Q (some (.int ((-2)))) (I15, h.2))))) ∧ (¬ x3 = (-1) → (lo3 h b5 ∧ (((zhs h b5 x3) = false → Q (some (.int ((-2)))) h) ∧ ((zhs h b5 x3) = true → (∃ P50, CTz l G YX10_compare 6 [va_rf (some a), .int x1, .int x2] h P50 ∧ ∀ (y55 : Bool) (I53 : Nat → Nat → Int32), P50 y55 I53 → ((y55 = true → ((¬ x3 = (-1) → Q (some (.int (zget (I53, h.2) (some (a + 152)) x3))) (I53, h.2)) ∧ (x3 = (-1) → (∃ P70, CTi l G YX4_couples 2 [va_rf (some (a + 150))] (I53, h.2) P70 ∧ ∀ (y75 : Int32) (I73 : Nat → Nat → Int32), P70 y75 I73 → Q (some (.int y75)) (I73, h.2))))) ∧ (y55 = false → Q (some (.int ((-2)))) (I53, h.2)))))))))))) :
    Z l G mX10_follows d Q k n 0 [va_rf (some a), .int x1, .int x2, .int x3, zU] [] h := by
  refine z_aloadn dX10_follows_0 rfl rfl ?_
  refine z_getRq (j := 0) zc10 dX10_follows_1 (ha.k 0 rfl) (ha.lt 0 rfl) (by decide) rfl w699 (ha.r 51 rfl) ?_
  refine z_iloadn dX10_follows_4 rfl rfl ?_
  refine z_callV (h := h) (S := []) (a := (a + 1)) (M := mX10_follows) (As := [.int x2]) zc6 rfl eX6_readingAt w1370 w88 (Or.inr ⟨_, w1368⟩) dX10_follows_5 (ha.k 1 rfl) (ha.lt 1 rfl) rfl (by omega) (Nat.le_of_ble_eq_true rfl) (c_X6_readingAt l G h (a + 1) x2 (los_10_1 ha)) (fun v1 g2 q3 => ?_)
  obtain ⟨rfl, q3⟩ := q3
  replace q3 := q3.symm
  subst q3
  show Z l G _ d Q k n 8 _ (va_rf (zrat h (a + 1) x2) :: []) _
  refine z_astore (L' := [va_rf (some a), .int x1, .int x2, .int x3, va_rf (zrat h (a + 1) x2)]) dX10_follows_8 (by decide) rfl ?_
  refine z_aload dX10_follows_10 rfl ?_
  refine z_ifnull (t := 38) dX10_follows_12 (by decide) (fun c4 => ?_) (fun b5 c4 => ?_)
  · have hw6 := hw.1 c4
    refine z_bipush (v := (-2)) dX10_follows_38 (by decide) ?_
    exact z_ret (v := some (.int ((-2)))) dX10_follows_40 ⟨_, rfl, rfl⟩ rfl hw6
  · have hw7 := hw.2 b5 c4
    refine z_iloadn dX10_follows_15 rfl rfl ?_
    refine z_iconst (v := (-1)) dX10_follows_16 (by decide) ?_
    refine z_icmp_eq (t := 29) dX10_follows_17 (by decide) (fun c8 => ?_) (fun c9 => ?_)
    · have hw10 := hw7.1 c8
      refine z_aloadn dX10_follows_29 rfl rfl ?_
      refine z_iloadn dX10_follows_30 rfl rfl ?_
      refine z_iloadn dX10_follows_31 rfl rfl ?_
      obtain ⟨P12, ct13, hw14⟩ := hw10
      refine z_callV (h := h) (S := []) (a := a) (M := mX10_follows) (As := [.int x1, .int x2]) zc10 rfl eX10_compare w1387 w91 (Or.inl w1385) dX10_follows_32 (ha.k 0 rfl) (ha.lt 0 rfl) rfl (by omega) (Nat.le_of_ble_eq_true rfl) ct13 (fun v19 g20 q16 => ?_)
      obtain ⟨y17, I15, rfl, rfl, q16⟩ := q16
      have hw18 := hw14 y17 I15 q16
      show Z l G _ d Q k n 35 _ (.int (zb y17) :: []) _
      refine z_if_ne (t := 41) dX10_follows_35 (by decide) (fun c21 => ?_) (fun c22 => ?_)
      · have hw23 := hw18.1 (zb1 c21)
        refine z_iloadn dX10_follows_41 rfl rfl ?_
        refine z_iconst (v := (-1)) dX10_follows_42 (by decide) ?_
        refine z_icmp_ne (t := 56) dX10_follows_43 (by decide) (fun c25 => ?_) (fun c26 => ?_)
        · have hw27 := hw23.1 c25
          refine z_aloadn dX10_follows_56 rfl rfl ?_
          refine z_getRq (j := 12) zc10 dX10_follows_57 (ha.k 0 rfl) (ha.lt 0 rfl) (by decide) rfl w711 (ha.r 155 rfl) ?_
          refine z_getRNq (j := 2) zc4 dX10_follows_60 (ha.k 150 rfl) (ha.lt 150 rfl) (by decide) rfl w655 (ha.r 150 rfl) ?_
          refine z_iloadn dX10_follows_63 rfl rfl ?_
          refine z_callS (h := (I15, h.2)) (S := []) (M := mX10_follows) (As := [va_rf (some (a + 152)), .int x3]) eX10_get w778 (Or.inl w1101) dX10_follows_64 rfl (by omega) (Nat.le_of_ble_eq_true rfl) (c_X10_get l G (I15, h.2) (some (a + 152)) x3 (zgok_lo (ha.w 152 rfl) (by decide))) (fun v29 g30 q31 => ?_)
          obtain ⟨rfl, q31⟩ := q31
          replace q31 := q31.symm
          subst q31
          show Z l G _ d Q k n 67 _ (.int (zget (I15, h.2) (some (a + 152)) x3) :: []) _
          exact z_ret (v := some (.int (zget (I15, h.2) (some (a + 152)) x3))) dX10_follows_67 ⟨_, rfl, rfl⟩ rfl hw27
        · have hw28 := hw23.2 c26
          refine z_aloadn dX10_follows_46 rfl rfl ?_
          refine z_getRq (j := 12) zc10 dX10_follows_47 (ha.k 0 rfl) (ha.lt 0 rfl) (by decide) rfl w711 (ha.r 155 rfl) ?_
          obtain ⟨P32, ct33, hw34⟩ := hw28
          refine z_callV (h := (I15, h.2)) (S := []) (a := (a + 150)) (M := mX10_follows) (As := []) zc4 rfl eX4_couples w1418 w95 (Or.inr ⟨_, w1416⟩) dX10_follows_50 (ha.k 150 rfl) (ha.lt 150 rfl) rfl (by omega) (Nat.le_of_ble_eq_true rfl) ct33 (fun v39 g40 q36 => ?_)
          obtain ⟨y37, I35, rfl, rfl, q36⟩ := q36
          have hw38 := hw34 y37 I35 q36
          show Z l G _ d Q k n 53 _ (.int y37 :: []) _
          refine z_goto (t := 67) dX10_follows_53 (by decide) ?_
          exact z_ret (v := some (.int y37)) dX10_follows_67 ⟨_, rfl, rfl⟩ rfl hw38
      · have hw24 := hw18.2 (zb0 c22)
        refine z_bipush (v := (-2)) dX10_follows_38 (by decide) ?_
        exact z_ret (v := some (.int ((-2)))) dX10_follows_40 ⟨_, rfl, rfl⟩ rfl hw24
    · have hw11 := hw7.2 c9
      refine z_aload dX10_follows_20 rfl ?_
      refine z_iloadn dX10_follows_22 rfl rfl ?_
      refine z_soP [.int x3] c4 ?_
      obtain ⟨ho41, hw42⟩ := hw11
      refine z_callV (h := h) (S := []) (a := b5) (M := mX10_follows) (As := [.int x3]) zc3 rfl eX3_hasSign w1374 w89 (Or.inr ⟨_, w1372⟩) dX10_follows_23 (ho41.k 0 rfl) (ho41.lt 0 rfl) rfl (by omega) (Nat.le_of_ble_eq_true rfl) (c_X3_hasSign l G h b5 x3 ho41) (fun v43 g44 q45 => ?_)
      obtain ⟨rfl, q45⟩ := q45
      replace q45 := q45.symm
      subst q45
      show Z l G _ d Q k n 26 _ (.int (zb (zhs h b5 x3)) :: []) _
      refine z_if_eq (t := 38) dX10_follows_26 (by decide) (fun c46 => ?_) (fun c47 => ?_)
      · have hw48 := hw42.1 (zb0 c46)
        refine z_bipush (v := (-2)) dX10_follows_38 (by decide) ?_
        exact z_ret (v := some (.int ((-2)))) dX10_follows_40 ⟨_, rfl, rfl⟩ rfl hw48
      · have hw49 := hw42.2 (zb1 c47)
        refine z_aloadn dX10_follows_29 rfl rfl ?_
        refine z_iloadn dX10_follows_30 rfl rfl ?_
        refine z_iloadn dX10_follows_31 rfl rfl ?_
        obtain ⟨P50, ct51, hw52⟩ := hw49
        refine z_callV (h := h) (S := []) (a := a) (M := mX10_follows) (As := [.int x1, .int x2]) zc10 rfl eX10_compare w1387 w91 (Or.inl w1385) dX10_follows_32 (ha.k 0 rfl) (ha.lt 0 rfl) rfl (by omega) (Nat.le_of_ble_eq_true rfl) ct51 (fun v57 g58 q54 => ?_)
        obtain ⟨y55, I53, rfl, rfl, q54⟩ := q54
        have hw56 := hw52 y55 I53 q54
        show Z l G _ d Q k n 35 _ (.int (zb y55) :: []) _
        refine z_if_ne (t := 41) dX10_follows_35 (by decide) (fun c59 => ?_) (fun c60 => ?_)
        · have hw61 := hw56.1 (zb1 c59)
          refine z_iloadn dX10_follows_41 rfl rfl ?_
          refine z_iconst (v := (-1)) dX10_follows_42 (by decide) ?_
          refine z_icmp_ne (t := 56) dX10_follows_43 (by decide) (fun c63 => ?_) (fun c64 => ?_)
          · have hw65 := hw61.1 c63
            refine z_aloadn dX10_follows_56 rfl rfl ?_
            refine z_getRq (j := 12) zc10 dX10_follows_57 (ha.k 0 rfl) (ha.lt 0 rfl) (by decide) rfl w711 (ha.r 155 rfl) ?_
            refine z_getRNq (j := 2) zc4 dX10_follows_60 (ha.k 150 rfl) (ha.lt 150 rfl) (by decide) rfl w655 (ha.r 150 rfl) ?_
            refine z_iloadn dX10_follows_63 rfl rfl ?_
            refine z_callS (h := (I53, h.2)) (S := []) (M := mX10_follows) (As := [va_rf (some (a + 152)), .int x3]) eX10_get w778 (Or.inl w1101) dX10_follows_64 rfl (by omega) (Nat.le_of_ble_eq_true rfl) (c_X10_get l G (I53, h.2) (some (a + 152)) x3 (zgok_lo (ha.w 152 rfl) (by decide))) (fun v67 g68 q69 => ?_)
            obtain ⟨rfl, q69⟩ := q69
            replace q69 := q69.symm
            subst q69
            show Z l G _ d Q k n 67 _ (.int (zget (I53, h.2) (some (a + 152)) x3) :: []) _
            exact z_ret (v := some (.int (zget (I53, h.2) (some (a + 152)) x3))) dX10_follows_67 ⟨_, rfl, rfl⟩ rfl hw65
          · have hw66 := hw61.2 c64
            refine z_aloadn dX10_follows_46 rfl rfl ?_
            refine z_getRq (j := 12) zc10 dX10_follows_47 (ha.k 0 rfl) (ha.lt 0 rfl) (by decide) rfl w711 (ha.r 155 rfl) ?_
            obtain ⟨P70, ct71, hw72⟩ := hw66
            refine z_callV (h := (I53, h.2)) (S := []) (a := (a + 150)) (M := mX10_follows) (As := []) zc4 rfl eX4_couples w1418 w95 (Or.inr ⟨_, w1416⟩) dX10_follows_50 (ha.k 150 rfl) (ha.lt 150 rfl) rfl (by omega) (Nat.le_of_ble_eq_true rfl) ct71 (fun v77 g78 q74 => ?_)
            obtain ⟨y75, I73, rfl, rfl, q74⟩ := q74
            have hw76 := hw72 y75 I73 q74
            show Z l G _ d Q k n 53 _ (.int y75 :: []) _
            refine z_goto (t := 67) dX10_follows_53 (by decide) ?_
            exact z_ret (v := some (.int y75)) dX10_follows_67 ⟨_, rfl, rfl⟩ rfl hw76
        · have hw62 := hw56.2 (zb0 c60)
          refine z_bipush (v := (-2)) dX10_follows_38 (by decide) ?_
          exact z_ret (v := some (.int ((-2)))) dX10_follows_40 ⟨_, rfl, rfl⟩ rfl hw62

theorem kX10_follows {l : Launch} {G : zG} {d : Nat} {Q : Option Value → zH → Prop} {k n : Nat} {h : zH} (a : Nat) (x1 : Int32) (x2 : Int32) (x3 : Int32) (hz : Z l G mX10_follows d Q k n 0 [va_rf (some a), .int x1, .int x2, .int x3, zU] [] h) : CT l G YX10_follows d k n [va_rf (some a), .int x1, .int x2, .int x3] h Q :=
  CT.of (by decide +kernel) (fun t e => by have e2 : ((some .int) : Option FieldType) = some t := e; cases e2; exact ⟨by decide, by decide⟩) (by exact Nat.le_of_ble_eq_true rfl) (by exact hz)

theorem sX10_walks_0 {l : Launch} {G : zG} {d : Nat} {Q : Option Value → zH → Prop} {k n : Nat} {h : zH} (a : Nat) (x1 : Int32) (x2 : Int32) (x3 : Int32) (ha : lo10 h a) (hd9 : 16 ≤ d)
    (hw : ((zrat h (a + 1) x2 = none → Q (some (.int ((-2)))) h) ∧ (∀ b5, zrat h (a + 1) x2 = some b5 → (∃ P8, CTz l G YX10_compare 6 [va_rf (some a), .int x1, .int x2] h P8 ∧ ∀ (y13 : Bool) (I11 : Nat → Nat → Int32), P8 y13 I11 → ((y13 = true → (∃ P21, CTv l G YX4_countFewest 15 [va_rf (some (a + 150))] (I11, h.2) P21 ∧ ∀ (I24 : Nat → Nat → Int32), P21 I24 → ((x3.toInt = 0 → Q (some (.int (zI (I24, h.2) (a + 150) 3))) (I24, h.2)) ∧ (¬ x3.toInt = 0 → ((x3.toInt = 1 → Q (some (.int (zI (I24, h.2) (a + 150) 4))) (I24, h.2)) ∧ (¬ x3.toInt = 1 → (lo3 (I24, h.2) b5 ∧ (((zhs (I24, h.2) b5 (x3 - 10)) = false → Q (some (.int ((-2)))) (I24, h.2)) ∧ ((zhs (I24, h.2) b5 (x3 - 10)) = true → Q (some (.int (zget (I24, h.2) (some (a + 153)) (x3 - 10)))) (I24, h.2)))))))))) ∧ (y13 = false → Q (some (.int ((-2)))) (I11, h.2))))))) :
    Z l G mX10_walks d Q k n 0 [va_rf (some a), .int x1, .int x2, .int x3, zU] [] h := by
  refine z_aloadn dX10_walks_0 rfl rfl ?_
  refine z_getRq (j := 0) zc10 dX10_walks_1 (ha.k 0 rfl) (ha.lt 0 rfl) (by decide) rfl w699 (ha.r 51 rfl) ?_
  refine z_iloadn dX10_walks_4 rfl rfl ?_
  refine z_callV (h := h) (S := []) (a := (a + 1)) (M := mX10_walks) (As := [.int x2]) zc6 rfl eX6_readingAt w1370 w88 (Or.inr ⟨_, w1368⟩) dX10_walks_5 (ha.k 1 rfl) (ha.lt 1 rfl) rfl (by omega) (Nat.le_of_ble_eq_true rfl) (c_X6_readingAt l G h (a + 1) x2 (los_10_1 ha)) (fun v1 g2 q3 => ?_)
  obtain ⟨rfl, q3⟩ := q3
  replace q3 := q3.symm
  subst q3
  show Z l G _ d Q k n 8 _ (va_rf (zrat h (a + 1) x2) :: []) _
  refine z_astore (L' := [va_rf (some a), .int x1, .int x2, .int x3, va_rf (zrat h (a + 1) x2)]) dX10_walks_8 (by decide) rfl ?_
  refine z_aload dX10_walks_10 rfl ?_
  refine z_ifnull (t := 24) dX10_walks_12 (by decide) (fun c4 => ?_) (fun b5 c4 => ?_)
  · have hw6 := hw.1 c4
    refine z_bipush (v := (-2)) dX10_walks_24 (by decide) ?_
    exact z_ret (v := some (.int ((-2)))) dX10_walks_26 ⟨_, rfl, rfl⟩ rfl hw6
  · have hw7 := hw.2 b5 c4
    refine z_aloadn dX10_walks_15 rfl rfl ?_
    refine z_iloadn dX10_walks_16 rfl rfl ?_
    refine z_iloadn dX10_walks_17 rfl rfl ?_
    obtain ⟨P8, ct9, hw10⟩ := hw7
    refine z_callV (h := h) (S := []) (a := a) (M := mX10_walks) (As := [.int x1, .int x2]) zc10 rfl eX10_compare w1387 w91 (Or.inl w1385) dX10_walks_18 (ha.k 0 rfl) (ha.lt 0 rfl) rfl (by omega) (Nat.le_of_ble_eq_true rfl) ct9 (fun v15 g16 q12 => ?_)
    obtain ⟨y13, I11, rfl, rfl, q12⟩ := q12
    have hw14 := hw10 y13 I11 q12
    show Z l G _ d Q k n 21 _ (.int (zb y13) :: []) _
    refine z_if_ne (t := 27) dX10_walks_21 (by decide) (fun c17 => ?_) (fun c18 => ?_)
    · have hw19 := hw14.1 (zb1 c17)
      refine z_aloadn dX10_walks_27 rfl rfl ?_
      refine z_getRq (j := 12) zc10 dX10_walks_28 (ha.k 0 rfl) (ha.lt 0 rfl) (by decide) rfl w711 (ha.r 155 rfl) ?_
      obtain ⟨P21, ct22, hw23⟩ := hw19
      refine z_callV (h := (I11, h.2)) (S := []) (a := (a + 150)) (M := mX10_walks) (As := []) zc4 rfl eX4_countFewest w1427 w96 (Or.inr ⟨_, w1425⟩) dX10_walks_31 (ha.k 150 rfl) (ha.lt 150 rfl) rfl (by omega) (Nat.le_of_ble_eq_true rfl) ct22 (fun v28 g29 q25 => ?_)
      obtain ⟨I24, rfl, rfl, q25⟩ := q25
      have hw27 := hw23 I24 q25
      show Z l G _ d Q k n 34 _ ([]) _
      refine z_iloadn dX10_walks_34 rfl rfl ?_
      refine z_lswc (td := 76) (ts := [(0, 60), (1, 68)]) dX10_walks_35 (by decide) (by decide) (by decide) ?_
      refine ⟨fun c30 => ?_, fun c31 => ?_⟩
      · have hw32 := hw27.1 c30
        refine z_aloadn dX10_walks_60 rfl rfl ?_
        refine z_getRq (j := 12) zc10 dX10_walks_61 (ha.k 0 rfl) (ha.lt 0 rfl) (by decide) rfl w711 (ha.r 155 rfl) ?_
        refine z_getIN (j := 3) zc4 dX10_walks_64 (ha.k 150 rfl) (ha.lt 150 rfl) (by decide) rfl w657 ?_
        exact z_ret (v := some (.int (zI (I24, h.2) (a + 150) 3))) dX10_walks_67 ⟨_, rfl, rfl⟩ rfl hw32
      have hw33 := hw27.2 c31
      refine ⟨fun c34 => ?_, fun c35 => ?_⟩
      · have hw36 := hw33.1 c34
        refine z_aloadn dX10_walks_68 rfl rfl ?_
        refine z_getRq (j := 12) zc10 dX10_walks_69 (ha.k 0 rfl) (ha.lt 0 rfl) (by decide) rfl w711 (ha.r 155 rfl) ?_
        refine z_getIN (j := 4) zc4 dX10_walks_72 (ha.k 150 rfl) (ha.lt 150 rfl) (by decide) rfl w659 ?_
        exact z_ret (v := some (.int (zI (I24, h.2) (a + 150) 4))) dX10_walks_75 ⟨_, rfl, rfl⟩ rfl hw36
      have hw37 := hw33.2 c35
      refine z_aload dX10_walks_76 rfl ?_
      refine z_iloadn dX10_walks_78 rfl rfl ?_
      refine z_bipush (v := 10) dX10_walks_79 (by decide) ?_
      refine z_isub dX10_walks_81 ?_
      refine z_soP [.int ((x3 - 10))] c4 ?_
      obtain ⟨ho38, hw39⟩ := hw37
      refine z_callV (h := (I24, h.2)) (S := []) (a := b5) (M := mX10_walks) (As := [.int ((x3 - 10))]) zc3 rfl eX3_hasSign w1374 w89 (Or.inr ⟨_, w1372⟩) dX10_walks_82 (ho38.k 0 rfl) (ho38.lt 0 rfl) rfl (by omega) (Nat.le_of_ble_eq_true rfl) (c_X3_hasSign l G (I24, h.2) b5 (x3 - 10) ho38) (fun v40 g41 q42 => ?_)
      obtain ⟨rfl, q42⟩ := q42
      replace q42 := q42.symm
      subst q42
      show Z l G _ d Q k n 85 _ (.int (zb (zhs (I24, h.2) b5 (x3 - 10))) :: []) _
      refine z_if_eq (t := 105) dX10_walks_85 (by decide) (fun c43 => ?_) (fun c44 => ?_)
      · have hw45 := hw39.1 (zb0 c43)
        refine z_bipush (v := (-2)) dX10_walks_105 (by decide) ?_
        exact z_ret (v := some (.int ((-2)))) dX10_walks_107 ⟨_, rfl, rfl⟩ rfl hw45
      · have hw46 := hw39.2 (zb1 c44)
        refine z_aloadn dX10_walks_88 rfl rfl ?_
        refine z_getRq (j := 12) zc10 dX10_walks_89 (ha.k 0 rfl) (ha.lt 0 rfl) (by decide) rfl w711 (ha.r 155 rfl) ?_
        refine z_getRNq (j := 5) zc4 dX10_walks_92 (ha.k 150 rfl) (ha.lt 150 rfl) (by decide) rfl w661 (ha.r 151 rfl) ?_
        refine z_iloadn dX10_walks_95 rfl rfl ?_
        refine z_bipush (v := 10) dX10_walks_96 (by decide) ?_
        refine z_isub dX10_walks_98 ?_
        refine z_callS (h := (I24, h.2)) (S := []) (M := mX10_walks) (As := [va_rf (some (a + 153)), .int ((x3 - 10))]) eX10_get w778 (Or.inl w1101) dX10_walks_99 rfl (by omega) (Nat.le_of_ble_eq_true rfl) (c_X10_get l G (I24, h.2) (some (a + 153)) (x3 - 10) (zgok_lo (ha.w 153 rfl) (by decide))) (fun v47 g48 q49 => ?_)
        obtain ⟨rfl, q49⟩ := q49
        replace q49 := q49.symm
        subst q49
        show Z l G _ d Q k n 102 _ (.int (zget (I24, h.2) (some (a + 153)) (x3 - 10)) :: []) _
        refine z_goto (t := 107) dX10_walks_102 (by decide) ?_
        exact z_ret (v := some (.int (zget (I24, h.2) (some (a + 153)) (x3 - 10)))) dX10_walks_107 ⟨_, rfl, rfl⟩ rfl hw46
    · have hw20 := hw14.2 (zb0 c18)
      refine z_bipush (v := (-2)) dX10_walks_24 (by decide) ?_
      exact z_ret (v := some (.int ((-2)))) dX10_walks_26 ⟨_, rfl, rfl⟩ rfl hw20

theorem kX10_walks {l : Launch} {G : zG} {d : Nat} {Q : Option Value → zH → Prop} {k n : Nat} {h : zH} (a : Nat) (x1 : Int32) (x2 : Int32) (x3 : Int32) (hz : Z l G mX10_walks d Q k n 0 [va_rf (some a), .int x1, .int x2, .int x3, zU] [] h) : CT l G YX10_walks d k n [va_rf (some a), .int x1, .int x2, .int x3] h Q :=
  CT.of (by decide +kernel) (fun t e => by have e2 : ((some .int) : Option FieldType) = some t := e; cases e2; exact ⟨by decide, by decide⟩) (by exact Nat.le_of_ble_eq_true rfl) (by exact hz)

theorem sX10_row_0 {l : Launch} {G : zG} {d : Nat} {Q : Option Value → zH → Prop} {k n : Nat} {h : zH} (a : Nat) (x1 : Int32) (x2 : Int32) (x3 : Int32) (ha : lo10 h a) (hd9 : 15 ≤ d)
    (hw : ((x3.toInt < (1 : Int) → Q (some (.int ((-2)))) h) ∧ ((1 : Int) ≤ x3.toInt → (((4 : Int) < x3.toInt → Q (some (.int ((-2)))) h) ∧ (x3.toInt ≤ (4 : Int) → (∃ P9, CTz l G YX10_compare 6 [va_rf (some a), .int x1, .int x2] h P9 ∧ ∀ (y14 : Bool) (I12 : Nat → Nat → Int32), P9 y14 I12 → ((y14 = true → (∃ P22, CTi l G YX4_fewestOf 14 [va_rf (some (a + 150)), .int x3, .int 1] (I12, h.2) P22 ∧ ∀ (y27 : Int32) (I25 : Nat → Nat → Int32), P22 y27 I25 → Q (some (.int y27)) (I25, h.2))) ∧ (y14 = false → Q (some (.int ((-2)))) (I12, h.2))))))))) :
    Z l G mX10_row d Q k n 0 [va_rf (some a), .int x1, .int x2, .int x3] [] h := by
  refine z_iloadn dX10_row_0 rfl rfl ?_
  refine z_iconst (v := 1) dX10_row_1 (by decide) ?_
  refine z_icmp_lt (t := 19) dX10_row_2 (by decide) (fun c1 => ?_) (fun c2 => ?_)
  · have hw3 := hw.1 c1
    refine z_bipush (v := (-2)) dX10_row_19 (by decide) ?_
    exact z_ret (v := some (.int ((-2)))) dX10_row_21 ⟨_, rfl, rfl⟩ rfl hw3
  · have hw4 := hw.2 c2
    refine z_iloadn dX10_row_5 rfl rfl ?_
    refine z_iconst (v := 4) dX10_row_6 (by decide) ?_
    refine z_icmp_gt (t := 19) dX10_row_7 (by decide) (fun c5 => ?_) (fun c6 => ?_)
    · have hw7 := hw4.1 c5
      refine z_bipush (v := (-2)) dX10_row_19 (by decide) ?_
      exact z_ret (v := some (.int ((-2)))) dX10_row_21 ⟨_, rfl, rfl⟩ rfl hw7
    · have hw8 := hw4.2 c6
      refine z_aloadn dX10_row_10 rfl rfl ?_
      refine z_iloadn dX10_row_11 rfl rfl ?_
      refine z_iloadn dX10_row_12 rfl rfl ?_
      obtain ⟨P9, ct10, hw11⟩ := hw8
      refine z_callV (h := h) (S := []) (a := a) (M := mX10_row) (As := [.int x1, .int x2]) zc10 rfl eX10_compare w1387 w91 (Or.inl w1385) dX10_row_13 (ha.k 0 rfl) (ha.lt 0 rfl) rfl (by omega) (Nat.le_of_ble_eq_true rfl) ct10 (fun v16 g17 q13 => ?_)
      obtain ⟨y14, I12, rfl, rfl, q13⟩ := q13
      have hw15 := hw11 y14 I12 q13
      show Z l G _ d Q k n 16 _ (.int (zb y14) :: []) _
      refine z_if_ne (t := 22) dX10_row_16 (by decide) (fun c18 => ?_) (fun c19 => ?_)
      · have hw20 := hw15.1 (zb1 c18)
        refine z_aloadn dX10_row_22 rfl rfl ?_
        refine z_getRq (j := 12) zc10 dX10_row_23 (ha.k 0 rfl) (ha.lt 0 rfl) (by decide) rfl w711 (ha.r 155 rfl) ?_
        refine z_iloadn dX10_row_26 rfl rfl ?_
        refine z_iconst (v := 1) dX10_row_27 (by decide) ?_
        obtain ⟨P22, ct23, hw24⟩ := hw20
        refine z_callV (h := (I12, h.2)) (S := []) (a := (a + 150)) (M := mX10_row) (As := [.int x3, .int 1]) zc4 rfl eX4_fewestOf w1431 w97 (Or.inr ⟨_, w1452⟩) dX10_row_28 (ha.k 150 rfl) (ha.lt 150 rfl) rfl (by omega) (Nat.le_of_ble_eq_true rfl) ct23 (fun v29 g30 q26 => ?_)
        obtain ⟨y27, I25, rfl, rfl, q26⟩ := q26
        have hw28 := hw24 y27 I25 q26
        show Z l G _ d Q k n 31 _ (.int y27 :: []) _
        exact z_ret (v := some (.int y27)) dX10_row_31 ⟨_, rfl, rfl⟩ rfl hw28
      · have hw21 := hw15.2 (zb0 c19)
        refine z_bipush (v := (-2)) dX10_row_19 (by decide) ?_
        exact z_ret (v := some (.int ((-2)))) dX10_row_21 ⟨_, rfl, rfl⟩ rfl hw21

theorem kX10_row {l : Launch} {G : zG} {d : Nat} {Q : Option Value → zH → Prop} {k n : Nat} {h : zH} (a : Nat) (x1 : Int32) (x2 : Int32) (x3 : Int32) (hz : Z l G mX10_row d Q k n 0 [va_rf (some a), .int x1, .int x2, .int x3] [] h) : CT l G YX10_row d k n [va_rf (some a), .int x1, .int x2, .int x3] h Q :=
  CT.of (by decide +kernel) (fun t e => by have e2 : ((some .int) : Option FieldType) = some t := e; cases e2; exact ⟨by decide, by decide⟩) (by exact Nat.le_of_ble_eq_true rfl) (by exact hz)

theorem sX10_compare_0 {l : Launch} {G : zG} {d : Nat} {Q : Option Value → zH → Prop} {k n : Nat} {h : zH} (a : Nat) (x1 : Int32) (x2 : Int32) (ha : lo10 h a) (hd9 : 6 ≤ d)
    (hw : ((znat h (a + 1) x1 = none → Q (some (.int 0)) h) ∧ (∀ b8, znat h (a + 1) x1 = some b8 → ((zrat h (a + 1) x2 = none → Q (some (.int 0)) h) ∧ (∀ b12, zrat h (a + 1) x2 = some b12 → ((¬ zI h a 13 = x1 → (∃ P19, CTv l G YX4_compare 5 [va_rf (some (a + 150)), va_rf (some b8), va_rf (some b12)] h P19 ∧ ∀ (I22 : Nat → Nat → Int32), P19 I22 → (∀ I28 : Nat → Nat → Int32, I28 = (zwI (I22, h.2) a 13 x1).1 → (∀ I31 : Nat → Nat → Int32, I31 = (zwI (I28, h.2) a 14 x2).1 → Q (some (.int 1)) (I31, h.2))))) ∧ (zI h a 13 = x1 → ((zI h a 14 = x2 → Q (some (.int 1)) h) ∧ (¬ zI h a 14 = x2 → (∃ P38, CTv l G YX4_compare 5 [va_rf (some (a + 150)), va_rf (some b8), va_rf (some b12)] h P38 ∧ ∀ (I41 : Nat → Nat → Int32), P38 I41 → (∀ I47 : Nat → Nat → Int32, I47 = (zwI (I41, h.2) a 13 x1).1 → (∀ I50 : Nat → Nat → Int32, I50 = (zwI (I47, h.2) a 14 x2).1 → Q (some (.int 1)) (I50, h.2))))))))))))) :
    Z l G mX10_compare d Q k n 0 [va_rf (some a), .int x1, .int x2, zU, zU] [] h := by
  refine z_aloadn dX10_compare_0 rfl rfl ?_
  refine z_getRq (j := 0) zc10 dX10_compare_1 (ha.k 0 rfl) (ha.lt 0 rfl) (by decide) rfl w699 (ha.r 51 rfl) ?_
  refine z_iloadn dX10_compare_4 rfl rfl ?_
  refine z_callV (h := h) (S := []) (a := (a + 1)) (M := mX10_compare) (As := [.int x1]) zc6 rfl eX6_nightAt w994 w31 (Or.inr ⟨_, w992⟩) dX10_compare_5 (ha.k 1 rfl) (ha.lt 1 rfl) rfl (by omega) (Nat.le_of_ble_eq_true rfl) (c_X6_nightAt l G h (a + 1) x1 (los_10_1 ha)) (fun v1 g2 q3 => ?_)
  obtain ⟨rfl, q3⟩ := q3
  replace q3 := q3.symm
  subst q3
  show Z l G _ d Q k n 8 _ (va_rf (znat h (a + 1) x1) :: []) _
  refine z_astoren (L' := [va_rf (some a), .int x1, .int x2, va_rf (znat h (a + 1) x1), zU]) dX10_compare_8 rfl (by decide) rfl ?_
  refine z_aloadn dX10_compare_9 rfl rfl ?_
  refine z_getRq (j := 0) zc10 dX10_compare_10 (ha.k 0 rfl) (ha.lt 0 rfl) (by decide) rfl w699 (ha.r 51 rfl) ?_
  refine z_iloadn dX10_compare_13 rfl rfl ?_
  refine z_callV (h := h) (S := []) (a := (a + 1)) (M := mX10_compare) (As := [.int x2]) zc6 rfl eX6_readingAt w1370 w88 (Or.inr ⟨_, w1368⟩) dX10_compare_14 (ha.k 1 rfl) (ha.lt 1 rfl) rfl (by omega) (Nat.le_of_ble_eq_true rfl) (c_X6_readingAt l G h (a + 1) x2 (los_10_1 ha)) (fun v4 g5 q6 => ?_)
  obtain ⟨rfl, q6⟩ := q6
  replace q6 := q6.symm
  subst q6
  show Z l G _ d Q k n 17 _ (va_rf (zrat h (a + 1) x2) :: []) _
  refine z_astore (L' := [va_rf (some a), .int x1, .int x2, va_rf (znat h (a + 1) x1), va_rf (zrat h (a + 1) x2)]) dX10_compare_17 (by decide) ((zs1_rf (j := 3) rfl).trans rfl) ?_
  refine z_aloadn dX10_compare_19 rfl rfl ?_
  refine z_ifnull (t := 28) dX10_compare_20 (by decide) (fun c7 => ?_) (fun b8 c7 => ?_)
  · have hw9 := hw.1 c7
    refine z_iconst (v := 0) dX10_compare_28 (by decide) ?_
    exact z_ret (v := some (.int 0)) dX10_compare_29 ⟨_, rfl, by decide⟩ rfl hw9
  · have hw10 := hw.2 b8 c7
    refine z_aload dX10_compare_23 rfl ?_
    refine z_ifnonnull (t := 30) dX10_compare_25 (by decide) (fun b12 c11 => ?_) (fun c11 => ?_)
    · have hw14 := hw10.2 b12 c11
      refine z_aloadn dX10_compare_30 rfl rfl ?_
      refine z_getI (j := 13) zc10 dX10_compare_31 (ha.k 0 rfl) (ha.lt 0 rfl) (by decide) rfl w712 ?_
      refine z_iloadn dX10_compare_34 rfl rfl ?_
      refine z_icmp_ne (t := 46) dX10_compare_35 (by decide) (fun c15 => ?_) (fun c16 => ?_)
      · have hw17 := hw14.1 c15
        refine z_aloadn dX10_compare_46 rfl rfl ?_
        refine z_getRq (j := 12) zc10 dX10_compare_47 (ha.k 0 rfl) (ha.lt 0 rfl) (by decide) rfl w711 (ha.r 155 rfl) ?_
        refine z_aloadn dX10_compare_50 rfl rfl ?_
        refine z_aload dX10_compare_51 rfl ?_
        refine z_soP [va_rf (zrat h (a + 1) x2)] c7 ?_
        refine z_soP [] c11 ?_
        obtain ⟨P19, ct20, hw21⟩ := hw17
        refine z_callV (h := h) (S := []) (a := (a + 150)) (M := mX10_compare) (As := [va_rf (some b8), va_rf (some b12)]) zc4 rfl eX4_compare w1391 w92 (Or.inr ⟨_, w1389⟩) dX10_compare_53 (ha.k 150 rfl) (ha.lt 150 rfl) rfl (by omega) (Nat.le_of_ble_eq_true rfl) ct20 (fun v26 g27 q23 => ?_)
        obtain ⟨I22, rfl, rfl, q23⟩ := q23
        have hw25 := hw21 I22 q23
        show Z l G _ d Q k n 56 _ ([]) _
        refine z_aloadn dX10_compare_56 rfl rfl ?_
        refine z_iloadn dX10_compare_57 rfl rfl ?_
        refine z_putI (j := 13) zc10 dX10_compare_58 (ha.k 0 rfl) (ha.lt 0 rfl) (by decide) rfl rfl (Or.inl rfl) (Or.inl w712) ?_
        refine z_nm (r := h.2) rfl (fun I28 e29 => ?_)
        have hw30 := hw25 I28 e29
        refine z_aloadn dX10_compare_61 rfl rfl ?_
        refine z_iloadn dX10_compare_62 rfl rfl ?_
        refine z_putI (j := 14) zc10 dX10_compare_63 (ha.k 0 rfl) (ha.lt 0 rfl) (by decide) rfl rfl (Or.inl rfl) (Or.inl w713) ?_
        refine z_nm (r := h.2) rfl (fun I31 e32 => ?_)
        have hw33 := hw30 I31 e32
        refine z_iconst (v := 1) dX10_compare_66 (by decide) ?_
        exact z_ret (v := some (.int 1)) dX10_compare_67 ⟨_, rfl, by decide⟩ rfl hw33
      · have hw18 := hw14.2 c16
        refine z_aloadn dX10_compare_38 rfl rfl ?_
        refine z_getI (j := 14) zc10 dX10_compare_39 (ha.k 0 rfl) (ha.lt 0 rfl) (by decide) rfl w713 ?_
        refine z_iloadn dX10_compare_42 rfl rfl ?_
        refine z_icmp_eq (t := 66) dX10_compare_43 (by decide) (fun c34 => ?_) (fun c35 => ?_)
        · have hw36 := hw18.1 c34
          refine z_iconst (v := 1) dX10_compare_66 (by decide) ?_
          exact z_ret (v := some (.int 1)) dX10_compare_67 ⟨_, rfl, by decide⟩ rfl hw36
        · have hw37 := hw18.2 c35
          refine z_aloadn dX10_compare_46 rfl rfl ?_
          refine z_getRq (j := 12) zc10 dX10_compare_47 (ha.k 0 rfl) (ha.lt 0 rfl) (by decide) rfl w711 (ha.r 155 rfl) ?_
          refine z_aloadn dX10_compare_50 rfl rfl ?_
          refine z_aload dX10_compare_51 rfl ?_
          refine z_soP [va_rf (zrat h (a + 1) x2)] c7 ?_
          refine z_soP [] c11 ?_
          obtain ⟨P38, ct39, hw40⟩ := hw37
          refine z_callV (h := h) (S := []) (a := (a + 150)) (M := mX10_compare) (As := [va_rf (some b8), va_rf (some b12)]) zc4 rfl eX4_compare w1391 w92 (Or.inr ⟨_, w1389⟩) dX10_compare_53 (ha.k 150 rfl) (ha.lt 150 rfl) rfl (by omega) (Nat.le_of_ble_eq_true rfl) ct39 (fun v45 g46 q42 => ?_)
          obtain ⟨I41, rfl, rfl, q42⟩ := q42
          have hw44 := hw40 I41 q42
          show Z l G _ d Q k n 56 _ ([]) _
          refine z_aloadn dX10_compare_56 rfl rfl ?_
          refine z_iloadn dX10_compare_57 rfl rfl ?_
          refine z_putI (j := 13) zc10 dX10_compare_58 (ha.k 0 rfl) (ha.lt 0 rfl) (by decide) rfl rfl (Or.inl rfl) (Or.inl w712) ?_
          refine z_nm (r := h.2) rfl (fun I47 e48 => ?_)
          have hw49 := hw44 I47 e48
          refine z_aloadn dX10_compare_61 rfl rfl ?_
          refine z_iloadn dX10_compare_62 rfl rfl ?_
          refine z_putI (j := 14) zc10 dX10_compare_63 (ha.k 0 rfl) (ha.lt 0 rfl) (by decide) rfl rfl (Or.inl rfl) (Or.inl w713) ?_
          refine z_nm (r := h.2) rfl (fun I50 e51 => ?_)
          have hw52 := hw49 I50 e51
          refine z_iconst (v := 1) dX10_compare_66 (by decide) ?_
          exact z_ret (v := some (.int 1)) dX10_compare_67 ⟨_, rfl, by decide⟩ rfl hw52
    · have hw13 := hw10.1 c11
      refine z_iconst (v := 0) dX10_compare_28 (by decide) ?_
      exact z_ret (v := some (.int 0)) dX10_compare_29 ⟨_, rfl, by decide⟩ rfl hw13

theorem kX10_compare {l : Launch} {G : zG} {d : Nat} {Q : Option Value → zH → Prop} {k n : Nat} {h : zH} (a : Nat) (x1 : Int32) (x2 : Int32) (hz : Z l G mX10_compare d Q k n 0 [va_rf (some a), .int x1, .int x2, zU, zU] [] h) : CT l G YX10_compare d k n [va_rf (some a), .int x1, .int x2] h Q :=
  CT.of (by decide +kernel) (fun t e => by have e2 : ((some .boolean) : Option FieldType) = some t := e; cases e2; exact ⟨by decide, by decide⟩) (by exact Nat.le_of_ble_eq_true rfl) (by exact hz)

theorem sX10_copy_0 {l : Launch} {G : zG} {d : Nat} {Q : Option Value → zH → Prop} {k n : Nat} {h : zH} (r0 : Option Nat) (r1 : Option Nat)  (hd9 : 2 ≤ d)
    (hw : ((r0 = none → Q none h) ∧ (∀ b2, r0 = some b2 → ((r1 = none → Q none h) ∧ (∀ b6, r1 = some b6 → (∃ N9, zAr h b2 N9 ∧ (∃ N12, zAr h b6 N12 ∧ (∃ b29 b30, r0 = some b29 ∧ r1 = some b30 ∧ (∃ N16 N17, zAw h b29 N16 ∧ zAw h b30 N17 ∧ 0 ≤ (0 : Int) ∧ 0 ≤ (0 : Int) ∧ 0 ≤ (imin (Int32.ofNat N9) (Int32.ofNat N12)).toInt ∧ (0 : Int) + (imin (Int32.ofNat N9) (Int32.ofNat N12)).toInt ≤ ((N16 : Nat) : Int) ∧ (0 : Int) + (imin (Int32.ofNat N9) (Int32.ofNat N12)).toInt ≤ ((N17 : Nat) : Int) ∧ (∀ I27 : Nat → Nat → Int32, I27 = (zcp h b29 b30 (zix (0 : Int32)) (zix (0 : Int32)) (zix (imin (Int32.ofNat N9) (Int32.ofNat N12)))).1 → Q none (I27, h.2))))))))))) :
    Z l G mX10_copy d Q k n 0 [va_rf r0, va_rf r1] [] h := by
  refine z_aloadn dX10_copy_0 rfl rfl ?_
  refine z_ifnull (t := 22) dX10_copy_1 (by decide) (fun c1 => ?_) (fun b2 c1 => ?_)
  · have hw3 := hw.1 c1
    exact z_ret (v := none) dX10_copy_22 rfl rfl hw3
  · have hw4 := hw.2 b2 c1
    refine z_aloadn dX10_copy_4 rfl rfl ?_
    refine z_ifnull (t := 22) dX10_copy_5 (by decide) (fun c5 => ?_) (fun b6 c5 => ?_)
    · have hw7 := hw4.1 c5
      exact z_ret (v := none) dX10_copy_22 rfl rfl hw7
    · have hw8 := hw4.2 b6 c5
      refine z_aloadn dX10_copy_8 rfl rfl ?_
      refine z_iconst (v := 0) dX10_copy_9 (by decide) ?_
      refine z_aloadn dX10_copy_10 rfl rfl ?_
      refine z_iconst (v := 0) dX10_copy_11 (by decide) ?_
      refine z_aloadn dX10_copy_12 rfl rfl ?_
      refine z_soP [] c1 ?_
      obtain ⟨N9, qa10, hw11⟩ := hw8
      refine z_alen (N := N9) dX10_copy_13 qa10 rfl ?_
      refine z_aloadn dX10_copy_14 rfl rfl ?_
      refine z_soP [] c5 ?_
      obtain ⟨N12, qa13, hw14⟩ := hw11
      refine z_alen (N := N12) dX10_copy_15 qa13 rfl ?_
      refine z_min dX10_copy_16 w947 w882 w186 w883 (by omega) (Nat.le_of_ble_eq_true rfl) ?_
      show Z l G _ d Q k n 19 _ (.int ((imin (Int32.ofNat N9) (Int32.ofNat N12))) :: .int 0 :: va_rf r1 :: .int 0 :: va_rf r0 :: []) _
      obtain ⟨b29, b30, q18, q19, hw15⟩ := hw14
      refine z_soP [.int ((imin (Int32.ofNat N9) (Int32.ofNat N12))), .int 0] q19 ?_
      refine z_soP [.int ((imin (Int32.ofNat N9) (Int32.ofNat N12))), .int 0, va_rf (some b30), .int 0] q18 ?_
      obtain ⟨N16, N17, q18, q19, q20, q21, q22, q23, q24, hw31⟩ := hw15
      refine z_copy (N0 := N16) (N1 := N17) dX10_copy_19 w948 w950 w949 w187 (by omega) (Nat.le_of_ble_eq_true rfl) q18 q19 q20 q21 q22 q23 q24 ?_
      refine z_nm (r := h.2) rfl (fun I27 e28 => ?_)
      have hw26 := hw31 I27 e28
      exact z_ret (v := none) dX10_copy_22 rfl rfl hw26

theorem kX10_copy {l : Launch} {G : zG} {d : Nat} {Q : Option Value → zH → Prop} {k n : Nat} {h : zH} (r0 : Option Nat) (r1 : Option Nat) (hz : Z l G mX10_copy d Q k n 0 [va_rf r0, va_rf r1] [] h) : CT l G YX10_copy d k n [va_rf r0, va_rf r1] h Q :=
  CT.of (by decide +kernel) (fun t e => by cases e) (by cases r0 <;> cases r1 <;> exact Nat.le_of_ble_eq_true rfl) (by cases r0 <;> cases r1 <;> exact hz)
