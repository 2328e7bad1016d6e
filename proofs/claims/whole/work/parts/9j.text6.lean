set_option maxRecDepth 4000
/-! ===== texts: what the class tells, line by line ===== -/
section K9J
theorem WrI.f {h : zH} {I : Nat → Nat → Int32} {b0 k0 : Nat} {y : Int32} (e : WrI h I b0 k0 y) {b : Nat} (hb : b ≠ b0) : I b = h.1 b := e.1 b hb
theorem NXo.at {h : zH} {V : Nat → Int} (a : NXo h V) {f : Nat} (hf : f < 5) : (zI h 56 f).toInt = V f := by
  have e := ad_0 f hf
  have := a f (by omega) ⟨fun q => by omega, fun q => by omega, fun q => by omega⟩
  rw [e.1, e.2] at this; exact this
theorem CSt.n {h : zH} {V : Nat → Int} {fo fc : Int} (a : NXo h V) (b : (zI h 55 12).toInt = fo) (c : (zI h 55 11).toInt = fc) : CSt 0 h V fo fc := ⟨fun _ => ⟨a, b, c⟩, fun z => absurd z (by decide)⟩
theorem c_tellFoot (l : Launch) (G : zG) (h : zH) (V : Nat → Int) (fo fc : Int) (v : Nat → Int) (x1 x2 x3 x4 : Int32) (P : Nat) (hl : lo5 h 55) (st : CSt 0 h V fo fc) (h0 : x1.toInt = v 0) (h1 : x2.toInt = v 1) (h2 : x3.toInt = v 2) (h3 : x4.toInt = v 3) (hV : V 3 = (P : Int)) (hP : P < 6) :
    CTv l G YX5_tellFoot 2 [va_rf (some 55), .int x1, .int x2, .int x3, .int x4] h (fun I => FrL h I ∧ CSt 0 (I, h.2) (upI (sdI V (120 + 33 * P) v 4) 3 (V 3 + 1)) fo fc) := by
  obtain ⟨nx, s12, s11⟩ := st.1 rfl
  have e3 : (zI h 56 3).toInt = (P : Int) := (nx.at (by decide)).trans hV
  have sl := slot_at e3 hP
  refine kX5_tellFoot 55 x1 x2 x3 x4 (sX5_tellFoot_0 55 x1 x2 x3 x4 hl (Nat.le_refl _) ⟨fun c1 => absurd (sl.symm.trans c1) (fun z => by cases z), fun b5 c2 => ?_⟩)
  have eb : b5 = 62 + 2 * P := (Option.some.inj (sl.symm.trans c2)).symm
  subst eb
  refine ⟨slot_lo hl hP, fun I10 c3 I13 c4 I16 c5 I19 c6 I22 c7 => ⟨I22, rfl, rfl, ?_⟩⟩
  have d1 : WrI h I10 (62 + 2 * P) 0 x1 := zwI_eff c3
  have d2 : WrI (I10, h.2) I13 (62 + 2 * P) 1 x2 := zwI_eff c4
  have d3 : WrI (I13, h.2) I16 (62 + 2 * P) 2 x3 := zwI_eff c5
  have d4 : WrI (I16, h.2) I19 (62 + 2 * P) 3 x4 := zwI_eff c6
  have d5 : WrI (I19, h.2) I22 56 3 (zI (I19, h.2) 56 3 + 1) := zwI_eff c7
  have fb : ∀ b, b ≠ 62 + 2 * P → I19 b = h.1 b := fun b z => (d4.f z).trans ((d3.f z).trans ((d2.f z).trans (d1.f z)))
  have e19 : zI (I19, h.2) 56 3 = zI h 56 3 := congrFun (fb 56 (by omega)) 3
  have t3 : (zI (I19, h.2) 56 3 + 1).toInt = V 3 + 1 := by rw [e19, i_1 e3 (by omega), hV]; omega
  have a1 := NXl.wr (120 + 33 * P + 0) (62 + 2 * P) 0 nx (by omega) (ad_f P hP 0 (by decide)) d1 h0
  have a2 := NXl.wr (120 + 33 * P + 1) (62 + 2 * P) 1 a1 (by omega) (ad_f P hP 1 (by decide)) d2 h1
  have a3 := NXl.wr (120 + 33 * P + 2) (62 + 2 * P) 2 a2 (by omega) (ad_f P hP 2 (by decide)) d3 h2
  have a4 := NXl.wr (120 + 33 * P + 3) (62 + 2 * P) 3 a3 (by omega) (ad_f P hP 3 (by decide)) d4 h3
  have a5 := NXl.wr 3 56 3 a4 (by decide) (ad_0 3 (by decide)) d5 t3
  have eS : upI (upI (upI (upI V (120 + 33 * P + 0) (v 0)) (120 + 33 * P + 1) (v 1)) (120 + 33 * P + 2) (v 2)) (120 + 33 * P + 3) (v 3) = sdI V (120 + 33 * P) v 4 := by rw [sdI_s, sdI_s, sdI_s, sdI_s, sdI_0]
  rw [eS] at a5
  refine ⟨((((FrL.rf h).w1 d1 (by omega)).w1 d2 (by omega)).w1 d3 (by omega)).w1 d4 (by omega) |>.w1 d5 (by decide), CSt.n (a5.to (fun w hw hl2 => ?_)) ?_ ?_⟩
  · obtain ⟨g1, g2, g3⟩ := hl2
    by_cases y : 120 + 33 * P ≤ w ∧ w < 120 + 33 * P + 4
    · by_cases y3 : w = 120 + 33 * P + 3
      · exact Or.inr (Or.inl y3)
      · by_cases y2 : w = 120 + 33 * P + 2
        · exact Or.inr (Or.inr (Or.inl y2))
        · by_cases y1 : w = 120 + 33 * P + 1
          · exact Or.inr (Or.inr (Or.inr (Or.inl y1)))
          · exact Or.inr (Or.inr (Or.inr (Or.inr (Or.inl (by omega)))))
    · refine Or.inr (Or.inr (Or.inr (Or.inr (Or.inr ⟨fun y1 y2 => ?_, fun y1 y2 => ?_, fun y1 y2 => ?_⟩))))
      · have := g1 y1 y2
        rw [upI_ne (by decide), sdI_o (by omega)] at this; exact this
      · have := g2 y1 y2
        rw [upI_ne (by omega), sdI_o (by omega)] at this; exact this
      · have := g3 y1 y2
        rw [upI_at, hV] at this
        rw [hV]; omega
  · show (I22 55 12).toInt = fo
    rw [d5.f (by decide)]
    show (I19 55 12).toInt = fo
    rw [fb 55 (by omega)]; exact s12
  · show (I22 55 11).toInt = fc
    rw [d5.f (by decide)]
    show (I19 55 11).toInt = fc
    rw [fb 55 (by omega)]; exact s11
theorem c_tellCarry (l : Launch) (G : zG) (h : zH) (V : Nat → Int) (fo fc : Int) (v : Nat → Int) (x1 x2 : Int32) (P : Nat) (hl : lo5 h 55) (st : CSt 0 h V fo fc) (h0 : x1.toInt = v 0) (h1 : x2.toInt = v 1) (hV : v 1 = (P : Int)) (hP : P < 6) :
    CTv l G YX5_tellCarry 2 [va_rf (some 55), .int x1, .int x2] h (fun I => FrL h I ∧ CSt 0 (I, h.2) (upI V (125 + 33 * P) (v 0)) (mxZ fo (mxZ (v 0) (v 1))) fc) := by
  obtain ⟨nx, s12, s11⟩ := st.1 rfl
  have sl := slot_at (x := x2) (h1.trans hV) hP
  refine kX5_tellCarry 55 x1 x2 (sX5_tellCarry_0 55 x1 x2 hl (Nat.le_refl _) ⟨fun c1 => absurd (sl.symm.trans c1) (fun z => by cases z), fun b5 c2 => ?_⟩)
  have eb : b5 = 62 + 2 * P := (Option.some.inj (sl.symm.trans c2)).symm
  subst eb
  refine ⟨slot_lo hl hP, fun I13 c4 I16 c5 => ⟨I16, rfl, rfl, ?_⟩⟩
  have d1 : WrI h I13 (62 + 2 * P) 5 x1 := zwI_eff c4
  have d2 : WrI (I13, h.2) I16 55 12 (imax (zI (I13, h.2) 55 12) (imax x1 x2)) := zwI_eff c5
  have a1 := NXl.wr (120 + 33 * P + 5) (62 + 2 * P) 5 nx (by omega) (ad_f P hP 5 (by decide)) d1 h0
  rw [show 120 + 33 * P + 5 = 125 + 33 * P by omega] at a1
  have a2 : NXl (I16, h.2) _ _ := NXl.kp (h := (I13, h.2)) a1 (fun b b1 b2 => d2.f (by omega))
  have e12 : zI (I13, h.2) 55 12 = zI h 55 12 := congrFun (d1.f (by omega)) 12
  refine ⟨((FrL.rf h).w1 d1 (by omega)).w2 d2 (by decide), CSt.n (a2.to (fun w hw hl2 => Or.inr (liv_cg (upI_ne (by omega)) (upI_ne (by omega)) (fun p => upI_ne (by omega)) hl2))) ?_ ?_⟩
  · show (I16 55 12).toInt = _
    rw [d2.2.2, mxZ_eq, mxZ_eq, e12, s12, h0, h1]
  · show (I16 55 11).toInt = _
    rw [d2.2.1 11 (by decide)]
    show (I13 55 11).toInt = _
    rw [d1.f (by omega)]; exact s11
theorem c_tellManner (l : Launch) (G : zG) (h : zH) (V : Nat → Int) (fo fc : Int) (v : Nat → Int) (m : Int) (x1 x2 : Int32) (P : Nat) (hl : lo5 h 55) (st : CSt 0 h V fo fc) (h0 : x1.toInt = v 0) (h1 : x2.toInt = m) (hV : v 0 = (P : Int)) (hP : P < 6) :
    CTv l G YX5_tellManner 2 [va_rf (some 55), .int x1, .int x2] h (fun I => FrL h I ∧ CSt 0 (I, h.2) (upI V (124 + 33 * P) m) (mxZ fo (v 0)) fc) := by
  obtain ⟨nx, s12, s11⟩ := st.1 rfl
  have sl := slot_at (x := x1) (h0.trans hV) hP
  refine kX5_tellManner 55 x1 x2 (sX5_tellManner_0 55 x1 x2 hl (Nat.le_refl _) ⟨fun c1 => absurd (sl.symm.trans c1) (fun z => by cases z), fun b5 c2 => ?_⟩)
  have eb : b5 = 62 + 2 * P := (Option.some.inj (sl.symm.trans c2)).symm
  subst eb
  refine ⟨slot_lo hl hP, fun I13 c4 I16 c5 => ⟨I16, rfl, rfl, ?_⟩⟩
  have d1 : WrI h I13 (62 + 2 * P) 4 x2 := zwI_eff c4
  have d2 : WrI (I13, h.2) I16 55 12 (imax (zI (I13, h.2) 55 12) x1) := zwI_eff c5
  have a1 := NXl.wr (120 + 33 * P + 4) (62 + 2 * P) 4 nx (by omega) (ad_f P hP 4 (by decide)) d1 h1
  rw [show 120 + 33 * P + 4 = 124 + 33 * P by omega] at a1
  have a2 : NXl (I16, h.2) _ _ := NXl.kp (h := (I13, h.2)) a1 (fun b b1 b2 => d2.f (by omega))
  have e12 : zI (I13, h.2) 55 12 = zI h 55 12 := congrFun (d1.f (by omega)) 12
  refine ⟨((FrL.rf h).w1 d1 (by omega)).w2 d2 (by decide), CSt.n (a2.to (fun w hw hl2 => Or.inr (liv_cg (upI_ne (by omega)) (upI_ne (by omega)) (fun p => upI_ne (by omega)) hl2))) ?_ ?_⟩
  · show (I16 55 12).toInt = _
    rw [d2.2.2, mxZ_eq, e12, s12, h0]
  · show (I16 55 11).toInt = _
    rw [d2.2.1 11 (by decide)]
    show (I13 55 11).toInt = _
    rw [d1.f (by omega)]; exact s11
theorem c_tellErrand (l : Launch) (G : zG) (h : zH) (V : Nat → Int) (fo fc : Int) (v : Nat → Int) (x1 x2 x3 : Int32) (P : Nat) (hl : lo5 h 55) (st : CSt 0 h V fo fc) (h0 : x1.toInt = v 0) (h1 : x2.toInt = v 1) (h2 : x3.toInt = v 2) (hV : V 4 = (P : Int)) (hP : P < 5) :
    CTv l G YX5_tellErrand 2 [va_rf (some 55), .int x1, .int x2, .int x3] h (fun I => FrL h I ∧ CSt 0 (I, h.2) (upI (sdI V (105 + 3 * P) v 3) 4 (V 4 + 1)) (mxZ fo (v 0)) (mxZ fc (mxZ (v 1) (v 2)))) := by
  obtain ⟨nx, s12, s11⟩ := st.1 rfl
  have e4 : (zI h 56 4).toInt = (P : Int) := (nx.at (by decide)).trans hV
  refine kX5_tellErrand 55 x1 x2 x3 (sX5_tellErrand_0 55 x1 x2 x3 hl (Nat.le_refl _) (fun I4 c1 I10 c2 I16 c3 I19 c4 I22 c5 I25 c6 => ⟨I25, rfl, rfl, ?_⟩))
  have d1 : WrI h I4 58 P x1 := zput_eff (q := 58) (N := 5) (hl.w 3 rfl) e4 hP c1
  have z1 : (zI (I4, h.2) 56 4).toInt = (P : Int) := by rw [show zI (I4, h.2) 56 4 = zI h 56 4 from congrFun (d1.f (by decide)) 4]; exact e4
  have d2 : WrI (I4, h.2) I10 59 P x2 := zput_eff (h := (I4, h.2)) (q := 59) (N := 5) (hl.w 4 rfl) z1 hP c2
  have z2 : (zI (I10, h.2) 56 4).toInt = (P : Int) := by rw [show zI (I10, h.2) 56 4 = zI (I4, h.2) 56 4 from congrFun (d2.f (by decide)) 4]; exact z1
  have d3 : WrI (I10, h.2) I16 60 P x3 := zput_eff (h := (I10, h.2)) (q := 60) (N := 5) (hl.w 5 rfl) z2 hP c3
  have z3 : (zI (I16, h.2) 56 4).toInt = (P : Int) := by rw [show zI (I16, h.2) 56 4 = zI (I10, h.2) 56 4 from congrFun (d3.f (by decide)) 4]; exact z2
  have d4 : WrI (I16, h.2) I19 56 4 (zI (I16, h.2) 56 4 + 1) := zwI_eff c4
  have d5 : WrI (I19, h.2) I22 55 12 (imax (zI (I19, h.2) 55 12) x1) := zwI_eff c5
  have d6 : WrI (I22, h.2) I25 55 11 (imax (zI (I22, h.2) 55 11) (imax x2 x3)) := zwI_eff c6
  have a1 := NXl.wr (105 + 3 * P + 0) 58 P nx (by omega) (ad_e P hP 0 (by decide)) d1 h0
  have a2 := NXl.wr (105 + 3 * P + 1) 59 P a1 (by omega) (ad_e P hP 1 (by decide)) d2 h1
  have a3 := NXl.wr (105 + 3 * P + 2) 60 P a2 (by omega) (ad_e P hP 2 (by decide)) d3 h2
  have a4 := NXl.wr 4 56 4 a3 (by decide) (ad_0 4 (by decide)) d4 (x := V 4 + 1) (by rw [i_1 z3 (by omega), hV]; omega)
  have eS : upI (upI (upI V (105 + 3 * P + 0) (v 0)) (105 + 3 * P + 1) (v 1)) (105 + 3 * P + 2) (v 2) = sdI V (105 + 3 * P) v 3 := by rw [sdI_s, sdI_s, sdI_s, sdI_0]
  rw [eS] at a4
  have a6 : NXl (I25, h.2) _ _ := NXl.kp (h := (I22, h.2)) (NXl.kp (h := (I19, h.2)) a4 (fun b b1 b2 => d5.f (by omega))) (fun b b1 b2 => d6.f (by omega))
  have f55 : I19 55 = h.1 55 := (d4.f (by decide)).trans ((d3.f (by decide)).trans ((d2.f (by decide)).trans (d1.f (by decide))))
  refine ⟨(((((FrL.rf h).w1 d1 (by decide)).w1 d2 (by decide)).w1 d3 (by decide)).w1 d4 (by decide)).w2 d5 (by decide) |>.w2 d6 (by decide), CSt.n (a6.to (fun w hw hl2 => ?_)) ?_ ?_⟩
  · obtain ⟨g1, g2, g3⟩ := hl2
    have g2' : 120 ≤ w → 9 ≤ (w - 120) % 33 → (((w - 120) % 33 - 9 : Nat) : Int) < V (128 + 33 * ((w - 120) / 33)) := fun y1 y2 => by
      have := g2 y1 y2
      rw [upI_ne (by omega), sdI_o (by omega)] at this; exact this
    have g3' : 120 ≤ w → (w - 120) % 33 < 4 → (((w - 120) / 33 : Nat) : Int) < V 3 := fun y1 y2 => by
      have := g3 y1 y2
      rw [upI_ne (by decide), sdI_o (by omega)] at this; exact this
    by_cases y : 105 + 3 * P ≤ w ∧ w < 105 + 3 * P + 3
    · by_cases y0 : w = 105 + 3 * P + 2
      · exact Or.inr (Or.inl y0)
      · by_cases y1 : w = 105 + 3 * P + 1
        · exact Or.inr (Or.inr (Or.inl y1))
        · exact Or.inr (Or.inr (Or.inr (Or.inl (by omega))))
    · refine Or.inr (Or.inr (Or.inr (Or.inr ⟨fun y1 y2 => ?_, g2', g3'⟩)))
      have := g1 y1 y2
      rw [upI_at] at this
      rw [hV] at this ⊢
      omega
  · show (I25 55 12).toInt = _
    rw [d6.2.1 12 (by decide)]
    show (I22 55 12).toInt = _
    rw [d5.2.2, mxZ_eq, show zI (I19, h.2) 55 12 = zI h 55 12 from congrFun f55 12, s12, h0]
  · show (I25 55 11).toInt = _
    rw [d6.2.2, mxZ_eq, mxZ_eq, show zI (I22, h.2) 55 11 = zI h 55 11 from (d5.2.1 11 (by decide)).trans (congrFun f55 11), s11, h1, h2]
theorem c_tellWalk (l : Launch) (G : zG) (h : zH) (V : Nat → Int) (fo fc : Int) (v : Nat → Int) (x1 x2 x3 x4 : Int32) (P had : Nat) (hl : lo5 h 55) (st : CSt 0 h V fo fc) (h0 : x1.toInt = v 0) (h1 : x2.toInt = v 1) (h2 : x3.toInt = v 2) (h4 : x4.toInt = (had : Int) - 3) (hd : 4 ≤ had ∧ had ≤ 27) (hn : ∀ j, j < had → (zI h 80 j).toInt = v j) (hV : v 0 = (P : Int)) (hP : P < 6) :
    CTv l G YX5_tellWalk 2 [va_rf (some 55), .int x1, .int x2, .int x3, .int x4] h (fun I => FrL h I ∧ CSt 0 (I, h.2) (sdI (upI (upI (upI V (126 + 33 * P) (v 1)) (127 + 33 * P) (v 2)) (128 + 33 * P) ((had : Int) - 3)) (129 + 33 * P) (fun i => v (3 + i)) (had - 3)) (mxZ fo (v 0)) (mxZ fc (v 1))) := by
  obtain ⟨nx, s12, s11⟩ := st.1 rfl
  have sl := slot_at (x := x1) (h0.trans hV) hP
  refine kX5_tellWalk 55 x1 x2 x3 x4 (sX5_tellWalk_0 55 x1 x2 x3 x4 hl (Nat.le_refl _) ⟨fun c1 => absurd (sl.symm.trans c1) (fun z => by cases z), fun b5 c2 => ?_⟩)
  have eb : b5 = 62 + 2 * P := (Option.some.inj (sl.symm.trans c2)).symm
  subst eb
  refine ⟨slot_lo hl hP, fun I16 c5 I19 c6 I22 c7 => ?_⟩
  have d1 : WrI h I16 (62 + 2 * P) 6 x2 := zwI_eff c5
  have d2 : WrI (I16, h.2) I19 (62 + 2 * P) 7 x3 := zwI_eff c6
  have d3 : WrI (I19, h.2) I22 (62 + 2 * P) 8 (imin x4 (24 : Int32)) := zwI_eff c7
  have m4 : (imin x4 (24 : Int32)).toInt = (had : Int) - 3 := by
    have e24 : (24 : Int32).toInt = 24 := rfl
    rw [imin_t, e24, if_neg (by omega)]; exact h4
  have a1 := NXl.wr (120 + 33 * P + 6) (62 + 2 * P) 6 nx (by omega) (ad_f P hP 6 (by decide)) d1 h1
  have a2 := NXl.wr (120 + 33 * P + 7) (62 + 2 * P) 7 a1 (by omega) (ad_f P hP 7 (by decide)) d2 h2
  have a3 := NXl.wr (120 + 33 * P + 8) (62 + 2 * P) 8 a2 (by omega) (ad_f P hP 8 (by decide)) d3 m4
  rw [show 120 + 33 * P + 6 = 126 + 33 * P by omega, show 120 + 33 * P + 7 = 127 + 33 * P by omega, show 120 + 33 * P + 8 = 128 + 33 * P by omega] at a3
  have f0 : FrL h I22 := (((FrL.rf h).w1 d1 (by omega)).w1 d2 (by omega)).w1 d3 (by omega)
  have g55 : I22 55 = h.1 55 := (d3.f (by omega)).trans ((d2.f (by omega)).trans (d1.f (by omega)))
  have hW : ∃ W, W = upI (upI (upI V (126 + 33 * P) (v 1)) (127 + 33 * P) (v 2)) (128 + 33 * P) ((had : Int) - 3) := ⟨_, rfl⟩
  obtain ⟨W, eW⟩ := hW
  rw [← eW] at a3 ⊢
  have W8 : W (128 + 33 * P) = (had : Int) - 3 := by rw [eW]; exact upI_at
  have loop : ∀ (fu i : Nat) (x6 : Int32) (J : Nat → Nat → Int32), x6.toInt = (i : Int) → i ≤ had - 3 → had - 3 - i < fu → FrL h J → J 55 = h.1 55 → NXl (J, h.2) (sdI W (129 + 33 * P) (fun i => v (3 + i)) i) (fun w => (129 + 33 * P ≤ w ∧ w < 129 + 33 * P + i) ∨ w = 128 + 33 * P ∨ w = 127 + 33 * P ∨ w = 126 + 33 * P ∨ liv V w) →
      Z l G mX5_tellWalk 2 (fun w h1 => ∃ I, w = none ∧ h1 = (I, h.2) ∧ (FrL h I ∧ CSt 0 (I, h.2) (sdI W (129 + 33 * P) (fun i => v (3 + i)) (had - 3)) (mxZ fo (v 0)) (mxZ fc (v 1)))) 0 0 42 [va_rf (some 55), .int x1, .int x2, .int x3, .int x4, va_rf (zslot (55 + 1) x1), .int x6] [] (J, h.2) := by
    intro fu
    induction fu with
    | zero => intro i x6 J e6 q1 q2; omega
    | succ fu ih =>
      intro i x6 J e6 q1 q2 fr f55 nl
      have s8 : (zI (J, h.2) (62 + 2 * P) 8).toInt = (had : Int) - 3 := by
        have e := ad_f P hP 8 (by decide)
        have := nl (120 + 33 * P + 8) (by omega) (Or.inr (Or.inl (by omega)))
        rw [e.1, e.2, sdI_o (by omega), show 120 + 33 * P + 8 = 128 + 33 * P by omega, W8] at this
        exact this
      have hB : lo2 (J, h.2) (62 + 2 * P) := slot_lo (h := (J, h.2)) hl hP
      refine sX5_tellWalk_42 (h := (J, h.2)) 55 x1 x2 x3 x4 _ x6 hl (Nat.le_refl _) ⟨62 + 2 * P, sl, hB, fun c1 I9 c2 I12 c3 => ⟨I12, rfl, rfl, ?_⟩, fun c4 I21 c5 => ?_⟩
      · have ei : i = had - 3 := by omega
        subst ei
        have k1 : WrI (J, h.2) I9 55 12 (imax (zI (J, h.2) 55 12) x1) := zwI_eff c2
        have k2 : WrI (I9, h.2) I12 55 11 (imax (zI (I9, h.2) 55 11) x2) := zwI_eff c3
        have a6 : NXl (I12, h.2) _ _ := NXl.kp (h := (I9, h.2)) (NXl.kp (h := (J, h.2)) nl (fun b b1 b2 => k1.f (by omega))) (fun b b1 b2 => k2.f (by omega))
        refine ⟨(fr.w2 k1 (by decide)).w2 k2 (by decide), CSt.n (a6.to (fun w hw hl2 => ?_)) ?_ ?_⟩
        · obtain ⟨g1, g2, g3⟩ := hl2
          by_cases y : 129 + 33 * P ≤ w ∧ w < 129 + 33 * P + (had - 3)
          · exact Or.inl y
          · refine Or.inr (Or.inr (Or.inr (Or.inr ⟨fun y1 y2 => ?_, fun y1 y2 => ?_, fun y1 y2 => ?_⟩)))
            · have := g1 y1 y2
              rw [sdI_o (by omega), eW, upI_ne (by omega), upI_ne (by omega), upI_ne (by omega)] at this; exact this
            · have := g2 y1 y2
              rw [sdI_o (by omega)] at this
              by_cases y3 : (w - 120) / 33 = P
              · rw [y3, W8] at this; omega
              · rw [eW, upI_ne (by omega), upI_ne (by omega), upI_ne (by omega)] at this; exact this
            · have := g3 y1 y2
              rw [sdI_o (by omega), eW, upI_ne (by omega), upI_ne (by omega), upI_ne (by omega)] at this; exact this
        · show (I12 55 12).toInt = _
          rw [k2.2.1 12 (by decide)]
          show (I9 55 12).toInt = _
          rw [k1.2.2, mxZ_eq, show zI (J, h.2) 55 12 = zI h 55 12 from congrFun f55 12, s12, h0]
        · show (I12 55 11).toInt = _
          rw [k2.2.2, mxZ_eq, show zI (I9, h.2) 55 11 = zI h 55 11 from (k1.2.1 11 (by decide)).trans (congrFun f55 11), s11, h1]
      · have hi : i < had - 3 := by omega
        have e36 : (3 + x6).toInt = ((3 + i : Nat) : Int) := by
          rw [i_add (by show _ ≤ (3 : Int) + x6.toInt; omega) (by show (3 : Int) + x6.toInt < _; omega)]
          show (3 : Int) + x6.toInt = _
          omega
        have z80 : (zget (J, h.2) (some (55 + 25)) (3 + x6)).toInt = v (3 + i) := by
          have : zget (J, h.2) (some (55 + 25)) (3 + x6) = zI (J, h.2) 80 (3 + i) := zget_w (n := 27) (hl.w 25 rfl) e36 (by omega)
          rw [this, show zI (J, h.2) 80 (3 + i) = zI h 80 (3 + i) from congrFun (fr.1 80 (by omega)) _]
          exact hn _ (by omega)
        have k1 : WrI (J, h.2) I21 (63 + 2 * P) i (zget (J, h.2) (some (55 + 25)) (3 + x6)) := by
          have := zput_eff (h := (J, h.2)) (q := 62 + 2 * P + 1) (N := 24) (hB.w 1 rfl) e6 (by omega) c5
          rw [show 62 + 2 * P + 1 = 63 + 2 * P by omega] at this
          exact this
        have a6 := NXl.wr (129 + 33 * P + i) (63 + 2 * P) i nl (by omega) (ad_s P hP i (by omega)) k1 z80
        refine ih (i + 1) (x6 + 1) I21 (i_1 e6 (by omega)) (by omega) (by omega) (fr.w1 k1 (by omega)) ((k1.f (by omega)).trans f55) ?_
        rw [sdI_s]
        intro w hw hl2
        refine a6 w hw ?_
        rcases hl2 with y | y
        · by_cases y2 : w = 129 + 33 * P + i
          · exact Or.inl y2
          · exact Or.inr (Or.inl ⟨y.1, by omega⟩)
        · exact Or.inr (Or.inr y)
  refine loop (had + 1) 0 0 I22 rfl (by omega) (by omega) f0 g55 ?_
  rw [sdI_0]
  intro w hw hl2
  refine a3 w hw ?_
  rcases hl2 with y | y
  · omega
  · exact y
theorem c_tellSign (l : Launch) (G : zG) (h : zH) (V : Nat → Int) (fo fc : Int) (v : Nat → Int) (P : Nat) (hl : lo5 h 55) (st : CSt 1 h V fo fc) (hn : ∀ j, j < 5 → (zI h 80 j).toInt = v j) (hV : V 0 = (P : Int)) (hP : P < 10) :
    CTv l G YX5_tellSign 2 [va_rf (some 55)] h (fun I => FrL h I ∧ CSt 1 (I, h.2) (upI (sdI V (1 + 5 * P) v 5) 0 (V 0 + 1)) fo fc) := by
  obtain ⟨ro, s2, s3, s4, s5, s6⟩ := st.2 rfl
  have e0 : (zI h 74 0).toInt = (P : Int) := ro.1.trans hV
  refine kX5_tellSign 55 (sX5_tellSign_0 55 hl (Nat.le_refl _) (fun I7 c1 I16 c2 I25 c3 I34 c4 I43 c5 I46 c6 => ⟨I46, rfl, rfl, ?_⟩))
  have zg : ∀ (J : Nat → Nat → Int32) (x : Int32) (j : Nat), J 80 = h.1 80 → x.toInt = (j : Int) → j < 5 → (zget (J, h.2) (some (55 + 25)) x).toInt = v j := fun J x j ej hx hj => by
    have : zget (J, h.2) (some (55 + 25)) x = zI (J, h.2) 80 j := zget_w (n := 27) (hl.w 25 rfl) hx (by omega)
    rw [this, show zI (J, h.2) 80 j = zI h 80 j from congrFun ej j]
    exact hn j hj
  have d1 : WrI h I7 75 P (zget h (some (55 + 25)) (0 : Int32)) := zput_eff (q := 75) (N := 10) (hl.w 20 rfl) e0 hP c1
  have z1 : (zI (I7, h.2) 74 0).toInt = (P : Int) := by rw [show zI (I7, h.2) 74 0 = zI h 74 0 from congrFun (d1.f (by decide)) 0]; exact e0
  have d2 : WrI (I7, h.2) I16 76 P (zget (I7, h.2) (some (55 + 25)) (1 : Int32)) := zput_eff (h := (I7, h.2)) (q := 76) (N := 10) (hl.w 21 rfl) z1 hP c2
  have z2 : (zI (I16, h.2) 74 0).toInt = (P : Int) := by rw [show zI (I16, h.2) 74 0 = zI (I7, h.2) 74 0 from congrFun (d2.f (by decide)) 0]; exact z1
  have d3 : WrI (I16, h.2) I25 77 P (zget (I16, h.2) (some (55 + 25)) (2 : Int32)) := zput_eff (h := (I16, h.2)) (q := 77) (N := 10) (hl.w 22 rfl) z2 hP c3
  have z3 : (zI (I25, h.2) 74 0).toInt = (P : Int) := by rw [show zI (I25, h.2) 74 0 = zI (I16, h.2) 74 0 from congrFun (d3.f (by decide)) 0]; exact z2
  have d4 : WrI (I25, h.2) I34 78 P (zget (I25, h.2) (some (55 + 25)) (3 : Int32)) := zput_eff (h := (I25, h.2)) (q := 78) (N := 10) (hl.w 23 rfl) z3 hP c4
  have z4 : (zI (I34, h.2) 74 0).toInt = (P : Int) := by rw [show zI (I34, h.2) 74 0 = zI (I25, h.2) 74 0 from congrFun (d4.f (by decide)) 0]; exact z3
  have d5 : WrI (I34, h.2) I43 79 P (zget (I34, h.2) (some (55 + 25)) (4 : Int32)) := zput_eff (h := (I34, h.2)) (q := 79) (N := 10) (hl.w 24 rfl) z4 hP c5
  have z5 : (zI (I43, h.2) 74 0).toInt = (P : Int) := by rw [show zI (I43, h.2) 74 0 = zI (I34, h.2) 74 0 from congrFun (d5.f (by decide)) 0]; exact z4
  have d6 : WrI (I43, h.2) I46 74 0 (zI (I43, h.2) 74 0 + 1) := zwI_eff c6
  have t7 : I7 80 = h.1 80 := d1.f (by decide)
  have t16 : I16 80 = h.1 80 := (d2.f (by decide)).trans t7
  have t25 : I25 80 = h.1 80 := (d3.f (by decide)).trans t16
  have t34 : I34 80 = h.1 80 := (d4.f (by decide)).trans t25
  have v0 := zg h.1 0 0 rfl rfl (by decide)
  have v1 := zg I7 1 1 t7 rfl (by decide)
  have v2 := zg I16 2 2 t16 rfl (by decide)
  have v3 := zg I25 3 3 t25 rfl (by decide)
  have v4 := zg I34 4 4 t34 rfl (by decide)
  have o56 : I46 56 = h.1 56 := (d6.f (by decide)).trans ((d5.f (by decide)).trans ((d4.f (by decide)).trans ((d3.f (by decide)).trans ((d2.f (by decide)).trans (d1.f (by decide))))))
  have o55 : I46 55 = h.1 55 := (d6.f (by decide)).trans ((d5.f (by decide)).trans ((d4.f (by decide)).trans ((d3.f (by decide)).trans ((d2.f (by decide)).trans (d1.f (by decide))))))
  refine ⟨(((((FrL.rf h).w1 d1 (by decide)).w1 d2 (by decide)).w1 d3 (by decide)).w1 d4 (by decide)).w1 d5 (by decide) |>.w1 d6 (by decide), fun z => absurd z (by decide), fun _ => ⟨⟨?_, fun k hk => ?_⟩, ?_, ?_, ?_, ?_, ?_⟩⟩
  · show (I46 74 0).toInt = _
    rw [d6.2.2, i_1 z5 (by omega), upI_at, hV]; omega
  · rw [upI_at, hV] at hk
    rw [upI_ne (by omega), upI_ne (by omega), upI_ne (by omega), upI_ne (by omega), upI_ne (by omega)]
    have b75 : I46 75 = I7 75 := (d6.f (by decide)).trans ((d5.f (by decide)).trans ((d4.f (by decide)).trans ((d3.f (by decide)).trans (d2.f (by decide)))))
    have b76 : I46 76 = I16 76 := (d6.f (by decide)).trans ((d5.f (by decide)).trans ((d4.f (by decide)).trans (d3.f (by decide))))
    have b77 : I46 77 = I25 77 := (d6.f (by decide)).trans ((d5.f (by decide)).trans (d4.f (by decide)))
    have b78 : I46 78 = I34 78 := (d6.f (by decide)).trans (d5.f (by decide))
    have b79 : I46 79 = I43 79 := d6.f (by decide)
    show (I46 75 k).toInt = _ ∧ (I46 76 k).toInt = _ ∧ (I46 77 k).toInt = _ ∧ (I46 78 k).toInt = _ ∧ (I46 79 k).toInt = _
    rw [b75, b76, b77, b78, b79]
    by_cases y : k = P
    · subst y
      rw [d1.2.2, d2.2.2, d3.2.2, d4.2.2, d5.2.2]
      have g : ∀ j, j < 5 → sdI V (1 + 5 * k) v 5 (1 + 5 * k + j) = v j := fun j hj => sdI_i hj
      refine ⟨v0.trans (g 0 (by decide)).symm, ?_, ?_, ?_, ?_⟩
      · rw [show 2 + 5 * k = 1 + 5 * k + 1 by omega, g 1 (by decide)]; exact v1
      · rw [show 3 + 5 * k = 1 + 5 * k + 2 by omega, g 2 (by decide)]; exact v2
      · rw [show 4 + 5 * k = 1 + 5 * k + 3 by omega, g 3 (by decide)]; exact v3
      · rw [show 5 + 5 * k = 1 + 5 * k + 4 by omega, g 4 (by decide)]; exact v4
    · have c : (k : Int) < V 0 := by rw [hV]; omega
      rw [sdI_o (by omega), sdI_o (by omega), sdI_o (by omega), sdI_o (by omega), sdI_o (by omega)]
      rw [d1.2.1 k y, d2.2.1 k y, d3.2.1 k y, d4.2.1 k y, d5.2.1 k y]
      rw [show (I7, h.2).1 76 = h.1 76 from d1.f (by decide), show (I16, h.2).1 77 = h.1 77 from (d2.f (by decide)).trans (d1.f (by decide)), show (I25, h.2).1 78 = h.1 78 from (d3.f (by decide)).trans ((d2.f (by decide)).trans (d1.f (by decide))), show (I34, h.2).1 79 = h.1 79 from (d4.f (by decide)).trans ((d3.f (by decide)).trans ((d2.f (by decide)).trans (d1.f (by decide))))]
      exact ro.2 k c
  · show (I46 56 0).toInt = 6; rw [o56]; exact s2
  · show (I46 56 1).toInt = 6; rw [o56]; exact s3
  · show (I46 56 3).toInt = 0; rw [o56]; exact s4
  · show I46 55 12 = -1; rw [o55]; exact s5
  · show I46 55 11 = -1; rw [o55]; exact s6
end K9J
