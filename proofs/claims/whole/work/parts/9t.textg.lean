set_option maxRecDepth 4000
/-! ===== texts: lines of the reference: carry, walk ===== -/
section K9T
variable {B : Nat → Int} {n : Nat}
theorem mxZ_as {a b c : Int} : mxZ (mxZ a b) c = mxZ a (mxZ b c) := by
  unfold mxZ
  by_cases z1 : a < b
  · rw [if_pos z1]
    by_cases z2 : b < c
    · rw [if_pos z2, if_pos (by omega)]
    · rw [if_neg z2, if_pos z1]
  · rw [if_neg z1]
    by_cases z2 : b < c
    · rw [if_pos z2]
    · rw [if_neg z2, if_neg z1, if_neg (by omega)]
theorem ful_no {o : Nat} {V : Nat → Int} (h : o ≠ 3 ∧ o ≠ 10 ∧ o ≠ 11) : fulT o V = false := decide_eq_false (fun z => by
  rcases z with z | z | z
  · exact h.1 z.1
  · exact h.2.1 z.1
  · exact h.2.2 z.1)
theorem al_X {X : Nat × Nat} {k w : Nat} (h : X.1 ≠ 0) (h2 : X.2 < w) : alP X k w = X := if_pos ⟨h, Or.inl h2⟩
theorem nt_X {X : Nat × Nat} {k w : Nat} (h : X.1 ≠ 0) : ntS X k w = X := if_neg h
theorem al_z {X : Nat × Nat} {k w : Nat} (h : X.1 = 0) : alP X k w = (k, w) := if_neg (fun z => z.1 h)
theorem nt_z {X : Nat × Nat} {k w : Nat} (h : X.1 = 0) : ntS X k w = (k, w) := if_pos h
theorem if_id {c : Prop} [Decidable c] {α : Type} {x : α} : (if c then x else x) = x := by split <;> rfl
theorem c_alsoW (l : Launch) (G : zG) (h : zH) (x1 x2 : Int32) (q : Nat) (s : Nat × Nat) (hl : lo11 h 313) (m : MSq h B n true q s) : CTv l G YX11_also 1 [va_rf (some 313), .int x1, .int x2] h (fun I => I = h.1) :=
  kX11_also 313 x1 x2 (sX11_also_0 313 x1 x2 hl (Nat.le_refl _) ⟨fun c1 => ⟨h.1, rfl, rfl, rfl⟩, fun c2 => absurd ((m.2.2 rfl).symm.trans c2) (by decide)⟩)
theorem c_carryLine (l : Launch) (G : zG) (h : zH) (q : Nat) (s : Nat × Nat) (V : Nat → Int) (hl : lo11 h 313) (t : TpM h B n) (k0 : tkK B n q ≠ 0) (hs : s.1 ≠ 0 → s.2 < tkW B n q) (eo : tkO B n q = 5) (m : MSq h B n false (tkE B n q) s) (rw_ : RwM h V) (bd : LnB 0 V) :
    CTv l G YX11_carryLine 7 [va_rf (some 313)] h (fun I => LnR 0 h B n q (fulT 5 V) s V I) := by
  have n4 : ∀ i, ¬ (tkO B n q = 4 ∧ i = 27) := fun i z => by omega
  have hli : liT (tkO B n q) = 2 := by rw [eo]; rfl
  have hls : lsT (tkO B n q) = 2 := by rw [eo]; rfl
  have l0 : loT (tkO B n q) 0 = 0 ∧ hiT (tkO B n q) 0 = 5 := by rw [eo]; exact ⟨rfl, rfl⟩
  rw [ful_no (by decide)]
  have L0 : LMq h B n q (tkO B n q) false s 0 := lm_0 m rfl
  refine kX11_carryLine 313 (sX11_carryLine_0 313 hl (Nat.le_refl _) ⟨_, c_whoL l G h q 0 false s hl t k0 hs (by omega) (n4 0) (fun z => absurd z.2 (by decide)) l0.1 l0.2 L0, fun y6 I4 c1 => ?_⟩)
  obtain ⟨f4, L1, r6, v0, e16, e9, e10⟩ := c1
  have t4 := f4.tp t
  have X2 : fzB B n q (tkO B n q) false s 2 = if bdT (tkO B n q) 1 (vzB B n q 1) (vzB B n q 0) = true then ntS (fzB B n q (tkO B n q) false s 1) 2 (wzB B n q 1) else fzB B n q (tkO B n q) false s 1 := if_neg (fun z => absurd z.2 (by decide))
  have pl : 1 ≤ hdB B n q → (fzB B n q (tkO B n q) false s 1).1 ≠ 0 → (fzB B n q (tkO B n q) false s 1).2 < wzB B n q 1 := fun le z => by
    have := fz_pl (o := tkO B n q) (full := false) hs k0 1 (fun j hj => hd_1 j (by omega)) z
    have tw := (tkW_sp (B := B) (n := n) (q := pzB B n q 1)).1
    have : wzB B n q 1 = tkW B n (pzB B n q 1) := rfl
    omega
  have fin : ∀ (y : Int32) (I : Nat → Nat → Int32), FrQ h I → LMq (I, h.2) B n q (tkO B n q) false s 2 → (0 ≤ y.toInt ∧ y.toInt ≤ 5) → (1 < hdB B n q → (fzB B n q (tkO B n q) false s 2).1 = 0 → y.toInt = vzB B n q 1) → I 316 = h.1 316 → (I 313 9).toInt = mxZ (mxZ (zI h 313 9).toInt y6.toInt) y.toInt → I 313 10 = h.1 313 10 →
      (0 ≤ (120 + 33 * y + 5).toInt ∧ (120 + 33 * y + 5).toInt < ((318 : Nat) : Int) ∧ ∀ I24 : Nat → Nat → Int32, I24 = (zwI (I, h.2) (313 + 3) (zix (120 + 33 * y + 5)) y6).1 → (∃ I1, (none : Option Value) = none ∧ (I24, h.2) = (I1, h.2) ∧ LnR 0 h B n q false s V I1)) := fun y I fr L2 ry v1 k16 k9 k10 => by
    obtain ⟨P, hV, eP⟩ : ∃ P : Nat, y.toInt = (P : Int) ∧ y.toInt.toNat = P := ⟨y.toInt.toNat, by omega, rfl⟩
    have j5 := ix_c (c := 5) (j := 5) (ix_33 hV (by omega)) rfl (by omega) (by decide)
    refine ⟨by omega, by omega, fun I24 c4 => ⟨I24, rfl, rfl, ?_⟩⟩
    have d : WrI (I, h.2) I24 316 (120 + 33 * P + 5) y6 := wr_ix c4 j5
    have r1 := (RwM.kp rw_ k16).wr d rfl
    have L24 : LMq (I24, h.2) B n q (tkO B n q) false s 2 := LMq.kp (h := (I, h.2)) L2 (fun k _ => congrFun (d.f (by decide)) k) (d.f (by decide))
    refine ⟨fr.w16 d, LMq.fin (by omega) (by omega) (by rw [hls]; exact L24), _, r1, ⟨fun _ => ⟨?_, ?_⟩, fun z => absurd z (by decide)⟩, fun z1 z2 => ?_⟩
    · rw [upI_ne (by omega)]; exact (bd.1 rfl).1
    · rw [upI_ne (by omega)]; exact (bd.1 rfl).2
    · have hd2 : hdB B n q = 2 := Nat.le_antisymm (by have : hdB B n q ≤ liT (tkO B n q) := (czB_sp (B := B) (n := n) (q := q) (liT (tkO B n q))).1; omega) (by omega)
      have w0 := v0 (by omega) (fz_dn _ (by omega) z2)
      have w1 := v1 (by omega) (fz_dn _ (by omega) z2)
      rw [eo, tl_5, ← w1, eP, ← w0]
      refine ⟨by rw [show 120 + 33 * P + 5 = 125 + 33 * P by omega], ?_, ?_⟩
      · rw [d.f (by decide)]
        show (I 313 9).toInt = _
        rw [k9, mxZ_as]
      · rw [d.f (by decide)]
        show (I 313 10).toInt = _
        rw [k10]; rfl
  -- the second one, in any state
  have wrong : hdB B n q < 1 → ∀ J : Nat → Nat → Int32, J = I4 → (∃ P14, CTi l G YX11_who 6 [va_rf (some 313)] (J, h.2) P14 ∧ ∀ (y : Int32) (I : Nat → Nat → Int32), P14 y I → (0 ≤ (120 + 33 * y + 5).toInt ∧ (120 + 33 * y + 5).toInt < ((318 : Nat) : Int) ∧ ∀ I24 : Nat → Nat → Int32, I24 = (zwI (I, h.2) (313 + 3) (zix (120 + 33 * y + 5)) y6).1 → (∃ I1, (none : Option Value) = none ∧ (I24, h.2) = (I1, h.2) ∧ LnR 0 h B n q false s V I1))) := fun lt J eJ => by
    subst eJ
    refine ⟨_, c_who l G (J, h.2) _ 0 true hl t4 (L1.2 lt), fun y I c => ?_⟩
    obtain ⟨g1, g2, g3, g4, g5⟩ := c
    exact fin y I (f4.tr g1) (ln_wr lt g2) g2.1 (fun z => by omega) (g3.trans e16) (by rw [g4, ← e9]; rfl) (g5.trans e10)
  have right : 1 ≤ hdB B n q → ∀ (J : Nat → Nat → Int32) (s' : Nat × Nat), FrN (I4, h.2) J → MSq (J, h.2) B n false (pzB B n q 1) s' → (1 < hdB B n q → (if inB 0 5 (vzB B n q 1) = true then s' else alP s' 2 (tkW B n (pzB B n q 1))) = fzB B n q (tkO B n q) false s 2) → (∃ P14, CTi l G YX11_who 6 [va_rf (some 313)] (J, h.2) P14 ∧ ∀ (y : Int32) (I : Nat → Nat → Int32), P14 y I → (0 ≤ (120 + 33 * y + 5).toInt ∧ (120 + 33 * y + 5).toInt < ((318 : Nat) : Int) ∧ ∀ I24 : Nat → Nat → Int32, I24 = (zwI (I, h.2) (313 + 3) (zix (120 + 33 * y + 5)) y6).1 → (∃ I1, (none : Option Value) = none ∧ (I24, h.2) = (I1, h.2) ∧ LnR 0 h B n q false s V I1))) := fun le J s' fJ mJ ef => by
    refine ⟨_, c_who l G (J, h.2) _ _ false hl (fJ.tp t4) mJ, fun y I c => ?_⟩
    obtain ⟨g1, g2, g3, g4, g5⟩ := c
    obtain ⟨u1, u2⟩ := ln_fz (by omega) le g2 ef
    refine fin y I ((f4.tr fJ.q).tr g1) u1 g2.1 (fun z1 z2 => u2 z1 ?_) (g3.trans ((fJ.1 316 (by decide) (by decide)).trans e16)) ?_ (g5.trans ((fJ.2.1 10 (by decide)).trans e10))
    · have bb := bd_0 ((fz_0 _ z2).2.2 1 (by decide)).1
      rw [eo] at bb
      exact decide_eq_true ⟨bb.1, bb.2.1⟩
    · rw [g4, ← e9]
      show mxZ (J 313 9).toInt _ = _
      rw [fJ.2.1 9 (by decide)]
  have ew : wzB B n q 1 = tkW B n (pzB B n q 1) := rfl
  have tok : 1 ≤ hdB B n q → (zI (I4, h.2) 313 5 = 1 ↔ tkK B n (pzB B n q 1) = 1) := fun le => by
    have e5 : (zI (I4, h.2) 313 5).toInt = (tkK B n (pzB B n q 1) : Int) := ((L1.1 le).2.1 rfl).2.2.2.2.1
    refine ⟨fun z => ?_, fun z => i_ext (by rw [e5, z]; rfl)⟩
    rw [z] at e5
    have : (1 : Int) = (tkK B n (pzB B n q 1) : Int) := e5
    omega
  refine ⟨fun c2 => ?_, fun c5 => ⟨fun c6 => ?_, fun c9 => ?_⟩⟩
  · by_cases le : 1 ≤ hdB B n q
    · exact right le I4 _ (FrN.rf (I4, h.2)) (L1.1 le) (fun lt => absurd ((tok le).mpr (hd_1 1 lt)) c2)
    · exact wrong (by omega) I4 rfl
  · by_cases le : 1 ≤ hdB B n q
    · refine right le I4 _ (FrN.rf (I4, h.2)) (L1.1 le) (fun lt => ?_)
      rw [X2]
      by_cases z : (fzB B n q (tkO B n q) false s 1).1 = 0
      · have ev : (zI (I4, h.2) 313 6).toInt = vzB B n q 1 := ((L1.1 le).2.1 rfl).2.2.2.2.2.1 (hd_1 1 lt)
        have w0 := v0 (by omega) z
        have ne : vzB B n q 1 ≠ vzB B n q 0 := fun y => c6 (i_ext (by rw [ev, w0, y]))
        cases b : bdT (tkO B n q) 1 (vzB B n q 1) (vzB B n q 0) with
        | false =>
          have bb := bd_0 b
          rw [eo] at bb
          have g : inB 0 5 (vzB B n q 1) = true := decide_eq_true ⟨bb.1, bb.2.1⟩
          rw [if_pos g, if_neg Bool.false_ne_true]
        | true =>
          have bb := of_decide_eq_true b
          rw [eo] at bb
          have i0 : ¬ inB 0 5 (vzB B n q 1) = true := fun y => by
            have y2 := of_decide_eq_true y
            rcases bb with x | x | x
            · have : vzB B n q 1 < 0 := x
              omega
            · have : 5 < vzB B n q 1 := x
              omega
            · exact ne x.2.2
          rw [if_neg i0, if_pos rfl, al_z z, nt_z z, ew]
      · have p := pl le z
        rw [al_X z (by rw [← ew]; exact p), nt_X z, if_id, if_id]
    · exact wrong (by omega) I4 rfl
  · by_cases le : 1 ≤ hdB B n q
    · have mm := (L1.1 le).2.1 rfl
      refine ⟨_, c_also l G (I4, h.2) _ 2 (tkW B n (pzB B n q 1)) _ false 2 _ hl rfl (by decide) mm.2.2.1 (L1.1 le), fun I47 c10 => ?_⟩
      obtain ⟨u1, u2⟩ := c10
      rw [if_neg Bool.false_ne_true] at u2
      refine right le I47 _ u1 u2 (fun lt => ?_)
      rw [X2]
      by_cases z : (fzB B n q (tkO B n q) false s 1).1 = 0
      · have ev : (zI (I4, h.2) 313 6).toInt = vzB B n q 1 := mm.2.2.2.2.2.1 (hd_1 1 lt)
        have w0 := v0 (by omega) z
        have e : vzB B n q 1 = vzB B n q 0 := by rw [← ev, ← w0, c9]
        have b : bdT (tkO B n q) 1 (vzB B n q 1) (vzB B n q 0) = true := decide_eq_true (Or.inr (Or.inr ⟨eo, rfl, e⟩))
        rw [b, if_pos rfl, al_z z, nt_z z, ew]
        have : alP (2, tkW B n (pzB B n q 1)) 2 (tkW B n (pzB B n q 1)) = (2, tkW B n (pzB B n q 1)) := if_pos ⟨Nat.succ_ne_zero 1, Or.inr ⟨rfl, Nat.le_refl _⟩⟩
        rw [this, if_id]
      · have p := pl le z
        rw [al_X z (by rw [← ew]; exact p), al_X z (by rw [← ew]; exact p), nt_X z, if_id, if_id]
    · refine ⟨_, c_alsoW l G (I4, h.2) _ _ 0 _ hl (L1.2 (by omega)), fun I47 c10 => ?_⟩
      exact wrong (by omega) I47 c10
theorem upI_sd {W : Nat → Int} {k j m : Nat} {v : Nat → Int} {x : Int} (h : j < k) : upI (sdI W k v m) j x = sdI (upI W j x) k v m := funext fun w => by
  by_cases z : w = j
  · rw [z, upI_at, sdI_o (Or.inl h), upI_at]
  · rw [upI_ne z]
    by_cases y : k ≤ w ∧ w < k + m
    · exact (if_pos y).trans (if_pos y).symm
    · rw [sdI_o (by omega), sdI_o (by omega), upI_ne z]
theorem c_walkLine (l : Launch) (G : zG) (h : zH) (q : Nat) (s : Nat × Nat) (V : Nat → Int) (hl : lo11 h 313) (t : TpM h B n) (hq : q ≤ n) (k0 : tkK B n q ≠ 0) (hs : s.1 ≠ 0 → s.2 < tkW B n q) (eo : tkO B n q = 4) (m : MSq h B n false (tkE B n q) s) (rw_ : RwM h V) (bd : LnB 0 V) :
    CTv l G YX11_walkLine 7 [va_rf (some 313)] h (fun I => LnR 0 h B n q (fulT 4 V) s V I) := by
  have n6 := t.2.2
  have n5 : ∀ i, ¬ (tkO B n q = 5 ∧ i = 1) := fun i z => by omega
  have hli : liT (tkO B n q) = 600 := by rw [eo]; rfl
  have hls : lsT (tkO B n q) = 4 := by rw [eo]; rfl
  rw [ful_no (by decide)]
  have L0 : LMq h B n q (tkO B n q) false s 0 := lm_0 m rfl
  refine kX11_walkLine 313 (sX11_walkLine_0 313 hl (Nat.le_refl _) ⟨_, c_whoL l G h q 0 false s hl t k0 hs (by omega) (fun z => absurd z.2 (by decide)) (n5 0) (by rw [eo]; rfl) (by rw [eo]; rfl) L0, fun y6 I4 c1 => ?_⟩)
  obtain ⟨f4, L1, r6, v0, e16, e9, e10⟩ := c1
  refine ⟨_, c_cellL l G (I4, h.2) q 1 false s hl (f4.tp t) k0 hs (by omega) (fun z => absurd z.2 (by decide)) (n5 1) (by rw [eo]; rfl) (by rw [eo]; rfl) L1, fun y15 I13 c2 => ?_⟩
  obtain ⟨f13, L2, r15, v1, k16, k10, k9⟩ := c2
  obtain ⟨P, hV, eP⟩ : ∃ P : Nat, y6.toInt = (P : Int) ∧ y6.toInt.toNat = P := ⟨y6.toInt.toNat, by omega, rfl⟩
  have hP : P < 6 := by omega
  have i33 := ix_33 hV hP
  have j6 := ix_c (c := 6) (j := 6) i33 rfl (by omega) (by decide)
  have j7 := ix_c (c := 7) (j := 7) i33 rfl (by omega) (by decide)
  have j8 := ix_c (c := 8) (j := 8) i33 rfl (by omega) (by decide)
  refine ⟨by omega, by omega, fun I20 c3 => ?_⟩
  have d1 : WrI (I13, h.2) I20 316 (120 + 33 * P + 6) y15 := wr_ix c3 j6
  have f20 : FrQ h I20 := (f4.tr f13).w16 d1
  have L2' : LMq (I20, h.2) B n q (tkO B n q) false s 2 := LMq.kp (h := (I13, h.2)) L2 (fun k _ => congrFun (d1.f (by decide)) k) (d1.f (by decide))
  refine ⟨_, c_num l G (I20, h.2) q 2 false s 0 60 hl (f20.tp t) k0 hs (by omega) (fun z => absurd z.2 (by decide)) (n5 2) (by rw [eo]; rfl) (by rw [eo]; rfl) (by rw [eo]; decide) L2', fun y28 I26 c4 => ?_⟩
  obtain ⟨f26, L3, r28, v2⟩ := c4
  refine ⟨by omega, by omega, fun I33 c5 => ?_⟩
  have d2 : WrI (I26, h.2) I33 316 (120 + 33 * P + 7) y28 := wr_ix c5 j7
  have g33 : FrQ h I33 := (f20.tr f26.q).w16 d2
  have L3' : LMq (I33, h.2) B n q (tkO B n q) false s 3 := LMq.kp (h := (I26, h.2)) L3 (fun k _ => congrFun (d2.f (by decide)) k) (d2.f (by decide))
  have rI13 : RwM (I13, h.2) V := RwM.kp rw_ (k16.trans e16)
  have rI20 := rI13.wr d1 rfl
  have rI26 := RwM.kp rI20 (show I26 316 = I20 316 from f26.1 316 (by decide) (by decide))
  have rI33 := rI26.wr d2 rfl
  have q9 : (I33 313 9).toInt = mxZ (zI h 313 9).toInt y6.toInt := by
    rw [d2.f (by decide)]
    show (I26 313 9).toInt = _
    rw [f26.2.1 9 (by decide)]
    show (I20 313 9).toInt = _
    rw [d1.f (by decide)]
    show (I13 313 9).toInt = _
    rw [k9]; exact e9
  have q10 : (I33 313 10).toInt = mxZ (zI h 313 10).toInt y15.toInt := by
    rw [d2.f (by decide)]
    show (I26 313 10).toInt = _
    rw [f26.2.1 10 (by decide)]
    show (I20 313 10).toInt = _
    rw [d1.f (by decide)]
    show (I13 313 10).toInt = _
    rw [k10]
    show mxZ (I4 313 10).toInt _ = _
    rw [e10]; rfl
  obtain ⟨W, eW⟩ : ∃ W, W = upI (upI V (120 + 33 * P + 6) y15.toInt) (120 + 33 * P + 7) y28.toInt := ⟨_, rfl⟩
  rw [← eW] at rI33
  have W120 : ∀ w, w < 120 → W w = V w := fun w hw => by rw [eW, upI_ne (by omega), upI_ne (by omega)]
  have X9 : ∀ (J : Nat → Nat → Int32), MSq (J, h.2) B n true 0 (1, tkW B n (pzB B n q (hdB B n q))) → zI (J, h.2) 313 8 = 1 := fun J mm => mm.2.2 rfl
  have loop : ∀ (fu mm : Nat) (x2 : Int32) (u3 : Value) (J : Nat → Nat → Int32), x2.toInt = (mm : Int) → 600 - mm < fu → FrQ h J → LMq (J, h.2) B n q (tkO B n q) false s (3 + mm) → (mm ≤ 1 ∨ 3 + mm ≤ hdB B n q) → (J 313 9).toInt = mxZ (zI h 313 9).toInt y6.toInt → (J 313 10).toInt = mxZ (zI h 313 10).toInt y15.toInt → (∃ Vm, RwM (J, h.2) Vm ∧ (∀ w, w < 120 → Vm w = V w) ∧ (3 + mm ≤ hdB B n q → (fzB B n q (tkO B n q) false s (3 + mm)).1 = 0 → Vm = sdI W (129 + 33 * P) (fun i => vzB B n q (3 + i)) mm)) →
      Z l G mX11_walkLine 7 (fun v h1 => ∃ I, v = none ∧ h1 = (I, h.2) ∧ LnR 0 h B n q false s V I) 0 0 42 [va_rf (some 313), .int (120 + 33 * y6), .int x2, u3] [] (J, h.2) := by
    intro fu
    induction fu with
    | zero => intro mm x2 u3 J e2 q1; omega
    | succ fu ih =>
      intro mm x2 u3 J e2 q1 fr L im g9 g10 hVm
      obtain ⟨Vm, rJ, low, exa⟩ := hVm
      have t' := fr.tp t
      have bV : ∀ (w0 : Nat) (x : Int), 120 ≤ w0 → LnB 0 (upI Vm w0 x) := fun w0 x hw => ⟨fun _ => ⟨by rw [upI_ne (by omega), low 3 (by decide)]; exact (bd.1 rfl).1, by rw [upI_ne (by omega), low 4 (by decide)]; exact (bd.1 rfl).2⟩, fun z => absurd z (by decide)⟩
      -- the number of sides
      have out : ∀ (y : Int32), (0 ≤ y.toInt ∧ y.toInt ≤ 24) → LnE (J, h.2) B n q false s → (4 ≤ hdB B n q → hdB B n q = 3 + mm ∧ (mm ≤ 24 → y.toInt = (mm : Int))) → (0 ≤ (120 + 33 * y6 + 8).toInt ∧ (120 + 33 * y6 + 8).toInt < ((318 : Nat) : Int) ∧ ∀ I10 : Nat → Nat → Int32, I10 = (zwI (J, h.2) (313 + 3) (zix (120 + 33 * y6 + 8)) y).1 → (∃ I, (none : Option Value) = none ∧ (I10, h.2) = (I, h.2) ∧ LnR 0 h B n q false s V I)) := fun y ry E ey => by
        refine ⟨by omega, by omega, fun I10 c3 => ⟨I10, rfl, rfl, ?_⟩⟩
        have d : WrI (J, h.2) I10 316 (120 + 33 * P + 8) y := wr_ix c3 j8
        refine ⟨fr.w16 d, ⟨fun z => MSq.kp (h := (J, h.2)) (E.1 z) (fun k _ => congrFun (d.f (by decide)) k) (d.f (by decide)), fun z => MSq.kp (h := (J, h.2)) (E.2 z) (fun k _ => congrFun (d.f (by decide)) k) (d.f (by decide))⟩, _, rJ.wr d rfl, bV _ _ (by omega), fun z1 z2 => ?_⟩
        obtain ⟨eh, ey2⟩ := ey (by omega)
        have m24 : mm ≤ 24 := Nat.le_of_not_lt fun z => ((fz_0 _ z2).2.2 27 (by omega)).2 ⟨eo, rfl⟩
        have w0 := v0 (by omega) (fz_dn _ (by omega) z2)
        have w1 := v1 (by omega) (fz_dn _ (by omega) z2)
        have w2 := v2 (by omega) (fz_dn _ (by omega) z2)
        have eV := exa (by omega) (by rw [← eh]; exact z2)
        have yy := ey2 m24
        have em : ((hdB B n q : Nat) : Int) - 3 = (mm : Int) := by omega
        have em2 : hdB B n q - 3 = mm := by omega
        rw [eo, tl_4, ← w0, eP, em, em2, eV, upI_sd (by omega), yy, eW, w1, w2, show 120 + 33 * P + 6 = 126 + 33 * P by omega, show 120 + 33 * P + 7 = 127 + 33 * P by omega, show 120 + 33 * P + 8 = 128 + 33 * P by omega]
        refine ⟨rfl, ?_, ?_⟩
        · rw [d.f (by decide)]; exact g9
        · rw [d.f (by decide)]
          show (J 313 10).toInt = _
          rw [g10, w1]
      -- a side more
      have step : 3 + mm ≤ hdB B n q → mm < 24 → (mm = 0 ∨ tkK B n (pzB B n q (3 + mm)) = 1) → (∃ P25, CTi l G YX11_numbered 5 [va_rf (some 313), .int 0, .int 3] (J, h.2) P25 ∧ ∀ (y30 : Int32) (I28 : Nat → Nat → Int32), P25 y30 I28 → (((24 : Int) ≤ x2.toInt → Z l G mX11_walkLine 7 (fun v h1 => ∃ I, v = none ∧ h1 = (I, h.2) ∧ LnR 0 h B n q false s V I) 0 0 42 [va_rf (some 313), .int (120 + 33 * y6), .int (x2 + 1), .int y30] [] (I28, h.2)) ∧ (x2.toInt < (24 : Int) → (0 ≤ (120 + 33 * y6 + 8 + 1 + x2).toInt ∧ (120 + 33 * y6 + 8 + 1 + x2).toInt < ((318 : Nat) : Int) ∧ ∀ I39 : Nat → Nat → Int32, I39 = (zwI (I28, h.2) (313 + 3) (zix (120 + 33 * y6 + 8 + 1 + x2)) y30).1 → Z l G mX11_walkLine 7 (fun v h1 => ∃ I, v = none ∧ h1 = (I, h.2) ∧ LnR 0 h B n q false s V I) 0 0 42 [va_rf (some 313), .int (120 + 33 * y6), .int (x2 + 1), .int y30] [] (I39, h.2))))) := fun le lt k1 => by
        have t4 := tb_4 (3 + mm) (by omega)
        refine ⟨_, c_num l G (J, h.2) q (3 + mm) false s 0 3 hl t' k0 hs (by omega) (fun z => by omega) (fun z => by omega) (by rw [eo, t4.1]; rfl) (by rw [eo, t4.2]; rfl) (by rw [eo, t4.1, t4.2]; decide) L, fun y30 I28 c9 => ⟨fun c10 => absurd c10 (by omega), fun c11 => ?_⟩⟩
        obtain ⟨u1, u2, u3, u4⟩ := c9
        have j9 := ix_c (ix_c (c := 1) (j := 1) j8 rfl (by omega) (by decide)) e2 (by omega) (by omega)
        refine ⟨by omega, by omega, fun I39 c12 => ?_⟩
        have d : WrI (I28, h.2) I39 316 (120 + 33 * P + 8 + 1 + mm) y30 := wr_ix c12 j9
        have fr28 : FrQ h I28 := fr.tr u1.q
        have r28' : RwM (I28, h.2) Vm := RwM.kp (h := (J, h.2)) rJ (u1.1 316 (by decide) (by decide))
        refine ih (mm + 1) (x2 + 1) _ I39 (i_1 e2 (by omega)) (by omega) (fr28.w16 d) (LMq.kp (h := (I28, h.2)) u2 (fun k _ => congrFun (d.f (by decide)) k) (d.f (by decide))) ?_ ?_ ?_ ⟨_, r28'.wr d rfl, fun w hw => ?_, fun z1 z2 => ?_⟩
        · rcases k1 with z | z
          · exact Or.inl (by omega)
          · refine Or.inr ?_
            have : 3 + mm < hdB B n q := Nat.lt_of_le_of_ne le (fun y => hd_no (B := B) (n := n) (q := q) (by
              have pg := pz_grow k0 (hdB B n q) hd_1
              have pn := pz_le (B := B) (n := n) hq (hdB B n q)
              omega) (by rw [← y]; exact z))
            omega
        · rw [d.f (by decide)]
          show (I28 313 9).toInt = _
          rw [u1.2.1 9 (by decide)]; exact g9
        · rw [d.f (by decide)]
          show (I28 313 10).toInt = _
          rw [u1.2.1 10 (by decide)]; exact g10
        · rw [upI_ne (by omega)]; exact low w hw
        · have e1 := exa le (fz_dn _ (by omega) z2)
          have y1 := u4 (by omega) z2
          rw [e1, y1, show 120 + 33 * P + 8 + 1 + mm = 129 + 33 * P + mm by omega, sdI_s]
      have small : 3 + mm ≤ hdB B n q → 3 + mm < 600 := fun le => by
        have pg := pz_grow k0 (3 + mm) (fun j hj => hd_1 j (by omega))
        have pn := pz_le (B := B) (n := n) hq (3 + mm)
        omega
      have hwr : ¬ zI (J, h.2) 313 8 = 0 → hdB B n q < 3 + mm := fun c => Nat.lt_of_not_le fun z => c (((L.1 z).2.1 rfl).1)
      have hri : zI (J, h.2) 313 8 = 0 → 3 + mm ≤ hdB B n q := fun c => Nat.le_of_not_lt fun z => by
        have := X9 J (L.2 z)
        rw [c] at this; exact absurd this (by decide)
      have x0 : x2 = 0 → mm = 0 := fun e => by rw [e] at e2; have : (0 : Int) = (mm : Int) := e2; omega
      have x0n : ¬ x2 = 0 → mm ≠ 0 := fun e z => e (i_ext (by rw [e2, z]; rfl))
      have tok : 3 + mm ≤ hdB B n q → (zI (J, h.2) 313 5 = 1 ↔ tkK B n (pzB B n q (3 + mm)) = 1) := fun le => by
        have e5 : (zI (J, h.2) 313 5).toInt = (tkK B n (pzB B n q (3 + mm)) : Int) := ((L.1 le).2.1 rfl).2.2.2.2.1
        refine ⟨fun z => ?_, fun z => i_ext (by rw [e5, z]; rfl)⟩
        rw [z] at e5
        have : (1 : Int) = (tkK B n (pzB B n q (3 + mm)) : Int) := e5
        omega
      have E1 : ¬ zI (J, h.2) 313 8 = 0 → LnE (J, h.2) B n q false s := fun c => by
        have lt := hwr c
        refine ⟨fun z => by omega, fun _ => L.2 lt⟩
      refine sX11_walkLine_42 (h := (J, h.2)) 313 (120 + 33 * y6) x2 u3 hl (Nat.le_refl _) ⟨fun c1 => ⟨fun c2 => out x2 ⟨by omega, c2⟩ (E1 c1) (fun z => by have := hwr c1; omega), fun c4 => out 24 (by decide) (E1 c1) (fun z => by have := hwr c1; omega)⟩, fun c6 => ⟨fun c7 => ⟨fun c8 => step (hri c6) (by omega) (Or.inl (x0 c7)), fun c13 => by have := x0 c7; omega⟩, fun c19 => ?_⟩⟩
      have le := hri c6
      have m0 := x0n c19
      refine ⟨fun c20 => ?_, fun c25 => ⟨fun c26 => step le (by omega) (Or.inr ((tok le).mp c25)), fun c31 => ?_⟩⟩
      · have kn : tkK B n (pzB B n q (3 + mm)) ≠ 1 := fun z => c20 ((tok le).mpr z)
        have eh : hdB B n q = 3 + mm := Nat.le_antisymm (Nat.le_of_not_lt fun z => kn (hd_1 _ z)) le
        have E : LnE (J, h.2) B n q false s := ⟨fun _ => by rw [eh]; exact L.1 le, fun z => by omega⟩
        exact ⟨fun c21 => out x2 ⟨by omega, c21⟩ E (fun _ => ⟨eh, fun _ => e2⟩), fun c23 => out 24 (by decide) E (fun _ => ⟨eh, fun z => by omega⟩)⟩
      · have kk := (tok le).mp c25
        have sm := small le
        have lt : 3 + mm < hdB B n q := Nat.lt_of_le_of_ne le (fun y => hd_no (B := B) (n := n) (q := q) (by omega) (by rw [← y]; exact kk))
        have M := L.1 le
        refine ⟨_, c_also l G (J, h.2) _ 3 (tkW B n (pzB B n q (3 + mm))) _ false 3 _ hl rfl (by decide) ((M.2.1 rfl).2.2.1) M, fun I45 c14 => ?_⟩
        obtain ⟨u1, u2⟩ := c14
        rw [if_neg Bool.false_ne_true] at u2
        refine ⟨_, c_numbered l G (I45, h.2) _ _ false 0 3 0 3 hl (u1.tp t') rfl rfl (by decide) u2, fun y56 I54 c15 => ⟨fun c16 => ?_, fun c17 => absurd c17 (by omega)⟩⟩
        obtain ⟨p1, p2⟩ := c15
        have pl := fz_pl (o := tkO B n q) (full := false) hs k0 (3 + mm) (fun j hj => hd_1 j (by omega))
        have tw := (tkW_sp (B := B) (n := n) (q := pzB B n q (3 + mm))).1
        have t4 := tb_4 (3 + mm) (by omega)
        have ef : (if inB 0 3 (vzB B n q (3 + mm)) = true then alP (fzB B n q (tkO B n q) false s (3 + mm)) 3 (tkW B n (pzB B n q (3 + mm))) else alP (alP (fzB B n q (tkO B n q) false s (3 + mm)) 3 (tkW B n (pzB B n q (3 + mm)))) 2 (tkW B n (pzB B n q (3 + mm)))) = fzB B n q (tkO B n q) false s (3 + mm + 1) := by
          have e : fzB B n q (tkO B n q) false s (3 + mm + 1) = if tkO B n q = 4 ∧ 3 + mm = 27 then ntS (if bdT (tkO B n q) (3 + mm) (vzB B n q (3 + mm)) (vzB B n q 0) = true then ntS (fzB B n q (tkO B n q) false s (3 + mm)) 2 (wzB B n q (3 + mm)) else fzB B n q (tkO B n q) false s (3 + mm)) 3 (wzB B n q (3 + mm)) else (if bdT (tkO B n q) (3 + mm) (vzB B n q (3 + mm)) (vzB B n q 0) = true then ntS (fzB B n q (tkO B n q) false s (3 + mm)) 2 (wzB B n q (3 + mm)) else fzB B n q (tkO B n q) false s (3 + mm)) := rfl
          rw [e]
          have ew : wzB B n q (3 + mm) = tkW B n (pzB B n q (3 + mm)) := rfl
          rw [ew]
          by_cases z : (fzB B n q (tkO B n q) false s (3 + mm)).1 = 0
          · have m24 : mm = 24 := by
              have : mm ≤ 24 := Nat.le_of_not_lt fun y => ((fz_0 _ z).2.2 27 (by omega)).2 ⟨eo, rfl⟩
              omega
            have c27 : tkO B n q = 4 ∧ 3 + mm = 27 := ⟨eo, by omega⟩
            rw [if_pos c27, al_z z]
            have bi := bd_in (o := tkO B n q) (i := 3 + mm) (v := vzB B n q (3 + mm)) (a0 := vzB B n q 0) (n5 (3 + mm))
            cases b : bdT (tkO B n q) (3 + mm) (vzB B n q (3 + mm)) (vzB B n q 0) with
            | false =>
              have g := bi.mpr b
              rw [eo, t4.1, t4.2] at g
              have g' : inB 0 3 (vzB B n q (3 + mm)) = true := g
              rw [if_pos g', if_neg Bool.false_ne_true, nt_z z]
            | true =>
              have g' : ¬ inB 0 3 (vzB B n q (3 + mm)) = true := fun y => by
                have y2 : inB (loT (tkO B n q) (3 + mm)) (hiT (tkO B n q) (3 + mm)) (vzB B n q (3 + mm)) = true := by rw [eo, t4.1, t4.2]; exact y
                rw [bi.mp y2] at b; cases b
              rw [if_neg g', if_pos rfl, nt_z z, nt_X (Nat.succ_ne_zero 1)]
              exact if_neg (fun y => by
                rcases y.2 with x | x
                · exact absurd x (Nat.lt_irrefl _)
                · exact absurd (show 3 ≤ 2 from x.2) (by decide))
          · have p := pl z
            rw [al_X z (by omega), al_X z (by omega), nt_X z, if_id, if_id, nt_X z, if_id]
        obtain ⟨w1, w2⟩ := ln_fz (h := (I45, h.2)) (by omega) le p2 (fun _ => ef)
        have f54 : FrN (J, h.2) I54 := u1.tr p1
        refine ih (mm + 1) (x2 + 1) _ I54 (i_1 e2 (by omega)) (by omega) (fr.tr f54.q) w1 (Or.inr (by omega)) ?_ ?_ ⟨Vm, RwM.kp (h := (J, h.2)) rJ (f54.1 316 (by decide) (by decide)), low, fun z1 z2 => ?_⟩
        · rw [f54.2.1 9 (by decide)]; exact g9
        · rw [f54.2.1 10 (by decide)]; exact g10
        · exact absurd ⟨eo, rfl⟩ ((fz_0 _ z2).2.2 27 (by omega)).2
  exact loop 601 0 0 _ I33 rfl (by decide) g33 L3' (Or.inl (by decide)) q9 q10 ⟨W, rI33, W120, fun _ _ => by rw [sdI_0]⟩
end K9T
