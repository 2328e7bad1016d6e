set_option maxRecDepth 4000
/-! ===== texts: the class's tokens ===== -/
section K9G
variable {B : Nat → Int} {n : Nat}
theorem blank_i {c : Int32} : zblank c = blB c.toInt := by
  unfold zblank blB
  exact decide_eq_decide.mpr (or_congr (n_eqc (c := 10)) (n_eqc (c := 32)))
theorem letter_i {c : Int32} : zletter c = ltB c.toInt := rfl
theorem digit_i {c : Int32} : zdigit c = dgB c.toInt := rfl
/-- the tape that is read -/
def TpC (h : zH) (B : Nat → Int) (n : Nat) : Prop := zR h 55 4 = some 2 ∧ zAw h 2 600 ∧ (∀ i, i < n → (zI h 2 i).toInt = B i ∧ 0 ≤ B i ∧ B i < 256) ∧ n ≤ 600 ∧ (zI h 55 5).toInt = (n : Int)
theorem TpC.cg {h : zH} {J : Nat → Nat → Int32} (t : TpC h B n) (e2 : J 2 = h.1 2) (e5 : J 55 5 = h.1 55 5) : TpC (J, h.2) B n := by
  obtain ⟨t1, t2, t3, t4, t5⟩ := t
  refine ⟨t1, t2, fun i hi => ?_, t4, ?_⟩
  · show (J 2 i).toInt = _ ∧ _
    rw [e2]; exact t3 i hi
  · show (J 55 5).toInt = _
    rw [e5]; exact t5
theorem TpC.g {h : zH} (t : TpC h B n) : zgok h (zR h 55 4) := by rw [t.1]; exact zgok_lo t.2.1 (by decide)
theorem TpC.at {h : zH} (t : TpC h B n) {x : Int32} {p : Nat} (hx : x.toInt = (p : Int)) (hp : p < n) : (zget h (zR h 55 4) x).toInt = bAt B n p ∧ bAt B n p = B p := by
  have e : bAt B n p = B p := if_pos hp
  refine ⟨?_, e⟩
  rw [t.1, zget_w t.2.1 hx (by have := t.2.2.2.1; omega), e]
  exact (t.2.2.1 p hp).1
def FrT (h : zH) (I : Nat → Nat → Int32) : Prop := (∀ b, b ≠ 55 → I b = h.1 b) ∧ ∀ k, k ≠ 6 → k ≠ 7 → k ≠ 8 → k ≠ 9 → I 55 k = h.1 55 k
theorem FrT.rf (h : zH) : FrT h h.1 := ⟨fun _ _ => rfl, fun _ _ _ _ _ => rfl⟩
theorem FrT.tr {h : zH} {I J : Nat → Nat → Int32} (a : FrT h I) (c : FrT (I, h.2) J) : FrT h J := ⟨fun b z => (c.1 b z).trans (a.1 b z), fun k z1 z2 z3 z4 => (c.2 k z1 z2 z3 z4).trans (a.2 k z1 z2 z3 z4)⟩
theorem FrT.tp {h : zH} {I : Nat → Nat → Int32} (f : FrT h I) (t : TpC h B n) : TpC (I, h.2) B n := t.cg (f.1 2 (by decide)) (f.2 5 (by decide) (by decide) (by decide) (by decide))
theorem c_nextNumber (l : Launch) (G : zG) (h : zH) (w : Nat) (x1 : Int32) (hl : lo5 h 55) (t : TpC h B n) (hw : w < n) (hd : dgB (B w) = true) (h7 : (zI h 55 7).toInt = (w : Int)) (h8 : (zI h 55 8).toInt = ((w + 1 : Nat) : Int)) (h1 : x1.toInt = B w - 48) :
    CTv l G YX5_nextNumber 2 [va_rf (some 55), .int x1] h (fun I => FrT h I ∧ (I 55 7).toInt = (w : Int) ∧ (I 55 8).toInt = (reB dgB B n w : Int) ∧ (reB dgB B n w - w ≤ 2 → I 55 6 = 2 ∧ (I 55 9).toInt = (if reB dgB B n w - w = 1 then B w - 48 else 10 * (B w - 48) + (B (w + 1) - 48))) ∧ (¬ reB dgB B n w - w ≤ 2 → I 55 6 = 0)) := by
  have n6 := t.2.2.2.1
  have ew : reB dgB B n w = reB dgB B n (w + 1) := reB_yes dg_1 (by rw [show bAt B n w = B w from if_pos hw]; exact hd)
  rw [ew]
  have dw := of_decide_eq_true hd
  have loop : ∀ (fu p : Nat) (J : Nat → Nat → Int32), w < p → p ≤ n → n - p < fu → FrT h J → (J 55 7).toInt = (w : Int) → (J 55 8).toInt = (p : Int) → 0 ≤ (J 55 9).toInt → (J 55 9).toInt < 1000 → (p = w + 1 → (J 55 9).toInt = B w - 48) → (p = w + 2 → (J 55 9).toInt = 10 * (B w - 48) + (B (w + 1) - 48)) → reB dgB B n (w + 1) = reB dgB B n p →
      Z l G mX5_nextNumber 2 (fun v h2 => ∃ I, v = none ∧ h2 = (I, h.2) ∧ (FrT h I ∧ (I 55 7).toInt = (w : Int) ∧ (I 55 8).toInt = (reB dgB B n (w + 1) : Int) ∧ (reB dgB B n (w + 1) - w ≤ 2 → I 55 6 = 2 ∧ (I 55 9).toInt = (if reB dgB B n (w + 1) - w = 1 then B w - 48 else 10 * (B w - 48) + (B (w + 1) - 48))) ∧ (¬ reB dgB B n (w + 1) - w ≤ 2 → I 55 6 = 0))) 0 0 5 [va_rf (some 55), .int x1] [] (J, h.2) := by
    intro fu
    induction fu with
    | zero => intro p J q1 q2 q3; omega
    | succ fu ih =>
      intro p J q1 q2 q3 fr v7 v8 v90 v91 va vb re
      have tJ := fr.tp t
      have v5 : (zI (J, h.2) 55 5).toInt = (n : Int) := tJ.2.2.2.2
      have v7' : (zI (J, h.2) 55 7).toInt = (w : Int) := v7
      have v8' : (zI (J, h.2) 55 8).toInt = (p : Int) := v8
      have esub : (zI (J, h.2) 55 8 - zI (J, h.2) 55 7).toInt = ((p - w : Nat) : Int) := by rw [i_sub (by omega) (by omega)]; omega
      -- the end of the figures
      have fin : reB dgB B n p = p → ((2 : Int) < (zI (J, h.2) 55 8 - zI (J, h.2) 55 7).toInt → ∀ K, K = (zwI (J, h.2) 55 6 (0 : Int32)).1 → (none : Option Value) = none ∧ (K, h.2) = (K, h.2) ∧ (FrT h K ∧ (K 55 7).toInt = (w : Int) ∧ (K 55 8).toInt = (reB dgB B n (w + 1) : Int) ∧ (reB dgB B n (w + 1) - w ≤ 2 → K 55 6 = 2 ∧ (K 55 9).toInt = (if reB dgB B n (w + 1) - w = 1 then B w - 48 else 10 * (B w - 48) + (B (w + 1) - 48))) ∧ (¬ reB dgB B n (w + 1) - w ≤ 2 → K 55 6 = 0))) ∧
          ((zI (J, h.2) 55 8 - zI (J, h.2) 55 7).toInt ≤ (2 : Int) → ∀ K, K = (zwI (J, h.2) 55 6 (2 : Int32)).1 → (none : Option Value) = none ∧ (K, h.2) = (K, h.2) ∧ (FrT h K ∧ (K 55 7).toInt = (w : Int) ∧ (K 55 8).toInt = (reB dgB B n (w + 1) : Int) ∧ (reB dgB B n (w + 1) - w ≤ 2 → K 55 6 = 2 ∧ (K 55 9).toInt = (if reB dgB B n (w + 1) - w = 1 then B w - 48 else 10 * (B w - 48) + (B (w + 1) - 48))) ∧ (¬ reB dgB B n (w + 1) - w ≤ 2 → K 55 6 = 0))) := fun rp => by
        rw [re, rp]
        refine ⟨fun c K e => ?_, fun c K e => ?_⟩
        · obtain ⟨a1, a2, a3⟩ := zwI_eff e
          refine ⟨rfl, rfl, fr.tr ⟨a1, fun k z1 _ _ _ => a2 k z1⟩, by rw [a2 7 (by decide)]; exact v7, by rw [a2 8 (by decide)]; exact v8, fun z => ?_, fun _ => a3⟩
          have c' : (2 : Int) < ((p - w : Nat) : Int) := by rw [← esub]; exact c
          omega
        · obtain ⟨a1, a2, a3⟩ := zwI_eff e
          have c' : ((p - w : Nat) : Int) ≤ (2 : Int) := by rw [← esub]; exact c
          refine ⟨rfl, rfl, fr.tr ⟨a1, fun k z1 _ _ _ => a2 k z1⟩, by rw [a2 7 (by decide)]; exact v7, by rw [a2 8 (by decide)]; exact v8, fun z => ⟨a3, ?_⟩, fun z => by omega⟩
          rw [a2 9 (by decide)]
          by_cases y : p - w = 1
          · rw [if_pos y]; exact va (by omega)
          · rw [if_neg y]; exact vb (by omega)
      refine sX5_nextNumber_5 (h := (J, h.2)) 55 x1 hl (Nat.le_refl _) ⟨fun c1 => ?_, fun c6 => ⟨tJ.g, fun c7 => ?_, fun c12 => ⟨tJ.g, fun I40 c13 I43 c14 => ?_⟩⟩⟩
      · have ep : reB dgB B n p = p := reB_no dg_1 (by rw [show bAt B n p = -1 from if_neg (by omega)]; exact dg_1)
        have f := fin ep
        exact ⟨fun c2 I9 c3 => ⟨I9, f.1 c2 I9 c3⟩, fun c4 I12 c5 => ⟨I12, f.2 c4 I12 c5⟩⟩
      · have hp : p < n := by omega
        have e := tJ.at v8' hp
        rw [digit_i, e.1] at c7
        have f := fin (reB_no dg_1 c7)
        exact ⟨fun c2 I9 c3 => ⟨I9, f.1 c2 I9 c3⟩, fun c4 I12 c5 => ⟨I12, f.2 c4 I12 c5⟩⟩
      · have hp : p < n := by omega
        have e := tJ.at v8' hp
        rw [digit_i, e.1] at c12
        obtain ⟨a1, a2, a3⟩ := zwI_eff c13
        obtain ⟨b1, b2, b3⟩ := zwI_eff c14
        have dp := of_decide_eq_true c12
        rw [e.2] at dp
        have ez : (zget (J, h.2) (zR (J, h.2) 55 4) (zI (J, h.2) 55 8)).toInt = B p := e.1.trans e.2
        have v9' : 0 ≤ (zI (J, h.2) 55 9).toInt ∧ (zI (J, h.2) 55 9).toInt < 1000 := ⟨v90, v91⟩
        have m1 : (zI (J, h.2) 55 9 * 10).toInt = (J 55 9).toInt * 10 := i_mul (by show _ ≤ (zI (J, h.2) 55 9).toInt * (10 : Int); omega) (by show (zI (J, h.2) 55 9).toInt * (10 : Int) < _; omega)
        have m2 : (zI (J, h.2) 55 9 * 10 + zget (J, h.2) (zR (J, h.2) 55 4) (zI (J, h.2) 55 8)).toInt = (J 55 9).toInt * 10 + B p := by rw [i_add (by omega) (by omega), m1, ez]
        have m3 : (zI (J, h.2) 55 9 * 10 + zget (J, h.2) (zR (J, h.2) 55 4) (zI (J, h.2) 55 8) - 48).toInt = (J 55 9).toInt * 10 + B p - 48 := by
          rw [i_sub (by rw [m2]; show _ ≤ _ - (48 : Int); omega) (by rw [m2]; show _ - (48 : Int) < _; omega), m2]; rfl
        have m4 : (I40 55 9).toInt = ((J 55 9).toInt * 10 + B p - 48) % 1000 := by
          rw [a3, n_rem (by rw [m3]; omega) (by decide), m3]; rfl
        have e8 : zI (I40, h.2) 55 8 = J 55 8 := a2 8 (by decide)
        refine ih (p + 1) I43 (by omega) (by omega) (by omega) (fr.tr (FrT.tr (h := (J, h.2)) ⟨a1, fun k _ _ _ z4 => a2 k z4⟩ ⟨b1, fun k _ _ z3 _ => b2 k z3⟩)) ?_ ?_ ?_ ?_ (fun z => by omega) (fun z => ?_) ?_
        · rw [b2 7 (by decide)]
          show (I40 55 7).toInt = _
          rw [a2 7 (by decide)]; exact v7
        · rw [b3, e8]; exact i_1 v8 (by omega)
        · rw [b2 9 (by decide)]
          show 0 ≤ (I40 55 9).toInt
          rw [m4]; omega
        · rw [b2 9 (by decide)]
          show (I40 55 9).toInt < 1000
          rw [m4]; omega
        · rw [b2 9 (by decide)]
          show (I40 55 9).toInt = _
          have pw : p = w + 1 := by omega
          have ev := va pw
          rw [pw] at dp
          rw [m4, ev, pw]
          omega
        · rw [re]; exact reB_yes dg_1 c12
  refine kX5_nextNumber 55 x1 (sX5_nextNumber_0 55 x1 hl (Nat.le_refl _) (fun I1 c1 => ?_))
  obtain ⟨a1, a2, a3⟩ := zwI_eff c1
  exact loop (n + 1) (w + 1) I1 (by omega) (by omega) (by omega) ⟨a1, fun k _ _ _ z4 => a2 k z4⟩ (by rw [a2 7 (by decide)]; exact h7) (by rw [a2 8 (by decide)]; exact h8) (by rw [a3]; omega) (by rw [a3]; omega) (fun _ => by rw [a3]; exact h1) (fun z => by omega) rfl
/-- the token that the class holds -/
def TkC (I : Nat → Nat → Int32) (B : Nat → Int) (n q : Nat) : Prop :=
  (I 55 7).toInt = (tkW B n q : Int) ∧ (I 55 8).toInt = (tkE B n q : Int) ∧ (tkK B n q = 0 → I 55 6 = 4) ∧ (tkK B n q = 1 → I 55 6 = 2 ∧ (I 55 9).toInt = tkV B n q) ∧ (tkK B n q = 2 → I 55 6 = 3) ∧ (tkK B n q = 3 → I 55 6 = 1) ∧ (tkK B n q = 4 → I 55 6 = 0 ∨ I 55 6 = 1) ∧ (I 55 6 = 1 → tkK B n q = 3 ∨ (tkK B n q = 4 ∧ tkO B n q = 0))
theorem c_next (l : Launch) (G : zG) (h : zH) (q : Nat) (hl : lo5 h 55) (t : TpC h B n) (hq : q ≤ n) (h8 : (zI h 55 8).toInt = (q : Int)) :
    CTv l G YX5_next 3 [va_rf (some 55)] h (fun I => FrT h I ∧ TkC I B n q) := by
  have n6 := t.2.2.2.1
  have wn := (tkW_sp (B := B) (n := n) (q := q)).2.2 hq
  -- letters
  have lets : ∀ (u : Value) (w : Nat), w = tkW B n q → w < n → ltB (B w) = true → ∀ (fu p : Nat) (J : Nat → Nat → Int32), w < p → p ≤ n → n - p < fu → FrT h J → (J 55 7).toInt = (w : Int) → (J 55 8).toInt = (p : Int) → J 55 6 = 1 → reB ltB B n w = reB ltB B n p →
      Z l G mX5_next 3 (fun v h2 => ∃ I, v = none ∧ h2 = (I, h.2) ∧ (FrT h I ∧ TkC I B n q)) 0 0 108 [va_rf (some 55), u] [] (J, h.2) := by
    intro u w ew hw hlw fu
    have eE : tkE B n q = reB ltB B n w := by
      unfold tkE
      rw [← ew, if_neg (by omega), if_pos hlw]
    have eK : tkK B n q = if tkO B n q = 0 then 4 else 3 := by
      unfold tkK
      rw [← ew, if_neg (by omega), if_pos hlw]
    have fin : ∀ (J : Nat → Nat → Int32) (p : Nat), FrT h J → (J 55 7).toInt = (w : Int) → (J 55 8).toInt = (p : Int) → J 55 6 = 1 → reB ltB B n w = p → FrT h J ∧ TkC J B n q := fun J p fr v7 v8 v6 re => by
      refine ⟨fr, by rw [← ew]; exact v7, by rw [eE, re]; exact v8, fun z => ?_, fun z => ?_, fun z => ?_, fun _ => v6, fun _ => Or.inr v6, fun _ => ?_⟩
      · rw [eK] at z; split at z <;> cases z
      · rw [eK] at z; split at z <;> cases z
      · rw [eK] at z; split at z <;> cases z
      · rw [eK]
        by_cases y : tkO B n q = 0
        · rw [if_pos y]; exact Or.inr ⟨rfl, y⟩
        · rw [if_neg y]; exact Or.inl rfl
    induction fu with
    | zero => intro p J q1 q2 q3; omega
    | succ fu ih =>
      intro p J q1 q2 q3 fr v7 v8 v6 re
      have tJ := fr.tp t
      have v5 : (zI (J, h.2) 55 5).toInt = (n : Int) := tJ.2.2.2.2
      have v8' : (zI (J, h.2) 55 8).toInt = (p : Int) := v8
      refine sX5_next_108 (h := (J, h.2)) 55 u hl (Nat.le_refl _) ⟨fun c1 => ⟨J, rfl, rfl, fin J p fr v7 v8 v6 ?_⟩, fun c2 => ⟨tJ.g, fun c3 => ⟨J, rfl, rfl, fin J p fr v7 v8 v6 ?_⟩, fun c4 I16 c5 => ?_⟩⟩
      · rw [re]
        exact reB_no lt_1 (by rw [show bAt B n p = -1 from if_neg (by omega)]; exact lt_1)
      · have hp : p < n := by omega
        rw [letter_i, (tJ.at v8' hp).1] at c3
        rw [re]; exact reB_no lt_1 c3
      · have hp : p < n := by omega
        rw [letter_i, (tJ.at v8' hp).1] at c4
        obtain ⟨a1, a2, a3⟩ := zwI_eff c5
        refine ih (p + 1) I16 (by omega) (by omega) (by omega) (fr.tr ⟨a1, fun k _ _ z3 _ => a2 k z3⟩) (by rw [a2 7 (by decide)]; exact v7) (by rw [a3]; exact i_1 v8 (by omega)) (by rw [a2 6 (by decide)]; exact v6) ?_
        rw [re]; exact reB_yes lt_1 c4
  have loop : ∀ (fu p : Nat) (u : Value) (J : Nat → Nat → Int32), p ≤ n → n - p < fu → FrT h J → (J 55 7).toInt = (p : Int) → tkW B n q = reB blB B n p →
      Z l G mX5_next 3 (fun v h2 => ∃ I, v = none ∧ h2 = (I, h.2) ∧ (FrT h I ∧ TkC I B n q)) 0 0 8 [va_rf (some 55), u] [] (J, h.2) := by
    intro fu
    induction fu with
    | zero => intro p u J q1 q2; omega
    | succ fu ih =>
      intro p u J q1 q2 fr v7 re
      have tJ := fr.tp t
      have v5 : (zI (J, h.2) 55 5).toInt = (n : Int) := tJ.2.2.2.2
      have v7' : (zI (J, h.2) 55 7).toInt = (p : Int) := v7
      refine sX5_next_8 (h := (J, h.2)) 55 u hl (Nat.le_refl _) ⟨fun c1 => ⟨fun c2 => absurd c2 (by omega), fun c14 I52 c15 I55 c16 => ?_⟩, fun c17 => ⟨tJ.g, fun c18 => ⟨fun c19 => ⟨tJ.g, fun I77 c20 => ?_⟩, fun c31 => absurd c31 (by omega)⟩, fun c34 I122 c35 => ?_⟩⟩
      · have ep : p = n := by omega
        have ew : tkW B n q = n := by
          rw [re, ep]
          exact reB_no bl_1 (by rw [show bAt B n n = -1 from if_neg (by omega)]; exact bl_1)
        have eK : tkK B n q = 0 := tk_end.mpr (by omega)
        have eE : tkE B n q = n := by
          unfold tkE
          rw [if_pos (by omega)]; exact ew
        obtain ⟨a1, a2, a3⟩ := zwI_eff c15
        obtain ⟨b1, b2, b3⟩ := zwI_eff c16
        have k6 : I55 55 6 = 4 := by rw [b2 6 (by decide)]; exact a3
        have k7 : I55 55 7 = J 55 7 := by rw [b2 7 (by decide)]; exact a2 7 (by decide)
        have e7 : zI (I52, h.2) 55 7 = J 55 7 := a2 7 (by decide)
        refine ⟨I55, rfl, rfl, fr.tr (FrT.tr (h := (J, h.2)) ⟨a1, fun k z1 _ _ _ => a2 k z1⟩ ⟨b1, fun k _ _ z3 _ => b2 k z3⟩), by rw [k7, ew, ← ep]; exact v7, by rw [b3, e7, eE, ← ep]; exact v7, fun _ => k6, fun z => ?_, fun z => ?_, fun z => ?_, fun z => ?_, fun z => ?_⟩
        · rw [eK] at z; cases z
        · rw [eK] at z; cases z
        · rw [eK] at z; cases z
        · rw [eK] at z; cases z
        · rw [k6] at z; exact absurd z (by decide)
      · have hp : p < n := by omega
        have e := tJ.at v7' hp
        rw [blank_i, e.1] at c18
        have ew : tkW B n q = p := by rw [re]; exact reB_no bl_1 c18
        have wlt : ¬ n ≤ tkW B n q := by omega
        obtain ⟨a1, a2, a3⟩ := zwI_eff c20
        have f77 : FrT h I77 := fr.tr ⟨a1, fun k _ _ z3 _ => a2 k z3⟩
        have v8 : (I77 55 8).toInt = ((p + 1 : Nat) : Int) := by rw [a3]; exact i_1 v7' (by omega)
        have v77 : (I77 55 7).toInt = (p : Int) := by rw [a2 7 (by decide)]; exact v7
        rw [letter_i, digit_i, e.1, e.2]
        -- neither letter nor figure
        have other : ltB (B p) = false → dgB (B p) = false → ∀ (c6 : Int32) (K : Nat → Nat → Int32), K = (zwI (I77, h.2) 55 6 c6).1 → (B p = 59 → c6 = 3) → (¬ B p = 59 → c6 = 0) → FrT h K ∧ TkC K B n q := fun l1 d1 c6 K eK5 y1 y2 => by
          obtain ⟨g1, g2, g3⟩ := zwI_eff eK5
          have eE : tkE B n q = p + 1 := by
            unfold tkE
            rw [if_neg wlt, ew, l1, d1, if_neg Bool.false_ne_true, if_neg Bool.false_ne_true]
          have eK : tkK B n q = if B p = 59 then 2 else 4 := by
            unfold tkK
            rw [if_neg wlt, ew, l1, d1, if_neg Bool.false_ne_true, if_neg Bool.false_ne_true]
          refine ⟨f77.tr ⟨g1, fun k z1 _ _ _ => g2 k z1⟩, by rw [g2 7 (by decide), ew]; exact v77, by rw [g2 8 (by decide), eE]; exact v8, fun z => ?_, fun z => ?_, fun z => ?_, fun z => ?_, fun z => ?_, fun z => ?_⟩
          · rw [eK] at z; split at z <;> cases z
          · rw [eK] at z; split at z <;> cases z
          · rw [eK] at z
            by_cases y : B p = 59
            · rw [g3]; exact y1 y
            · rw [if_neg y] at z; cases z
          · rw [eK] at z; split at z <;> cases z
          · rw [eK] at z
            by_cases y : B p = 59
            · rw [if_pos y] at z; cases z
            · rw [g3]; exact Or.inl (y2 y)
          · rw [g3] at z
            by_cases y : B p = 59
            · rw [y1 y] at z; exact absurd z (by decide)
            · rw [y2 y] at z; exact absurd z (by decide)
        have ez : (zget (J, h.2) (zR (J, h.2) 55 4) (zI (J, h.2) 55 7)).toInt = B p := e.1.trans e.2
        refine ⟨fun c21 => ⟨fun c22 => ⟨fun c23 I98 c24 => ⟨I98, rfl, rfl, other c21 c22 0 I98 c24 (fun y => absurd (i_ext (y := 59) (ez.trans y)) c23) (fun _ => rfl)⟩, fun c25 I101 c26 => ⟨I101, rfl, rfl, other c21 c22 3 I101 c26 (fun _ => rfl) (fun y => absurd (by rw [← ez, c25]; rfl) y)⟩⟩, fun c27 => ?_⟩, fun c29 I113 c30 => ?_⟩
        · have dp := of_decide_eq_true c27
          have e48 : (zget (J, h.2) (zR (J, h.2) 55 4) (zI (J, h.2) 55 7) - 48).toInt = B p - 48 := by
            rw [i_sub (by rw [ez]; show _ ≤ _ - (48 : Int); omega) (by rw [ez]; show _ - (48 : Int) < _; omega), ez]; rfl
          refine ⟨_, c_nextNumber l G (I77, h.2) p _ hl (f77.tp t) hp c27 v77 v8 e48, fun I107 ⟨g1, g2, g3, g4, g5⟩ => ⟨I107, rfl, rfl, f77.tr g1, by rw [ew]; exact g2, ?_, fun z => ?_, fun z => ?_, fun z => ?_, fun z => ?_, fun z => ?_, fun z => ?_⟩⟩
          all_goals
            have eE : tkE B n q = reB dgB B n p := by
              unfold tkE
              rw [if_neg wlt, ew, c21, if_neg Bool.false_ne_true, if_pos c27]
            have eK : tkK B n q = if tkE B n q - tkW B n q ≤ 2 then 1 else 4 := by
              unfold tkK
              rw [if_neg wlt, ew, c21, if_neg Bool.false_ne_true, if_pos c27]
            rw [eE, ew] at eK
          · rw [eE]; exact g3
          · rw [eK] at z; split at z <;> cases z
          · rw [eK] at z
            by_cases y : reB dgB B n p - p ≤ 2
            · unfold tkV
              rw [eE, ew]; exact g4 y
            · rw [if_neg y] at z; cases z
          · rw [eK] at z; split at z <;> cases z
          · rw [eK] at z; split at z <;> cases z
          · rw [eK] at z
            by_cases y : reB dgB B n p - p ≤ 2
            · rw [if_pos y] at z; cases z
            · exact Or.inl (g5 y)
          · by_cases y : reB dgB B n p - p ≤ 2
            · rw [(g4 y).1] at z; exact absurd z (by decide)
            · rw [g5 y] at z; exact absurd z (by decide)
        · obtain ⟨g1, g2, g3⟩ := zwI_eff c30
          refine lets _ p ew.symm hp c29 (n + 1) (p + 1) I113 (by omega) (by omega) (by omega) (f77.tr ⟨g1, fun k z1 _ _ _ => g2 k z1⟩) (by rw [g2 7 (by decide)]; exact v77) (by rw [g2 8 (by decide)]; exact v8) g3 ?_
          exact reB_yes lt_1 (by rw [e.2]; exact c29)
      · have hp : p < n := by omega
        have e := tJ.at v7' hp
        rw [blank_i, e.1] at c34
        obtain ⟨a1, a2, a3⟩ := zwI_eff c35
        refine ih (p + 1) u I122 (by omega) (by omega) (fr.tr ⟨a1, fun k _ z2 _ _ => a2 k z2⟩) (by rw [a3]; exact i_1 v7' (by omega)) ?_
        rw [re]; exact reB_yes bl_1 c34
  refine kX5_next 55 (sX5_next_0 55 hl (Nat.le_refl _) (fun I1 c1 => ?_))
  obtain ⟨a1, a2, a3⟩ := zwI_eff c1
  exact loop (n + 1) q zU I1 hq (by omega) ⟨a1, fun k _ z2 _ _ => a2 k z2⟩ (by rw [a3]; exact h8) rfl
end K9G
