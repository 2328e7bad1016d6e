set_option maxRecDepth 4000
/-! ===== where one is: the class ===== -/
/-- the Person object of one of a night's people -/
theorem per_mem {h : zH} {q : Nat} {V : Nat → Int} (hq : lo1 h q) (w : WFN V) (o : NObj h q V) {x : Int32} {P : Nat} (hx : x.toInt = (P : Int)) (hP : (P : Int) < V 3) : zmem h q x = some (q + (6 + 2 * P)) ∧ lo2 h (q + (6 + 2 * P)) ∧ P < 6 := by
  have w3 := w.2.2.2.1
  have o3 : (zI h q 3).toInt = V 3 := o.1 3 (by decide)
  have h6 : P < 6 := by omega
  refine ⟨?_, per_lo hq h6, h6⟩
  unfold zmem
  rw [if_pos (by omega)]
  unfold zslot
  rw [if_pos (by omega), zix_of hx]
theorem per_no {h : zH} {q : Nat} {V : Nat → Int} (w : WFN V) (o : NObj h q V) {x : Int32} (hx : ¬ (0 ≤ x.toInt ∧ x.toInt < V 3)) : zmem h q x = none := by
  have w3 := w.2.2.2.1
  have o3 : (zI h q 3).toInt = V 3 := o.1 3 (by decide)
  unfold zmem
  by_cases c : x.toInt < (zI h q 3).toInt
  · rw [if_pos c]
    unfold zslot
    exact if_neg (by omega)
  · exact if_neg c
theorem per_f {h : zH} {q : Nat} {V : Nat → Int} (o : NObj h q V) {P : Nat} (hP : (P : Int) < V 3) : (∀ f, f < 9 → (zI h (q + (6 + 2 * P)) f).toInt = pF V P f) ∧ ∀ i : Nat, (i : Int) < pF V P 8 → (zI h (q + (6 + 2 * P) + 1) i).toInt = sdV V P i := by
  have := o.2.2.2 P hP
  refine ⟨fun f hf => ?_, fun i hi => ?_⟩
  · rw [show q + (6 + 2 * P) = q + 6 + 2 * P by omega]; exact this.1 f hf
  · rw [show q + (6 + 2 * P) + 1 = q + 7 + 2 * P by omega]; exact this.2 i (by rw [← show pF V P 8 = V (128 + 33 * P) from congrArg V (by omega)]; exact hi)
theorem per_w {V : Nat → Int} (w : WFN V) {P : Nat} (hP : (P : Int) < V 3) : (0 ≤ pF V P 0 ∧ pF V P 0 ≤ 5) ∧ (1 ≤ pF V P 1 ∧ pF V P 1 ≤ 3) ∧ (1 ≤ pF V P 2 ∧ pF V P 2 ≤ 9) ∧ (0 ≤ pF V P 3 ∧ pF V P 3 ≤ 2) ∧ (0 ≤ pF V P 4 ∧ pF V P 4 ≤ 2) ∧ (-1 ≤ pF V P 5 ∧ pF V P 5 < V 3) ∧ pF V P 5 ≠ P ∧
    ((pF V P 6 = -1 ∧ pF V P 7 = -1 ∧ pF V P 8 = 0) ∨ ((0 ≤ pF V P 6 ∧ pF V P 6 < V 0 * V 1) ∧ (0 ≤ pF V P 7 ∧ pF V P 7 ≤ 60) ∧ (1 ≤ pF V P 8 ∧ pF V P 8 ≤ 24))) ∧
    ∀ i : Nat, (i : Int) < pF V P 8 → 0 ≤ sdV V P i ∧ sdV V P i ≤ 3 := by
  have := w.2.2.2.2.2.2.2 P hP
  rw [show pF V P 0 = V (120 + 33 * P) from congrArg V (by omega), show pF V P 1 = V (121 + 33 * P) from congrArg V (by omega), show pF V P 2 = V (122 + 33 * P) from congrArg V (by omega), show pF V P 3 = V (123 + 33 * P) from congrArg V (by omega), show pF V P 4 = V (124 + 33 * P) from congrArg V (by omega), show pF V P 5 = V (125 + 33 * P) from congrArg V (by omega), show pF V P 6 = V (126 + 33 * P) from congrArg V (by omega), show pF V P 7 = V (127 + 33 * P) from congrArg V (by omega), show pF V P 8 = V (128 + 33 * P) from congrArg V (by omega)]
  exact this
/-- the side of a step, as the class reads it -/
theorem per_side {h : zH} {q : Nat} {V : Nat → Int} (hq : lo1 h q) (w : WFN V) (o : NObj h q V) {x : Int32} {P k : Nat} (hP : (P : Int) < V 3) (hx : x.toInt = ((k + 1 : Nat) : Int)) (hk : (k : Int) < pF V P 8) : (zsideAt h (q + (6 + 2 * P)) x).toInt = sdV V P k := by
  have w8 := (per_w w hP).2.2.2.2.2.2.2.1
  have e : (imax 0 (x - 1)).toInt = (k : Int) := by
    have e1 : (x - 1).toInt = (k : Int) := by
      rw [i_sub (by show _ ≤ _ - (1 : Int); omega) (by show _ - (1 : Int) < _; omega)]; show _ - (1 : Int) = _; omega
    unfold imax
    split
    · exact e1
    · rename_i c
      have : ¬ ((0 : Int32).toInt < (x - 1).toInt) := fun z => c (Int32.lt_iff_toInt_lt.mpr z)
      rw [e1, show (0 : Int32).toInt = 0 from rfl] at this
      show (0 : Int) = _
      omega
  unfold zsideAt
  have hl := per_lo hq (i := P) (by have := w.2.2.2.1; omega)
  rw [zget_w (hl.w 1 rfl) e (by omega)]
  exact (per_f o hP).2 k hk
theorem per_bes {h : zH} {q : Nat} {V : Nat → Int} (hq : lo1 h q) (w : WFN V) (o : NObj h q V) {x c : Int32} {P k : Nat} (hP : (P : Int) < V 3) (hx : x.toInt = ((k + 1 : Nat) : Int)) (hk : (k : Int) < pF V P 8) : (zbes (zI h q 0) (zI h q 1) c (zsideAt h (q + (6 + 2 * P)) x) (zI h (q + (6 + 2 * P)) 1)).toInt = bes V c.toInt (sdV V P k) (pF V P 1) := by
  have e := per_side hq w o hP hx hk
  have pw := per_w w hP
  have e1 := (per_f o hP).1 1 (by decide)
  have sr := pw.2.2.2.2.2.2.2.2 k hk
  rw [zbes_eq (o.1 0 (by decide)) (o.1 1 (by decide)) w.1 w.2.1 (by rw [e]; exact sr) (by rw [e1]; have := pw.2.1; omega), e, e1]
theorem c_stepsMade (l : Launch) (G : zG) (h : zH) (q : Nat) (V : Nat → Int) (P : Nat) (hq : lo1 h q) (w : WFN V) (o : NObj h q V) (hP : (P : Int) < V 3) : CTi l G YX1_stepsMade 3 [va_rf (some q), va_rf (some (q + (6 + 2 * P)))] h (fun y I => y.toInt = stepsV V P ∧ I = h.1) := by
  have pw := per_w w hP
  have pf := (per_f o hP).1
  have hl := per_lo hq (i := P) (by have := w.2.2.2.1; omega)
  have e5 := pf 5 (by decide)
  have e6 := pf 6 (by decide)
  have e8 := pf 8 (by decide)
  have loop : ∀ (f k : Nat) (x2 x3 : Int32), (pF V P 5 = -1 ∧ pF V P 6 ≠ -1) → (k : Int) ≤ pF V P 8 → pF V P 8 - k < (f : Int) → x3.toInt = ((k + 1 : Nat) : Int) → (gow V P k).2 = true → x2.toInt = (gow V P k).1 →
      Z l G mX1_stepsMade 3 (fun w h1 => ∃ x I1, w = some (.int x) ∧ h1 = (I1, h.2) ∧ (x.toInt = stepsV V P ∧ I1 = h.1)) 0 0 16 [va_rf (some q), va_rf (some (q + (6 + 2 * P))), .int x2, .int x3] [] h := by
    intro f
    induction f with
    | zero => intro k x2 x3 hw h1 h2; omega
    | succ f ih =>
      intro k x2 x3 hw h1 h2 h3 hon hc
      have w8 := pw.2.2.2.2.2.2.2.1
      have on := mdc_on (V := V) (p := P) (pF V P 8).toNat
      have le := mdc_le (V := V) (p := P) (pF V P 8).toNat
      have sv : stepsV V P = (mdc V P (pF V P 8).toNat : Int) := by unfold stepsV madeV; rw [if_pos hw.1, if_neg hw.2]
      refine sX1_stepsMade_16 q (q + (6 + 2 * P)) x2 x3 hq hl (Nat.le_refl _) ⟨fun c1 => ⟨_, h.1, rfl, rfl, ?_, rfl⟩, fun c2 => ?_⟩
      · rw [e8] at c1
        have := (on k (by omega)).mp hon
        rw [e8, sv]; omega
      · rw [e8] at c2
        have eb := per_bes hq w o (c := x2) hP h3 (by omega)
        rw [hc] at eb
        refine ⟨fun c3 => ih (k + 1) _ _ hw (by omega) (by omega) (i_1 h3 (by omega)) ?_ ?_, fun c4 => ⟨_, h.1, rfl, rfl, ?_, rfl⟩⟩
        · rw [gow_on hon (fun z => c3 (n_m1.mpr (eb.trans z)))]
        · rw [gow_on hon (fun z => c3 (n_m1.mpr (eb.trans z)))]; exact eb
        · have b1 := n_m1.mp c4
          have off := gow_out hon (eb.symm.trans b1)
          have q1 := (on k (by omega)).mp hon
          have q2 : ¬ (k + 1 ≤ mdc V P (pF V P 8).toNat) := fun z => by
            have := (on (k + 1) (by omega)).mpr z
            rw [off] at this
            exact (Bool.false_ne_true this).elim
          rw [i_sub (by show _ ≤ _ - (1 : Int); omega) (by show _ - (1 : Int) < _; omega), sv]
          show _ - (1 : Int) = _
          omega
  refine kX1_stepsMade q (q + (6 + 2 * P)) (sX1_stepsMade_0 q (q + (6 + 2 * P)) hq hl (Nat.le_refl _) ⟨fun c1 => ?_, fun c2 => ⟨_, h.1, rfl, rfl, ?_, rfl⟩⟩)
  · have z := of_decide_eq_true c1
    have z5 : pF V P 5 = -1 := e5.symm.trans (n_m1.mp z.1)
    have z6 : pF V P 6 ≠ -1 := fun y => z.2 (n_m1.mpr (e6.trans y))
    have w8 := pw.2.2.2.2.2.2.2.1
    exact loop 25 0 _ _ ⟨z5, z6⟩ (by omega) (by omega) rfl rfl e6
  · have z := of_decide_eq_false c2
    show (0 : Int) = _
    unfold stepsV madeV
    by_cases a : pF V P 5 = -1
    · rw [if_pos a]
      by_cases b : pF V P 6 = -1
      · rw [if_pos b]
      · exact absurd ⟨n_m1.mpr (e5.trans a), fun y => b (e6.symm.trans (n_m1.mp y))⟩ z
    · rw [if_neg a]
theorem c_walkedTo (l : Launch) (G : zG) (h : zH) (q : Nat) (V : Nat → Int) (P m : Nat) (x2 : Int32) (hq : lo1 h q) (w : WFN V) (o : NObj h q V) (hP : (P : Int) < V 3) (hx : x2.toInt = (m : Int)) (hm : m < 100) : CTi l G YX1_walkedTo 3 [va_rf (some q), va_rf (some (q + (6 + 2 * P))), .int x2] h (fun y I => y.toInt = posW V P m ∧ I = h.1) := by
  have pw := per_w w hP
  have pf := (per_f o hP).1
  have hl := per_lo hq (i := P) (by have := w.2.2.2.1; omega)
  have e6 := pf 6 (by decide)
  have e7 := pf 7 (by decide)
  have e8 := pf 8 (by decide)
  have w8 := pw.2.2.2.2.2.2.2.1
  have loop : ∀ (f k : Nat) (x3 x4 : Int32) (u : Value), (pF V P 6 ≠ -1 ∧ pF V P 7 ≤ m) → k ≤ min (m - (pF V P 7).toNat) (pF V P 8).toNat → min (m - (pF V P 7).toNat) (pF V P 8).toNat - k < f → x4.toInt = ((k + 1 : Nat) : Int) → (gow V P k).2 = true → x3.toInt = (gow V P k).1 →
      Z l G mX1_walkedTo 3 (fun w h1 => ∃ x I1, w = some (.int x) ∧ h1 = (I1, h.2) ∧ (x.toInt = posW V P m ∧ I1 = h.1)) 0 0 26 [va_rf (some q), va_rf (some (q + (6 + 2 * P))), .int x2, .int x3, .int x4, u] [] h := by
    intro f
    induction f with
    | zero => intro k x3 x4 u hw h1 h2; omega
    | succ f ih =>
      intro k x3 x4 u hw h1 h2 h3 hon hc
      have pv : posW V P m = (gow V P (min (m - (pF V P 7).toNat) (pF V P 8).toNat)).1 := by unfold posW; exact if_neg (by omega)
      have d7 : (x2 - zI h (q + (6 + 2 * P)) 7).toInt = m - pF V P 7 := by
        rw [i_sub (by omega) (by omega), hx, e7]
      refine sX1_walkedTo_26 q (q + (6 + 2 * P)) x2 x3 x4 u hq hl (Nat.le_refl _) ⟨fun c1 => ⟨_, h.1, rfl, rfl, ?_, rfl⟩, fun c2 => ⟨fun c3 => ⟨_, h.1, rfl, rfl, ?_, rfl⟩, fun c4 => ?_⟩⟩
      · rw [e8] at c1
        rw [pv, hc, show min (m - (pF V P 7).toNat) (pF V P 8).toNat = k by omega]
      · rw [d7] at c3
        rw [pv, hc, show min (m - (pF V P 7).toNat) (pF V P 8).toNat = k by omega]
      · rw [e8] at c2
        rw [d7] at c4
        have eb := per_bes hq w o (c := x3) hP h3 (by omega)
        rw [hc] at eb
        refine ⟨fun c5 => ih (k + 1) _ _ _ hw (by omega) (by omega) (i_1 h3 (by omega)) ?_ ?_, fun c6 => ⟨_, h.1, rfl, rfl, ?_, rfl⟩⟩
        · rw [gow_on hon (fun z => c5 (n_m1.mpr (eb.trans z)))]
        · rw [gow_on hon (fun z => c5 (n_m1.mpr (eb.trans z)))]; exact eb
        · have b1 := n_m1.mp c6
          have off := gow_out hon (eb.symm.trans b1)
          have stay : ∀ j, gow V P (k + 1 + j) = ((gow V P k).1, false) := fun j => by
            induction j with
            | zero => exact off
            | succ j ij => rw [show k + 1 + (j + 1) = (k + 1 + j) + 1 by omega, gow_off (by rw [ij]), ij]
          rw [pv, hc]
          obtain ⟨j, hj⟩ : ∃ j, min (m - (pF V P 7).toNat) (pF V P 8).toNat = k + 1 + j := ⟨min (m - (pF V P 7).toNat) (pF V P 8).toNat - (k + 1), by omega⟩
          rw [hj, stay]
  refine kX1_walkedTo q (q + (6 + 2 * P)) x2 (sX1_walkedTo_0 q (q + (6 + 2 * P)) x2 hq hl (Nat.le_refl _) ⟨fun c1 => ⟨_, h.1, rfl, rfl, ?_, rfl⟩, fun c2 => ⟨fun c3 => ?_, fun c4 => ⟨_, h.1, rfl, rfl, ?_, rfl⟩⟩⟩)
  · have z := e6.symm.trans (n_m1.mp c1)
    unfold posW
    rw [if_pos (Or.inl z)]; rfl
  · have z : pF V P 6 ≠ -1 := fun y => c2 (n_m1.mpr (e6.trans y))
    rw [e7] at c3
    exact loop 101 0 _ _ zU ⟨z, by omega⟩ (by omega) (by omega) rfl rfl e6
  · rw [e7] at c4
    unfold posW
    rw [if_pos (Or.inr (by omega))]; rfl
theorem c_spot (l : Launch) (G : zG) (h : zH) (q : Nat) (V : Nat → Int) (P m : Nat) (x1 x2 : Int32) (hq : lo1 h q) (w : WFN V) (o : NObj h q V) (hp : x1.toInt = (P : Int)) (hP : (P : Int) < V 3) (hx : x2.toInt = (m : Int)) (hm : m < 100) : CTi l G YX1_spot 4 [va_rf (some q), .int x1, .int x2] h (fun y I => y.toInt = spotV V P m ∧ I = h.1) := by
  obtain ⟨m1, m2, m3⟩ := per_mem hq w o hp hP
  have pw := per_w w hP
  have pf := (per_f o hP).1
  have e5 := pf 5 (by decide)
  have e6 := pf 6 (by decide)
  refine kX1_spot q x1 x2 (sX1_spot_0 q x1 x2 hq (Nat.le_refl _) ⟨fun c1 => absurd (m1.symm.trans c1) (fun z => by cases z), fun b5 c2 => ?_⟩)
  have eb : b5 = q + (6 + 2 * P) := (Option.some.inj (m1.symm.trans c2)).symm
  subst eb
  refine ⟨m2, fun c3 => ?_, fun c9 => ⟨_, c_walkedTo l G h q V P m x2 hq w o hP hx hm, fun y I z => ⟨y, I, rfl, rfl, ?_, z.2⟩⟩⟩
  · have n5 : pF V P 5 ≠ -1 := fun y => c3 (n_m1.mpr (e5.trans y))
    have w5 := pw.2.2.2.2.2.1
    obtain ⟨R, hR⟩ : ∃ R : Nat, pF V P 5 = (R : Int) := ⟨(pF V P 5).toNat, by omega⟩
    obtain ⟨k1, k2, k3⟩ := per_mem hq w o (x := zI h (q + (6 + 2 * P)) 5) (P := R) (by rw [e5, hR]) (by omega)
    have e55 := (per_f o (P := R) (by omega)).1 5 (by decide)
    have sv : spotV V P m = if pF V R 5 = -1 then posW V R m else pF V P 6 := by
      unfold spotV
      rw [if_neg n5, show (pF V P 5).toNat = R by omega]
    refine ⟨fun c4 => absurd (k1.symm.trans c4) (fun z => by cases z), fun b18 c5 => ?_⟩
    have eb2 : b18 = q + (6 + 2 * R) := (Option.some.inj (k1.symm.trans c5)).symm
    subst eb2
    refine ⟨k2, fun c6 => ⟨_, h.1, rfl, rfl, ?_, rfl⟩, fun c7 => ⟨_, c_walkedTo l G h q V R m x2 hq w o (by omega) hx hm, fun y I z => ⟨y, I, rfl, rfl, ?_, z.2⟩⟩⟩
    · rw [sv, if_neg (fun y => c6 (n_m1.mpr (e55.trans y)))]; exact e6
    · rw [sv, if_pos (e55.symm.trans (n_m1.mp c7))]; exact z.1
  · rw [z.1]
    unfold spotV
    rw [if_pos (e5.symm.trans (n_m1.mp c9))]
