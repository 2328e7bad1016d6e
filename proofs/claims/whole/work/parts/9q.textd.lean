set_option maxRecDepth 4000
/-! ===== texts: the reference's faults and numbers ===== -/
section K9Q
variable {B : Nat → Int} {n : Nat}
def FlM (h : zH) (s : Nat × Nat) : Prop := (zI h 314 3).toInt = (s.1 : Int) ∧ (s.1 = 0 → zI h 314 4 = -1) ∧ (s.1 ≠ 0 → (zI h 314 4).toInt = (s.2 : Int))
def FrN (h : zH) (I : Nat → Nat → Int32) : Prop := (∀ b, b ≠ 313 → b ≠ 314 → I b = h.1 b) ∧ (∀ k, (k < 3 ∨ 8 < k) → I 313 k = h.1 313 k) ∧ ∀ k, k ≠ 3 → k ≠ 4 → I 314 k = h.1 314 k
theorem FrN.rf (h : zH) : FrN h h.1 := ⟨fun _ _ _ => rfl, fun _ _ => rfl, fun _ _ _ => rfl⟩
theorem FrN.tr {h : zH} {I J : Nat → Nat → Int32} (a : FrN h I) (c : FrN (I, h.2) J) : FrN h J := ⟨fun b z1 z2 => (c.1 b z1 z2).trans (a.1 b z1 z2), fun k z => (c.2.1 k z).trans (a.2.1 k z), fun k z1 z2 => (c.2.2 k z1 z2).trans (a.2.2 k z1 z2)⟩
theorem FrM.nn {h : zH} {I : Nat → Nat → Int32} (f : FrM h I) : FrN h I := ⟨fun b z1 _ => f.1 b z1, fun k z => f.2 k (by omega), fun k _ _ => congrFun (f.1 314 (by decide)) k⟩
theorem FrN.tp {h : zH} {I : Nat → Nat → Int32} (f : FrN h I) (t : TpM h B n) : TpM (I, h.2) B n := ⟨by show (I 313 2).toInt = _; rw [f.2.1 2 (by decide)]; exact t.1, fun i hi => by show (I 314 (10 + i)).toInt = _ ∧ _; rw [f.2.2 (10 + i) (by omega) (by omega)]; exact t.2.1 i hi, t.2.2⟩
theorem FlM.kp {h : zH} {I : Nat → Nat → Int32} {s : Nat × Nat} (a : FlM h s) (e3 : I 314 3 = h.1 314 3) (e4 : I 314 4 = h.1 314 4) : FlM (I, h.2) s := by
  obtain ⟨a1, a2, a3⟩ := a
  refine ⟨?_, fun z => ?_, fun z => ?_⟩
  · show (I 314 3).toInt = _; rw [e3]; exact a1
  · show I 314 4 = _; rw [e4]; exact a2 z
  · show (I 314 4).toInt = _; rw [e4]; exact a3 z
def alP (s : Nat × Nat) (k p : Nat) : Nat × Nat := if s.1 ≠ 0 ∧ (s.2 < p ∨ (s.2 = p ∧ s.1 ≤ k)) then s else (k, p)
theorem al_nt {s : Nat × Nat} {k p : Nat} (h : s.1 ≠ 0 → s.2 < p ∨ (s.2 = p ∧ s.1 ≤ k)) : alP s k p = ntS s k p := by
  unfold alP ntS
  by_cases z : s.1 = 0
  · rw [if_neg (fun y => y.1 z), if_pos z]
  · rw [if_pos ⟨z, h z⟩, if_neg z]
/-- where the reference stands: whether it is wrong, before which place, with what fault -/
def MSq (h : zH) (B : Nat → Int) (n : Nat) (w : Bool) (q : Nat) (s : Nat × Nat) : Prop := FlM h s ∧ (w = false → zI h 313 8 = 0 ∧ q ≤ n ∧ MTk h.1 B n q) ∧ (w = true → zI h 313 8 = 1)
theorem c_also (l : Launch) (G : zG) (h : zH) (s : Nat × Nat) (k p q : Nat) (w : Bool) (x1 x2 : Int32) (hl : lo11 h 313) (hx1 : x1.toInt = (k : Int)) (hk : k ≠ 0) (hx2 : x2.toInt = (p : Int)) (m : MSq h B n w q s) :
    CTv l G YX11_also 1 [va_rf (some 313), .int x1, .int x2] h (fun I => FrN h I ∧ MSq (I, h.2) B n w q (if w = true then s else alP s k p)) := by
  obtain ⟨f, m1, m2⟩ := m
  have same : (w = true ∨ (s.1 ≠ 0 ∧ (s.2 < p ∨ (s.2 = p ∧ s.1 ≤ k)))) → FrN h h.1 ∧ MSq (h.1, h.2) B n w q (if w = true then s else alP s k p) := fun c => by
    have e : (if w = true then s else alP s k p) = s := by
      rcases c with c | c
      · rw [if_pos c]
      · by_cases z : w = true
        · rw [if_pos z]
        · rw [if_neg z]; exact if_pos c
    rw [e]; exact ⟨FrN.rf h, f, m1, m2⟩
  have wr : w = false → ¬ (s.1 ≠ 0 ∧ (s.2 < p ∨ (s.2 = p ∧ s.1 ≤ k))) → ∀ (I J : Nat → Nat → Int32), WrI h I 314 3 x1 → WrI (I, h.2) J 314 4 x2 → FrN h J ∧ MSq (J, h.2) B n w q (if w = true then s else alP s k p) := fun e c I J d1 d2 => by
    have e2 : (if w = true then s else alP s k p) = (k, p) := by
      rw [if_neg (by rw [e]; exact Bool.false_ne_true)]; exact if_neg c
    rw [e2]
    have f313 : J 313 = h.1 313 := (d2.f (by decide)).trans (d1.f (by decide))
    refine ⟨⟨fun b z1 z2 => (d2.f z2).trans (d1.f z2), fun k _ => congrFun f313 k, fun k z1 z2 => (d2.2.1 k z2).trans (d1.2.1 k z1)⟩, ⟨?_, fun z => absurd z hk, fun _ => ?_⟩, fun z => ?_, fun z => by rw [e] at z; cases z⟩
    · show (J 314 3).toInt = _
      rw [d2.2.1 3 (by decide)]
      show (I 314 3).toInt = _
      rw [d1.2.2]; exact hx1
    · show (J 314 4).toInt = _
      rw [d2.2.2]; exact hx2
    · obtain ⟨a, b, c⟩ := m1 e
      refine ⟨by show J 313 8 = 0; rw [f313]; exact a, b, ?_⟩
      unfold MTk
      show (J 313 4).toInt = _ ∧ (J 313 3).toInt = _ ∧ (J 313 5).toInt = _ ∧ (_ → (J 313 6).toInt = _) ∧ (_ → (J 313 7).toInt = _)
      rw [f313]; exact c
  have s0 : zI h 314 3 = 0 ↔ s.1 = 0 := ⟨fun z => by have := f.1; rw [z] at this; have : (0 : Int) = (s.1 : Int) := this; omega, fun z => i_ext (by rw [f.1, z]; rfl)⟩
  have w0 : zI h 313 8 = 0 → w = false := fun z => by
    cases w with
    | false => rfl
    | true => rw [m2 rfl] at z; exact absurd z (by decide)
  have w1 : ¬ zI h 313 8 = 0 → w = true := fun z => by
    cases w with
    | true => rfl
    | false => exact absurd (m1 rfl).1 z
  refine kX11_also 313 x1 x2 (sX11_also_0 313 x1 x2 hl (Nat.le_refl _) ⟨fun c1 => ⟨h.1, rfl, rfl, same (Or.inl (w1 c1))⟩, fun c2 => ⟨fun c3 I11 c4 I15 c5 => ⟨I15, rfl, rfl, wr (w0 c2) (fun z => z.1 (s0.mp c3)) I11 I15 (zwI_eff c4) (zwI_eff c5)⟩, fun c6 => ?_⟩⟩)
  have n0 : s.1 ≠ 0 := fun z => c6 (s0.mpr z)
  have e4 : (zI h 314 4).toInt = (s.2 : Int) := f.2.2 n0
  have e4' : (zI h (313 + 1) (zix (4 : Int32))).toInt = (s.2 : Int) := e4
  have e3' : (zI h (313 + 1) (zix (3 : Int32))).toInt = (s.1 : Int) := f.1
  refine ⟨fun c7 => ⟨h.1, rfl, rfl, same (Or.inr ⟨n0, Or.inl (by omega)⟩)⟩, fun c8 => ⟨fun c9 I29 c10 I33 c11 => ⟨I33, rfl, rfl, wr (w0 c2) (fun z => ?_) I29 I33 (zwI_eff c10) (zwI_eff c11)⟩, fun c12 => ⟨fun c13 I42 c14 I46 c15 => ⟨I46, rfl, rfl, wr (w0 c2) (fun z => ?_) I42 I46 (zwI_eff c14) (zwI_eff c15)⟩, fun c16 => ⟨h.1, rfl, rfl, same (Or.inr ⟨n0, Or.inr ⟨?_, by omega⟩⟩)⟩⟩⟩⟩
  · have ne : s.2 ≠ p := fun y => c9 (i_ext (by rw [e4', hx2, y]))
    omega
  · omega
  · rw [c12, hx2] at e4'; omega
theorem c_ends (l : Launch) (G : zG) (h : zH) (s : Nat × Nat) (q : Nat) (w : Bool) (hl : lo11 h 313) (m : MSq h B n w q s) :
    CTv l G YX11_ends 1 [va_rf (some 313)] h (fun I => FrN h I ∧ MSq (I, h.2) B n true q (if w = true then s else (1, tkW B n q))) := by
  obtain ⟨f, m1, m2⟩ := m
  have w0 : zI h 313 8 = 0 → w = false := fun z => by
    cases w with
    | false => rfl
    | true => rw [m2 rfl] at z; exact absurd z (by decide)
  have w1 : ¬ zI h 313 8 = 0 → w = true := fun z => by
    cases w with
    | true => rfl
    | false => exact absurd (m1 rfl).1 z
  refine kX11_ends 313 (sX11_ends_0 313 hl (Nat.le_refl _) ⟨fun c1 I5 c2 I9 c3 I13 c4 => ⟨I13, rfl, rfl, ?_⟩, fun c5 => ⟨h.1, rfl, rfl, FrN.rf h, ?_⟩⟩)
  · have d1 : WrI h I5 313 8 1 := zwI_eff c2
    have d2 : WrI (I5, h.2) I9 314 3 1 := zwI_eff c3
    have d3 : WrI (I9, h.2) I13 314 4 (zI (I9, h.2) 313 4) := zwI_eff c4
    have e := w0 c1
    rw [if_neg (by rw [e]; exact Bool.false_ne_true)]
    have e4 : zI (I9, h.2) 313 4 = h.1 313 4 := (congrFun (d2.f (by decide)) 4).trans (d1.2.1 4 (by decide))
    refine ⟨⟨fun b z1 z2 => (d3.f z2).trans ((d2.f z2).trans (d1.f z1)), fun k z => (congrFun (d3.f (by decide)) k).trans ((congrFun (d2.f (by decide)) k).trans (d1.2.1 k (by omega))), fun k z1 z2 => (d3.2.1 k z2).trans ((d2.2.1 k z1).trans (congrFun (d1.f (by decide)) k))⟩, ⟨?_, fun z => absurd z Nat.one_ne_zero, fun _ => ?_⟩, fun z => (by cases z), fun _ => ?_⟩
    · show (I13 314 3).toInt = _
      rw [d3.2.1 3 (by decide)]
      show (I9 314 3).toInt = _
      rw [d2.2.2]; rfl
    · show (I13 314 4).toInt = _
      rw [d3.2.2, e4]; exact (m1 e).2.2.1
    · show I13 313 8 = 1
      rw [d3.f (by decide)]
      show I9 313 8 = 1
      rw [d2.f (by decide)]; exact d1.2.2
  · rw [if_pos (w1 c5)]
    exact ⟨f, fun z => (by cases z), fun _ => m2 (w1 c5)⟩
theorem in3_i {x lo hi : Int32} : zin3 x lo hi = true ↔ lo.toInt ≤ x.toInt ∧ x.toInt ≤ hi.toInt := by
  unfold zin3
  rw [decide_eq_true_eq]
/-- from a state on one token -/
theorem adv_st (l : Launch) (G : zG) (h : zH) (s : Nat × Nat) (q : Nat) (hl : lo11 h 313) (t : TpM h B n) (m : MSq h B n false q s) : CTv l G YX11_advance 4 [va_rf (some 313)] h (fun I => FrN h I ∧ MSq (I, h.2) B n false (tkE B n q) s) := by
  obtain ⟨f, m1, m2⟩ := m
  obtain ⟨a, b, c⟩ := m1 rfl
  have le := tk_le (B := B) (n := n) b
  refine CT.mono (c_advance l G h (tkE B n q) hl t le.2.2 c.2.1) rfl (fun v g e => ?_)
  obtain ⟨I, e1, e2, e3, e4⟩ := e
  refine ⟨I, e1, e2, e3.nn, f.kp (congrFun (e3.1 314 (by decide)) 3) (congrFun (e3.1 314 (by decide)) 4), fun _ => ⟨?_, le.2.2, e4⟩, fun z => by cases z⟩
  show I 313 8 = 0
  rw [e3.2 8 (by decide)]; exact a
def inB (lo hi v : Int) : Bool := decide (lo ≤ v ∧ v ≤ hi)
def NmP (h : zH) (B : Nat → Int) (n : Nat) (w : Bool) (q : Nat) (s : Nat × Nat) (lo hi : Int) (y : Int32) (I : Nat → Nat → Int32) : Prop :=
  (lo ≤ y.toInt ∧ y.toInt ≤ hi) ∧ (w = false ∧ tkK B n q = 1 → MSq (I, h.2) B n false (tkE B n q) (if inB lo hi (tkV B n q) = true then s else alP s 2 (tkW B n q)) ∧ y.toInt = if inB lo hi (tkV B n q) = true then tkV B n q else lo) ∧
  (¬ (w = false ∧ tkK B n q = 1) → MSq (I, h.2) B n true q (if w = true then s else (1, tkW B n q)))
theorem c_numbered (l : Launch) (G : zG) (h : zH) (s : Nat × Nat) (q : Nat) (w : Bool) (lo hi : Int) (x1 x2 : Int32) (hl : lo11 h 313) (t : TpM h B n) (h1 : x1.toInt = lo) (h2 : x2.toInt = hi) (hlh : lo ≤ hi) (m : MSq h B n w q s) :
    CTi l G YX11_numbered 5 [va_rf (some 313), .int x1, .int x2] h (fun y I => FrN h I ∧ NmP h B n w q s lo hi y I) := by
  have m0 := m
  obtain ⟨f, m1, m2⟩ := m
  have w0 : zI h 313 8 = 0 → w = false := fun z => by
    cases w with
    | false => rfl
    | true => rw [m2 rfl] at z; exact absurd z (by decide)
  have w1 : ¬ zI h 313 8 = 0 → w = true := fun z => by
    cases w with
    | true => rfl
    | false => exact absurd (m1 rfl).1 z
  have bad : ¬ (w = false ∧ tkK B n q = 1) → (∃ P5, CTv l G YX11_ends 1 [va_rf (some 313)] h P5 ∧ ∀ (I8 : Nat → Nat → Int32), P5 I8 → (∃ x I1, (some (.int x1) : Option Value) = some (.int x) ∧ (I8, h.2) = (I1, h.2) ∧ (FrN h I1 ∧ NmP h B n w q s lo hi x I1))) := fun c =>
    ⟨_, c_ends l G h s q w hl m0, fun I8 e => ⟨x1, I8, rfl, rfl, e.1, ⟨by omega, by omega⟩, fun z => absurd z c, fun _ => e.2⟩⟩
  have k1 : w = false → (zI h 313 5 = 1 ↔ tkK B n q = 1) := fun e => by
    have := (m1 e).2.2.2.2.1
    refine ⟨fun z => ?_, fun z => i_ext ?_⟩
    · have e5 : (zI h 313 5).toInt = (tkK B n q : Int) := this
      rw [z] at e5
      have : (1 : Int) = (tkK B n q : Int) := e5
      omega
    · have e5 : (zI h 313 5).toInt = (tkK B n q : Int) := this
      rw [e5, z]; rfl
  refine kX11_numbered 313 x1 x2 (sX11_numbered_0 313 x1 x2 hl (Nat.le_refl _) ⟨fun c1 => bad (fun z => by rw [w1 c1] at z; exact absurd z.1 (by decide)), fun c3 => ?_⟩)
  have we := w0 c3
  refine ⟨fun c4 => ?_, fun c14 => bad (fun z => c14 ((k1 we).mpr z.2))⟩
  have kk := (k1 we).mp c4
  have mt := (m1 we).2.2
  have ev : (zI h 313 6).toInt = tkV B n q := mt.2.2.2.1 kk
  subst we
  have good : inB lo hi (tkV B n q) = true ↔ zin3 (zI h 313 6) x1 x2 = true := by
    rw [in3_i, ev, h1, h2]; unfold inB; rw [decide_eq_true_eq]
  refine ⟨fun c5 => ?_, fun c9 => ?_⟩
  · have gd := good.mpr c5
    have rg := in3_i.mp c5
    refine ⟨_, adv_st l G h s q hl t m0, fun I28 c6 => ⟨fun c7 => absurd (c5.symm.trans c7) (by decide), fun c8 => ⟨_, I28, rfl, rfl, c6.1, ⟨by omega, by omega⟩, fun _ => ⟨by rw [if_pos gd]; exact c6.2, by rw [if_pos gd]; exact ev⟩, fun z => absurd ⟨rfl, kk⟩ z⟩⟩⟩
  · have gd : ¬ inB lo hi (tkV B n q) = true := fun z => by rw [good.mp z] at c9; cases c9
    refine ⟨_, c_also l G h s 2 (tkW B n q) q false 2 (zI h 313 4) hl rfl (by decide) mt.1 m0, fun I44 c10 => ?_⟩
    obtain ⟨u1, u2⟩ := c10
    rw [if_neg Bool.false_ne_true] at u2
    refine ⟨_, adv_st l G (I44, h.2) _ q hl (u1.tp t) u2, fun I53 c11 => ⟨fun c12 => ⟨x1, I53, rfl, rfl, u1.tr c11.1, ⟨by omega, by omega⟩, fun _ => ⟨by rw [if_neg gd]; exact c11.2, by rw [if_neg gd]; exact h1⟩, fun z => absurd ⟨rfl, kk⟩ z⟩, fun c13 => absurd (c9.symm.trans c13) (by decide)⟩⟩
end K9Q
