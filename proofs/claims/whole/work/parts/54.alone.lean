set_option maxRecDepth 4000
/-! ===== who goes alone ===== -/
def stV (V : Nat → Int) (al i : Nat) : Nat → Int := fun w => if 120 ≤ w ∧ (w - 120) / 33 < i ∧ (w - 120) / 33 ≠ al ∧ ((w - 120) % 33 = 6 ∨ (w - 120) % 33 = 7) then -1 else if 120 ≤ w ∧ (w - 120) / 33 < i ∧ (w - 120) / 33 ≠ al ∧ (w - 120) % 33 = 8 then 0 else V w
theorem stV_lo {V : Nat → Int} {al i w : Nat} (h : w < 120) : stV V al i w = V w := by
  unfold stV
  rw [if_neg (by omega), if_neg (by omega)]
theorem stV_p {V : Nat → Int} {al i P f : Nat} (hf : f < 33) : pF (stV V al i) P f = if (P < i ∧ P ≠ al) ∧ (f = 6 ∨ f = 7) then -1 else if (P < i ∧ P ≠ al) ∧ f = 8 then 0 else pF V P f := by
  have e1 : (120 + 33 * P + f - 120) / 33 = P := by omega
  have e2 : (120 + 33 * P + f - 120) % 33 = f := by omega
  show (if 120 ≤ 120 + 33 * P + f ∧ (120 + 33 * P + f - 120) / 33 < i ∧ (120 + 33 * P + f - 120) / 33 ≠ al ∧ ((120 + 33 * P + f - 120) % 33 = 6 ∨ (120 + 33 * P + f - 120) % 33 = 7) then -1 else if 120 ≤ 120 + 33 * P + f ∧ (120 + 33 * P + f - 120) / 33 < i ∧ (120 + 33 * P + f - 120) / 33 ≠ al ∧ (120 + 33 * P + f - 120) % 33 = 8 then 0 else V (120 + 33 * P + f)) = _
  rw [e1, e2]
  by_cases c1 : (P < i ∧ P ≠ al) ∧ (f = 6 ∨ f = 7)
  · rw [if_pos c1, if_pos ⟨by omega, c1.1.1, c1.1.2, c1.2⟩]
  · rw [if_neg c1, if_neg (fun z => c1 ⟨⟨z.2.1, z.2.2.1⟩, z.2.2.2⟩)]
    by_cases c2 : (P < i ∧ P ≠ al) ∧ f = 8
    · rw [if_pos c2, if_pos ⟨by omega, c2.1.1, c2.1.2, c2.2⟩]
    · rw [if_neg c2, if_neg (fun z => c2 ⟨⟨z.2.1, z.2.2.1⟩, z.2.2.2⟩)]; rfl
theorem stV_s {V : Nat → Int} {al i P k : Nat} (hk : k < 24) : sdV (stV V al i) P k = sdV V P k := by
  have := stV_p (V := V) (al := al) (i := i) (P := P) (f := 9 + k) (by omega)
  rw [if_neg (by omega), if_neg (by omega)] at this
  rw [show sdV (stV V al i) P k = pF (stV V al i) P (9 + k) from congrArg (stV V al i) (by omega), this]
  exact congrArg V (by omega)
theorem stV_o {V : Nat → Int} {al i P f : Nat} (hf : f < 33) (h : ¬ (f = 6 ∨ f = 7 ∨ f = 8)) : pF (stV V al i) P f = pF V P f := by
  rw [stV_p hf, if_neg (by omega), if_neg (by omega)]
theorem stV_same {V : Nat → Int} {al i P f : Nat} (hf : f < 33) (h : ¬ (P < i ∧ P ≠ al)) : pF (stV V al i) P f = pF V P f := by
  rw [stV_p hf, if_neg (fun z => h z.1), if_neg (fun z => h z.1)]
theorem stV_0 {V : Nat → Int} {al : Nat} : stV V al 0 = V := funext fun w => by
  unfold stV
  rw [if_neg (by omega), if_neg (by omega)]
theorem stV_skip {V : Nat → Int} {al : Nat} : stV V al (al + 1) = stV V al al := funext fun w => by
  unfold stV
  have e1 : (120 ≤ w ∧ (w - 120) / 33 < al + 1 ∧ (w - 120) / 33 ≠ al ∧ ((w - 120) % 33 = 6 ∨ (w - 120) % 33 = 7)) ↔ (120 ≤ w ∧ (w - 120) / 33 < al ∧ (w - 120) / 33 ≠ al ∧ ((w - 120) % 33 = 6 ∨ (w - 120) % 33 = 7)) := by omega
  have e2 : (120 ≤ w ∧ (w - 120) / 33 < al + 1 ∧ (w - 120) / 33 ≠ al ∧ (w - 120) % 33 = 8) ↔ (120 ≤ w ∧ (w - 120) / 33 < al ∧ (w - 120) / 33 ≠ al ∧ (w - 120) % 33 = 8) := by omega
  simp only [e1, e2]
theorem WFN.st {V : Nat → Int} (w : WFN V) {al i : Nat} : WFN (stV V al i) := by
  refine w.upd (fun k hk => stV_lo (by omega)) (fun m hm => by rw [stV_lo (by omega)]; exact w.2.2.2.2.2.1 m hm) (fun k hk => stV_lo (by omega)) (fun P hP => ?_)
  obtain ⟨p0, p1, p2, p3, p4, p5, p5', p8, ps⟩ := per_w w hP
  unfold perW
  rw [stV_o (f := 0) (by decide) (by decide), stV_o (f := 1) (by decide) (by decide), stV_o (f := 2) (by decide) (by decide), stV_o (f := 3) (by decide) (by decide), stV_o (f := 4) (by decide) (by decide), stV_o (f := 5) (by decide) (by decide)]
  refine ⟨p0, p1, p2, p3, p4, p5, p5', ?_, ?_⟩
  · rw [stV_p (f := 6) (by decide), stV_p (f := 7) (by decide), stV_p (f := 8) (by decide)]
    by_cases c : P < i ∧ P ≠ al
    · rw [if_pos (show (P < i ∧ P ≠ al) ∧ (6 = 6 ∨ 6 = 7) from ⟨c, Or.inl rfl⟩), if_pos (show (P < i ∧ P ≠ al) ∧ (7 = 6 ∨ 7 = 7) from ⟨c, Or.inr rfl⟩), if_neg (show ¬ ((P < i ∧ P ≠ al) ∧ (8 = 6 ∨ 8 = 7)) by omega), if_pos (show (P < i ∧ P ≠ al) ∧ 8 = 8 from ⟨c, rfl⟩)]
      exact Or.inl ⟨rfl, rfl, rfl⟩
    · rw [if_neg (show ¬ ((P < i ∧ P ≠ al) ∧ (6 = 6 ∨ 6 = 7)) from fun z => c z.1), if_neg (show ¬ ((P < i ∧ P ≠ al) ∧ 6 = 8) from fun z => c z.1), if_neg (show ¬ ((P < i ∧ P ≠ al) ∧ (7 = 6 ∨ 7 = 7)) from fun z => c z.1), if_neg (show ¬ ((P < i ∧ P ≠ al) ∧ 7 = 8) from fun z => c z.1), if_neg (show ¬ ((P < i ∧ P ≠ al) ∧ (8 = 6 ∨ 8 = 7)) from fun z => c z.1), if_neg (show ¬ ((P < i ∧ P ≠ al) ∧ 8 = 8) from fun z => c z.1)]
      exact p8
  · intro k hk
    by_cases c : P < i ∧ P ≠ al
    · rw [stV_p (f := 8) (by decide), if_neg (by omega), if_pos ⟨c, rfl⟩] at hk; omega
    · rw [stV_same (by decide) c] at hk
      rw [stV_s (by omega)]; exact ps k hk
theorem gow_cg {V V' : Nat → Int} {p : Nat} (e0 : V' 0 = V 0) (e1 : V' 1 = V 1) (e6 : pF V' p 6 = pF V p 6) (e1' : pF V' p 1 = pF V p 1) (es : ∀ i, i < 24 → sdV V' p i = sdV V p i) : ∀ k, k ≤ 24 → gow V' p k = gow V p k
  | 0, _ => by
    show (pF V' p 6, true) = (pF V p 6, true)
    rw [e6]
  | k + 1, h => by
    have ih := gow_cg e0 e1 e6 e1' es k (by omega)
    have eb : ∀ c s f, bes V' c s f = bes V c s f := fun c s f => by unfold bes; rw [e0, e1]
    rw [gow_s, gow_s, ih, eb, es k (by omega), e1']
theorem mdc_cg {V V' : Nat → Int} {p : Nat} (e : ∀ k, k ≤ 24 → gow V' p k = gow V p k) : ∀ k, k ≤ 24 → mdc V' p k = mdc V p k
  | 0, _ => rfl
  | k + 1, h => by
    show mdc V' p k + (if (gow V' p (k + 1)).2 = true then 1 else 0) = mdc V p k + (if (gow V p (k + 1)).2 = true then 1 else 0)
    rw [mdc_cg e k (by omega), e (k + 1) h]
theorem goS_st {V : Nat → Int} (w : WFN V) {al : Nat} (ha : (al : Int) < V 3) {st : PS} {p m : Nat} (hp : (p : Int) < V 3) : goS (stV V al (V 3).toNat) (-1) st p m = goS V al st p m := by
  have pw := per_w w hp
  have w8 := pw.2.2.2.2.2.2.2.1
  by_cases e : p = al
  · subst e
    have nc : ¬ (p < (V 3).toNat ∧ p ≠ p) := fun z => z.2 rfl
    have pf : ∀ f, f < 33 → pF (stV V p (V 3).toNat) p f = pF V p f := fun f hf => stV_same hf nc
    have gw := gow_cg (V := V) (V' := stV V p (V 3).toNat) (p := p) (stV_lo (by decide)) (stV_lo (by decide)) (pf 6 (by decide)) (pf 1 (by decide)) (fun i hi => stV_s hi)
    have md := mdc_cg gw
    have s8 : (pF V p 8).toNat ≤ 24 := by omega
    have el : ∀ k, lds (stV V p (V 3).toNat) p k = lds V p k := fun k => by
      induction k with
      | zero => rfl
      | succ k ih => unfold lds; rw [ih, stV_o (f := 5) (by decide) (by decide), stV_o (f := 2) (by decide) (by decide)]
    have eload : loadV (stV V p (V 3).toNat) p = loadV V p := by
      unfold loadV
      rw [stV_lo (by decide), stV_lo (by decide), el]
    have ef : isFt (stV V p (V 3).toNat) (-1) p m = isFt V p p m := by
      unfold isFt walkV
      rw [pf 5 (by decide), pf 4 (by decide), pf 6 (by decide), pf 7 (by decide), pf 8 (by decide), md _ s8]
      have : (((pF V p 5 = -1 ∧ pF V p 4 ≠ 2 ∧ pF V p 6 ≠ -1) ∧ ((-1 : Int) = -1 ∨ (-1 : Int) = p)) ↔ ((pF V p 5 = -1 ∧ pF V p 4 ≠ 2 ∧ pF V p 6 ≠ -1) ∧ ((p : Int) = -1 ∨ (p : Int) = p))) := ⟨fun z => ⟨z.1, Or.inr rfl⟩, fun z => ⟨z.1, Or.inl rfl⟩⟩
      rw [decide_eq_decide.mpr this]
    unfold goS
    rw [ef]
    split
    · rename_i q
      have z := (isFt_t w hp).mp q
      have s1 : m - (pF V p 7).toNat ≤ 24 := by omega
      have es : soleV (stV V p (V 3).toNat) p = soleV V p := by unfold soleV; rw [pf 4 (by decide), pf 0 (by decide)]
      have ed : ∀ F, depV (stV V p (V 3).toNat) p F = depV V p F := fun F => by unfold depV; rw [pf 3 (by decide), eload]
      rw [pf 7 (by decide), gw _ s1, es, ed, stV_s (by omega)]
    · rfl
  · have f1 : isFt (stV V al (V 3).toNat) (-1) p m = false := by
      unfold isFt walkV
      rw [stV_p (f := 6) (by decide), if_pos ⟨⟨by omega, e⟩, Or.inl rfl⟩, Bool.and_eq_false_iff]
      exact Or.inl (decide_eq_false (fun z => z.1.2.2 rfl))
    have f2 : isFt V al p m = false := by
      unfold isFt walkV
      rw [Bool.and_eq_false_iff]
      exact Or.inl (decide_eq_false (fun z => z.2.elim (fun y => by omega) (fun y => e (Int.ofNat.inj y).symm)))
    unfold goS
    rw [f1, f2]
    rfl
theorem stM_st {V : Nat → Int} (w : WFN V) {al : Nat} (ha : (al : Int) < V 3) : ∀ m, m ≤ 100 → stM (stV V al (V 3).toNat) (-1) m = stM V al m
  | 0, _ => rfl
  | m + 1, hm => by
    have ih := stM_st w ha m (by omega)
    have w3 := w.2.2.2.1
    show stP (stV V al (V 3).toNat) (-1) m (stW (stV V al (V 3).toNat) m (stM (stV V al (V 3).toNat) (-1) m)) (stV V al (V 3).toNat 3).toNat = stP V al m (stW V m (stM V al m)) (V 3).toNat
    rw [ih]
    have e3 : stV V al (V 3).toNat 3 = V 3 := stV_lo (by decide)
    have ep : ∀ (st : PS) (j : Nat), (j : Int) ≤ V 3 → stP (stV V al (V 3).toNat) (-1) m st j = stP V al m st j := fun st j => by
      induction j with
      | zero => intro _; rfl
      | succ j ihj =>
        intro hj
        show goS (stV V al (V 3).toNat) (-1) (stP (stV V al (V 3).toNat) (-1) m st j) j m = goS V al (stP V al m st j) j m
        rw [ihj (by omega), goS_st w ha (by omega)]
    rw [e3, ep _ _ (by omega)]
    unfold stW
    rw [stV_lo (by omega)]
theorem NObj.st {h : zH} {I : Nat → Nat → Int32} {q : Nat} {V : Nat → Int} (w : WFN V) {al i : Nat} (o : NObj h q (stV V al i)) (hi : (i : Int) < V 3) (ne : i ≠ al) (e : I = fun b k => if b = q + (6 + 2 * i) then cst k (h.1 b k) else h.1 b k) : NObj (I, h.2) q (stV V al (i + 1)) := by
  have w3 := w.2.2.2.1
  have w4 := w.2.2.2.2.1
  obtain ⟨o1, o2, o3, o4⟩ := o
  have z : ∀ b, b ≠ q + (6 + 2 * i) → ∀ j, zI (I, h.2) b j = zI h b j := fun b hb j => by
    show I b j = _
    rw [e]; exact if_neg hb
  have l4 : ∀ j, stV V al j 4 = V 4 := fun j => stV_lo (by decide)
  have l3 : ∀ j, stV V al j 3 = V 3 := fun j => stV_lo (by decide)
  refine ⟨fun f hf' => by rw [z _ (by omega), stV_lo (by omega), ← stV_lo (V := V) (al := al) (i := i) (show f < 120 by omega)]; exact o1 f hf', fun m hm => by rw [z _ (by omega), stV_lo (by omega), ← stV_lo (V := V) (al := al) (i := i) (show 5 + m < 120 by omega)]; exact o2 m hm, fun k hk => ?_, fun p hp => ⟨fun f hf' => ?_, fun k hk => ?_⟩⟩
  · rw [l4] at hk
    have := o3 k (by rw [l4]; exact hk)
    rw [stV_lo (by omega), stV_lo (by omega), stV_lo (by omega)] at this
    rw [z _ (by omega), z _ (by omega), z _ (by omega), stV_lo (by omega), stV_lo (by omega), stV_lo (by omega)]
    exact this
  · rw [l3] at hp
    have old := (o4 p (by rw [l3]; exact hp)).1 f hf'
    have old' : (zI h (q + 6 + 2 * p) f).toInt = pF (stV V al i) p f := old
    show (zI (I, h.2) (q + 6 + 2 * p) f).toInt = pF (stV V al (i + 1)) p f
    by_cases c : p = i
    · subst c
      show (I (q + 6 + 2 * p) f).toInt = _
      rw [e, show q + 6 + 2 * p = q + (6 + 2 * p) by omega]
      show (if q + (6 + 2 * p) = q + (6 + 2 * p) then cst f (h.1 (q + (6 + 2 * p)) f) else _).toInt = _
      rw [if_pos rfl, stV_p (by omega)]
      unfold cst
      by_cases c8 : f = 8
      · rw [if_pos c8, if_neg (by omega), if_pos ⟨⟨by omega, ne⟩, c8⟩]; rfl
      · rw [if_neg c8]
        by_cases c67 : f = 6 ∨ f = 7
        · rw [if_pos c67, if_pos ⟨⟨by omega, ne⟩, c67⟩]; rfl
        · rw [if_neg c67, if_neg (fun y => c67 y.2), if_neg (fun y => c8 y.2)]
          rw [stV_same (by omega) (fun y => absurd y.1 (Nat.lt_irrefl p)), show q + 6 + 2 * p = q + (6 + 2 * p) by omega] at old'
          exact old'
    · rw [z _ (by omega), old', stV_p (by omega), stV_p (by omega)]
      have e1 : (p < i ∧ p ≠ al) ↔ (p < i + 1 ∧ p ≠ al) := by omega
      simp only [e1]
  · rw [l3] at hp
    have w8 := (per_w (w.st (al := al) (i := i + 1)) (P := p) (by rw [l3]; exact hp)).2.2.2.2.2.2.2.1
    have hk8 : (k : Int) < pF (stV V al (i + 1)) p 8 := by
      rw [show pF (stV V al (i + 1)) p 8 = stV V al (i + 1) (128 + 33 * p) from congrArg (stV V al (i + 1)) (by omega)]; exact hk
    have nst : ¬ (p < i + 1 ∧ p ≠ al) := fun c => by
      rw [stV_p (f := 8) (by decide), if_neg (by omega), if_pos ⟨c, rfl⟩] at hk8; omega
    have k24 : k < 24 := by omega
    have h8i : (k : Int) < stV V al i (128 + 33 * p) := by
      rw [show stV V al i (128 + 33 * p) = pF (stV V al i) p 8 from congrArg (stV V al i) (by omega), stV_same (by decide) (by omega)]
      rw [stV_same (by decide) nst] at hk8
      exact hk8
    have old := (o4 p (by rw [l3]; exact hp)).2 k h8i
    rw [z _ (by omega)]
    have s1 := stV_s (V := V) (al := al) (i := i) (P := p) k24
    have s2 := stV_s (V := V) (al := al) (i := i + 1) (P := p) k24
    exact old.trans (s1.trans s2.symm)
theorem c_printsAlone (l : Launch) (G : zG) (h : zH) (V : Nat → Int) (q P : Nat) (x2 : Int32) (l10 : lo10 h 0) (hq : lo1 h q) (w : WFN V) (o : NObj h q V) (dj : q + 18 ≤ 95) (hp : x2.toInt = (P : Int)) (hP : (P : Int) < V 3) : CTi l G YX10_printsAlone 6 [va_rf (some 0), va_rf (some q), .int x2] h (fun y I => y = Int32.ofNat (stM V P 100).n ∧ ∀ b, (b < 95 ∨ 127 ≤ b) → I b = h.1 b) := by
  have l113 := los_113 l10
  have l95 := los_95 l10
  have w3 := w.2.2.2.1
  have loop : ∀ (f i : Nat) (x3 : Int32) (u : Value) (I : Nat → Nat → Int32), (i : Int) ≤ V 3 → V 3 - i < (f : Int) → x3.toInt = (i : Int) → (∀ b, (b < 95 ∨ 127 ≤ b) → I b = h.1 b) → NObj (I, h.2) 95 (stV V P i) →
      Z l G mX10_printsAlone 6 (fun w h1 => ∃ x I1, w = some (.int x) ∧ h1 = (I1, h.2) ∧ (x = Int32.ofNat (stM V P 100).n ∧ ∀ b, (b < 95 ∨ 127 ≤ b) → I1 b = h.1 b)) 0 0 10 [va_rf (some 0), va_rf (some q), .int x2, .int x3, u] [] (I, h.2) := by
    intro f
    induction f with
    | zero => intro i x3 u I h1 h2; omega
    | succ f ih =>
      intro i x3 u I h1 h2 hx s1 oI
      have wi := w.st (al := P) (i := i)
      have e3 : (zI (I, h.2) 95 3).toInt = V 3 := by
        have := oI.1 3 (by decide)
        rw [stV_lo (by decide)] at this
        exact this
      have e3' : (zI (I, h.2) (0 + 95) 3).toInt = V 3 := e3
      refine sX10_printsAlone_10 0 q x2 x3 u l10 hq (Nat.le_refl _) ⟨fun c1 => ?_, fun c3 => ?_⟩
      · rw [e3'] at c1
        have ei : i = (V 3).toNat := by omega
        rw [ei] at oI wi
        refine ⟨_, c_lay l G (I, h.2) _ 113 95 99 99 l113 l95 wi oI (by omega) rfl (by decide), fun I8 ⟨g1, g2, g3⟩ => ⟨_, I8, rfl, rfl, ?_, fun b hb => ?_⟩⟩
        · have n0 := g2.1
          rw [stM_st w hP (99 + 1) (by decide)] at n0
          exact n_ofn n0
        · rw [g1 b (by omega)]; exact s1 b hb
      · rw [e3'] at c3
        have hi : (i : Int) < V 3 := by omega
        obtain ⟨m1, m2, m3⟩ := per_mem (h := (I, h.2)) l95 wi oI hx (by rw [stV_lo (by decide)]; exact hi)
        refine ⟨fun c4 => absurd (m1.symm.trans c4) (fun z => by cases z), fun b18 c5 => ?_⟩
        have eb : b18 = 95 + (6 + 2 * i) := (Option.some.inj (m1.symm.trans c5)).symm
        subst eb
        refine ⟨fun c6 => ih (i + 1) _ _ I (by omega) (by omega) (i_1 hx (by omega)) s1 ?_, fun c7 => ⟨m2, _, c_X2_stay l G (I, h.2) (95 + (6 + 2 * i)) m2, fun I30 c8 => ih (i + 1) _ _ I30 (by omega) (by omega) (i_1 hx (by omega)) (fun b hb => ?_) ?_⟩⟩
        · have ei : i = P := by have := congrArg Int32.toInt c6; omega
          rw [ei, stV_skip, ← ei]
          rw [ei] at oI
          rw [ei]; exact oI
        · rw [c8]
          funext k
          show (if b = 95 + (6 + 2 * i) then _ else I b k) = _
          rw [if_neg (by omega), s1 b hb]
        · exact NObj.st (h := (I, h.2)) w oI hi (fun e => c7 (i_ext (by omega))) c8
  refine kX10_printsAlone 0 q x2 (sX10_printsAlone_0 0 q x2 l10 hq (Nat.le_refl _) ⟨_, c_X1_copyFrom l G h 95 q l95 hq (by omega), fun I4 ⟨j1, j2⟩ => loop 7 0 0 zU I4 (by omega) (by omega) rfl (fun b hb => j1 b (by omega)) ?_⟩)
  rw [stV_0]
  exact o.cp w j2
theorem c_aloneOf (l : Launch) (G : zG) (h : zH) (n : Nat) (V : Nat → Int) (P : Nat) (x1 : Int32) (hl : lo11 h 313) (w : WFN V) (m : MN h n V) (hp : x1.toInt = (P : Int)) : CTi l G YX11_aloneOf 6 [va_rf (some 313), .int x1] h (fun y I => y = Int32.ofNat (stM V P 100).n ∧ (∀ b, b ≠ 313 → (b < 318 ∨ 329 ≤ b) → I b = h.1 b) ∧ (∀ k, k ≠ 23 → k ≠ 13 → I 313 k = h.1 313 k) ∧ I 313 13 = -1) := by
  refine kX11_aloneOf 313 x1 (sX11_aloneOf_0 313 x1 hl (Nat.le_refl _) (fun I1 c1 => ?_))
  obtain ⟨a1, a2, a3⟩ := zwI_eff c1
  have m1 : MN (I1, h.2) n V := m.cg (fun k hk => a2 k (by omega)) (a1 314 (by decide)) (fun k _ => by rw [a1 317 (by decide)])
  refine ⟨_, c_till l G (I1, h.2) n V P 99 99 hl w m1 (by show (I1 313 13).toInt = _; rw [a3]; exact hp) rfl (by decide), fun I7 ⟨g1, g2, g3, g4⟩ I13 c3 => ⟨_, I13, rfl, rfl, ?_, fun b h1 h2 => ?_, fun k h1 h2 => ?_, (zwI_eff c3).2.2⟩⟩
  · have : zI (I13, h.2) 313 23 = zI (I7, h.2) 313 23 := (zwI_eff c3).2.1 23 (by decide)
    rw [this]
    exact n_ofn g2.1
  · rw [(zwI_eff c3).1 b h1]
    show I7 b = _
    rw [g1.1 b h1 h2]
    exact a1 b h1
  · rw [(zwI_eff c3).2.1 k h2]
    show I7 313 k = _
    rw [g1.2 k h1]
    exact a2 k h2
def leavF (V : Nat → Int) (n : Nat) : Int32 := orP (fun p => if 60 * (stM V p 100).n < shN (stM V (-1) 100) p then bit1 p else 0) n
def aloneF (x2 : Int32) (V : Nat → Int) : Int32 :=
  if x2 = -1 then leavF V (V 3).toNat else if 0 ≤ x2.toInt ∧ x2.toInt < V 3 then Int32.ofNat (stM V x2.toInt 100).n else -2
theorem lg_lt {x y : Int64} : ((lg_cmp x y).toInt < (0 : Int)) ↔ x.toInt < y.toInt := by
  unfold lg_cmp
  by_cases c : x > y
  · have h1 : y.toInt < x.toInt := Int64.lt_iff_toInt_lt.mp c
    rw [if_pos c]
    exact ⟨fun z => absurd z (by decide), fun z => by omega⟩
  · have h1 : ¬ y.toInt < x.toInt := fun z => c (Int64.lt_iff_toInt_lt.mpr z)
    rw [if_neg c]
    by_cases e : x = y
    · rw [if_pos e, e]
      exact ⟨fun z => absurd z (by decide), fun z => by omega⟩
    · rw [if_neg e]
      exact ⟨fun _ => by have : x.toInt ≠ y.toInt := fun z => e (j_ext z); omega, fun _ => by decide⟩
theorem pp_alone {Kept : zH → Prop} (hk : KOK Kept) (l : Launch) (G : zG) : P_alone Kept l G := fun x1 x2 => by
  refine Pair.night hk x1 (-2) (aloneF x2) (fun h hI c0 => ?_) (fun h n hI ⟨b1, b2, b4, b6, b7, b8⟩ => ?_) (fun h hI c0 => ?_) (fun h n hI ⟨b1, b2, b4, b6, b7, b8⟩ bT => ?_)
  · exact kX10_alone 0 x1 x2 (sX10_alone_0 0 x1 x2 hI.1 (Nat.le_refl _) ⟨fun c1 => ⟨_, h.1, rfl, rfl, rfl, SameC.rf h⟩, fun b5 c2 => absurd (c0.symm.trans c2) (fun z => by cases z)⟩)
  · have w3 := b7.2.2.2.1
    refine kX10_alone 0 x1 x2 (sX10_alone_0 0 x1 x2 hI.1 (Nat.le_refl _) ⟨fun c1 => absurd (b4.symm.trans c1) (fun z => by cases z), fun b5 c2 => ?_⟩)
    have e5 : b5 = 5 + 18 * n := (Option.some.inj (b4.symm.trans c2)).symm
    subst e5
    have l81 := los_81 hI.1
    have sm : ∀ I : Nat → Nat → Int32, (∀ b, (b < 81 ∨ 127 ≤ b) → I b = h.1 b) → SameC h I := fun I e b hb j => by
      unfold IC at hb
      rw [e b (by omega)]
    refine ⟨fun c3 => ⟨b6, fun c4 => ⟨_, h.1, rfl, rfl, ?_, SameC.rf h⟩, fun b18 c5 => ?_⟩, fun c7 => ⟨fun y I => y = leavF (RW h (610 + 318 * n)) (RW h (610 + 318 * n) 3).toNat ∧ SameC h I, ?_, fun y I z => ⟨y, I, rfl, rfl, ?_, z.2⟩⟩⟩
    · unfold aloneF
      rw [if_neg c3, if_neg (fun z => ?_)]
      obtain ⟨P, hP⟩ : ∃ P : Nat, x2.toInt = (P : Int) := ⟨x2.toInt.toNat, by omega⟩
      exact absurd ((per_mem b6 b7 b8 hP (by omega)).1.symm.trans c4) (fun z => by cases z)
    · have h2 : 0 ≤ x2.toInt ∧ x2.toInt < RW h (610 + 318 * n) 3 := Decidable.byContradiction fun z => absurd ((per_no b7 b8 z).symm.trans c5) (fun z => by cases z)
      obtain ⟨P, hP⟩ : ∃ P : Nat, x2.toInt = (P : Int) := ⟨x2.toInt.toNat, by omega⟩
      refine ⟨_, c_printsAlone l G h _ (5 + 18 * n) P x2 hI.1 b6 b7 b8 (by omega) hP (by omega), fun y I ⟨z1, z2⟩ => ⟨y, I, rfl, rfl, ?_, sm I (fun b hb => z2 b (by omega))⟩⟩
      unfold aloneF
      rw [if_neg c3, if_pos h2, hP]; exact z1
    · have n150 := stM_150 b7 (al := -1) 100
      have okk := (stM_ok b7 (al := -1) 100).1
      refine kX10_leavers 0 (5 + 18 * n) (sX10_leavers_0 0 (5 + 18 * n) hI.1 b6 (Nat.le_refl _) ⟨_, c_lay l G h _ 81 (5 + 18 * n) 99 99 l81 b6 b7 b8 (by omega) rfl (by decide), fun I4 ⟨g1, g2, g3⟩ => ?_⟩)
      have loop : ∀ (f i : Nat) (x2 x3 : Int32) (I : Nat → Nat → Int32), (i : Int) ≤ RW h (610 + 318 * n) 3 → RW h (610 + 318 * n) 3 - i < (f : Int) → x3.toInt = (i : Int) → x2 = leavF (RW h (610 + 318 * n)) i → (∀ b, (b < 95 ∨ 127 ≤ b) → I b = I4 b) →
          Z l G mX10_leavers 7 (fun v h1 => ∃ y J, v = some (.int y) ∧ h1 = (J, h.2) ∧ (y = leavF (RW h (610 + 318 * n)) (RW h (610 + 318 * n) 3).toNat ∧ SameC h J)) 0 0 14 [va_rf (some 0), va_rf (some (5 + 18 * n)), .int x2, .int x3] [] (I, h.2) := by
        intro f
        induction f with
        | zero => intro i x2 x3 I h1 h2; omega
        | succ f ih =>
          intro i x2 x3 I h1 h2 hx hs t1
          have eI : ∀ b, (b < 81 ∨ 127 ≤ b) → I b = h.1 b := fun b hb => (t1 b (by omega)).trans (g1 b (by omega))
          have oI : NObj (I, h.2) (5 + 18 * n) (RW h (610 + 318 * n)) := b8.same b7 (fun b z1 z2 => eI b (by omega))
          have e3 : (zI (I, h.2) (5 + 18 * n) 3).toInt = RW h (610 + 318 * n) 3 := oI.1 3 (by decide)
          refine sX10_leavers_14 0 (5 + 18 * n) x2 x3 hI.1 b6 (Nat.le_refl _) ⟨fun c1 => ⟨_, I, rfl, rfl, ?_, sm I eI⟩, fun c2 => ?_⟩
          · rw [hs, show (RW h (610 + 318 * n) 3).toNat = i by omega]
          · have hi : (i : Int) < RW h (610 + 318 * n) 3 := by omega
            refine ⟨_, c_printsAlone l G (I, h.2) _ (5 + 18 * n) i x3 hI.1 b6 b7 oI (by omega) hx hi, fun y10 I8 ⟨z1, z2⟩ => ?_⟩
            have t8 : ∀ b, (b < 95 ∨ 127 ≤ b) → I8 b = I4 b := fun b hb => (z2 b hb).trans (t1 b hb)
            have cp : CPr (I8, h.2) 81 (stM (RW h (610 + 318 * n)) (-1) 100) := CPr.cg (h := (I4, h.2)) g2 (fun b h1 h2 => t8 b (by omega))
            refine ⟨_, c_shareOf l G (I8, h.2) _ 81 _ i x3 okk l81 cp n150 hx (by omega), fun y19 I17 ⟨z3, z4⟩ => ?_⟩
            have eI2 : I17 = I8 := z4
            subst eI2
            have nl := stM_150 b7 (al := (i : Int)) 100
            have e60 : (y10 * 60).toInt = ((60 * (stM (RW h (610 + 318 * n)) i 100).n : Nat) : Int) := by
              have ey : y10.toInt = ((stM (RW h (610 + 318 * n)) i 100).n : Int) := by rw [z1]; exact i_ofNat (by omega)
              rw [i_mul (by rw [ey]; show _ ≤ _ * (60 : Int); omega) (by rw [ey]; show _ * (60 : Int) < _; omega), ey]; show _ * (60 : Int) = _; omega
            refine ⟨fun c5 => ih (i + 1) _ _ I17 (by omega) (by omega) (i_1 hx (by omega)) (orP_0 hs (if_neg (by omega))) t8, fun c6 => ih (i + 1) _ _ I17 (by omega) (by omega) (i_1 hx (by omega)) ?_ t8⟩
            rw [bit1_of hx]
            exact orP_s hs (if_pos (by omega))
      exact loop 7 0 0 0 I4 (by omega) (by omega) rfl rfl (fun _ _ => rfl)
    · unfold aloneF
      rw [if_pos c7]; exact z.1
  · refine kX11_alone 313 x1 x2 (sX11_alone_0 313 x1 x2 hI.2.1 (Nat.le_refl _) ⟨_, c_isN l G hI x1, fun y6 I4 ⟨s1, s2, s3, s4⟩ => ⟨fun c2 => ⟨_, I4, rfl, rfl, rfl, s1⟩, fun c2 => ?_⟩⟩)
    exact absurd (c0.symm.trans (s3.symm.trans c2)) (fun z => by cases z)
  · refine kX11_alone 313 x1 x2 (sX11_alone_0 313 x1 x2 hI.2.1 (Nat.le_refl _) ⟨_, c_isN l G hI x1, fun y6 I4 ⟨s1, s2, s3, s4⟩ => ⟨fun c2 => absurd (bT.symm.trans (s3.symm.trans c2)) (fun z => by cases z), fun c2 => ?_⟩⟩)
    have eV : RW (I4, h.2) (610 + 318 * n) = RW h (610 + 318 * n) := RWc s1.al _
    have ma := s4 n b1 b2 c2
    have mm := ma.mn b2 (by rw [eV]; exact b7)
    rw [eV] at mm
    have w3 := b7.2.2.2.1
    obtain ⟨k3, pi⟩ := zisP_at mm b7 (p := x2)
    have n150 := stM_150 b7 (al := -1) 100
    have okk := (stM_ok b7 (al := -1) 100).1
    have sm : ∀ I : Nat → Nat → Int32, (∀ b, b ≠ 313 → (b < 318 ∨ 329 ≤ b) → I b = I4 b) → SameC h I := fun I e b hb j => by
      rw [e b (by unfold IC at hb; omega) (by unfold IC at hb; omega)]; exact s1 b hb j
    have go : x2 = -1 → Z l G mX11_alone 7 (fun v h1 => ∃ y J, v = some (.int y) ∧ h1 = (J, h.2) ∧ (y = aloneF x2 (RW h (610 + 318 * n)) ∧ SameC h J)) 0 0 40 [va_rf (some 313), .int x1, .int x2, .int 0, .int 0, zU, zU] [] (I4, h.2) := by
      intro c
      have loop : ∀ (f i : Nat) (x3 x4 : Int32) (u5 u6 : Value) (I : Nat → Nat → Int32), (i : Int) ≤ RW h (610 + 318 * n) 3 → RW h (610 + 318 * n) 3 - i < (f : Int) → x4.toInt = (i : Int) → x3 = leavF (RW h (610 + 318 * n)) i → (∀ b, b ≠ 313 → (b < 318 ∨ 329 ≤ b) → I b = I4 b) → (∀ k, k ≠ 23 → I 313 k = I4 313 k) →
          Z l G mX11_alone 7 (fun v h1 => ∃ y J, v = some (.int y) ∧ h1 = (J, h.2) ∧ (y = aloneF x2 (RW h (610 + 318 * n)) ∧ SameC h J)) 0 0 40 [va_rf (some 313), .int x1, .int x2, .int x3, .int x4, u5, u6] [] (I, h.2) := by
        intro f
        induction f with
        | zero => intro i x3 x4 u5 u6 I h1 h2; omega
        | succ f ih =>
          intro i x3 x4 u5 u6 I h1 h2 hx hs t1 t2
          have mI : MN (I, h.2) n (RW h (610 + 318 * n)) := mm.cg (h := (I4, h.2)) (fun k hk => t2 k (by omega)) (t1 314 (by decide) (by decide)) (fun k _ => by rw [t1 317 (by decide) (by decide)])
          obtain ⟨k3', v3⟩ := mI.of (w := 3) (W := 3) rfl (by decide)
          refine sX11_alone_40 313 x1 x2 x3 x4 u5 u6 hI.2.1 (Nat.le_refl _) ⟨k3', fun c1 => ⟨_, I, rfl, rfl, ?_, sm I t1⟩, fun c2 => ?_⟩
          · unfold aloneF
            rw [if_pos c, hs, show (RW h (610 + 318 * n) 3).toNat = i by omega]
          · have hi : (i : Int) < RW h (610 + 318 * n) 3 := by omega
            refine ⟨_, c_till l G (I, h.2) n _ (-1) 99 99 hI.2.1 b7 mI (by show (I 313 13).toInt = _; rw [t2 13 (by decide)]; exact congrArg Int32.toInt ma.2.1) rfl (by decide), fun I12 ⟨g1, g2, g3, g4⟩ => ?_⟩
            refine ⟨_, c_fairOf l G (I12, h.2) _ _ i x4 okk hI.2.1 g2 n150 hx (by omega), fun y23 I21 ⟨z1, z2⟩ => ?_⟩
            have eI : I21 = I12 := z2
            subst eI
            have m21 : MN (I21, h.2) n (RW h (610 + 318 * n)) := OnlyT.mn (h := (I, h.2)) g1 mI
            refine ⟨_, c_aloneOf l G (I21, h.2) n _ i x4 hI.2.1 b7 m21 hx, fun y32 I30 ⟨z3, z4, z5, z6⟩ => ?_⟩
            have nl := stM_150 b7 (al := (i : Int)) 100
            have ey : y32.toInt = ((stM (RW h (610 + 318 * n)) i 100).n : Int) := by rw [z3]; exact i_ofNat (by omega)
            have e64 : y32.toInt64.toInt = ((stM (RW h (610 + 318 * n)) i 100).n : Int) := by rw [Int32.toInt_toInt64]; exact ey
            have e60 : (60 * y32.toInt64).toInt = 60 * ((stM (RW h (610 + 318 * n)) i 100).n : Int) := by
              rw [j_mul (by rw [e64]; show _ ≤ (60 : Int) * _; omega) (by rw [e64]; show (60 : Int) * _ < _; omega), e64]; rfl
            have t1' : ∀ b, b ≠ 313 → (b < 318 ∨ 329 ≤ b) → I30 b = I4 b := fun b h1 h2 => by
              rw [z4 b h1 h2]
              show I21 b = _
              rw [g1.1 b h1 h2]
              exact t1 b h1 h2
            have t2' : ∀ k, k ≠ 23 → I30 313 k = I4 313 k := fun k hk => by
              by_cases e : k = 13
              · rw [e, z6]; exact ma.2.1.symm
              · rw [z5 k hk e]
                show I21 313 k = _
                rw [g1.2 k hk]
                exact t2 k hk
            have lt := lg_lt (x := 60 * y32.toInt64) (y := y23)
            rw [e60, z1] at lt
            refine ⟨fun c6 => ih (i + 1) _ _ _ _ I30 (by omega) (by omega) (i_1 hx (by omega)) ?_ t1' t2', fun c7 => ih (i + 1) _ _ _ _ I30 (by omega) (by omega) (i_1 hx (by omega)) ?_ t1' t2'⟩
            · rw [Int32.or_zero]
              exact orP_0 hs (if_neg (fun z => by have := lt.mpr (by omega); omega))
            · rw [bit1_of hx]
              exact orP_s hs (if_pos (by have := lt.mp c7; omega))
      exact loop 7 0 0 0 zU zU I4 (by omega) (by omega) rfl rfl (fun _ _ _ => rfl) (fun _ _ => rfl)
    refine ⟨fun c4 => ⟨fun c5 => go c5, fun c6 => absurd c4 c6⟩, fun c8 => ⟨k3, fun c9 => ⟨fun c10 => go c10, fun c11 => ?_⟩, fun c13 => ⟨_, I4, rfl, rfl, ?_, s1⟩⟩⟩
    · have hp := pi.mp c9
      obtain ⟨P, hP⟩ : ∃ P : Nat, x2.toInt = (P : Int) := ⟨x2.toInt.toNat, by omega⟩
      refine ⟨_, c_aloneOf l G (I4, h.2) n _ P x2 hI.2.1 b7 mm hP, fun y I ⟨z3, z4, z5, z6⟩ => ⟨y, I, rfl, rfl, ?_, sm I z4⟩⟩
      unfold aloneF
      rw [if_neg c8, if_pos hp, hP]; exact z3
    · have := (bfalse pi).mp c13
      unfold aloneF
      rw [if_neg c8, if_neg this]
