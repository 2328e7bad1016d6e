set_option maxRecDepth 4000
/-! ===== taxes ===== -/
def dueI (V : Nat → Int) (st : PS) (law : Int32) (i : Nat) : Int32 := if law = 0 then 1 else if law = 1 then Int32.ofInt (pF V (st.P i 6).toInt.toNat 1) else st.P i 4
def taxF (V : Nat → Int) (st : PS) (law p : Int32) : Int32 := sumP (fun i => if p = -1 ∨ st.P i 6 = p then dueI V st law i else 0) st.n
def madeF (st : PS) (p : Int32) : Int32 := sumP (fun i => if st.P i 6 = p then 1 else 0) st.n
theorem taxF_0 {V : Nat → Int} {st : PS} {p : Int32} (hp : p ≠ -1) : taxF V st 0 p = madeF st p := by
  refine sumP_cg _ (fun i _ => ?_)
  show (if p = -1 ∨ st.P i 6 = p then (if (0 : Int32) = 0 then 1 else _) else 0) = if st.P i 6 = p then (1 : Int32) else 0
  by_cases c : st.P i 6 = p
  · rw [if_pos (Or.inr c), if_pos rfl, if_pos c]
  · rw [if_neg (fun z => z.elim hp c), if_neg c]
theorem c_madeBy (l : Launch) (G : zG) (h : zH) (a : Nat) (st : PS) (p : Int32) (ha : lo0 h a) (r : CPr h a st) (hn : st.n ≤ 150) : CTi l G YX0_madeBy 2 [va_rf (some a), .int p] h (fun y I => y = madeF st p ∧ I = h.1) := by
  have n0 := r.1
  have loop : ∀ (f i : Nat) (x2 x3 : Int32), i ≤ st.n → st.n - i < f → x3.toInt = (i : Int) → x2 = sumP (fun i => if st.P i 6 = p then 1 else 0) i →
      Z l G mX0_madeBy 2 (fun w h1 => ∃ x I1, w = some (.int x) ∧ h1 = (I1, h.2) ∧ (x = madeF st p ∧ I1 = h.1)) 0 0 4 [va_rf (some a), .int p, .int x2, .int x3] [] h := by
    intro f
    induction f with
    | zero => intro i x2 x3 h1 h2; omega
    | succ f ih =>
      intro i x2 x3 h1 h2 h3 hs
      refine sX0_madeBy_4 a p x2 x3 ha (Nat.le_refl _) ⟨fun c1 => ⟨_, h.1, rfl, rfl, ?_, rfl⟩, fun c2 => ?_⟩
      · rw [hs, show i = st.n by omega]; rfl
      · rw [(r.get ha hn h3 (by omega)).2.2.2.2.1]
        exact ⟨fun c => ih (i + 1) _ _ (by omega) (by omega) (i_1 h3 (by omega)) (sumP_0 hs (if_neg c)), fun c => ih (i + 1) _ _ (by omega) (by omega) (i_1 h3 (by omega)) (sumP_s hs (if_pos c))⟩
  exact kX0_madeBy a p (sX0_madeBy_0 a p ha (Nat.le_refl _) (loop (st.n + 1) 0 0 0 (by omega) (by omega) rfl rfl))
theorem c_dueFor (l : Launch) (G : zG) (h : zH) (V : Nat → Int) (a q : Nat) (st : PS) (law x3 : Int32) (i : Nat) (w : WFN V) (ok : okS V st) (ha : lo0 h a) (hq : lo1 h q) (o : NObj h q V) (r : CPr h a st) (hn : st.n ≤ 150) (hx : x3.toInt = (i : Int)) (hi : i < st.n) : CTi l G YX0_dueFor 3 [va_rf (some a), va_rf (some q), .int law, .int x3] h (fun y I => y = dueI V st law i ∧ I = h.1) := by
  obtain ⟨q0, q1, q2, q3, q4, q5⟩ := r.get ha hn hx hi
  have ok6 := (ok i hi).2.2.2.2.2.1
  obtain ⟨P, hP⟩ : ∃ P : Nat, (st.P i 6).toInt = (P : Int) := ⟨(st.P i 6).toInt.toNat, by omega⟩
  obtain ⟨m1, m2, m3⟩ := per_mem hq w o hP (by omega)
  refine kX0_dueFor a q law x3 (sX0_dueFor_0 a q law x3 ha hq (Nat.le_refl _) ⟨fun c1 => ⟨fun c2 => ⟨_, h.1, rfl, rfl, ?_, rfl⟩, fun c3 => ?_⟩, fun c6 => ⟨_, h.1, rfl, rfl, ?_, rfl⟩⟩)
  · unfold dueI
    rw [if_neg c1, if_neg c2]; exact q2
  · rw [q4]
    refine ⟨fun c4 => absurd (m1.symm.trans c4) (fun z => by cases z), fun b19 c5 => ?_⟩
    have eb : b19 = q + (6 + 2 * P) := (Option.some.inj (m1.symm.trans c5)).symm
    subst eb
    refine ⟨m2, _, h.1, rfl, rfl, ?_, rfl⟩
    unfold dueI
    rw [if_neg c1, if_pos c3, show (st.P i 6).toInt.toNat = P by omega]
    exact n_ofV ((per_f o (P := P) (by omega)).1 1 (by decide))
  · unfold dueI
    rw [if_pos c6]
theorem c_taxC (l : Launch) (G : zG) (h : zH) (V : Nat → Int) (a q : Nat) (st : PS) (law p : Int32) (w : WFN V) (ok : okS V st) (ha : lo0 h a) (hq : lo1 h q) (o : NObj h q V) (r : CPr h a st) (hn : st.n ≤ 150) : CTi l G YX0_taxOf 4 [va_rf (some a), va_rf (some q), .int law, .int p] h (fun y I => y = taxF V st law p ∧ I = h.1) := by
  have n0 := r.1
  have loop : ∀ (f i : Nat) (x4 x5 : Int32), i ≤ st.n → st.n - i < f → x5.toInt = (i : Int) → x4 = sumP (fun i => if p = -1 ∨ st.P i 6 = p then dueI V st law i else 0) i →
      Z l G mX0_taxOf 4 (fun w h1 => ∃ x I1, w = some (.int x) ∧ h1 = (I1, h.2) ∧ (x = taxF V st law p ∧ I1 = h.1)) 0 0 6 [va_rf (some a), va_rf (some q), .int law, .int p, .int x4, .int x5] [] h := by
    intro f
    induction f with
    | zero => intro i x4 x5 h1 h2; omega
    | succ f ih =>
      intro i x4 x5 h1 h2 h3 hs
      refine sX0_taxOf_6 a q law p x4 x5 ha hq (Nat.le_refl _) ⟨fun c1 => ⟨_, h.1, rfl, rfl, ?_, rfl⟩, fun c2 => ?_⟩
      · rw [hs, show i = st.n by omega]; rfl
      · have hi : i < st.n := by omega
        have due := c_dueFor l G h V a q st law x5 i w ok ha hq o r hn h3 hi
        rw [(r.get ha hn h3 hi).2.2.2.2.1]
        refine ⟨fun c3 => ⟨_, due, fun y I z => ?_⟩, fun c5 => ⟨fun c6 => ih (i + 1) _ _ (by omega) (by omega) (i_1 h3 (by omega)) (sumP_0 hs (if_neg (fun z => z.elim c5 c6))), fun c7 => ⟨_, due, fun y I z => ?_⟩⟩⟩
        · have eI : I = h.1 := z.2
          subst eI
          exact ih (i + 1) _ _ (by omega) (by omega) (i_1 h3 (by omega)) (sumP_s hs ((if_pos (Or.inl c3)).trans z.1.symm))
        · have eI : I = h.1 := z.2
          subst eI
          exact ih (i + 1) _ _ (by omega) (by omega) (i_1 h3 (by omega)) (sumP_s hs ((if_pos (Or.inr c7)).trans z.1.symm))
  exact kX0_taxOf a q law p (sX0_taxOf_0 a q law p ha hq (Nat.le_refl _) (loop (st.n + 1) 0 0 0 (by omega) (by omega) rfl rfl))
theorem c_taxM (l : Launch) (G : zG) (h : zH) (n : Nat) (V : Nat → Int) (st : PS) (law p : Int32) (w : WFN V) (ok : okS V st) (hl : lo11 h 313) (m : MN h n V) (r : MPr h st) (hn : st.n ≤ 150) : CTi l G YX11_taxOf 2 [va_rf (some 313), .int law, .int p] h (fun y I => y = taxF V st law p ∧ I = h.1) := by
  have n0 := r.1
  have w3 := w.2.2.2.1
  have loop : ∀ (f i : Nat) (x3 x4 : Int32), i ≤ st.n → st.n - i < f → x4.toInt = (i : Int) → x3 = sumP (fun i => if p = -1 ∨ st.P i 6 = p then dueI V st law i else 0) i →
      Z l G mX11_taxOf 2 (fun w h1 => ∃ x I1, w = some (.int x) ∧ h1 = (I1, h.2) ∧ (x = taxF V st law p ∧ I1 = h.1)) 0 0 5 [va_rf (some 313), .int law, .int p, .int x3, .int x4] [] h := by
    intro f
    induction f with
    | zero => intro i x3 x4 h1 h2; omega
    | succ f ih =>
      intro i x3 x4 h1 h2 h3 hs
      refine sX11_taxOf_5 313 law p x3 x4 hl (Nat.le_refl _) ⟨fun c1 => ⟨_, h.1, rfl, rfl, ?_, rfl⟩, fun c2 => ?_⟩
      · rw [hs, show i = st.n by omega]; rfl
      · have hi : i < st.n := by omega
        have k1 : 0 ≤ x4.toInt := by omega
        have k2 : x4.toInt < ((160 : Nat) : Int) := by show _ < (160 : Int); omega
        have ok6 := (ok i hi).2.2.2.2.2.1
        obtain ⟨P, hP⟩ : ∃ P : Nat, (st.P i 6).toInt = (P : Int) := ⟨(st.P i 6).toInt.toNat, by omega⟩
        obtain ⟨t1, t2⟩ := m.f (p := st.P i 6) (w := 1) (f := 1) hP (by omega) rfl (by decide)
        rw [zix_of h3, show zI h (313 + 11) i = st.P i 4 from r.2 i hi 4 (by decide), show zI h (313 + 13) i = st.P i 6 from r.2 i hi 6 (by decide)]
        have go : (p = -1 ∨ st.P i 6 = p) → ∀ v, dueI V st law i = v → Z l G mX11_taxOf 2 (fun w h1 => ∃ x I1, w = some (.int x) ∧ h1 = (I1, h.2) ∧ (x = taxF V st law p ∧ I1 = h.1)) 0 0 5 [va_rf (some 313), .int law, .int p, .int (x3 + v), .int (x4 + 1)] [] h := fun c v e => ih (i + 1) _ _ (by omega) (by omega) (i_1 h3 (by omega)) (sumP_s hs ((if_pos c).trans e))
        have d2 : ¬ law = 0 → ¬ law = 1 → dueI V st law i = st.P i 4 := fun a b => by unfold dueI; rw [if_neg a, if_neg b]
        have d1 : ¬ law = 0 → law = 1 → dueI V st law i = ztold h 313 (st.P i 6) 1 := fun a b => by
          unfold dueI
          rw [if_neg a, if_pos b, show (st.P i 6).toInt.toNat = P by omega]; exact (n_ofV t2).symm
        have d0 : law = 0 → dueI V st law i = 1 := fun a => by unfold dueI; rw [if_pos a]
        exact ⟨fun c3 => ⟨fun c4 => ⟨fun c5 => ⟨k1, k2, go (Or.inl c3) _ (d2 c4 c5)⟩, fun c6 => ⟨k1, k2, t1, go (Or.inl c3) _ (d1 c4 c6)⟩⟩, fun c7 => go (Or.inl c3) _ (d0 c7)⟩, fun c8 => ⟨k1, k2, fun c9 => ⟨fun c10 => ⟨fun c11 => ⟨k1, k2, go (Or.inr c9) _ (d2 c10 c11)⟩, fun c12 => ⟨k1, k2, t1, go (Or.inr c9) _ (d1 c10 c12)⟩⟩, fun c13 => go (Or.inr c9) _ (d0 c13)⟩, fun c14 => ih (i + 1) _ _ (by omega) (by omega) (i_1 h3 (by omega)) (sumP_0 hs (if_neg (fun z => z.elim c8 c14)))⟩⟩
  exact kX11_taxOf 313 law p (sX11_taxOf_0 313 law p hl (Nat.le_refl _) (loop (st.n + 1) 0 0 0 (by omega) (by omega) rfl rfl))
/-! ===== dawn ===== -/
def dawnF (x2 : Int32) (V : Nat → Int) : Int32 :=
  if x2 = 0 then Int32.ofNat (hidN (stM V (-1) 100)) else if x2 = 1 then Int32.ofNat (twA (stM V (-1) 100) (stM V (-1) 100).n) else if x2 = 2 then topI (dpI (stM V (-1) 100) (stM V (-1) 100).n)
  else if 0 ≤ (x2 - 10).toInt ∧ (x2 - 10).toInt < V 3 then madeF (stM V (-1) 100) (x2 - 10) else -2
theorem pp_dawn {Kept : zH → Prop} (hk : KOK Kept) (l : Launch) (G : zG) : P_dawn Kept l G := fun x1 x2 => by
  refine Pair.night hk x1 (-2) (dawnF x2) (fun h hI c0 => ?_) (fun h n hI ⟨b1, b2, b4, b6, b7, b8⟩ => ?_) (fun h hI c0 => ?_) (fun h n hI ⟨b1, b2, b4, b6, b7, b8⟩ bT => ?_)
  · exact kX10_dawn 0 x1 x2 (sX10_dawn_0 0 x1 x2 hI.1 (Nat.le_refl _) ⟨fun c1 => ⟨_, h.1, rfl, rfl, rfl, SameC.rf h⟩, fun b5 c2 => absurd (c0.symm.trans c2) (fun z => by cases z)⟩)
  · refine kX10_dawn 0 x1 x2 (sX10_dawn_0 0 x1 x2 hI.1 (Nat.le_refl _) ⟨fun c1 => absurd (b4.symm.trans c1) (fun z => by cases z), fun b5 c2 => ?_⟩)
    have e5 : b5 = 5 + 18 * n := (Option.some.inj (b4.symm.trans c2)).symm
    subst e5
    have l81 := los_81 hI.1
    have n150 := stM_150 b7 (al := -1) 100
    have okk := (stM_ok b7 (al := -1) 100).1
    refine ⟨_, c_lay l G h _ 81 (5 + 18 * n) 99 99 l81 b6 b7 b8 (by omega) rfl (by decide), fun I11 ⟨g1, g2, g3⟩ => ?_⟩
    have s := SameC.lay (Or.inl rfl) g1
    have oJ : NObj (I11, h.2) (5 + 18 * n) (RW h (610 + 318 * n)) := b8.same b7 (fun b z1 z2 => g1 b (by omega))
    have n2 : ∀ c : Int32, (x2.toInt < 0 ∨ 2 < x2.toInt) → (c = 0 ∨ c = 1 ∨ c = 2) → x2 ≠ c := fun c h1 h2 e => by
      rw [e] at h1
      rcases h2 with h2 | h2 | h2 <;> rw [h2] at h1 <;> exact absurd h1 (by decide)
    refine ⟨fun c4 => ?_, fun c8 => ⟨_, c_hiddenC l G (I11, h.2) _ 81 _ b7 okk l81 g2 n150, fun y I z => ⟨y, I, rfl, rfl, ?_, by rw [z.2]; exact s⟩⟩, fun c10 => ⟨_, c_twinsC l G (I11, h.2) _ 81 _ okk l81 g2 n150, fun y I z => ⟨y, I, rfl, rfl, ?_, by rw [z.2]; exact s⟩⟩, fun c12 => ⟨_, c_deepC l G (I11, h.2) 81 _ l81 g2 n150, fun y I z => ⟨y, I, rfl, rfl, ?_, by rw [z.2]; exact s⟩⟩⟩
    · have fv : dawnF x2 (RW h (610 + 318 * n)) = if 0 ≤ (x2 - 10).toInt ∧ (x2 - 10).toInt < RW h (610 + 318 * n) 3 then madeF (stM (RW h (610 + 318 * n)) (-1) 100) (x2 - 10) else -2 := by
        unfold dawnF
        rw [if_neg (n2 0 c4 (by decide)), if_neg (n2 1 c4 (by decide)), if_neg (n2 2 c4 (by decide))]
      rw [fv]
      by_cases hp : 0 ≤ (x2 - 10).toInt ∧ (x2 - 10).toInt < RW h (610 + 318 * n) 3
      · obtain ⟨P, hP⟩ : ∃ P : Nat, (x2 - 10).toInt = (P : Int) := ⟨(x2 - 10).toInt.toNat, by omega⟩
        obtain ⟨m1, m2, m3⟩ := per_mem (h := (I11, h.2)) b6 b7 oJ hP (by omega)
        refine ⟨b6, fun c5 => absurd (m1.symm.trans c5) (fun z => by cases z), fun b25 c6 => ⟨_, c_madeBy l G (I11, h.2) 81 _ _ l81 g2 n150, fun y I z => ⟨y, I, rfl, rfl, ?_, by rw [z.2]; exact s⟩⟩⟩
        rw [if_pos hp]; exact z.1
      · have mn := per_no (h := (I11, h.2)) b7 oJ hp
        refine ⟨b6, fun c5 => ⟨_, I11, rfl, rfl, ?_, s⟩, fun b25 c6 => absurd (mn.symm.trans c6) (fun z => by cases z)⟩
        rw [if_neg hp]
    · unfold dawnF
      rw [if_pos (i_ext c8)]; exact z.1
    · unfold dawnF
      rw [if_neg (fun e => by rw [e] at c10; exact absurd c10 (by decide)), if_pos (i_ext c10)]; exact z.1
    · unfold dawnF
      rw [if_neg (fun e => by rw [e] at c12; exact absurd c12 (by decide)), if_neg (fun e => by rw [e] at c12; exact absurd c12 (by decide)), if_pos (i_ext c12)]; exact z.1
  · refine kX11_dawn 313 x1 x2 (sX11_dawn_0 313 x1 x2 hI.2.1 (Nat.le_refl _) ⟨_, c_isN l G hI x1, fun y6 I4 ⟨s1, s2, s3, s4⟩ => ⟨fun c2 => ⟨_, I4, rfl, rfl, rfl, s1⟩, fun c2 => ?_⟩⟩)
    exact absurd (c0.symm.trans (s3.symm.trans c2)) (fun z => by cases z)
  · refine kX11_dawn 313 x1 x2 (sX11_dawn_0 313 x1 x2 hI.2.1 (Nat.le_refl _) ⟨_, c_isN l G hI x1, fun y6 I4 ⟨s1, s2, s3, s4⟩ => ⟨fun c2 => absurd (bT.symm.trans (s3.symm.trans c2)) (fun z => by cases z), fun c2 => ?_⟩⟩)
    have eV : RW (I4, h.2) (610 + 318 * n) = RW h (610 + 318 * n) := RWc s1.al _
    have ma := s4 n b1 b2 c2
    have mm := ma.mn b2 (by rw [eV]; exact b7)
    rw [eV] at mm
    have n150 := stM_150 b7 (al := -1) 100
    have okk := (stM_ok b7 (al := -1) 100).1
    obtain ⟨k3, pi⟩ := zisP_at mm b7 (p := x2 - 10)
    have q2 := n3r (x := x2) (u := 0) (v := 2) (a := 0) (b := 2) rfl rfl
    have till := c_till l G (I4, h.2) n _ (-1) 99 99 hI.2.1 b7 mm (by rw [ma.2.1]; rfl) rfl (by decide)
    refine ⟨fun c4 => ⟨_, till, fun I24 ⟨g1, g2, g3, g4⟩ => ?_⟩, fun c16 => ⟨k3, fun c17 => ⟨_, till, fun I24 ⟨g1, g2, g3, g4⟩ => ?_⟩, fun c29 => ⟨_, I4, rfl, rfl, ?_, s1⟩⟩⟩
    · have s : SameC h I24 := s1.tr g1.same
      have h4 := q2.1.mp c4
      refine ⟨fun c6 => ⟨fun c7 => ⟨fun c8 => ?_, fun c10 => ⟨_, c_deepM l G (I24, h.2) _ hI.2.1 g2 n150, fun y I z => ⟨y, I, rfl, rfl, ?_, by rw [z.2]; exact s⟩⟩⟩, fun c12 => ⟨_, c_twinsM l G (I24, h.2) _ hI.2.1 g2 n150, fun y I z => ⟨y, I, rfl, rfl, ?_, by rw [z.2]; exact s⟩⟩⟩, fun c14 => ⟨_, c_hiddenM l G (I24, h.2) _ hI.2.1 g2 n150, fun y I z => ⟨y, I, rfl, rfl, ?_, by rw [z.2]; exact s⟩⟩⟩
      · have a0 : x2.toInt ≠ 0 := fun e => c6 (i_ext e)
        have a1 : x2.toInt ≠ 1 := fun e => c7 (i_ext e)
        have a2 : x2.toInt ≠ 2 := fun e => c8 (i_ext e)
        omega
      · unfold dawnF
        rw [if_neg c6, if_neg c7, if_pos c10]; exact z.1
      · unfold dawnF
        rw [if_neg c6, if_pos c12, tw_AB]; exact z.1
      · unfold dawnF
        rw [if_pos c14]; exact z.1
    · have s : SameC h I24 := s1.tr g1.same
      have h4 := q2.2.mp c16
      have hp := pi.mp c17
      have mJ : MN (I24, h.2) n (RW h (610 + 318 * n)) := OnlyT.mn (h := (I4, h.2)) g1 mm
      refine ⟨fun c6 => ⟨fun c7 => ⟨fun c8 => ⟨_, c_taxM l G (I24, h.2) n _ _ 0 (x2 - 10) b7 okk hI.2.1 mJ g2 n150, fun y I z => ⟨y, I, rfl, rfl, ?_, by rw [z.2]; exact s⟩⟩, fun c10 => ?_⟩, fun c12 => ?_⟩, fun c14 => ?_⟩
      · rw [z.1, taxF_0 (fun e => by rw [e, show (-1 : Int32).toInt = -1 from rfl] at hp; omega)]
        unfold dawnF
        rw [if_neg c6, if_neg c7, if_neg c8, if_pos hp]
      · rw [c10] at h4; exact absurd ⟨by decide, by decide⟩ h4
      · rw [c12] at h4; exact absurd ⟨by decide, by decide⟩ h4
      · rw [c14] at h4; exact absurd ⟨by decide, by decide⟩ h4
    · have h4 := q2.2.mp c16
      have hp := (bfalse pi).mp c29
      unfold dawnF
      rw [if_neg (fun e => by rw [e] at h4; exact absurd ⟨by decide, by decide⟩ h4), if_neg (fun e => by rw [e] at h4; exact absurd ⟨by decide, by decide⟩ h4), if_neg (fun e => by rw [e] at h4; exact absurd ⟨by decide, by decide⟩ h4), if_neg hp]
/-! ===== tax ===== -/
def taxA (x2 x3 : Int32) (V : Nat → Int) : Int32 :=
  if (0 ≤ x2.toInt ∧ x2.toInt ≤ 2) ∧ (x3 = -1 ∨ (0 ≤ x3.toInt ∧ x3.toInt < V 3)) then taxF V (stM V (-1) 100) x2 x3 else -1
theorem pp_tax {Kept : zH → Prop} (hk : KOK Kept) (l : Launch) (G : zG) : P_tax Kept l G := fun x1 x2 x3 => by
  refine Pair.night hk x1 (-1) (taxA x2 x3) (fun h hI c0 => ?_) (fun h n hI ⟨b1, b2, b4, b6, b7, b8⟩ => ?_) (fun h hI c0 => ?_) (fun h n hI ⟨b1, b2, b4, b6, b7, b8⟩ bT => ?_)
  · exact kX10_tax 0 x1 x2 x3 (sX10_tax_0 0 x1 x2 x3 hI.1 (Nat.le_refl _) ⟨fun c1 => ⟨_, h.1, rfl, rfl, rfl, SameC.rf h⟩, fun b5 c2 => absurd (c0.symm.trans c2) (fun z => by cases z)⟩)
  · refine kX10_tax 0 x1 x2 x3 (sX10_tax_0 0 x1 x2 x3 hI.1 (Nat.le_refl _) ⟨fun c1 => absurd (b4.symm.trans c1) (fun z => by cases z), fun b5 c2 => ?_⟩)
    have e5 : b5 = 5 + 18 * n := (Option.some.inj (b4.symm.trans c2)).symm
    subst e5
    have l81 := los_81 hI.1
    have n150 := stM_150 b7 (al := -1) 100
    have okk := (stM_ok b7 (al := -1) 100).1
    have lay := c_lay l G h _ 81 (5 + 18 * n) 99 99 l81 b6 b7 b8 (by omega) rfl (by decide)
    refine ⟨fun c3 => ⟨_, h.1, rfl, rfl, ?_, SameC.rf h⟩, fun c4 => ⟨fun c5 => ⟨fun c6 => ⟨_, lay, fun I ⟨g1, g2, g3⟩ => ?_⟩, fun c9 => ⟨b6, fun c10 => ⟨_, h.1, rfl, rfl, ?_, SameC.rf h⟩, fun b44 c11 => ⟨_, lay, fun I ⟨g1, g2, g3⟩ => ?_⟩⟩⟩, fun c14 => ⟨_, h.1, rfl, rfl, ?_, SameC.rf h⟩⟩⟩
    · unfold taxA
      rw [if_neg (by omega)]
    · have oJ : NObj (I, h.2) (5 + 18 * n) (RW h (610 + 318 * n)) := b8.same b7 (fun b z1 z2 => g1 b (by omega))
      refine ⟨_, c_taxC l G (I, h.2) _ 81 (5 + 18 * n) _ x2 x3 b7 okk l81 b6 oJ g2 n150, fun y J z => ⟨y, J, rfl, rfl, ?_, by rw [z.2]; exact SameC.lay (Or.inl rfl) g1⟩⟩
      unfold taxA
      rw [if_pos ⟨by omega, Or.inl c6⟩]; exact z.1
    · unfold taxA
      rw [if_neg (fun z => ?_)]
      have hp := z.2.resolve_left c9
      obtain ⟨P, hP⟩ : ∃ P : Nat, x3.toInt = (P : Int) := ⟨x3.toInt.toNat, by omega⟩
      exact absurd ((per_mem b6 b7 b8 hP (by omega)).1.symm.trans c10) (fun z => by cases z)
    · have oJ : NObj (I, h.2) (5 + 18 * n) (RW h (610 + 318 * n)) := b8.same b7 (fun b z1 z2 => g1 b (by omega))
      refine ⟨_, c_taxC l G (I, h.2) _ 81 (5 + 18 * n) _ x2 x3 b7 okk l81 b6 oJ g2 n150, fun y J z => ⟨y, J, rfl, rfl, ?_, by rw [z.2]; exact SameC.lay (Or.inl rfl) g1⟩⟩
      unfold taxA
      by_cases hp : 0 ≤ x3.toInt ∧ x3.toInt < RW h (610 + 318 * n) 3
      · rw [if_pos ⟨by omega, Or.inr hp⟩]; exact z.1
      · exact absurd ((per_no b7 b8 hp).symm.trans c11) (fun z => by cases z)
    · unfold taxA
      rw [if_neg (by omega)]
  · refine kX11_tax 313 x1 x2 x3 (sX11_tax_0 313 x1 x2 x3 hI.2.1 (Nat.le_refl _) ⟨_, c_isN l G hI x1, fun y6 I4 ⟨s1, s2, s3, s4⟩ => ⟨fun c2 => ⟨_, I4, rfl, rfl, rfl, s1⟩, fun c2 => ?_⟩⟩)
    exact absurd (c0.symm.trans (s3.symm.trans c2)) (fun z => by cases z)
  · refine kX11_tax 313 x1 x2 x3 (sX11_tax_0 313 x1 x2 x3 hI.2.1 (Nat.le_refl _) ⟨_, c_isN l G hI x1, fun y6 I4 ⟨s1, s2, s3, s4⟩ => ⟨fun c2 => absurd (bT.symm.trans (s3.symm.trans c2)) (fun z => by cases z), fun c2 => ?_⟩⟩)
    have eV : RW (I4, h.2) (610 + 318 * n) = RW h (610 + 318 * n) := RWc s1.al _
    have ma := s4 n b1 b2 c2
    have mm := ma.mn b2 (by rw [eV]; exact b7)
    rw [eV] at mm
    have n150 := stM_150 b7 (al := -1) 100
    have okk := (stM_ok b7 (al := -1) 100).1
    obtain ⟨k3, pi⟩ := zisP_at mm b7 (p := x3)
    have q2 := n3r (x := x2) (u := 0) (v := 2) (a := 0) (b := 2) rfl rfl
    have till := c_till l G (I4, h.2) n _ (-1) 99 99 hI.2.1 b7 mm (by rw [ma.2.1]; rfl) rfl (by decide)
    have fin : ∀ I24, (OnlyT (I4, h.2) I24 ∧ MPr (I24, h.2) (stM (RW h (610 + 318 * n)) (-1) (99 + 1)) ∧ MGt (I24, h.2) (stM (RW h (610 + 318 * n)) (-1) (99 + 1)).g ∧ ∀ P : Nat, (P : Int) < RW h (610 + 318 * n) 3 → gdP (RW h (610 + 318 * n)) I24 P) → (0 ≤ x2.toInt ∧ x2.toInt ≤ 2) → (x3 = -1 ∨ (0 ≤ x3.toInt ∧ x3.toInt < RW h (610 + 318 * n) 3)) → ∃ P34, CTi l G YX11_taxOf 2 [va_rf (some 313), .int x2, .int x3] (I24, h.2) P34 ∧ ∀ (y39 : Int32) (I37 : Nat → Nat → Int32), P34 y39 I37 → (fun (v : Option Value) h1 => ∃ y I, v = some (.int y) ∧ h1 = (I, h.2) ∧ (y = taxA x2 x3 (RW h (610 + 318 * n)) ∧ SameC h I)) (some (.int y39)) (I37, h.2) := by
      intro I24 ⟨g1, g2, g3, g4⟩ z1 z2
      have mJ : MN (I24, h.2) n (RW h (610 + 318 * n)) := OnlyT.mn (h := (I4, h.2)) g1 mm
      refine ⟨_, c_taxM l G (I24, h.2) n _ _ x2 x3 b7 okk hI.2.1 mJ g2 n150, fun y I z => ⟨y, I, rfl, rfl, ?_, by rw [z.2]; exact s1.tr g1.same⟩⟩
      unfold taxA
      rw [if_pos ⟨z1, z2⟩]; exact z.1
    refine ⟨fun c4 => ⟨_, I4, rfl, rfl, ?_, s1⟩, fun c5 => ⟨fun c6 => ⟨_, till, fun I24 g => fin I24 g (q2.1.mp c5) (Or.inl c6)⟩, fun c9 => ⟨k3, fun c10 => ⟨_, till, fun I24 g => fin I24 g (q2.1.mp c5) (Or.inr (pi.mp c10))⟩, fun c13 => ⟨_, I4, rfl, rfl, ?_, s1⟩⟩⟩⟩
    · have := q2.2.mp c4
      unfold taxA
      rw [if_neg (fun z => this z.1)]
    · have := (bfalse pi).mp c13
      unfold taxA
      rw [if_neg (fun z => z.2.elim c9 this)]
