set_option maxRecDepth 4000
/-! ===== rows of signs: both sides ===== -/
section K90
/-! both sides -/
def noQ : Nat → Bool := fun _ => false
def vF (F : Nat → Nat → Bool) (Q : Nat → Bool) (M n : Nat) : List Nat := vS F Q M n (2 ^ n - 1)
theorem full_lt (n : Nat) : 2 ^ n - 1 < 2 ^ n := by have := Nat.pow_pos (n := n) (show 0 < 2 by decide); omega
theorem vF_mem {F : Nat → Nat → Bool} {Q : Nat → Bool} {M n : Nat} (hn : n ≤ 10) (hM : 1 ≤ M) {x : Nat} : x ∈ vF F Q M n ↔ ∃ g, Co F Q M (2 ^ n - 1) g ∧ enB n g = x := by
  unfold vF vS eL
  rw [List.mem_map]
  refine ⟨fun ⟨g, h1, h2⟩ => ⟨g, (E2_mem hn hM _ _ (Nat.le_refl _) (full_lt n) g).mp h1, enB_full.symm.trans h2⟩, fun ⟨g, h1, h2⟩ => ⟨g, (E2_mem hn hM _ _ (Nat.le_refl _) (full_lt n) g).mpr h1, enB_full.trans h2⟩⟩
theorem DS0_mem {F : Nat → Nat → Bool} {M n L : Nat} (hn : n ≤ 10) (hM : 1 ≤ M) {g : Nat → Nat} : g ∈ DS F M n L n 0 nx0 0 ↔ Co F noQ M (2 ^ n - 1) g ∧ enB n g ≤ L := by
  have := DS_mem (F := F) (L := L) hn hM n 0 nx0 (by omega) (PV_0 hM) (Nat.zero_le _) g
  rw [show enB 0 nx0 = 0 from rfl] at this
  rw [this, PV_Co]
  exact ⟨fun h => ⟨h.1, h.2.2⟩, fun h => ⟨h.1, fun a ha => by omega, h.2⟩⟩
theorem DS_lt {F : Nat → Nat → Bool} {M n L : Nat} (hn : n ≤ 10) (hM : 1 ≤ M) (h : L < mnL (vF F noQ M n)) : DS F M n L n 0 nx0 0 = [] := List.eq_nil_iff_forall_not_mem.mpr (fun g hg => by
  obtain ⟨h1, h2⟩ := (DS0_mem hn hM).mp hg
  have := mnL_le.2 _ ((vF_mem hn hM).mpr ⟨g, h1, rfl⟩)
  omega)
theorem Co_nx0 {F : Nat → Nat → Bool} {M n : Nat} (hM : 1 ≤ M) : Co F noQ M (2 ^ n - 1) nx0 := by
  have := PV_0 (F := F) (n := n) hM
  exact ⟨fun _ _ => rfl, fun _ _ => Or.inl ⟨rfl, rfl⟩, fun _ _ _ h => absurd rfl h, this.2.2.2⟩
theorem vF_le {F : Nat → Nat → Bool} {M n : Nat} (hn : n ≤ 10) (hM : 1 ≤ M) : mnL (vF F noQ M n) ≤ n := by
  have a := mnL_le.2 _ ((vF_mem hn hM).mpr ⟨nx0, Co_nx0 (F := F) hM, rfl⟩)
  have b := List.countP_le_length (p := fun a => decide (nx0 a = 10)) (l := List.range n)
  rw [List.length_range] at b
  have c : enB n nx0 ≤ n := b
  omega
theorem vF_ge {F : Nat → Nat → Bool} {M n : Nat} (hn : n ≤ 10) (hM : 1 ≤ M) : (n + M - 1) / M ≤ mnL (vF F noQ M n) := by
  have le := vF_le (F := F) hn hM
  obtain ⟨g, h1, h2⟩ := (vF_mem hn hM).mp (mnL_at (l := vF F noQ M n) (by omega))
  have := Co_least hn hM _ (2 ^ n - 1) (Nat.lt_succ_self _) (full_lt n) g h1
  rw [enB_full, h2] at this
  have e : pcN n (2 ^ n - 1) = n := by
    unfold pcN cB
    have : (List.range n).countP (fun a => (2 ^ n - 1).testBit a) = (List.range n).length := List.countP_eq_length.mpr (fun x hx => by rw [full_bit]; exact decide_eq_true (List.mem_range.mp hx))
    rw [this, List.length_range]
  rw [e] at this
  refine Nat.le_of_lt_succ ((Nat.div_lt_iff_lt_mul (by omega)).mpr ?_)
  rw [Nat.succ_mul, Nat.mul_comm]
  omega
theorem DS_at {F : Nat → Nat → Bool} {M n : Nat} (hn : n ≤ 10) (hM : 1 ≤ M) : (DS F M n (mnL (vF F noQ M n)) n 0 nx0 0).length = wcL (vF F noQ M n) ∧ ∃ g l, DS F M n (mnL (vF F noQ M n)) n 0 nx0 0 = g :: l := by
  have le := vF_le (F := F) hn hM
  have nd := DS_nd (F := F) (L := mnL (vF F noQ M n)) hn hM n 0 nx0 (by omega) (PV_0 hM) (Nat.zero_le _)
  rw [show enB 0 nx0 = 0 from rfl] at nd
  have nd2 := (E2_nd (F := F) (Q := noQ) hn hM _ (2 ^ n - 1) (Nat.le_refl _) (full_lt n)).sublist (List.filter_sublist (p := fun g => decide (enS n (2 ^ n - 1) g = mnL (vF F noQ M n))))
  have pm := (List.perm_ext_iff_of_nodup nd nd2).mpr (fun g => by
    rw [DS0_mem hn hM, List.mem_filter, E2_mem hn hM _ _ (Nat.le_refl _) (full_lt n), decide_eq_true_eq, enB_full]
    refine ⟨fun ⟨h1, h2⟩ => ⟨h1, ?_⟩, fun ⟨h1, h2⟩ => ⟨h1, by omega⟩⟩
    have := mnL_le.2 _ ((vF_mem hn hM).mpr ⟨g, h1, rfl⟩)
    omega)
  refine ⟨?_, ?_⟩
  · rw [pm.length_eq, ← List.countP_eq_length_filter]
    have : wcL (vF F noQ M n) = (E2 F noQ M n (2 ^ n - 1) (2 ^ n - 1)).countP ((fun x => decide (x = mnL (vF F noQ M n))) ∘ (enS n (2 ^ n - 1))) := by
      rw [← List.countP_map]; rfl
    rw [this]; rfl
  · obtain ⟨g, h1, h2⟩ := (vF_mem hn hM).mp (mnL_at (l := vF F noQ M n) (by omega))
    have m := (DS0_mem (F := F) (L := mnL (vF F noQ M n)) hn hM).mpr ⟨h1, by omega⟩
    cases q : DS F M n (mnL (vF F noQ M n)) n 0 nx0 0 with
    | nil => rw [q] at m; exact absurd m List.not_mem_nil
    | cons g l => exact ⟨g, l, rfl⟩
theorem wcL_lt {F : Nat → Nat → Bool} {M n : Nat} (hn : n ≤ 10) (hM : 1 ≤ M) : 1 ≤ wcL (vF F noQ M n) ∧ wcL (vF F noQ M n) ≤ 234662231 := by
  obtain ⟨h1, g, l, h2⟩ := DS_at (F := F) hn hM
  have h3 := DS_len0 (F := F) (L := mnL (vF F noQ M n)) hn hM
  rw [h1] at h3
  rw [h2] at h1
  have h4 : l.length + 1 = wcL (vF F noQ M n) := h1
  omega
/-! one sign more is settled -/
def trR (R : Nat → Nat → Bool) (a b : Nat) : Nat → Nat → Bool := fun x y => if x = a then R a y && decide (y = b) else R x y
def trQ (Q : Nat → Bool) (a : Nat) : Nat → Bool := fun x => Q x || decide (x = a)
def rmR (R : Nat → Nat → Bool) (a b : Nat) : Nat → Nat → Bool := fun x y => R x y && !(decide (a < x) && decide (y = b))
def ndR (R : Nat → Nat → Bool) (a : Nat) : Nat → Nat → Bool := fun x y => if x = a then false else R x y
theorem trR_at {R : Nat → Nat → Bool} {a b y : Nat} : trR R a b a y = (R a y && decide (y = b)) := if_pos rfl
theorem trR_ne {R : Nat → Nat → Bool} {a b x y : Nat} (h : ¬ x = a) : trR R a b x y = R x y := if_neg h
theorem trQ_at {Q : Nat → Bool} {a : Nat} : trQ Q a a = true := by
  unfold trQ
  rw [decide_eq_true rfl, Bool.or_true]
theorem trQ_ne {Q : Nat → Bool} {a x : Nat} (h : ¬ x = a) : trQ Q a x = Q x := by
  unfold trQ
  rw [decide_eq_false h, Bool.or_false]
theorem ndR_at {R : Nat → Nat → Bool} {a y : Nat} : ndR R a a y = false := if_pos rfl
theorem ndR_ne {R : Nat → Nat → Bool} {a x y : Nat} (h : ¬ x = a) : ndR R a x y = R x y := if_neg h
theorem co_try {R : Nat → Nat → Bool} {Q : Nat → Bool} {M S a b : Nat} {g : Nat → Nat} (hb : b ≠ 10) (ha : S.testBit a = true) : Co (trR R a b) (trQ Q a) M S g ↔ Co R Q M S g ∧ g a = b := by
  unfold Co
  refine ⟨fun ⟨h1, h2, h3, h4⟩ => ?_, fun ⟨⟨h1, h2, h3, h4⟩, e⟩ => ⟨h1, fun x hx => ?_, h3, h4⟩⟩
  · have e : g a = b ∧ S.testBit (g a) = true ∧ R a (g a) = true := by
      rcases h2 a ha with ⟨_, z⟩ | ⟨z1, z2⟩
      · rw [trQ_at] at z; cases z
      · rw [trR_at] at z2
        obtain ⟨z2, z3⟩ := (Bool.and_eq_true _ _ ▸ z2 : _ ∧ _)
        exact ⟨of_decide_eq_true z3, z1, z2⟩
    refine ⟨⟨h1, fun x hx => ?_, h3, h4⟩, e.1⟩
    by_cases z : x = a
    · rw [z]; exact Or.inr e.2
    · refine (h2 x hx).imp (fun w => ⟨w.1, ?_⟩) (fun w => ⟨w.1, ?_⟩)
      · exact (trQ_ne z).symm.trans w.2
      · exact (trR_ne z).symm.trans w.2
  · by_cases z : x = a
    · subst z
      refine Or.inr ?_
      have := (h2 x hx).resolve_left (fun w => hb (e.symm.trans w.1))
      refine ⟨this.1, ?_⟩
      rw [trR_at, this.2, decide_eq_true e]; rfl
    · refine (h2 x hx).imp (fun w => ⟨w.1, ?_⟩) (fun w => ⟨w.1, ?_⟩)
      · exact (trQ_ne z).trans w.2
      · exact (trR_ne z).trans w.2
theorem co_rem {R : Nat → Nat → Bool} {Q : Nat → Bool} {M S a b : Nat} {g : Nat → Nat} (hb : b ≠ 10) (e : g a = b) : Co (rmR R a b) Q M S g ↔ Co R Q M S g := by
  unfold Co
  refine ⟨fun ⟨h1, h2, h3, h4⟩ => ⟨h1, fun x hx => (h2 x hx).imp id (fun w => ⟨w.1, ?_⟩), h3, h4⟩, fun ⟨h1, h2, h3, h4⟩ => ⟨h1, fun x hx => (h2 x hx).imp id (fun w => ⟨w.1, ?_⟩), h3, h4⟩⟩
  · have w2 : (R x (g x) && !(decide (a < x) && decide (g x = b))) = true := w.2
    exact (Bool.and_eq_true _ _ ▸ w2 : _ ∧ _).1
  · show (R x (g x) && !(decide (a < x) && decide (g x = b))) = true
    rw [w.2]
    by_cases z : a < x
    · by_cases y : g x = b
      · have := h3 x a (y.trans e.symm) (by rw [y]; exact hb)
        omega
      · rw [decide_eq_false y, Bool.and_false]; rfl
    · rw [decide_eq_false z]; rfl
theorem co_end {R : Nat → Nat → Bool} {Q : Nat → Bool} {M S a : Nat} {g : Nat → Nat} (ha : S.testBit a = true) (hq : Q a = false) : Co (ndR R a) Q M S g ↔ Co R Q M S g ∧ g a = 10 := by
  unfold Co
  refine ⟨fun ⟨h1, h2, h3, h4⟩ => ?_, fun ⟨⟨h1, h2, h3, h4⟩, e⟩ => ⟨h1, fun x hx => ?_, h3, h4⟩⟩
  · have e : g a = 10 := by
      rcases h2 a ha with ⟨z, _⟩ | ⟨_, z2⟩
      · exact z
      · rw [ndR_at] at z2; cases z2
    refine ⟨⟨h1, fun x hx => ?_, h3, h4⟩, e⟩
    by_cases z : x = a
    · rw [z]; exact Or.inl ⟨e, hq⟩
    · exact (h2 x hx).imp id (fun w => ⟨w.1, (ndR_ne z).symm.trans w.2⟩)
  · by_cases z : x = a
    · rw [z]; exact Or.inl ⟨e, hq⟩
    · exact (h2 x hx).imp id (fun w => ⟨w.1, (ndR_ne z).trans w.2⟩)
theorem Co_cg {R R' : Nat → Nat → Bool} {Q Q' : Nat → Bool} {M S : Nat} {g : Nat → Nat} (h : ∀ x y, S.testBit x = true → S.testBit y = true → R x y = R' x y) (hq : ∀ x, S.testBit x = true → Q x = Q' x) : Co R Q M S g ↔ Co R' Q' M S g := by
  unfold Co
  refine ⟨fun ⟨h1, h2, h3, h4⟩ => ⟨h1, fun x hx => (h2 x hx).imp (fun w => ⟨w.1, by rw [← hq x hx]; exact w.2⟩) (fun w => ⟨w.1, by rw [← h x _ hx w.1]; exact w.2⟩), h3, h4⟩, fun ⟨h1, h2, h3, h4⟩ => ⟨h1, fun x hx => (h2 x hx).imp (fun w => ⟨w.1, by rw [hq x hx]; exact w.2⟩) (fun w => ⟨w.1, by rw [h x _ hx w.1]; exact w.2⟩), h3, h4⟩⟩
/-- the first of all covers with fewest rows -/
def fstN (F : Nat → Nat → Bool) (M n : Nat) : Nat → Nat := ((DS F M n (mnL (vF F noQ M n)) n 0 nx0 0).head?).getD nx0
theorem fst_ok {F : Nat → Nat → Bool} {M n : Nat} (hn : n ≤ 10) (hM : 1 ≤ M) : Co F noQ M (2 ^ n - 1) (fstN F M n) ∧ enB n (fstN F M n) = mnL (vF F noQ M n) ∧ (∀ g, Co F noQ M (2 ^ n - 1) g → enB n g = mnL (vF F noQ M n) → ∀ j, j < n → (∀ a, a < j → g a = fstN F M n a) → fstN F M n j ≤ g j) := by
  obtain ⟨_, g, l, h2⟩ := DS_at (F := F) hn hM
  have e : fstN F M n = g := by unfold fstN; rw [h2]; rfl
  rw [e]
  have gm : g ∈ DS F M n (mnL (vF F noQ M n)) n 0 nx0 0 := by rw [h2]; exact List.mem_cons_self ..
  obtain ⟨m1, m2⟩ := (DS0_mem hn hM).mp gm
  have := mnL_le.2 _ ((vF_mem hn hM).mpr ⟨g, m1, rfl⟩)
  refine ⟨m1, by omega, fun g' c1 c2 j hj ha => ?_⟩
  exact DS_hd (F := F) (L := mnL (vF F noQ M n)) hn hM n 0 nx0 (by omega) (PV_0 hM) (Nat.zero_le _) g l h2 g' ((DS0_mem hn hM).mpr ⟨c1, by omega⟩) j hj ha
theorem fst_rng {F : Nat → Nat → Bool} {M n j : Nat} (hn : n ≤ 10) (hM : 1 ≤ M) : fstN F M n j = 10 ∨ fstN F M n j < n := by
  have c := (fst_ok (F := F) hn hM).1
  cases q : (2 ^ n - 1).testBit j with
  | false => exact Or.inl (c.1 j q)
  | true => exact (c.2.1 j q).imp (fun z => z.1) (fun z => by have := z.1; rw [full_bit] at this; exact of_decide_eq_true this)
/-- can sign a be followed by b, all before him settled -/
theorem try_iff {F R : Nat → Nat → Bool} {Q : Nat → Bool} {M n a b : Nat} (hn : n ≤ 10) (hM : 1 ≤ M) (ha : a < n) (hb : b < n) (inv : ∀ g, Co R Q M (2 ^ n - 1) g ↔ Co F noQ M (2 ^ n - 1) g ∧ ∀ x, x < a → g x = fstN F M n x) :
    (mnL (vF (trR R a b) (trQ Q a) M n) = mnL (vF F noQ M n) → fstN F M n a ≤ b) ∧ (fstN F M n a = b → mnL (vF (trR R a b) (trQ Q a) M n) = mnL (vF F noQ M n) ∧ R a b = true) := by
  have ba : (2 ^ n - 1).testBit a = true := by rw [full_bit]; exact decide_eq_true ha
  obtain ⟨o1, o2, o3⟩ := fst_ok (F := F) hn hM
  have le := vF_le (F := F) hn hM
  refine ⟨fun h => ?_, fun h => ?_⟩
  · obtain ⟨g, h1, h2⟩ := (vF_mem hn hM).mp (mnL_at (show mnL (vF (trR R a b) (trQ Q a) M n) < 1000000 by omega))
    obtain ⟨c1, c2⟩ := (co_try (by omega) ba).mp h1
    obtain ⟨d1, d2⟩ := (inv g).mp c1
    rw [← c2]
    exact o3 g d1 (by omega) a ha d2
  · have c1 := (inv (fstN F M n)).mpr ⟨o1, fun _ _ => rfl⟩
    have c2 := (co_try (R := R) (Q := Q) (b := b) (by omega) ba).mpr ⟨c1, h⟩
    have m := mnL_le.2 _ ((vF_mem hn hM).mpr ⟨_, c2, rfl⟩)
    refine ⟨?_, ?_⟩
    · refine Nat.le_antisymm (by omega) ?_
      obtain ⟨g, h1, h2⟩ := (vF_mem hn hM).mp (mnL_at (show mnL (vF (trR R a b) (trQ Q a) M n) < 1000000 by omega))
      obtain ⟨e1, _⟩ := (co_try (by omega) ba).mp h1
      have := mnL_le.2 _ ((vF_mem hn hM).mpr ⟨g, ((inv g).mp e1).1, rfl⟩)
      omega
    · have := (c1.2.1 a ba).resolve_left (fun z => by have := z.1; omega)
      rw [h] at this; exact this.2
end K90
