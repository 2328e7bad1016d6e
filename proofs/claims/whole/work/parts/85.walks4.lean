set_option maxRecDepth 4000
/-! ===== rows of signs: how many ===== -/
section K85
/-- how many bits of a set keep to a rule -/
def cB (n : Nat) (P : Nat → Bool) : Nat := (List.range n).countP P
theorem cP_or {α : Type} {P R T : α → Bool} : ∀ {l : List α}, (∀ x, x ∈ l → (P x = true ↔ (R x = true ∨ T x = true)) ∧ ¬ (R x = true ∧ T x = true)) → l.countP P = l.countP R + l.countP T
  | [], _ => rfl
  | a :: l, h => by
    have ih := cP_or (l := l) (fun x hx => h x (List.mem_cons_of_mem _ hx))
    obtain ⟨h1, h2⟩ := h a (List.mem_cons_self ..)
    rw [List.countP_cons, List.countP_cons, List.countP_cons, ih]
    by_cases r : R a = true
    · have t : ¬ T a = true := fun z => h2 ⟨r, z⟩
      rw [if_pos (h1.mpr (Or.inl r)), if_pos r, if_neg t]; omega
    · by_cases t : T a = true
      · rw [if_pos (h1.mpr (Or.inr t)), if_neg r, if_pos t]; omega
      · rw [if_neg (fun z => (h1.mp z).elim r t), if_neg r, if_neg t]; omega
theorem cP_one {n a : Nat} (h : a < n) : (List.range n).countP (fun x => decide (x = a)) = 1 := by
  induction n with
  | zero => omega
  | succ n ih =>
    rw [List.range_succ, List.countP_append, List.countP_cons, List.countP_nil]
    by_cases e : n = a
    · have z : (List.range n).countP (fun x => decide (x = a)) = 0 := List.countP_eq_zero.mpr (fun x hx => by
        have := List.mem_range.mp hx
        rw [decide_eq_false (by omega)]; exact Bool.false_ne_true)
      rw [z, if_pos (decide_eq_true e)]
    · rw [ih (by omega), if_neg (by rw [decide_eq_false e]; exact Bool.false_ne_true)]
theorem cP_cg {α : Type} {P R : α → Bool} {l : List α} (h : ∀ x, x ∈ l → P x = R x) : l.countP P = l.countP R := List.countP_congr (fun x hx => by rw [h x hx])
theorem cP_le {α : Type} {P R : α → Bool} {l : List α} (h : ∀ x, x ∈ l → P x = true → R x = true) : l.countP P ≤ l.countP R := List.countP_mono_left h
def pcN (n S : Nat) : Nat := cB n (fun a => S.testBit a)
def enS (n S : Nat) (nx : Nat → Nat) : Nat := cB n (fun a => S.testBit a && decide (nx a = 10))
theorem pcN_sub {n m S : Nat} (s : sbm m S) : pcN n S = pcN n m + pcN n (S - m) := by
  unfold pcN cB
  refine cP_or (fun x _ => ?_)
  rw [sub_bit x s]
  cases h1 : m.testBit x with
  | true => rw [s x h1]; simp
  | false => simp
theorem enS_app {F : Nat → Nat → Bool} {Q : Nat → Bool} {M n m S : Nat} {p : List Nat} {nx : Nat → Nat} (hn : n ≤ 10) (hS : S < 2 ^ n) (g : pOK F m p) (s : sbm m S) (c : Co F Q M (S - m) nx) : enS n S (app p nx) = 1 + enS n (S - m) nx := by
  have p10 : S < 2 ^ 10 := Nat.lt_of_lt_of_le hS (Nat.pow_le_pow_right (by decide) hn)
  obtain ⟨a, r, e, ha⟩ := pOK_hd g
  have p0 : p[0]? = some a := by rw [e]; rfl
  rw [← cP_one (n := n) (a := a) (bit_lt hS (s a ha))]
  unfold enS cB
  have pm : ∀ {k x : Nat}, p[k]? = some x → m.testBit x = true := fun {k x} h => (pOK_mem g x).mp (List.mem_of_getElem? h)
  refine cP_or (fun x _ => ?_)
  rcases tri g s c x with ⟨t1, t2⟩ | ⟨t1, t2⟩ | ⟨k, t1, t2⟩
  · have ne : ¬ x = a := fun z => by rw [z, ha] at t1; cases t1
    rw [t2, sub_bit x s, t1, decide_eq_false ne]
    simp
  · have ex : x = a := Option.some.inj (t1.symm.trans p0)
    subst ex
    rw [t2, s x ha, sub_bit x s, ha]
    simp
  · have ne : ¬ x = a := fun z => by
      have := nd_ix (pOK_nd g) t1 (z ▸ p0)
      omega
    have n10 : ¬ app p nx x = 10 := fun z => by
      have := bit_lt p10 (s _ (pm t2))
      omega
    rw [decide_eq_false ne, decide_eq_false n10, sub_bit x s, pm t1]
    simp
theorem pOK_len {F : Nat → Nat → Bool} {n : Nat} : ∀ {S : Nat} {p : List Nat}, S < 2 ^ n → pOK F S p → p.length = pcN n S
  | _, [], _, h => h.elim
  | S, [a], hS, h => by
    have e : S = 2 ^ a := h
    have ha : S.testBit a = true := by rw [e, Nat.testBit_two_pow]; exact decide_eq_true rfl
    show 1 = _
    rw [← cP_one (n := n) (a := a) (bit_lt hS ha)]
    unfold pcN cB
    refine cP_cg (fun x _ => ?_)
    rw [e, Nat.testBit_two_pow]
    exact decide_eq_decide.mpr ⟨fun z => z.symm, fun z => z.symm⟩
  | S, a :: c :: r, hS, h => by
    obtain ⟨h1, h2, h3⟩ := h
    have le := pow_le h1
    have ih := pOK_len (n := n) (Nat.lt_of_le_of_lt (Nat.sub_le S (2 ^ a)) hS) h3
    have e := pcN_sub (n := n) (pow_sbm h1)
    have e1 : pcN n (2 ^ a) = 1 := by
      rw [← cP_one (n := n) (a := a) (bit_lt hS h1)]
      unfold pcN cB
      refine cP_cg (fun x _ => ?_)
      rw [Nat.testBit_two_pow]
      exact decide_eq_decide.mpr ⟨fun z => z.symm, fun z => z.symm⟩
    show (c :: r).length + 1 = _
    rw [ih, e, e1]; omega
theorem pcN_0 (n : Nat) : pcN n 0 = 0 := by
  unfold pcN cB
  exact List.countP_eq_zero.mpr (fun x _ => by rw [Nat.zero_testBit]; exact Bool.false_ne_true)
/-- so many rows there must be -/
theorem Co_least {F : Nat → Nat → Bool} {Q : Nat → Bool} {M n : Nat} (hn : n ≤ 10) (hM : 1 ≤ M) : ∀ f S, S < f → S < 2 ^ n → ∀ nx, Co F Q M S nx → pcN n S ≤ M * enS n S nx
  | 0, S, h, _, _, _ => by omega
  | f + 1, S, h, hS, nx, c => by
    have p10 : S < 2 ^ 10 := Nat.lt_of_lt_of_le hS (Nat.pow_le_pow_right (by decide) hn)
    by_cases q : S = 0
    · subst q; rw [pcN_0]; omega
    · obtain ⟨m, p, nx', s1, s2, s3, s4, s5, s6, s7⟩ := split_Co p10 hM c (lwB_bit p10 q)
      have le := sbm_le (S + 1) (by omega) s1
      have m1 : 1 ≤ m := Classical.byContradiction fun z => by
        have : m = 0 := by omega
        rw [this, Nat.zero_testBit] at s2; cases s2
      have ih := Co_least hn hM f (S - m) (by omega) (by omega) nx' s6
      rw [← s7, enS_app hn hS s3 s1 s6, pcN_sub s1, ← pOK_len (F := F) (by omega) s3, Nat.mul_add]
      omega
end K85
