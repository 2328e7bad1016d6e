set_option maxRecDepth 4000
/-! ===== rows of signs: without a heap ===== -/
section K82
/-! bits -/
def sbm (m S : Nat) : Prop := ∀ x, m.testBit x = true → S.testBit x = true
theorem sbm_and {m S : Nat} : sbm m S ↔ m &&& S = m := by
  refine ⟨fun h => Nat.eq_of_testBit_eq (fun i => ?_), fun h x hx => ?_⟩
  · rw [Nat.testBit_and]
    cases q : m.testBit i with
    | true => rw [h i q]; rfl
    | false => rfl
  · rw [← h, Nat.testBit_and] at hx
    cases q : S.testBit x with
    | true => rfl
    | false => rw [q, Bool.and_false] at hx; cases hx
theorem sbm_half {m S : Nat} (h : sbm m S) : sbm (m / 2) (S / 2) ∧ m % 2 ≤ S % 2 := by
  refine ⟨fun x hx => ?_, ?_⟩
  · have := h (x + 1) (by rw [Nat.testBit_succ]; exact hx)
    rw [Nat.testBit_succ] at this; exact this
  · have := h 0
    rw [Nat.testBit_zero, Nat.testBit_zero] at this
    have a : m % 2 < 2 := Nat.mod_lt _ (by decide)
    by_cases q : m % 2 = 1
    · have := of_decide_eq_true (this (decide_eq_true q)); omega
    · omega
theorem sbm_le : ∀ (f : Nat) {m S : Nat}, S < f → sbm m S → m ≤ S
  | 0, m, S, h, _ => by omega
  | f + 1, m, S, h, s => by
    obtain ⟨a, b⟩ := sbm_half s
    by_cases q : S = 0
    · subst q
      have : m = 0 := Nat.eq_of_testBit_eq (fun i => by
        cases z : m.testBit i with
        | true => have := s i z; rw [Nat.zero_testBit] at this; cases this
        | false => rw [Nat.zero_testBit])
      omega
    · have := sbm_le f (m := m / 2) (S := S / 2) (by omega) a
      omega
theorem sub_bit : ∀ (x : Nat) {m S : Nat}, sbm m S → (S - m).testBit x = (S.testBit x && !m.testBit x)
  | 0, m, S, h => by
    have le := sbm_le (S + 1) (by omega) h
    obtain ⟨a, b⟩ := sbm_half h
    have le2 := sbm_le (S / 2 + 1) (by omega) a
    rw [Nat.testBit_zero, Nat.testBit_zero, Nat.testBit_zero]
    have e : (S - m) % 2 = S % 2 - m % 2 := by omega
    have h1 : S % 2 = 0 ∨ S % 2 = 1 := by omega
    have h2 : m % 2 = 0 ∨ m % 2 = 1 := by omega
    rw [e]
    rcases h1 with h1 | h1 <;> rcases h2 with h2 | h2 <;> rw [h1, h2] <;> first | rfl | omega
  | x + 1, m, S, h => by
    have le := sbm_le (S + 1) (by omega) h
    obtain ⟨a, b⟩ := sbm_half h
    have le2 := sbm_le (S / 2 + 1) (by omega) a
    rw [Nat.testBit_succ, Nat.testBit_succ, Nat.testBit_succ, ← sub_bit x a]
    have e : (S - m) / 2 = S / 2 - m / 2 := by omega
    rw [e]
theorem pow_sbm {S a : Nat} (h : S.testBit a = true) : sbm (2 ^ a) S := fun x hx => by
  rw [Nat.testBit_two_pow] at hx
  rw [← of_decide_eq_true hx]; exact h
theorem sub_pow {S a x : Nat} (h : S.testBit a = true) : (S - 2 ^ a).testBit x = (S.testBit x && !decide (a = x)) := by
  rw [sub_bit x (pow_sbm h), Nat.testBit_two_pow]
theorem pow_le {S a : Nat} (h : S.testBit a = true) : 2 ^ a ≤ S := sbm_le (S + 1) (by omega) (pow_sbm h)
theorem bit_lt {S a n : Nat} (hS : S < 2 ^ n) (h : S.testBit a = true) : a < n := Decidable.byContradiction fun z => by
  have := Nat.testBit_lt_two_pow (Nat.lt_of_lt_of_le hS (Nat.pow_le_pow_right (by decide) (show n ≤ a by omega)))
  rw [this] at h; cases h
theorem bit_ne {S : Nat} (h : S ≠ 0) : ∃ a, S.testBit a = true := Classical.byContradiction fun z => h (Nat.eq_of_testBit_eq (fun i => by
  rw [Nat.zero_testBit]
  cases q : S.testBit i with
  | false => rfl
  | true => exact absurd ⟨i, q⟩ z))
/-! following -/
def itN (nx : Nat → Nat) : Nat → Nat → Nat
  | 0, x => x
  | k + 1, x => itN nx k (nx x)
theorem itN_s {nx : Nat → Nat} : ∀ (k x : Nat), itN nx (k + 1) x = nx (itN nx k x)
  | 0, _ => rfl
  | k + 1, x => itN_s k (nx x)
theorem itN_add {nx : Nat → Nat} : ∀ (k j x : Nat), itN nx (j + k) x = itN nx j (itN nx k x)
  | 0, _, _ => rfl
  | k + 1, j, x => itN_add k j (nx x)
theorem itN_10 {nx : Nat → Nat} (h : nx 10 = 10) : ∀ k, itN nx k 10 = 10
  | 0 => rfl
  | k + 1 => by
    show itN nx k (nx 10) = 10
    rw [h]; exact itN_10 h k
theorem itN_ab {nx : Nat → Nat} (h : nx 10 = 10) {k m x : Nat} (hk : itN nx k x = 10) (hm : k ≤ m) : itN nx m x = 10 := by
  rw [show m = (m - k) + k by omega, itN_add, hk]; exact itN_10 h _
def Co (F : Nat → Nat → Bool) (Q : Nat → Bool) (M S : Nat) (nx : Nat → Nat) : Prop :=
  (∀ a, S.testBit a = false → nx a = 10) ∧ (∀ a, S.testBit a = true → (nx a = 10 ∧ Q a = false) ∨ (S.testBit (nx a) = true ∧ F a (nx a) = true)) ∧ (∀ a c, nx a = nx c → nx a ≠ 10 → a = c) ∧ ∀ a, itN nx M a = 10

/-! rows -/
def pOK (F : Nat → Nat → Bool) : Nat → List Nat → Prop
  | _, [] => False
  | S, [a] => S = 2 ^ a
  | S, a :: c :: r => S.testBit a = true ∧ F c a = true ∧ pOK F (S - 2 ^ a) (c :: r)
def HP (F : Nat → Nat → Bool) (n : Nat) : Nat → Nat → Nat → List (List Nat)
  | 0, _, _ => []
  | f + 1, S, a => if S = 2 ^ a then [[a]] else if S.testBit a = true then (List.range n).flatMap (fun c => if (S - 2 ^ a).testBit c = true ∧ F c a = true then (HP F n f (S - 2 ^ a) c).map (fun p => a :: p) else []) else []
theorem pOK_hd {F : Nat → Nat → Bool} : ∀ {S : Nat} {p : List Nat}, pOK F S p → ∃ a r, p = a :: r ∧ S.testBit a = true
  | _, [], h => h.elim
  | S, [a], h => ⟨a, [], rfl, by rw [show S = 2 ^ a from h, Nat.testBit_two_pow]; exact decide_eq_true rfl⟩
  | S, a :: c :: r, h => ⟨a, c :: r, rfl, h.1⟩
theorem mem_HP {F : Nat → Nat → Bool} {n : Nat} : ∀ {f S a : Nat}, S < f → S < 2 ^ n → ∀ {p : List Nat}, p ∈ HP F n f S a ↔ (∃ r, p = a :: r) ∧ pOK F S p
  | 0, S, a, h, _, p => by omega
  | f + 1, S, a, h, hn, p => by
    show p ∈ (if S = 2 ^ a then [[a]] else if S.testBit a = true then _ else []) ↔ _
    by_cases q : S = 2 ^ a
    · rw [if_pos q, List.mem_singleton]
      refine ⟨fun e => by subst e; exact ⟨⟨[], rfl⟩, q⟩, fun ⟨⟨r, e⟩, g⟩ => ?_⟩
      subst e
      match r, g with
      | [], _ => rfl
      | c :: r, g =>
        obtain ⟨_, _, g3⟩ := g
        rw [q, Nat.sub_self] at g3
        obtain ⟨a', r', e1, e2⟩ := pOK_hd g3
        rw [Nat.zero_testBit] at e2; cases e2
    · rw [if_neg q]
      by_cases q2 : S.testBit a = true
      · rw [if_pos q2, List.mem_flatMap]
        have le := pow_le q2
        have pp : 0 < 2 ^ a := Nat.pow_pos (by decide)
        refine ⟨fun ⟨c, hc, hm⟩ => ?_, fun ⟨⟨r, e⟩, g⟩ => ?_⟩
        · split at hm
          · rename_i w
            rw [List.mem_map] at hm
            obtain ⟨p', h1, h2⟩ := hm
            obtain ⟨⟨r, e⟩, g⟩ := (mem_HP (f := f) (by omega) (by omega)).mp h1
            subst e
            subst h2
            exact ⟨⟨_, rfl⟩, q2, w.2, g⟩
          · exact absurd hm (List.not_mem_nil)
        · subst e
          match r, g with
          | [], g => exact absurd g q
          | c :: r, g =>
            obtain ⟨g1, g2, g3⟩ := g
            obtain ⟨a', r', e1, e2⟩ := pOK_hd g3
            have ec : c = a' := (List.cons.inj e1).1
            subst ec
            refine ⟨c, List.mem_range.mpr (bit_lt (by omega) e2), ?_⟩
            rw [if_pos ⟨e2, g2⟩, List.mem_map]
            exact ⟨c :: r, (mem_HP (f := f) (by omega) (by omega)).mpr ⟨⟨r, rfl⟩, g3⟩, rfl⟩
      · rw [if_neg q2]
        refine ⟨fun z => absurd z List.not_mem_nil, fun ⟨⟨r, e⟩, g⟩ => ?_⟩
        obtain ⟨a', r', e1, e2⟩ := pOK_hd g
        subst e
        have ec : a = a' := (List.cons.inj e1).1
        subst ec
        exact absurd e2 q2
theorem nd_HP {F : Nat → Nat → Bool} {n : Nat} : ∀ {f S a : Nat}, S < f → S < 2 ^ n → (HP F n f S a).Nodup
  | 0, S, a, h, _ => by omega
  | f + 1, S, a, h, hn => by
    show (if S = 2 ^ a then [[a]] else if S.testBit a = true then _ else []).Nodup
    by_cases q : S = 2 ^ a
    · rw [if_pos q]; exact List.pairwise_singleton _ _
    · rw [if_neg q]
      by_cases q2 : S.testBit a = true
      · rw [if_pos q2]
        have le := pow_le q2
        have pp : 0 < 2 ^ a := Nat.pow_pos (by decide)
        unfold List.Nodup
        rw [List.pairwise_flatMap]
        refine ⟨fun c _ => ?_, List.Pairwise.imp ?_ (List.nodup_range (n := n))⟩
        · split
          · rw [List.pairwise_map]
            exact List.Pairwise.imp (fun {x y} hxy e => hxy (List.cons.inj e).2) (nd_HP (f := f) (a := c) (by omega) (by omega))
          · exact List.Pairwise.nil
        · intro c1 c2 hne x hx y hy e
          subst e
          split at hx
          · split at hy
            · rw [List.mem_map] at hx hy
              obtain ⟨p1, u1, u2⟩ := hx
              obtain ⟨p2, w1, w2⟩ := hy
              obtain ⟨⟨r1, e1⟩, _⟩ := (mem_HP (f := f) (by omega) (by omega)).mp u1
              obtain ⟨⟨r2, e2⟩, _⟩ := (mem_HP (f := f) (by omega) (by omega)).mp w1
              rw [← w2, e1, e2] at u2
              exact hne (List.cons.inj (List.cons.inj u2).2).1
            · exact absurd hy List.not_mem_nil
          · exact absurd hx List.not_mem_nil
      · rw [if_neg q2]; exact List.Pairwise.nil
theorem HP_fu {F : Nat → Nat → Bool} {n : Nat} : ∀ {f g S a : Nat}, S < f → S < g → HP F n f S a = HP F n g S a
  | 0, g, S, a, h, _ => by omega
  | f + 1, 0, S, a, _, h => by omega
  | f + 1, g + 1, S, a, h1, h2 => by
    show (if S = 2 ^ a then [[a]] else if S.testBit a = true then _ else []) = (if S = 2 ^ a then [[a]] else if S.testBit a = true then _ else [])
    by_cases q : S = 2 ^ a
    · rw [if_pos q, if_pos q]
    · rw [if_neg q, if_neg q]
      by_cases q2 : S.testBit a = true
      · rw [if_pos q2, if_pos q2]
        have le := pow_le q2
        have pp : 0 < 2 ^ a := Nat.pow_pos (by decide)
        have e : (fun c => if (S - 2 ^ a).testBit c = true ∧ F c a = true then (HP F n f (S - 2 ^ a) c).map (fun p => a :: p) else []) = (fun c => if (S - 2 ^ a).testBit c = true ∧ F c a = true then (HP F n g (S - 2 ^ a) c).map (fun p => a :: p) else []) := funext fun c => by
          rw [HP_fu (f := f) (g := g) (S := S - 2 ^ a) (a := c) (by omega) (by omega)]
        rw [e]
      · rw [if_neg q2, if_neg q2]
theorem pOK_mem {F : Nat → Nat → Bool} : ∀ {S : Nat} {p : List Nat}, pOK F S p → ∀ x, x ∈ p ↔ S.testBit x = true
  | _, [], h, _ => h.elim
  | S, [a], h, x => by
    rw [show S = 2 ^ a from h, Nat.testBit_two_pow, List.mem_singleton]
    exact ⟨fun e => decide_eq_true e.symm, fun e => (of_decide_eq_true e).symm⟩
  | S, a :: c :: r, h, x => by
    obtain ⟨h1, h2, h3⟩ := h
    rw [List.mem_cons, pOK_mem h3 x, sub_pow h1]
    by_cases z : x = a
    · subst z; exact ⟨fun _ => h1, fun _ => Or.inl rfl⟩
    · rw [decide_eq_false (fun y => z y.symm)]
      cases S.testBit x with
      | true => exact ⟨fun _ => rfl, fun _ => Or.inr rfl⟩
      | false => exact ⟨fun y => y.elim (fun w => absurd w z) (fun w => w), fun y => Or.inr y⟩
theorem pOK_nd {F : Nat → Nat → Bool} : ∀ {S : Nat} {p : List Nat}, pOK F S p → p.Nodup
  | _, [], h => h.elim
  | S, [a], h => List.pairwise_singleton _ _
  | S, a :: c :: r, h => by
    obtain ⟨h1, h2, h3⟩ := h
    refine List.nodup_cons.mpr ⟨fun z => ?_, pOK_nd h3⟩
    have := (pOK_mem h3 a).mp z
    rw [sub_pow h1, decide_eq_true rfl, h1] at this
    cases this
end K82
