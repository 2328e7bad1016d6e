set_option maxRecDepth 4000
/-! ===== rows of signs: one list of all ===== -/
section K84
/-- what comes next in a row -/
theorem nxt_ix {F : Nat → Nat → Bool} {Q : Nat → Bool} {M m S : Nat} {p : List Nat} {nx : Nat → Nat} (hS : S < 2 ^ 10) (g : pOK F m p) (s : sbm m S) (c : Co F Q M (S - m) nx) {k x : Nat} (h : p[k]? = some (app p nx x)) : p[k + 1]? = some x := by
  have pm : ∀ {k x : Nat}, p[k]? = some x → m.testBit x = true := fun {k x} h => (pOK_mem g x).mp (List.mem_of_getElem? h)
  have v := pm h
  have n10 : app p nx x ≠ 10 := fun e => by
    rw [e] at v
    have := bit_lt hS (s 10 v)
    omega
  rcases tri g s c x with ⟨t1, t2⟩ | ⟨t1, t2⟩ | ⟨j, t1, t2⟩
  · rw [t2] at v n10
    cases q : (S - m).testBit x with
    | false => exact absurd (c.1 x q) n10
    | true =>
      have := (c.2.1 x q).elim (fun z => absurd z.1 n10) (fun z => z.1)
      rw [sub_bit _ s, v] at this
      simp at this
  · exact absurd t2 n10
  · have := nd_ix (pOK_nd g) h t2
    subst this; exact t1
theorem uniq_Co {F : Nat → Nat → Bool} {Q : Nat → Bool} {M m1 m2 S : Nat} {p q : List Nat} {n1 n2 : Nat → Nat} (hS : S < 2 ^ 10) (g1 : pOK F m1 p) (s1 : sbm m1 S) (c1 : Co F Q M (S - m1) n1) (g2 : pOK F m2 q) (s2 : sbm m2 S) (c2 : Co F Q M (S - m2) n2) {lw : Nat} (l1 : m1.testBit lw = true) (l2 : m2.testBit lw = true) (e : app p n1 = app q n2) : p = q ∧ m1 = m2 ∧ n1 = n2 := by
  obtain ⟨a, r, ep, ha⟩ := pOK_hd g1
  obtain ⟨b, t, eq, hb⟩ := pOK_hd g2
  have p0 : p[0]? = some a := by rw [ep]; rfl
  have q0 : q[0]? = some b := by rw [eq]; rfl
  have a10 : a ≠ 10 := fun z => by rw [z] at ha; have := bit_lt hS (s1 10 ha); omega
  have b10 : b ≠ 10 := fun z => by rw [z] at hb; have := bit_lt hS (s2 10 hb); omega
  obtain ⟨i, hi⟩ := List.getElem?_of_mem ((pOK_mem g1 lw).mpr l1)
  obtain ⟨j, hj⟩ := List.getElem?_of_mem ((pOK_mem g2 lw).mpr l2)
  have ia := app_it (nx := n1) g1 p0 hi
  have jb := app_it (nx := n2) g2 q0 hj
  have na : app p n1 a = 10 := by
    rw [ep, app_hd (by rw [← ep]; exact pOK_nd g1)]
    exact c1.1 a (by rw [sub_bit a s1, ha]; simp)
  have nb : app q n2 b = 10 := by
    rw [eq, app_hd (by rw [← eq]; exact pOK_nd g2)]
    exact c2.1 b (by rw [sub_bit b s2, hb]; simp)
  have f10 : app p n1 10 = 10 := by
    have m10 : m1.testBit 10 = false := by
      cases z : m1.testBit 10 with
      | false => rfl
      | true => have := bit_lt hS (s1 10 z); omega
    rw [app_out (fun z => by rw [(pOK_mem g1 10).mp z] at m10; cases m10)]
    exact Co_10 (Nat.lt_of_le_of_lt (Nat.sub_le _ _) hS) c1
  have ij : i = j := by
    rcases Nat.lt_trichotomy i j with z | z | z
    · have : itN (app p n1) (i + 1) lw = 10 := by rw [itN_s, ia]; exact na
      have := itN_ab f10 this (show i + 1 ≤ j by omega)
      rw [e, jb] at this; exact absurd this b10
    · exact z
    · have : itN (app p n1) (j + 1) lw = 10 := by rw [e, itN_s, jb]; exact nb
      have := itN_ab f10 this (show j + 1 ≤ i by omega)
      rw [ia] at this; exact absurd this a10
  have ab : a = b := by rw [← ia, e, ij]; exact jb
  have all : ∀ k : Nat, p[k]? = q[k]? := by
    intro k
    induction k with
    | zero => rw [p0, q0, ab]
    | succ k ih =>
      cases h1 : p[k + 1]? with
      | some x =>
        have := app_at (nx := n1) (pOK_nd g1) h1
        rw [ih, e] at this
        exact (nxt_ix hS g2 s2 c2 this).symm
      | none =>
        cases h2 : q[k + 1]? with
        | none => rfl
        | some x =>
          have := app_at (nx := n2) (pOK_nd g2) h2
          rw [← ih, ← e] at this
          rw [nxt_ix hS g1 s1 c1 this] at h1; cases h1
  have epq : p = q := List.ext_getElem? all
  have em : m1 = m2 := Nat.eq_of_testBit_eq (fun x => by
    have h1 := pOK_mem g1 x
    have h2 := pOK_mem g2 x
    rw [epq] at h1
    have h3 := h1.symm.trans h2
    cases z1 : m1.testBit x with
    | true => exact (h3.mp z1).symm
    | false =>
      cases z2 : m2.testBit x with
      | false => rfl
      | true => rw [h3.mpr z2] at z1; cases z1)
  refine ⟨epq, em, funext fun x => ?_⟩
  cases z : m1.testBit x with
  | false =>
    have z2 : m2.testBit x = false := by rw [← em]; exact z
    have h := congrFun e x
    rw [app_out (fun w => by rw [(pOK_mem g1 x).mp w] at z; cases z), app_out (fun w => by rw [(pOK_mem g2 x).mp w] at z2; cases z2)] at h
    exact h
  | true =>
    have z2 : m2.testBit x = true := by rw [← em]; exact z
    rw [c1.1 x (by rw [sub_bit x s1, z]; simp), c2.1 x (by rw [sub_bit x s2, z2]; simp)]
/-- the sets that may be a row's, from the greatest down -/
def dnL : Nat → List Nat
  | 0 => []
  | k + 1 => (k + 1) :: dnL k
theorem dnL_mem : ∀ {k x : Nat}, x ∈ dnL k ↔ 1 ≤ x ∧ x ≤ k
  | 0, x => ⟨fun h => absurd h List.not_mem_nil, fun h => by omega⟩
  | k + 1, x => by
    show x ∈ (k + 1) :: dnL k ↔ _
    rw [List.mem_cons, dnL_mem (k := k)]; omega
theorem dnL_nd : ∀ k, (dnL k).Nodup
  | 0 => List.Pairwise.nil
  | k + 1 => List.nodup_cons.mpr ⟨fun h => by have := dnL_mem.mp h; omega, dnL_nd k⟩
/-- the lowest bit -/
def lwB (S : Nat) : Nat := ((List.range 10).find? (fun x => S.testBit x)).getD 10
theorem lwB_bit {S : Nat} (hS : S < 2 ^ 10) (h : S ≠ 0) : S.testBit (lwB S) = true := by
  obtain ⟨a, ha⟩ := bit_ne h
  unfold lwB
  cases q : (List.range 10).find? (fun x => S.testBit x) with
  | none => exact absurd ha (List.find?_eq_none.mp q a (List.mem_range.mpr (bit_lt hS ha)))
  | some x => exact List.find?_some q
def rwsL (F : Nat → Nat → Bool) (Q : Nat → Bool) (M n m : Nat) : List (List Nat) := ((List.range n).flatMap (fun a => if Q a = true then [] else HP F n (m + 1) m a)).filter (fun p => decide (p.length ≤ M))
def E2 (F : Nat → Nat → Bool) (Q : Nat → Bool) (M n : Nat) : Nat → Nat → List (Nat → Nat)
  | 0, _ => [fun _ => 10]
  | f + 1, S => if S = 0 then [fun _ => 10] else (dnL S).flatMap (fun m => if m &&& S = m ∧ m.testBit (lwB S) = true then (rwsL F Q M n m).flatMap (fun p => (E2 F Q M n f (S - m)).map (app p)) else [])
theorem rwsL_mem {F : Nat → Nat → Bool} {Q : Nat → Bool} {M n m : Nat} (hm : m < 2 ^ n) {p : List Nat} : p ∈ rwsL F Q M n m ↔ pOK F m p ∧ p.length ≤ M ∧ ∀ a, p[0]? = some a → Q a = false := by
  unfold rwsL
  rw [List.mem_filter, List.mem_flatMap]
  refine ⟨fun ⟨⟨a, h1, h2⟩, h3⟩ => ?_, fun ⟨h1, h2, h3⟩ => ⟨?_, decide_eq_true h2⟩⟩
  · split at h2
    · exact absurd h2 List.not_mem_nil
    · rename_i w
      obtain ⟨⟨r, e⟩, g⟩ := (mem_HP (by omega) hm).mp h2
      refine ⟨g, of_decide_eq_true h3, fun a' ha => ?_⟩
      subst e
      have : a = a' := Option.some.inj ha
      subst this
      cases q : Q a with
      | false => rfl
      | true => exact absurd q w
  · obtain ⟨a, r, e, ha⟩ := pOK_hd h1
    refine ⟨a, List.mem_range.mpr (bit_lt hm ha), ?_⟩
    rw [if_neg (by rw [h3 a (by rw [e]; rfl)]; exact Bool.false_ne_true)]
    exact (mem_HP (by omega) hm).mpr ⟨⟨r, e⟩, h1⟩
theorem rwsL_nd {F : Nat → Nat → Bool} {Q : Nat → Bool} {M n m : Nat} (hm : m < 2 ^ n) : (rwsL F Q M n m).Nodup := by
  refine List.Nodup.sublist List.filter_sublist ?_
  unfold List.Nodup
  rw [List.pairwise_flatMap]
  refine ⟨fun a _ => ?_, List.Pairwise.imp ?_ (List.nodup_range (n := n))⟩
  · split
    · exact List.Pairwise.nil
    · exact nd_HP (by omega) hm
  · intro a b hne x hx y hy e
    subst e
    split at hx
    · exact absurd hx List.not_mem_nil
    · split at hy
      · exact absurd hy List.not_mem_nil
      · obtain ⟨⟨r1, e1⟩, _⟩ := (mem_HP (by omega) hm).mp hx
        obtain ⟨⟨r2, e2⟩, _⟩ := (mem_HP (by omega) hm).mp hy
        rw [e1] at e2
        exact hne (List.cons.inj e2).1
theorem Co_0 {F : Nat → Nat → Bool} {Q : Nat → Bool} {M : Nat} (hM : 1 ≤ M) {nx : Nat → Nat} : Co F Q M 0 nx ↔ nx = fun _ => 10 := by
  refine ⟨fun c => funext fun a => c.1 a (Nat.zero_testBit a), fun e => ?_⟩
  subst e
  refine ⟨fun _ _ => rfl, fun a ha => (by rw [Nat.zero_testBit] at ha; cases ha), fun _ _ _ h => absurd rfl h, fun a => ?_⟩
  rw [show M = (M - 1) + 1 by omega, itN_s]
theorem E2_mem {F : Nat → Nat → Bool} {Q : Nat → Bool} {M n : Nat} (hn : n ≤ 10) (hM : 1 ≤ M) : ∀ f S, S ≤ f → S < 2 ^ n → ∀ nx, nx ∈ E2 F Q M n f S ↔ Co F Q M S nx
  | 0, S, h, _, nx => by
    have : S = 0 := by omega
    subst this
    show nx ∈ [fun _ => 10] ↔ _
    rw [List.mem_singleton, Co_0 hM]
  | f + 1, S, h, hS, nx => by
    have p10 : S < 2 ^ 10 := Nat.lt_of_lt_of_le hS (Nat.pow_le_pow_right (by decide) hn)
    show nx ∈ (if S = 0 then [fun _ => 10] else _) ↔ _
    by_cases q : S = 0
    · subst q
      rw [if_pos rfl, List.mem_singleton, Co_0 hM]
    · rw [if_neg q, List.mem_flatMap]
      refine ⟨fun ⟨m, h1, h2⟩ => ?_, fun c => ?_⟩
      · split at h2
        · rename_i w
          obtain ⟨d1, d2⟩ := dnL_mem.mp h1
          obtain ⟨p, h3, h4⟩ := List.mem_flatMap.mp h2
          obtain ⟨nx', h5, h6⟩ := List.mem_map.mp h4
          obtain ⟨r1, r2, r3⟩ := (rwsL_mem (by omega)).mp h3
          have c' := (E2_mem hn hM f (S - m) (by omega) (by omega) nx').mp h5
          rw [← h6]
          exact app_Co p10 r1 (sbm_and.mpr w.1) c' r2 r3
        · exact absurd h2 List.not_mem_nil
      · obtain ⟨m, p, nx', s1, s2, s3, s4, s5, s6, s7⟩ := split_Co p10 hM c (lwB_bit p10 q)
        have le := sbm_le (S + 1) (by omega) s1
        have m1 : 1 ≤ m := Classical.byContradiction fun z => by
          have : m = 0 := by omega
          rw [this, Nat.zero_testBit] at s2; cases s2
        refine ⟨m, dnL_mem.mpr ⟨m1, le⟩, ?_⟩
        rw [if_pos ⟨sbm_and.mp s1, s2⟩, List.mem_flatMap]
        refine ⟨p, (rwsL_mem (by omega)).mpr ⟨s3, s4, s5⟩, List.mem_map.mpr ⟨nx', (E2_mem hn hM f (S - m) (by omega) (by omega) nx').mpr s6, s7⟩⟩
theorem E2_nd {F : Nat → Nat → Bool} {Q : Nat → Bool} {M n : Nat} (hn : n ≤ 10) (hM : 1 ≤ M) : ∀ f S, S ≤ f → S < 2 ^ n → (E2 F Q M n f S).Nodup
  | 0, S, h, _ => List.pairwise_singleton _ _
  | f + 1, S, h, hS => by
    have p10 : S < 2 ^ 10 := Nat.lt_of_lt_of_le hS (Nat.pow_le_pow_right (by decide) hn)
    show (if S = 0 then [fun _ => 10] else _).Nodup
    by_cases q : S = 0
    · rw [if_pos q]; exact List.pairwise_singleton _ _
    · rw [if_neg q]
      have un : ∀ m1 p n1 m2 q n2, 1 ≤ m1 → m1 ≤ S → 1 ≤ m2 → m2 ≤ S → (m1 &&& S = m1 ∧ m1.testBit (lwB S) = true) → (m2 &&& S = m2 ∧ m2.testBit (lwB S) = true) → p ∈ rwsL F Q M n m1 → q ∈ rwsL F Q M n m2 → n1 ∈ E2 F Q M n f (S - m1) → n2 ∈ E2 F Q M n f (S - m2) → app p n1 = app q n2 → p = q ∧ m1 = m2 ∧ n1 = n2 := fun m1 p n1 m2 q n2 a1 a2 b1 b2 w1 w2 hp hq h1 h2 e =>
        uniq_Co p10 ((rwsL_mem (by omega)).mp hp).1 (sbm_and.mpr w1.1) ((E2_mem hn hM f (S - m1) (by omega) (by omega) n1).mp h1) ((rwsL_mem (by omega)).mp hq).1 (sbm_and.mpr w2.1) ((E2_mem hn hM f (S - m2) (by omega) (by omega) n2).mp h2) w1.2 w2.2 e
      unfold List.Nodup
      rw [List.pairwise_flatMap]
      refine ⟨fun m hm => ?_, List.Pairwise.imp_of_mem ?_ (dnL_nd S)⟩
      · obtain ⟨d1, d2⟩ := dnL_mem.mp hm
        split
        · rename_i w
          rw [List.pairwise_flatMap]
          refine ⟨fun p hp => ?_, List.Pairwise.imp_of_mem ?_ (rwsL_nd (n := n) (m := m) (by omega))⟩
          · rw [List.pairwise_map]
            exact List.Pairwise.imp_of_mem (fun {x y} hx hy hne e => hne (un m p x m p y d1 d2 d1 d2 w w hp hp hx hy e).2.2) (E2_nd hn hM f (S - m) (by omega) (by omega))
          · intro p1 p2 hp1 hp2 hne x hx y hy e
            obtain ⟨n1, h1, e1⟩ := List.mem_map.mp hx
            obtain ⟨n2, h2, e2⟩ := List.mem_map.mp hy
            exact hne (un m p1 n1 m p2 n2 d1 d2 d1 d2 w w hp1 hp2 h1 h2 (e1.trans (e.trans e2.symm))).1
        · exact List.Pairwise.nil
      · intro m1 m2 hm1 hm2 hne x hx y hy e
        obtain ⟨a1, a2⟩ := dnL_mem.mp hm1
        obtain ⟨b1, b2⟩ := dnL_mem.mp hm2
        split at hx
        · rename_i w1
          split at hy
          · rename_i w2
            obtain ⟨p1, hp1, hx⟩ := List.mem_flatMap.mp hx
            obtain ⟨p2, hp2, hy⟩ := List.mem_flatMap.mp hy
            obtain ⟨n1, h1, e1⟩ := List.mem_map.mp hx
            obtain ⟨n2, h2, e2⟩ := List.mem_map.mp hy
            exact hne (un m1 p1 n1 m2 p2 n2 a1 a2 b1 b2 w1 w2 hp1 hp2 h1 h2 (e1.trans (e.trans e2.symm))).2.1
          · exact absurd hy List.not_mem_nil
        · exact absurd hx List.not_mem_nil
end K84
