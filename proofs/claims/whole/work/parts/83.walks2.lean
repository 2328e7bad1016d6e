set_option maxRecDepth 4000
/-! ===== rows of signs: taken apart ===== -/
section K83
def app : List Nat → (Nat → Nat) → Nat → Nat
  | [], nx => nx
  | [_], nx => nx
  | a :: c :: r, nx => fun x => if x = c then a else app (c :: r) nx x
theorem app_out {nx : Nat → Nat} : ∀ {p : List Nat} {x : Nat}, ¬ x ∈ p → app p nx x = nx x
  | [], _, _ => rfl
  | [_], _, _ => rfl
  | a :: c :: r, x, h => by
    have h1 : ¬ x = c := fun e => h (by rw [e]; exact List.mem_cons_of_mem _ (List.mem_cons_self ..))
    show (if x = c then a else app (c :: r) nx x) = nx x
    rw [if_neg h1]; exact app_out (fun z => h (List.mem_cons_of_mem _ z))
theorem app_hd {nx : Nat → Nat} : ∀ {a : Nat} {r : List Nat}, (a :: r).Nodup → app (a :: r) nx a = nx a
  | _, [], _ => rfl
  | a, c :: r, h => by
    have h1 := (List.nodup_cons.mp h).1
    show (if a = c then a else app (c :: r) nx a) = nx a
    rw [if_neg (fun e => h1 (by rw [e]; exact List.mem_cons_self ..))]
    exact app_out h1
theorem app_at {nx : Nat → Nat} : ∀ {p : List Nat}, p.Nodup → ∀ {k x : Nat}, p[k + 1]? = some x → p[k]? = some (app p nx x)
  | [], _, k, x, h => by cases h
  | [_], _, k, x, h => by cases h
  | a :: c :: r, nd, 0, x, h => by
    have e : x = c := (Option.some.inj h).symm
    show some a = some (if x = c then a else app (c :: r) nx x)
    rw [if_pos e]
  | a :: c :: r, nd, k + 1, x, h => by
    have n2 := (List.nodup_cons.mp nd).2
    have h' : (c :: r)[k + 1]? = some x := h
    have ne : ¬ x = c := fun e => by
      have : x ∈ r := List.mem_of_getElem? (show r[k]? = some x from h')
      exact (List.nodup_cons.mp n2).1 (by rw [← e]; exact this)
    show (c :: r)[k]? = some (if x = c then a else app (c :: r) nx x)
    rw [if_neg ne]; exact app_at n2 h'
theorem pOK_F {F : Nat → Nat → Bool} : ∀ {S : Nat} {p : List Nat}, pOK F S p → ∀ {k x y : Nat}, p[k + 1]? = some x → p[k]? = some y → F x y = true
  | _, [], h, _, _, _, _, _ => h.elim
  | _, [_], _, k, x, y, h, _ => by cases h
  | S, a :: c :: r, g, 0, x, y, h, h2 => by
    have e : x = c := (Option.some.inj h).symm
    have e2 : y = a := (Option.some.inj h2).symm
    rw [e, e2]; exact g.2.1
  | S, a :: c :: r, g, k + 1, x, y, h, h2 => pOK_F g.2.2 (k := k) h h2
theorem nd_ix {p : List Nat} (nd : p.Nodup) {i j x : Nat} (h1 : p[i]? = some x) (h2 : p[j]? = some x) : i = j := by
  obtain ⟨a1, b1⟩ := List.getElem?_eq_some_iff.mp h1
  obtain ⟨a2, b2⟩ := List.getElem?_eq_some_iff.mp h2
  have hp := List.pairwise_iff_getElem.mp nd
  rcases Nat.lt_trichotomy i j with z | z | z
  · exact absurd (b1.trans b2.symm) (hp i j a1 a2 z)
  · exact z
  · exact absurd (b2.trans b1.symm) (hp j i a2 a1 z)
/-- what one step is, of a row and the rest -/
theorem tri {F : Nat → Nat → Bool} {Q : Nat → Bool} {M m S : Nat} {p : List Nat} {nx : Nat → Nat} (g : pOK F m p) (s : sbm m S) (c : Co F Q M (S - m) nx) (x : Nat) :
    (m.testBit x = false ∧ app p nx x = nx x) ∨ (p[0]? = some x ∧ app p nx x = 10) ∨ (∃ k, p[k + 1]? = some x ∧ p[k]? = some (app p nx x)) := by
  cases q : m.testBit x with
  | false => exact Or.inl ⟨rfl, app_out (fun z => by rw [(pOK_mem g x).mp z] at q; cases q)⟩
  | true =>
    obtain ⟨i, hi⟩ := List.getElem?_of_mem ((pOK_mem g x).mpr q)
    match i, hi with
    | 0, hi =>
      refine Or.inr (Or.inl ⟨hi, ?_⟩)
      obtain ⟨a, r, e, _⟩ := pOK_hd g
      subst e
      have ex : a = x := Option.some.inj hi
      subst ex
      rw [app_hd (pOK_nd g)]
      exact c.1 a (by rw [sub_bit a s, q]; simp)
    | i + 1, hi => exact Or.inr (Or.inr ⟨i, hi, app_at (pOK_nd g) hi⟩)
theorem app_it {F : Nat → Nat → Bool} {m : Nat} {p : List Nat} {nx : Nat → Nat} (g : pOK F m p) : ∀ {k x a : Nat}, p[0]? = some a → p[k]? = some x → itN (app p nx) k x = a
  | 0, x, a, h0, hk => Option.some.inj (hk.symm.trans h0)
  | k + 1, x, a, h0, hk => by
    show itN (app p nx) k (app p nx x) = a
    exact app_it g h0 (app_at (pOK_nd g) hk)
theorem Co_10 {F : Nat → Nat → Bool} {Q : Nat → Bool} {M S : Nat} {nx : Nat → Nat} (hS : S < 2 ^ 10) (c : Co F Q M S nx) : nx 10 = 10 := c.1 10 (Nat.testBit_lt_two_pow hS)
theorem app_Co {F : Nat → Nat → Bool} {Q : Nat → Bool} {M m S : Nat} {p : List Nat} {nx : Nat → Nat} (hS : S < 2 ^ 10) (g : pOK F m p) (s : sbm m S) (c : Co F Q M (S - m) nx) (hl : p.length ≤ M) (hq : ∀ a, p[0]? = some a → Q a = false) : Co F Q M S (app p nx) := by
  have nd := pOK_nd g
  have t := fun x => tri g s c x
  have pm : ∀ {k x : Nat}, p[k]? = some x → m.testBit x = true := fun {k x} h => (pOK_mem g x).mp (List.mem_of_getElem? h)
  have m10 : m.testBit 10 = false := Nat.testBit_lt_two_pow (Nat.lt_of_le_of_lt (sbm_le (S + 1) (by omega) s) hS)
  have n10 := Co_10 (Nat.lt_of_le_of_lt (Nat.sub_le S m) hS) c
  have a10 : app p nx 10 = 10 := by
    rw [app_out (fun z => by rw [(pOK_mem g 10).mp z] at m10; cases m10)]; exact n10
  -- a value of the rest doesn't lie in the row
  have nv : ∀ x, m.testBit x = false → nx x ≠ 10 → (S - m).testBit (nx x) = true := fun x hx hn => by
    cases q : (S - m).testBit x with
    | false => exact absurd (c.1 x q) hn
    | true => exact (c.2.1 x q).elim (fun z => absurd z.1 hn) (fun z => z.1)
  have nm : ∀ x, m.testBit x = false → nx x ≠ 10 → m.testBit (nx x) = false := fun x hx hn => by
    have := nv x hx hn
    rw [sub_bit _ s] at this
    cases q : m.testBit (nx x) with
    | false => rfl
    | true => rw [q] at this; simp at this
  refine ⟨fun a ha => ?_, fun a ha => ?_, fun x y e hn => ?_, fun a => ?_⟩
  · have q : m.testBit a = false := by
      cases q : m.testBit a with
      | false => rfl
      | true => rw [s a q] at ha; cases ha
    rw [app_out (fun z => by rw [(pOK_mem g a).mp z] at q; cases q)]
    exact c.1 a (by rw [sub_bit a s, ha]; rfl)
  · rcases t a with ⟨t1, t2⟩ | ⟨t1, t2⟩ | ⟨k, t1, t2⟩
    · rw [t2]
      have := c.2.1 a (by rw [sub_bit a s, ha, t1]; rfl)
      refine this.imp id (fun z => ⟨?_, z.2⟩)
      have z1 := z.1
      rw [sub_bit _ s] at z1
      cases q : S.testBit (nx a) with
      | true => rfl
      | false => rw [q] at z1; cases z1
    · exact Or.inl ⟨t2, hq a t1⟩
    · exact Or.inr ⟨s _ (pm t2), pOK_F g t1 t2⟩
  · rcases t x with ⟨t1, t2⟩ | ⟨t1, t2⟩ | ⟨k, t1, t2⟩
    · rcases t y with ⟨u1, u2⟩ | ⟨u1, u2⟩ | ⟨j, u1, u2⟩
      · rw [t2] at e hn; rw [u2] at e; exact c.2.2.1 x y e hn
      · rw [u2] at e; exact absurd e hn
      · rw [← e, t2] at u2
        rw [t2] at hn
        have := pm u2
        rw [nm x t1 hn] at this; cases this
    · exact absurd t2 hn
    · rcases t y with ⟨u1, u2⟩ | ⟨u1, u2⟩ | ⟨j, u1, u2⟩
      · rw [e, u2] at t2
        rw [e, u2] at hn
        have := pm t2
        rw [nm y u1 hn] at this; cases this
      · rw [u2] at e; exact absurd e hn
      · rw [e] at t2
        have := nd_ix nd t2 u2
        subst this
        exact Option.some.inj (t1.symm.trans u1)
  · cases q : m.testBit a with
    | true =>
      obtain ⟨i, hi⟩ := List.getElem?_of_mem ((pOK_mem g a).mpr q)
      obtain ⟨b, r, e, _⟩ := pOK_hd g
      have h0 : p[0]? = some b := by rw [e]; rfl
      have := app_it (nx := nx) g h0 hi
      have li := (List.getElem?_eq_some_iff.mp hi).1
      refine itN_ab a10 (k := i + 1) ?_ (by omega)
      rw [itN_s, this]
      subst e
      rw [app_hd nd]
      exact c.1 b (by rw [sub_bit b s, pm h0]; simp)
    | false =>
      have key : ∀ k a, m.testBit a = false → itN (app p nx) k a = itN nx k a := fun k => by
        induction k with
        | zero => intro a _; rfl
        | succ k ih =>
          intro a ha
          show itN (app p nx) k (app p nx a) = itN nx k (nx a)
          rw [app_out (fun z => by rw [(pOK_mem g a).mp z] at ha; cases ha)]
          by_cases z : nx a = 10
          · rw [z]; exact ih 10 m10
          · exact ih _ (nm a ha z)
      rw [key M a q]; exact c.2.2.2 a
def rpt (nx : Nat → Nat) (x0 : Nat) : Nat → List Nat
  | 0 => [x0]
  | k + 1 => itN nx (k + 1) x0 :: rpt nx x0 k
def mkt (nx : Nat → Nat) (x0 : Nat) : Nat → Nat
  | 0 => 2 ^ x0
  | k + 1 => 2 ^ itN nx (k + 1) x0 + mkt nx x0 k
theorem rpt_len {nx : Nat → Nat} {x0 : Nat} : ∀ k, (rpt nx x0 k).length = k + 1
  | 0 => rfl
  | k + 1 => by show (rpt nx x0 k).length + 1 = _; rw [rpt_len k]
theorem rpt_at {nx : Nat → Nat} {x0 : Nat} : ∀ k i, i ≤ k → (rpt nx x0 k)[i]? = some (itN nx (k - i) x0)
  | 0, 0, _ => rfl
  | 0, i + 1, h => by omega
  | k + 1, 0, _ => rfl
  | k + 1, i + 1, h => by
    show (rpt nx x0 k)[i]? = _
    rw [rpt_at k i (by omega), show k + 1 - (i + 1) = k - i by omega]
theorem rpt_mem {nx : Nat → Nat} {x0 x : Nat} {k : Nat} (h : x ∈ rpt nx x0 k) : ∃ i, i ≤ k ∧ x = itN nx i x0 := by
  obtain ⟨i, hi⟩ := List.getElem?_of_mem h
  have li := (List.getElem?_eq_some_iff.mp hi).1
  rw [rpt_len] at li
  rw [rpt_at k i (by omega)] at hi
  exact ⟨k - i, by omega, (Option.some.inj hi).symm⟩
theorem rpt_ok {F : Nat → Nat → Bool} {nx : Nat → Nat} {x0 : Nat} : ∀ K, (∀ i j, i < j → j ≤ K → itN nx i x0 ≠ itN nx j x0) → (∀ i, i < K → F (itN nx i x0) (itN nx (i + 1) x0) = true) → pOK F (mkt nx x0 K) (rpt nx x0 K)
  | 0, _, _ => rfl
  | 1, hd, hf => by
    have ih := rpt_ok (F := F) 0 (fun i j a c => hd i j a (by omega)) (fun i a => hf i (by omega))
    have nb : (mkt nx x0 0).testBit (itN nx 1 x0) = false := by
      cases q : (mkt nx x0 0).testBit (itN nx 1 x0) with
      | false => rfl
      | true =>
        obtain ⟨i, hi, e⟩ := rpt_mem ((pOK_mem ih _).mpr q)
        exact absurd e.symm (hd i 1 (by omega) (Nat.le_refl _))
    refine ⟨?_, hf 0 (by omega), ?_⟩
    · show (2 ^ itN nx 1 x0 + mkt nx x0 0).testBit (itN nx 1 x0) = true
      rw [Nat.testBit_two_pow_add_eq, nb]; rfl
    · show pOK F (2 ^ itN nx 1 x0 + mkt nx x0 0 - 2 ^ itN nx 1 x0) [x0]
      rw [Nat.add_sub_cancel_left]; exact ih
  | K + 2, hd, hf => by
    have ih := rpt_ok (F := F) (K + 1) (fun i j a c => hd i j a (by omega)) (fun i a => hf i (by omega))
    have nb : (mkt nx x0 (K + 1)).testBit (itN nx (K + 2) x0) = false := by
      cases q : (mkt nx x0 (K + 1)).testBit (itN nx (K + 2) x0) with
      | false => rfl
      | true =>
        obtain ⟨i, hi, e⟩ := rpt_mem ((pOK_mem ih _).mpr q)
        exact absurd e.symm (hd i (K + 2) (by omega) (Nat.le_refl _))
    refine ⟨?_, hf (K + 1) (by omega), ?_⟩
    · show (2 ^ itN nx (K + 2) x0 + mkt nx x0 (K + 1)).testBit (itN nx (K + 2) x0) = true
      rw [Nat.testBit_two_pow_add_eq, nb]; rfl
    · show pOK F (2 ^ itN nx (K + 2) x0 + mkt nx x0 (K + 1) - 2 ^ itN nx (K + 2) x0) (rpt nx x0 (K + 1))
      rw [Nat.add_sub_cancel_left]; exact ih
/-- the first of a row: nobody goes before him -/
theorem first_of {F : Nat → Nat → Bool} {Q : Nat → Bool} {M S : Nat} {nx : Nat → Nat} (hS : S < 2 ^ 10) (c : Co F Q M S nx) {lw : Nat} (hl : S.testBit lw = true) : ∃ x0 i, S.testBit x0 = true ∧ itN nx i x0 = lw ∧ ∀ y, nx y ≠ x0 := by
  have n10 := Co_10 hS c
  have l10 : lw ≠ 10 := fun e => by
    have := bit_lt hS hl
    omega
  -- go back as long as one can
  have go : ∀ f i y, S.testBit y = true → itN nx i y = lw → M - i < f → ∃ x0 i, S.testBit x0 = true ∧ itN nx i x0 = lw ∧ ∀ y, nx y ≠ x0 := fun f => by
    induction f with
    | zero => intro i y _ _ h; omega
    | succ f ih =>
      intro i y hy hi h
      rcases Classical.em (∃ z, nx z = y) with ⟨z, hz⟩ | no
      · have hM : i + 1 < M := Classical.byContradiction fun w => by
          have e : itN nx (i + 1) z = lw := by
            show itN nx i (nx z) = lw
            rw [hz]; exact hi
          have := itN_ab n10 (c.2.2.2 z) (show M ≤ i + 1 by omega)
          exact l10 (e.symm.trans this)
        have y10 : y ≠ 10 := fun e => by
          have := bit_lt hS hy
          omega
        have zs : S.testBit z = true := by
          cases q : S.testBit z with
          | true => rfl
          | false => exact absurd (hz.symm.trans (c.1 z q)) y10
        exact ih (i + 1) z zs (by show itN nx i (nx z) = lw; rw [hz]; exact hi) (by omega)
      · exact ⟨y, i, hy, hi, fun z hz => no ⟨z, hz⟩⟩
  exact go (M + 1) 0 lw hl rfl (by omega)
theorem split_Co {F : Nat → Nat → Bool} {Q : Nat → Bool} {M S : Nat} {nx : Nat → Nat} (hS : S < 2 ^ 10) (hM : 1 ≤ M) (c : Co F Q M S nx) {lw : Nat} (hl : S.testBit lw = true) :
    ∃ m p nx', sbm m S ∧ m.testBit lw = true ∧ pOK F m p ∧ p.length ≤ M ∧ (∀ a, p[0]? = some a → Q a = false) ∧ Co F Q M (S - m) nx' ∧ app p nx' = nx := by
  have n10 := Co_10 hS c
  obtain ⟨x0, i0, hx0, hi0, nop⟩ := first_of hS c hl
  have s10 : S.testBit 10 = false := Nat.testBit_lt_two_pow hS
  have x10 : x0 ≠ 10 := fun e => by rw [e] at hx0; rw [hx0] at s10; cases s10
  -- the last
  have lst : ∀ f i, itN nx i x0 ≠ 10 → M - i < f → ∃ K, i ≤ K ∧ itN nx K x0 ≠ 10 ∧ itN nx (K + 1) x0 = 10 := fun f => by
    induction f with
    | zero => intro i _ h; omega
    | succ f ih =>
      intro i hi h
      by_cases z : itN nx (i + 1) x0 = 10
      · exact ⟨i, Nat.le_refl _, hi, z⟩
      · have : i + 1 < M + 1 := Classical.byContradiction fun w => z (itN_ab n10 (c.2.2.2 x0) (by omega))
        obtain ⟨K, k1, k2⟩ := ih (i + 1) z (by omega)
        exact ⟨K, by omega, k2⟩
  obtain ⟨K, _, k2, k3⟩ := lst (M + 1) 0 x10 (by omega)
  have ne10 : ∀ i, i ≤ K → itN nx i x0 ≠ 10 := fun i hi z => k2 (itN_ab n10 z hi)
  have dis : ∀ i j, i < j → j ≤ K → itN nx i x0 ≠ itN nx j x0 := fun i j hij hj e => by
    have h1 : itN nx (K + 1 - j + i) x0 = 10 := by
      rw [itN_add, e, ← itN_add, show K + 1 - j + j = K + 1 by omega]; exact k3
    exact ne10 _ (by omega) h1
  have inS : ∀ i, i ≤ K → S.testBit (itN nx i x0) = true := fun i hi => by
    cases i with
    | zero => exact hx0
    | succ i =>
      have e := itN_s (nx := nx) i x0
      have a := ne10 (i + 1) hi
      have b := ne10 i (by omega)
      rw [e] at a ⊢
      cases q : S.testBit (itN nx i x0) with
      | false => exact absurd (c.1 _ q) a
      | true => exact (c.2.1 _ q).elim (fun z => absurd z.1 a) (fun z => z.1)
  have ff : ∀ i, i < K → F (itN nx i x0) (itN nx (i + 1) x0) = true := fun i hi => by
    have a := ne10 (i + 1) (by omega)
    rw [itN_s] at a ⊢
    exact (c.2.1 _ (inS i (by omega))).elim (fun z => absurd z.1 a) (fun z => z.2)
  have g := rpt_ok (F := F) K dis ff
  have mem := pOK_mem g
  have it_m : ∀ i, i ≤ K → (mkt nx x0 K).testBit (itN nx i x0) = true := fun i hi => (mem _).mp (List.mem_of_getElem? (i := K - i) (by rw [rpt_at K (K - i) (by omega), show K - (K - i) = i by omega]))
  have m_it : ∀ x, (mkt nx x0 K).testBit x = true → ∃ i, i ≤ K ∧ x = itN nx i x0 := fun x hx => rpt_mem ((mem x).mpr hx)
  have s : sbm (mkt nx x0 K) S := fun x hx => by
    obtain ⟨i, hi, e⟩ := m_it x hx
    rw [e]; exact inS i hi
  have m10 : (mkt nx x0 K).testBit 10 = false := by
    cases q : (mkt nx x0 K).testBit 10 with
    | false => rfl
    | true => rw [s 10 q] at s10; cases s10
  have back : ∀ x, (mkt nx x0 K).testBit (nx x) = true → (mkt nx x0 K).testBit x = true := fun x hx => by
    obtain ⟨i, hi, e⟩ := m_it _ hx
    cases i with
    | zero => exact absurd e (nop x)
    | succ i =>
      have a := ne10 (i + 1) hi
      rw [itN_s] at e a
      have := c.2.2.1 x _ e (by rw [e]; exact a)
      rw [this]; exact it_m i (by omega)
  refine ⟨mkt nx x0 K, rpt nx x0 K, fun x => if (mkt nx x0 K).testBit x = true then 10 else nx x, s, ?_, g, ?_, fun a ha => ?_, ⟨fun a ha => ?_, fun a ha => ?_, fun x y e hn => ?_, fun a => ?_⟩, funext fun x => ?_⟩
  · have : i0 ≤ K := Classical.byContradiction fun w => by
      have := itN_ab n10 k3 (show K + 1 ≤ i0 by omega)
      rw [hi0] at this
      rw [this] at hl; rw [hl] at s10; cases s10
    rw [← hi0]; exact it_m i0 this
  · rw [rpt_len]
    exact Classical.byContradiction fun w => k2 (itN_ab n10 (c.2.2.2 x0) (by omega))
  · rw [rpt_at K 0 (by omega)] at ha
    have e : a = itN nx K x0 := (Option.some.inj ha).symm
    have h1 : nx a = 10 := by rw [e, ← itN_s (nx := nx)]; exact k3
    refine (c.2.1 a (by rw [e]; exact inS K (Nat.le_refl _))).elim (fun z => z.2) (fun z => ?_)
    rw [h1] at z; rw [z.1] at s10; cases s10
  · show (if (mkt nx x0 K).testBit a = true then 10 else nx a) = 10
    split
    · rfl
    · rename_i w
      rw [sub_bit a s] at ha
      cases q : S.testBit a with
      | false => exact c.1 a q
      | true =>
        rw [q] at ha
        cases q2 : (mkt nx x0 K).testBit a with
        | true => exact absurd q2 w
        | false => rw [q2] at ha; cases ha
  · rw [sub_bit a s] at ha
    have q2 : (mkt nx x0 K).testBit a = false := by
      cases q2 : (mkt nx x0 K).testBit a with
      | false => rfl
      | true => rw [q2] at ha; simp at ha
    have q : S.testBit a = true := by
      cases q : S.testBit a with
      | true => rfl
      | false => rw [q] at ha; cases ha
    show ((if (mkt nx x0 K).testBit a = true then 10 else nx a) = 10 ∧ _) ∨ ((S - mkt nx x0 K).testBit (if (mkt nx x0 K).testBit a = true then 10 else nx a) = true ∧ F a (if (mkt nx x0 K).testBit a = true then 10 else nx a) = true)
    rw [if_neg (by rw [q2]; exact Bool.false_ne_true)]
    refine (c.2.1 a q).imp id (fun z => ⟨?_, z.2⟩)
    rw [sub_bit _ s, z.1]
    cases q3 : (mkt nx x0 K).testBit (nx a) with
    | false => rfl
    | true => rw [back a q3] at q2; cases q2
  · have e' : (if (mkt nx x0 K).testBit x = true then 10 else nx x) = (if (mkt nx x0 K).testBit y = true then 10 else nx y) := e
    have n1 : ¬ (mkt nx x0 K).testBit x = true := fun z => hn (if_pos z)
    have n2 : ¬ (mkt nx x0 K).testBit y = true := fun z => hn (by show (if (mkt nx x0 K).testBit x = true then 10 else nx x) = 10; rw [e']; exact if_pos z)
    have hn' : nx x ≠ 10 := fun z => hn ((if_neg n1).trans z)
    rw [if_neg n1, if_neg n2] at e'
    exact c.2.2.1 x y e' hn'
  · have key : ∀ k a, (mkt nx x0 K).testBit a = false → itN (fun x => if (mkt nx x0 K).testBit x = true then 10 else nx x) k a = itN nx k a := fun k => by
      induction k with
      | zero => intro a _; rfl
      | succ k ih =>
        intro a ha
        show itN (fun x => if (mkt nx x0 K).testBit x = true then 10 else nx x) k (if (mkt nx x0 K).testBit a = true then 10 else nx a) = itN nx k (nx a)
        rw [if_neg (by rw [ha]; exact Bool.false_ne_true)]
        refine ih _ ?_
        cases q : (mkt nx x0 K).testBit (nx a) with
        | false => rfl
        | true => rw [back a q] at ha; cases ha
    cases q : (mkt nx x0 K).testBit a with
    | false => rw [key M a q]; exact c.2.2.2 a
    | true =>
      rw [show M = (M - 1) + 1 by omega]
      show itN (fun x => if (mkt nx x0 K).testBit x = true then 10 else nx x) (M - 1) (if (mkt nx x0 K).testBit a = true then 10 else nx a) = 10
      rw [if_pos q, key (M - 1) 10 m10]
      exact itN_10 n10 _
  · cases q : (mkt nx x0 K).testBit x with
    | false =>
      rw [app_out (fun z => by rw [(mem x).mp z] at q; cases q)]
      show (if (mkt nx x0 K).testBit x = true then 10 else nx x) = nx x
      rw [if_neg (by rw [q]; exact Bool.false_ne_true)]
    | true =>
      obtain ⟨i, hi⟩ := List.getElem?_of_mem ((mem x).mpr q)
      have li := (List.getElem?_eq_some_iff.mp hi).1
      rw [rpt_len] at li
      have hx := hi
      rw [rpt_at K i (by omega)] at hx
      have ex : x = itN nx (K - i) x0 := (Option.some.inj hx).symm
      cases i with
      | zero =>
        obtain ⟨a, r, e, _⟩ := pOK_hd g
        rw [e] at hi
        have ea : a = x := Option.some.inj hi
        subst ea
        rw [e, app_hd (by rw [← e]; exact pOK_nd g)]
        show (if (mkt nx x0 K).testBit a = true then 10 else nx a) = nx a
        rw [if_pos q, ex, ← itN_s (nx := nx)]; exact k3.symm
      | succ i =>
        have := app_at (nx := fun x => if (mkt nx x0 K).testBit x = true then 10 else nx x) (pOK_nd g) hi
        rw [rpt_at K i (by omega)] at this
        rw [← Option.some.inj this, ex, ← itN_s (nx := nx), show K - (i + 1) + 1 = K - i by omega]
end K83
