set_option maxRecDepth 4000
/-! ===== the order of errands, without a heap ===== -/
section K73
variable {lg : Nat → (Nat → Int) → Int × Nat} {af : Nat → (Nat → Int) → (Nat → Int)} {E : Nat} {T0 : Nat → Int}
abbrev US := Int × Nat × (Nat → Nat)
def lpS (f : Nat → US → US) : Nat → US → US
  | 0, S => S
  | k + 1, S => f k (lpS f k S)
def tw (lg : Nat → (Nat → Int) → Int × Nat) (af : Nat → (Nat → Int) → (Nat → Int)) (E : Nat) : Nat → (Nat → Bool) → (Nat → Int) → Int → Nat → (Nat → Nat) → Nat → US → US
  | 0, _, _, m, w, od, _, S => if m < S.1 then (m, w, od) else S
  | r + 1, dn, T, m, w, od, d, S => lpS (fun e S => if dn e = true ∨ ¬ (lg e T).1 < 1000000 then S else tw lg af E r (fun x => decide (x = e) || dn x) (af e T) (m + (lg e T).1) (w + (lg e T).2) (updN od d e) (d + 1) S) E S
theorem lpS_id {f : Nat → US → US} {S : US} : ∀ n, (∀ e, e < n → f e S = S) → lpS f n S = S
  | 0, _ => rfl
  | n + 1, h => by
    show f n (lpS f n S) = S
    rw [lpS_id n (fun e he => h e (by omega))]
    exact h n (by omega)
theorem lpS_inv {f : Nat → US → US} {P : US → Prop} {S : US} : ∀ n, (∀ e S, e < n → P S → P (f e S)) → P S → P (lpS f n S)
  | 0, _, p => p
  | n + 1, h, p => h n _ (by omega) (lpS_inv n (fun e S he => h e S (by omega)) p)
theorem tw_le : ∀ r dn T m w od d S, (tw lg af E r dn T m w od d S).1 ≤ S.1
  | 0, dn, T, m, w, od, d, S => by
    show (if m < S.1 then (m, w, od) else S).1 ≤ S.1
    split
    · show m ≤ S.1; omega
    · omega
  | r + 1, dn, T, m, w, od, d, S => by
    refine lpS_inv (P := fun S' => S'.1 ≤ S.1) E (fun e S' he p => ?_) (Int.le_refl _)
    show (if _ then S' else _).1 ≤ S.1
    split
    · exact p
    · have := tw_le r (fun x => decide (x = e) || dn x) (af e T) (m + (lg e T).1) (w + (lg e T).2) (updN od d e) (d + 1) S'
      omega
theorem tw_cut (h0 : ∀ e T, 0 ≤ (lg e T).1) : ∀ r dn T m w od d S, S.1 ≤ m → tw lg af E r dn T m w od d S = S
  | 0, dn, T, m, w, od, d, S, h => if_neg (by omega)
  | r + 1, dn, T, m, w, od, d, S, h => lpS_id E (fun e he => by
    show (if _ then S else _) = S
    split
    · rfl
    · have := h0 e T
      exact tw_cut h0 r _ _ _ _ _ _ S (by omega))
/-- how many are still to be done -/
def cnt (dn : Nat → Bool) : Nat → Nat
  | 0 => 0
  | k + 1 => cnt dn k + (if dn k = true then 0 else 1)
theorem cnt_add {dn : Nat → Bool} {e : Nat} (hd : dn e = false) : ∀ n, cnt (fun x => decide (x = e) || dn x) n + (if e < n then 1 else 0) = cnt dn n
  | 0 => by rw [if_neg (by omega)]; rfl
  | n + 1 => by
    have ih := cnt_add hd n
    show cnt (fun x => decide (x = e) || dn x) n + (if (decide (n = e) || dn n) = true then 0 else 1) + _ = cnt dn n + (if dn n = true then 0 else 1)
    by_cases q : n = e
    · subst q
      rw [if_neg (by omega)] at ih
      rw [decide_eq_true rfl, Bool.true_or, if_pos rfl, if_pos (by omega), hd, if_neg Bool.false_ne_true]
      omega
    · rw [decide_eq_false q, Bool.false_or]
      by_cases q2 : e < n
      · rw [if_pos q2] at ih; rw [if_pos (show e < n + 1 by omega)]; omega
      · rw [if_neg q2] at ih; rw [if_neg (show ¬ e < n + 1 by omega)]; omega
theorem cnt_pos {dn : Nat → Bool} {e : Nat} (hd : dn e = false) : ∀ n, e < n → 0 < cnt dn n
  | 0, h => by omega
  | n + 1, h => by
    show 0 < cnt dn n + (if dn n = true then 0 else 1)
    by_cases q : n = e
    · subst q; rw [hd, if_neg Bool.false_ne_true]; omega
    · have := cnt_pos hd n (by omega); omega
theorem cnt_le {dn : Nat → Bool} : ∀ n, cnt dn n ≤ n
  | 0 => Nat.le_refl _
  | n + 1 => by
    have := cnt_le (dn := dn) n
    show cnt dn n + (if dn n = true then 0 else 1) ≤ n + 1
    split <;> omega
theorem tw_none : ∀ r dn T m w od d S e, cnt dn E = r → e < E → dn e = false → (∀ T, ¬ (lg e T).1 < 1000000) → tw lg af E r dn T m w od d S = S
  | 0, dn, T, m, w, od, d, S, e, hc, he, hd, hn => by
    have := cnt_pos hd E he; omega
  | r + 1, dn, T, m, w, od, d, S, e, hc, he, hd, hn => lpS_id E (fun e' he' => by
    show (if _ then S else _) = S
    by_cases q : dn e' = true ∨ ¬ (lg e' T).1 < 1000000
    · rw [if_pos q]
    · rw [if_neg q]
      have q1 : dn e' = false := by cases h : dn e' with
        | true => exact absurd (Or.inl h) q
        | false => rfl
      have ne : e ≠ e' := fun z => q (Or.inr (by rw [← z]; exact hn T))
      have c := cnt_add q1 E
      rw [if_pos he'] at c
      exact tw_none r _ _ _ _ _ _ S e (by omega) he (by rw [decide_eq_false ne, Bool.false_or]; exact hd) hn)
/-! codes -/
def gG (lg : Nat → (Nat → Int) → Int × Nat) (af : Nat → (Nat → Int) → (Nat → Int)) (T0 : Nat → Int) (p : Nat → Nat) : Nat → (Nat → Int) × Int × Nat
  | 0 => (T0, 0, 0)
  | k + 1 => (af (p k) (gG lg af T0 p k).1, (gG lg af T0 p k).2.1 + (lg (p k) (gG lg af T0 p k).1).1, (gG lg af T0 p k).2.2 + (lg (p k) (gG lg af T0 p k).1).2)
theorem gG_cg {p p' : Nat → Nat} : ∀ k, (∀ j, j < k → p j = p' j) → gG lg af T0 p k = gG lg af T0 p' k
  | 0, _ => rfl
  | k + 1, h => by
    have e := gG_cg k (fun j hj => h j (by omega))
    show (af (p k) (gG lg af T0 p k).1, _, _) = (af (p' k) (gG lg af T0 p' k).1, _, _)
    rw [e, h k (by omega)]
def okD (lg : Nat → (Nat → Int) → Int × Nat) (af : Nat → (Nat → Int) → (Nat → Int)) (E : Nat) (T0 : Nat → Int) (p : Nat → Nat) (k : Nat) : Prop := ∀ j, j < k → p j < E ∧ (∀ i, i < j → p i ≠ p j) ∧ (lg (p j) (gG lg af T0 p j).1).1 < 1000000
def od (d c : Nat) : Nat → Nat := fun k => if k < d then c / 5 ^ (d - 1 - k) % 5 else 0
theorem od_s {d c e k : Nat} (he : e < 5) (hk : k < d) : od (d + 1) (5 * c + e) k = od d c k := by
  unfold od
  rw [if_pos (by omega), if_pos hk, show d + 1 - 1 - k = (d - 1 - k) + 1 by omega, Nat.pow_succ, Nat.mul_comm (5 ^ (d - 1 - k)) 5, ← Nat.div_div_eq_div_mul, show (5 * c + e) / 5 = c by omega]
theorem od_d {d c e : Nat} (he : e < 5) : od (d + 1) (5 * c + e) d = e := by
  unfold od
  rw [if_pos (by omega), show d + 1 - 1 - d = 0 by omega, Nat.pow_zero, Nat.div_one]; omega
theorem od_u {d c e : Nat} (he : e < 5) : updN (od d c) d e = od (d + 1) (5 * c + e) := funext fun k => by
  unfold updN
  by_cases q : k = d
  · subst q; rw [if_pos rfl, od_d he]
  · rw [if_neg q]
    by_cases q2 : k < d
    · rw [od_s he q2]
    · unfold od; rw [if_neg q2, if_neg (by omega)]
theorem okD_s {d c e : Nat} (he : e < 5) : okD lg af E T0 (od (d + 1) (5 * c + e)) (d + 1) ↔ (okD lg af E T0 (od d c) d ∧ e < E ∧ (∀ i, i < d → od d c i ≠ e) ∧ (lg e (gG lg af T0 (od d c) d).1).1 < 1000000) := by
  have eg : ∀ k, k ≤ d → gG lg af T0 (od (d + 1) (5 * c + e)) k = gG lg af T0 (od d c) k := fun k hk => gG_cg k (fun j hj => od_s he (by omega))
  refine ⟨fun h => ⟨fun j hj => ?_, ?_, fun i hi => ?_, ?_⟩, fun ⟨h1, h2, h3, h4⟩ j hj => ?_⟩
  · obtain ⟨a, b, c'⟩ := h j (by omega)
    rw [od_s he hj] at a b c'
    rw [eg j (by omega)] at c'
    refine ⟨a, fun i hi => ?_, c'⟩
    have := b i hi
    rw [od_s he (by omega)] at this
    exact this
  · have := (h d (by omega)).1; rw [od_d he] at this; exact this
  · have := (h d (by omega)).2.1 i hi; rw [od_d he, od_s he hi] at this; exact this
  · have := (h d (by omega)).2.2; rw [od_d he, eg d (Nat.le_refl _)] at this; exact this
  · by_cases q : j = d
    · subst q
      rw [od_d he, eg j (Nat.le_refl _)]
      exact ⟨h2, fun i hi => by rw [od_s he hi]; exact h3 i hi, h4⟩
    · obtain ⟨a, b, c'⟩ := h1 j (by omega)
      rw [od_s he (by omega), eg j (by omega)]
      exact ⟨a, fun i hi => by rw [od_s he (by omega)]; exact b i hi, c'⟩
noncomputable def tv (lg : Nat → (Nat → Int) → Int × Nat) (af : Nat → (Nat → Int) → (Nat → Int)) (E : Nat) (T0 : Nat → Int) (p : Nat → Nat) : Int := @ite Int (okD lg af E T0 p E) (Classical.propDecidable _) (gG lg af T0 p E).2.1 1000000
noncomputable def leM (lg : Nat → (Nat → Int) → Int × Nat) (af : Nat → (Nat → Int) → (Nat → Int)) (E : Nat) (T0 : Nat → Int) (c : Nat) (S : US) : US := if tv lg af E T0 (od E c) < S.1 then (tv lg af E T0 (od E c), (gG lg af T0 (od E c) E).2.2, od E c) else S
def rg (f : Nat → US → US) (a : Nat) : Nat → US → US
  | 0, S => S
  | n + 1, S => f (a + n) (rg f a n S)
theorem rg_add {f : Nat → US → US} {a m : Nat} : ∀ n S, rg f a (m + n) S = rg f (a + m) n (rg f a m S)
  | 0, S => rfl
  | n + 1, S => by
    show f (a + (m + n)) (rg f a (m + n) S) = f (a + m + n) (rg f (a + m) n (rg f a m S))
    rw [rg_add n S, Nat.add_assoc]
theorem rg_5 {f : Nat → US → US} {a m : Nat} (S : US) : rg f a (5 * m) S = lpS (fun e => rg f (a + e * m) m) 5 S := by
  have e5 : 5 * m = 0 + m + m + m + m + m := by omega
  rw [e5, rg_add, rg_add, rg_add, rg_add, rg_add]
  show rg f (a + (0 + m + m + m + m)) m (rg f (a + (0 + m + m + m)) m (rg f (a + (0 + m + m)) m (rg f (a + (0 + m)) m (rg f (a + 0) m S)))) = rg f (a + 4 * m) m (rg f (a + 3 * m) m (rg f (a + 2 * m) m (rg f (a + 1 * m) m (rg f (a + 0 * m) m S))))
  rw [show a + (0 + m + m + m + m) = a + 4 * m by omega, show a + (0 + m + m + m) = a + 3 * m by omega, show a + (0 + m + m) = a + 2 * m by omega, show a + (0 + m) = a + 1 * m by omega, show a + 0 = a + 0 * m by omega]
theorem lpS_cg {f g : Nat → US → US} {P : US → Prop} {S : US} : ∀ n, (∀ e S, e < n → P S → f e S = g e S ∧ P (g e S)) → P S → lpS f n S = lpS g n S ∧ P (lpS g n S)
  | 0, _, p => ⟨rfl, p⟩
  | n + 1, h, p => by
    obtain ⟨a, b⟩ := lpS_cg n (fun e S he => h e S (by omega)) p
    show f n (lpS f n S) = g n (lpS g n S) ∧ P (g n (lpS g n S))
    rw [a]
    exact h n _ (by omega) b
theorem lpS_more {f : Nat → US → US} {S : US} {m : Nat} : ∀ n, (∀ e S, m ≤ e → f e S = S) → lpS f (m + n) S = lpS f m S
  | 0, _ => rfl
  | n + 1, h => by
    show f (m + n) (lpS f (m + n) S) = _
    rw [h _ _ (by omega)]
    exact lpS_more n h
def dnB (p : Nat → Nat) (d : Nat) : Nat → Bool := fun e => decide (∃ i, i < d ∧ p i = e)
theorem dnB_s {d c e : Nat} (he : e < 5) : (fun x => decide (x = e) || dnB (od d c) d x) = dnB (od (d + 1) (5 * c + e)) (d + 1) := funext fun x => by
  unfold dnB
  by_cases q : x = e
  · subst q
    rw [decide_eq_true rfl, Bool.true_or]
    exact (decide_eq_true ⟨d, by omega, od_d he⟩).symm
  · rw [decide_eq_false q, Bool.false_or]
    refine decide_eq_decide.mpr ⟨fun ⟨i, h1, h2⟩ => ⟨i, by omega, by rw [od_s he h1]; exact h2⟩, fun ⟨i, h1, h2⟩ => ?_⟩
    by_cases qi : i = d
    · subst qi; rw [od_d he] at h2; exact absurd h2.symm q
    · exact ⟨i, by omega, by rw [od_s he (by omega)] at h2; exact h2⟩
/-- a run of codes that begin alike -/
theorem rg_tw (hE : E ≤ 5) : ∀ r d c, d + r = E → ∀ S : US, S.1 ≤ 1000000 →
    (okD lg af E T0 (od d c) d → rg (leM lg af E T0) (c * 5 ^ r) (5 ^ r) S = tw lg af E r (dnB (od d c) d) (gG lg af T0 (od d c) d).1 (gG lg af T0 (od d c) d).2.1 (gG lg af T0 (od d c) d).2.2 (od d c) d S) ∧
    (¬ okD lg af E T0 (od d c) d → rg (leM lg af E T0) (c * 5 ^ r) (5 ^ r) S = S)
  | 0, d, c, hd, S, hS => by
    have ed : d = E := by omega
    subst ed
    have e1 : rg (leM lg af d T0) (c * 5 ^ 0) (5 ^ 0) S = leM lg af d T0 c S := by
      show leM lg af d T0 (c * 1 + 0) S = _
      rw [show c * 1 + 0 = c by omega]
    rw [e1]
    unfold leM tv
    refine ⟨fun h => ?_, fun h => ?_⟩
    · rw [if_pos h]; rfl
    · rw [if_neg h, if_neg (by omega)]
  | r + 1, d, c, hd, S, hS => by
    rw [show c * 5 ^ (r + 1) = 5 * c * 5 ^ r by rw [Nat.pow_succ, Nat.mul_comm (5 ^ r) 5, ← Nat.mul_assoc, Nat.mul_comm c 5], show 5 ^ (r + 1) = 5 * 5 ^ r by rw [Nat.pow_succ, Nat.mul_comm], rg_5]
    have blk : ∀ e, e < 5 → ∀ S : US, S.1 ≤ 1000000 → rg (leM lg af E T0) (5 * c * 5 ^ r + e * 5 ^ r) (5 ^ r) S = rg (leM lg af E T0) ((5 * c + e) * 5 ^ r) (5 ^ r) S := fun e _ S _ => by rw [Nat.add_mul]
    refine ⟨fun h => ?_, fun h => ?_⟩
    · have go := lpS_cg (f := fun e => rg (leM lg af E T0) (5 * c * 5 ^ r + e * 5 ^ r) (5 ^ r)) (g := fun e S => if E ≤ e then S else if dnB (od d c) d e = true ∨ ¬ (lg e (gG lg af T0 (od d c) d).1).1 < 1000000 then S else tw lg af E r (fun x => decide (x = e) || dnB (od d c) d x) (af e (gG lg af T0 (od d c) d).1) ((gG lg af T0 (od d c) d).2.1 + (lg e (gG lg af T0 (od d c) d).1).1) ((gG lg af T0 (od d c) d).2.2 + (lg e (gG lg af T0 (od d c) d).1).2) (updN (od d c) d e) (d + 1) S) (P := fun S => S.1 ≤ 1000000) (S := S) 5 (fun e S' he hS' => by
        obtain ⟨i1, i2⟩ := rg_tw hE r (d + 1) (5 * c + e) (by omega) S' hS'
        have os := okD_s (lg := lg) (af := af) (E := E) (T0 := T0) (d := d) (c := c) he
        show rg _ _ _ S' = (if E ≤ e then S' else if _ then S' else _) ∧ (if E ≤ e then S' else if _ then S' else _).1 ≤ 1000000
        rw [blk e he S' hS']
        by_cases q1 : E ≤ e
        · rw [if_pos q1]
          exact ⟨i2 (fun z => by have := (os.mp z).2.1; omega), hS'⟩
        · rw [if_neg q1]
          by_cases q2 : dnB (od d c) d e = true ∨ ¬ (lg e (gG lg af T0 (od d c) d).1).1 < 1000000
          · rw [if_pos q2]
            refine ⟨i2 (fun z => ?_), hS'⟩
            obtain ⟨z1, z2, z3, z4⟩ := os.mp z
            rcases q2 with q | q
            · obtain ⟨i, w1, w2⟩ := of_decide_eq_true q
              exact z3 i w1 w2
            · exact q z4
          · rw [if_neg q2]
            have ok' := os.mpr ⟨h, by omega, fun i hi z => q2 (Or.inl (decide_eq_true ⟨i, hi, z⟩)), Decidable.byContradiction fun z => q2 (Or.inr z)⟩
            have eg : gG lg af T0 (od (d + 1) (5 * c + e)) (d + 1) = (af e (gG lg af T0 (od d c) d).1, (gG lg af T0 (od d c) d).2.1 + (lg e (gG lg af T0 (od d c) d).1).1, (gG lg af T0 (od d c) d).2.2 + (lg e (gG lg af T0 (od d c) d).1).2) := by
              have eg0 : gG lg af T0 (od (d + 1) (5 * c + e)) d = gG lg af T0 (od d c) d := gG_cg d (fun j hj => od_s he hj)
              show (af (od (d + 1) (5 * c + e) d) (gG lg af T0 (od (d + 1) (5 * c + e)) d).1, _, _) = _
              rw [eg0, od_d he]
            have i1' := i1 ok'
            rw [eg] at i1'
            rw [i1', dnB_s he, od_u he]
            exact ⟨rfl, Int.le_trans (tw_le _ _ _ _ _ _ _ _) hS'⟩) hS
      rw [go.1]
      have e5 : (5 : Nat) = E + (5 - E) := by omega
      rw [e5, lpS_more (m := E) (5 - E) (fun e S' he => if_pos he)]
      exact (lpS_cg (P := fun _ => True) E (fun e S' he _ => ⟨if_neg (by omega), True.intro⟩) True.intro).1
    · have go := lpS_cg (f := fun e => rg (leM lg af E T0) (5 * c * 5 ^ r + e * 5 ^ r) (5 ^ r)) (g := fun _ S => S) (P := fun S => S.1 ≤ 1000000) (S := S) 5 (fun e S' he hS' => by
        obtain ⟨i1, i2⟩ := rg_tw hE r (d + 1) (5 * c + e) (by omega) S' hS'
        refine ⟨?_, hS'⟩
        show rg _ _ _ S' = S'
        rw [blk e he S' hS']
        exact i2 (fun z => h ((okD_s he).mp z).1)) hS
      rw [go.1]
      exact lpS_id 5 (fun _ _ => rfl)
def S0U : US := (1000000, 0, fun _ => 0)
def twR (lg : Nat → (Nat → Int) → Int × Nat) (af : Nat → (Nat → Int) → (Nat → Int)) (E : Nat) (T0 : Nat → Int) : US := tw lg af E E (fun _ => false) T0 0 0 (fun _ => 0) 0 S0U
theorem rg_all (hE : E ≤ 5) : rg (leM lg af E T0) 0 (5 ^ E) S0U = twR lg af E T0 := by
  have := (rg_tw (lg := lg) (af := af) (T0 := T0) hE E 0 0 (by omega) S0U (Int.le_refl _)).1 (fun j hj => by omega)
  rw [Nat.zero_mul] at this
  rw [this]
  have e1 : dnB (od 0 0) 0 = fun _ => false := funext fun e => decide_eq_false (fun ⟨i, h, _⟩ => by omega)
  have e2 : od 0 0 = fun _ => 0 := funext fun k => if_neg (by omega)
  rw [e1, e2]; rfl
end K73
