set_option maxRecDepth 4000
/-! ===== rows of signs: ends ===== -/
section K91
/-! how many rows end in a sign -/
def hN (F : Nat → Nat → Bool) (n S a : Nat) : Nat := (HP F n (S + 1) S a).length
def fcN : Nat → Nat
  | 0 => 1
  | k + 1 => (k + 1) * fcN k
theorem hN_1 {F : Nat → Nat → Bool} {n a : Nat} : hN F n (2 ^ a) a = 1 := by
  unfold hN
  show (if 2 ^ a = 2 ^ a then [[a]] else _).length = 1
  rw [if_pos rfl]; rfl
theorem hN_no {F : Nat → Nat → Bool} {n S a : Nat} (h : S.testBit a = false) : hN F n S a = 0 := by
  unfold hN
  show (if S = 2 ^ a then [[a]] else if S.testBit a = true then _ else []).length = 0
  rw [if_neg (fun e => by rw [e, Nat.testBit_two_pow, decide_eq_true rfl] at h; cases h), if_neg (by rw [h]; exact Bool.false_ne_true)]; rfl
theorem hN_s {F : Nat → Nat → Bool} {n S a : Nat} (h : S.testBit a = true) (hs : S ≠ 2 ^ a) : hN F n S a = ((List.range n).map (fun c => if (S - 2 ^ a).testBit c = true ∧ F c a = true then hN F n (S - 2 ^ a) c else 0)).sum := by
  unfold hN
  have le := pow_le h
  have pp : 0 < 2 ^ a := Nat.pow_pos (by decide)
  show (if S = 2 ^ a then [[a]] else if S.testBit a = true then (List.range n).flatMap (fun c => if (S - 2 ^ a).testBit c = true ∧ F c a = true then (HP F n S (S - 2 ^ a) c).map (fun p => a :: p) else []) else []).length = _
  rw [if_neg hs, if_pos h, List.length_flatMap]
  congr 1
  refine List.map_congr_left (fun c _ => ?_)
  split
  · rw [List.length_map, HP_fu (f := S) (g := S - 2 ^ a + 1) (by omega) (by omega)]
  · rfl
theorem fcN_le : ∀ {k m}, k ≤ m → fcN k ≤ fcN m := by
  intro k m h
  induction h with
  | refl => exact Nat.le_refl _
  | step h ih => exact Nat.le_trans ih (Nat.le_mul_of_pos_left _ (by omega))
theorem sum_le {P : Nat → Bool} {g : Nat → Nat} {X : Nat} : ∀ {l : List Nat}, (∀ x, x ∈ l → (P x = true → g x ≤ X) ∧ (P x = false → g x = 0)) → (l.map g).sum ≤ l.countP P * X
  | [], _ => Nat.zero_le _
  | a :: l, h => by
    have ih := sum_le (l := l) (fun x hx => h x (List.mem_cons_of_mem _ hx))
    obtain ⟨h1, h2⟩ := h a (List.mem_cons_self ..)
    rw [List.map_cons, List.sum_cons, List.countP_cons]
    cases q : P a with
    | true => have := h1 q; rw [if_pos rfl, Nat.add_mul]; omega
    | false =>
      rw [h2 q, if_neg Bool.false_ne_true, Nat.add_zero]
      omega
theorem hN_le {F : Nat → Nat → Bool} {n : Nat} : ∀ f S a, S < f → S < 2 ^ n → hN F n S a ≤ fcN (pcN n S - 1)
  | 0, S, a, h, _ => by omega
  | f + 1, S, a, h, hS => by
    have f1 : ∀ k, 1 ≤ fcN k := fun k => fcN_le (k := 0) (Nat.zero_le k)
    cases q : S.testBit a with
    | false => rw [hN_no q]; exact Nat.zero_le _
    | true =>
      by_cases e : S = 2 ^ a
      · rw [e, hN_1]; exact f1 _
      · have le := pow_le q
        have pp : 0 < 2 ^ a := Nat.pow_pos (by decide)
        have e1 : pcN n (2 ^ a) = 1 := by
          rw [← cP_one (n := n) (a := a) (bit_lt hS q)]
          unfold pcN cB
          refine cP_cg (fun x _ => ?_)
          rw [Nat.testBit_two_pow]
          exact decide_eq_decide.mpr ⟨fun z => z.symm, fun z => z.symm⟩
        have e2 := pcN_sub (n := n) (pow_sbm q)
        rw [hN_s q e]
        refine Nat.le_trans (sum_le (P := fun c => (S - 2 ^ a).testBit c) (X := fcN (pcN n (S - 2 ^ a) - 1)) (fun c _ => ⟨fun z => ?_, fun z => ?_⟩)) ?_
        · split
          · exact hN_le f (S - 2 ^ a) c (by omega) (by omega)
          · exact Nat.zero_le _
        · rw [if_neg (fun w => by rw [w.1] at z; cases z)]
        · show pcN n (S - 2 ^ a) * _ ≤ _
          rw [show pcN n S - 1 = pcN n (S - 2 ^ a) by omega]
          cases pcN n (S - 2 ^ a) with
          | zero => omega
          | succ k => exact Nat.le_refl _
theorem pcN_le {n S : Nat} : pcN n S ≤ n := by
  have := List.countP_le_length (p := fun a => S.testBit a) (l := List.range n)
  rw [List.length_range] at this
  exact this
theorem hN_b {F : Nat → Nat → Bool} {n S a : Nat} (hn : n ≤ 10) (hS : S < 2 ^ n) : hN F n S a ≤ 362880 := by
  have h1 := hN_le (F := F) (S + 1) S a (by omega) hS
  have h2 := pcN_le (n := n) (S := S)
  exact Nat.le_trans h1 (Nat.le_trans (fcN_le (show pcN n S - 1 ≤ 9 by omega)) (by decide))
theorem sum_b {g : Nat → Nat} {X : Nat} (h : ∀ x, g x ≤ X) (k : Nat) : ((List.range k).map g).sum ≤ k * X := by
  induction k with
  | zero => exact Nat.zero_le _
  | succ k ih =>
    rw [List.range_succ, List.map_append, List.sum_append, List.map_cons, List.map_nil, List.sum_cons, List.sum_nil, Nat.succ_mul]
    have := h k
    omega
theorem sum_1 {g : Nat → Nat} {k : Nat} : ((List.range (k + 1)).map g).sum = ((List.range k).map g).sum + g k := by
  rw [List.range_succ, List.map_append, List.sum_append, List.map_cons, List.map_nil, List.sum_cons, List.sum_nil]; rfl
end K91
