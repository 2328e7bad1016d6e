set_option maxRecDepth 4000
/-! ===== rows of signs: what the reference counts ===== -/
section K96
/-! the next smaller part of a set -/
theorem sub_next : ∀ (f : Nat) {p m S : Nat}, p < f → sbm p S → sbm m S → m < p → m ≤ (p - 1) &&& S
  | 0, _, _, _, h, _, _, _ => by omega
  | f + 1, p, m, S, h, hp, hm, hlt => by
    obtain ⟨p1, p2⟩ := sbm_half hp
    obtain ⟨m1, m2⟩ := sbm_half hm
    have e2 : ((p - 1) &&& S) / 2 = (p - 1) / 2 &&& S / 2 := Nat.and_div_two
    have lt2 := Nat.mod_lt S (show 0 < 2 by decide)
    by_cases q : p % 2 = 1
    · have e3 : (p - 1) / 2 = p / 2 := by omega
      rw [e3, sbm_and.mp p1] at e2
      omega
    · have e3 : (p - 1) / 2 = p / 2 - 1 := by omega
      rw [e3] at e2
      by_cases z : m / 2 < p / 2
      · have ih := sub_next f (p := p / 2) (m := m / 2) (S := S / 2) (by omega) p1 m1 z
        have e4 : ((p - 1) &&& S) % 2 = S % 2 := by
          have a := Nat.testBit_and (p - 1) S 0
          rw [Nat.testBit_zero, Nat.testBit_zero, Nat.testBit_zero, decide_eq_true (show (p - 1) % 2 = 1 by omega), Bool.true_and] at a
          have b := decide_eq_decide.mp a
          have lt3 := Nat.mod_lt ((p - 1) &&& S) (show 0 < 2 by decide)
          by_cases w : S % 2 = 1
          · rw [w]; exact b.mpr w
          · have : ¬ ((p - 1) &&& S) % 2 = 1 := fun y => w (b.mp y)
            omega
        omega
      · omega
theorem sub_lt {p S : Nat} (h : 0 < p) : (p - 1) &&& S < p := Nat.lt_of_le_of_lt Nat.and_le_left (by omega)
theorem sub_sbm {p S : Nat} : sbm ((p - 1) &&& S) S := fun x hx => by
  rw [Nat.testBit_and] at hx
  exact (Bool.and_eq_true _ _ ▸ hx : _ ∧ _).2
/-- what the first j sets from the greatest down give -/
def prL (B : Nat → List Nat) (S : Nat) : Nat → List Nat
  | 0 => []
  | j + 1 => prL B S j ++ B (S - j)
theorem prL_dn {B : Nat → List Nat} {S : Nat} : ∀ j, j ≤ S → (dnL S).flatMap B = prL B S j ++ (dnL (S - j)).flatMap B
  | 0, _ => rfl
  | j + 1, h => by
    rw [prL_dn j (by omega)]
    obtain ⟨k, hk⟩ : ∃ k, S - j = k + 1 := ⟨S - j - 1, by omega⟩
    rw [hk, show S - (j + 1) = k by omega]
    show prL B S j ++ ((k + 1) :: dnL k).flatMap B = (prL B S j ++ B (S - j)) ++ (dnL k).flatMap B
    rw [List.flatMap_cons, List.append_assoc, hk]
theorem prL_all {B : Nat → List Nat} {S : Nat} : (dnL S).flatMap B = prL B S S := by
  rw [prL_dn S (Nat.le_refl _), Nat.sub_self]
  show _ ++ [] = _
  rw [List.append_nil]
theorem prL_skip {B : Nat → List Nat} {S j : Nat} : ∀ d, (∀ i, j ≤ i → i < j + d → B (S - i) = []) → prL B S (j + d) = prL B S j
  | 0, _ => rfl
  | d + 1, h => by
    show prL B S (j + d) ++ B (S - (j + d)) = _
    rw [h (j + d) (by omega) (by omega), List.append_nil]
    exact prL_skip d (fun i h1 h2 => h i h1 (by omega))
/-- on to the next smaller part -/
theorem prL_next {F : Nat → Nat → Bool} {Q : Nat → Bool} {M n S p : Nat} (hp : 0 < p) (hS : p ≤ S) (s : sbm p S) : prL (blk F Q M n S) S (S - ((p - 1) &&& S)) = prL (blk F Q M n S) S (S - p) ++ blk F Q M n S p := by
  have lt := sub_lt (S := S) hp
  have e : S - ((p - 1) &&& S) = (S - p + 1) + (p - 1 - ((p - 1) &&& S)) := by omega
  rw [e, prL_skip (j := S - p + 1)]
  · show prL (blk F Q M n S) S (S - p) ++ blk F Q M n S (S - (S - p)) = _
    rw [show S - (S - p) = p by omega]
  · intro i h1 h2
    refine if_neg (fun w => ?_)
    have := sub_next (p + 1) (p := p) (m := S - i) (S := S) (by omega) s (sbm_and.mpr w.1) (by omega)
    omega
/-! the rows of a set by their ends, one after another -/
def prt (F : Nat → Nat → Bool) (n s x a : Nat) : Nat := ((List.range a).map (fun c => if s.testBit c = true ∧ F c x = true then hN F n s c else 0)).sum
def val (F : Nat → Nat → Bool) (n s a b T x : Nat) : Nat :=
  if T.testBit x = false then 0 else if T = 2 ^ x then 1 else if T - 2 ^ x < s then hN F n T x else if T - 2 ^ x = s then prt F n s x (if x < b then a + 1 else a) else 0
theorem prt_n {F : Nat → Nat → Bool} {n T x : Nat} (h : T.testBit x = true) (hx : T ≠ 2 ^ x) : prt F n (T - 2 ^ x) x n = hN F n T x := (hN_s h hx).symm
theorem prt_s {F : Nat → Nat → Bool} {n s x a : Nat} : prt F n s x (a + 1) = prt F n s x a + (if s.testBit a = true ∧ F a x = true then hN F n s a else 0) := by
  unfold prt
  exact sum_1
theorem val_set {F : Nat → Nat → Bool} {n s T x : Nat} : val F n s n 0 T x = val F n (s + 1) 0 0 T x := by
  unfold val
  split
  · rfl
  · rename_i h1
    split
    · rfl
    · rename_i h2
      have h1' : T.testBit x = true := by
        cases q : T.testBit x with
        | true => rfl
        | false => exact absurd q h1
      rcases Nat.lt_trichotomy (T - 2 ^ x) s with z | z | z
      · rw [if_pos z, if_pos (by omega)]
      · rw [if_neg (show ¬ T - 2 ^ x < s by omega), if_pos z, if_neg (Nat.not_lt_zero x), if_pos (show T - 2 ^ x < s + 1 by omega), ← z, prt_n h1' h2]
      · rw [if_neg (by omega), if_neg (by omega), if_neg (by omega)]
        split
        · rw [if_neg (Nat.not_lt_zero x)]; rfl
        · rfl
theorem val_a {F : Nat → Nat → Bool} {n s a T x : Nat} (hx : x < n) : val F n s a n T x = val F n s (a + 1) 0 T x := by
  unfold val
  rw [if_pos hx, if_neg (Nat.not_lt_zero x)]
/-- no row of this set ends here -/
theorem val_a0 {F : Nat → Nat → Bool} {n s a b T x : Nat} (h : hN F n s a = 0) : val F n s a b T x = val F n s (a + 1) 0 T x := by
  unfold val
  rw [if_neg (Nat.not_lt_zero x)]
  have e : prt F n s x (if x < b then a + 1 else a) = prt F n s x (a + 1) := by
    split
    · rfl
    · rw [prt_s, h]; split <;> rfl
  rw [e]
theorem val_at {F : Nat → Nat → Bool} {n s a x : Nat} : val F n s a 0 s x = hN F n s x := by
  unfold val
  split
  · rename_i h; exact (hN_no h).symm
  · rename_i h1
    split
    · rename_i h2; rw [h2]; exact hN_1.symm
    · have h1' : s.testBit x = true := by
        cases q : s.testBit x with
        | true => rfl
        | false => exact absurd q h1
      have le := pow_le h1'
      have pp : 0 < 2 ^ x := Nat.pow_pos (by decide)
      rw [if_pos (by omega)]
theorem val_b {F : Nat → Nat → Bool} {n s a b T x : Nat} : val F n s a (b + 1) T x = val F n s a b T x + (if x = b ∧ T = s + 2 ^ b ∧ s.testBit b = false ∧ s ≠ 0 ∧ F a b = true then hN F n s a else 0) := by
  have pp : 0 < 2 ^ b := Nat.pow_pos (by decide)
  by_cases c : x = b ∧ T = s + 2 ^ b ∧ s.testBit b = false ∧ s ≠ 0
  · obtain ⟨c1, c2, c3, c4⟩ := c
    subst c1
    have tb : T.testBit x = true := by rw [c2, Nat.add_comm, Nat.testBit_two_pow_add_eq, c3]; rfl
    unfold val
    have k1 : ¬ T.testBit x = false := by rw [tb]; exact Bool.noConfusion
    have k2 : ¬ T = 2 ^ x := by omega
    have k3 : ¬ T - 2 ^ x < s := by omega
    have k4 : T - 2 ^ x = s := by omega
    rw [if_neg k1, if_neg k2, if_neg k3, if_pos k4, if_pos (show x < x + 1 by omega), if_neg k1, if_neg k2, if_neg k3, if_pos k4, if_neg (Nat.lt_irrefl x), prt_s]
    congr 1
    by_cases f : F a x = true
    · rw [if_pos (show x = x ∧ T = s + 2 ^ x ∧ s.testBit x = false ∧ s ≠ 0 ∧ F a x = true from ⟨rfl, c2, c3, c4, f⟩)]
      by_cases t : s.testBit a = true
      · rw [if_pos ⟨t, f⟩]
      · rw [if_neg (fun z => t z.1)]
        refine (hN_no ?_).symm
        cases q : s.testBit a with
        | false => rfl
        | true => exact absurd q t
    · rw [if_neg (show ¬ (s.testBit a = true ∧ F a x = true) from fun z => f z.2), if_neg (show ¬ (x = x ∧ T = s + 2 ^ x ∧ s.testBit x = false ∧ s ≠ 0 ∧ F a x = true) from fun z => f z.2.2.2.2)]
  · rw [if_neg (fun z => c ⟨z.1, z.2.1, z.2.2.1, z.2.2.2.1⟩)]
    show val F n s a (b + 1) T x = val F n s a b T x
    unfold val
    by_cases h1 : T.testBit x = false
    · rw [if_pos h1, if_pos h1]
    · rw [if_neg h1, if_neg h1]
      have h1' : T.testBit x = true := by
        cases q : T.testBit x with
        | true => rfl
        | false => exact absurd q h1
      by_cases h2 : T = 2 ^ x
      · rw [if_pos h2, if_pos h2]
      · rw [if_neg h2, if_neg h2]
        by_cases h3 : T - 2 ^ x < s
        · rw [if_pos h3, if_pos h3]
        · rw [if_neg h3, if_neg h3]
          by_cases h4 : T - 2 ^ x = s
          · rw [if_pos h4, if_pos h4]
            have le := pow_le h1'
            have ne : x ≠ b := fun e => by
              subst e
              refine c ⟨rfl, by omega, ?_, by omega⟩
              rw [← h4, sub_pow h1', h1', decide_eq_true rfl]; rfl
            by_cases q : x < b
            · rw [if_pos (by omega), if_pos q]
            · rw [if_neg (by omega), if_neg q]
          · rw [if_neg h4, if_neg h4]
theorem val_0 {F : Nat → Nat → Bool} {n T x : Nat} : val F n 1 0 0 T x = if T = 2 ^ x then 1 else 0 := by
  unfold val
  by_cases h2 : T = 2 ^ x
  · rw [if_pos h2, if_pos h2, if_neg]
    rw [h2, Nat.testBit_two_pow, decide_eq_true rfl]; exact Bool.noConfusion
  · rw [if_neg h2, if_neg h2]
    split
    · rfl
    · rename_i h1
      have h1' : T.testBit x = true := by
        cases q : T.testBit x with
        | true => rfl
        | false => exact absurd q h1
      have le := pow_le h1'
      rw [if_neg (by omega), if_neg (Nat.not_lt_zero x)]
      split <;> rfl
theorem val_le {F : Nat → Nat → Bool} {n s a b T x : Nat} (hn : n ≤ 10) (hT : T < 2 ^ n) (hs : s < 2 ^ n) (ha : a ≤ n) : val F n s a b T x ≤ 4000000 := by
  have pb : ∀ k, k ≤ 11 → prt F n s x k ≤ 4000000 := fun k hk => by
    have := sum_b (g := fun c => if s.testBit c = true ∧ F c x = true then hN F n s c else 0) (X := 362880) (fun c => by
      show (if s.testBit c = true ∧ F c x = true then hN F n s c else 0) ≤ _
      split
      · exact hN_b hn hs
      · omega) k
    have h2 : k * 362880 ≤ 11 * 362880 := Nat.mul_le_mul_right _ hk
    exact Nat.le_trans this (Nat.le_trans h2 (by decide))
  unfold val
  split
  · omega
  · split
    · omega
    · split
      · exact Nat.le_trans (hN_b hn hT) (by decide)
      · split
        · exact pb _ (by split <;> omega)
        · omega
theorem i_nat {x : Int32} {m : Nat} : x.toInt = (m : Int) ↔ (x.toBitVec.toNat = m ∧ m < 2147483648) := by
  have hx := x.toBitVec.isLt
  have e : x.toInt = x.toBitVec.toInt := rfl
  rw [e, BitVec.toInt_eq_toNat_cond]
  split <;> omega
theorem i_and {x y : Int32} {s t : Nat} (hx : x.toInt = (s : Int)) (hy : y.toInt = (t : Int)) : (x &&& y).toInt = ((s &&& t : Nat) : Int) := by
  rw [i_nat] at hx hy ⊢
  rw [Int32.toBitVec_and, BitVec.toNat_and, hx.1, hy.1]
  exact ⟨rfl, Nat.lt_of_le_of_lt Nat.and_le_left hx.2⟩
theorem i_or {x y : Int32} {s t : Nat} (hx : x.toInt = (s : Int)) (hy : y.toInt = (t : Int)) : (x ||| y).toInt = ((s ||| t : Nat) : Int) := by
  rw [i_nat] at hx hy ⊢
  rw [Int32.toBitVec_or, BitVec.toNat_or, hx.1, hy.1]
  exact ⟨rfl, Nat.or_lt_two_pow (n := 31) hx.2 hy.2⟩
theorem or_pow {s b : Nat} (h : s.testBit b = false) : s ||| 2 ^ b = s + 2 ^ b := by
  have hb : (s ||| 2 ^ b).testBit b = true := by rw [Nat.testBit_or, Nat.testBit_two_pow, decide_eq_true rfl, Bool.or_true]
  have le := pow_le hb
  have e : s ||| 2 ^ b = (s ||| 2 ^ b) - 2 ^ b + 2 ^ b := by omega
  have e2 : (s ||| 2 ^ b) - 2 ^ b = s := Nat.eq_of_testBit_eq (fun i => by
    rw [sub_pow hb, Nat.testBit_or, Nat.testBit_two_pow]
    by_cases q : b = i
    · subst q; rw [h, decide_eq_true rfl]; rfl
    · rw [decide_eq_false q, Bool.or_false, Bool.not_false, Bool.and_true])
  rw [e2] at e; exact e
theorem bit1_t : ∀ k, k < 11 → (bit1 k).toInt = ((2 ^ k : Nat) : Int) := by decide +kernel
theorem low_t : ∀ s, s < 1024 → s = 0 ∨ (Int32.ofNat s &&& -(Int32.ofNat s)) = bit1 (lwB s) := by decide +kernel
theorem shk_t : ∀ k, k < 10 → (Int32.ofNat k &&& 31).toBitVec.smod 32 = BitVec.ofNat 32 k := by decide +kernel
theorem ibt_sh {x : Int32} {k : Nat} (hk : k < 10) : ibt (x >>> (Int32.ofNat k &&& 31)) 0 = ibt x k := by
  unfold ibt
  rw [Int32.toBitVec_shiftRight, BitVec.sshiftRight_eq', shk_t k hk, BitVec.getLsbD_sshiftRight]
  rw [BitVec.toNat_ofNat, Nat.mod_eq_of_lt (by omega)]
  simp
  omega
theorem ibt_bit {x : Int32} {k : Nat} (hk : k < 10) : ((x >>> (Int32.ofNat k &&& 31)) &&& 1 = 1 ↔ ibt x k = true) ∧ ((x >>> (Int32.ofNat k &&& 31)) &&& 1 = 0 ↔ ibt x k = false) := by
  have e := ibt_sh (x := x) hk
  generalize x >>> (Int32.ofNat k &&& 31) = y at e ⊢
  have b1 : ∀ b, b < 32 → ibt 1 b = decide (b = 0) := by decide
  have key : ∀ z : Int32, (∀ b, b < 32 → ibt z b = (ibt y b && decide (b = 0))) → (z = 1 ↔ ibt y 0 = true) ∧ (z = 0 ↔ ibt y 0 = false) := fun z hz => by
    refine ⟨⟨fun w => ?_, fun w => ibt_ext (fun b hb => ?_)⟩, ⟨fun w => ?_, fun w => ibt_ext (fun b hb => ?_)⟩⟩
    · have := hz 0 (by decide)
      rw [w, decide_eq_true rfl, Bool.and_true] at this
      rw [← this]; decide
    · rw [hz b hb, b1 b hb]
      by_cases q : b = 0
      · rw [q, w]; rfl
      · rw [decide_eq_false q, Bool.and_false]
    · have := hz 0 (by decide)
      rw [w, decide_eq_true rfl, Bool.and_true] at this
      rw [← this]; exact ibt_0
    · rw [hz b hb, ibt_0]
      by_cases q : b = 0
      · rw [q, w]; rfl
      · rw [decide_eq_false q, Bool.and_false]
  rw [← e]
  exact key (y &&& 1) (fun b hb => by rw [ibt_and, b1 b hb])
end K96
