set_option maxRecDepth 4000
/-! ===== rows of signs: joined, and how many ===== -/
section K88
theorem itN_inj {nx : Nat → Nat} (n10 : nx 10 = 10) (inj : ∀ a c, nx a = nx c → nx a ≠ 10 → a = c) : ∀ j y z, itN nx j y = itN nx j z → itN nx j y ≠ 10 → y = z
  | 0, _, _, e, _ => e
  | j + 1, y, z, e, h => by
    rw [itN_s, itN_s] at e
    rw [itN_s] at h
    have := inj _ _ e h
    exact itN_inj n10 inj j y z this (fun w => h (by rw [w]; exact n10))
theorem up_same {nx : Nat → Nat} {i b : Nat} : ∀ k x, (∀ m, m < k → itN nx m x ≠ i) → itN (upN nx i b) k x = itN nx k x
  | 0, _, _ => rfl
  | k + 1, x, h => by
    have h0 : x ≠ i := h 0 (by omega)
    show itN (upN nx i b) k (upN nx i b x) = itN nx k (nx x)
    rw [show upN nx i b x = nx x from if_neg h0]
    exact up_same k (nx x) (fun m hm => h (m + 1) (by omega))
/-- joining two rows -/
theorem join_yes {F : Nat → Nat → Bool} {M n i b eb j fi : Nat} {nx : Nat → Nat} (hn : n ≤ 10) (hi : i < n) (p : PV F M n i nx) (hb : itN nx eb b ≠ 10) (hb1 : itN nx (eb + 1) b = 10) (hl : itN nx eb b ≠ i) (hf : itN nx j fi = i) (hp : ∀ a, nx a ≠ fi) (hM : 2 + eb + j ≤ M) : ∀ a, itN (upN nx i b) M a = 10 := fun a => by
  obtain ⟨h1, h2, h3, h4⟩ := p
  have n10 : nx 10 = 10 := h1 10 (by omega)
  have nxi : nx i = 10 := h1 i (Nat.le_refl _)
  have u10 : upN nx i b 10 = 10 := (if_neg (by omega)).trans n10
  -- the row of b doesn't come by i
  have av : ∀ m, m ≤ eb → itN nx m b ≠ i := fun m hm e => by
    by_cases z : m = eb
    · rw [z] at e; exact hl e
    · have : itN nx (m + 1) b = 10 := by rw [itN_s, e]; exact nxi
      exact hb (itN_ab n10 this (by omega))
  have rb : itN (upN nx i b) (eb + 1) b = 10 := by rw [up_same (eb + 1) b (fun m hm => av m (by omega))]; exact hb1
  rcases Classical.em (∃ k, k < M ∧ itN nx k a = i) with ⟨k, _, hk⟩ | no
  · have i10 : i ≠ 10 := by omega
    -- k is the first
    have fst : ∀ m, m < k → itN nx m a ≠ i := fun m hm e => by
      have : itN nx (m + 1) a = 10 := by rw [itN_s, e]; exact nxi
      have := itN_ab n10 this (show m + 1 ≤ k by omega)
      rw [hk] at this; exact i10 this
    have kj : k ≤ j := Classical.byContradiction fun z => by
      have e : itN nx j (itN nx (k - j) a) = itN nx j fi := by
        rw [← itN_add, show j + (k - j) = k by omega, hk, hf]
      have := itN_inj n10 h3 j _ _ e (by rw [← itN_add, show j + (k - j) = k by omega, hk]; exact i10)
      rw [show k - j = (k - j - 1) + 1 by omega, itN_s] at this
      exact hp _ this
    have e1 : itN (upN nx i b) (k + 1) a = b := by
      rw [itN_s, up_same k a fst, hk]; exact if_pos rfl
    have e2 : itN (upN nx i b) (eb + 1 + (k + 1)) a = 10 := by rw [itN_add, e1]; exact rb
    exact itN_ab u10 e2 (by omega)
  · rw [up_same M a (fun m hm e => no ⟨m, hm, e⟩)]; exact h4 a
theorem join_cyc {F : Nat → Nat → Bool} {M n i b eb : Nat} {nx : Nat → Nat} (hn : n ≤ 10) (hi : i < n) (hb : b < n) (p : PV F M n i nx) (hl : itN nx eb b = i) : ¬ ∀ a, a < n → itN (upN nx i b) M a = 10 := fun w => by
  obtain ⟨h1, h2, h3, h4⟩ := p
  have n10 : nx 10 = 10 := h1 10 (by omega)
  have nxi : nx i = 10 := h1 i (Nat.le_refl _)
  have u10 : upN nx i b 10 = 10 := (if_neg (by omega)).trans n10
  have av : ∀ m, m < eb → itN nx m b ≠ i := fun m hm e => by
    have : itN nx (m + 1) b = 10 := by rw [itN_s, e]; exact nxi
    have := itN_ab n10 this (show m + 1 ≤ eb by omega)
    omega
  have e1 : itN (upN nx i b) (eb + 1) b = b := by
    rw [itN_s, up_same eb b av, hl]; exact if_pos rfl
  have e2 : ∀ t, itN (upN nx i b) (t * (eb + 1)) b = b := by
    intro t
    induction t with
    | zero => rw [Nat.zero_mul]; rfl
    | succ t ih => rw [Nat.succ_mul, itN_add, e1]; exact ih
  have e3 := itN_ab u10 (w b hb) (show M ≤ M * (eb + 1) from Nat.le_mul_of_pos_right M (by omega))
  rw [e2] at e3; omega
theorem join_long {F : Nat → Nat → Bool} {M n i b eb j fi : Nat} {nx : Nat → Nat} (hn : n ≤ 10) (hi : i < n) (p : PV F M n i nx) (hb : itN nx eb b ≠ 10) (hl : itN nx eb b ≠ i) (hf : itN nx j fi = i) (hM : M < 2 + eb + j) : ¬ ∀ a, a < n → itN (upN nx i b) M a = 10 := fun w => by
  obtain ⟨h1, h2, h3, h4⟩ := p
  have n10 : nx 10 = 10 := h1 10 (by omega)
  have nxi : nx i = 10 := h1 i (Nat.le_refl _)
  have u10 : upN nx i b 10 = 10 := (if_neg (by omega)).trans n10
  have fn : fi < n := Classical.byContradiction fun z => by
    cases j with
    | zero => have e : fi = i := hf; omega
    | succ j =>
      have : itN nx j (nx fi) = i := hf
      rw [h1 fi (by omega), itN_10 n10] at this; omega
  have fst : ∀ m, m < j → itN nx m fi ≠ i := fun m hm e => by
    have : itN nx (m + 1) fi = 10 := by rw [itN_s, e]; exact nxi
    have := itN_ab n10 this (show m + 1 ≤ j by omega)
    omega
  have e1 : itN (upN nx i b) (j + 1) fi = b := by
    rw [itN_s, up_same j fi fst, hf]; exact if_pos rfl
  have av : ∀ m, m < eb → itN nx m b ≠ i := fun m hm e => by
    have : itN nx (m + 1) b = 10 := by rw [itN_s, e]; exact nxi
    exact hb (itN_ab n10 this (by omega))
  have e2 : itN (upN nx i b) (eb + (j + 1)) fi = itN nx eb b := by rw [itN_add, e1, up_same eb b av]
  have e3 := itN_ab u10 (w fi fn) (show M ≤ eb + (j + 1) by omega)
  rw [e2] at e3; exact hb e3
/-! no count overflows -/
theorem fm_le {α β : Type} {P : α → Bool} {g : α → List β} {X : Nat} : ∀ {l : List α}, (∀ x, x ∈ l → (P x = true → (g x).length ≤ X) ∧ (P x = false → g x = [])) → (l.flatMap g).length ≤ l.countP P * X
  | [], _ => Nat.zero_le _
  | a :: l, h => by
    have ih := fm_le (l := l) (fun x hx => h x (List.mem_cons_of_mem _ hx))
    obtain ⟨h1, h2⟩ := h a (List.mem_cons_self ..)
    rw [List.flatMap_cons, List.length_append, List.countP_cons]
    cases q : P a with
    | true => have := h1 q; rw [if_pos rfl, Nat.add_mul]; omega
    | false =>
      rw [h2 q, if_neg Bool.false_ne_true, Nat.add_zero]
      show 0 + _ ≤ _
      omega
def frc (n : Nat) (nx : Nat → Nat) : Nat := cB n (fun b => decide (∀ a, a < n → nx a ≠ b))
def gBN : Nat → Nat → Nat
  | 0, _ => 1
  | r + 1, u => u * gBN r (u - 1) + gBN r u
theorem frc_up {n i b : Nat} {nx : Nat → Nat} (hn : n ≤ 10) (hi : i < n) (hb : b < n) (nxi : nx i = 10) (fr : ∀ a, a < n → nx a ≠ b) : frc n nx = frc n (upN nx i b) + 1 := by
  rw [← cP_one (n := n) (a := b) hb]
  unfold frc cB
  refine cP_or (fun x hx => ?_)
  have xn := List.mem_range.mp hx
  have key : (∀ a, a < n → upN nx i b a ≠ x) ↔ ((∀ a, a < n → nx a ≠ x) ∧ x ≠ b) := by
    refine ⟨fun h => ⟨fun a ha e => ?_, fun e => ?_⟩, fun ⟨h1, h2⟩ a ha e => ?_⟩
    · by_cases z : a = i
      · rw [z, nxi] at e; omega
      · exact h a ha ((if_neg z).trans e)
    · exact h i hi ((if_pos rfl).trans e.symm)
    · by_cases z : a = i
      · have : b = x := (if_pos z).symm.trans e
        exact h2 this.symm
      · exact h1 a ha ((if_neg z).symm.trans e)
  constructor
  · rw [decide_eq_true_eq, decide_eq_true_eq, decide_eq_true_eq, key]
    refine ⟨fun h => ?_, fun h => ?_⟩
    · by_cases z : x = b
      · exact Or.inr z
      · exact Or.inl ⟨h, z⟩
    · rcases h with h | h
      · exact h.1
      · rw [h]; exact fr
  · rw [decide_eq_true_eq, decide_eq_true_eq, key]
    exact fun h => h.1.2 h.2
theorem DS_len {F : Nat → Nat → Bool} {M n L : Nat} (hn : n ≤ 10) (hM : 1 ≤ M) : ∀ r i nx en, i + r = n → PV F M n i nx → (DS F M n L r i nx en).length ≤ gBN r (frc n nx)
  | 0, _, _, _, _, _ => Nat.le_refl _
  | r + 1, i, nx, en, hi, p => by
    show (if L < en + efB F n i nx then [] else _ ++ _).length ≤ frc n nx * gBN r (frc n nx - 1) + gBN r (frc n nx)
    have nxi : nx i = 10 := p.1 i (Nat.le_refl _)
    split
    · exact Nat.zero_le _
    · rw [List.length_append]
      refine Nat.add_le_add ?_ ?_
      · refine Nat.le_trans (fm_le (P := fun b => decide (∀ a, a < n → nx a ≠ b)) (X := gBN r (frc n nx - 1)) (fun b hb => ⟨fun z => ?_, fun z => ?_⟩)) (Nat.le_refl _)
        · split
          · rename_i w
            have bn := List.mem_range.mp hb
            have := DS_len (L := L) hn hM r (i + 1) (upN nx i b) en (by omega) (PV_some hn hM (by omega) bn p w)
            rw [frc_up hn (show i < n by omega) bn nxi (jnB_iff.mp w).2.1, Nat.add_sub_cancel]; exact this
          · exact Nat.zero_le _
        · rw [if_neg (fun w => of_decide_eq_false z (jnB_iff.mp w).2.1)]
      · split
        · exact DS_len hn hM r (i + 1) nx (en + 1) (by omega) (PV_none p)
        · exact Nat.zero_le _
def nx0 : Nat → Nat := fun _ => 10
theorem frc_0 {n : Nat} (hn : n ≤ 10) : frc n nx0 = n := by
  unfold frc cB
  have : (List.range n).countP (fun b => decide (∀ a, a < n → nx0 a ≠ b)) = (List.range n).length := List.countP_eq_length.mpr (fun x hx => decide_eq_true (fun a _ e => by
    have h : (10 : Nat) = x := e
    have := List.mem_range.mp hx
    omega))
  rw [this, List.length_range]
theorem gBN_t : ∀ n, n < 11 → gBN n n ≤ 234662231 := by decide +kernel
theorem PV_0 {F : Nat → Nat → Bool} {M n : Nat} (hM : 1 ≤ M) : PV F M n 0 nx0 := by
  refine ⟨fun _ _ => rfl, fun a ha => by omega, fun a c _ h => absurd rfl h, fun a => ?_⟩
  rw [show M = (M - 1) + 1 by omega, itN_s]; rfl
theorem DS_len0 {F : Nat → Nat → Bool} {M n L : Nat} (hn : n ≤ 10) (hM : 1 ≤ M) : (DS F M n L n 0 nx0 0).length ≤ 234662231 := by
  have := DS_len (L := L) (F := F) hn hM n 0 nx0 0 (by omega) (PV_0 hM)
  rw [frc_0 hn] at this
  exact Nat.le_trans this (gBN_t n (by omega))
end K88
