set_option maxRecDepth 4000
/-! ===== rows of signs: sign by sign ===== -/
section K86
/-! going deep: sign by sign -/
def upN (nx : Nat → Nat) (i v : Nat) : Nat → Nat := fun x => if x = i then v else nx x
def jnB (F : Nat → Nat → Bool) (M n i : Nat) (nx : Nat → Nat) (b : Nat) : Bool := F i b && decide (∀ a, a < n → nx a ≠ b) && decide (∀ a, a < n → itN (upN nx i b) M a = 10)
def efB (F : Nat → Nat → Bool) (n i : Nat) (nx : Nat → Nat) : Nat := cB n (fun k => decide (i ≤ k) && decide (∀ b, b < n → F k b = true → ∃ a, a < n ∧ nx a = b))
def DS (F : Nat → Nat → Bool) (M n L : Nat) : Nat → Nat → (Nat → Nat) → Nat → List (Nat → Nat)
  | 0, _, nx, _ => [nx]
  | r + 1, i, nx, en => if L < en + efB F n i nx then [] else (List.range n).flatMap (fun b => if jnB F M n i nx b = true then DS F M n L r (i + 1) (upN nx i b) en else []) ++ (if en < L then DS F M n L r (i + 1) nx (en + 1) else [])
/-- made up to sign i -/
def PV (F : Nat → Nat → Bool) (M n i : Nat) (nx : Nat → Nat) : Prop :=
  (∀ a, i ≤ a → nx a = 10) ∧ (∀ a, a < i → nx a = 10 ∨ (nx a < n ∧ F a (nx a) = true)) ∧ (∀ a c, nx a = nx c → nx a ≠ 10 → a = c) ∧ ∀ a, itN nx M a = 10
theorem full_bit {n a : Nat} : (2 ^ n - 1).testBit a = decide (a < n) := Nat.testBit_two_pow_sub_one n a
theorem PV_Co {F : Nat → Nat → Bool} {M n : Nat} {nx : Nat → Nat} : PV F M n n nx ↔ Co F (fun _ => false) M (2 ^ n - 1) nx := by
  unfold PV Co
  refine ⟨fun ⟨h1, h2, h3, h4⟩ => ⟨fun a ha => ?_, fun a ha => ?_, h3, h4⟩, fun ⟨h1, h2, h3, h4⟩ => ⟨fun a ha => ?_, fun a ha => ?_, h3, h4⟩⟩
  · rw [full_bit] at ha
    have := of_decide_eq_false ha
    exact h1 a (by omega)
  · rw [full_bit] at ha
    refine (h2 a (of_decide_eq_true ha)).imp (fun z => ⟨z, rfl⟩) (fun z => ⟨?_, z.2⟩)
    rw [full_bit]; exact decide_eq_true z.1
  · exact h1 a (by rw [full_bit]; exact decide_eq_false (by omega))
  · refine (h2 a (by rw [full_bit]; exact decide_eq_true ha)).imp (fun z => z.1) (fun z => ⟨?_, z.2⟩)
    have := z.1
    rw [full_bit] at this
    exact of_decide_eq_true this
theorem itN_part {nx g : Nat → Nat} (n10 : nx 10 = 10) (h : ∀ x, g x = nx x ∨ g x = 10) : ∀ k x, itN g k x = itN nx k x ∨ itN g k x = 10
  | 0, _ => Or.inl rfl
  | k + 1, x => by
    have g10 : g 10 = 10 := (h 10).elim (fun z => z.trans n10) (fun z => z)
    show itN g k (g x) = itN nx k (nx x) ∨ itN g k (g x) = 10
    rcases h x with z | z
    · rw [z]; exact itN_part n10 h k _
    · rw [z]; exact Or.inr (itN_10 g10 k)
theorem PV_none {F : Nat → Nat → Bool} {M n i : Nat} {nx : Nat → Nat} (p : PV F M n i nx) : PV F M n (i + 1) nx := by
  obtain ⟨h1, h2, h3, h4⟩ := p
  refine ⟨fun a ha => h1 a (by omega), fun a ha => ?_, h3, h4⟩
  by_cases z : a < i
  · exact h2 a z
  · exact Or.inl (h1 a (by omega))
theorem jnB_iff {F : Nat → Nat → Bool} {M n i : Nat} {nx : Nat → Nat} {b : Nat} : jnB F M n i nx b = true ↔ F i b = true ∧ (∀ a, a < n → nx a ≠ b) ∧ ∀ a, a < n → itN (upN nx i b) M a = 10 := by
  unfold jnB
  rw [Bool.and_eq_true, Bool.and_eq_true, decide_eq_true_eq, decide_eq_true_eq, and_assoc]
theorem PV_some {F : Nat → Nat → Bool} {M n i b : Nat} {nx : Nat → Nat} (hn : n ≤ 10) (hM : 1 ≤ M) (hi : i < n) (hb : b < n) (p : PV F M n i nx) (j : jnB F M n i nx b = true) : PV F M n (i + 1) (upN nx i b) := by
  obtain ⟨h1, h2, h3, h4⟩ := p
  obtain ⟨j1, j2, j3⟩ := jnB_iff.mp j
  have fr : ∀ a, nx a ≠ b := fun a e => by
    by_cases z : a < n
    · exact j2 a z e
    · have := h1 a (by omega); omega
  unfold upN at j3 ⊢
  refine ⟨fun a ha => ?_, fun a ha => ?_, fun a c e hne => ?_, fun a => ?_⟩
  · show (if a = i then b else nx a) = 10
    rw [if_neg (by omega)]; exact h1 a (by omega)
  · show (if a = i then b else nx a) = 10 ∨ ((if a = i then b else nx a) < n ∧ F a (if a = i then b else nx a) = true)
    by_cases z : a = i
    · rw [if_pos z, z]; exact Or.inr ⟨hb, j1⟩
    · rw [if_neg z]; exact h2 a (by omega)
  · have e' : (if a = i then b else nx a) = (if c = i then b else nx c) := e
    have hne' : (if a = i then b else nx a) ≠ 10 := hne
    by_cases z : a = i
    · by_cases y : c = i
      · rw [z, y]
      · rw [if_pos z, if_neg y] at e'; exact absurd e'.symm (fr c)
    · by_cases y : c = i
      · rw [if_neg z, if_pos y] at e'; exact absurd e' (fr a)
      · rw [if_neg z, if_neg y] at e'
        rw [if_neg z] at hne'
        exact h3 a c e' hne'
  · by_cases z : a < n
    · exact j3 a z
    · rw [show M = (M - 1) + 1 by omega]
      show itN (fun x => if x = i then b else nx x) (M - 1) (if a = i then b else nx a) = 10
      rw [if_neg (by omega), h1 a (by omega)]
      refine itN_10 ?_ _
      show (if 10 = i then b else nx 10) = 10
      rw [if_neg (by omega)]; exact h1 10 (by omega)
def enB (i : Nat) (nx : Nat → Nat) : Nat := cB i (fun a => decide (nx a = 10))
theorem enB_s {i : Nat} {nx : Nat → Nat} : enB (i + 1) nx = enB i nx + (if nx i = 10 then 1 else 0) := by
  unfold enB cB
  rw [List.range_succ, List.countP_append, List.countP_cons, List.countP_nil]
  by_cases e : nx i = 10
  · rw [if_pos (decide_eq_true e), if_pos e]
  · rw [if_neg (by rw [decide_eq_false e]; exact Bool.false_ne_true), if_neg e]
theorem enB_cg {i : Nat} {nx g : Nat → Nat} (h : ∀ a, a < i → nx a = g a) : enB i nx = enB i g := by
  unfold enB cB
  exact cP_cg (fun x hx => by rw [h x (List.mem_range.mp hx)])
theorem enB_up {i b : Nat} {nx : Nat → Nat} : enB i (upN nx i b) = enB i nx := enB_cg (fun a ha => if_neg (by omega))
theorem enB_le {nx : Nat → Nat} : ∀ {i k}, enB i nx ≤ enB (i + k) nx
  | i, 0 => Nat.le_refl _
  | i, k + 1 => by
    have := enB_le (nx := nx) (i := i) (k := k)
    rw [← Nat.add_assoc, enB_s]; omega
theorem enB_full {n : Nat} {nx : Nat → Nat} : enS n (2 ^ n - 1) nx = enB n nx := by
  unfold enS enB cB
  refine cP_cg (fun x hx => ?_)
  rw [full_bit, decide_eq_true (List.mem_range.mp hx), Bool.true_and]
theorem DS_mem {F : Nat → Nat → Bool} {M n L : Nat} (hn : n ≤ 10) (hM : 1 ≤ M) : ∀ r i nx, i + r = n → PV F M n i nx → enB i nx ≤ L → ∀ g, g ∈ DS F M n L r i nx (enB i nx) ↔ PV F M n n g ∧ (∀ a, a < i → g a = nx a) ∧ enB n g ≤ L
  | 0, i, nx, hi, p, he, g => by
    have e : i = n := by omega
    subst e
    show g ∈ [nx] ↔ _
    rw [List.mem_singleton]
    refine ⟨fun e => by subst e; exact ⟨p, fun _ _ => rfl, he⟩, fun ⟨h1, h2, _⟩ => funext fun a => ?_⟩
    by_cases z : a < i
    · exact h2 a z
    · rw [h1.1 a (by omega), p.1 a (by omega)]
  | r + 1, i, nx, hi, p, he, g => by
    show g ∈ (if L < enB i nx + efB F n i nx then [] else _ ++ _) ↔ _
    have nxi : nx i = 10 := p.1 i (Nat.le_refl _)
    have e1 : enB (i + 1) nx = enB i nx + 1 := by rw [enB_s, if_pos nxi]
    have fwd : PV F M n n g → (∀ a, a < i → g a = nx a) → enB n g ≤ L → enB i nx + efB F n i nx ≤ L := fun h1 h2 h3 => by
      refine Nat.le_trans (Nat.le_of_eq ?_) (Nat.le_trans (cP_le (P := fun a => decide (a < i ∧ nx a = 10) || (decide (i ≤ a) && decide (∀ b, b < n → F a b = true → ∃ c, c < n ∧ nx c = b))) (fun a ha z => ?_)) h3)
      · refine ((cP_or (R := fun a => decide (a < i ∧ nx a = 10)) (fun x _ => ⟨Iff.of_eq (Bool.or_eq_true _ _), fun z => ?_⟩)).trans ?_).symm
        · have a1 := of_decide_eq_true z.1
          have a2 := of_decide_eq_true ((Bool.and_eq_true _ _ ▸ z.2 : _ ∧ _).1)
          omega
        · show _ + efB F n i nx = _
          congr 1
          unfold enB cB
          rw [show n = i + (n - i) by omega, List.range_add, List.countP_append]
          have z : ((List.range (n - i)).map (i + ·)).countP (fun a => decide (a < i ∧ nx a = 10)) = 0 := List.countP_eq_zero.mpr (fun x hx => by
            obtain ⟨y, _, e⟩ := List.mem_map.mp hx
            rw [decide_eq_false (fun w => by omega)]; exact Bool.false_ne_true)
          rw [z, Nat.add_zero]
          exact cP_cg (fun x hx => decide_eq_decide.mpr ⟨fun w => w.2, fun w => ⟨List.mem_range.mp hx, w⟩⟩)
      · rcases (Bool.or_eq_true _ _ ▸ z : _ ∨ _) with w | w
        · have := of_decide_eq_true w
          exact decide_eq_true ((h2 a this.1).trans this.2)
        · obtain ⟨w1, w2⟩ := (Bool.and_eq_true _ _ ▸ w : _ ∧ _)
          have w1 := of_decide_eq_true w1
          have w2 := of_decide_eq_true w2
          refine decide_eq_true (Classical.byContradiction fun y => ?_)
          obtain ⟨y1, y2⟩ := (h1.2.1 a (List.mem_range.mp ha)).resolve_left y
          obtain ⟨c, c1, c2⟩ := w2 _ y1 y2
          have ci : c < i := Classical.byContradiction fun v => by
            have := p.1 c (by omega)
            omega
          have := h1.2.2.1 c a ((h2 c ci).trans c2) (by rw [h2 c ci]; omega)
          omega
    by_cases q : L < enB i nx + efB F n i nx
    · rw [if_pos q]
      exact ⟨fun z => absurd z List.not_mem_nil, fun ⟨h1, h2, h3⟩ => by have := fwd h1 h2 h3; omega⟩
    · rw [if_neg q, List.mem_append, List.mem_flatMap]
      refine ⟨fun z => ?_, fun ⟨h1, h2, h3⟩ => ?_⟩
      · rcases z with ⟨b, hb, z⟩ | z
        · split at z
          · rename_i w
            have p' := PV_some hn hM (by omega) (List.mem_range.mp hb) p w
            have hb' := List.mem_range.mp hb
            have ee : enB (i + 1) (upN nx i b) = enB i nx := by
              rw [enB_s, enB_up, if_neg]
              · rfl
              · show ¬ (if i = i then b else nx i) = 10
                rw [if_pos rfl]; omega
            have := DS_mem hn hM r (i + 1) (upN nx i b) (by omega) p' (by rw [ee]; exact he) g
            rw [ee] at this
            obtain ⟨g1, g2, g3⟩ := this.mp z
            exact ⟨g1, fun a ha => (g2 a (by omega)).trans (if_neg (by omega)), g3⟩
          · exact absurd z List.not_mem_nil
        · split at z
          · rename_i w
            have := DS_mem hn hM r (i + 1) nx (by omega) (PV_none p) (by rw [e1]; exact w) g
            rw [e1] at this
            obtain ⟨g1, g2, g3⟩ := this.mp z
            exact ⟨g1, fun a ha => g2 a (by omega), g3⟩
          · exact absurd z List.not_mem_nil
      · have ilt : i < n := by omega
        by_cases y : g i = 10
        · right
          have eg : enB (i + 1) g = enB i nx + 1 := by rw [enB_s, if_pos y, enB_cg h2]
          have le := enB_le (nx := g) (i := i + 1) (k := n - (i + 1))
          rw [show i + 1 + (n - (i + 1)) = n by omega] at le
          rw [if_pos (by omega), ← e1]
          refine (DS_mem hn hM r (i + 1) nx (by omega) (PV_none p) (by omega) g).mpr ⟨h1, fun a ha => ?_, h3⟩
          by_cases z : a = i
          · rw [z, y, nxi]
          · exact h2 a (by omega)
        · left
          obtain ⟨y1, y2⟩ := (h1.2.1 i ilt).resolve_left y
          have jn : jnB F M n i nx (g i) = true := jnB_iff.mpr ⟨y2, fun a ha e => by
            by_cases z : a < i
            · have := h1.2.2.1 a i ((h2 a z).trans e) (by rw [h2 a z]; omega)
              omega
            · have := p.1 a (by omega)
              omega, fun a _ => by
            refine (itN_part (nx := g) (h1.1 10 (by omega)) (fun x => ?_) M a).elim (fun z => z.trans (h1.2.2.2 a)) (fun z => z)
            show (if x = i then g i else nx x) = g x ∨ (if x = i then g i else nx x) = 10
            by_cases z : x = i
            · rw [if_pos z, z]; exact Or.inl rfl
            · rw [if_neg z]
              by_cases v : x < i
              · exact Or.inl (h2 x v).symm
              · exact Or.inr (p.1 x (by omega))⟩
          refine ⟨g i, List.mem_range.mpr y1, ?_⟩
          rw [if_pos jn]
          have ee : enB (i + 1) (upN nx i (g i)) = enB i nx := by
            rw [enB_s, enB_up, if_neg]
            · rfl
            · show ¬ (if i = i then g i else nx i) = 10
              rw [if_pos rfl]; exact y
          rw [← ee]
          refine (DS_mem hn hM r (i + 1) (upN nx i (g i)) (by omega) (PV_some hn hM ilt y1 p jn) (by rw [ee]; exact he) g).mpr ⟨h1, fun a ha => ?_, h3⟩
          show g a = (if a = i then g i else nx a)
          by_cases z : a = i
          · rw [if_pos z, z]
          · rw [if_neg z]; exact h2 a (by omega)
end K86
