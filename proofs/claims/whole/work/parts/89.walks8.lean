set_option maxRecDepth 4000
/-! ===== rows of signs: set by set ===== -/
section K89
/-! the least and how often it is met -/
def mnL (l : List Nat) : Nat := l.foldr min 1000000
def wcL (l : List Nat) : Nat := l.countP (fun x => decide (x = mnL l))
theorem mnL_le {l : List Nat} : mnL l ≤ 1000000 ∧ ∀ x, x ∈ l → mnL l ≤ x := by
  induction l with
  | nil => exact ⟨Nat.le_refl _, fun x h => absurd h List.not_mem_nil⟩
  | cons a l ih =>
    obtain ⟨i1, i2⟩ := ih
    have e : mnL (a :: l) = min a (mnL l) := rfl
    rw [e]
    refine ⟨Nat.le_trans (Nat.min_le_right _ _) i1, fun x hx => ?_⟩
    rcases List.mem_cons.mp hx with z | z
    · rw [z]; exact Nat.min_le_left _ _
    · exact Nat.le_trans (Nat.min_le_right _ _) (i2 x z)
theorem mnL_at {l : List Nat} : mnL l < 1000000 → mnL l ∈ l := by
  induction l with
  | nil => intro h; exact absurd h (by show ¬ (1000000 : Nat) < 1000000; omega)
  | cons a l ih =>
    intro h
    have e : mnL (a :: l) = min a (mnL l) := rfl
    rw [e] at h ⊢
    by_cases z : a ≤ mnL l
    · rw [Nat.min_eq_left z]; exact List.mem_cons_self ..
    · rw [Nat.min_eq_right (by omega)] at h ⊢
      exact List.mem_cons_of_mem _ (ih h)
theorem mnL_app {a c : List Nat} : mnL (a ++ c) = min (mnL a) (mnL c) := by
  induction a with
  | nil =>
    show mnL c = min 1000000 (mnL c)
    rw [Nat.min_eq_right mnL_le.1]
  | cons x a ih =>
    show min x (mnL (a ++ c)) = min (min x (mnL a)) (mnL c)
    rw [ih, Nat.min_assoc]
theorem wcL_app {a c : List Nat} : wcL (a ++ c) = (if mnL a ≤ mnL c then wcL a else 0) + (if mnL c ≤ mnL a then wcL c else 0) := by
  unfold wcL
  rw [mnL_app, List.countP_append]
  congr 1
  · split
    · rename_i h; rw [Nat.min_eq_left h]
    · rename_i h
      rw [Nat.min_eq_right (by omega)]
      exact List.countP_eq_zero.mpr (fun x hx => by
        have := mnL_le.2 x hx
        rw [decide_eq_false (by omega)]; exact Bool.false_ne_true)
  · split
    · rename_i h; rw [Nat.min_eq_right h]
    · rename_i h
      rw [Nat.min_eq_left (by omega)]
      exact List.countP_eq_zero.mpr (fun x hx => by
        have := mnL_le.2 x hx
        rw [decide_eq_false (by omega)]; exact Bool.false_ne_true)
theorem mnL_1 {l : List Nat} (h : ∀ x, x ∈ l → x ≤ 10) : mnL (l.map (fun x => 1 + x)) = (if l = [] then 1000000 else 1 + mnL l) := by
  induction l with
  | nil => rfl
  | cons a l ih =>
    have ih := ih (fun x hx => h x (List.mem_cons_of_mem _ hx))
    have ha := h a (List.mem_cons_self ..)
    rw [if_neg (by intro e; cases e)]
    show min (1 + a) (mnL (l.map (fun x => 1 + x))) = 1 + min a (mnL l)
    rw [ih]
    by_cases e : l = []
    · rw [if_pos e, e]
      show min (1 + a) 1000000 = 1 + min a 1000000
      omega
    · rw [if_neg e]; omega
theorem wcL_1 {l : List Nat} (h : ∀ x, x ∈ l → x ≤ 10) : wcL (l.map (fun x => 1 + x)) = wcL l := by
  unfold wcL
  rw [mnL_1 h, List.countP_map]
  by_cases e : l = []
  · rw [e]; rfl
  · rw [if_neg e]
    exact cP_cg (fun x _ => by show decide (1 + x = 1 + mnL l) = decide (x = mnL l); exact decide_eq_decide.mpr ⟨fun z => by omega, fun z => by omega⟩)
theorem fm_const {α : Type} {v : List Nat} : ∀ {l : List α}, mnL (l.flatMap (fun _ => v)) = (if l = [] then 1000000 else mnL v) ∧ wcL (l.flatMap (fun _ => v)) = l.length * wcL v
  | [] => ⟨rfl, by show wcL [] = 0 * wcL v; rw [Nat.zero_mul]; rfl⟩
  | a :: l => by
    obtain ⟨i1, i2⟩ := fm_const (v := v) (l := l)
    have m : mnL ((a :: l).flatMap (fun _ => v)) = mnL v := by
      rw [List.flatMap_cons, mnL_app, i1]
      split
      · exact Nat.min_eq_left mnL_le.1
      · exact Nat.min_self _
    refine ⟨by rw [m, if_neg (by intro e; cases e)], ?_⟩
    rw [List.flatMap_cons, wcL_app, i1, i2, List.length_cons, Nat.add_mul, Nat.one_mul]
    by_cases e : l = []
    · rw [if_pos e, if_pos mnL_le.1, e]
      show wcL v + (if 1000000 ≤ mnL v then 0 * wcL v else 0) = 0 * wcL v + wcL v
      rw [Nat.zero_mul]; split <;> omega
    · rw [if_neg e, if_pos (Nat.le_refl _), if_pos (Nat.le_refl _)]; omega
/-! what is met with a set of signs -/
theorem E2_fu {F : Nat → Nat → Bool} {Q : Nat → Bool} {M n : Nat} : ∀ f g S, S ≤ f → S ≤ g → E2 F Q M n f S = E2 F Q M n g S
  | 0, 0, _, _, _ => rfl
  | 0, g + 1, S, h, _ => by
    have e : S = 0 := by omega
    show [fun _ => 10] = (if S = 0 then [fun _ => 10] else _)
    rw [if_pos e]
  | f + 1, 0, S, _, h => by
    have e : S = 0 := by omega
    show (if S = 0 then [fun _ => 10] else _) = [fun _ => 10]
    rw [if_pos e]
  | f + 1, g + 1, S, h1, h2 => by
    show (if S = 0 then [fun _ => 10] else (dnL S).flatMap (fun m => if m &&& S = m ∧ m.testBit (lwB S) = true then (rwsL F Q M n m).flatMap (fun p => (E2 F Q M n f (S - m)).map (app p)) else [])) = (if S = 0 then [fun _ => 10] else (dnL S).flatMap (fun m => if m &&& S = m ∧ m.testBit (lwB S) = true then (rwsL F Q M n m).flatMap (fun p => (E2 F Q M n g (S - m)).map (app p)) else []))
    by_cases e : S = 0
    · rw [if_pos e, if_pos e]
    · rw [if_neg e, if_neg e]
      rw [List.flatMap_def, List.flatMap_def]
      congr 1
      refine List.map_congr_left (fun m hm => ?_)
      have := dnL_mem.mp hm
      rw [E2_fu f g (S - m) (by omega) (by omega)]
def eL (F : Nat → Nat → Bool) (Q : Nat → Bool) (M n S : Nat) : List (Nat → Nat) := E2 F Q M n S S
def vS (F : Nat → Nat → Bool) (Q : Nat → Bool) (M n S : Nat) : List Nat := (eL F Q M n S).map (enS n S)
theorem enS_le {n S : Nat} {nx : Nat → Nat} : enS n S nx ≤ n := by
  have := List.countP_le_length (p := fun a => S.testBit a && decide (nx a = 10)) (l := List.range n)
  rw [List.length_range] at this
  exact this
theorem vS_le {F : Nat → Nat → Bool} {Q : Nat → Bool} {M n S : Nat} (hn : n ≤ 10) : ∀ x, x ∈ vS F Q M n S → x ≤ 10 := fun x hx => by
  obtain ⟨g, _, e⟩ := List.mem_map.mp hx
  have := enS_le (n := n) (S := S) (nx := g)
  omega
theorem vS_0 {F : Nat → Nat → Bool} {Q : Nat → Bool} {M n : Nat} : vS F Q M n 0 = [0] := by
  show [enS n 0 (fun _ => 10)] = [0]
  congr 1
  unfold enS cB
  exact List.countP_eq_zero.mpr (fun x _ => by rw [Nat.zero_testBit, Bool.false_and]; exact Bool.false_ne_true)
def blk (F : Nat → Nat → Bool) (Q : Nat → Bool) (M n S m : Nat) : List Nat := if m &&& S = m ∧ m.testBit (lwB S) = true then (rwsL F Q M n m).flatMap (fun _ => (vS F Q M n (S - m)).map (fun x => 1 + x)) else []
theorem vS_s {F : Nat → Nat → Bool} {Q : Nat → Bool} {M n S : Nat} (hn : n ≤ 10) (hM : 1 ≤ M) (hS : S < 2 ^ n) (h0 : S ≠ 0) : vS F Q M n S = (dnL S).flatMap (blk F Q M n S) := by
  unfold vS eL
  obtain ⟨k, rfl⟩ : ∃ k, S = k + 1 := ⟨S - 1, by omega⟩
  show (if k + 1 = 0 then [fun _ => 10] else (dnL (k + 1)).flatMap (fun m => if m &&& (k + 1) = m ∧ m.testBit (lwB (k + 1)) = true then (rwsL F Q M n m).flatMap (fun p => (E2 F Q M n k (k + 1 - m)).map (app p)) else [])).map (enS n (k + 1)) = _
  rw [if_neg h0, List.map_flatMap, List.flatMap_def, List.flatMap_def]
  congr 1
  refine List.map_congr_left (fun m hm => ?_)
  obtain ⟨d1, d2⟩ := dnL_mem.mp hm
  unfold blk
  split
  · rename_i w
    rw [List.map_flatMap, List.flatMap_def, List.flatMap_def]
    congr 1
    refine List.map_congr_left (fun p hp => ?_)
    have g := ((rwsL_mem (show m < 2 ^ n by omega)).mp hp).1
    unfold vS eL
    rw [E2_fu k (k + 1 - m) (k + 1 - m) (by omega) (Nat.le_refl _), List.map_map, List.map_map]
    refine List.map_congr_left (fun nx hnx => ?_)
    exact enS_app hn hS g (sbm_and.mpr w.1) ((E2_mem hn hM (k + 1 - m) (k + 1 - m) (Nat.le_refl _) (by omega) nx).mp hnx)
  · rfl
/-- one more set -/
theorem dp_abs {C : Prop} [Decidable C] {r x y w k c wb : Nat} (hy : y ≤ 1000000) (h : (c = 1000000 ∧ wb = 0 ∧ (¬ C ∨ r = 0 ∨ 1000000 < x)) ∨ (C ∧ ¬ r = 0 ∧ c = x ∧ wb = k)) :
    min y c = (if C ∧ ¬ r = 0 ∧ x < y then x else y) ∧ (if y ≤ c then w else 0) + (if c ≤ y then wb else 0) = (if C ∧ ¬ r = 0 ∧ x < y then 0 else w) + (if C ∧ ¬ r = 0 ∧ x = min y c then k else 0) := by
  rcases h with ⟨h1, h2, h3⟩ | ⟨h1, h2, h3, h4⟩
  · subst h1; subst h2
    have n1 : ¬ (C ∧ ¬ r = 0 ∧ x < y) := fun ⟨z1, z2, z3⟩ => by
      rcases h3 with h | h | h
      · exact h z1
      · exact z2 h
      · omega
    have n2 : ¬ (C ∧ ¬ r = 0 ∧ x = min y 1000000) := fun ⟨z1, z2, z3⟩ => by
      rcases h3 with h | h | h
      · exact h z1
      · exact z2 h
      · omega
    rw [if_neg n1, if_neg n1, if_neg n2, if_pos hy]
    refine ⟨by omega, ?_⟩
    split <;> rfl
  · subst h3; subst h4
    rcases Nat.lt_trichotomy c y with z | z | z
    · have n1 : C ∧ ¬ r = 0 ∧ c < y := ⟨h1, h2, z⟩
      have n2 : C ∧ ¬ r = 0 ∧ c = min y c := ⟨h1, h2, by omega⟩
      rw [if_pos n1, if_pos n1, if_pos n2, if_neg (show ¬ y ≤ c by omega), if_pos (show c ≤ y by omega)]
      exact ⟨by omega, rfl⟩
    · have n1 : ¬ (C ∧ ¬ r = 0 ∧ c < y) := fun w => by have := w.2.2; omega
      have n2 : C ∧ ¬ r = 0 ∧ c = min y c := ⟨h1, h2, by omega⟩
      rw [if_neg n1, if_neg n1, if_pos n2, if_pos (show y ≤ c by omega), if_pos (show c ≤ y by omega)]
      exact ⟨by omega, rfl⟩
    · have n1 : ¬ (C ∧ ¬ r = 0 ∧ c < y) := fun w => by have := w.2.2; omega
      have n2 : ¬ (C ∧ ¬ r = 0 ∧ c = min y c) := fun w => by have := w.2.2; omega
      rw [if_neg n1, if_neg n1, if_neg n2, if_pos (show y ≤ c by omega), if_neg (show ¬ c ≤ y by omega)]
      exact ⟨by omega, rfl⟩
theorem dp_step {F : Nat → Nat → Bool} {Q : Nat → Bool} {M n S m : Nat} (hn : n ≤ 10) {A : List Nat} : mnL (A ++ blk F Q M n S m) = (if (m &&& S = m ∧ m.testBit (lwB S) = true) ∧ ¬ (rwsL F Q M n m).length = 0 ∧ mnL (vS F Q M n (S - m)) + 1 < mnL A then mnL (vS F Q M n (S - m)) + 1 else mnL A) ∧
    wcL (A ++ blk F Q M n S m) = (if (m &&& S = m ∧ m.testBit (lwB S) = true) ∧ ¬ (rwsL F Q M n m).length = 0 ∧ mnL (vS F Q M n (S - m)) + 1 < mnL A then 0 else wcL A) + (if (m &&& S = m ∧ m.testBit (lwB S) = true) ∧ ¬ (rwsL F Q M n m).length = 0 ∧ mnL (vS F Q M n (S - m)) + 1 = mnL (A ++ blk F Q M n S m) then (rwsL F Q M n m).length * wcL (vS F Q M n (S - m)) else 0) := by
  have le := (mnL_le (l := A)).1
  have hv := (mnL_le (l := vS F Q M n (S - m))).1
  rw [mnL_app, wcL_app]
  refine dp_abs le ?_
  by_cases c : m &&& S = m ∧ m.testBit (lwB S) = true
  · have eb : blk F Q M n S m = (rwsL F Q M n m).flatMap (fun _ => (vS F Q M n (S - m)).map (fun x => 1 + x)) := if_pos c
    obtain ⟨f1, f2⟩ := fm_const (v := (vS F Q M n (S - m)).map (fun x => 1 + x)) (l := rwsL F Q M n m)
    rw [← eb] at f1 f2
    rw [mnL_1 (vS_le hn)] at f1
    rw [wcL_1 (vS_le hn)] at f2
    by_cases r0 : (rwsL F Q M n m).length = 0
    · rw [if_pos (List.length_eq_zero_iff.mp r0)] at f1
      rw [r0, Nat.zero_mul] at f2
      exact Or.inl ⟨f1, f2, Or.inr (Or.inl r0)⟩
    · rw [if_neg (fun z => r0 (by rw [z]; rfl))] at f1
      by_cases v0 : vS F Q M n (S - m) = []
      · rw [if_pos v0] at f1
        have e1 : mnL (vS F Q M n (S - m)) = 1000000 := by rw [v0]; rfl
        have e2 : wcL (vS F Q M n (S - m)) = 0 := by rw [v0]; rfl
        rw [e2, Nat.mul_zero] at f2
        exact Or.inl ⟨f1, f2, Or.inr (Or.inr (by rw [e1]; omega))⟩
      · rw [if_neg v0] at f1
        exact Or.inr ⟨c, r0, by rw [f1]; omega, f2⟩
  · have eb : blk F Q M n S m = [] := if_neg c
    exact Or.inl ⟨by rw [eb]; rfl, by rw [eb]; rfl, Or.inl c⟩
/-- how many rows a set has -/
theorem rwsL_len {F : Nat → Nat → Bool} {Q : Nat → Bool} {M n m : Nat} (hm : m < 2 ^ n) : (rwsL F Q M n m).length = if pcN n m ≤ M then ((List.range n).map (fun a => if Q a = true then 0 else (HP F n (m + 1) m a).length)).sum else 0 := by
  have all : ∀ p, p ∈ (List.range n).flatMap (fun a => if Q a = true then [] else HP F n (m + 1) m a) → p.length = pcN n m := fun p hp => by
    obtain ⟨a, _, h⟩ := List.mem_flatMap.mp hp
    split at h
    · exact absurd h List.not_mem_nil
    · exact pOK_len hm ((mem_HP (by omega) hm).mp h).2
  unfold rwsL
  split
  · rename_i w
    rw [List.filter_eq_self.mpr (fun p hp => decide_eq_true (by rw [all p hp]; exact w)), List.length_flatMap]
    congr 1
    refine List.map_congr_left (fun a _ => ?_)
    split <;> rfl
  · rename_i w
    rw [List.filter_eq_nil_iff.mpr (fun p hp => by rw [all p hp, decide_eq_false w]; exact Bool.false_ne_true)]; rfl
end K89
