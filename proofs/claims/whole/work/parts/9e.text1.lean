set_option maxRecDepth 4000
/-! ===== texts: bytes, words, tokens ===== -/
section K9E
/-! runs of bytes -/
def bAt (B : Nat → Int) (n p : Nat) : Int := if p < n then B p else -1
def rnB (P : Int → Bool) (B : Nat → Int) (n : Nat) : Nat → Nat → Nat
  | 0, p => p
  | f + 1, p => if P (bAt B n p) = true then rnB P B n f (p + 1) else p
def reB (P : Int → Bool) (B : Nat → Int) (n p : Nat) : Nat := rnB P B n (n - p) p
theorem reB_s {P : Int → Bool} {B : Nat → Int} {n p : Nat} (h1 : P (-1) = false) : reB P B n p = if P (bAt B n p) = true then reB P B n (p + 1) else p := by
  unfold reB
  by_cases h : p < n
  · obtain ⟨f, hf⟩ : ∃ f, n - p = f + 1 := ⟨n - p - 1, by omega⟩
    rw [hf, show n - (p + 1) = f by omega]; rfl
  · have e : bAt B n p = -1 := if_neg h
    rw [show n - p = 0 by omega, e, h1, if_neg Bool.false_ne_true]; rfl
theorem reB_no {P : Int → Bool} {B : Nat → Int} {n p : Nat} (h1 : P (-1) = false) (h : P (bAt B n p) = false) : reB P B n p = p := by
  rw [reB_s h1, h, if_neg Bool.false_ne_true]
theorem reB_yes {P : Int → Bool} {B : Nat → Int} {n p : Nat} (h1 : P (-1) = false) (h : P (bAt B n p) = true) : reB P B n p = reB P B n (p + 1) := by
  rw [reB_s h1, h, if_pos rfl]
theorem reB_sp {P : Int → Bool} {B : Nat → Int} {n : Nat} (h1 : P (-1) = false) : ∀ (f p : Nat), n - p < f → p ≤ reB P B n p ∧ (∀ j, p ≤ j → j < reB P B n p → P (bAt B n j) = true) ∧ P (bAt B n (reB P B n p)) = false ∧ (p ≤ n → reB P B n p ≤ n)
  | 0, p, h => by omega
  | f + 1, p, h => by
    cases q : P (bAt B n p) with
    | false =>
      rw [reB_no h1 q]
      exact ⟨Nat.le_refl _, fun j a c => by omega, q, fun a => a⟩
    | true =>
      have hp : p < n := Decidable.byContradiction fun z => by
        have e : bAt B n p = -1 := if_neg z
        rw [e, h1] at q; cases q
      obtain ⟨a, c, d, e⟩ := reB_sp (P := P) (B := B) (n := n) h1 f (p + 1) (by omega)
      rw [reB_yes h1 q]
      refine ⟨by omega, fun j j1 j2 => ?_, d, fun _ => e (by omega)⟩
      by_cases z : j = p
      · rw [z]; exact q
      · exact c j (by omega) j2
def blB (c : Int) : Bool := decide (c = 10 ∨ c = 32)
def ltB (c : Int) : Bool := decide (97 ≤ c ∧ c ≤ 122)
def dgB (c : Int) : Bool := decide (48 ≤ c ∧ c ≤ 57)
/-! words -/
def wdN : List (List Int) := [[115, 105, 122, 101], [119, 101, 116], [102, 111, 111, 116], [119, 97, 108, 107], [99, 97, 114, 114, 121], [102, 101, 101, 116], [104, 97, 110, 100, 115], [114, 111, 108, 108, 101, 100], [114, 97, 105, 110], [101, 114, 114, 97, 110, 100], [115, 105, 103, 110]]
def wdI (i : Nat) : List Int := wdN.getD i []
/-- does word i stand from w to e -/
def spB (B : Nat → Int) (w e i : Nat) : Bool := decide (e - w = (wdI i).length ∧ ∀ k, k < (wdI i).length → B (w + k) = (wdI i).getD k 0)
def wcB (B : Nat → Int) (w e : Nat) : Nat → Nat
  | 0 => 0
  | i + 1 => if wcB B w e i ≠ 0 then wcB B w e i else if spB B w e i = true then i + 1 else 0
def lsB (B : Nat → Int) (w : Nat) : Nat → List Int
  | 0 => []
  | k + 1 => lsB B w k ++ [B (w + k)]
theorem lsB_len {B : Nat → Int} {w : Nat} : ∀ k, (lsB B w k).length = k
  | 0 => rfl
  | k + 1 => by
    show (lsB B w k ++ [B (w + k)]).length = k + 1
    rw [List.length_append, lsB_len k]; rfl
theorem lsB_at {B : Nat → Int} {w : Nat} : ∀ k j, j < k → (lsB B w k).getD j 0 = B (w + j)
  | 0, j, h => by omega
  | k + 1, j, h => by
    show (lsB B w k ++ [B (w + k)]).getD j 0 = _
    by_cases e : j < k
    · rw [List.getD_eq_getElem?_getD, List.getElem?_append_left (by rw [lsB_len]; exact e), ← List.getD_eq_getElem?_getD]
      exact lsB_at k j e
    · have : j = k := by omega
      subst this
      rw [List.getD_eq_getElem?_getD, List.getElem?_append_right (by rw [lsB_len]; exact Nat.le_refl _), lsB_len, Nat.sub_self]; rfl
theorem sp_ls {B : Nat → Int} {w e i : Nat} : spB B w e i = true ↔ lsB B w (e - w) = wdI i := by
  unfold spB
  rw [decide_eq_true_eq]
  refine ⟨fun ⟨h1, h2⟩ => List.ext_getElem (by rw [lsB_len, h1]) (fun j j1 j2 => ?_), fun h => ?_⟩
  · have a := lsB_at (B := B) (w := w) (e - w) j (by rw [lsB_len] at j1; exact j1)
    rw [List.getD_eq_getElem?_getD, List.getElem?_eq_getElem j1] at a
    have c := h2 j j2
    rw [List.getD_eq_getElem?_getD, List.getElem?_eq_getElem j2] at c
    exact a.trans c
  · refine ⟨by rw [← h, lsB_len], fun k hk => ?_⟩
    rw [← h, lsB_at _ k (by rw [← h, lsB_len] at hk; exact hk)]
/-- words as numbers -/
def enB2 : List Int → Int
  | [] => 0
  | c :: r => c - 96 + 32 * enB2 r
def enR (l : List Int) : Int := enB2 l.reverse
theorem enB2_nn : ∀ {l : List Int}, (∀ c, c ∈ l → 97 ≤ c ∧ c ≤ 122) → 0 ≤ enB2 l
  | [], _ => Int.le_refl _
  | c :: r, h => by
    have a := enB2_nn (l := r) (fun x hx => h x (List.mem_cons_of_mem _ hx))
    have d := h c (List.mem_cons_self ..)
    show 0 ≤ c - 96 + 32 * enB2 r
    omega
theorem enB2_inj : ∀ {l m : List Int}, (∀ c, c ∈ l → 97 ≤ c ∧ c ≤ 122) → (∀ c, c ∈ m → 97 ≤ c ∧ c ≤ 122) → enB2 l = enB2 m → l = m
  | [], [], _, _, _ => rfl
  | [], c :: r, _, h, e => by
    have a := enB2_nn (l := r) (fun x hx => h x (List.mem_cons_of_mem _ hx))
    have d := h c (List.mem_cons_self ..)
    have e' : (0 : Int) = c - 96 + 32 * enB2 r := e
    omega
  | c :: r, [], h, _, e => by
    have a := enB2_nn (l := r) (fun x hx => h x (List.mem_cons_of_mem _ hx))
    have d := h c (List.mem_cons_self ..)
    have e' : c - 96 + 32 * enB2 r = (0 : Int) := e
    omega
  | c :: r, c' :: r', h, h', e => by
    have d := h c (List.mem_cons_self ..)
    have d' := h' c' (List.mem_cons_self ..)
    have e' : c - 96 + 32 * enB2 r = c' - 96 + 32 * enB2 r' := e
    have ec : c = c' := by omega
    have er : enB2 r = enB2 r' := by omega
    rw [ec, enB2_inj (fun x hx => h x (List.mem_cons_of_mem _ hx)) (fun x hx => h' x (List.mem_cons_of_mem _ hx)) er]
theorem enR_inj {l m : List Int} (h : ∀ c, c ∈ l → 97 ≤ c ∧ c ≤ 122) (h' : ∀ c, c ∈ m → 97 ≤ c ∧ c ≤ 122) (e : enR l = enR m) : l = m := by
  have := enB2_inj (l := l.reverse) (m := m.reverse) (fun c hc => h c (List.mem_reverse.mp hc)) (fun c hc => h' c (List.mem_reverse.mp hc)) e
  have e2 := congrArg List.reverse this
  rw [List.reverse_reverse, List.reverse_reverse] at e2
  exact e2
theorem enR_s {l : List Int} {c : Int} : enR (l ++ [c]) = 32 * enR l + (c - 96) := by
  unfold enR
  rw [List.reverse_append]
  show c - 96 + 32 * enB2 l.reverse = _
  omega
theorem wd_lt : ∀ i, i < 11 → ∀ c, c ∈ wdI i → 97 ≤ c ∧ c ≤ 122 := by decide
/-! tokens -/
def tkW (B : Nat → Int) (n q : Nat) : Nat := reB blB B n q
def tkE (B : Nat → Int) (n q : Nat) : Nat := if n ≤ tkW B n q then tkW B n q else if ltB (B (tkW B n q)) = true then reB ltB B n (tkW B n q) else if dgB (B (tkW B n q)) = true then reB dgB B n (tkW B n q) else tkW B n q + 1
def tkO (B : Nat → Int) (n q : Nat) : Nat := wcB B (tkW B n q) (tkE B n q) 11
/-- 0 the end, 1 a number, 2 a stop, 3 a word, 4 what no text goes on with -/
def tkK (B : Nat → Int) (n q : Nat) : Nat := if n ≤ tkW B n q then 0 else if ltB (B (tkW B n q)) = true then (if tkO B n q = 0 then 4 else 3) else if dgB (B (tkW B n q)) = true then (if tkE B n q - tkW B n q ≤ 2 then 1 else 4) else if B (tkW B n q) = 59 then 2 else 4
def tkV (B : Nat → Int) (n q : Nat) : Int := if tkE B n q - tkW B n q = 1 then B (tkW B n q) - 48 else 10 * (B (tkW B n q) - 48) + (B (tkW B n q + 1) - 48)
theorem bl_1 : blB (-1) = false := by decide
theorem lt_1 : ltB (-1) = false := by decide
theorem dg_1 : dgB (-1) = false := by decide
theorem tkW_sp {B : Nat → Int} {n q : Nat} : q ≤ tkW B n q ∧ blB (bAt B n (tkW B n q)) = false ∧ (q ≤ n → tkW B n q ≤ n) := by
  obtain ⟨a, _, c, d⟩ := reB_sp (P := blB) (B := B) (n := n) bl_1 (n - q + 1) q (by omega)
  exact ⟨a, c, d⟩
theorem tkE_sp {B : Nat → Int} {n q : Nat} : tkW B n q ≤ tkE B n q ∧ (tkW B n q < n → tkW B n q < tkE B n q ∧ tkE B n q ≤ n) := by
  unfold tkE
  split
  · exact ⟨Nat.le_refl _, fun h => by omega⟩
  · rename_i h
    have ea : bAt B n (tkW B n q) = B (tkW B n q) := if_pos (by omega)
    have g : ∀ P : Int → Bool, P (-1) = false → P (B (tkW B n q)) = true → tkW B n q < reB P B n (tkW B n q) ∧ reB P B n (tkW B n q) ≤ n := fun P h1 h2 => by
      obtain ⟨a, _, c, d⟩ := reB_sp (P := P) (B := B) (n := n) h1 (n - tkW B n q + 1) (tkW B n q) (by omega)
      refine ⟨Decidable.byContradiction fun z => ?_, d (by omega)⟩
      have e : reB P B n (tkW B n q) = tkW B n q := by omega
      rw [e, ea, h2] at c; cases c
    split
    · rename_i h2
      have := g ltB lt_1 h2
      exact ⟨by omega, fun _ => this⟩
    · split
      · rename_i _ h2
        have := g dgB dg_1 h2
        exact ⟨by omega, fun _ => this⟩
      · exact ⟨by omega, fun _ => ⟨by omega, by omega⟩⟩
theorem wcB_sp {B : Nat → Int} {w e : Nat} : ∀ k, wcB B w e k ≤ k ∧ (wcB B w e k = 0 → ∀ i, i < k → spB B w e i = false) ∧ (∀ i, wcB B w e k = i + 1 → spB B w e i = true ∧ ∀ j, j < i → spB B w e j = false)
  | 0 => ⟨Nat.le_refl _, fun _ i h => by omega, fun i h => by cases h⟩
  | k + 1 => by
    obtain ⟨a, c, d⟩ := wcB_sp (B := B) (w := w) (e := e) k
    show (if wcB B w e k ≠ 0 then wcB B w e k else if spB B w e k = true then k + 1 else 0) ≤ k + 1 ∧ ((if wcB B w e k ≠ 0 then wcB B w e k else if spB B w e k = true then k + 1 else 0) = 0 → _) ∧ ∀ i, (if wcB B w e k ≠ 0 then wcB B w e k else if spB B w e k = true then k + 1 else 0) = i + 1 → _
    by_cases z : wcB B w e k ≠ 0
    · rw [if_pos z]
      exact ⟨by omega, fun y => absurd y z, d⟩
    · rw [if_neg z]
      have z0 : wcB B w e k = 0 := by omega
      cases s : spB B w e k with
      | true =>
        rw [if_pos rfl]
        refine ⟨Nat.le_refl _, fun y => by omega, fun i y => ?_⟩
        have : i = k := by omega
        subst this
        exact ⟨s, c z0⟩
      | false =>
        rw [if_neg Bool.false_ne_true]
        refine ⟨by omega, fun _ i hi => ?_, fun i y => by omega⟩
        by_cases q : i = k
        · rw [q]; exact s
        · exact c z0 i (by omega)
end K9E
