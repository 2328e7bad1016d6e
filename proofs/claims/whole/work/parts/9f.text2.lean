set_option maxRecDepth 4000
/-! ===== texts: lines ===== -/
section K9F
/-! lines -/
def pzB (B : Nat → Int) (n q : Nat) : Nat → Nat
  | 0 => tkE B n q
  | i + 1 => tkE B n (pzB B n q i)
def vzB (B : Nat → Int) (n q i : Nat) : Int := tkV B n (pzB B n q i)
def wzB (B : Nat → Int) (n q i : Nat) : Nat := tkW B n (pzB B n q i)
def czB (B : Nat → Int) (n q : Nat) : Nat → Nat
  | 0 => 0
  | k + 1 => if czB B n q k = k ∧ tkK B n (pzB B n q k) = 1 then k + 1 else czB B n q k
theorem czB_sp {B : Nat → Int} {n q : Nat} : ∀ k, czB B n q k ≤ k ∧ (∀ i, i < czB B n q k → tkK B n (pzB B n q i) = 1) ∧ (czB B n q k < k → tkK B n (pzB B n q (czB B n q k)) ≠ 1)
  | 0 => ⟨Nat.le_refl _, fun i h => absurd h (Nat.not_lt_zero i), fun h => absurd h (Nat.lt_irrefl 0)⟩
  | k + 1 => by
    obtain ⟨a, c, d⟩ := czB_sp (B := B) (n := n) (q := q) k
    by_cases z : czB B n q k = k ∧ tkK B n (pzB B n q k) = 1
    · have e : czB B n q (k + 1) = k + 1 := if_pos z
      rw [e]
      refine ⟨Nat.le_refl _, fun i hi => ?_, fun h => by omega⟩
      by_cases y : i = k
      · rw [y]; exact z.2
      · exact c i (by omega)
    · have e : czB B n q (k + 1) = czB B n q k := if_neg z
      rw [e]
      refine ⟨by omega, c, fun _ => ?_⟩
      by_cases y : czB B n q k < k
      · exact d y
      · have : czB B n q k = k := by omega
        rw [this]
        exact fun w => z ⟨this, w⟩
/-- what a kind of line asks: how many numbers, and from what to what each -/
def lsT (o : Nat) : Nat := [0, 2, 1, 4, 4, 2, 1, 1, 1, 1, 3, 5].getD o 0
def loT (o i : Nat) : Int := ([[], [2, 2], [0], [0, 1, 1, 0], [0, 0, 0], [0, 0], [0], [0], [0], [0], [0, 0, 0], [0, 0, 0, 0, 1]].getD o []).getD i 0
def hiT (o i : Nat) : Int := ([[], [8, 8], [9], [5, 3, 9, 2], [5, 63, 60], [5, 5], [5], [5], [5], [99], [5, 63, 63], [63, 6, 1, 3, 99]].getD o []).getD i (if o = 4 then 3 else 0)
def liT (o : Nat) : Nat := if o = 4 then 600 else lsT o
def bdT (o i : Nat) (v a0 : Int) : Bool := decide (v < loT o i ∨ hiT o i < v ∨ (o = 5 ∧ i = 1 ∧ v = a0))
/-- the first fault counts -/
def ntS (s : Nat × Nat) (k p : Nat) : Nat × Nat := if s.1 = 0 then (k, p) else s
def fzB (B : Nat → Int) (n q o : Nat) (full : Bool) (s : Nat × Nat) : Nat → Nat × Nat
  | 0 => if full = true then ntS s 3 (tkW B n q) else s
  | i + 1 => if o = 4 ∧ i = 27 then ntS (if bdT o i (vzB B n q i) (vzB B n q 0) = true then ntS (fzB B n q o full s i) 2 (wzB B n q i) else fzB B n q o full s i) 3 (wzB B n q i) else (if bdT o i (vzB B n q i) (vzB B n q 0) = true then ntS (fzB B n q o full s i) 2 (wzB B n q i) else fzB B n q o full s i)
def fulT (o : Nat) (V : Nat → Int) : Bool := decide ((o = 3 ∧ 6 ≤ V 3) ∨ (o = 10 ∧ 5 ≤ V 4) ∨ (o = 11 ∧ 10 ≤ V 0))
def upI (V : Nat → Int) (k : Nat) (v : Int) : Nat → Int := fun x => if x = k then v else V x
def sdI (V : Nat → Int) (k : Nat) (v : Nat → Int) (m : Nat) : Nat → Int := fun x => if k ≤ x ∧ x < k + m then v (x - k) else V x
abbrev TxS : Type := (Nat × Nat) × (Nat → Int) × Int × Int
def mxZ (a b : Int) : Int := if a < b then b else a
def tlI (o : Nat) (v : Nat → Int) (had : Nat) (V : Nat → Int) (fo fc : Int) : (Nat → Int) × Int × Int :=
  if o = 1 then (upI (upI V 0 (v 0)) 1 (v 1), fo, fc)
  else if o = 2 then (upI V 2 (v 0), fo, fc)
  else if o = 3 then (upI (sdI V (120 + 33 * (V 3).toNat) v 4) 3 (V 3 + 1), fo, fc)
  else if o = 4 then (sdI (upI (upI (upI V (126 + 33 * (v 0).toNat) (v 1)) (127 + 33 * (v 0).toNat) (v 2)) (128 + 33 * (v 0).toNat) ((had : Int) - 3)) (129 + 33 * (v 0).toNat) (fun i => v (3 + i)) (had - 3), mxZ fo (v 0), mxZ fc (v 1))
  else if o = 5 then (upI V (125 + 33 * (v 1).toNat) (v 0), mxZ fo (mxZ (v 0) (v 1)), fc)
  else if o = 6 ∨ o = 7 ∨ o = 8 then (upI V (124 + 33 * (v 0).toNat) ((o : Int) - 6), mxZ fo (v 0), fc)
  else if o = 9 then (upI V (5 + (v 0).toNat) 1, fo, fc)
  else if o = 10 then (upI (sdI V (105 + 3 * (V 4).toNat) v 3) 4 (V 4 + 1), mxZ fo (v 0), mxZ fc (mxZ (v 1) (v 2)))
  else (upI (sdI V (1 + 5 * (V 0).toNat) v 5) 0 (V 0 + 1), fo, fc)
def okO (sort o : Nat) : Bool := if sort = 0 then decide (1 ≤ o ∧ o ≤ 10) else decide (o = 11)
def o1B (B : Nat → Int) (n sort q : Nat) : Bool := decide (tkK B n q = 3) && okO sort (tkO B n q)
/-- how many numbers this line has -/
def hdB (B : Nat → Int) (n q : Nat) : Nat := czB B n q (liT (tkO B n q))
def o2B (B : Nat → Int) (n q : Nat) : Bool := decide (lsT (tkO B n q) ≤ hdB B n q ∧ tkK B n (pzB B n q (hdB B n q)) = 2)
def stB (B : Nat → Int) (n q : Nat) (S : TxS) : TxS :=
  if (fzB B n q (tkO B n q) (fulT (tkO B n q) S.2.1) S.1 (hdB B n q)).1 = 0 then (fzB B n q (tkO B n q) (fulT (tkO B n q) S.2.1) S.1 (hdB B n q), tlI (tkO B n q) (vzB B n q) (hdB B n q) S.2.1 S.2.2.1 S.2.2.2)
  else (fzB B n q (tkO B n q) (fulT (tkO B n q) S.2.1) S.1 (hdB B n q), S.2)
def nxB (B : Nat → Int) (n q : Nat) : Nat := tkE B n (pzB B n q (hdB B n q))
def fiB (sort : Nat) (S : TxS) (p : Nat) : Nat × Nat := if sort = 0 ∧ (S.2.1 3 ≤ S.2.2.1 ∨ S.2.1 0 * S.2.1 1 ≤ S.2.2.2) then ntS S.1 4 p else S.1
/-- the whole text: fault, its place, the row -/
def prB (B : Nat → Int) (n sort : Nat) : Nat → Nat → TxS → (Nat × Nat) × (Nat → Int)
  | 0, _, S => (S.1, S.2.1)
  | f + 1, q, S => if tkK B n q = 0 then (fiB sort S (tkW B n q), S.2.1)
    else if o1B B n sort q = true then (if o2B B n q = true then prB B n sort f (nxB B n q) (stB B n q S) else ((1, tkW B n (pzB B n q (hdB B n q))), S.2.1))
    else ((1, tkW B n q), S.2.1)
/-! places -/
theorem tk_end {B : Nat → Int} {n q : Nat} : tkK B n q = 0 ↔ n ≤ tkW B n q := by
  unfold tkK
  by_cases h : n ≤ tkW B n q
  · rw [if_pos h]; exact ⟨fun _ => h, fun _ => rfl⟩
  · rw [if_neg h]
    refine ⟨fun z => ?_, fun z => absurd z h⟩
    split at z
    · split at z <;> cases z
    · split at z
      · split at z <;> cases z
      · split at z <;> cases z
theorem tk_go {B : Nat → Int} {n q : Nat} (h : tkK B n q ≠ 0) : q ≤ tkW B n q ∧ tkW B n q < tkE B n q ∧ tkE B n q ≤ n ∧ tkW B n q < n := by
  have a : ¬ n ≤ tkW B n q := fun z => h (tk_end.mpr z)
  have c := tkW_sp (B := B) (n := n) (q := q)
  have d := (tkE_sp (B := B) (n := n) (q := q)).2 (by omega)
  exact ⟨c.1, d.1, d.2, by omega⟩
theorem tk_le {B : Nat → Int} {n q : Nat} (h : q ≤ n) : q ≤ tkW B n q ∧ tkW B n q ≤ tkE B n q ∧ tkE B n q ≤ n := by
  have c := tkW_sp (B := B) (n := n) (q := q)
  have d := tkE_sp (B := B) (n := n) (q := q)
  have e := c.2.2 h
  by_cases z : tkW B n q < n
  · have := d.2 z; exact ⟨c.1, d.1, this.2⟩
  · refine ⟨c.1, d.1, ?_⟩
    unfold tkE
    rw [if_pos (by omega)]; exact e
theorem pz_le {B : Nat → Int} {n q : Nat} (h : q ≤ n) : ∀ i, pzB B n q i ≤ n
  | 0 => (tk_le h).2.2
  | i + 1 => (tk_le (pz_le h i)).2.2
theorem pz_grow {B : Nat → Int} {n q : Nat} (h : tkK B n q ≠ 0) : ∀ i, (∀ j, j < i → tkK B n (pzB B n q j) = 1) → tkW B n q + i < pzB B n q i ∧ ∀ j, j < i → wzB B n q j < pzB B n q i ∧ tkW B n q < wzB B n q j
  | 0, _ => ⟨(tk_go h).2.1, fun j hj => by omega⟩
  | i + 1, hk => by
    obtain ⟨a, c⟩ := pz_grow h i (fun j hj => hk j (by omega))
    have g := tk_go (B := B) (n := n) (q := pzB B n q i) (by rw [hk i (by omega)]; decide)
    have e : pzB B n q (i + 1) = tkE B n (pzB B n q i) := rfl
    have ew : wzB B n q i = tkW B n (pzB B n q i) := rfl
    rw [e]
    refine ⟨by omega, fun j hj => ?_⟩
    by_cases z : j = i
    · subst z
      rw [ew]; exact ⟨g.2.1, by omega⟩
    · have := c j (by omega)
      exact ⟨by omega, this.2⟩
/-- a number is what two figures can be -/
theorem tkV_rng {B : Nat → Int} {n q : Nat} (h : tkK B n q = 1) : 0 ≤ tkV B n q ∧ tkV B n q ≤ 99 ∧ 1 ≤ tkE B n q - tkW B n q ∧ tkE B n q - tkW B n q ≤ 2 := by
  have g := tk_go (B := B) (n := n) (q := q) (by rw [h]; decide)
  unfold tkK at h
  rw [if_neg (by omega)] at h
  split at h
  · split at h <;> cases h
  · split at h
    · rename_i h1 h2
      split at h
      · rename_i h3
        have e : tkE B n q = reB dgB B n (tkW B n q) := by
          unfold tkE
          rw [if_neg (by omega), if_neg h1, if_pos h2]
        obtain ⟨_, a2, _, _⟩ := reB_sp (P := dgB) (B := B) (n := n) dg_1 (n - tkW B n q + 1) (tkW B n q) (by omega)
        rw [← e] at a2
        have d1 := of_decide_eq_true h2
        have d2 : tkE B n q - tkW B n q = 1 ∨ (48 ≤ B (tkW B n q + 1) ∧ B (tkW B n q + 1) ≤ 57) := by
          by_cases z : tkE B n q - tkW B n q = 1
          · exact Or.inl z
          · right
            have := a2 (tkW B n q + 1) (by omega) (by omega)
            have eb : bAt B n (tkW B n q + 1) = B (tkW B n q + 1) := if_pos (by omega)
            rw [eb] at this
            exact of_decide_eq_true this
        unfold tkV
        split
        · omega
        · omega
      · cases h
    · split at h <;> cases h
end K9F
