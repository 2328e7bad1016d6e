set_option maxRecDepth 4000
/-! ===== the way with fewest new prints, without a heap ===== -/
section K61
variable {nx : Nat → Nat → Int} {pn : Nat → Nat → Nat → Int} {fr to N : Nat}
def mnS (g : Nat → Int) : Nat → Int
  | 0 => 1000000
  | k + 1 => if g k < mnS g k then g k else mnS g k
theorem mnS_le {g : Nat → Int} : ∀ n, mnS g n ≤ 1000000 ∧ ∀ k, k < n → mnS g n ≤ g k
  | 0 => ⟨Int.le_refl _, fun k h => by omega⟩
  | n + 1 => by
    obtain ⟨a, b⟩ := mnS_le (g := g) n
    show (if g n < mnS g n then g n else mnS g n) ≤ _ ∧ ∀ k, k < n + 1 → (if g n < mnS g n then g n else mnS g n) ≤ g k
    split
    · refine ⟨by omega, fun k hk => ?_⟩
      by_cases e : k = n
      · subst e; omega
      · have := b k (by omega); omega
    · refine ⟨a, fun k hk => ?_⟩
      by_cases e : k = n
      · subst e; omega
      · exact b k (by omega)
theorem mnS_at {g : Nat → Int} : ∀ n, mnS g n < 1000000 → ∃ k, k < n ∧ mnS g n = g k
  | 0, h => absurd h (by show ¬ ((1000000 : Int) < 1000000); omega)
  | n + 1, h => by
    by_cases c : g n < mnS g n
    · exact ⟨n, by omega, if_pos c⟩
    · have e : mnS g (n + 1) = mnS g n := if_neg c
      rw [e] at h
      obtain ⟨k, h1, h2⟩ := mnS_at n h
      exact ⟨k, by omega, e.trans h2⟩
theorem mnS_ge {g : Nat → Int} {v : Int} (hv : v ≤ 1000000) : ∀ n, (∀ k, k < n → v ≤ g k) → v ≤ mnS g n
  | 0, _ => hv
  | n + 1, h => by
    have a := mnS_ge hv n (fun k hk => h k (by omega))
    show v ≤ (if g n < mnS g n then g n else mnS g n)
    split
    · exact h n (by omega)
    · exact a
theorem mnS_cg {g g' : Nat → Int} : ∀ n, (∀ k, k < n → g k = g' k) → mnS g n = mnS g' n
  | 0, _ => rfl
  | n + 1, h => by
    have a := mnS_cg n (fun k hk => h k (by omega))
    show (if g n < mnS g n then g n else mnS g n) = (if g' n < mnS g' n then g' n else mnS g' n)
    rw [a, h n (by omega)]
def byW (nx : Nat → Nat → Int) (pn : Nat → Nat → Nat → Int) (A : Nat → Nat → Int) (f c s : Nat) : Int :=
  if nx c s = -1 then 1000000 else pn (1 - f) (nx c s).toNat s + A (1 - f) (nx c s).toNat
def Ah (nx : Nat → Nat → Int) (pn : Nat → Nat → Nat → Int) (to : Nat) : Nat → Nat → Nat → Int
  | 0, _, c => if c = to then 0 else 1000000
  | m + 1, f, c => mnS (fun s => byW nx pn (Ah nx pn to m) f c s) 4
def fsW (nx : Nat → Nat → Int) (pn : Nat → Nat → Nat → Int) (to fr m s : Nat) : Int := pn 0 fr s + byW nx pn (Ah nx pn to m) 0 fr s
def bwS (g : Nat → Int) (m : Nat) : Nat → Int × Nat → Int × Nat
  | 0, S => S
  | k + 1, S => if g k < (bwS g m k S).1 then (g k, m + 1) else bwS g m k S
def bw (nx : Nat → Nat → Int) (pn : Nat → Nat → Nat → Int) (to fr : Nat) : Nat → Int × Nat
  | 0 => (1000000, 0)
  | m + 1 => bwS (fsW nx pn to fr m) m 4 (bw nx pn to fr m)
/-- what still is to be paid with i steps made, at c, in m steps -/
def DW (nx : Nat → Nat → Int) (pn : Nat → Nat → Nat → Int) (to i c m : Nat) : Int :=
  if i = 0 then (if m = 0 then 1000000 else mnS (fun s => pn 0 c s + byW nx pn (Ah nx pn to (m - 1)) 0 c s) 4) else Ah nx pn to m (i % 2) c
/-- the price of step i to a side -/
def PrW (nx : Nat → Nat → Int) (pn : Nat → Nat → Nat → Int) (i c s : Nat) : Int := pn ((i + 1) % 2) (nx c s).toNat s + (if i = 0 then pn 0 c s else 0)
def WPok (nx : Nat → Nat → Int) (pn : Nat → Nat → Nat → Int) (N : Nat) : Prop := (∀ c s, c < N → s < 4 → nx c s = -1 ∨ (0 ≤ nx c s ∧ (nx c s).toNat < N)) ∧ ∀ f c s, 0 ≤ pn f c s ∧ pn f c s ≤ 1
theorem Ah_rng (ok : WPok nx pn N) : ∀ m f c, 0 ≤ Ah nx pn to m f c ∧ Ah nx pn to m f c ≤ 1000000
  | 0, f, c => by
    show 0 ≤ (if c = to then (0 : Int) else 1000000) ∧ (if c = to then (0 : Int) else 1000000) ≤ 1000000
    split <;> omega
  | m + 1, f, c => ⟨mnS_ge (by omega) 4 (fun s _ => by
      unfold byW
      split
      · omega
      · have a := (Ah_rng ok m (1 - f) (nx c s).toNat).1
        have b := (ok.2 (1 - f) (nx c s).toNat s).1
        omega), (mnS_le 4).1⟩
theorem DW_rng (ok : WPok nx pn N) (i c m : Nat) : 0 ≤ DW nx pn to i c m ∧ DW nx pn to i c m ≤ 1000000 := by
  unfold DW
  split
  · split
    · omega
    · refine ⟨mnS_ge (by omega) 4 (fun s _ => ?_), (mnS_le 4).1⟩
      have b := (ok.2 0 c s).1
      unfold byW
      split
      · omega
      · have a := (Ah_rng (to := to) ok (m - 1) (1 - 0) (nx c s).toNat).1
        have b2 := (ok.2 (1 - 0) (nx c s).toNat s).1
        omega
  · exact Ah_rng ok m _ _
theorem PrW_rng (ok : WPok nx pn N) (i c s : Nat) : 0 ≤ PrW nx pn i c s ∧ PrW nx pn i c s ≤ (if i = 0 then 2 else 1) := by
  have a := ok.2 ((i + 1) % 2) (nx c s).toNat s
  have b := ok.2 0 c s
  unfold PrW
  split <;> omega
theorem DW_one (m i c s : Nat) (hn : nx c s ≠ -1) : (if i = 0 then pn 0 c s else 0) + byW nx pn (Ah nx pn to m) (i % 2) c s = PrW nx pn i c s + DW nx pn to (i + 1) (nx c s).toNat m := by
  unfold PrW DW byW
  rw [if_neg hn, if_neg (show ¬ i + 1 = 0 by omega), show 1 - i % 2 = (i + 1) % 2 by omega]
  omega
theorem DW_sel (m i c : Nat) : DW nx pn to i c (m + 1) = mnS (fun s => (if i = 0 then pn 0 c s else 0) + byW nx pn (Ah nx pn to m) (i % 2) c s) 4 := by
  unfold DW
  by_cases e : i = 0
  · subst e
    rw [if_pos rfl, if_neg (by omega)]
    exact mnS_cg 4 (fun s _ => by rw [if_pos rfl]; rfl)
  · rw [if_neg e]
    exact mnS_cg 4 (fun s _ => by rw [if_neg e, Int.zero_add])
theorem DW_step (m i c s : Nat) (hs : s < 4) (hn : nx c s ≠ -1) : DW nx pn to i c (m + 1) ≤ PrW nx pn i c s + DW nx pn to (i + 1) (nx c s).toNat m := by
  rw [DW_sel, ← DW_one m i c s hn]
  exact (mnS_le 4).2 s hs
theorem DW_att (ok : WPok nx pn N) (m i c : Nat) (h : DW nx pn to i c (m + 1) < 1000000) : ∃ s, s < 4 ∧ nx c s ≠ -1 ∧ DW nx pn to i c (m + 1) = PrW nx pn i c s + DW nx pn to (i + 1) (nx c s).toNat m := by
  rw [DW_sel] at h
  obtain ⟨s, h1, h2⟩ := mnS_at 4 h
  have hn : nx c s ≠ -1 := fun e => by
    rw [h2] at h
    have b := (ok.2 0 c s).1
    have e9 : byW nx pn (Ah nx pn to m) (i % 2) c s = 1000000 := if_pos e
    rw [e9] at h
    split at h <;> omega
  exact ⟨s, h1, hn, by rw [DW_sel, h2]; exact DW_one m i c s hn⟩
theorem bwS_le {g : Nat → Int} {m : Nat} {S : Int × Nat} : ∀ k, (bwS g m k S).1 ≤ S.1 ∧ (∀ s, s < k → (bwS g m k S).1 ≤ g s) ∧ ((bwS g m k S = S) ∨ ((bwS g m k S).1 < S.1 ∧ (bwS g m k S).2 = m + 1 ∧ ∃ s, s < k ∧ (bwS g m k S).1 = g s))
  | 0 => ⟨Int.le_refl _, fun s h => by omega, Or.inl rfl⟩
  | k + 1 => by
    obtain ⟨a, b, c⟩ := bwS_le (g := g) (m := m) (S := S) k
    by_cases q : g k < (bwS g m k S).1
    · have e : bwS g m (k + 1) S = (g k, m + 1) := if_pos q
      rw [e]
      refine ⟨by show g k ≤ _; omega, fun s hs => ?_, Or.inr ⟨by show g k < _; omega, rfl, k, by omega, rfl⟩⟩
      show g k ≤ g s
      by_cases es : s = k
      · subst es; omega
      · have := b s (by omega); omega
    · have e : bwS g m (k + 1) S = bwS g m k S := if_neg q
      rw [e]
      refine ⟨a, fun s hs => ?_, c.elim Or.inl (fun ⟨c1, c2, s, c3, c4⟩ => Or.inr ⟨c1, c2, s, by omega, c4⟩)⟩
      by_cases es : s = k
      · subst es; omega
      · exact b s (by omega)
/-- the best of all: prints and steps -/
theorem bw_spec (ok : WPok nx pn N) : ∀ M, (bw nx pn to fr M).1 ≤ 1000000 ∧ 0 ≤ (bw nx pn to fr M).1 ∧ (bw nx pn to fr M).2 ≤ M ∧ (∀ m, m < M → ∀ s, s < 4 → (bw nx pn to fr M).1 ≤ fsW nx pn to fr m s ∧ (fsW nx pn to fr m s = (bw nx pn to fr M).1 → (bw nx pn to fr M).2 ≤ m + 1)) ∧ ((bw nx pn to fr M).1 < 1000000 → 1 ≤ (bw nx pn to fr M).2 ∧ ∃ s, s < 4 ∧ (bw nx pn to fr M).1 = fsW nx pn to fr ((bw nx pn to fr M).2 - 1) s)
  | 0 => ⟨Int.le_refl _, by show (0 : Int) ≤ 1000000; omega, Nat.le_refl _, fun m h => by omega, fun h => absurd h (by show ¬ ((1000000 : Int) < 1000000); omega)⟩
  | M + 1 => by
    obtain ⟨a, a0, b, c, d⟩ := bw_spec ok M
    obtain ⟨e1, e2, e3⟩ := bwS_le (g := fsW nx pn to fr M) (m := M) (S := bw nx pn to fr M) 4
    have eB : bw nx pn to fr (M + 1) = bwS (fsW nx pn to fr M) M 4 (bw nx pn to fr M) := rfl
    rw [← eB] at e1 e2 e3
    have nn : ∀ s, 0 ≤ fsW nx pn to fr M s := fun s => by
      have b := (ok.2 0 fr s).1
      unfold fsW byW
      split
      · omega
      · have a := (Ah_rng (to := to) ok M (1 - 0) (nx fr s).toNat).1
        have b2 := (ok.2 (1 - 0) (nx fr s).toNat s).1
        omega
    rcases e3 with e | ⟨f1, f2, s0, f3, f4⟩
    · rw [e]
      rw [e] at e2
      refine ⟨a, a0, by omega, fun m hm s hs => ?_, d⟩
      by_cases em : m = M
      · subst em; exact ⟨e2 s hs, fun _ => by omega⟩
      · exact c m (by omega) s hs
    · refine ⟨by omega, by rw [f4]; exact nn s0, by omega, fun m hm s hs => ?_, fun _ => ⟨by omega, s0, f3, by rw [f2, f4]; rfl⟩⟩
      by_cases em : m = M
      · subst em; exact ⟨e2 s hs, fun _ => by omega⟩
      · have := c m (by omega) s hs
        exact ⟨by omega, fun z => by omega⟩
/-- an entry is no better than the best -/
def GdW (nx : Nat → Nat → Int) (pn : Nat → Nat → Nat → Int) (to : Nat) (B : Int × Nat) (i c : Nat) (v : Int) : Prop :=
  (0 ≤ v ∧ v ≤ (if i = 0 then 0 else (i : Int) + 1)) ∧ ∀ m, i + m ≤ 40 → B.1 ≤ v + DW nx pn to i c m ∧ (v + DW nx pn to i c m = B.1 → B.2 ≤ i + m)
theorem bw_none (ok : WPok nx pn N) : ∀ M, (bw nx pn to fr M).1 = 1000000 → (bw nx pn to fr M).2 = 0
  | 0, _ => rfl
  | M + 1, h => by
    obtain ⟨e1, e2, e3⟩ := bwS_le (g := fsW nx pn to fr M) (m := M) (S := bw nx pn to fr M) 4
    have eB : bw nx pn to fr (M + 1) = bwS (fsW nx pn to fr M) M 4 (bw nx pn to fr M) := rfl
    rw [← eB] at e1 e2 e3
    have bM := (bw_spec (to := to) (fr := fr) ok M).1
    rcases e3 with e | ⟨f1, f2, f3⟩
    · rw [e]; exact bw_none ok M (by rw [← e]; exact h)
    · omega
theorem GdW_0 (ok : WPok nx pn N) : GdW nx pn to (bw nx pn to fr 40) 0 fr 0 := by
  obtain ⟨a, a0, b, c, d⟩ := bw_spec (to := to) (fr := fr) ok 40
  refine ⟨⟨by omega, by rw [if_pos rfl]; omega⟩, fun m hm => ?_⟩
  by_cases e : m = 0
  · subst e
    have : DW nx pn to 0 fr 0 = 1000000 := rfl
    rw [this]
    refine ⟨by omega, fun z => ?_⟩
    have := bw_none (to := to) (fr := fr) ok 40 (by omega)
    omega
  · obtain ⟨k, hk⟩ : ∃ k, m = k + 1 := ⟨m - 1, by omega⟩
    subst hk
    have eD : DW nx pn to 0 fr (k + 1) = mnS (fsW nx pn to fr k) 4 := rfl
    rw [eD, Int.zero_add, Nat.zero_add]
    refine ⟨mnS_ge a 4 (fun s hs => (c k (by omega) s hs).1), fun z => ?_⟩
    by_cases q : mnS (fsW nx pn to fr k) 4 < 1000000
    · obtain ⟨s, h1, h2⟩ := mnS_at 4 q
      exact (c k (by omega) s h1).2 (by rw [← h2]; exact z)
    · have l := (mnS_le (g := fsW nx pn to fr k) 4).1
      have := bw_none (to := to) (fr := fr) ok 40 (by omega)
      omega
theorem GdW_step (ok : WPok nx pn N) {B : Int × Nat} {i c s : Nat} {v : Int} (g : GdW nx pn to B i c v) (hs : s < 4) (hn : nx c s ≠ -1) : GdW nx pn to B (i + 1) (nx c s).toNat (v + PrW nx pn i c s) := by
  obtain ⟨⟨g1, g2⟩, g3⟩ := g
  have p := PrW_rng (nx := nx) ok i c s
  refine ⟨⟨by omega, ?_⟩, fun m hm => ?_⟩
  · rw [if_neg (by omega)]
    by_cases e : i = 0
    · rw [if_pos e] at g2 p; omega
    · rw [if_neg e] at g2 p; omega
  · have st := DW_step (nx := nx) (pn := pn) (to := to) m i c s hs hn
    obtain ⟨h1, h2⟩ := g3 (m + 1) (by omega)
    exact ⟨by omega, fun z => by have := h2 (by omega); omega⟩
theorem GdW_par {B : Int × Nat} {i j c : Nat} {u v : Int} (g : GdW nx pn to B j c u) (hj : 0 < j) (hji : j < i) (hp : j % 2 = i % 2) (hi : i ≤ B.2) (h40 : B.2 ≤ 40) (o : v + DW nx pn to i c (B.2 - i) = B.1) : v < u := by
  obtain ⟨h1, h2⟩ := g.2 (B.2 - i) (by omega)
  have e : DW nx pn to j c (B.2 - i) = DW nx pn to i c (B.2 - i) := by
    unfold DW
    rw [if_neg (by omega), if_neg (by omega), hp]
  rw [e] at h1 h2
  by_cases q : u + DW nx pn to i c (B.2 - i) = B.1
  · have := h2 q; omega
  · omega
/-- the first of four sides that serves, or 4 -/
def fs4 (p : Nat → Bool) : Nat := if p 0 = true then 0 else if p 1 = true then 1 else if p 2 = true then 2 else if p 3 = true then 3 else 4
theorem fs4_cg {p q : Nat → Bool} (e : ∀ s, s < 4 → p s = q s) : fs4 p = fs4 q := by
  unfold fs4
  rw [e 0 (by omega), e 1 (by omega), e 2 (by omega), e 3 (by omega)]
theorem fs4_spec {p : Nat → Bool} (e : ∃ s, s < 4 ∧ p s = true) : fs4 p < 4 ∧ p (fs4 p) = true ∧ ∀ s, s < fs4 p → p s = false := by
  obtain ⟨s, h1, h2⟩ := e
  have al : p 0 = true ∨ p 1 = true ∨ p 2 = true ∨ p 3 = true := by
    rcases (by omega : s = 0 ∨ s = 1 ∨ s = 2 ∨ s = 3) with q | q | q | q <;> subst q
    · exact Or.inl h2
    · exact Or.inr (Or.inl h2)
    · exact Or.inr (Or.inr (Or.inl h2))
    · exact Or.inr (Or.inr (Or.inr h2))
  have f : ∀ s, p s ≠ true → p s = false := fun s h => by cases h3 : p s with
    | true => exact absurd h3 h
    | false => rfl
  unfold fs4
  split
  · rename_i a; exact ⟨by omega, a, fun s hs => by omega⟩
  · rename_i a0
    split
    · rename_i a; exact ⟨by omega, a, fun s hs => by rw [show s = 0 by omega]; exact f 0 a0⟩
    · rename_i a1
      split
      · rename_i a; exact ⟨by omega, a, fun s hs => by rcases (by omega : s = 0 ∨ s = 1) with q | q <;> rw [q]
                                                       · exact f 0 a0
                                                       · exact f 1 a1⟩
      · rename_i a2
        split
        · rename_i a; exact ⟨by omega, a, fun s hs => by rcases (by omega : s = 0 ∨ s = 1 ∨ s = 2) with q | q | q <;> rw [q]
                                                         · exact f 0 a0
                                                         · exact f 1 a1
                                                         · exact f 2 a2⟩
        · rename_i a3
          exact absurd al (fun z => z.elim a0 (fun z => z.elim a1 (fun z => z.elim a2 a3)))
theorem fs4_at {p : Nat → Bool} {s : Nat} (hs : s < 4) (h : p s = true) (h0 : ∀ j, j < s → p j = false) : fs4 p = s := by
  obtain ⟨a, b, c⟩ := fs4_spec ⟨s, hs, h⟩
  by_cases e : fs4 p < s
  · rw [h0 _ e] at b; cases b
  · by_cases e2 : s < fs4 p
    · rw [c s e2] at h; cases h
    · omega
theorem fs4_no {p : Nat → Bool} (h0 : ∀ j, j < 4 → p j = false) : fs4 p = 4 := by
  unfold fs4
  rw [h0 0 (by omega), h0 1 (by omega), h0 2 (by omega), h0 3 (by omega)]
  rfl
/-- a side serves, where that much is left -/
def svW (nx : Nat → Nat → Int) (pn : Nat → Nat → Nat → Int) (to n i c : Nat) : Nat → Bool := fun s => decide (nx c s ≠ -1 ∧ PrW nx pn i c s + DW nx pn to (i + 1) (nx c s).toNat (n - (i + 1)) = DW nx pn to i c (n - i))
def sdW (nx : Nat → Nat → Int) (pn : Nat → Nat → Nat → Int) (to n i c : Nat) : Nat := fs4 (svW nx pn to n i c)
def cwW (nx : Nat → Nat → Int) (pn : Nat → Nat → Nat → Int) (to n fr : Nat) : Nat → Nat
  | 0 => fr
  | i + 1 => (nx (cwW nx pn to n fr i) (sdW nx pn to n i (cwW nx pn to n fr i))).toNat
theorem sdW_spec (ok : WPok nx pn N) {n i c : Nat} (hi : i < n) (hD : DW nx pn to i c (n - i) < 1000000) : sdW nx pn to n i c < 4 ∧ nx c (sdW nx pn to n i c) ≠ -1 ∧ PrW nx pn i c (sdW nx pn to n i c) + DW nx pn to (i + 1) (nx c (sdW nx pn to n i c)).toNat (n - (i + 1)) = DW nx pn to i c (n - i) := by
  have e : n - i = (n - (i + 1)) + 1 := by omega
  rw [e] at hD
  obtain ⟨s, h1, h2, h3⟩ := DW_att ok (n - (i + 1)) i c hD
  obtain ⟨a, b, _⟩ := fs4_spec (p := svW nx pn to n i c) ⟨s, h1, decide_eq_true ⟨h2, by rw [e]; exact h3.symm⟩⟩
  have b2 := of_decide_eq_true b
  exact ⟨a, b2.1, b2.2⟩
theorem cwW_spec (ok : WPok nx pn N) {n : Nat} (hf : fr < N) (hD : DW nx pn to 0 fr n < 1000000) : ∀ i, i ≤ n → cwW nx pn to n fr i < N ∧ DW nx pn to i (cwW nx pn to n fr i) (n - i) < 1000000
  | 0, _ => ⟨hf, hD⟩
  | i + 1, h => by
    obtain ⟨a, b⟩ := cwW_spec ok hf hD i (by omega)
    obtain ⟨s1, s2, s3⟩ := sdW_spec ok (by omega) b
    have p := (PrW_rng (nx := nx) ok i (cwW nx pn to n fr i) (sdW nx pn to n i (cwW nx pn to n fr i))).1
    refine ⟨((ok.1 _ _ a s1).resolve_left s2).2, ?_⟩
    show DW nx pn to (i + 1) (nx (cwW nx pn to n fr i) (sdW nx pn to n i (cwW nx pn to n fr i))).toNat (n - (i + 1)) < 1000000
    omega
/-- what a side leads to is as good as can be -/
theorem OpW_next (ok : WPok nx pn N) {B : Int × Nat} {i c s : Nat} {v v' : Int} (hi : i < B.2) (h40 : B.2 ≤ 40) (o : v + DW nx pn to i c (B.2 - i) = B.1) (hs : s < 4) (hn : nx c s ≠ -1) (he : PrW nx pn i c s + DW nx pn to (i + 1) (nx c s).toNat (B.2 - (i + 1)) = DW nx pn to i c (B.2 - i)) (g : GdW nx pn to B (i + 1) (nx c s).toNat v') (hv : v' ≤ v + PrW nx pn i c s) : v' = v + PrW nx pn i c s ∧ v' + DW nx pn to (i + 1) (nx c s).toNat (B.2 - (i + 1)) = B.1 := by
  have := (g.2 (B.2 - (i + 1)) (by omega)).1
  omega
end K61
