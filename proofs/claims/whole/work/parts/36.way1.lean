set_option maxRecDepth 4000
/-! ===== squares, one's way over them ===== -/
theorem n_m1 {x : Int32} : x = -1 ↔ x.toInt = -1 := n_eqc (c := -1)
theorem n_m0 {x : Int32} : x = 0 ↔ x.toInt = 0 := n_eqc (c := 0)
def pF (V : Nat → Int) (p f : Nat) : Int := V (120 + 33 * p + f)
def sdV (V : Nat → Int) (p i : Nat) : Int := V (129 + 33 * p + i)
def bdx (s f : Int) : Int := if s = 1 then f else if s = 3 then -f else 0
def bdy (s f : Int) : Int := if s = 2 then f else if s = 0 then -f else 0
def bes (V : Nat → Int) (c s f : Int) : Int :=
  if 0 ≤ c ∧ c < V 0 * V 1 then
    (if 0 ≤ c % V 0 + bdx s f ∧ c % V 0 + bdx s f < V 0 ∧ 0 ≤ c / V 0 + bdy s f ∧ c / V 0 + bdy s f < V 1 then (c / V 0 + bdy s f) * V 0 + (c % V 0 + bdx s f) else -1)
  else -1
theorem wh_rng {W H : Int} (hW : 2 ≤ W ∧ W ≤ 8) (hH : 2 ≤ H ∧ H ≤ 8) : 4 ≤ W * H ∧ W * H ≤ 64 := by
  have h1 : 2 * 2 ≤ W * H := Int.mul_le_mul hW.1 hH.1 (by decide) (by omega)
  have h2 : W * H ≤ 8 * 8 := Int.mul_le_mul hW.2 hH.2 (by omega) (by decide)
  omega
theorem rc_rng {W H r q : Int} (hr : 0 ≤ r ∧ r < H) (hq : 0 ≤ q ∧ q < W) : 0 ≤ r * W + q ∧ r * W + q < W * H := by
  have h1 : 0 ≤ r * W := Int.mul_nonneg hr.1 (by omega)
  have h2 : r * W ≤ (H - 1) * W := Int.mul_le_mul_of_nonneg_right (by omega) (by omega)
  have h3 : (H - 1) * W = W * H - W := by rw [Int.sub_mul, Int.one_mul, Int.mul_comm]
  omega
theorem bes_rng {V : Nat → Int} (c s f : Int) : bes V c s f = -1 ∨ (0 ≤ bes V c s f ∧ bes V c s f < V 0 * V 1) := by
  unfold bes
  split
  · split
    · rename_i h1 h2
      exact Or.inr (rc_rng ⟨h2.2.2.1, h2.2.2.2⟩ ⟨h2.1, h2.2.1⟩)
    · exact Or.inl rfl
  · exact Or.inl rfl
theorem dm_rng {W H c : Int} (hW : 2 ≤ W ∧ W ≤ 8) (hc : 0 ≤ c ∧ c < W * H) (hH : 2 ≤ H ∧ H ≤ 8) : 0 ≤ c / W ∧ c / W < H ∧ 0 ≤ c % W ∧ c % W < W := by
  refine ⟨Int.ediv_nonneg hc.1 (by omega), Int.ediv_lt_of_lt_mul (by omega) (by rw [Int.mul_comm]; exact hc.2), Int.emod_nonneg _ (by omega), Int.emod_lt_of_pos _ (by omega)⟩
theorem bdx_b {s f : Int} (hf : 0 ≤ f ∧ f ≤ 3) : -3 ≤ bdx s f ∧ bdx s f ≤ 3 := by
  unfold bdx
  (repeat' split) <;> omega
theorem bdy_b {s f : Int} (hf : 0 ≤ f ∧ f ≤ 3) : -3 ≤ bdy s f ∧ bdy s f ≤ 3 := by
  unfold bdy
  (repeat' split) <;> omega
/-- row and column as the machine has them -/
theorem n_row {c w d : Int32} {W H D : Int} (hw : w.toInt = W) (hW : 2 ≤ W ∧ W ≤ 8) (hH : 2 ≤ H ∧ H ≤ 8) (hc : 0 ≤ c.toInt ∧ c.toInt < W * H) (hd : d.toInt = D) (hD : -3 ≤ D ∧ D ≤ 3) : (c / w + d).toInt = c.toInt / W + D ∧ (zrem c w + d).toInt = c.toInt % W + D := by
  have dm := dm_rng hW hc hH
  have e1 : (c / w).toInt = c.toInt / W := by rw [n_div hc.1 (by omega), hw]
  have e2 : (zrem c w).toInt = c.toInt % W := by rw [n_rem hc.1 (by omega), hw]
  exact ⟨by rw [i_add (by omega) (by omega), e1, hd], by rw [i_add (by omega) (by omega), e2, hd]⟩
theorem n_cell {r q w : Int32} {W H : Int} (hw : w.toInt = W) (hW : 2 ≤ W ∧ W ≤ 8) (hH : 2 ≤ H ∧ H ≤ 8) (hr : 0 ≤ r.toInt ∧ r.toInt < H) (hq : 0 ≤ q.toInt ∧ q.toInt < W) : (r * w + q).toInt = r.toInt * W + q.toInt := by
  have g := rc_rng hr hq
  have b := wh_rng hW hH
  have h1 : 0 ≤ r.toInt * W := Int.mul_nonneg hr.1 (by omega)
  have e : (r * w).toInt = r.toInt * W := by rw [i_mul (by rw [hw]; omega) (by rw [hw]; omega), hw]
  rw [i_add (by rw [e]; omega) (by rw [e]; omega), e]
theorem n_neg {x : Int32} (h : -100 ≤ x.toInt ∧ x.toInt ≤ 100) : (-x).toInt = -x.toInt := by
  rw [Int32.toInt_neg]; exact i_bm _ (by omega) (by omega)
theorem zbes_eq {w g c s f : Int32} {V : Nat → Int} (hw : w.toInt = V 0) (hg : g.toInt = V 1) (hW : 2 ≤ V 0 ∧ V 0 ≤ 8) (hH : 2 ≤ V 1 ∧ V 1 ≤ 8) (hs : 0 ≤ s.toInt ∧ s.toInt ≤ 3) (hf : 0 ≤ f.toInt ∧ f.toInt ≤ 3) : (zbes w g c s f).toInt = bes V c.toInt s.toInt f.toInt := by
  have wb := wh_rng hW hH
  have eg : (w * g).toInt = V 0 * V 1 := by rw [i_mul (by rw [hw, hg]; omega) (by rw [hw, hg]; omega), hw, hg]
  unfold zbes bes
  by_cases hc : 0 ≤ c.toInt ∧ c.toInt < V 0 * V 1
  · rw [if_neg (by rw [eg]; omega), if_pos hc]
    have dm := dm_rng hW hc hH
    have ex := bdx_b (s := s.toInt) hf
    have ey := bdy_b (s := s.toInt) hf
    have z0 := n_row (d := 0) hw hW hH hc rfl (by decide)
    have zf := n_row (d := f) hw hW hH hc rfl (by omega)
    have er : (zbrow w c s f).toInt = c.toInt / V 0 + bdy s.toInt f.toInt := by
      unfold zbrow bdy
      by_cases a0 : s.toInt = 0
      · rw [if_pos a0, if_neg (by omega), if_pos a0, i_sub (by have := zf.1; rw [show (c / w).toInt = c.toInt / V 0 by rw [n_div hc.1 (by omega), hw]]; omega) (by rw [show (c / w).toInt = c.toInt / V 0 by rw [n_div hc.1 (by omega), hw]]; omega), n_div hc.1 (by omega), hw]; omega
      · by_cases a2 : s.toInt = 2
        · rw [if_neg a0, if_pos a2, if_pos a2]; exact zf.1
        · rw [if_neg a0, if_neg a2, if_neg a2, if_neg a0, n_div hc.1 (by omega), hw]; omega
    have ec : (zbcol w c s f).toInt = c.toInt % V 0 + bdx s.toInt f.toInt := by
      unfold zbcol bdx
      by_cases a1 : s.toInt = 1
      · rw [if_pos a1, if_pos a1]; exact zf.2
      · by_cases a3 : s.toInt = 3
        · rw [if_neg a1, if_neg (by omega), if_neg a1, if_pos a3, i_sub (by rw [show (zrem c w).toInt = c.toInt % V 0 by rw [n_rem hc.1 (by omega), hw]]; omega) (by rw [show (zrem c w).toInt = c.toInt % V 0 by rw [n_rem hc.1 (by omega), hw]]; omega), n_rem hc.1 (by omega), hw]; omega
        · rw [if_neg a1, if_pos (by omega), if_neg a1, if_neg a3, n_rem hc.1 (by omega), hw]; omega
    rw [er, ec, hg, hw]
    by_cases q : 0 ≤ c.toInt % V 0 + bdx s.toInt f.toInt ∧ c.toInt % V 0 + bdx s.toInt f.toInt < V 0 ∧ 0 ≤ c.toInt / V 0 + bdy s.toInt f.toInt ∧ c.toInt / V 0 + bdy s.toInt f.toInt < V 1
    · rw [if_pos (by omega), if_pos q, n_cell hw hW hH (by rw [er]; omega) (by rw [ec]; omega), er, ec]
    · rw [if_neg (by omega), if_neg q]; rfl
  · rw [if_pos (by rw [eg]; omega), if_neg hc]; rfl
/-- the reference's step -/
theorem c_stepped (l : Launch) (G : zG) (h : zH) (V : Nat → Int) (x1 x2 x3 : Int32) (hl : lo11 h 313) (k0 : zofk h 313 0 ∧ (zof h 313 0).toInt = V 0) (k1 : zofk h 313 1 ∧ (zof h 313 1).toInt = V 1) (hW : 2 ≤ V 0 ∧ V 0 ≤ 8) (hH : 2 ≤ V 1 ∧ V 1 ≤ 8) (hc : 0 ≤ x1.toInt ∧ x1.toInt < V 0 * V 1) (hs : 0 ≤ x2.toInt ∧ x2.toInt ≤ 3) (hf : 0 ≤ x3.toInt ∧ x3.toInt ≤ 3) :
    CTi l G YX11_stepped 2 [va_rf (some 313), .int x1, .int x2, .int x3] h (fun y I => y.toInt = bes V x1.toInt x2.toInt x3.toInt ∧ I = h.1) := by
  have nz : ¬ (zof h 313 0) = 0 := fun e => by
    have := k0.2
    rw [e, show (0 : Int32).toInt = 0 from rfl] at this
    omega
  have sb : ∀ {x : Int32} {v : Int}, x.toInt = v → 2 ≤ v ∧ v ≤ 8 → (x - 1).toInt = v - 1 := fun e b => by
    rw [i_sub (by rw [e]; show _ ≤ _ - (1 : Int); omega) (by rw [e]; show _ - (1 : Int) < _; omega), e]; rfl
  have e0 := sb k0.2 hW
  have e1 := sb k1.2 hH
  have fin : ∀ (dx dy : Int32), dx.toInt = bdx x2.toInt x3.toInt → dy.toInt = bdy x2.toInt x3.toInt →
      ((zofk h 313 (0 : Int32)) ∧ (((zin3 ((zrem x1 (zof h 313 (0 : Int32))) + dx) (0 : Int32) ((zof h 313 (0 : Int32)) - 1)) = false → (fun (v : Option Value) h1 => ∃ y I, v = some (.int y) ∧ h1 = (I, h.2) ∧ (y.toInt = bes V x1.toInt x2.toInt x3.toInt ∧ I = h.1)) (some (.int ((-1)))) h) ∧ ((zin3 ((zrem x1 (zof h 313 (0 : Int32))) + dx) (0 : Int32) ((zof h 313 (0 : Int32)) - 1)) = true → ((zofk h 313 (1 : Int32)) ∧ (((zin3 ((x1 / (zof h 313 (0 : Int32))) + dy) (0 : Int32) ((zof h 313 (1 : Int32)) - 1)) = false → (fun (v : Option Value) h1 => ∃ y I, v = some (.int y) ∧ h1 = (I, h.2) ∧ (y.toInt = bes V x1.toInt x2.toInt x3.toInt ∧ I = h.1)) (some (.int ((-1)))) h) ∧ ((zin3 ((x1 / (zof h 313 (0 : Int32))) + dy) (0 : Int32) ((zof h 313 (1 : Int32)) - 1)) = true → ((zofk h 313 (0 : Int32)) ∧ (fun (v : Option Value) h1 => ∃ y I, v = some (.int y) ∧ h1 = (I, h.2) ∧ (y.toInt = bes V x1.toInt x2.toInt x3.toInt ∧ I = h.1)) (some (.int (((((x1 / (zof h 313 (0 : Int32))) + dy) * (zof h 313 (0 : Int32))) + ((zrem x1 (zof h 313 (0 : Int32))) + dx))))) h))))))) := by
    intro dx dy ex ey
    have rx := n_row (d := dx) k0.2 hW hH hc ex (bdx_b hf)
    have ry := n_row (d := dy) k0.2 hW hH hc ey (bdy_b hf)
    refine ⟨k0.1, fun c => ⟨_, h.1, rfl, rfl, ?_, rfl⟩, fun c => ⟨k1.1, fun c2 => ⟨_, h.1, rfl, rfl, ?_, rfl⟩, fun c2 => ⟨k0.1, _, h.1, rfl, rfl, ?_, rfl⟩⟩⟩
    · have q := (n3r (u := 0) (a := 0) rfl e0).2.mp c
      rw [rx.2] at q
      unfold bes
      rw [if_pos hc, if_neg (by omega)]; rfl
    · have q := (n3r (u := 0) (a := 0) rfl e1).2.mp c2
      rw [ry.1] at q
      unfold bes
      rw [if_pos hc, if_neg (by omega)]; rfl
    · have q := (n3r (u := 0) (a := 0) rfl e0).1.mp c
      have q2 := (n3r (u := 0) (a := 0) rfl e1).1.mp c2
      rw [rx.2] at q
      rw [ry.1] at q2
      unfold bes
      rw [if_pos hc, if_pos (by omega), n_cell k0.2 hW hH (by rw [ry.1]; omega) (by rw [rx.2]; omega), ry.1, rx.2]
  have en : (-x3).toInt = -x3.toInt := n_neg (by omega)
  have i0 : ∀ {c : Int32}, ¬ x2 = c → ¬ x2.toInt = c.toInt := fun a b => a (i_ext b)
  refine kX11_stepped 313 x1 x2 x3 (sX11_stepped_0 313 x1 x2 x3 hl (Nat.le_refl _) ⟨k0.1, nz, fun c1 => ⟨fun c2 => ⟨k0.1, nz, fun c3 => ⟨fun c4 => ?_, fun c9 => ?_⟩, fun c14 => ?_⟩, fun c19 => ⟨k0.1, nz, fun c20 => ⟨fun c21 => ?_, fun c26 => ?_⟩, fun c31 => ?_⟩⟩, fun c36 => ⟨k0.1, nz, fun c37 => ⟨fun c38 => ?_, fun c43 => ?_⟩, fun c48 => ?_⟩⟩)
  · have a1 := i0 c1; have a2 := i0 c2; have a3 := i0 c3; have a4 := i0 c4
    rw [show (1 : Int32).toInt = 1 from rfl] at a1
    rw [show (3 : Int32).toInt = 3 from rfl] at a2
    rw [show (2 : Int32).toInt = 2 from rfl] at a3
    rw [show (0 : Int32).toInt = 0 from rfl] at a4
    omega
  · exact fin 0 (-x3) (by rw [c9]; rfl) (by rw [c9, en]; rfl)
  · exact fin 0 x3 (by rw [c14]; rfl) (by rw [c14]; rfl)
  · exact fin (-x3) 0 (by rw [c19, en]; rfl) (by rw [c19]; rfl)
  · rw [c19] at c26; exact absurd c26 (by decide)
  · rw [c19] at c31; exact absurd c31 (by decide)
  · exact fin x3 0 (by rw [c36]; rfl) (by rw [c36]; rfl)
  · rw [c36] at c43; exact absurd c43 (by decide)
  · rw [c36] at c48; exact absurd c48 (by decide)
/-- where one is after k of his steps, and whether he still goes on -/
def gow (V : Nat → Int) (p : Nat) : Nat → Int × Bool
  | 0 => (pF V p 6, true)
  | k + 1 => if (gow V p k).2 = true then (if bes V (gow V p k).1 (sdV V p k) (pF V p 1) = -1 then ((gow V p k).1, false) else (bes V (gow V p k).1 (sdV V p k) (pF V p 1), true)) else ((gow V p k).1, false)
def mdc (V : Nat → Int) (p : Nat) : Nat → Nat
  | 0 => 0
  | k + 1 => mdc V p k + (if (gow V p (k + 1)).2 = true then 1 else 0)
theorem gow_s {V : Nat → Int} {p k : Nat} : gow V p (k + 1) = if (gow V p k).2 = true then (if bes V (gow V p k).1 (sdV V p k) (pF V p 1) = -1 then ((gow V p k).1, false) else (bes V (gow V p k).1 (sdV V p k) (pF V p 1), true)) else ((gow V p k).1, false) := rfl
theorem gow_off {V : Nat → Int} {p k : Nat} (h : (gow V p k).2 = false) : gow V p (k + 1) = ((gow V p k).1, false) := by
  rw [gow_s, if_neg (by rw [h]; decide)]
theorem gow_out {V : Nat → Int} {p k : Nat} (h : (gow V p k).2 = true) (b : bes V (gow V p k).1 (sdV V p k) (pF V p 1) = -1) : gow V p (k + 1) = ((gow V p k).1, false) := by
  rw [gow_s, if_pos h, if_pos b]
theorem gow_on {V : Nat → Int} {p k : Nat} (h : (gow V p k).2 = true) (b : ¬ bes V (gow V p k).1 (sdV V p k) (pF V p 1) = -1) : gow V p (k + 1) = (bes V (gow V p k).1 (sdV V p k) (pF V p 1), true) := by
  rw [gow_s, if_pos h, if_neg b]
theorem gow_mono {V : Nat → Int} {p k : Nat} (h : (gow V p (k + 1)).2 = true) : (gow V p k).2 = true := by
  by_cases c : (gow V p k).2 = true
  · exact c
  · rw [gow_off (Bool.eq_false_iff.mpr c)] at h; exact (Bool.false_ne_true h).elim
theorem gow_rng {V : Nat → Int} {p : Nat} (h : 0 ≤ pF V p 6 ∧ pF V p 6 < V 0 * V 1) : ∀ k, 0 ≤ (gow V p k).1 ∧ (gow V p k).1 < V 0 * V 1
  | 0 => h
  | k + 1 => by
    have ih := gow_rng h k
    rw [gow_s]
    split
    · split
      · exact ih
      · rename_i h1 h2
        exact (bes_rng _ _ _).resolve_left h2
    · exact ih
theorem mdc_le {V : Nat → Int} {p : Nat} : ∀ k, mdc V p k ≤ k
  | 0 => Nat.le_refl _
  | k + 1 => by
    have := mdc_le (V := V) (p := p) k
    unfold mdc
    split <;> omega
theorem mdc_on {V : Nat → Int} {p : Nat} : ∀ n i, i ≤ n → ((gow V p i).2 = true ↔ i ≤ mdc V p n)
  | 0, i, h => by
    have : i = 0 := by omega
    subst this
    exact ⟨fun _ => Nat.le_refl _, fun _ => rfl⟩
  | n + 1, i, h => by
    have ih := mdc_on (V := V) (p := p) n
    have le := mdc_le (V := V) (p := p) n
    show _ ↔ i ≤ mdc V p n + (if (gow V p (n + 1)).2 = true then 1 else 0)
    by_cases c : (gow V p (n + 1)).2 = true
    · have h1 := (ih n (Nat.le_refl _)).mp (gow_mono c)
      rw [if_pos c]
      by_cases e : i = n + 1
      · rw [e]; exact ⟨fun _ => by omega, fun _ => c⟩
      · have := ih i (by omega)
        exact ⟨fun _ => by omega, fun _ => this.mpr (by omega)⟩
    · rw [if_neg c]
      by_cases e : i = n + 1
      · rw [e]; exact ⟨fun z => absurd z c, fun z => by omega⟩
      · exact ih i (by omega)
def posW (V : Nat → Int) (p m : Nat) : Int := if pF V p 6 = -1 ∨ (m : Int) < pF V p 7 then -1 else (gow V p (min (m - (pF V p 7).toNat) (pF V p 8).toNat)).1
def madeV (V : Nat → Int) (p : Nat) : Int := if pF V p 6 = -1 then 0 else (mdc V p (pF V p 8).toNat : Int)
def stepsV (V : Nat → Int) (p : Nat) : Int := if pF V p 5 = -1 then madeV V p else 0
def spotV (V : Nat → Int) (p m : Nat) : Int := if pF V p 5 = -1 then posW V p m else if pF V (pF V p 5).toNat 5 = -1 then posW V (pF V p 5).toNat m else pF V p 6
