set_option maxRecDepth 4000
/-! ===== one order of errands: the reference ===== -/
section K77
variable {V : Nat → Int}
def uE (E j : Nat) : Nat := 5 ^ E / 5 ^ (j + 1)
theorem uE_lt {E j : Nat} (h : j < E) : uE E j = 5 ^ (E - 1 - j) := by
  unfold uE
  rw [Nat.pow_div (by omega) (by decide), show E - (j + 1) = E - 1 - j by omega]
theorem uE_ge {E j : Nat} (h : E ≤ j) : uE E j = 0 := by
  unfold uE
  exact Nat.div_eq_of_lt (Nat.pow_lt_pow_right (by decide) (by omega))
theorem uE_s (E j : Nat) : uE E (j + 1) = uE E j / 5 := by
  unfold uE
  rw [Nat.div_div_eq_div_mul, Nat.pow_succ 5 (j + 1)]
theorem uE_pos {E j : Nat} : 0 < uE E j ↔ j < E := by
  refine ⟨fun h => Decidable.byContradiction fun z => ?_, fun h => ?_⟩
  · rw [uE_ge (by omega)] at h; omega
  · rw [uE_lt h]; exact Nat.pow_pos (by decide)
theorem p5_le {E : Nat} (hE : E ≤ 5) : 5 ^ E ≤ 3125 := by
  match E, hE with
  | 0, _ => decide
  | 1, _ => decide
  | 2, _ => decide
  | 3, _ => decide
  | 4, _ => decide
  | 5, _ => decide
  | n + 6, h => omega
theorem uE_le {E j : Nat} (hE : E ≤ 5) : uE E j ≤ 3125 := Nat.le_trans (Nat.div_le_self _ _) (p5_le hE)
theorem od_uE {E c j : Nat} (h : j < E) : od E c j = c / uE E j % 5 := by
  unfold od
  rw [if_pos h, uE_lt h]
theorem dig_at {x u : Int32} {c E j : Nat} (hx : x.toInt = (c : Int)) (hu : u.toInt = (uE E j : Int)) (h : j < E) : (zrem (x / u) 5).toInt = (od E c j : Int) := by
  have up := uE_pos.mpr h
  have d1 := n_div (x := x) (y := u) (by omega) (by omega)
  rw [hx, hu, ← Int.natCast_ediv] at d1
  have nn : 0 ≤ (x / u).toInt := by rw [d1]; exact Int.natCast_nonneg _
  rw [n_rem nn (by decide), d1, od_uE h]
  show ((c / uE E j : Nat) : Int) % ((5 : Nat) : Int) = _
  rw [← Int.natCast_emod]
theorem uE_5 {u : Int32} {E j : Nat} (hu : u.toInt = (uE E j : Int)) : (u / (5 : Int32)).toInt = (uE E (j + 1) : Int) := by
  rw [n_div (by omega) (by decide), hu, uE_s]
  show (uE E j : Int) / ((5 : Nat) : Int) = _
  rw [← Int.natCast_ediv]
theorem od_lt5 (E c j : Nat) : od E c j < 5 := by
  unfold od
  split
  · exact Nat.mod_lt _ (by decide)
  · decide
theorem bt_01 : ∀ D, D < 32 → ∀ e, e < 5 → (((Int32.ofNat D) >>> (Int32.ofNat e &&& 31)) &&& 1) = 0 ∨ (((Int32.ofNat D) >>> (Int32.ofNat e &&& 31)) &&& 1) = 1 := by decide +kernel
theorem BD.bit {v x : Int32} {dn : Nat → Bool} {e : Nat} (c : BD v dn) (hx : x.toInt = (e : Int)) (he : e < 5) : (((v >>> (x &&& 31)) &&& 1) = 1 ↔ dn e = true) := by
  have a := c.at hx he
  have t : (((v >>> (x &&& 31)) &&& 1) = 0) ∨ (((v >>> (x &&& 31)) &&& 1) = 1) := by
    obtain ⟨D, h1, h2, h3⟩ := c
    rw [n_ofn hx, h2]; exact bt_01 D h1 e he
  refine ⟨fun z => ?_, fun z => t.resolve_left (fun y => by rw [a.mp y] at z; cases z)⟩
  cases y : dn e with
  | true => rfl
  | false => rw [a.mpr y] at z; exact absurd z (by decide)
theorem dnB_n {p : Nat → Nat} {j e : Nat} (h : p j = e) : (fun x => decide (x = e) || dnB p j x) = dnB p (j + 1) := funext fun x => by
  unfold dnB
  by_cases z : x = e
  · rw [decide_eq_true z, Bool.true_or]
    exact (decide_eq_true ⟨j, by omega, by rw [h, z]⟩).symm
  · rw [decide_eq_false z, Bool.false_or]
    refine decide_eq_decide.mpr ⟨fun ⟨i, h1, h2⟩ => ⟨i, by omega, h2⟩, fun ⟨i, h1, h2⟩ => ?_⟩
    by_cases qi : i = j
    · subst qi; exact absurd (h2.symm.trans h) z
    · exact ⟨i, by omega, h2⟩
theorem BD.zero : BD 0 (fun _ => false) := ⟨0, by decide, rfl, fun e he => ⟨fun _ => rfl, fun _ => by
  match e, he with
  | 0, _ => decide
  | 1, _ => decide
  | 2, _ => decide
  | 3, _ => decide
  | 4, _ => decide
  | n + 5, h => omega⟩⟩
theorem dnB_0 (p : Nat → Nat) : dnB p 0 = fun _ => false := funext fun e => decide_eq_false (fun ⟨i, h, _⟩ => by omega)
noncomputable def tvV (V : Nat → Int) (T : Nat → Int) (c : Nat) : Int := tv (lgV V) (afV V) (eV V) T (od (eV V) c)
def TdF (h : zH) (I : Nat → Nat → Int32) : Prop := (∀ b, b ≠ 313 → b ≠ 330 → b ≠ 331 → b ≠ 332 → b ≠ 333 → I b = h.1 b) ∧ ∀ k, (k < 36 ∨ (40 ≤ k ∧ k ≠ 42)) → I 313 k = h.1 313 k
theorem TdF.rf (h : zH) : TdF h h.1 := ⟨fun _ _ _ _ _ _ => rfl, fun _ _ => rfl⟩
theorem TdF.mn {h : zH} {I : Nat → Nat → Int32} {n : Nat} (f : TdF h I) (m : MN h n V) : MN (I, h.2) n V := m.cg (fun k hk => f.2 k (by omega)) (f.1 314 (by decide) (by decide) (by decide) (by decide) (by decide)) (fun k _ => by rw [f.1 317 (by decide) (by decide) (by decide) (by decide) (by decide)])
theorem TdF.rw {h : zH} {I : Nat → Nat → Int32} {n : Nat} (f : TdF h I) (m : RW h (610 + 318 * n) = V) : RW (I, h.2) (610 + 318 * n) = V := by
  rw [RWc (show AL (I, h.2) = AL h from f.1 314 (by decide) (by decide) (by decide) (by decide) (by decide))]; exact m
theorem TdF.pr {h : zH} {I : Nat → Nat → Int32} {st : PS} (f : TdF h I) (m : MPr h st) : MPr (I, h.2) st := m.cg (f.2 23 (by decide)) (fun b z1 z2 => f.1 b (by omega) (by omega) (by omega) (by omega) (by omega))
theorem TdF.tr {h : zH} {I J : Nat → Nat → Int32} (f : TdF h I) (g : TdF (I, h.2) J) : TdF h J := ⟨fun b z1 z2 z3 z4 z5 => (g.1 b z1 z2 z3 z4 z5).trans (f.1 b z1 z2 z3 z4 z5), fun k hk => (g.2 k hk).trans (f.2 k hk)⟩
theorem err_m {h : zH} {n : Nat} (m : MN h n V) (hR : RW h (610 + 318 * n) = V) (w : WFN V) {x : Int32} {e : Nat} (hx : x.toInt = (e : Int)) (he : e < eV V) :
    (zofk h 313 (105 + 3 * x + (0 : Int32)) ∧ (zof h 313 (105 + 3 * x + (0 : Int32))).toInt = (peV V e : Int)) ∧ (zofk h 313 (105 + 3 * x + (1 : Int32)) ∧ (zof h 313 (105 + 3 * x + (1 : Int32))).toInt = (feV V e : Int)) ∧ (zofk h 313 (105 + 3 * x + (2 : Int32)) ∧ (zof h 313 (105 + 3 * x + (2 : Int32))).toInt = (teV V e : Int)) := by
  have ev := eV_ok w
  obtain ⟨z1, _, z3, _, z5, _⟩ := err_ok w he
  have e3 : ((3 : Int32) * x).toInt = 3 * (e : Int) := by
    rw [i_mul (by rw [hx]; show _ ≤ (3 : Int) * _; omega) (by rw [hx]; show (3 : Int) * _ < _; omega), hx]; rfl
  have e4 : ((105 : Int32) + 3 * x).toInt = 105 + 3 * (e : Int) := by
    rw [i_add (by rw [e3]; show _ ≤ (105 : Int) + _; omega) (by rw [e3]; show (105 : Int) + _ < _; omega), e3]; rfl
  have g : ∀ (f : Int32) (F : Nat), f.toInt = (F : Int) → F < 3 → zofk h 313 (105 + 3 * x + f) ∧ (zof h 313 (105 + 3 * x + f)).toInt = V (105 + 3 * e + F) := fun f F hf hF => by
    have e5 : ((105 : Int32) + 3 * x + f).toInt = ((105 + 3 * e + F : Nat) : Int) := by
      rw [i_add (by omega) (by omega), e4, hf]; omega
    obtain ⟨a1, a2⟩ := m.w e5 (by omega)
    refine ⟨a1, ?_⟩
    rw [a2, ← RW_at (h := h) (b := 610 + 318 * n) (w := 105 + 3 * e + F) (by omega), hR]
  obtain ⟨a1, a2⟩ := g 0 0 rfl (by decide)
  obtain ⟨b1, b2⟩ := g 1 1 rfl (by decide)
  obtain ⟨c1, c2⟩ := g 2 2 rfl (by decide)
  refine ⟨⟨a1, a2.trans z1⟩, ⟨b1, ?_⟩, ⟨c1, ?_⟩⟩
  · rw [b2, show 105 + 3 * e + 1 = 106 + 3 * e by omega]; exact z3
  · rw [c2, show 105 + 3 * e + 2 = 107 + 3 * e by omega]; exact z5
theorem gG_rng (w : WFN V) {T : Nat → Int} {E : Nat} {p : Nat → Nat} : ∀ k, (∀ j, j < k → (lgV V (p j) (gG (lgV V) (afV V) T p j).1).1 < 1000000) → 0 ≤ (gG (lgV V) (afV V) T p k).2.1 ∧ (gG (lgV V) (afV V) T p k).2.1 ≤ 100 * (k : Int) ∧ (gG (lgV V) (afV V) T p k).2.2 ≤ 40 * k
  | 0, _ => ⟨Int.le_refl _, Int.le_refl _, Nat.le_refl _⟩
  | k + 1, h => by
    obtain ⟨a, b, c⟩ := gG_rng (E := E) w k (fun j hj => h j (by omega))
    have r := lgV_rng w (p k) (gG (lgV V) (afV V) T p k).1
    have r3 := r.2.2 (h k (by omega))
    show 0 ≤ (gG (lgV V) (afV V) T p k).2.1 + _ ∧ (gG (lgV V) (afV V) T p k).2.1 + _ ≤ _ ∧ (gG (lgV V) (afV V) T p k).2.2 + _ ≤ _
    omega
end K77
