set_option maxRecDepth 4000
/-! ===== the class's tour ===== -/
section K74
variable {V : Nat → Int}
def peV (V : Nat → Int) (e : Nat) : Nat := (V (105 + 3 * e)).toNat
def feV (V : Nat → Int) (e : Nat) : Nat := (V (106 + 3 * e)).toNat
def teV (V : Nat → Int) (e : Nat) : Nat := (V (107 + 3 * e)).toNat
def lgV (V : Nat → Int) (e : Nat) (T : Nat → Int) : Int × Nat := wyP V T (pF V (peV V e) 0) (pF V (peV V e) 1) (feV V e) (teV V e)
def afV (V : Nat → Int) (e : Nat) (T : Nat → Int) : Nat → Int := tlT V T (pF V (peV V e) 0) (pF V (peV V e) 1) (feV V e) (teV V e)
def eV (V : Nat → Int) : Nat := (V 4).toNat
theorem eV_ok (w : WFN V) : V 4 = (eV V : Int) ∧ eV V ≤ 5 := by
  have := w.2.2.2.2.1
  unfold eV; omega
theorem err_ok (w : WFN V) {e : Nat} (he : e < eV V) : V (105 + 3 * e) = (peV V e : Int) ∧ (peV V e : Int) < V 3 ∧ V (106 + 3 * e) = (feV V e : Int) ∧ feV V e < nV V ∧ V (107 + 3 * e) = (teV V e : Int) ∧ teV V e < nV V := by
  have ev := eV_ok w
  have nv := nV_eq w
  obtain ⟨a, b, c⟩ := w.2.2.2.2.2.2.1 e (by omega)
  unfold peV feV teV
  omega
/-- whether there is a way doesn't rest on the ground -/
theorem Ah_rch {nx : Nat → Nat → Int} {pn pn' : Nat → Nat → Nat → Int} {to N : Nat} (ok : WPok nx pn N) (ok' : WPok nx pn' N) : ∀ m f c, Ah nx pn to m f c < 1000000 → Ah nx pn' to m f c < 1000000
  | 0, f, c, h => h
  | m + 1, f, c, h => by
    obtain ⟨s, h1, h2⟩ := mnS_at (g := fun s => byW nx pn (Ah nx pn to m) f c s) 4 h
    have h3 : Ah nx pn to (m + 1) f c = byW nx pn (Ah nx pn to m) f c s := h2
    have hn : nx c s ≠ -1 := fun e => by
      have e9 : byW nx pn (Ah nx pn to m) f c s = 1000000 := if_pos e
      omega
    have e1 : byW nx pn (Ah nx pn to m) f c s = pn (1 - f) (nx c s).toNat s + Ah nx pn to m (1 - f) (nx c s).toNat := if_neg hn
    have e2 : byW nx pn' (Ah nx pn' to m) f c s = pn' (1 - f) (nx c s).toNat s + Ah nx pn' to m (1 - f) (nx c s).toNat := if_neg hn
    have p := ok.2 (1 - f) (nx c s).toNat s
    have p' := ok'.2 (1 - f) (nx c s).toNat s
    have r := Ah_rch ok ok' m (1 - f) (nx c s).toNat (by omega)
    have sm : Ah nx pn' to m (1 - f) (nx c s).toNat ≤ (m : Int) := by
      -- small where it is at all
      have key : ∀ m f c, Ah nx pn' to m f c < 1000000 → Ah nx pn' to m f c ≤ (m : Int) := fun m => by
        induction m with
        | zero =>
          intro f c h
          have e0 : Ah nx pn' to 0 f c = if c = to then 0 else 1000000 := rfl
          rw [e0] at h ⊢
          split at h
          · rename_i q; rw [if_pos q]; omega
          · omega
        | succ m ih =>
          intro f c h
          obtain ⟨s, h1, h2⟩ := mnS_at (g := fun s => byW nx pn' (Ah nx pn' to m) f c s) 4 h
          have h3 : Ah nx pn' to (m + 1) f c = byW nx pn' (Ah nx pn' to m) f c s := h2
          have hn : nx c s ≠ -1 := fun e => by
            have e9 : byW nx pn' (Ah nx pn' to m) f c s = 1000000 := if_pos e
            omega
          have e1 : byW nx pn' (Ah nx pn' to m) f c s = pn' (1 - f) (nx c s).toNat s + Ah nx pn' to m (1 - f) (nx c s).toNat := if_neg hn
          have p := ok'.2 (1 - f) (nx c s).toNat s
          have := ih (1 - f) (nx c s).toNat (by omega)
          omega
      exact key _ _ _ r
    by_cases hm : m < 999990
    · have le : Ah nx pn' to (m + 1) f c ≤ byW nx pn' (Ah nx pn' to m) f c s := (mnS_le (g := fun s => byW nx pn' (Ah nx pn' to m) f c s) 4).2 s h1
      omega
    · have le : Ah nx pn' to (m + 1) f c ≤ byW nx pn' (Ah nx pn' to m) f c s := (mnS_le (g := fun s => byW nx pn' (Ah nx pn' to m) f c s) 4).2 s h1
      exact Decidable.byContradiction fun z => by
        have a1 := (Ah_rng (to := to) ok' m (1 - f) (nx c s).toNat).2
        omega
end K74
