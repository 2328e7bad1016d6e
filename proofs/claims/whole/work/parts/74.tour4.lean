set_option maxRecDepth 4000
/-! ===== the class's tour ===== -/
section K74
variable {V : Nat → Int}
def peV (V : Nat → Int) (e : Nat) : Nat := (V (105 + 3 * e)).toNat
def feV (V : Nat → Int) (e : Nat) : Nat := (V (106 + 3 * e)).toNat
def teV (V : Nat → Int) (e : Nat) : Nat := (V (107 + 3 * e)).toNat
def lgV (V : Nat → Int) (e : Nat) (T : Nat → Int) : Int × Nat := wyP V T (pF V (peV V e) 0) (pF V (peV V e) 1) (feV V e) (teV V e)
def afV (V : Nat → Int) (e : Nat) (T : Nat → Int) : Nat → Int := tlT V T (pF V (peV V e) 0) (pF V (peV V e) 1) (feV V e) (teV V e)
def eV (V : Nat → Int) : Nat := (V 4).toNat
theorem eV_ok (w : WFN V) : V 4 = (eV V : Int) ∧ eV V ≤ 5 := by
  have := w.2.2.2.2.1
  unfold eV; omega
theorem err_ok (w : WFN V) {e : Nat} (he : e < eV V) : V (105 + 3 * e) = (peV V e : Int) ∧ (peV V e : Int) < V 3 ∧ V (106 + 3 * e) = (feV V e : Int) ∧ feV V e < nV V ∧ V (107 + 3 * e) = (teV V e : Int) ∧ teV V e < nV V := by
  have ev := eV_ok w
  have nv := nV_eq w
  obtain ⟨a, b, c⟩ := w.2.2.2.2.2.2.1 e (by omega)
  unfold peV feV teV
  omega
/-- whether there is a way doesn't rest on the ground -/
theorem Ah_rch {nx : Nat → Nat → Int} {pn pn' : Nat → Nat → Nat → Int} {to N : Nat} (ok : WPok nx pn N) (ok' : WPok nx pn' N) : ∀ m, m ≤ 1000 → ∀ f c, Ah nx pn to m f c < 1000000 → Ah nx pn' to m f c ≤ (m : Int)
  | 0, _, f, c, h => by
    have e0 : Ah nx pn to 0 f c = if c = to then 0 else 1000000 := rfl
    have e1 : Ah nx pn' to 0 f c = if c = to then 0 else 1000000 := rfl
    rw [e0] at h
    rw [e1]
    by_cases q : c = to
    · rw [if_pos q]; omega
    · rw [if_neg q] at h; omega
  | m + 1, hm, f, c, h => by
    obtain ⟨s, h1, h2⟩ := mnS_at (g := fun s => byW nx pn (Ah nx pn to m) f c s) 4 h
    have h3 : Ah nx pn to (m + 1) f c = byW nx pn (Ah nx pn to m) f c s := h2
    have hn : nx c s ≠ -1 := fun e => by
      have e9 : byW nx pn (Ah nx pn to m) f c s = 1000000 := if_pos e
      omega
    have e1 : byW nx pn (Ah nx pn to m) f c s = pn (1 - f) (nx c s).toNat s + Ah nx pn to m (1 - f) (nx c s).toNat := if_neg hn
    have e2 : byW nx pn' (Ah nx pn' to m) f c s = pn' (1 - f) (nx c s).toNat s + Ah nx pn' to m (1 - f) (nx c s).toNat := if_neg hn
    have p := ok.2 (1 - f) (nx c s).toNat s
    have p' := ok'.2 (1 - f) (nx c s).toNat s
    have r := Ah_rch (to := to) ok ok' m (by omega) (1 - f) (nx c s).toNat (by omega)
    have le : Ah nx pn' to (m + 1) f c ≤ byW nx pn' (Ah nx pn' to m) f c s := (mnS_le (g := fun s => byW nx pn' (Ah nx pn' to m) f c s) 4).2 s h1
    omega
theorem wyP_rch (w : WFN V) {T T' : Nat → Int} {S d : Int} {fr to : Nat} (h : (wyP V T S d fr to).1 < 1000000) : (wyP V T' S d fr to).1 < 1000000 := by
  have ok := w_ok (T := T) (S := S) (d := d) w
  have ok' := w_ok (T := T') (S := S) (d := d) w
  unfold wyP at h ⊢
  by_cases e : fr = to
  · rw [if_pos e]; decide
  · rw [if_neg e] at h ⊢
    obtain ⟨_, _, b2, _, b4⟩ := bw_spec (to := to) (fr := fr) ok 40
    obtain ⟨c1, s, c2, c3⟩ := b4 h
    obtain ⟨_, _, _, b3, _⟩ := bw_spec (to := to) (fr := fr) ok' 40
    have le := (b3 ((bw (nxV V d) (pnT T S) to fr 40).2 - 1) (by omega) s c2).1
    rw [c3] at h
    have b5 : (bw (nxV V d) (pnT T S) to fr 40).2 - 1 ≤ 1000 := by omega
    generalize (bw (nxV V d) (pnT T S) to fr 40).2 - 1 = m at h le b5
    unfold fsW at h le
    have hn : nxV V d fr s ≠ -1 := fun e => by
      have e9 : byW (nxV V d) (pnT T S) (Ah (nxV V d) (pnT T S) to m) 0 fr s = 1000000 := if_pos e
      have := (ok.2 0 fr s).1
      omega
    have e1 : byW (nxV V d) (pnT T S) (Ah (nxV V d) (pnT T S) to m) 0 fr s = pnT T S (1 - 0) (nxV V d fr s).toNat s + Ah (nxV V d) (pnT T S) to m (1 - 0) (nxV V d fr s).toNat := if_neg hn
    have e2 : byW (nxV V d) (pnT T' S) (Ah (nxV V d) (pnT T' S) to m) 0 fr s = pnT T' S (1 - 0) (nxV V d fr s).toNat s + Ah (nxV V d) (pnT T' S) to m (1 - 0) (nxV V d fr s).toNat := if_neg hn
    have p1 := ok.2 0 fr s
    have p2 := ok.2 (1 - 0) (nxV V d fr s).toNat s
    have p3 := ok'.2 0 fr s
    have p4 := ok'.2 (1 - 0) (nxV V d fr s).toNat s
    have r := Ah_rch (to := to) ok ok' m (by omega) (1 - 0) (nxV V d fr s).toNat (by omega)
    omega
theorem lgV_rch (w : WFN V) {e : Nat} {T T' : Nat → Int} (h : (lgV V e T).1 < 1000000) : (lgV V e T').1 < 1000000 := wyP_rch w h
theorem lgV_rng (w : WFN V) (e : Nat) (T : Nat → Int) : 0 ≤ (lgV V e T).1 ∧ (lgV V e T).2 ≤ 40 ∧ ((lgV V e T).1 < 1000000 → (lgV V e T).1 < 100) := wyP_rng w
end K74
