set_option maxRecDepth 4000
/-! ===== texts: what numbers of a row can be ===== -/
section K9K
def blI (w : Nat) : Int := if w < 2 then 2 else if w < 120 then 0 else if (w - 120) % 33 = 1 ∨ (w - 120) % 33 = 2 then 1 else if 5 ≤ (w - 120) % 33 ∧ (w - 120) % 33 ≤ 7 then -1 else 0
def bhK (w : Nat) : Nat := if w < 2 then 8 else if w = 2 then 9 else if w = 3 then 6 else if w = 4 then 5 else if w < 105 then 1 else if w < 120 then (if (w - 105) % 3 = 0 then 100 else 101) else [5, 3, 9, 2, 2, 100, 101, 60, 24].getD ((w - 120) % 33) 3
def bhI (w : Nat) (fo fc : Int) : Int := if bhK w = 100 then fo else if bhK w = 101 then fc else (bhK w : Int)
theorem bk_f : ∀ p, p < 6 → ∀ f, f < 9 → blI (120 + 33 * p + f) = [0, 1, 1, 0, 0, -1, -1, -1, 0].getD f 0 ∧ bhK (120 + 33 * p + f) = [5, 3, 9, 2, 2, 100, 101, 60, 24].getD f 0 := by decide +kernel
theorem bk_s : ∀ p, p < 6 → ∀ i, i < 24 → blI (129 + 33 * p + i) = 0 ∧ bhK (129 + 33 * p + i) = 3 := by decide +kernel
theorem bk_e : ∀ k, k < 5 → ∀ c, c < 3 → blI (105 + 3 * k + c) = 0 ∧ bhK (105 + 3 * k + c) = if c = 0 then 100 else 101 := by decide +kernel
theorem bk_r : ∀ m, m < 100 → blI (5 + m) = 0 ∧ bhK (5 + m) = 1 := by decide +kernel
theorem wb_c {w c : Nat} {x l fo fc : Int} (k : blI w = l ∧ bhK w = c) (h1 : c ≠ 100) (h2 : c ≠ 101) (b : l ≤ x ∧ x ≤ (c : Int)) : blI w ≤ x ∧ x ≤ bhI w fo fc := by
  unfold bhI
  rw [k.1, k.2, if_neg h1, if_neg h2]; exact b
theorem wb_o {w : Nat} {x l fo fc : Int} (k : blI w = l ∧ bhK w = 100) (b : l ≤ x ∧ x ≤ fo) : blI w ≤ x ∧ x ≤ bhI w fo fc := by
  unfold bhI
  rw [k.1, k.2, if_pos rfl]; exact b
theorem wb_f {w : Nat} {x l fo fc : Int} (k : blI w = l ∧ bhK w = 101) (b : l ≤ x ∧ x ≤ fc) : blI w ≤ x ∧ x ≤ bhI w fo fc := by
  unfold bhI
  rw [k.1, k.2, if_neg (by decide), if_pos rfl]; exact b
theorem bh_mo {w : Nat} {fo fc fo' fc' : Int} (h1 : fo ≤ fo') (h2 : fc ≤ fc') : bhI w fo fc ≤ bhI w fo' fc' := by
  unfold bhI
  split
  · exact h1
  · split
    · exact h2
    · exact Int.le_refl _
def RgI (V : Nat → Int) (L : Nat → Prop) (fo fc : Int) : Prop := ∀ w, w < 318 → L w → blI w ≤ V w ∧ V w ≤ bhI w fo fc
theorem RgI.mo {V : Nat → Int} {L L' : Nat → Prop} {fo fc fo' fc' : Int} (a : RgI V L fo fc) (h1 : fo ≤ fo') (h2 : fc ≤ fc') (k : ∀ w, w < 318 → L' w → L w) : RgI V L' fo' fc' := fun w hw hl => by
  have := a w hw (k w hw hl)
  have := bh_mo (w := w) h1 h2
  omega
theorem RgI.wr {V : Nat → Int} {L : Nat → Prop} {fo fc x : Int} {w0 : Nat} (a : RgI V L fo fc) (b : blI w0 ≤ x ∧ x ≤ bhI w0 fo fc) : RgI (upI V w0 x) (fun w => w = w0 ∨ L w) fo fc := fun w hw hl => by
  by_cases z : w = w0
  · rw [z, upI_at]; exact b
  · rw [upI_ne z]; exact a w hw (hl.elim (fun y => absurd y z) id)
theorem RgI.sd {V : Nat → Int} {L : Nat → Prop} {fo fc : Int} {k m : Nat} {v : Nat → Int} (a : RgI V L fo fc) (b : ∀ j, j < m → blI (k + j) ≤ v j ∧ v j ≤ bhI (k + j) fo fc) : RgI (sdI V k v m) (fun w => (k ≤ w ∧ w < k + m) ∨ L w) fo fc := fun w hw hl => by
  by_cases z : k ≤ w ∧ w < k + m
  · have e := sdI_i (V := V) (k := k) (v := v) (m := m) (j := w - k) (by omega)
    rw [show k + (w - k) = w by omega] at e
    have c := b (w - k) (by omega)
    rw [show k + (w - k) = w by omega] at c
    rw [e]; exact c
  · rw [sdI_o (by omega)]; exact a w hw (hl.elim (fun y => absurd y z) id)
def Ex1 (V : Nat → Int) (p : Nat) : Prop := V (120 + 33 * p + 5) ≠ (p : Int) ∧ ((V (120 + 33 * p + 6) = -1 ∧ V (120 + 33 * p + 7) = -1 ∧ V (120 + 33 * p + 8) = 0) ∨ (0 ≤ V (120 + 33 * p + 6) ∧ 0 ≤ V (120 + 33 * p + 7) ∧ 1 ≤ V (120 + 33 * p + 8)))
theorem Ex1.cg {V V' : Nat → Int} {p : Nat} (a : Ex1 V p) (e : ∀ f, 5 ≤ f → f < 9 → V' (120 + 33 * p + f) = V (120 + 33 * p + f)) : Ex1 V' p := by
  unfold Ex1 at *
  rw [e 5 (by decide) (by decide), e 6 (by decide) (by decide), e 7 (by decide) (by decide), e 8 (by decide) (by decide)]; exact a
def WI0 (V : Nat → Int) (fo fc : Int) : Prop := RgI V (liv V) fo fc ∧ (∀ p, p < 6 → Ex1 V p) ∧ -1 ≤ fo ∧ -1 ≤ fc
theorem mxZ_le {a b : Int} : a ≤ mxZ a b ∧ b ≤ mxZ a b := by
  unfold mxZ; split <;> omega
theorem WI0.hd {V : Nat → Int} {fo fc : Int} (a : WI0 V fo fc) : (2 ≤ V 0 ∧ V 0 ≤ 8) ∧ (2 ≤ V 1 ∧ V 1 ≤ 8) ∧ (0 ≤ V 2 ∧ V 2 ≤ 9) ∧ (0 ≤ V 3 ∧ V 3 ≤ 6) ∧ (0 ≤ V 4 ∧ V 4 ≤ 5) := by
  have g : ∀ f, f < 5 → blI f ≤ V f ∧ V f ≤ bhI f fo fc := fun f hf => a.1 f (by omega) ⟨fun q => by omega, fun q => by omega, fun q => by omega⟩
  exact ⟨g 0 (by decide), g 1 (by decide), g 2 (by decide), g 3 (by decide), g 4 (by decide)⟩
theorem WI0.p8 {V : Nat → Int} {fo fc : Int} (a : WI0 V fo fc) : ∀ p, p < 6 → V (128 + 33 * p) ≤ 24 := fun p hp => by
  have := a.1 (120 + 33 * p + 8) (by omega) ⟨fun q => by omega, fun _ q => by omega, fun _ q => by omega⟩
  have k : blI (120 + 33 * p + 8) = 0 ∧ bhK (120 + 33 * p + 8) = 24 := bk_f p hp 8 (by decide)
  unfold bhI at this
  rw [k.2, if_neg (by decide), if_neg (by decide), show 120 + 33 * p + 8 = 128 + 33 * p by omega] at this
  exact this.2
theorem WI0.fin {V : Nat → Int} {fo fc : Int} (a : WI0 V fo fc) (h1 : fo < V 3) (h2 : fc < V 0 * V 1) : WFN V := by
  have p8 := a.p8
  have hd := a.hd
  obtain ⟨r, ex, f1, f2⟩ := a
  refine ⟨hd.1, hd.2.1, hd.2.2.1, hd.2.2.2.1, hd.2.2.2.2, fun m hm => ?_, fun k hk => ?_, fun p hp => ?_⟩
  · have := r (5 + m) (by omega) ⟨fun q => by omega, fun q => by omega, fun q => by omega⟩
    have k := bk_r m hm
    unfold bhI at this
    rw [k.1, k.2, if_neg (by decide), if_neg (by decide)] at this
    have : 0 ≤ V (5 + m) ∧ V (5 + m) ≤ 1 := this
    omega
  · have g : ∀ c, c < 3 → blI (105 + 3 * k + c) ≤ V (105 + 3 * k + c) ∧ V (105 + 3 * k + c) ≤ bhI (105 + 3 * k + c) fo fc := fun c hc => r _ (by omega) ⟨fun _ _ => by rw [show (105 + 3 * k + c - 105) / 3 = k by omega]; exact hk, fun q => by omega, fun q => by omega⟩
    have g0 := g 0 (by decide)
    have g1 := g 1 (by decide)
    have g2 := g 2 (by decide)
    have k0 : blI (105 + 3 * k + 0) = 0 ∧ bhK (105 + 3 * k + 0) = 100 := bk_e k (by omega) 0 (by decide)
    have k1 : blI (105 + 3 * k + 1) = 0 ∧ bhK (105 + 3 * k + 1) = 101 := bk_e k (by omega) 1 (by decide)
    have k2 : blI (105 + 3 * k + 2) = 0 ∧ bhK (105 + 3 * k + 2) = 101 := bk_e k (by omega) 2 (by decide)
    unfold bhI at g0 g1 g2
    rw [k0.1, k0.2, if_pos rfl] at g0
    rw [k1.1, k1.2, if_neg (by decide), if_pos rfl] at g1
    rw [k2.1, k2.2, if_neg (by decide), if_pos rfl] at g2
    rw [show 106 + 3 * k = 105 + 3 * k + 1 by omega, show 107 + 3 * k = 105 + 3 * k + 2 by omega]
    have g0' : 0 ≤ V (105 + 3 * k) ∧ V (105 + 3 * k) ≤ fo := g0
    exact ⟨⟨g0'.1, by omega⟩, ⟨g1.1, by omega⟩, ⟨g2.1, by omega⟩⟩
  · have hp6 : p < 6 := by have := hd.2.2.2.1; omega
    have g : ∀ f, f < 9 → blI (120 + 33 * p + f) ≤ V (120 + 33 * p + f) ∧ V (120 + 33 * p + f) ≤ bhI (120 + 33 * p + f) fo fc := fun f hf => r _ (by omega) ⟨fun q => by omega, fun _ q => by omega, fun _ _ => by rw [show (120 + 33 * p + f - 120) / 33 = p by omega]; exact hp⟩
    have n : ∀ f c : Nat, f < 9 → [5, 3, 9, 2, 2, 100, 101, 60, 24].getD f 0 = c → c ≠ 100 → c ≠ 101 → [0, 1, 1, 0, 0, -1, -1, -1, 0].getD f 0 ≤ V (120 + 33 * p + f) ∧ V (120 + 33 * p + f) ≤ (c : Int) := fun f c hf e c1 c2 => by
      have q := g f hf
      have k := bk_f p hp6 f hf
      unfold bhI at q
      rw [k.1, k.2, e, if_neg c1, if_neg c2] at q; exact q
    have n0 : 0 ≤ V (120 + 33 * p) ∧ V (120 + 33 * p) ≤ 5 := n 0 5 (by decide) rfl (by decide) (by decide)
    have n1 : 1 ≤ V (120 + 33 * p + 1) ∧ V (120 + 33 * p + 1) ≤ 3 := n 1 3 (by decide) rfl (by decide) (by decide)
    have n2 : 1 ≤ V (120 + 33 * p + 2) ∧ V (120 + 33 * p + 2) ≤ 9 := n 2 9 (by decide) rfl (by decide) (by decide)
    have n3 : 0 ≤ V (120 + 33 * p + 3) ∧ V (120 + 33 * p + 3) ≤ 2 := n 3 2 (by decide) rfl (by decide) (by decide)
    have n4 : 0 ≤ V (120 + 33 * p + 4) ∧ V (120 + 33 * p + 4) ≤ 2 := n 4 2 (by decide) rfl (by decide) (by decide)
    have n7 : -1 ≤ V (120 + 33 * p + 7) ∧ V (120 + 33 * p + 7) ≤ 60 := n 7 60 (by decide) rfl (by decide) (by decide)
    have g5 := g 5 (by decide)
    have g6 := g 6 (by decide)
    have k5 : blI (120 + 33 * p + 5) = -1 ∧ bhK (120 + 33 * p + 5) = 100 := bk_f p hp6 5 (by decide)
    have k6 : blI (120 + 33 * p + 6) = -1 ∧ bhK (120 + 33 * p + 6) = 101 := bk_f p hp6 6 (by decide)
    unfold bhI at g5 g6
    rw [k5.1, k5.2, if_pos rfl] at g5
    rw [k6.1, k6.2, if_neg (by decide), if_pos rfl] at g6
    have x := ex p hp6
    have p8' := p8 p hp6
    unfold Ex1 at x
    rw [show 121 + 33 * p = 120 + 33 * p + 1 by omega, show 122 + 33 * p = 120 + 33 * p + 2 by omega, show 123 + 33 * p = 120 + 33 * p + 3 by omega, show 124 + 33 * p = 120 + 33 * p + 4 by omega, show 125 + 33 * p = 120 + 33 * p + 5 by omega, show 126 + 33 * p = 120 + 33 * p + 6 by omega, show 127 + 33 * p = 120 + 33 * p + 7 by omega]
    have e8 : 128 + 33 * p = 120 + 33 * p + 8 := by omega
    rw [← e8] at x
    refine ⟨n0, n1, n2, n3, n4, ⟨g5.1, by omega⟩, x.1, ?_, fun i hi => ?_⟩
    · rcases x.2 with y | y
      · exact Or.inl y
      · exact Or.inr ⟨⟨y.1, by omega⟩, ⟨y.2.1, n7.2⟩, ⟨y.2.2, p8'⟩⟩
    · have q := r (129 + 33 * p + i) (by omega) ⟨fun q => by omega, fun _ _ => by rw [show (129 + 33 * p + i - 120) / 33 = p by omega, show (129 + 33 * p + i - 120) % 33 - 9 = i by omega]; exact hi, fun _ q => by omega⟩
      have k := bk_s p hp6 i (by omega)
      unfold bhI at q
      rw [k.1, k.2, if_neg (by decide), if_neg (by decide)] at q
      exact q
end K9K
