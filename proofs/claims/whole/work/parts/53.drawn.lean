set_option maxRecDepth 4000
/-! ===== drawn rains ===== -/
def lcg (s : Int32) : Nat → Int32
  | 0 => s
  | m + 1 => lcg s m * 1103515245 + 12345
def drw (s k : Int32) (m : Nat) : Bool := decide ((zrem (zushr (lcg s (m + 1)) 16) 100).toInt < k.toInt)
def drV (V : Nat → Int) (s k : Int32) : Nat → Int := fun w => if (5 ≤ w ∧ w < 105) ∧ drw s k (w - 5) = true then 1 else V w
def drN (s k : Int32) (n : Nat) : Int32 := sumP (fun m => if drw s k m = true then 1 else 0) n
theorem drV_o {V : Nat → Int} {s k : Int32} {w : Nat} (h : w < 5 ∨ 105 ≤ w) : drV V s k w = V w := if_neg (by omega)
theorem drV_r {V : Nat → Int} {s k : Int32} {m : Nat} (h : m < 100) : drV V s k (5 + m) = if drw s k m = true then 1 else V (5 + m) := by
  unfold drV
  rw [show 5 + m - 5 = m by omega]
  by_cases c : drw s k m = true
  · rw [if_pos ⟨by omega, c⟩, if_pos c]
  · rw [if_neg (fun z => c z.2), if_neg c]
theorem drV_p {V : Nat → Int} {s k : Int32} {P f : Nat} : pF (drV V s k) P f = pF V P f := drV_o (Or.inr (by omega))
theorem drV_s {V : Nat → Int} {s k : Int32} {P i : Nat} : sdV (drV V s k) P i = sdV V P i := drV_o (Or.inr (by omega))
theorem WFN.dr {V : Nat → Int} (w : WFN V) {s k : Int32} : WFN (drV V s k) := by
  refine w.upd (fun k hk => drV_o (by omega)) (fun m hm => ?_) (fun k hk => drV_o (by omega)) (fun P hP => ?_)
  · rw [drV_r hm]
    split
    · exact Or.inr rfl
    · exact w.2.2.2.2.2.1 m hm
  · have := per_w w hP
    unfold perW
    simp only [drV_p, drV_s]
    exact this
theorem c_drawRains (l : Launch) (G : zG) (h : zH) (V : Nat → Int) (q : Nat) (x1 x2 : Int32) (hq : lo1 h q) (w : WFN V) (o : NObj h q V) : CTi l G YX1_drawRains 1 [va_rf (some q), .int x1, .int x2] h (fun y I => y = drN x1 x2 100 ∧ (∀ b, b ≠ q + 5 → I b = h.1 b) ∧ NObj (I, h.2) q (drV V x1 x2)) := by
  have loop : ∀ (f m : Nat) (x3 x4 x5 : Int32) (I : Nat → Nat → Int32), m ≤ 100 → 100 - m < f → x5.toInt = (m : Int) → x3 = lcg x1 m → x4 = drN x1 x2 m → (∀ b, b ≠ q + 5 → I b = h.1 b) → (∀ i, i < 100 → I (q + 5) i = if i < m ∧ drw x1 x2 i = true then 1 else h.1 (q + 5) i) →
      Z l G mX1_drawRains 1 (fun w h1 => ∃ x I1, w = some (.int x) ∧ h1 = (I1, h.2) ∧ (x = drN x1 x2 100 ∧ (∀ b, b ≠ q + 5 → I1 b = h.1 b) ∧ NObj (I1, h.2) q (drV V x1 x2))) 0 0 8 [va_rf (some q), .int x1, .int x2, .int x3, .int x4, .int x5] [] (I, h.2) := by
    intro f
    induction f with
    | zero => intro m x3 x4 x5 I h1 h2; omega
    | succ f ih =>
      intro m x3 x4 x5 I h1 h2 hx h3 h4 s1 s2
      refine sX1_drawRains_8 q x1 x2 x3 x4 x5 hq (Nat.le_refl _) ⟨fun c1 => ⟨_, I, rfl, rfl, ?_, s1, ?_⟩, fun c2 => ?_⟩
      · rw [h4, show m = 100 by omega]
      · have z : ∀ b, b ≠ q + 5 → ∀ j, zI (I, h.2) b j = zI h b j := fun b hb j => congrFun (s1 b hb) j
        obtain ⟨o1, o2, o3, o4⟩ := o
        refine ⟨fun f hf => by rw [z _ (by omega), drV_o (Or.inl hf)]; exact o1 f hf, fun i hi => ?_, fun k hk => ?_, fun p hp => ⟨fun f hf => ?_, fun i hi => ?_⟩⟩
        · rw [drV_r hi]
          show (I (q + 5) i).toInt = _
          rw [s2 i hi]
          by_cases c : drw x1 x2 i = true
          · rw [if_pos ⟨by omega, c⟩, if_pos c]; rfl
          · rw [if_neg (fun z => c z.2), if_neg c]; exact o2 i hi
        · rw [drV_o (Or.inl (by decide))] at hk
          rw [z _ (by omega), z _ (by omega), z _ (by omega), drV_o (Or.inr (by omega)), drV_o (Or.inr (by omega)), drV_o (Or.inr (by omega))]
          exact o3 k hk
        · rw [drV_o (Or.inl (by decide))] at hp
          rw [z _ (by omega), drV_o (Or.inr (by omega))]; exact (o4 p hp).1 f hf
        · rw [drV_o (Or.inl (by decide))] at hp
          rw [drV_o (Or.inr (by omega))] at hi
          rw [z _ (by omega), drV_o (Or.inr (by omega))]; exact (o4 p hp).2 i hi
      · have hm : m < 100 := by omega
        have e3 : x3 * 1103515245 + 12345 = lcg x1 (m + 1) := by rw [h3]; rfl
        rw [e3]
        refine ⟨fun c3 => ih (m + 1) _ _ _ I (by omega) (by omega) (i_1 hx (by omega)) rfl ?_ s1 (fun i hi => ?_), fun c4 => ⟨by omega, by show _ < (100 : Int); omega, fun I10 c5 => ?_⟩⟩
        · exact sumP_0 h4 (if_neg (fun z => by have := of_decide_eq_true z; omega))
        · rw [s2 i hi]
          by_cases e : i = m
          · have nd : ¬ drw x1 x2 i = true := fun z => by
              rw [e] at z
              have := of_decide_eq_true z; omega
            rw [if_neg (fun z => nd z.2), if_neg (fun z => nd z.2)]
          · have : (i < m ∧ drw x1 x2 i = true) ↔ (i < m + 1 ∧ drw x1 x2 i = true) := ⟨fun z => ⟨by omega, z.2⟩, fun z => ⟨by omega, z.2⟩⟩
            by_cases q : i < m ∧ drw x1 x2 i = true
            · rw [if_pos q, if_pos (this.mp q)]
            · rw [if_neg q, if_neg (fun z => q (this.mpr z))]
        · rw [zix_of hx] at c5
          obtain ⟨a1, a2, a3⟩ := zwI_eff c5
          have yd : drw x1 x2 m = true := decide_eq_true c4
          refine ih (m + 1) _ _ _ I10 (by omega) (by omega) (i_1 hx (by omega)) rfl (sumP_s h4 (if_pos yd)) (fun b hb => (a1 b hb).trans (s1 b hb)) (fun i hi => ?_)
          by_cases e : i = m
          · rw [e, if_pos ⟨by omega, yd⟩]; exact a3
          · refine (a2 i e).trans ?_
            show I (q + 5) i = _
            rw [s2 i hi]
            have : (i < m ∧ drw x1 x2 i = true) ↔ (i < m + 1 ∧ drw x1 x2 i = true) := ⟨fun z => ⟨by omega, z.2⟩, fun z => ⟨by omega, z.2⟩⟩
            by_cases q : i < m ∧ drw x1 x2 i = true
            · rw [if_pos q, if_pos (this.mp q)]
            · rw [if_neg q, if_neg (fun z => q (this.mpr z))]
  exact kX1_drawRains q x1 x2 (sX1_drawRains_0 q x1 x2 hq (Nat.le_refl _) (loop 101 0 x1 0 0 h.1 (by omega) (by omega) rfl rfl rfl (fun _ _ => rfl) (fun i _ => by rw [if_neg (fun z => absurd z.1 (Nat.not_lt_zero i))])))
def drawF (x2 x3 x4 : Int32) (V : Nat → Int) : Int32 :=
  if 0 ≤ x3.toInt ∧ x3.toInt ≤ 100 then
    (if x4 = 0 then Int32.ofNat (stM (drV V x2 x3) (-1) 100).n else if x4 = 1 then taxF (drV V x2 x3) (stM (drV V x2 x3) (-1) 100) 2 (-1) else if x4 = 2 then drN x2 x3 100
     else if 0 ≤ (x4 - 10).toInt ∧ (x4 - 10).toInt < V 3 then madeF (stM (drV V x2 x3) (-1) 100) (x4 - 10) else -1)
  else -1
theorem pp_drawn {Kept : zH → Prop} (hk : KOK Kept) (l : Launch) (G : zG) : P_drawn Kept l G := fun x1 x2 x3 x4 => by
  refine Pair.night hk x1 (-1) (drawF x2 x3 x4) (fun h hI c0 => ?_) (fun h n hI ⟨b1, b2, b4, b6, b7, b8⟩ => ?_) (fun h hI c0 => ?_) (fun h n hI ⟨b1, b2, b4, b6, b7, b8⟩ bT => ?_)
  · exact kX10_drawn 0 x1 x2 x3 x4 (sX10_drawn_0 0 x1 x2 x3 x4 hI.1 (Nat.le_refl _) ⟨fun c1 => ⟨_, h.1, rfl, rfl, rfl, SameC.rf h⟩, fun b5 c2 => absurd (c0.symm.trans c2) (fun z => by cases z)⟩)
  · have w3 := b7.2.2.2.1
    refine kX10_drawn 0 x1 x2 x3 x4 (sX10_drawn_0 0 x1 x2 x3 x4 hI.1 (Nat.le_refl _) ⟨fun c1 => absurd (b4.symm.trans c1) (fun z => by cases z), fun b5 c2 => ?_⟩)
    have e5 : b5 = 5 + 18 * n := (Option.some.inj (b4.symm.trans c2)).symm
    subst e5
    have l113 := los_113 hI.1
    have l95 := los_95 hI.1
    have wV : WFN (drV (RW h (610 + 318 * n)) x2 x3) := b7.dr
    have n150 := stM_150 wV (al := -1) 100
    have okk := (stM_ok wV (al := -1) 100).1
    refine ⟨fun c3 => ⟨_, h.1, rfl, rfl, ?_, SameC.rf h⟩, fun c4 => ⟨fun c5 => ⟨_, c_X1_copyFrom l G h 95 (5 + 18 * n) l95 b6 (by omega), fun I19 ⟨j1, j2⟩ => ?_⟩, fun c17 => ⟨_, h.1, rfl, rfl, ?_, SameC.rf h⟩⟩⟩
    · unfold drawF; rw [if_neg (by omega)]
    · have oJ : NObj (I19, h.2) 95 (RW h (610 + 318 * n)) := b8.cp b7 j2
      refine ⟨_, c_drawRains l G (I19, h.2) _ 95 x2 x3 l95 b7 oJ, fun y30 I28 ⟨d1, d2, d3⟩ => ⟨_, c_lay l G (I28, h.2) _ 113 95 99 99 l113 l95 wV d3 (by omega) rfl (by decide), fun I37 ⟨g1, g2, g3⟩ => ?_⟩⟩
      have e37 : ∀ b, (b < 95 ∨ 127 ≤ b) → I37 b = h.1 b := fun b hb => by
        rw [g1 b (by omega)]
        show I28 b = _
        rw [d2 b (by omega)]
        exact j1 b (by omega)
      have s : SameC h I37 := fun b hb j => by
        unfold IC at hb
        rw [e37 b (by omega)]
      have o37 : NObj (I37, h.2) (5 + 18 * n) (RW h (610 + 318 * n)) := b8.same b7 (fun b z1 z2 => e37 b (by omega))
      have oV : NObj (I37, h.2) 95 (drV (RW h (610 + 318 * n)) x2 x3) := NObj.same (h := (I28, h.2)) wV d3 (fun b z1 z2 => g1 b (by omega))
      have fv : drawF x2 x3 x4 (RW h (610 + 318 * n)) = (if x4 = 0 then Int32.ofNat (stM (drV (RW h (610 + 318 * n)) x2 x3) (-1) 100).n else if x4 = 1 then taxF (drV (RW h (610 + 318 * n)) x2 x3) (stM (drV (RW h (610 + 318 * n)) x2 x3) (-1) 100) 2 (-1) else if x4 = 2 then drN x2 x3 100
          else if 0 ≤ (x4 - 10).toInt ∧ (x4 - 10).toInt < RW h (610 + 318 * n) 3 then madeF (stM (drV (RW h (610 + 318 * n)) x2 x3) (-1) 100) (x4 - 10) else -1) := by
        unfold drawF; rw [if_pos ⟨c4, c5⟩]
      rw [fv]
      have ne : ∀ c : Int32, (x4.toInt < 0 ∨ 2 < x4.toInt) → (c = 0 ∨ c = 1 ∨ c = 2) → x4 ≠ c := fun c h1 h2 e => by
        rw [e] at h1
        rcases h2 with h2 | h2 | h2 <;> rw [h2] at h1 <;> exact absurd h1 (by decide)
      refine ⟨fun c9 => ⟨b6, fun c10 => ⟨_, I37, rfl, rfl, ?_, s⟩, fun b51 c11 => ⟨_, c_madeBy l G (I37, h.2) 113 _ (x4 - 10) l113 g2 n150, fun y I z => ⟨y, I, rfl, rfl, ?_, by rw [z.2]; exact s⟩⟩⟩, fun c13 => ⟨_, I37, rfl, rfl, ?_, s⟩, fun c14 => ⟨_, c_taxC l G (I37, h.2) _ 113 95 _ 2 (-1) wV okk l113 l95 oV g2 n150, fun y I z => ⟨y, I, rfl, rfl, ?_, by rw [z.2]; exact s⟩⟩, fun c16 => ⟨_, I37, rfl, rfl, ?_, s⟩⟩
      · rw [if_neg (ne 0 c9 (by decide)), if_neg (ne 1 c9 (by decide)), if_neg (ne 2 c9 (by decide)), if_neg (fun z => ?_)]
        obtain ⟨P, hP⟩ : ∃ P : Nat, (x4 - 10).toInt = (P : Int) := ⟨(x4 - 10).toInt.toNat, by omega⟩
        exact absurd ((per_mem (h := (I37, h.2)) b6 b7 o37 hP (by omega)).1.symm.trans c10) (fun z => by cases z)
      · rw [if_neg (ne 0 c9 (by decide)), if_neg (ne 1 c9 (by decide)), if_neg (ne 2 c9 (by decide)), if_pos (Decidable.byContradiction fun z => absurd ((per_no (h := (I37, h.2)) b7 o37 z).symm.trans c11) (fun z => by cases z))]
        exact z.1
      · rw [if_pos (i_ext c13)]; exact n_ofn g2.1
      · rw [if_neg (fun e => by rw [e] at c14; exact absurd c14 (by decide)), if_pos (i_ext c14)]; exact z.1
      · rw [if_neg (fun e => by rw [e] at c16; exact absurd c16 (by decide)), if_neg (fun e => by rw [e] at c16; exact absurd c16 (by decide)), if_pos (i_ext c16)]; exact d1
    · unfold drawF; rw [if_neg (by omega)]
  · refine kX11_drawn 313 x1 x2 x3 x4 (sX11_drawn_0 313 x1 x2 x3 x4 hI.2.1 (Nat.le_refl _) ⟨_, c_isN l G hI x1, fun y6 I4 ⟨s1, s2, s3, s4⟩ => ⟨fun c2 => ⟨_, I4, rfl, rfl, rfl, s1⟩, fun c2 => ?_⟩⟩)
    exact absurd (c0.symm.trans (s3.symm.trans c2)) (fun z => by cases z)
  · refine kX11_drawn 313 x1 x2 x3 x4 (sX11_drawn_0 313 x1 x2 x3 x4 hI.2.1 (Nat.le_refl _) ⟨_, c_isN l G hI x1, fun y6 I4 ⟨s1, s2, s3, s4⟩ => ⟨fun c2 => absurd (bT.symm.trans (s3.symm.trans c2)) (fun z => by cases z), fun c2 => ?_⟩⟩)
    have eV : RW (I4, h.2) (610 + 318 * n) = RW h (610 + 318 * n) := RWc s1.al _
    have ma := s4 n b1 b2 c2
    have mm := ma.mn b2 (by rw [eV]; exact b7)
    rw [eV] at mm
    have w3 := b7.2.2.2.1
    obtain ⟨k3, pi⟩ := zisP_at mm b7 (p := x4 - 10)
    have q3 := n3r (x := x3) (u := 0) (v := 100) (a := 0) (b := 100) rfl rfl
    have q4 := n3r (x := x4) (u := 0) (v := 2) (a := 0) (b := 2) rfl rfl
    have wV : WFN (drV (RW h (610 + 318 * n)) x2 x3) := b7.dr
    have n150 := stM_150 wV (al := -1) 100
    have okk := (stM_ok wV (al := -1) 100).1
    have go : (0 ≤ x3.toInt ∧ x3.toInt ≤ 100) → ((0 ≤ x4.toInt ∧ x4.toInt ≤ 2) ∨ (0 ≤ (x4 - 10).toInt ∧ (x4 - 10).toInt < RW h (610 + 318 * n) 3)) → Z l G mX11_drawn 6 (fun v h1 => ∃ y I, v = some (.int y) ∧ h1 = (I, h.2) ∧ (y = drawF x2 x3 x4 (RW h (610 + 318 * n)) ∧ SameC h I)) 0 0 51 [va_rf (some 313), .int x1, .int x2, .int x3, .int x4, .int x2, .int 0, .int 0] [] (I4, h.2) := by
      intro z3 z4
      have fv : drawF x2 x3 x4 (RW h (610 + 318 * n)) = (if x4 = 0 then Int32.ofNat (stM (drV (RW h (610 + 318 * n)) x2 x3) (-1) 100).n else if x4 = 1 then taxF (drV (RW h (610 + 318 * n)) x2 x3) (stM (drV (RW h (610 + 318 * n)) x2 x3) (-1) 100) 2 (-1) else if x4 = 2 then drN x2 x3 100
          else if 0 ≤ (x4 - 10).toInt ∧ (x4 - 10).toInt < RW h (610 + 318 * n) 3 then madeF (stM (drV (RW h (610 + 318 * n)) x2 x3) (-1) 100) (x4 - 10) else -1) := by
        unfold drawF; rw [if_pos z3]
      rw [fv]
      have loop : ∀ (f m : Nat) (x5 x6 x7 : Int32) (I : Nat → Nat → Int32), m ≤ 100 → 100 - m < f → x7.toInt = (m : Int) → x5 = lcg x2 m → x6 = drN x2 x3 m → (∀ b, b ≠ 317 → I b = I4 b) → (∀ i, i < 100 → (i < m → (¬ I 317 i = 0 ↔ drw x2 x3 i = true))) →
          Z l G mX11_drawn 6 (fun v h1 => ∃ y I, v = some (.int y) ∧ h1 = (I, h.2) ∧ (y = (if x4 = 0 then Int32.ofNat (stM (drV (RW h (610 + 318 * n)) x2 x3) (-1) 100).n else if x4 = 1 then taxF (drV (RW h (610 + 318 * n)) x2 x3) (stM (drV (RW h (610 + 318 * n)) x2 x3) (-1) 100) 2 (-1) else if x4 = 2 then drN x2 x3 100
          else if 0 ≤ (x4 - 10).toInt ∧ (x4 - 10).toInt < RW h (610 + 318 * n) 3 then madeF (stM (drV (RW h (610 + 318 * n)) x2 x3) (-1) 100) (x4 - 10) else -1) ∧ SameC h I)) 0 0 51 [va_rf (some 313), .int x1, .int x2, .int x3, .int x4, .int x5, .int x6, .int x7] [] (I, h.2) := by
        intro f
        induction f with
        | zero => intro m x5 x6 x7 I h1 h2; omega
        | succ f ih =>
          intro m x5 x6 x7 I h1 h2 hx h5 h6 t1 t2
          refine sX11_drawn_51 313 x1 x2 x3 x4 x5 x6 x7 hI.2.1 (Nat.le_refl _) ⟨fun c1 => ?_, fun c11 => ?_⟩
          · have m100 : m = 100 := by omega
            subst m100
            have mV : MN (I, h.2) n (drV (RW h (610 + 318 * n)) x2 x3) := by
              refine MN.mk (B := RW h (610 + 318 * n)) b2 (by show (I 313 12).toInt = _; rw [t1 313 (by decide)]; exact ma.1) (fun W hW => ?_) (fun W hW => drV_o (Or.inl hW)) (fun m hm => ?_) (fun Q hQ => ⟨?_, ?_, ?_, fun f hf => drV_p, fun i hi => drV_s⟩)
              · rw [RW_at hW]
                show (I 314 _).toInt = (h.1 314 _).toInt
                rw [t1 314 (by decide), s1 314 (by unfold IC; omega)]
              · rw [drV_r hm]
                have tm : ¬ zI (I, h.2) 317 m = 0 ↔ drw x2 x3 m = true := t2 m hm hm
                rw [tm]
                by_cases e : drw x2 x3 m = true
                · rw [if_pos e]; exact ⟨fun _ => Or.inr e, fun _ => rfl⟩
                · rw [if_neg e]; exact ⟨Or.inl, fun z => z.resolve_right e⟩
              · rw [drV_p, show zI (I, h.2) 313 14 = -1 from (congrFun (t1 313 (by decide)) 14).trans ma.2.2.1, if_neg (ofn_m1 (by omega))]
              · rw [drV_p, show zI (I, h.2) 313 18 = -1 from (congrFun (t1 313 (by decide)) 18).trans ma.2.2.2.2.1, if_neg (ofn_m1 (by omega))]
              · rw [drV_p, show zI (I, h.2) 313 16 = -1 from (congrFun (t1 313 (by decide)) 16).trans ma.2.2.2.1, if_neg (ofn_m1 (by omega))]
            refine ⟨_, c_till l G (I, h.2) n _ (-1) 99 99 hI.2.1 wV mV (by show (I 313 13).toInt = _; rw [t1 313 (by decide)]; exact congrArg Int32.toInt ma.2.1) rfl (by decide), fun I8 ⟨g1, g2, g3, g4⟩ => ?_⟩
            have sI : SameC h I := fun b hb j => by
              rw [t1 b (by unfold IC at hb; omega)]; exact s1 b hb j
            have s : SameC h I8 := sI.tr g1.same
            have mJ : MN (I8, h.2) n (drV (RW h (610 + 318 * n)) x2 x3) := OnlyT.mn (h := (I, h.2)) g1 mV
            refine ⟨fun c3 => ⟨fun c4 => ⟨fun c5 => ⟨_, c_taxM l G (I8, h.2) n _ _ 0 (x4 - 10) wV okk hI.2.1 mJ g2 n150, fun y I z => ⟨y, I, rfl, rfl, ?_, by rw [z.2]; exact s⟩⟩, fun c7 => ⟨_, I8, rfl, rfl, ?_, s⟩⟩, fun c8 => ⟨_, c_taxM l G (I8, h.2) n _ _ 2 (-1) wV okk hI.2.1 mJ g2 n150, fun y I z => ⟨y, I, rfl, rfl, ?_, by rw [z.2]; exact s⟩⟩⟩, fun c10 => ⟨_, I8, rfl, rfl, ?_, s⟩⟩
            · have a0 : x4.toInt ≠ 0 := fun e => c3 (i_ext e)
              have a1 : x4.toInt ≠ 1 := fun e => c4 (i_ext e)
              have a2 : x4.toInt ≠ 2 := fun e => c5 (i_ext e)
              have hp := z4.resolve_left (by omega)
              rw [z.1, taxF_0 (fun e => by rw [e, show (-1 : Int32).toInt = -1 from rfl] at hp; omega), if_neg c3, if_neg c4, if_neg c5, if_pos hp]
            · rw [if_neg c3, if_neg c4, if_pos c7]; exact h6
            · rw [if_neg c3, if_pos c8]; exact z.1
            · rw [if_pos c10]; exact n_ofn g2.1
          · have hm : m < 100 := by omega
            have k1 : 0 ≤ x7.toInt := by omega
            have k2 : x7.toInt < ((100 : Nat) : Int) := by show _ < (100 : Int); omega
            have e5 : x5 * 1103515245 + 12345 = lcg x2 (m + 1) := by rw [h5]; rfl
            rw [e5, zix_of hx]
            refine ⟨fun c12 => ⟨k1, k2, fun I49 c13 => ?_⟩, fun c16 => ⟨k1, k2, fun I58 c17 => ?_⟩⟩
            · obtain ⟨a1, a2, a3⟩ := zwI_eff c13
              have nd : ¬ drw x2 x3 m = true := fun z => by have := of_decide_eq_true z; omega
              have ez : zI (I49, h.2) (313 + 4) m = 0 := a3
              rw [ez]
              refine ⟨k1, k2, fun _ => ih (m + 1) _ _ _ I49 (by omega) (by omega) (i_1 hx (by omega)) rfl (sumP_s h6 (if_neg nd)) (fun b hb => (a1 b hb).trans (t1 b hb)) (fun i hi him => ?_), fun c => absurd rfl c⟩
              by_cases e : i = m
              · rw [e]
                exact ⟨fun z => absurd a3 z, fun z => absurd z nd⟩
              · have ai : I49 317 i = I 317 i := a2 i e
                rw [ai]; exact t2 i hi (by omega)
            · obtain ⟨a1, a2, a3⟩ := zwI_eff c17
              have yd : drw x2 x3 m = true := decide_eq_true c16
              have ez : zI (I58, h.2) (313 + 4) m = 1 := a3
              rw [ez]
              refine ⟨k1, k2, fun c => absurd c (by decide), fun _ => ih (m + 1) _ _ _ I58 (by omega) (by omega) (i_1 hx (by omega)) rfl (sumP_s h6 (if_pos yd)) (fun b hb => (a1 b hb).trans (t1 b hb)) (fun i hi him => ?_)⟩
              by_cases e : i = m
              · rw [e]
                exact ⟨fun _ => yd, fun _ z => absurd (a3.symm.trans z) (by decide)⟩
              · have ai : I58 317 i = I 317 i := a2 i e
                rw [ai]; exact t2 i hi (by omega)
      exact loop 101 0 x2 0 0 I4 (by omega) (by omega) rfl rfl rfl (fun _ _ => rfl) (fun i _ hi => absurd hi (Nat.not_lt_zero i))
    refine ⟨fun c4 => ⟨_, I4, rfl, rfl, ?_, s1⟩, fun c5 => ⟨fun c6 => go (q3.1.mp c5) (Or.inl (q4.1.mp c6)), fun c7 => ⟨k3, fun c8 => go (q3.1.mp c5) (Or.inr (pi.mp c8)), fun c9 => ⟨_, I4, rfl, rfl, ?_, s1⟩⟩⟩⟩
    · have := q3.2.mp c4
      unfold drawF; rw [if_neg this]
    · have h4 := q4.2.mp c7
      have hp := (bfalse pi).mp c9
      have h3 := q3.1.mp c5
      unfold drawF
      rw [if_pos h3, if_neg (fun e => by rw [e] at h4; exact absurd ⟨by decide, by decide⟩ h4), if_neg (fun e => by rw [e] at h4; exact absurd ⟨by decide, by decide⟩ h4), if_neg (fun e => by rw [e] at h4; exact absurd ⟨by decide, by decide⟩ h4), if_neg hp]
