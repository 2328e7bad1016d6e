set_option maxRecDepth 4000
/-! ===== a night otherwise ===== -/
def setV (V : Nat → Int) (w0 : Nat) (v : Int) : Nat → Int := fun w => if w = w0 then v else V w
theorem setV_lo {V : Nat → Int} {w0 : Nat} {v : Int} {w : Nat} (h : w < w0) : setV V w0 v w = V w := if_neg (by omega)
theorem pF_set {V : Nat → Int} {a f0 : Nat} {v : Int} {P f : Nat} (hf : f < 33) (hf0 : f0 < 33) : pF (setV V (120 + 33 * a + f0) v) P f = if P = a ∧ f = f0 then v else pF V P f := by
  show (if 120 + 33 * P + f = 120 + 33 * a + f0 then v else V (120 + 33 * P + f)) = _
  by_cases e : P = a ∧ f = f0
  · rw [if_pos e, if_pos (by rw [e.1, e.2])]
  · rw [if_neg e, if_neg (by omega)]; rfl
theorem sd_set {V : Nat → Int} {a f0 : Nat} {v : Int} {P i : Nat} (hi : i < 24) (hf0 : f0 < 9) : sdV (setV V (120 + 33 * a + f0) v) P i = sdV V P i := if_neg (by omega)
/-- what one of the people keeps to -/
def perW (V : Nat → Int) (W H N : Int) (P : Nat) : Prop := (0 ≤ pF V P 0 ∧ pF V P 0 ≤ 5) ∧ (1 ≤ pF V P 1 ∧ pF V P 1 ≤ 3) ∧ (1 ≤ pF V P 2 ∧ pF V P 2 ≤ 9) ∧ (0 ≤ pF V P 3 ∧ pF V P 3 ≤ 2) ∧ (0 ≤ pF V P 4 ∧ pF V P 4 ≤ 2) ∧ (-1 ≤ pF V P 5 ∧ pF V P 5 < N) ∧ pF V P 5 ≠ P ∧
    ((pF V P 6 = -1 ∧ pF V P 7 = -1 ∧ pF V P 8 = 0) ∨ ((0 ≤ pF V P 6 ∧ pF V P 6 < W * H) ∧ (0 ≤ pF V P 7 ∧ pF V P 7 ≤ 60) ∧ (1 ≤ pF V P 8 ∧ pF V P 8 ≤ 24))) ∧
    ∀ i : Nat, (i : Int) < pF V P 8 → 0 ≤ sdV V P i ∧ sdV V P i ≤ 3
theorem WFN.upd {V V' : Nat → Int} (w : WFN V) (e5 : ∀ k, k < 5 → V' k = V k) (er : ∀ m, m < 100 → V' (5 + m) = 0 ∨ V' (5 + m) = 1) (ee : ∀ k, k < 15 → V' (105 + k) = V (105 + k)) (ep : ∀ P : Nat, (P : Int) < V 3 → perW V' (V 0) (V 1) (V 3) P) : WFN V' := by
  obtain ⟨w0, w1, w2, w3, w4, w5, w6, w7⟩ := w
  unfold WFN
  rw [e5 0 (by decide), e5 1 (by decide), e5 2 (by decide), e5 3 (by decide), e5 4 (by decide)]
  refine ⟨w0, w1, w2, w3, w4, er, fun k hk => ?_, fun P hP => ?_⟩
  · have := w6 k hk
    rw [show 105 + 3 * k = 105 + (3 * k) by omega, ee _ (by omega), show 106 + 3 * k = 105 + (3 * k + 1) by omega, ee _ (by omega), show 107 + 3 * k = 105 + (3 * k + 2) by omega, ee _ (by omega)]
    rw [show 105 + (3 * k + 1) = 106 + 3 * k by omega, show 105 + (3 * k + 2) = 107 + 3 * k by omega]
    exact this
  · have := ep P hP
    unfold perW at this
    rw [show pF V' P 0 = V' (120 + 33 * P) from congrArg V' (by omega), show pF V' P 1 = V' (121 + 33 * P) from congrArg V' (by omega), show pF V' P 2 = V' (122 + 33 * P) from congrArg V' (by omega), show pF V' P 3 = V' (123 + 33 * P) from congrArg V' (by omega), show pF V' P 4 = V' (124 + 33 * P) from congrArg V' (by omega), show pF V' P 5 = V' (125 + 33 * P) from congrArg V' (by omega), show pF V' P 6 = V' (126 + 33 * P) from congrArg V' (by omega), show pF V' P 7 = V' (127 + 33 * P) from congrArg V' (by omega), show pF V' P 8 = V' (128 + 33 * P) from congrArg V' (by omega)] at this
    exact this
/-- one field of one of the people is another one -/
theorem WFN.set {V : Nat → Int} (w : WFN V) {a f0 : Nat} {v : Int} (ha : (a : Int) < V 3) (hf : f0 = 0 ∧ (0 ≤ v ∧ v ≤ 5) ∨ f0 = 5 ∧ (-1 ≤ v ∧ v < V 3) ∧ v ≠ a ∨ f0 = 7 ∧ (0 ≤ v ∧ v ≤ 60) ∧ pF V a 6 ≠ -1) : WFN (setV V (120 + 33 * a + f0) v) := by
  refine w.upd (fun k hk => setV_lo (by omega)) (fun m hm => by rw [setV_lo (by omega)]; exact w.2.2.2.2.2.1 m hm) (fun k hk => setV_lo (by omega)) (fun P hP => ?_)
  have pw := per_w w hP
  have w8 := pw.2.2.2.2.2.2.2.1
  unfold perW
  rw [pF_set (by decide) (by omega), pF_set (by decide) (by omega), pF_set (by decide) (by omega), pF_set (by decide) (by omega), pF_set (by decide) (by omega), pF_set (by decide) (by omega), pF_set (by decide) (by omega), pF_set (by decide) (by omega), pF_set (by decide) (by omega)]
  rw [if_neg (show ¬ (P = a ∧ 1 = f0) by omega), if_neg (show ¬ (P = a ∧ 2 = f0) by omega), if_neg (show ¬ (P = a ∧ 3 = f0) by omega), if_neg (show ¬ (P = a ∧ 4 = f0) by omega), if_neg (show ¬ (P = a ∧ 6 = f0) by omega), if_neg (show ¬ (P = a ∧ 8 = f0) by omega)]
  obtain ⟨p0, p1, p2, p3, p4, p5, p5', p8, ps⟩ := pw
  have hs : ∀ i : Nat, (i : Int) < pF V P 8 → 0 ≤ sdV (setV V (120 + 33 * a + f0) v) P i ∧ sdV (setV V (120 + 33 * a + f0) v) P i ≤ 3 := fun i hi => by rw [sd_set (by omega) (by omega)]; exact ps i hi
  by_cases e : P = a
  · subst e
    rcases hf with ⟨h0, hv⟩ | ⟨h0, hv, hv2⟩ | ⟨h0, hv, hv2⟩ <;> subst h0
    · rw [if_pos (show P = P ∧ 0 = 0 from ⟨rfl, rfl⟩), if_neg (show ¬ (P = P ∧ 5 = 0) by omega), if_neg (show ¬ (P = P ∧ 7 = 0) by omega)]
      exact ⟨hv, p1, p2, p3, p4, p5, p5', p8, hs⟩
    · rw [if_neg (show ¬ (P = P ∧ 0 = 5) by omega), if_pos (show P = P ∧ 5 = 5 from ⟨rfl, rfl⟩), if_neg (show ¬ (P = P ∧ 7 = 5) by omega)]
      exact ⟨p0, p1, p2, p3, p4, hv, hv2, p8, hs⟩
    · rw [if_neg (show ¬ (P = P ∧ 0 = 7) by omega), if_neg (show ¬ (P = P ∧ 5 = 7) by omega), if_pos (show P = P ∧ 7 = 7 from ⟨rfl, rfl⟩)]
      exact ⟨p0, p1, p2, p3, p4, p5, p5', Or.inr ⟨(w8.resolve_left (fun z => hv2 z.1)).1, hv, (w8.resolve_left (fun z => hv2 z.1)).2.2⟩, hs⟩
  · rw [if_neg (fun z => e z.1), if_neg (fun z => e z.1), if_neg (fun z => e z.1)]
    exact ⟨p0, p1, p2, p3, p4, p5, p5', p8, hs⟩
/-- the Night object then -/
theorem NObj.set {h : zH} {I : Nat → Nat → Int32} {q : Nat} {V : Nat → Int} (w : WFN V) (o : NObj h q V) {a f0 : Nat} {v : Int32} (ha : (a : Int) < V 3) (hf : f0 = 0 ∨ f0 = 5 ∨ f0 = 7) (e : I = (zwI h (q + (6 + 2 * a)) f0 v).1) : NObj (I, h.2) q (setV V (120 + 33 * a + f0) v.toInt) := by
  obtain ⟨e1, e2, e3⟩ := zwI_eff e
  have w3 := w.2.2.2.1
  have w4 := w.2.2.2.2.1
  obtain ⟨o1, o2, o3, o4⟩ := o
  have z : ∀ b, b ≠ q + (6 + 2 * a) → ∀ j, zI (I, h.2) b j = zI h b j := fun b hb j => congrFun (e1 b hb) j
  have l4 : setV V (120 + 33 * a + f0) v.toInt 4 = V 4 := setV_lo (by omega)
  have l3 : setV V (120 + 33 * a + f0) v.toInt 3 = V 3 := setV_lo (by omega)
  refine ⟨fun f hf' => by rw [z _ (by omega), setV_lo (by omega)]; exact o1 f hf', fun m hm => by rw [z _ (by omega), setV_lo (by omega)]; exact o2 m hm, fun k hk => ?_, fun p hp => ⟨fun f hf' => ?_, fun i hi => ?_⟩⟩
  · rw [l4] at hk
    rw [z _ (by omega), z _ (by omega), z _ (by omega), setV_lo (by omega), setV_lo (by omega), setV_lo (by omega)]
    exact o3 k hk
  · rw [l3] at hp
    have := pF_set (V := V) (a := a) (f0 := f0) (v := v.toInt) (P := p) (f := f) (by omega) (by omega)
    show _ = pF (setV V (120 + 33 * a + f0) v.toInt) p f
    rw [this]
    by_cases c : p = a ∧ f = f0
    · rw [if_pos c, c.1, c.2]
      show (I (q + 6 + 2 * a) f0).toInt = _
      rw [show q + 6 + 2 * a = q + (6 + 2 * a) by omega, e3]
    · rw [if_neg c]
      by_cases c2 : p = a
      · subst c2
        show (I (q + 6 + 2 * p) f).toInt = _
        rw [show q + 6 + 2 * p = q + (6 + 2 * p) by omega, e2 f (fun z => c ⟨rfl, z⟩)]
        have := (o4 p hp).1 f hf'
        rw [show q + 6 + 2 * p = q + (6 + 2 * p) by omega] at this
        exact this
      · rw [z _ (by omega)]; exact (o4 p hp).1 f hf'
  · rw [l3] at hp
    have e8 : setV V (120 + 33 * a + f0) v.toInt (128 + 33 * p) = V (128 + 33 * p) := if_neg (by omega)
    rw [e8] at hi
    have w8 := (w.2.2.2.2.2.2.2 p hp).2.2.2.2.2.2.2.1
    rw [z _ (by omega), show setV V (120 + 33 * a + f0) v.toInt (129 + 33 * p + i) = V (129 + 33 * p + i) from if_neg (by omega)]
    exact (o4 p hp).2 i hi
/-- the reference stands at a night otherwise -/
theorem MN.mk {h : zH} {n : Nat} {B V' : Nat → Int} (hn : n < 2) (h12 : (zI h 313 12).toInt = ((610 + 318 * n : Nat) : Int)) (ha : ∀ W, W < 318 → (AL h (610 + 318 * n + W)).toInt = B W) (e5 : ∀ W, W < 5 → V' W = B W) (er : ∀ m, m < 100 → (V' (5 + m) = 1 ↔ (B (5 + m) = 1 ∨ ¬ zI h 317 m = 0)))
    (ep : ∀ P, P < 6 → pF V' P 0 = (if Int32.ofNat P = zI h 313 14 then (zI h 313 15).toInt else pF B P 0) ∧ pF V' P 5 = (if Int32.ofNat P = zI h 313 18 then (zI h 313 19).toInt else pF B P 5) ∧ pF V' P 7 = (if Int32.ofNat P = zI h 313 16 then (zI h 313 17).toInt else pF B P 7) ∧ (∀ f, (f = 1 ∨ f = 2 ∨ f = 3 ∨ f = 4 ∨ f = 6 ∨ f = 8) → pF V' P f = pF B P f) ∧ ∀ i, i < 24 → sdV V' P i = sdV B P i) : MN h n V' := by
  refine ⟨hn, h12, fun W hW => by rw [e5 W hW]; exact ha W (by omega), fun m hm => by rw [ha _ (by omega)]; exact er m hm, fun P hP => ?_⟩
  obtain ⟨q0, q5, q7, qf, qs⟩ := ep P hP
  have a0 : ∀ f, f < 33 → (AL h (610 + 318 * n + (120 + 33 * P + f))).toInt = pF B P f := fun f hf => ha _ (by omega)
  refine ⟨?_, ?_, ?_, fun f hf => by rw [qf f hf]; exact a0 f (by omega), fun i hi => by rw [qs i hi]; exact ha _ (by omega)⟩
  · rw [q0]; split
    · rfl
    · exact a0 0 (by decide)
  · rw [q5]; split
    · rfl
    · exact a0 5 (by decide)
  · rw [q7]; split
    · rfl
    · exact a0 7 (by decide)
theorem ofn_eq {x : Int32} {a P : Nat} (hx : x.toInt = (a : Int)) (hP : P < 1000) (ha : a < 1000) : Int32.ofNat P = x ↔ P = a := by
  rw [n_ofn hx]
  exact ⟨fun e => ofn_inj hP ha e, fun e => by rw [e]⟩
/-! ===== carried ===== -/
def carF (x2 x3 : Int32) (x4 : Bool) (V : Nat → Int) : Int32 :=
  if (0 ≤ x2.toInt ∧ x2.toInt < V 3) ∧ (0 ≤ x3.toInt ∧ x3.toInt < V 3) ∧ x2 ≠ x3 then madeF (stM (setV V (120 + 33 * x2.toInt.toNat + 5) x3.toInt) (-1) 100) (if x4 = true then x3 else x2) else -1
theorem pp_carried {Kept : zH → Prop} (hk : KOK Kept) (l : Launch) (G : zG) : P_carried Kept l G := fun x1 x2 x3 x4 => by
  refine Pair.night hk x1 (-1) (carF x2 x3 x4) (fun h hI c0 => ?_) (fun h n hI ⟨b1, b2, b4, b6, b7, b8⟩ => ?_) (fun h hI c0 => ?_) (fun h n hI ⟨b1, b2, b4, b6, b7, b8⟩ bT => ?_)
  · exact kX10_carried 0 x1 x2 x3 x4 (sX10_carried_0 0 x1 x2 x3 x4 hI.1 (Nat.le_refl _) ⟨fun c1 => ⟨_, h.1, rfl, rfl, rfl, SameC.rf h⟩, fun b5 c2 => absurd (c0.symm.trans c2) (fun z => by cases z)⟩)
  · have w3 := b7.2.2.2.1
    refine kX10_carried 0 x1 x2 x3 x4 (sX10_carried_0 0 x1 x2 x3 x4 hI.1 (Nat.le_refl _) ⟨fun c1 => absurd (b4.symm.trans c1) (fun z => by cases z), fun b5 c2 => ?_⟩)
    have e5 : b5 = 5 + 18 * n := (Option.some.inj (b4.symm.trans c2)).symm
    subst e5
    have l113 := los_113 hI.1
    have l95 := los_95 hI.1
    refine ⟨b6, fun c3 => ⟨_, h.1, rfl, rfl, ?_, SameC.rf h⟩, fun b14 c4 => ⟨fun c5 => ⟨_, h.1, rfl, rfl, ?_, SameC.rf h⟩, fun b21 c6 => ⟨fun c7 => ?_, fun c22 => ⟨_, h.1, rfl, rfl, ?_, SameC.rf h⟩⟩⟩⟩
    · unfold carF
      rw [if_neg (fun z => ?_)]
      obtain ⟨P, hP⟩ : ∃ P : Nat, x2.toInt = (P : Int) := ⟨x2.toInt.toNat, by omega⟩
      exact absurd ((per_mem b6 b7 b8 hP (by omega)).1.symm.trans c3) (fun z => by cases z)
    · unfold carF
      rw [if_neg (fun z => ?_)]
      obtain ⟨P, hP⟩ : ∃ P : Nat, x3.toInt = (P : Int) := ⟨x3.toInt.toNat, by omega⟩
      exact absurd ((per_mem b6 b7 b8 hP (by omega)).1.symm.trans c5) (fun z => by cases z)
    · have h2 : 0 ≤ x2.toInt ∧ x2.toInt < RW h (610 + 318 * n) 3 := Decidable.byContradiction fun z => absurd ((per_no b7 b8 z).symm.trans c4) (fun z => by cases z)
      have h3 : 0 ≤ x3.toInt ∧ x3.toInt < RW h (610 + 318 * n) 3 := Decidable.byContradiction fun z => absurd ((per_no b7 b8 z).symm.trans c6) (fun z => by cases z)
      obtain ⟨P, hP⟩ : ∃ P : Nat, x2.toInt = (P : Int) := ⟨x2.toInt.toNat, by omega⟩
      refine ⟨_, c_X1_copyFrom l G h 95 (5 + 18 * n) l95 b6 (by omega), fun I31 ⟨j1, j2⟩ => ?_⟩
      have oJ : NObj (I31, h.2) 95 (RW h (610 + 318 * n)) := b8.cp b7 j2
      obtain ⟨m1, m2, m3⟩ := per_mem (h := (I31, h.2)) l95 b7 oJ hP (by omega)
      refine ⟨fun c9 => absurd (m1.symm.trans c9) (fun z => by cases z), fun b41 c15 => ?_⟩
      have eb : b41 = 95 + (6 + 2 * P) := (Option.some.inj (m1.symm.trans c15)).symm
      subst eb
      refine ⟨m2, fun I77 c16 => ?_⟩
      have nab : x3.toInt ≠ (P : Int) := fun e => c7 (i_ext (by rw [hP, e]))
      have wV : WFN (setV (RW h (610 + 318 * n)) (120 + 33 * P + 5) x3.toInt) := b7.set (by omega) (Or.inr (Or.inl ⟨rfl, by omega, nab⟩))
      have oV : NObj (I77, h.2) 95 (setV (RW h (610 + 318 * n)) (120 + 33 * P + 5) x3.toInt) := NObj.set (h := (I31, h.2)) b7 oJ (by omega) (Or.inr (Or.inl rfl)) c16
      have e77 : ∀ b, (b < 95 ∨ 113 ≤ b) → I77 b = h.1 b := fun b hb => by
        rw [(zwI_eff c16).1 b (by omega)]; exact j1 b (by omega)
      have n150 := stM_150 wV (al := -1) 100
      have fv : carF x2 x3 x4 (RW h (610 + 318 * n)) = madeF (stM (setV (RW h (610 + 318 * n)) (120 + 33 * P + 5) x3.toInt) (-1) 100) (if x4 = true then x3 else x2) := by
        unfold carF
        rw [if_pos ⟨h2, h3, c7⟩, show x2.toInt.toNat = P by omega]
      rw [fv]
      refine ⟨_, c_lay l G (I77, h.2) _ 113 95 99 99 l113 l95 wV oV (by omega) rfl (by decide), fun I83 ⟨g1, g2, g3⟩ => ?_⟩
      have s : SameC h I83 := fun b hb j => by
        unfold IC at hb
        rw [g1 b (by omega)]
        show I77 b j = _
        rw [e77 b (by omega)]
      refine ⟨fun c18 => ⟨_, c_madeBy l G (I83, h.2) 113 _ x2 l113 g2 n150, fun y I z => ⟨y, I, rfl, rfl, ?_, by rw [z.2]; exact s⟩⟩, fun c20 => ⟨_, c_madeBy l G (I83, h.2) 113 _ x3 l113 g2 n150, fun y I z => ⟨y, I, rfl, rfl, ?_, by rw [z.2]; exact s⟩⟩⟩
      · rw [z.1, c18, if_neg Bool.false_ne_true]
      · rw [z.1, c20, if_pos rfl]
    · unfold carF
      rw [if_neg (fun z => z.2.2 c22)]
  · refine kX11_carried 313 x1 x2 x3 x4 (sX11_carried_0 313 x1 x2 x3 x4 hI.2.1 (Nat.le_refl _) ⟨_, c_isN l G hI x1, fun y6 I4 ⟨s1, s2, s3, s4⟩ => ⟨fun c2 => ⟨_, I4, rfl, rfl, rfl, s1⟩, fun c2 => ?_⟩⟩)
    exact absurd (c0.symm.trans (s3.symm.trans c2)) (fun z => by cases z)
  · refine kX11_carried 313 x1 x2 x3 x4 (sX11_carried_0 313 x1 x2 x3 x4 hI.2.1 (Nat.le_refl _) ⟨_, c_isN l G hI x1, fun y6 I4 ⟨s1, s2, s3, s4⟩ => ⟨fun c2 => absurd (bT.symm.trans (s3.symm.trans c2)) (fun z => by cases z), fun c2 => ?_⟩⟩)
    have eV : RW (I4, h.2) (610 + 318 * n) = RW h (610 + 318 * n) := RWc s1.al _
    have ma := s4 n b1 b2 c2
    have mm := ma.mn b2 (by rw [eV]; exact b7)
    rw [eV] at mm
    have w3 := b7.2.2.2.1
    obtain ⟨k3, p2⟩ := zisP_at mm b7 (p := x2)
    obtain ⟨_, p3⟩ := zisP_at mm b7 (p := x3)
    refine ⟨k3, fun c4 => ⟨_, I4, rfl, rfl, ?_, s1⟩, fun c5 => ⟨k3, fun c6 => ⟨_, I4, rfl, rfl, ?_, s1⟩, fun c7 => ⟨fun c8 I34 c9 I37 c10 => ?_, fun c16 => ⟨_, I4, rfl, rfl, ?_, s1⟩⟩⟩⟩
    · have := (bfalse p2).mp c4
      unfold carF; rw [if_neg (fun z => this z.1)]
    · have := (bfalse p3).mp c6
      unfold carF; rw [if_neg (fun z => this z.2.1)]
    · have h2 := p2.mp c5
      have h3 := p3.mp c7
      obtain ⟨P, hP⟩ : ∃ P : Nat, x2.toInt = (P : Int) := ⟨x2.toInt.toNat, by omega⟩
      have nab : x3.toInt ≠ (P : Int) := fun e => c8 (i_ext (by rw [hP, e]))
      have wV : WFN (setV (RW h (610 + 318 * n)) (120 + 33 * P + 5) x3.toInt) := b7.set (by omega) (Or.inr (Or.inl ⟨rfl, by omega, nab⟩))
      have n150 := stM_150 wV (al := -1) 100
      have okk := (stM_ok wV (al := -1) 100).1
      obtain ⟨d1, d2, d3⟩ := zwI_eff c9
      obtain ⟨f1, f2, f3⟩ := zwI_eff c10
      have e37 : ∀ b, b ≠ 313 → I37 b = I4 b := fun b hb => (f1 b hb).trans (d1 b hb)
      have e313 : ∀ k, k ≠ 18 → k ≠ 19 → I37 313 k = I4 313 k := fun k h1 h2 => (f2 k h2).trans (d2 k h1)
      have e18 : I37 313 18 = x2 := (f2 18 (by decide)).trans d3
      have mV : MN (I37, h.2) n (setV (RW h (610 + 318 * n)) (120 + 33 * P + 5) x3.toInt) := by
        refine MN.mk (B := RW h (610 + 318 * n)) b2 (by show (I37 313 12).toInt = _; rw [e313 12 (by decide) (by decide)]; exact ma.1) (fun W hW => ?_) (fun W hW => setV_lo (by omega)) (fun m hm => ?_) (fun Q hQ => ⟨?_, ?_, ?_, fun f hf => ?_, fun i hi => sd_set hi (by decide)⟩)
        · rw [RW_at hW]
          show (I37 314 _).toInt = (h.1 314 _).toInt
          rw [e37 314 (by decide), s1 314 (by unfold IC; omega)]
        · rw [setV_lo (by omega), show zI (I37, h.2) 317 m = 0 from (congrFun (e37 317 (by decide)) m).trans (ma.2.2.2.2.2 m hm)]
          exact ⟨Or.inl, fun z => z.resolve_right (fun y => y rfl)⟩
        · rw [pF_set (by decide) (by decide), if_neg (by omega), show zI (I37, h.2) 313 14 = -1 from (e313 14 (by decide) (by decide)).trans ma.2.2.1, if_neg (ofn_m1 (by omega))]
        · rw [pF_set (by decide) (by decide), show zI (I37, h.2) 313 18 = x2 from e18, show zI (I37, h.2) 313 19 = x3 from f3]
          by_cases e : Q = P
          · rw [if_pos ⟨e, rfl⟩, if_pos ((ofn_eq hP (by omega) (by omega)).mpr e)]
          · rw [if_neg (fun z => e z.1), if_neg (fun z => e ((ofn_eq hP (by omega) (by omega)).mp z))]
        · rw [pF_set (by decide) (by decide), if_neg (by omega), show zI (I37, h.2) 313 16 = -1 from (e313 16 (by decide) (by decide)).trans ma.2.2.2.1, if_neg (ofn_m1 (by omega))]
        · rw [pF_set (by omega) (by decide), if_neg (by omega)]
      have fv : carF x2 x3 x4 (RW h (610 + 318 * n)) = madeF (stM (setV (RW h (610 + 318 * n)) (120 + 33 * P + 5) x3.toInt) (-1) 100) (if x4 = true then x3 else x2) := by
        unfold carF
        rw [if_pos ⟨h2, h3, c8⟩, show x2.toInt.toNat = P by omega]
      rw [fv]
      refine ⟨_, c_till l G (I37, h.2) n _ (-1) 99 99 hI.2.1 wV mV (by show (I37 313 13).toInt = _; rw [e313 13 (by decide) (by decide)]; exact congrArg Int32.toInt ma.2.1) rfl (by decide), fun I43 ⟨g1, g2, g3, g4⟩ => ?_⟩
      have s37 : SameC h I37 := fun b hb j => by
        rw [e37 b (by unfold IC at hb; omega)]; exact s1 b hb j
      have s : SameC h I43 := s37.tr g1.same
      have mJ : MN (I43, h.2) n (setV (RW h (610 + 318 * n)) (120 + 33 * P + 5) x3.toInt) := OnlyT.mn (h := (I37, h.2)) g1 mV
      have nm : ∀ x : Int32, 0 ≤ x.toInt → x ≠ -1 := fun x hx e => by rw [e, show (-1 : Int32).toInt = -1 from rfl] at hx; omega
      refine ⟨fun c12 => ⟨_, c_taxM l G (I43, h.2) n _ _ 0 x2 wV okk hI.2.1 mJ g2 n150, fun y I z => ⟨y, I, rfl, rfl, ?_, by rw [z.2]; exact s⟩⟩, fun c14 => ⟨_, c_taxM l G (I43, h.2) n _ _ 0 x3 wV okk hI.2.1 mJ g2 n150, fun y I z => ⟨y, I, rfl, rfl, ?_, by rw [z.2]; exact s⟩⟩⟩
      · rw [z.1, taxF_0 (nm _ h2.1), c12, if_neg Bool.false_ne_true]
      · rw [z.1, taxF_0 (nm _ h3.1), c14, if_pos rfl]
    · unfold carF; rw [if_neg (fun z => z.2.2 c16)]
