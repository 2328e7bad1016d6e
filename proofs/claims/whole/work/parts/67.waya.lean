set_option maxRecDepth 4000
/-! ===== the class's way: seeking ===== -/
section K67
variable {V T : Nat → Int} {S d : Int}
theorem zlo.wR {h : zH} {a b k : Nat} {x : Option Nat} {ks : List (Nat × Nat)} {rs : List (Nat × Nat × Nat)} (q : zlo h a ks rs) (hn : ∀ e, e ∈ rs → ¬ (a + e.1 = b ∧ e.2.1 = k)) : zlo (zwR h b k x) a ks rs := by
  refine ⟨q.1, q.2.1, fun i e hi => ?_⟩
  rw [zR_w, if_neg (hn e (List.mem_of_getElem? hi))]
  exact q.2.2 i e hi
theorem zlo.wRk {h : zH} {a b k : Nat} {x : Option Nat} {ks : List (Nat × Nat)} {rs : List (Nat × Nat × Nat)} (q : zlo h a ks rs) (hn : rs.all (fun e => decide (e.2.1 ≠ k)) = true) : zlo (zwR h b k x) a ks rs :=
  q.wR (fun e he z => (of_decide_eq_true (List.all_eq_true.mp hn e he)) z.2)
theorem zlo.wRo {h : zH} {a b k n : Nat} {x : Option Nat} {ks : List (Nat × Nat)} {rs : List (Nat × Nat × Nat)} (q : zlo h a ks rs) (hn : rs.all (fun e => decide (e.1 < n)) = true) (hb : b < a ∨ a + n ≤ b) : zlo (zwR h b k x) a ks rs :=
  q.wR (fun e he z => by have := of_decide_eq_true (List.all_eq_true.mp hn e he); omega)
def wyP (V T : Nat → Int) (S d : Int) (fr to : Nat) : Int × Nat := if fr = to then (0, 0) else bw (nxV V d) (pnT T S) to fr 40
def WyR (h : zH) (a : Nat) (V T : Nat → Int) (S d : Int) (fr to : Nat) : Prop :=
  ((wyP V T S d fr to).1 < 1000000 → (zI h a 0).toInt = (wyP V T S d fr to).1 ∧ (zI h a 1).toInt = ((wyP V T S d fr to).2 : Int) ∧ ∀ k, k < (wyP V T S d fr to).2 → (zI h (a + 1) k).toInt = (sdW (nxV V d) (pnT T S) to (wyP V T S d fr to).2 k (cwW (nxV V d) (pnT T S) to (wyP V T S d fr to).2 fr k) : Int)) ∧
  (¬ (wyP V T S d fr to).1 < 1000000 → zI h a 0 = -1)
def SkQ (h h' : zH) (a q g : Nat) (V T : Nat → Int) (S d : Int) (fr to : Nat) : Prop :=
  (∀ b, (b < a ∨ a + 4 ≤ b) → h'.1 b = h.1 b) ∧ (∀ b k, ¬ (b = a ∧ (k = 3 ∨ k = 4)) → zR h' b k = zR h b k) ∧ (∀ b, zK h' b = zK h b) ∧ zN h' = zN h ∧ WO h' a q g V T S d ∧ (zI h' a 7).toInt = (fr : Int) ∧ WyR h' a V T S d fr to
theorem c_seek (l : Launch) (G : zG) (h : zH) (a q g P fr to : Nat) (x3 x4 x5 : Int32) (hl : lo9 h a) (hq : lo1 h q) (hg : zAw h g 64) (w : WFN V) (o : NObj h q V) (dj : q + 18 ≤ a ∨ a + 4 ≤ q) (dg : g < a ∨ a + 4 ≤ g) (hT : ∀ c, c < 64 → (zI h g c).toInt = T c) (h3 : x3.toInt = (P : Int)) (hP : (P : Int) < V 3) (h4 : x4.toInt = (fr : Int)) (hfr : fr < nV V) (h5 : x5.toInt = (to : Int)) (hto : to < nV V) :
    CTvG l G YX9_seek 6 [va_rf (some a), va_rf (some q), va_rf (some g), .int x3, .int x4, .int x5] h (fun h' => SkQ h h' a q g V T (pF V P 0) (pF V P 1) fr to) := by
  have pw := per_w w hP
  have r9 : ∀ k, (k = 3 ∨ k = 4) → rs9.all (fun e => decide (e.2.1 ≠ k)) = true := fun k hk => by
    rcases hk with e | e <;> subst e <;> decide
  have x : WX a q g V (pF V P 0) (pF V P 1) := ⟨w, pw.1, pw.2.1, dj, dg⟩
  have ok := w_ok (T := T) (S := pF V P 0) (d := pF V P 1) w
  refine kX9_seek a q (some g) x3 x4 x5 (sX9_seek_0 a q (some g) x3 x4 x5 hl hq (Nat.le_refl _) (fun I1 c1 I4 c2 => ?_))
  obtain ⟨a1, a2, a3⟩ := zwI_eff c1
  obtain ⟨b1, b2, b3⟩ := zwI_eff c2
  have e4 : ∀ b, b ≠ a → I4 b = h.1 b := fun b hb => (b1 b hb).trans (a1 b hb)
  have o4 : NObj (I4, h.2) q V := o.same w (fun b z1 z2 => e4 b (by omega))
  obtain ⟨m1, m2, m3⟩ := per_mem (h := (I4, h.2)) hq w o4 h3 hP
  refine ⟨fun c3 => absurd (m1.symm.trans c3) (fun z => by cases z), fun b11 c4 g14 c5 => ?_⟩
  subst c5
  refine ⟨zlo.wRk (h := (I4, h.2)) hl (r9 3 (Or.inl rfl)), zlo.wRo (h := (I4, h.2)) (n := 18) hq (by decide) (by omega), fun g21 c6 => ?_⟩
  subst c6
  have l9' : lo9 (zwR (zwR (I4, h.2) a 3 (some q)) a 4 (some g)) a := zlo.wRk (zlo.wRk (h := (I4, h.2)) hl (r9 3 (Or.inl rfl))) (r9 4 (Or.inr rfl))
  have lq' : lo1 (zwR (zwR (I4, h.2) a 3 (some q)) a 4 (some g)) q := zlo.wRo (n := 18) (zlo.wRo (h := (I4, h.2)) (n := 18) hq (by decide) (by omega)) (by decide) (by omega)
  refine ⟨l9', lq', ⟨_, m1, per_lo lq' m3, fun I32 c7 I35 c8 I38 c9 => ?_⟩⟩
  obtain ⟨d1, d2, d3⟩ := zwI_eff c7
  obtain ⟨f1, f2, f3⟩ := zwI_eff c8
  obtain ⟨i1, i2, i3⟩ := zwI_eff c9
  generalize hh : zwR (zwR (I4, h.2) a 3 (some q)) a 4 (some g) = g21 at l9' lq' d1 d2 d3 f1 f2 f3 i1 i2 i3 ⊢
  have g1 : g21.1 = I4 := by rw [← hh]; rfl
  have gR : ∀ b k, ¬ (b = a ∧ (k = 3 ∨ k = 4)) → zR g21 b k = zR h b k := fun b k z => by
    rw [← hh, zR_w, if_neg (fun y => z ⟨y.1, Or.inr y.2⟩), zR_w, if_neg (fun y => z ⟨y.1, Or.inl y.2⟩)]; rfl
  have gK : ∀ b, zK g21 b = zK h b := fun b => by rw [← hh]; rfl
  have gN : zN g21 = zN h := by rw [← hh]; rfl
  have g3 : zR g21 a 3 = some q := by rw [← hh, zR_w, if_neg (by omega), zR_ws]
  have g4 : zR g21 a 4 = some g := by rw [← hh, zR_ws]
  have pf := per_f (h := (I4, h.2)) o4 hP
  have pf0 : (zI g21 (q + (6 + 2 * P)) 0).toInt = pF V P 0 := by
    show (g21.1 _ _).toInt = _
    rw [g1]; exact pf.1 0 (by decide)
  have pf1 : (I32 (q + (6 + 2 * P)) 1).toInt = pF V P 1 := by
    rw [d1 _ (by omega), g1]; exact pf.1 1 (by decide)
  have e38 : ∀ b, b ≠ a → I38 b = h.1 b := fun b hb => by
    rw [i1 b hb]; show I35 b = _
    rw [f1 b hb]; show I32 b = _
    rw [d1 b hb, g1]; exact e4 b hb
  have w5 : (I38 a 5).toInt = pF V P 0 := by
    rw [i2 5 (by decide)]; show (I35 a 5).toInt = _
    rw [f2 5 (by decide)]; show (I32 a 5).toInt = _
    rw [d3]; exact pf0
  have w6 : (I38 a 6).toInt = pF V P 1 := by
    rw [i2 6 (by decide)]; show (I35 a 6).toInt = _
    rw [f3]; exact pf1
  have hgw : zAw g21 g 64 := ⟨(gK g).trans hg.1, by rw [gN]; exact hg.2⟩
  have o38 : WO (I38, g21.2) a q g V T (pF V P 0) (pF V P 1) := ⟨l9', g3, g4, lq', hgw, o.same (h := h) w (fun b z1 z2 => e38 b (by omega)), fun c hc => by show (I38 g c).toInt = _; rw [e38 g (by omega)]; exact hT c hc, w5, w6⟩
  have f38 : I38 a 0 = -1 ∧ I38 a 1 = 0 ∧ I38 a 7 = x4 := by
    refine ⟨?_, ?_, i3⟩
    · rw [i2 0 (by decide)]; show I35 a 0 = _
      rw [f2 0 (by decide)]; show I32 a 0 = _
      rw [d2 0 (by decide), g1, b2 0 (by decide)]; exact a3
    · rw [i2 1 (by decide)]; show I35 a 1 = _
      rw [f2 1 (by decide)]; show I32 a 1 = _
      rw [d2 1 (by decide), g1, b3]
  refine ⟨fun c10 => ?_, fun c16 I70 c17 => ?_⟩
  · have ne : fr ≠ to := fun z => c10 (i_ext (by rw [h4, h5, z]))
    have eP : wyP V T (pF V P 0) (pF V P 1) fr to = bw (nxV V (pF V P 1)) (pnT T (pF V P 0)) to fr 40 := if_neg ne
    refine ⟨_, c_fewestPrints l G (I38, g21.2) a q g fr to x4 x5 _ rfl o38 x h4 h5 hfr hto ne, fun y50 I48 ⟨p1, p2, p3, p4⟩ => ⟨fun c12 => ?_, fun c13 I58 c14 => ?_⟩⟩
    · have nW : ¬ (bw (nxV V (pF V P 1)) (pnT T (pF V P 0)) to fr 40).1 < 1000000 := fun z => by
        have := (p3 z).1
        have := (bw_D ok z).2.1
        omega
      have o48 : WO (I48, g21.2) a q g V T (pF V P 0) (pF V P 1) := o38.cg x (fun b hb => p1 b (by omega) (by omega) (by omega)) (p2 5 (by decide)) (p2 6 (by decide))
      refine ⟨rfl, fun b hb => (p1 b (by omega) (by omega) (by omega)).trans (e38 b (by omega)), gR, gK, gN, o48, ?_, fun z => absurd (by rw [← eP]; exact z) nW, fun _ => ?_⟩
      · show (I48 a 7).toInt = _
        rw [p2 7 (by decide)]; show (I38 a 7).toInt = _
        rw [f38.2.2]; exact h4
      · show I48 a 0 = -1
        rw [p2 0 (by decide)]; exact f38.1
    · have hW : (bw (nxV V (pF V P 1)) (pnT T (pF V P 0)) to fr 40).1 < 1000000 := Decidable.byContradiction fun z => by
        have := p4 z
        omega
      obtain ⟨p5, p6, p7, p8, p9⟩ := p3 hW
      obtain ⟨q1, q2, q3, q4, q5⟩ := bw_D ok hW
      obtain ⟨k1, k2, k3⟩ := zwI_eff c14
      have o58 : WO (I58, g21.2) a q g V T (pF V P 0) (pF V P 1) := WO.cg (h := (I38, g21.2)) o38 x (fun b hb => (k1 b (by omega)).trans (p1 b (by omega) (by omega) (by omega))) (by rw [k2 5 (by decide)]; exact p2 5 (by decide)) (by rw [k2 6 (by decide)]; exact p2 6 (by decide))
      have kK : ∀ i c, Kc (I58, g21.2) a i c = Kc (I48, g21.2) a i c := fun i c => by
        show (I58 (a + 2) _).toInt = (I48 (a + 2) _).toInt
        rw [k1 (a + 2) (by omega)]
      have xcx : ∀ i, XC (I48, g21.2) a i to (bw (nxV V (pF V P 1)) (pnT T (pF V P 0)) to fr 40) V T (pF V P 0) (pF V P 1) → XC (I58, g21.2) a i to (bw (nxV V (pF V P 1)) (pnT T (pF V P 0)) to fr 40) V T (pF V P 0) (pF V P 1) := fun i xc c hc oc s hs hn => by
        rw [kK, kK]; exact xc c hc (oc.cg (kK i c).symm) s hs hn
      refine ⟨_, c_trace l G (I58, g21.2) a q g fr to x4 x5 _ o58 x h4 h5 hfr hto hW q4 q5 ?_ (p7.cg (kK _ _)) (fun i hi => (p8 i hi).cg (fun c _ => kK i c)) (fun i hi => xcx i (p9 i hi)), fun I64 ⟨t1, t2⟩ => ?_⟩
      · show (I58 a 1).toInt = _
        rw [k2 1 (by decide)]; exact p6
      · have e64 : ∀ k, k ≠ 0 → I64 a k = I48 a k := fun k hk => by
          rw [t1 a (by omega) (by omega)]; exact k2 k hk
        refine ⟨rfl, fun b hb => (t1 b (by omega) (by omega)).trans ((k1 b (by omega)).trans ((p1 b (by omega) (by omega) (by omega)).trans (e38 b (by omega)))), gR, gK, gN, WO.cg (h := (I58, g21.2)) o58 x (fun b hb => t1 b (by omega) (by omega)) (by rw [t1 a (by omega) (by omega)]) (by rw [t1 a (by omega) (by omega)]), ?_, fun _ => ⟨?_, ?_, ?_⟩, fun z => absurd hW (by rw [← eP]; exact z)⟩
        · show (I64 a 7).toInt = _
          rw [e64 7 (by decide), p2 7 (by decide)]; show (I38 a 7).toInt = _
          rw [f38.2.2]; exact h4
        · show (I64 a 0).toInt = _
          rw [t1 a (by omega) (by omega)]; show (I58 a 0).toInt = _
          rw [k3, eP]; exact p5
        · show (I64 a 1).toInt = _
          rw [e64 1 (by decide), eP]; exact p6
        · intro k hk
          rw [eP] at hk ⊢
          exact t2 k hk
  · have ef : fr = to := by
      have : x4.toInt = x5.toInt := by rw [c16]
      omega
    obtain ⟨k1, k2, k3⟩ := zwI_eff c17
    have eP : wyP V T (pF V P 0) (pF V P 1) fr to = (0, 0) := if_pos ef
    refine ⟨rfl, fun b hb => (k1 b (by omega)).trans (e38 b (by omega)), gR, gK, gN, WO.cg (h := (I38, g21.2)) o38 x (fun b hb => k1 b (by omega)) (k2 5 (by decide)) (k2 6 (by decide)), ?_, fun _ => ⟨?_, ?_, fun k hk => ?_⟩, fun z => ?_⟩
    · show (I70 a 7).toInt = _
      rw [k2 7 (by decide)]; show (I38 a 7).toInt = _
      rw [f38.2.2]; exact h4
    · show (I70 a 0).toInt = _
      rw [k3, eP]; rfl
    · show (I70 a 1).toInt = _
      rw [k2 1 (by decide)]; show (I38 a 1).toInt = _
      rw [f38.2.1, eP]; rfl
    · rw [eP] at hk; exact absurd hk (Nat.not_lt_zero k)
    · rw [eP] at z; exact absurd (show (0 : Int) < 1000000 by decide) z
end K67
