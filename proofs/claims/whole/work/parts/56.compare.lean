set_option maxRecDepth 4000
/-! ===== readings against nights ===== -/
def sgF (R : Nat → Int) (k j : Nat) : Int := R (1 + 5 * k + j)
theorem sg_w {R : Nat → Int} (w : WFR R) {k : Nat} (hk : (k : Int) < R 0) : (0 ≤ sgF R k 0 ∧ sgF R k 0 ≤ 63) ∧ (0 ≤ sgF R k 1 ∧ sgF R k 1 ≤ 6) ∧ (0 ≤ sgF R k 2 ∧ sgF R k 2 ≤ 1) ∧ (0 ≤ sgF R k 3 ∧ sgF R k 3 ≤ 3) ∧ (1 ≤ sgF R k 4 ∧ sgF R k 4 ≤ 99) := by
  have := w.2 k hk
  unfold sgF
  rw [show 1 + 5 * k + 0 = 1 + 5 * k by omega, show 1 + 5 * k + 1 = 2 + 5 * k by omega, show 1 + 5 * k + 2 = 3 + 5 * k by omega, show 1 + 5 * k + 3 = 4 + 5 * k by omega, show 1 + 5 * k + 4 = 5 + 5 * k by omega]
  exact this
theorem sg_c {h : zH} {q : Nat} {R : Nat → Int} (hq : lo3 h q) (w : WFR R) (o : RObj h q R) {x : Int32} {k : Nat} (hx : x.toInt = (k : Int)) (hk : (k : Int) < R 0) : (zget h (some (q + 1)) x).toInt = sgF R k 0 ∧ (zget h (some (q + 2)) x).toInt = sgF R k 1 ∧ (zget h (some (q + 3)) x).toInt = sgF R k 2 ∧ (zget h (some (q + 4)) x).toInt = sgF R k 3 ∧ (zget h (some (q + 5)) x).toInt = sgF R k 4 := by
  have w0 := w.1
  have k10 : k < 10 := by omega
  have := o.2 k hk
  unfold sgF
  rw [show 1 + 5 * k + 0 = 1 + 5 * k by omega, show 1 + 5 * k + 1 = 2 + 5 * k by omega, show 1 + 5 * k + 2 = 3 + 5 * k by omega, show 1 + 5 * k + 3 = 4 + 5 * k by omega, show 1 + 5 * k + 4 = 5 + 5 * k by omega]
  rw [zget_w (hq.w 1 rfl) hx k10, zget_w (hq.w 2 rfl) hx k10, zget_w (hq.w 3 rfl) hx k10, zget_w (hq.w 4 rfl) hx k10, zget_w (hq.w 5 rfl) hx k10]
  exact this
/-- how deep one presses with someone's weight on him -/
def dpu (V : Nat → Int) (p : Nat) (W F : Int) : Int := if pF V p 3 = F + 1 then (if W < 4 then 1 else W / 2) else W
def brd (V : Nat → Int) (p q : Nat) : Int := if q = p then 0 else pF V q 2
def prS (V R : Nat → Int) (k p : Nat) : Nat → Bool
  | 0 => false
  | q + 1 => prS V R k p q || decide (dpu V p (pF V p 2 + brd V p q + V 2) (sgF R k 2) = sgF R k 4)
theorem prS_mono {V R : Nat → Int} {k p n : Nat} (h : prS V R k p n = true) : ∀ d, prS V R k p (n + d) = true
  | 0 => h
  | d + 1 => by
    show (prS V R k p (n + d) || _) = true
    rw [prS_mono h d]; rfl
def mkB (V R : Nat → Int) (k p : Nat) : Bool := decide (sgF R k 1 = 6 ∨ sgF R k 1 = pF V p 0) && prS V R k p (V 3).toNat
def mkF (V R : Nat → Int) (k : Nat) : Int32 := orP (fun p => if mkB V R k p = true then bit1 p else 0) (V 3).toNat
theorem mkF_63 {V R : Nat → Int} (w : WFN V) {k : Nat} : 0 ≤ (mkF V R k).toInt ∧ (mkF V R k).toInt < 64 := by
  have w3 := w.2.2.2.1
  refine orP_63 _ (fun p hp => ?_)
  split
  · exact bit_rng p (by omega)
  · exact ⟨Int.le_refl _, by decide⟩
def flA (V R : Nat → Int) (a b : Nat) (both : Int32) : Nat → Bool
  | 0 => false
  | p + 1 => flA V R a b both p || (decide (((both >>> (Int32.ofNat p &&& 31)) &&& 1) = 1) && decide (bes V (sgF R a 0) (sgF R b 3) (pF V p 1) = sgF R b 0))
theorem flA_mono {V R : Nat → Int} {a b n : Nat} {both : Int32} (h : flA V R a b both n = true) : ∀ d, flA V R a b both (n + d) = true
  | 0 => h
  | d + 1 => by
    show (flA V R a b both (n + d) || _) = true
    rw [flA_mono h d]; rfl
def flw (V R : Nat → Int) (a b : Nat) : Bool := decide (sgF R a 1 = sgF R b 1 ∧ sgF R a 2 ≠ sgF R b 2) && flA V R a b (mkF V R a &&& mkF V R b) (V 3).toNat
def flF (V R : Nat → Int) (a : Nat) : Int32 := orP (fun b => if flw V R a b = true then bit1 b else 0) (R 0).toNat
theorem c_pressesSo (l : Launch) (G : zG) (h : zH) (q rq : Nat) (V R : Nat → Int) (k p : Nat) (x2 x3 : Int32) (hq : lo1 h q) (w : WFN V) (o : NObj h q V) (hr : lo3 h rq) (wr : WFR R) (or' : RObj h rq R) (hk : x2.toInt = (k : Int)) (hkR : (k : Int) < R 0) (hp : x3.toInt = (p : Int)) (hP : (p : Int) < V 3) :
    CTz l G YX4_pressesSo 3 [va_rf (some q), va_rf (some rq), .int x2, .int x3] h (fun y I => y = prS V R k p (V 3).toNat ∧ I = h.1) := by
  have w3 := w.2.2.2.1
  have w2 := w.2.2.1
  have e3 : (zI h q 3).toInt = V 3 := o.1 3 (by decide)
  have e2 : (zI h q 2).toInt = V 2 := o.1 2 (by decide)
  obtain ⟨m1, m2, m3⟩ := per_mem hq w o hp hP
  have pf := (per_f o hP).1
  have pw := per_w w hP
  have f2 := pf 2 (by decide)
  have f3 := pf 3 (by decide)
  obtain ⟨s0, s1, s2, s3, s4⟩ := sg_c hr wr or' hk hkR
  have sw := sg_w wr hkR
  have loop : ∀ (f i : Nat) (x5 : Int32) (u6 u7 u8 : Value), (i : Int) ≤ V 3 → V 3 - i < (f : Int) → x5.toInt = (i : Int) → prS V R k p i = false →
      Z l G mX4_pressesSo 3 (fun w h1 => ∃ x I1, w = some (.int (zb x)) ∧ h1 = (I1, h.2) ∧ (x = prS V R k p (V 3).toNat ∧ I1 = h.1)) 0 0 10 [va_rf (some q), va_rf (some rq), .int x2, .int x3, va_rf (some (q + (6 + 2 * p))), .int x5, u6, u7, u8] [] h := by
    intro f
    induction f with
    | zero => intro i x5 u6 u7 u8 h1 h2; omega
    | succ f ih =>
      intro i x5 u6 u7 u8 h1 h2 hx hf
      refine sX4_pressesSo_10 q rq x2 x3 (some (q + (6 + 2 * p))) x5 u6 u7 u8 hq hr (Nat.le_refl _) ⟨fun c1 => ⟨false, h.1, rfl, rfl, ?_, rfl⟩, fun c2 => ⟨fun c3 => absurd c3 (fun z => by cases z), fun b6 c4 => ?_⟩⟩
      · rw [show (V 3).toNat = i by omega, hf]
      · have hi : (i : Int) < V 3 := by omega
        have eb6 : b6 = q + (6 + 2 * p) := (Option.some.inj c4).symm
        subst eb6
        obtain ⟨n1, n2, n3⟩ := per_mem hq w o hx hi
        have pi := per_w w hi
        have g2 := (per_f o hi).1 2 (by decide)
        have st : prS V R k p (i + 1) = (prS V R k p i || decide (dpu V p (pF V p 2 + brd V p i + V 2) (sgF R k 2) = sgF R k 4)) := rfl
        have dep : ∀ (bv : Int32), bv.toInt = brd V p i → (zdep (zI h (q + (6 + 2 * p)) 3) (((zI h (q + (6 + 2 * p)) 2) + bv) + (zI h q 2)) (zget h (some (rq + 3)) x2)).toInt = dpu V p (pF V p 2 + brd V p i + V 2) (sgF R k 2) := fun bv eb => by
          have br : 0 ≤ brd V p i ∧ brd V p i ≤ 9 := by unfold brd; split <;> omega
          have a1 : ((zI h (q + (6 + 2 * p)) 2) + bv).toInt = pF V p 2 + brd V p i := by rw [i_add (by omega) (by omega), f2, eb]
          have a2 : (((zI h (q + (6 + 2 * p)) 2) + bv) + (zI h q 2)).toInt = pF V p 2 + brd V p i + V 2 := by rw [i_add (by omega) (by omega), a1, e2]
          exact zdep_t f3 a2 s2 (by omega) (by omega)
        have no : ∀ (bv : Int32), bv.toInt = brd V p i → ¬ zdep (zI h (q + (6 + 2 * p)) 3) (((zI h (q + (6 + 2 * p)) 2) + bv) + (zI h q 2)) (zget h (some (rq + 3)) x2) = zget h (some (rq + 5)) x2 → prS V R k p (i + 1) = false := fun bv eb c => by
          rw [st, hf, decide_eq_false (fun e => c (i_ext (by rw [dep bv eb, s4, e])))]; rfl
        have yes : ∀ (bv : Int32), bv.toInt = brd V p i → zdep (zI h (q + (6 + 2 * p)) 3) (((zI h (q + (6 + 2 * p)) 2) + bv) + (zI h q 2)) (zget h (some (rq + 3)) x2) = zget h (some (rq + 5)) x2 → true = prS V R k p (V 3).toNat := fun bv eb c => by
          have e1 : prS V R k p (i + 1) = true := by
            rw [st, decide_eq_true (by rw [← dep bv eb, c, s4]), Bool.or_true]
          have := prS_mono e1 ((V 3).toNat - (i + 1))
          rw [show i + 1 + ((V 3).toNat - (i + 1)) = (V 3).toNat by omega] at this
          exact this.symm
        refine ⟨fun c5 => absurd (n1.symm.trans c5) (fun z => by cases z), fun b13 c8 => ?_⟩
        have eb13 : b13 = q + (6 + 2 * i) := (Option.some.inj (n1.symm.trans c8)).symm
        subst eb13
        refine ⟨fun c9 => ?_, fun c12 => ?_⟩
        · have ne : i ≠ p := fun e => c9 (i_ext (by omega))
          have eb : (zI h (q + (6 + 2 * i)) 2).toInt = brd V p i := by unfold brd; rw [if_neg ne]; exact g2
          exact ⟨n2, m2, fun c10 => ih (i + 1) _ _ _ _ (by omega) (by omega) (i_1 hx (by omega)) (no _ eb c10), fun c11 => ⟨true, h.1, rfl, rfl, yes _ eb c11, rfl⟩⟩
        · have ee : i = p := by have := congrArg Int32.toInt c12; omega
          have eb : (0 : Int32).toInt = brd V p i := by unfold brd; rw [if_pos ee]; rfl
          exact ⟨m2, fun c13 => ih (i + 1) _ _ _ _ (by omega) (by omega) (i_1 hx (by omega)) (no _ eb c13), fun c14 => ⟨true, h.1, rfl, rfl, yes _ eb c14, rfl⟩⟩
  refine kX4_pressesSo q rq x2 x3 (sX4_pressesSo_0 q rq x2 x3 hq hr (Nat.le_refl _) ?_)
  rw [m1]
  exact loop 7 0 0 zU zU zU (by omega) (by omega) rfl rfl
theorem c_makersOf (l : Launch) (G : zG) (h : zH) (q rq : Nat) (V R : Nat → Int) (k : Nat) (x2 : Int32) (hq : lo1 h q) (w : WFN V) (o : NObj h q V) (hr : lo3 h rq) (wr : WFR R) (or' : RObj h rq R) (hk : x2.toInt = (k : Int)) (hkR : (k : Int) < R 0) :
    CTi l G YX4_makersOf 4 [va_rf (some q), va_rf (some rq), .int x2] h (fun y I => y = mkF V R k ∧ I = h.1) := by
  have w3 := w.2.2.2.1
  have e3 : (zI h q 3).toInt = V 3 := o.1 3 (by decide)
  obtain ⟨s0, s1, s2, s3, s4⟩ := sg_c hr wr or' hk hkR
  have loop : ∀ (f i : Nat) (x3 x5 : Int32) (u6 : Value), (i : Int) ≤ V 3 → V 3 - i < (f : Int) → x5.toInt = (i : Int) → x3 = orP (fun p => if mkB V R k p = true then bit1 p else 0) i →
      Z l G mX4_makersOf 4 (fun w h1 => ∃ x I1, w = some (.int x) ∧ h1 = (I1, h.2) ∧ (x = mkF V R k ∧ I1 = h.1)) 0 0 15 [va_rf (some q), va_rf (some rq), .int x2, .int x3, .int (zget h (some (rq + 2)) x2), .int x5, u6] [] h := by
    intro f
    induction f with
    | zero => intro i x3 x5 u6 h1 h2; omega
    | succ f ih =>
      intro i x3 x5 u6 h1 h2 hx hs
      refine sX4_makersOf_15 q rq x2 x3 (zget h (some (rq + 2)) x2) x5 u6 hq hr (Nat.le_refl _) ⟨fun c1 => ⟨_, h.1, rfl, rfl, ?_, rfl⟩, fun c2 => ?_⟩
      · rw [hs]; unfold mkF; rw [show (V 3).toNat = i by omega]
      · have hi : (i : Int) < V 3 := by omega
        obtain ⟨n1, n2, n3⟩ := per_mem hq w o hx hi
        have g0 := (per_f o hi).1 0 (by decide)
        refine ⟨fun c3 => absurd (n1.symm.trans c3) (fun z => by cases z), fun b9 c4 => ?_⟩
        have eb9 : b9 = q + (6 + 2 * i) := (Option.some.inj (n1.symm.trans c4)).symm
        subst eb9
        have pr := c_pressesSo l G h q rq V R k i x2 x5 hq w o hr wr or' hk hkR hx hi
        have stepS' : (sgF R k 1 = 6 ∨ sgF R k 1 = pF V i 0) → ∀ (u : Value), ∃ P16, CTz l G YX4_pressesSo 3 [va_rf (some q), va_rf (some rq), .int x2, .int x5] h P16 ∧ ∀ (y21 : Bool) (I19 : Nat → Nat → Int32), P16 y21 I19 → ((y21 = false → Z l G mX4_makersOf 4 (fun w h1 => ∃ x I1, w = some (.int x) ∧ h1 = (I1, h.2) ∧ (x = mkF V R k ∧ I1 = h.1)) 0 0 15 [va_rf (some q), va_rf (some rq), .int x2, .int x3, .int (zget h (some (rq + 2)) x2), .int (x5 + 1), u] [] (I19, h.2)) ∧ (y21 = true → Z l G mX4_makersOf 4 (fun w h1 => ∃ x I1, w = some (.int x) ∧ h1 = (I1, h.2) ∧ (x = mkF V R k ∧ I1 = h.1)) 0 0 15 [va_rf (some q), va_rf (some rq), .int x2, .int (x3 ||| ((1 : Int32) <<< (x5 &&& 31))), .int (zget h (some (rq + 2)) x2), .int (x5 + 1), u] [] (I19, h.2))) := by
          intro hc u
          refine ⟨_, pr, fun y I ⟨z1, z2⟩ => ?_⟩
          have eI : I = h.1 := z2
          subst eI
          have eB : mkB V R k i = y := by unfold mkB; rw [decide_eq_true hc, Bool.true_and]; exact z1.symm
          refine ⟨fun c => ih (i + 1) _ _ _ (by omega) (by omega) (i_1 hx (by omega)) (orP_0 hs (if_neg (by rw [eB, c]; exact Bool.false_ne_true))), fun c => ih (i + 1) _ _ _ (by omega) (by omega) (i_1 hx (by omega)) ?_⟩
          rw [bit1_of hx]
          exact orP_s hs (if_pos (by rw [eB, c]))
        refine ⟨fun c5 => stepS' (Or.inl ?_) _, fun c9 => ⟨n2, fun c10 => ih (i + 1) _ _ _ (by omega) (by omega) (i_1 hx (by omega)) (orP_0 hs (if_neg (fun z => ?_))), fun c11 => stepS' (Or.inr ?_) _⟩⟩
        · rw [← s1, c5]; rfl
        · unfold mkB at z
          rw [Bool.and_eq_true] at z
          exact (of_decide_eq_true z.1).elim (fun e => c9 (i_ext (s1.trans e))) (fun e => c10 (i_ext (by rw [s1, e, g0])))
        · rw [← s1, c11, g0]
  exact kX4_makersOf q rq x2 (sX4_makersOf_0 q rq x2 hq hr (Nat.le_refl _) (loop 7 0 0 0 zU (by omega) (by omega) rfl rfl))
theorem c_mayFollow (l : Launch) (G : zG) (h : zH) (ra q rq : Nat) (V R : Nat → Int) (a b : Nat) (x3 x4 : Int32) (hra : lo4 h ra) (hq : lo1 h q) (w : WFN V) (o : NObj h q V) (hr : lo3 h rq) (wr : WFR R) (or' : RObj h rq R) (ha : x3.toInt = (a : Int)) (haR : (a : Int) < R 0) (hb : x4.toInt = (b : Int)) (hbR : (b : Int) < R 0) (mk : ∀ k : Nat, (k : Int) < R 0 → zI h (ra + 1) k = mkF V R k) :
    CTz l G YX4_mayFollow 3 [va_rf (some ra), va_rf (some q), va_rf (some rq), .int x3, .int x4] h (fun y I => y = flw V R a b ∧ I = h.1) := by
  have w3 := w.2.2.2.1
  have wr0 := wr.1
  have e3 : (zI h q 3).toInt = V 3 := o.1 3 (by decide)
  have e0 : (zI h q 0).toInt = V 0 := o.1 0 (by decide)
  have e1 : (zI h q 1).toInt = V 1 := o.1 1 (by decide)
  obtain ⟨s0, s1, s2, s3, s4⟩ := sg_c hr wr or' ha haR
  obtain ⟨t0, t1, t2, t3, t4⟩ := sg_c hr wr or' hb hbR
  have sa := sg_w wr haR
  have sb := sg_w wr hbR
  have ma : zget h (some (ra + 1)) x3 = mkF V R a := by rw [zget_w (hra.w 1 rfl) ha (by omega)]; exact mk a haR
  have mb : zget h (some (ra + 1)) x4 = mkF V R b := by rw [zget_w (hra.w 1 rfl) hb (by omega)]; exact mk b hbR
  have loop : (sgF R a 1 = sgF R b 1 ∧ sgF R a 2 ≠ sgF R b 2) → ∀ (f i : Nat) (x7 : Int32) (u5 u8 u9 : Value), (i : Int) ≤ V 3 → V 3 - i < (f : Int) → x7.toInt = (i : Int) → flA V R a b (mkF V R a &&& mkF V R b) i = false →
      Z l G mX4_mayFollow 3 (fun w h1 => ∃ x I1, w = some (.int (zb x)) ∧ h1 = (I1, h.2) ∧ (x = flw V R a b ∧ I1 = h.1)) 0 0 77 [va_rf (some ra), va_rf (some q), va_rf (some rq), .int x3, .int x4, u5, .int (mkF V R a &&& mkF V R b), .int x7, u8, u9] [] h := by
    intro hc f
    have fw : flw V R a b = flA V R a b (mkF V R a &&& mkF V R b) (V 3).toNat := by unfold flw; rw [decide_eq_true hc, Bool.true_and]
    induction f with
    | zero => intro i x7 u5 u8 u9 h1 h2; omega
    | succ f ih =>
      intro i x7 u5 u8 u9 h1 h2 hx hf
      refine sX4_mayFollow_77 ra q rq x3 x4 u5 _ x7 u8 u9 hra hq hr (Nat.le_refl _) ⟨fun c1 => ⟨false, h.1, rfl, rfl, ?_, rfl⟩, fun c2 => ?_⟩
      · rw [fw, show (V 3).toNat = i by omega, hf]
      · have hi : (i : Int) < V 3 := by omega
        obtain ⟨n1, n2, n3⟩ := per_mem hq w o hx hi
        have g1 := (per_f o hi).1 1 (by decide)
        have pw := (per_w w hi).2.1
        have st : flA V R a b (mkF V R a &&& mkF V R b) (i + 1) = (flA V R a b (mkF V R a &&& mkF V R b) i || (decide ((((mkF V R a &&& mkF V R b) >>> (Int32.ofNat i &&& 31)) &&& 1) = 1) && decide (bes V (sgF R a 0) (sgF R b 3) (pF V i 1) = sgF R b 0))) := rfl
        refine ⟨fun c3 => absurd (n1.symm.trans c3) (fun z => by cases z), fun b9 c4 => ?_⟩
        have eb9 : b9 = q + (6 + 2 * i) := (Option.some.inj (n1.symm.trans c4)).symm
        subst eb9
        have eb : (zbes (zI h q 0) (zI h q 1) (zget h (some (rq + 1)) x3) (zget h (some (rq + 4)) x4) (zI h (q + (6 + 2 * i)) 1)).toInt = bes V (sgF R a 0) (sgF R b 3) (pF V i 1) := by
          rw [zbes_eq e0 e1 w.1 w.2.1 (by rw [t3]; omega) (by rw [g1]; omega), s0, t3, g1]
        rw [n_ofn hx]
        have nx : ∀ v, (flA V R a b (mkF V R a &&& mkF V R b) (i + 1) = false) → Z l G mX4_mayFollow 3 (fun w h1 => ∃ x I1, w = some (.int (zb x)) ∧ h1 = (I1, h.2) ∧ (x = flw V R a b ∧ I1 = h.1)) 0 0 77 [va_rf (some ra), va_rf (some q), va_rf (some rq), .int x3, .int x4, u5, .int (mkF V R a &&& mkF V R b), .int (Int32.ofNat i + 1), va_rf (zmem h q (Int32.ofNat i)), v] [] h := fun v q' => ih (i + 1) _ _ _ _ (by omega) (by omega) (by rw [← n_ofn hx]; exact i_1 hx (by omega)) q'
        refine ⟨fun c5 => nx _ (by rw [st, hf, decide_eq_false c5]; rfl), fun c6 => ⟨n2, fun c7 => nx _ ?_, fun c8 => ⟨fun c9 => nx _ ?_, fun c10 => ⟨true, h.1, rfl, rfl, ?_, rfl⟩⟩⟩⟩
        · have := n_m1.mp c7
          rw [st, hf, decide_eq_false (p := bes V (sgF R a 0) (sgF R b 3) (pF V i 1) = sgF R b 0) (fun e => by rw [eb, e] at this; omega), Bool.and_false]; rfl
        · rw [st, hf, decide_eq_false (p := bes V (sgF R a 0) (sgF R b 3) (pF V i 1) = sgF R b 0) (fun e => c9 (i_ext (by rw [eb, e, t0]))), Bool.and_false]; rfl
        · have e1 : flA V R a b (mkF V R a &&& mkF V R b) (i + 1) = true := by
            rw [st, decide_eq_true c6, decide_eq_true (show bes V (sgF R a 0) (sgF R b 3) (pF V i 1) = sgF R b 0 by rw [← eb, c10, t0])]
            exact Bool.or_true _
          have := flA_mono e1 ((V 3).toNat - (i + 1))
          rw [show i + 1 + ((V 3).toNat - (i + 1)) = (V 3).toNat by omega] at this
          rw [fw]; exact this.symm
  have no : ¬ (sgF R a 1 = sgF R b 1 ∧ sgF R a 2 ≠ sgF R b 2) → flw V R a b = false := fun c => by unfold flw; rw [decide_eq_false c]; rfl
  refine kX4_mayFollow ra q rq x3 x4 (sX4_mayFollow_0 ra q rq x3 x4 hra hq hr (Nat.le_refl _) ⟨fun c1 => ⟨false, h.1, rfl, rfl, (no (fun z => c1 (i_ext (by rw [s1, t1, z.1])))).symm, rfl⟩, fun c2 => ⟨fun c3 => ?_, fun c4 => ⟨false, h.1, rfl, rfl, (no (fun z => z.2 (by rw [← s2, ← t2, c4]))).symm, rfl⟩⟩⟩)
  rw [ma, mb]
  exact loop ⟨by rw [← s1, ← t1, c2], fun e => c3 (i_ext (by rw [s2, t2, e]))⟩ 7 0 0 _ _ _ (by omega) (by omega) rfl rfl
/-- what the rows' object holds once a night and a reading are compared -/
def RowC (V R : Nat → Int) (z0 z1 z2 : Nat → Int32) : Prop := (z0 0).toInt = R 0 ∧ (∀ k : Nat, (k : Int) < R 0 → z1 k = mkF V R k) ∧ ∀ k : Nat, (k : Int) < R 0 → z2 k = flF V R k
theorem c_compareX4 (l : Launch) (G : zG) (h : zH) (ra q rq : Nat) (V R : Nat → Int) (hra : lo4 h ra) (hq : lo1 h q) (w : WFN V) (o : NObj h q V) (hr : lo3 h rq) (wr : WFR R) (or' : RObj h rq R) (d1 : q + 18 ≤ ra ∨ ra + 7 ≤ q) (d2 : rq + 6 ≤ ra ∨ ra + 7 ≤ rq) :
    CTv l G YX4_compare 5 [va_rf (some ra), va_rf (some q), va_rf (some rq)] h (fun I => (∀ b, b ≠ ra → b ≠ ra + 1 → b ≠ ra + 2 → I b = h.1 b) ∧ RowC V R (I ra) (I (ra + 1)) (I (ra + 2)) ∧ I ra 3 = -1) := by
  have wr0 := wr.1
  have er0 : (zI h rq 0).toInt = R 0 := or'.1
  have oI : ∀ {I : Nat → Nat → Int32}, (∀ b, b ≠ ra → b ≠ ra + 1 → b ≠ ra + 2 → I b = h.1 b) → NObj (I, h.2) q V ∧ RObj (I, h.2) rq R := fun e => ⟨o.same w (fun b z1 z2 => e b (by omega) (by omega) (by omega)), by
    obtain ⟨o1, o2⟩ := or'
    have z : ∀ b, rq ≤ b → b < rq + 6 → ∀ j, zI (_, h.2) b j = zI h b j := fun b h1 h2 j => congrFun (e b (by omega) (by omega) (by omega)) j
    exact ⟨by rw [z _ (by omega) (by omega)]; exact o1, fun k hk => by rw [z _ (by omega) (by omega), z _ (by omega) (by omega), z _ (by omega) (by omega), z _ (by omega) (by omega), z _ (by omega) (by omega)]; exact o2 k hk⟩⟩
  have loop2 : ∀ (f i : Nat) (x3 : Int32) (u4 u5 : Value) (I : Nat → Nat → Int32), (i : Int) ≤ R 0 → R 0 - i < (f : Int) → x3.toInt = (i : Int) → (∀ b, b ≠ ra → b ≠ ra + 1 → b ≠ ra + 2 → I b = h.1 b) → (I ra 0).toInt = R 0 → I ra 3 = -1 → (∀ k : Nat, (k : Int) < R 0 → I (ra + 1) k = mkF V R k) → (∀ k, k < i → I (ra + 2) k = flF V R k) →
      Z l G mX4_compare 5 (fun w h1 => ∃ J, w = none ∧ h1 = (J, h.2) ∧ ((∀ b, b ≠ ra → b ≠ ra + 1 → b ≠ ra + 2 → J b = h.1 b) ∧ RowC V R (J ra) (J (ra + 1)) (J (ra + 2)) ∧ J ra 3 = -1)) 0 0 45 [va_rf (some ra), va_rf (some q), va_rf (some rq), .int x3, u4, u5] [] (I, h.2) := by
    intro f
    induction f with
    | zero => intro i x3 u4 u5 I h1 h2; omega
    | succ f ih =>
      intro i x3 u4 u5 I h1 h2 hx s1 s2 s3 s4 s5
      have eR : (zI (I, h.2) ra 0).toInt = R 0 := s2
      have inner : ∀ (f2 j : Nat) (x4 x5 : Int32), (i : Int) < R 0 → (j : Int) ≤ R 0 → R 0 - j < (f2 : Int) → x5.toInt = (j : Int) → x4 = orP (fun b => if flw V R i b = true then bit1 b else 0) j →
          Z l G mX4_compare 5 (fun w h1 => ∃ J, w = none ∧ h1 = (J, h.2) ∧ ((∀ b, b ≠ ra → b ≠ ra + 1 → b ≠ ra + 2 → J b = h.1 b) ∧ RowC V R (J ra) (J (ra + 1)) (J (ra + 2)) ∧ J ra 3 = -1)) 0 0 59 [va_rf (some ra), va_rf (some q), va_rf (some rq), .int x3, .int x4, .int x5] [] (I, h.2) := by
        intro f2
        induction f2 with
        | zero => intro j x4 x5 hin h3 h4; omega
        | succ f2 ih2 =>
          intro j x4 x5 hin h3 h4 hj hs
          refine sX4_compare_59 ra q rq x3 x4 x5 hra hq hr (Nat.le_refl _) ⟨fun c1 I8 c2 => ?_, fun c3 => ⟨_, c_mayFollow l G (I, h.2) ra q rq V R i j x3 x5 hra hq w (oI s1).1 hr wr (oI s1).2 hx hin hj (by omega) s4, fun y16 I14 ⟨z1, z2⟩ => ?_⟩⟩
          · rw [eR] at c1
            obtain ⟨a1, a2, a3⟩ := zput_eff (h := (I, h.2)) (hra.w 2 rfl : zAw h (ra + 2) 10) hx (by omega) c2
            refine ih (i + 1) _ _ _ I8 (by omega) (by omega) (i_1 hx (by omega)) (fun b h1 h2 h3 => (a1 b h3).trans (s1 b h1 h2 h3)) (by rw [a1 ra (by omega)]; exact s2) (by rw [a1 ra (by omega)]; exact s3) (fun k hk => by rw [a1 (ra + 1) (by omega)]; exact s4 k hk) (fun k hk => ?_)
            by_cases e : k = i
            · rw [e, a3, hs]
              unfold flF
              rw [show (R 0).toNat = j by omega]
            · rw [a2 k e]; exact s5 k (by omega)
          · have eI : I14 = I := z2
            subst eI
            refine ⟨fun c5 => ih2 (j + 1) _ _ hin (by omega) (by omega) (i_1 hj (by omega)) (orP_0 hs (if_neg (by rw [← z1, c5]; exact Bool.false_ne_true))), fun c6 => ih2 (j + 1) _ _ hin (by omega) (by omega) (i_1 hj (by omega)) ?_⟩
            rw [bit1_of hj]
            exact orP_s hs (if_pos (by rw [← z1, c6]))
      refine sX4_compare_45 ra q rq x3 u4 u5 hra hq hr (Nat.le_refl _) ⟨fun c1 => ⟨I, rfl, rfl, s1, ⟨s2, s4, fun k hk => s5 k (by omega)⟩, s3⟩, fun c2 => inner 11 0 0 0 (by omega) (by omega) (by omega) rfl rfl⟩
  have loop1 : ∀ (f i : Nat) (x3 : Int32) (u4 u5 : Value) (I : Nat → Nat → Int32), (i : Int) ≤ R 0 → R 0 - i < (f : Int) → x3.toInt = (i : Int) → (∀ b, b ≠ ra → b ≠ ra + 1 → b ≠ ra + 2 → I b = h.1 b) → (I ra 0).toInt = R 0 → I ra 3 = -1 → (∀ k, k < i → I (ra + 1) k = mkF V R k) →
      Z l G mX4_compare 5 (fun w h1 => ∃ J, w = none ∧ h1 = (J, h.2) ∧ ((∀ b, b ≠ ra → b ≠ ra + 1 → b ≠ ra + 2 → J b = h.1 b) ∧ RowC V R (J ra) (J (ra + 1)) (J (ra + 2)) ∧ J ra 3 = -1)) 0 0 15 [va_rf (some ra), va_rf (some q), va_rf (some rq), .int x3, u4, u5] [] (I, h.2) := by
    intro f
    induction f with
    | zero => intro i x3 u4 u5 I h1 h2; omega
    | succ f ih =>
      intro i x3 u4 u5 I h1 h2 hx s1 s2 s3 s4
      have eR : (zI (I, h.2) ra 0).toInt = R 0 := s2
      refine sX4_compare_15 ra q rq x3 u4 u5 hra hq hr (Nat.le_refl _) ⟨fun c1 => ?_, fun c2 => ⟨_, c_makersOf l G (I, h.2) q rq V R i x3 hq w (oI s1).1 hr wr (oI s1).2 hx (by omega), fun y10 I8 ⟨z1, z2⟩ I17 c4 => ?_⟩⟩
      · exact loop2 11 0 0 _ _ I (by omega) (by omega) rfl s1 s2 s3 (fun k hk => s4 k (by omega)) (fun k hk => absurd hk (Nat.not_lt_zero k))
      · have eI : I8 = I := z2
        subst eI
        obtain ⟨a1, a2, a3⟩ := zput_eff (h := (I8, h.2)) (hra.w 1 rfl : zAw h (ra + 1) 10) hx (by omega) c4
        refine ih (i + 1) _ _ _ I17 (by omega) (by omega) (i_1 hx (by omega)) (fun b h1 h2 h3 => (a1 b h2).trans (s1 b h1 h2 h3)) (by rw [a1 ra (by omega)]; exact s2) (by rw [a1 ra (by omega)]; exact s3) (fun k hk => ?_)
        by_cases e : k = i
        · rw [e, a3]; exact z1
        · rw [a2 k e]; exact s4 k (by omega)
  refine kX4_compare ra q rq (sX4_compare_0 ra q rq hra hq hr (Nat.le_refl _) (fun I1 c1 I4 c2 => ?_))
  obtain ⟨a1, a2, a3⟩ := zwI_eff c1
  obtain ⟨e1, e2, e3⟩ := zwI_eff c2
  exact loop1 11 0 0 zU zU I4 (by omega) (by omega) rfl (fun b h1 h2 h3 => (e1 b h1).trans (a1 b h1)) (by rw [e2 0 (by decide)]; show (I1 ra 0).toInt = _; rw [a3]; exact er0) e3 (fun k hk => absurd hk (Nat.not_lt_zero k))
