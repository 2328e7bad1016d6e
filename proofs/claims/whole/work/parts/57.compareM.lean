set_option maxRecDepth 4000
theorem zhalf_t {x : Int32} {v : Int} (hx : x.toInt = v) (b : 1 ≤ v ∧ v ≤ 1000) : (zhalf x).toInt = if v < 4 then 1 else v / 2 := by
  unfold zhalf
  rw [hx]
  split
  · rfl
  · rw [n_div (by omega) (by decide), hx]; rfl
theorem c_isDepth (l : Launch) (G : zG) (h : zH) (n : Nat) (V R : Nat → Int) (k p : Nat) (x1 x2 x3 : Int32) (hl : lo11 h 313) (w : WFN V) (m : MN h n V) (hp : x1.toInt = (p : Int)) (hP : (p : Int) < V 3) (hf : x2.toInt = sgF R k 2) (bf : 0 ≤ sgF R k 2 ∧ sgF R k 2 ≤ 1) (hd : x3.toInt = sgF R k 4) :
    CTz l G YX11_isDepth 3 [va_rf (some 313), .int x1, .int x2, .int x3] h (fun y I => y = prS V R k p (V 3).toNat ∧ I = h.1) := by
  have w3 := w.2.2.2.1
  have w2 := w.2.2.1
  have h6 : p < 6 := by omega
  have pw := per_w w hP
  obtain ⟨k3, v3⟩ := m.of (w := 3) (W := 3) rfl (by decide)
  obtain ⟨kw, vw⟩ := m.of (w := 2) (W := 2) rfl (by decide)
  obtain ⟨t2, f2⟩ := m.f (w := 2) (f := 2) hp h6 rfl (by decide)
  obtain ⟨t3, f3⟩ := m.f (w := 3) (f := 3) hp h6 rfl (by decide)
  have ef : (x2 + 1).toInt = sgF R k 2 + 1 := by
    rw [i_add (by show _ ≤ _ + (1 : Int); omega) (by show _ + (1 : Int) < _; omega), hf]; rfl
  have loop : ∀ (f i : Nat) (x4 : Bool) (x5 : Int32) (u6 : Value), (i : Int) ≤ V 3 → V 3 - i < (f : Int) → x5.toInt = (i : Int) → x4 = prS V R k p i →
      Z l G mX11_isDepth 3 (fun w h1 => ∃ x I1, w = some (.int (zb x)) ∧ h1 = (I1, h.2) ∧ (x = prS V R k p (V 3).toNat ∧ I1 = h.1)) 0 0 6 [va_rf (some 313), .int x1, .int x2, .int x3, .int (zb x4), .int x5, u6] [] h := by
    intro f
    induction f with
    | zero => intro i x4 x5 u6 h1 h2; omega
    | succ f ih =>
      intro i x4 x5 u6 h1 h2 hx hs
      refine sX11_isDepth_6 313 x1 x2 x3 x4 x5 u6 hl (Nat.le_refl _) ⟨k3, fun c1 => ⟨x4, h.1, rfl, rfl, ?_, rfl⟩, fun c2 => ?_⟩
      · rw [hs, show (V 3).toNat = i by omega]
      · have hi : (i : Int) < V 3 := by omega
        obtain ⟨ti, fi⟩ := m.f (w := 2) (f := 2) hx (by omega) rfl (by decide)
        have pi := per_w w hi
        have st : prS V R k p (i + 1) = (prS V R k p i || decide (dpu V p (pF V p 2 + brd V p i + V 2) (sgF R k 2) = sgF R k 4)) := rfl
        have a1 : ((ztold h 313 x1 (2 : Int32)) + (zof h 313 (2 : Int32))).toInt = pF V p 2 + V 2 := by rw [i_add (by omega) (by omega), f2, vw]
        have sm : ∀ bv : Int32, bv.toInt = brd V p i → (((ztold h 313 x1 (2 : Int32)) + (zof h 313 (2 : Int32))) + bv).toInt = pF V p 2 + brd V p i + V 2 ∧ 1 ≤ pF V p 2 + brd V p i + V 2 ∧ pF V p 2 + brd V p i + V 2 ≤ 1000 := fun bv eb => by
          have br : 0 ≤ brd V p i ∧ brd V p i ≤ 9 := by unfold brd; split <;> omega
          exact ⟨by rw [i_add (by omega) (by omega), a1, eb]; omega, by omega, by omega⟩
        have limp : ztold h 313 x1 3 = (x2 + 1) ↔ pF V p 3 = sgF R k 2 + 1 := ⟨fun e => by rw [← f3, e, ef], fun e => i_ext (by rw [f3, ef, e])⟩
        -- what the next minute of the loop holds
        have res : ∀ bv : Int32, bv.toInt = brd V p i → (¬ ztold h 313 x1 3 = (x2 + 1) → ((((ztold h 313 x1 (2 : Int32)) + (zof h 313 (2 : Int32))) + bv) = x3 ↔ dpu V p (pF V p 2 + brd V p i + V 2) (sgF R k 2) = sgF R k 4)) ∧ (ztold h 313 x1 3 = (x2 + 1) → (zhalf (((ztold h 313 x1 (2 : Int32)) + (zof h 313 (2 : Int32))) + bv) = x3 ↔ dpu V p (pF V p 2 + brd V p i + V 2) (sgF R k 2) = sgF R k 4)) := fun bv eb => by
          obtain ⟨e1, e2, e3⟩ := sm bv eb
          refine ⟨fun c => ?_, fun c => ?_⟩
          · unfold dpu
            rw [if_neg (fun z => c (limp.mpr z)), ← hd, ← e1]
            exact ⟨fun z => by rw [z], fun z => i_ext z⟩
          · unfold dpu
            rw [if_pos (limp.mp c), ← hd, ← zhalf_t e1 ⟨e2, e3⟩]
            exact ⟨fun z => by rw [z], fun z => i_ext z⟩
        have nx : ∀ (b : Bool) (u : Value), b = prS V R k p (i + 1) → Z l G mX11_isDepth 3 (fun w h1 => ∃ x I1, w = some (.int (zb x)) ∧ h1 = (I1, h.2) ∧ (x = prS V R k p (V 3).toNat ∧ I1 = h.1)) 0 0 6 [va_rf (some 313), .int x1, .int x2, .int x3, .int (zb b), .int (x5 + 1), u] [] h := fun b u e => ih (i + 1) b _ u (by omega) (by omega) (i_1 hx (by omega)) e
        have e0 : x4 = true → true = prS V R k p (i + 1) := fun c => by rw [st, ← hs, c]; rfl
        have eT : x4 = false → dpu V p (pF V p 2 + brd V p i + V 2) (sgF R k 2) = sgF R k 4 → true = prS V R k p (i + 1) := fun _ c => by rw [st, decide_eq_true c, Bool.or_true]
        have eF : x4 = false → ¬ dpu V p (pF V p 2 + brd V p i + V 2) (sgF R k 2) = sgF R k 4 → false = prS V R k p (i + 1) := fun c c2 => by rw [st, decide_eq_false c2, ← hs, c]; rfl
        refine ⟨t2, kw, fun c3 => ?_, fun c12 => ?_⟩
        · have ne : i ≠ p := fun e => c3 (i_ext (by omega))
          have eb : (ztold h 313 x5 2).toInt = brd V p i := by unfold brd; rw [if_neg ne]; exact fi
          have rs := res _ eb
          exact ⟨ti, fun c4 => nx true _ (e0 c4), fun c5 => ⟨t3, fun c6 => ⟨fun c7 => nx false _ (eF c5 (fun z => c7 ((rs.1 c6).mpr z))), fun c8 => nx true _ (eT c5 ((rs.1 c6).mp c8))⟩, fun c9 => ⟨fun c10 => nx false _ (eF c5 (fun z => c10 ((rs.2 c9).mpr z))), fun c11 => nx true _ (eT c5 ((rs.2 c9).mp c11))⟩⟩⟩
        · have ee : i = p := by have := congrArg Int32.toInt c12; omega
          have eb : (0 : Int32).toInt = brd V p i := by unfold brd; rw [if_pos ee]; rfl
          have rs := res _ eb
          exact ⟨fun c4 => nx true _ (e0 c4), fun c5 => ⟨t3, fun c6 => ⟨fun c7 => nx false _ (eF c5 (fun z => c7 ((rs.1 c6).mpr z))), fun c8 => nx true _ (eT c5 ((rs.1 c6).mp c8))⟩, fun c9 => ⟨fun c10 => nx false _ (eF c5 (fun z => c10 ((rs.2 c9).mpr z))), fun c11 => nx true _ (eT c5 ((rs.2 c9).mp c11))⟩⟩⟩
  exact kX11_isDepth 313 x1 x2 x3 (sX11_isDepth_0 313 x1 x2 x3 hl (Nat.le_refl _) (loop 7 0 false 0 zU (by omega) (by omega) rfl rfl))
/-- the reference reads reading r, whose numbers are R -/
def MR (h : zH) (r : Nat) (R : Nat → Int) : Prop := r < 2 ∧ RAt h r ∧ RV h (1246 + 51 * r) = R
theorem MR.s0 {h : zH} {r : Nat} {R : Nat → Int} (m : MR h r R) : zrok h 313 ∧ (zsigns h 313).toInt = R 0 := by
  obtain ⟨a, b⟩ := m.2.1.s0 m.1
  exact ⟨a, by rw [b, m.2.2]⟩
theorem MR.s {h : zH} {r : Nat} {R : Nat → Int} (m : MR h r R) {k w : Int32} {K W : Nat} (hk : k.toInt = (K : Int)) (hK : K < 10) (hw : w.toInt = (W : Int)) (hW : W < 5) : zsok h 313 k w ∧ (zsignOf h 313 k w).toInt = sgF R K W := by
  obtain ⟨a, b⟩ := m.2.1.s m.1 hk hK hw hW
  exact ⟨a, by rw [b, m.2.2]; rfl⟩
theorem c_makersM (l : Launch) (G : zG) (h : zH) (n r : Nat) (V R : Nat → Int) (k : Nat) (x1 : Int32) (hl : lo11 h 313) (w : WFN V) (m : MN h n V) (h14 : zI h 313 14 = -1) (wr : WFR R) (mr : MR h r R) (hk : x1.toInt = (k : Int)) (hkR : (k : Int) < R 0) : CTi l G YX11_makersOf 4 [va_rf (some 313), .int x1] h (fun y I => y = mkF V R k ∧ I = h.1) := by
  have w3 := w.2.2.2.1
  have wr0 := wr.1
  have sw := sg_w wr hkR
  obtain ⟨k3, v3⟩ := m.of (w := 3) (W := 3) rfl (by decide)
  obtain ⟨a1, s1⟩ := mr.s (w := 1) (W := 1) hk (by omega) rfl (by decide)
  obtain ⟨a2, s2⟩ := mr.s (w := 2) (W := 2) hk (by omega) rfl (by decide)
  obtain ⟨a4, s4⟩ := mr.s (w := 4) (W := 4) hk (by omega) rfl (by decide)
  have loop : ∀ (f i : Nat) (x2 x3 : Int32) (u4 : Value), (i : Int) ≤ V 3 → V 3 - i < (f : Int) → x3.toInt = (i : Int) → x2 = orP (fun p => if mkB V R k p = true then bit1 p else 0) i →
      Z l G mX11_makersOf 4 (fun w h1 => ∃ x I1, w = some (.int x) ∧ h1 = (I1, h.2) ∧ (x = mkF V R k ∧ I1 = h.1)) 0 0 4 [va_rf (some 313), .int x1, .int x2, .int x3, u4] [] h := by
    intro f
    induction f with
    | zero => intro i x2 x3 u4 h1 h2; omega
    | succ f ih =>
      intro i x2 x3 u4 h1 h2 hx hs
      refine sX11_makersOf_4 313 x1 x2 x3 u4 hl (Nat.le_refl _) ⟨k3, fun c1 => ⟨_, h.1, rfl, rfl, ?_, rfl⟩, fun c2 => ?_⟩
      · rw [hs]; unfold mkF; rw [show (V 3).toNat = i by omega]
      · have hi : (i : Int) < V 3 := by omega
        obtain ⟨t0, f0⟩ := m.t hx (by omega) (w := 0) (W := 0) rfl (by decide)
        have isd := c_isDepth l G h n V R k i x3 _ _ hl w m hx hi s2 sw.2.2.1 s4
        have stp : (sgF R k 1 = 6 ∨ sgF R k 1 = pF V i 0) → ∀ P : Bool → (Nat → Nat → Int32) → Prop, P = (fun y I => y = prS V R k i (V 3).toNat ∧ I = h.1) → ∀ (y30 : Bool) (I28 : Nat → Nat → Int32), P y30 I28 → ((y30 = false → Z l G mX11_makersOf 4 (fun w h1 => ∃ x I1, w = some (.int x) ∧ h1 = (I1, h.2) ∧ (x = mkF V R k ∧ I1 = h.1)) 0 0 4 [va_rf (some 313), .int x1, .int (x2 ||| 0), .int (x3 + 1), .int 0] [] (I28, h.2)) ∧ (y30 = true → Z l G mX11_makersOf 4 (fun w h1 => ∃ x I1, w = some (.int x) ∧ h1 = (I1, h.2) ∧ (x = mkF V R k ∧ I1 = h.1)) 0 0 4 [va_rf (some 313), .int x1, .int (x2 ||| ((1 : Int32) <<< (x3 &&& 31))), .int (x3 + 1), .int 1] [] (I28, h.2))) := by
          intro hc P eP y I z
          rw [eP] at z
          obtain ⟨z1, z2⟩ := z
          subst z2
          have eB : mkB V R k i = y := by unfold mkB; rw [decide_eq_true hc, Bool.true_and]; exact z1.symm
          refine ⟨fun c => ih (i + 1) _ _ _ (by omega) (by omega) (i_1 hx (by omega)) ?_, fun c => ih (i + 1) _ _ _ (by omega) (by omega) (i_1 hx (by omega)) ?_⟩
          · rw [Int32.or_zero]
            exact orP_0 hs (if_neg (by rw [eB, c]; exact Bool.false_ne_true))
          · rw [bit1_of hx]
            exact orP_s hs (if_pos (by rw [eB, c]))
        have so : (ztold h 313 x3 0).toInt = pF V i 0 := by
          have := (m.2.2.2.2 i (by omega)).1
          rw [h14, if_neg (ofn_m1 (by omega))] at this
          rw [f0]; exact this
        refine ⟨a1, fun c3 => ⟨a2, a4, _, isd, stp (Or.inl (by rw [← s1, c3]; rfl)) _ rfl⟩, fun c7 => ⟨a1, t0, fun c8 => ih (i + 1) _ _ _ (by omega) (by omega) (i_1 hx (by omega)) ?_, fun c9 => ⟨a2, a4, _, isd, stp (Or.inr (by rw [← s1, c9, so])) _ rfl⟩⟩⟩
        rw [Int32.or_zero]
        refine orP_0 hs (if_neg (fun z => ?_))
        unfold mkB at z
        rw [Bool.and_eq_true] at z
        exact (of_decide_eq_true z.1).elim (fun e => c7 (i_ext (s1.trans e))) (fun e => c8 (i_ext (by rw [s1, e, so])))
  exact kX11_makersOf 313 x1 (sX11_makersOf_0 313 x1 hl (Nat.le_refl _) (loop 7 0 0 0 zU (by omega) (by omega) rfl rfl))
theorem c_isFollowed (l : Launch) (G : zG) (h : zH) (n r : Nat) (V R : Nat → Int) (a b : Nat) (x1 x2 : Int32) (hl : lo11 h 313) (w : WFN V) (m : MN h n V) (h14 : zI h 313 14 = -1) (wr : WFR R) (mr : MR h r R) (ha : x1.toInt = (a : Int)) (haR : (a : Int) < R 0) (hb : x2.toInt = (b : Int)) (hbR : (b : Int) < R 0) : CTz l G YX11_isFollowed 5 [va_rf (some 313), .int x1, .int x2] h (fun y I => y = flw V R a b ∧ I = h.1) := by
  have w3 := w.2.2.2.1
  have wr0 := wr.1
  have sa := sg_w wr haR
  have sb := sg_w wr hbR
  obtain ⟨k3, v3⟩ := m.of (w := 3) (W := 3) rfl (by decide)
  have k0 := m.of (w := 0) (W := 0) rfl (by decide)
  have k1 := m.of (w := 1) (W := 1) rfl (by decide)
  obtain ⟨p0, s0⟩ := mr.s (w := 0) (W := 0) ha (by omega) rfl (by decide)
  obtain ⟨p1, s1⟩ := mr.s (w := 1) (W := 1) ha (by omega) rfl (by decide)
  obtain ⟨p2, s2⟩ := mr.s (w := 2) (W := 2) ha (by omega) rfl (by decide)
  obtain ⟨q0, t0⟩ := mr.s (w := 0) (W := 0) hb (by omega) rfl (by decide)
  obtain ⟨q1, t1⟩ := mr.s (w := 1) (W := 1) hb (by omega) rfl (by decide)
  obtain ⟨q2, t2⟩ := mr.s (w := 2) (W := 2) hb (by omega) rfl (by decide)
  obtain ⟨q3, t3⟩ := mr.s (w := 3) (W := 3) hb (by omega) rfl (by decide)
  obtain ⟨kc, ca⟩ := zisC_at m w (p := zsignOf h 313 x1 0)
  obtain ⟨_, cb⟩ := zisC_at m w (p := zsignOf h 313 x2 0)
  rw [s0] at ca
  rw [t0] at cb
  have noA : ¬ (sgF R a 1 = sgF R b 1 ∧ sgF R a 2 ≠ sgF R b 2) → flw V R a b = false := fun c => by unfold flw; rw [decide_eq_false c]; rfl
  have none' : (∀ p : Nat, bes V (sgF R a 0) (sgF R b 3) (pF V p 1) ≠ sgF R b 0) → flw V R a b = false := fun c => by
    have : ∀ n, flA V R a b (mkF V R a &&& mkF V R b) n = false := fun n => by
      induction n with
      | zero => rfl
      | succ n ih =>
        show (flA V R a b (mkF V R a &&& mkF V R b) n || (_ && decide (bes V (sgF R a 0) (sgF R b 3) (pF V n 1) = sgF R b 0))) = false
        rw [ih, decide_eq_false (p := bes V (sgF R a 0) (sgF R b 3) (pF V n 1) = sgF R b 0) (c n), Bool.and_false]; rfl
    unfold flw
    rw [this, Bool.and_false]
  have loop : (sgF R a 1 = sgF R b 1 ∧ sgF R a 2 ≠ sgF R b 2) → (0 ≤ sgF R a 0 ∧ sgF R a 0 < V 0 * V 1) → ∀ (f i : Nat) (x4 : Bool) (x5 : Int32), (i : Int) ≤ V 3 → V 3 - i < (f : Int) → x5.toInt = (i : Int) → x4 = flA V R a b (mkF V R a &&& mkF V R b) i →
      Z l G mX11_isFollowed 5 (fun w h1 => ∃ x I1, w = some (.int (zb x)) ∧ h1 = (I1, h.2) ∧ (x = flw V R a b ∧ I1 = h.1)) 0 0 76 [va_rf (some 313), .int x1, .int x2, .int (mkF V R a &&& mkF V R b), .int (zb x4), .int x5] [] h := by
    intro hc hcell f
    have fw : flw V R a b = flA V R a b (mkF V R a &&& mkF V R b) (V 3).toNat := by unfold flw; rw [decide_eq_true hc, Bool.true_and]
    induction f with
    | zero => intro i x4 x5 h1 h2; omega
    | succ f ih =>
      intro i x4 x5 h1 h2 hx hs
      refine sX11_isFollowed_76 313 x1 x2 _ x4 x5 hl (Nat.le_refl _) ⟨k3, fun c1 => ⟨x4, h.1, rfl, rfl, ?_, rfl⟩, fun c2 => ?_⟩
      · rw [fw, hs, show (V 3).toNat = i by omega]
      · have hi : (i : Int) < V 3 := by omega
        obtain ⟨tf, f1⟩ := m.f (w := 1) (f := 1) hx (by omega) rfl (by decide)
        have pw := (per_w w hi).2.1
        have st : flA V R a b (mkF V R a &&& mkF V R b) (i + 1) = (flA V R a b (mkF V R a &&& mkF V R b) i || (decide ((((mkF V R a &&& mkF V R b) >>> (Int32.ofNat i &&& 31)) &&& 1) = 1) && decide (bes V (sgF R a 0) (sgF R b 3) (pF V i 1) = sgF R b 0))) := rfl
        have nx : ∀ (bb : Bool), bb = flA V R a b (mkF V R a &&& mkF V R b) (i + 1) → Z l G mX11_isFollowed 5 (fun w h1 => ∃ x I1, w = some (.int (zb x)) ∧ h1 = (I1, h.2) ∧ (x = flw V R a b ∧ I1 = h.1)) 0 0 76 [va_rf (some 313), .int x1, .int x2, .int (mkF V R a &&& mkF V R b), .int (zb bb), .int (x5 + 1)] [] h := fun bb e => ih (i + 1) bb _ (by omega) (by omega) (i_1 hx (by omega)) e
        refine ⟨fun c3 => nx true (by rw [st, ← hs, c3]; rfl), fun c4 => ⟨fun c5 => nx false ?_, fun c6 => ⟨p0, q3, tf, _, c_stepped l G h V _ _ _ hl k0 k1 w.1 w.2.1 (by rw [s0]; exact hcell) (by rw [t3]; exact sb.2.2.2.1) (by rw [f1]; omega), fun y34 I32 ⟨z1, z2⟩ => ?_⟩⟩⟩
        · rw [n_ofn hx] at c5
          rw [st, ← hs, c4, decide_eq_false c5]; rfl
        · have eI : I32 = h.1 := z2
          subst eI
          rw [s0, t3, f1] at z1
          rw [n_ofn hx] at c6
          refine ⟨q0, fun c8 => nx false ?_, fun c9 => nx true ?_⟩
          · rw [st, ← hs, c4, decide_eq_false (p := bes V (sgF R a 0) (sgF R b 3) (pF V i 1) = sgF R b 0) (fun e => c8 (i_ext (by rw [z1, e]; exact t0.symm))), Bool.and_false]; rfl
          · rw [st, decide_eq_true c6, decide_eq_true (show bes V (sgF R a 0) (sgF R b 3) (pF V i 1) = sgF R b 0 by rw [← z1, c9]; exact t0)]
            exact (Bool.or_true _).symm
  refine kX11_isFollowed 313 x1 x2 (sX11_isFollowed_0 313 x1 x2 hl (Nat.le_refl _) ⟨p1, q1, fun c1 => ⟨false, h.1, rfl, rfl, (noA (fun z => c1 (i_ext (by rw [s1, t1, z.1])))).symm, rfl⟩, fun c2 => ⟨p2, q2, fun c3 => ⟨false, h.1, rfl, rfl, (noA (fun z => z.2 (by rw [← s2, ← t2, c3]))).symm, rfl⟩, fun c4 => ⟨p0, kc, fun c5 => ⟨false, h.1, rfl, rfl, ?_, rfl⟩, fun c6 => ⟨q0, kc, fun c7 => ⟨_, c_makersM l G h n r V R a x1 hl w m h14 wr mr ha haR, fun y54 I52 ⟨y1, y2⟩ => ?_⟩, fun c10 => ⟨false, h.1, rfl, rfl, ?_, rfl⟩⟩⟩⟩⟩)
  · have := (bfalse ca).mp c5
    refine (none' (fun p e => ?_)).symm
    unfold bes at e
    rw [if_neg this] at e
    omega
  · have eI : I52 = h.1 := y2
    subst eI
    refine ⟨_, c_makersM l G h n r V R b x2 hl w m h14 wr mr hb hbR, fun y63 I61 ⟨u1, u2⟩ => ?_⟩
    have eI2 : I61 = h.1 := u2
    subst eI2
    rw [y1, u1]
    exact loop ⟨by rw [← s1, ← t1, c2], fun e => c4 (i_ext (by rw [s2, t2, e]))⟩ (ca.mp c6) 7 0 false 0 (by omega) (by omega) rfl rfl
  · have := (bfalse cb).mp c10
    refine (none' (fun p e => ?_)).symm
    have br := bes_rng (V := V) (sgF R a 0) (sgF R b 3) (pF V p 1)
    rw [e] at br
    omega
theorem c_followersM (l : Launch) (G : zG) (h : zH) (n r : Nat) (V R : Nat → Int) (a : Nat) (x1 : Int32) (hl : lo11 h 313) (w : WFN V) (m : MN h n V) (h14 : zI h 313 14 = -1) (wr : WFR R) (mr : MR h r R) (ha : x1.toInt = (a : Int)) (haR : (a : Int) < R 0) : CTi l G YX11_followersOf 6 [va_rf (some 313), .int x1] h (fun y I => y = flF V R a ∧ I = h.1) := by
  have wr0 := wr.1
  obtain ⟨kr, vr⟩ := mr.s0
  have loop : ∀ (f i : Nat) (x2 x3 : Int32), (i : Int) ≤ R 0 → R 0 - i < (f : Int) → x3.toInt = (i : Int) → x2 = orP (fun b => if flw V R a b = true then bit1 b else 0) i →
      Z l G mX11_followersOf 6 (fun w h1 => ∃ x I1, w = some (.int x) ∧ h1 = (I1, h.2) ∧ (x = flF V R a ∧ I1 = h.1)) 0 0 4 [va_rf (some 313), .int x1, .int x2, .int x3] [] h := by
    intro f
    induction f with
    | zero => intro i x2 x3 h1 h2; omega
    | succ f ih =>
      intro i x2 x3 h1 h2 hx hs
      refine sX11_followersOf_4 313 x1 x2 x3 hl (Nat.le_refl _) ⟨kr, fun c1 => ⟨_, h.1, rfl, rfl, ?_, rfl⟩, fun c2 => ⟨_, c_isFollowed l G h n r V R a i x1 x3 hl w m h14 wr mr ha haR hx (by omega), fun y14 I12 ⟨z1, z2⟩ => ?_⟩⟩
      · rw [hs]; unfold flF; rw [show (R 0).toNat = i by omega]
      · have eI : I12 = h.1 := z2
        subst eI
        refine ⟨fun c4 => ih (i + 1) _ _ (by omega) (by omega) (i_1 hx (by omega)) ?_, fun c5 => ih (i + 1) _ _ (by omega) (by omega) (i_1 hx (by omega)) ?_⟩
        · rw [Int32.or_zero]
          exact orP_0 hs (if_neg (by rw [← z1, c4]; exact Bool.false_ne_true))
        · rw [bit1_of hx]
          exact orP_s hs (if_pos (by rw [← z1, c5]))
  exact kX11_followersOf 313 x1 (sX11_followersOf_0 313 x1 hl (Nat.le_refl _) (loop 11 0 0 0 (by omega) (by omega) rfl rfl))
