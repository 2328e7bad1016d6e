set_option maxRecDepth 4000
/-! ===== texts: the class reads a line ===== -/
section K9N
variable {B : Nat → Int} {n : Nat}
def FrA (h : zH) (I : Nat → Nat → Int32) : Prop := (∀ b, (b < 55 ∨ 81 ≤ b) → I b = h.1 b) ∧ I 55 5 = h.1 55 5
theorem FrA.rf (h : zH) : FrA h h.1 := ⟨fun _ _ => rfl, rfl⟩
theorem FrA.tr {h : zH} {I J : Nat → Nat → Int32} (a : FrA h I) (c : FrA (I, h.2) J) : FrA h J := ⟨fun b z => (c.1 b z).trans (a.1 b z), c.2.trans a.2⟩
theorem FrT.a {h : zH} {I : Nat → Nat → Int32} (f : FrT h I) : FrA h I := ⟨fun b z => f.1 b (by omega), f.2 5 (by decide) (by decide) (by decide) (by decide)⟩
theorem FrF.a {h : zH} {I : Nat → Nat → Int32} (f : FrF h I) : FrA h I := ⟨fun b z => f.1 b (by omega), f.2 5 (by decide) (by decide)⟩
theorem FrL.a {h : zH} {I : Nat → Nat → Int32} (f : FrL h I) : FrA h I := ⟨fun b z => f.1 b (by omega), f.2 5 (by decide) (by decide)⟩
theorem FrA.tp {h : zH} {I : Nat → Nat → Int32} (f : FrA h I) (t : TpC h B n) : TpC (I, h.2) B n := t.cg (f.1 2 (by decide)) f.2
theorem FlC.kp {h : zH} {I : Nat → Nat → Int32} {s : Nat × Nat} (a : FlC h s) (e2 : I 55 2 = h.1 55 2) (e3 : I 55 3 = h.1 55 3) : FlC (I, h.2) s := by
  obtain ⟨a1, a2, a3⟩ := a
  refine ⟨?_, fun z => ?_, fun z => ?_⟩
  · show (I 55 2).toInt = _; rw [e2]; exact a1
  · show I 55 3 = _; rw [e3]; exact a2 z
  · show (I 55 3).toInt = _; rw [e3]; exact a3 z
theorem FrT.fl {h : zH} {I : Nat → Nat → Int32} {s : Nat × Nat} (f : FrT h I) (a : FlC h s) : FlC (I, h.2) s := a.kp (f.2 2 (by decide) (by decide) (by decide) (by decide)) (f.2 3 (by decide) (by decide) (by decide) (by decide))
theorem FrT.cs {h : zH} {I : Nat → Nat → Int32} {sort : Nat} {V : Nat → Int} {fo fc : Int} (f : FrT h I) (c : CSt sort h V fo fc) : CSt sort (I, h.2) V fo fc := c.kp (fun b h1 h2 => f.1 b (by omega)) (f.2 11 (by decide) (by decide) (by decide) (by decide)) (f.2 12 (by decide) (by decide) (by decide) (by decide))
theorem FrF.cs {h : zH} {I : Nat → Nat → Int32} {sort : Nat} {V : Nat → Int} {fo fc : Int} (f : FrF h I) (c : CSt sort h V fo fc) : CSt sort (I, h.2) V fo fc := c.kp (fun b h1 h2 => f.1 b (by omega)) (f.2 11 (by decide) (by decide)) (f.2 12 (by decide) (by decide))
theorem FrL.fl {h : zH} {I : Nat → Nat → Int32} {s : Nat × Nat} (f : FrL h I) (a : FlC h s) : FlC (I, h.2) s := a.kp (f.2 2 (by decide) (by decide)) (f.2 3 (by decide) (by decide))
theorem tk_4 {q : Nat} : tkK B n q ≤ 4 := by
  unfold tkK
  split
  · omega
  · split
    · split <;> omega
    · split
      · split <;> omega
      · split <;> omega
theorem tok_1 {I : Nat → Nat → Int32} {q : Nat} (k : TkC I B n q) : I 55 6 = 2 ↔ tkK B n q = 1 := by
  obtain ⟨_, _, k0, k1, k2, k3, k4, _⟩ := k
  refine ⟨fun z => ?_, fun z => (k1 z).1⟩
  have h4 := tk_4 (B := B) (n := n) (q := q)
  by_cases z0 : tkK B n q = 0
  · rw [k0 z0] at z; exact absurd z (by decide)
  · by_cases z2 : tkK B n q = 2
    · rw [k2 z2] at z; exact absurd z (by decide)
    · by_cases z3 : tkK B n q = 3
      · rw [k3 z3] at z; exact absurd z (by decide)
      · by_cases z4 : tkK B n q = 4
        · rcases k4 z4 with y | y
          · rw [y] at z; exact absurd z (by decide)
          · rw [y] at z; exact absurd z (by decide)
        · omega
theorem tok_2 {I : Nat → Nat → Int32} {q : Nat} (k : TkC I B n q) : I 55 6 = 3 ↔ tkK B n q = 2 := by
  obtain ⟨_, _, k0, k1, k2, k3, k4, _⟩ := k
  refine ⟨fun z => ?_, fun z => k2 z⟩
  have h4 := tk_4 (B := B) (n := n) (q := q)
  by_cases z0 : tkK B n q = 0
  · rw [k0 z0] at z; exact absurd z (by decide)
  · by_cases z2 : tkK B n q = 1
    · rw [(k1 z2).1] at z; exact absurd z (by decide)
    · by_cases z3 : tkK B n q = 3
      · rw [k3 z3] at z; exact absurd z (by decide)
      · by_cases z4 : tkK B n q = 4
        · rcases k4 z4 with y | y
          · rw [y] at z; exact absurd z (by decide)
          · rw [y] at z; exact absurd z (by decide)
        · omega
theorem tok_0 {I : Nat → Nat → Int32} {q : Nat} (k : TkC I B n q) : I 55 6 = 4 ↔ tkK B n q = 0 := by
  obtain ⟨_, _, k0, k1, k2, k3, k4, _⟩ := k
  refine ⟨fun z => ?_, fun z => k0 z⟩
  have h4 := tk_4 (B := B) (n := n) (q := q)
  by_cases z0 : tkK B n q = 2
  · rw [k2 z0] at z; exact absurd z (by decide)
  · by_cases z2 : tkK B n q = 1
    · rw [(k1 z2).1] at z; exact absurd z (by decide)
    · by_cases z3 : tkK B n q = 3
      · rw [k3 z3] at z; exact absurd z (by decide)
      · by_cases z4 : tkK B n q = 4
        · rcases k4 z4 with y | y
          · rw [y] at z; exact absurd z (by decide)
          · rw [y] at z; exact absurd z (by decide)
        · omega
theorem zput_o {h : zH} {q : Nat} {x v : Int32} {I : Nat → Nat → Int32} (e : I = (zput h (some q) x v).1) {b : Nat} (hb : b ≠ q) : I b = h.1 b := by
  rw [e]; funext k
  exact if_neg (fun z => hb (Option.some.inj z.1).symm)
theorem zput_i {h : zH} {q N i : Nat} {x v : Int32} {I : Nat → Nat → Int32} (a : zAw h q N) (hx : x.toInt = (i : Int)) (e : I = (zput h (some q) x v).1) (k : Nat) : I q k = if k = i ∧ i < N then v else h.1 q k := by
  by_cases hi : i < N
  · obtain ⟨_, e2, e3⟩ := zput_eff a hx hi e
    by_cases z : k = i
    · rw [if_pos ⟨z, hi⟩, z]; exact e3
    · rw [if_neg (fun y => z y.1)]; exact e2 k z
  · rw [if_neg (fun y => hi y.2), e, zput_no a (by omega)]
/-- where a text breaks off -/
def bpB (B : Nat → Int) (n sort q : Nat) : Nat := if o1B B n sort q = true then tkW B n (pzB B n q (hdB B n q)) else tkW B n q
def RlP (h : zH) (B : Nat → Int) (n sort q : Nat) (S : TxS) (y : Bool) (I : Nat → Nat → Int32) : Prop :=
  FrA h I ∧ (y = true → o1B B n sort q = true ∧ o2B B n q = true ∧ TkC I B n (nxB B n q) ∧ FlC (I, h.2) (stB B n q S).1 ∧ CSt sort (I, h.2) (stB B n q S).2.1 (stB B n q S).2.2.1 (stB B n q S).2.2.2) ∧
  (y = false → ¬ (o1B B n sort q = true ∧ o2B B n q = true) ∧ (I 55 7).toInt = (bpB B n sort q : Int))
theorem c_readLine (l : Launch) (G : zG) (gt : GTab G) (h : zH) (sort q : Nat) (S : TxS) (x1 : Int32) (hl : lo5 h 55) (t : TpC h B n) (hq : q ≤ n) (hs : x1.toInt = (sort : Int)) (hs2 : sort = 0 ∨ sort = 1) (tk : TkC h.1 B n q) (fl : FlC h S.1) (cs : CSt sort h S.2.1 S.2.2.1 S.2.2.2) (ws : WIs sort S.2.1 S.2.2.1 S.2.2.2) :
    CTz l G YX5_readLine 7 [va_rf (some 55), .int x1] h (fun y I => RlP h B n sort q S y I) := by
  have n6 := t.2.2.2.1
  have lq := tk_le (B := B) (n := n) hq
  -- the numbers
  have loop : o1B B n sort q = true → ∀ (fu i : Nat) (x2 x3 x4 : Int32) (J : Nat → Nat → Int32), x2.toInt = (tkO B n q : Int) - 1 → x3.toInt = (lsT (tkO B n q) : Int) → x4.toInt = (i : Int) → 600 - i < fu → FrA h J → TkC J B n (pzB B n q i) → (∀ j, j < i → tkK B n (pzB B n q j) = 1) → i ≤ liT (tkO B n q) → (∀ j, j < i → j < 27 → (J 80 j).toInt = vzB B n q j) → FlC (J, h.2) (fzB B n q (tkO B n q) (fulT (tkO B n q) S.2.1) S.1 i) → CSt sort (J, h.2) S.2.1 S.2.2.1 S.2.2.2 →
      Z l G mX5_readLine 7 (fun v h1 => ∃ x I1, v = some (.int (zb x)) ∧ h1 = (I1, h.2) ∧ RlP h B n sort q S x I1) 0 0 41 [va_rf (some 55), .int x1, .int x2, .int x3, .int x4] [] (J, h.2) := by
    intro o1
    have ok := (o1_ok o1).2
    have oi := okO_in ok
    have k3 : tkK B n q ≠ 0 := by rw [(o1_ok o1).1]; decide
    have lls : lsT (tkO B n q) ≤ liT (tkO B n q) := by
      by_cases e : tkO B n q = 4
      · rw [e]; decide
      · rw [li_ls _ oi.2 e]; exact Nat.le_refl _
    intro fu
    induction fu with
    | zero => intro i x2 x3 x4 J e2 e3 e4 q1; omega
    | succ fu ih =>
      intro i x2 x3 x4 J e2 e3 e4 q1 fr tJ ks li nu fJ cJ
      have tpJ := fr.tp t
      have pg := pz_grow k3 i ks
      have pn := pz_le (B := B) (n := n) hq i
      have i6 : i < 600 := by omega
      have h8 : (zI (J, h.2) 55 8).toInt = (pzB B n q (i + 1) : Int) := tJ.2.1
      have no : hdB B n q = i → ¬ (lsT (tkO B n q) ≤ i ∧ tkK B n (pzB B n q i) = 2) → RlP h B n sort q S false J := fun eh ne => by
        refine ⟨fr, fun z => (by cases z), fun _ => ⟨fun z => ?_, ?_⟩⟩
        · have := of_decide_eq_true z.2
          rw [eh] at this; exact ne this
        · unfold bpB
          rw [if_pos o1, eh]; exact tJ.1
      have hdi : (i = liT (tkO B n q) ∨ tkK B n (pzB B n q i) ≠ 1) → hdB B n q = i := fun z => cz_eq _ ks li z
      have yes : hdB B n q = i → lsT (tkO B n q) ≤ i → tkK B n (pzB B n q i) = 2 → o2B B n q = true ∧ nxB B n q = pzB B n q (i + 1) := fun eh z1 z2 => by
        refine ⟨?_, ?_⟩
        · unfold o2B
          rw [eh]; exact decide_eq_true ⟨z1, z2⟩
        · unfold nxB
          rw [eh]; rfl
      have fe : ∀ {x : Int32} {m : Nat}, x.toInt = (m : Int) → (x = 0 ↔ m = 0) := fun {x m} hx => ⟨fun z => by rw [z] at hx; have : (0 : Int) = (m : Int) := hx; omega, fun z => i_ext (by rw [hx, z]; rfl)⟩
      -- a number more
      have step : zI (J, h.2) 55 6 = 2 → (tkO B n q ≠ 4 → i < lsT (tkO B n q)) → (∃ P91, CTv l G YX5_weigh 2 [va_rf (some 55), .int x2, .int x4] (J, h.2) P91 ∧ ∀ (I94 : Nat → Nat → Int32), P91 I94 → ∀ I103 : Nat → Nat → Int32, I103 = (zput (I94, h.2) (some (55 + 25)) x4 (zI (I94, h.2) 55 9)).1 → (∃ P106, CTv l G YX5_next 3 [va_rf (some 55)] (I103, h.2) P106 ∧ ∀ (I109 : Nat → Nat → Int32), P106 I109 → Z l G mX5_readLine 7 (fun v h1 => ∃ x I1, v = some (.int (zb x)) ∧ h1 = (I1, h.2) ∧ RlP h B n sort q S x I1) 0 0 41 [va_rf (some 55), .int x1, .int x2, .int x3, .int (x4 + 1)] [] (I109, h.2))) := fun c6 c7 => by
        have kk := (tok_1 tJ).mp c6
        refine ⟨_, c_weigh l G gt (J, h.2) (tkO B n q) i x2 x4 _ (tkW B n (pzB B n q i)) (vzB B n q i) (vzB B n q 0) hl oi e2 e4 ⟨i6, c7⟩ fJ tJ.1 (tJ.2.2.2.1 kk).2 (fun z => nu 0 z (by decide)), fun I94 c24 I103 c25 => ?_⟩
        obtain ⟨w1, w2⟩ := c24
        have fr94 : FrA h I94 := fr.tr w1.a
        have fo : ∀ b, b ≠ 80 → I103 b = I94 b := fun b z => zput_o (q := 80) c25 z
        have fi := zput_i (h := (I94, h.2)) (q := 80) (N := 27) (hl.w 25 rfl) e4 c25
        have fr103 : FrA h I103 := fr94.tr ⟨fun b z => fo b (by omega), congrFun (fo 55 (by decide)) 5⟩
        have h8' : (zI (I103, h.2) 55 8).toInt = (pzB B n q (i + 1) : Int) := by
          show (I103 55 8).toInt = _
          rw [fo 55 (by decide), w1.2 8 (by decide) (by decide)]; exact h8
        refine ⟨_, c_next l G (I103, h.2) (pzB B n q (i + 1)) hl (fr103.tp t) (pz_le hq (i + 1)) h8', fun I109 c26 => ?_⟩
        obtain ⟨u1, u2⟩ := c26
        have fl103 : FlC (I103, h.2) _ := FlC.kp (h := (I94, h.2)) w2 (congrFun (fo 55 (by decide)) 2) (congrFun (fo 55 (by decide)) 3)
        have cs94 : CSt sort (I94, h.2) S.2.1 S.2.2.1 S.2.2.2 := w1.cs cJ
        have cs103 : CSt sort (I103, h.2) S.2.1 S.2.2.1 S.2.2.2 := CSt.kp (h := (I94, h.2)) cs94 (fun b b1 b2 => fo b (by omega)) (congrFun (fo 55 (by decide)) 11) (congrFun (fo 55 (by decide)) 12)
        refine ih (i + 1) x2 x3 (x4 + 1) I109 e2 e3 (i_1 e4 (by omega)) (by omega) (fr103.tr u1.a) u2 (fun j hj => ?_) ?_ (fun j hj h27 => ?_) (u1.fl fl103) (u1.cs cs103)
        · by_cases z : j = i
          · rw [z]; exact kk
          · exact ks j (by omega)
        · by_cases z : tkO B n q = 4
          · rw [z]; show i + 1 ≤ 600; omega
          · have := c7 z; omega
        · have e80 : I109 80 j = I103 80 j := congrFun (u1.1 80 (by decide)) j
          rw [e80, fi j]
          by_cases z : j = i
          · rw [if_pos ⟨z, by omega⟩, z]
            show (I94 55 9).toInt = _
            rw [w1.2 9 (by decide) (by decide)]
            exact (tJ.2.2.2.1 kk).2
          · rw [if_neg (fun y => z y.1)]
            show (I94 80 j).toInt = _
            rw [w1.1 80 (by decide)]
            exact nu j (by omega) h27
      refine sX5_readLine_41 (h := (J, h.2)) 55 x1 x2 x3 x4 hl (Nat.le_refl _) ⟨fun c1 => ?_, fun c11 => ⟨fun c12 => ⟨fun c13 => absurd c13 (by omega), fun c23 => step c11 (fun _ => by omega)⟩, fun c27 => ⟨fun c28 => ⟨fun c29 => absurd c29 (by omega), fun c30 => ⟨fun c31 => absurd (c11.symm.trans c31) (by decide), fun c37 => ?_⟩⟩, fun c38 => ⟨fun c39 => absurd c39 (by omega), fun c49 => step c11 (fun z => absurd ?_ z)⟩⟩⟩⟩
      · have k1 : tkK B n (pzB B n q i) ≠ 1 := fun z => c1 ((tok_1 tJ).mpr z)
        have eh := hdi (Or.inr k1)
        refine ⟨fun c2 => ⟨false, J, rfl, rfl, no eh (fun z => by omega)⟩, fun c3 => ⟨fun c4 => ?_, fun c10 => ⟨false, J, rfl, rfl, no eh (fun z => c10 ((tok_2 tJ).mpr z.2))⟩⟩⟩
        have k2 := (tok_2 tJ).mp c4
        obtain ⟨y1, y2⟩ := yes eh (by omega) k2
        have efz : fzB B n q (tkO B n q) (fulT (tkO B n q) S.2.1) S.1 i = fzB B n q (tkO B n q) (fulT (tkO B n q) S.2.1) S.1 (hdB B n q) := by rw [eh]
        rw [efz] at fJ
        refine ⟨fun c5 => ?_, fun c7 => ?_⟩
        · have f0 : (fzB B n q (tkO B n q) (fulT (tkO B n q) S.2.1) S.1 (hdB B n q)).1 ≠ 0 := fun z => c5 ((fe fJ.1).mpr z)
          refine ⟨_, c_next l G (J, h.2) (pzB B n q (i + 1)) hl tpJ (pz_le hq (i + 1)) h8, fun I20 c6 => ?_⟩
          obtain ⟨u1, u2⟩ := c6
          refine ⟨true, I20, rfl, rfl, fr.tr u1.a, fun _ => ⟨o1, y1, by rw [y2]; exact u2, ?_, ?_⟩, fun z => (by cases z)⟩
          · rw [stB_f]; exact u1.fl fJ
          · exact ts_key (P := fun V fo fc => CSt sort (I20, h.2) V fo fc) (stB_1 f0) (u1.cs cJ)
        · have f0 : (fzB B n q (tkO B n q) (fulT (tkO B n q) S.2.1) S.1 (hdB B n q)).1 = 0 := (fe fJ.1).mp c7
          obtain ⟨b1, b2, b3⟩ := ln_bd o1 y1 f0
          rw [eh] at b1
          refine ⟨_, c_tell l G (J, h.2) sort (tkO B n q) i S.2.1 S.2.2.1 S.2.2.2 (vzB B n q) x2 x4 hl hs2 ok cJ ws e2 e4 nu b1 b3, fun I29 c8 => ?_⟩
          obtain ⟨w1, w2⟩ := c8
          have fr29 : FrA h I29 := fr.tr w1.a
          have h8' : (zI (I29, h.2) 55 8).toInt = (pzB B n q (i + 1) : Int) := by
            show (I29 55 8).toInt = _
            rw [w1.2 8 (by decide) (by decide)]; exact h8
          refine ⟨_, c_next l G (I29, h.2) (pzB B n q (i + 1)) hl (fr29.tp t) (pz_le hq (i + 1)) h8', fun I38 c9 => ?_⟩
          obtain ⟨u1, u2⟩ := c9
          refine ⟨true, I38, rfl, rfl, fr29.tr u1.a, fun _ => ⟨o1, y1, by rw [y2]; exact u2, ?_, ?_⟩, fun z => (by cases z)⟩
          · rw [stB_f]; exact u1.fl (w1.fl fJ)
          · have u3 := u1.cs w2
            rw [← eh] at u3
            exact ts_key (P := fun V fo fc => CSt sort (I38, h.2) V fo fc) (stB_0 f0) u3
      · have o4 : tkO B n q ≠ 4 := fun z => c28 (i_ext (by rw [e2, z]; rfl))
        have eL := li_ls _ oi.2 o4
        have k1 := (tok_1 tJ).mp c11
        exact ⟨false, J, rfl, rfl, no (hdi (Or.inl (by omega))) (fun z => by rw [k1] at z; exact absurd z.2 (by decide))⟩
      · rw [c38] at e2
        have : (3 : Int) = (tkO B n q : Int) - 1 := e2
        omega
  refine kX5_readLine 55 x1 (z_ro (fun ro => ?_))
  have kN : (zK h 1000001).2 = 11 := by rw [(ro 1 (by decide)).1, gt.1]
  have vN : ∀ j, zI h 1000001 j = tNu.getD j 0 := fun j => by rw [(ro 1 (by decide)).2 j, gt.1]
  refine sX5_readLine_0 (h := h) 55 x1 hl (Nat.le_refl _) ⟨_, c_lineTold l G h sort q x1 hl t hq hs hs2 tk, fun y6 I4 c1 => ?_⟩
  obtain ⟨eI, ey⟩ := c1
  subst eI
  have neg1 : ((-1 : Int32)).toInt = -1 := rfl
  refine ⟨fun c2 => ?_, fun c9 => ?_⟩
  · have o1 : o1B B n sort q = true := Decidable.byContradiction fun z => by
      rw [if_neg z] at ey
      exact c2 (i_ext (by rw [ey]; rfl))
    rw [if_pos o1] at ey
    have ok := (o1_ok o1).2
    have oi := okO_in ok
    have full := c_isFull l G h (tkO B n q) y6 S.2.1 hl oi.1 ey (fun e => by
      have s0 : sort = 0 := hs2.elim id (fun z => by rw [z, e] at ok; exact absurd (ok_1 ok) (by decide))
      exact ((cs.1 s0).1.at (by decide))) (fun e => by
      have s0 : sort = 0 := hs2.elim id (fun z => by rw [z, e] at ok; exact absurd (ok_1 ok) (by decide))
      exact ((cs.1 s0).1.at (by decide))) (fun e => by
      have s1 : sort = 1 := hs2.elim (fun z => by rw [z, e] at ok; exact absurd (ok_0 ok).2 (by decide)) id
      exact (cs.2 s1).1.1)
    refine ⟨_, full, fun y19 I17 c3 => ?_⟩
    obtain ⟨eJ, ef⟩ := c3
    have e17 : I17 = h.1 := eJ
    subst e17
    -- what stands before the numbers
    have last : ∀ (J : Nat → Nat → Int32), FrF h J → FlC (J, h.2) (fzB B n q (tkO B n q) (fulT (tkO B n q) S.2.1) S.1 0) → (∃ P27, CTv l G YX5_next 3 [va_rf (some 55)] (J, h.2) P27 ∧ ∀ (I30 : Nat → Nat → Int32), P27 I30 → (zgok (I30, h.2) (some 1000001) ∧ Z l G mX5_readLine 7 (fun v h1 => ∃ x I1, v = some (.int (zb x)) ∧ h1 = (I1, h.2) ∧ RlP h B n sort q S x I1) 0 0 41 [va_rf (some 55), .int x1, .int y6, .int (zget (I30, h.2) (some 1000001) y6), .int 0] [] (I30, h.2))) := fun J fJ flJ => by
      have h8 : (zI (J, h.2) 55 8).toInt = (pzB B n q 0 : Int) := by
        show (J 55 8).toInt = _
        rw [fJ.2 8 (by decide) (by decide)]; exact tk.2.1
      refine ⟨_, c_next l G (J, h.2) (pzB B n q 0) hl (fJ.tp t) (pz_le hq 0) h8, fun I30 c5 => ?_⟩
      obtain ⟨u1, u2⟩ := c5
      have hgo : (zK (I30, h.2) 1000001).2 = 11 → (∀ j, zI (I30, h.2) 1000001 j = tNu.getD j 0) → (zgok (I30, h.2) (some 1000001) ∧ Z l G mX5_readLine 7 (fun v h1 => ∃ x I1, v = some (.int (zb x)) ∧ h1 = (I1, h.2) ∧ RlP h B n sort q S x I1) 0 0 41 [va_rf (some 55), .int x1, .int y6, .int (zget (I30, h.2) (some 1000001) y6), .int 0] [] (I30, h.2)) := fun k v => by
        refine ⟨ro_gok k (by decide) (by decide) (by decide), ?_⟩
        have e3 : (zget (I30, h.2) (some 1000001) y6).toInt = (lsT (tkO B n q) : Int) := by
          rw [ro_get k v (j := tkO B n q - 1) (by omega) (by omega)]
          exact tb_nu _ oi.2 oi.1
        exact loop o1 601 0 y6 _ 0 I30 ey e3 rfl (by decide) (fJ.a.tr u1.a) u2 (fun j hj => absurd hj (Nat.not_lt_zero j)) (Nat.zero_le _) (fun j hj => absurd hj (Nat.not_lt_zero j)) (u1.fl flJ) (u1.cs (fJ.cs cs))
      refine hgo ?_ ?_
      · exact kN
      · intro j
        show I30 1000001 j = _
        rw [u1.1 1000001 (by decide)]
        show J 1000001 j = _
        rw [fJ.1 1000001 (by decide)]; exact vN j
    refine ⟨fun c4 => ?_, fun c6 => ?_⟩
    · have ff : fulT (tkO B n q) S.2.1 = false := ef.symm.trans c4
      refine last h.1 (FrF.rf h) ?_
      unfold fzB
      rw [ff, if_neg Bool.false_ne_true]; exact fl
    · have ff : fulT (tkO B n q) S.2.1 = true := ef.symm.trans c6
      refine ⟨_, c_note l G (h.1, h.2) S.1 3 3 (tkW B n q) hl fl rfl (by decide) tk.1, fun I43 c7 => ?_⟩
      refine last I43 c7.1 ?_
      unfold fzB
      rw [ff, if_pos rfl]; exact c7.2
  · have o1 : ¬ o1B B n sort q = true := fun z => by
      rw [if_pos z, c9, neg1] at ey
      have := okO_in (o1_ok z).2
      omega
    refine ⟨false, h.1, rfl, rfl, FrA.rf h, fun z => (by cases z), fun _ => ⟨fun z => o1 z.1, ?_⟩⟩
    unfold bpB
    rw [if_neg o1]; exact tk.1
end K9N
