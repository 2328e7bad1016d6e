set_option maxRecDepth 4000
/-! ===== one order of errands, walked: the reference ===== -/
section K78
variable {V : Nat → Int}
def TdQ (h : zH) (I : Nat → Nat → Int32) (V T : Nat → Int) (c : Nat) (y : Int32) : Prop := TdF h I ∧ y.toInt = tvV V T c ∧ (tvV V T c < 1000000 → (I 313 42).toInt = ((gG (lgV V) (afV V) T (od (eV V) c) (eV V)).2.2 : Int))
theorem tvV_no {T : Nat → Int} {c : Nat} (h : ¬ okD (lgV V) (afV V) (eV V) T (od (eV V) c) (eV V)) : tvV V T c = 1000000 := if_neg h
theorem tvV_ok {T : Nat → Int} {c : Nat} (h : okD (lgV V) (afV V) (eV V) T (od (eV V) c) (eV V)) : tvV V T c = (gG (lgV V) (afV V) T (od (eV V) c) (eV V)).2.1 := if_pos h
theorem td_no {h : zH} {I : Nat → Nat → Int32} {T : Nat → Int} {c : Nat} (f : TdF h I) (e : ¬ okD (lgV V) (afV V) (eV V) T (od (eV V) c) (eV V)) : TdQ h I V T c 1000000 := ⟨f, by rw [tvV_no e]; rfl, fun z => by rw [tvV_no e] at z; omega⟩
theorem c_toured (l : Launch) (G : zG) (h : zH) (n c : Nat) (st : PS) (x1 : Int32) (hl : lo11 h 313) (w : WFN V) (m : MN h n V) (hR : RW h (610 + 318 * n) = V) (r : MPr h st) (hn : st.n ≤ 150) (okk : okS V st) (h1 : x1.toInt = (c : Int)) (hE : 1 ≤ eV V) :
    CTi l G YX11_toured 6 [va_rf (some 313), .int x1] h (fun y I => TdQ h I V (tpT st) c y) := by
  have ev := eV_ok w
  have e4 := m.of (w := 4) (W := 4) rfl (by decide)
  generalize hT : tpT st = T
  -- the legs
  have legs : (∀ j, j < eV V → od (eV V) c j < eV V ∧ ∀ i, i < j → od (eV V) c i ≠ od (eV V) c j) → ∀ (fu j : Nat) (x5 x6 : Int32) (u2 u3 u4 u7 : Value) (J : Nat → Nat → Int32), j ≤ eV V → eV V - j < fu → x6.toInt = (uE (eV V) j : Int) → TdF h J → (∀ k, k < 64 → (J 330 k).toInt = (gG (lgV V) (afV V) T (od (eV V) c) j).1 k) → x5.toInt = (gG (lgV V) (afV V) T (od (eV V) c) j).2.1 → (J 313 42).toInt = ((gG (lgV V) (afV V) T (od (eV V) c) j).2.2 : Int) → (∀ i, i < j → (lgV V (od (eV V) c i) (gG (lgV V) (afV V) T (od (eV V) c) i).1).1 < 1000000) →
      Z l G mX11_toured 6 (fun v h2 => ∃ y I, v = some (.int y) ∧ h2 = (I, h.2) ∧ TdQ h I V T c y) 0 0 100 [va_rf (some 313), .int x1, u2, u3, u4, .int x5, .int x6, u7] [] (J, h.2) := by
    intro dg fu
    induction fu with
    | zero => intro j x5 x6 u2 u3 u4 u7 J q1 q2; omega
    | succ fu ih =>
      intro j x5 x6 u2 u3 u4 u7 J q1 q2 h6 tf tJ h5 t42 ok
      refine sX11_toured_100 (h := (J, h.2)) 313 x1 u2 u3 u4 x5 x6 u7 hl (Nat.le_refl _) ⟨fun c1 => ?_, fun c2 => ?_⟩
      · have c1' : x6.toInt ≤ 0 := c1
        have nj : ¬ j < eV V := fun z => by
          have := uE_pos.mpr z
          omega
        have ej : j = eV V := by omega
        subst ej
        have okD' : okD (lgV V) (afV V) (eV V) T (od (eV V) c) (eV V) := fun i hi => ⟨(dg i hi).1, (dg i hi).2, ok i hi⟩
        exact ⟨x5, J, rfl, rfl, tf, h5.trans (tvV_ok okD').symm, fun _ => t42⟩
      · have c2' : 0 < x6.toInt := c2
        have hj : j < eV V := uE_pos.mp (by omega)
        have mJ : MN (J, h.2) n V := tf.mn m
        have rJ : RW (J, h.2) (610 + 318 * n) = V := tf.rw hR
        have dj := dig_at h1 h6 hj
        obtain ⟨er0, er1, er2⟩ := err_m mJ rJ w dj (dg j hj).1
        obtain ⟨_, rP, _, rF, _, rT⟩ := err_ok w (dg j hj).1
        have m0 : WM0 (J, h.2) n V (gG (lgV V) (afV V) T (od (eV V) c) j).1 := ⟨mJ, rJ, tJ⟩
        have wr := lgV_rng w (od (eV V) c j) (gG (lgV V) (afV V) T (od (eV V) c) j).1
        have gr := gG_rng (E := eV V) w j ok
        refine ⟨fun z => absurd (n_m0.mp z) (by omega), er0.1, er1.1, er2.1, ⟨_, c_isWay l G (J, h.2) n (peV V (od (eV V) c j)) (feV V (od (eV V) c j)) (teV V (od (eV V) c j)) _ _ _ hl w m0 er0.2 rP er1.2 rF er2.2, fun y23 I21 ⟨p1, p2, p3, p4, p5⟩ => ?_⟩⟩
        have f21 : TdF (J, h.2) I21 := ⟨fun b z1 z2 z3 z4 z5 => p1 b z1 z3 z4, fun k hk => p2 k (by omega)⟩
        refine ⟨fun c4 => ?_, fun c7 => ⟨1000000, I21, rfl, rfl, td_no (tf.tr f21) (fun z => ?_)⟩⟩
        · have hW : (lgV V (od (eV V) c j) (gG (lgV V) (afV V) T (od (eV V) c) j).1).1 < 1000000 := p4.mp c4
          have m21 : MN (I21, h.2) n V := f21.mn (h := (J, h.2)) mJ
          have r21 : RW (I21, h.2) (610 + 318 * n) = V := f21.rw (h := (J, h.2)) rJ
          obtain ⟨_, fr1, _⟩ := err_m m21 r21 w dj (dg j hj).1
          have wm : WM (I21, h.2) n V (gG (lgV V) (afV V) T (od (eV V) c) j).1 (peV V (od (eV V) c j)) := ⟨m21, r21, by show (I21 313 36).toInt = _; rw [p3]; exact er0.2, fun k hk => by show (I21 330 k).toInt = _; rw [p1 330 (by decide) (by decide) (by decide)]; exact tJ k hk⟩
          obtain ⟨w1, w2, w3⟩ := id (p5 c4)
          refine ⟨fr1.1, ⟨_, c_lays l G (I21, h.2) n (peV V (od (eV V) c j)) (feV V (od (eV V) c j)) (teV V (od (eV V) c j)) _ hl w wm rP fr1.2 rF hW (p5 c4), fun I38 ⟨s1, s2⟩ I44 c6 => ?_⟩⟩
          obtain ⟨a1, a2, a3⟩ := zwI_eff c6
          have f38 : TdF (I21, h.2) I38 := ⟨fun b z1 z2 z3 z4 z5 => s1 b z2 z5, fun k _ => by rw [s1 313 (by decide) (by decide)]⟩
          have f44 : TdF (I38, h.2) I44 := ⟨fun b z1 _ _ _ _ => a1 b z1, fun k hk => a2 k (by omega)⟩
          have v38 : (zI (I38, h.2) 313 38).toInt = (lgV V (od (eV V) c j) (gG (lgV V) (afV V) T (od (eV V) c) j).1).1 := by
            show (I38 313 38).toInt = _; rw [s1 313 (by decide) (by decide)]; exact w1
          have v39 : (zI (I38, h.2) 313 39).toInt = ((lgV V (od (eV V) c j) (gG (lgV V) (afV V) T (od (eV V) c) j).1).2 : Int) := by
            show (I38 313 39).toInt = _; rw [s1 313 (by decide) (by decide)]; exact w2
          have v42 : (zI (I38, h.2) 313 42).toInt = ((gG (lgV V) (afV V) T (od (eV V) c) j).2.2 : Int) := by
            show (I38 313 42).toInt = _; rw [s1 313 (by decide) (by decide)]
            show (I21 313 42).toInt = _; rw [p2 42 (by decide)]; exact t42
          have wr3 := wr.2.2 hW
          refine ih (j + 1) _ _ u2 u3 _ _ I44 (by omega) (by omega) (uE_5 h6) (tf.tr (f21.tr (f38.tr f44))) (fun k hk => ?_) ?_ ?_ (fun i hi => ?_)
          · rw [a1 330 (by decide)]; exact s2 k hk
          · show (x5 + zI (I38, h.2) 313 38).toInt = _
            rw [i_add (by omega) (by omega), v38, h5]; rfl
          · rw [a3]
            show (zI (I38, h.2) 313 42 + zI (I38, h.2) 313 39).toInt = _
            rw [i_add (by omega) (by omega), v42, v39]
            show _ = (((gG (lgV V) (afV V) T (od (eV V) c) j).2.2 + (lgV V (od (eV V) c j) (gG (lgV V) (afV V) T (od (eV V) c) j).1).2 : Nat) : Int)
            omega
          · by_cases z : i = j
            · subst z; exact hW
            · exact ok i (by omega)
        · have : ¬ (lgV V (od (eV V) c j) (gG (lgV V) (afV V) T (od (eV V) c) j).1).1 < 1000000 := fun y => by
            have := p4.mpr y
            rw [c7] at this; cases this
          exact this (z j hj).2.2
  -- the digits
  have digs : ∀ (fu j : Nat) (x4 x5 : Int32) (u6 u7 : Value), j ≤ eV V → eV V - j < fu → x5.toInt = (uE (eV V) j : Int) → BD x4 (dnB (od (eV V) c) j) → (∀ i, i < j → od (eV V) c i < eV V ∧ ∀ k, k < i → od (eV V) c k ≠ od (eV V) c i) → ∀ x2 x3 : Int32, x2.toInt = (eV V : Int) → x3.toInt = (uE (eV V) 0 : Int) →
      Z l G mX11_toured 6 (fun v h2 => ∃ y I, v = some (.int y) ∧ h2 = (I, h.2) ∧ TdQ h I V T c y) 0 0 33 [va_rf (some 313), .int x1, .int x2, .int x3, .int x4, .int x5, u6, u7] [] h := by
    intro fu
    induction fu with
    | zero => intro j x4 x5 u6 u7 q1 q2; omega
    | succ fu ih =>
      intro j x4 x5 u6 u7 q1 q2 h5 bd ok x2 x3 h2 h3
      refine sX11_toured_33 (h := h) 313 x1 x2 x3 x4 x5 u6 u7 hl (Nat.le_refl _) ⟨fun c1 => ?_, fun c4 => ?_⟩
      · have c1' : x5.toInt ≤ 0 := c1
        have nj : ¬ j < eV V := fun z => by
          have := uE_pos.mpr z
          omega
        have ej : j = eV V := by omega
        subst ej
        refine ⟨_, c_topmosts l G h V st hl r hn okk, fun I8 ⟨t1, t2⟩ I14 c3 => ?_⟩
        rw [hT] at t2
        obtain ⟨a1, a2, a3⟩ := zwI_eff c3
        have f14 : TdF h I14 := ⟨fun b z1 z2 _ _ _ => (a1 b z1).trans (t1 b z2), fun k hk => (a2 k (by omega)).trans (congrFun (t1 313 (by decide)) k)⟩
        refine legs ok (eV V + 1) 0 0 x3 _ _ _ _ I14 (Nat.zero_le _) (by omega) h3 f14 (fun k hk => ?_) rfl ?_ (fun i hi => by omega)
        · rw [a1 330 (by decide)]; exact t2 k hk
        · rw [a3]; rfl
      · have c4' : 0 < x5.toInt := c4
        have hj : j < eV V := uE_pos.mp (by omega)
        have dj := dig_at h1 h5 hj
        refine ⟨fun z => absurd (n_m0.mp z) (by omega), fun c5 => ⟨1000000, h.1, rfl, rfl, td_no (TdF.rf h) (fun z => ?_)⟩, fun c6 => ⟨fun c7 => ?_, fun c8 => ⟨1000000, h.1, rfl, rfl, td_no (TdF.rf h) (fun z => ?_)⟩⟩⟩
        · have := (z j hj).1
          omega
        · have df : dnB (od (eV V) c) j (od (eV V) c j) = false := by
            cases z : dnB (od (eV V) c) j (od (eV V) c j) with
            | false => rfl
            | true => exact absurd ((bd.bit dj (od_lt5 _ _ _)).mpr z) c7
          have nb := (bd.set dj (od_lt5 _ _ _) df).1
          rw [dnB_n rfl] at nb
          refine ih (j + 1) _ _ _ _ (by omega) (by omega) (uE_5 h5) nb (fun i hi => ?_) x2 x3 h2 h3
          by_cases z : i = j
          · subst z
            refine ⟨by omega, fun k hk y => ?_⟩
            have : dnB (od (eV V) c) i (od (eV V) c i) = true := decide_eq_true ⟨k, hk, y⟩
            rw [df] at this; cases this
          · exact ok i (by omega)
        · have dt := (bd.bit dj (od_lt5 _ _ _)).mp c8
          obtain ⟨i, hi, e⟩ := of_decide_eq_true dt
          exact (z j hj).2.1 i hi e
  -- the unit
  have unit : ∀ (fu k : Nat) (x2 x3 x4 : Int32) (u5 u6 u7 : Value), 1 ≤ k → k ≤ eV V → eV V - k < fu → x2.toInt = (eV V : Int) → x3.toInt = ((5 ^ (k - 1) : Nat) : Int) → x4.toInt = (k : Int) →
      Z l G mX11_toured 6 (fun v h2 => ∃ y I, v = some (.int y) ∧ h2 = (I, h.2) ∧ TdQ h I V T c y) 0 0 11 [va_rf (some 313), .int x1, .int x2, .int x3, .int x4, u5, u6, u7] [] h := by
    intro fu
    induction fu with
    | zero => intro k x2 x3 x4 u5 u6 u7 q0 q1 q2; omega
    | succ fu ih =>
      intro k x2 x3 x4 u5 u6 u7 q0 q1 q2 h2 h3 h4
      refine sX11_toured_11 (h := h) 313 x1 x2 x3 x4 u5 u6 u7 hl (Nat.le_refl _) ⟨fun c1 => ?_, fun c2 => ?_⟩
      · have ek : k = eV V := by omega
        have h3' : x3.toInt = (uE (eV V) 0 : Int) := by rw [h3, uE_lt (show 0 < eV V by omega), ek]; rfl
        refine digs (eV V + 1) 0 0 x3 _ _ (Nat.zero_le _) (by omega) h3' ?_ (fun i hi => by omega) x2 x3 h2 h3'
        rw [dnB_0]; exact BD.zero
      · have p5 := p5_le (show k - 1 ≤ 5 by omega)
        refine ih (k + 1) x2 _ _ u5 u6 u7 (by omega) (by omega) (by omega) h2 ?_ (i_1 h4 (by omega))
        rw [show k + 1 - 1 = (k - 1) + 1 by omega, Nat.pow_succ]
        generalize 5 ^ (k - 1) = p at h3 p5 ⊢
        rw [i_mul (by rw [h3]; show _ ≤ _ * (5 : Int); omega) (by rw [h3]; show _ * (5 : Int) < _; omega), h3]
        show _ * (5 : Int) = _
        omega
  exact kX11_toured 313 x1 (sX11_toured_0 313 x1 hl (Nat.le_refl _) ⟨e4.1, unit (eV V + 1) 1 _ 1 1 zU zU zU (by omega) hE (by omega) (by rw [e4.2]; exact ev.1) rfl rfl⟩)
end K78
