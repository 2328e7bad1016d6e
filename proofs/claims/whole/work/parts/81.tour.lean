set_option maxRecDepth 4000
/-! ===== tour: the reference, and both ===== -/
section K81
variable {V : Nat → Int} {RK : (Nat → Int) → (Nat → Int) → (Nat → Int32) → (Nat → Int32) → (Nat → Int32) → (Nat → Int32) → Prop}
noncomputable def rgV (V : Nat → Int) (T : Nat → Int) (k : Nat) : US := rg (leM (lgV V) (afV V) (eV V) T) 0 k S0U
def MS (V : Nat → Int) (x5 x6 x7 : Int32) (S : US) : Prop := x6.toInt = S.1 ∧ x7.toInt = (S.2.1 : Int) ∧ ((x5.toInt = -1 ∧ S.1 = 1000000) ∨ (∃ b : Nat, b < 5 ^ eV V ∧ x5.toInt = (b : Int) ∧ S.1 < 1000000 ∧ S.2.2 = od (eV V) b))
theorem tvV_rng (w : WFN V) {T : Nat → Int} {c : Nat} : 0 ≤ tvV V T c := by
  by_cases h : okD (lgV V) (afV V) (eV V) T (od (eV V) c) (eV V)
  · rw [tvV_ok h]; exact (gG_rng (E := eV V) w (eV V) (fun j hj => (h j hj).2.2)).1
  · rw [tvV_no h]; decide
theorem MS.step {T : Nat → Int} {k : Nat} {x5 x6 x7 : Int32} (m : MS V x5 x6 x7 (rgV V T k)) (hk : k < 5 ^ eV V) {y s : Int32} {x8 : Int32} (h8 : x8.toInt = (k : Int)) (hy : y.toInt = tvV V T k) (hs : tvV V T k < 1000000 → s.toInt = ((gG (lgV V) (afV V) T (od (eV V) k) (eV V)).2.2 : Int)) : (y.toInt < x6.toInt → MS V x8 y s (rgV V T (k + 1))) ∧ (x6.toInt ≤ y.toInt → MS V x5 x6 x7 (rgV V T (k + 1))) := by
  have e : rgV V T (k + 1) = leM (lgV V) (afV V) (eV V) T (0 + k) (rgV V T k) := rfl
  rw [Nat.zero_add] at e
  obtain ⟨m1, m2, m3⟩ := m
  refine ⟨fun z => ?_, fun z => ?_⟩
  · have e2 : leM (lgV V) (afV V) (eV V) T k (rgV V T k) = (tvV V T k, (gG (lgV V) (afV V) T (od (eV V) k) (eV V)).2.2, od (eV V) k) := if_pos (by show tvV V T k < _; omega)
    have lt : tvV V T k < 1000000 := by
      rcases m3 with ⟨_, z2⟩ | ⟨_, _, _, z2, _⟩ <;> omega
    rw [e, e2]
    exact ⟨hy, hs lt, Or.inr ⟨k, hk, h8, lt, rfl⟩⟩
  · have e2 : leM (lgV V) (afV V) (eV V) T k (rgV V T k) = rgV V T k := if_neg (by show ¬ tvV V T k < _; omega)
    rw [e, e2]
    exact ⟨m1, m2, m3⟩
theorem m_tour1 (l : Launch) (G : zG) (x1 x2 : Int32) (h : zH) (n : Nat) (hI : Inv (KeptP TKq RK) h) (na : NA h x1 n) (bT : zisOf h 313 0 x1 = true) : CTi l G YX11_tour 7 (va_rf (some 313) :: [.int x1, .int x2]) h (fun y I => y = tourF x2 (RW h (610 + 318 * n)) ∧ SameC h I) := by
  obtain ⟨b1, b2, b4, b6, b7, b8⟩ := na
  have ev := eV_ok b7
  refine kX11_tour 313 x1 x2 (sX11_tour_0 313 x1 x2 hI.2.1 (Nat.le_refl _) ⟨_, c_isN l G hI x1, fun y6 I4 ⟨s1, s2, s3, s4⟩ => ⟨fun c2 => ?_, fun c10 => absurd (bT.symm.trans (s3.symm.trans c10)) (fun z => by cases z)⟩⟩)
  have eW : RW (I4, h.2) (610 + 318 * n) = RW h (610 + 318 * n) := RWc s1.al _
  have ma := s4 n b1 b2 c2
  have mm := ma.mn b2 (by rw [eW]; exact b7)
  rw [eW] at mm
  have o4 := mm.of (w := 4) (W := 4) rfl (by decide)
  generalize hV : RW h (610 + 318 * n) = V at *
  refine ⟨o4.1, fun c3 => ?_, fun c5 => ?_⟩
  · have hE : 1 ≤ eV V := Nat.pos_of_ne_zero fun z => c3 (n_m0.mpr (by omega))
    have n150 := stM_150 b7 (al := -1) 100
    have okk := (stM_ok b7 (al := -1) 100).1
    refine ⟨_, c_till l G (I4, h.2) n _ (-1) 99 99 hI.2.1 b7 mm (by rw [ma.2.1]; rfl) rfl (by decide), fun I25 ⟨g1, g2, g3, g4⟩ => ?_⟩
    have m25 : MN (I25, h.2) n V := OnlyT.mn (h := (I4, h.2)) g1 mm
    have s25 : SameC h I25 := s1.tr g1.same
    have r25 : RW (I25, h.2) (610 + 318 * n) = V := by rw [RWc s25.al]; exact hV
    have hx3 : (zof (I4, h.2) 313 4).toInt = (eV V : Int) := by rw [o4.2]; exact ev.1
    have tdS : ∀ J, TdF (I25, h.2) J → SameC h J := fun J f => s25.tr (fun b hb j => by
      unfold IC at hb
      show J b j = I25 b j
      rw [f.1 b (by omega) (by omega) (by omega) (by omega) (by omega)])
    have pE := p5_le ev.2
    have rAll : rgV V (tpT (stM V (-1) 100)) (5 ^ eV V) = TRs V := rg_all ev.2
    -- the digits of the best
    have digit : ∀ (b K : Nat), b < 5 ^ eV V → K < eV V → x2.toInt = ((10 + K : Nat) : Int) → ∀ (fu k : Nat) (x5 x8 : Int32) (u3 u4 u6 u7 u9 : Value) (J : Nat → Nat → Int32), K ≤ k → k < eV V → k - K < fu → x8.toInt = (k : Int) → x5.toInt = ((b / 5 ^ (eV V - 1 - k) : Nat) : Int) → SameC h J →
        Z l G mX11_tour 7 (fun v h2 => ∃ y I, v = some (.int y) ∧ h2 = (I, h.2) ∧ (y = Int32.ofNat (od (eV V) b K) ∧ SameC h I)) 0 0 170 [va_rf (some 313), .int x1, .int x2, u3, u4, .int x5, u6, u7, .int x8, u9] [] (J, h.2) := by
      intro b K hb hK hx2 fu
      have e10 : (x2 - 10).toInt = (K : Int) := by
        rw [i_sub (by rw [hx2]; show _ ≤ _ - (10 : Int); omega) (by rw [hx2]; show _ - (10 : Int) < _; omega), hx2]
        show ((10 + K : Nat) : Int) - (10 : Int) = _
        omega
      induction fu with
      | zero => intro k x5 x8 u3 u4 u6 u7 u9 J q0 q1 q2; omega
      | succ fu ih =>
        intro k x5 x8 u3 u4 u6 u7 u9 J q0 q1 q2 h8 h5 sJ
        have nn : 0 ≤ x5.toInt := by rw [h5]; exact Int.natCast_nonneg _
        refine sX11_tour_170 (h := (J, h.2)) 313 x1 x2 u3 u4 x5 u6 u7 x8 u9 hI.2.1 (Nat.le_refl _) ⟨fun c1 => ⟨_, J, rfl, rfl, ?_, sJ⟩, fun c2 => ?_⟩
        · have ek : k = K := by omega
          subst ek
          refine n_ofn ?_
          rw [n_rem nn (by decide), h5]
          unfold od
          rw [if_pos hK]
          show ((b / 5 ^ (eV V - 1 - k) : Nat) : Int) % ((5 : Nat) : Int) = _
          rw [← Int.natCast_emod]
        · refine ih (k - 1) _ _ _ _ _ _ _ J (by omega) (by omega) (by omega) ?_ ?_ sJ
          · rw [i_add (by rw [h8]; show _ ≤ _ + (-1 : Int); omega) (by rw [h8]; show _ + (-1 : Int) < _; omega), h8]
            show (k : Int) + (-1 : Int) = _
            omega
          · rw [n_div nn (by decide), h5]
            show ((b / 5 ^ (eV V - 1 - k) : Nat) : Int) / ((5 : Nat) : Int) = _
            rw [← Int.natCast_ediv, Nat.div_div_eq_div_mul, ← Nat.pow_succ, show eV V - 1 - (k - 1) = (eV V - 1 - k) + 1 by omega]
    -- all codes
    have codes : ∀ (fu k : Nat) (x3 x4 x5 x6 x7 x8 : Int32) (u9 : Value) (J : Nat → Nat → Int32), x3.toInt = (eV V : Int) → x4.toInt = ((5 ^ eV V : Nat) : Int) → k ≤ 5 ^ eV V → 5 ^ eV V - k < fu → x8.toInt = (k : Int) → MS V x5 x6 x7 (rgV V (tpT (stM V (-1) 100)) k) → TdF (I25, h.2) J →
        Z l G mX11_tour 7 (fun v h2 => ∃ y I, v = some (.int y) ∧ h2 = (I, h.2) ∧ (y = tourF x2 V ∧ SameC h I)) 0 0 79 [va_rf (some 313), .int x1, .int x2, .int x3, .int x4, .int x5, .int x6, .int x7, .int x8, u9] [] (J, h.2) := by
      intro fu
      induction fu with
      | zero => intro k x3 x4 x5 x6 x7 x8 u9 J h3 h4 q1 q2; omega
      | succ fu ih =>
        intro k x3 x4 x5 x6 x7 x8 u9 J h3 h4 q1 q2 h8 ms tf
        have mJ : MN (J, h.2) n V := TdF.mn (h := (I25, h.2)) tf m25
        have rJ : RW (J, h.2) (610 + 318 * n) = V := TdF.rw (h := (I25, h.2)) tf r25
        have pJ : MPr (J, h.2) (stM V (-1) (99 + 1)) := TdF.pr (h := (I25, h.2)) tf g2
        refine sX11_tour_79 (h := (J, h.2)) 313 x1 x2 x3 x4 x5 x6 x7 x8 u9 hI.2.1 (Nat.le_refl _) ⟨fun c1 => ?_, fun c10 => ?_⟩
        · have ek : k = 5 ^ eV V := by omega
          rw [ek, rAll] at ms
          obtain ⟨m1, m2, m3⟩ := ms
          have e9 : (9 + x3).toInt = 9 + (eV V : Int) := by
            rw [i_add (by rw [h3]; show _ ≤ (9 : Int) + _; omega) (by rw [h3]; show (9 : Int) + _ < _; omega), h3]; rfl
          have z5 := n3r (x := x2) (u := 10) (v := 9 + x3) rfl e9
          rw [show (10 : Int32).toInt = 10 from rfl] at z5
          refine ⟨fun c2 => ?_, fun c9 => ⟨_, J, rfl, rfl, ?_, tdS J tf⟩⟩
          · have c2' : (0 : Int) ≤ x5.toInt := c2
            have hW : (TRs V).1 < 1000000 := by
              rcases m3 with ⟨z1, _⟩ | ⟨_, _, _, z2, _⟩ <;> omega
            have ef : tourF x2 V = _ := if_pos hW
            rw [ef]
            refine ⟨fun c3 => ?_, fun c4 => ⟨fun c5 => ⟨fun c6 => ⟨_, J, rfl, rfl, ?_, tdS J tf⟩, fun c7 => ⟨_, J, rfl, rfl, ?_, tdS J tf⟩⟩, fun c8 => ⟨_, J, rfl, rfl, ?_, tdS J tf⟩⟩⟩
            · have zz := z5.1.mp c3
              obtain ⟨K, hK⟩ : ∃ K : Nat, x2.toInt = ((10 + K : Nat) : Int) := ⟨x2.toInt.toNat - 10, by omega⟩
              rw [if_neg (by omega), if_neg (by omega), if_pos (by omega), show x2.toInt.toNat - 10 = K by omega]
              have h5' : ∃ b : Nat, b < 5 ^ eV V ∧ x5.toInt = (b : Int) ∧ (TRs V).2.2 = od (eV V) b := by
                rcases m3 with ⟨z1, _⟩ | ⟨b, y1, y2, _, y3⟩
                · omega
                · exact ⟨b, y1, y2, y3⟩
              obtain ⟨b, y1, y2, y3⟩ := h5'
              rw [y3]
              refine digit b K y1 (by omega) hK (eV V + 1) (eV V - 1) x5 _ _ _ _ _ _ J (by omega) (by omega) (by omega) ?_ ?_ (tdS J tf)
              · rw [i_sub (by rw [h3]; show _ ≤ _ - (1 : Int); omega) (by rw [h3]; show _ - (1 : Int) < _; omega), h3]
                show (eV V : Int) - (1 : Int) = _
                omega
              · rw [y2, show eV V - 1 - (eV V - 1) = 0 by omega, Nat.pow_zero, Nat.div_one]
            · have zz := z5.2.mp c4
              rw [if_neg (fun z => c5 (n_m0.mpr z)), if_neg (show ¬ x2.toInt = 1 from fun z => c6 (i_ext z)), if_neg (by omega)]
            · rw [if_neg (fun z => c5 (n_m0.mpr z)), if_pos (show x2.toInt = 1 by rw [c7]; rfl)]
              exact n_ofn m2
            · rw [if_pos (n_m0.mp c8)]
              exact n_ofV m1
          · have c9' : x5.toInt < (0 : Int) := c9
            have nW : ¬ (TRs V).1 < 1000000 := by
              rcases m3 with ⟨_, z1⟩ | ⟨b, _, z2, _⟩ <;> omega
            exact (if_neg nW).symm
        · have hk : k < 5 ^ eV V := by omega
          refine ⟨_, c_toured l G (J, h.2) n k (stM V (-1) (99 + 1)) x8 hI.2.1 b7 mJ rJ pJ n150 okk h8 hE, fun y29 I27 ⟨f1, f2, f3⟩ => ?_⟩
          have st := MS.step ms hk (x8 := x8) h8 f2 f3
          have tf' : TdF (I25, h.2) I27 := TdF.tr (h := (I25, h.2)) tf f1
          exact ⟨fun c12 => ih (k + 1) x3 x4 _ _ _ _ _ I27 h3 h4 (by omega) (by omega) (i_1 h8 (by omega)) (st.1 c12) tf', fun c13 => ih (k + 1) x3 x4 _ _ _ _ _ I27 h3 h4 (by omega) (by omega) (i_1 h8 (by omega)) (st.2 c13) tf'⟩
    -- how many
    have many : ∀ (fu k : Nat) (x3 x4 x5 : Int32) (u6 u7 u8 u9 : Value), k ≤ eV V → eV V - k < fu → x3.toInt = (eV V : Int) → x4.toInt = ((5 ^ k : Nat) : Int) → x5.toInt = (k : Int) →
        Z l G mX11_tour 7 (fun v h2 => ∃ y I, v = some (.int y) ∧ h2 = (I, h.2) ∧ (y = tourF x2 V ∧ SameC h I)) 0 0 47 [va_rf (some 313), .int x1, .int x2, .int x3, .int x4, .int x5, u6, u7, u8, u9] [] (I25, h.2) := by
      intro fu
      induction fu with
      | zero => intro k x3 x4 x5 u6 u7 u8 u9 q1 q2; omega
      | succ fu ih =>
        intro k x3 x4 x5 u6 u7 u8 u9 q1 q2 h3 h4 h5
        refine sX11_tour_47 (h := (I25, h.2)) 313 x1 x2 x3 x4 x5 u6 u7 u8 u9 hI.2.1 (Nat.le_refl _) ⟨fun c1 => ?_, fun c2 => ?_⟩
        · have ek : k = eV V := by omega
          subst ek
          exact codes (5 ^ eV V + 1) 0 x3 x4 (-1) 1000000 0 0 u9 I25 h3 h4 (Nat.zero_le _) (Nat.lt_succ_of_le (Nat.sub_le _ _)) rfl ⟨rfl, rfl, Or.inl ⟨rfl, rfl⟩⟩ (TdF.rf (I25, h.2))
        · have p5 := p5_le (show k ≤ 5 by omega)
          refine ih (k + 1) x3 _ _ u6 u7 u8 u9 (by omega) (by omega) h3 ?_ (i_1 h5 (by omega))
          rw [Nat.pow_succ]
          generalize 5 ^ k = p at h4 p5 ⊢
          rw [i_mul (by rw [h4]; show _ ≤ _ * (5 : Int); omega) (by rw [h4]; show _ * (5 : Int) < _; omega), h4]
          show _ * (5 : Int) = _
          omega
    exact many (eV V + 1) 0 _ 1 0 zU zU zU zU (Nat.zero_le _) (by omega) hx3 rfl rfl
  · have c5' : (zof (I4, h.2) 313 4).toInt = 0 := n_m0.mp c5
    have hE : eV V = 0 := by omega
    have t0 : (TRs V).1 = 0 ∧ (TRs V).2.1 = 0 := by
      unfold TRs twR
      rw [hE]; exact ⟨rfl, rfl⟩
    have ef : tourF x2 V = _ := if_pos (show (TRs V).1 < 1000000 by omega)
    refine ⟨fun c6 => ⟨_, I4, rfl, rfl, ?_, s1⟩, fun c7 => ⟨fun c8 => ⟨_, I4, rfl, rfl, ?_, s1⟩, fun c9 => ⟨_, I4, rfl, rfl, ?_, s1⟩⟩⟩
    · rw [ef, if_pos (n_m0.mp c6), t0.1]; rfl
    · rw [ef, if_neg (fun z => c7 (n_m0.mpr z)), if_neg (show ¬ x2.toInt = 1 from fun z => c8 (i_ext z)), if_neg (by omega)]
    · rw [ef, if_neg (fun z => c7 (n_m0.mpr z)), if_pos (show x2.toInt = 1 by rw [c9]; rfl), t0.2]; rfl
theorem pp_tour (l : Launch) (G : zG) : P_tour (KeptP TKq RK) l G := fun x1 x2 => by
  refine PairG.nightT x1 (-1) (tourF x2) (fun h hI c0 => ?_) (fun h n hI na => c_tour1 l G x1 x2 h n hI na) (fun h hI c0 => ?_) (fun h n hI na bT => m_tour1 l G x1 x2 h n hI na bT)
  · exact kX10_tour 0 x1 x2 (sX10_tour_0 0 x1 x2 hI.1 (Nat.le_refl _) ⟨fun c1 => ⟨_, rfl, rfl, GT.rf hI⟩, fun b5 c2 => absurd (c0.symm.trans c2) (fun z => by cases z)⟩)
  · refine kX11_tour 313 x1 x2 (sX11_tour_0 313 x1 x2 hI.2.1 (Nat.le_refl _) ⟨_, c_isN l G hI x1, fun y6 I4 ⟨s1, s2, s3, s4⟩ => ⟨fun c2 => absurd (c0.symm.trans (s3.symm.trans c2)) (fun z => by cases z), fun c10 => ⟨_, I4, rfl, rfl, rfl, s1⟩⟩⟩)
end K81
