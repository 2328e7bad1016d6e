set_option maxRecDepth 4000
/-! ===== tour: the class ===== -/
section K80
variable {V : Nat → Int} {RK : (Nat → Int) → (Nat → Int) → (Nat → Int32) → (Nat → Int32) → (Nat → Int32) → (Nat → Int32) → Prop}
def GT (RK : (Nat → Int) → (Nat → Int) → (Nat → Int32) → (Nat → Int32) → (Nat → Int32) → (Nat → Int32) → Prop) (h g : zH) : Prop := Inv (KeptP TKq RK) g ∧ AL g = AL h ∧ (∀ j, zI g 1000000 j = zI h 1000000 j) ∧ ∀ b, zK g b = zK h b
theorem GT.rf {h : zH} (hI : Inv (KeptP TKq RK) h) : GT RK h h := ⟨hI, rfl, fun _ => rfl, fun _ => rfl⟩
theorem PairG.nightT {l : Launch} {G : zG} {YC YM : zY} {dc dm : Nat} {args : List Value} (x e : Int32) (f : (Nat → Int) → Int32)
    (c0 : ∀ h, Inv (KeptP TKq RK) h → znat h 1 x = none → CTiG l G YC dc (va_rf (some 0) :: args) h (fun y g => y = e ∧ GT RK h g))
    (c1 : ∀ h n, Inv (KeptP TKq RK) h → NA h x n → CTiG l G YC dc (va_rf (some 0) :: args) h (fun y g => y = f (RW h (610 + 318 * n)) ∧ GT RK h g))
    (m0 : ∀ h, Inv (KeptP TKq RK) h → zisOf h 313 0 x = false → CTi l G YM dm (va_rf (some 313) :: args) h (fun y I => y = e ∧ SameC h I))
    (m1 : ∀ h n, Inv (KeptP TKq RK) h → NA h x n → zisOf h 313 0 x = true → CTi l G YM dm (va_rf (some 313) :: args) h (fun y I => y = f (RW h (610 + 318 * n)) ∧ SameC h I)) : PairG (KeptP TKq RK) l G YC YM dc dm args := fun h hI => by
  refine ⟨nF x e f (AL h), fun g => GT RK h g, ?_, fun g m => ⟨m.1.1, m.1.2.1, m.2.2.1, m.2.2.2⟩, fun g m => ?_⟩
  · rcases hI.night x with ⟨a1, a2, a3⟩ | ⟨n, b1, b2, b3, b4, b5, b6, b7, b8⟩
    · exact (c0 h hI a1).mono rfl fun v h1 ⟨y, z1, z2, z3⟩ => ⟨y, z1, by rw [z2]; exact (if_neg a3).symm, z3⟩
    · refine (c1 h n hI ⟨b1, b2, b4, b6, b7, b8⟩).mono rfl fun v h1 ⟨y, z1, z2, z3⟩ => ⟨y, z1, ?_, z3⟩
      rw [z2]; unfold nF
      rw [if_pos ⟨by omega, by omega⟩, show x.toInt.toNat = n by omega]; rfl
  · have gI := m.1
    rw [← m.2.1]
    rcases gI.night x with ⟨a1, a2, a3⟩ | ⟨n, b1, b2, b3, b4, b5, b6, b7, b8⟩
    · exact (m0 g gI a2).mono rfl fun v h1 ⟨y, J, z1, z2, z3, z4⟩ => ⟨y, J, z1, z2, by rw [z3]; exact (if_neg a3).symm, Inv.kept (h := g) KeptP.same gI z4⟩
    · refine (m1 g n gI ⟨b1, b2, b4, b6, b7, b8⟩ b5).mono rfl fun v h1 ⟨y, J, z1, z2, z3, z4⟩ => ⟨y, J, z1, z2, ?_, Inv.kept (h := g) KeptP.same gI z4⟩
      rw [z3]; unfold nF
      rw [if_pos ⟨by omega, by omega⟩, show x.toInt.toNat = n by omega]; rfl
theorem tF_n {z0 z1 : Nat → Int32} {x2 : Int32} (t : TKq V z0 z1) (e : z0 0 = -1) : tourF x2 V = -1 := by
  unfold tourF
  rw [if_neg (fun z => ?_)]
  obtain ⟨a, b, _⟩ := t.1 z
  rw [e] at b
  have b' : (-1 : Int) = (TRs V).1 := b
  omega
theorem tF_y {z0 z1 : Nat → Int32} (t : TKq V z0 z1) (e : ¬ z0 0 = -1) : (TRs V).1 < 1000000 := Decidable.byContradiction fun z => e (t.2 z)
theorem tF_0 {z0 z1 : Nat → Int32} {x2 : Int32} (t : TKq V z0 z1) (e : ¬ z0 0 = -1) (h : x2.toInt = 0) : z0 0 = tourF x2 V := by
  have y := tF_y t e
  unfold tourF
  rw [if_pos y, if_pos h]
  exact n_ofV (t.1 y).2.1
theorem tF_1 {z0 z1 : Nat → Int32} {x2 : Int32} (t : TKq V z0 z1) (e : ¬ z0 0 = -1) (h0 : ¬ x2.toInt = 0) (h : x2.toInt = 1) : z0 1 = tourF x2 V := by
  have y := tF_y t e
  unfold tourF
  rw [if_pos y, if_neg h0, if_pos h]
  exact n_ofn (t.1 y).2.2.1
theorem tF_no {x2 : Int32} (h0 : ¬ x2.toInt = 0) (h1 : ¬ x2.toInt = 1) (h2 : ¬ (10 ≤ x2.toInt ∧ x2.toInt < 10 + (eV V : Int))) : (-1 : Int32) = tourF x2 V := by
  unfold tourF
  rw [if_neg h0, if_neg h1, if_neg h2]
  split <;> rfl
theorem tF_b {z0 z1 : Nat → Int32} {x2 : Int32} {k : Nat} (t : TKq V z0 z1) (e : ¬ z0 0 = -1) (h : x2.toInt = ((10 + k : Nat) : Int)) (hk : k < eV V) : z1 k = tourF x2 V := by
  have y := tF_y t e
  unfold tourF
  rw [if_pos y, if_neg (by omega), if_neg (by omega), if_pos (by omega), show x2.toInt.toNat - 10 = k by omega]
  exact n_ofn ((t.1 y).2.2.2 k hk)
theorem c_tour1 (l : Launch) (G : zG) (x1 x2 : Int32) (h : zH) (n : Nat) (hI : Inv (KeptP TKq RK) h) (na : NA h x1 n) : CTiG l G YX10_tour 13 (va_rf (some 0) :: [.int x1, .int x2]) h (fun y g => y = tourF x2 (RW h (610 + 318 * n)) ∧ GT RK h g) := by
  obtain ⟨b1, b2, b4, b6, b7, b8⟩ := id na
  have ev := eV_ok b7
  have xl := Int32.toInt_lt x2
  have e10 : (10 : Int) ≤ x2.toInt → (x2 - 10).toInt = x2.toInt - 10 := fun z => i_sub (by show _ ≤ x2.toInt - (10 : Int); omega) (by show x2.toInt - (10 : Int) < _; omega)
  refine kX10_tour 0 x1 x2 (sX10_tour_0 0 x1 x2 hI.1 (Nat.le_refl _) ⟨fun c1 => absurd (b4.symm.trans c1) (fun z => by cases z), fun b5 c2 => ?_⟩)
  have e5 : b5 = 5 + 18 * n := (Option.some.inj (b4.symm.trans c2)).symm
  subst e5
  -- what is answered of what is kept
  refine ⟨fun c3 => ?_, fun c14 => ?_⟩
  · have same : GT RK h h := GT.rf hI
    have tk : TKq (RW h (610 + 318 * n)) (zI h 136) (zI h 137) := by
      rcases hI.2.2.2.2.2.1 with z | ⟨n', z1, z2, z3⟩
      · exact absurd (z.symm.trans c3) (fun y => by rw [← y] at b1; have : (-1 : Int) = (n : Int) := b1; omega)
      · have c3' : zI h 0 11 = x1 := c3
        rw [c3'] at z1
        have : n' = n := by omega
        rw [this] at z3; exact z3
    have hV4 : (zI h (5 + 18 * n) 4).toInt = RW h (610 + 318 * n) 4 := b8.1 4 (by decide)
    refine ⟨fun c4 => ⟨fun c5 => ⟨_, rfl, tF_0 tk c4 c5, same⟩, fun c6 => ⟨fun c7 => ⟨_, rfl, tF_1 tk c4 c6 c7, same⟩, fun c8 => ⟨fun c9 => ⟨_, rfl, tF_no c6 c8 (fun z => ?_), same⟩, fun c10 => ⟨b6, fun c11 => ⟨_, rfl, tF_no c6 c8 (fun z => ?_), same⟩, fun c12 => ⟨_, rfl, ?_, same⟩⟩⟩⟩⟩, fun c13 => ⟨_, rfl, (tF_n tk c13).symm, same⟩⟩
    · have c9' : x2.toInt < (10 : Int) := c9
      omega
    · have := e10 z.1
      omega
    · have c10' : (10 : Int) ≤ x2.toInt := c10
      have := e10 c10'
      obtain ⟨k, hk⟩ : ∃ k : Nat, (x2 - 10).toInt = (k : Int) := ⟨(x2 - 10).toInt.toNat, by omega⟩
      rw [show zget h (some (0 + 137)) (x2 - 10) = zI h 137 k from zget_w (n := 5) ((los_136 hI.1).w 1 rfl) hk (by omega)]
      exact tF_b tk c4 (by omega) (by omega)
  · have l81 := los_81 hI.1
    have n150 := stM_150 b7 (al := -1) 100
    have okk := (stM_ok b7 (al := -1) 100).1
    refine ⟨_, c_lay l G h _ 81 (5 + 18 * n) 99 99 l81 b6 b7 b8 (by omega) rfl (by decide), fun I34 ⟨g1, g2, g3⟩ => ⟨_, c_showTops l G (I34, h.2) _ 81 127 _ l81 (law_127 hI.1) (by decide) g2 n150 okk, fun I43 ⟨t1, t2⟩ => ?_⟩⟩
    have e43 : ∀ b, b ≠ 127 → (b < 81 ∨ 95 ≤ b) → I43 b = h.1 b := fun b z1 z2 => (t1 b z1).trans (g1 b (by omega))
    have o43 : NObj (I43, h.2) (5 + 18 * n) (RW h (610 + 318 * n)) := b8.same b7 (fun b z1 z2 => e43 b (by omega) (by omega))
    refine ⟨_, c_begin (q := 5 + 18 * n) l G (I43, h.2) (tpT (stM (RW h (610 + 318 * n)) (-1) 100)) (los_136 hI.1) b6 (by omega) (law_127 hI.1) b7 o43 t2, fun g63 ⟨k1, k2, k3, k4, k5⟩ => ?_⟩
    obtain ⟨L1, L2⟩ := lo10_fr (h := (I43, h.2)) k3 k4 (fun b k z1 z2 => k2 b k z1) hI.1 hI.2.1
    have ex := c_extend (q := 5 + 18 * n) l G b7 (by omega) (eV (RW h (610 + 318 * n))) 0 0 0 (fun _ => false) (tpT (stM (RW h (610 + 318 * n)) (-1) 100)) (fun _ => 0) S0U g63 0 0 0 (by omega) (cnt_all _) rfl rfl rfl (by decide) (by decide) k5
    refine ⟨L1, ⟨_, eV (RW h (610 + 318 * n)) + 7, by omega, ex, fun g76 ⟨f1, f2, f3, f4, f5⟩ => ?_⟩⟩
    obtain ⟨M1, M2⟩ := lo10_fr (h := g63) f1.2.2.1 f1.2.2.2 (fun b k z1 z2 => f1.2.1 b k z2) L1 L2
    refine ⟨M1, fun I79 c19 => ?_⟩
    obtain ⟨a1, a2, a3⟩ := zwI_eff c19
    have tk : TKq (RW h (610 + 318 * n)) (zI g76 136) (zI g76 137) := CS.tk f5
    have i136 : zI (I79, g76.2) 136 = zI g76 136 := a1 136 (by decide)
    have i137 : zI (I79, g76.2) 137 = zI g76 137 := a1 137 (by decide)
    have e79 : ∀ b, b ≠ 0 → ¬ (81 ≤ b ∧ b < 150) → I79 b = h.1 b := fun b z1 z2 => (a1 b z1).trans ((f1.1 b (by omega)).trans ((k1 b (by omega)).trans (e43 b (by omega) (by omega))))
    have e790 : ∀ k, k ≠ 11 → I79 0 k = h.1 0 k := fun k hk => by
      rw [a2 k hk, f1.1 0 (by omega), k1 0 (by omega)]
      exact congrFun (e43 0 (by decide) (by decide)) k
    have gt : GT RK h (I79, g76.2) := by
      refine ⟨hI.tours (g := (I79, g76.2)) e79 e790 (f1.2.2.2.trans k4) M1 M2 (Or.inr ⟨n, by show (I79 0 11).toInt = _; rw [a3]; exact b1, ?_, ?_⟩), e79 314 (by decide) (by decide), fun j => congrFun (e79 1000000 (by decide) (by decide)) j, fun b => (f1.2.2.1 b).trans (k3 b)⟩
      · rw [show AL (I79, g76.2) = AL h from e79 314 (by decide) (by decide)]
        rcases hI.night x1 with ⟨z1, _⟩ | ⟨n', z1, z2, z3, _⟩
        · exact absurd (z1.symm.trans b4) (fun y => by cases y)
        · omega
      · rw [RWc (show AL (I79, g76.2) = AL h from e79 314 (by decide) (by decide)), i136, i137]; exact tk
    have hV4 : (zI (I79, g76.2) (5 + 18 * n) 4).toInt = RW h (610 + 318 * n) 4 := by
      show (I79 (5 + 18 * n) 4).toInt = _
      rw [e79 _ (by omega) (by omega)]; exact b8.1 4 (by decide)
    have z136 : ∀ k, zI (I79, g76.2) (0 + 136) k = zI g76 136 k := fun k => congrFun i136 k
    refine ⟨fun c20 => ?_, fun c29 => ⟨_, rfl, (tF_n tk ((z136 0).symm.trans c29)).symm, gt⟩⟩
    have ne : ¬ zI g76 136 0 = -1 := fun z => c20 ((z136 0).trans z)
    refine ⟨fun c21 => ⟨_, rfl, (z136 0).trans (tF_0 tk ne c21), gt⟩, fun c22 => ⟨fun c23 => ⟨_, rfl, (z136 1).trans (tF_1 tk ne c22 c23), gt⟩, fun c24 => ⟨fun c25 => ⟨_, rfl, tF_no c22 c24 (fun z => ?_), gt⟩, fun c26 => ⟨_, b4, ?_, fun c27 => ⟨_, rfl, tF_no c22 c24 (fun z => ?_), gt⟩, fun c28 => ⟨_, rfl, ?_, gt⟩⟩⟩⟩⟩
    · have c25' : x2.toInt < (10 : Int) := c25
      omega
    · refine zlo.gr (h := h) b6 (fun b => (f1.2.2.1 b).trans (k3 b)) (f1.2.2.2.trans k4) (fun e he => ?_)
      have a : rs1.all (fun e => decide (e.1 < 18)) = true := by decide +kernel
      have := of_decide_eq_true (List.all_eq_true.mp a e he)
      exact (f1.2.1 _ _ (by omega)).trans (k2 _ _ (by omega))
    · have := e10 z.1
      omega
    · have c26' : (10 : Int) ≤ x2.toInt := c26
      have := e10 c26'
      obtain ⟨k, hk⟩ : ∃ k : Nat, (x2 - 10).toInt = (k : Int) := ⟨(x2 - 10).toInt.toNat, by omega⟩
      rw [show zget (I79, g76.2) (some (0 + 137)) (x2 - 10) = zI (I79, g76.2) 137 k from zget_w (n := 5) ((los_136 M1).w 1 rfl) hk (by omega), i137]
      exact tF_b tk ne (by omega) (by omega)
end K80
