set_option maxRecDepth 4000
/-! ===== texts: a line of the reference ===== -/
section K9U
variable {B : Nat → Int} {n : Nat}
def NlP (sort : Nat) (h : zH) (B : Nat → Int) (n q : Nat) (s : Nat × Nat) (V : Nat → Int) (I : Nat → Nat → Int32) : Prop :=
  FrQ h I ∧ (o1B B n sort q = true ∧ o2B B n q = true → MSq (I, h.2) B n false (nxB B n q) (fzB B n q (tkO B n q) (fulT (tkO B n q) V) s (hdB B n q))) ∧
  (¬ (o1B B n sort q = true ∧ o2B B n q = true) → MSq (I, h.2) B n true 0 (1, bpB B n sort q)) ∧
  ∃ V', RwM (I, h.2) V' ∧ LnB sort V' ∧ (o1B B n sort q = true ∧ o2B B n q = true → LnX h B n q (fulT (tkO B n q) V) s V I V')
theorem LnX.kp {h : zH} {q : Nat} {full : Bool} {s : Nat × Nat} {V V' : Nat → Int} {I J : Nat → Nat → Int32} (a : LnX h B n q full s V I V') (e9 : J 313 9 = I 313 9) (e10 : J 313 10 = I 313 10) : LnX h B n q full s V J V' := fun z1 z2 => by
  have := a z1 z2
  rw [e9, e10]; exact this
theorem c_endL (l : Launch) (G : zG) (h : zH) (sort q : Nat) (s : Nat × Nat) (V : Nat → Int) (I : Nat → Nat → Int32) (hl : lo11 h 313) (t : TpM h B n) (o1 : o1B B n sort q = true) (r : LnR sort h B n q (fulT (tkO B n q) V) s V I) :
    CTv l G YX11_endsLine 5 [va_rf (some 313)] (I, h.2) (fun I2 => NlP sort h B n q s V I2) := by
  obtain ⟨f, E, V', r1, r2, r3⟩ := r
  have tI := f.tp t
  have mk : ∀ I2, FrN (I, h.2) I2 → FrQ h I2 ∧ ∃ V', RwM (I2, h.2) V' ∧ LnB sort V' ∧ (o1B B n sort q = true ∧ o2B B n q = true → LnX h B n q (fulT (tkO B n q) V) s V I2 V') := fun I2 g => ⟨f.tr g.q, V', RwM.kp (h := (I, h.2)) r1 (g.1 316 (by decide) (by decide)), r2, fun _ => r3.kp (g.2.1 9 (by decide)) (g.2.1 10 (by decide))⟩
  have bp : bpB B n sort q = tkW B n (pzB B n q (hdB B n q)) := by unfold bpB; rw [if_pos o1]
  by_cases le : lsT (tkO B n q) ≤ hdB B n q
  · refine CT.mono (c_endsLine l G (I, h.2) _ _ false hl tI (E.1 le)) rfl (fun v g e => ?_)
    obtain ⟨I2, e1, e2, e3, e4, e5⟩ := e
    obtain ⟨m1, m2⟩ := mk I2 e3
    refine ⟨I2, e1, e2, m1, fun z => ?_, fun z => ?_, m2⟩
    · have o2 := of_decide_eq_true z.2
      exact e4 ⟨rfl, o2.2⟩
    · have k2 : ¬ tkK B n (pzB B n q (hdB B n q)) = 2 := fun y => z ⟨o1, decide_eq_true ⟨le, y⟩⟩
      have := e5 (fun y => k2 y.2)
      rw [if_neg Bool.false_ne_true] at this
      rw [bp]; exact this.tt
  · refine CT.mono (c_endsLine l G (I, h.2) _ _ true hl tI (E.2 (by omega))) rfl (fun v g e => ?_)
    obtain ⟨I2, e1, e2, e3, e4, e5⟩ := e
    obtain ⟨m1, m2⟩ := mk I2 e3
    refine ⟨I2, e1, e2, m1, fun z => ?_, fun z => ?_, m2⟩
    · have o2 := of_decide_eq_true z.2
      exact absurd o2.1 le
    · have := e5 (fun y => by cases y.1)
      rw [if_pos rfl] at this
      rw [bp]; exact this
theorem c_endW (l : Launch) (G : zG) (h : zH) (sort q : Nat) (s : Nat × Nat) (V : Nat → Int) (I : Nat → Nat → Int32) (hl : lo11 h 313) (t : TpM h B n) (o1 : ¬ o1B B n sort q = true) (f : FrQ h I) (r : RwM (I, h.2) V) (b : LnB sort V) (m : MSq (I, h.2) B n true q (1, tkW B n q)) :
    CTv l G YX11_endsLine 5 [va_rf (some 313)] (I, h.2) (fun I2 => NlP sort h B n q s V I2) := by
  refine CT.mono (c_endsLine l G (I, h.2) _ _ true hl (f.tp t) m) rfl (fun v g e => ?_)
  obtain ⟨I2, e1, e2, e3, e4, e5⟩ := e
  refine ⟨I2, e1, e2, f.tr e3.q, fun z => absurd z.1 o1, fun z => ?_, V, RwM.kp (h := (I, h.2)) r (e3.1 316 (by decide) (by decide)), b, fun z => absurd z.1 o1⟩
  have := e5 (fun y => by cases y.1)
  rw [if_pos rfl] at this
  unfold bpB
  rw [if_neg o1]; exact this.tt
theorem c_nightLine (l : Launch) (G : zG) (h : zH) (q : Nat) (s : Nat × Nat) (V : Nat → Int) (hl : lo11 h 313) (t : TpM h B n) (hq : q ≤ n) (hs : s.1 ≠ 0 → s.2 < tkW B n q) (m : MSq h B n false q s) (rw_ : RwM h V) (bd : LnB 0 V) :
    CTv l G YX11_nightLine 8 [va_rf (some 313)] h (fun I => NlP 0 h B n q s V I) := by
  have hwhere : (zI h 313 4).toInt = (tkW B n q : Int) := (m.2.1 rfl).2.2.1
  refine kX11_nightLine 313 (sX11_nightLine_0 313 hl (Nat.le_refl _) ⟨_, c_takes l G h s q 1 10 1 10 hl t rfl rfl m, fun y6 I4 c1 => ?_⟩)
  obtain ⟨f4, tk1, tk2⟩ := c1
  have r4 : RwM (I4, h.2) V := RwM.kp rw_ (f4.1 316 (by decide) (by decide))
  have t4 := f4.tp t
  have p158 : ∀ (I : Nat → Nat → Int32) (u1 u2 u3 : Value), CTv l G YX11_endsLine 5 [va_rf (some 313)] (I, h.2) (fun I2 => NlP 0 h B n q s V I2) → Z l G mX11_nightLine 8 (fun v h1 => ∃ I, v = none ∧ h1 = (I, h.2) ∧ NlP 0 h B n q s V I) 0 0 158 [va_rf (some 313), u1, u2, u3] [] (I, h.2) := fun I u1 u2 u3 c => sX11_nightLine_158 (h := (I, h.2)) 313 u1 u2 u3 hl (Nat.le_refl _) ⟨_, c, fun I4 c1 => ⟨I4, rfl, rfl, c1⟩⟩
  have p147 : ∀ (I : Nat → Nat → Int32) (x1 x2 : Int32) (u3 : Value), ¬ x2 = 10 → CTv l G YX11_endsLine 5 [va_rf (some 313)] (I, h.2) (fun I2 => NlP 0 h B n q s V I2) → Z l G mX11_nightLine 8 (fun v h1 => ∃ I, v = none ∧ h1 = (I, h.2) ∧ NlP 0 h B n q s V I) 0 0 147 [va_rf (some 313), .int x1, .int x2, u3] [] (I, h.2) := fun I x1 x2 u3 ne c => sX11_nightLine_147 (h := (I, h.2)) 313 x1 x2 u3 hl (Nat.le_refl _) ⟨fun _ => p158 I _ _ _ c, fun z => absurd z ne⟩
  have p124 : ∀ (I : Nat → Nat → Int32) (x1 x2 : Int32) (u3 : Value), ¬ x2 = 9 → Z l G mX11_nightLine 8 (fun v h1 => ∃ I, v = none ∧ h1 = (I, h.2) ∧ NlP 0 h B n q s V I) 0 0 147 [va_rf (some 313), .int x1, .int x2, u3] [] (I, h.2) → Z l G mX11_nightLine 8 (fun v h1 => ∃ I, v = none ∧ h1 = (I, h.2) ∧ NlP 0 h B n q s V I) 0 0 124 [va_rf (some 313), .int x1, .int x2, u3] [] (I, h.2) := fun I x1 x2 u3 ne c => sX11_nightLine_124 (h := (I, h.2)) 313 x1 x2 u3 hl (Nat.le_refl _) ⟨fun _ => c, fun z => absurd z ne⟩
  have p90 : ∀ (I : Nat → Nat → Int32) (x1 x2 : Int32) (u3 : Value), zin3 x2 6 8 = false → Z l G mX11_nightLine 8 (fun v h1 => ∃ I, v = none ∧ h1 = (I, h.2) ∧ NlP 0 h B n q s V I) 0 0 124 [va_rf (some 313), .int x1, .int x2, u3] [] (I, h.2) → Z l G mX11_nightLine 8 (fun v h1 => ∃ I, v = none ∧ h1 = (I, h.2) ∧ NlP 0 h B n q s V I) 0 0 90 [va_rf (some 313), .int x1, .int x2, u3] [] (I, h.2) := fun I x1 x2 u3 ne c => sX11_nightLine_90 (h := (I, h.2)) 313 x1 x2 u3 hl (Nat.le_refl _) ⟨fun _ => c, fun z => absurd (ne.symm.trans z) (by decide)⟩
  have p81 : ∀ (I : Nat → Nat → Int32) (x1 x2 : Int32) (u3 : Value), ¬ x2 = 5 → Z l G mX11_nightLine 8 (fun v h1 => ∃ I, v = none ∧ h1 = (I, h.2) ∧ NlP 0 h B n q s V I) 0 0 90 [va_rf (some 313), .int x1, .int x2, u3] [] (I, h.2) → Z l G mX11_nightLine 8 (fun v h1 => ∃ I, v = none ∧ h1 = (I, h.2) ∧ NlP 0 h B n q s V I) 0 0 81 [va_rf (some 313), .int x1, .int x2, u3] [] (I, h.2) := fun I x1 x2 u3 ne c => sX11_nightLine_81 (h := (I, h.2)) 313 x1 x2 u3 hl (Nat.le_refl _) ⟨fun _ => c, fun z => absurd z ne⟩
  have p72 : ∀ (I : Nat → Nat → Int32) (x1 x2 : Int32) (u3 : Value), ¬ x2 = 4 → Z l G mX11_nightLine 8 (fun v h1 => ∃ I, v = none ∧ h1 = (I, h.2) ∧ NlP 0 h B n q s V I) 0 0 81 [va_rf (some 313), .int x1, .int x2, u3] [] (I, h.2) → Z l G mX11_nightLine 8 (fun v h1 => ∃ I, v = none ∧ h1 = (I, h.2) ∧ NlP 0 h B n q s V I) 0 0 72 [va_rf (some 313), .int x1, .int x2, u3] [] (I, h.2) := fun I x1 x2 u3 ne c => sX11_nightLine_72 (h := (I, h.2)) 313 x1 x2 u3 hl (Nat.le_refl _) ⟨fun _ => c, fun z => absurd z ne⟩
  have p62 : ∀ (I : Nat → Nat → Int32) (x1 x2 : Int32) (u3 : Value), ¬ x2 = 3 → Z l G mX11_nightLine 8 (fun v h1 => ∃ I, v = none ∧ h1 = (I, h.2) ∧ NlP 0 h B n q s V I) 0 0 72 [va_rf (some 313), .int x1, .int x2, u3] [] (I, h.2) → Z l G mX11_nightLine 8 (fun v h1 => ∃ I, v = none ∧ h1 = (I, h.2) ∧ NlP 0 h B n q s V I) 0 0 62 [va_rf (some 313), .int x1, .int x2, u3] [] (I, h.2) := fun I x1 x2 u3 ne c => sX11_nightLine_62 (h := (I, h.2)) 313 x1 x2 u3 hl (Nat.le_refl _) ⟨fun _ => c, fun z => absurd z ne⟩
  have p44 : ∀ (I : Nat → Nat → Int32) (x1 x2 : Int32) (u3 : Value), ¬ x2 = 2 → Z l G mX11_nightLine 8 (fun v h1 => ∃ I, v = none ∧ h1 = (I, h.2) ∧ NlP 0 h B n q s V I) 0 0 62 [va_rf (some 313), .int x1, .int x2, u3] [] (I, h.2) → Z l G mX11_nightLine 8 (fun v h1 => ∃ I, v = none ∧ h1 = (I, h.2) ∧ NlP 0 h B n q s V I) 0 0 44 [va_rf (some 313), .int x1, .int x2, u3] [] (I, h.2) := fun I x1 x2 u3 ne c => sX11_nightLine_44 (h := (I, h.2)) 313 x1 x2 u3 hl (Nat.le_refl _) ⟨fun _ => c, fun z => absurd z ne⟩
  have q124 : ∀ (I : Nat → Nat → Int32) (x1 x2 : Int32) (u3 : Value), ¬ x2 = 9 → ¬ x2 = 10 → CTv l G YX11_endsLine 5 [va_rf (some 313)] (I, h.2) (fun I2 => NlP 0 h B n q s V I2) → Z l G mX11_nightLine 8 (fun v h1 => ∃ I, v = none ∧ h1 = (I, h.2) ∧ NlP 0 h B n q s V I) 0 0 124 [va_rf (some 313), .int x1, .int x2, u3] [] (I, h.2) := fun I x1 x2 u3 n1 n2 c => p124 I x1 x2 u3 n1 (p147 I x1 x2 u3 n2 c)
  have q90 : ∀ (I : Nat → Nat → Int32) (x1 x2 : Int32) (u3 : Value), x2.toInt < 6 → CTv l G YX11_endsLine 5 [va_rf (some 313)] (I, h.2) (fun I2 => NlP 0 h B n q s V I2) → Z l G mX11_nightLine 8 (fun v h1 => ∃ I, v = none ∧ h1 = (I, h.2) ∧ NlP 0 h B n q s V I) 0 0 90 [va_rf (some 313), .int x1, .int x2, u3] [] (I, h.2) := fun I x1 x2 u3 lt c => p90 I x1 x2 u3 (decide_eq_false (fun z => by have : (6 : Int) ≤ x2.toInt := z.1; omega)) (q124 I x1 x2 u3 (fun z => by rw [z] at lt; exact absurd lt (by decide)) (fun z => by rw [z] at lt; exact absurd lt (by decide)) c)
  by_cases o1 : o1B B n 0 q = true
  · obtain ⟨k3, ok⟩ := o1_ok o1
    have oi := ok_0 ok
    obtain ⟨ey, M⟩ := tk1 ⟨k3, oi.1, oi.2⟩
    have k0 : tkK B n q ≠ 0 := by rw [k3]; decide
    have ce : ∀ (I : Nat → Nat → Int32), LnR 0 (I4, h.2) B n q (fulT (tkO B n q) V) s V I → CTv l G YX11_endsLine 5 [va_rf (some 313)] (I, h.2) (fun I2 => NlP 0 h B n q s V I2) := fun I r => by
      refine c_endL l G h 0 q s V I hl t o1 ?_
      obtain ⟨a, b, V', c1, c2, c3⟩ := r
      refine ⟨f4.q.tr a, b, V', c1, c2, fun z1 z2 => ?_⟩
      have := c3 z1 z2
      have e9 : zI (I4, h.2) 313 9 = zI h 313 9 := f4.2.1 9 (by decide)
      have e10 : zI (I4, h.2) 313 10 = zI h 313 10 := f4.2.1 10 (by decide)
      rw [e9, e10] at this; exact this
    have ne : ∀ (c : Int32) (k : Nat), c.toInt = (k : Int) → tkO B n q ≠ k → ¬ y6 = c := fun c k hc h1 z => h1 (by rw [z, hc] at ey; omega)
    have n4 : tkO B n q ≠ 4 → ∀ i, ¬ (tkO B n q = 4 ∧ i = 27) := fun z i y => z y.1
    have n5 : ∀ i, i ≠ 1 → ¬ (tkO B n q = 5 ∧ i = 1) := fun i z y => z y.2
    have i3 : ¬ (6 ≤ tkO B n q ∧ tkO B n q ≤ 8) → zin3 y6 6 8 = false := fun z => decide_eq_false (fun y => by
      have y1 : (6 : Int) ≤ y6.toInt := y.1
      have y2 : y6.toInt ≤ (8 : Int) := y.2
      omega)
    have L0 : fulT (tkO B n q) V = false → LMq (I4, h.2) B n q (tkO B n q) (fulT (tkO B n q) V) s 0 := fun e => lm_0 M (by rw [e]; rfl)
    refine ⟨fun c2 => ?_, fun c3 => ?_⟩
    · by_cases o2 : tkO B n q = 2
      · have nf : fulT (tkO B n q) V = false := ful_no (by omega)
        refine sX11_nightLine_44 (h := (I4, h.2)) 313 _ y6 _ hl (Nat.le_refl _) ⟨fun z => absurd (i_ext (by rw [ey, o2]; rfl)) z, fun _ => ⟨_, c_num l G (I4, h.2) q 0 (fulT (tkO B n q) V) s 0 9 hl t4 k0 hs (by rw [o2]; decide) (n4 (by omega) 0) (n5 0 (by decide)) (by rw [o2]; rfl) (by rw [o2]; rfl) (by rw [o2]; decide) (L0 nf), fun y10 I8 c3 I15 c4 => ?_⟩⟩
        obtain ⟨g1, g2, g3, g4⟩ := c3
        have d : WrI (I8, h.2) I15 316 2 y10 := zwI_eff c4
        refine p62 I15 _ y6 _ (ne 3 3 rfl (by omega)) (p72 I15 _ y6 _ (ne 4 4 rfl (by omega)) (p81 I15 _ y6 _ (ne 5 5 rfl (by omega)) (q90 I15 _ y6 _ (by omega) (ce I15 ?_))))
        refine ⟨g1.q.w16 d, LMq.fin (by omega) (by omega) (by rw [o2]; rw [o2] at g2; exact LMq.kp (h := (I8, h.2)) g2 (fun k _ => congrFun (d.f (by decide)) k) (d.f (by decide))), _, RwM.wr (h := (I8, h.2)) (RwM.kp (h := (I4, h.2)) r4 (g1.1 316 (by decide) (by decide))) d rfl, ⟨fun _ => ⟨by rw [upI_ne (by decide)]; exact (bd.1 rfl).1, by rw [upI_ne (by decide)]; exact (bd.1 rfl).2⟩, fun z => absurd z (by decide)⟩, fun z1 z2 => ?_⟩
        have v0 := g4 (by rw [o2] at z1; exact z1) (fz_dn _ (by rw [o2] at z1; exact z1) z2)
        rw [o2, tl_2, v0]
        refine ⟨rfl, ?_, ?_⟩
        · rw [d.f (by decide)]
          have : I8 313 9 = (I4, h.2).1 313 9 := g1.2.1 9 (by decide)
          show (I8 313 9).toInt = _
          rw [this]; rfl
        · rw [d.f (by decide)]
          have : I8 313 10 = (I4, h.2).1 313 10 := g1.2.1 10 (by decide)
          show (I8 313 10).toInt = _
          rw [this]; rfl
      · refine p44 I4 _ y6 _ (ne 2 2 rfl o2) ?_
        by_cases o3 : tkO B n q = 3
        · refine sX11_nightLine_62 (h := (I4, h.2)) 313 _ y6 _ hl (Nat.le_refl _) ⟨fun z => absurd (i_ext (by rw [ey, o3]; rfl)) z, fun _ => ⟨_, c_footLine l G (I4, h.2) q s V _ hl t4 k0 hs o3 hwhere M r4 bd, fun I8 c3 => ?_⟩⟩
          rw [← o3] at c3
          exact p72 I8 _ y6 _ (ne 4 4 rfl (by omega)) (p81 I8 _ y6 _ (ne 5 5 rfl (by omega)) (q90 I8 _ y6 _ (by omega) (ce I8 c3)))
        · refine p62 I4 _ y6 _ (ne 3 3 rfl o3) ?_
          by_cases o4 : tkO B n q = 4
          · refine sX11_nightLine_72 (h := (I4, h.2)) 313 _ y6 _ hl (Nat.le_refl _) ⟨fun z => absurd (i_ext (by rw [ey, o4]; rfl)) z, fun _ => ⟨_, c_walkLine l G (I4, h.2) q s V hl t4 hq k0 hs o4 M r4 bd, fun I8 c3 => ?_⟩⟩
            rw [← o4] at c3
            exact p81 I8 _ y6 _ (ne 5 5 rfl (by omega)) (q90 I8 _ y6 _ (by omega) (ce I8 c3))
          · refine p72 I4 _ y6 _ (ne 4 4 rfl o4) ?_
            by_cases o5 : tkO B n q = 5
            · refine sX11_nightLine_81 (h := (I4, h.2)) 313 _ y6 _ hl (Nat.le_refl _) ⟨fun z => absurd (i_ext (by rw [ey, o5]; rfl)) z, fun _ => ⟨_, c_carryLine l G (I4, h.2) q s V hl t4 k0 hs o5 M r4 bd, fun I8 c3 => ?_⟩⟩
              rw [← o5] at c3
              exact q90 I8 _ y6 _ (by omega) (ce I8 c3)
            · refine p81 I4 _ y6 _ (ne 5 5 rfl o5) ?_
              by_cases o6 : 6 ≤ tkO B n q ∧ tkO B n q ≤ 8
              · have nf : fulT (tkO B n q) V = false := ful_no (by omega)
                have o678 : tkO B n q = 6 ∨ tkO B n q = 7 ∨ tkO B n q = 8 := by omega
                have b05 : loT (tkO B n q) 0 = 0 ∧ hiT (tkO B n q) 0 = 5 ∧ lsT (tkO B n q) = 1 ∧ liT (tkO B n q) = 1 := by rcases o678 with e | e | e <;> (rw [e]; exact ⟨rfl, rfl, rfl, rfl⟩)
                refine sX11_nightLine_90 (h := (I4, h.2)) 313 _ y6 _ hl (Nat.le_refl _) ⟨fun z => absurd (z.symm.trans (in3_i.mpr (show (6 : Int) ≤ y6.toInt ∧ y6.toInt ≤ (8 : Int) by omega))) (by decide), fun _ => ⟨_, c_whoL l G (I4, h.2) q 0 (fulT (tkO B n q) V) s hl t4 k0 hs (by rw [b05.2.2.2]; decide) (n4 (by omega) 0) (n5 0 (by decide)) b05.1 b05.2.1 (L0 nf), fun y13 I11 c3 => ?_⟩⟩
                obtain ⟨g1, g2, g3, g4, g5, g6, g7⟩ := c3
                obtain ⟨P, hV, eP⟩ : ∃ P : Nat, y13.toInt = (P : Int) ∧ y13.toInt.toNat = P := ⟨y13.toInt.toNat, by omega, rfl⟩
                have j4 := ix_c (c := 4) (j := 4) (ix_33 hV (by omega)) rfl (by omega) (by decide)
                refine ⟨by omega, by omega, fun I18 c4 => ?_⟩
                have d : WrI (I11, h.2) I18 316 (120 + 33 * P + 4) (y6 - 6) := wr_ix c4 j4
                refine q124 I18 _ y6 _ (ne 9 9 rfl (by omega)) (ne 10 10 rfl (by omega)) (ce I18 ?_)
                have e6 : (y6 - 6).toInt = (tkO B n q : Int) - 6 := by rw [i_sub (by rw [ey]; show _ ≤ _ - (6 : Int); omega) (by rw [ey]; show _ - (6 : Int) < _; omega), ey]; rfl
                refine ⟨g1.w16 d, LMq.fin (by omega) (by omega) (by rw [b05.2.2.1]; exact LMq.kp (h := (I11, h.2)) g2 (fun k _ => congrFun (d.f (by decide)) k) (d.f (by decide))), _, RwM.wr (h := (I11, h.2)) (RwM.kp (h := (I4, h.2)) r4 g5) d e6, ⟨fun _ => ⟨by rw [upI_ne (by omega)]; exact (bd.1 rfl).1, by rw [upI_ne (by omega)]; exact (bd.1 rfl).2⟩, fun z => absurd z (by decide)⟩, fun z1 z2 => ?_⟩
                have v0 := g4 (by rw [b05.2.2.1] at z1; exact z1) (fz_dn _ (by rw [b05.2.2.1] at z1; exact z1) z2)
                rw [tl_6 o678, ← v0, eP, show 120 + 33 * P + 4 = 124 + 33 * P by omega]
                refine ⟨rfl, ?_, ?_⟩
                · rw [d.f (by decide)]; exact g6
                · rw [d.f (by decide)]
                  show (I11 313 10).toInt = _
                  rw [g7]; rfl
              · refine p90 I4 _ y6 _ (i3 o6) ?_
                by_cases o9 : tkO B n q = 9
                · have nf : fulT (tkO B n q) V = false := ful_no (by omega)
                  refine sX11_nightLine_124 (h := (I4, h.2)) 313 _ y6 _ hl (Nat.le_refl _) ⟨fun z => absurd (i_ext (by rw [ey, o9]; rfl)) z, fun _ => ⟨_, c_num l G (I4, h.2) q 0 (fulT (tkO B n q) V) s 0 99 hl t4 k0 hs (by rw [o9]; decide) (n4 (by omega) 0) (n5 0 (by decide)) (by rw [o9]; rfl) (by rw [o9]; rfl) (by rw [o9]; decide) (L0 nf), fun y10 I8 c3 => ?_⟩⟩
                  obtain ⟨g1, g2, g3, g4⟩ := c3
                  rw [o9] at g3
                  have g3' : 0 ≤ y10.toInt ∧ y10.toInt ≤ 99 := g3
                  obtain ⟨P, hV, eP⟩ : ∃ P : Nat, y10.toInt = (P : Int) ∧ y10.toInt.toNat = P := ⟨y10.toInt.toNat, by omega, rfl⟩
                  have j5 : (5 + y10).toInt = ((5 + P : Nat) : Int) := ix_c (k := 5) (by rfl) hV (by decide) (by omega)
                  refine ⟨by omega, by omega, fun I15 c4 => ?_⟩
                  have d : WrI (I8, h.2) I15 316 (5 + P) 1 := wr_ix c4 j5
                  refine p147 I15 _ y6 _ (ne 10 10 rfl (by omega)) (ce I15 ?_)
                  refine ⟨g1.q.w16 d, LMq.fin (by omega) (by omega) (by rw [o9]; rw [o9] at g2; exact LMq.kp (h := (I8, h.2)) g2 (fun k _ => congrFun (d.f (by decide)) k) (d.f (by decide))), _, RwM.wr (h := (I8, h.2)) (x := 1) (RwM.kp (h := (I4, h.2)) r4 (g1.1 316 (by decide) (by decide))) d rfl, ⟨fun _ => ⟨by rw [upI_ne (by omega)]; exact (bd.1 rfl).1, by rw [upI_ne (by omega)]; exact (bd.1 rfl).2⟩, fun z => absurd z (by decide)⟩, fun z1 z2 => ?_⟩
                  have v0 := g4 (by rw [o9] at z1; exact z1) (fz_dn _ (by rw [o9] at z1; exact z1) z2)
                  rw [o9, tl_9, ← v0, eP]
                  refine ⟨rfl, ?_, ?_⟩
                  · rw [d.f (by decide)]
                    have : I8 313 9 = (I4, h.2).1 313 9 := g1.2.1 9 (by decide)
                    show (I8 313 9).toInt = _
                    rw [this]; rfl
                  · rw [d.f (by decide)]
                    have : I8 313 10 = (I4, h.2).1 313 10 := g1.2.1 10 (by decide)
                    show (I8 313 10).toInt = _
                    rw [this]; rfl
                · refine p124 I4 _ y6 _ (ne 9 9 rfl o9) ?_
                  by_cases o10 : tkO B n q = 10
                  · refine sX11_nightLine_147 (h := (I4, h.2)) 313 _ y6 _ hl (Nat.le_refl _) ⟨fun z => absurd (i_ext (by rw [ey, o10]; rfl)) z, fun _ => ⟨_, c_errandLine l G (I4, h.2) q s V _ hl t4 k0 hs o10 hwhere M r4 bd, fun I8 c3 => ?_⟩⟩
                    rw [← o10] at c3
                    exact p158 I8 _ _ _ (ce I8 c3)
                  · have o1' : tkO B n q = 1 := by omega
                    exact absurd (i_ext (by rw [ey, o1']; rfl)) c2
    · have o1' : tkO B n q = 1 := by
        rw [c3] at ey
        have : (1 : Int) = (tkO B n q : Int) := ey
        omega
      have nf : fulT (tkO B n q) V = false := ful_no (by omega)
      refine ⟨_, c_num l G (I4, h.2) q 0 (fulT (tkO B n q) V) s 2 8 hl t4 k0 hs (by rw [o1']; decide) (n4 (by omega) 0) (n5 0 (by decide)) (by rw [o1']; rfl) (by rw [o1']; rfl) (by rw [o1']; decide) (L0 nf), fun y19 I17 c4 I24 c5 => ?_⟩
      obtain ⟨g1, g2, g3, g4⟩ := c4
      have d : WrI (I17, h.2) I24 316 0 y19 := zwI_eff c5
      have f24 : FrQ (I4, h.2) I24 := g1.q.w16 d
      have r24 := RwM.wr (h := (I17, h.2)) (RwM.kp (h := (I4, h.2)) r4 (g1.1 316 (by decide) (by decide))) d rfl
      have L1 : LMq (I24, h.2) B n q (tkO B n q) (fulT (tkO B n q) V) s 1 := LMq.kp (h := (I17, h.2)) g2 (fun k _ => congrFun (d.f (by decide)) k) (d.f (by decide))
      refine ⟨_, c_num l G (I24, h.2) q 1 (fulT (tkO B n q) V) s 2 8 hl (f24.tp t4) k0 hs (by rw [o1']; decide) (n4 (by omega) 1) (fun z => by omega) (by rw [o1']; rfl) (by rw [o1']; rfl) (by rw [o1']; decide) L1, fun y32 I30 c6 I37 c7 => ?_⟩
      obtain ⟨k1, k2, k3, k4⟩ := c6
      have d2 : WrI (I30, h.2) I37 316 1 y32 := zwI_eff c7
      refine p44 I37 _ y6 _ (ne 2 2 rfl (by omega)) (p62 I37 _ y6 _ (ne 3 3 rfl (by omega)) (p72 I37 _ y6 _ (ne 4 4 rfl (by omega)) (p81 I37 _ y6 _ (ne 5 5 rfl (by omega)) (q90 I37 _ y6 _ (by omega) (ce I37 ?_)))))
      refine ⟨(f24.tr k1.q).w16 d2, LMq.fin (by omega) (by omega) (by rw [o1']; rw [o1'] at k2; exact LMq.kp (h := (I30, h.2)) k2 (fun k _ => congrFun (d2.f (by decide)) k) (d2.f (by decide))), _, RwM.wr (h := (I30, h.2)) (RwM.kp (h := (I24, h.2)) r24 (k1.1 316 (by decide) (by decide))) d2 rfl, ⟨fun _ => ⟨by rw [upI_ne (by decide), upI_ne (by decide)]; exact (bd.1 rfl).1, by rw [upI_ne (by decide), upI_ne (by decide)]; exact (bd.1 rfl).2⟩, fun z => absurd z (by decide)⟩, fun z1 z2 => ?_⟩
      have h2 : 2 ≤ hdB B n q := by rw [o1'] at z1; exact z1
      have v0 := g4 (by omega) (fz_dn _ (by omega) z2)
      have v1 := k4 (by omega) (fz_dn _ (by omega) z2)
      rw [o1', tl_1, v0, v1]
      refine ⟨rfl, ?_, ?_⟩
      · rw [d2.f (by decide)]
        have a1 : I30 313 9 = I24 313 9 := k1.2.1 9 (by decide)
        have a2 : I17 313 9 = I4 313 9 := g1.2.1 9 (by decide)
        show (I30 313 9).toInt = _
        rw [a1, d.f (by decide)]
        show (I17 313 9).toInt = _
        rw [a2]; rfl
      · rw [d2.f (by decide)]
        have a1 : I30 313 10 = I24 313 10 := k1.2.1 10 (by decide)
        have a2 : I17 313 10 = I4 313 10 := g1.2.1 10 (by decide)
        show (I30 313 10).toInt = _
        rw [a1, d.f (by decide)]
        show (I17 313 10).toInt = _
        rw [a2]; rfl
  · have nb : ¬ (tkK B n q = 3 ∧ 1 ≤ tkO B n q ∧ tkO B n q ≤ 10) := fun z => o1 (by
      unfold o1B okO
      rw [decide_eq_true z.1, if_pos rfl, decide_eq_true z.2]; rfl)
    obtain ⟨ey, M⟩ := tk2 nb
    subst ey
    refine ⟨fun c2 => ?_, fun c3 => absurd c3 (by decide)⟩
    exact p44 I4 _ 0 _ (by decide) (p62 I4 _ 0 _ (by decide) (p72 I4 _ 0 _ (by decide) (p81 I4 _ 0 _ (by decide) (q90 I4 _ 0 _ (by decide) (c_endW l G h 0 q s V I4 hl t o1 f4.q r4 bd M)))))
end K9U
