set_option maxRecDepth 4000
/-! ===== texts: signs of the reference; its row is cleared ===== -/
section K9V
variable {B : Nat → Int} {n : Nat}
theorem c_signLine (l : Launch) (G : zG) (h : zH) (q : Nat) (s : Nat × Nat) (V : Nat → Int) (hl : lo11 h 313) (t : TpM h B n) (hs : s.1 ≠ 0 → s.2 < tkW B n q) (m : MSq h B n false q s) (rw_ : RwM h V) (bd : LnB 1 V) :
    CTv l G YX11_signLine 6 [va_rf (some 313)] h (fun I => NlP 1 h B n q s V I) := by
  have hwhere : (zI h 313 4).toInt = (tkW B n q : Int) := (m.2.1 rfl).2.2.1
  have e0 : (zI h (313 + 3) (zix (0 : Int32))).toInt = V 0 := rw_ 0 (by decide)
  have b0 := bd.2 rfl
  have t11 : (11 : Int32).toInt = 11 := rfl
  have nb : ∀ {I : Nat → Nat → Int32} {y : Int32}, FrN h I → ¬ y = 11 → (tkK B n q = 3 ∧ 11 ≤ tkO B n q ∧ tkO B n q ≤ 11 → y.toInt = (tkO B n q : Int) ∧ MSq (I, h.2) B n false (tkE B n q) s) → (¬ (tkK B n q = 3 ∧ 11 ≤ tkO B n q ∧ tkO B n q ≤ 11) → y = 0 ∧ MSq (I, h.2) B n true q (1, tkW B n q)) → CTv l G YX11_endsLine 5 [va_rf (some 313)] (I, h.2) (fun I2 => NlP 1 h B n q s V I2) := fun {I y} f ne a b => by
    have nb : ¬ (tkK B n q = 3 ∧ 11 ≤ tkO B n q ∧ tkO B n q ≤ 11) := fun z => ne (i_ext (by rw [(a z).1, t11]; omega))
    have o1 : ¬ o1B B n 1 q = true := fun z => by
      obtain ⟨k3, ok⟩ := o1_ok z
      have := ok_1 ok
      exact nb ⟨k3, by omega, by omega⟩
    exact c_endW l G h 1 q s V I hl t o1 f.q (RwM.kp rw_ (f.1 316 (by decide) (by decide))) bd (b nb).2
  have yes : ∀ {I : Nat → Nat → Int32} {y : Int32}, y = 11 → (tkK B n q = 3 ∧ 11 ≤ tkO B n q ∧ tkO B n q ≤ 11 → y.toInt = (tkO B n q : Int) ∧ MSq (I, h.2) B n false (tkE B n q) s) → (¬ (tkK B n q = 3 ∧ 11 ≤ tkO B n q ∧ tkO B n q ≤ 11) → y = 0 ∧ MSq (I, h.2) B n true q (1, tkW B n q)) → tkO B n q = 11 ∧ tkK B n q ≠ 0 ∧ o1B B n 1 q = true ∧ MSq (I, h.2) B n false (tkE B n q) s := fun {I y} e a b => by
    have c : tkK B n q = 3 ∧ 11 ≤ tkO B n q ∧ tkO B n q ≤ 11 := Decidable.byContradiction fun z => by
      have := (b z).1
      rw [e] at this; exact absurd this (by decide)
    have e11 : tkO B n q = 11 := by omega
    refine ⟨e11, by rw [c.1]; decide, ?_, (a c).2⟩
    unfold o1B okO
    rw [c.1, e11]; rfl
  have num := fun (g : zH) (hg : lo11 g 313) (tg : TpM g B n) (k0 : tkK B n q ≠ 0) (eo : tkO B n q = 11) (full : Bool) (i : Nat) (hi : i < 5) (x1 x2 : Int32) (h1 : x1.toInt = loT 11 i) (h2 : x2.toInt = hiT 11 i) (h3 : loT 11 i ≤ hiT 11 i) (L : LMq g B n q (tkO B n q) full s i) => c_num l G g q i full s x1 x2 hg tg k0 hs (by rw [eo]; exact hi) (fun z => by omega) (fun z => by omega) (by rw [eo]; exact h1) (by rw [eo]; exact h2) (by rw [eo]; exact h3) L
  refine kX11_signLine 313 (sX11_signLine_0 313 hl (Nat.le_refl _) ⟨fun c1 => ⟨_, c_takes l G h s q 11 11 11 11 hl t rfl rfl m, fun y11 I9 c2 => ?_⟩, fun c13 => ⟨_, c_takes l G h s q 11 11 11 11 hl t rfl rfl m, fun y98 I96 c14 => ?_⟩⟩)
  · obtain ⟨f9, a, b⟩ := c2
    refine ⟨fun c3 => ⟨_, nb f9 c3 a b, fun I22 c4 => ⟨I22, rfl, rfl, c4⟩⟩, fun c5 => ?_⟩
    obtain ⟨eo, k0, o1, M⟩ := yes c5 a b
    have hls : lsT (tkO B n q) = 5 := by rw [eo]; rfl
    have ff : fulT (tkO B n q) V = true := by rw [eo]; exact decide_eq_true (Or.inr (Or.inr ⟨rfl, by rw [← e0]; exact c1⟩))
    refine ⟨_, c_also l G (I9, h.2) s 3 (tkW B n q) (tkE B n q) false 3 _ hl rfl (by decide) hwhere M, fun I32 c6 => ?_⟩
    obtain ⟨u1, u2⟩ := c6
    rw [if_neg Bool.false_ne_true, al_nt (fun z => Or.inl (hs z))] at u2
    have L0 : LMq (I32, h.2) B n q (tkO B n q) (fulT (tkO B n q) V) s 0 := lm_0 u2 (by rw [ff]; rfl)
    have f32 : FrN h I32 := f9.tr u1
    refine ⟨_, num (I32, h.2) hl (f32.tp t) k0 eo _ 0 (by decide) 0 63 rfl rfl (by decide) L0, fun y43 I41 c7 => ⟨_, num (I41, h.2) hl (c7.1.tp (f32.tp t)) k0 eo _ 1 (by decide) 0 6 rfl rfl (by decide) c7.2.1, fun y52 I50 c8 => ⟨_, num (I50, h.2) hl (c8.1.tp (c7.1.tp (f32.tp t))) k0 eo _ 2 (by decide) 0 1 rfl rfl (by decide) c8.2.1, fun y61 I59 c9 => ⟨_, num (I59, h.2) hl (c9.1.tp (c8.1.tp (c7.1.tp (f32.tp t)))) k0 eo _ 3 (by decide) 0 3 rfl rfl (by decide) c9.2.1, fun y70 I68 c10 => ⟨_, num (I68, h.2) hl (c10.1.tp (c9.1.tp (c8.1.tp (c7.1.tp (f32.tp t))))) k0 eo _ 4 (by decide) 1 99 rfl rfl (by decide) c10.2.1, fun y79 I77 c11 => ?_⟩⟩⟩⟩⟩
    have f : FrN h I77 := ((((f32.tr c7.1).tr c8.1).tr c9.1).tr c10.1).tr c11.1
    refine ⟨_, c_endL l G h 1 q s V I77 hl t o1 ⟨f.q, LMq.fin (by omega) (by omega) (by rw [hls]; exact c11.2.1), V, rw_.kp (f.1 316 (by decide) (by decide)), bd, fun z1 z2 => ?_⟩, fun I87 c12 => ⟨I87, rfl, rfl, c12⟩⟩
    have := (fz_0 _ z2).2.1
    rw [ff] at this; cases this
  · obtain ⟨f9, a, b⟩ := c14
    refine ⟨fun c15 => ⟨_, nb f9 c15 a b, fun I109 c16 => ⟨I109, rfl, rfl, c16⟩⟩, fun c17 => ?_⟩
    obtain ⟨eo, k0, o1, M⟩ := yes c17 a b
    have hls : lsT (tkO B n q) = 5 := by rw [eo]; rfl
    have c13' : V 0 < 10 := by rw [← e0]; exact c13
    have ff : fulT (tkO B n q) V = false := by
      rw [eo]
      exact decide_eq_false (fun z => by
        rcases z with z | z | z
        · exact absurd z.1 (by decide)
        · exact absurd z.1 (by decide)
        · have := z.2; omega)
    obtain ⟨P, hV, eP⟩ : ∃ P : Nat, V 0 = (P : Int) ∧ (V 0).toNat = P := ⟨(V 0).toNat, by omega, rfl⟩
    have hP : P < 10 := by omega
    have L0 : LMq (I96, h.2) B n q (tkO B n q) (fulT (tkO B n q) V) s 0 := lm_0 M (by rw [ff]; rfl)
    refine ⟨_, num (I96, h.2) hl (f9.tp t) k0 eo _ 0 (by decide) 0 63 rfl rfl (by decide) L0, fun y121 I119 c18 => ⟨_, num (I119, h.2) hl (c18.1.tp (f9.tp t)) k0 eo _ 1 (by decide) 0 6 rfl rfl (by decide) c18.2.1, fun y130 I128 c19 => ⟨_, num (I128, h.2) hl (c19.1.tp (c18.1.tp (f9.tp t))) k0 eo _ 2 (by decide) 0 1 rfl rfl (by decide) c19.2.1, fun y139 I137 c20 => ⟨_, num (I137, h.2) hl (c20.1.tp (c19.1.tp (c18.1.tp (f9.tp t)))) k0 eo _ 3 (by decide) 0 3 rfl rfl (by decide) c20.2.1, fun y148 I146 c21 => ⟨_, num (I146, h.2) hl (c21.1.tp (c20.1.tp (c19.1.tp (c18.1.tp (f9.tp t))))) k0 eo _ 4 (by decide) 1 99 rfl rfl (by decide) c21.2.1, fun y157 I155 c22 => ?_⟩⟩⟩⟩⟩
    have f : FrN h I155 := ((((f9.tr c18.1).tr c19.1).tr c20.1).tr c21.1).tr c22.1
    have r0 : RwM (I155, h.2) V := rw_.kp (f.1 316 (by decide) (by decide))
    have ep : (zI (I155, h.2) (313 + 3) (zix (0 : Int32))).toInt = (P : Int) := (r0 0 (by decide)).trans hV
    have j0 := ix_5 ep (by omega)
    have j1 := ix_c (c := 1) (j := 1) j0 rfl (by omega) (by decide)
    have j2 := ix_c (c := 2) (j := 2) j0 rfl (by omega) (by decide)
    have j3 := ix_c (c := 3) (j := 3) j0 rfl (by omega) (by decide)
    have j4 := ix_c (c := 4) (j := 4) j0 rfl (by omega) (by decide)
    refine ⟨by omega, by omega, fun I164 c23 => ⟨by omega, by omega, fun I168 c24 => ⟨by omega, by omega, fun I172 c25 => ⟨by omega, by omega, fun I176 c26 => ⟨by omega, by omega, fun I180 c27 I185 c28 => ?_⟩⟩⟩⟩⟩
    have d1 : WrI (I155, h.2) I164 316 (1 + 5 * P) y121 := wr_ix c23 j0
    have d2 : WrI (I164, h.2) I168 316 (1 + 5 * P + 1) y130 := wr_ix c24 j1
    have d3 : WrI (I168, h.2) I172 316 (1 + 5 * P + 2) y139 := wr_ix c25 j2
    have d4 : WrI (I172, h.2) I176 316 (1 + 5 * P + 3) y148 := wr_ix c26 j3
    have d5 : WrI (I176, h.2) I180 316 (1 + 5 * P + 4) y157 := wr_ix c27 j4
    have r1 := r0.wr d1 rfl
    have r2 := r1.wr d2 rfl
    have r3 := r2.wr d3 rfl
    have r4 := r3.wr d4 rfl
    have r5 := r4.wr d5 rfl
    have e180 : (zI (I180, h.2) 316 0).toInt = (P : Int) := by
      rw [r5 0 (by decide), upI_ne (by omega), upI_ne (by omega), upI_ne (by omega), upI_ne (by omega), upI_ne (by omega)]; exact hV
    have d6 : WrI (I180, h.2) I185 316 0 (zI (I180, h.2) 316 0 + 1) := zwI_eff c28
    have r6 := r5.wr d6 (x := V 0 + 1) (by rw [i_1 e180 (by omega), hV]; omega)
    have f6 : FrQ h I185 := (((((f.q.w16 d1).w16 d2).w16 d3).w16 d4).w16 d5).w16 d6
    have o : ∀ b, b ≠ 316 → I185 b = I155 b := fun b z => (d6.f z).trans ((d5.f z).trans ((d4.f z).trans ((d3.f z).trans ((d2.f z).trans (d1.f z)))))
    have L5 : LMq (I185, h.2) B n q (tkO B n q) (fulT (tkO B n q) V) s 5 := LMq.kp (h := (I155, h.2)) c22.2.1 (fun k _ => congrFun (o 313 (by decide)) k) (o 314 (by decide))
    refine ⟨_, c_endL l G h 1 q s V I185 hl t o1 ⟨f6, LMq.fin (by omega) (by omega) (by rw [hls]; exact L5), _, r6, ⟨fun z => absurd z (by decide), fun _ => by rw [upI_at]; omega⟩, fun z1 z2 => ?_⟩, fun I191 c29 => ⟨I191, rfl, rfl, c29⟩⟩
    have hd5 : 5 ≤ hdB B n q := by rw [hls] at z1; exact z1
    have v0 := c18.2.2.2 (by omega) (fz_dn _ (by omega) z2)
    have v1 := c19.2.2.2 (by omega) (fz_dn _ (by omega) z2)
    have v2 := c20.2.2.2 (by omega) (fz_dn _ (by omega) z2)
    have v3 := c21.2.2.2 (by omega) (fz_dn _ (by omega) z2)
    have v4 := c22.2.2.2 (by omega) (fz_dn _ (by omega) z2)
    rw [eo, tl_11, eP, sdI_s, sdI_s, sdI_s, sdI_s, sdI_s, sdI_0, v0, v1, v2, v3, v4]
    refine ⟨rfl, ?_, ?_⟩
    · rw [o 313 (by decide)]
      have : I155 313 9 = h.1 313 9 := f.2.1 9 (by decide)
      rw [this]; rfl
    · rw [o 313 (by decide)]
      have : I155 313 10 = h.1 313 10 := f.2.1 10 (by decide)
      rw [this]; rfl
theorem c_clears (l : Launch) (G : zG) (h : zH) (sort : Nat) (x1 : Int32) (hl : lo11 h 313) (hs : x1.toInt = (sort : Int)) (hs2 : sort = 0 ∨ sort = 1) :
    CTv l G YX11_clears 1 [va_rf (some 313), .int x1] h (fun I => (∀ b, b ≠ 316 → I b = h.1 b) ∧ RwM (I, h.2) (V0s sort)) := by
  have V0f : ∀ p, p < 6 → V0n (125 + 33 * p) = -1 ∧ V0n (126 + 33 * p) = -1 ∧ V0n (127 + 33 * p) = -1 := by decide +kernel
  have V0o : ∀ w, w < 318 → ¬ (w = 0 ∨ w = 1 ∨ w = 2) → (∀ p, p < 6 → w ≠ 125 + 33 * p ∧ w ≠ 126 + 33 * p ∧ w ≠ 127 + 33 * p) → V0n w = 0 := fun w hw h1 h2 => by
    unfold V0n
    rw [if_neg (by omega), if_neg (by omega)]
    by_cases z : w < 120
    · rw [if_pos z]
    · rw [if_neg z]
      have := h2 ((w - 120) / 33) (by omega)
      exact if_neg (fun y => by omega)
  have loop2 : sort = 0 → ∀ (fu p : Nat) (x2 : Int32) (J : Nat → Nat → Int32), x2.toInt = (p : Int) → p ≤ 6 → 6 - p < fu → (∀ b, b ≠ 316 → J b = h.1 b) → (∀ w, w < 318 → (J 316 w).toInt = if (w = 0 ∨ w = 1 ∨ w = 2 ∨ ∃ p', p' < p ∧ (w = 125 + 33 * p' ∨ w = 126 + 33 * p' ∨ w = 127 + 33 * p')) then V0n w else 0) →
      Z l G mX11_clears 1 (fun v h1 => ∃ I, v = none ∧ h1 = (I, h.2) ∧ ((∀ b, b ≠ 316 → I b = h.1 b) ∧ RwM (I, h.2) (V0s sort))) 0 0 53 [va_rf (some 313), .int x1, .int x2] [] (J, h.2) := by
    intro s0 fu
    induction fu with
    | zero => intro p x2 J e2 q0 q1; omega
    | succ fu ih =>
      intro p x2 J e2 q0 q1 fr rows
      refine sX11_clears_53 (h := (J, h.2)) 313 x1 x2 hl (Nat.le_refl _) ⟨fun c1 => ⟨J, rfl, rfl, fr, fun w hw => ?_⟩, fun c2 => ?_⟩
      · have e6 : p = 6 := by omega
        subst e6
        show (J 316 w).toInt = V0s sort w
        rw [rows w hw, s0]
        show _ = V0n w
        by_cases z : (w = 0 ∨ w = 1 ∨ w = 2 ∨ ∃ p', p' < 6 ∧ (w = 125 + 33 * p' ∨ w = 126 + 33 * p' ∨ w = 127 + 33 * p'))
        · rw [if_pos z]
        · rw [if_neg z]
          refine (V0o w hw (fun y => z ?_) (fun p' hp' => ⟨fun y => z (Or.inr (Or.inr (Or.inr ⟨p', hp', Or.inl y⟩))), fun y => z (Or.inr (Or.inr (Or.inr ⟨p', hp', Or.inr (Or.inl y)⟩))), fun y => z (Or.inr (Or.inr (Or.inr ⟨p', hp', Or.inr (Or.inr y)⟩)))⟩)).symm
          rcases y with y | y | y
          · exact Or.inl y
          · exact Or.inr (Or.inl y)
          · exact Or.inr (Or.inr (Or.inl y))
      · have hp : p < 6 := by omega
        have i33 := ix_33 e2 hp
        have j5 := ix_c (c := 5) (j := 5) i33 rfl (by omega) (by decide)
        have j6 := ix_c (c := 6) (j := 6) i33 rfl (by omega) (by decide)
        have j7 := ix_c (c := 7) (j := 7) i33 rfl (by omega) (by decide)
        refine ⟨by omega, by omega, fun I6 c3 => ⟨by omega, by omega, fun I10 c4 => ⟨by omega, by omega, fun I14 c5 => ?_⟩⟩⟩
        have d1 : WrI (J, h.2) I6 316 (120 + 33 * p + 5) (-1) := wr_ix c3 j5
        have d2 : WrI (I6, h.2) I10 316 (120 + 33 * p + 6) (-1) := wr_ix c4 j6
        have d3 : WrI (I10, h.2) I14 316 (120 + 33 * p + 7) (-1) := wr_ix c5 j7
        have m1 : (-1 : Int32).toInt = -1 := rfl
        obtain ⟨v5, v6, v7⟩ := V0f p hp
        refine ih (p + 1) (x2 + 1) I14 (i_1 e2 (by omega)) (by omega) (by omega) (fun b z => (d3.f z).trans ((d2.f z).trans ((d1.f z).trans (fr b z)))) (fun w hw => ?_)
        by_cases z7 : w = 120 + 33 * p + 7
        · rw [z7, d3.2.2, m1, if_pos (Or.inr (Or.inr (Or.inr ⟨p, by omega, by omega⟩))), show 120 + 33 * p + 7 = 127 + 33 * p by omega, v7]
        · rw [d3.2.1 w z7]
          show (I10 316 w).toInt = _
          by_cases z6 : w = 120 + 33 * p + 6
          · rw [z6, d2.2.2, m1, if_pos (Or.inr (Or.inr (Or.inr ⟨p, by omega, by omega⟩))), show 120 + 33 * p + 6 = 126 + 33 * p by omega, v6]
          · rw [d2.2.1 w z6]
            show (I6 316 w).toInt = _
            by_cases z5 : w = 120 + 33 * p + 5
            · rw [z5, d1.2.2, m1, if_pos (Or.inr (Or.inr (Or.inr ⟨p, by omega, by omega⟩))), show 120 + 33 * p + 5 = 125 + 33 * p by omega, v5]
            · rw [d1.2.1 w z5]
              show (J 316 w).toInt = _
              rw [rows w hw]
              by_cases y : (w = 0 ∨ w = 1 ∨ w = 2 ∨ ∃ p', p' < p ∧ (w = 125 + 33 * p' ∨ w = 126 + 33 * p' ∨ w = 127 + 33 * p'))
              · rw [if_pos y, if_pos]
                rcases y with y | y | y | ⟨p', y1, y2⟩
                · exact Or.inl y
                · exact Or.inr (Or.inl y)
                · exact Or.inr (Or.inr (Or.inl y))
                · exact Or.inr (Or.inr (Or.inr ⟨p', by omega, y2⟩))
              · rw [if_neg y, if_neg]
                intro x
                rcases x with x | x | x | ⟨p', x1, x2⟩
                · exact y (Or.inl x)
                · exact y (Or.inr (Or.inl x))
                · exact y (Or.inr (Or.inr (Or.inl x)))
                · by_cases e : p' = p
                  · subst e; omega
                  · exact y (Or.inr (Or.inr (Or.inr ⟨p', by omega, x2⟩)))
  have loop : ∀ (fu i : Nat) (x2 : Int32) (J : Nat → Nat → Int32), x2.toInt = (i : Int) → i ≤ 318 → 318 - i < fu → (∀ b, b ≠ 316 → J b = h.1 b) → (∀ w, w < i → J 316 w = 0) →
      Z l G mX11_clears 1 (fun v h1 => ∃ I, v = none ∧ h1 = (I, h.2) ∧ ((∀ b, b ≠ 316 → I b = h.1 b) ∧ RwM (I, h.2) (V0s sort))) 0 0 2 [va_rf (some 313), .int x1, .int x2] [] (J, h.2) := by
    intro fu
    induction fu with
    | zero => intro i x2 J e2 q0 q1; omega
    | succ fu ih =>
      intro i x2 J e2 q0 q1 fr rows
      refine sX11_clears_2 (h := (J, h.2)) 313 x1 x2 hl (Nat.le_refl _) ⟨fun c1 => ⟨fun c2 I10 c3 I14 c4 I18 c5 => ?_, fun c6 => ⟨J, rfl, rfl, fr, fun w hw => ?_⟩⟩, fun c7 => ⟨by omega, by omega, fun I22 c8 => ?_⟩⟩
      · have s0 : sort = 0 := hs2.elim id (fun z => absurd (i_ext (by rw [hs, z]; rfl)) c2)
        have d1 : WrI (J, h.2) I10 316 0 6 := zwI_eff c3
        have d2 : WrI (I10, h.2) I14 316 1 6 := zwI_eff c4
        have d3 : WrI (I14, h.2) I18 316 2 2 := zwI_eff c5
        refine loop2 s0 7 0 0 I18 rfl (by decide) (by decide) (fun b z => (d3.f z).trans ((d2.f z).trans ((d1.f z).trans (fr b z)))) (fun w hw => ?_)
        by_cases z2 : w = 2
        · rw [z2, d3.2.2, if_pos (Or.inr (Or.inr (Or.inl rfl)))]; rfl
        · rw [d3.2.1 w z2]
          show (I14 316 w).toInt = _
          by_cases z1 : w = 1
          · rw [z1, d2.2.2, if_pos (Or.inr (Or.inl rfl))]; rfl
          · rw [d2.2.1 w z1]
            show (I10 316 w).toInt = _
            by_cases z0 : w = 0
            · rw [z0, d1.2.2, if_pos (Or.inl rfl)]; rfl
            · rw [d1.2.1 w z0]
              show (J 316 w).toInt = _
              rw [rows w (by omega), if_neg]
              · rfl
              · intro x
                rcases x with x | x | x | ⟨p', x1, x2⟩
                · exact z0 x
                · exact z1 x
                · exact z2 x
                · exact absurd x1 (Nat.not_lt_zero _)
      · have s1 : sort = 1 := by
          rw [c6] at hs
          have : (1 : Int) = (sort : Int) := hs
          omega
        show (J 316 w).toInt = V0s sort w
        rw [rows w (by omega), s1]; rfl
      · have d : WrI (J, h.2) I22 316 i 0 := wr_ix c8 e2
        refine ih (i + 1) (x2 + 1) I22 (i_1 e2 (by omega)) (by omega) (by omega) (fun b z => (d.f z).trans (fr b z)) (fun w hw => ?_)
        by_cases z : w = i
        · rw [z]; exact d.2.2
        · rw [d.2.1 w z]; exact rows w (by omega)
  exact kX11_clears 313 x1 (sX11_clears_0 (h := h) 313 x1 hl (Nat.le_refl _) (loop 319 0 0 h.1 rfl (by decide) (by decide) (fun _ _ => rfl) (fun w hw => absurd hw (Nat.not_lt_zero w))))
end K9V
