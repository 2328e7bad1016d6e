set_option maxRecDepth 4000
/-! ===== rows of signs: the fewest ===== -/
section K95
variable {V R : Nat → Int} {M : Nat}
theorem imax_M {x : Int32} (hx : x.toInt = (M : Int)) (h1 : 1 ≤ M) : (imax 1 x).toInt = (M : Int) := by
  unfold imax
  split
  · exact hx
  · rename_i c
    have : ¬ (1 : Int32).toInt < x.toInt := fun z => c (Int32.lt_iff_toInt_lt.mpr z)
    have e : (1 : Int32).toInt = 1 := rfl
    omega
def Fr5 (h : zH) (I : Nat → Nat → Int32) : Prop := (∀ b, b ≠ 150 → b ≠ 154 → b ≠ 155 → b ≠ 156 → I b = h.1 b) ∧ ∀ k, (k < 6 ∨ 10 < k) → I 150 k = h.1 150 k
theorem Fr5.tr {h : zH} {I J : Nat → Nat → Int32} (a : Fr5 h I) (c : Fr5 (I, h.2) J) : Fr5 h J := ⟨fun b z1 z2 z3 z4 => (c.1 b z1 z2 z3 z4).trans (a.1 b z1 z2 z3 z4), fun k z => (c.2 k z).trans (a.2 k z)⟩
theorem Fr4.to5 {h : zH} {I : Nat → Nat → Int32} (a : Fr4 h I) : Fr5 h I := ⟨a.1, fun k hk => a.2 k (by omega) (by omega)⟩
def mnR (V R : Nat → Int) (M : Nat) : Nat := mnL (vF (fF V R) noQ M (nR R))
def wcR (V R : Nat → Int) (M : Nat) : Nat := wcL (vF (fF V R) noQ M (nR R))
/-- what has been counted at last -/
def LsQ (J : Nat → Nat → Int32) (V R : Nat → Int) (M : Nat) (any : Bool) : Prop := (J 150 6).toInt = (mnR V R M : Int) ∧ Wst (J, (fun _ _ => none, fun _ => (0, 0), 0)) (rnW any (DS (fF V R) M (nR R) (mnR V R M) (nR R) 0 nx0 0) (0, nx0))
theorem c_fewestOf (l : Launch) (G : zG) (h : zH) (x1 : Int32) (any : Bool) (hl : lo4 h 150) (wr : WFR R) (rc : RowC V R (h.1 150) (h.1 151) (h.1 152)) (h1 : x1.toInt = (M : Int)) (hM : 1 ≤ M) (hM2 : M ≤ 10) :
    CTi l G YX4_fewestOf 14 [va_rf (some 150), .int x1, .int (zb any)] h (fun y I => y.toInt = (mnR V R M : Int) ∧ Fr5 h I ∧ (any = false → (I 150 9).toInt = (wcR V R M : Int) ∧ ∀ k, k < 10 → I 156 k = ov (fstN (fF V R) M (nR R) k))) := by
  have ev := nR_ok wr
  obtain ⟨w1, w2, w3, w4, w5, w6⟩ := lo4_w hl
  have mle : mnR V R M ≤ nR R := vF_le ev.2 hM
  have mge : (nR R + M - 1) / M ≤ mnR V R M := vF_ge ev.2 hM
  obtain ⟨dl, g0, l0, dg⟩ := DS_at (F := fF V R) ev.2 hM
  have dl : (DS (fF V R) M (nR R) (mnR V R M) (nR R) 0 nx0 0).length = wcR V R M := dl
  have dg : DS (fF V R) M (nR R) (mnR V R M) (nR R) 0 nx0 0 = g0 :: l0 := dg
  have fst : fstN (fF V R) M (nR R) = g0 := by
    show ((DS (fF V R) M (nR R) (mnR V R M) (nR R) 0 nx0 0).head?).getD nx0 = g0
    rw [dg]; rfl
  have zb0 : zb any = 0 ↔ any = false := by
    cases any with
    | true => exact ⟨fun z => absurd z (by decide), fun z => by cases z⟩
    | false => exact ⟨fun _ => rfl, fun _ => rfl⟩
  -- what is answered
  have fin : ∀ (J : Nat → Nat → Int32), Fr5 h J → LsQ J V R M any → (J 150 6).toInt = (mnR V R M : Int) ∧ Fr5 h J ∧ (any = false → (J 150 9).toInt = (wcR V R M : Int) ∧ ∀ k, k < 10 → J 156 k = ov (fstN (fF V R) M (nR R) k)) := fun J fr ⟨q1, q2⟩ => by
    refine ⟨q1, fr, fun ha => ?_⟩
    subst ha
    obtain ⟨y1, y2⟩ := q2
    rw [dg] at y1 y2
    have hd := rnW_hd (any := false) (x := g0) (X := l0) (fd := nx0)
    have y2 := y2 hd.1
    rw [hd.2] at y2
    rw [rnW_all, ← dg, dl, Nat.zero_add] at y1
    exact ⟨y1, fun k hk => by rw [fst]; exact y2 k hk⟩
  have loop : ∀ (fu c : Nat) (u3 : Value) (x4 : Int32) (J : Nat → Nat → Int32), mnR V R M + 1 - c < fu → x4.toInt = (c : Int) → Fr5 h J → (J 150 7).toInt = (M : Int) → J 150 8 = zb any → ((c ≤ mnR V R M ∧ J 150 9 = 0) ∨ (c = mnR V R M + 1 ∧ LsQ J V R M any)) →
      Z l G mX4_fewestOf 14 (fun v h2 => ∃ y I1, v = some (.int y) ∧ h2 = (I1, h.2) ∧ (y.toInt = (mnR V R M : Int) ∧ Fr5 h I1 ∧ (any = false → (I1 150 9).toInt = (wcR V R M : Int) ∧ ∀ k, k < 10 → I1 156 k = ov (fstN (fF V R) M (nR R) k)))) 0 0 39 [va_rf (some 150), .int x1, .int (zb any), u3, .int x4] [] (J, h.2) := by
    intro fu
    induction fu with
    | zero => intro c u3 x4 J q; omega
    | succ fu ih =>
      intro c u3 x4 J q h4 fr v7 v8 st
      have v0 : (zI (J, h.2) 150 0).toInt = R 0 := by show (J 150 0).toInt = _; rw [fr.2 0 (by decide)]; exact rc.1
      have cM : c ≤ mnR V R M + 1 := by rcases st with ⟨z, _⟩ | ⟨z, _⟩ <;> omega
      refine sX4_fewestOf_39 (h := (J, h.2)) 150 x1 any u3 x4 hl (Nat.le_refl _) ⟨fun c1 => ?_, fun c2 => ⟨fun c3 => ?_, fun c4 I9 c5 I12 c6 => ?_⟩⟩
      · rcases st with ⟨z, _⟩ | ⟨_, z⟩
        · omega
        · exact ⟨_, J, rfl, rfl, fin J fr z⟩
      · rcases st with ⟨_, z⟩ | ⟨_, z⟩
        · exact absurd z c3
        · exact ⟨_, J, rfl, rfl, fin J fr z⟩
      · have c4' : J 150 9 = 0 := c4
        have cl : c ≤ mnR V R M := by
          rcases st with ⟨z, _⟩ | ⟨_, z⟩
          · exact z
          · have hd := rnW_hd (any := any) (x := g0) (X := l0) (fd := nx0)
            have z1 := z.2.1
            rw [dg] at z1
            have z2 : (J 150 9).toInt = ((rnW any (g0 :: l0) (0, nx0)).1 : Int) := z1
            rw [c4'] at z2
            have z3 : (0 : Int) = ((rnW any (g0 :: l0) (0, nx0)).1 : Int) := z2
            omega
        obtain ⟨a1, a2, a3⟩ := zwI_eff c5
        obtain ⟨b1, b2, b3⟩ := zwI_eff c6
        refine ⟨_, c_fill l G (I12, h.2) 154 10 (-1) w4 (by decide), fun I18 c7 => ⟨_, c_fill l G (I18, h.2) 155 10 (-1) w5 (by decide), fun I27 c8 => ?_⟩⟩
        have e18 : ∀ b, b ≠ 154 → I18 b = I12 b := fun b hb => by rw [c7]; funext k; exact if_neg (fun z => hb z.1)
        have e27 : ∀ b, b ≠ 155 → I27 b = I18 b := fun b hb => by rw [c8]; funext k; exact if_neg (fun z => hb z.1)
        have f54 : ∀ k, k < 10 → I27 154 k = -1 := fun k hk => by rw [e27 154 (by decide), c7]; exact if_pos ⟨rfl, hk⟩
        have f55 : ∀ k, k < 10 → I27 155 k = -1 := fun k hk => by rw [c8]; exact if_pos ⟨rfl, hk⟩
        have e150 : ∀ k, k ≠ 6 → k ≠ 10 → I27 150 k = J 150 k := fun k z1 z2 => by
          rw [e27 150 (by decide), e18 150 (by decide), b2 k z2]; exact a2 k z1
        have v10 : I27 150 10 = 0 := by rw [e27 150 (by decide), e18 150 (by decide), b3]
        have v6 : I27 150 6 = x4 := by
          rw [e27 150 (by decide), e18 150 (by decide), b2 6 (by decide)]
          show I9 150 6 = _
          exact a3
        have eo : ∀ b, b ≠ 150 → b ≠ 154 → b ≠ 155 → I27 b = J b := fun b z1 z2 z3 => (e27 b z3).trans ((e18 b z2).trans ((b1 b z1).trans (a1 b z1)))
        have fr27 : Fr5 (J, h.2) I27 := ⟨fun b z1 z2 z3 _ => eo b z1 z2 z3, fun k hk => e150 k (by omega) (by omega)⟩
        have sf : SRf (I27, h.2) V R M c any := by
          refine ⟨?_, fun k hk => ?_, ?_, ?_, ?_⟩
          · show (I27 150 0).toInt = _; rw [e150 0 (by decide) (by decide)]; exact v0
          · show I27 152 k = _
            rw [eo 152 (by decide) (by decide) (by decide), fr.1 152 (by decide) (by decide) (by decide) (by decide)]
            exact rc.2.2 k (by omega)
          · show (I27 150 6).toInt = _; rw [v6]; exact h4
          · show (I27 150 7).toInt = _; rw [e150 7 (by decide) (by decide)]; exact v7
          · show I27 150 8 = 0 ↔ _; rw [e150 8 (by decide) (by decide), v8]; exact zb0
        have sn : SRn (I27, h.2) (nR R) nx0 := by
          refine ⟨fun k hk => f54 k hk, fun b hb => ⟨fun a ha => absurd ha (by show ¬ (10 : Nat) = b; omega), fun _ => f55 b hb⟩, fun b hb => ?_⟩
          show ibt (I27 150 10) b = true ↔ _
          rw [v10, ibt_0]
          exact ⟨fun z => (by cases z), fun ⟨a, _, ha⟩ => absurd ha (by show ¬ (10 : Nat) = b; omega)⟩
        have ws : Wst (I27, h.2) (0, nx0) := ⟨by show (I27 150 9).toInt = _; rw [e150 9 (by decide) (by decide), c4']; rfl, fun z => absurd z (Nat.lt_irrefl 0)⟩
        have dl0 := DS_len0 (F := fF V R) (L := c) ev.2 hM
        have srch := c_search (L := c) l G wr hM hM2 (nR R) 0 0 nx0 (I27, h.2) 0 0 (0, nx0) (by omega) hl (PV_0 hM) sf sn ws rfl rfl (Nat.zero_le _) (by omega) (by show 0 + _ < _; omega)
        refine ⟨_, nR R + 3, by omega, srch, fun I36 ⟨z1, z2, z3⟩ => ?_⟩
        have fr36 : Fr5 h I36 := fr.tr (Fr5.tr (h := (J, h.2)) fr27 z1.to5)
        have k6 : I36 150 6 = I27 150 6 := z1.2 6 (by decide) (by decide)
        have k7 : I36 150 7 = I27 150 7 := z1.2 7 (by decide) (by decide)
        have k8 : I36 150 8 = I27 150 8 := z1.2 8 (by decide) (by decide)
        refine ih (c + 1) _ _ I36 (by omega) (i_1 h4 (by omega)) fr36 (by rw [k7, e150 7 (by decide) (by decide)]; exact v7) (by rw [k8, e150 8 (by decide) (by decide)]; exact v8) ?_
        by_cases ec : c = mnR V R M
        · subst ec
          exact Or.inr ⟨rfl, by rw [k6, v6]; exact h4, z3⟩
        · have d0 : DS (fF V R) M (nR R) c (nR R) 0 nx0 0 = [] := DS_lt ev.2 hM (show c < mnR V R M by omega)
          rw [d0] at z3
          exact Or.inl ⟨by omega, n_m0.mpr z3.1⟩
  refine kX4_fewestOf 150 x1 any (sX4_fewestOf_0 150 x1 any hl (Nat.le_refl _) (fun I1 c1 I4 c2 I7 c3 => ?_))
  obtain ⟨a1, a2, a3⟩ := zwI_eff c1
  obtain ⟨b1, b2, b3⟩ := zwI_eff c2
  obtain ⟨d1, d2, d3⟩ := zwI_eff c3
  have v7 : (zI (I7, h.2) 150 7).toInt = (M : Int) := by
    show (I7 150 7).toInt = _
    rw [d2 7 (by decide)]
    show (I4 150 7).toInt = _
    rw [b2 7 (by decide)]
    show (I1 150 7).toInt = _
    rw [a3]; exact imax_M h1 hM
  have v8 : I7 150 8 = zb any := by
    rw [d2 8 (by decide)]
    show I4 150 8 = _
    exact b3
  have f7 : Fr5 h I7 := ⟨fun b z1 _ _ _ => (d1 b z1).trans ((b1 b z1).trans (a1 b z1)), fun k hk => (d2 k (by omega)).trans ((b2 k (by omega)).trans (a2 k (by omega)))⟩
  have v0 : (zI (I7, h.2) 150 0).toInt = R 0 := by show (I7 150 0).toInt = _; rw [f7.2 0 (by decide)]; exact rc.1
  have e1 : (zI (I7, h.2) 150 0 + zI (I7, h.2) 150 7).toInt = ((nR R + M : Nat) : Int) := by rw [i_add (by omega) (by omega)]; omega
  have e2 : (zI (I7, h.2) 150 0 + zI (I7, h.2) 150 7 - 1).toInt = ((nR R + M - 1 : Nat) : Int) := by
    rw [i_sub (by rw [e1]; show _ ≤ _ - (1 : Int); omega) (by rw [e1]; show _ - (1 : Int) < _; omega), e1]
    show _ - (1 : Int) = _
    omega
  have e3 : ((zI (I7, h.2) 150 0 + zI (I7, h.2) 150 7 - 1) / zI (I7, h.2) 150 7).toInt = (((nR R + M - 1) / M : Nat) : Int) := by
    rw [n_div (by omega) (by omega), e2, v7, ← Int.natCast_ediv]
  refine ⟨fun z => ?_, loop (mnR V R M + 2) ((nR R + M - 1) / M) _ _ I7 (Nat.lt_succ_of_le (Nat.sub_le _ _)) e3 f7 v7 v8 (Or.inl ⟨mge, d3⟩)⟩
  have := n_m0.mp z
  omega
def FWq (V R : Nat → Int) (z3 z4 : Int32) (f : Nat → Int32) : Prop := z3.toInt = (mnR V R 10 : Int) ∧ z4.toInt = (wcR V R 10 : Int) ∧ ∀ k, k < 10 → f k = ov (fstN (fF V R) 10 (nR R) k)
theorem c_countFewest (l : Launch) (G : zG) (h : zH) (hl : lo4 h 150) (wr : WFR R) (rc : RKG FWq V R (h.1 150) (h.1 151) (h.1 152) (h.1 153)) :
    CTv l G YX4_countFewest 15 [va_rf (some 150)] h (fun I => (∀ b, b ≠ 150 → b ≠ 153 → b ≠ 154 → b ≠ 155 → b ≠ 156 → I b = h.1 b) ∧ RowC V R (I 150) (I 151) (I 152) ∧ FWq V R (I 150 3) (I 150 4) (I 153)) := by
  obtain ⟨w1, w2, w3, w4, w5, w6⟩ := lo4_w hl
  refine kX4_countFewest 150 (sX4_countFewest_0 150 hl (Nat.le_refl _) ⟨fun c1 => ⟨h.1, rfl, rfl, fun _ _ _ _ _ _ => rfl, rc.1, rc.2.resolve_left c1⟩, fun c2 => ⟨_, c_fewestOf (M := 10) l G h 10 false hl wr rc.1 rfl (by decide) (by decide), fun y10 I8 ⟨z1, z2, z3⟩ I14 c4 I17 c5 => ?_⟩⟩)
  obtain ⟨z3, z4⟩ := z3 rfl
  obtain ⟨a1, a2, a3⟩ := zwI_eff c4
  obtain ⟨b1, b2, b3⟩ := zwI_eff c5
  refine ⟨_, c_X10_copy l G (I17, h.2) 156 153 10 w6 w3 (by decide), fun I23 c6 => ⟨I23, rfl, rfl, fun b q1 q2 q3 q4 q5 => ?_, ?_, ?_, ?_, fun k hk => ?_⟩⟩
  · have : I23 b = I17 b := by rw [c6]; funext k; exact if_neg (fun z => q2 z.1)
    rw [this, b1 b q1]
    show I14 b = _
    rw [a1 b q1]; exact z2.1 b q1 q3 q4 q5
  · have e : ∀ b, b ≠ 153 → I23 b = I17 b := fun b hb => by rw [c6]; funext k; exact if_neg (fun z => hb z.1)
    have e0 : I23 150 0 = h.1 150 0 := by
      rw [e 150 (by decide), b2 0 (by decide)]
      show I14 150 0 = _
      rw [a2 0 (by decide)]; exact z2.2 0 (by decide)
    have eb : ∀ b, b = 151 ∨ b = 152 → I23 b = h.1 b := fun b hb => by
      rw [e b (by omega), b1 b (by omega)]
      show I14 b = _
      rw [a1 b (by omega)]; exact z2.1 b (by omega) (by omega) (by omega) (by omega)
    rw [eb 151 (Or.inl rfl), eb 152 (Or.inr rfl)]
    exact ⟨by rw [e0]; exact rc.1.1, rc.1.2⟩
  · have e : I23 150 3 = y10 := by
      rw [c6, show zcy (I17, h.2) 156 153 10 150 3 = I17 150 3 from if_neg (fun z => absurd z.1 (by decide)), b2 3 (by decide)]
      exact a3
    rw [e]; exact z1
  · have e : I23 150 4 = I8 150 9 := by
      rw [c6, show zcy (I17, h.2) 156 153 10 150 4 = I17 150 4 from if_neg (fun z => absurd z.1 (by decide)), b3]
      show I14 150 9 = _
      exact a2 9 (by decide)
    rw [e]; exact z3
  · have e : I23 153 k = I8 156 k := by
      rw [c6, show zcy (I17, h.2) 156 153 10 153 k = I17 156 k from if_pos ⟨rfl, hk⟩, b1 156 (by decide)]
      show I14 156 k = _
      rw [a1 156 (by decide)]
    rw [e]; exact z4 k hk
end K95
