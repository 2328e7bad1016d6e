set_option maxRecDepth 4000
section K9Z
variable {TK : (Nat → Int) → (Nat → Int32) → (Nat → Int32) → Prop} {RK : (Nat → Int) → (Nat → Int) → (Nat → Int32) → (Nat → Int32) → (Nat → Int32) → (Nat → Int32) → Prop}
theorem pr_8 {B : Nat → Int} {n sort : Nat} (s0 : sort = 0) : ∀ (f q : Nat) (S : TxS), n - q < f → q ≤ n → WI0 S.2.1 S.2.2.1 S.2.2.2 → ∀ p, p < 6 → (prB B n sort f q S).2 (128 + 33 * p) ≤ 24
  | 0, q, S, h, _, _, _, _ => by omega
  | f + 1, q, S, h, hq, w, p, hp => by
    unfold prB
    split
    · exact w.p8 p hp
    · split
      · rename_i h1
        split
        · rename_i h2
          have g := nx_go h1 h2
          have ws : WIs sort S.2.1 S.2.2.1 S.2.2.2 := ⟨fun _ => w, fun z => by omega⟩
          exact pr_8 s0 f (nxB B n q) (stB B n q S) (by omega) g.2.1 ((stB_ws (Or.inl s0) h1 h2 ws).1 s0) p hp
        · exact w.p8 p hp
      · exact w.p8 p hp
theorem pp_text (l : Launch) (G : zG) (gt : GTab G) : P_text (KeptP TK RK) l G := fun x1 x2 h hI => by
  obtain ⟨l1, l2, hN, hT, hIm, hK⟩ := id hI
  obtain ⟨q1, q2, q3, q4, q5, q6, q7, q8⟩ := hT
  obtain ⟨n, hn⟩ : ∃ n : Nat, (AL h 2).toInt = (n : Int) := ⟨(AL h 2).toInt.toNat, by have : 0 ≤ (AL h 2).toInt := q2.2.1; omega⟩
  have n6 : n ≤ 600 := by have : (AL h 2).toInt ≤ 600 := q2.2.2; omega
  have z1 : zI h 1 1 = AL h 2 := q2.1
  have e5 : zI h 1 5 = zI h 314 0 := q5.1
  have e7 : zI h 1 7 = zI h 314 1 := q6.1
  have r0 : 0 ≤ (zI h 314 0).toInt ∧ (zI h 314 0).toInt ≤ 2 := q5.2
  have r1 : 0 ≤ (zI h 314 1).toInt ∧ (zI h 314 1).toInt ≤ 2 := q6.2
  have hB : ∀ i, i < n → (zI h 314 (10 + i)).toInt = (AL h (10 + i)).toInt ∧ 0 ≤ (AL h (10 + i)).toInt ∧ (AL h (10 + i)).toInt < 256 := fun i hi => by
    have := (q1 i (by omega)).2
    rw [show 0 + 10 + i = 10 + i by omega] at this
    exact ⟨rfl, this⟩
  have hb2 : ∀ i, i < n → (zI h 2 i).toInt = (AL h (10 + i)).toInt ∧ 0 ≤ (AL h (10 + i)).toInt ∧ (AL h (10 + i)).toInt < 256 := fun i hi => by
    have := q1 i (by omega)
    rw [show 0 + 10 + i = 10 + i by omega] at this
    exact ⟨congrArg Int32.toInt this.1, this.2⟩
  have lo6h : lo6 h 1 := los_10_1 l1
  have lo5h : lo5 h 55 := zlo.sub l1 55 (by decide +kernel) (by decide +kernel) (by decide +kernel)
  have za2 : zAw h 2 600 := l1.w 2 rfl
  obtain ⟨x, ex⟩ : ∃ x, x = (zwR h 55 4 (some 2)).2 := ⟨_, rfl⟩
  have r10 : ∀ e, e ∈ rs10 → ¬ (e.1 = 55 ∧ e.2.1 = 4) := by decide +kernel
  have lx1 : ∀ I : Nat → Nat → Int32, lo10 (I, x) 0 := fun I => by
    rw [ex]
    exact zlo.wR l1 (fun e he z => r10 e he ⟨by omega, z.2⟩)
  have r11 : ∀ e, e ∈ rs11 → ¬ (313 + e.1 = 55) := fun e _ z => by omega
  have lx2 : ∀ I : Nat → Nat → Int32, lo11 (I, x) 313 := fun I => by
    rw [ex]
    exact zlo.wR l2 (fun e he z => r11 e he z.1)
  have kx : ∀ (I : Nat → Nat → Int32) b, zK (I, x) b = zK h b := fun I b => by rw [ex]; rfl
  have nx : ∀ I : Nat → Nat → Int32, zN (I, x) = 339 := fun I => by rw [ex]; exact hN
  -- the model behind any of the class's ends
  have model : ∀ (I : Nat → Nat → Int32) (y : (Nat → Nat → Option Nat) × (Nat → Nat × Nat) × Nat), lo11 (I, y) 313 → I 314 = h.1 314 → CTi l G YX11_text 9 (va_rf (some 313) :: [.int x1, .int x2]) (I, y) (fun v I2 => TxP (I, y) (fun i => (AL h (10 + i)).toInt) n x1 x2 v I2) := fun I y hl e => by
    refine c_textM l G (I, y) x1 x2 hl (fun i hi => ?_) n6 ?_ ?_ ?_
    · show (I 314 (10 + i)).toInt = _ ∧ _
      rw [e]; exact hB i hi
    · show (I 314 2).toInt = _
      rw [e]; exact hn
    · show 0 ≤ (I 314 0).toInt ∧ (I 314 0).toInt ≤ 2
      rw [e]; exact r0
    · show 0 ≤ (I 314 1).toInt ∧ (I 314 1).toInt ≤ 2
      rw [e]; exact r1
  -- how the class begins
  have pre : ∀ (I1 I4 I7 : Nat → Nat → Int32), I1 = (zwI h 1 1 (0 : Int32)).1 → I4 = (zwI (I1, h.2) 1 2 (0 : Int32)).1 → I7 = (zwI (I4, h.2) 1 3 (-1 : Int32)).1 → (∀ b, b ≠ 1 → I7 b = h.1 b) ∧ I7 1 1 = 0 ∧ I7 1 2 = 0 ∧ I7 1 3 = -1 ∧ ∀ k, k ≠ 1 → k ≠ 2 → k ≠ 3 → I7 1 k = h.1 1 k := fun I1 I4 I7 c1 c2 c3 => by
    have d1 : WrI h I1 1 1 0 := zwI_eff c1
    have d2 : WrI (I1, h.2) I4 1 2 0 := zwI_eff c2
    have d3 : WrI (I4, h.2) I7 1 3 (-1) := zwI_eff c3
    exact ⟨fun b z => (d3.f z).trans ((d2.f z).trans (d1.f z)), (d3.2.1 1 (by decide)).trans ((d2.2.1 1 (by decide)).trans d1.2.2), (d3.2.1 2 (by decide)).trans d2.2.2, d3.2.2, fun k a b c => (d3.2.1 k c).trans ((d2.2.1 k b).trans (d1.2.1 k a))⟩
  have slot : ∀ I7 : Nat → Nat → Int32, (∀ b, b ≠ 1 → I7 b = h.1 b) → (∀ k, k ≠ 1 → k ≠ 2 → k ≠ 3 → I7 1 k = h.1 1 k) → CTi l G YX6_slotFor 1 [va_rf (some 1), .int x1, .int x2] (I7, h.2) (fun y I => I = I7 ∧ (okT h x1 x2 → y = kT h x1 x2) ∧ (¬ okT h x1 x2 → y = -1)) := fun I7 o7 k7 => by
    have e314 : I7 314 = h.1 314 := o7 314 (by decide)
    refine CT.mono (c_slotFor l G (I7, h.2) x1 x2 lo6h ?_ ?_) rfl (fun v g e => ?_)
    · show I7 1 5 = I7 314 0
      rw [e314, k7 5 (by decide) (by decide) (by decide)]; exact e5
    · show I7 1 7 = I7 314 1
      rw [e314, k7 7 (by decide) (by decide) (by decide)]; exact e7
    · obtain ⟨y, I, a1, a2, a3, a4, a5⟩ := e
      rw [okT_cg e314, kT_cg e314] at a4
      rw [okT_cg e314] at a5
      exact ⟨y, I, a1, a2, a3, a4, a5⟩
  by_cases ok : okT h x1 x2
  · -- a sort and a slot there are
    have hx : ∃ sort : Nat, x1.toInt = (sort : Int) ∧ (sort = 0 ∨ sort = 1) := by
      rcases ok.1 with e | e
      · exact ⟨0, by rw [e]; rfl, Or.inl rfl⟩
      · exact ⟨1, by rw [e]; rfl, Or.inr rfl⟩
    obtain ⟨sort, e1, hs2⟩ := hx
    have es : zix x1 = sort := zix_of e1
    have rs : 0 ≤ (zI h 314 sort).toInt ∧ (zI h 314 sort).toInt ≤ 2 := by rcases hs2 with e | e <;> (subst e; assumption)
    have kk : 0 ≤ (kT h x1 x2).toInt ∧ (kT h x1 x2).toInt < 2 ∧ (x2 = -1 → (kT h x1 x2).toInt = (zI h 314 sort).toInt) ∧ (¬ x2 = -1 → (kT h x1 x2).toInt < (zI h 314 sort).toInt) := by
      have o2 := ok.2
      unfold kT
      by_cases c : x2 = -1
      · rw [if_pos c, es] at o2
        rw [if_pos c, es]
        exact ⟨rs.1, o2, fun _ => rfl, fun z => absurd c z⟩
      · rw [if_neg c, es] at o2
        rw [if_neg c]
        exact ⟨o2.1, by omega, fun z => absurd z c, fun _ => o2.2⟩
    obtain ⟨K, hKt⟩ : ∃ K : Nat, (kT h x1 x2).toInt = (K : Int) := ⟨(kT h x1 x2).toInt.toNat, by omega⟩
    have hK2 : K < 2 := by omega
    have kne : ¬ kT h x1 x2 = -1 := fun z => by rw [z] at hKt; have : (-1 : Int) = (K : Int) := hKt; omega
    obtain ⟨R, eR⟩ : ∃ R, R = prB (fun i => (AL h (10 + i)).toInt) n sort (n + 1) 0 (S0s sort) := ⟨_, rfl⟩
    have read : ∀ I7 : Nat → Nat → Int32, (∀ b, b ≠ 1 → I7 b = h.1 b) → CTzG l G YX5_read 8 [va_rf (some 55), va_rf (some 2), .int (zI h 1 1), .int x1] (I7, h.2) (fun y g => ∃ I, g = (I, x) ∧ RdP (I7, h.2) x sort R y I) := fun I7 o7 => by
      refine CT.mono (c_read (B := fun i => (AL h (10 + i)).toInt) (n := n) l G gt (I7, h.2) sort (zI h 1 1) x1 lo5h za2 (fun i hi => ?_) n6 ?_ e1 hs2) rfl (fun v g e => ?_)
      · show (I7 2 i).toInt = _ ∧ _
        rw [o7 2 (by decide)]; exact hb2 i hi
      · rw [z1]; exact hn
      · obtain ⟨y, a1, I, a2, a3⟩ := e
        have exx : (zwR (I7, h.2) 55 4 (some 2)).2 = x := by rw [ex]; rfl
        rw [exx, ← eR] at a3
        rw [exx] at a2
        exact ⟨y, a1, I, a2, a3⟩
    by_cases R0 : R.1.1 = 0
    · have wf := pr_ok (B := fun i => (AL h (10 + i)).toInt) (n := n) hs2 (n + 1) 0 (S0s sort) (by omega) (Nat.zero_le _) (WIs_0 hs2) (by rw [← eR]; exact R0)
      rw [← eR] at wf
      rcases hs2 with s0 | s1
      · -- a night
        subst s0
        have ex1 : x1 = 0 := i_ext e1
        have w := wf.1 rfl
        have w3 := w.2.2.2.1
        have w4 := w.2.2.2.2.1
        refine ⟨kT h x1 x2, fun g => ∃ I, g = (I, x) ∧ (I 0 11 = -1 ∧ I 0 13 = -1) ∧ (∀ b, b ≠ 0 → b ≠ 1 → (b < 5 + 18 * K ∨ 5 + 18 * K + 18 ≤ b) → (b < 55 ∨ 81 ≤ b) → I b = h.1 b) ∧ (I 1 1 = 0 ∧ I 1 2 = 0 ∧ I 1 3 = -1) ∧ I 1 5 = imax (zI h 1 5) (kT h x1 x2 + 1) ∧ I 1 7 = h.1 1 7 ∧ NObj (I, x) (5 + 18 * K) R.2, ?_, ?_, ?_⟩
        · refine kX10_text 0 x1 x2 (sX10_text_0 0 x1 x2 l1 (Nat.le_refl _) (fun I1 c1 I4 c2 I7 c3 => ?_))
          obtain ⟨o7, a1, a2, a3, ak⟩ := pre I1 I4 I7 c1 c2 c3
          refine ⟨_, slot I7 o7 ak, fun y15 I13 c4 => ?_⟩
          obtain ⟨b1, b2, _⟩ := c4
          have ey := b2 ok
          subst b1
          subst ey
          refine ⟨fun c5 => ⟨_, read I13 o7, fun y28 g31 c6 => ?_⟩, fun c17 => absurd c17 kne⟩
          obtain ⟨I31, eg, p1, p2, p3, p4⟩ := c6
          subst eg
          refine ⟨lx1 I31, fun c7 => ⟨fun c8 => absurd ex1 c8, fun c11 => ?_⟩, fun c14 => absurd (p2.mpr R0) (by rw [c14]; decide)⟩
          refine ⟨_, c_tellNight l G (I31, x) (kT h x1 x2) K (lx1 I31) hKt hK2, fun I63 c12 => ⟨_, c_X10_forget l G (I63, x) 0 (lx1 I63), fun I72 c13 => ⟨_, rfl, rfl, I72, rfl, ?_⟩⟩⟩
          obtain ⟨t1, t2, t3, t4⟩ := c12
          have f1 : ∀ b, b ≠ 0 → I72 b = I63 b := fun b z => by
            funext k
            rw [c13 b k]; exact if_neg (fun y => z y.1)
          have g1 : ∀ k, I31 1 k = I13 1 k := fun k => congrFun (p1 1 (by decide)) k
          have no : NObj (I63, x) (5 + 18 * K) R.2 := NObj.cp w (NXo.obj ((p4 c7).1 rfl) w3.2 w4.2 (fun p hp => by
            have hsz : ∀ p, p < 6 → R.2 (128 + 33 * p) ≤ 24 := fun p hp => by
              have := pr_8 (B := fun i => (AL h (10 + i)).toInt) (n := n) (sort := 0) rfl (n + 1) 0 (S0s 0) (by omega) (Nat.zero_le _) WI0_0 p hp
              rw [← eR] at this; exact this
            exact hsz p hp)) t4
          refine ⟨⟨?_, ?_⟩, fun b z0 z1 z2 z3 => ?_, ⟨?_, ?_, ?_⟩, ?_, ?_, ?_⟩
          · rw [c13]; exact if_pos (by decide)
          · rw [c13]; exact if_pos (by decide)
          · rw [f1 b z0, t1 b z1 z2]
            show I31 b = _
            rw [p1 b z3]; exact o7 b z1
          · rw [f1 1 (by decide), t2 1 (by decide)]; exact (g1 1).trans a1
          · rw [f1 1 (by decide), t2 2 (by decide)]; exact (g1 2).trans a2
          · rw [f1 1 (by decide), t2 3 (by decide)]; exact (g1 3).trans a3
          · rw [f1 1 (by decide), t3]
            show imax (I31 1 5) _ = _
            rw [g1 5, ak 5 (by decide) (by decide) (by decide)]; rfl
          · rw [f1 1 (by decide), t2 7 (by decide)]
            show I31 1 7 = _
            rw [g1 7]; exact ak 7 (by decide) (by decide) (by decide)
          · exact NObj.cp w no (NCp.eq (h := (I63, x)) (fun b b1 b2 => f1 b (by omega)))
        · intro g ⟨I, e, _, hb, _⟩
          subst e
          exact ⟨lx1 I, lx2 I, fun j => congrFun (hb 1000000 (by decide) (by decide) (by omega) (by decide)) j, kx I⟩
        · intro g ⟨I, e, i0, hb, i1, i5, i7, ino⟩
          subst e
          have e314 : I 314 = h.1 314 := hb 314 (by decide) (by decide) (by omega) (by decide)
          refine CT.mono (model I x (lx2 I) e314) rfl (fun v g e => ?_)
          obtain ⟨y, I2, a1, a2, t1, t2, _, t4⟩ := e
          have tr := t4 ((okT_cg e314).mpr ok) 0 e1
          unfold TxR at tr
          rw [← eR] at tr
          obtain ⟨u1, _, u3⟩ := tr
          obtain ⟨K', v1, v2, v3, v4, v5, v6⟩ := u3 R0
          have v2' : y = kT h x1 x2 := by rw [v2]; exact kT_cg e314
          have eK : K' = K := by rw [v2', hKt] at v3; omega
          subst eK
          have sb : ∀ b, b ≠ 0 → b ≠ 1 → b ≠ 313 → b ≠ 314 → b ≠ 316 → (b < 5 + 18 * K' ∨ 5 + 18 * K' + 18 ≤ b) → (b < 55 ∨ 81 ≤ b) → I2 b = h.1 b := fun b z0 z1 z2 z3 z4 z5 z6 => (t1 b z2 z3 z4).trans (hb b z0 z1 z5 z6)
          have al : ∀ j, j ≠ 2 → j ≠ 3 → j ≠ 4 → j ≠ 0 → (j < 610 + 318 * K' ∨ 610 + 318 * K' + 318 ≤ j) → I2 314 j = h.1 314 j := fun j y1 y2 y3 y4 y5 => (v6 j y1 y2 y3 (fun z => y4 z.2) y5).trans (congrFun e314 j)
          have e11 : I2 1 = I 1 := t1 1 (by decide) (by decide) (by decide)
          have c0' : I2 314 0 = if x2 = -1 then kT h x1 x2 + 1 else zI h 314 0 := by
            by_cases c : x2 = -1
            · rw [if_pos c]
              refine i_ext ?_
              rw [v5 c, i_1 hKt (by omega)]; omega
            · rw [if_neg c]
              exact (v6 0 (by decide) (by decide) (by decide) (fun z => c z.1) (by show 0 < 610 + 318 * K' ∨ _; omega)).trans (congrFun e314 0)
          have kp1 : (kT h x1 x2 + 1).toInt = (K' : Int) + 1 := by rw [i_1 hKt (by omega)]; omega
          have c0 : I2 1 5 = I2 314 0 := by
            rw [e11, i5, c0', e5]
            by_cases c : x2 = -1
            · rw [if_pos c]
              have := kk.2.2.1 c
              refine i_ext ?_
              rw [imax_t, kp1]; omega
            · rw [if_neg c]
              have := kk.2.2.2 c
              refine i_ext ?_
              rw [imax_t, kp1]; omega
          have c0r : 0 ≤ (I2 314 0).toInt ∧ (I2 314 0).toInt ≤ 2 ∧ ∀ i : Nat, (i : Int) < (I2 314 0).toInt → i = K' ∨ (i : Int) < (zI h 314 0).toInt := by
            rw [c0']
            by_cases c : x2 = -1
            · have := kk.2.2.1 c
              rw [if_pos c, kp1]
              exact ⟨by omega, by omega, fun i hi => by omega⟩
            · rw [if_neg c]
              exact ⟨r0.1, r0.2, fun i hi => Or.inr hi⟩
          have f3 : I2 314 3 = 0 := i_ext (by have := u1.1; rw [R0] at this; exact this)
          have f4 : I2 314 4 = -1 := u1.2.1 R0
          have eRW : ∀ w', w' < 318 → RW (I2, x) (610 + 318 * K') w' = R.2 w' := fun w' hw => by rw [RW_at hw]; exact v4 w' hw
          refine ⟨y, I2, a1, a2, v2', Inv.txt hI (lx1 I2) (lx2 I2) (nx I2) (sb 2 (by decide) (by decide) (by decide) (by decide) (by decide) (by omega) (by decide)) (sb 54 (by decide) (by decide) (by decide) (by decide) (by decide) (by omega) (by decide)) (sb 315 (by decide) (by decide) (by decide) (by decide) (by decide) (by omega) (by decide)) (fun b b1 b2 => sb b (by omega) (by omega) (by omega) (by omega) (by omega) (by omega) (by omega)) (fun j => ⟨fun _ _ => al j (by omega) (by omega) (by omega) (by omega) (by omega), fun _ => al j (by omega) (by omega) (by omega) (by omega) (by omega)⟩) ⟨by rw [e11, i1.1, t2], by rw [t2]; decide, by rw [t2]; decide⟩ (by rw [e11, i1.2.1, f3]) (by rw [e11, i1.2.2, f4]) ⟨c0, c0r.1, c0r.2.1⟩ ?_ (fun i hi => ?_) (fun i hi => ?_) ⟨Or.inl ?_, Or.inl ?_⟩⟩
          · rw [e11, i7, al 1 (by decide) (by decide) (by decide) (by decide) (by omega)]; exact q6
          · by_cases z : i = K'
            · subst z
              refine ⟨WFN.cg eRW w, NObj.cg eRW w (NObj.cp w ino (NCp.eq (h := (I, x)) (fun b b1 b2 => t1 b (by omega) (by omega) (by omega))))⟩
            · have hi0 : (i : Int) < (zI h 314 0).toInt := (c0r.2.2 i hi).elim (fun y => absurd y z) id
              have hi2 : i < 2 := by omega
              obtain ⟨ww, oo⟩ := q7 i hi0
              rw [show 0 + 610 + 318 * i = 610 + 318 * i by omega, show 1 + 4 + 18 * i = 5 + 18 * i by omega] at oo
              rw [show 0 + 610 + 318 * i = 610 + 318 * i by omega] at ww
              have eR2 : RW (I2, x) (610 + 318 * i) = RW h (610 + 318 * i) := RW_cg fun w' _ => al _ (by omega) (by omega) (by omega) (by omega) (by omega)
              rw [eR2]
              exact ⟨ww, oo.cp ww (NCp.eq (fun b b1 b2 => sb b (by omega) (by omega) (by omega) (by omega) (by omega) (by omega) (by omega)))⟩
          · have e1' : I2 314 1 = h.1 314 1 := al 1 (by decide) (by decide) (by decide) (by decide) (by omega)
            rw [e1'] at hi
            have hi2 : i < 2 := by have : (h.1 314 1).toInt ≤ 2 := r1.2; omega
            obtain ⟨ww, oo⟩ := q8 i hi
            rw [show 0 + 1246 + 51 * i = 1246 + 51 * i by omega, show 1 + 40 + 6 * i = 41 + 6 * i by omega] at oo
            rw [show 0 + 1246 + 51 * i = 1246 + 51 * i by omega] at ww
            have eR2 : RV (I2, x) (1246 + 51 * i) = RV h (1246 + 51 * i) := RV_cg fun w' _ => al _ (by omega) (by omega) (by omega) (by omega) (by omega)
            rw [eR2]
            exact ⟨ww, oo.cp ww (RCp.eq (fun b b1 b2 => sb b (by omega) (by omega) (by omega) (by omega) (by omega) (by omega) (by omega)))⟩
          · show I2 0 11 = -1
            rw [t1 0 (by decide) (by decide) (by decide)]; exact i0.1
          · show I2 0 13 = -1
            rw [t1 0 (by decide) (by decide) (by decide)]; exact i0.2
      · -- a reading
        subst s1
        have ex1 : ¬ x1 = 0 := fun z => by rw [z] at e1; exact absurd e1 (by decide)
        have w := wf.2 rfl
        refine ⟨kT h x1 x2, fun g => ∃ I, g = (I, x) ∧ (I 0 11 = -1 ∧ I 0 13 = -1) ∧ (∀ b, b ≠ 0 → b ≠ 1 → (b < 41 + 6 * K ∨ 41 + 6 * K + 6 ≤ b) → (b < 55 ∨ 81 ≤ b) → I b = h.1 b) ∧ (I 1 1 = 0 ∧ I 1 2 = 0 ∧ I 1 3 = -1) ∧ I 1 7 = imax (zI h 1 7) (kT h x1 x2 + 1) ∧ I 1 5 = h.1 1 5 ∧ RObj (I, x) (41 + 6 * K) R.2, ?_, ?_, ?_⟩
        · refine kX10_text 0 x1 x2 (sX10_text_0 0 x1 x2 l1 (Nat.le_refl _) (fun I1 c1 I4 c2 I7 c3 => ?_))
          obtain ⟨o7, a1, a2, a3, ak⟩ := pre I1 I4 I7 c1 c2 c3
          refine ⟨_, slot I7 o7 ak, fun y15 I13 c4 => ?_⟩
          obtain ⟨b1, b2, _⟩ := c4
          have ey := b2 ok
          subst b1
          subst ey
          refine ⟨fun c5 => ⟨_, read I13 o7, fun y28 g31 c6 => ?_⟩, fun c17 => absurd c17 kne⟩
          obtain ⟨I31, eg, p1, p2, p3, p4⟩ := c6
          subst eg
          refine ⟨lx1 I31, fun c7 => ⟨fun c8 => ?_, fun c11 => absurd c11 ex1⟩, fun c14 => absurd (p2.mpr R0) (by rw [c14]; decide)⟩
          refine ⟨_, c_tellReading l G (I31, x) (kT h x1 x2) K (lx1 I31) hKt hK2, fun I63 c12 => ⟨_, c_X10_forget l G (I63, x) 0 (lx1 I63), fun I72 c13 => ⟨_, rfl, rfl, I72, rfl, ?_⟩⟩⟩
          obtain ⟨t1, t2, t3, t4⟩ := c12
          have f1 : ∀ b, b ≠ 0 → I72 b = I63 b := fun b z => by
            funext k
            rw [c13 b k]; exact if_neg (fun y => z y.1)
          have g1 : ∀ k, I31 1 k = I13 1 k := fun k => congrFun (p1 1 (by decide)) k
          have no : RObj (I63, x) (41 + 6 * K) R.2 := RObj.cp w ((p4 c7).2 rfl) t4
          refine ⟨⟨?_, ?_⟩, fun b z0 z1 z2 z3 => ?_, ⟨?_, ?_, ?_⟩, ?_, ?_, ?_⟩
          · rw [c13]; exact if_pos (by decide)
          · rw [c13]; exact if_pos (by decide)
          · rw [f1 b z0, t1 b z1 z2]
            show I31 b = _
            rw [p1 b z3]; exact o7 b z1
          · rw [f1 1 (by decide), t2 1 (by decide)]; exact (g1 1).trans a1
          · rw [f1 1 (by decide), t2 2 (by decide)]; exact (g1 2).trans a2
          · rw [f1 1 (by decide), t2 3 (by decide)]; exact (g1 3).trans a3
          · rw [f1 1 (by decide), t3]
            show imax (I31 1 7) _ = _
            rw [g1 7, ak 7 (by decide) (by decide) (by decide)]; rfl
          · rw [f1 1 (by decide), t2 5 (by decide)]
            show I31 1 5 = _
            rw [g1 5]; exact ak 5 (by decide) (by decide) (by decide)
          · exact RObj.cp w no (RCp.eq (h := (I63, x)) (fun b b1 b2 => f1 b (by omega)))
        · intro g ⟨I, e, _, hb, _⟩
          subst e
          exact ⟨lx1 I, lx2 I, fun j => congrFun (hb 1000000 (by decide) (by decide) (by omega) (by decide)) j, kx I⟩
        · intro g ⟨I, e, i0, hb, i1, i5, i7, ino⟩
          subst e
          have e314 : I 314 = h.1 314 := hb 314 (by decide) (by decide) (by omega) (by decide)
          refine CT.mono (model I x (lx2 I) e314) rfl (fun v g e => ?_)
          obtain ⟨y, I2, a1, a2, t1, t2, _, t4⟩ := e
          have tr := t4 ((okT_cg e314).mpr ok) 1 e1
          unfold TxR at tr
          rw [← eR] at tr
          obtain ⟨u1, _, u3⟩ := tr
          obtain ⟨K', v1, v2, v3, v4, v5, v6⟩ := u3 R0
          have v2' : y = kT h x1 x2 := by rw [v2]; exact kT_cg e314
          have eK : K' = K := by rw [v2', hKt] at v3; omega
          subst eK
          have sb : ∀ b, b ≠ 0 → b ≠ 1 → b ≠ 313 → b ≠ 314 → b ≠ 316 → (b < 41 + 6 * K' ∨ 41 + 6 * K' + 6 ≤ b) → (b < 55 ∨ 81 ≤ b) → I2 b = h.1 b := fun b z0 z1 z2 z3 z4 z5 z6 => (t1 b z2 z3 z4).trans (hb b z0 z1 z5 z6)
          have al : ∀ j, j ≠ 2 → j ≠ 3 → j ≠ 4 → j ≠ 1 → (j < 1246 + 51 * K' ∨ 1246 + 51 * K' + 51 ≤ j) → I2 314 j = h.1 314 j := fun j y1 y2 y3 y4 y5 => (v6 j y1 y2 y3 (fun z => y4 z.2) y5).trans (congrFun e314 j)
          have e11 : I2 1 = I 1 := t1 1 (by decide) (by decide) (by decide)
          have c0' : I2 314 1 = if x2 = -1 then kT h x1 x2 + 1 else zI h 314 1 := by
            by_cases c : x2 = -1
            · rw [if_pos c]
              refine i_ext ?_
              rw [v5 c, i_1 hKt (by omega)]; omega
            · rw [if_neg c]
              exact (v6 1 (by decide) (by decide) (by decide) (fun z => c z.1) (by show 1 < 1246 + 51 * K' ∨ _; omega)).trans (congrFun e314 1)
          have kp1 : (kT h x1 x2 + 1).toInt = (K' : Int) + 1 := by rw [i_1 hKt (by omega)]; omega
          have c0 : I2 1 7 = I2 314 1 := by
            rw [e11, i5, c0', e7]
            by_cases c : x2 = -1
            · rw [if_pos c]
              have := kk.2.2.1 c
              refine i_ext ?_
              rw [imax_t, kp1]; omega
            · rw [if_neg c]
              have := kk.2.2.2 c
              refine i_ext ?_
              rw [imax_t, kp1]; omega
          have c0r : 0 ≤ (I2 314 1).toInt ∧ (I2 314 1).toInt ≤ 2 ∧ ∀ i : Nat, (i : Int) < (I2 314 1).toInt → i = K' ∨ (i : Int) < (zI h 314 1).toInt := by
            rw [c0']
            by_cases c : x2 = -1
            · have := kk.2.2.1 c
              rw [if_pos c, kp1]
              exact ⟨by omega, by omega, fun i hi => by omega⟩
            · rw [if_neg c]
              exact ⟨r1.1, r1.2, fun i hi => Or.inr hi⟩
          have f3 : I2 314 3 = 0 := i_ext (by have := u1.1; rw [R0] at this; exact this)
          have f4 : I2 314 4 = -1 := u1.2.1 R0
          have eRW : ∀ w', w' < 51 → RV (I2, x) (1246 + 51 * K') w' = R.2 w' := fun w' hw => by rw [RV_at hw]; exact v4 w' hw
          refine ⟨y, I2, a1, a2, v2', Inv.txt hI (lx1 I2) (lx2 I2) (nx I2) (sb 2 (by decide) (by decide) (by decide) (by decide) (by decide) (by omega) (by decide)) (sb 54 (by decide) (by decide) (by decide) (by decide) (by decide) (by omega) (by decide)) (sb 315 (by decide) (by decide) (by decide) (by decide) (by decide) (by omega) (by decide)) (fun b b1 b2 => sb b (by omega) (by omega) (by omega) (by omega) (by omega) (by omega) (by omega)) (fun j => ⟨fun _ _ => al j (by omega) (by omega) (by omega) (by omega) (by omega), fun _ => al j (by omega) (by omega) (by omega) (by omega) (by omega)⟩) ⟨by rw [e11, i1.1, t2], by rw [t2]; decide, by rw [t2]; decide⟩ (by rw [e11, i1.2.1, f3]) (by rw [e11, i1.2.2, f4]) ?_ ⟨c0, c0r.1, c0r.2.1⟩ (fun i hi => ?_) (fun i hi => ?_) ⟨Or.inl ?_, Or.inl ?_⟩⟩
          · rw [e11, i7, al 0 (by decide) (by decide) (by decide) (by decide) (by omega)]; exact q5
          · have e1' : I2 314 0 = h.1 314 0 := al 0 (by decide) (by decide) (by decide) (by decide) (by omega)
            rw [e1'] at hi
            have hi2 : i < 2 := by have : (h.1 314 0).toInt ≤ 2 := r0.2; omega
            obtain ⟨ww, oo⟩ := q7 i hi
            rw [show 0 + 610 + 318 * i = 610 + 318 * i by omega, show 1 + 4 + 18 * i = 5 + 18 * i by omega] at oo
            rw [show 0 + 610 + 318 * i = 610 + 318 * i by omega] at ww
            have eR2 : RW (I2, x) (610 + 318 * i) = RW h (610 + 318 * i) := RW_cg fun w' _ => al _ (by omega) (by omega) (by omega) (by omega) (by omega)
            rw [eR2]
            exact ⟨ww, oo.cp ww (NCp.eq (fun b b1 b2 => sb b (by omega) (by omega) (by omega) (by omega) (by omega) (by omega) (by omega)))⟩
          · by_cases z : i = K'
            · subst z
              refine ⟨WFR.cg eRW w, RObj.cg eRW w (RObj.cp w ino (RCp.eq (h := (I, x)) (fun b b1 b2 => t1 b (by omega) (by omega) (by omega))))⟩
            · have hi0 : (i : Int) < (zI h 314 1).toInt := (c0r.2.2 i hi).elim (fun y => absurd y z) id
              have hi2 : i < 2 := by omega
              obtain ⟨ww, oo⟩ := q8 i hi0
              rw [show 0 + 1246 + 51 * i = 1246 + 51 * i by omega, show 1 + 40 + 6 * i = 41 + 6 * i by omega] at oo
              rw [show 0 + 1246 + 51 * i = 1246 + 51 * i by omega] at ww
              have eR2 : RV (I2, x) (1246 + 51 * i) = RV h (1246 + 51 * i) := RV_cg fun w' _ => al _ (by omega) (by omega) (by omega) (by omega) (by omega)
              rw [eR2]
              exact ⟨ww, oo.cp ww (RCp.eq (fun b b1 b2 => sb b (by omega) (by omega) (by omega) (by omega) (by omega) (by omega) (by omega)))⟩
          · show I2 0 11 = -1
            rw [t1 0 (by decide) (by decide) (by decide)]; exact i0.1
          · show I2 0 13 = -1
            rw [t1 0 (by decide) (by decide) (by decide)]; exact i0.2
    · -- a fault
      refine ⟨-1, fun g => ∃ I, g = (I, x) ∧ (∀ b, b ≠ 1 → (b < 55 ∨ 81 ≤ b) → I b = h.1 b) ∧ I 1 1 = 0 ∧ (I 1 2).toInt = (R.1.1 : Int) ∧ (I 1 3).toInt = (R.1.2 : Int) ∧ ∀ k, k ≠ 1 → k ≠ 2 → k ≠ 3 → I 1 k = h.1 1 k, ?_, ?_, ?_⟩
      · refine kX10_text 0 x1 x2 (sX10_text_0 0 x1 x2 l1 (Nat.le_refl _) (fun I1 c1 I4 c2 I7 c3 => ?_))
        obtain ⟨o7, a1, a2, a3, ak⟩ := pre I1 I4 I7 c1 c2 c3
        refine ⟨_, slot I7 o7 ak, fun y15 I13 c4 => ?_⟩
        obtain ⟨b1, b2, _⟩ := c4
        have ey := b2 ok
        subst b1
        subst ey
        refine ⟨fun c5 => ⟨_, read I13 o7, fun y28 g31 c6 => ?_⟩, fun c17 => absurd c17 kne⟩
        obtain ⟨I31, eg, p1, p2, p3, p4⟩ := c6
        subst eg
        refine ⟨lx1 I31, fun c7 => absurd (p2.mp c7) R0, fun c14 I78 c15 I81 c16 => ⟨-1, rfl, rfl, I81, rfl, ?_⟩⟩
        have d1 : WrI (I31, x) I78 1 2 (zI (I31, x) 55 2) := zwI_eff c15
        have d2 : WrI (I78, x) I81 1 3 (zI (I78, x) 55 3) := zwI_eff c16
        have g1 : ∀ k, I31 1 k = I13 1 k := fun k => congrFun (p1 1 (by decide)) k
        have e55 : zI (I78, x) 55 3 = zI (I31, x) 55 3 := congrFun (d1.f (by decide)) 3
        refine ⟨fun b z1 z2 => (d2.f z1).trans ((d1.f z1).trans ((p1 b z2).trans (o7 b z1))), ?_, ?_, ?_, fun k z1 z2 z3 => ?_⟩
        · rw [d2.2.1 1 (by decide)]
          show I78 1 1 = 0
          rw [d1.2.1 1 (by decide)]; exact (g1 1).trans a1
        · rw [d2.2.1 2 (by decide)]
          show (I78 1 2).toInt = _
          rw [d1.2.2]; exact p3.1
        · rw [d2.2.2, e55]; exact p3.2.2 R0
        · rw [d2.2.1 k z3]
          show I78 1 k = _
          rw [d1.2.1 k z2]; exact (g1 k).trans (ak k z1 z2 z3)
      · intro g ⟨I, e, hb, _⟩
        subst e
        exact ⟨lx1 I, lx2 I, fun j => congrFun (hb 1000000 (by decide) (by decide)) j, kx I⟩
      · intro g ⟨I, e, hb, i1, i2, i3, i4⟩
        subst e
        have e314 : I 314 = h.1 314 := hb 314 (by decide) (by decide)
        refine CT.mono (model I x (lx2 I) e314) rfl (fun v g e => ?_)
        obtain ⟨y, I2, a1, a2, t1, t2, _, t4⟩ := e
        have tr := t4 ((okT_cg e314).mpr ok) sort e1
        unfold TxR at tr
        rw [← eR] at tr
        obtain ⟨u1, u2, _⟩ := tr
        obtain ⟨ey, same⟩ := u2 R0
        have e11 : I2 1 = I 1 := t1 1 (by decide) (by decide) (by decide)
        refine ⟨y, I2, a1, a2, ey, Inv.txtS hI (lx1 I2) (lx2 I2) (nx I2) (fun b z1 z2 z3 z4 z5 => (t1 b z2 z3 z4).trans (hb b z1 z5)) (fun j z1 z2 z3 => (same j z1 z2 z3).trans (congrFun e314 j)) (fun k z1 z2 z3 => by rw [e11]; exact i4 k z1 z2 z3) ⟨by rw [e11]; exact i1, t2⟩ (i_ext ?_) (i_ext ?_)⟩
        · rw [e11, i2]; exact u1.1.symm
        · rw [e11, i3]; exact (u1.2.2 R0).symm
  · -- no such sort, no such slot
    refine ⟨-2, fun g => ∃ I, g = (I, h.2) ∧ (∀ b, b ≠ 1 → I b = h.1 b) ∧ I 1 1 = 0 ∧ I 1 2 = 0 ∧ I 1 3 = -1 ∧ ∀ k, k ≠ 1 → k ≠ 2 → k ≠ 3 → I 1 k = h.1 1 k, ?_, ?_, ?_⟩
    · refine kX10_text 0 x1 x2 (sX10_text_0 0 x1 x2 l1 (Nat.le_refl _) (fun I1 c1 I4 c2 I7 c3 => ?_))
      obtain ⟨o7, a1, a2, a3, ak⟩ := pre I1 I4 I7 c1 c2 c3
      refine ⟨_, slot I7 o7 ak, fun y15 I13 c4 => ⟨fun c5 => absurd (c4.2.2 ok) c5, fun c17 => ⟨-2, rfl, rfl, I13, rfl, ?_⟩⟩⟩
      rw [c4.1]
      exact ⟨o7, a1, a2, a3, ak⟩
    · intro g ⟨I, e, hb, _⟩
      subst e
      exact ⟨l1, l2, fun j => congrFun (hb 1000000 (by decide)) j, fun b => rfl⟩
    · intro g ⟨I, e, hb, i1, i2, i3, i4⟩
      subst e
      have e314 : I 314 = h.1 314 := hb 314 (by decide)
      refine CT.mono (model I h.2 l2 e314) rfl (fun v g e => ?_)
      obtain ⟨y, I2, a1, a2, t1, t2, t3, _⟩ := e
      obtain ⟨ey, fl, same⟩ := t3 (fun z => ok ((okT_cg e314).mp z))
      have e11 : I2 1 = I 1 := t1 1 (by decide) (by decide) (by decide)
      refine ⟨y, I2, a1, a2, ey, Inv.txtS hI l1 l2 hN (fun b z1 z2 z3 z4 z5 => (t1 b z2 z3 z4).trans (hb b z1)) (fun j z1 z2 z3 => (same j z1 z2 z3).trans (congrFun e314 j)) (fun k z1 z2 z3 => by rw [e11]; exact i4 k z1 z2 z3) ⟨by rw [e11]; exact i1, t2⟩ ?_ ?_⟩
      · rw [e11, i2]
        exact (i_ext (show (I2 314 3).toInt = (0 : Int32).toInt from fl.1)).symm
      · rw [e11, i3]; exact (fl.2.1 rfl).symm
end K9Z
