set_option maxRecDepth 4000
/-! ===== texts: the class reads a text ===== -/
section K9O
variable {B : Nat → Int} {n : Nat}
def V0n (w : Nat) : Int := if w < 2 then 6 else if w = 2 then 2 else if w < 120 then 0 else if 5 ≤ (w - 120) % 33 ∧ (w - 120) % 33 ≤ 7 then -1 else 0
def V0s (sort : Nat) : Nat → Int := if sort = 0 then V0n else fun _ => 0
def S0s (sort : Nat) : TxS := ((0, 0), V0s sort, -1, -1)
theorem V0n_b : ∀ w, w < 318 → (105 ≤ w ∧ w < 120) ∨ (120 ≤ w ∧ (w - 120) % 33 < 4) ∨ (120 ≤ w ∧ 9 ≤ (w - 120) % 33) ∨ (blI w ≤ V0n w ∧ V0n w ≤ bhI w (-1) (-1)) := by decide +kernel
theorem V0n_8 : ∀ p, V0n (128 + 33 * p) = 0 := fun p => by
  unfold V0n
  rw [if_neg (by omega), if_neg (by omega), if_neg (by omega), if_neg (by omega)]
theorem V0n_x : ∀ p, p < 6 → V0n (120 + 33 * p + 5) = -1 ∧ V0n (120 + 33 * p + 6) = -1 ∧ V0n (120 + 33 * p + 7) = -1 ∧ V0n (120 + 33 * p + 8) = 0 := by decide +kernel
theorem WI0_0 : WI0 V0n (-1) (-1) := by
  refine ⟨fun w hw hl => ?_, fun p hp => ?_, Int.le_refl _, Int.le_refl _⟩
  · rcases V0n_b w hw with z | z | z | z
    · have := hl.1 z.1 z.2
      have e : V0n 4 = 0 := rfl
      omega
    · have := hl.2.2 z.1 z.2
      have e : V0n 3 = 0 := rfl
      omega
    · have := hl.2.1 z.1 z.2
      rw [V0n_8] at this
      omega
    · exact z
  · obtain ⟨a, b, c, d⟩ := V0n_x p hp
    unfold Ex1
    rw [a, b, c, d]
    exact ⟨by omega, Or.inl ⟨rfl, rfl, rfl⟩⟩
theorem WIs_0 {sort : Nat} (hs : sort = 0 ∨ sort = 1) : WIs sort (V0s sort) (-1) (-1) := by
  rcases hs with e | e
  · subst e; exact ⟨fun _ => WI0_0, fun z => absurd z (by decide)⟩
  · subst e; exact ⟨fun z => absurd z (by decide), fun _ => ⟨by decide, fun k hk => absurd hk (by show ¬ (k : Int) < 0; omega)⟩⟩
def clv (b k : Nat) : Int := if b = 61 then 0 else if b = 56 then [6, 6, 2, 0, 0].getD k 0 else if k = 4 ∨ k = 8 then 0 else -1
theorem clv_V : ∀ w, w < 318 → (105 ≤ w ∧ w < 120) ∨ (120 ≤ w ∧ (w - 120) % 33 < 4) ∨ (120 ≤ w ∧ 9 ≤ (w - 120) % 33) ∨ (clv (adB w) (adK w) = V0n w ∧ ((adB w = 61 ∧ adK w < 100) ∨ (adB w = 56 ∧ adK w < 5) ∨ (62 ≤ adB w ∧ adB w < 74 ∧ (adB w - 56) % 2 = 0 ∧ 4 ≤ adK w ∧ adK w < 9))) := by decide +kernel
theorem zcl_v {h : zH} {b k : Nat} (c : (b = 61 ∧ k < 100) ∨ (b = 56 ∧ k < 5) ∨ (62 ≤ b ∧ b < 74 ∧ (b - 56) % 2 = 0 ∧ 4 ≤ k ∧ k < 9)) : (zclN h 56 b k).toInt = clv b k := by
  unfold zclN clv
  rcases c with z | z | z
  · rw [if_pos ⟨z.1, z.2⟩, if_pos z.1]; rfl
  · rw [if_neg (fun y => by omega), if_neg (by omega), if_pos z.1]
    unfold zclr
    rw [if_pos z.1]
    match k, z with
    | 0, _ => rfl
    | 1, _ => rfl
    | 2, _ => rfl
    | 3, _ => rfl
    | 4, _ => rfl
    | j + 5, q => omega
  · rw [if_neg (fun y => by omega), if_neg (by omega), if_neg (by omega)]
    unfold zclr
    rw [if_neg (by omega), if_pos ⟨by omega, by omega, z.2.2.1⟩]
    match k, z with
    | 0, q | 1, q | 2, q | 3, q => omega
    | 4, _ => rfl
    | 5, _ => rfl
    | 6, _ => rfl
    | 7, _ => rfl
    | 8, _ => rfl
    | j + 9, q => omega
theorem NXo_0 {h : zH} {I : Nat → Nat → Int32} {x : (Nat → Nat → Option Nat) × (Nat → Nat × Nat) × Nat} (e : ∀ b, 56 ≤ b → b < 74 → I b = zclN h 56 b) : NXo (I, x) V0n := fun w hw hl => by
  have ab := adB_in w hw
  show (I (adB w) (adK w)).toInt = V0n w
  rw [e _ ab.1 ab.2]
  rcases clv_V w hw with z | z | z | z
  · have := hl.1 z.1 z.2
    have e : V0n 4 = 0 := rfl
    omega
  · have := hl.2.2 z.1 z.2
    have e : V0n 3 = 0 := rfl
    omega
  · have := hl.2.1 z.1 z.2
    rw [V0n_8] at this
    omega
  · rw [zcl_v z.2]; exact z.1
def RdP (h : zH) (x : (Nat → Nat → Option Nat) × (Nat → Nat × Nat) × Nat) (sort : Nat) (R : (Nat × Nat) × (Nat → Int)) (y : Bool) (I : Nat → Nat → Int32) : Prop :=
  (∀ b, (b < 55 ∨ 81 ≤ b) → I b = h.1 b) ∧ (y = true ↔ R.1.1 = 0) ∧ FlC (I, x) R.1 ∧ (y = true → (sort = 0 → NXo (I, x) R.2) ∧ (sort = 1 → RObj (I, x) 74 R.2))
theorem cs_end {sort : Nat} {h : zH} {V : Nat → Int} {fo fc : Int} (hs : sort = 0 ∨ sort = 1) (c : CSt sort h V fo fc) (w : WIs sort V fo fc) :
    (zhas h 56 (imax (0 : Int32) (zI h 55 11)) = false → sort = 0 ∧ V 0 * V 1 ≤ fc) ∧ (zhas h 56 (imax (0 : Int32) (zI h 55 11)) = true → sort = 0 → fc < V 0 * V 1) ∧ ((zI h 56 3).toInt ≤ (zI h 55 12).toInt → sort = 0 ∧ V 3 ≤ fo) ∧ ((zI h 55 12).toInt < (zI h 56 3).toInt → sort = 0 → fo < V 3) := by
  have z0 : (0 : Int32).toInt = 0 := rfl
  rcases hs with e | e
  · subst e
    obtain ⟨nx, s12, s11⟩ := c.1 rfl
    have hd := (w.1 rfl).hd
    have a0 : (zI h 56 0).toInt = V 0 := nx.at (by decide)
    have a1 : (zI h 56 1).toInt = V 1 := nx.at (by decide)
    have a3 : (zI h 56 3).toInt = V 3 := nx.at (by decide)
    have p1 : 4 ≤ V 0 * V 1 := by
      have := Int.mul_le_mul hd.1.1 hd.2.1.1 (by decide) (by omega)
      omega
    have p2 : V 0 * V 1 ≤ 64 := by
      have := Int.mul_le_mul hd.1.2 hd.2.1.2 (by omega) (by decide)
      omega
    have ec : (zcells h 56).toInt = V 0 * V 1 := by
      unfold zcells
      rw [i_mul (by rw [a0, a1]; omega) (by rw [a0, a1]; omega), a0, a1]
    have em : (imax (0 : Int32) (zI h 55 11)).toInt = max 0 fc := by rw [imax_t, s11, z0]
    rw [a3, s12]
    refine ⟨fun z => ⟨rfl, ?_⟩, fun z _ => ?_, fun z => ⟨rfl, z⟩, fun z _ => z⟩
    · have := of_decide_eq_false z
      rw [em, ec] at this
      omega
    · have := of_decide_eq_true z
      rw [em, ec] at this
      omega
  · subst e
    obtain ⟨ro, s2, s3, s4, s5, s6⟩ := c.2 rfl
    have ec : (zcells h 56).toInt = 36 := by
      unfold zcells
      rw [i_mul (by rw [s2, s3]; decide) (by rw [s2, s3]; decide), s2, s3]; rfl
    have em : (imax (0 : Int32) (zI h 55 11)).toInt = 0 := by rw [imax_t, s6]; rfl
    have n1 : (-1 : Int32).toInt = -1 := rfl
    rw [s4, s5, n1]
    refine ⟨fun z => ?_, fun _ z => absurd z (by decide), fun z => absurd z (by decide), fun _ z => absurd z (by decide)⟩
    have := of_decide_eq_false z
    rw [em, ec] at this
    exact absurd ⟨by decide, by decide⟩ this
theorem c_read (l : Launch) (G : zG) (gt : GTab G) (h : zH) (sort : Nat) (x2 x3 : Int32) (hl : lo5 h 55) (h2 : zAw h 2 600) (hb : ∀ i, i < n → (zI h 2 i).toInt = B i ∧ 0 ≤ B i ∧ B i < 256) (hn : n ≤ 600) (hx2 : x2.toInt = (n : Int)) (hs : x3.toInt = (sort : Int)) (hs2 : sort = 0 ∨ sort = 1) :
    CTzG l G YX5_read 8 [va_rf (some 55), va_rf (some 2), .int x2, .int x3] h (fun y g => ∃ I, g = (I, (zwR h 55 4 (some 2)).2) ∧ RdP h (zwR h 55 4 (some 2)).2 sort (prB B n sort (n + 1) 0 (S0s sort)) y I) := by
  obtain ⟨R, eR⟩ : ∃ R, R = prB B n sort (n + 1) 0 (S0s sort) := ⟨_, rfl⟩
  rw [← eR]
  obtain ⟨x, ex⟩ : ∃ x, x = (zwR h 55 4 (some 2)).2 := ⟨_, rfl⟩
  have r5 : ∀ e, e ∈ rs5 → ¬ (e.1 = 0 ∧ e.2.1 = 4) := by decide
  have hl5 : lo5 (zwR h 55 4 (some 2)) 55 := zlo.wR hl (fun e he z => r5 e he ⟨by omega, z.2⟩)
  have loop : ∀ (fu q i : Nat) (S : TxS) (x4 : Int32) (J : Nat → Nat → Int32), x4.toInt = (i : Int) → i ≤ q → q ≤ n → n - q < fu → prB B n sort fu q S = R → (∀ b, (b < 55 ∨ 81 ≤ b) → J b = h.1 b) → TpC (J, x) B n → TkC J B n q → FlC (J, x) S.1 → CSt sort (J, x) S.2.1 S.2.2.1 S.2.2.2 → WIs sort S.2.1 S.2.2.1 S.2.2.2 →
      Z l G mX5_read 8 (fun v g => ∃ y, v = some (.int (zb y)) ∧ ∃ I, g = (I, x) ∧ RdP h x sort R y I) 0 0 57 [va_rf (some 55), va_rf (some 2), .int x2, .int x3, .int x4] [] (J, x) := by
    intro fu
    induction fu with
    | zero => intro q i S x4 J e4 q1 q2 q3; omega
    | succ fu ih =>
      intro q i S x4 J e4 q1 q2 q3 hR fr tp tk fl cs ws
      have hlJ : lo5 (J, x) 55 := by rw [ex]; exact hl5
      obtain ⟨k1, k2, k3, k4⟩ := cs_end hs2 cs ws
      have fe : ∀ {z : Int32} {m : Nat}, z.toInt = (m : Int) → (z = 0 ↔ m = 0) := fun {z m} hx => ⟨fun y => by rw [y] at hx; have : (0 : Int) = (m : Int) := hx; omega, fun y => i_ext (by rw [hx, y]; rfl)⟩
      -- the end: a fault, or none
      have note : tkK B n q = 0 → (sort = 0 ∧ (S.2.1 3 ≤ S.2.2.1 ∨ S.2.1 0 * S.2.1 1 ≤ S.2.2.2)) → (∃ P12, CTv l G YX5_note 1 [va_rf (some 55), .int 4] (J, x) P12 ∧ ∀ (I15 : Nat → Nat → Int32), P12 I15 → ((¬ zI (I15, x) 55 2 = 0 → (∃ y, (some (.int 0) : Option Value) = some (.int (zb y)) ∧ ∃ I, (I15, x) = (I, x) ∧ RdP h x sort R y I)) ∧ (zI (I15, x) 55 2 = 0 → (∃ y, (some (.int 1) : Option Value) = some (.int (zb y)) ∧ ∃ I, (I15, x) = (I, x) ∧ RdP h x sort R y I)))) := fun k0 c => by
        refine ⟨_, c_note l G (J, x) S.1 4 4 (tkW B n q) hlJ fl rfl (by decide) tk.1, fun I15 c3 => ?_⟩
        have eRR : R = (ntS S.1 4 (tkW B n q), S.2.1) := by
          rw [← hR]; unfold prB
          rw [if_pos k0]; unfold fiB
          rw [if_pos c]
        have ne : R.1.1 ≠ 0 := by rw [eRR]; exact nt_ne (by decide)
        have f2 : FlC (I15, x) R.1 := by rw [eRR]; exact c3.2
        exact ⟨fun _ => ⟨false, rfl, I15, rfl, fun b hb => (c3.1.1 b (by omega)).trans (fr b hb), ⟨fun z => (by cases z), fun z => absurd z ne⟩, f2, fun z => (by cases z)⟩, fun z => absurd ((fe f2.1).mp z) ne⟩
      have plain : tkK B n q = 0 → ¬ (sort = 0 ∧ (S.2.1 3 ≤ S.2.2.1 ∨ S.2.1 0 * S.2.1 1 ≤ S.2.2.2)) → ((¬ zI (J, x) 55 2 = 0 → (∃ y, (some (.int 0) : Option Value) = some (.int (zb y)) ∧ ∃ I, (J, x) = (I, x) ∧ RdP h x sort R y I)) ∧ (zI (J, x) 55 2 = 0 → (∃ y, (some (.int 1) : Option Value) = some (.int (zb y)) ∧ ∃ I, (J, x) = (I, x) ∧ RdP h x sort R y I))) := fun k0 c => by
        have eRR : R = (S.1, S.2.1) := by
          rw [← hR]; unfold prB
          rw [if_pos k0]; unfold fiB
          rw [if_neg c]
        have f2 : FlC (J, x) R.1 := by rw [eRR]; exact fl
        refine ⟨fun z => ⟨false, rfl, J, rfl, fr, ⟨fun z => (by cases z), fun y => absurd ((fe f2.1).mpr y) z⟩, f2, fun z => (by cases z)⟩, fun z => ⟨true, rfl, J, rfl, fr, ⟨fun _ => (fe f2.1).mp z, fun _ => rfl⟩, f2, fun _ => ⟨fun e => ?_, fun e => ?_⟩⟩⟩
        · rw [eRR]; exact (cs.1 e).1
        · rw [eRR]; exact (cs.2 e).1
      refine sX5_read_57 (h := (J, x)) 55 (some 2) x2 x3 x4 hlJ (Nat.le_refl _) ⟨fun c1 => ?_, fun c14 => ⟨fun c15 => ?_, fun c28 => ?_⟩⟩
      · have k0 := (tok_0 tk).mp c1
        refine ⟨fun c2 => note k0 ⟨(k1 c2).1, Or.inr (k1 c2).2⟩, fun c6 => ⟨fun c7 => plain k0 (fun z => ?_), fun c10 => note k0 ⟨(k3 c10).1, Or.inl (k3 c10).2⟩⟩⟩
        have a := k4 c7 z.1
        have b := k2 c6 z.1
        omega
      · have k0 : tkK B n q ≠ 0 := fun z => c14 ((tok_0 tk).mpr z)
        have g := tk_go k0
        omega
      · have k0 : tkK B n q ≠ 0 := fun z => c14 ((tok_0 tk).mpr z)
        have g := tk_go k0
        refine ⟨_, c_readLine l G gt (J, x) sort q S x3 hlJ tp q2 hs hs2 tk fl cs ws, fun y96 I94 c29 => ?_⟩
        obtain ⟨w1, w2, w3⟩ := c29
        have fr94 : ∀ b, (b < 55 ∨ 81 ≤ b) → I94 b = h.1 b := fun b hb => (w1.1 b hb).trans (fr b hb)
        refine ⟨fun c30 => ?_, fun c31 I104 c32 I107 c33 => ?_⟩
        · obtain ⟨o1, o2, u1, u2, u3⟩ := w2 c30
          have ng := nx_go o1 o2
          have hR2 : prB B n sort fu (nxB B n q) (stB B n q S) = R := by
            rw [← hR]
            show _ = prB B n sort (fu + 1) q S
            rw [show prB B n sort (fu + 1) q S = if tkK B n q = 0 then (fiB sort S (tkW B n q), S.2.1) else if o1B B n sort q = true then (if o2B B n q = true then prB B n sort fu (nxB B n q) (stB B n q S) else ((1, tkW B n (pzB B n q (hdB B n q))), S.2.1)) else ((1, tkW B n q), S.2.1) from rfl, if_neg k0, if_pos o1, if_pos o2]
          exact ih (nxB B n q) (i + 1) (stB B n q S) (x4 + 1) I94 (i_1 e4 (by omega)) (by omega) ng.2.1 (by omega) hR2 fr94 (w1.tp tp) u1 u2 u3 (stB_ws hs2 o1 o2 ws)
        · obtain ⟨v1, v2⟩ := w3 c31
          have d1 : WrI (I94, x) I104 55 2 (1 : Int32) := zwI_eff c32
          have d2 : WrI (I104, x) I107 55 3 (zI (I104, x) 55 7) := zwI_eff c33
          have eRR : R.1 = (1, bpB B n sort q) := by
            rw [← hR, show prB B n sort (fu + 1) q S = if tkK B n q = 0 then (fiB sort S (tkW B n q), S.2.1) else if o1B B n sort q = true then (if o2B B n q = true then prB B n sort fu (nxB B n q) (stB B n q S) else ((1, tkW B n (pzB B n q (hdB B n q))), S.2.1)) else ((1, tkW B n q), S.2.1) from rfl, if_neg k0]
            unfold bpB
            by_cases o1 : o1B B n sort q = true
            · rw [if_pos o1, if_pos o1, if_neg (fun o2 => v1 ⟨o1, o2⟩)]
            · rw [if_neg o1, if_neg o1]
          have e7 : (zI (I104, x) 55 7).toInt = (bpB B n sort q : Int) := by
            show (I104 55 7).toInt = _
            rw [d1.2.1 7 (by decide)]; exact v2
          refine ⟨false, rfl, I107, rfl, fun b hb => (d2.f (by omega)).trans ((d1.f (by omega)).trans (fr94 b hb)), ⟨fun z => (by cases z), fun z => ?_⟩, ?_, fun z => (by cases z)⟩
          · rw [eRR] at z; exact absurd z Nat.one_ne_zero
          · rw [eRR]
            refine ⟨?_, fun z => absurd z Nat.one_ne_zero, fun _ => ?_⟩
            · show (I107 55 2).toInt = _
              rw [d2.2.1 2 (by decide)]
              show (I104 55 2).toInt = _
              rw [d1.2.2]; rfl
            · show (I107 55 3).toInt = _
              rw [d2.2.2]; exact e7
  refine kX5_read 55 (some 2) x2 x3 (sX5_read_0 (h := h) 55 (some 2) x2 x3 hl (Nat.le_refl _) (fun g1 c1 => ?_))
  subst c1
  refine ⟨hl5, ?_⟩
  have er : zR (zwR h 55 4 (some 2)) 55 4 = some 2 := zR_ws
  have h2' : zAw (zwR h 55 4 (some 2)) 2 600 := h2
  obtain ⟨y0, ey0⟩ : ∃ y0 : zH, y0 = zwR h 55 4 (some 2) := ⟨_, rfl⟩
  rw [← ey0] at ex hl5 er h2' ⊢
  have e1 : y0.1 = h.1 := by rw [ey0]; rfl
  rw [← ex]
  have ey : y0 = (h.1, x) := by rw [ex, ← e1]
  rw [ey] at hl5 er h2' ⊢
  intro I6 c2 I9 c3 I12 c4 I15 c5 I18 c6 I21 c7
  have d1 : WrI (h.1, x) I6 55 5 x2 := zwI_eff c2
  have d2 : WrI (I6, x) I9 55 8 0 := zwI_eff c3
  have d3 : WrI (I9, x) I12 55 2 0 := zwI_eff c4
  have d4 : WrI (I12, x) I15 55 3 (-1) := zwI_eff c5
  have d5 : WrI (I15, x) I18 55 11 (-1) := zwI_eff c6
  have d6 : WrI (I18, x) I21 55 12 (-1) := zwI_eff c7
  refine ⟨_, c_X1_clear l G (I21, x) 56 (lo51 (h := (I21, x)) hl5), fun I27 c8 I33 c9 => ?_⟩
  have d8 : WrI (I27, x) I33 74 0 0 := zwI_eff c9
  have f27 : ∀ b k, (b < 56 ∨ 74 ≤ b) → I27 b k = I21 b k := fun b k hb => by
    rw [c8]
    unfold zclN zclr
    rw [if_neg (fun y => by omega), if_neg (by omega), if_neg (fun y => by omega)]
  have f21 : ∀ b, b ≠ 55 → I21 b = h.1 b := fun b z => (d6.f z).trans ((d5.f z).trans ((d4.f z).trans ((d3.f z).trans ((d2.f z).trans (d1.f z)))))
  have f33 : ∀ b, (b < 55 ∨ 81 ≤ b) → I33 b = h.1 b := fun b hb => (d8.f (by omega)).trans ((funext fun k => f27 b k (by omega)).trans (f21 b (by omega)))
  have g55 : ∀ k, I33 55 k = I21 55 k := fun k => (congrFun (d8.f (by decide)) k).trans (f27 55 k (by decide))
  have a5 : I33 55 5 = x2 := by rw [g55, d6.2.1 5 (by decide)]; show I18 55 5 = _; rw [d5.2.1 5 (by decide)]; show I15 55 5 = _; rw [d4.2.1 5 (by decide)]; show I12 55 5 = _; rw [d3.2.1 5 (by decide)]; show I9 55 5 = _; rw [d2.2.1 5 (by decide)]; exact d1.2.2
  have a8 : I33 55 8 = 0 := by rw [g55, d6.2.1 8 (by decide)]; show I18 55 8 = _; rw [d5.2.1 8 (by decide)]; show I15 55 8 = _; rw [d4.2.1 8 (by decide)]; show I12 55 8 = _; rw [d3.2.1 8 (by decide)]; exact d2.2.2
  have a2 : I33 55 2 = 0 := by rw [g55, d6.2.1 2 (by decide)]; show I18 55 2 = _; rw [d5.2.1 2 (by decide)]; show I15 55 2 = _; rw [d4.2.1 2 (by decide)]; exact d3.2.2
  have a3 : I33 55 3 = -1 := by rw [g55, d6.2.1 3 (by decide)]; show I18 55 3 = _; rw [d5.2.1 3 (by decide)]; exact d4.2.2
  have a11 : I33 55 11 = -1 := by rw [g55, d6.2.1 11 (by decide)]; exact d5.2.2
  have a12 : I33 55 12 = -1 := by rw [g55]; exact d6.2.2
  have tp : TpC (I33, x) B n := ⟨er, h2', fun i hi => by
    show (I33 2 i).toInt = _ ∧ _
    rw [f33 2 (by decide)]; exact hb i hi, hn, by show (I33 55 5).toInt = _; rw [a5]; exact hx2⟩
  have h8 : (zI (I33, x) 55 8).toInt = ((0 : Nat) : Int) := by show (I33 55 8).toInt = _; rw [a8]; rfl
  have nz : ∀ b, 56 ≤ b → b < 74 → I33 b = zclN (I21, x) 56 b := fun b h1 h3 => (d8.f (by omega)).trans (by rw [c8])
  have fl0 : FlC (I33, x) (S0s sort).1 := ⟨by show (I33 55 2).toInt = 0; rw [a2]; rfl, fun _ => a3, fun z => absurd rfl z⟩
  have cs0 : CSt sort (I33, x) (V0s sort) (-1) (-1) := by
    have k56 : ∀ k, k < 5 → (I33 56 k).toInt = clv 56 k := fun k hk => by rw [nz 56 (by decide) (by decide)]; exact zcl_v (Or.inr (Or.inl ⟨rfl, hk⟩))
    rcases hs2 with e | e
    · subst e
      exact CSt.n (NXo_0 nz) (by show (I33 55 12).toInt = _; rw [a12]; rfl) (by show (I33 55 11).toInt = _; rw [a11]; rfl)
    · subst e
      exact ⟨fun z => absurd z (by decide), fun _ => ⟨⟨by show (I33 74 0).toInt = 0; rw [d8.2.2]; rfl, fun k hk => absurd hk (by show ¬ (k : Int) < 0; omega)⟩, k56 0 (by decide), k56 1 (by decide), k56 3 (by decide), a12, a11⟩⟩
  refine ⟨_, c_next l G (I33, x) 0 hl5 tp (Nat.zero_le _) h8, fun I39 c10 => ?_⟩
  obtain ⟨u1, u2⟩ := c10
  exact loop (n + 1) 0 0 (S0s sort) 0 I39 rfl (Nat.le_refl _) (Nat.zero_le _) (by omega) eR.symm (fun b hb => (u1.1 b (by omega)).trans (f33 b hb)) (u1.tp tp) u2 (u1.fl fl0) (u1.cs cs0) (WIs_0 hs2)
end K9O
