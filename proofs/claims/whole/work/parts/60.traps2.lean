set_option maxRecDepth 4000
/-! ===== where clay would tell most: both sides ===== -/
theorem los_132 {h : zH} (q : lo10 h 0) : lo8 h 132 := by
  have := zlo.sub (ks' := ks8) (rs' := rs8) q 132 (by decide +kernel) (by decide +kernel) (by decide +kernel)
  rw [Nat.zero_add] at this
  exact this
def usr (st : PS) (c : Nat) : Int32 := usersF st (Int32.ofNat c)
def t00 : Nat → Nat := fun _ => 0
def S00 : TS := (-1, t00)
def trS (u : Nat → Int32) (N k : Nat) : TS := sc u N k 0 0 t00 0 S00
theorem orP_mem {f : Nat → Int32} {c : Nat} : ∀ n, c < n → f c ||| orP f n = orP f n
  | 0, h => by omega
  | n + 1, h => by
    show f c ||| (orP f n ||| f n) = orP f n ||| f n
    by_cases e : c = n
    · subst e
      rw [Int32.or_comm (orP f c), ← Int32.or_assoc, Int32.or_self]
    · rw [← Int32.or_assoc, orP_mem n (by omega)]
theorem c_set8 (l : Launch) (G : zG) (h : zH) (st : PS) (N k : Nat) (x2 x3 : Int32) (hl : lo8 h 132) (hl0 : lo0 h 81) (r : CPr h 81 st) (hn : st.n ≤ 150) (hN : N ≤ 64) (hk : k ≤ 3) (hu : ∀ c, c < N → r63 (usr st c)) (h2 : x2.toInt = (N : Int)) (h3 : x3.toInt = (k : Int)) :
    CTv l G YX8_set 7 [va_rf (some 132), va_rf (some 81), .int x2, .int x3] h (fun I => (∀ b, (b < 132 ∨ 136 ≤ b) → I b = h.1 b) ∧ TSt (I, h.2) k (trS (usr st) N k)) := by
  have loop : ∀ (fu i : Nat) (x4 : Int32) (u5 : Value) (I : Nat → Nat → Int32), i ≤ N → N - i < fu → x4.toInt = (i : Int) → (∀ b, (b < 132 ∨ 136 ≤ b) → I b = h.1 b) → (I 132 1).toInt = (N : Int) → (I 132 2).toInt = (k : Int) → I 132 3 = orP (usr st) i → (∀ c, c < i → I 133 c = usr st c) →
      Z l G mX8_set 7 (fun w h1 => ∃ J, w = none ∧ h1 = (J, h.2) ∧ ((∀ b, (b < 132 ∨ 136 ≤ b) → J b = h.1 b) ∧ TSt (J, h.2) k (trS (usr st) N k))) 0 0 18 [va_rf (some 132), va_rf (some 81), .int x2, .int x3, .int x4, u5] [] (I, h.2) := by
    intro fu
    induction fu with
    | zero => intro i x4 u5 I q1 q2; omega
    | succ fu ih =>
      intro i x4 u5 I q1 q2 hx e e1 e2 e3 e4
      refine sX8_set_18 132 81 x2 x3 x4 u5 hl hl0 (Nat.le_refl _) ⟨fun c1 I5 c2 => ⟨_, k + 3, by omega, ?_, fun I11 c3 => ⟨I11, rfl, rfl, c3⟩⟩, fun c4 => ⟨_, c_clayUsers l G (I, h.2) 81 st x4 hl0 (r.cg (fun b g1 g2 => e b (by omega))) hn, fun y24 I22 ⟨z1, z2⟩ I31 c6 I34 c7 => ?_⟩⟩
      · have ei : i = N := by have c1' : (I 132 1).toInt ≤ x4.toInt := c1; omega
        subst ei
        obtain ⟨a1, a2, a3⟩ := zwI_eff c2
        have ou := orP_63 (f := usr st) i (fun c hc => hu c hc)
        refine CT.mono (c_choose l G (usr st) i k (orP (usr st) i) hN hk (fun c hc => ⟨hu c hc, orP_mem i hc⟩) ou k (I5, h.2) 0 0 0 0 0 t00 S00 hl ?_ ?_ (by omega) rfl rfl (Nat.zero_le _) ⟨by decide, by decide⟩ Int32.zero_or (fun j hj => by omega)) rfl ?_
        · exact ⟨by show (I5 132 1).toInt = _; rw [a2 1 (by decide)]; exact e1, by show (I5 132 2).toInt = _; rw [a2 2 (by decide)]; exact e2, by show I5 132 3 = _; rw [a2 3 (by decide)]; exact e3, fun c hc => by show I5 133 c = _; rw [a1 133 (by decide)]; exact e4 c hc⟩
        · exact ⟨by show (I5 132 6).toInt = _; rw [a3]; rfl, fun z => absurd z (by decide)⟩
        · intro w g ⟨J, j1, j2, j3, j4⟩
          exact ⟨J, j1, j2, fun b hb => by rw [j3.1 b (by omega) (by omega) (by omega)]; show I5 b = _; rw [a1 b (by omega)]; exact e b hb, j4⟩
      · have eI : I22 = I := z2
        subst eI
        have hi : i < N := by have c4' : x4.toInt < (I22 132 1).toInt := c4; omega
        obtain ⟨a1, a2, a3⟩ := zput_eff (h := (I22, h.2)) (hl.w 1 rfl) hx (by omega) c6
        obtain ⟨b1, b2, b3⟩ := zwI_eff c7
        have yu : y24 = usr st i := by rw [z1]; unfold usr; rw [← n_ofn hx]
        refine ih (i + 1) _ _ I34 (by omega) (by omega) (i_1 hx (by omega)) (fun b hb => ?_) ?_ ?_ ?_ (fun c hc => ?_)
        · rw [b1 b (by omega)]; show I31 b = _; rw [a1 b (by omega)]; exact e b hb
        · rw [b2 1 (by decide)]; show (I31 132 1).toInt = _; rw [a1 132 (by decide)]; exact e1
        · rw [b2 2 (by decide)]; show (I31 132 2).toInt = _; rw [a1 132 (by decide)]; exact e2
        · rw [b3]; show I31 132 3 ||| y24 = orP (usr st) i ||| usr st i
          rw [a1 132 (by decide), yu]
          exact congrArg (· ||| usr st i) e3
        · rw [b1 133 (by decide)]
          show I31 133 c = _
          by_cases ec : c = i
          · subst ec; rw [a3, yu]
          · rw [a2 c ec]; exact e4 c (by omega)
  refine kX8_set 132 81 x2 x3 (sX8_set_0 132 81 x2 x3 hl hl0 (Nat.le_refl _) (fun I1 c1 I4 c2 I7 c3 => ?_))
  obtain ⟨a1, a2, a3⟩ := zwI_eff c1
  obtain ⟨b1, b2, b3⟩ := zwI_eff c2
  obtain ⟨d1, d2, d3⟩ := zwI_eff c3
  refine loop (N + 1) 0 0 zU I7 (by omega) (by omega) rfl (fun b hb => ?_) ?_ ?_ ?_ (fun c hc => by omega)
  · rw [d1 b (by omega)]; show I4 b = _; rw [b1 b (by omega)]; show I1 b = _; rw [a1 b (by omega)]
  · rw [d2 1 (by decide)]; show (I4 132 1).toInt = _; rw [b2 1 (by decide)]; show (I1 132 1).toInt = _; rw [a3]; exact h2
  · rw [d2 2 (by decide)]; show (I4 132 2).toInt = _; rw [b3]; exact h3
  · rw [d3]; rfl
def trapF (x2 x3 : Int32) (V : Nat → Int) : Int32 :=
  if (1 ≤ x2.toInt ∧ x2.toInt ≤ 3) ∧ 0 ≤ x3.toInt ∧ x3.toInt ≤ x2.toInt then (if x3 = 0 then Int32.ofInt (trS (usr (stM V (-1) 100)) (V 0 * V 1).toNat x2.toInt.toNat).1 else Int32.ofNat ((trS (usr (stM V (-1) 100)) (V 0 * V 1).toNat x2.toInt.toNat).2 (x3.toInt.toNat - 1))) else -1
/-! the reference's three loops -/
def bk (u : Nat → Int32) (k a b c : Nat) : Int32 := (u a ||| (if k < 2 then 0 else u b)) ||| (if k < 3 then 0 else u c)
def tr3 (a b c : Nat) : Nat → Nat := fun i => if i = 0 then a else if i = 1 then b else if i = 2 then c else 0
def trC (u : Nat → Int32) (k a b : Nat) : Nat → TS → TS := fun c S => lfS (bk u k a b c) (tr3 a b c) S
def bL (k a : Nat) : Nat := if k < 2 then 0 else a + 1
def bU (k N : Nat) : Nat := if k < 2 then 1 else N
def cL (k b : Nat) : Nat := if k < 3 then 0 else b + 1
def cU (k N : Nat) : Nat := if k < 3 then 1 else N
def trB (u : Nat → Int32) (N k a : Nat) : Nat → TS → TS := fun b S => scL (trC u k a b) (cL k b) (cU k N - cL k b) S
def trA (u : Nat → Int32) (N k : Nat) : Nat → TS → TS := fun a S => scL (trB u N k a) (bL k a) (bU k N - bL k a) S
theorem scL_cg {f g : Nat → TS → TS} (e : ∀ c S, f c S = g c S) : ∀ n c S, scL f c n S = scL g c n S
  | 0, _, _ => rfl
  | n + 1, c, S => by
    show scL f (c + 1) n (f c S) = scL g (c + 1) n (g c S)
    rw [e c S]; exact scL_cg e n (c + 1) _
theorem updN_1 (a : Nat) : updN t00 0 a = tr3 a 0 0 := funext fun i => by
  unfold updN tr3 t00
  repeat' split
  all_goals first | rfl | omega
theorem updN_2 (a b : Nat) : updN (tr3 a 0 0) 1 b = tr3 a b 0 := funext fun i => by
  unfold updN tr3
  repeat' split
  all_goals first | rfl | omega
theorem updN_3 (a b c : Nat) : updN (tr3 a b 0) 2 c = tr3 a b c := funext fun i => by
  unfold updN tr3
  repeat' split
  all_goals first | rfl | omega
theorem trA_sc (u : Nat → Int32) (N k : Nat) (hk : 1 ≤ k ∧ k ≤ 3) : scL (trA u N k) 0 N S00 = trS u N k := by
  unfold trS
  rcases (by omega : k = 1 ∨ k = 2 ∨ k = 3) with e | e | e <;> subst e
  · show _ = scL _ 0 (N - 0) S00
    rw [Nat.sub_zero]
    refine scL_cg (fun a S => ?_) N 0 S00
    show lfS ((u a ||| 0) ||| 0) (tr3 a 0 0) S = lfS (0 ||| u a) (updN t00 0 a) S
    rw [updN_1, Int32.or_zero, Int32.or_zero, Int32.zero_or]
  · show _ = scL _ 0 (N - 0) S00
    rw [Nat.sub_zero]
    refine scL_cg (fun a S => ?_) N 0 S00
    show scL _ (a + 1) (N - (a + 1)) S = scL _ (a + 1) (N - (a + 1)) S
    refine scL_cg (fun b S => ?_) _ _ S
    show lfS ((u a ||| u b) ||| 0) (tr3 a b 0) S = lfS ((0 ||| u a) ||| u b) (updN (updN t00 0 a) 1 b) S
    rw [updN_1, updN_2, Int32.or_zero, Int32.zero_or]
  · show _ = scL _ 0 (N - 0) S00
    rw [Nat.sub_zero]
    refine scL_cg (fun a S => ?_) N 0 S00
    show scL _ (a + 1) (N - (a + 1)) S = scL _ (a + 1) (N - (a + 1)) S
    refine scL_cg (fun b S => ?_) _ _ S
    show scL _ (b + 1) (N - (b + 1)) S = scL _ (b + 1) (N - (b + 1)) S
    refine scL_cg (fun c S => ?_) _ _ S
    show lfS ((u a ||| u b) ||| u c) (tr3 a b c) S = lfS (((0 ||| u a) ||| u b) ||| u c) (updN (updN (updN t00 0 a) 1 b) 2 c) S
    rw [updN_1, updN_2, updN_3, Int32.zero_or]
/-- the reference's two numbers of a state -/
def TM (x4 x5 : Int32) (S : TS) : Prop := x5.toInt = S.1 ∧ (S.1 < 0 → x4.toInt < 0) ∧ (0 ≤ S.1 → x4.toInt = 4096 * (S.2 0 : Int) + 64 * (S.2 1 : Int) + (S.2 2 : Int))
theorem TM.step {x4 x5 x6 x7 x8 y b : Int32} {S : TS} {a' b' c' : Nat} (t : TM x4 x5 S) (hb : r63 b) (hy : y = bitS b) (h6 : x6.toInt = (a' : Int)) (h7 : x7.toInt = (b' : Int)) (h8 : x8.toInt = (c' : Int)) (ha : a' < 65) (hbb : b' < 65) (hc : c' < 65) :
    (x5.toInt < y.toInt → TM (((4096 * x6) + (64 * x7)) + x8) y (lfS b (tr3 a' b' c') S)) ∧ (y.toInt ≤ x5.toInt → TM x4 x5 (lfS b (tr3 a' b' c') S)) := by
  have br := bitS_r hb
  unfold lfS
  refine ⟨fun q => ?_, fun q => ?_⟩
  · rw [if_pos (by rw [← t.1, ← hy]; exact q)]
    refine ⟨by rw [hy], fun z => absurd z (by show ¬ (bitS b).toInt < 0; omega), fun _ => ?_⟩
    have e1 : ((4096 : Int32) * x6).toInt = 4096 * (a' : Int) := by
      rw [i_mul (by rw [h6]; show _ ≤ (4096 : Int) * _; omega) (by rw [h6]; show (4096 : Int) * _ < _; omega), h6]; rfl
    have e2 : ((64 : Int32) * x7).toInt = 64 * (b' : Int) := by
      rw [i_mul (by rw [h7]; show _ ≤ (64 : Int) * _; omega) (by rw [h7]; show (64 : Int) * _ < _; omega), h7]; rfl
    have e3 : (4096 * x6 + 64 * x7).toInt = 4096 * (a' : Int) + 64 * (b' : Int) := by rw [i_add (by omega) (by omega), e1, e2]
    rw [i_add (by omega) (by omega), e3, h8]; rfl
  · rw [if_neg (by rw [← t.1, ← hy]; omega)]; exact t
theorem t_C (l : Launch) (G : zG) (J : zH) (hl : lo11 J 313) (u : Nat → Int32) (N k : Nat) (zk : zofk J 313 0 ∧ zofk J 313 1) (hz : (zcel J 313).toInt = (N : Int)) (hN : N ≤ 64) (hk : 1 ≤ k ∧ k ≤ 3) (ux : ∀ c, c < N → zI J 329 c = u c) (hu : ∀ c, c < N → r63 (u c)) {Q : Option Value → zH → Prop} (x1 x2 x3 x6 x7 : Int32) (h2 : x2.toInt = (k : Int)) (a b : Nat) (h6 : x6.toInt = (a : Int)) (h7 : x7.toInt = (b : Int)) (ha : a < N) (hb : b < 64) (hb2 : 2 ≤ k → b < N) (hb1 : k < 2 → b = 0) (S2 : TS)
    (cont : ∀ x4 x5 x8 u9, TM x4 x5 S2 → Z l G mX11_traps 6 Q 0 0 98 [va_rf (some 313), .int x1, .int x2, .int x3, .int x4, .int x5, .int x6, .int (x7 + 1), .int x8, u9] [] J) : ∀ (fu c : Nat) (x4 x5 x8 : Int32) (u9 : Value) (S : TS), c ≤ cU k N → cU k N - c < fu → x8.toInt = (c : Int) → TM x4 x5 S → scL (trC u k a b) c (cU k N - c) S = S2 →
    Z l G mX11_traps 6 Q 0 0 131 [va_rf (some 313), .int x1, .int x2, .int x3, .int x4, .int x5, .int x6, .int x7, .int x8, u9] [] J := by
  have ea : zI J (313 + 16) (zix x6) = u a := by rw [zix_of h6]; exact ux a ha
  have eb : 2 ≤ k → zI J (313 + 16) (zix x7) = u b := fun z => by rw [zix_of h7]; exact ux b (hb2 z)
  have z3 : (3 : Int32).toInt = 3 := rfl
  intro fu
  induction fu with
  | zero => intro c x4 x5 x8 u9 S q1 q2; omega
  | succ fu ih =>
    intro c x4 x5 x8 u9 S q1 q2 h8 t e
    have stp : c < cU k N → ∀ (w y : Int32), w = bk u k a b c → r63 (bk u k a b c) → y = bitS w → c < 65 →
        (x5.toInt < y.toInt → Z l G mX11_traps 6 Q 0 0 131 [va_rf (some 313), .int x1, .int x2, .int x3, .int (((4096 * x6) + (64 * x7)) + x8), .int y, .int x6, .int x7, .int (x8 + 1), .int y] [] J) ∧ (y.toInt ≤ x5.toInt → Z l G mX11_traps 6 Q 0 0 131 [va_rf (some 313), .int x1, .int x2, .int x3, .int x4, .int x5, .int x6, .int x7, .int (x8 + 1), .int y] [] J) := by
      intro hc w y ew hr ey c65
      have tt := t.step (y := y) (b := bk u k a b c) (a' := a) (b' := b) (c' := c) hr (by rw [ey, ew]) h6 h7 h8 (by omega) (by omega) c65
      obtain ⟨m, hm⟩ : ∃ m, cU k N - c = m + 1 := ⟨cU k N - c - 1, by omega⟩
      rw [hm] at e
      have e' : scL (trC u k a b) (c + 1) (cU k N - (c + 1)) (trC u k a b c S) = S2 := by
        rw [show cU k N - (c + 1) = m by omega]; exact e
      exact ⟨fun z => ih (c + 1) _ _ _ _ _ (by omega) (by omega) (i_1 h8 (by omega)) (tt.1 z) e', fun z => ih (c + 1) _ _ _ _ _ (by omega) (by omega) (i_1 h8 (by omega)) (tt.2 z) e'⟩
    have done : cU k N ≤ c → TM x4 x5 S2 := fun z => by
      rw [show cU k N - c = 0 by omega] at e
      rw [← e]; exact t
    by_cases k3 : k = 3
    · have eU : cU k N = N := by unfold cU; rw [if_neg (by omega)]
      have eb' := eb (by omega)
      refine sX11_traps_131 313 x1 x2 x3 x4 x5 x6 x7 x8 u9 hl (Nat.le_refl _) ⟨fun c1 => ⟨zk, fun c2 => cont _ _ _ _ (done (by omega)), fun c3 => ?_⟩, fun c22 => absurd c22 (by omega)⟩
      have hc : c < N := by omega
      have ec : zI J (313 + 16) (zix x8) = u c := by rw [zix_of h8]; exact ux c hc
      refine ⟨by omega, by show _ < (64 : Int); omega, fun c4 => ⟨by omega, by show _ < (64 : Int); omega, fun c5 => ⟨by omega, by show _ < (64 : Int); omega, ⟨_, c_bits l G J _, fun y29 I27 ⟨w1, w2⟩ => ?_⟩⟩, fun c9 => absurd c9 (by omega)⟩, fun c13 => absurd c13 (by omega)⟩
      have eI : I27 = J.1 := w2
      subst eI
      have ek : bk u k a b c = (u a ||| u b) ||| u c := by unfold bk; rw [if_neg (by omega), if_neg (by omega)]
      have s := stp (by omega) _ y29 (by rw [ek, ea, eb', ec]) (by rw [ek]; exact r63_or (r63_or (hu a ha) (hu b (hb2 (by omega)))) (hu c hc)) w1 (by omega)
      exact ⟨s.1, s.2⟩
    · have eU : cU k N = 1 := by unfold cU; rw [if_pos (by omega)]
      refine sX11_traps_131 313 x1 x2 x3 x4 x5 x6 x7 x8 u9 hl (Nat.le_refl _) ⟨fun c1 => absurd c1 (by omega), fun c22 => ⟨fun c23 => cont _ _ _ _ (done (by omega)), fun c24 => ⟨by omega, by show _ < (64 : Int); omega, fun c25 => ⟨by omega, by show _ < (64 : Int); omega, fun c26 => absurd c26 (by omega), fun c30 => ⟨_, c_bits l G J _, fun y112 I112 ⟨w1, w2⟩ => ?_⟩⟩, fun c34 => ⟨fun c35 => absurd c35 (by omega), fun c39 => ⟨_, c_bits l G J _, fun y145 I143 ⟨w1, w2⟩ => ?_⟩⟩⟩⟩⟩
      · have eI : I112 = J.1 := w2
        subst eI
        have ek : bk u k a b c = (u a ||| u b) ||| 0 := by unfold bk; rw [if_neg (by omega), if_pos (by omega)]
        have s := stp (by omega) _ y112 (by rw [ek, ea, eb (by omega)]) (by rw [ek]; exact r63_or (r63_or (hu a ha) (hu b (hb2 (by omega)))) ⟨by decide, by decide⟩) w1 (by omega)
        exact ⟨s.1, s.2⟩
      · have eI : I143 = J.1 := w2
        subst eI
        have ek : bk u k a b c = (u a ||| 0) ||| 0 := by unfold bk; rw [if_pos (by omega), if_pos (by omega)]
        have s := stp (by omega) _ y145 (by rw [ek, ea]) (by rw [ek]; exact r63_or (r63_or (hu a ha) ⟨by decide, by decide⟩) ⟨by decide, by decide⟩) w1 (by omega)
        exact ⟨s.1, s.2⟩
theorem t_B (l : Launch) (G : zG) (J : zH) (hl : lo11 J 313) (u : Nat → Int32) (N k : Nat) (zk : zofk J 313 0 ∧ zofk J 313 1) (hz : (zcel J 313).toInt = (N : Int)) (hN : N ≤ 64) (hk : 1 ≤ k ∧ k ≤ 3) (ux : ∀ c, c < N → zI J 329 c = u c) (hu : ∀ c, c < N → r63 (u c)) {Q : Option Value → zH → Prop} (x1 x2 x3 x6 : Int32) (h2 : x2.toInt = (k : Int)) (a : Nat) (h6 : x6.toInt = (a : Int)) (ha : a < N) (S3 : TS)
    (cont : ∀ x4 x5 x7 u8 u9, TM x4 x5 S3 → Z l G mX11_traps 6 Q 0 0 74 [va_rf (some 313), .int x1, .int x2, .int x3, .int x4, .int x5, .int (x6 + 1), x7, u8, u9] [] J) : ∀ (fu b : Nat) (x4 x5 x7 : Int32) (u8 u9 : Value) (S : TS), b ≤ bU k N → bU k N - b < fu → x7.toInt = (b : Int) → TM x4 x5 S → scL (trB u N k a) b (bU k N - b) S = S3 →
    Z l G mX11_traps 6 Q 0 0 98 [va_rf (some 313), .int x1, .int x2, .int x3, .int x4, .int x5, .int x6, .int x7, u8, u9] [] J := by
  intro fu
  induction fu with
  | zero => intro b x4 x5 x7 u8 u9 S q1 q2; omega
  | succ fu ih =>
    intro b x4 x5 x7 u8 u9 S q1 q2 h7 t e
    have done : bU k N ≤ b → TM x4 x5 S3 := fun z => by
      rw [show bU k N - b = 0 by omega] at e
      rw [← e]; exact t
    have stp : b < bU k N → (2 ≤ k → b < N) → (k < 2 → b = 0) → b < 64 → ∀ (x8 : Int32), x8.toInt = (cL k b : Int) → cL k b ≤ cU k N → Z l G mX11_traps 6 Q 0 0 131 [va_rf (some 313), .int x1, .int x2, .int x3, .int x4, .int x5, .int x6, .int x7, .int x8, u9] [] J := by
      intro hb hb2 hb1 b64 x8 h8 hle
      obtain ⟨m, hm⟩ : ∃ m, bU k N - b = m + 1 := ⟨bU k N - b - 1, by omega⟩
      rw [hm] at e
      have e' : scL (trB u N k a) (b + 1) (bU k N - (b + 1)) (trB u N k a b S) = S3 := by
        rw [show bU k N - (b + 1) = m by omega]; exact e
      exact t_C l G J hl u N k zk hz hN hk ux hu x1 x2 x3 x6 x7 h2 a b h6 h7 ha b64 hb2 hb1 _ (fun y4 y5 y8 v9 tt => ih (b + 1) _ _ _ _ _ _ (by omega) (by omega) (i_1 h7 (by omega)) tt e') (cU k N - cL k b + 1) (cL k b) x4 x5 x8 u9 S hle (by omega) h8 t rfl
    by_cases k2 : 2 ≤ k
    · have eU : bU k N = N := by unfold bU; rw [if_neg (by omega)]
      refine sX11_traps_98 313 x1 x2 x3 x4 x5 x6 x7 u8 u9 hl (Nat.le_refl _) ⟨fun c1 => ⟨zk, fun c2 => cont _ _ _ _ _ (done (by omega)), fun c3 => ⟨fun c4 => stp (by omega) (fun _ => by omega) (fun z => by omega) (by omega) (x7 + 1) ?_ ?_, fun c5 => stp (by omega) (fun _ => by omega) (fun z => by omega) (by omega) 0 ?_ ?_⟩⟩, fun c6 => absurd c6 (by omega)⟩
      · unfold cL; rw [if_neg (by omega)]; exact i_1 h7 (by omega)
      · unfold cL cU; rw [if_neg (by omega), if_neg (by omega)]; omega
      · unfold cL; rw [if_pos (by omega)]; rfl
      · unfold cL cU; rw [if_pos (by omega), if_pos (by omega)]; omega
    · have eU : bU k N = 1 := by unfold bU; rw [if_pos (by omega)]
      refine sX11_traps_98 313 x1 x2 x3 x4 x5 x6 x7 u8 u9 hl (Nat.le_refl _) ⟨fun c1 => absurd c1 (by omega), fun c6 => ⟨fun c7 => cont _ _ _ _ _ (done (by omega)), fun c8 => ⟨fun c9 => absurd c9 (by omega), fun c10 => stp (by omega) (fun z => by omega) (fun z => by omega) (by omega) 0 ?_ ?_⟩⟩⟩
      · unfold cL; rw [if_pos (by omega)]; rfl
      · unfold cL cU; rw [if_pos (by omega), if_pos (by omega)]; omega
theorem trap_val {x4 x5 : Int32} {S : TS} (t : TM x4 x5 S) (hp : 0 ≤ S.1) (h64 : ∀ i, S.2 i < 64) : 0 ≤ x4.toInt ∧ x5 = Int32.ofInt S.1 ∧ x4 / 4096 = Int32.ofNat (S.2 0) ∧ zrem (x4 / 64) 64 = Int32.ofNat (S.2 1) ∧ zrem x4 64 = Int32.ofNat (S.2 2) := by
  have e := t.2.2 hp
  have a0 := h64 0
  have a1 := h64 1
  have a2 := h64 2
  have p4 : 0 ≤ x4.toInt := by omega
  refine ⟨p4, by rw [← t.1, Int32.ofInt_toInt], n_ofn ?_, n_ofn ?_, n_ofn ?_⟩
  · rw [n_div p4 (by decide)]; show x4.toInt / 4096 = _; omega
  · have q : (x4 / 64).toInt = x4.toInt / 64 := n_div p4 (by decide)
    rw [n_rem (by rw [q]; omega) (by decide), q]; show x4.toInt / 64 % 64 = _; omega
  · rw [n_rem p4 (by decide)]; show x4.toInt % 64 = _; omega
theorem t_A (l : Launch) (G : zG) (J : zH) (hl : lo11 J 313) (u : Nat → Int32) (N k : Nat) (zk : zofk J 313 0 ∧ zofk J 313 1) (hz : (zcel J 313).toInt = (N : Int)) (hN : N ≤ 64) (hk : 1 ≤ k ∧ k ≤ 3) (ux : ∀ c, c < N → zI J 329 c = u c) (hu : ∀ c, c < N → r63 (u c)) {Q : Option Value → zH → Prop} (x1 x2 x3 : Int32) (h2 : x2.toInt = (k : Int))
    (cont : ∀ x4 x5, TM x4 x5 (trS u N k) → (x4.toInt < 0 → Q (some (.int (-1))) J) ∧ (0 ≤ x4.toInt → (x3 = 0 → Q (some (.int x5)) J) ∧ (¬ x3 = 0 → (x3 = 1 → Q (some (.int (x4 / 4096))) J) ∧ (¬ x3 = 1 → (x3 = 2 → Q (some (.int (zrem (x4 / 64) 64))) J) ∧ (¬ x3 = 2 → Q (some (.int (zrem x4 64))) J))))) : ∀ (fu a : Nat) (x4 x5 x6 : Int32) (u7 u8 u9 : Value) (S : TS), a ≤ N → N - a < fu → x6.toInt = (a : Int) → TM x4 x5 S → scL (trA u N k) a (N - a) S = trS u N k →
    Z l G mX11_traps 6 Q 0 0 74 [va_rf (some 313), .int x1, .int x2, .int x3, .int x4, .int x5, .int x6, u7, u8, u9] [] J := by
  intro fu
  induction fu with
  | zero => intro a x4 x5 x6 u7 u8 u9 S q1 q2; omega
  | succ fu ih =>
    intro a x4 x5 x6 u7 u8 u9 S q1 q2 h6 t e
    have done : N ≤ a → TM x4 x5 (trS u N k) := fun z => by
      rw [show N - a = 0 by omega] at e
      rw [← e]; exact t
    have stp : a < N → ∀ (x7 : Int32), x7.toInt = (bL k a : Int) → bL k a ≤ bU k N → Z l G mX11_traps 6 Q 0 0 98 [va_rf (some 313), .int x1, .int x2, .int x3, .int x4, .int x5, .int x6, .int x7, u8, u9] [] J := by
      intro ha x7 h7 hle
      obtain ⟨m, hm⟩ : ∃ m, N - a = m + 1 := ⟨N - a - 1, by omega⟩
      rw [hm] at e
      have e' : scL (trA u N k) (a + 1) (N - (a + 1)) (trA u N k a S) = trS u N k := by
        rw [show N - (a + 1) = m by omega]; exact e
      exact t_B l G J hl u N k zk hz hN hk ux hu x1 x2 x3 x6 h2 a h6 ha _ (fun y4 y5 v7 v8 v9 tt => ih (a + 1) _ _ _ _ _ _ _ (by omega) (by omega) (i_1 h6 (by omega)) tt e') (bU k N - bL k a + 1) (bL k a) x4 x5 x7 u8 u9 S hle (by omega) h7 t rfl
    refine sX11_traps_74 313 x1 x2 x3 x4 x5 x6 u7 u8 u9 hl (Nat.le_refl _) ⟨zk, fun c1 => ?_, fun c10 => ⟨fun c11 => stp (by omega) (x6 + 1) ?_ ?_, fun c12 => stp (by omega) 0 ?_ ?_⟩⟩
    · have d := cont x4 x5 (done (by omega))
      exact ⟨fun c2 => ⟨fun c3 => ⟨fun c4 => ⟨fun c5 => (((d.2 c2).2 c3).2 c4).2 c5, fun c6 => (((d.2 c2).2 c3).2 c4).1 c6⟩, fun c7 => ((d.2 c2).2 c3).1 c7⟩, fun c8 => (d.2 c2).1 c8⟩, fun c9 => d.1 c9⟩
    · have : (2 : Int32).toInt = 2 := rfl
      unfold bL; rw [if_neg (by omega)]; exact i_1 h6 (by omega)
    · unfold bL bU; rw [if_neg (by omega), if_neg (by omega)]; omega
    · unfold bL; rw [if_pos (by omega)]; rfl
    · unfold bL bU; rw [if_pos (by omega), if_pos (by omega)]; omega
theorem pp_traps {Kept : zH → Prop} (hk : KOK Kept) (l : Launch) (G : zG) : P_traps Kept l G := fun x1 x2 x3 => by
  have hN : ∀ V : Nat → Int, WFN V → ∃ N : Nat, V 0 * V 1 = (N : Int) ∧ 4 ≤ N ∧ N ≤ 64 := fun V w => by
    have w0 := w.1
    have w1 := w.2.1
    have a1 : 2 * 2 ≤ V 0 * V 1 := Int.mul_le_mul w0.1 w1.1 (by decide) (by omega)
    have a2 : V 0 * V 1 ≤ 8 * 8 := Int.mul_le_mul w0.2 w1.2 (by omega) (by decide)
    exact ⟨(V 0 * V 1).toNat, by omega, by omega, by omega⟩
  refine Pair.night hk x1 (-1) (trapF x2 x3) (fun h hI c0 => ?_) (fun h n hI ⟨b1, b2, b4, b6, b7, b8⟩ => ?_) (fun h hI c0 => ?_) (fun h n hI ⟨b1, b2, b4, b6, b7, b8⟩ bT => ?_)
  · exact kX10_traps 0 x1 x2 x3 (sX10_traps_0 0 x1 x2 x3 hI.1 (Nat.le_refl _) ⟨fun c1 => ⟨_, h.1, rfl, rfl, rfl, SameC.rf h⟩, fun b5 c2 => absurd (c0.symm.trans c2) (fun z => by cases z)⟩)
  · refine kX10_traps 0 x1 x2 x3 (sX10_traps_0 0 x1 x2 x3 hI.1 (Nat.le_refl _) ⟨fun c1 => absurd (b4.symm.trans c1) (fun z => by cases z), fun b5 c2 => ?_⟩)
    have e5 : b5 = 5 + 18 * n := (Option.some.inj (b4.symm.trans c2)).symm
    subst e5
    have l81 := los_81 hI.1
    have l132 := los_132 hI.1
    have n150 := stM_150 b7 (al := -1) 100
    have okk := (stM_ok b7 (al := -1) 100).1
    obtain ⟨N, eN, n4, n64⟩ := hN _ b7
    refine ⟨fun c3 => ⟨_, h.1, rfl, rfl, ?_, SameC.rf h⟩, fun c4 => ⟨fun c5 => ⟨_, h.1, rfl, rfl, ?_, SameC.rf h⟩, fun c6 => ⟨fun c7 => ⟨_, h.1, rfl, rfl, ?_, SameC.rf h⟩, fun c8 => ⟨fun c9 => ?_, fun c14 => ⟨_, h.1, rfl, rfl, ?_, SameC.rf h⟩⟩⟩⟩⟩
    · unfold trapF; rw [if_neg (by omega)]
    · unfold trapF; rw [if_neg (by omega)]
    · unfold trapF; rw [if_neg (by omega)]
    · obtain ⟨k, hk'⟩ : ∃ k : Nat, x2.toInt = (k : Int) := ⟨x2.toInt.toNat, by omega⟩
      have fv : trapF x2 x3 (RW h (610 + 318 * n)) = (if x3 = 0 then Int32.ofInt (trS (usr (stM (RW h (610 + 318 * n)) (-1) 100)) N k).1 else Int32.ofNat ((trS (usr (stM (RW h (610 + 318 * n)) (-1) 100)) N k).2 (x3.toInt.toNat - 1))) := by
        unfold trapF
        rw [if_pos (by omega), eN, show ((N : Int)).toNat = N from rfl, show x2.toInt.toNat = k by omega]
      rw [fv]
      have hu : ∀ c, c < N → r63 (usr (stM (RW h (610 + 318 * n)) (-1) 100) c) := fun c _ => users_63 okk _
      refine ⟨_, c_lay l G h _ 81 (5 + 18 * n) 99 99 l81 b6 b7 b8 (by omega) rfl (by decide), fun I27 ⟨g1, g2, g3⟩ => ?_⟩
      have oJ : NObj (I27, h.2) (5 + 18 * n) (RW h (610 + 318 * n)) := b8.same b7 (fun b z1 z2 => g1 b (by omega))
      have hc := (zhas_at b7 oJ (c := 0)).1
      rw [eN] at hc
      refine ⟨b6, _, c_set8 l G (I27, h.2) _ N k _ x2 l132 l81 g2 n150 n64 (by omega) hu hc hk', fun I41 ⟨j1, j2⟩ => ?_⟩
      have s : SameC h I41 := fun b hb j => by
        unfold IC at hb
        rw [j1 b (by omega)]
        show I27 b j = _
        rw [g1 b (by omega)]
      have sp : 0 ≤ (trS (usr (stM (RW h (610 + 318 * n)) (-1) 100)) N k).1 := sc_pos hu k 0 0 _ 0 _ ⟨by decide, by decide⟩ (by omega)
      refine ⟨fun c12 => ⟨_, I41, rfl, rfl, ?_, s⟩, fun c13 => ⟨_, I41, rfl, rfl, ?_, s⟩⟩
      · rw [if_neg c12]
        have x3n : x3.toInt ≠ 0 := fun z => c12 (n_m0.mpr z)
        have ex : (x3 - 1).toInt = ((x3.toInt.toNat - 1 : Nat) : Int) := by
          rw [i_sub (by show _ ≤ x3.toInt - (1 : Int); omega) (by show x3.toInt - (1 : Int) < _; omega)]
          show x3.toInt - (1 : Int) = _; omega
        show zget (I41, h.2) (some 135) (x3 - 1) = _
        rw [zget_w (h := (I41, h.2)) (l132.w 3 rfl) ex (by omega)]
        exact n_ofn (j2.2 sp _ (by omega))
      · rw [if_pos c13, ← j2.1, Int32.ofInt_toInt]
    · unfold trapF; rw [if_neg (by omega)]
  · refine kX11_traps 313 x1 x2 x3 (sX11_traps_0 313 x1 x2 x3 hI.2.1 (Nat.le_refl _) ⟨_, c_isN l G hI x1, fun y6 I4 ⟨s1, s2, s3, s4⟩ => ⟨fun c2 => ⟨_, I4, rfl, rfl, rfl, s1⟩, fun c2 => ?_⟩⟩)
    exact absurd (c0.symm.trans (s3.symm.trans c2)) (fun z => by cases z)
  · refine kX11_traps 313 x1 x2 x3 (sX11_traps_0 313 x1 x2 x3 hI.2.1 (Nat.le_refl _) ⟨_, c_isN l G hI x1, fun y6 I4 ⟨s1, s2, s3, s4⟩ => ⟨fun c2 => absurd (bT.symm.trans (s3.symm.trans c2)) (fun z => by cases z), fun c2 => ?_⟩⟩)
    have eV : RW (I4, h.2) (610 + 318 * n) = RW h (610 + 318 * n) := RWc s1.al _
    have ma := s4 n b1 b2 c2
    have mm := ma.mn b2 (by rw [eV]; exact b7)
    rw [eV] at mm
    have n150 := stM_150 b7 (al := -1) 100
    have okk := (stM_ok b7 (al := -1) 100).1
    obtain ⟨N, eN, n4, n64⟩ := hN _ b7
    refine ⟨fun c4 => ⟨_, I4, rfl, rfl, ?_, s1⟩, fun c5 => ⟨fun c6 => ⟨_, c_till l G (I4, h.2) n _ (-1) 99 99 hI.2.1 b7 mm (by rw [ma.2.1]; rfl) rfl (by decide), fun I31 ⟨g1, g2, g3, g4⟩ => ?_⟩, fun c8 => ⟨_, I4, rfl, rfl, ?_, s1⟩⟩⟩
    · have z := zin3_f.mp c4
      rw [show (1 : Int32).toInt = 1 from rfl, show (3 : Int32).toInt = 3 from rfl] at z
      unfold trapF; rw [if_neg (by omega)]
    · have z := zin3_t.mp c5
      rw [show (1 : Int32).toInt = 1 from rfl, show (3 : Int32).toInt = 3 from rfl] at z
      have z2 := zin3_t.mp c6
      rw [show (0 : Int32).toInt = 0 from rfl] at z2
      obtain ⟨k, hk'⟩ : ∃ k : Nat, x2.toInt = (k : Int) := ⟨x2.toInt.toNat, by omega⟩
      have fv : trapF x2 x3 (RW h (610 + 318 * n)) = (if x3 = 0 then Int32.ofInt (trS (usr (stM (RW h (610 + 318 * n)) (-1) 100)) N k).1 else Int32.ofNat ((trS (usr (stM (RW h (610 + 318 * n)) (-1) 100)) N k).2 (x3.toInt.toNat - 1))) := by
        unfold trapF
        rw [if_pos (by omega), eN, show ((N : Int)).toNat = N from rfl, show x2.toInt.toNat = k by omega]
      have hu : ∀ c, c < N → r63 (usr (stM (RW h (610 + 318 * n)) (-1) 100) c) := fun c _ => users_63 okk _
      have s : SameC h I31 := s1.tr g1.same
      have mJ : MN (I31, h.2) n (RW h (610 + 318 * n)) := OnlyT.mn (h := (I4, h.2)) g1 mm
      rw [fv]
      have ux : ∀ (fu i : Nat) (x4 : Int32) (J : Nat → Nat → Int32), i ≤ N → N - i < fu → x4.toInt = (i : Int) → (∀ b, b ≠ 329 → J b = I31 b) → (∀ c, c < i → J 329 c = usr (stM (RW h (610 + 318 * n)) (-1) 100) c) →
          Z l G mX11_traps 6 (fun v h1 => ∃ y I, v = some (.int y) ∧ h1 = (I, h.2) ∧ (y = (if x3 = 0 then Int32.ofInt (trS (usr (stM (RW h (610 + 318 * n)) (-1) 100)) N k).1 else Int32.ofNat ((trS (usr (stM (RW h (610 + 318 * n)) (-1) 100)) N k).2 (x3.toInt.toNat - 1))) ∧ SameC h I)) 0 0 37 [va_rf (some 313), .int x1, .int x2, .int x3, .int x4, zU, zU, zU, zU, zU] [] (J, h.2) := by
        intro fu
        induction fu with
        | zero => intro i x4 J q1 q2; omega
        | succ fu ih =>
          intro i x4 J q1 q2 hx e1 e2
          have mK : MN (J, h.2) n (RW h (610 + 318 * n)) := MN.cg (h := (I31, h.2)) mJ (fun k _ => by rw [e1 313 (by decide)]) (e1 314 (by decide)) (fun k _ => by rw [e1 317 (by decide)])
          obtain ⟨zk, zc⟩ := zcel_at mK b7
          rw [eN] at zc
          refine sX11_traps_37 313 x1 x2 x3 x4 zU zU zU zU zU hI.2.1 (Nat.le_refl _) ⟨zk, fun c1 => ?_, fun c3 => ⟨_, c_usersM l G (J, h.2) _ x4 hI.2.1 (MPr.cg (h := (I31, h.2)) g2 (by rw [e1 313 (by decide)]) (fun b g1 g2 => ?_)) n150, fun y14 I12 ⟨w1, w2⟩ => ⟨by omega, by show _ < (64 : Int); omega, fun I19 c4 => ?_⟩⟩⟩
          · have ei : i = N := by omega
            subst ei
            have sJ : SameC h J := fun b hb j => by
              rw [e1 b (by unfold IC at hb; omega)]; exact s b hb j
            refine t_A l G (J, h.2) hI.2.1 (usr (stM (RW h (610 + 318 * n)) (-1) 100)) i k zk zc n64 (by omega) e2 hu x1 x2 x3 hk' (fun x4 x5 t => ?_) (i + 1) 0 (-1) (-1) 0 zU zU zU S00 (by omega) (by omega) rfl ⟨rfl, fun _ => by decide, fun z => absurd z (by decide)⟩ (trA_sc _ _ _ (by omega))
            have sp : 0 ≤ (trS (usr (stM (RW h (610 + 318 * n)) (-1) 100)) i k).1 := sc_pos hu k 0 0 _ 0 _ ⟨by decide, by decide⟩ (by omega)
            have s64 : ∀ j, (trS (usr (stM (RW h (610 + 318 * n)) (-1) 100)) i k).2 j < 64 := sc_64 n64 k 0 0 _ 0 _ (fun _ => (by decide : 0 < 64)) (fun _ => (by decide : 0 < 64))
            obtain ⟨v0, v1, v2, v3, v4⟩ := trap_val t sp s64
            refine ⟨fun c => absurd c (by omega), fun _ => ⟨fun c => ⟨_, J, rfl, rfl, ?_, sJ⟩, fun c' => ⟨fun c => ⟨_, J, rfl, rfl, ?_, sJ⟩, fun c'' => ⟨fun c => ⟨_, J, rfl, rfl, ?_, sJ⟩, fun c => ⟨_, J, rfl, rfl, ?_, sJ⟩⟩⟩⟩⟩
            · rw [if_pos c]; exact v1
            · rw [if_neg c', c]; exact v2
            · rw [if_neg c', c]; exact v3
            · rw [if_neg c']
              have n0 : x3.toInt ≠ 0 := fun z => c' (n_m0.mpr z)
              have n1 : x3.toInt ≠ 1 := fun z => c'' (i_ext z)
              have n2 : x3.toInt ≠ 2 := fun z => c (i_ext z)
              rw [show x3.toInt.toNat - 1 = 2 by omega]; exact v4
          · exact e1 b (by omega)
          · have eI : I12 = J := w2
            subst eI
            obtain ⟨a1, a2, a3⟩ := zwI_eff c4
            rw [zix_of hx] at a2 a3
            refine ih (i + 1) _ I19 (by omega) (by omega) (i_1 hx (by omega)) (fun b hb => (a1 b hb).trans (e1 b hb)) (fun c hc => ?_)
            by_cases ec : c = i
            · subst ec; show I19 (313 + 16) c = _; rw [a3, w1]; unfold usr; rw [← n_ofn hx]
            · exact (a2 c ec).trans (e2 c (by omega))
      exact ux (N + 1) 0 0 I31 (by omega) (by omega) rfl (fun _ _ => rfl) (fun c hc => by omega)
    · have z := zin3_t.mp c5
      have z2 := zin3_f.mp c8
      rw [show (0 : Int32).toInt = 0 from rfl] at z2
      unfold trapF; rw [if_neg (by omega)]
