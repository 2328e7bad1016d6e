set_option maxRecDepth 4000
/-! ===== the reference's prints ===== -/
def MPr (h : zH) (st : PS) : Prop := (zI h 313 23).toInt = (st.n : Int) ∧ ∀ k, k < st.n → ∀ j, j < 8 → zI h (320 + j) k = st.P k j
def MGt (h : zH) (g : Nat → Nat → Int32) : Prop := ∀ p, p < 6 → ∀ j, j < 4 → zI h 328 (4 * p + j) = g p j
theorem c_topmost (l : Launch) (G : zG) (h : zH) (st : PS) (c : Int32) (hl : lo11 h 313) (r : MPr h st) (hn : st.n ≤ 150) : CTi l G YX11_topmost 1 [va_rf (some 313), .int c] h (fun y I => y = topI (topo st.P c st.n) ∧ I = h.1) := by
  have loop : ∀ (i : Nat) (x2 : Int32), i ≤ st.n → x2.toInt = (i : Int) - 1 → topo st.P c st.n = topo st.P c i →
      Z l G mX11_topmost 1 (fun w h1 => ∃ x I1, w = some (.int x) ∧ h1 = (I1, h.2) ∧ (x = topI (topo st.P c st.n) ∧ I1 = h.1)) 0 0 7 [va_rf (some 313), .int c, .int x2] [] h := by
    intro i
    induction i with
    | zero =>
      intro x2 h1 hx e
      refine sX11_topmost_7 313 c x2 hl (Nat.le_refl _) ⟨fun c1 => ⟨_, h.1, rfl, rfl, ?_, rfl⟩, fun c2 => absurd c2 (by omega)⟩
      rw [e]; rfl
    | succ i ih =>
      intro x2 h1 hx e
      have hx' : x2.toInt = (i : Int) := by omega
      have ez : zI h (313 + 7) (zix x2) = st.P i 0 := by rw [zix_of hx']; exact r.2 i (by omega) 0 (by decide)
      refine sX11_topmost_7 313 c x2 hl (Nat.le_refl _) ⟨fun c1 => absurd c1 (by omega), fun c2 => ⟨c2, by show _ < (160 : Int); omega, fun c3 => ?_, fun c4 => ⟨_, h.1, rfl, rfl, ?_, rfl⟩⟩⟩
      · rw [ez] at c3
        refine ih (x2 + (-1)) (by omega) ?_ ?_
        · rw [i_add (by show _ ≤ _ + (-1 : Int); omega) (by show _ + (-1 : Int) < _; omega), hx]; show _ + (-1 : Int) = _; omega
        · rw [e]
          show (if st.P i 0 = c then some i else topo st.P c i) = _
          rw [if_neg c3]
      · rw [ez] at c4
        rw [e]
        show _ = topI (if st.P i 0 = c then some i else topo st.P c i)
        rw [if_pos c4]; exact n_ofn hx'
  have r0 := i_rng (zI h 313 23)
  have e0 := r.1
  refine kX11_topmost 313 c (sX11_topmost_0 313 c hl (Nat.le_refl _) (loop st.n _ (Nat.le_refl _) ?_ rfl))
  rw [i_sub (by rw [e0]; show _ ≤ _ - (1 : Int); omega) (by rw [e0]; show _ - (1 : Int) < _; omega), e0]; rfl
def lds2 (V : Nat → Int) (p : Nat) : Nat → Int
  | 0 => 0
  | q + 1 => lds2 V p q + (if q ≠ p ∧ pF V q 5 = p then pF V q 2 else 0)
theorem lds_2 {V : Nat → Int} {p : Nat} : ∀ k, lds V p k = lds2 V p k + (if p < k then pF V p 2 else 0)
  | 0 => by rw [if_neg (Nat.not_lt_zero p)]; rfl
  | k + 1 => by
    have ih := lds_2 (V := V) (p := p) k
    unfold lds lds2
    rw [ih]
    by_cases e : k = p
    · rw [if_pos (show k = p ∨ pF V k 5 = p from Or.inl e), if_neg (show ¬ (k ≠ p ∧ pF V k 5 = p) from fun z => z.1 e), if_neg (show ¬ p < k by omega), if_pos (show p < k + 1 by omega), e]
      try omega
    · have e3 : (if p < k then pF V p 2 else 0) = (if p < k + 1 then pF V p 2 else 0) := by
        by_cases q : p < k
        · rw [if_pos q, if_pos (show p < k + 1 by omega)]
        · rw [if_neg q, if_neg (show ¬ p < k + 1 by omega)]
      rw [e3]
      by_cases e2 : pF V k 5 = p
      · rw [if_pos (show k = p ∨ pF V k 5 = p from Or.inr e2), if_pos (show k ≠ p ∧ pF V k 5 = p from ⟨e, e2⟩)]
        omega
      · rw [if_neg (show ¬ (k = p ∨ pF V k 5 = p) from fun z => z.elim e e2), if_neg (show ¬ (k ≠ p ∧ pF V k 5 = p) from fun z => e2 z.2)]
        omega
theorem c_depthOf (l : Launch) (G : zG) (h : zH) (n : Nat) (V : Nat → Int) (p : Nat) (F : Int) (x1 x2 : Int32) (hl : lo11 h 313) (w : WFN V) (m : MN h n V) (hP : (p : Int) < V 3) (hp : x1.toInt = (p : Int)) (hf : x2.toInt = F) (bf : 0 ≤ F ∧ F ≤ 1) : CTi l G YX11_depthOf 3 [va_rf (some 313), .int x1, .int x2] h (fun y I => y.toInt = depV V p F ∧ I = h.1) := by
  have w3 := w.2.2.2.1
  have w2 := w.2.2.1
  have h6 : p < 6 := by omega
  have pw := per_w w hP
  obtain ⟨k3, v3⟩ := m.of (w := 3) (W := 3) rfl (by decide)
  obtain ⟨t2, f2⟩ := m.f (w := 2) (f := 2) hp h6 rfl (by decide)
  obtain ⟨t3, f3⟩ := m.f (w := 3) (f := 3) hp h6 rfl (by decide)
  obtain ⟨kw, vw⟩ := m.of (w := 2) (W := 2) rfl (by decide)
  have lr : ∀ k : Nat, (k : Int) ≤ V 3 → 0 ≤ lds2 V p k ∧ lds2 V p k ≤ 9 * k := fun k => by
    induction k with
    | zero => intro _; exact ⟨Int.le_refl _, Int.le_refl _⟩
    | succ k ih =>
      intro hk
      have := ih (by omega)
      have := (per_w w (P := k) (by omega)).2.2.1
      unfold lds2
      split <;> omega
  have loop : ∀ (f k : Nat) (x3 x4 : Int32), (k : Int) ≤ V 3 → V 3 - k < (f : Int) → x4.toInt = (k : Int) → x3.toInt = pF V p 2 + V 2 + lds2 V p k →
      Z l G mX11_depthOf 3 (fun w h1 => ∃ x I1, w = some (.int x) ∧ h1 = (I1, h.2) ∧ (x.toInt = depV V p F ∧ I1 = h.1)) 0 0 16 [va_rf (some 313), .int x1, .int x2, .int x3, .int x4] [] h := by
    intro f
    induction f with
    | zero => intro k x3 x4 h1 h2; omega
    | succ f ih =>
      intro k x3 x4 h1 h2 hx hs
      have b := lr k h1
      refine sX11_depthOf_16 313 x1 x2 x3 x4 hl (Nat.le_refl _) ⟨k3, fun c1 => ⟨t3, fun c2 => ⟨_, h.1, rfl, rfl, ?_, rfl⟩, fun c3 => ⟨_, h.1, rfl, rfl, ?_, rfl⟩⟩, fun c4 => ?_⟩
      all_goals have e1 : (x2 + 1).toInt = F + 1 := by rw [i_add (by show _ ≤ _ + (1 : Int); omega) (by show _ + (1 : Int) < _; omega), hf]; rfl
      · have ek : (V 3).toNat = k := by omega
        have el : loadV V p = x3.toInt := by
          unfold loadV
          rw [lds_2, ek, if_pos (by omega), hs]; omega
        unfold depV
        rw [if_neg (fun z => c2 (i_ext (by rw [f3, e1, z]))), el]
      · have ek : (V 3).toNat = k := by omega
        have el : loadV V p = x3.toInt := by
          unfold loadV
          rw [lds_2, ek, if_pos (by omega), hs]; omega
        have z : pF V p 3 = F + 1 := by rw [← f3, c3, e1]
        unfold depV
        rw [if_pos z, el]
        unfold zhalf
        have := pw.2.2.1
        split
        · rfl
        · rw [n_div (by omega) (by decide)]; rfl
      · have hk : (k : Int) < V 3 := by omega
        obtain ⟨ct, cv⟩ := m.car hx (by omega)
        obtain ⟨tk, fk⟩ := m.f (w := 2) (f := 2) hx (by omega) rfl (by decide)
        have pk := (per_w w hk).2.2.1
        have s1 : lds2 V p (k + 1) = lds2 V p k + (if k ≠ p ∧ pF V k 5 = p then pF V k 2 else 0) := rfl
        have a0 : (x3 + 0).toInt = x3.toInt := by
          have := pw.2.2.1
          rw [i_add (by show _ ≤ _ + (0 : Int); omega) (by show _ + (0 : Int) < _; omega)]; show _ + (0 : Int) = _; omega
        refine ⟨fun c5 => ih (k + 1) _ _ (by omega) (by omega) (i_1 hx (by omega)) ?_, fun c6 => ⟨ct, fun c7 => ih (k + 1) _ _ (by omega) (by omega) (i_1 hx (by omega)) ?_, fun c8 => ⟨tk, ih (k + 1) _ _ (by omega) (by omega) (i_1 hx (by omega)) ?_⟩⟩⟩
        · have e : k = p := by have := congrArg Int32.toInt c5; omega
          rw [a0, hs, s1, if_neg (fun z => z.1 e)]; omega
        · have e : ¬ pF V k 5 = p := fun z => c7 (i_ext (by rw [cv, z, hp]))
          rw [a0, hs, s1, if_neg (fun z => e z.2)]; omega
        · have e : pF V k 5 = p := by rw [← cv, c8, hp]
          have ne : k ≠ p := fun z => c6 (i_ext (by omega))
          have := pw.2.2.1
          rw [i_add (by omega) (by omega), hs, fk, s1, if_pos ⟨ne, e⟩]; omega
  refine kX11_depthOf 313 x1 x2 (sX11_depthOf_0 313 x1 x2 hl (Nat.le_refl _) ⟨t2, kw, loop 7 0 _ 0 (by omega) (by omega) rfl ?_⟩)
  have := pw.2.2.1
  rw [i_add (by omega) (by omega), f2, vw]; show _ = _ + (0 : Int); omega
/-! one foot -/
theorem m4 {x c : Int32} {p j : Nat} (hx : x.toInt = (p : Int)) (hp : p < 6) (hc : c.toInt = (j : Int)) (hj : j < 4) : ((4 * x) + c).toInt = ((4 * p + j : Nat) : Int) := by
  have e : ((4 : Int32) * x).toInt = 4 * (p : Int) := by
    rw [i_mul (by rw [hx]; show _ ≤ (4 : Int) * _; omega) (by rw [hx]; show (4 : Int) * _ < _; omega), hx]; rfl
  rw [i_add (by rw [e]; omega) (by rw [e]; omega), e, hc]; omega
theorem m40 {x : Int32} {p : Nat} (hx : x.toInt = (p : Int)) (hp : p < 6) : (4 * x).toInt = ((4 * p + 0 : Nat) : Int) := by
  rw [i_mul (by rw [hx]; show _ ≤ (4 : Int) * _; omega) (by rw [hx]; show (4 : Int) * _ < _; omega), hx]; show (4 : Int) * _ = _; omega
theorem MGt.up {h : zH} {g : Nat → Nat → Int32} {p j i : Nat} {v a : Int32} {I : Nat → Nat → Int32} (c : MGt h g) (hp : p < 6) (hj : j < 4) (hi : i = 4 * p + j) (ev : v = zI h 328 i + a) (e : I = (zwI h 328 i v).1) : (∀ b, b ≠ 328 → I b = h.1 b) ∧ MGt (I, h.2) (fun q k => if q = p ∧ k = j then g q k + a else g q k) := by
  obtain ⟨e1, e2, e3⟩ := zwI_eff e
  refine ⟨e1, fun q hq k hk => ?_⟩
  show I 328 (4 * q + k) = (if q = p ∧ k = j then g q k + a else g q k)
  by_cases z : q = p ∧ k = j
  · rw [if_pos z, show 4 * q + k = i by rw [z.1, z.2, hi], e3, ev, hi, z.1, z.2]
    exact congrArg (· + a) (c p hp j hj)
  · rw [if_neg z, e2 _ (fun y => z (by omega))]; exact c q hq k hk
theorem MGt.cg {h : zH} {J : Nat → Nat → Int32} {g : Nat → Nat → Int32} (c : MGt h g) (e : J 328 = h.1 328) : MGt (J, h.2) g := fun p hp j hj => by
  show J 328 _ = _
  rw [e]; exact c p hp j hj
theorem MGt.eq {h : zH} {g g' : Nat → Nat → Int32} (c : MGt h g) (e : ∀ p j, j < 4 → g' p j = g p j) : MGt h g' := fun p hp j hj => by rw [e p j hj]; exact c p hp j hj
theorem MPr.cg {h : zH} {J : Nat → Nat → Int32} {st : PS} (c : MPr h st) (e1 : J 313 23 = h.1 313 23) (e : ∀ b, 320 ≤ b → b < 328 → J b = h.1 b) : MPr (J, h.2) st := by
  refine ⟨by show (J 313 23).toInt = _; rw [e1]; exact c.1, fun k hk j hj => ?_⟩
  show J (320 + j) k = _
  rw [e _ (by omega) (by omega)]; exact c.2 k hk j hj
/-- only prints and gaits change -/
def OnlyP (h : zH) (J : Nat → Nat → Int32) : Prop := (∀ b, b ≠ 313 → (b < 320 ∨ 329 ≤ b) → J b = h.1 b) ∧ ∀ k, k ≠ 23 → J 313 k = h.1 313 k
theorem OnlyP.rf (h : zH) : OnlyP h h.1 := ⟨fun _ _ _ => rfl, fun _ _ => rfl⟩
theorem OnlyP.tr {h : zH} {I J : Nat → Nat → Int32} (a : OnlyP h I) (b : OnlyP (I, h.2) J) : OnlyP h J := ⟨fun k h1 h2 => (b.1 k h1 h2).trans (a.1 k h1 h2), fun k hk => (b.2 k hk).trans (a.2 k hk)⟩
theorem OnlyP.of {h : zH} {J : Nat → Nat → Int32} {b0 : Nat} (hb : 320 ≤ b0 ∧ b0 < 329) (e : ∀ b, b ≠ b0 → J b = h.1 b) : OnlyP h J := ⟨fun b h1 h2 => e b (by omega), fun k hk => by rw [e 313 (by omega)]⟩
theorem OnlyP.mn {h : zH} {J : Nat → Nat → Int32} {n : Nat} {V : Nat → Int} (a : OnlyP h J) (m : MN h n V) : MN (J, h.2) n V := m.cg (fun k hk => a.2 k (by omega)) (a.1 314 (by decide) (by decide)) (fun k _ => by rw [a.1 317 (by decide) (by decide)])
theorem c_foot222 (l : Launch) (G : zG) (h0 h : zH) (st : PS) (p m : Nat) (x1 x2 c s f d w : Int32) (u3 u8 : Value) (hl : lo11 h 313) (r : MPr h st) (g : Nat → Nat → Int32) (gt : MGt h g) (hg : ∀ q j, j < 4 → g q j = if q = p ∧ j = 0 then st.g q j + 1 else st.g q j) (hn : st.n < 150) (hp : x1.toInt = (p : Int)) (h6 : p < 6) (hm : x2.toInt = (m : Int)) (hm9 : m < 100) (hc : zI h 318 (100 * p + m) = c) (e0 : h0.2 = h.2) (o0 : OnlyP h0 h.1) :
    Z l G mX11_foot 4 (fun v h1 => ∃ J, v = none ∧ h1 = (J, h0.2) ∧ (OnlyP h0 J ∧ MPr (J, h0.2) (pressS st p m c s f d w) ∧ MGt (J, h0.2) (pressS st p m c s f d w).g)) 0 0 222 [va_rf (some 313), .int x1, .int x2, u3, .int f, .int d, .int s, .int w, u8] [] h := by
  rw [e0]
  have a1 := m4 (c := 1) (j := 1) hp h6 rfl (by decide)
  have am := m100 hp h6 hm hm9
  have g1 : 0 ≤ ((4 * x1) + 1).toInt := by rw [a1]; omega
  have g2 : ((4 * x1) + 1).toInt < ((24 : Nat) : Int) := by rw [a1]; omega
  have nn := r.1
  refine sX11_foot_222 313 x1 x2 u3 f d s w u8 hl (Nat.le_refl _) ⟨g1, g2, g1, g2, fun I3 c1 => ?_⟩
  rw [zix_of a1] at c1
  obtain ⟨y1, q1⟩ := gt.up (a := 1) h6 (by decide : 1 < 4) rfl rfl c1
  have n3 : zI (I3, h.2) 313 23 = zI h 313 23 := congrFun (y1 313 (by decide)) 23
  refine ⟨by rw [am]; omega, by rw [am]; omega, by rw [n3]; omega, by rw [n3]; show _ < (160 : Int); omega, fun I8 c2 => ?_⟩
  rw [n3, zix_of nn, zix_of am, show zI (I3, h.2) (313 + 5) (100 * p + m) = c from (congrFun (y1 318 (by decide)) _).trans hc] at c2
  obtain ⟨b1, b2, b3⟩ := zwI_eff c2
  have n8 : zI (I8, h.2) 313 23 = zI h 313 23 := (congrFun (b1 313 (by decide)) 23).trans n3
  refine ⟨by rw [n8]; omega, by rw [n8]; show _ < (160 : Int); omega, fun I12 c3 => ?_⟩
  rw [n8, zix_of nn] at c3
  obtain ⟨d1, d2, d3⟩ := zwI_eff c3
  have n12 : zI (I12, h.2) 313 23 = zI h 313 23 := (congrFun (d1 313 (by decide)) 23).trans n8
  refine ⟨by rw [n12]; omega, by rw [n12]; show _ < (160 : Int); omega, fun I16 c4 => ?_⟩
  rw [n12, zix_of nn] at c4
  obtain ⟨f1, f2, f3⟩ := zwI_eff c4
  have n16 : zI (I16, h.2) 313 23 = zI h 313 23 := (congrFun (f1 313 (by decide)) 23).trans n12
  refine ⟨by rw [n16]; omega, by rw [n16]; show _ < (160 : Int); omega, fun I20 c5 => ?_⟩
  rw [n16, zix_of nn] at c5
  obtain ⟨k1, k2, k3⟩ := zwI_eff c5
  have n20 : zI (I20, h.2) 313 23 = zI h 313 23 := (congrFun (k1 313 (by decide)) 23).trans n16
  refine ⟨by rw [n20]; omega, by rw [n20]; show _ < (160 : Int); omega, fun I24 c6 => ?_⟩
  rw [n20, zix_of nn] at c6
  obtain ⟨l1, l2, l3⟩ := zwI_eff c6
  have n24 : zI (I24, h.2) 313 23 = zI h 313 23 := (congrFun (l1 313 (by decide)) 23).trans n20
  refine ⟨by rw [n24]; omega, by rw [n24]; show _ < (160 : Int); omega, fun I28 c7 => ?_⟩
  rw [n24, zix_of nn] at c7
  obtain ⟨o1, o2, o3⟩ := zwI_eff c7
  have n28 : zI (I28, h.2) 313 23 = zI h 313 23 := (congrFun (o1 313 (by decide)) 23).trans n24
  refine ⟨by rw [n28]; omega, by rw [n28]; show _ < (160 : Int); omega, fun I32 c8 => ?_⟩
  rw [n28, zix_of nn] at c8
  obtain ⟨r1, r2, r3⟩ := zwI_eff c8
  have n32 : zI (I32, h.2) 313 23 = zI h 313 23 := (congrFun (r1 313 (by decide)) 23).trans n28
  refine ⟨by rw [n32]; omega, by rw [n32]; show _ < (160 : Int); omega, fun I36 c9 I39 c10 => ⟨I39, rfl, rfl, ?_⟩⟩
  rw [n32, zix_of nn] at c9
  obtain ⟨s1, s2, s3⟩ := zwI_eff c9
  have n36 : zI (I36, h.2) 313 23 = zI h 313 23 := (congrFun (s1 313 (by decide)) 23).trans n32
  obtain ⟨t1, t2, t3⟩ := zwI_eff c10
  rw [n36] at t3
  -- all outside
  have out : ∀ b, b ≠ 313 → (b < 320 ∨ 328 ≤ b) → I39 b = I3 b := fun b hb hb2 => by
    have z1 : I39 b = I36 b := t1 b hb
    have z2 : I36 b = I32 b := s1 b (by omega)
    have z3 : I32 b = I28 b := r1 b (by omega)
    have z4 : I28 b = I24 b := o1 b (by omega)
    have z5 : I24 b = I20 b := l1 b (by omega)
    have z6 : I20 b = I16 b := k1 b (by omega)
    have z7 : I16 b = I12 b := f1 b (by omega)
    have z8 : I12 b = I8 b := d1 b (by omega)
    have z9 : I8 b = I3 b := b1 b (by omega)
    rw [z1, z2, z3, z4, z5, z6, z7, z8, z9]
  have o313 : ∀ k, k ≠ 23 → I39 313 k = h.1 313 k := fun k hk => by
    have z1 : I39 313 k = I36 313 k := t2 k hk
    have z2 : I36 313 = I32 313 := s1 313 (by decide)
    have z3 : I32 313 = I28 313 := r1 313 (by decide)
    have z4 : I28 313 = I24 313 := o1 313 (by decide)
    have z5 : I24 313 = I20 313 := l1 313 (by decide)
    have z6 : I20 313 = I16 313 := k1 313 (by decide)
    have z7 : I16 313 = I12 313 := f1 313 (by decide)
    have z8 : I12 313 = I8 313 := d1 313 (by decide)
    have z9 : I8 313 = I3 313 := b1 313 (by decide)
    rw [z1, z2, z3, z4, z5, z6, z7, z8, z9]
    exact congrFun (y1 313 (by decide)) k
  refine ⟨⟨fun b h1 h2 => ?_, fun k hk => (o313 k hk).trans (o0.2 k hk)⟩, ⟨?_, fun k hk j hj => ?_⟩, ?_⟩
  · rw [out b h1 (by omega)]
    exact (y1 b (by omega)).trans (o0.1 b h1 h2)
  · show (I39 313 23).toInt = ((st.n + 1 : Nat) : Int)
    rw [t3]; exact i_1 nn (by omega)
  · have hk' : k < st.n + 1 := hk
    show I39 (320 + j) k = (if k = st.n then mkR c s f d w (Int32.ofNat m) (Int32.ofNat p) (bit1 p) else st.P k) j
    have w1 : I39 (320 + j) = I36 (320 + j) := t1 _ (by omega)
    rw [w1]
    have old : k ≠ st.n → zI h (320 + j) k = st.P k j := fun e => r.2 k (by omega) j hj
    have y3 : ∀ b, b ≠ 328 → I3 b = h.1 b := y1
    match j, hj with
    | 0, _ =>
      have e : I36 320 = I8 320 := (s1 320 (by decide)).trans ((r1 320 (by decide)).trans ((o1 320 (by decide)).trans ((l1 320 (by decide)).trans ((k1 320 (by decide)).trans ((f1 320 (by decide)).trans (d1 320 (by decide)))))))
      show I36 320 k = _
      rw [e]
      by_cases z : k = st.n
      · rw [if_pos z, z]; exact b3
      · rw [if_neg z]; exact (b2 k z).trans ((congrFun (y3 320 (by decide)) k).trans (old z))
    | 1, _ =>
      have e : I36 321 = I12 321 := (s1 321 (by decide)).trans ((r1 321 (by decide)).trans ((o1 321 (by decide)).trans ((l1 321 (by decide)).trans ((k1 321 (by decide)).trans (f1 321 (by decide))))))
      have e2 : I8 321 = h.1 321 := (b1 321 (by decide)).trans (y3 321 (by decide))
      show I36 321 k = _
      rw [e]
      by_cases z : k = st.n
      · rw [if_pos z, z]; exact d3
      · rw [if_neg z]; exact (d2 k z).trans ((congrFun e2 k).trans (old z))
    | 2, _ =>
      have e : I36 322 = I16 322 := (s1 322 (by decide)).trans ((r1 322 (by decide)).trans ((o1 322 (by decide)).trans ((l1 322 (by decide)).trans (k1 322 (by decide)))))
      have e2 : I12 322 = h.1 322 := (d1 322 (by decide)).trans ((b1 322 (by decide)).trans (y3 322 (by decide)))
      show I36 322 k = _
      rw [e]
      by_cases z : k = st.n
      · rw [if_pos z, z]; exact f3
      · rw [if_neg z]; exact (f2 k z).trans ((congrFun e2 k).trans (old z))
    | 3, _ =>
      have e : I36 323 = I20 323 := (s1 323 (by decide)).trans ((r1 323 (by decide)).trans ((o1 323 (by decide)).trans (l1 323 (by decide))))
      have e2 : I16 323 = h.1 323 := (f1 323 (by decide)).trans ((d1 323 (by decide)).trans ((b1 323 (by decide)).trans (y3 323 (by decide))))
      show I36 323 k = _
      rw [e]
      by_cases z : k = st.n
      · rw [if_pos z, z]; exact k3
      · rw [if_neg z]; exact (k2 k z).trans ((congrFun e2 k).trans (old z))
    | 4, _ =>
      have e : I36 324 = I24 324 := (s1 324 (by decide)).trans ((r1 324 (by decide)).trans (o1 324 (by decide)))
      have e2 : I20 324 = h.1 324 := (k1 324 (by decide)).trans ((f1 324 (by decide)).trans ((d1 324 (by decide)).trans ((b1 324 (by decide)).trans (y3 324 (by decide)))))
      show I36 324 k = _
      rw [e]
      by_cases z : k = st.n
      · rw [if_pos z, z]; exact l3
      · rw [if_neg z]; exact (l2 k z).trans ((congrFun e2 k).trans (old z))
    | 5, _ =>
      have e : I36 325 = I28 325 := (s1 325 (by decide)).trans (r1 325 (by decide))
      have e2 : I24 325 = h.1 325 := (l1 325 (by decide)).trans ((k1 325 (by decide)).trans ((f1 325 (by decide)).trans ((d1 325 (by decide)).trans ((b1 325 (by decide)).trans (y3 325 (by decide))))))
      show I36 325 k = _
      rw [e]
      by_cases z : k = st.n
      · rw [if_pos z, z]; exact o3.trans (n_ofn hm)
      · rw [if_neg z]; exact (o2 k z).trans ((congrFun e2 k).trans (old z))
    | 6, _ =>
      have e : I36 326 = I32 326 := s1 326 (by decide)
      have e2 : I28 326 = h.1 326 := (o1 326 (by decide)).trans ((l1 326 (by decide)).trans ((k1 326 (by decide)).trans ((f1 326 (by decide)).trans ((d1 326 (by decide)).trans ((b1 326 (by decide)).trans (y3 326 (by decide)))))))
      show I36 326 k = _
      rw [e]
      by_cases z : k = st.n
      · rw [if_pos z, z]; exact r3.trans (n_ofn hp)
      · rw [if_neg z]; exact (r2 k z).trans ((congrFun e2 k).trans (old z))
    | 7, _ =>
      have e2 : I32 327 = h.1 327 := (r1 327 (by decide)).trans ((o1 327 (by decide)).trans ((l1 327 (by decide)).trans ((k1 327 (by decide)).trans ((f1 327 (by decide)).trans ((d1 327 (by decide)).trans ((b1 327 (by decide)).trans (y3 327 (by decide))))))))
      show I36 327 k = _
      by_cases z : k = st.n
      · rw [if_pos z, z]; exact s3.trans (bit1_of hp)
      · rw [if_neg z]; exact (s2 k z).trans ((congrFun e2 k).trans (old z))
    | i + 8, q => omega
  · refine (MGt.cg (h := (I3, h.2)) q1 (out 328 (by decide) (by decide))).eq (fun q j hj => ?_)
    show gup st.g p 1 0 0 q j = if q = p ∧ j = 1 then g q j + 1 else g q j
    rw [hg q j hj]
    unfold gup
    by_cases e : q = p
    · rw [if_pos e]
      match j, hj with
      | 0, _ => simp [e]
      | 1, _ => simp [e]
      | 2, _ => simp [e]
      | 3, _ => simp [e]
      | k + 4, z => omega
    · simp [e]
