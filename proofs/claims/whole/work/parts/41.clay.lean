set_option maxRecDepth 4000
/-! ===== the class's clay ===== -/
theorem zput_eff {h : zH} {q N : Nat} {x v : Int32} {i : Nat} {I : Nat → Nat → Int32} (a : zAw h q N) (hx : x.toInt = (i : Int)) (hi : i < N) (e : I = (zput h (some q) x v).1) : (∀ b, b ≠ q → I b = h.1 b) ∧ (∀ k, k ≠ i → I q k = h.1 q k) ∧ I q i = v := by
  rw [zput_w a hx hi] at e
  refine ⟨fun b hb => by rw [e]; exact funext fun k => zwI_no (fun z => hb z.1), fun k hk => by rw [e]; exact zwI_no (fun z => hk z.2), by rw [e]; exact zwI_at⟩
theorem zwI_eff {h : zH} {q i : Nat} {v : Int32} {I : Nat → Nat → Int32} (e : I = (zwI h q i v).1) : (∀ b, b ≠ q → I b = h.1 b) ∧ (∀ k, k ≠ i → I q k = h.1 q k) ∧ I q i = v :=
  ⟨fun b hb => by rw [e]; exact funext fun k => zwI_no (fun z => hb z.1), fun k hk => by rw [e]; exact zwI_no (fun z => hk z.2), by rw [e]; exact zwI_at⟩
theorem shp_t : ∀ s, s < 7 → ∀ f, f < 2 → ∀ d, d < 4 → (zshape (Int32.ofNat s) (Int32.ofNat f) (Int32.ofNat d)).toInt = 8 * s + 4 * f + d ∧ zsole (zshape (Int32.ofNat s) (Int32.ofNat f) (Int32.ofNat d)) = Int32.ofNat s ∧ zfoot (zshape (Int32.ofNat s) (Int32.ofNat f) (Int32.ofNat d)) = Int32.ofNat f ∧ zside (zshape (Int32.ofNat s) (Int32.ofNat f) (Int32.ofNat d)) = Int32.ofNat d := by decide +kernel
theorem shp {s f d : Int32} (hs : 0 ≤ s.toInt ∧ s.toInt ≤ 6) (hf : 0 ≤ f.toInt ∧ f.toInt ≤ 1) (hd : 0 ≤ d.toInt ∧ d.toInt ≤ 3) : (zshape s f d).toInt = 8 * s.toInt + 4 * f.toInt + d.toInt ∧ zsole (zshape s f d) = s ∧ zfoot (zshape s f d) = f ∧ zside (zshape s f d) = d := by
  obtain ⟨a, ha⟩ : ∃ k : Nat, s.toInt = (k : Int) := ⟨s.toInt.toNat, by omega⟩
  obtain ⟨b, hb⟩ : ∃ k : Nat, f.toInt = (k : Int) := ⟨f.toInt.toNat, by omega⟩
  obtain ⟨c, hc⟩ : ∃ k : Nat, d.toInt = (k : Int) := ⟨d.toInt.toNat, by omega⟩
  have := shp_t a (by omega) b (by omega) c (by omega)
  rw [← n_ofn ha, ← n_ofn hb, ← n_ofn hc] at this
  rw [ha, hb, hc]
  exact this
theorem shp_eq {s f d s' f' d' : Int32} (hs : 0 ≤ s.toInt ∧ s.toInt ≤ 6) (hf : 0 ≤ f.toInt ∧ f.toInt ≤ 1) (hd : 0 ≤ d.toInt ∧ d.toInt ≤ 3) (hs' : 0 ≤ s'.toInt ∧ s'.toInt ≤ 6) (hf' : 0 ≤ f'.toInt ∧ f'.toInt ≤ 1) (hd' : 0 ≤ d'.toInt ∧ d'.toInt ≤ 3) : zshape s f d = zshape s' f' d' ↔ (s = s' ∧ f = f' ∧ d = d') := by
  have e1 := (shp hs hf hd).2
  have e2 := (shp hs' hf' hd').2
  refine ⟨fun e => ?_, fun e => by rw [e.1, e.2.1, e.2.2]⟩
  rw [e] at e1
  exact ⟨e1.1.symm.trans e2.1, e1.2.1.symm.trans e2.2.1, e1.2.2.symm.trans e2.2.2⟩
def CPr (h : zH) (a : Nat) (st : PS) : Prop :=
  (zI h a 0).toInt = (st.n : Int) ∧
  (∀ k, k < st.n → zI h (a + 1) k = st.P k 0 ∧ zI h (a + 2) k = zshape (st.P k 1) (st.P k 2) (st.P k 3) ∧ zI h (a + 3) k = st.P k 4 ∧ zI h (a + 4) k = st.P k 5 ∧ zI h (a + 5) k = st.P k 6 ∧ zI h (a + 6) k = st.P k 7) ∧
  ∀ c : Int32, 0 ≤ c.toInt → c.toInt < 64 → zI h (a + 7) (zix c) = topI (topo st.P c st.n)
def CGt (h : zH) (a : Nat) (g : Nat → Nat → Int32) : Prop := ∀ p, p < 6 → ∀ j, j < 4 → zI h (a + (10 + j)) p = g p j
theorem CPr.cg {h : zH} {J : Nat → Nat → Int32} {a : Nat} {st : PS} (c : CPr h a st) (e : ∀ b, a ≤ b → b < a + 8 → J b = h.1 b) : CPr (J, h.2) a st := by
  have z : ∀ b, a ≤ b → b < a + 8 → zI (J, h.2) b = zI h b := e
  unfold CPr
  rw [z a (by omega) (by omega), z (a + 1) (by omega) (by omega), z (a + 2) (by omega) (by omega), z (a + 3) (by omega) (by omega), z (a + 4) (by omega) (by omega), z (a + 5) (by omega) (by omega), z (a + 6) (by omega) (by omega), z (a + 7) (by omega) (by omega)]
  exact c
theorem lo0_w {h : zH} {a : Nat} (ha : lo0 h a) : zAw h (a + 1) 150 ∧ zAw h (a + 2) 150 ∧ zAw h (a + 3) 150 ∧ zAw h (a + 4) 150 ∧ zAw h (a + 5) 150 ∧ zAw h (a + 6) 150 ∧ zAw h (a + 7) 64 ∧ zAw h (a + 8) 6 ∧ zAw h (a + 9) 6 ∧ ∀ j, j < 4 → zAw h (a + (10 + j)) 6 := by
  refine ⟨ha.w 1 rfl, ha.w 2 rfl, ha.w 3 rfl, ha.w 4 rfl, ha.w 5 rfl, ha.w 6 rfl, ha.w 7 rfl, ha.w 8 rfl, ha.w 9 rfl, fun j hj => ?_⟩
  match j, hj with
  | 0, _ => exact ha.w 10 rfl
  | 1, _ => exact ha.w 11 rfl
  | 2, _ => exact ha.w 12 rfl
  | 3, _ => exact ha.w 13 rfl
  | k + 4, q => omega
theorem c_wash (l : Launch) (G : zG) (h : zH) (a : Nat) (st : PS) (ha : lo0 h a) : CTv l G YX0_wash 2 [va_rf (some a)] h (fun I => (∀ b, b ≠ a → b ≠ a + 7 → I b = h.1 b) ∧ CPr (I, h.2) a (washS st)) := by
  refine kX0_wash a (sX0_wash_0 a ha (Nat.le_refl _) (fun I1 c1 => ⟨_, c_fill l G (I1, h.2) (a + 7) 64 (-1) (ha.w 7 rfl) (by decide), fun I7 c2 => ⟨I7, rfl, rfl, fun b h1 h2 => ?_, ?_, fun k hk => absurd hk (Nat.not_lt_zero k), fun c hc hc2 => ?_⟩⟩))
  · rw [c2]; funext k
    exact (if_neg (fun z => h2 z.1)).trans (congrFun ((zwI_eff c1).1 b h1) k)
  · show (I7 a 0).toInt = 0
    rw [c2, show zfill (I1, h.2) (a + 7) 64 (-1) a 0 = I1 a 0 from if_neg (by omega), (zwI_eff c1).2.2]; rfl
  · show I7 (a + 7) (zix c) = -1
    rw [c2]
    exact if_pos ⟨rfl, by unfold zix; omega⟩
theorem c_press (l : Launch) (G : zG) (h : zH) (a : Nat) (st : PS) (p m : Nat) (x1 x2 c s f d w : Int32) (ha : lo0 h a) (r : CPr h a st) (hn : st.n < 150) (hp : x1.toInt = (p : Int)) (hm : x2.toInt = (m : Int)) (hc : 0 ≤ c.toInt ∧ c.toInt < 64) :
    CTv l G YX0_press 2 [va_rf (some a), .int x1, .int x2, .int c, .int (zshape s f d), .int w] h (fun I => (∀ b, (b < a ∨ a + 8 ≤ b) → I b = h.1 b) ∧ CPr (I, h.2) a (pressS st p m c s f d w)) := by
  obtain ⟨w1, w2, w3, w4, w5, w6, w7, _⟩ := lo0_w ha
  obtain ⟨r1, r2, r3⟩ := r
  obtain ⟨cc, hcc⟩ : ∃ k : Nat, c.toInt = (k : Int) := ⟨c.toInt.toNat, by omega⟩
  refine kX0_press a x1 x2 c (zshape s f d) w (sX0_press_0 a x1 x2 c (zshape s f d) w ha (Nat.le_refl _) (fun I4 c1 I10 c2 I16 c3 I22 c4 I28 c5 I34 c6 I40 c7 I43 c8 => ⟨I43, rfl, rfl, ?_⟩))
  obtain ⟨a1, a2, a3⟩ := zput_eff w1 r1 hn c1
  have n1 : I4 a = h.1 a := a1 a (by omega)
  obtain ⟨b1, b2, b3⟩ := zput_eff (h := (I4, h.2)) w2 (show (I4 a 0).toInt = _ by rw [n1]; exact r1) hn c2
  have n2 : I10 a = h.1 a := (b1 a (by omega)).trans n1
  obtain ⟨d1, d2, d3⟩ := zput_eff (h := (I10, h.2)) w3 (show (I10 a 0).toInt = _ by rw [n2]; exact r1) hn c3
  have n3 : I16 a = h.1 a := (d1 a (by omega)).trans n2
  obtain ⟨e1, e2, e3⟩ := zput_eff (h := (I16, h.2)) w4 (show (I16 a 0).toInt = _ by rw [n3]; exact r1) hn c4
  have n4 : I22 a = h.1 a := (e1 a (by omega)).trans n3
  obtain ⟨f1, f2, f3⟩ := zput_eff (h := (I22, h.2)) w5 (show (I22 a 0).toInt = _ by rw [n4]; exact r1) hn c5
  have n5 : I28 a = h.1 a := (f1 a (by omega)).trans n4
  obtain ⟨g1, g2, g3⟩ := zput_eff (h := (I28, h.2)) w6 (show (I28 a 0).toInt = _ by rw [n5]; exact r1) hn c6
  have n6 : I34 a = h.1 a := (g1 a (by omega)).trans n5
  obtain ⟨k1, k2, k3⟩ := zput_eff (h := (I34, h.2)) w7 hcc (by omega) c7
  have n7 : I40 a = h.1 a := (k1 a (by omega)).trans n6
  obtain ⟨l1, l2, l3⟩ := zwI_eff c8
  have out : ∀ b, (b < a ∨ a + 8 ≤ b) → I43 b = h.1 b := fun b hb => by
    rw [l1 b (by omega)]
    show I40 b = _
    rw [k1 b (by omega)]
    show I34 b = _
    rw [g1 b (by omega)]
    show I28 b = _
    rw [f1 b (by omega)]
    show I22 b = _
    rw [e1 b (by omega)]
    show I16 b = _
    rw [d1 b (by omega)]
    show I10 b = _
    rw [b1 b (by omega)]
    exact a1 b (by omega)
  have z1 : I43 (a + 1) = I4 (a + 1) := (l1 _ (by omega)).trans ((k1 _ (by omega)).trans ((g1 _ (by omega)).trans ((f1 _ (by omega)).trans ((e1 _ (by omega)).trans ((d1 _ (by omega)).trans (b1 _ (by omega)))))))
  have z2 : I43 (a + 2) = I10 (a + 2) := (l1 _ (by omega)).trans ((k1 _ (by omega)).trans ((g1 _ (by omega)).trans ((f1 _ (by omega)).trans ((e1 _ (by omega)).trans (d1 _ (by omega))))))
  have z3 : I43 (a + 3) = I16 (a + 3) := (l1 _ (by omega)).trans ((k1 _ (by omega)).trans ((g1 _ (by omega)).trans ((f1 _ (by omega)).trans (e1 _ (by omega)))))
  have z4 : I43 (a + 4) = I22 (a + 4) := (l1 _ (by omega)).trans ((k1 _ (by omega)).trans ((g1 _ (by omega)).trans (f1 _ (by omega))))
  have z5 : I43 (a + 5) = I28 (a + 5) := (l1 _ (by omega)).trans ((k1 _ (by omega)).trans (g1 _ (by omega)))
  have z6 : I43 (a + 6) = I34 (a + 6) := (l1 _ (by omega)).trans (k1 _ (by omega))
  have z7 : I43 (a + 7) = I40 (a + 7) := l1 _ (by omega)
  have y2 : I4 (a + 2) = h.1 (a + 2) := a1 _ (by omega)
  have y3 : I10 (a + 3) = h.1 (a + 3) := (b1 _ (by omega)).trans (a1 _ (by omega))
  have y4 : I16 (a + 4) = h.1 (a + 4) := (d1 _ (by omega)).trans ((b1 _ (by omega)).trans (a1 _ (by omega)))
  have y5 : I22 (a + 5) = h.1 (a + 5) := (e1 _ (by omega)).trans ((d1 _ (by omega)).trans ((b1 _ (by omega)).trans (a1 _ (by omega))))
  have y6 : I28 (a + 6) = h.1 (a + 6) := (f1 _ (by omega)).trans ((e1 _ (by omega)).trans ((d1 _ (by omega)).trans ((b1 _ (by omega)).trans (a1 _ (by omega)))))
  have y7 : I34 (a + 7) = h.1 (a + 7) := (g1 _ (by omega)).trans ((f1 _ (by omega)).trans ((e1 _ (by omega)).trans ((d1 _ (by omega)).trans ((b1 _ (by omega)).trans (a1 _ (by omega))))))
  refine ⟨out, ?_, fun k hk => ?_, fun c' h1 h2 => ?_⟩
  · show (I43 a 0).toInt = ((st.n + 1 : Nat) : Int)
    rw [l3]
    show (I40 a 0 + 1).toInt = _
    rw [n7]
    exact i_1 r1 (by omega)
  · have hk' : k < st.n + 1 := hk
    show I43 (a + 1) k = (if k = st.n then mkR c s f d w (Int32.ofNat m) (Int32.ofNat p) (bit1 p) else st.P k) 0 ∧ I43 (a + 2) k = zshape ((if k = st.n then mkR c s f d w (Int32.ofNat m) (Int32.ofNat p) (bit1 p) else st.P k) 1) ((if k = st.n then mkR c s f d w (Int32.ofNat m) (Int32.ofNat p) (bit1 p) else st.P k) 2) ((if k = st.n then mkR c s f d w (Int32.ofNat m) (Int32.ofNat p) (bit1 p) else st.P k) 3) ∧ I43 (a + 3) k = (if k = st.n then mkR c s f d w (Int32.ofNat m) (Int32.ofNat p) (bit1 p) else st.P k) 4 ∧ I43 (a + 4) k = (if k = st.n then mkR c s f d w (Int32.ofNat m) (Int32.ofNat p) (bit1 p) else st.P k) 5 ∧ I43 (a + 5) k = (if k = st.n then mkR c s f d w (Int32.ofNat m) (Int32.ofNat p) (bit1 p) else st.P k) 6 ∧ I43 (a + 6) k = (if k = st.n then mkR c s f d w (Int32.ofNat m) (Int32.ofNat p) (bit1 p) else st.P k) 7
    rw [z1, z2, z3, z4, z5, z6]
    by_cases e : k = st.n
    · subst e
      simp only [if_true]
      rw [a3, b3, d3, e3, f3, g3]
      exact ⟨rfl, rfl, rfl, n_ofn hm, n_ofn hp, bit1_of hp⟩
    · simp only [if_neg e]
      rw [a2 k e, b2 k e, d2 k e, e2 k e, f2 k e, g2 k e]
      show h.1 (a + 1) k = _ ∧ I4 (a + 2) k = _ ∧ I10 (a + 3) k = _ ∧ I16 (a + 4) k = _ ∧ I22 (a + 5) k = _ ∧ I28 (a + 6) k = _
      rw [y2, y3, y4, y5, y6]
      exact r2 k (by omega)
  · show I43 (a + 7) (zix c') = topI (if (if st.n = st.n then mkR c s f d w (Int32.ofNat m) (Int32.ofNat p) (bit1 p) else st.P st.n) 0 = c' then some st.n else topo (fun k => if k = st.n then mkR c s f d w (Int32.ofNat m) (Int32.ofNat p) (bit1 p) else st.P k) c' st.n)
    rw [z7, if_pos rfl, topo_cg (P := st.P) st.n (fun k hk => by rw [if_neg (by omega)])]
    show _ = topI (if c = c' then _ else _)
    by_cases e : c = c'
    · rw [if_pos e, ← e, zix_of hcc, k3]
      show I34 a 0 = Int32.ofNat st.n
      rw [n6]; exact n_ofn r1
    · have ne : zix c' ≠ cc := fun z => e (i_ext (by
        have : zix c' = c'.toInt.toNat := rfl
        omega))
      rw [if_neg e, k2 _ ne]
      show I34 (a + 7) (zix c') = _
      rw [y7]; exact r3 c' h1 h2
theorem raise_g {h : zH} {a p j : Nat} {x : Int32} {g : Nat → Nat → Int32} {I : Nat → Nat → Int32} (ha : lo0 h a) (hj : j < 4) (hx : x.toInt = (p : Int)) (hp : p < 6) (c : CGt h a g) (e : I = (zput h (some (a + (10 + j))) x (zget h (some (a + (10 + j))) x + 1)).1) : (∀ b, b ≠ a + (10 + j) → I b = h.1 b) ∧ CGt (I, h.2) a (fun q i => if q = p ∧ i = j then g q i + 1 else g q i) := by
  have wj := (lo0_w ha).2.2.2.2.2.2.2.2.2 j hj
  rw [zget_w wj hx hp] at e
  obtain ⟨e1, e2, e3⟩ := zput_eff wj hx hp e
  refine ⟨e1, fun q hq i hi => ?_⟩
  show I (a + (10 + i)) q = (if q = p ∧ i = j then g q i + 1 else g q i)
  by_cases z : q = p ∧ i = j
  · rw [if_pos z, z.1, z.2, e3]
    exact congrArg (· + 1) (c p hp j hj)
  · rw [if_neg z]
    by_cases z2 : i = j
    · subst z2
      rw [e2 q (fun y => z ⟨y, rfl⟩)]; exact c q hq i hi
    · rw [e1 _ (by omega)]; exact c q hq i hi
theorem CGt.cg {h : zH} {J : Nat → Nat → Int32} {a : Nat} {g : Nat → Nat → Int32} (c : CGt h a g) (e : ∀ b, a + 10 ≤ b → b < a + 14 → J b = h.1 b) : CGt (J, h.2) a g := fun p hp j hj => by
  show J (a + (10 + j)) p = _
  rw [e _ (by omega) (by omega)]; exact c p hp j hj
theorem CGt.eq {h : zH} {a : Nat} {g g' : Nat → Nat → Int32} (c : CGt h a g) (e : ∀ p j, j < 4 → g' p j = g p j) : CGt h a g' := fun p hp j hj => by rw [e p j hj]; exact c p hp j hj
theorem c_setDown (l : Launch) (G : zG) (h : zH) (V : Nat → Int) (a : Nat) (st : PS) (p m : Nat) (x1 x2 c s f d w : Int32) (ha : lo0 h a) (r : CPr h a st) (g : CGt h a st.g) (ok : okS V st) (hn : st.n < 150) (hp : x1.toInt = (p : Int)) (hp6 : p < 6) (hm : x2.toInt = (m : Int)) (hc : 0 ≤ c.toInt ∧ c.toInt < 64) (hs : 0 ≤ s.toInt ∧ s.toInt ≤ 6) (hf : 0 ≤ f.toInt ∧ f.toInt ≤ 1) (hd : 0 ≤ d.toInt ∧ d.toInt ≤ 3) :
    CTv l G YX0_setDown 3 [va_rf (some a), .int x1, .int x2, .int c, .int (zshape s f d), .int w] h (fun I => (∀ b, (b < a ∨ a + 14 ≤ b ∨ b = a + 8 ∨ b = a + 9) → I b = h.1 b) ∧ CPr (I, h.2) a (setD st p m c s f d w) ∧ CGt (I, h.2) a (setD st p m c s f d w).g) := by
  obtain ⟨w1, w2, w3, w4, w5, w6, w7, _⟩ := lo0_w ha
  obtain ⟨cc, hcc⟩ : ∃ k : Nat, c.toInt = (k : Int) := ⟨c.toInt.toNat, by omega⟩
  refine kX0_setDown a x1 x2 c (zshape s f d) w (sX0_setDown_0 a x1 x2 c (zshape s f d) w ha (Nat.le_refl _) (fun I4 c1 => ?_))
  obtain ⟨f1, g4⟩ := raise_g (j := 0) ha (by decide) hp hp6 g c1
  have r4 : CPr (I4, h.2) a st := r.cg (fun b h1 h2 => f1 b (by omega))
  have etop : zget (I4, h.2) (some (a + 7)) c = topI (topo st.P c st.n) := by
    rw [zget_w (h := (I4, h.2)) w7 hcc (by omega), ← r4.2.2 c hc.1 hc.2, zix_of hcc]
  have pr : ∀ (I17 : Nat → Nat → Int32), setD st p m c s f d w = pressS st p m c s f d w → I17 = (zput (I4, h.2) (some (a + 11)) x1 (zget (I4, h.2) (some (a + 11)) x1 + 1)).1 →
      ∃ P20, CTv l G YX0_press 2 [va_rf (some a), .int x1, .int x2, .int c, .int (zshape s f d), .int w] (I17, h.2) P20 ∧ ∀ (I23 : Nat → Nat → Int32), P20 I23 → (fun (v : Option Value) h1 => ∃ J, v = none ∧ h1 = (J, h.2) ∧ ((∀ b, (b < a ∨ a + 14 ≤ b ∨ b = a + 8 ∨ b = a + 9) → J b = h.1 b) ∧ CPr (J, h.2) a (setD st p m c s f d w) ∧ CGt (J, h.2) a (setD st p m c s f d w).g)) none (I23, h.2) := by
    intro I17 eS c3
    obtain ⟨f2, g17⟩ := raise_g (h := (I4, h.2)) (j := 1) ha (by decide) hp hp6 g4 c3
    have r17 : CPr (I17, h.2) a st := r4.cg (h := (I4, h.2)) (fun b h1 h2 => f2 b (by omega))
    refine ⟨_, c_press l G (I17, h.2) a st p m x1 x2 c s f d w ha r17 hn hp hm hc, fun I23 ⟨q1, q2⟩ => ⟨I23, rfl, rfl, fun b hb => ?_, ?_, ?_⟩⟩
    · rw [q1 b (by omega)]
      show I17 b = _
      rw [f2 b (by omega)]
      exact f1 b (by omega)
    · rw [eS]; exact q2
    · rw [eS]
      refine (CGt.cg (h := (I17, h.2)) g17 (fun b h1 h2 => q1 b (by omega))).eq (fun q j hj => ?_)
      show gup st.g p 1 0 0 q j = _
      unfold gup
      by_cases e : q = p
      · rw [if_pos e]
        match j, hj with
        | 0, _ => simp [e]
        | 1, _ => simp [e]
        | 2, _ => simp [e]
        | 3, _ => simp [e]
        | k + 4, z => omega
      · simp [e]
  rw [etop]
  refine ⟨fun c2 I17 c3 => pr I17 ?_ c3, fun c5 => ?_⟩
  · have := (topI_m1 (by omega)).mp c2
    unfold setD
    rw [this]
  · obtain ⟨t, ht⟩ : ∃ t, topo st.P c st.n = some t := by
      cases q : topo st.P c st.n with
      | none => exact absurd (topI_none q) c5
      | some t => exact ⟨t, rfl⟩
    have tn := topo_some st.n ht
    have tt : (topI (topo st.P c st.n)).toInt = (t : Int) := topI_some (by omega) ht
    obtain ⟨o1, o2, o3, o4, o5, o6, o7⟩ := ok t tn.1
    have k2 := r4.2.1 t tn.1
    have e2 : zget (I4, h.2) (some (a + 2)) (topI (topo st.P c st.n)) = zshape (st.P t 1) (st.P t 2) (st.P t 3) := by
      rw [zget_w (h := (I4, h.2)) w2 tt (by omega)]; exact k2.2.1
    have iff := shp_eq o2 o3 o4 hs hf hd
    rw [e2]
    refine ⟨fun c6 I39 c7 => ?_, fun c15 I94 c16 => pr I94 ?_ c16⟩
    · have m3 := iff.mp c6
      have eS : setD st p m c s f d w = stepS st p t w := by
        unfold setD
        rw [ht]
        exact if_pos m3
      obtain ⟨f2, g39⟩ := raise_g (h := (I4, h.2)) (j := 2) ha (by decide) hp hp6 g4 c7
      have r39 : CPr (I39, h.2) a st := r4.cg (h := (I4, h.2)) (fun b h1 h2 => f2 b (by omega))
      have e5 : zget (I39, h.2) (some (a + 5)) (topI (topo st.P c st.n)) = st.P t 6 := by
        rw [zget_w (h := (I39, h.2)) w5 tt (by omega)]; exact (r39.2.1 t tn.1).2.2.2.2.1
      -- the two changes of the print under the foot
      have fin : ∀ (K A B : Nat → Nat → Int32), CPr (K, h.2) a st → (∀ b, (b < a ∨ a + 14 ≤ b ∨ b = a + 8 ∨ b = a + 9) → K b = h.1 b) → CGt (K, h.2) a (stepS st p t w).g →
          A = (zput (K, h.2) (some (a + 3)) (topI (topo st.P c st.n)) (imax (zget (K, h.2) (some (a + 3)) (topI (topo st.P c st.n))) w)).1 → B = (zput (A, h.2) (some (a + 6)) (topI (topo st.P c st.n)) ((zget (A, h.2) (some (a + 6)) (topI (topo st.P c st.n))) ||| ((1 : Int32) <<< (x1 &&& 31)))).1 →
          (fun (v : Option Value) h1 => ∃ J, v = none ∧ h1 = (J, h.2) ∧ ((∀ b, (b < a ∨ a + 14 ≤ b ∨ b = a + 8 ∨ b = a + 9) → J b = h.1 b) ∧ CPr (J, h.2) a (setD st p m c s f d w) ∧ CGt (J, h.2) a (setD st p m c s f d w).g)) none (B, h.2) := by
        intro K A B rK oK gK eA eB
        obtain ⟨a1, a2, a3⟩ := zput_eff (h := (K, h.2)) w3 tt (show t < 150 by omega) eA
        obtain ⟨b1, b2, b3⟩ := zput_eff (h := (A, h.2)) w6 tt (show t < 150 by omega) eB
        rw [zget_w (h := (K, h.2)) w3 tt (by omega)] at a3
        rw [zget_w (h := (A, h.2)) w6 tt (by omega)] at b3
        obtain ⟨r1, r2, r3⟩ := rK
        have z : ∀ b, b ≠ a + 3 → b ≠ a + 6 → B b = K b := fun b h1 h2 => (b1 b h2).trans (a1 b h1)
        refine ⟨B, rfl, rfl, fun b hb => by rw [z b (by omega) (by omega)]; exact oK b hb, ?_, ?_⟩
        · rw [eS]
          refine ⟨by show (B a 0).toInt = _; rw [z a (by omega) (by omega)]; exact r1, fun k hk => ?_, fun c' h1 h2 => ?_⟩
          · show B (a + 1) k = (if k = t then upR (st.P k) (imax (st.P k 4) w) (st.P k 7 ||| bit1 p) else st.P k) 0 ∧ B (a + 2) k = zshape ((if k = t then upR (st.P k) (imax (st.P k 4) w) (st.P k 7 ||| bit1 p) else st.P k) 1) ((if k = t then upR (st.P k) (imax (st.P k 4) w) (st.P k 7 ||| bit1 p) else st.P k) 2) ((if k = t then upR (st.P k) (imax (st.P k 4) w) (st.P k 7 ||| bit1 p) else st.P k) 3) ∧ B (a + 3) k = (if k = t then upR (st.P k) (imax (st.P k 4) w) (st.P k 7 ||| bit1 p) else st.P k) 4 ∧ B (a + 4) k = (if k = t then upR (st.P k) (imax (st.P k 4) w) (st.P k 7 ||| bit1 p) else st.P k) 5 ∧ B (a + 5) k = (if k = t then upR (st.P k) (imax (st.P k 4) w) (st.P k 7 ||| bit1 p) else st.P k) 6 ∧ B (a + 6) k = (if k = t then upR (st.P k) (imax (st.P k 4) w) (st.P k 7 ||| bit1 p) else st.P k) 7
            obtain ⟨q1, q2, q3, q4, q5, q6⟩ := r2 k hk
            rw [z (a + 1) (by omega) (by omega), z (a + 2) (by omega) (by omega), z (a + 4) (by omega) (by omega), z (a + 5) (by omega) (by omega), b1 (a + 3) (by omega)]
            by_cases e : k = t
            · subst e
              simp only [if_true]
              refine ⟨q1, q2, ?_, q4, q5, ?_⟩
              · show A (a + 3) k = imax (st.P k 4) w
                rw [a3]
                exact congrArg (fun y => imax y w) q3
              · rw [b3, bit1_of hp]
                show A (a + 6) k ||| bit1 p = st.P k 7 ||| bit1 p
                rw [a1 (a + 6) (by omega)]
                exact congrArg (· ||| bit1 p) q6
            · simp only [if_neg e]
              refine ⟨q1, q2, ?_, q4, q5, ?_⟩
              · show A (a + 3) k = _
                rw [a2 k e]; exact q3
              · rw [b2 k e]
                show A (a + 6) k = _
                rw [a1 (a + 6) (by omega)]; exact q6
          · show B (a + 7) (zix c') = topI (topo (fun k => if k = t then upR (st.P k) (imax (st.P k 4) w) (st.P k 7 ||| bit1 p) else st.P k) c' st.n)
            rw [z (a + 7) (by omega) (by omega), topo_cg (P := st.P) st.n (fun k hk => by
              by_cases e : k = t
              · rw [if_pos e]; rfl
              · rw [if_neg e])]
            exact r3 c' h1 h2
        · rw [eS]
          exact CGt.cg (h := (K, h.2)) gK (fun b h1 h2 => z b (by omega) (by omega))
      rw [e5]
      have gg : ∀ q j, j < 4 → ∀ a3 : Int32, gup st.g p 0 1 a3 q j = if q = p ∧ j = 2 then (if q = p ∧ j = 0 then st.g q j + 1 else st.g q j) + 1 else if q = p ∧ j = 3 then st.g q j + a3 else (if q = p ∧ j = 0 then st.g q j + 1 else st.g q j) := fun q j hj a3 => by
        unfold gup
        by_cases e : q = p
        · rw [if_pos e]
          match j, hj with
          | 0, _ => simp [e]
          | 1, _ => simp [e]
          | 2, _ => simp [e]
          | 3, _ => simp [e]
          | k + 4, z => omega
        · simp [e]
      refine ⟨fun c8 I55 c9 I64 c10 => fin I39 I55 I64 r39 (fun b hb => (f2 b (by omega)).trans (f1 b (by omega))) ?_ c9 c10, fun c11 I70 c12 I79 c13 I88 c14 => ?_⟩
      · refine g39.eq (fun q j hj => ?_)
        show gup st.g p 0 1 (if st.P t 6 = Int32.ofNat p then 0 else 1) q j = _
        rw [if_pos (c8.trans (n_ofn hp)), gg q j hj]
        (repeat' split) <;> first | rfl | (exact Int32.add_zero _) | omega | (exfalso; rename_i z1 z2 z3; omega)
      · obtain ⟨f3, g70⟩ := raise_g (h := (I39, h.2)) (j := 3) ha (by decide) hp hp6 g39 c12
        refine fin I70 I79 I88 (r39.cg (h := (I39, h.2)) (fun b h1 h2 => f3 b (by omega))) (fun b hb => (f3 b (by omega)).trans ((f2 b (by omega)).trans (f1 b (by omega)))) ?_ c13 c14
        refine g70.eq (fun q j hj => ?_)
        show gup st.g p 0 1 (if st.P t 6 = Int32.ofNat p then 0 else 1) q j = _
        rw [if_neg (fun z => c11 (z.trans (n_ofn hp).symm)), gg q j hj]
        by_cases e : q = p
        · match j, hj with
          | 0, _ => simp [e]
          | 1, _ => simp [e]
          | 2, _ => simp [e]
          | 3, _ => simp [e]
          | k + 4, z => omega
        · simp [e]
    · unfold setD
      rw [ht]
      exact if_neg (fun z => c15 (iff.mpr z))
