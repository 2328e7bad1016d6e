set_option maxRecDepth 4000
/-! ===== print ===== -/
def sumP (f : Nat → Int32) : Nat → Int32
  | 0 => 0
  | k + 1 => sumP f k + f k
def orP (f : Nat → Int32) : Nat → Int32
  | 0 => 0
  | k + 1 => orP f k ||| f k
theorem sumP_cg {f g : Nat → Int32} : ∀ n, (∀ k, k < n → f k = g k) → sumP f n = sumP g n
  | 0, _ => rfl
  | n + 1, h => by
    show sumP f n + f n = sumP g n + g n
    rw [sumP_cg n (fun k hk => h k (by omega)), h n (Nat.lt_succ_self n)]
theorem orP_cg {f g : Nat → Int32} : ∀ n, (∀ k, k < n → f k = g k) → orP f n = orP g n
  | 0, _ => rfl
  | n + 1, h => by
    show orP f n ||| f n = orP g n ||| g n
    rw [orP_cg n (fun k hk => h k (by omega)), h n (Nat.lt_succ_self n)]
theorem sumP_0 {f : Nat → Int32} {k : Nat} {x : Int32} (hx : x = sumP f k) (h : f k = 0) : x = sumP f (k + 1) := by
  show x = sumP f k + f k
  rw [h, Int32.add_zero]; exact hx
theorem sumP_s {f : Nat → Int32} {k : Nat} {x v : Int32} (hx : x = sumP f k) (h : f k = v) : x + v = sumP f (k + 1) := by
  show x + v = sumP f k + f k
  rw [h, hx]
theorem orP_0 {f : Nat → Int32} {k : Nat} {x : Int32} (hx : x = orP f k) (h : f k = 0) : x = orP f (k + 1) := by
  show x = orP f k ||| f k
  rw [h, Int32.or_zero]; exact hx
theorem orP_s {f : Nat → Int32} {k : Nat} {x v : Int32} (hx : x = orP f k) (h : f k = v) : x ||| v = orP f (k + 1) := by
  show x ||| v = orP f k ||| f k
  rw [h, hx]
def overF (st : PS) (k : Nat) : Int32 := sumP (fun i => if st.P i 0 = st.P k 0 then 1 else 0) k
theorem CPr.get {h : zH} {a : Nat} {st : PS} (r : CPr h a st) (ha : lo0 h a) (hn : st.n ≤ 150) {x : Int32} {k : Nat} (hx : x.toInt = (k : Int)) (hk : k < st.n) : zget h (some (a + 1)) x = st.P k 0 ∧ zget h (some (a + 2)) x = zshape (st.P k 1) (st.P k 2) (st.P k 3) ∧ zget h (some (a + 3)) x = st.P k 4 ∧ zget h (some (a + 4)) x = st.P k 5 ∧ zget h (some (a + 5)) x = st.P k 6 ∧ zget h (some (a + 6)) x = st.P k 7 := by
  obtain ⟨w1, w2, w3, w4, w5, w6, _⟩ := lo0_w ha
  rw [zget_w w1 hx (by omega), zget_w w2 hx (by omega), zget_w w3 hx (by omega), zget_w w4 hx (by omega), zget_w w5 hx (by omega), zget_w w6 hx (by omega)]
  exact r.2.1 k hk
theorem c_liesOver (l : Launch) (G : zG) (h : zH) (a : Nat) (st : PS) (k : Nat) (x1 : Int32) (ha : lo0 h a) (r : CPr h a st) (hn : st.n ≤ 150) (hx : x1.toInt = (k : Int)) (hk : k < st.n) : CTi l G YX0_liesOver 2 [va_rf (some a), .int x1] h (fun y I => y = overF st k ∧ I = h.1) := by
  have loop : ∀ (f i : Nat) (x2 x3 : Int32), i ≤ k → k - i < f → x3.toInt = (i : Int) → x2 = sumP (fun i => if st.P i 0 = st.P k 0 then 1 else 0) i →
      Z l G mX0_liesOver 2 (fun w h1 => ∃ x I1, w = some (.int x) ∧ h1 = (I1, h.2) ∧ (x = overF st k ∧ I1 = h.1)) 0 0 4 [va_rf (some a), .int x1, .int x2, .int x3] [] h := by
    intro f
    induction f with
    | zero => intro i x2 x3 h1 h2; omega
    | succ f ih =>
      intro i x2 x3 h1 h2 h3 hs
      refine sX0_liesOver_4 a x1 x2 x3 ha (Nat.le_refl _) ⟨fun c1 => ⟨_, h.1, rfl, rfl, ?_, rfl⟩, fun c2 => ?_⟩
      · rw [hs, show i = k by omega]; rfl
      · rw [(r.get ha hn h3 (by omega)).1, (r.get ha hn hx hk).1]
        exact ⟨fun c => ih (i + 1) _ _ (by omega) (by omega) (i_1 h3 (by omega)) (sumP_0 hs (if_neg c)), fun c => ih (i + 1) _ _ (by omega) (by omega) (i_1 h3 (by omega)) (sumP_s hs (if_pos c))⟩
  exact kX0_liesOver a x1 (sX0_liesOver_0 a x1 ha (Nat.le_refl _) (loop (k + 1) 0 0 0 (by omega) (by omega) rfl rfl))
theorem c_over (l : Launch) (G : zG) (h : zH) (st : PS) (k : Nat) (x1 : Int32) (hl : lo11 h 313) (r : MPr h st) (hn : st.n ≤ 150) (hx : x1.toInt = (k : Int)) (hk : k < st.n) : CTi l G YX11_over 1 [va_rf (some 313), .int x1] h (fun y I => y = overF st k ∧ I = h.1) := by
  have loop : ∀ (f i : Nat) (x2 x3 : Int32), i ≤ k → k - i < f → x3.toInt = (i : Int) → x2 = sumP (fun i => if st.P i 0 = st.P k 0 then 1 else 0) i →
      Z l G mX11_over 1 (fun w h1 => ∃ x I1, w = some (.int x) ∧ h1 = (I1, h.2) ∧ (x = overF st k ∧ I1 = h.1)) 0 0 4 [va_rf (some 313), .int x1, .int x2, .int x3] [] h := by
    intro f
    induction f with
    | zero => intro i x2 x3 h1 h2; omega
    | succ f ih =>
      intro i x2 x3 h1 h2 h3 hs
      refine sX11_over_4 313 x1 x2 x3 hl (Nat.le_refl _) ⟨fun c1 => ⟨_, h.1, rfl, rfl, ?_, rfl⟩, fun c2 => ?_⟩
      · rw [hs, show i = k by omega]; rfl
      · rw [zix_of h3, zix_of hx, show zI h (313 + 7) i = st.P i 0 from r.2 i (by omega) 0 (by decide), show zI h (313 + 7) k = st.P k 0 from r.2 k hk 0 (by decide)]
        exact ⟨by omega, by show _ < (160 : Int); omega, by omega, by show _ < (160 : Int); omega, fun c => ih (i + 1) _ _ (by omega) (by omega) (i_1 h3 (by omega)) (sumP_s hs (if_neg c)), fun c => ih (i + 1) _ _ (by omega) (by omega) (i_1 h3 (by omega)) (sumP_s hs (if_pos c))⟩
  exact kX11_over 313 x1 (sX11_over_0 313 x1 hl (Nat.le_refl _) (loop (k + 1) 0 0 0 (by omega) (by omega) rfl rfl))
theorem stM_150 {V : Nat → Int} (w : WFN V) {al : Int} (m : Nat) : (stM V al m).n ≤ 150 := by
  have h := (stM_n w (al := al) m).1
  have w3 := w.2.2.2.1
  have b := bsum_le w (m := m) (j := 0) (V 3).toNat (by omega)
  omega
/-- the class has laid its clay (object 81) over night n -/
theorem SameC.lay {h : zH} {a : Nat} (ha : a = 81 ∨ a = 113) {I : Nat → Nat → Int32} (e : ∀ b, (b < a ∨ a + 14 ≤ b) → I b = h.1 b) : SameC h I := fun b hb j => by
  unfold IC at hb
  rw [e b (by omega)]
theorem los_81 {h : zH} (q : lo10 h 0) : lo0 h 81 := by
  have := zlo.sub (ks' := ks0) (rs' := rs0) q 81 (by decide +kernel) (by decide +kernel) (by decide +kernel)
  rw [Nat.zero_add] at this
  exact this
theorem los_113 {h : zH} (q : lo10 h 0) : lo0 h 113 := by
  have := zlo.sub (ks' := ks0) (rs' := rs0) q 113 (by decide +kernel) (by decide +kernel) (by decide +kernel)
  rw [Nat.zero_add] at this
  exact this
theorem los_95 {h : zH} (q : lo10 h 0) : lo1 h 95 := by
  have := zlo.sub (ks' := ks1) (rs' := rs1) q 95 (by decide +kernel) (by decide +kernel) (by decide +kernel)
  rw [Nat.zero_add] at this
  exact this
theorem n_sub1 {x : Int32} {n : Nat} (h : x.toInt = (n : Int)) (hn : n < 1000000) : (x - 1).toInt = (n : Int) - 1 := by
  rw [i_sub (by rw [h]; show _ ≤ _ - (1 : Int); omega) (by rw [h]; show _ - (1 : Int) < _; omega), h]; rfl
def printF (x2 x3 x4 : Int32) (V : Nat → Int) : Int32 :=
  if 0 ≤ x2.toInt ∧ x2.toInt < 100 then
    (if x3 = -1 then (if x4 = 0 then Int32.ofNat (stM V (-1) (x2.toInt.toNat + 1)).n else -2)
     else if 0 ≤ x3.toInt ∧ x3.toInt < (stM V (-1) (x2.toInt.toNat + 1)).n ∧ 0 ≤ x4.toInt ∧ x4.toInt ≤ 8 then (if x4.toInt = 8 then overF (stM V (-1) (x2.toInt.toNat + 1)) x3.toInt.toNat else (stM V (-1) (x2.toInt.toNat + 1)).P x3.toInt.toNat x4.toInt.toNat)
     else -2)
  else -2
theorem pp_print {Kept : zH → Prop} (hk : KOK Kept) (l : Launch) (G : zG) : P_print Kept l G := fun x1 x2 x3 x4 => by
  refine Pair.night hk x1 (-2) (printF x2 x3 x4) (fun h hI c0 => ?_) (fun h n hI ⟨b1, b2, b4, b6, b7, b8⟩ => ?_) (fun h hI c0 => ?_) (fun h n hI ⟨b1, b2, b4, b6, b7, b8⟩ bT => ?_)
  · exact kX10_print 0 x1 x2 x3 x4 (sX10_print_0 0 x1 x2 x3 x4 hI.1 (Nat.le_refl _) ⟨fun c1 => ⟨_, h.1, rfl, rfl, rfl, SameC.rf h⟩, fun b5 c2 => absurd (c0.symm.trans c2) (fun z => by cases z)⟩)
  · refine kX10_print 0 x1 x2 x3 x4 (sX10_print_0 0 x1 x2 x3 x4 hI.1 (Nat.le_refl _) ⟨fun c1 => absurd (b4.symm.trans c1) (fun z => by cases z), fun b5 c2 => ?_⟩)
    have e5 : b5 = 5 + 18 * n := (Option.some.inj (b4.symm.trans c2)).symm
    subst e5
    have l81 := los_81 hI.1
    refine ⟨fun c3 => ?_, fun c10 => ⟨_, h.1, rfl, rfl, ?_, SameC.rf h⟩⟩
    · have z := zmin_t.mp c3
      obtain ⟨M, hM⟩ : ∃ M : Nat, x2.toInt = (M : Int) := ⟨x2.toInt.toNat, by omega⟩
      have n150 := stM_150 b7 (al := -1) (M + 1)
      have okk := (stM_ok b7 (al := -1) (M + 1)).1
      generalize hst : stM (RW h (610 + 318 * n)) (-1) (M + 1) = st at n150 okk
      have fv : printF x2 x3 x4 (RW h (610 + 318 * n)) = if x3 = -1 then (if x4 = 0 then Int32.ofNat st.n else -2) else if 0 ≤ x3.toInt ∧ x3.toInt < st.n ∧ 0 ≤ x4.toInt ∧ x4.toInt ≤ 8 then (if x4.toInt = 8 then overF st x3.toInt.toNat else st.P x3.toInt.toNat x4.toInt.toNat) else -2 := by
        unfold printF
        rw [if_pos (by omega), show x2.toInt.toNat = M by omega, hst]
      rw [fv]
      refine ⟨_, c_lay l G h _ 81 (5 + 18 * n) M x2 l81 b6 b7 b8 (by omega) hM (by omega), fun I18 ⟨g1, g2, g3⟩ => ?_⟩
      rw [hst] at g2 g3
      have s := SameC.lay (Or.inl rfl) g1
      have n0 := g2.1
      refine ⟨fun c5 => ?_, fun c7 => ⟨fun c8 => ⟨_, I18, rfl, rfl, ?_, s⟩, fun c9 => ⟨_, I18, rfl, rfl, ?_, s⟩⟩⟩
      · rw [if_neg c5]
        refine ⟨fun y I => y = (if 0 ≤ x3.toInt ∧ x3.toInt < st.n ∧ 0 ≤ x4.toInt ∧ x4.toInt ≤ 8 then (if x4.toInt = 8 then overF st x3.toInt.toNat else st.P x3.toInt.toNat x4.toInt.toNat) else -2) ∧ I = I18, ?_, fun y I z => ⟨y, I, rfl, rfl, z.1, by rw [z.2]; exact s⟩⟩
        refine kX0_part 81 x3 x4 (sX0_part_0 81 x3 x4 l81 (Nat.le_refl _) ⟨fun c1 => ⟨_, I18, rfl, rfl, ?_, rfl⟩, fun c2 => ⟨fun c3 => ?_, fun c15 => ⟨_, I18, rfl, rfl, ?_, rfl⟩⟩⟩)
        · rw [if_neg (by omega)]
        · rw [n0] at c3
          obtain ⟨K, hK⟩ : ∃ K : Nat, x3.toInt = (K : Int) := ⟨x3.toInt.toNat, by omega⟩
          obtain ⟨q0, q1, q2, q3, q4, q5⟩ := g2.get (h := (I18, h.2)) l81 n150 hK (by omega)
          obtain ⟨o1, o2, o3, o4, o5, o6, o7⟩ := okk K (by omega)
          obtain ⟨d1, d2, d3, d4⟩ := shp o2 o3 o4
          have f : ∀ W : Nat, x4.toInt = (W : Int) → W < 8 → (if 0 ≤ x3.toInt ∧ x3.toInt < st.n ∧ 0 ≤ x4.toInt ∧ x4.toInt ≤ 8 then (if x4.toInt = 8 then overF st x3.toInt.toNat else st.P x3.toInt.toNat x4.toInt.toNat) else -2) = st.P K W := fun W e h8 => by
            rw [if_pos (by omega), if_neg (by omega), show x3.toInt.toNat = K by omega, show x4.toInt.toNat = W by omega]
          refine ⟨fun c4 => ⟨_, I18, rfl, rfl, ?_, rfl⟩, fun c => ⟨_, I18, rfl, rfl, ?_, rfl⟩, fun c => ⟨_, I18, rfl, rfl, ?_, rfl⟩, fun c => ⟨_, I18, rfl, rfl, ?_, rfl⟩, fun c => ⟨_, I18, rfl, rfl, ?_, rfl⟩, fun c => ⟨_, I18, rfl, rfl, ?_, rfl⟩, fun c => ⟨_, I18, rfl, rfl, ?_, rfl⟩, fun c => ⟨_, I18, rfl, rfl, ?_, rfl⟩, fun c => ⟨_, I18, rfl, rfl, ?_, rfl⟩, fun c => ⟨_, c_liesOver l G (I18, h.2) 81 st K x3 l81 g2 n150 hK (by omega), fun y I z => ⟨y, I, rfl, rfl, ?_, z.2⟩⟩⟩
          · rw [if_neg (by omega)]
          · rw [f 0 c (by decide)]; exact q0
          · rw [f 1 c (by decide), q1]; exact d2
          · rw [f 2 c (by decide), q1]; exact d3
          · rw [f 3 c (by decide), q1]; exact d4
          · rw [f 4 c (by decide)]; exact q2
          · rw [f 5 c (by decide)]; exact q3
          · rw [f 6 c (by decide)]; exact q4
          · rw [f 7 c (by decide)]; exact q5
          · rw [z.1, if_pos (by omega), if_pos c, show x3.toInt.toNat = K by omega]
        · rw [n0] at c15
          rw [if_neg (by omega)]
      · rw [if_pos c7, if_neg c8]
      · rw [if_pos c7, if_pos c9]; exact n_ofn n0
    · have z := zmin_f.mp c10
      unfold printF
      rw [if_neg z]
  · refine kX11_print 313 x1 x2 x3 x4 (sX11_print_0 313 x1 x2 x3 x4 hI.2.1 (Nat.le_refl _) ⟨_, c_isN l G hI x1, fun y6 I4 ⟨s1, s2, s3, s4⟩ => ⟨fun c2 => ⟨_, I4, rfl, rfl, rfl, s1⟩, fun c2 => ?_⟩⟩)
    exact absurd (c0.symm.trans (s3.symm.trans c2)) (fun z => by cases z)
  · refine kX11_print 313 x1 x2 x3 x4 (sX11_print_0 313 x1 x2 x3 x4 hI.2.1 (Nat.le_refl _) ⟨_, c_isN l G hI x1, fun y6 I4 ⟨s1, s2, s3, s4⟩ => ⟨fun c2 => absurd (bT.symm.trans (s3.symm.trans c2)) (fun z => by cases z), fun c2 => ?_⟩⟩)
    have eV : RW (I4, h.2) (610 + 318 * n) = RW h (610 + 318 * n) := RWc s1.al _
    have ma := s4 n b1 b2 c2
    have mm := ma.mn b2 (by rw [eV]; exact b7)
    rw [eV] at mm
    refine ⟨fun c4 => ?_, fun c23 => ⟨_, I4, rfl, rfl, ?_, s1⟩⟩
    · have z := zmin_t.mp c4
      obtain ⟨M, hM⟩ : ∃ M : Nat, x2.toInt = (M : Int) := ⟨x2.toInt.toNat, by omega⟩
      have n150 := stM_150 b7 (al := -1) (M + 1)
      generalize hst : stM (RW h (610 + 318 * n)) (-1) (M + 1) = st at n150
      have fv : printF x2 x3 x4 (RW h (610 + 318 * n)) = if x3 = -1 then (if x4 = 0 then Int32.ofNat st.n else -2) else if 0 ≤ x3.toInt ∧ x3.toInt < st.n ∧ 0 ≤ x4.toInt ∧ x4.toInt ≤ 8 then (if x4.toInt = 8 then overF st x3.toInt.toNat else st.P x3.toInt.toNat x4.toInt.toNat) else -2 := by
        unfold printF
        rw [if_pos (by omega), show x2.toInt.toNat = M by omega, hst]
      rw [fv]
      refine ⟨_, c_till l G (I4, h.2) n _ (-1) M x2 hI.2.1 b7 mm (by rw [ma.2.1]; rfl) hM (by omega), fun I24 ⟨g1, g2, g3, g4⟩ => ?_⟩
      rw [hst] at g2 g3
      have s : SameC h I24 := s1.tr g1.same
      have n0 := g2.1
      have q := n3r (x := x3) (u := 0) (a := 0) rfl (n_sub1 n0 (by omega))
      refine ⟨fun c6 => ⟨fun c7 => ?_, fun c19 => ⟨_, I24, rfl, rfl, ?_, s⟩⟩, fun c20 => ⟨fun c21 => ⟨_, I24, rfl, rfl, ?_, s⟩, fun c22 => ⟨_, I24, rfl, rfl, ?_, s⟩⟩⟩
      · have z3 := q.1.mp c7
        obtain ⟨K, hK⟩ : ∃ K : Nat, x3.toInt = (K : Int) := ⟨x3.toInt.toNat, by omega⟩
        have k1 : 0 ≤ x3.toInt := by omega
        have k2 : x3.toInt < ((160 : Nat) : Int) := by show _ < (160 : Int); omega
        rw [if_neg c6]
        have f : ∀ W : Nat, x4.toInt = (W : Int) → W < 8 → zI (I24, h.2) (320 + W) (zix x3) = (if 0 ≤ x3.toInt ∧ x3.toInt < st.n ∧ 0 ≤ x4.toInt ∧ x4.toInt ≤ 8 then (if x4.toInt = 8 then overF st x3.toInt.toNat else st.P x3.toInt.toNat x4.toInt.toNat) else -2) := fun W e h8 => by
          rw [if_pos (by omega), if_neg (by omega), show x3.toInt.toNat = K by omega, show x4.toInt.toNat = W by omega, zix_of hK]
          exact g2.2 K (by omega) W h8
        refine ⟨fun c8 => ⟨_, I24, rfl, rfl, ?_, s⟩, fun c => ⟨k1, k2, _, I24, rfl, rfl, f 0 c (by decide), s⟩, fun c => ⟨k1, k2, _, I24, rfl, rfl, f 1 c (by decide), s⟩, fun c => ⟨k1, k2, _, I24, rfl, rfl, f 2 c (by decide), s⟩, fun c => ⟨k1, k2, _, I24, rfl, rfl, f 3 c (by decide), s⟩, fun c => ⟨k1, k2, _, I24, rfl, rfl, f 4 c (by decide), s⟩, fun c => ⟨k1, k2, _, I24, rfl, rfl, f 5 c (by decide), s⟩, fun c => ⟨k1, k2, _, I24, rfl, rfl, f 6 c (by decide), s⟩, fun c => ⟨k1, k2, _, I24, rfl, rfl, f 7 c (by decide), s⟩, fun c => ⟨_, c_over l G (I24, h.2) st K x3 hI.2.1 g2 n150 hK (by omega), fun y I z => ⟨y, I, rfl, rfl, ?_, by rw [z.2]; exact s⟩⟩⟩
        · rw [if_neg (by omega)]
        · rw [z.1, if_pos (by omega), if_pos c, show x3.toInt.toNat = K by omega]
      · have z3 := q.2.mp c19
        rw [if_neg c6, if_neg (by omega)]
      · rw [if_pos c20, if_neg c21]
      · rw [if_pos c20, if_pos c22]; exact n_ofn n0
    · have z := zmin_f.mp c23
      unfold printF
      rw [if_neg z]
