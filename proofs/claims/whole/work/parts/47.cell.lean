set_option maxRecDepth 4000
/-! ===== cell, gait ===== -/
def heightF (st : PS) (c : Int32) : Int32 := sumP (fun i => if st.P i 0 = c then 1 else 0) st.n
def deepF (st : PS) (c : Int32) : Int32 := sumP (fun i => if st.P i 0 = c then st.P i 4 else 0) st.n
def usersF (st : PS) (c : Int32) : Int32 := orP (fun i => if st.P i 0 = c then st.P i 7 else 0) st.n
theorem c_heightOf (l : Launch) (G : zG) (h : zH) (a : Nat) (st : PS) (c : Int32) (ha : lo0 h a) (r : CPr h a st) (hn : st.n ≤ 150) : CTi l G YX0_heightOf 2 [va_rf (some a), .int c] h (fun y I => y = heightF st c ∧ I = h.1) := by
  have n0 := r.1
  have loop : ∀ (f i : Nat) (x2 x3 : Int32), i ≤ st.n → st.n - i < f → x3.toInt = (i : Int) → x2 = sumP (fun i => if st.P i 0 = c then 1 else 0) i →
      Z l G mX0_heightOf 2 (fun w h1 => ∃ x I1, w = some (.int x) ∧ h1 = (I1, h.2) ∧ (x = heightF st c ∧ I1 = h.1)) 0 0 4 [va_rf (some a), .int c, .int x2, .int x3] [] h := by
    intro f
    induction f with
    | zero => intro i x2 x3 h1 h2; omega
    | succ f ih =>
      intro i x2 x3 h1 h2 h3 hs
      refine sX0_heightOf_4 a c x2 x3 ha (Nat.le_refl _) ⟨fun c1 => ⟨_, h.1, rfl, rfl, ?_, rfl⟩, fun c2 => ?_⟩
      · rw [hs, show i = st.n by omega]; rfl
      · rw [(r.get ha hn h3 (by omega)).1]
        exact ⟨fun c => ih (i + 1) _ _ (by omega) (by omega) (i_1 h3 (by omega)) (sumP_0 hs (if_neg c)), fun c => ih (i + 1) _ _ (by omega) (by omega) (i_1 h3 (by omega)) (sumP_s hs (if_pos c))⟩
  exact kX0_heightOf a c (sX0_heightOf_0 a c ha (Nat.le_refl _) (loop (st.n + 1) 0 0 0 (by omega) (by omega) rfl rfl))
theorem c_clayDepth (l : Launch) (G : zG) (h : zH) (a : Nat) (st : PS) (c : Int32) (ha : lo0 h a) (r : CPr h a st) (hn : st.n ≤ 150) : CTi l G YX0_depthOf 2 [va_rf (some a), .int c] h (fun y I => y = deepF st c ∧ I = h.1) := by
  have n0 := r.1
  have loop : ∀ (f i : Nat) (x2 x3 : Int32), i ≤ st.n → st.n - i < f → x3.toInt = (i : Int) → x2 = sumP (fun i => if st.P i 0 = c then st.P i 4 else 0) i →
      Z l G mX0_depthOf 2 (fun w h1 => ∃ x I1, w = some (.int x) ∧ h1 = (I1, h.2) ∧ (x = deepF st c ∧ I1 = h.1)) 0 0 4 [va_rf (some a), .int c, .int x2, .int x3] [] h := by
    intro f
    induction f with
    | zero => intro i x2 x3 h1 h2; omega
    | succ f ih =>
      intro i x2 x3 h1 h2 h3 hs
      refine sX0_depthOf_4 a c x2 x3 ha (Nat.le_refl _) ⟨fun c1 => ⟨_, h.1, rfl, rfl, ?_, rfl⟩, fun c2 => ?_⟩
      · rw [hs, show i = st.n by omega]; rfl
      · obtain ⟨q0, q1, q2, q3, q4, q5⟩ := r.get ha hn h3 (by omega)
        rw [q0, q2]
        exact ⟨fun c => ih (i + 1) _ _ (by omega) (by omega) (i_1 h3 (by omega)) (sumP_0 hs (if_neg c)), fun c => ih (i + 1) _ _ (by omega) (by omega) (i_1 h3 (by omega)) (sumP_s hs (if_pos c))⟩
  exact kX0_depthOf a c (sX0_depthOf_0 a c ha (Nat.le_refl _) (loop (st.n + 1) 0 0 0 (by omega) (by omega) rfl rfl))
theorem c_clayUsers (l : Launch) (G : zG) (h : zH) (a : Nat) (st : PS) (c : Int32) (ha : lo0 h a) (r : CPr h a st) (hn : st.n ≤ 150) : CTi l G YX0_usersOf 2 [va_rf (some a), .int c] h (fun y I => y = usersF st c ∧ I = h.1) := by
  have n0 := r.1
  have loop : ∀ (f i : Nat) (x2 x3 : Int32), i ≤ st.n → st.n - i < f → x3.toInt = (i : Int) → x2 = orP (fun i => if st.P i 0 = c then st.P i 7 else 0) i →
      Z l G mX0_usersOf 2 (fun w h1 => ∃ x I1, w = some (.int x) ∧ h1 = (I1, h.2) ∧ (x = usersF st c ∧ I1 = h.1)) 0 0 4 [va_rf (some a), .int c, .int x2, .int x3] [] h := by
    intro f
    induction f with
    | zero => intro i x2 x3 h1 h2; omega
    | succ f ih =>
      intro i x2 x3 h1 h2 h3 hs
      refine sX0_usersOf_4 a c x2 x3 ha (Nat.le_refl _) ⟨fun c1 => ⟨_, h.1, rfl, rfl, ?_, rfl⟩, fun c2 => ?_⟩
      · rw [hs, show i = st.n by omega]; rfl
      · obtain ⟨q0, q1, q2, q3, q4, q5⟩ := r.get ha hn h3 (by omega)
        rw [q0, q5]
        exact ⟨fun c => ih (i + 1) _ _ (by omega) (by omega) (i_1 h3 (by omega)) (orP_0 hs (if_neg c)), fun c => ih (i + 1) _ _ (by omega) (by omega) (i_1 h3 (by omega)) (orP_s hs (if_pos c))⟩
  exact kX0_usersOf a c (sX0_usersOf_0 a c ha (Nat.le_refl _) (loop (st.n + 1) 0 0 0 (by omega) (by omega) rfl rfl))
theorem c_usersM (l : Launch) (G : zG) (h : zH) (st : PS) (c : Int32) (hl : lo11 h 313) (r : MPr h st) (hn : st.n ≤ 150) : CTi l G YX11_usersOf 1 [va_rf (some 313), .int c] h (fun y I => y = usersF st c ∧ I = h.1) := by
  have n0 := r.1
  have loop : ∀ (f i : Nat) (x2 x3 : Int32), i ≤ st.n → st.n - i < f → x3.toInt = (i : Int) → x2 = orP (fun i => if st.P i 0 = c then st.P i 7 else 0) i →
      Z l G mX11_usersOf 1 (fun w h1 => ∃ x I1, w = some (.int x) ∧ h1 = (I1, h.2) ∧ (x = usersF st c ∧ I1 = h.1)) 0 0 4 [va_rf (some 313), .int c, .int x2, .int x3] [] h := by
    intro f
    induction f with
    | zero => intro i x2 x3 h1 h2; omega
    | succ f ih =>
      intro i x2 x3 h1 h2 h3 hs
      refine sX11_usersOf_4 313 c x2 x3 hl (Nat.le_refl _) ⟨fun c1 => ⟨_, h.1, rfl, rfl, ?_, rfl⟩, fun c2 => ?_⟩
      · rw [hs, show i = st.n by omega]; rfl
      · rw [zix_of h3, show zI h (313 + 7) i = st.P i 0 from r.2 i (by omega) 0 (by decide), show zI h (313 + 14) i = st.P i 7 from r.2 i (by omega) 7 (by decide)]
        have k1 : 0 ≤ x3.toInt := by omega
        have k2 : x3.toInt < ((160 : Nat) : Int) := by show _ < (160 : Int); omega
        exact ⟨k1, k2, fun c => ih (i + 1) _ _ (by omega) (by omega) (i_1 h3 (by omega)) (orP_s hs (if_neg c)), fun c => ⟨k1, k2, ih (i + 1) _ _ (by omega) (by omega) (i_1 h3 (by omega)) (orP_s hs (if_pos c))⟩⟩
  exact kX11_usersOf 313 c (sX11_usersOf_0 313 c hl (Nat.le_refl _) (loop (st.n + 1) 0 0 0 (by omega) (by omega) rfl rfl))
def cellF (x2 x3 x4 : Int32) (V : Nat → Int) : Int32 :=
  if (0 ≤ x2.toInt ∧ x2.toInt < 100) ∧ (0 ≤ x3.toInt ∧ x3.toInt < V 0 * V 1) ∧ 0 ≤ x4.toInt ∧ x4.toInt ≤ 3 then
    (if x4 = 0 then heightF (stM V (-1) (x2.toInt.toNat + 1)) x3 else if x4 = 1 then topI (topo (stM V (-1) (x2.toInt.toNat + 1)).P x3 (stM V (-1) (x2.toInt.toNat + 1)).n) else if x4 = 2 then deepF (stM V (-1) (x2.toInt.toNat + 1)) x3 else usersF (stM V (-1) (x2.toInt.toNat + 1)) x3)
  else -2
theorem pp_cell {Kept : zH → Prop} (hk : KOK Kept) (l : Launch) (G : zG) : P_cell Kept l G := fun x1 x2 x3 x4 => by
  refine Pair.night hk x1 (-2) (cellF x2 x3 x4) (fun h hI c0 => ?_) (fun h n hI ⟨b1, b2, b4, b6, b7, b8⟩ => ?_) (fun h hI c0 => ?_) (fun h n hI ⟨b1, b2, b4, b6, b7, b8⟩ bT => ?_)
  · exact kX10_cell 0 x1 x2 x3 x4 (sX10_cell_0 0 x1 x2 x3 x4 hI.1 (Nat.le_refl _) ⟨fun c1 => ⟨_, h.1, rfl, rfl, rfl, SameC.rf h⟩, fun b5 c2 => absurd (c0.symm.trans c2) (fun z => by cases z)⟩)
  · refine kX10_cell 0 x1 x2 x3 x4 (sX10_cell_0 0 x1 x2 x3 x4 hI.1 (Nat.le_refl _) ⟨fun c1 => absurd (b4.symm.trans c1) (fun z => by cases z), fun b5 c2 => ?_⟩)
    have e5 : b5 = 5 + 18 * n := (Option.some.inj (b4.symm.trans c2)).symm
    subst e5
    have l81 := los_81 hI.1
    have hh := (zhas_at b7 b8 (c := x3)).2
    have wb := wh_rng b7.1 b7.2.1
    refine ⟨fun c3 => ⟨_, h.1, rfl, rfl, ?_, SameC.rf h⟩, fun c4 => ⟨b6, fun c5 => ?_, fun c16 => ⟨_, h.1, rfl, rfl, ?_, SameC.rf h⟩⟩⟩
    · have z := zmin_f.mp c3
      unfold cellF
      rw [if_neg (fun q => z q.1)]
    · have z := zmin_t.mp c4
      have hc := hh.mp c5
      obtain ⟨M, hM⟩ : ∃ M : Nat, x2.toInt = (M : Int) := ⟨x2.toInt.toNat, by omega⟩
      have n150 := stM_150 b7 (al := -1) (M + 1)
      generalize hst : stM (RW h (610 + 318 * n)) (-1) (M + 1) = st at n150
      have fv : cellF x2 x3 x4 (RW h (610 + 318 * n)) = if 0 ≤ x4.toInt ∧ x4.toInt ≤ 3 then (if x4 = 0 then heightF st x3 else if x4 = 1 then topI (topo st.P x3 st.n) else if x4 = 2 then deepF st x3 else usersF st x3) else -2 := by
        unfold cellF
        rw [show x2.toInt.toNat = M by omega, hst]
        by_cases q : 0 ≤ x4.toInt ∧ x4.toInt ≤ 3
        · rw [if_pos ⟨z, hc, q⟩, if_pos q]
        · rw [if_neg (fun y => q y.2.2), if_neg q]
      rw [fv]
      refine ⟨_, c_lay l G h _ 81 (5 + 18 * n) M x2 l81 b6 b7 b8 (by omega) hM (by omega), fun I18 ⟨g1, g2, g3⟩ => ?_⟩
      rw [hst] at g2 g3
      have s := SameC.lay (Or.inl rfl) g1
      refine ⟨fun c => ⟨_, I18, rfl, rfl, ?_, s⟩, fun c => ⟨_, c_heightOf l G (I18, h.2) 81 st x3 l81 g2 n150, fun y I q => ⟨y, I, rfl, rfl, ?_, by rw [q.2]; exact s⟩⟩, fun c => ⟨fun y I => y = topI (topo st.P x3 st.n) ∧ I = I18, ?_, fun y I q => ⟨y, I, rfl, rfl, ?_, by rw [q.2]; exact s⟩⟩, fun c => ⟨_, c_clayDepth l G (I18, h.2) 81 st x3 l81 g2 n150, fun y I q => ⟨y, I, rfl, rfl, ?_, by rw [q.2]; exact s⟩⟩, fun c => ⟨_, c_clayUsers l G (I18, h.2) 81 st x3 l81 g2 n150, fun y I q => ⟨y, I, rfl, rfl, ?_, by rw [q.2]; exact s⟩⟩⟩
      · rw [if_neg (by omega)]
      · rw [q.1, if_pos (by omega), if_pos (i_ext c)]
      · refine kX0_topOf 81 x3 (sX0_topOf_0 81 x3 l81 (Nat.le_refl _) ⟨_, I18, rfl, rfl, ?_, rfl⟩)
        obtain ⟨C, hC⟩ : ∃ C : Nat, x3.toInt = (C : Int) := ⟨x3.toInt.toNat, by omega⟩
        rw [zget_w (h := (I18, h.2)) (lo0_w l81).2.2.2.2.2.2.1 hC (by omega), ← zix_of hC]
        exact g2.2.2 x3 hc.1 (by omega)
      · rw [q.1, if_pos (by omega), if_neg (fun y => by rw [y] at c; exact absurd c (by decide)), if_pos (i_ext c)]
      · rw [q.1, if_pos (by omega), if_neg (fun y => by rw [y] at c; exact absurd c (by decide)), if_neg (fun y => by rw [y] at c; exact absurd c (by decide)), if_pos (i_ext c)]
      · rw [q.1, if_pos (by omega), if_neg (fun y => by rw [y] at c; exact absurd c (by decide)), if_neg (fun y => by rw [y] at c; exact absurd c (by decide)), if_neg (fun y => by rw [y] at c; exact absurd c (by decide))]
    · have z := (bfalse hh).mp c16
      unfold cellF
      rw [if_neg (fun q => z q.2.1)]
  · refine kX11_cell 313 x1 x2 x3 x4 (sX11_cell_0 313 x1 x2 x3 x4 hI.2.1 (Nat.le_refl _) ⟨_, c_isN l G hI x1, fun y6 I4 ⟨s1, s2, s3, s4⟩ => ⟨fun c2 => ⟨_, I4, rfl, rfl, rfl, s1⟩, fun c2 => ?_⟩⟩)
    exact absurd (c0.symm.trans (s3.symm.trans c2)) (fun z => by cases z)
  · refine kX11_cell 313 x1 x2 x3 x4 (sX11_cell_0 313 x1 x2 x3 x4 hI.2.1 (Nat.le_refl _) ⟨_, c_isN l G hI x1, fun y6 I4 ⟨s1, s2, s3, s4⟩ => ⟨fun c2 => absurd (bT.symm.trans (s3.symm.trans c2)) (fun z => by cases z), fun c2 => ?_⟩⟩)
    have eV : RW (I4, h.2) (610 + 318 * n) = RW h (610 + 318 * n) := RWc s1.al _
    have ma := s4 n b1 b2 c2
    have mm := ma.mn b2 (by rw [eV]; exact b7)
    rw [eV] at mm
    obtain ⟨k01, ci⟩ := zisC_at mm b7 (p := x3)
    have q4 := n3r (x := x4) (u := 0) (v := 3) (a := 0) (b := 3) rfl rfl
    refine ⟨fun c4 => ⟨_, I4, rfl, rfl, ?_, s1⟩, fun c5 => ⟨k01, fun c6 => ⟨_, I4, rfl, rfl, ?_, s1⟩, fun c7 => ⟨fun c8 => ?_, fun c10 => ⟨_, I4, rfl, rfl, ?_, s1⟩⟩⟩⟩
    · have z := zmin_f.mp c4
      unfold cellF
      rw [if_neg (fun q => z q.1)]
    · have z := (bfalse ci).mp c6
      unfold cellF
      rw [if_neg (fun q => z q.2.1)]
    · have z := zmin_t.mp c5
      have hc := ci.mp c7
      have h4 := q4.1.mp c8
      obtain ⟨M, hM⟩ : ∃ M : Nat, x2.toInt = (M : Int) := ⟨x2.toInt.toNat, by omega⟩
      have n150 := stM_150 b7 (al := -1) (M + 1)
      generalize hst : stM (RW h (610 + 318 * n)) (-1) (M + 1) = st at n150
      have fv : cellF x2 x3 x4 (RW h (610 + 318 * n)) = (if x4 = 0 then heightF st x3 else if x4 = 1 then topI (topo st.P x3 st.n) else if x4 = 2 then deepF st x3 else usersF st x3) := by
        unfold cellF
        rw [show x2.toInt.toNat = M by omega, hst, if_pos ⟨z, hc, h4⟩]
      rw [fv]
      refine ⟨_, c_till l G (I4, h.2) n _ (-1) M x2 hI.2.1 b7 mm (by rw [ma.2.1]; rfl) hM (by omega), fun I24 ⟨g1, g2, g3, g4⟩ => ?_⟩
      rw [hst] at g2 g3
      have s : SameC h I24 := s1.tr g1.same
      have n0 := g2.1
      have loop : ∀ (f i : Nat) (x5 x6 x7 : Int32), i ≤ st.n → st.n - i < f → x7.toInt = (i : Int) → x5 = sumP (fun i => if st.P i 0 = x3 then 1 else 0) i → x6 = sumP (fun i => if st.P i 0 = x3 then st.P i 4 else 0) i →
          Z l G mX11_cell 6 (fun v h1 => ∃ y I, v = some (.int y) ∧ h1 = (I, h.2) ∧ (y = (if x4 = 0 then heightF st x3 else if x4 = 1 then topI (topo st.P x3 st.n) else if x4 = 2 then deepF st x3 else usersF st x3) ∧ SameC h I)) 0 0 51 [va_rf (some 313), .int x1, .int x2, .int x3, .int x4, .int x5, .int x6, .int x7] [] (I24, h.2) := by
        intro f
        induction f with
        | zero => intro i x5 x6 x7 h1 h2; omega
        | succ f ih =>
          intro i x5 x6 x7 h1 h2 h3 hs hd
          refine sX11_cell_51 313 x1 x2 x3 x4 x5 x6 x7 hI.2.1 (Nat.le_refl _) ⟨fun c1 => ⟨fun c2 => ⟨fun c3 => ⟨fun c4 => ⟨_, c_usersM l G (I24, h.2) st x3 hI.2.1 g2 n150, fun y I q => ⟨y, I, rfl, rfl, ?_, by rw [q.2]; exact s⟩⟩, fun c6 => ⟨_, I24, rfl, rfl, ?_, s⟩⟩, fun c7 => ⟨_, c_topmost l G (I24, h.2) st x3 hI.2.1 g2 n150, fun y I q => ⟨y, I, rfl, rfl, ?_, by rw [q.2]; exact s⟩⟩⟩, fun c9 => ⟨_, I24, rfl, rfl, ?_, s⟩⟩, fun c10 => ?_⟩
          · rw [q.1, if_neg c2, if_neg c3, if_neg c4]
          · rw [n0] at c1
            rw [if_neg c2, if_neg c3, if_pos c6, hd, show i = st.n by omega]; rfl
          · rw [q.1, if_neg c2, if_pos c7]
          · rw [n0] at c1
            rw [if_pos c9, hs, show i = st.n by omega]; rfl
          · rw [n0] at c10
            have k1 : 0 ≤ x7.toInt := by omega
            have k2 : x7.toInt < ((160 : Nat) : Int) := by show _ < (160 : Int); omega
            rw [zix_of h3, show zI (I24, h.2) (313 + 7) i = st.P i 0 from g2.2 i (by omega) 0 (by decide), show zI (I24, h.2) (313 + 11) i = st.P i 4 from g2.2 i (by omega) 4 (by decide)]
            exact ⟨k1, k2, fun c11 => ⟨k1, k2, fun c12 => ih (i + 1) _ _ _ (by omega) (by omega) (i_1 h3 (by omega)) (sumP_s hs (if_neg c11)) (sumP_s hd (if_neg c11)), fun c13 => absurd c13 c11⟩, fun c14 => ⟨k1, k2, fun c15 => absurd c14 c15, fun c16 => ⟨k1, k2, ih (i + 1) _ _ _ (by omega) (by omega) (i_1 h3 (by omega)) (sumP_s hs (if_pos c14)) (sumP_s hd (if_pos c14))⟩⟩⟩
      exact loop (st.n + 1) 0 0 0 0 (by omega) (by omega) rfl rfl rfl
    · have z := q4.2.mp c10
      unfold cellF
      rw [if_neg (fun q => z q.2.2)]
def gaitF (x2 x3 : Int32) (V : Nat → Int) : Int32 :=
  if 0 ≤ x2.toInt ∧ x2.toInt < V 3 ∧ 0 ≤ x3.toInt ∧ x3.toInt ≤ 3 then (stM V (-1) 100).g x2.toInt.toNat x3.toInt.toNat else -2
theorem pp_gait {Kept : zH → Prop} (hk : KOK Kept) (l : Launch) (G : zG) : P_gait Kept l G := fun x1 x2 x3 => by
  refine Pair.night hk x1 (-2) (gaitF x2 x3) (fun h hI c0 => ?_) (fun h n hI ⟨b1, b2, b4, b6, b7, b8⟩ => ?_) (fun h hI c0 => ?_) (fun h n hI ⟨b1, b2, b4, b6, b7, b8⟩ bT => ?_)
  · exact kX10_gait 0 x1 x2 x3 (sX10_gait_0 0 x1 x2 x3 hI.1 (Nat.le_refl _) ⟨fun c1 => ⟨_, h.1, rfl, rfl, rfl, SameC.rf h⟩, fun b5 c2 => absurd (c0.symm.trans c2) (fun z => by cases z)⟩)
  · have w3 := b7.2.2.2.1
    refine kX10_gait 0 x1 x2 x3 (sX10_gait_0 0 x1 x2 x3 hI.1 (Nat.le_refl _) ⟨fun c1 => absurd (b4.symm.trans c1) (fun z => by cases z), fun b5 c2 => ?_⟩)
    have e5 : b5 = 5 + 18 * n := (Option.some.inj (b4.symm.trans c2)).symm
    subst e5
    have l81 := los_81 hI.1
    by_cases hp : 0 ≤ x2.toInt ∧ x2.toInt < RW h (610 + 318 * n) 3
    · obtain ⟨P, hP⟩ : ∃ P : Nat, x2.toInt = (P : Int) := ⟨x2.toInt.toNat, by omega⟩
      obtain ⟨m1, m2, m3⟩ := per_mem b6 b7 b8 hP (by omega)
      refine ⟨b6, fun c3 => absurd (m1.symm.trans c3) (fun z => by cases z), fun b14 c4 => ⟨_, c_lay l G h _ 81 (5 + 18 * n) 99 99 l81 b6 b7 b8 (by omega) rfl (by decide), fun I20 ⟨g1, g2, g3⟩ => ?_⟩⟩
      have s := SameC.lay (Or.inl rfl) g1
      have f : ∀ W : Nat, x3.toInt = (W : Int) → W < 4 → zget (I20, h.2) (some (81 + (10 + W))) x2 = gaitF x2 x3 (RW h (610 + 318 * n)) := fun W e h4 => by
        unfold gaitF
        rw [if_pos (by omega), show x2.toInt.toNat = P by omega, show x3.toInt.toNat = W by omega, zget_w (h := (I20, h.2)) ((lo0_w l81).2.2.2.2.2.2.2.2.2 W h4) hP (by omega)]
        exact g3 P (by omega) W h4
      refine ⟨fun c6 => ⟨_, I20, rfl, rfl, ?_, s⟩, fun c => ⟨_, I20, rfl, rfl, f 0 c (by decide), s⟩, fun c => ⟨_, I20, rfl, rfl, f 1 c (by decide), s⟩, fun c => ⟨_, I20, rfl, rfl, f 2 c (by decide), s⟩, fun c => ⟨_, I20, rfl, rfl, f 3 c (by decide), s⟩⟩
      unfold gaitF
      rw [if_neg (by omega)]
    · have mn := per_no b7 b8 hp
      refine ⟨b6, fun c3 => ⟨_, h.1, rfl, rfl, ?_, SameC.rf h⟩, fun b15 c4 => absurd (mn.symm.trans c4) (fun z => by cases z)⟩
      unfold gaitF
      rw [if_neg (by omega)]
  · refine kX11_gait 313 x1 x2 x3 (sX11_gait_0 313 x1 x2 x3 hI.2.1 (Nat.le_refl _) ⟨_, c_isN l G hI x1, fun y6 I4 ⟨s1, s2, s3, s4⟩ => ⟨fun c2 => ⟨_, I4, rfl, rfl, rfl, s1⟩, fun c2 => ?_⟩⟩)
    exact absurd (c0.symm.trans (s3.symm.trans c2)) (fun z => by cases z)
  · refine kX11_gait 313 x1 x2 x3 (sX11_gait_0 313 x1 x2 x3 hI.2.1 (Nat.le_refl _) ⟨_, c_isN l G hI x1, fun y6 I4 ⟨s1, s2, s3, s4⟩ => ⟨fun c2 => absurd (bT.symm.trans (s3.symm.trans c2)) (fun z => by cases z), fun c2 => ?_⟩⟩)
    have eV : RW (I4, h.2) (610 + 318 * n) = RW h (610 + 318 * n) := RWc s1.al _
    have ma := s4 n b1 b2 c2
    have mm := ma.mn b2 (by rw [eV]; exact b7)
    rw [eV] at mm
    have w3 := b7.2.2.2.1
    obtain ⟨k3, pi⟩ := zisP_at mm b7 (p := x2)
    have q3 := n3r (x := x3) (u := 0) (v := 3) (a := 0) (b := 3) rfl rfl
    refine ⟨k3, fun c4 => ⟨_, I4, rfl, rfl, ?_, s1⟩, fun c5 => ⟨fun c6 => ⟨_, c_till l G (I4, h.2) n _ (-1) 99 99 hI.2.1 b7 mm (by rw [ma.2.1]; rfl) rfl (by decide), fun I32 ⟨g1, g2, g3, g4⟩ => ?_⟩, fun c8 => ⟨_, I4, rfl, rfl, ?_, s1⟩⟩⟩
    · have := (bfalse pi).mp c4
      unfold gaitF
      rw [if_neg (by omega)]
    · have hp := pi.mp c5
      have hw := q3.1.mp c6
      obtain ⟨P, hP⟩ : ∃ P : Nat, x2.toInt = (P : Int) := ⟨x2.toInt.toNat, by omega⟩
      obtain ⟨W, hW⟩ : ∃ W : Nat, x3.toInt = (W : Int) := ⟨x3.toInt.toNat, by omega⟩
      have m1 := m4 (x := x2) (c := x3) hP (by omega) hW (by omega)
      refine ⟨by rw [m1]; omega, by rw [m1]; omega, _, I32, rfl, rfl, ?_, s1.tr g1.same⟩
      rw [zix_of m1]
      unfold gaitF
      rw [if_pos (by omega), show x2.toInt.toNat = P by omega, show x3.toInt.toNat = W by omega]
      exact g3 P (by omega) W (by omega)
    · have := q3.2.mp c8
      unfold gaitF
      rw [if_neg (by omega)]
