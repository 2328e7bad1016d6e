set_option maxRecDepth 4000
/-! ===== person, where, near ===== -/
theorem spot_rng {V : Nat → Int} (w : WFN V) {P m : Nat} (hP : (P : Int) < V 3) : spotV V P m = -1 ∨ (0 ≤ spotV V P m ∧ spotV V P m < V 0 * V 1) := by
  have pos : ∀ R : Nat, (R : Int) < V 3 → posW V R m = -1 ∨ (0 ≤ posW V R m ∧ posW V R m < V 0 * V 1) := fun R hR => by
    have w8 := (per_w w hR).2.2.2.2.2.2.2.1
    unfold posW
    split
    · exact Or.inl rfl
    · rename_i z
      exact Or.inr (gow_rng (w8.resolve_left (fun y => z (Or.inl y.1))).1 _)
  have pw := per_w w hP
  unfold spotV
  split
  · exact pos P hP
  · rename_i n5
    split
    · exact pos _ (by have := pw.2.2.2.2.2.1; omega)
    · exact (pw.2.2.2.2.2.2.2.1).elim (fun z => Or.inl z.1) (fun z => Or.inr z.1)
theorem steps_rng {V : Nat → Int} (w : WFN V) {P : Nat} (hP : (P : Int) < V 3) : 0 ≤ stepsV V P ∧ stepsV V P ≤ 24 := by
  have w8 := (per_w w hP).2.2.2.2.2.2.2.1
  have le := mdc_le (V := V) (p := P) (pF V P 8).toNat
  unfold stepsV madeV
  (repeat' split) <;> omega
def personF (x2 x3 : Int32) (V : Nat → Int) : Int32 :=
  if 0 ≤ x2.toInt ∧ x2.toInt < V 3 ∧ 0 ≤ x3.toInt ∧ x3.toInt ≤ 9 then (if x3.toInt = 9 then Int32.ofInt (stepsV V x2.toInt.toNat) else Int32.ofInt (pF V x2.toInt.toNat x3.toInt.toNat)) else -2
theorem zisP_at {h : zH} {n : Nat} {V : Nat → Int} (m : MN h n V) (w : WFN V) {p : Int32} : zofk h 313 3 ∧ (zisP h 313 p = true ↔ 0 ≤ p.toInt ∧ p.toInt < V 3) := by
  obtain ⟨k, v⟩ := m.of (w := 3) (W := 3) rfl (by decide)
  have w3 := w.2.2.2.1
  have e : (zof h 313 3 - 1).toInt = V 3 - 1 := by
    rw [i_sub (by rw [v]; show _ ≤ _ - (1 : Int); omega) (by rw [v]; show _ - (1 : Int) < _; omega), v]; rfl
  refine ⟨k, ?_⟩
  unfold zisP
  rw [zin3_t, e, show (0 : Int32).toInt = 0 from rfl]
  exact ⟨fun z => ⟨z.1, by omega⟩, fun z => ⟨z.1, by omega⟩⟩
theorem zcel_at {h : zH} {n : Nat} {V : Nat → Int} (m : MN h n V) (w : WFN V) : (zofk h 313 0 ∧ zofk h 313 1) ∧ (zcel h 313).toInt = V 0 * V 1 := by
  obtain ⟨k0, v0⟩ := m.of (w := 0) (W := 0) rfl (by decide)
  obtain ⟨k1, v1⟩ := m.of (w := 1) (W := 1) rfl (by decide)
  have b := wh_rng w.1 w.2.1
  refine ⟨⟨k0, k1⟩, ?_⟩
  unfold zcel
  rw [i_mul (by rw [v0, v1]; omega) (by rw [v0, v1]; omega), v0, v1]
theorem zisC_at {h : zH} {n : Nat} {V : Nat → Int} (m : MN h n V) (w : WFN V) {p : Int32} : (zofk h 313 0 ∧ zofk h 313 1) ∧ (zisC h 313 p = true ↔ 0 ≤ p.toInt ∧ p.toInt < V 0 * V 1) := by
  obtain ⟨k, v⟩ := zcel_at m w
  have b := wh_rng w.1 w.2.1
  have e : (zcel h 313 - 1).toInt = V 0 * V 1 - 1 := by
    rw [i_sub (by rw [v]; show _ ≤ _ - (1 : Int); omega) (by rw [v]; show _ - (1 : Int) < _; omega), v]; rfl
  refine ⟨k, ?_⟩
  unfold zisC
  rw [zin3_t, e, show (0 : Int32).toInt = 0 from rfl]
  exact ⟨fun z => ⟨z.1, by omega⟩, fun z => ⟨z.1, by omega⟩⟩
theorem zhas_at {h : zH} {q : Nat} {V : Nat → Int} (w : WFN V) (o : NObj h q V) {c : Int32} : (zcells h q).toInt = V 0 * V 1 ∧ (zhas h q c = true ↔ 0 ≤ c.toInt ∧ c.toInt < V 0 * V 1) := by
  have e0 : (zI h q 0).toInt = V 0 := o.1 0 (by decide)
  have e1 : (zI h q 1).toInt = V 1 := o.1 1 (by decide)
  have b := wh_rng w.1 w.2.1
  have e : (zcells h q).toInt = V 0 * V 1 := by
    unfold zcells
    rw [i_mul (by rw [e0, e1]; omega) (by rw [e0, e1]; omega), e0, e1]
  refine ⟨e, ?_⟩
  unfold zhas
  rw [e]
  exact decide_eq_true_iff
theorem bfalse {b : Bool} {p : Prop} (q : b = true ↔ p) : b = false ↔ ¬ p := by
  rw [← q]
  exact ⟨fun z => by rw [z]; decide, fun z => Bool.eq_false_iff.mpr z⟩
theorem SameC.pl {h : zH} {I J : Nat → Nat → Int32} (s : SameC h I) (e : ∀ b, b ≠ 318 → b ≠ 319 → J b = I b) : SameC h J := fun b hb j => by
  rw [e b (by unfold IC at hb; omega) (by unfold IC at hb; omega)]; exact s b hb j
theorem pp_person {Kept : zH → Prop} (hk : KOK Kept) (l : Launch) (G : zG) : P_person Kept l G := fun x1 x2 x3 => by
  refine Pair.night hk x1 (-2) (personF x2 x3) (fun h hI c0 => ?_) (fun h n hI ⟨b1, b2, b4, b6, b7, b8⟩ => ?_) (fun h hI c0 => ?_) (fun h n hI ⟨b1, b2, b4, b6, b7, b8⟩ bT => ?_)
  · exact kX10_person 0 x1 x2 x3 (sX10_person_0 0 x1 x2 x3 hI.1 (Nat.le_refl _) ⟨fun c1 => ⟨_, h.1, rfl, rfl, rfl, SameC.rf h⟩, fun b5 c2 => absurd (c0.symm.trans c2) (fun z => by cases z)⟩)
  · have w3 := b7.2.2.2.1
    refine kX10_person 0 x1 x2 x3 (sX10_person_0 0 x1 x2 x3 hI.1 (Nat.le_refl _) ⟨fun c1 => absurd (b4.symm.trans c1) (fun z => by cases z), fun b5 c2 => ?_⟩)
    have e5 : b5 = 5 + 18 * n := (Option.some.inj (b4.symm.trans c2)).symm
    subst e5
    by_cases hp : 0 ≤ x2.toInt ∧ x2.toInt < RW h (610 + 318 * n) 3
    · obtain ⟨P, hP⟩ : ∃ P : Nat, x2.toInt = (P : Int) := ⟨x2.toInt.toNat, by omega⟩
      obtain ⟨m1, m2, m3⟩ := per_mem b6 b7 b8 hP (by omega)
      refine ⟨b6, fun c3 => absurd (m1.symm.trans c3) (fun z => by cases z), fun b15 c4 => ?_⟩
      have eb : b15 = 5 + 18 * n + (6 + 2 * P) := (Option.some.inj (m1.symm.trans c4)).symm
      subst eb
      have f1 : ∀ W : Nat, x3.toInt = (W : Int) → W < 9 → personF x2 x3 (RW h (610 + 318 * n)) = zI h (5 + 18 * n + (6 + 2 * P)) W := fun W e h9 => by
        unfold personF
        rw [if_pos (by omega), if_neg (by omega), show x2.toInt.toNat = P by omega, show x3.toInt.toNat = W by omega]
        exact (n_ofV ((per_f b8 (P := P) (by omega)).1 W h9)).symm
      refine ⟨fun c5 => ⟨_, h.1, rfl, rfl, ?_, SameC.rf h⟩, fun c => ⟨m2, _, h.1, rfl, rfl, (f1 0 c (by decide)).symm, SameC.rf h⟩, fun c => ⟨m2, _, h.1, rfl, rfl, (f1 1 c (by decide)).symm, SameC.rf h⟩, fun c => ⟨m2, _, h.1, rfl, rfl, (f1 2 c (by decide)).symm, SameC.rf h⟩, fun c => ⟨m2, _, h.1, rfl, rfl, (f1 3 c (by decide)).symm, SameC.rf h⟩, fun c => ⟨m2, _, h.1, rfl, rfl, (f1 4 c (by decide)).symm, SameC.rf h⟩, fun c => ⟨m2, _, h.1, rfl, rfl, (f1 5 c (by decide)).symm, SameC.rf h⟩, fun c => ⟨m2, _, h.1, rfl, rfl, (f1 6 c (by decide)).symm, SameC.rf h⟩, fun c => ⟨m2, _, h.1, rfl, rfl, (f1 7 c (by decide)).symm, SameC.rf h⟩, fun c => ⟨m2, _, h.1, rfl, rfl, (f1 8 c (by decide)).symm, SameC.rf h⟩, fun c => ⟨_, c_stepsMade l G h _ _ P b6 b7 b8 (by omega), fun y I z => ⟨y, I, rfl, rfl, ?_, by rw [z.2]; exact SameC.rf h⟩⟩⟩
      · unfold personF
        rw [if_neg (by omega)]
      · unfold personF
        rw [if_pos (by omega), if_pos c, show x2.toInt.toNat = P by omega]; exact n_ofV z.1
    · have mn := per_no b7 b8 hp
      refine ⟨b6, fun c3 => ⟨_, h.1, rfl, rfl, ?_, SameC.rf h⟩, fun b15 c4 => absurd (mn.symm.trans c4) (fun z => by cases z)⟩
      unfold personF
      rw [if_neg (by omega)]
  · refine kX11_person 313 x1 x2 x3 (sX11_person_0 313 x1 x2 x3 hI.2.1 (Nat.le_refl _) ⟨_, c_isN l G hI x1, fun y6 I4 ⟨s1, s2, s3, s4⟩ => ⟨fun c2 => ⟨_, I4, rfl, rfl, rfl, s1⟩, fun c2 => ?_⟩⟩)
    exact absurd (c0.symm.trans (s3.symm.trans c2)) (fun z => by cases z)
  · refine kX11_person 313 x1 x2 x3 (sX11_person_0 313 x1 x2 x3 hI.2.1 (Nat.le_refl _) ⟨_, c_isN l G hI x1, fun y6 I4 ⟨s1, s2, s3, s4⟩ => ⟨fun c2 => absurd (bT.symm.trans (s3.symm.trans c2)) (fun z => by cases z), fun c2 => ?_⟩⟩)
    have eV : RW (I4, h.2) (610 + 318 * n) = RW h (610 + 318 * n) := RWc s1.al _
    have mm := (s4 n b1 b2 c2).mn b2 (by rw [eV]; exact b7)
    have ma := s4 n b1 b2 c2
    rw [eV] at mm
    have w3 := b7.2.2.2.1
    obtain ⟨k3, pi⟩ := zisP_at mm b7 (p := x2)
    have q2 := n3r (x := x3) (u := 0) (v := 9) (a := 0) (b := 9) rfl rfl
    refine ⟨k3, fun c4 => ⟨_, I4, rfl, rfl, ?_, s1⟩, fun c5 => ⟨fun c6 => ⟨fun c7 => ⟨_, c_places l G (I4, h.2) n _ hI.2.1 b7 mm, fun I36 ⟨g1, g2⟩ => ?_⟩, fun c9 => ?_⟩, fun c10 => ⟨_, I4, rfl, rfl, ?_, s1⟩⟩⟩
    · have := (bfalse pi).mp c4
      unfold personF
      rw [if_neg (by omega)]
    · have hp := pi.mp c5
      obtain ⟨P, hP⟩ : ∃ P : Nat, x2.toInt = (P : Int) := ⟨x2.toInt.toNat, by omega⟩
      refine ⟨by omega, by show _ < (6 : Int); omega, _, I36, rfl, rfl, ?_, s1.pl g1⟩
      have h9 := q2.1.mp c6
      rw [zix_of hP]
      unfold personF
      rw [if_pos (by omega), if_pos (by omega), show x2.toInt.toNat = P by omega]
      exact n_ofV (g2 P (by omega)).1
    · have hp := pi.mp c5
      obtain ⟨P, hP⟩ : ∃ P : Nat, x2.toInt = (P : Int) := ⟨x2.toInt.toNat, by omega⟩
      have h9 := q2.1.mp c6
      obtain ⟨W, hW⟩ : ∃ W : Nat, x3.toInt = (W : Int) := ⟨x3.toInt.toNat, by omega⟩
      obtain ⟨t1, t2⟩ := ma.tv b2 hP (by omega) hW (by omega)
      refine ⟨t1, _, I4, rfl, rfl, ?_, s1⟩
      unfold personF
      rw [if_pos (by omega), if_neg (by omega), show x2.toInt.toNat = P by omega, show x3.toInt.toNat = W by omega, ← eV]
      exact n_ofV t2
    · have := q2.2.mp c10
      unfold personF
      rw [if_neg (by omega)]
/-! ===== where ===== -/
def whereF (x2 x3 : Int32) (V : Nat → Int) : Int32 :=
  if 0 ≤ x2.toInt ∧ x2.toInt < V 3 ∧ 0 ≤ x3.toInt ∧ x3.toInt < 100 then Int32.ofInt (spotV V x2.toInt.toNat x3.toInt.toNat) else -2
theorem pp_where {Kept : zH → Prop} (hk : KOK Kept) (l : Launch) (G : zG) : P_where Kept l G := fun x1 x2 x3 => by
  refine Pair.night hk x1 (-2) (whereF x2 x3) (fun h hI c0 => ?_) (fun h n hI ⟨b1, b2, b4, b6, b7, b8⟩ => ?_) (fun h hI c0 => ?_) (fun h n hI ⟨b1, b2, b4, b6, b7, b8⟩ bT => ?_)
  · exact kX10_where 0 x1 x2 x3 (sX10_where_0 0 x1 x2 x3 hI.1 (Nat.le_refl _) ⟨fun c1 => ⟨_, h.1, rfl, rfl, rfl, SameC.rf h⟩, fun b5 c2 => absurd (c0.symm.trans c2) (fun z => by cases z)⟩)
  · have w3 := b7.2.2.2.1
    refine kX10_where 0 x1 x2 x3 (sX10_where_0 0 x1 x2 x3 hI.1 (Nat.le_refl _) ⟨fun c1 => absurd (b4.symm.trans c1) (fun z => by cases z), fun b5 c2 => ?_⟩)
    have e5 : b5 = 5 + 18 * n := (Option.some.inj (b4.symm.trans c2)).symm
    subst e5
    by_cases hp : 0 ≤ x2.toInt ∧ x2.toInt < RW h (610 + 318 * n) 3
    · obtain ⟨P, hP⟩ : ∃ P : Nat, x2.toInt = (P : Int) := ⟨x2.toInt.toNat, by omega⟩
      obtain ⟨m1, m2, m3⟩ := per_mem b6 b7 b8 hP (by omega)
      refine ⟨b6, fun c3 => absurd (m1.symm.trans c3) (fun z => by cases z), fun b14 c4 => ⟨fun c5 => ?_, fun c7 => ⟨_, h.1, rfl, rfl, ?_, SameC.rf h⟩⟩⟩
      · have z := zmin_t.mp c5
        obtain ⟨M, hM⟩ : ∃ M : Nat, x3.toInt = (M : Int) := ⟨x3.toInt.toNat, by omega⟩
        refine ⟨_, c_spot l G h _ _ P M x2 x3 b6 b7 b8 hP (by omega) hM (by omega), fun y I z2 => ⟨y, I, rfl, rfl, ?_, by rw [z2.2]; exact SameC.rf h⟩⟩
        unfold whereF
        rw [if_pos (by omega), show x2.toInt.toNat = P by omega, show x3.toInt.toNat = M by omega]; exact n_ofV z2.1
      · have z := zmin_f.mp c7
        unfold whereF
        rw [if_neg (by omega)]
    · have mn := per_no b7 b8 hp
      refine ⟨b6, fun c3 => ⟨_, h.1, rfl, rfl, ?_, SameC.rf h⟩, fun b15 c4 => absurd (mn.symm.trans c4) (fun z => by cases z)⟩
      unfold whereF
      rw [if_neg (by omega)]
  · refine kX11_where 313 x1 x2 x3 (sX11_where_0 313 x1 x2 x3 hI.2.1 (Nat.le_refl _) ⟨_, c_isN l G hI x1, fun y6 I4 ⟨s1, s2, s3, s4⟩ => ⟨fun c2 => ⟨_, I4, rfl, rfl, rfl, s1⟩, fun c2 => ?_⟩⟩)
    exact absurd (c0.symm.trans (s3.symm.trans c2)) (fun z => by cases z)
  · refine kX11_where 313 x1 x2 x3 (sX11_where_0 313 x1 x2 x3 hI.2.1 (Nat.le_refl _) ⟨_, c_isN l G hI x1, fun y6 I4 ⟨s1, s2, s3, s4⟩ => ⟨fun c2 => absurd (bT.symm.trans (s3.symm.trans c2)) (fun z => by cases z), fun c2 => ?_⟩⟩)
    have eV : RW (I4, h.2) (610 + 318 * n) = RW h (610 + 318 * n) := RWc s1.al _
    have mm := (s4 n b1 b2 c2).mn b2 (by rw [eV]; exact b7)
    rw [eV] at mm
    have w3 := b7.2.2.2.1
    obtain ⟨k3, pi⟩ := zisP_at mm b7 (p := x2)
    refine ⟨k3, fun c4 => ⟨_, I4, rfl, rfl, ?_, s1⟩, fun c5 => ⟨fun c6 => ⟨_, c_places l G (I4, h.2) n _ hI.2.1 b7 mm, fun I32 ⟨g1, g2⟩ => ?_⟩, fun c8 => ⟨_, I4, rfl, rfl, ?_, s1⟩⟩⟩
    · have := (bfalse pi).mp c4
      unfold whereF
      rw [if_neg (by omega)]
    · have hp := pi.mp c5
      have z := zmin_t.mp c6
      obtain ⟨P, hP⟩ : ∃ P : Nat, x2.toInt = (P : Int) := ⟨x2.toInt.toNat, by omega⟩
      obtain ⟨M, hM⟩ : ∃ M : Nat, x3.toInt = (M : Int) := ⟨x3.toInt.toNat, by omega⟩
      have m1 := m100 hP (by omega) hM (by omega)
      refine ⟨by rw [m1]; omega, by rw [m1]; omega, _, I32, rfl, rfl, ?_, s1.pl g1⟩
      rw [zix_of m1]
      unfold whereF
      rw [if_pos (by omega), show x2.toInt.toNat = P by omega, show x3.toInt.toNat = M by omega]
      exact n_ofV ((g2 P (by omega)).2 M (by omega))
    · have z := zmin_f.mp c8
      unfold whereF
      rw [if_neg (by omega)]
/-! ===== near ===== -/
def iab (x : Int) : Int := if x < 0 then -x else x
def distV (V : Nat → Int) (a b : Int) : Int := iab (a / V 0 - b / V 0) + iab (a % V 0 - b % V 0)
def bit1 (k : Nat) : Int32 := (1 : Int32) <<< (Int32.ofNat k &&& 31)
def nearS (V : Nat → Int) (c r : Int) (m : Nat) : Nat → Int32
  | 0 => 0
  | k + 1 => if spotV V k m ≠ -1 ∧ distV V (spotV V k m) c ≤ r then nearS V c r m k ||| bit1 k else nearS V c r m k
def nearF (x2 x3 x4 : Int32) (V : Nat → Int) : Int32 :=
  if 0 ≤ x2.toInt ∧ x2.toInt < V 0 * V 1 ∧ 0 ≤ x3.toInt ∧ x3.toInt ≤ 14 ∧ 0 ≤ x4.toInt ∧ x4.toInt < 100 then nearS V x2.toInt x3.toInt x4.toInt.toNat (V 3).toNat else -1
theorem n_iabs {x : Int32} {v : Int} (h : x.toInt = v) (b : -1000 ≤ v ∧ v ≤ 1000) : (iabs x).toInt = iab v := by
  unfold iabs iab
  by_cases c : v < 0
  · rw [if_neg (fun z => by have := Int32.le_iff_toInt_le.mp z; rw [h, show (0 : Int32).toInt = 0 from rfl] at this; omega), if_pos c, i_sub (by rw [h]; show _ ≤ (0 : Int) - _; omega) (by rw [h]; show (0 : Int) - _ < _; omega), h]
    show (0 : Int) - v = -v
    omega
  · rw [if_pos (Int32.le_iff_toInt_le.mpr (by rw [h]; show (0 : Int) ≤ v; omega)), if_neg c]; exact h
theorem n_apart {x y : Int32} {u v : Int} (hx : x.toInt = u) (hy : y.toInt = v) (b : 0 ≤ u ∧ u ≤ 1000 ∧ 0 ≤ v ∧ v ≤ 1000) : (zapart x y).toInt = iab (u - v) := by
  unfold zapart iab
  rw [hx, hy]
  by_cases c : v < u
  · rw [if_pos c, if_neg (by omega), i_sub (by omega) (by omega), hx, hy]
  · rw [if_neg c]
    by_cases c2 : u - v < 0
    · rw [if_pos c2, i_sub (by omega) (by omega), hx, hy]; omega
    · rw [if_neg c2, i_sub (by omega) (by omega), hx, hy]; omega
theorem dist_c {w a b : Int32} {V : Nat → Int} (hw : w.toInt = V 0) (hW : 2 ≤ V 0 ∧ V 0 ≤ 8) (hH : 2 ≤ V 1 ∧ V 1 ≤ 8) (ha : 0 ≤ a.toInt ∧ a.toInt < V 0 * V 1) (hb : 0 ≤ b.toInt ∧ b.toInt < V 0 * V 1) : (zdist w a b).toInt = distV V a.toInt b.toInt ∧
    (zapart (zrem a w) (zrem b w) + zapart (a / w) (b / w)).toInt = distV V a.toInt b.toInt := by
  have da := dm_rng hW ha hH
  have db := dm_rng hW hb hH
  have e1 : (a / w).toInt = a.toInt / V 0 := by rw [n_div ha.1 (by omega), hw]
  have e2 : (b / w).toInt = b.toInt / V 0 := by rw [n_div hb.1 (by omega), hw]
  have e3 : (zrem a w).toInt = a.toInt % V 0 := by rw [n_rem ha.1 (by omega), hw]
  have e4 : (zrem b w).toInt = b.toInt % V 0 := by rw [n_rem hb.1 (by omega), hw]
  have ib : ∀ v : Int, -100 ≤ v → v ≤ 100 → 0 ≤ iab v ∧ iab v ≤ 100 := fun v h1 h2 => by unfold iab; split <;> omega
  have f1 : (iabs (a / w - b / w)).toInt = iab (a.toInt / V 0 - b.toInt / V 0) := n_iabs (by rw [i_sub (by omega) (by omega), e1, e2]) (by omega)
  have f2 : (iabs (zrem a w - zrem b w)).toInt = iab (a.toInt % V 0 - b.toInt % V 0) := n_iabs (by rw [i_sub (by omega) (by omega), e3, e4]) (by omega)
  have b1 := ib (a.toInt / V 0 - b.toInt / V 0) (by omega) (by omega)
  have b2 := ib (a.toInt % V 0 - b.toInt % V 0) (by omega) (by omega)
  have g1 := n_apart e1 e2 (by omega)
  have g2 := n_apart e3 e4 (by omega)
  refine ⟨?_, ?_⟩
  · unfold zdist
    rw [if_neg (by omega), i_add (by omega) (by omega), f1, f2]; rfl
  · rw [i_add (by omega) (by omega), g1, g2]
    unfold distV
    omega
theorem bit1_of {x : Int32} {k : Nat} (h : x.toInt = (k : Int)) : (1 : Int32) <<< (x &&& 31) = bit1 k := by rw [n_ofn h]; rfl
theorem pp_near {Kept : zH → Prop} (hk : KOK Kept) (l : Launch) (G : zG) : P_near Kept l G := fun x1 x2 x3 x4 => by
  refine Pair.night hk x1 (-1) (nearF x2 x3 x4) (fun h hI c0 => ?_) (fun h n hI ⟨b1, b2, b4, b6, b7, b8⟩ => ?_) (fun h hI c0 => ?_) (fun h n hI ⟨b1, b2, b4, b6, b7, b8⟩ bT => ?_)
  · exact kX10_near 0 x1 x2 x3 x4 (sX10_near_0 0 x1 x2 x3 x4 hI.1 (Nat.le_refl _) ⟨fun c1 => ⟨_, h.1, rfl, rfl, rfl, SameC.rf h⟩, fun b5 c2 => absurd (c0.symm.trans c2) (fun z => by cases z)⟩)
  · have w3 := b7.2.2.2.1
    refine kX10_near 0 x1 x2 x3 x4 (sX10_near_0 0 x1 x2 x3 x4 hI.1 (Nat.le_refl _) ⟨fun c1 => absurd (b4.symm.trans c1) (fun z => by cases z), fun b5 c2 => ?_⟩)
    have e5 : b5 = 5 + 18 * n := (Option.some.inj (b4.symm.trans c2)).symm
    subst e5
    have hh := (zhas_at b7 b8 (c := x2)).2
    have e3 : (zI h (5 + 18 * n) 3).toInt = RW h (610 + 318 * n) 3 := b8.1 3 (by decide)
    have e0 : (zI h (5 + 18 * n) 0).toInt = RW h (610 + 318 * n) 0 := b8.1 0 (by decide)
    refine ⟨b6, fun c3 => ⟨_, h.1, rfl, rfl, ?_, SameC.rf h⟩, fun c4 => ⟨fun c5 => ⟨_, h.1, rfl, rfl, ?_, SameC.rf h⟩, fun c6 => ⟨fun c7 => ⟨_, h.1, rfl, rfl, ?_, SameC.rf h⟩, fun c8 => ⟨fun c9 => ?_, fun c10 => ⟨_, h.1, rfl, rfl, ?_, SameC.rf h⟩⟩⟩⟩⟩
    · have := (bfalse hh).mp c3
      unfold nearF
      rw [if_neg (fun z => this ⟨z.1, z.2.1⟩)]
    · unfold nearF
      rw [if_neg (by omega)]
    · unfold nearF
      rw [if_neg (by omega)]
    · have hc := hh.mp c4
      have z := zmin_t.mp c9
      obtain ⟨M, hM⟩ : ∃ M : Nat, x4.toInt = (M : Int) := ⟨x4.toInt.toNat, by omega⟩
      have fv : nearF x2 x3 x4 (RW h (610 + 318 * n)) = nearS (RW h (610 + 318 * n)) x2.toInt x3.toInt M (RW h (610 + 318 * n) 3).toNat := by
        unfold nearF
        rw [if_pos ⟨hc.1, hc.2, by omega⟩, show x4.toInt.toNat = M by omega]
      rw [b4]
      have loop : ∀ (f i : Nat) (x6 x7 : Int32) (u : Value), (i : Int) ≤ RW h (610 + 318 * n) 3 → RW h (610 + 318 * n) 3 - i < (f : Int) → x7.toInt = (i : Int) → x6 = nearS (RW h (610 + 318 * n)) x2.toInt x3.toInt M i →
          Z l G mX10_near 5 (fun v h1 => ∃ y I, v = some (.int y) ∧ h1 = (I, h.2) ∧ (y = nearF x2 x3 x4 (RW h (610 + 318 * n)) ∧ SameC h I)) 0 0 50 [va_rf (some 0), .int x1, .int x2, .int x3, .int x4, va_rf (some (5 + 18 * n)), .int x6, .int x7, u] [] h := by
        intro f
        induction f with
        | zero => intro i x6 x7 u h1 h2; omega
        | succ f ih =>
          intro i x6 x7 u h1 h2 hx h6
          refine sX10_near_50 0 x1 x2 x3 x4 (some (5 + 18 * n)) x6 x7 u hI.1 (Nat.le_refl _) ⟨5 + 18 * n, rfl, b6, fun c1 => ⟨_, h.1, rfl, rfl, ?_, SameC.rf h⟩, fun c2 => ?_⟩
          · rw [fv, h6, show (RW h (610 + 318 * n) 3).toNat = i by omega]
          · have hi : (i : Int) < RW h (610 + 318 * n) 3 := by omega
            refine ⟨_, c_spot l G h _ _ i M x7 x4 b6 b7 b8 hx hi hM (by omega), fun y I z2 => ?_⟩
            have eI : I = h.1 := z2.2
            subst eI
            have sr := spot_rng b7 (P := i) (m := M) hi
            refine ⟨fun c4 => ?_, fun c5 => ⟨fun c6 => ?_, fun c7 => ?_⟩⟩
            · refine ih (i + 1) _ _ _ (by omega) (by omega) (i_1 hx (by omega)) ?_
              rw [h6]
              show _ = (if _ then _ else _)
              rw [if_neg (fun q => q.1 (z2.1.symm.trans (n_m1.mp c4)))]
            · have n1 : spotV (RW h (610 + 318 * n)) i M ≠ -1 := fun q => c5 (n_m1.mpr (z2.1.trans q))
              have dc := (dist_c (a := y) (b := x2) e0 b7.1 b7.2.1 (by rw [z2.1]; exact sr.resolve_left n1) hc).1
              rw [show zI (h.1, h.2) (5 + 18 * n) 0 = zI h (5 + 18 * n) 0 from rfl, dc, z2.1] at c6
              refine ih (i + 1) _ _ _ (by omega) (by omega) (i_1 hx (by omega)) ?_
              rw [h6]
              show _ = (if _ then _ else _)
              rw [if_neg (fun q => by have := q.2; omega)]
            · have n1 : spotV (RW h (610 + 318 * n)) i M ≠ -1 := fun q => c5 (n_m1.mpr (z2.1.trans q))
              have dc := (dist_c (a := y) (b := x2) e0 b7.1 b7.2.1 (by rw [z2.1]; exact sr.resolve_left n1) hc).1
              rw [show zI (h.1, h.2) (5 + 18 * n) 0 = zI h (5 + 18 * n) 0 from rfl, dc, z2.1] at c7
              refine ih (i + 1) _ _ _ (by omega) (by omega) (i_1 hx (by omega)) ?_
              rw [h6, bit1_of hx]
              show _ = (if _ then _ else _)
              rw [if_pos ⟨n1, c7⟩]
      exact loop 7 0 0 0 zU (by omega) (by omega) rfl rfl
    · have z := zmin_f.mp c10
      unfold nearF
      rw [if_neg (by omega)]
  · refine kX11_near 313 x1 x2 x3 x4 (sX11_near_0 313 x1 x2 x3 x4 hI.2.1 (Nat.le_refl _) ⟨_, c_isN l G hI x1, fun y6 I4 ⟨s1, s2, s3, s4⟩ => ⟨fun c2 => ⟨_, I4, rfl, rfl, rfl, s1⟩, fun c2 => ?_⟩⟩)
    exact absurd (c0.symm.trans (s3.symm.trans c2)) (fun z => by cases z)
  · refine kX11_near 313 x1 x2 x3 x4 (sX11_near_0 313 x1 x2 x3 x4 hI.2.1 (Nat.le_refl _) ⟨_, c_isN l G hI x1, fun y6 I4 ⟨s1, s2, s3, s4⟩ => ⟨fun c2 => absurd (bT.symm.trans (s3.symm.trans c2)) (fun z => by cases z), fun c2 => ?_⟩⟩)
    have eV : RW (I4, h.2) (610 + 318 * n) = RW h (610 + 318 * n) := RWc s1.al _
    have mm := (s4 n b1 b2 c2).mn b2 (by rw [eV]; exact b7)
    rw [eV] at mm
    have w3 := b7.2.2.2.1
    obtain ⟨k01, ci⟩ := zisC_at mm b7 (p := x2)
    have q2 := n3r (x := x3) (u := 0) (v := 14) (a := 0) (b := 14) rfl rfl
    refine ⟨k01, fun c4 => ⟨_, I4, rfl, rfl, ?_, s1⟩, fun c5 => ⟨fun c6 => ⟨_, I4, rfl, rfl, ?_, s1⟩, fun c7 => ⟨fun c8 => ⟨_, c_places l G (I4, h.2) n _ hI.2.1 b7 mm, fun I39 ⟨g1, g2⟩ => ?_⟩, fun c10 => ⟨_, I4, rfl, rfl, ?_, s1⟩⟩⟩⟩
    · have := (bfalse ci).mp c4
      unfold nearF
      rw [if_neg (fun z => this ⟨z.1, z.2.1⟩)]
    · have := q2.2.mp c6
      unfold nearF
      rw [if_neg (by omega)]
    · have hc := ci.mp c5
      have hr := q2.1.mp c7
      have z := zmin_t.mp c8
      obtain ⟨M, hM⟩ : ∃ M : Nat, x4.toInt = (M : Int) := ⟨x4.toInt.toNat, by omega⟩
      have fv : nearF x2 x3 x4 (RW h (610 + 318 * n)) = nearS (RW h (610 + 318 * n)) x2.toInt x3.toInt M (RW h (610 + 318 * n) 3).toNat := by
        unfold nearF
        rw [if_pos ⟨hc.1, hc.2, by omega⟩, show x4.toInt.toNat = M by omega]
      have mJ : MN (I39, h.2) n (RW h (610 + 318 * n)) := mm.cg (fun k _ => by rw [g1 313 (by decide) (by decide)]) (g1 314 (by decide) (by decide)) (fun k _ => by rw [g1 317 (by decide) (by decide)])
      obtain ⟨k3, v3⟩ := mJ.of (w := 3) (W := 3) rfl (by decide)
      obtain ⟨k0, v0⟩ := mJ.of (w := 0) (W := 0) rfl (by decide)
      have nz : ¬ (zof (I39, h.2) 313 0) = 0 := fun e => by
        rw [e, show (0 : Int32).toInt = 0 from rfl] at v0
        have := b7.1
        omega
      have loop : ∀ (f i : Nat) (x5 x6 : Int32) (u7 u8 : Value), (i : Int) ≤ RW h (610 + 318 * n) 3 → RW h (610 + 318 * n) 3 - i < (f : Int) → x6.toInt = (i : Int) → x5 = nearS (RW h (610 + 318 * n)) x2.toInt x3.toInt M i →
          Z l G mX11_near 5 (fun v h1 => ∃ y I, v = some (.int y) ∧ h1 = (I, h.2) ∧ (y = nearF x2 x3 x4 (RW h (610 + 318 * n)) ∧ SameC h I)) 0 0 47 [va_rf (some 313), .int x1, .int x2, .int x3, .int x4, .int x5, .int x6, u7, u8] [] (I39, h.2) := by
        intro f
        induction f with
        | zero => intro i x5 x6 u7 u8 h1 h2; omega
        | succ f ih =>
          intro i x5 x6 u7 u8 h1 h2 hx h6
          refine sX11_near_47 313 x1 x2 x3 x4 x5 x6 u7 u8 hI.2.1 (Nat.le_refl _) ⟨k3, fun c1 => ⟨_, I39, rfl, rfl, ?_, s1.pl g1⟩, fun c2 => ?_⟩
          · rw [fv, h6, show (RW h (610 + 318 * n) 3).toNat = i by omega]
          · have hi : (i : Int) < RW h (610 + 318 * n) 3 := by omega
            have m1 := m100 hx (by omega) hM (by omega)
            have av := (g2 i hi).2 M (by omega)
            have sr := spot_rng b7 (P := i) (m := M) hi
            have ez : zI (I39, h.2) (313 + 5) (zix ((100 * x6) + x4)) = I39 318 (100 * i + M) := by rw [zix_of m1]; rfl
            rw [ez]
            refine ⟨by rw [m1]; omega, by rw [m1]; omega, fun c3 => ?_, fun c4 => ⟨k0, nz, k0, nz, k0, nz, k0, nz, fun c5 => ?_, fun c6 => ?_⟩⟩
            · refine ih (i + 1) _ _ _ _ (by omega) (by omega) (i_1 hx (by omega)) ?_
              rw [h6, Int32.or_zero]
              show _ = (if _ then _ else _)
              rw [if_neg (fun q => q.1 (av.symm.trans (n_m1.mp c3)))]
            · have n1 : spotV (RW h (610 + 318 * n)) i M ≠ -1 := fun q => c4 (n_m1.mpr (av.trans q))
              have dc := (dist_c (a := I39 318 (100 * i + M)) (b := x2) v0 b7.1 b7.2.1 (by rw [av]; exact sr.resolve_left n1) hc).2
              rw [dc, av] at c5
              refine ih (i + 1) _ _ _ _ (by omega) (by omega) (i_1 hx (by omega)) ?_
              rw [h6, Int32.or_zero]
              show _ = (if _ then _ else _)
              rw [if_neg (fun q => by have := q.2; omega)]
            · have n1 : spotV (RW h (610 + 318 * n)) i M ≠ -1 := fun q => c4 (n_m1.mpr (av.trans q))
              have dc := (dist_c (a := I39 318 (100 * i + M)) (b := x2) v0 b7.1 b7.2.1 (by rw [av]; exact sr.resolve_left n1) hc).2
              rw [dc, av] at c6
              refine ih (i + 1) _ _ _ _ (by omega) (by omega) (i_1 hx (by omega)) ?_
              rw [h6, bit1_of hx]
              show _ = (if _ then _ else _)
              rw [if_pos ⟨n1, c6⟩]
      exact loop 7 0 0 0 zU zU (by omega) (by omega) rfl rfl
    · have z := zmin_f.mp c10
      unfold nearF
      rw [if_neg (by omega)]
