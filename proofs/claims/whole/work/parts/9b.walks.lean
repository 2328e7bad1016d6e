set_option maxRecDepth 4000
/-! ===== walks, row ===== -/
section K9B
variable {TK : (Nat → Int) → (Nat → Int32) → (Nat → Int32) → Prop}
def walkA (x3 : Int32) (V R : Nat → Int) : Int32 :=
  if x3.toInt = 0 then Int32.ofNat (mnR V R 10) else if x3.toInt = 1 then Int32.ofNat (wcR V R 10)
  else if 10 ≤ x3.toInt ∧ x3.toInt < 10 + R 0 then ov (fstN (fF V R) 10 (nR R) (x3.toInt.toNat - 10)) else -2
def rowA (x3 : Int32) (V R : Nat → Int) : Int32 := if 1 ≤ x3.toInt ∧ x3.toInt ≤ 4 then Int32.ofNat (mnR V R x3.toInt.toNat) else -2
/-- what is kept of rows after more of it is known -/
theorem rows_inv {h : zH} {I J : Nat → Nat → Int32} {x1 x2 : Int32} {n r : Nat} (hI : Inv (KeptP TK (RKG FWq)) h) (na : NA h x1 n) (ra : RA h x2 r) (q : cmpQ TK FWq h x1 x2 (RW h (610 + 318 * n)) (RV h (1246 + 51 * r)) I) (e : ∀ b, b ≠ 150 → b ≠ 153 → b ≠ 154 → b ≠ 155 → b ≠ 156 → J b = I b) (k : RKG FWq (RW h (610 + 318 * n)) (RV h (1246 + 51 * r)) (J 150) (J 151) (J 152) (J 153)) :
    Inv (KeptP TK (RKG FWq)) (J, h.2) ∧ AL (J, h.2) = AL h ∧ J 1000000 = h.1 1000000 := by
  obtain ⟨q1, q2, q3, q4, q5, q6⟩ := q
  obtain ⟨b1, b2, b4, b6, b7, b8⟩ := na
  obtain ⟨d1, d2, d4, d6, d7, d8⟩ := ra
  have e0 : J 0 = I 0 := e 0 (by decide) (by decide) (by decide) (by decide) (by decide)
  have eA : AL (J, h.2) = AL h := (e 314 (by decide) (by decide) (by decide) (by decide) (by decide)).trans (q2 314 (by decide) (by decide))
  have eAI : AL (I, h.2) = AL h := q2 314 (by decide) (by decide)
  refine ⟨Inv.rows (h := (I, h.2)) q1 (fun b z1 z2 => e b (by omega) (by omega) (by omega) (by omega) (by omega)) (fun k _ _ => by rw [e0]) (Or.inr ⟨n, r, ?_, ?_, ?_, ?_, ?_⟩), eA, (e 1000000 (by decide) (by decide) (by decide) (by decide) (by decide)).trans (q2 1000000 (by decide) (by decide))⟩
  · show (J 0 13).toInt = _; rw [e0, q4]; exact b1
  · show (J 0 14).toInt = _; rw [e0, q5]; exact d1
  · rw [show AL (J, (I, h.2).2) = AL h from eA]
    rcases hI.night x1 with ⟨z1, _⟩ | ⟨n', z1, z2, z3, _⟩
    · exact absurd (z1.symm.trans b4) (fun y => by cases y)
    · omega
  · rw [show AL (J, (I, h.2).2) = AL h from eA]
    rcases hI.read x2 with ⟨z1, _⟩ | ⟨n', z1, z2, z3, _⟩
    · exact absurd (z1.symm.trans d4) (fun y => by cases y)
    · omega
  · rw [RWc (show AL (J, (I, h.2).2) = AL h from eA), RVc (show AL (J, (I, h.2).2) = AL h from eA)]; exact k
theorem pp_walks (l : Launch) (G : zG) : P_walks (KeptP TK (RKG FWq)) l G := fun x1 x2 x3 => by
  have xl := Int32.toInt_lt x3
  have e10 : (10 : Int) ≤ x3.toInt → (x3 - 10).toInt = x3.toInt - 10 := fun z => i_sub (by show _ ≤ x3.toInt - (10 : Int); omega) (by show x3.toInt - (10 : Int) < _; omega)
  refine Pair.rows KeptP.ok x1 x2 (-2) (walkA x3) (fun h hI c0 => ?_) (fun h n r hI na ra => ?_) (fun h hI c0 => ?_) (fun h n r hI na ra t1 t2 => ?_)
  · have cm := c_cmp0 l G h x1 x2 hI.1 c0
    refine kX10_walks 0 x1 x2 x3 (sX10_walks_0 0 x1 x2 x3 hI.1 (Nat.le_refl _) ⟨fun c1 => ⟨_, h.1, rfl, rfl, rfl, SameC.rf h⟩, fun b5 c2 => ⟨_, cm, fun y I ⟨z1, z2⟩ => ⟨fun c4 => absurd (z1.symm.trans c4) (fun z => by cases z), fun c12 => ⟨_, I, rfl, rfl, rfl, by rw [z2]; exact SameC.rf h⟩⟩⟩⟩)
  · have cm := c_cmp1 l G h x1 x2 n r hI na ra
    have d4 := ra.2.2.1
    have d6 := ra.2.2.2.1
    have d7 := ra.2.2.2.2.1
    have d8 := ra.2.2.2.2.2
    have ev := nR_ok d7
    have l150 := los_150 hI.1
    refine kX10_walks 0 x1 x2 x3 (sX10_walks_0 0 x1 x2 x3 hI.1 (Nat.le_refl _) ⟨fun c1 => absurd (d4.symm.trans c1) (fun z => by cases z), fun b5 c2 => ?_⟩)
    have e5 : b5 = 41 + 6 * r := (Option.some.inj (d4.symm.trans c2)).symm
    subst e5
    have r2 := ra.2.1
    refine ⟨_, cm, fun y13 I11 ⟨z1, z2⟩ => ⟨fun c4 => ⟨_, c_countFewest l G (I11, h.2) l150 d7 z2.2.2.2.2.2, fun I24 ⟨f1, f2, f3⟩ => ?_⟩, fun c12 => absurd (z1.symm.trans c12) (fun z => by cases z)⟩⟩
    have fin := rows_inv hI na ra z2 f1 ⟨f2, Or.inr f3⟩
    obtain ⟨g1, g2, g3⟩ := f3
    have ers : zI (I24, h.2) (41 + 6 * r) 0 = zI h (41 + 6 * r) 0 := by
      show I24 (41 + 6 * r) 0 = _
      rw [f1 _ (by omega) (by omega) (by omega) (by omega) (by omega)]
      show I11 (41 + 6 * r) 0 = _
      rw [z2.2.1 _ (by omega) (by omega)]; rfl
    have hs : zhs (I24, h.2) (41 + 6 * r) (x3 - 10) = decide (0 ≤ (x3 - 10).toInt ∧ (x3 - 10).toInt < RV h (1246 + 51 * r) 0) := by unfold zhs; rw [ers, d8.1]
    unfold walkA
    refine ⟨fun c6 => ⟨_, I24, rfl, rfl, ?_, fin⟩, fun c7 => ⟨fun c8 => ⟨_, I24, rfl, rfl, ?_, fin⟩, fun c9 => ⟨d6, fun c10 => ⟨_, I24, rfl, rfl, ?_, fin⟩, fun c11 => ⟨_, I24, rfl, rfl, ?_, fin⟩⟩⟩⟩
    · rw [if_pos c6]; exact n_ofn g1
    · rw [if_neg c7, if_pos c8]; exact n_ofn g2
    · have q := of_decide_eq_false (hs.symm.trans c10)
      rw [if_neg c7, if_neg c9, if_neg (fun z => q ?_)]
      have := e10 z.1
      omega
    · have q := of_decide_eq_true (hs.symm.trans c11)
      have x10 : (10 : Int) ≤ x3.toInt := Decidable.byContradiction fun z => by
        have lo := Int32.le_toInt x3
        have q1 := q.1
        by_cases w : -2147483648 ≤ x3.toInt - 10
        · have : (x3 - 10).toInt = x3.toInt - 10 := i_sub w (by show x3.toInt - (10 : Int) < _; omega)
          omega
        · have e : (x3 - 10).toInt = (x3.toInt - 10).bmod (2 ^ 32) := Int32.toInt_sub x3 10
          have hb : (x3.toInt - 10).bmod (2 ^ 32) = x3.toInt - 10 + 4294967296 := by
            rw [Int.bmod_def]
            omega
          omega
      have e := e10 x10
      obtain ⟨k, hk⟩ : ∃ k : Nat, (x3 - 10).toInt = (k : Int) := ⟨(x3 - 10).toInt.toNat, by omega⟩
      rw [if_neg c7, if_neg c9, if_pos ⟨x10, by omega⟩, show x3.toInt.toNat - 10 = k by omega]
      rw [show zget (I24, h.2) (some (0 + 153)) (x3 - 10) = zI (I24, h.2) 153 k from zget_w (h := (I24, h.2)) (n := 10) (lo4_w l150).2.2.1 hk (by omega)]
      exact g3 k (by omega)
  · refine kX11_walks 313 x1 x2 x3 (sX11_walks_0 313 x1 x2 x3 hI.2.1 (Nat.le_refl _) ⟨_, c_areRead0 l G hI x1 x2 c0, fun y6 I4 ⟨z1, z2⟩ => ⟨fun c2 => ⟨_, I4, rfl, rfl, rfl, z2⟩, fun c3 => absurd (z1.symm.trans c3) (fun z => by cases z)⟩⟩)
  · have b7 := na.2.2.2.2.1
    have d7 := ra.2.2.2.2.1
    have ev := nR_ok d7
    generalize hV : RW h (610 + 318 * n) = V at *
    generalize hR : RV h (1246 + 51 * r) = R at *
    have wl := wcL_lt (F := fF V R) ev.2 (show 1 ≤ 10 by decide)
    refine kX11_walks 313 x1 x2 x3 (sX11_walks_0 313 x1 x2 x3 hI.2.1 (Nat.le_refl _) ⟨_, c_areRead1 l G hI x1 x2 n r na ra t1 t2, fun y6 I4 ⟨z1, s, mm, h14, mr⟩ => ⟨fun c2 => absurd (z1.symm.trans c2) (fun z => by cases z), fun c3 => ?_⟩⟩)
    rw [hV] at mm
    rw [hR] at mr
    have sg4 : SgN (I4, h.2) (nR R) := ⟨mr.s0.1, by rw [mr.s0.2]; exact ev.1⟩
    have cmy := c_mays l G (I4, h.2) n r hI.2.1 b7 mm h14 d7 mr
    have ccn := fun (I : Nat → Nat → Int32) (a : NxF (I4, h.2) I) (my : MyK (I, h.2) (fF V R) noQ (nR R)) => c_counts (M := 10) l G (I, h.2) 10 hI.2.1 (NxF.sg (h := (I4, h.2)) a sg4) my ev.2 rfl (by decide) (by decide)
    have sgo := fun (I J : Nat → Nat → Int32) (a : NxF (I4, h.2) I) (c : CnF (I, h.2) J) => CnF.sg (h := (I, h.2)) c (NxF.sg (h := (I4, h.2)) a sg4)
    have smo := fun (I J : Nat → Nat → Int32) (a : NxF (I4, h.2) I) (c : CnF (I, h.2) J) => s.tr ((NxF.tr (h := (I4, h.2)) a (CnF.nx (h := (I, h.2)) c)).same)
    unfold walkA
    refine ⟨fun c4 => ⟨_, cmy, fun I21 ⟨a1, a2⟩ => ⟨_, ccn I21 a1 a2, fun I30 ⟨f1, f2⟩ => ⟨fun c7 => ?_, fun c9 => ⟨fun c10 => absurd c4 c10, fun c11 => ⟨_, c_least (F := fF V R) (Q := noQ) (M := 10) l G (I30, h.2) hI.2.1 (sgo I21 I30 a1 f1) ev.2 f2, fun y63 I61 ⟨w1, w2⟩ => ⟨y63, I61, rfl, rfl, ?_, by rw [w2]; exact smo I21 I30 a1 f1⟩⟩⟩⟩⟩⟩, fun c13 => ⟨fun c14 => ⟨_, cmy, fun I74 ⟨a1, a2⟩ => ⟨_, ccn I74 a1 a2, fun I83 ⟨f1, f2⟩ => ⟨fun c17 => ?_, fun c19 => ⟨fun c20 => ?_, fun c21 => absurd c21 c13⟩⟩⟩⟩, fun c23 => ⟨sg4.1, fun c24 => ⟨_, cmy, fun I134 ⟨a1, a2⟩ => ⟨_, ccn I134 a1 a2, fun I143 ⟨f1, f2⟩ => ⟨fun c27 => ?_, fun c29 => ?_⟩⟩⟩, fun c33 => ⟨_, I4, rfl, rfl, ?_, s⟩⟩⟩⟩
    · have : (2 : Int) ≤ x3.toInt := c7
      have := n_m0.mp c4
      omega
    · rw [if_pos (n_m0.mp c4)]; exact n_ofn w1
    · have : (2 : Int) ≤ x3.toInt := c17
      have e1 : x3.toInt = 1 := by rw [c14]; rfl
      omega
    · have sg := sgo I74 I83 a1 f1
      have e := full_ix sg ev.2
      have pn := p2_le ev.2
      refine ⟨sg.1, by rw [e]; exact Int.natCast_nonneg _, by rw [e]; show _ < (1024 : Int); omega, ⟨_, I83, rfl, rfl, ?_, smo I74 I83 a1 f1⟩⟩
      rw [if_neg (fun z => c13 (n_m0.mpr z)), if_pos (by rw [c14]; rfl), zix_of e]
      exact (f2 _ (full_lt _)).2
    · have e9 : (9 + zsigns (I4, h.2) 313).toInt = 9 + R 0 := by
        rw [i_add (by rw [sg4.2]; show _ ≤ (9 : Int) + _; omega) (by rw [sg4.2]; show (9 : Int) + _ < _; omega), sg4.2, ev.1]; rfl
      have q := (n3r (x := x3) (u := 10) (a := 10) rfl e9).1.mp c24
      have e := e10 q.1
      obtain ⟨k, hk⟩ : ∃ k : Nat, (x3 - 10).toInt = (k : Int) := ⟨(x3 - 10).toInt.toNat, by omega⟩
      refine ⟨_, c_nextOf (F := fF V R) l G (I143, h.2) k (x3 - 10) hI.2.1 (sgo I134 I143 a1 f1) (CnF.my (h := (I134, h.2)) f1 a2) ev.2 f2 hk (by omega), fun y158 I156 ⟨w1, w2⟩ => ⟨y158, I156, rfl, rfl, ?_, (smo I134 I143 a1 f1).tr (NxF.same (h := (I143, h.2)) w2)⟩⟩
      rw [if_neg (fun z => c13 (n_m0.mpr z)), if_neg (show ¬ x3.toInt = 1 from fun z => c23 (i_ext z)), if_pos ⟨q.1, by omega⟩, show x3.toInt.toNat - 10 = k by omega]
      exact w1
    · have e9 : (9 + zsigns (I4, h.2) 313).toInt = 9 + R 0 := by
        rw [i_add (by rw [sg4.2]; show _ ≤ (9 : Int) + _; omega) (by rw [sg4.2]; show (9 : Int) + _ < _; omega), sg4.2, ev.1]; rfl
      have q := (n3r (x := x3) (u := 10) (a := 10) rfl e9).1.mp c24
      have : x3.toInt < (2 : Int) := c29
      omega
    · have e9 : (9 + zsigns (I4, h.2) 313).toInt = 9 + R 0 := by
        rw [i_add (by rw [sg4.2]; show _ ≤ (9 : Int) + _; omega) (by rw [sg4.2]; show (9 : Int) + _ < _; omega), sg4.2, ev.1]; rfl
      have q := (n3r (x := x3) (u := 10) (a := 10) rfl e9).2.mp c33
      rw [if_neg (fun z => c13 (n_m0.mpr z)), if_neg (show ¬ x3.toInt = 1 from fun z => c23 (i_ext z)), if_neg (by omega)]
theorem pp_row (l : Launch) (G : zG) : P_row (KeptP TK (RKG FWq)) l G := fun x1 x2 x3 => by
  refine Pair.rows KeptP.ok x1 x2 (-2) (rowA x3) (fun h hI c0 => ?_) (fun h n r hI na ra => ?_) (fun h hI c0 => ?_) (fun h n r hI na ra t1 t2 => ?_)
  · have cm := c_cmp0 l G h x1 x2 hI.1 c0
    refine kX10_row 0 x1 x2 x3 (sX10_row_0 0 x1 x2 x3 hI.1 (Nat.le_refl _) ⟨fun c1 => ⟨_, h.1, rfl, rfl, rfl, SameC.rf h⟩, fun c2 => ⟨fun c3 => ⟨_, h.1, rfl, rfl, rfl, SameC.rf h⟩, fun c4 => ⟨_, cm, fun y I ⟨z1, z2⟩ => ⟨fun c6 => absurd (z1.symm.trans c6) (fun z => by cases z), fun c8 => ⟨_, I, rfl, rfl, rfl, by rw [z2]; exact SameC.rf h⟩⟩⟩⟩⟩)
  · have cm := c_cmp1 l G h x1 x2 n r hI na ra
    have d7 := ra.2.2.2.2.1
    have ev := nR_ok d7
    have l150 := los_150 hI.1
    unfold rowA
    refine kX10_row 0 x1 x2 x3 (sX10_row_0 0 x1 x2 x3 hI.1 (Nat.le_refl _) ⟨fun c1 => ⟨_, h.1, rfl, rfl, ?_, hI, rfl, rfl⟩, fun c2 => ⟨fun c3 => ⟨_, h.1, rfl, rfl, ?_, hI, rfl, rfl⟩, fun c4 => ⟨_, cm, fun y I ⟨z1, z2⟩ => ⟨fun c6 => ?_, fun c8 => absurd (z1.symm.trans c8) (fun z => by cases z)⟩⟩⟩⟩)
    · have c1' : x3.toInt < (1 : Int) := c1
      rw [if_neg (by omega)]
    · have c3' : (4 : Int) < x3.toInt := c3
      rw [if_neg (by omega)]
    · have c2' : (1 : Int) ≤ x3.toInt := c2
      have c4' : x3.toInt ≤ (4 : Int) := c4
      obtain ⟨k, hk⟩ : ∃ k : Nat, x3.toInt = (k : Int) := ⟨x3.toInt.toNat, by omega⟩
      refine ⟨_, c_fewestOf (M := k) l G (I, h.2) x3 true l150 d7 z2.2.2.2.2.2.1 hk (by omega) (by omega), fun y27 I25 ⟨w1, w2, _⟩ => ⟨y27, I25, rfl, rfl, ?_, ?_⟩⟩
      · rw [if_pos ⟨c2', c4'⟩, show x3.toInt.toNat = k by omega]; exact n_ofn w1
      · refine rows_inv hI na ra z2 (fun b q1 q2 q3 q4 q5 => w2.1 b q1 q3 q4 q5) ?_
        obtain ⟨y1, y2⟩ := z2.2.2.2.2.2
        rw [w2.1 151 (by decide) (by decide) (by decide) (by decide), w2.1 152 (by decide) (by decide) (by decide) (by decide), w2.1 153 (by decide) (by decide) (by decide) (by decide)]
        refine ⟨⟨by rw [w2.2 0 (by decide)]; exact y1.1, y1.2⟩, ?_⟩
        rw [w2.2 3 (by decide), w2.2 4 (by decide)]; exact y2
  · refine kX11_row 313 x1 x2 x3 (sX11_row_0 313 x1 x2 x3 hI.2.1 (Nat.le_refl _) ⟨_, c_areRead0 l G hI x1 x2 c0, fun y6 I4 ⟨z1, z2⟩ => ⟨fun c2 => ⟨_, I4, rfl, rfl, rfl, z2⟩, fun c3 => absurd (z1.symm.trans c3) (fun z => by cases z)⟩⟩)
  · have b7 := na.2.2.2.2.1
    have d7 := ra.2.2.2.2.1
    have ev := nR_ok d7
    generalize hV : RW h (610 + 318 * n) = V at *
    generalize hR : RV h (1246 + 51 * r) = R at *
    refine kX11_row 313 x1 x2 x3 (sX11_row_0 313 x1 x2 x3 hI.2.1 (Nat.le_refl _) ⟨_, c_areRead1 l G hI x1 x2 n r na ra t1 t2, fun y6 I4 ⟨z1, s, mm, h14, mr⟩ => ⟨fun c2 => absurd (z1.symm.trans c2) (fun z => by cases z), fun c3 => ?_⟩⟩)
    rw [hV] at mm
    rw [hR] at mr
    have sg4 : SgN (I4, h.2) (nR R) := ⟨mr.s0.1, by rw [mr.s0.2]; exact ev.1⟩
    have q := n3r (x := x3) (u := 1) (v := 4) (a := 1) (b := 4) rfl rfl
    unfold rowA
    refine ⟨fun c4 => ?_, fun c8 => ⟨_, I4, rfl, rfl, ?_, s⟩⟩
    · have z3 := q.1.mp c4
      obtain ⟨k, hk⟩ : ∃ k : Nat, x3.toInt = (k : Int) := ⟨x3.toInt.toNat, by omega⟩
      refine ⟨_, c_mays l G (I4, h.2) n r hI.2.1 b7 mm h14 d7 mr, fun I24 ⟨a1, a2⟩ => ⟨_, c_counts (M := k) l G (I24, h.2) x3 hI.2.1 (NxF.sg (h := (I4, h.2)) a1 sg4) a2 ev.2 hk (by omega) (by omega), fun I33 ⟨f1, f2⟩ => ⟨_, c_least (F := fF V R) (Q := noQ) (M := k) l G (I33, h.2) hI.2.1 (CnF.sg (h := (I24, h.2)) f1 (NxF.sg (h := (I4, h.2)) a1 sg4)) ev.2 f2, fun y44 I42 ⟨w1, w2⟩ => ⟨y44, I42, rfl, rfl, ?_, by rw [w2]; exact s.tr ((NxF.tr (h := (I4, h.2)) a1 (CnF.nx (h := (I24, h.2)) f1)).same)⟩⟩⟩⟩
      rw [if_pos z3, show x3.toInt.toNat = k by omega]; exact n_ofn w1
    · rw [if_neg (q.2.mp c8)]
end K9B
