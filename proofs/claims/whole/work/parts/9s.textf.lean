set_option maxRecDepth 4000
/-! ===== texts: lines of the reference: foot, carry, errand ===== -/
section K9S
variable {B : Nat → Int} {n : Nat}
def LnB (sort : Nat) (V : Nat → Int) : Prop := (sort = 0 → (0 ≤ V 3 ∧ V 3 ≤ 6) ∧ 0 ≤ V 4 ∧ V 4 ≤ 5) ∧ (sort = 1 → 0 ≤ V 0 ∧ V 0 ≤ 10)
def LnE (h : zH) (B : Nat → Int) (n q : Nat) (full : Bool) (s : Nat × Nat) : Prop := (lsT (tkO B n q) ≤ hdB B n q → MSq h B n false (pzB B n q (hdB B n q)) (fzB B n q (tkO B n q) full s (hdB B n q))) ∧ (hdB B n q < lsT (tkO B n q) → MSq h B n true 0 (1, tkW B n (pzB B n q (hdB B n q))))
theorem LMq.fin {h : zH} {q : Nat} {full : Bool} {s : Nat × Nat} (h4 : tkO B n q ≠ 4) (h12 : tkO B n q < 12) (L : LMq h B n q (tkO B n q) full s (lsT (tkO B n q))) : LnE h B n q full s := by
  have li := li_ls _ h12 h4
  have hd : hdB B n q ≤ liT (tkO B n q) := (czB_sp (B := B) (n := n) (q := q) (liT (tkO B n q))).1
  refine ⟨fun z => ?_, fun z => L.2 z⟩
  have e : hdB B n q = lsT (tkO B n q) := by omega
  have := L.1 z
  rw [e]; exact this
def LnX (h : zH) (B : Nat → Int) (n q : Nat) (full : Bool) (s : Nat × Nat) (V : Nat → Int) (I : Nat → Nat → Int32) (V' : Nat → Int) : Prop := lsT (tkO B n q) ≤ hdB B n q → (fzB B n q (tkO B n q) full s (hdB B n q)).1 = 0 → V' = (tlI (tkO B n q) (vzB B n q) (hdB B n q) V (zI h 313 9).toInt (zI h 313 10).toInt).1 ∧ (I 313 9).toInt = (tlI (tkO B n q) (vzB B n q) (hdB B n q) V (zI h 313 9).toInt (zI h 313 10).toInt).2.1 ∧ (I 313 10).toInt = (tlI (tkO B n q) (vzB B n q) (hdB B n q) V (zI h 313 9).toInt (zI h 313 10).toInt).2.2
def LnR (sort : Nat) (h : zH) (B : Nat → Int) (n q : Nat) (full : Bool) (s : Nat × Nat) (V : Nat → Int) (I : Nat → Nat → Int32) : Prop :=
  FrQ h I ∧ LnE (I, h.2) B n q full s ∧ ∃ V', RwM (I, h.2) V' ∧ LnB sort V' ∧ LnX h B n q full s V I V'
theorem lm_0 {h : zH} {q : Nat} {full : Bool} {s s' : Nat × Nat} (m : MSq h B n false (tkE B n q) s') (e : s' = if full = true then ntS s 3 (tkW B n q) else s) : LMq h B n q (tkO B n q) full s 0 := by
  refine ⟨fun _ => ?_, fun z => by omega⟩
  subst e; exact m
theorem fz_dn {q o : Nat} {full : Bool} {s : Nat × Nat} {i : Nat} : ∀ k, i ≤ k → (fzB B n q o full s k).1 = 0 → (fzB B n q o full s i).1 = 0
  | 0, h1, h2 => by
    have e : i = 0 := by omega
    rw [e]; exact h2
  | k + 1, h1, h2 => by
    by_cases z : i = k + 1
    · rw [z]; exact h2
    · refine fz_dn k (by omega) ?_
      unfold fzB at h2
      split at h2
      · exact absurd h2 (nt_ne (by decide))
      · split at h2
        · exact absurd h2 (nt_ne (by decide))
        · exact h2
theorem ix_33 {x : Int32} {P : Nat} (hx : x.toInt = (P : Int)) (hP : P < 6) : (120 + 33 * x).toInt = ((120 + 33 * P : Nat) : Int) := by
  have m : (33 * x).toInt = 33 * x.toInt := i_mul (by show _ ≤ (33 : Int) * x.toInt; omega) (by show (33 : Int) * x.toInt < _; omega)
  rw [i_add (by rw [m]; show _ ≤ (120 : Int) + _; omega) (by rw [m]; show (120 : Int) + _ < _; omega), m]
  show (120 : Int) + _ = _
  omega
theorem ix_3 {x : Int32} {P : Nat} (hx : x.toInt = (P : Int)) (hP : P < 6) : (105 + 3 * x).toInt = ((105 + 3 * P : Nat) : Int) := by
  have m : (3 * x).toInt = 3 * x.toInt := i_mul (by show _ ≤ (3 : Int) * x.toInt; omega) (by show (3 : Int) * x.toInt < _; omega)
  rw [i_add (by rw [m]; show _ ≤ (105 : Int) + _; omega) (by rw [m]; show (105 : Int) + _ < _; omega), m]
  show (105 : Int) + _ = _
  omega
theorem ix_5 {x : Int32} {P : Nat} (hx : x.toInt = (P : Int)) (hP : P < 11) : (1 + 5 * x).toInt = ((1 + 5 * P : Nat) : Int) := by
  have m : (5 * x).toInt = 5 * x.toInt := i_mul (by show _ ≤ (5 : Int) * x.toInt; omega) (by show (5 : Int) * x.toInt < _; omega)
  rw [i_add (by rw [m]; show _ ≤ (1 : Int) + _; omega) (by rw [m]; show (1 : Int) + _ < _; omega), m]
  show (1 : Int) + _ = _
  omega
theorem ix_c {x c : Int32} {k j : Nat} (hx : x.toInt = (k : Int)) (hc : c.toInt = (j : Int)) (hk : k < 1000) (hj : j < 1000) : (x + c).toInt = ((k + j : Nat) : Int) := by
  rw [i_add (by omega) (by omega)]; omega
theorem wr_ix {h : zH} {I : Nat → Nat → Int32} {x v : Int32} {k : Nat} (e : I = (zwI h 316 (zix x) v).1) (hx : x.toInt = (k : Int)) : WrI h I 316 k v := by
  have := zwI_eff e
  rw [zix_of hx] at this; exact this
theorem c_footLine (l : Launch) (G : zG) (h : zH) (q : Nat) (s : Nat × Nat) (V : Nat → Int) (x1 : Int32) (hl : lo11 h 313) (t : TpM h B n) (k0 : tkK B n q ≠ 0) (hs : s.1 ≠ 0 → s.2 < tkW B n q) (eo : tkO B n q = 3) (hx1 : x1.toInt = (tkW B n q : Int)) (m : MSq h B n false (tkE B n q) s) (rw_ : RwM h V) (bd : LnB 0 V) :
    CTv l G YX11_footLine 6 [va_rf (some 313), .int x1] h (fun I => LnR 0 h B n q (fulT 3 V) s V I) := by
  have n4 : ∀ i, ¬ (tkO B n q = 4 ∧ i = 27) := fun i z => by omega
  have n5 : ∀ i, ¬ (tkO B n q = 5 ∧ i = 1) := fun i z => by omega
  have hli : liT (tkO B n q) = 4 := by rw [eo]; rfl
  have hls : lsT (tkO B n q) = 4 := by rw [eo]; rfl
  have b3 := (bd.1 rfl).1
  have num := fun (g : zH) (hg : lo11 g 313) (tg : TpM g B n) (full : Bool) (i : Nat) (hi : i < 4) (x1 x2 : Int32) (h1 : x1.toInt = loT 3 i) (h2 : x2.toInt = hiT 3 i) (h3 : loT 3 i ≤ hiT 3 i) (L : LMq g B n q (tkO B n q) full s i) => c_num l G g q i full s x1 x2 hg tg k0 hs (by rw [hli]; exact hi) (n4 i) (n5 i) (by rw [eo]; exact h1) (by rw [eo]; exact h2) (by rw [eo]; exact h3) L
  have e3 : (zI h (313 + 3) (zix (3 : Int32))).toInt = V 3 := rw_ 3 (by decide)
  refine kX11_footLine 313 x1 (sX11_footLine_0 313 x1 hl (Nat.le_refl _) ⟨fun c1 => ?_, fun c7 => ?_⟩)
  · have ff : fulT 3 V = true := decide_eq_true (Or.inl ⟨rfl, by rw [← e3]; exact c1⟩)
    rw [ff]
    refine ⟨_, c_also l G h s 3 (tkW B n q) (tkE B n q) false 3 x1 hl rfl (by decide) hx1 m, fun I10 c2 => ?_⟩
    obtain ⟨u1, u2⟩ := c2
    rw [if_neg Bool.false_ne_true, al_nt (fun z => Or.inl (hs z))] at u2
    have L0 : LMq (I10, h.2) B n q (tkO B n q) true s 0 := lm_0 u2 rfl
    refine ⟨_, num (I10, h.2) hl (u1.tp t) true 0 (by decide) 0 5 rfl rfl (by decide) L0, fun y21 I19 c3 => ⟨_, num (I19, h.2) hl (c3.1.tp (u1.tp t)) true 1 (by decide) 1 3 rfl rfl (by decide) c3.2.1, fun y30 I28 c4 => ⟨_, num (I28, h.2) hl (c4.1.tp (c3.1.tp (u1.tp t))) true 2 (by decide) 1 9 rfl rfl (by decide) c4.2.1, fun y39 I37 c5 => ⟨_, num (I37, h.2) hl (c5.1.tp (c4.1.tp (c3.1.tp (u1.tp t)))) true 3 (by decide) 0 2 rfl rfl (by decide) c5.2.1, fun y48 I46 c6 => ⟨I46, rfl, rfl, ?_⟩⟩⟩⟩⟩
    have f : FrN h I46 := (((u1.tr c3.1).tr c4.1).tr c5.1).tr c6.1
    refine ⟨f.q, LMq.fin (by omega) (by omega) (by rw [hls]; exact c6.2.1), V, rw_.kp (f.1 316 (by decide) (by decide)), bd, fun z1 z2 => ?_⟩
    have := (fz_0 _ z2).2.1
    cases this
  · have ff : fulT 3 V = false := decide_eq_false (fun z => by
      rcases z with z | z | z
      · have := z.2; omega
      · exact absurd z.1 (by decide)
      · exact absurd z.1 (by decide))
    rw [ff]
    obtain ⟨P, hV, eP⟩ : ∃ P : Nat, V 3 = (P : Int) ∧ (V 3).toNat = P := ⟨(V 3).toNat, by omega, rfl⟩
    have hP : P < 6 := by omega
    have L0 : LMq h B n q (tkO B n q) false s 0 := lm_0 m rfl
    refine ⟨_, num h hl t false 0 (by decide) 0 5 rfl rfl (by decide) L0, fun y59 I57 c8 => ⟨_, num (I57, h.2) hl (c8.1.tp t) false 1 (by decide) 1 3 rfl rfl (by decide) c8.2.1, fun y68 I66 c9 => ⟨_, num (I66, h.2) hl (c9.1.tp (c8.1.tp t)) false 2 (by decide) 1 9 rfl rfl (by decide) c9.2.1, fun y77 I75 c10 => ⟨_, num (I75, h.2) hl (c10.1.tp (c9.1.tp (c8.1.tp t))) false 3 (by decide) 0 2 rfl rfl (by decide) c10.2.1, fun y86 I84 c11 => ?_⟩⟩⟩⟩
    have f : FrN h I84 := ((c8.1.tr c9.1).tr c10.1).tr c11.1
    have r0 : RwM (I84, h.2) V := rw_.kp (f.1 316 (by decide) (by decide))
    have ep : (zI (I84, h.2) (313 + 3) (zix (3 : Int32))).toInt = (P : Int) := (r0 3 (by decide)).trans hV
    have i33 := ix_33 ep hP
    have j0 := ix_c (c := 0) (j := 0) i33 rfl (by omega) (by decide)
    have j1 := ix_c (c := 1) (j := 1) i33 rfl (by omega) (by decide)
    have j2 := ix_c (c := 2) (j := 2) i33 rfl (by omega) (by decide)
    have j3 := ix_c (c := 3) (j := 3) i33 rfl (by omega) (by decide)
    refine ⟨by omega, by omega, fun I93 c12 => ⟨by omega, by omega, fun I97 c13 => ⟨by omega, by omega, fun I101 c14 => ⟨by omega, by omega, fun I105 c15 I110 c16 => ⟨I110, rfl, rfl, ?_⟩⟩⟩⟩⟩
    have d1 : WrI (I84, h.2) I93 316 (120 + 33 * P + 0) y59 := wr_ix c12 j0
    have d2 : WrI (I93, h.2) I97 316 (120 + 33 * P + 1) y68 := wr_ix c13 j1
    have d3 : WrI (I97, h.2) I101 316 (120 + 33 * P + 2) y77 := wr_ix c14 j2
    have d4 : WrI (I101, h.2) I105 316 (120 + 33 * P + 3) y86 := wr_ix c15 j3
    have r1 := r0.wr d1 rfl
    have r2 := r1.wr d2 rfl
    have r3 := r2.wr d3 rfl
    have r4 := r3.wr d4 rfl
    have e105 : (zI (I105, h.2) 316 3).toInt = (P : Int) := by
      rw [r4 3 (by decide), upI_ne (by omega), upI_ne (by omega), upI_ne (by omega), upI_ne (by omega)]; exact hV
    have d5 : WrI (I105, h.2) I110 316 3 (zI (I105, h.2) 316 3 + 1) := zwI_eff c16
    have r5 := r4.wr d5 (x := V 3 + 1) (by rw [i_1 e105 (by omega), hV]; omega)
    have f5 : FrQ h I110 := ((((f.q.w16 d1).w16 d2).w16 d3).w16 d4).w16 d5
    have o : ∀ b, b ≠ 316 → I110 b = I84 b := fun b z => (d5.f z).trans ((d4.f z).trans ((d3.f z).trans ((d2.f z).trans (d1.f z))))
    have L4 : LMq (I110, h.2) B n q (tkO B n q) false s 4 := LMq.kp (h := (I84, h.2)) c11.2.1 (fun k _ => congrFun (o 313 (by decide)) k) (o 314 (by decide))
    refine ⟨f5, LMq.fin (by omega) (by omega) (by rw [hls]; exact L4), _, r5, ⟨fun _ => ⟨?_, ?_⟩, fun z => absurd z (by decide)⟩, fun z1 z2 => ?_⟩
    · rw [upI_at]; omega
    · rw [upI_ne (by decide), upI_ne (by omega), upI_ne (by omega), upI_ne (by omega), upI_ne (by omega)]; exact (bd.1 rfl).2
    · have hd4 : hdB B n q = 4 := Nat.le_antisymm (by have : hdB B n q ≤ liT (tkO B n q) := (czB_sp (B := B) (n := n) (q := q) (liT (tkO B n q))).1; omega) (by omega)
      have v0 := c8.2.2.2 (by omega) (fz_dn _ (by omega) z2)
      have v1 := c9.2.2.2 (by omega) (fz_dn _ (by omega) z2)
      have v2 := c10.2.2.2 (by omega) (fz_dn _ (by omega) z2)
      have v3 := c11.2.2.2 (by omega) (fz_dn _ (by omega) z2)
      rw [eo, tl_3, eP, sdI_s, sdI_s, sdI_s, sdI_s, sdI_0, v0, v1, v2, v3]
      refine ⟨rfl, ?_, ?_⟩
      · rw [o 313 (by decide)]
        have : I84 313 9 = h.1 313 9 := f.2.1 9 (by decide)
        rw [this]; rfl
      · rw [o 313 (by decide)]
        have : I84 313 10 = h.1 313 10 := f.2.1 10 (by decide)
        rw [this]; rfl
theorem c_errandLine (l : Launch) (G : zG) (h : zH) (q : Nat) (s : Nat × Nat) (V : Nat → Int) (x1 : Int32) (hl : lo11 h 313) (t : TpM h B n) (k0 : tkK B n q ≠ 0) (hs : s.1 ≠ 0 → s.2 < tkW B n q) (eo : tkO B n q = 10) (hx1 : x1.toInt = (tkW B n q : Int)) (m : MSq h B n false (tkE B n q) s) (rw_ : RwM h V) (bd : LnB 0 V) :
    CTv l G YX11_errandLine 7 [va_rf (some 313), .int x1] h (fun I => LnR 0 h B n q (fulT 10 V) s V I) := by
  have n4 : ∀ i, ¬ (tkO B n q = 4 ∧ i = 27) := fun i z => by omega
  have n5 : ∀ i, ¬ (tkO B n q = 5 ∧ i = 1) := fun i z => by omega
  have hli : liT (tkO B n q) = 3 := by rw [eo]; rfl
  have hls : lsT (tkO B n q) = 3 := by rw [eo]; rfl
  have b4 := (bd.1 rfl).2
  have l0 : loT (tkO B n q) 0 = 0 ∧ hiT (tkO B n q) 0 = 5 := by rw [eo]; exact ⟨rfl, rfl⟩
  have l1 : loT (tkO B n q) 1 = 0 ∧ hiT (tkO B n q) 1 = 63 := by rw [eo]; exact ⟨rfl, rfl⟩
  have l2 : loT (tkO B n q) 2 = 0 ∧ hiT (tkO B n q) 2 = 63 := by rw [eo]; exact ⟨rfl, rfl⟩
  have who := fun (g : zH) (hg : lo11 g 313) (tg : TpM g B n) (full : Bool) (L : LMq g B n q (tkO B n q) full s 0) => c_whoL l G g q 0 full s hg tg k0 hs (by omega) (n4 0) (n5 0) l0.1 l0.2 L
  have cel1 := fun (g : zH) (hg : lo11 g 313) (tg : TpM g B n) (full : Bool) (L : LMq g B n q (tkO B n q) full s 1) => c_cellL l G g q 1 full s hg tg k0 hs (by omega) (n4 1) (n5 1) l1.1 l1.2 L
  have cel2 := fun (g : zH) (hg : lo11 g 313) (tg : TpM g B n) (full : Bool) (L : LMq g B n q (tkO B n q) full s 2) => c_cellL l G g q 2 full s hg tg k0 hs (by omega) (n4 2) (n5 2) l2.1 l2.2 L
  have e4 : (zI h (313 + 3) (zix (4 : Int32))).toInt = V 4 := rw_ 4 (by decide)
  refine kX11_errandLine 313 x1 (sX11_errandLine_0 313 x1 hl (Nat.le_refl _) ⟨fun c1 => ?_, fun c6 => ?_⟩)
  · have ff : fulT 10 V = true := decide_eq_true (Or.inr (Or.inl ⟨rfl, by rw [← e4]; exact c1⟩))
    rw [ff]
    refine ⟨_, c_also l G h s 3 (tkW B n q) (tkE B n q) false 3 x1 hl rfl (by decide) hx1 m, fun I10 c2 => ?_⟩
    obtain ⟨u1, u2⟩ := c2
    rw [if_neg Bool.false_ne_true, al_nt (fun z => Or.inl (hs z))] at u2
    have L0 : LMq (I10, h.2) B n q (tkO B n q) true s 0 := lm_0 u2 rfl
    refine ⟨_, who (I10, h.2) hl (u1.tp t) true L0, fun y21 I19 c3 => ⟨_, cel1 (I19, h.2) hl (c3.1.tp (u1.tp t)) true c3.2.1, fun y30 I28 c4 => ⟨_, cel2 (I28, h.2) hl (c4.1.tp (c3.1.tp (u1.tp t))) true c4.2.1, fun y39 I37 c5 => ⟨I37, rfl, rfl, ?_⟩⟩⟩⟩
    have f : FrQ h I37 := ((u1.q.tr c3.1).tr c4.1).tr c5.1
    have e16 : I37 316 = h.1 316 := c5.2.2.2.2.1.trans (c4.2.2.2.2.1.trans (c3.2.2.2.2.1.trans (u1.1 316 (by decide) (by decide))))
    refine ⟨f, LMq.fin (by omega) (by omega) (by rw [hls]; exact c5.2.1), V, rw_.kp e16, bd, fun z1 z2 => ?_⟩
    have := (fz_0 _ z2).2.1
    cases this
  · have ff : fulT 10 V = false := decide_eq_false (fun z => by
      rcases z with z | z | z
      · exact absurd z.1 (by decide)
      · have := z.2; omega
      · exact absurd z.1 (by decide))
    rw [ff]
    obtain ⟨P, hV, eP⟩ : ∃ P : Nat, V 4 = (P : Int) ∧ (V 4).toNat = P := ⟨(V 4).toNat, by omega, rfl⟩
    have hP : P < 5 := by omega
    have L0 : LMq h B n q (tkO B n q) false s 0 := lm_0 m rfl
    refine ⟨_, who h hl t false L0, fun y50 I48 c7 => ⟨_, cel1 (I48, h.2) hl (c7.1.tp t) false c7.2.1, fun y59 I57 c8 => ⟨_, cel2 (I57, h.2) hl (c8.1.tp (c7.1.tp t)) false c8.2.1, fun y68 I66 c9 => ?_⟩⟩⟩
    have f : FrQ h I66 := (c7.1.tr c8.1).tr c9.1
    have r0 : RwM (I66, h.2) V := rw_.kp (c9.2.2.2.2.1.trans (c8.2.2.2.2.1.trans c7.2.2.2.2.1))
    have ep : (zI (I66, h.2) (313 + 3) (zix (4 : Int32))).toInt = (P : Int) := (r0 4 (by decide)).trans hV
    have j0 := ix_3 ep (by omega)
    have j1 := ix_c (c := 1) (j := 1) j0 rfl (by omega) (by decide)
    have j2 := ix_c (c := 2) (j := 2) j0 rfl (by omega) (by decide)
    refine ⟨by omega, by omega, fun I75 c10 => ⟨by omega, by omega, fun I79 c11 => ⟨by omega, by omega, fun I83 c12 I88 c13 => ⟨I88, rfl, rfl, ?_⟩⟩⟩⟩
    have d1 : WrI (I66, h.2) I75 316 (105 + 3 * P) y50 := wr_ix c10 j0
    have d2 : WrI (I75, h.2) I79 316 (105 + 3 * P + 1) y59 := wr_ix c11 j1
    have d3 : WrI (I79, h.2) I83 316 (105 + 3 * P + 2) y68 := wr_ix c12 j2
    have r1 := r0.wr d1 rfl
    have r2 := r1.wr d2 rfl
    have r3 := r2.wr d3 rfl
    have e83 : (zI (I83, h.2) 316 4).toInt = (P : Int) := by
      rw [r3 4 (by decide), upI_ne (by omega), upI_ne (by omega), upI_ne (by omega)]; exact hV
    have d5 : WrI (I83, h.2) I88 316 4 (zI (I83, h.2) 316 4 + 1) := zwI_eff c13
    have r5 := r3.wr d5 (x := V 4 + 1) (by rw [i_1 e83 (by omega), hV]; omega)
    have f5 : FrQ h I88 := (((f.w16 d1).w16 d2).w16 d3).w16 d5
    have o : ∀ b, b ≠ 316 → I88 b = I66 b := fun b z => (d5.f z).trans ((d3.f z).trans ((d2.f z).trans (d1.f z)))
    have L4 : LMq (I88, h.2) B n q (tkO B n q) false s 3 := LMq.kp (h := (I66, h.2)) c9.2.1 (fun k _ => congrFun (o 313 (by decide)) k) (o 314 (by decide))
    refine ⟨f5, LMq.fin (by omega) (by omega) (by rw [hls]; exact L4), _, r5, ⟨fun _ => ⟨?_, ?_⟩, fun z => absurd z (by decide)⟩, fun z1 z2 => ?_⟩
    · rw [upI_ne (by decide), upI_ne (by omega), upI_ne (by omega), upI_ne (by omega)]; exact (bd.1 rfl).1
    · rw [upI_at]; omega
    · have hd4 : hdB B n q = 3 := Nat.le_antisymm (by have : hdB B n q ≤ liT (tkO B n q) := (czB_sp (B := B) (n := n) (q := q) (liT (tkO B n q))).1; omega) (by omega)
      have v0 := c7.2.2.2.1 (by omega) (fz_dn _ (by omega) z2)
      have v1 := c8.2.2.2.1 (by omega) (fz_dn _ (by omega) z2)
      have v2 := c9.2.2.2.1 (by omega) (fz_dn _ (by omega) z2)
      rw [eo, tl_10, eP, sdI_s, sdI_s, sdI_s, sdI_0, v0, v1, v2]
      refine ⟨rfl, ?_, ?_⟩
      · rw [o 313 (by decide), c9.2.2.2.2.2.2]
        show (I57 313 9).toInt = _
        rw [c8.2.2.2.2.2.2]
        show (I48 313 9).toInt = _
        rw [c7.2.2.2.2.2.1, v0]
      · rw [o 313 (by decide), c9.2.2.2.2.2.1]
        show mxZ (I57 313 10).toInt _ = _
        rw [c8.2.2.2.2.2.1]
        show mxZ (mxZ (I48 313 10).toInt _) _ = _
        rw [c7.2.2.2.2.2.2, v1, v2]
        show mxZ (mxZ (zI h 313 10).toInt _) _ = mxZ (zI h 313 10).toInt (mxZ _ _)
        generalize (zI h 313 10).toInt = a
        generalize vzB B n q 1 = b
        generalize vzB B n q 2 = c
        unfold mxZ
        by_cases z1 : a < b
        · rw [if_pos z1]
          by_cases z2 : b < c
          · rw [if_pos z2, if_pos (by omega)]
          · rw [if_neg z2, if_pos z1]
        · rw [if_neg z1]
          by_cases z2 : b < c
          · rw [if_pos z2]
          · rw [if_neg z2, if_neg z1, if_neg (by omega)]
end K9S
