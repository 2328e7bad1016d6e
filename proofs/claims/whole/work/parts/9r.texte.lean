set_option maxRecDepth 4000
/-! ===== texts: the reference, number by number ===== -/
section K9R
variable {B : Nat → Int} {n : Nat}
def FrQ (h : zH) (I : Nat → Nat → Int32) : Prop := (∀ b, b ≠ 313 → b ≠ 314 → b ≠ 316 → I b = h.1 b) ∧ (∀ k, (k < 3 ∨ 10 < k) → I 313 k = h.1 313 k) ∧ ∀ k, k ≠ 3 → k ≠ 4 → I 314 k = h.1 314 k
theorem FrQ.rf (h : zH) : FrQ h h.1 := ⟨fun _ _ _ _ => rfl, fun _ _ => rfl, fun _ _ _ => rfl⟩
theorem FrQ.tr {h : zH} {I J : Nat → Nat → Int32} (a : FrQ h I) (c : FrQ (I, h.2) J) : FrQ h J := ⟨fun b z1 z2 z3 => (c.1 b z1 z2 z3).trans (a.1 b z1 z2 z3), fun k z => (c.2.1 k z).trans (a.2.1 k z), fun k z1 z2 => (c.2.2 k z1 z2).trans (a.2.2 k z1 z2)⟩
theorem FrN.q {h : zH} {I : Nat → Nat → Int32} (f : FrN h I) : FrQ h I := ⟨fun b z1 z2 _ => f.1 b z1 z2, fun k z => f.2.1 k (by omega), f.2.2⟩
theorem FrQ.tp {h : zH} {I : Nat → Nat → Int32} (f : FrQ h I) (t : TpM h B n) : TpM (I, h.2) B n := ⟨by show (I 313 2).toInt = _; rw [f.2.1 2 (by decide)]; exact t.1, fun i hi => by show (I 314 (10 + i)).toInt = _ ∧ _; rw [f.2.2 (10 + i) (by omega) (by omega)]; exact t.2.1 i hi, t.2.2⟩
theorem FrQ.w16 {h : zH} {I J : Nat → Nat → Int32} {k0 : Nat} {y : Int32} (a : FrQ h I) (e : WrI (I, h.2) J 316 k0 y) : FrQ h J := a.tr ⟨fun b _ _ z => e.f z, fun k _ => congrFun (e.f (by decide)) k, fun k _ _ => congrFun (e.f (by decide)) k⟩
def RwM (h : zH) (V : Nat → Int) : Prop := ∀ w, w < 318 → (zI h 316 w).toInt = V w
theorem RwM.wr {h : zH} {I : Nat → Nat → Int32} {V : Nat → Int} {w0 : Nat} {y : Int32} {x : Int} (a : RwM h V) (e : WrI h I 316 w0 y) (hy : y.toInt = x) : RwM (I, h.2) (upI V w0 x) := fun w hw => by
  show (I 316 w).toInt = _
  by_cases z : w = w0
  · rw [z, e.2.2, upI_at]; exact hy
  · rw [e.2.1 w z, upI_ne z]; exact a w hw
theorem RwM.kp {h : zH} {I : Nat → Nat → Int32} {V : Nat → Int} (a : RwM h V) (e : I 316 = h.1 316) : RwM (I, h.2) V := fun w hw => by
  show (I 316 w).toInt = _
  rw [e]; exact a w hw
theorem MSq.kp {h : zH} {I : Nat → Nat → Int32} {w : Bool} {q : Nat} {s : Nat × Nat} (m : MSq h B n w q s) (e3 : ∀ k, k < 9 → I 313 k = h.1 313 k) (e4 : I 314 = h.1 314) : MSq (I, h.2) B n w q s := by
  obtain ⟨f, m1, m2⟩ := m
  refine ⟨f.kp (congrFun e4 3) (congrFun e4 4), fun z => ?_, fun z => ?_⟩
  · obtain ⟨a, b, c⟩ := m1 z
    refine ⟨(e3 8 (by decide)).trans a, b, ?_⟩
    unfold MTk
    show (I 313 4).toInt = _ ∧ (I 313 3).toInt = _ ∧ (I 313 5).toInt = _ ∧ (_ → (I 313 6).toInt = _) ∧ (_ → (I 313 7).toInt = _)
    rw [e3 3 (by decide), e3 4 (by decide), e3 5 (by decide), e3 6 (by decide), e3 7 (by decide)]
    exact c
  · exact (e3 8 (by decide)).trans (m2 z)
theorem MSq.tt {h : zH} {q q' : Nat} {s : Nat × Nat} (m : MSq h B n true q s) : MSq h B n true q' s := ⟨m.1, fun z => (by cases z), m.2.2⟩
theorem NmP.kp {h : zH} {I J : Nat → Nat → Int32} {w : Bool} {q : Nat} {s : Nat × Nat} {lo hi : Int} {y : Int32} (m : NmP h B n w q s lo hi y I) (e3 : ∀ k, k < 9 → J 313 k = I 313 k) (e4 : J 314 = I 314) : NmP h B n w q s lo hi y J := ⟨m.1, fun z => ⟨MSq.kp (h := (I, h.2)) (m.2.1 z).1 e3 e4, (m.2.1 z).2⟩, fun z => MSq.kp (h := (I, h.2)) (m.2.2 z) e3 e4⟩
theorem c_who (l : Launch) (G : zG) (h : zH) (s : Nat × Nat) (q : Nat) (w : Bool) (hl : lo11 h 313) (t : TpM h B n) (m : MSq h B n w q s) :
    CTi l G YX11_who 6 [va_rf (some 313)] h (fun y I => FrQ h I ∧ NmP h B n w q s 0 5 y I ∧ I 316 = h.1 316 ∧ (I 313 9).toInt = mxZ (zI h 313 9).toInt y.toInt ∧ I 313 10 = h.1 313 10) := by
  refine kX11_who 313 (sX11_who_0 313 hl (Nat.le_refl _) ⟨_, c_numbered l G h s q w 0 5 0 5 hl t rfl rfl (by decide) m, fun y6 I4 c1 => ?_⟩)
  obtain ⟨u1, u2⟩ := c1
  have e9 : I4 313 9 = h.1 313 9 := u1.2.1 9 (by decide)
  have go : ∀ (K : Nat → Nat → Int32) (v : Int32), WrI (I4, h.2) K 313 9 v → v.toInt = mxZ (zI h 313 9).toInt y6.toInt → FrQ h K ∧ NmP h B n w q s 0 5 y6 K ∧ K 316 = h.1 316 ∧ (K 313 9).toInt = mxZ (zI h 313 9).toInt y6.toInt ∧ K 313 10 = h.1 313 10 := fun K v d e =>
    ⟨u1.q.tr ⟨fun b z _ _ => d.f z, fun k z => d.2.1 k (by omega), fun k _ _ => congrFun (d.f (by decide)) k⟩, u2.kp (fun k hk => d.2.1 k (by omega)) (d.f (by decide)), (d.f (by decide)).trans (u1.1 316 (by decide) (by decide)), by rw [d.2.2]; exact e, (d.2.1 10 (by decide)).trans (u1.2.1 10 (by decide))⟩
  have e9' : (zI (I4, h.2) 313 9).toInt = (zI h 313 9).toInt := by show (I4 313 9).toInt = _; rw [e9]; rfl
  refine ⟨fun c2 I14 c3 => ⟨y6, I14, rfl, rfl, go I14 _ (zwI_eff c3) ?_⟩, fun c4 I17 c5 => ⟨y6, I17, rfl, rfl, go I17 _ (zwI_eff c5) ?_⟩⟩
  · unfold mxZ
    rw [if_neg (by omega)]; exact e9'
  · unfold mxZ
    rw [if_pos (by omega)]
theorem c_cellTold (l : Launch) (G : zG) (h : zH) (s : Nat × Nat) (q : Nat) (w : Bool) (hl : lo11 h 313) (t : TpM h B n) (m : MSq h B n w q s) :
    CTi l G YX11_cellTold 6 [va_rf (some 313)] h (fun y I => FrQ h I ∧ NmP h B n w q s 0 63 y I ∧ I 316 = h.1 316 ∧ (I 313 10).toInt = mxZ (zI h 313 10).toInt y.toInt ∧ I 313 9 = h.1 313 9) := by
  refine kX11_cellTold 313 (sX11_cellTold_0 313 hl (Nat.le_refl _) ⟨_, c_numbered l G h s q w 0 63 0 63 hl t rfl rfl (by decide) m, fun y6 I4 c1 => ?_⟩)
  obtain ⟨u1, u2⟩ := c1
  have e9 : I4 313 10 = h.1 313 10 := u1.2.1 10 (by decide)
  have go : ∀ (K : Nat → Nat → Int32) (v : Int32), WrI (I4, h.2) K 313 10 v → v.toInt = mxZ (zI h 313 10).toInt y6.toInt → FrQ h K ∧ NmP h B n w q s 0 63 y6 K ∧ K 316 = h.1 316 ∧ (K 313 10).toInt = mxZ (zI h 313 10).toInt y6.toInt ∧ K 313 9 = h.1 313 9 := fun K v d e =>
    ⟨u1.q.tr ⟨fun b z _ _ => d.f z, fun k z => d.2.1 k (by omega), fun k _ _ => congrFun (d.f (by decide)) k⟩, u2.kp (fun k hk => d.2.1 k (by omega)) (d.f (by decide)), (d.f (by decide)).trans (u1.1 316 (by decide) (by decide)), by rw [d.2.2]; exact e, (d.2.1 9 (by decide)).trans (u1.2.1 9 (by decide))⟩
  have e9' : (zI (I4, h.2) 313 10).toInt = (zI h 313 10).toInt := by show (I4 313 10).toInt = _; rw [e9]; rfl
  refine ⟨fun c2 I14 c3 => ⟨y6, I14, rfl, rfl, go I14 _ (zwI_eff c3) ?_⟩, fun c4 I17 c5 => ⟨y6, I17, rfl, rfl, go I17 _ (zwI_eff c5) ?_⟩⟩
  · unfold mxZ
    rw [if_neg (by omega)]; exact e9'
  · unfold mxZ
    rw [if_pos (by omega)]
theorem c_takes (l : Launch) (G : zG) (h : zH) (s : Nat × Nat) (q : Nat) (f1 f2 : Nat) (x1 x2 : Int32) (hl : lo11 h 313) (t : TpM h B n) (h1 : x1.toInt = (f1 : Int)) (h2 : x2.toInt = (f2 : Int)) (m : MSq h B n false q s) :
    CTi l G YX11_takes 5 [va_rf (some 313), .int x1, .int x2] h (fun y I => FrN h I ∧ (tkK B n q = 3 ∧ f1 ≤ tkO B n q ∧ tkO B n q ≤ f2 → y.toInt = (tkO B n q : Int) ∧ MSq (I, h.2) B n false (tkE B n q) s) ∧ (¬ (tkK B n q = 3 ∧ f1 ≤ tkO B n q ∧ tkO B n q ≤ f2) → y = 0 ∧ MSq (I, h.2) B n true q (1, tkW B n q))) := by
  obtain ⟨a, b, c⟩ := m.2.1 rfl
  have e5 : (zI h 313 5).toInt = (tkK B n q : Int) := c.2.2.1
  have k3 : zI h 313 5 = 3 ↔ tkK B n q = 3 := ⟨fun z => by
    rw [z] at e5
    have : (3 : Int) = (tkK B n q : Int) := e5
    omega, fun z => i_ext (by rw [e5, z]; rfl)⟩
  have bad : ¬ (tkK B n q = 3 ∧ f1 ≤ tkO B n q ∧ tkO B n q ≤ f2) → (∃ P5, CTv l G YX11_ends 1 [va_rf (some 313)] h P5 ∧ ∀ (I8 : Nat → Nat → Int32), P5 I8 → (∃ x I1, (some (.int 0) : Option Value) = some (.int x) ∧ (I8, h.2) = (I1, h.2) ∧ (FrN h I1 ∧ (tkK B n q = 3 ∧ f1 ≤ tkO B n q ∧ tkO B n q ≤ f2 → x.toInt = (tkO B n q : Int) ∧ MSq (I1, h.2) B n false (tkE B n q) s) ∧ (¬ (tkK B n q = 3 ∧ f1 ≤ tkO B n q ∧ tkO B n q ≤ f2) → x = 0 ∧ MSq (I1, h.2) B n true q (1, tkW B n q))))) := fun ne =>
    ⟨_, c_ends l G h s q false hl m, fun I8 e => ⟨0, I8, rfl, rfl, e.1, fun z => absurd z ne, fun _ => ⟨rfl, by have := e.2; rw [if_neg Bool.false_ne_true] at this; exact this⟩⟩⟩
  refine kX11_takes 313 x1 x2 (sX11_takes_0 313 x1 x2 hl (Nat.le_refl _) ⟨fun c1 => absurd a c1, fun c3 => ⟨fun c4 => bad (fun z => c4 (k3.mpr z.1)), fun c6 => ?_⟩⟩)
  have kk := k3.mp c6
  have eo : (zI h 313 7).toInt = (tkO B n q : Int) := c.2.2.2.2 kk
  refine ⟨fun c7 => ⟨_, adv_st l G h s q hl t m, fun I37 c8 => ⟨_, I37, rfl, rfl, c8.1, fun _ => ⟨eo, c8.2⟩, fun z => absurd ⟨kk, ?_⟩ z⟩⟩, fun c9 => bad (fun z => ?_)⟩
  · rw [in3_i.mpr (by omega)] at c9; cases c9
  · have := in3_i.mp c7
    omega
theorem c_endsLine (l : Launch) (G : zG) (h : zH) (s : Nat × Nat) (q : Nat) (w : Bool) (hl : lo11 h 313) (t : TpM h B n) (m : MSq h B n w q s) :
    CTv l G YX11_endsLine 5 [va_rf (some 313)] h (fun I => FrN h I ∧ (w = false ∧ tkK B n q = 2 → MSq (I, h.2) B n false (tkE B n q) s) ∧ (¬ (w = false ∧ tkK B n q = 2) → MSq (I, h.2) B n true q (if w = true then s else (1, tkW B n q)))) := by
  have m0 := m
  obtain ⟨f, m1, m2⟩ := m
  have w0 : zI h 313 8 = 0 → w = false := fun z => by
    cases w with
    | false => rfl
    | true => rw [m2 rfl] at z; exact absurd z (by decide)
  have bad : ¬ (w = false ∧ tkK B n q = 2) → (∃ P5, CTv l G YX11_ends 1 [va_rf (some 313)] h P5 ∧ ∀ (I8 : Nat → Nat → Int32), P5 I8 → (∃ I1, (none : Option Value) = none ∧ (I8, h.2) = (I1, h.2) ∧ (FrN h I1 ∧ (w = false ∧ tkK B n q = 2 → MSq (I1, h.2) B n false (tkE B n q) s) ∧ (¬ (w = false ∧ tkK B n q = 2) → MSq (I1, h.2) B n true q (if w = true then s else (1, tkW B n q)))))) := fun ne =>
    ⟨_, c_ends l G h s q w hl m0, fun I8 e => ⟨I8, rfl, rfl, e.1, fun z => absurd z ne, fun _ => e.2⟩⟩
  refine kX11_endsLine 313 (sX11_endsLine_0 313 hl (Nat.le_refl _) ⟨fun c1 => bad (fun z => c1 (m1 z.1).1), fun c3 => ?_⟩)
  have we := w0 c3
  subst we
  have e5 : (zI h 313 5).toInt = (tkK B n q : Int) := (m1 rfl).2.2.2.2.1
  refine ⟨fun c4 => bad (fun z => c4 (i_ext (by rw [e5, z.2]; rfl))), fun c6 => ⟨_, adv_st l G h s q hl t m0, fun I30 c7 => ⟨I30, rfl, rfl, c7.1, fun _ => c7.2, fun z => absurd ⟨rfl, ?_⟩ z⟩⟩⟩
  rw [c6] at e5
  have : (2 : Int) = (tkK B n q : Int) := e5
  omega
/-! a line's numbers -/
theorem nt_pl {s : Nat × Nat} {k p X : Nat} (h : s.1 ≠ 0 → s.2 < X) (hp : p < X) : (ntS s k p).2 < X := by
  unfold ntS
  split
  · exact hp
  · rename_i z; exact h z
theorem fz_pl {q o : Nat} {full : Bool} {s : Nat × Nat} (hs : s.1 ≠ 0 → s.2 < tkW B n q) (k0 : tkK B n q ≠ 0) : ∀ i, (∀ j, j < i → tkK B n (pzB B n q j) = 1) → (fzB B n q o full s i).1 ≠ 0 → (fzB B n q o full s i).2 < pzB B n q i
  | 0, _ => fun h => by
    have g := tk_go k0
    have e : pzB B n q 0 = tkE B n q := rfl
    unfold fzB at *
    split
    · rename_i z
      rw [if_pos z] at h
      exact nt_pl (fun y => by have := hs y; omega) (by omega)
    · rename_i z
      rw [if_neg z] at h
      have := hs h
      omega
  | i + 1, hk => fun h => by
    have ih := fz_pl (o := o) (full := full) (s := s) hs k0 i (fun j hj => hk j (by omega))
    have g1 := (pz_grow k0 (i + 1) hk).2 i (by omega)
    have g := tk_go (B := B) (n := n) (q := pzB B n q i) (by rw [hk i (by omega)]; decide)
    have e : pzB B n q (i + 1) = tkE B n (pzB B n q i) := rfl
    have a1 : (fzB B n q o full s i).1 ≠ 0 → (fzB B n q o full s i).2 < pzB B n q (i + 1) := fun y => by have := ih y; omega
    have a2 : (if bdT o i (vzB B n q i) (vzB B n q 0) = true then ntS (fzB B n q o full s i) 2 (wzB B n q i) else fzB B n q o full s i).1 ≠ 0 → (if bdT o i (vzB B n q i) (vzB B n q 0) = true then ntS (fzB B n q o full s i) 2 (wzB B n q i) else fzB B n q o full s i).2 < pzB B n q (i + 1) := fun y => by
      split
      · exact nt_pl a1 g1.1
      · rename_i z
        rw [if_neg z] at y
        exact a1 y
    have e2 : fzB B n q o full s (i + 1) = if o = 4 ∧ i = 27 then ntS (if bdT o i (vzB B n q i) (vzB B n q 0) = true then ntS (fzB B n q o full s i) 2 (wzB B n q i) else fzB B n q o full s i) 3 (wzB B n q i) else (if bdT o i (vzB B n q i) (vzB B n q 0) = true then ntS (fzB B n q o full s i) 2 (wzB B n q i) else fzB B n q o full s i) := rfl
    rw [e2] at h ⊢
    by_cases z : o = 4 ∧ i = 27
    · rw [if_pos z]; exact nt_pl a2 g1.1
    · rw [if_neg z] at h ⊢; exact a2 h
/-- where the reference stands after i of a line's numbers -/
def LMq (h : zH) (B : Nat → Int) (n q o : Nat) (full : Bool) (s : Nat × Nat) (i : Nat) : Prop := (i ≤ hdB B n q → MSq h B n false (pzB B n q i) (fzB B n q o full s i)) ∧ (hdB B n q < i → MSq h B n true 0 (1, tkW B n (pzB B n q (hdB B n q))))
theorem LMq.kp {h : zH} {I : Nat → Nat → Int32} {q o i : Nat} {full : Bool} {s : Nat × Nat} (m : LMq h B n q o full s i) (e3 : ∀ k, k < 9 → I 313 k = h.1 313 k) (e4 : I 314 = h.1 314) : LMq (I, h.2) B n q o full s i := ⟨fun z => (m.1 z).kp e3 e4, fun z => (m.2 z).kp e3 e4⟩
theorem hd_no {q : Nat} (h : hdB B n q < liT (tkO B n q)) : tkK B n (pzB B n q (hdB B n q)) ≠ 1 := (czB_sp (B := B) (n := n) (q := q) (liT (tkO B n q))).2.2 h
/-- what one more number does, when the fault behind it is told -/
theorem ln_fz {h : zH} {I : Nat → Nat → Int32} {q i : Nat} {full : Bool} {s s' : Nat × Nat} {lo hi : Int} {y : Int32} (hi1 : i < liT (tkO B n q)) (hle : i ≤ hdB B n q) (N : NmP h B n false (pzB B n q i) s' lo hi y I) (ef : i < hdB B n q → (if inB lo hi (vzB B n q i) = true then s' else alP s' 2 (tkW B n (pzB B n q i))) = fzB B n q (tkO B n q) full s (i + 1)) :
    LMq (I, h.2) B n q (tkO B n q) full s (i + 1) ∧ (i < hdB B n q → inB lo hi (vzB B n q i) = true → y.toInt = vzB B n q i) := by
  by_cases k1 : tkK B n (pzB B n q i) = 1
  · have lt : i < hdB B n q := Nat.lt_of_le_of_ne hle (fun z => hd_no (B := B) (n := n) (q := q) (by omega) (by rw [← z]; exact k1))
    have a := N.2.1 ⟨rfl, k1⟩
    refine ⟨⟨fun _ => ?_, fun z => by omega⟩, fun _ g => ?_⟩
    · rw [← ef lt]; exact a.1
    · have a2 := a.2
      have g' : inB lo hi (tkV B n (pzB B n q i)) = true := g
      rw [if_pos g'] at a2; exact a2
  · have e : i = hdB B n q := Nat.le_antisymm hle (Nat.le_of_not_lt fun z => k1 (hd_1 i z))
    have b := N.2.2 (fun z => k1 z.2)
    rw [if_neg Bool.false_ne_true] at b
    refine ⟨⟨fun z => by omega, fun _ => ?_⟩, fun z => by omega⟩
    rw [← e]; exact b.tt
theorem ln_wr {h : zH} {I : Nat → Nat → Int32} {q q' i : Nat} {full : Bool} {s : Nat × Nat} {lo hi : Int} {y : Int32} (hlt : hdB B n q < i) (N : NmP h B n true q' (1, tkW B n (pzB B n q (hdB B n q))) lo hi y I) : LMq (I, h.2) B n q (tkO B n q) full s (i + 1) := by
  have b := N.2.2 (fun z => by cases z.1)
  rw [if_pos rfl] at b
  exact ⟨fun z => by omega, fun _ => b.tt⟩
theorem bd_in {o i : Nat} {v a0 : Int} (hc : ¬ (o = 5 ∧ i = 1)) : inB (loT o i) (hiT o i) v = true ↔ bdT o i v a0 = false := by
  unfold inB bdT
  rw [decide_eq_true_eq, decide_eq_false_iff_not]
  refine ⟨fun h z => ?_, fun h => ⟨Int.not_lt.mp fun y => h (Or.inl y), Int.not_lt.mp fun y => h (Or.inr (Or.inl y))⟩⟩
  rcases z with z | z | z
  · omega
  · omega
  · exact hc ⟨z.1, z.2.1⟩
theorem fz_in {q o i : Nat} {full : Bool} {s : Nat × Nat} (h4 : ¬ (o = 4 ∧ i = 27)) (hc : ¬ (o = 5 ∧ i = 1)) (pl : (fzB B n q o full s i).1 ≠ 0 → (fzB B n q o full s i).2 < pzB B n q i) : (if inB (loT o i) (hiT o i) (vzB B n q i) = true then fzB B n q o full s i else alP (fzB B n q o full s i) 2 (tkW B n (pzB B n q i))) = fzB B n q o full s (i + 1) := by
  have e : fzB B n q o full s (i + 1) = if bdT o i (vzB B n q i) (vzB B n q 0) = true then ntS (fzB B n q o full s i) 2 (wzB B n q i) else fzB B n q o full s i := if_neg h4
  rw [e]
  have tw := (tkW_sp (B := B) (n := n) (q := pzB B n q i)).1
  cases b : bdT o i (vzB B n q i) (vzB B n q 0) with
  | false => rw [if_pos ((bd_in hc).mpr b), if_neg Bool.false_ne_true]
  | true =>
    rw [if_neg (fun z => by rw [(bd_in hc).mp z] at b; cases b), if_pos rfl]
    exact al_nt (fun z => Or.inl (by have := pl z; omega))
/-- one more number of a line -/
theorem c_num (l : Launch) (G : zG) (h : zH) (q i : Nat) (full : Bool) (s : Nat × Nat) (x1 x2 : Int32) (hl : lo11 h 313) (t : TpM h B n) (k0 : tkK B n q ≠ 0) (hs : s.1 ≠ 0 → s.2 < tkW B n q) (hi1 : i < liT (tkO B n q)) (h4 : ¬ (tkO B n q = 4 ∧ i = 27)) (hc : ¬ (tkO B n q = 5 ∧ i = 1)) (h1 : x1.toInt = loT (tkO B n q) i) (h2 : x2.toInt = hiT (tkO B n q) i) (hlh : loT (tkO B n q) i ≤ hiT (tkO B n q) i) (L : LMq h B n q (tkO B n q) full s i) :
    CTi l G YX11_numbered 5 [va_rf (some 313), .int x1, .int x2] h (fun y I => FrN h I ∧ LMq (I, h.2) B n q (tkO B n q) full s (i + 1) ∧ (loT (tkO B n q) i ≤ y.toInt ∧ y.toInt ≤ hiT (tkO B n q) i) ∧ (i < hdB B n q → (fzB B n q (tkO B n q) full s (i + 1)).1 = 0 → y.toInt = vzB B n q i)) := by
  by_cases le : i ≤ hdB B n q
  · refine CT.mono (c_numbered l G h _ (pzB B n q i) false _ _ x1 x2 hl t h1 h2 hlh (L.1 le)) rfl (fun v g e => ?_)
    obtain ⟨y, I, e1, e2, e3, e4⟩ := e
    have pl := fz_pl (o := tkO B n q) (full := full) hs k0 i (fun j hj => hd_1 j (by omega))
    obtain ⟨r1, r2⟩ := ln_fz hi1 le e4 (fun _ => fz_in h4 hc pl)
    refine ⟨y, I, e1, e2, e3, r1, e4.1, fun z1 z2 => r2 z1 ?_⟩
    have bb := (fz_0 _ z2).2.2 i (by omega)
    exact (bd_in hc).mpr bb.1
  · have lt : hdB B n q < i := by omega
    refine CT.mono (c_numbered l G h _ 0 true _ _ x1 x2 hl t h1 h2 hlh (L.2 lt)) rfl (fun v g e => ?_)
    obtain ⟨y, I, e1, e2, e3, e4⟩ := e
    exact ⟨y, I, e1, e2, e3, ln_wr lt e4, e4.1, fun z => by omega⟩
theorem c_whoL (l : Launch) (G : zG) (h : zH) (q i : Nat) (full : Bool) (s : Nat × Nat) (hl : lo11 h 313) (t : TpM h B n) (k0 : tkK B n q ≠ 0) (hs : s.1 ≠ 0 → s.2 < tkW B n q) (hi1 : i < liT (tkO B n q)) (h4 : ¬ (tkO B n q = 4 ∧ i = 27)) (hc : ¬ (tkO B n q = 5 ∧ i = 1)) (h1 : loT (tkO B n q) i = 0) (h2 : hiT (tkO B n q) i = 5) (L : LMq h B n q (tkO B n q) full s i) :
    CTi l G YX11_who 6 [va_rf (some 313)] h (fun y I => FrQ h I ∧ LMq (I, h.2) B n q (tkO B n q) full s (i + 1) ∧ (0 ≤ y.toInt ∧ y.toInt ≤ 5) ∧ (i < hdB B n q → (fzB B n q (tkO B n q) full s (i + 1)).1 = 0 → y.toInt = vzB B n q i) ∧ I 316 = h.1 316 ∧ (I 313 9).toInt = mxZ (zI h 313 9).toInt y.toInt ∧ I 313 10 = h.1 313 10) := by
  by_cases le : i ≤ hdB B n q
  · refine CT.mono (c_who l G h _ (pzB B n q i) false hl t (L.1 le)) rfl (fun v g e => ?_)
    obtain ⟨y, I, e1, e2, e3, e4, e5⟩ := e
    have pl := fz_pl (o := tkO B n q) (full := full) hs k0 i (fun j hj => hd_1 j (by omega))
    obtain ⟨r1, r2⟩ := ln_fz hi1 le e4 (fun _ => by have := fz_in h4 hc pl; rw [h1, h2] at this; exact this)
    refine ⟨y, I, e1, e2, e3, r1, e4.1, fun z1 z2 => r2 z1 ?_, e5⟩
    have bb := (fz_0 _ z2).2.2 i (by omega)
    have := (bd_in (v := vzB B n q i) (a0 := vzB B n q 0) hc).mpr bb.1
    rw [h1, h2] at this; exact this
  · have lt : hdB B n q < i := by omega
    refine CT.mono (c_who l G h _ 0 true hl t (L.2 lt)) rfl (fun v g e => ?_)
    obtain ⟨y, I, e1, e2, e3, e4, e5⟩ := e
    exact ⟨y, I, e1, e2, e3, ln_wr lt e4, e4.1, fun z => by omega, e5⟩
theorem c_cellL (l : Launch) (G : zG) (h : zH) (q i : Nat) (full : Bool) (s : Nat × Nat) (hl : lo11 h 313) (t : TpM h B n) (k0 : tkK B n q ≠ 0) (hs : s.1 ≠ 0 → s.2 < tkW B n q) (hi1 : i < liT (tkO B n q)) (h4 : ¬ (tkO B n q = 4 ∧ i = 27)) (hc : ¬ (tkO B n q = 5 ∧ i = 1)) (h1 : loT (tkO B n q) i = 0) (h2 : hiT (tkO B n q) i = 63) (L : LMq h B n q (tkO B n q) full s i) :
    CTi l G YX11_cellTold 6 [va_rf (some 313)] h (fun y I => FrQ h I ∧ LMq (I, h.2) B n q (tkO B n q) full s (i + 1) ∧ (0 ≤ y.toInt ∧ y.toInt ≤ 63) ∧ (i < hdB B n q → (fzB B n q (tkO B n q) full s (i + 1)).1 = 0 → y.toInt = vzB B n q i) ∧ I 316 = h.1 316 ∧ (I 313 10).toInt = mxZ (zI h 313 10).toInt y.toInt ∧ I 313 9 = h.1 313 9) := by
  by_cases le : i ≤ hdB B n q
  · refine CT.mono (c_cellTold l G h _ (pzB B n q i) false hl t (L.1 le)) rfl (fun v g e => ?_)
    obtain ⟨y, I, e1, e2, e3, e4, e5⟩ := e
    have pl := fz_pl (o := tkO B n q) (full := full) hs k0 i (fun j hj => hd_1 j (by omega))
    obtain ⟨r1, r2⟩ := ln_fz hi1 le e4 (fun _ => by have := fz_in h4 hc pl; rw [h1, h2] at this; exact this)
    refine ⟨y, I, e1, e2, e3, r1, e4.1, fun z1 z2 => r2 z1 ?_, e5⟩
    have bb := (fz_0 _ z2).2.2 i (by omega)
    have := (bd_in (v := vzB B n q i) (a0 := vzB B n q 0) hc).mpr bb.1
    rw [h1, h2] at this; exact this
  · have lt : hdB B n q < i := by omega
    refine CT.mono (c_cellTold l G h _ 0 true hl t (L.2 lt)) rfl (fun v g e => ?_)
    obtain ⟨y, I, e1, e2, e3, e4, e5⟩ := e
    exact ⟨y, I, e1, e2, e3, ln_wr lt e4, e4.1, fun z => by omega, e5⟩
end K9R
