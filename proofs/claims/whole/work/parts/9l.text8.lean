set_option maxRecDepth 4000
/-! ===== texts: rows stay what rows can be ===== -/
section K9L
theorem liv_foot {V : Nat → Int} {v : Nat → Int} {P w : Nat} (hV : V 3 = (P : Int)) (hP : P < 6) (a : liv (upI (sdI V (120 + 33 * P) v 4) 3 (V 3 + 1)) w) : (120 + 33 * P ≤ w ∧ w < 120 + 33 * P + 4) ∨ liv V w := by
  obtain ⟨g1, g2, g3⟩ := a
  by_cases y : 120 + 33 * P ≤ w ∧ w < 120 + 33 * P + 4
  · exact Or.inl y
  · refine Or.inr ⟨fun y1 y2 => ?_, fun y1 y2 => ?_, fun y1 y2 => ?_⟩
    · have := g1 y1 y2
      rw [upI_ne (by decide), sdI_o (by omega)] at this; exact this
    · have := g2 y1 y2
      rw [upI_ne (by omega), sdI_o (by omega)] at this; exact this
    · have := g3 y1 y2
      rw [upI_at, hV] at this
      rw [hV]; omega
theorem liv_err {V : Nat → Int} {v : Nat → Int} {P w : Nat} (hV : V 4 = (P : Int)) (hP : P < 5) (a : liv (upI (sdI V (105 + 3 * P) v 3) 4 (V 4 + 1)) w) : (105 + 3 * P ≤ w ∧ w < 105 + 3 * P + 3) ∨ liv V w := by
  obtain ⟨g1, g2, g3⟩ := a
  by_cases y : 105 + 3 * P ≤ w ∧ w < 105 + 3 * P + 3
  · exact Or.inl y
  · refine Or.inr ⟨fun y1 y2 => ?_, fun y1 y2 => ?_, fun y1 y2 => ?_⟩
    · have := g1 y1 y2
      rw [upI_at, hV] at this
      rw [hV]; omega
    · have := g2 y1 y2
      rw [upI_ne (by omega), sdI_o (by omega)] at this; exact this
    · have := g3 y1 y2
      rw [upI_ne (by decide), sdI_o (by omega)] at this; exact this
theorem liv_walk {V W : Nat → Int} {v : Nat → Int} {P w m : Nat} {x6 x7 : Int} (hP : P < 6) (eW : W = upI (upI (upI V (126 + 33 * P) x6) (127 + 33 * P) x7) (128 + 33 * P) (m : Int)) (hm : m ≤ 24) (a : liv (sdI W (129 + 33 * P) v m) w) : (129 + 33 * P ≤ w ∧ w < 129 + 33 * P + m) ∨ liv V w := by
  obtain ⟨g1, g2, g3⟩ := a
  have W8 : W (128 + 33 * P) = (m : Int) := by rw [eW]; exact upI_at
  by_cases y : 129 + 33 * P ≤ w ∧ w < 129 + 33 * P + m
  · exact Or.inl y
  · refine Or.inr ⟨fun y1 y2 => ?_, fun y1 y2 => ?_, fun y1 y2 => ?_⟩
    · have := g1 y1 y2
      rw [sdI_o (by omega), eW, upI_ne (by omega), upI_ne (by omega), upI_ne (by omega)] at this; exact this
    · have := g2 y1 y2
      rw [sdI_o (by omega)] at this
      by_cases y3 : (w - 120) / 33 = P
      · rw [y3, W8] at this; omega
      · rw [eW, upI_ne (by omega), upI_ne (by omega), upI_ne (by omega)] at this; exact this
    · have := g3 y1 y2
      rw [sdI_o (by omega), eW, upI_ne (by omega), upI_ne (by omega), upI_ne (by omega)] at this; exact this
/-- bounds of the numbers of a line -/
def BdT (o had : Nat) (v : Nat → Int) : Prop := (∀ i, i < had → loT o i ≤ v i ∧ v i ≤ hiT o i) ∧ lsT o ≤ had ∧ (o ≠ 4 → had = lsT o) ∧ (o = 4 → had ≤ 27) ∧ (o = 5 → v 1 ≠ v 0)
theorem tl_1 {v : Nat → Int} {had : Nat} {V : Nat → Int} {fo fc : Int} : tlI 1 v had V fo fc = (upI (upI V 0 (v 0)) 1 (v 1), fo, fc) := rfl
theorem tl_2 {v : Nat → Int} {had : Nat} {V : Nat → Int} {fo fc : Int} : tlI 2 v had V fo fc = (upI V 2 (v 0), fo, fc) := rfl
theorem tl_3 {v : Nat → Int} {had : Nat} {V : Nat → Int} {fo fc : Int} : tlI 3 v had V fo fc = (upI (sdI V (120 + 33 * (V 3).toNat) v 4) 3 (V 3 + 1), fo, fc) := rfl
theorem tl_4 {v : Nat → Int} {had : Nat} {V : Nat → Int} {fo fc : Int} : tlI 4 v had V fo fc = (sdI (upI (upI (upI V (126 + 33 * (v 0).toNat) (v 1)) (127 + 33 * (v 0).toNat) (v 2)) (128 + 33 * (v 0).toNat) ((had : Int) - 3)) (129 + 33 * (v 0).toNat) (fun i => v (3 + i)) (had - 3), mxZ fo (v 0), mxZ fc (v 1)) := rfl
theorem tl_5 {v : Nat → Int} {had : Nat} {V : Nat → Int} {fo fc : Int} : tlI 5 v had V fo fc = (upI V (125 + 33 * (v 1).toNat) (v 0), mxZ fo (mxZ (v 0) (v 1)), fc) := rfl
theorem tl_6 {v : Nat → Int} {had : Nat} {V : Nat → Int} {fo fc : Int} {o : Nat} (ho : o = 6 ∨ o = 7 ∨ o = 8) : tlI o v had V fo fc = (upI V (124 + 33 * (v 0).toNat) ((o : Int) - 6), mxZ fo (v 0), fc) := by
  unfold tlI
  rw [if_neg (by omega), if_neg (by omega), if_neg (by omega), if_neg (by omega), if_neg (by omega), if_pos ho]
theorem tl_9 {v : Nat → Int} {had : Nat} {V : Nat → Int} {fo fc : Int} : tlI 9 v had V fo fc = (upI V (5 + (v 0).toNat) 1, fo, fc) := rfl
theorem tl_10 {v : Nat → Int} {had : Nat} {V : Nat → Int} {fo fc : Int} : tlI 10 v had V fo fc = (upI (sdI V (105 + 3 * (V 4).toNat) v 3) 4 (V 4 + 1), mxZ fo (v 0), mxZ fc (mxZ (v 1) (v 2))) := rfl
theorem tl_11 {v : Nat → Int} {had : Nat} {V : Nat → Int} {fo fc : Int} : tlI 11 v had V fo fc = (upI (sdI V (1 + 5 * (V 0).toNat) v 5) 0 (V 0 + 1), fo, fc) := rfl
theorem ful_3 {V : Nat → Int} (h : fulT 3 V = false) : V 3 < 6 := Int.not_le.mp fun z => by
  have : fulT 3 V = true := decide_eq_true (Or.inl ⟨rfl, z⟩)
  rw [h] at this; cases this
theorem ful_10 {V : Nat → Int} (h : fulT 10 V = false) : V 4 < 5 := Int.not_le.mp fun z => by
  have : fulT 10 V = true := decide_eq_true (Or.inr (Or.inl ⟨rfl, z⟩))
  rw [h] at this; cases this
theorem ful_11 {V : Nat → Int} (h : fulT 11 V = false) : V 0 < 10 := Int.not_le.mp fun z => by
  have : fulT 11 V = true := decide_eq_true (Or.inr (Or.inr ⟨rfl, z⟩))
  rw [h] at this; cases this
theorem tb_34 : ∀ j, j < 4 → [0, 1, 1, 0, 0, -1, -1, -1, 0].getD j 0 = loT 3 j ∧ (([5, 3, 9, 2, 2, 100, 101, 60, 24].getD j 0 : Nat) : Int) = hiT 3 j ∧ [5, 3, 9, 2, 2, 100, 101, 60, 24].getD j 0 ≠ 100 ∧ [5, 3, 9, 2, 2, 100, 101, 60, 24].getD j 0 ≠ 101 := by decide
theorem WI0.st3 {V : Nat → Int} {fo fc : Int} {v : Nat → Int} {had : Nat} (a : WI0 V fo fc) (b : BdT 3 had v) (nf : fulT 3 V = false) : WI0 (upI (sdI V (120 + 33 * (V 3).toNat) v 4) 3 (V 3 + 1)) fo fc := by
  have hd := a.hd
  have h6 := ful_3 nf
  obtain ⟨P, hV, eP⟩ : ∃ P : Nat, V 3 = (P : Int) ∧ (V 3).toNat = P := ⟨(V 3).toNat, by omega, rfl⟩
  rw [eP]
  have hP : P < 6 := by omega
  have h4 : had = 4 := b.2.2.1 (by decide)
  obtain ⟨r, ex, f1, f2⟩ := a
  refine ⟨((r.sd (k := 120 + 33 * P) (m := 4) (v := v) (fun j hj => ?_)).wr (w0 := 3) (wb_c (l := 0) (c := 6) (by decide) (by decide) (by decide) (by omega))).mo (Int.le_refl _) (Int.le_refl _) (fun w hw hl => ?_), fun p hp => (ex p hp).cg (fun f h1 h2 => ?_), f1, f2⟩
  · have k := bk_f P hP j (by omega)
    have t := tb_34 j hj
    have bj := b.1 j (by omega)
    exact wb_c k t.2.2.1 t.2.2.2 (by rw [t.1, t.2.1]; exact bj)
  · exact Or.inr (liv_foot hV hP hl)
  · rw [upI_ne (by omega), sdI_o (by omega)]
theorem WI0.st10 {V : Nat → Int} {fo fc : Int} {v : Nat → Int} {had : Nat} (a : WI0 V fo fc) (b : BdT 10 had v) (nf : fulT 10 V = false) : WI0 (upI (sdI V (105 + 3 * (V 4).toNat) v 3) 4 (V 4 + 1)) (mxZ fo (v 0)) (mxZ fc (mxZ (v 1) (v 2))) := by
  have hd := a.hd
  have h6 := ful_10 nf
  obtain ⟨P, hV, eP⟩ : ∃ P : Nat, V 4 = (P : Int) ∧ (V 4).toNat = P := ⟨(V 4).toNat, by omega, rfl⟩
  rw [eP]
  have hP : P < 5 := by omega
  have h4 : had = 3 := b.2.2.1 (by decide)
  have b0 : 0 ≤ v 0 ∧ v 0 ≤ 5 := b.1 0 (by omega)
  have b1 : 0 ≤ v 1 ∧ v 1 ≤ 63 := b.1 1 (by omega)
  have b2 : 0 ≤ v 2 ∧ v 2 ≤ 63 := b.1 2 (by omega)
  obtain ⟨r, ex, f1, f2⟩ := a
  have m1 := mxZ_le (a := fo) (b := v 0)
  have m2 := mxZ_le (a := fc) (b := mxZ (v 1) (v 2))
  have m3 := mxZ_le (a := v 1) (b := v 2)
  have r2 := r.mo m1.1 m2.1 (fun w _ hl => hl)
  refine ⟨((r2.sd (k := 105 + 3 * P) (m := 3) (v := v) (fun j hj => ?_)).wr (w0 := 4) (wb_c (l := 0) (c := 5) (by decide) (by decide) (by decide) (by omega))).mo (Int.le_refl _) (Int.le_refl _) (fun w hw hl => ?_), fun p hp => (ex p hp).cg (fun f h1 h2 => ?_), by omega, by omega⟩
  · have k := bk_e P hP j hj
    by_cases z : j = 0
    · rw [if_pos z] at k
      exact wb_o k (by rw [z]; exact ⟨b0.1, m1.2⟩)
    · rw [if_neg z] at k
      refine wb_f k ?_
      by_cases z1 : j = 1
      · rw [z1]; omega
      · rw [show j = 2 by omega]; omega
  · exact Or.inr (liv_err hV hP hl)
  · rw [upI_ne (by omega), sdI_o (by omega)]
theorem WI0.st4 {V : Nat → Int} {fo fc : Int} {v : Nat → Int} {had : Nat} (a : WI0 V fo fc) (b : BdT 4 had v) : WI0 (sdI (upI (upI (upI V (126 + 33 * (v 0).toNat) (v 1)) (127 + 33 * (v 0).toNat) (v 2)) (128 + 33 * (v 0).toNat) ((had : Int) - 3)) (129 + 33 * (v 0).toNat) (fun i => v (3 + i)) (had - 3)) (mxZ fo (v 0)) (mxZ fc (v 1)) := by
  have h27 := b.2.2.2.1 rfl
  have h4 : 4 ≤ had := b.2.1
  have b0 : 0 ≤ v 0 ∧ v 0 ≤ 5 := b.1 0 (by omega)
  have b1 : 0 ≤ v 1 ∧ v 1 ≤ 63 := b.1 1 (by omega)
  have b2 : 0 ≤ v 2 ∧ v 2 ≤ 60 := b.1 2 (by omega)
  obtain ⟨P, hV, eP⟩ : ∃ P : Nat, v 0 = (P : Int) ∧ (v 0).toNat = P := ⟨(v 0).toNat, by omega, rfl⟩
  rw [eP]
  have hP : P < 6 := by omega
  obtain ⟨m, em, em2⟩ : ∃ m : Nat, (had : Int) - 3 = (m : Int) ∧ had - 3 = m := ⟨had - 3, by omega, rfl⟩
  rw [em, em2]
  obtain ⟨r, ex, f1, f2⟩ := a
  have m1 := mxZ_le (a := fo) (b := v 0)
  have m2 := mxZ_le (a := fc) (b := v 1)
  have r2 := r.mo m1.1 m2.1 (fun w _ hl => hl)
  have k6 : blI (126 + 33 * P) = -1 ∧ bhK (126 + 33 * P) = 101 := by
    have : blI (120 + 33 * P + 6) = -1 ∧ bhK (120 + 33 * P + 6) = 101 := bk_f P hP 6 (by decide)
    rw [show 120 + 33 * P + 6 = 126 + 33 * P by omega] at this; exact this
  have k7 : blI (127 + 33 * P) = -1 ∧ bhK (127 + 33 * P) = 60 := by
    have : blI (120 + 33 * P + 7) = -1 ∧ bhK (120 + 33 * P + 7) = 60 := bk_f P hP 7 (by decide)
    rw [show 120 + 33 * P + 7 = 127 + 33 * P by omega] at this; exact this
  have k8 : blI (128 + 33 * P) = 0 ∧ bhK (128 + 33 * P) = 24 := by
    have : blI (120 + 33 * P + 8) = 0 ∧ bhK (120 + 33 * P + 8) = 24 := bk_f P hP 8 (by decide)
    rw [show 120 + 33 * P + 8 = 128 + 33 * P by omega] at this; exact this
  have r3 := ((r2.wr (w0 := 126 + 33 * P) (wb_f k6 (x := v 1) (by omega))).wr (w0 := 127 + 33 * P) (wb_c k7 (x := v 2) (by decide) (by decide) (by omega))).wr (w0 := 128 + 33 * P) (wb_c k8 (x := (m : Int)) (by decide) (by decide) (by omega))
  have r4 := r3.sd (k := 129 + 33 * P) (m := m) (v := fun i => v (3 + i)) (fun j hj => by
    have k := bk_s P hP j (by omega)
    have bj := b.1 (3 + j) (by omega)
    have t := tb_4 (3 + j) (by omega)
    rw [t.1, t.2] at bj
    have bj' : 0 ≤ v (3 + j) ∧ v (3 + j) ≤ 3 := bj
    exact wb_c k (by decide) (by decide) bj')
  refine ⟨r4.mo (Int.le_refl _) (Int.le_refl _) (fun w hw hl => ?_), fun p hp => ?_, by omega, by omega⟩
  · exact (liv_walk hP rfl (by omega) hl).elim Or.inl (fun y => Or.inr (Or.inr (Or.inr (Or.inr y))))
  · by_cases z : p = P
    · subst z
      have x := ex p hp
      have e5 : sdI (upI (upI (upI V (126 + 33 * p) (v 1)) (127 + 33 * p) (v 2)) (128 + 33 * p) (m : Int)) (129 + 33 * p) (fun i => v (3 + i)) m (120 + 33 * p + 5) = V (120 + 33 * p + 5) := by
        rw [sdI_o (by omega), upI_ne (by omega), upI_ne (by omega), upI_ne (by omega)]
      have e6 : sdI (upI (upI (upI V (126 + 33 * p) (v 1)) (127 + 33 * p) (v 2)) (128 + 33 * p) (m : Int)) (129 + 33 * p) (fun i => v (3 + i)) m (120 + 33 * p + 6) = v 1 := by
        rw [sdI_o (by omega), upI_ne (by omega), upI_ne (by omega), show 120 + 33 * p + 6 = 126 + 33 * p by omega, upI_at]
      have e7 : sdI (upI (upI (upI V (126 + 33 * p) (v 1)) (127 + 33 * p) (v 2)) (128 + 33 * p) (m : Int)) (129 + 33 * p) (fun i => v (3 + i)) m (120 + 33 * p + 7) = v 2 := by
        rw [sdI_o (by omega), upI_ne (by omega), show 120 + 33 * p + 7 = 127 + 33 * p by omega, upI_at]
      have e8 : sdI (upI (upI (upI V (126 + 33 * p) (v 1)) (127 + 33 * p) (v 2)) (128 + 33 * p) (m : Int)) (129 + 33 * p) (fun i => v (3 + i)) m (120 + 33 * p + 8) = (m : Int) := by
        rw [sdI_o (by omega), show 120 + 33 * p + 8 = 128 + 33 * p by omega, upI_at]
      unfold Ex1
      rw [e5, e6, e7, e8]
      exact ⟨x.1, Or.inr ⟨b1.1, b2.1, by omega⟩⟩
    · refine (ex p hp).cg (fun f h1 h2 => ?_)
      rw [sdI_o (by omega), upI_ne (by omega), upI_ne (by omega), upI_ne (by omega)]
theorem WI0.st5 {V : Nat → Int} {fo fc : Int} {v : Nat → Int} {had : Nat} (a : WI0 V fo fc) (b : BdT 5 had v) : WI0 (upI V (125 + 33 * (v 1).toNat) (v 0)) (mxZ fo (mxZ (v 0) (v 1))) fc := by
  have h2 : had = 2 := b.2.2.1 (by decide)
  have b0 : 0 ≤ v 0 ∧ v 0 ≤ 5 := b.1 0 (by omega)
  have b1 : 0 ≤ v 1 ∧ v 1 ≤ 5 := b.1 1 (by omega)
  have ne := b.2.2.2.2 rfl
  obtain ⟨P, hV, eP⟩ : ∃ P : Nat, v 1 = (P : Int) ∧ (v 1).toNat = P := ⟨(v 1).toNat, by omega, rfl⟩
  rw [eP]
  have hP : P < 6 := by omega
  obtain ⟨r, ex, f1, f2⟩ := a
  have m1 := mxZ_le (a := fo) (b := mxZ (v 0) (v 1))
  have m3 := mxZ_le (a := v 0) (b := v 1)
  have r2 := r.mo m1.1 (Int.le_refl fc) (fun w _ hl => hl)
  have k5 : blI (125 + 33 * P) = -1 ∧ bhK (125 + 33 * P) = 100 := by
    have : blI (120 + 33 * P + 5) = -1 ∧ bhK (120 + 33 * P + 5) = 100 := bk_f P hP 5 (by decide)
    rw [show 120 + 33 * P + 5 = 125 + 33 * P by omega] at this; exact this
  refine ⟨(r2.wr (w0 := 125 + 33 * P) (wb_o k5 (x := v 0) (by omega))).mo (Int.le_refl _) (Int.le_refl _) (fun w hw hl => Or.inr (liv_cg (upI_ne (by omega)) (upI_ne (by omega)) (fun p => upI_ne (by omega)) hl)), fun p hp => ?_, by omega, by omega⟩
  by_cases z : p = P
  · subst z
    have x := ex p hp
    unfold Ex1 at *
    rw [upI_ne (show 120 + 33 * p + 6 ≠ 125 + 33 * p by omega), upI_ne (show 120 + 33 * p + 7 ≠ 125 + 33 * p by omega), upI_ne (show 120 + 33 * p + 8 ≠ 125 + 33 * p by omega), show 120 + 33 * p + 5 = 125 + 33 * p by omega, upI_at]
    exact ⟨by omega, x.2⟩
  · exact (ex p hp).cg (fun f h1 h2 => upI_ne (by omega))
theorem WI0.st6 {V : Nat → Int} {fo fc : Int} {v : Nat → Int} {had o : Nat} (ho : o = 6 ∨ o = 7 ∨ o = 8) (a : WI0 V fo fc) (b : BdT o had v) : WI0 (upI V (124 + 33 * (v 0).toNat) ((o : Int) - 6)) (mxZ fo (v 0)) fc := by
  have b0 : 0 ≤ v 0 ∧ v 0 ≤ 5 := by rcases ho with e | e | e <;> (subst e; exact b.1 0 b.2.1)
  obtain ⟨P, hV, eP⟩ : ∃ P : Nat, v 0 = (P : Int) ∧ (v 0).toNat = P := ⟨(v 0).toNat, by omega, rfl⟩
  rw [eP]
  have hP : P < 6 := by omega
  obtain ⟨r, ex, f1, f2⟩ := a
  have m1 := mxZ_le (a := fo) (b := v 0)
  have r2 := r.mo m1.1 (Int.le_refl fc) (fun w _ hl => hl)
  have k4 : blI (124 + 33 * P) = 0 ∧ bhK (124 + 33 * P) = 2 := by
    have : blI (120 + 33 * P + 4) = 0 ∧ bhK (120 + 33 * P + 4) = 2 := bk_f P hP 4 (by decide)
    rw [show 120 + 33 * P + 4 = 124 + 33 * P by omega] at this; exact this
  exact ⟨(r2.wr (w0 := 124 + 33 * P) (wb_c k4 (x := (o : Int) - 6) (by decide) (by decide) (by omega))).mo (Int.le_refl _) (Int.le_refl _) (fun w hw hl => Or.inr (liv_cg (upI_ne (by omega)) (upI_ne (by omega)) (fun p => upI_ne (by omega)) hl)), fun p hp => (ex p hp).cg (fun f h1 h2 => upI_ne (by omega)), by omega, by omega⟩
theorem WI0.st9 {V : Nat → Int} {fo fc : Int} {v : Nat → Int} {had : Nat} (a : WI0 V fo fc) (b : BdT 9 had v) : WI0 (upI V (5 + (v 0).toNat) 1) fo fc := by
  have b0 : 0 ≤ v 0 ∧ v 0 ≤ 99 := b.1 0 b.2.1
  obtain ⟨P, hV, eP⟩ : ∃ P : Nat, v 0 = (P : Int) ∧ (v 0).toNat = P := ⟨(v 0).toNat, by omega, rfl⟩
  rw [eP]
  have k := bk_r P (by omega)
  obtain ⟨r, ex, f1, f2⟩ := a
  exact ⟨(r.wr (w0 := 5 + P) (wb_c k (x := 1) (by decide) (by decide) (by decide))).mo (Int.le_refl _) (Int.le_refl _) (fun w hw hl => Or.inr (liv_cg (upI_ne (by omega)) (upI_ne (by omega)) (fun p => upI_ne (by omega)) hl)), fun p hp => (ex p hp).cg (fun f h1 h2 => upI_ne (by omega)), f1, f2⟩
theorem WI0.st1 {V : Nat → Int} {fo fc : Int} {v : Nat → Int} {had : Nat} (a : WI0 V fo fc) (b : BdT 1 had v) : WI0 (upI (upI V 0 (v 0)) 1 (v 1)) fo fc := by
  have h2 : had = 2 := b.2.2.1 (by decide)
  have b0 : 2 ≤ v 0 ∧ v 0 ≤ 8 := b.1 0 (by omega)
  have b1 : 2 ≤ v 1 ∧ v 1 ≤ 8 := b.1 1 (by omega)
  obtain ⟨r, ex, f1, f2⟩ := a
  exact ⟨((r.wr (w0 := 0) (wb_c (l := 2) (c := 8) (by decide) (x := v 0) (by decide) (by decide) b0)).wr (w0 := 1) (wb_c (l := 2) (c := 8) (by decide) (x := v 1) (by decide) (by decide) b1)).mo (Int.le_refl _) (Int.le_refl _) (fun w hw hl => Or.inr (Or.inr (liv_cg (V' := upI (upI V 0 (v 0)) 1 (v 1)) rfl rfl (fun p => by rw [upI_ne (by omega), upI_ne (by omega)]) hl))), fun p hp => (ex p hp).cg (fun f h1 h2 => by rw [upI_ne (by omega), upI_ne (by omega)]), f1, f2⟩
theorem WI0.st2 {V : Nat → Int} {fo fc : Int} {v : Nat → Int} {had : Nat} (a : WI0 V fo fc) (b : BdT 2 had v) : WI0 (upI V 2 (v 0)) fo fc := by
  have b0 : 0 ≤ v 0 ∧ v 0 ≤ 9 := b.1 0 b.2.1
  obtain ⟨r, ex, f1, f2⟩ := a
  exact ⟨(r.wr (w0 := 2) (wb_c (l := 0) (c := 9) (by decide) (x := v 0) (by decide) (by decide) b0)).mo (Int.le_refl _) (Int.le_refl _) (fun w hw hl => Or.inr (liv_cg (V' := upI V 2 (v 0)) rfl rfl (fun p => upI_ne (by omega)) hl)), fun p hp => (ex p hp).cg (fun f h1 h2 => upI_ne (by omega)), f1, f2⟩
theorem WFR.st {V : Nat → Int} {v : Nat → Int} {had : Nat} (a : WFR V) (b : BdT 11 had v) (nf : fulT 11 V = false) : WFR (upI (sdI V (1 + 5 * (V 0).toNat) v 5) 0 (V 0 + 1)) := by
  have h6 := ful_11 nf
  have h0 := a.1
  obtain ⟨P, hV, eP⟩ : ∃ P : Nat, V 0 = (P : Int) ∧ (V 0).toNat = P := ⟨(V 0).toNat, by omega, rfl⟩
  rw [eP]
  have h5 : had = 5 := b.2.2.1 (by decide)
  refine ⟨by rw [upI_at]; omega, fun k hk => ?_⟩
  rw [upI_at, hV] at hk
  rw [upI_ne (by omega), upI_ne (by omega), upI_ne (by omega), upI_ne (by omega), upI_ne (by omega)]
  by_cases y : k = P
  · subst y
    have g : ∀ j, j < 5 → sdI V (1 + 5 * k) v 5 (1 + 5 * k + j) = v j := fun j hj => sdI_i hj
    have b0 : 0 ≤ v 0 ∧ v 0 ≤ 63 := b.1 0 (by omega)
    have b1 : 0 ≤ v 1 ∧ v 1 ≤ 6 := b.1 1 (by omega)
    have b2 : 0 ≤ v 2 ∧ v 2 ≤ 1 := b.1 2 (by omega)
    have b3 : 0 ≤ v 3 ∧ v 3 ≤ 3 := b.1 3 (by omega)
    have b4 : 1 ≤ v 4 ∧ v 4 ≤ 99 := b.1 4 (by omega)
    rw [show 2 + 5 * k = 1 + 5 * k + 1 by omega, show 3 + 5 * k = 1 + 5 * k + 2 by omega, show 4 + 5 * k = 1 + 5 * k + 3 by omega, show 5 + 5 * k = 1 + 5 * k + 4 by omega, g 1 (by decide), g 2 (by decide), g 3 (by decide), g 4 (by decide)]
    have g0 := g 0 (by decide)
    rw [Nat.add_zero] at g0
    rw [g0]
    exact ⟨b0, b1, b2, b3, b4⟩
  · rw [sdI_o (by omega), sdI_o (by omega), sdI_o (by omega), sdI_o (by omega), sdI_o (by omega)]
    exact a.2 k (by rw [hV]; omega)
def WIs (sort : Nat) (V : Nat → Int) (fo fc : Int) : Prop := (sort = 0 → WI0 V fo fc) ∧ (sort = 1 → WFR V)
theorem ok_0 {o : Nat} (h : okO 0 o = true) : 1 ≤ o ∧ o ≤ 10 := of_decide_eq_true h
theorem ok_1 {o : Nat} (h : okO 1 o = true) : o = 11 := of_decide_eq_true h
theorem WIs.st {sort o had : Nat} {V : Nat → Int} {fo fc : Int} {v : Nat → Int} (hs : sort = 0 ∨ sort = 1) (ok : okO sort o = true) (a : WIs sort V fo fc) (b : BdT o had v) (nf : fulT o V = false) : WIs sort (tlI o v had V fo fc).1 (tlI o v had V fo fc).2.1 (tlI o v had V fo fc).2.2 := by
  rcases hs with e | e
  · subst e
    refine ⟨fun _ => ?_, fun z => absurd z (by decide)⟩
    have w := a.1 rfl
    have k := ok_0 ok
    match o, k, b, nf with
    | 1, _, b, _ => exact w.st1 b
    | 2, _, b, _ => exact w.st2 b
    | 3, _, b, nf => exact w.st3 b nf
    | 4, _, b, _ => exact w.st4 b
    | 5, _, b, _ => exact w.st5 b
    | 6, _, b, _ => exact WI0.st6 (o := 6) (by decide) w b
    | 7, _, b, _ => exact WI0.st6 (o := 7) (by decide) w b
    | 8, _, b, _ => exact WI0.st6 (o := 8) (by decide) w b
    | 9, _, b, _ => exact w.st9 b
    | 10, _, b, nf => exact w.st10 b nf
    | 0, k, _, _ => omega
    | j + 11, k, _, _ => omega
  · subst e
    refine ⟨fun z => absurd z (by decide), fun _ => ?_⟩
    have k := ok_1 ok
    subst k
    exact (a.2 rfl).st b nf
end K9L
