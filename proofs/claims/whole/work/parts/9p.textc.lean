set_option maxRecDepth 4000
/-! ===== texts: the reference's words and tokens ===== -/
section K9P
variable {B : Nat → Int} {n : Nat}
def wdE (i : Nat) : Int := enR (wdI i)
def fstW (v : Int) : Nat → Nat
  | 0 => 0
  | i + 1 => if fstW v i ≠ 0 then fstW v i else if v = wdE i then i + 1 else 0
theorem fst_no {v : Int} : ∀ m, (∀ j, j < m → v ≠ wdE j) → fstW v m = 0
  | 0, _ => rfl
  | m + 1, h => by
    unfold fstW
    rw [fst_no m (fun j hj => h j (by omega)), if_neg (fun z => z rfl), if_neg (h m (by omega))]
theorem fst_is {v : Int} {k : Nat} : ∀ m, (∀ j, j < k → v ≠ wdE j) → v = wdE k → k < m → fstW v m = k + 1
  | 0, _, _, h => by omega
  | m + 1, h1, h2, h3 => by
    unfold fstW
    by_cases z : k = m
    · rw [← z, fst_no k h1, if_neg (fun z => z rfl), if_pos h2]
    · rw [fst_is m h1 h2 (by omega), if_pos (by omega)]
theorem fst_wc {v : Int} {w e : Nat} (h : ∀ i, i < 11 → (v = wdE i ↔ spB B w e i = true)) : ∀ m, m ≤ 11 → fstW v m = wcB B w e m
  | 0, _ => rfl
  | m + 1, hm => by
    unfold fstW wcB
    rw [fst_wc h m (by omega)]
    by_cases z : wcB B w e m ≠ 0
    · rw [if_pos z, if_pos z]
    · rw [if_neg z, if_neg z]
      by_cases y : v = wdE m
      · rw [if_pos y, if_pos ((h m (by omega)).mp y)]
      · rw [if_neg y, if_neg (fun x => y ((h m (by omega)).mpr x))]
theorem lg_0e {x y : Int64} : lg_cmp x y = 0 ↔ x.toInt = y.toInt := by
  refine ⟨fun h => ?_, fun h => ?_⟩
  · unfold lg_cmp at h
    split at h
    · exact absurd h (by decide)
    · split at h
      · rename_i e; rw [e]
      · exact absurd h (by decide)
  · rw [Int64.toInt_inj.mp h]; exact lg_cmp_self y
theorem c_fourK (l : Launch) (G : zG) (h : zH) (i : Nat) (x0 x1 x2 x3 : Int32) (e : ((((x0 * 32 + x1) * 32 + x2) * 32 + x3).toInt64).toInt = wdE i) : CTj l G YX11_four 1 [.int x0, .int x1, .int x2, .int x3] h (fun y I => y.toInt = wdE i ∧ I = h.1) :=
  kX11_four x0 x1 x2 x3 (sX11_four_0 x0 x1 x2 x3 (Nat.le_refl _) ⟨_, h.1, rfl, rfl, e, rfl⟩)
theorem c_eightK (l : Launch) (G : zG) (h : zH) (i : Nat) (x0 x1 x2 x3 x4 x5 x6 x7 : Int32) (e : ((((x0 * 32 + x1) * 32 + x2) * 32 + x3).toInt64 * 1048576 + (((x4 * 32 + x5) * 32 + x6) * 32 + x7).toInt64).toInt = wdE i) : CTj l G YX11_eight 2 [.int x0, .int x1, .int x2, .int x3, .int x4, .int x5, .int x6, .int x7] h (fun y I => y.toInt = wdE i ∧ I = h.1) := by
  have c4 : ∀ (g : zH) (x0 x1 x2 x3 : Int32), CTj l G YX11_four 1 [.int x0, .int x1, .int x2, .int x3] g (fun y I => y = (((x0 * 32 + x1) * 32 + x2) * 32 + x3).toInt64 ∧ I = g.1) := fun g x0 x1 x2 x3 => kX11_four x0 x1 x2 x3 (sX11_four_0 x0 x1 x2 x3 (Nat.le_refl _) ⟨_, g.1, rfl, rfl, rfl, rfl⟩)
  refine kX11_eight x0 x1 x2 x3 x4 x5 x6 x7 (sX11_eight_0 x0 x1 x2 x3 x4 x5 x6 x7 (Nat.le_refl _) ⟨_, c4 h x0 x1 x2 x3, fun y6 I4 c1 => ?_⟩)
  obtain ⟨e1, e2⟩ := c1
  subst e2
  refine ⟨_, c4 (h.1, h.2) x4 x5 x6 x7, fun y15 I13 c2 => ?_⟩
  obtain ⟨e3, e4⟩ := c2
  have e5 : I13 = h.1 := e4
  subst e5
  exact ⟨_, h.1, rfl, rfl, by rw [e1, e3]; exact e, rfl⟩
theorem nx_ne {v : Int} {k : Nat} (h : ∀ j, j < k → v ≠ wdE j) (h2 : v ≠ wdE k) : ∀ j, j < k + 1 → v ≠ wdE j := fun j hj => by
  by_cases z : j = k
  · rw [z]; exact h2
  · exact h j (by omega)
def wnI (v : Int) : Int := if fstW v 11 = 0 then 99 else (fstW v 11 : Int)
theorem c_X11_wordOf (l : Launch) (G : zG) (h : zH) (x0 : Int64) : CTi l G YX11_wordOf 3 [.long x0] h (fun y I => y.toInt = wnI x0.toInt ∧ I = h.1) := by
  have lf : ∀ (k : Nat) (K : Int32), K.toInt = ((k + 1 : Nat) : Int) → k < 11 → (∀ j, j < k → x0.toInt ≠ wdE j) → x0.toInt = wdE k → (∃ x I1, (some (.int K) : Option Value) = some (.int x) ∧ (h.1, h.2) = (I1, h.2) ∧ (x.toInt = wnI x0.toInt ∧ I1 = h.1)) := fun k K hK hk h1 h2 => by
    refine ⟨K, h.1, rfl, rfl, ?_, rfl⟩
    unfold wnI
    rw [fst_is 11 h1 h2 hk, if_neg (by omega)]; exact hK
  have n0 : ∀ j, j < 0 → x0.toInt ≠ wdE j := fun j hj => absurd hj (Nat.not_lt_zero j)
  refine kX11_wordOf x0 (sX11_wordOf_0 x0 (Nat.le_refl _) ⟨_, c_fourK l G h 0 19 9 26 5 (by decide +kernel), fun y0 I0 c0 => ?_⟩)
  obtain ⟨e0, f0⟩ := c0
  have g0 : I0 = h.1 := f0
  subst g0
  refine ⟨fun d0 => ?_, fun d0 => lf 0 1 rfl (by decide) n0 ((lg_0e.mp d0).trans e0)⟩
  have n1 := nx_ne n0 (fun z => d0 (lg_0e.mpr (z.trans e0.symm)))
  refine ⟨_, c_fourK l G (h.1, h.2) 1 0 23 5 20 (by decide +kernel), fun y1 I1 c1 => ?_⟩
  obtain ⟨e1, f1⟩ := c1
  have g1 : I1 = h.1 := f1
  subst g1
  refine ⟨fun d1 => ?_, fun d1 => lf 1 2 rfl (by decide) n1 ((lg_0e.mp d1).trans e1)⟩
  have n2 := nx_ne n1 (fun z => d1 (lg_0e.mpr (z.trans e1.symm)))
  refine ⟨_, c_fourK l G (h.1, h.2) 2 6 15 15 20 (by decide +kernel), fun y2 I2 c2 => ?_⟩
  obtain ⟨e2, f2⟩ := c2
  have g2 : I2 = h.1 := f2
  subst g2
  refine ⟨fun d2 => ?_, fun d2 => lf 2 3 rfl (by decide) n2 ((lg_0e.mp d2).trans e2)⟩
  have n3 := nx_ne n2 (fun z => d2 (lg_0e.mpr (z.trans e2.symm)))
  refine ⟨_, c_fourK l G (h.1, h.2) 3 23 1 12 11 (by decide +kernel), fun y3 I3 c3 => ?_⟩
  obtain ⟨e3, f3⟩ := c3
  have g3 : I3 = h.1 := f3
  subst g3
  refine ⟨fun d3 => ?_, fun d3 => lf 3 4 rfl (by decide) n3 ((lg_0e.mp d3).trans e3)⟩
  have n4 := nx_ne n3 (fun z => d3 (lg_0e.mpr (z.trans e3.symm)))
  refine ⟨_, c_eightK l G (h.1, h.2) 4 0 0 0 3 1 18 18 25 (by decide +kernel), fun y4 I4 c4 => ?_⟩
  obtain ⟨e4, f4⟩ := c4
  have g4 : I4 = h.1 := f4
  subst g4
  refine ⟨fun d4 => ?_, fun d4 => lf 4 5 rfl (by decide) n4 ((lg_0e.mp d4).trans e4)⟩
  have n5 := nx_ne n4 (fun z => d4 (lg_0e.mpr (z.trans e4.symm)))
  refine ⟨_, c_fourK l G (h.1, h.2) 5 6 5 5 20 (by decide +kernel), fun y5 I5 c5 => ?_⟩
  obtain ⟨e5, f5⟩ := c5
  have g5 : I5 = h.1 := f5
  subst g5
  refine ⟨fun d5 => ?_, fun d5 => lf 5 6 rfl (by decide) n5 ((lg_0e.mp d5).trans e5)⟩
  have n6 := nx_ne n5 (fun z => d5 (lg_0e.mpr (z.trans e5.symm)))
  refine ⟨_, c_eightK l G (h.1, h.2) 6 0 0 0 8 1 14 4 19 (by decide +kernel), fun y6 I6 c6 => ?_⟩
  obtain ⟨e6, f6⟩ := c6
  have g6 : I6 = h.1 := f6
  subst g6
  refine ⟨fun d6 => ?_, fun d6 => lf 6 7 rfl (by decide) n6 ((lg_0e.mp d6).trans e6)⟩
  have n7 := nx_ne n6 (fun z => d6 (lg_0e.mpr (z.trans e6.symm)))
  refine ⟨_, c_eightK l G (h.1, h.2) 7 0 0 18 15 12 12 5 4 (by decide +kernel), fun y7 I7 c7 => ?_⟩
  obtain ⟨e7, f7⟩ := c7
  have g7 : I7 = h.1 := f7
  subst g7
  refine ⟨fun d7 => ?_, fun d7 => lf 7 8 rfl (by decide) n7 ((lg_0e.mp d7).trans e7)⟩
  have n8 := nx_ne n7 (fun z => d7 (lg_0e.mpr (z.trans e7.symm)))
  refine ⟨_, c_fourK l G (h.1, h.2) 8 18 1 9 14 (by decide +kernel), fun y8 I8 c8 => ?_⟩
  obtain ⟨e8, f8⟩ := c8
  have g8 : I8 = h.1 := f8
  subst g8
  refine ⟨fun d8 => ?_, fun d8 => lf 8 9 rfl (by decide) n8 ((lg_0e.mp d8).trans e8)⟩
  have n9 := nx_ne n8 (fun z => d8 (lg_0e.mpr (z.trans e8.symm)))
  refine ⟨_, c_eightK l G (h.1, h.2) 9 0 0 5 18 18 1 14 4 (by decide +kernel), fun y9 I9 c9 => ?_⟩
  obtain ⟨e9, f9⟩ := c9
  have g9 : I9 = h.1 := f9
  subst g9
  refine ⟨fun d9 => ?_, fun d9 => lf 9 10 rfl (by decide) n9 ((lg_0e.mp d9).trans e9)⟩
  have n10 := nx_ne n9 (fun z => d9 (lg_0e.mpr (z.trans e9.symm)))
  refine ⟨_, c_fourK l G (h.1, h.2) 10 19 9 7 14 (by decide +kernel), fun y10 I10 c10 => ?_⟩
  obtain ⟨e10, f10⟩ := c10
  have g10 : I10 = h.1 := f10
  subst g10
  refine ⟨fun d10 => ?_, fun d10 => lf 10 11 rfl (by decide) n10 ((lg_0e.mp d10).trans e10)⟩
  have n11 := nx_ne n10 (fun z => d10 (lg_0e.mpr (z.trans e10.symm)))
  refine ⟨99, h.1, rfl, rfl, ?_, rfl⟩
  unfold wnI
  rw [fst_no 11 n11, if_pos rfl]; rfl
/-! tokens -/
def TpM (h : zH) (B : Nat → Int) (n : Nat) : Prop := (zI h 313 2).toInt = (n : Int) ∧ (∀ i, i < n → (zI h 314 (10 + i)).toInt = B i ∧ 0 ≤ B i ∧ B i < 256) ∧ n ≤ 600
theorem TpM.ix {h : zH} (t : TpM h B n) {x : Int32} {p : Nat} (hx : x.toInt = (p : Int)) (hp : p < n) : (10 + x).toInt = ((10 + p : Nat) : Int) := by
  have := t.2.2
  rw [i_add (by show _ ≤ (10 : Int) + x.toInt; omega) (by show (10 : Int) + x.toInt < _; omega)]
  show (10 : Int) + x.toInt = _
  omega
theorem TpM.ok {h : zH} (t : TpM h B n) {x : Int32} {p : Nat} (hx : x.toInt = (p : Int)) : zbyok h 313 x := fun c => by
  have c' : (p : Int) < (n : Int) := by rw [← hx, ← t.1]; exact c
  have e := t.ix hx (by omega)
  have := t.2.2
  show 0 ≤ (10 + x).toInt ∧ (10 + x).toInt < 5392
  omega
theorem TpM.at {h : zH} (t : TpM h B n) {x : Int32} {p : Nat} (hx : x.toInt = (p : Int)) : (zbyte h 313 x).toInt = bAt B n p := by
  unfold zbyte bAt
  by_cases hp : p < n
  · rw [if_pos (by rw [hx, t.1]; omega), if_pos hp, zix_of (t.ix hx hp)]
    exact (t.2.1 p hp).1
  · rw [if_neg (by rw [hx, t.1]; omega), if_neg hp]; rfl
def FrM (h : zH) (I : Nat → Nat → Int32) : Prop := (∀ b, b ≠ 313 → I b = h.1 b) ∧ ∀ k, (k < 3 ∨ 7 < k) → I 313 k = h.1 313 k
theorem FrM.rf (h : zH) : FrM h h.1 := ⟨fun _ _ => rfl, fun _ _ => rfl⟩
theorem FrM.tr {h : zH} {I J : Nat → Nat → Int32} (a : FrM h I) (c : FrM (I, h.2) J) : FrM h J := ⟨fun b z => (c.1 b z).trans (a.1 b z), fun k z => (c.2 k z).trans (a.2 k z)⟩
theorem FrM.wr {h : zH} {I J : Nat → Nat → Int32} {k0 : Nat} {y : Int32} (a : FrM h I) (e : WrI (I, h.2) J 313 k0 y) (hk : 3 ≤ k0 ∧ k0 ≤ 7) : FrM h J := a.tr ⟨fun b z => e.1 b z, fun k z => e.2.1 k (by omega)⟩
theorem FrM.tp {h : zH} {I : Nat → Nat → Int32} (f : FrM h I) (t : TpM h B n) : TpM (I, h.2) B n := ⟨by show (I 313 2).toInt = _; rw [f.2 2 (by decide)]; exact t.1, fun i hi => by show (I 314 (10 + i)).toInt = _ ∧ _; rw [f.1 314 (by decide)]; exact t.2.1 i hi, t.2.2⟩
/-- the token that the reference holds -/
def MTk (I : Nat → Nat → Int32) (B : Nat → Int) (n q : Nat) : Prop := (I 313 4).toInt = (tkW B n q : Int) ∧ (I 313 3).toInt = (tkE B n q : Int) ∧ (I 313 5).toInt = (tkK B n q : Int) ∧ (tkK B n q = 1 → (I 313 6).toInt = tkV B n q) ∧ (tkK B n q = 3 → (I 313 7).toInt = (tkO B n q : Int))
theorem enB2_b : ∀ {l : List Int}, (∀ c, c ∈ l → 97 ≤ c ∧ c ≤ 122) → enB2 l < 32 ^ l.length
  | [], _ => by decide
  | c :: r, h => by
    have a := enB2_b (l := r) (fun x hx => h x (List.mem_cons_of_mem _ hx))
    have d := h c (List.mem_cons_self ..)
    show c - 96 + 32 * enB2 r < 32 ^ (r.length + 1)
    rw [Int.pow_succ]
    omega
theorem lsB_mem {w : Nat} {c : Int} : ∀ k, c ∈ lsB B w k → ∃ j, j < k ∧ c = B (w + j)
  | 0, h => by cases h
  | k + 1, h => by
    have h2 : c ∈ lsB B w k ++ [B (w + k)] := h
    rcases List.mem_append.mp h2 with z | z
    · obtain ⟨j, a, b⟩ := lsB_mem k z
      exact ⟨j, by omega, b⟩
    · exact ⟨k, by omega, List.mem_singleton.mp z⟩
theorem p32 : ∀ k, k < 9 → (32 : Int) ^ k ≤ 1099511627776 := by decide
theorem enR_b {w k : Nat} (h : ∀ j, j < k → 97 ≤ B (w + j) ∧ B (w + j) ≤ 122) (hk : k ≤ 8) : 0 ≤ enR (lsB B w k) ∧ enR (lsB B w k) < 1099511627776 := by
  have hm : ∀ c, c ∈ (lsB B w k).reverse → 97 ≤ c ∧ c ≤ 122 := fun c hc => by
    obtain ⟨j, a, b⟩ := lsB_mem k (List.mem_reverse.mp hc)
    rw [b]; exact h j a
  have b1 := enB2_nn hm
  have b2 := enB2_b hm
  rw [List.length_reverse, lsB_len] at b2
  have := p32 k (by omega)
  unfold enR
  omega
theorem wd_8 : ∀ i, i < 11 → (wdI i).length ≤ 8 := by decide
theorem wE_sp {w e i : Nat} (h : ∀ j, j < e - w → 97 ≤ B (w + j) ∧ B (w + j) ≤ 122) (hi : i < 11) : enR (lsB B w (e - w)) = wdE i ↔ spB B w e i = true := by
  have hm : ∀ c, c ∈ lsB B w (e - w) → 97 ≤ c ∧ c ≤ 122 := fun c hc => by
    obtain ⟨j, a, b⟩ := lsB_mem _ hc
    rw [b]; exact h j a
  rw [sp_ls]
  exact ⟨fun z => enR_inj hm (wd_lt i hi) z, fun z => by rw [z]; rfl⟩
theorem c_advance (l : Launch) (G : zG) (h : zH) (q : Nat) (hl : lo11 h 313) (t : TpM h B n) (hq : q ≤ n) (h3 : (zI h 313 3).toInt = (q : Int)) :
    CTv l G YX11_advance 4 [va_rf (some 313)] h (fun I => FrM h I ∧ MTk I B n q) := by
  have n6 := t.2.2
  have wn := (tkW_sp (B := B) (n := n) (q := q)).2.2 hq
  have lets : ∀ (w : Nat), w = tkW B n q → w < n → ltB (B w) = true → ∀ (fu p : Nat) (u1 : Value) (x2 : Int64) (J : Nat → Nat → Int32), w ≤ p → p ≤ n → n - p < fu → FrM h J → (J 313 4).toInt = (w : Int) → (J 313 3).toInt = (p : Int) → (∀ j, j < p - w → 97 ≤ B (w + j) ∧ B (w + j) ≤ 122) → x2.toInt = enR (lsB B w (min (p - w) 8)) → reB ltB B n w = reB ltB B n p →
      Z l G mX11_advance 4 (fun v h2 => ∃ I, v = none ∧ h2 = (I, h.2) ∧ (FrM h I ∧ MTk I B n q)) 0 0 77 [va_rf (some 313), u1, .long x2, zU] [] (J, h.2) := by
    intro w ew hw hlw fu
    have eE : tkE B n q = reB ltB B n w := by
      unfold tkE
      rw [← ew, if_neg (by omega), if_pos hlw]
    have eK : tkK B n q = if tkO B n q = 0 then 4 else 3 := by
      unfold tkK
      rw [← ew, if_neg (by omega), if_pos hlw]
    induction fu with
    | zero => intro p u1 x2 J q1 q2 q3; omega
    | succ fu ih =>
      intro p u1 x2 J q1 q2 q3 fr v4 v3 al ex re
      have tJ := fr.tp t
      have v3' : (zI (J, h.2) 313 3).toInt = (p : Int) := v3
      have v4' : (zI (J, h.2) 313 4).toInt = (w : Int) := v4
      have esub : (zI (J, h.2) 313 3 - zI (J, h.2) 313 4).toInt = ((p - w : Nat) : Int) := by rw [i_sub (by omega) (by omega)]; omega
      have eb := tJ.at v3'
      have fin : reB ltB B n w = p → ∀ (K : Nat → Nat → Int32) (c5 c7 : Int32), FrM h K → (K 313 4).toInt = (w : Int) → (K 313 3).toInt = (p : Int) → K 313 5 = c5 → K 313 7 = c7 → ((tkO B n q = 0 ∧ c5 = 4) ∨ (tkO B n q ≠ 0 ∧ c5 = 3 ∧ c7.toInt = (tkO B n q : Int))) → FrM h K ∧ MTk K B n q := fun rp K c5 c7 f k4 k3 k5 k7 c => by
        refine ⟨f, by rw [← ew]; exact k4, by rw [eE, rp]; exact k3, ?_, fun z => ?_, fun z => ?_⟩
        · rw [k5, eK]
          rcases c with c | c
          · rw [if_pos c.1, c.2]; rfl
          · rw [if_neg c.1, c.2.1]; rfl
        · rw [eK] at z; split at z <;> cases z
        · rw [eK] at z
          rcases c with c | c
          · rw [if_pos c.1] at z; cases z
          · rw [k7]; exact c.2.2
      refine sX11_advance_77 (h := (J, h.2)) 313 u1 x2 hl (Nat.le_refl _) ⟨tJ.ok v3', fun c1 => ?_, fun c15 => ?_⟩
      · rw [letter_i, eb] at c1
        have rp : reB ltB B n w = p := by rw [re]; exact reB_no lt_1 c1
        have eO : tkO B n q = wcB B w p 11 := by unfold tkO; rw [eE, rp, ← ew]
        refine ⟨fun c2 => ⟨_, c_X11_wordOf l G (J, h.2) x2, fun y21 I19 c3 I25 c4 => ?_⟩, fun c9 I38 c10 => ?_⟩
        · obtain ⟨ey, eI⟩ := c3
          have eI' : I19 = J := eI
          subst eI'
          have d4 : WrI (I19, h.2) I25 313 7 y21 := zwI_eff c4
          have hk : p - w ≤ 8 := by omega
          have em : min (p - w) 8 = p - w := Nat.min_eq_left hk
          rw [em] at ex
          have ew2 : fstW x2.toInt 11 = tkO B n q := by
            rw [eO]
            exact fst_wc (fun i hi => by rw [ex]; exact wE_sp al hi) 11 (Nat.le_refl _)
          unfold wnI at ey
          rw [ew2] at ey
          have a7 : zI (I25, h.2) 313 7 = y21 := d4.2.2
          have g4 : (I25 313 4).toInt = (w : Int) := by rw [d4.2.1 4 (by decide)]; exact v4
          have g3 : (I25 313 3).toInt = (p : Int) := by rw [d4.2.1 3 (by decide)]; exact v3
          have o11 : tkO B n q ≤ 11 := (wcB_sp (B := B) (w := tkW B n q) (e := tkE B n q) 11).1
          refine ⟨fun c5 I32 c6 => ⟨I32, rfl, rfl, ?_⟩, fun c7 I35 c8 => ⟨I35, rfl, rfl, ?_⟩⟩
          · have d6 : WrI (I25, h.2) I32 313 5 3 := zwI_eff c6
            have o0 : tkO B n q ≠ 0 := fun z => by
              rw [if_pos z] at ey
              exact c5 (a7.trans (i_ext (by rw [ey]; rfl)))
            rw [if_neg o0] at ey
            refine fin rp I32 3 y21 ((fr.wr d4 (by decide)).wr d6 (by decide)) ?_ ?_ d6.2.2 ?_ (Or.inr ⟨o0, rfl, ey⟩)
            · rw [d6.2.1 4 (by decide)]; exact g4
            · rw [d6.2.1 3 (by decide)]; exact g3
            · rw [d6.2.1 7 (by decide)]; exact d4.2.2
          · have d6 : WrI (I25, h.2) I35 313 5 4 := zwI_eff c8
            have o0 : tkO B n q = 0 := Decidable.byContradiction fun z => by
              rw [if_neg z, ← a7, c7] at ey
              have : (99 : Int) = (tkO B n q : Int) := ey
              omega
            refine fin rp I35 4 y21 ((fr.wr d4 (by decide)).wr d6 (by decide)) ?_ ?_ d6.2.2 ?_ (Or.inl ⟨o0, rfl⟩)
            · rw [d6.2.1 4 (by decide)]; exact g4
            · rw [d6.2.1 3 (by decide)]; exact g3
            · rw [d6.2.1 7 (by decide)]; exact d4.2.2
        · have d4 : WrI (J, h.2) I38 313 7 99 := zwI_eff c10
          have o0 : tkO B n q = 0 := Decidable.byContradiction fun z => by
            obtain ⟨a, _, c⟩ := wcB_sp (B := B) (w := w) (e := p) 11
            rw [eO] at z
            have s := (c (wcB B w p 11 - 1) (by omega)).1
            unfold spB at s
            have := (of_decide_eq_true s).1
            have := wd_8 (wcB B w p 11 - 1) (by omega)
            omega
          have a7 : zI (I38, h.2) 313 7 = 99 := d4.2.2
          refine ⟨fun c11 => absurd a7 c11, fun c13 I48 c14 => ⟨I48, rfl, rfl, ?_⟩⟩
          have d6 : WrI (I38, h.2) I48 313 5 4 := zwI_eff c14
          refine fin rp I48 4 99 ((fr.wr d4 (by decide)).wr d6 (by decide)) ?_ ?_ d6.2.2 ?_ (Or.inl ⟨o0, rfl⟩)
          · rw [d6.2.1 4 (by decide)]; show (I38 313 4).toInt = _; rw [d4.2.1 4 (by decide)]; exact v4
          · rw [d6.2.1 3 (by decide)]; show (I38 313 3).toInt = _; rw [d4.2.1 3 (by decide)]; exact v3
          · rw [d6.2.1 7 (by decide)]; exact d4.2.2
      · rw [letter_i, eb] at c15
        have hp : p < n := Nat.lt_of_not_le fun z => by
          have e1 : bAt B n p = -1 := if_neg (by omega)
          rw [e1, lt_1] at c15; cases c15
        have ebp : bAt B n p = B p := if_pos hp
        have lp := of_decide_eq_true c15
        rw [ebp] at lp
        have al2 : ∀ j, j < p + 1 - w → 97 ≤ B (w + j) ∧ B (w + j) ≤ 122 := fun j hj => by
          by_cases z : j = p - w
          · rw [z, show w + (p - w) = p by omega]; exact lp
          · exact al j (by omega)
        have go : ∀ (I : Nat → Nat → Int32) (u1 : Value) (y2 : Int64), WrI (J, h.2) I 313 3 (zI (J, h.2) 313 3 + 1) → y2.toInt = enR (lsB B w (min (p + 1 - w) 8)) → Z l G mX11_advance 4 (fun v h2 => ∃ I, v = none ∧ h2 = (I, h.2) ∧ (FrM h I ∧ MTk I B n q)) 0 0 77 [va_rf (some 313), u1, .long y2, zU] [] (I, h.2) := fun I u1 y2 d e => by
          refine ih (p + 1) u1 y2 I (by omega) (by omega) (by omega) (fr.wr d (by decide)) ?_ ?_ al2 e ?_
          · rw [d.2.1 4 (by decide)]; exact v4
          · rw [d.2.2]; exact i_1 v3 (by omega)
          · rw [re]; exact reB_yes lt_1 c15
        refine ⟨fun c16 I55 c17 => go I55 u1 x2 (zwI_eff c17) ?_, fun c18 => ⟨tJ.ok v3', fun I62 c19 => go I62 _ _ (zwI_eff c19) ?_⟩⟩
        · rw [ex, Nat.min_eq_right (by omega), Nat.min_eq_right (by omega)]
        · have hk : p - w < 8 := by omega
          have m1 : min (p - w) 8 = p - w := Nat.min_eq_left (by omega)
          have m2 : min (p + 1 - w) 8 = (p - w) + 1 := by rw [Nat.min_eq_left (by omega)]; omega
          rw [m1] at ex
          rw [m2]
          have e2 : lsB B w ((p - w) + 1) = lsB B w (p - w) ++ [B p] := by
            show lsB B w (p - w) ++ [B (w + (p - w))] = _
            rw [show w + (p - w) = p by omega]
          rw [e2, enR_s]
          have bd := enR_b (B := B) (w := w) al (by omega)
          have ez : (zbyte (J, h.2) 313 (zI (J, h.2) 313 3)).toInt64.toInt = B p := by rw [Int32.toInt_toInt64, eb, ebp]
          have t32 : (32 : Int64).toInt = 32 := rfl
          have t96 : (96 : Int64).toInt = 96 := rfl
          have s1 : (32 * x2).toInt = 32 * enR (lsB B w (p - w)) := by rw [j_mul (by rw [t32, ex]; omega) (by rw [t32, ex]; omega), t32, ex]
          have s2 : (32 * x2 + (zbyte (J, h.2) 313 (zI (J, h.2) 313 3)).toInt64).toInt = 32 * enR (lsB B w (p - w)) + B p := by rw [j_add (by rw [s1, ez]; omega) (by rw [s1, ez]; omega), s1, ez]
          rw [j_sub (by rw [s2, t96]; omega) (by rw [s2, t96]; omega), s2, t96]; omega
  have digs : ∀ (w : Nat), w = tkW B n q → w < n → ltB (B w) = false → dgB (B w) = true → ∀ (fu p : Nat) (u1 u2 u3 : Value) (J : Nat → Nat → Int32), w ≤ p → p ≤ n → n - p < fu → FrM h J → (J 313 4).toInt = (w : Int) → (J 313 3).toInt = (p : Int) → (p = w → J 313 6 = 0) → (p = w + 1 → (J 313 6).toInt = B w - 48) → (p = w + 2 → (J 313 6).toInt = 10 * (B w - 48) + (B (w + 1) - 48)) → reB dgB B n w = reB dgB B n p →
      Z l G mX11_advance 4 (fun v h2 => ∃ I, v = none ∧ h2 = (I, h.2) ∧ (FrM h I ∧ MTk I B n q)) 0 0 198 [va_rf (some 313), u1, u2, u3] [] (J, h.2) := by
    intro w ew hw hlw hdw fu
    have eE : tkE B n q = reB dgB B n w := by
      unfold tkE
      rw [← ew, if_neg (by omega), hlw, if_neg Bool.false_ne_true, if_pos hdw]
    have eK : tkK B n q = if tkE B n q - tkW B n q ≤ 2 then 1 else 4 := by
      unfold tkK
      rw [← ew, if_neg (by omega), hlw, if_neg Bool.false_ne_true, if_pos hdw]
    have dw := of_decide_eq_true hdw
    induction fu with
    | zero => intro p u1 u2 u3 J q1 q2 q3; omega
    | succ fu ih =>
      intro p u1 u2 u3 J q1 q2 q3 fr v4 v3 n0 n1 n2 re
      have tJ := fr.tp t
      have v3' : (zI (J, h.2) 313 3).toInt = (p : Int) := v3
      have v4' : (zI (J, h.2) 313 4).toInt = (w : Int) := v4
      have esub : (zI (J, h.2) 313 3 - zI (J, h.2) 313 4).toInt = ((p - w : Nat) : Int) := by rw [i_sub (by omega) (by omega)]; omega
      have eb := tJ.at v3'
      refine sX11_advance_198 (h := (J, h.2)) 313 u1 u2 u3 hl (Nat.le_refl _) ⟨tJ.ok v3', fun c1 => ?_, fun c6 => ?_⟩
      · rw [digit_i, eb] at c1
        have rp : reB dgB B n w = p := by rw [re]; exact reB_no dg_1 c1
        have pw : w < p := Nat.lt_of_le_of_ne q1 (fun z => by
          rw [← z, show bAt B n w = B w from if_pos hw, hdw] at c1; cases c1)
        rw [eE, rp, ← ew] at eK
        have fin : ∀ (K : Nat → Nat → Int32) (c5 : Int32), WrI (J, h.2) K 313 5 c5 → (p - w ≤ 2 → c5 = 1) → (¬ p - w ≤ 2 → c5 = 4) → FrM h K ∧ MTk K B n q := fun K c5 d y1 y2 => by
          refine ⟨fr.wr d (by decide), ?_, ?_, ?_, fun z => ?_, fun z => ?_⟩
          · rw [d.2.1 4 (by decide), ← ew]; exact v4
          · rw [d.2.1 3 (by decide), eE, rp]; exact v3
          · rw [d.2.2, eK]
            by_cases y : p - w ≤ 2
            · rw [if_pos y, y1 y]; rfl
            · rw [if_neg y, y2 y]; rfl
          · rw [eK] at z
            by_cases y : p - w ≤ 2
            · rw [d.2.1 6 (by decide)]
              unfold tkV
              rw [eE, rp, ← ew]
              by_cases y3 : p - w = 1
              · rw [if_pos y3]; exact n1 (by omega)
              · rw [if_neg y3]; exact n2 (by omega)
            · rw [if_neg y] at z; cases z
          · rw [eK] at z; split at z <;> cases z
        exact ⟨fun c2 I16 c3 => ⟨I16, rfl, rfl, fin I16 1 (zwI_eff c3) (fun _ => rfl) (fun z => absurd (by omega) z)⟩, fun c4 I19 c5 => ⟨I19, rfl, rfl, fin I19 4 (zwI_eff c5) (fun z => by omega) (fun _ => rfl)⟩⟩
      · rw [digit_i, eb] at c6
        have hp : p < n := Nat.lt_of_not_le fun z => by
          have e1 : bAt B n p = -1 := if_neg (by omega)
          rw [e1, dg_1] at c6; cases c6
        have ebp : bAt B n p = B p := if_pos hp
        have dp := of_decide_eq_true c6
        rw [ebp] at dp
        refine ⟨fun c7 I26 c8 => ?_, fun c9 => ⟨tJ.ok v3', fun I33 c10 I36 c11 => ?_⟩⟩
        · have d : WrI (J, h.2) I26 313 3 (zI (J, h.2) 313 3 + 1) := zwI_eff c8
          refine ih (p + 1) u1 u2 u3 I26 (by omega) (by omega) (by omega) (fr.wr d (by decide)) ?_ ?_ (fun z => by omega) (fun z => by omega) (fun z => by omega) ?_
          · rw [d.2.1 4 (by decide)]; exact v4
          · rw [d.2.2]; exact i_1 v3 (by omega)
          · rw [re]; exact reB_yes dg_1 c6
        · have d : WrI (J, h.2) I33 313 6 (10 * zI (J, h.2) 313 6 + zbyte (J, h.2) 313 (zI (J, h.2) 313 3) - 48) := zwI_eff c10
          have d2 : WrI (I33, h.2) I36 313 3 (zI (I33, h.2) 313 3 + 1) := zwI_eff c11
          have e3 : zI (I33, h.2) 313 3 = J 313 3 := d.2.1 3 (by decide)
          have num : (I36 313 6).toInt = 10 * (if p = w then 0 else B w - 48) + (B p - 48) := by
            rw [d2.2.1 6 (by decide)]
            show (I33 313 6).toInt = _
            rw [d.2.2]
            have e6 : (zI (J, h.2) 313 6).toInt = if p = w then 0 else B w - 48 := by
              by_cases y : p = w
              · rw [if_pos y]; show (J 313 6).toInt = _; rw [n0 y]; rfl
              · rw [if_neg y]; exact n1 (by omega)
            have e6b : 0 ≤ (zI (J, h.2) 313 6).toInt ∧ (zI (J, h.2) 313 6).toInt ≤ 9 := by
              rw [e6]; split <;> omega
            have ez : (zbyte (J, h.2) 313 (zI (J, h.2) 313 3)).toInt = B p := by rw [eb, ebp]
            have m1 : (10 * zI (J, h.2) 313 6).toInt = 10 * (zI (J, h.2) 313 6).toInt := i_mul (by show _ ≤ (10 : Int) * (zI (J, h.2) 313 6).toInt; omega) (by show (10 : Int) * (zI (J, h.2) 313 6).toInt < _; omega)
            have m2 : (10 * zI (J, h.2) 313 6 + zbyte (J, h.2) 313 (zI (J, h.2) 313 3)).toInt = 10 * (zI (J, h.2) 313 6).toInt + B p := by rw [i_add (by rw [m1, ez]; omega) (by rw [m1, ez]; omega), m1, ez]
            rw [i_sub (by rw [m2]; show _ ≤ _ - (48 : Int); omega) (by rw [m2]; show _ - (48 : Int) < _; omega), m2, e6]
            show _ + _ - (48 : Int) = _
            omega
          refine ih (p + 1) u1 u2 u3 I36 (by omega) (by omega) (by omega) ((fr.wr d (by decide)).wr d2 (by decide)) ?_ ?_ (fun z => by omega) (fun z => ?_) (fun z => ?_) ?_
          · rw [d2.2.1 4 (by decide)]; show (I33 313 4).toInt = _; rw [d.2.1 4 (by decide)]; exact v4
          · rw [d2.2.2, e3]; exact i_1 v3 (by omega)
          · have pw : p = w := by omega
            rw [num, if_pos pw, pw]; omega
          · have pw : p = w + 1 := by omega
            rw [num, if_neg (by omega), pw]
          · rw [re]; exact reB_yes dg_1 c6
  have loop : ∀ (fu p : Nat) (J : Nat → Nat → Int32), p ≤ n → n - p < fu → FrM h J → (J 313 3).toInt = (p : Int) → tkW B n q = reB blB B n p →
      Z l G mX11_advance 4 (fun v h2 => ∃ I, v = none ∧ h2 = (I, h.2) ∧ (FrM h I ∧ MTk I B n q)) 0 0 0 [va_rf (some 313), zU, zU, zU] [] (J, h.2) := by
    intro fu
    induction fu with
    | zero => intro p J q1 q2; omega
    | succ fu ih =>
      intro p J q1 q2 fr v3 re
      have tJ := fr.tp t
      have v3' : (zI (J, h.2) 313 3).toInt = (p : Int) := v3
      have eb := tJ.at v3'
      have blk : ∀ (c : Int32) (I : Nat → Nat → Int32), zbyte (J, h.2) 313 (zI (J, h.2) 313 3) = c → (c.toInt = 10 ∨ c.toInt = 32) → WrI (J, h.2) I 313 3 (zI (J, h.2) 313 3 + 1) → Z l G mX11_advance 4 (fun v h2 => ∃ I, v = none ∧ h2 = (I, h.2) ∧ (FrM h I ∧ MTk I B n q)) 0 0 0 [va_rf (some 313), zU, zU, zU] [] (I, h.2) := fun c I e ec d => by
        rw [e] at eb
        have bl : blB (bAt B n p) = true := decide_eq_true (by rw [← eb]; exact ec)
        have hp : p < n := Nat.lt_of_not_le fun z => by
          have e1 : bAt B n p = -1 := if_neg (by omega)
          rw [e1, bl_1] at bl; cases bl
        refine ih (p + 1) I (by omega) (by omega) (fr.wr d (by decide)) ?_ ?_
        · rw [d.2.2]; exact i_1 v3 (by omega)
        · rw [re]; exact reB_yes bl_1 bl
      refine sX11_advance_0 (h := (J, h.2)) 313 hl (Nat.le_refl _) ⟨tJ.ok v3', fun c1 I9 c2 => blk 10 I9 c1 (Or.inl rfl) (zwI_eff c2), fun c3 => ⟨tJ.ok v3', fun c4 I20 c5 => ?_, fun c19 I64 c20 => blk 32 I64 c19 (Or.inr rfl) (zwI_eff c20)⟩⟩
      have nb : blB (bAt B n p) = false := decide_eq_false (fun z => z.elim (fun y => c3 (i_ext (eb.trans y))) (fun y => c4 (i_ext (eb.trans y))))
      have ew : tkW B n q = p := by rw [re]; exact reB_no bl_1 nb
      have d : WrI (J, h.2) I20 313 4 (zI (J, h.2) 313 3) := zwI_eff c5
      have f20 : FrM h I20 := fr.wr d (by decide)
      have t20 := f20.tp t
      have w3 : (zI (I20, h.2) 313 3).toInt = (p : Int) := by show (I20 313 3).toInt = _; rw [d.2.1 3 (by decide)]; exact v3
      have w4 : (I20 313 4).toInt = (p : Int) := by rw [d.2.2]; exact v3
      have eb2 := t20.at w3
      refine ⟨t20.ok w3, fun c6 => ?_, fun c17 I61 c18 => ⟨I61, rfl, rfl, ?_⟩⟩
      · have hp : p < n := Nat.lt_of_not_le fun z => by
          have e1 : bAt B n p = -1 := if_neg (by omega)
          rw [eb2, e1] at c6
          exact absurd c6 (by decide)
        have ebp : bAt B n p = B p := if_pos hp
        have wlt : ¬ n ≤ tkW B n q := by omega
        rw [letter_i, digit_i, eb2, ebp]
        refine ⟨fun c7 => ⟨fun c8 I45 c9 => ?_, fun c14 I58 c15 => ?_⟩, fun c16 => ?_⟩
        · have d2 : WrI (I20, h.2) I45 313 3 (zI (I20, h.2) 313 3 + 1) := zwI_eff c9
          have eE : tkE B n q = p + 1 := by
            unfold tkE
            rw [if_neg wlt, ew, c7, c8, if_neg Bool.false_ne_true, if_neg Bool.false_ne_true]
          have eK : tkK B n q = if B p = 59 then 2 else 4 := by
            unfold tkK
            rw [if_neg wlt, ew, c7, c8, if_neg Bool.false_ne_true, if_neg Bool.false_ne_true]
          have fin : ∀ (K : Nat → Nat → Int32) (c5 : Int32), WrI (I45, h.2) K 313 5 c5 → (B p = 59 → c5 = 2) → (¬ B p = 59 → c5 = 4) → FrM h K ∧ MTk K B n q := fun K c5 e y1 y2 => by
            refine ⟨(f20.wr d2 (by decide)).wr e (by decide), ?_, ?_, ?_, fun z => ?_, fun z => ?_⟩
            · rw [e.2.1 4 (by decide), ew]; show (I45 313 4).toInt = _; rw [d2.2.1 4 (by decide)]; exact w4
            · rw [e.2.1 3 (by decide), eE]; show (I45 313 3).toInt = _; rw [d2.2.2]; exact i_1 w3 (by omega)
            · rw [e.2.2, eK]
              by_cases y : B p = 59
              · rw [if_pos y, y1 y]; rfl
              · rw [if_neg y, y2 y]; rfl
            · rw [eK] at z; split at z <;> cases z
            · rw [eK] at z; split at z <;> cases z
          exact ⟨fun c10 I52 c11 => ⟨I52, rfl, rfl, fin I52 4 (zwI_eff c11) (fun y => absurd (i_ext (y := 59) ((eb2.trans ebp).trans y)) c10) (fun _ => rfl)⟩, fun c12 I55 c13 => ⟨I55, rfl, rfl, fin I55 2 (zwI_eff c13) (fun _ => rfl) (fun y => absurd (by rw [← ebp, ← eb2, c12]; rfl) y)⟩⟩
        · have d2 : WrI (I20, h.2) I58 313 6 0 := zwI_eff c15
          refine digs p ew.symm hp c7 c14 (n + 1) p _ _ _ I58 (Nat.le_refl _) (by omega) (by omega) (f20.wr d2 (by decide)) ?_ ?_ (fun _ => d2.2.2) (fun z => by omega) (fun z => by omega) rfl
          · rw [d2.2.1 4 (by decide)]; exact w4
          · rw [d2.2.1 3 (by decide)]; exact w3
        · exact lets p ew.symm hp c16 (n + 1) p _ 0 I20 (Nat.le_refl _) (by omega) (by omega) f20 w4 w3 (fun j hj => by omega) (by rw [Nat.sub_self]; rfl) rfl
      · have hp : ¬ p < n := fun z => by
          have e1 : bAt B n p = B p := if_pos z
          rw [eb2, e1] at c17
          have := (t.2.1 p z).2.1
          omega
        have e : WrI (I20, h.2) I61 313 5 0 := zwI_eff c18
        have eK : tkK B n q = 0 := tk_end.mpr (by omega)
        have eE : tkE B n q = p := by
          unfold tkE
          rw [if_pos (by omega)]; exact ew
        refine ⟨f20.wr e (by decide), ?_, ?_, ?_, fun z => ?_, fun z => ?_⟩
        · rw [e.2.1 4 (by decide), ew]; exact w4
        · rw [e.2.1 3 (by decide), eE]; exact w3
        · rw [e.2.2, eK]; rfl
        · rw [eK] at z; cases z
        · rw [eK] at z; cases z
  exact kX11_advance 313 (loop (n + 1) q h.1 hq (by omega) (FrM.rf h) h3 rfl)
end K9P
