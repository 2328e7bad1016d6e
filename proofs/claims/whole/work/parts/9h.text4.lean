set_option maxRecDepth 4000
/-! ===== texts: the class's faults, weighing, which line ===== -/
section K9H
variable {B : Nat → Int} {n : Nat}
/-- the fault that the class holds -/
def FlC (h : zH) (s : Nat × Nat) : Prop := (zI h 55 2).toInt = (s.1 : Int) ∧ (s.1 = 0 → zI h 55 3 = -1) ∧ (s.1 ≠ 0 → (zI h 55 3).toInt = (s.2 : Int))
def FrF (h : zH) (I : Nat → Nat → Int32) : Prop := (∀ b, b ≠ 55 → I b = h.1 b) ∧ ∀ k, k ≠ 2 → k ≠ 3 → I 55 k = h.1 55 k
theorem FrF.rf (h : zH) : FrF h h.1 := ⟨fun _ _ => rfl, fun _ _ _ => rfl⟩
theorem FrF.tr {h : zH} {I J : Nat → Nat → Int32} (a : FrF h I) (c : FrF (I, h.2) J) : FrF h J := ⟨fun b z => (c.1 b z).trans (a.1 b z), fun k z1 z2 => (c.2 k z1 z2).trans (a.2 k z1 z2)⟩
theorem FrF.tp {h : zH} {I : Nat → Nat → Int32} (f : FrF h I) (t : TpC h B n) : TpC (I, h.2) B n := t.cg (f.1 2 (by decide)) (f.2 5 (by decide) (by decide))
theorem c_note (l : Launch) (G : zG) (h : zH) (s : Nat × Nat) (x1 : Int32) (k p : Nat) (hl : lo5 h 55) (f : FlC h s) (hx : x1.toInt = (k : Int)) (hk : k ≠ 0) (hp : (zI h 55 7).toInt = (p : Int)) :
    CTv l G YX5_note 1 [va_rf (some 55), .int x1] h (fun I => FrF h I ∧ FlC (I, h.2) (ntS s k p)) := by
  obtain ⟨f1, f2, f3⟩ := f
  refine kX5_note 55 x1 (sX5_note_0 55 x1 hl (Nat.le_refl _) ⟨fun c1 => ⟨h.1, rfl, rfl, FrF.rf h, ?_⟩, fun c2 I5 c3 I8 c4 => ⟨I8, rfl, rfl, ?_, ?_⟩⟩)
  · have s0 : s.1 ≠ 0 := fun z => c1 (i_ext (by rw [f1, z]; rfl))
    show FlC h (ntS s k p)
    unfold ntS
    rw [if_neg s0]; exact ⟨f1, f2, f3⟩
  · obtain ⟨a1, a2, a3⟩ := zwI_eff c3
    obtain ⟨b1, b2, b3⟩ := zwI_eff c4
    exact ⟨fun b z => (b1 b z).trans (a1 b z), fun k z2 z3 => (b2 k z3).trans (a2 k z2)⟩
  · obtain ⟨a1, a2, a3⟩ := zwI_eff c3
    obtain ⟨b1, b2, b3⟩ := zwI_eff c4
    have s0 : s.1 = 0 := by
      rw [c2] at f1
      have f1' : (0 : Int) = (s.1 : Int) := f1
      omega
    have e : ntS s k p = (k, p) := if_pos s0
    rw [e]
    have e7 : zI (I5, h.2) 55 7 = zI h 55 7 := a2 7 (by decide)
    refine ⟨?_, fun z => absurd z hk, fun _ => ?_⟩
    · show (I8 55 2).toInt = (k : Int)
      rw [b2 2 (by decide)]
      show (I5 55 2).toInt = (k : Int)
      rw [a3]; exact hx
    · show (I8 55 3).toInt = (p : Int)
      rw [b3, e7]; exact hp
theorem c_isFull (l : Launch) (G : zG) (h : zH) (o : Nat) (x1 : Int32) (V : Nat → Int) (hl : lo5 h 55) (ho : 1 ≤ o) (hx : x1.toInt = (o : Int) - 1) (v3 : o = 3 → (zI h 56 3).toInt = V 3) (v4 : o = 10 → (zI h 56 4).toInt = V 4) (v0 : o = 11 → (zI h 74 0).toInt = V 0) :
    CTz l G YX5_isFull 1 [va_rf (some 55), .int x1] h (fun y I => I = h.1 ∧ y = fulT o V) := by
  have no : ¬ ((o = 3 ∧ 6 ≤ V 3) ∨ (o = 10 ∧ 5 ≤ V 4) ∨ (o = 11 ∧ 10 ≤ V 0)) → false = fulT o V := fun z => (decide_eq_false z).symm
  have ya : ((o = 3 ∧ 6 ≤ V 3) ∨ (o = 10 ∧ 5 ≤ V 4) ∨ (o = 11 ∧ 10 ≤ V 0)) → true = fulT o V := fun z => (decide_eq_true z).symm
  refine kX5_isFull 55 x1 (sX5_isFull_0 55 x1 hl (Nat.le_refl _) ⟨fun c1 => ⟨fun c2 => ⟨false, h.1, rfl, rfl, rfl, no ?_⟩, fun c3 => ⟨true, h.1, rfl, rfl, rfl, ya ?_⟩⟩, fun c4 => ⟨fun c5 => ⟨fun c6 => ⟨false, h.1, rfl, rfl, rfl, no ?_⟩, fun c7 => ⟨true, h.1, rfl, rfl, rfl, ya ?_⟩⟩, fun c8 => ⟨fun c9 => ⟨fun c10 => ⟨false, h.1, rfl, rfl, rfl, no ?_⟩, fun c11 => ⟨true, h.1, rfl, rfl, rfl, ya ?_⟩⟩, fun c12 => ⟨false, h.1, rfl, rfl, rfl, no ?_⟩⟩⟩⟩)
  · have o3 : o = 3 := by omega
    have c' : (zI h 56 3).toInt < (6 : Int) := c2
    rw [v3 o3] at c'
    omega
  · have o3 : o = 3 := by omega
    have c' : (6 : Int) ≤ (zI h 56 3).toInt := c3
    rw [v3 o3] at c'
    exact Or.inl ⟨o3, c'⟩
  · have o3 : o = 10 := by omega
    have c' : (zI h 56 4).toInt < (5 : Int) := c6
    rw [v4 o3] at c'
    omega
  · have o3 : o = 10 := by omega
    have c' : (5 : Int) ≤ (zI h 56 4).toInt := c7
    rw [v4 o3] at c'
    exact Or.inr (Or.inl ⟨o3, c'⟩)
  · have o3 : o = 11 := by omega
    have c' : (zI h 74 0).toInt < (10 : Int) := c10
    rw [v0 o3] at c'
    omega
  · have o3 : o = 11 := by omega
    have c' : (10 : Int) ≤ (zI h 74 0).toInt := c11
    rw [v0 o3] at c'
    exact Or.inr (Or.inr ⟨o3, c'⟩)
  · omega
/-! weighing -/
theorem tb_lo : ∀ o, o < 12 → ∀ i, i < lsT o → (tLe.getD ((o - 1) * 5 + i) 0).toInt = loT o i := by decide +kernel
theorem tb_hi : ∀ o, o < 12 → ∀ i, i < lsT o → (tMo.getD ((o - 1) * 5 + i) 0).toInt = hiT o i := by decide +kernel
theorem tb_ls : ∀ o, o < 12 → lsT o ≤ 5 := by decide
theorem tb_nu : ∀ o, o < 12 → 1 ≤ o → (tNu.getD (o - 1) 0).toInt = (lsT o : Int) := by decide +kernel
theorem tb_4 : ∀ i, 3 ≤ i → loT 4 i = loT 4 3 ∧ hiT 4 i = hiT 4 3
  | 0, h | 1, h | 2, h => by omega
  | 3, _ => ⟨rfl, rfl⟩
  | k + 4, _ => ⟨rfl, rfl⟩
theorem ro_get {h : zH} {m N : Nat} {T : List Int32} {x : Int32} {j : Nat} (k : (zK h m).2 = N) (v : ∀ j, zI h m j = T.getD j 0) (hx : x.toInt = (j : Int)) (hj : j < N) : zget h (some m) x = T.getD j 0 := by
  show (if 0 ≤ x.toInt ∧ x.toInt < ((zK h m).2 : Int) then zI h m (zix x) else -1) = _
  rw [if_pos ⟨by omega, by rw [k]; omega⟩, zix_of hx, v]
theorem ro_gok {h : zH} {m N : Nat} (k : (zK h m).2 = N) (h1 : 1000000 ≤ m) (h2 : m < 1000004) (hN : N < 100000) : zgok h (some m) := fun b e => by
  cases e
  exact ⟨⟨rfl, Or.inr ⟨h1, h2⟩⟩, by rw [k]; exact hN⟩
theorem c_weigh (l : Launch) (G : zG) (gt : GTab G) (h : zH) (o i : Nat) (x1 x2 : Int32) (s : Nat × Nat) (p : Nat) (v a0 : Int) (hl : lo5 h 55) (ho : 1 ≤ o ∧ o < 12) (hx1 : x1.toInt = (o : Int) - 1) (hx2 : x2.toInt = (i : Int)) (hi : i < 600 ∧ (o ≠ 4 → i < lsT o)) (f : FlC h s) (hp : (zI h 55 7).toInt = (p : Int)) (hv : (zI h 55 9).toInt = v) (ha0 : 1 ≤ i → (zI h 80 0).toInt = a0) :
    CTv l G YX5_weigh 2 [va_rf (some 55), .int x1, .int x2] h (fun I => FrF h I ∧ FlC (I, h.2) (if o = 4 ∧ i = 27 then ntS (if bdT o i v a0 = true then ntS s 2 p else s) 3 p else (if bdT o i v a0 = true then ntS s 2 p else s))) := by
  refine kX5_weigh 55 x1 x2 (z_ro (fun ro => ?_))
  obtain ⟨g1, g2, g3⟩ := gt
  have k2 : (zK h 1000002).2 = 55 := by rw [(ro 2 (by decide)).1, g2]
  have k3 : (zK h 1000003).2 = 55 := by rw [(ro 3 (by decide)).1, g3]
  have v2 : ∀ j, zI h 1000002 j = tLe.getD j 0 := fun j => by rw [(ro 2 (by decide)).2 j, g2]
  have v3 : ∀ j, zI h 1000003 j = tMo.getD j 0 := fun j => by rw [(ro 3 (by decide)).2 j, g3]
  have gk2 : zgok h (some 1000002) := ro_gok k2 (by decide) (by decide) (by decide)
  have gk3 : zgok h (some 1000003) := ro_gok k3 (by decide) (by decide) (by decide)
  have l5 := tb_ls o ho.2
  have z8 : (zget h (some (55 + 25)) (0 : Int32)) = zI h 80 0 := zget_w (n := 27) (i := 0) (hl.w 25 rfl) rfl (by decide)
  -- the column
  obtain ⟨j, j1, j2, j3, j4⟩ : ∃ j, j < lsT o ∧ loT o i = loT o j ∧ hiT o i = hiT o j ∧ (j : Int) = if o = 4 then min (i : Int) 3 else (i : Int) := by
    by_cases o4 : o = 4
    · subst o4
      by_cases y : 3 ≤ i
      · exact ⟨3, by decide, (tb_4 i y).1, (tb_4 i y).2, by rw [if_pos rfl]; omega⟩
      · exact ⟨i, by show i < 4; omega, rfl, rfl, by rw [if_pos rfl]; omega⟩
    · exact ⟨i, hi.2 o4, rfl, rfl, by rw [if_neg o4]⟩
  have lo := tb_lo o ho.2 j j1
  have hi2 := tb_hi o ho.2 j j1
  rw [← j2] at lo
  rw [← j3] at hi2
  have hL : ∀ x3 : Int32, x3.toInt = (((o - 1) * 5 + j : Nat) : Int) → (zget h (some 1000002) x3).toInt = loT o i ∧ (zget h (some 1000003) x3).toInt = hiT o i := fun x3 hx => by
    rw [ro_get k2 v2 hx (by omega), ro_get k3 v3 hx (by omega)]
    exact ⟨lo, hi2⟩
  have m5 : (x1 * 5).toInt = x1.toInt * 5 := i_mul (by show _ ≤ x1.toInt * (5 : Int); omega) (by show x1.toInt * (5 : Int) < _; omega)
  have col : ∀ c : Int32, c.toInt = (if o = 4 then 3 else 4) → (x1 * 5 + imin x2 c).toInt = (((o - 1) * 5 + j : Nat) : Int) := fun c hc => by
    have em : (imin x2 c).toInt = (j : Int) := by
      rw [imin_t, hc, hx2, j4]
      by_cases o4 : o = 4
      · rw [if_pos o4, if_pos o4]; split <;> omega
      · have := hi.2 o4
        rw [if_neg o4, if_neg o4, if_neg (by omega)]
    rw [i_add (by omega) (by omega), m5, em]; omega
  -- the end
  have w89 : ∀ (J : Nat → Nat → Int32) (u3 u4 : Value), FrF h J → FlC (J, h.2) (if bdT o i v a0 = true then ntS s 2 p else s) →
      Z l G mX5_weigh 2 (fun v1 h1 => ∃ I, v1 = none ∧ h1 = (I, h.2) ∧ (FrF h I ∧ FlC (I, h.2) (if o = 4 ∧ i = 27 then ntS (if bdT o i v a0 = true then ntS s 2 p else s) 3 p else (if bdT o i v a0 = true then ntS s 2 p else s)))) 0 0 89 [va_rf (some 55), .int x1, .int x2, u3, u4] [] (J, h.2) := fun J u3 u4 fr fl => by
    have q7 : (zI (J, h.2) 55 7).toInt = (p : Int) := by show (J 55 7).toInt = _; rw [fr.2 7 (by decide) (by decide)]; exact hp
    refine sX5_weigh_89 (h := (J, h.2)) 55 x1 x2 u3 u4 hl (Nat.le_refl _) ⟨fun c1 => sX5_weigh_105 (h := (J, h.2)) 55 x1 x2 u3 u4 hl (Nat.le_refl _) ⟨J, rfl, rfl, fr, ?_⟩, fun c2 => ⟨fun c3 => sX5_weigh_105 (h := (J, h.2)) 55 x1 x2 u3 u4 hl (Nat.le_refl _) ⟨J, rfl, rfl, fr, ?_⟩, fun c4 => ⟨_, c_note l G (J, h.2) _ 3 3 p hl fl rfl (by decide) q7, fun I12 c5 => sX5_weigh_105 (h := (I12, h.2)) 55 x1 x2 u3 u4 hl (Nat.le_refl _) ⟨I12, rfl, rfl, fr.tr c5.1, ?_⟩⟩⟩⟩
    · rw [if_neg (fun z => c1 (i_ext (by rw [hx1, z.1]; rfl)))]; exact fl
    · rw [if_neg (fun z => c3 (i_ext (by rw [hx2, z.2]; rfl)))]; exact fl
    · have e1 : o = 4 := by rw [c2] at hx1; have : (3 : Int) = (o : Int) - 1 := hx1; omega
      have e2 : i = 27 := by rw [c4] at hx2; have : (27 : Int) = (i : Int) := hx2; omega
      rw [if_pos ⟨e1, e2⟩]; exact c5.2
  have w84 : ∀ (u3 u4 : Value), bdT o i v a0 = true →
      Z l G mX5_weigh 2 (fun v1 h1 => ∃ I, v1 = none ∧ h1 = (I, h.2) ∧ (FrF h I ∧ FlC (I, h.2) (if o = 4 ∧ i = 27 then ntS (if bdT o i v a0 = true then ntS s 2 p else s) 3 p else (if bdT o i v a0 = true then ntS s 2 p else s)))) 0 0 84 [va_rf (some 55), .int x1, .int x2, u3, u4] [] h := fun u3 u4 bd =>
    sX5_weigh_84 (h := h) 55 x1 x2 u3 u4 hl (Nat.le_refl _) ⟨_, c_note l G h s 2 2 p hl f rfl (by decide) hp, fun I4 c1 => w89 I4 u3 u4 c1.1 (by rw [if_pos bd]; exact c1.2)⟩
  have b1 : v < loT o i → bdT o i v a0 = true := fun z => decide_eq_true (Or.inl z)
  have b2 : hiT o i < v → bdT o i v a0 = true := fun z => decide_eq_true (Or.inr (Or.inl z))
  have w48 : ∀ (x3 : Int32) (u4 : Value), x3.toInt = (((o - 1) * 5 + j : Nat) : Int) → ¬ (o = 5 ∧ i = 1 ∧ v = a0) →
      Z l G mX5_weigh 2 (fun v1 h1 => ∃ I, v1 = none ∧ h1 = (I, h.2) ∧ (FrF h I ∧ FlC (I, h.2) (if o = 4 ∧ i = 27 then ntS (if bdT o i v a0 = true then ntS s 2 p else s) 3 p else (if bdT o i v a0 = true then ntS s 2 p else s)))) 0 0 48 [va_rf (some 55), .int x1, .int x2, .int x3, u4] [] h := fun x3 u4 hx3 nc => by
    obtain ⟨e1, e2⟩ := hL x3 hx3
    refine sX5_weigh_48 (h := h) 55 x1 x2 x3 u4 hl (Nat.le_refl _) ⟨gk2, fun c1 => w84 _ _ (b1 (by omega)), fun c2 => ⟨gk3, fun c3 => w84 _ _ (b2 (by omega)), fun c4 => w89 h.1 _ _ (FrF.rf h) ?_⟩⟩
    have nb : bdT o i v a0 = false := decide_eq_false (fun z => z.elim (fun y => by omega) (fun y => y.elim (fun x => by omega) nc))
    rw [if_neg (by rw [nb]; exact Bool.false_ne_true)]; exact f
  have o5 : x1 = 4 → o = 5 := fun e => by rw [e] at hx1; have : (4 : Int) = (o : Int) - 1 := hx1; omega
  have o5n : ¬ x1 = 4 → o ≠ 5 := fun e z => e (i_ext (by rw [hx1, z]; rfl))
  have o4 : x1 = 3 → o = 4 := fun e => by rw [e] at hx1; have : (3 : Int) = (o : Int) - 1 := hx1; omega
  have o4n : ¬ x1 = 3 → o ≠ 4 := fun e z => e (i_ext (by rw [hx1, z]; rfl))
  have i1 : x2 = 1 → i = 1 := fun e => by rw [e] at hx2; have : (1 : Int) = (i : Int) := hx2; omega
  have i1n : ¬ x2 = 1 → i ≠ 1 := fun e z => e (i_ext (by rw [hx2, z]; rfl))
  have cA : ¬ x1 = 3 → (x1 * 5 + imin x2 (4 : Int32)).toInt = (((o - 1) * 5 + j : Nat) : Int) := fun e => col 4 (by rw [if_neg (o4n e)]; rfl)
  have cB : x1 = 3 → (x1 * 5 + imin x2 (3 : Int32)).toInt = (((o - 1) * 5 + j : Nat) : Int) := fun e => col 3 (by rw [if_pos (o4 e)]; rfl)
  refine sX5_weigh_0 (h := h) 55 x1 x2 hl (Nat.le_refl _) ⟨fun c1 => ⟨fun c2 => w48 _ _ (cA c1) (fun z => o5n c2 z.1), fun c3 => ⟨fun c4 => w48 _ _ (cA c1) (fun z => i1n c4 z.2.1), fun c5 => ⟨fun c6 => w48 _ _ (cA c1) (fun z => c6 ?_), fun c7 => ⟨gk2, fun c8 => w84 _ _ (b1 ?_), fun c9 => ⟨gk3, fun c10 => w84 _ _ (b2 ?_), fun c11 => w84 _ _ ?_⟩⟩⟩⟩⟩, fun c12 => ⟨fun c13 => w48 _ _ (cB c12) (fun z => o5n c13 z.1), fun c14 => absurd (c12.symm.trans c14) (by decide)⟩⟩
  · rw [z8]; exact i_ext (by rw [hv, ha0 (by omega)]; exact z.2.2)
  · have := (hL _ (cA c1)).1
    omega
  · have := (hL _ (cA c1)).2
    omega
  · have e := ha0 (by have := i1 c5; omega)
    rw [z8] at c7
    exact decide_eq_true (Or.inr (Or.inr ⟨o5 c3, i1 c5, by rw [← hv, c7, e]⟩))
/-! which line -/
theorem c_wordOf (l : Launch) (G : zG) (h : zH) (i : Nat) (x0 : Int32) (hi : i < 11) (hx : x0.toInt = (i : Int)) : CTr l G YX5_wordOf 1 [.int x0] h (fun y I => y = some (1000000 + (10 + i)) ∧ I = h.1) := by
  have go : ∀ m : Nat, i = m → (∃ x I1, (some (va_rf (some (1000010 + m))) : Option Value) = some (va_rf x) ∧ h = (I1, h.2) ∧ (x = some (1000000 + (10 + i)) ∧ I1 = h.1)) := fun m e => by
    subst e
    exact ⟨some (1000010 + i), h.1, rfl, rfl, by rw [show 1000010 + i = 1000000 + (10 + i) by omega], rfl⟩
  exact kX5_wordOf x0 (sX5_wordOf_0 x0 (Nat.le_refl _) ⟨fun c1 => go 10 (by omega), fun c2 => go 0 (by omega), fun c3 => go 1 (by omega), fun c4 => go 2 (by omega), fun c5 => go 3 (by omega), fun c6 => go 4 (by omega), fun c7 => go 5 (by omega), fun c8 => go 6 (by omega), fun c9 => go 7 (by omega), fun c10 => go 8 (by omega), fun c11 => go 9 (by omega)⟩)
theorem by_wd : ∀ i, i < 11 → ∀ j, j < 8 → (bySt i j).toInt = (wdI i).getD j 0 := by decide +kernel
theorem ln_wd : ∀ i, i < 11 → zsl.getD i 0 = (wdI i).length := by decide +kernel
theorem wd_inj : ∀ i, i < 11 → ∀ j, j < 11 → wdI i = wdI j → i = j := by decide
theorem sp_c {h : zH} (t : TpC h B n) {w e i : Nat} (hi : i < 11) (h1 : w ≤ e) (h2 : e ≤ n) (h7 : (zI h 55 7).toInt = (w : Int)) (h8 : (zI h 55 8).toInt = (e : Int)) :
    (zI h 55 8 - zI h 55 7 = Int32.ofNat (zsl.getD i 0) ∧ ∀ j, j < zsl.getD i 0 → zget h (zR h 55 4) (zI h 55 7 + Int32.ofNat j) = bySt i j) ↔ spB B w e i = true := by
  have n6 := t.2.2.2.1
  have l8 := ln_8 i hi
  have lw := ln_wd i hi
  have el : (Int32.ofNat (zsl.getD i 0)).toInt = ((zsl.getD i 0 : Nat) : Int) := i_ofNat (by omega)
  have es : (zI h 55 8 - zI h 55 7).toInt = (e : Int) - w := by rw [i_sub (by omega) (by omega), h7, h8]
  have at_ : ∀ j, j < zsl.getD i 0 → w + j < n → (zget h (zR h 55 4) (zI h 55 7 + Int32.ofNat j)).toInt = B (w + j) := fun j hj hn => by
    have ej : (Int32.ofNat j).toInt = (j : Int) := i_ofNat (by omega)
    have ea : (zI h 55 7 + Int32.ofNat j).toInt = ((w + j : Nat) : Int) := by rw [i_add (by omega) (by omega), h7, ej]; omega
    have := t.at ea hn
    exact this.1.trans this.2
  unfold spB
  rw [decide_eq_true_eq, ← lw]
  refine ⟨fun ⟨q1, q2⟩ => ?_, fun ⟨q1, q2⟩ => ⟨i_ext (by rw [es, el]; omega), fun j hj => i_ext ?_⟩⟩
  · have e1 : (e : Int) - w = ((zsl.getD i 0 : Nat) : Int) := by rw [← es, q1, el]
    refine ⟨by omega, fun k hk => ?_⟩
    rw [← by_wd i hi k (by omega), ← q2 k hk]
    exact (at_ k hk (by omega)).symm
  · rw [at_ j hj (by omega), q2 j hj, by_wd i hi j (by omega)]
theorem o1_sp {sort q : Nat} (h : o1B B n sort q = true) : ∃ i, tkO B n q = i + 1 ∧ i < 11 ∧ spB B (tkW B n q) (tkE B n q) i = true ∧ okO sort (i + 1) = true ∧ tkK B n q = 3 := by
  have h2 := (Bool.and_eq_true _ _).mp h
  have k3 : tkK B n q = 3 := of_decide_eq_true h2.1
  obtain ⟨a, _, c⟩ := wcB_sp (B := B) (w := tkW B n q) (e := tkE B n q) 11
  have ne : tkO B n q ≠ 0 := fun z => by
    have := h2.2
    rw [z] at this
    unfold okO at this
    split at this
    · exact absurd (of_decide_eq_true this) (by omega)
    · exact absurd (of_decide_eq_true this) (by decide)
  have e : tkO B n q = (tkO B n q - 1) + 1 := by omega
  have a' : tkO B n q ≤ 11 := a
  refine ⟨tkO B n q - 1, e, by omega, (c _ e).1, ?_, k3⟩
  rw [← e]; exact h2.2
theorem o1_of {sort q i : Nat} (hi : i < 11) (s : spB B (tkW B n q) (tkE B n q) i = true) (ok : okO sort (i + 1) = true) (k : tkK B n q = 3 ∨ (tkK B n q = 4 ∧ tkO B n q = 0)) : o1B B n sort q = true ∧ tkO B n q = i + 1 := by
  obtain ⟨a, b, c⟩ := wcB_sp (B := B) (w := tkW B n q) (e := tkE B n q) 11
  have ne : tkO B n q ≠ 0 := fun z => by
    have := b z i hi
    rw [s] at this; cases this
  have e : tkO B n q = (tkO B n q - 1) + 1 := by omega
  have a' : tkO B n q ≤ 11 := a
  have s2 := (c _ e).1
  have ei : wdI i = wdI (tkO B n q - 1) := (sp_ls.mp s).symm.trans (sp_ls.mp s2)
  have ei2 := wd_inj i hi (tkO B n q - 1) (by omega) ei
  have k3 : tkK B n q = 3 := k.elim id (fun z => absurd z.2 ne)
  have eo : tkO B n q = i + 1 := by omega
  refine ⟨?_, eo⟩
  unfold o1B
  rw [k3, eo, ok]; rfl
theorem c_lineTold (l : Launch) (G : zG) (h : zH) (sort q : Nat) (x1 : Int32) (hl : lo5 h 55) (t : TpC h B n) (hq : q ≤ n) (hs : x1.toInt = (sort : Int)) (hs2 : sort = 0 ∨ sort = 1) (k : TkC h.1 B n q) :
    CTi l G YX5_lineTold 6 [va_rf (some 55), .int x1] h (fun y I => I = h.1 ∧ y.toInt = (if o1B B n sort q = true then (tkO B n q : Int) - 1 else -1)) := by
  obtain ⟨k7, k8, _, _, _, kw, _, kW⟩ := k
  have le := tk_le (B := B) (n := n) hq
  have loop : ∀ (fst lst : Nat), lst < 11 → (∀ i, i < 11 → (okO sort (i + 1) = true ↔ fst ≤ i ∧ i ≤ lst)) → ∀ (fu i : Nat) (x3 x4 : Int32) (u2 : Value), x3.toInt = (lst : Int) → x4.toInt = (i : Int) → fst ≤ i → 11 - i < fu → (∀ j, fst ≤ j → j < i → spB B (tkW B n q) (tkE B n q) j = false) →
      Z l G mX5_lineTold 6 (fun v h1 => ∃ x I1, v = some (.int x) ∧ h1 = (I1, h.2) ∧ (I1 = h.1 ∧ x.toInt = (if o1B B n sort q = true then (tkO B n q : Int) - 1 else -1))) 0 0 26 [va_rf (some 55), .int x1, u2, .int x3, .int x4] [] h := by
    intro fst lst hl11 ok fu
    induction fu with
    | zero => intro i x3 x4 u2 e3 e4 q1 q2; omega
    | succ fu ih =>
      intro i x3 x4 u2 e3 e4 q1 q2 q3
      refine sX5_lineTold_26 (h := h) 55 x1 u2 x3 x4 hl (Nat.le_refl _) ⟨fun c1 => ⟨-1, h.1, rfl, rfl, rfl, ?_⟩, fun c2 => ⟨fun c3 => ⟨-1, h.1, rfl, rfl, rfl, ?_⟩, fun c4 => ⟨_, c_wordOf l G h i x4 (by omega) e4, fun y14 I12 c5 => ?_⟩⟩⟩
      · rw [if_neg (fun z => ?_)]; · rfl
        obtain ⟨i0, d1, d2, d3, d4, d5⟩ := o1_sp z
        have := (ok i0 d2).mp d4
        have w := q3 i0 this.1 (by omega)
        rw [d3] at w; cases w
      · rw [if_neg (fun z => ?_)]; · rfl
        obtain ⟨i0, d1, d2, d3, d4, d5⟩ := o1_sp z
        exact c3 (kw d5)
      · obtain ⟨ey, eI⟩ := c5
        subst eI
        subst ey
        refine ⟨_, c_spells l G (h.1, h.2) 55 i hl t.g (by omega), fun y23 I21 c6 => ?_⟩
        obtain ⟨d1, d2⟩ := c6
        have e21 : I21 = h.1 := d2
        subst e21
        have ds := d1.trans (sp_c (h := (h.1, h.2)) t (i := i) (by omega) le.2.1 le.2.2 k7 k8)
        refine ⟨fun c7 => ih (i + 1) x3 (x4 + 1) u2 e3 (i_1 e4 (by omega)) (by omega) (by omega) (fun j j1 j2 => ?_), fun c8 => ⟨x4, h.1, rfl, rfl, rfl, ?_⟩⟩
        · by_cases z : j = i
          · rw [z]
            cases y : spB B (tkW B n q) (tkE B n q) i with
            | false => rfl
            | true => rw [ds.mpr y] at c7; cases c7
          · exact q3 j j1 (by omega)
        · have := o1_of (sort := sort) (by omega) (ds.mp c8) ((ok i (by omega)).mpr ⟨q1, by omega⟩) (kW c4)
          rw [if_pos this.1, this.2, e4]; omega
  have ok0 : sort = 0 → ∀ i, i < 11 → (okO sort (i + 1) = true ↔ 0 ≤ i ∧ i ≤ 9) := fun e i hi => by
    unfold okO
    rw [if_pos e, decide_eq_true_eq]; omega
  have ok1 : sort = 1 → ∀ i, i < 11 → (okO sort (i + 1) = true ↔ 10 ≤ i ∧ i ≤ 10) := fun e i hi => by
    unfold okO
    rw [if_neg (by omega), decide_eq_true_eq]; omega
  have s0 : x1 = 0 → sort = 0 := fun e => by rw [e] at hs; have : (0 : Int) = (sort : Int) := hs; omega
  have s1 : ¬ x1 = 0 → sort = 1 := fun e => hs2.elim (fun z => absurd (i_ext (by rw [hs, z]; rfl)) e) id
  refine kX5_lineTold 55 x1 (sX5_lineTold_0 55 x1 hl (Nat.le_refl _) ⟨fun c1 => ⟨fun c2 => ?_, fun c3 => absurd c3 c1⟩, fun c4 => ⟨fun c5 => absurd c4 c5, fun c6 => ?_⟩⟩)
  · exact loop 10 10 (by decide) (ok1 (s1 c1)) 12 10 10 10 _ rfl rfl (by decide) (by decide) (fun j j1 j2 => by omega)
  · exact loop 0 9 (by decide) (ok0 (s0 c4)) 12 0 9 0 _ rfl rfl (by decide) (by decide) (fun j j1 j2 => by omega)
end K9H
