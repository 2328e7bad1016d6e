set_option maxRecDepth 4000
/-! ===== better soles, better hours ===== -/
def mnI (t : Nat → Int32) : Nat → Option Nat
  | 0 => none
  | k + 1 => match mnI t k with
    | none => some k
    | some b => if (t k).toInt < (t b).toInt then some k else some b
theorem mnI_lt {t : Nat → Int32} {b : Nat} : ∀ n, mnI t n = some b → b < n
  | 0, h => by cases h
  | n + 1, h => by
    unfold mnI at h
    split at h
    · cases h; exact Nat.lt_succ_self _
    · rename_i c hc
      have := mnI_lt n hc
      split at h <;> cases h <;> omega
theorem mnI_n {t : Nat → Int32} {k : Nat} (h : mnI t k = none) : mnI t (k + 1) = some k := by
  show (match mnI t k with | none => _ | some b => _) = _
  rw [h]
theorem mnI_s {t : Nat → Int32} {k b : Nat} (h : mnI t k = some b) : mnI t (k + 1) = if (t k).toInt < (t b).toInt then some k else some b := by
  show (match mnI t k with | none => _ | some b => _) = _
  rw [h]
theorem sumP_1 {f : Nat → Int32} : ∀ n : Nat, n ≤ 1000 → (∀ k, k < n → f k = 0 ∨ f k = 1) → 0 ≤ (sumP f n).toInt ∧ (sumP f n).toInt ≤ n
  | 0, _, _ => ⟨Int.le_refl _, Int.le_refl _⟩
  | n + 1, hn, h => by
    have a := sumP_1 n (by omega) (fun k hk => h k (by omega))
    have b : 0 ≤ (f n).toInt ∧ (f n).toInt ≤ 1 := by
      rcases h n (Nat.lt_succ_self n) with e | e <;> rw [e] <;> decide
    show 0 ≤ (sumP f n + f n).toInt ∧ (sumP f n + f n).toInt ≤ ((n + 1 : Nat) : Int)
    rw [i_add (by omega) (by omega)]
    omega
theorem made_rng {st : PS} (hn : st.n ≤ 150) (p : Int32) : 0 ≤ (madeF st p).toInt ∧ (madeF st p).toInt ≤ 150 := by
  have := sumP_1 (f := fun i => if st.P i 6 = p then 1 else 0) st.n (by omega) (fun k _ => by
    by_cases c : st.P k 6 = p
    · rw [if_pos c]; exact Or.inr rfl
    · rw [if_neg c]; exact Or.inl rfl)
  unfold madeF
  omega
theorem tax_all {V : Nat → Int} {st : PS} (hn : st.n ≤ 150) : taxF V st 0 (-1) = Int32.ofNat st.n := by
  have key : ∀ n, n ≤ 150 → sumP (fun i => if (-1 : Int32) = -1 ∨ st.P i 6 = -1 then dueI V st 0 i else 0) n = Int32.ofNat n := fun n => by
    induction n with
    | zero => intro _; rfl
    | succ n ih =>
      intro h
      show sumP _ n + (if (-1 : Int32) = -1 ∨ st.P n 6 = -1 then dueI V st 0 n else 0) = _
      rw [ih (by omega), if_pos (Or.inl rfl)]
      show Int32.ofNat n + (if (0 : Int32) = 0 then 1 else _) = _
      rw [if_pos rfl]
      exact ofn_s n (by omega)
  exact key _ hn
theorem setV_set {V : Nat → Int} {w0 : Nat} {u v : Int} : setV (setV V w0 u) w0 v = setV V w0 v := funext fun w => by
  unfold setV
  by_cases e : w = w0
  · rw [if_pos e, if_pos e]
  · rw [if_neg e, if_neg e, if_neg e]
theorem setV_id {V : Nat → Int} {w0 : Nat} : setV V w0 (V w0) = V := funext fun w => by
  unfold setV
  by_cases e : w = w0
  · rw [if_pos e, e]
  · rw [if_neg e]
def solT (V : Nat → Int) (P : Nat) (v : Nat) : Int32 := Int32.ofNat (stM (setV V (120 + 33 * P + 0) v) (-1) 100).n
def hourT (V : Nat → Int) (P : Nat) (x : Int32) (v : Nat) : Int32 := madeF (stM (setV V (120 + 33 * P + 7) v) (-1) 100) x
def betF (x2 : Int32) (x3 : Bool) (V : Nat → Int) : Int32 :=
  if 0 ≤ x2.toInt ∧ x2.toInt < V 3 then (if x3 = true then (if pF V x2.toInt.toNat 6 = -1 then -1 else topI (mnI (hourT V x2.toInt.toNat x2) 61)) else topI (mnI (solT V x2.toInt.toNat) 6)) else -1
theorem pp_better {Kept : zH → Prop} (hk : KOK Kept) (l : Launch) (G : zG) : P_better Kept l G := fun x1 x2 x3 => by
  refine Pair.night hk x1 (-1) (betF x2 x3) (fun h hI c0 => ?_) (fun h n hI ⟨b1, b2, b4, b6, b7, b8⟩ => ?_) (fun h hI c0 => ?_) (fun h n hI ⟨b1, b2, b4, b6, b7, b8⟩ bT => ?_)
  · exact kX10_better 0 x1 x2 x3 (sX10_better_0 0 x1 x2 x3 hI.1 (Nat.le_refl _) ⟨fun c1 => ⟨_, h.1, rfl, rfl, rfl, SameC.rf h⟩, fun b5 c2 => absurd (c0.symm.trans c2) (fun z => by cases z)⟩)
  · have w3 := b7.2.2.2.1
    refine kX10_better 0 x1 x2 x3 (sX10_better_0 0 x1 x2 x3 hI.1 (Nat.le_refl _) ⟨fun c1 => absurd (b4.symm.trans c1) (fun z => by cases z), fun b5 c2 => ?_⟩)
    have e5 : b5 = 5 + 18 * n := (Option.some.inj (b4.symm.trans c2)).symm
    subst e5
    have l113 := los_113 hI.1
    have l95 := los_95 hI.1
    have sm : ∀ I : Nat → Nat → Int32, (∀ b, (b < 81 ∨ 127 ≤ b) → I b = h.1 b) → SameC h I := fun I e b hb j => by
      unfold IC at hb
      rw [e b (by omega)]
    refine ⟨b6, fun c3 => ⟨_, h.1, rfl, rfl, ?_, SameC.rf h⟩, fun b14 c4 => ⟨_, c_X1_copyFrom l G h 95 (5 + 18 * n) l95 b6 (by omega), fun I20 ⟨j1, j2⟩ => ?_⟩⟩
    · unfold betF
      rw [if_neg (fun z => ?_)]
      obtain ⟨P, hP⟩ : ∃ P : Nat, x2.toInt = (P : Int) := ⟨x2.toInt.toNat, by omega⟩
      exact absurd ((per_mem b6 b7 b8 hP (by omega)).1.symm.trans c3) (fun z => by cases z)
    · have h2 : 0 ≤ x2.toInt ∧ x2.toInt < RW h (610 + 318 * n) 3 := Decidable.byContradiction fun z => absurd ((per_no b7 b8 z).symm.trans c4) (fun z => by cases z)
      obtain ⟨P, hP⟩ : ∃ P : Nat, x2.toInt = (P : Int) := ⟨x2.toInt.toNat, by omega⟩
      have oJ : NObj (I20, h.2) 95 (RW h (610 + 318 * n)) := b8.cp b7 j2
      obtain ⟨m1, m2, m3⟩ := per_mem (h := (I20, h.2)) l95 b7 oJ hP (by omega)
      have fv : betF x2 x3 (RW h (610 + 318 * n)) = (if x3 = true then (if pF (RW h (610 + 318 * n)) P 6 = -1 then -1 else topI (mnI (hourT (RW h (610 + 318 * n)) P x2) 61)) else topI (mnI (solT (RW h (610 + 318 * n)) P) 6)) := by
        unfold betF
        rw [if_pos h2, show x2.toInt.toNat = P by omega]
      rw [fv]
      generalize hV : RW h (610 + 318 * n) = V at b7 b8 w3 h2 oJ fv
      refine ⟨fun c6 => absurd (m1.symm.trans c6) (fun z => by cases z), fun b30 c7 => ?_⟩
      have eb : b30 = 95 + (6 + 2 * P) := (Option.some.inj (m1.symm.trans c7)).symm
      subst eb
      have e6 := (per_f (h := (I20, h.2)) oJ (P := P) (by omega)).1 6 (by decide)
      have l2 : lo2 h (95 + (6 + 2 * P)) := m2
      refine ⟨fun c8 => ⟨m2, fun c9 => ⟨fun y I => y = topI (mnI (hourT V P x2) 61) ∧ SameC h I, ?_, fun y I z => ⟨y, I, rfl, rfl, ?_, z.2⟩⟩, fun c11 => ⟨_, I20, rfl, rfl, ?_, sm I20 (fun b hb => j1 b (by omega))⟩⟩, fun c12 => ⟨fun y I => y = topI (mnI (solT V P) 6) ∧ SameC h I, ?_, fun y I z => ⟨y, I, rfl, rfl, ?_, z.2⟩⟩⟩
      · have h6 : pF V P 6 ≠ -1 := fun z => c9 (n_m1.mpr (e6.trans z))
        refine kX10_bestHour 0 x2 (95 + (6 + 2 * P)) (sX10_bestHour_0 0 x2 (95 + (6 + 2 * P)) hI.1 l2 (Nat.le_refl _) ?_)
        have loop : ∀ (f i : Nat) (x3 x4 x5 : Int32) (u : Value) (I : Nat → Nat → Int32) (v0 : Int), i ≤ 61 → 61 - i < f → x5.toInt = (i : Int) → x3 = topI (mnI (hourT V P x2) i) → ((mnI (hourT V P x2) i = none → x4 = 151) ∧ ∀ b, mnI (hourT V P x2) i = some b → x4 = hourT V P x2 b) → (∀ b, (b < 95 ∨ 127 ≤ b) → I b = h.1 b) → WFN (setV V (120 + 33 * P + 7) v0) → NObj (I, h.2) 95 (setV V (120 + 33 * P + 7) v0) →
            Z l G mX10_bestHour 6 (fun v h1 => ∃ y J, v = some (.int y) ∧ h1 = (J, h.2) ∧ (y = topI (mnI (hourT V P x2) 61) ∧ SameC h J)) 0 0 10 [va_rf (some 0), .int x2, va_rf (some (95 + (6 + 2 * P))), .int x3, .int x4, .int x5, u] [] (I, h.2) := by
          intro f
          induction f with
          | zero => intro i x3 x4 x5 u I v0 h1 h2; omega
          | succ f ih =>
            intro i x3 x4 x5 u I v0 h1 h2' hx h3 h4 t1 wv ov
            refine sX10_bestHour_10 0 x2 (95 + (6 + 2 * P)) x3 x4 x5 u hI.1 l2 (Nat.le_refl _) ⟨fun c1 => ⟨_, I, rfl, rfl, ?_, sm I (fun b hb => t1 b (by omega))⟩, fun c2 I5 c3 => ?_⟩
            · rw [h3, show i = 61 by omega]
            · have wn : WFN (setV V (120 + 33 * P + 7) x5.toInt) := b7.set (by omega) (Or.inr (Or.inr ⟨rfl, by omega, h6⟩))
              have on : NObj (I5, h.2) 95 (setV V (120 + 33 * P + 7) x5.toInt) := by
                have := NObj.set (h := (I, h.2)) (a := P) wv ov (by rw [setV_lo (by omega)]; omega) (Or.inr (Or.inr rfl)) c3
                rw [setV_set] at this
                exact this
              have n150 := stM_150 wn (al := -1) 100
              have a1 := (zwI_eff c3).1
              refine ⟨_, c_lay l G (I5, h.2) _ 113 95 99 99 l113 l95 wn on (by omega) rfl (by decide), fun I11 ⟨g1, g2, g3⟩ => ⟨_, c_madeBy l G (I11, h.2) 113 _ x2 l113 g2 n150, fun y22 I20' ⟨z1, z2⟩ => ?_⟩⟩
              have eI : I20' = I11 := z2
              subst eI
              have t1' : ∀ b, (b < 95 ∨ 127 ≤ b) → I20' b = h.1 b := fun b hb => by
                rw [g1 b (by omega)]
                show I5 b = _
                rw [a1 b (by omega)]
                exact t1 b hb
              have on' : NObj (I20', h.2) 95 (setV V (120 + 33 * P + 7) x5.toInt) := NObj.same (h := (I5, h.2)) wn on (fun b z1 z2 => g1 b (by omega))
              have ey : y22 = hourT V P x2 i := by
                rw [z1, hx]; rfl
              have mr : 0 ≤ y22.toInt ∧ y22.toInt ≤ 150 := by rw [z1]; exact made_rng n150 x2
              cases q : mnI (hourT V P x2) i with
              | none =>
                have e4 := h4.1 q
                refine ⟨fun c6 => absurd c6 (by rw [e4, show (151 : Int32).toInt = 151 from rfl]; omega), fun c7 => ih (i + 1) _ _ _ _ I20' _ (by omega) (by omega) (i_1 hx (by omega)) (by rw [mnI_n q]; exact n_ofn hx) ⟨fun z => (by rw [mnI_n q] at z; cases z), fun b hb => (by rw [mnI_n q] at hb; cases hb; exact ey)⟩ t1' wn on'⟩
              | some b =>
                have e4 := h4.2 b q
                refine ⟨fun c6 => ih (i + 1) _ _ _ _ I20' _ (by omega) (by omega) (i_1 hx (by omega)) ?_ ⟨fun z => ?_, fun b' hb' => ?_⟩ t1' wn on', fun c7 => ih (i + 1) _ _ _ _ I20' _ (by omega) (by omega) (i_1 hx (by omega)) ?_ ⟨fun z => ?_, fun b' hb' => ?_⟩ t1' wn on'⟩
                · rw [e4, ey] at c6
                  rw [mnI_s q, if_neg (by omega), h3, q]
                · rw [mnI_s q] at z; split at z <;> cases z
                · rw [e4, ey] at c6
                  rw [mnI_s q, if_neg (by omega)] at hb'
                  cases hb'; exact e4
                · rw [e4, ey] at c7
                  rw [mnI_s q, if_pos c7]; exact n_ofn hx
                · rw [mnI_s q] at z; split at z <;> cases z
                · rw [e4, ey] at c7
                  rw [mnI_s q, if_pos c7] at hb'
                  cases hb'; exact ey
        exact loop 62 0 (-1) 151 0 zU I20 (V (120 + 33 * P + 7)) (by omega) (by omega) rfl rfl ⟨fun _ => rfl, fun b hb => by cases hb⟩ (fun b hb => j1 b (by omega)) (by rw [setV_id]; exact b7) (by rw [setV_id]; exact oJ)
      · rw [z.1, if_pos c8, if_neg (fun z => c9 (n_m1.mpr (e6.trans z)))]
      · rw [if_pos c8, if_pos (e6.symm.trans (n_m1.mp c11))]
      · refine kX10_bestSole 0 (95 + (6 + 2 * P)) (sX10_bestSole_0 0 (95 + (6 + 2 * P)) hI.1 l2 (Nat.le_refl _) ?_)
        have loop : ∀ (f i : Nat) (x2' x3' x4 : Int32) (I : Nat → Nat → Int32) (v0 : Int), i ≤ 6 → 6 - i < f → x4.toInt = (i : Int) → x2' = topI (mnI (solT V P) i) → ((mnI (solT V P) i = none → x3' = 151) ∧ ∀ b, mnI (solT V P) i = some b → x3' = solT V P b) → (∀ b, (b < 95 ∨ 127 ≤ b) → I b = h.1 b) → WFN (setV V (120 + 33 * P + 0) v0) → NObj (I, h.2) 95 (setV V (120 + 33 * P + 0) v0) →
            Z l G mX10_bestSole 6 (fun v h1 => ∃ y J, v = some (.int y) ∧ h1 = (J, h.2) ∧ (y = topI (mnI (solT V P) 6) ∧ SameC h J)) 0 0 9 [va_rf (some 0), va_rf (some (95 + (6 + 2 * P))), .int x2', .int x3', .int x4] [] (I, h.2) := by
          intro f
          induction f with
          | zero => intro i x2' x3' x4 I v0 h1 h2; omega
          | succ f ih =>
            intro i x2' x3' x4 I v0 h1 h2' hx h3 h4 t1 wv ov
            refine sX10_bestSole_9 0 (95 + (6 + 2 * P)) x2' x3' x4 hI.1 l2 (Nat.le_refl _) ⟨fun c1 => ⟨_, I, rfl, rfl, ?_, sm I (fun b hb => t1 b (by omega))⟩, fun c2 I5 c3 => ?_⟩
            · rw [h3, show i = 6 by omega]
            · have wn : WFN (setV V (120 + 33 * P + 0) x4.toInt) := b7.set (by omega) (Or.inl ⟨rfl, by omega⟩)
              have on : NObj (I5, h.2) 95 (setV V (120 + 33 * P + 0) x4.toInt) := by
                have := NObj.set (h := (I, h.2)) (a := P) wv ov (by rw [setV_lo (by omega)]; omega) (Or.inl rfl) c3
                rw [setV_set] at this
                exact this
              have n150 := stM_150 wn (al := -1) 100
              have a1 := (zwI_eff c3).1
              refine ⟨_, c_lay l G (I5, h.2) _ 113 95 99 99 l113 l95 wn on (by omega) rfl (by decide), fun I11 ⟨g1, g2, g3⟩ => ?_⟩
              have t1' : ∀ b, (b < 95 ∨ 127 ≤ b) → I11 b = h.1 b := fun b hb => by
                rw [g1 b (by omega)]
                show I5 b = _
                rw [a1 b (by omega)]
                exact t1 b hb
              have on' : NObj (I11, h.2) 95 (setV V (120 + 33 * P + 0) x4.toInt) := NObj.same (h := (I5, h.2)) wn on (fun b z1 z2 => g1 b (by omega))
              have n0 := g2.1
              have ey : zI (I11, h.2) (0 + 113) 0 = solT V P i := by
                unfold solT
                rw [hx] at n0
                exact n_ofn n0
              have mr : 0 ≤ (zI (I11, h.2) (0 + 113) 0).toInt ∧ (zI (I11, h.2) (0 + 113) 0).toInt ≤ 150 := by
                rw [show zI (I11, h.2) (0 + 113) 0 = zI (I11, h.2) 113 0 from rfl, n0]
                have : (stM (setV V (120 + 33 * P + 0) x4.toInt) (-1) (99 + 1)).n ≤ 150 := n150
                omega
              cases q : mnI (solT V P) i with
              | none =>
                have e4 := h4.1 q
                refine ⟨fun c6 => absurd (show x3'.toInt ≤ (zI (I11, h.2) (0 + 113) 0).toInt from c6) (by rw [e4, show (151 : Int32).toInt = 151 from rfl]; omega), fun c7 => ih (i + 1) _ _ _ I11 _ (by omega) (by omega) (i_1 hx (by omega)) (by rw [mnI_n q]; exact n_ofn hx) ⟨fun z => (by rw [mnI_n q] at z; cases z), fun b hb => (by rw [mnI_n q] at hb; cases hb; exact ey)⟩ t1' wn on'⟩
              | some b =>
                have e4 := h4.2 b q
                refine ⟨fun c6 => ih (i + 1) _ _ _ I11 _ (by omega) (by omega) (i_1 hx (by omega)) ?_ ⟨fun z => ?_, fun b' hb' => ?_⟩ t1' wn on', fun c7 => ih (i + 1) _ _ _ I11 _ (by omega) (by omega) (i_1 hx (by omega)) ?_ ⟨fun z => ?_, fun b' hb' => ?_⟩ t1' wn on'⟩
                · rw [e4, ey] at c6
                  rw [mnI_s q, if_neg (by omega), h3, q]
                · rw [mnI_s q] at z; split at z <;> cases z
                · rw [e4, ey] at c6
                  rw [mnI_s q, if_neg (by omega)] at hb'
                  cases hb'; exact e4
                · rw [e4, ey] at c7
                  rw [mnI_s q, if_pos c7]; exact n_ofn hx
                · rw [mnI_s q] at z; split at z <;> cases z
                · rw [e4, ey] at c7
                  rw [mnI_s q, if_pos c7] at hb'
                  cases hb'; exact ey
        exact loop 7 0 (-1) 151 0 I20 (V (120 + 33 * P + 0)) (by omega) (by omega) rfl rfl ⟨fun _ => rfl, fun b hb => by cases hb⟩ (fun b hb => j1 b (by omega)) (by rw [setV_id]; exact b7) (by rw [setV_id]; exact oJ)
      · rw [z.1, c12, if_neg Bool.false_ne_true]
  · refine kX11_better 313 x1 x2 x3 (sX11_better_0 313 x1 x2 x3 hI.2.1 (Nat.le_refl _) ⟨_, c_isN l G hI x1, fun y6 I4 ⟨s1, s2, s3, s4⟩ => ⟨fun c2 => ⟨_, I4, rfl, rfl, rfl, s1⟩, fun c2 => ?_⟩⟩)
    exact absurd (c0.symm.trans (s3.symm.trans c2)) (fun z => by cases z)
  · refine kX11_better 313 x1 x2 x3 (sX11_better_0 313 x1 x2 x3 hI.2.1 (Nat.le_refl _) ⟨_, c_isN l G hI x1, fun y6 I4 ⟨s1, s2, s3, s4⟩ => ⟨fun c2 => absurd (bT.symm.trans (s3.symm.trans c2)) (fun z => by cases z), fun c2 => ?_⟩⟩)
    have eV : RW (I4, h.2) (610 + 318 * n) = RW h (610 + 318 * n) := RWc s1.al _
    have ma := s4 n b1 b2 c2
    have mm := ma.mn b2 (by rw [eV]; exact b7)
    rw [eV] at mm
    have w3 := b7.2.2.2.1
    obtain ⟨k3, pi⟩ := zisP_at mm b7 (p := x2)
    have sm : ∀ I : Nat → Nat → Int32, (∀ b, b ≠ 313 → (b < 318 ∨ 329 ≤ b) → I b = I4 b) → SameC h I := fun I e b hb j => by
      rw [e b (by unfold IC at hb; omega) (by unfold IC at hb; omega)]; exact s1 b hb j
    have aW : ∀ (I : Nat → Nat → Int32), I 314 = I4 314 → ∀ W, W < 318 → (AL (I, h.2) (610 + 318 * n + W)).toInt = RW h (610 + 318 * n) W := fun I e W hW => by
      rw [RW_at hW]
      show (I 314 _).toInt = (h.1 314 _).toInt
      rw [e, s1 314 (by unfold IC; omega)]
    generalize hV : RW h (610 + 318 * n) = V at b7 b8 mm w3 pi aW
    -- the loop, over soles or over hours
    have loop : ∀ (P : Nat) (T : Nat → Int32) (K f0 : Nat), x2.toInt = (P : Int) → (P : Int) < V 3 → K ≤ 61 → ((x3 = false ∧ K = 6 ∧ f0 = 0 ∧ T = solT V P) ∨ (x3 = true ∧ K = 61 ∧ f0 = 7 ∧ T = hourT V P x2 ∧ pF V P 6 ≠ -1)) → ∀ (f i : Nat) (x4 x5 x6 : Int32) (u7 : Value) (I : Nat → Nat → Int32), i ≤ K → K - i < f → x6.toInt = (i : Int) → x4 = topI (mnI T i) → (∀ b, mnI T i = some b → x5 = T b) → (∀ b, b ≠ 313 → (b < 318 ∨ 329 ≤ b) → I b = I4 b) → (∀ k, k ≠ 23 → (k < 14 ∨ 18 ≤ k) → I 313 k = I4 313 k) → (f0 = 0 → I 313 14 = x2 ∧ I 313 16 = -1) → (f0 = 7 → I 313 14 = -1 ∧ I 313 16 = x2) →
        Z l G mX11_better 6 (fun v h1 => ∃ y J, v = some (.int y) ∧ h1 = (J, h.2) ∧ (y = topI (mnI T K) ∧ SameC h J)) 0 0 68 [va_rf (some 313), .int x1, .int x2, .int (zb x3), .int x4, .int x5, .int x6, u7] [] (I, h.2) := by
      intro P T K f0 hP hP3 hK61 hT f
      induction f with
      | zero => intro i x4 x5 x6 u7 I h1 h2; omega
      | succ f ih =>
        intro i x4 x5 x6 u7 I h1 h2 hx h4 h5 t1 t2 t3 t4
        -- one try
        have one : i < K → ∀ (I9 I12 : Nat → Nat → Int32), I9 = (zwI (I, h.2) 313 15 x6).1 → I12 = (zwI (I9, h.2) 313 17 x6).1 → WFN (setV V (120 + 33 * P + f0) (i : Int)) ∧ MN (I12, h.2) n (setV V (120 + 33 * P + f0) (i : Int)) ∧ (zI (I12, h.2) 313 13).toInt = -1 ∧ (∀ b, b ≠ 313 → (b < 318 ∨ 329 ≤ b) → I12 b = I4 b) ∧ (∀ k, k ≠ 23 → (k < 14 ∨ 18 ≤ k) → I12 313 k = I4 313 k) ∧ (f0 = 0 → I12 313 14 = x2 ∧ I12 313 16 = -1) ∧ (f0 = 7 → I12 313 14 = -1 ∧ I12 313 16 = x2) := by
          intro hi I9 I12 c4 c5
          obtain ⟨a1, a2, a3⟩ := zwI_eff c4
          obtain ⟨d1, d2, d3⟩ := zwI_eff c5
          have o1 : ∀ b, b ≠ 313 → I12 b = I b := fun b hb => (d1 b hb).trans (a1 b hb)
          have o2 : ∀ k, k ≠ 15 → k ≠ 17 → I12 313 k = I 313 k := fun k h1 h2 => (d2 k h2).trans (a2 k h1)
          have e15 : I12 313 15 = x6 := (d2 15 (by decide)).trans a3
          have wn : WFN (setV V (120 + 33 * P + f0) (i : Int)) := by
            rcases hT with ⟨_, q2, q3, _⟩ | ⟨_, q2, q3, _, q5⟩
            · exact b7.set hP3 (Or.inl ⟨q3, by omega⟩)
            · exact b7.set hP3 (Or.inr (Or.inr ⟨q3, by omega, q5⟩))
          have f07 : f0 = 0 ∨ f0 = 7 := hT.elim (fun z => Or.inl z.2.2.1) (fun z => Or.inr z.2.2.1)
          have u1 : ∀ b, b ≠ 313 → (b < 318 ∨ 329 ≤ b) → I12 b = I4 b := fun b h1 h2 => (o1 b h1).trans (t1 b h1 h2)
          have u2 : ∀ k, k ≠ 23 → (k < 14 ∨ 18 ≤ k) → I12 313 k = I4 313 k := fun k h1 h2 => (o2 k (by omega) (by omega)).trans (t2 k h1 h2)
          have u3 : f0 = 0 → I12 313 14 = x2 ∧ I12 313 16 = -1 := fun z => ⟨(o2 14 (by decide) (by decide)).trans (t3 z).1, (o2 16 (by decide) (by decide)).trans (t3 z).2⟩
          have u4 : f0 = 7 → I12 313 14 = -1 ∧ I12 313 16 = x2 := fun z => ⟨(o2 14 (by decide) (by decide)).trans (t4 z).1, (o2 16 (by decide) (by decide)).trans (t4 z).2⟩
          refine ⟨wn, ?_, by show (I12 313 13).toInt = -1; rw [u2 13 (by decide) (by decide)]; exact congrArg Int32.toInt ma.2.1, u1, u2, u3, u4⟩
          refine MN.mk (B := V) b2 (by show (I12 313 12).toInt = _; rw [u2 12 (by decide) (by decide)]; exact ma.1) (aW I12 (u1 314 (by decide) (by decide))) (fun W hW => setV_lo (by omega)) (fun m hm => ?_) (fun Q hQ => ⟨?_, ?_, ?_, fun f hf => ?_, fun i hi => sd_set hi (by omega)⟩)
          · rw [setV_lo (by omega), show zI (I12, h.2) 317 m = 0 from (congrFun (u1 317 (by decide) (by decide)) m).trans (ma.2.2.2.2.2 m hm)]
            exact ⟨Or.inl, fun z => z.resolve_right (fun y => y rfl)⟩
          · rw [pF_set (by decide) (by omega)]
            rcases f07 with z | z
            · rw [show zI (I12, h.2) 313 14 = x2 from (u3 z).1, show zI (I12, h.2) 313 15 = x6 from e15, hx]
              by_cases e : Q = P
              · rw [if_pos ⟨e, z.symm⟩, if_pos ((ofn_eq hP (by omega) (by omega)).mpr e)]
              · rw [if_neg (fun y => e y.1), if_neg (fun y => e ((ofn_eq hP (by omega) (by omega)).mp y))]
            · rw [show zI (I12, h.2) 313 14 = -1 from (u4 z).1, if_neg (by omega), if_neg (ofn_m1 (by omega))]
          · rw [pF_set (by decide) (by omega), if_neg (by omega), show zI (I12, h.2) 313 18 = -1 from (u2 18 (by decide) (by decide)).trans ma.2.2.2.2.1, if_neg (ofn_m1 (by omega))]
          · rw [pF_set (by decide) (by omega)]
            rcases f07 with z | z
            · rw [show zI (I12, h.2) 313 16 = -1 from (u3 z).2, if_neg (by omega), if_neg (ofn_m1 (by omega))]
            · rw [show zI (I12, h.2) 313 16 = x2 from (u4 z).2, show zI (I12, h.2) 313 17 = x6 from d3, hx]
              by_cases e : Q = P
              · rw [if_pos ⟨e, z.symm⟩, if_pos ((ofn_eq hP (by omega) (by omega)).mpr e)]
              · rw [if_neg (fun y => e y.1), if_neg (fun y => e ((ofn_eq hP (by omega) (by omega)).mp y))]
          · rw [pF_set (by omega) (by omega), if_neg (by omega)]
        -- what the try gives
        have tail : i < K → ∀ (J : Nat → Nat → Int32) (y : Int32), y = T i → (∀ b, b ≠ 313 → (b < 318 ∨ 329 ≤ b) → J b = I4 b) → (∀ k, k ≠ 23 → (k < 14 ∨ 18 ≤ k) → J 313 k = I4 313 k) → (f0 = 0 → J 313 14 = x2 ∧ J 313 16 = -1) → (f0 = 7 → J 313 14 = -1 ∧ J 313 16 = x2) →
            ((x4.toInt < (0 : Int) → Z l G mX11_better 6 (fun v h1 => ∃ y J, v = some (.int y) ∧ h1 = (J, h.2) ∧ (y = topI (mnI T K) ∧ SameC h J)) 0 0 68 [va_rf (some 313), .int x1, .int x2, .int (zb x3), .int x6, .int y, .int (x6 + 1), .int y] [] (J, h.2)) ∧
             ((0 : Int) ≤ x4.toInt → ((y.toInt < x5.toInt → Z l G mX11_better 6 (fun v h1 => ∃ y J, v = some (.int y) ∧ h1 = (J, h.2) ∧ (y = topI (mnI T K) ∧ SameC h J)) 0 0 68 [va_rf (some 313), .int x1, .int x2, .int (zb x3), .int x6, .int y, .int (x6 + 1), .int y] [] (J, h.2)) ∧
              (x5.toInt ≤ y.toInt → Z l G mX11_better 6 (fun v h1 => ∃ y J, v = some (.int y) ∧ h1 = (J, h.2) ∧ (y = topI (mnI T K) ∧ SameC h J)) 0 0 68 [va_rf (some 313), .int x1, .int x2, .int (zb x3), .int x4, .int x5, .int (x6 + 1), .int y] [] (J, h.2))))) := by
          intro hi J y ey u1 u2 u3 u4
          cases q : mnI T i with
          | none =>
            rw [q] at h4
            have e4' : x4.toInt = -1 := by rw [h4]; rfl
            exact ⟨fun _ => ih (i + 1) _ _ _ _ J (by omega) (by omega) (i_1 hx (by omega)) (by rw [mnI_n q]; exact n_ofn hx) (fun b hb => by rw [mnI_n q] at hb; cases hb; exact ey) u1 u2 u3 u4, fun c => absurd c (by omega)⟩
          | some b =>
            have hb := mnI_lt i q
            rw [q] at h4
            have e4' : x4.toInt = (b : Int) := by rw [h4]; exact i_ofNat (by omega)
            have e5 := h5 b q
            refine ⟨fun c => absurd c (by omega), fun _ => ⟨fun c => ih (i + 1) _ _ _ _ J (by omega) (by omega) (i_1 hx (by omega)) ?_ (fun b' hb' => ?_) u1 u2 u3 u4, fun c => ih (i + 1) _ _ _ _ J (by omega) (by omega) (i_1 hx (by omega)) ?_ (fun b' hb' => ?_) u1 u2 u3 u4⟩⟩
            · rw [e5, ey] at c
              rw [mnI_s q, if_pos c]; exact n_ofn hx
            · rw [e5, ey] at c
              rw [mnI_s q, if_pos c] at hb'
              cases hb'; exact ey
            · rw [e5, ey] at c
              rw [mnI_s q, if_neg (by omega)]; exact h4
            · rw [e5, ey] at c
              rw [mnI_s q, if_neg (by omega)] at hb'
              cases hb'; exact e5
        have nm : x2 ≠ -1 := fun e => by rw [e, show (-1 : Int32).toInt = -1 from rfl] at hP; omega
        refine sX11_better_68 313 x1 x2 x3 x4 x5 x6 u7 hI.2.1 (Nat.le_refl _) ⟨fun c1 => ?_, fun c19 => ?_⟩
        · rcases hT with ⟨q1, q2, q3, q4⟩ | ⟨q1, _⟩
          · refine ⟨fun c2 => ⟨_, I, rfl, rfl, ?_, sm I t1⟩, fun c3 I9 c4 I12 c5 => ?_⟩
            · rw [h4, show i = K by omega]
            · obtain ⟨wn, mN, e13, u1, u2, u3, u4⟩ := one (by omega) I9 I12 c4 c5
              refine ⟨_, c_till l G (I12, h.2) n _ (-1) 99 99 hI.2.1 wn mN e13 rfl (by decide), fun I18 ⟨g1, g2, g3, g4⟩ => ?_⟩
              have n150 := stM_150 wn (al := -1) 100
              have okk := (stM_ok wn (al := -1) 100).1
              have mJ := OnlyT.mn (h := (I12, h.2)) g1 mN
              refine ⟨fun c7 => ⟨_, c_taxM l G (I18, h.2) n _ _ 0 (-1) wn okk hI.2.1 mJ g2 n150, fun y33 I31 ⟨z1, z2⟩ => ?_⟩, fun c13 => absurd (c1.symm.trans c13) (by decide)⟩
              have eI : I31 = I18 := z2
              subst eI
              refine tail (by omega) I31 y33 (by rw [z1, tax_all n150, q4, q3]; rfl) (fun b h1 h2 => (g1.1 b h1 h2).trans (u1 b h1 h2)) (fun k h1 h2 => (g1.2 k h1).trans (u2 k h1 h2)) (fun z => ⟨(g1.2 14 (by decide)).trans (u3 z).1, (g1.2 16 (by decide)).trans (u3 z).2⟩) (fun z => ⟨(g1.2 14 (by decide)).trans (u4 z).1, (g1.2 16 (by decide)).trans (u4 z).2⟩)
          · exact absurd (c1.symm.trans q1) (by decide)
        · rcases hT with ⟨q1, _⟩ | ⟨q1, q2, q3, q4, q5⟩
          · exact absurd (c19.symm.trans q1) (by decide)
          · refine ⟨fun c2 => ⟨_, I, rfl, rfl, ?_, sm I t1⟩, fun c3 I9 c4 I12 c5 => ?_⟩
            · rw [h4, show i = K by omega]
            · obtain ⟨wn, mN, e13, u1, u2, u3, u4⟩ := one (by omega) I9 I12 c4 c5
              refine ⟨_, c_till l G (I12, h.2) n _ (-1) 99 99 hI.2.1 wn mN e13 rfl (by decide), fun I18 ⟨g1, g2, g3, g4⟩ => ?_⟩
              have n150 := stM_150 wn (al := -1) 100
              have okk := (stM_ok wn (al := -1) 100).1
              have mJ := OnlyT.mn (h := (I12, h.2)) g1 mN
              refine ⟨fun c25 => absurd (c19.symm.trans c25) (by decide), fun c31 => ⟨_, c_taxM l G (I18, h.2) n _ _ 0 x2 wn okk hI.2.1 mJ g2 n150, fun y33 I31 ⟨z1, z2⟩ => ?_⟩⟩
              have eI : I31 = I18 := z2
              subst eI
              refine tail (by omega) I31 y33 (by rw [z1, taxF_0 nm, q4, q3]; rfl) (fun b h1 h2 => (g1.1 b h1 h2).trans (u1 b h1 h2)) (fun k h1 h2 => (g1.2 k h1).trans (u2 k h1 h2)) (fun z => ⟨(g1.2 14 (by decide)).trans (u3 z).1, (g1.2 16 (by decide)).trans (u3 z).2⟩) (fun z => ⟨(g1.2 14 (by decide)).trans (u4 z).1, (g1.2 16 (by decide)).trans (u4 z).2⟩)
    refine ⟨k3, fun c4 => ⟨_, I4, rfl, rfl, ?_, s1⟩, fun c5 => ?_⟩
    · have := (bfalse pi).mp c4
      unfold betF
      rw [if_neg this]
    · have hp := pi.mp c5
      obtain ⟨P, hP⟩ : ∃ P : Nat, x2.toInt = (P : Int) := ⟨x2.toInt.toNat, by omega⟩
      have fv : betF x2 x3 V = (if x3 = true then (if pF V P 6 = -1 then -1 else topI (mnI (hourT V P x2) 61)) else topI (mnI (solT V P) 6)) := by
        unfold betF
        rw [if_pos hp, show x2.toInt.toNat = P by omega]
      obtain ⟨t6, f6⟩ := mm.f (w := 6) (f := 6) hP (by omega) rfl (by decide)
      refine ⟨fun c6 => ⟨fun c7 I30 c8 => ⟨fun c9 I37 c10 => ?_, fun c11 I40 c12 => absurd (c6.symm.trans c11) (by decide)⟩, fun c13 I43 c14 => absurd (c6.symm.trans c13) (by decide)⟩, fun c19 => ⟨t6, fun c20 => ⟨fun c21 I68 c22 => absurd (c19.symm.trans c21) (by decide), fun c27 I81 c28 => ⟨fun c29 I88 c30 => absurd (c19.symm.trans c29) (by decide), fun c31 I91 c32 => ?_⟩⟩, fun c33 => ⟨_, I4, rfl, rfl, ?_, s1⟩⟩⟩
      · obtain ⟨a1, a2, a3⟩ := zwI_eff c8
        obtain ⟨d1, d2, d3⟩ := zwI_eff c10
        rw [fv, if_neg (by rw [c6]; exact Bool.false_ne_true)]
        exact loop P (solT V P) 6 0 hP (by omega) (by decide) (Or.inl ⟨c6, rfl, rfl, rfl⟩) 7 0 (-1) 0 0 zU I37 (by omega) (by omega) rfl rfl (fun b hb => by cases hb) (fun b h1 h2 => (d1 b h1).trans (a1 b h1)) (fun k h1 h2 => (d2 k (by omega)).trans (a2 k (by omega))) (fun _ => ⟨(d2 14 (by decide)).trans a3, d3⟩) (fun z => absurd z (by decide))
      · obtain ⟨a1, a2, a3⟩ := zwI_eff c28
        obtain ⟨d1, d2, d3⟩ := zwI_eff c32
        have n6 : pF V P 6 ≠ -1 := fun z => c20 (n_m1.mpr (f6.trans z))
        rw [fv, if_pos c19, if_neg n6]
        exact loop P (hourT V P x2) 61 7 hP (by omega) (by decide) (Or.inr ⟨c19, rfl, rfl, rfl, n6⟩) 62 0 (-1) 0 0 zU I91 (by omega) (by omega) rfl rfl (fun b hb => by cases hb) (fun b h1 h2 => (d1 b h1).trans (a1 b h1)) (fun k h1 h2 => (d2 k (by omega)).trans (a2 k (by omega))) (fun z => absurd z (by decide)) (fun _ => ⟨(d2 14 (by decide)).trans a3, d3⟩)
      · rw [fv, if_pos c19, if_pos (f6.symm.trans (n_m1.mp c33))]
