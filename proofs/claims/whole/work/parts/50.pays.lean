set_option maxRecDepth 4000
/-! ===== thieves ===== -/
def fnd (V : Nat → Int) (p : Nat) (c : Int) (f : Nat) : Nat → Bool
  | 0 => false
  | k + 1 => fnd V p c f k || decide (spotV V p (f + k) = c)
theorem fnd_mono {V : Nat → Int} {p f : Nat} {c : Int} {k : Nat} (h : fnd V p c f k = true) : ∀ d, fnd V p c f (k + d) = true
  | 0 => h
  | d + 1 => by
    show (fnd V p c f (k + d) || _) = true
    rw [fnd_mono h d]; rfl
def bitZ (u : Int32) (p : Nat) : Bool := decide ((u >>> (Int32.ofNat p &&& 31)) &&& 1 = 0)
theorem bit_not : ∀ u, u < 64 → ∀ p, p < 6 → bit1 p &&& (Int32.ofNat u ^^^ -1) = if bitZ (Int32.ofNat u) p = true then bit1 p else 0 := by decide +kernel
theorem or_63 : ∀ u, u < 64 → ∀ v, v < 64 → 0 ≤ (Int32.ofNat u ||| Int32.ofNat v).toInt ∧ (Int32.ofNat u ||| Int32.ofNat v).toInt < 64 := by decide +kernel
theorem orP_63 {f : Nat → Int32} : ∀ n, (∀ k, k < n → 0 ≤ (f k).toInt ∧ (f k).toInt < 64) → 0 ≤ (orP f n).toInt ∧ (orP f n).toInt < 64
  | 0, _ => ⟨Int.le_refl _, (by decide : (0 : Int32).toInt < 64)⟩
  | n + 1, h => by
    have a := orP_63 n (fun k hk => h k (by omega))
    have b := h n (Nat.lt_succ_self n)
    show 0 ≤ (orP f n ||| f n).toInt ∧ (orP f n ||| f n).toInt < 64
    obtain ⟨u, hu⟩ : ∃ u : Nat, (orP f n).toInt = (u : Int) := ⟨(orP f n).toInt.toNat, by omega⟩
    obtain ⟨v, hv⟩ : ∃ v : Nat, (f n).toInt = (v : Int) := ⟨(f n).toInt.toNat, by omega⟩
    rw [n_ofn hu, n_ofn hv]
    exact or_63 u (by omega) v (by omega)
theorem users_63 {V : Nat → Int} {st : PS} (ok : okS V st) (c : Int32) : 0 ≤ (usersF st c).toInt ∧ (usersF st c).toInt < 64 := by
  refine orP_63 _ (fun k hk => ?_)
  split
  · exact (ok k hk).2.2.2.2.2.2
  · exact ⟨Int.le_refl _, by decide⟩
def thF (V : Nat → Int) (u : Int32) (c : Int) (f k : Nat) : Nat → Int32 := orP (fun p => if fnd V p c f k = true ∧ bitZ u p = true then bit1 p else 0)
theorem thF_eq {V : Nat → Int} {u : Int32} {c : Int} {f k : Nat} (hu : 0 ≤ u.toInt ∧ u.toInt < 64) : ∀ n, n ≤ 6 → orP (fun p => if fnd V p c f k = true then bit1 p else 0) n &&& (u ^^^ -1) = thF V u c f k n
  | 0, _ => Int32.zero_and
  | n + 1, h => by
    have ih := thF_eq (V := V) (c := c) (f := f) (k := k) hu n (by omega)
    show (orP (fun p => if fnd V p c f k = true then bit1 p else 0) n ||| (if fnd V n c f k = true then bit1 n else 0)) &&& (u ^^^ -1) = thF V u c f k n ||| (if fnd V n c f k = true ∧ bitZ u n = true then bit1 n else 0)
    have ds : ∀ a b c : Int32, (a ||| b) &&& c = (a &&& c) ||| (b &&& c) := fun a b c => Int32.toBitVec_inj.1 BitVec.and_or_distrib_right
    rw [ds, ih]
    obtain ⟨w, hw⟩ : ∃ w : Nat, u.toInt = (w : Int) := ⟨u.toInt.toNat, by omega⟩
    have bn := bit_not w (by omega) n (by omega)
    rw [← n_ofn hw] at bn
    by_cases e : fnd V n c f k = true
    · rw [if_pos e, bn]
      by_cases e2 : bitZ u n = true
      · rw [if_pos e2, if_pos ⟨e, e2⟩]
      · rw [if_neg e2, if_neg (fun z => e2 z.2)]
    · rw [if_neg e, if_neg (fun z => e z.1), Int32.zero_and]
theorem c_isIn (l : Launch) (G : zG) (h : zH) (q : Nat) (V : Nat → Int) (P f t : Nat) (x1 x2 x3 x4 : Int32) (hq : lo1 h q) (w : WFN V) (o : NObj h q V) (hp : x1.toInt = (P : Int)) (hP : (P : Int) < V 3) (hf : x3.toInt = (f : Int)) (ht : x4.toInt = (t : Int)) (hft : f ≤ t) (ht9 : t < 100) : CTz l G YX1_isIn 5 [va_rf (some q), .int x1, .int x2, .int x3, .int x4] h (fun y I => y = fnd V P x2.toInt f (t - f + 1) ∧ I = h.1) := by
  have loop : ∀ (fu k : Nat) (x5 : Int32), k ≤ t - f + 1 → t - f + 1 - k < fu → x5.toInt = ((f + k : Nat) : Int) → fnd V P x2.toInt f k = false →
      Z l G mX1_isIn 5 (fun w h1 => ∃ x I1, w = some (.int (zb x)) ∧ h1 = (I1, h.2) ∧ (x = fnd V P x2.toInt f (t - f + 1) ∧ I1 = h.1)) 0 0 3 [va_rf (some q), .int x1, .int x2, .int x3, .int x4, .int x5] [] h := by
    intro fu
    induction fu with
    | zero => intro k x5 h1 h2; omega
    | succ fu ih =>
      intro k x5 h1 h2 hx hk
      refine sX1_isIn_3 q x1 x2 x3 x4 x5 hq (Nat.le_refl _) ⟨fun c1 => ⟨false, h.1, rfl, rfl, ?_, rfl⟩, fun c2 => ⟨_, c_spot l G h q V P (f + k) x1 x5 hq w o hp hP hx (by omega), fun y I z => ?_⟩⟩
      · rw [show t - f + 1 = k by omega, hk]
      · have eI : I = h.1 := z.2
        subst eI
        have st : fnd V P x2.toInt f (k + 1) = (fnd V P x2.toInt f k || decide (spotV V P (f + k) = x2.toInt)) := rfl
        refine ⟨fun c4 => ih (k + 1) _ (by omega) (by omega) ?_ ?_, fun c5 => ⟨true, h.1, rfl, rfl, ?_, rfl⟩⟩
        · rw [i_1 hx (by omega)]; rfl
        · rw [st, hk, decide_eq_false (fun e => c4 (i_ext (z.1.trans e)))]; rfl
        · have e1 : fnd V P x2.toInt f (k + 1) = true := by
            rw [st, decide_eq_true (by rw [← z.1, c5])]
            exact Bool.or_true _
          have := fnd_mono e1 (t - f + 1 - (k + 1))
          rw [show k + 1 + (t - f + 1 - (k + 1)) = t - f + 1 by omega] at this
          exact this.symm
  exact kX1_isIn q x1 x2 x3 x4 (sX1_isIn_0 q x1 x2 x3 x4 hq (Nat.le_refl _) (loop (t - f + 2) 0 x3 (by omega) (by omega) (by rw [hf]; rfl) rfl))
def thiefF (x2 x3 x4 : Int32) (V : Nat → Int) : Int32 :=
  if (0 ≤ x2.toInt ∧ x2.toInt < V 0 * V 1) ∧ (0 ≤ x3.toInt ∧ x3.toInt < 100) ∧ (0 ≤ x4.toInt ∧ x4.toInt < 100) ∧ x3.toInt ≤ x4.toInt then thF V (usersF (stM V (-1) 100) x2) x2.toInt x3.toInt.toNat (x4.toInt.toNat - x3.toInt.toNat + 1) (V 3).toNat else -1
theorem bitZ_t {u : Int32} {x : Int32} {p : Nat} (hx : x.toInt = (p : Int)) : bitZ u p = true ↔ ((u >>> (x &&& 31)) &&& 1) = 0 := by
  unfold bitZ
  rw [← n_ofn hx, decide_eq_true_iff]
theorem pp_thieves {Kept : zH → Prop} (hk : KOK Kept) (l : Launch) (G : zG) : P_thieves Kept l G := fun x1 x2 x3 x4 => by
  refine Pair.night hk x1 (-1) (thiefF x2 x3 x4) (fun h hI c0 => ?_) (fun h n hI ⟨b1, b2, b4, b6, b7, b8⟩ => ?_) (fun h hI c0 => ?_) (fun h n hI ⟨b1, b2, b4, b6, b7, b8⟩ bT => ?_)
  · exact kX10_thieves 0 x1 x2 x3 x4 (sX10_thieves_0 0 x1 x2 x3 x4 hI.1 (Nat.le_refl _) ⟨fun c1 => ⟨_, h.1, rfl, rfl, rfl, SameC.rf h⟩, fun b5 c2 => absurd (c0.symm.trans c2) (fun z => by cases z)⟩)
  · have w3 := b7.2.2.2.1
    refine kX10_thieves 0 x1 x2 x3 x4 (sX10_thieves_0 0 x1 x2 x3 x4 hI.1 (Nat.le_refl _) ⟨fun c1 => absurd (b4.symm.trans c1) (fun z => by cases z), fun b5 c2 => ?_⟩)
    have e5 : b5 = 5 + 18 * n := (Option.some.inj (b4.symm.trans c2)).symm
    subst e5
    have l81 := los_81 hI.1
    have hh := (zhas_at b7 b8 (c := x2)).2
    have n150 := stM_150 b7 (al := -1) 100
    refine ⟨b6, fun c3 => ⟨_, h.1, rfl, rfl, ?_, SameC.rf h⟩, fun c4 => ⟨fun c5 => ⟨_, h.1, rfl, rfl, ?_, SameC.rf h⟩, fun c6 => ⟨fun c7 => ⟨_, h.1, rfl, rfl, ?_, SameC.rf h⟩, fun c8 => ⟨fun c9 => ?_, fun c12 => ⟨_, h.1, rfl, rfl, ?_, SameC.rf h⟩⟩⟩⟩⟩
    · have z := (bfalse hh).mp c3
      unfold thiefF; rw [if_neg (fun q => z q.1)]
    · have z := zmin_f.mp c5
      unfold thiefF; rw [if_neg (fun q => z q.2.1)]
    · have z := zmin_f.mp c7
      unfold thiefF; rw [if_neg (fun q => z q.2.2.1)]
    · have hc := hh.mp c4
      have z3 := zmin_t.mp c6
      have z4 := zmin_t.mp c8
      obtain ⟨f, hf⟩ : ∃ f : Nat, x3.toInt = (f : Int) := ⟨x3.toInt.toNat, by omega⟩
      obtain ⟨t, ht⟩ : ∃ t : Nat, x4.toInt = (t : Int) := ⟨x4.toInt.toNat, by omega⟩
      have fv : thiefF x2 x3 x4 (RW h (610 + 318 * n)) = thF (RW h (610 + 318 * n)) (usersF (stM (RW h (610 + 318 * n)) (-1) 100) x2) x2.toInt f (t - f + 1) (RW h (610 + 318 * n) 3).toNat := by
        unfold thiefF
        rw [if_pos ⟨hc, z3, z4, c9⟩, show x3.toInt.toNat = f by omega, show x4.toInt.toNat = t by omega]
      rw [fv, b4]
      refine ⟨_, c_lay l G h _ 81 (5 + 18 * n) 99 99 l81 b6 b7 b8 (by omega) rfl (by decide), fun I38 ⟨g1, g2, g3⟩ => ⟨_, c_clayUsers l G (I38, h.2) 81 _ x2 l81 g2 n150, fun y49 I47 ⟨yu, ye⟩ => ?_⟩⟩
      have eI : I47 = I38 := ye
      subst eI
      have s := SameC.lay (Or.inl rfl) g1
      have oJ : NObj (I47, h.2) (5 + 18 * n) (RW h (610 + 318 * n)) := b8.same b7 (fun b z1 z2 => g1 b (by omega))
      have e3 : (zI (I47, h.2) (5 + 18 * n) 3).toInt = RW h (610 + 318 * n) 3 := oJ.1 3 (by decide)
      rw [← yu]
      have loop : ∀ (fu i : Nat) (x7 x8 : Int32), (i : Int) ≤ RW h (610 + 318 * n) 3 → RW h (610 + 318 * n) 3 - i < (fu : Int) → x8.toInt = (i : Int) → x7 = thF (RW h (610 + 318 * n)) y49 x2.toInt f (t - f + 1) i →
          Z l G mX10_thieves 6 (fun v h1 => ∃ y I, v = some (.int y) ∧ h1 = (I, h.2) ∧ (y = thF (RW h (610 + 318 * n)) y49 x2.toInt f (t - f + 1) (RW h (610 + 318 * n) 3).toNat ∧ SameC h I)) 0 0 74 [va_rf (some 0), .int x1, .int x2, .int x3, .int x4, va_rf (some (5 + 18 * n)), .int y49, .int x7, .int x8] [] (I47, h.2) := by
        intro fu
        induction fu with
        | zero => intro i x7 x8 h1 h2; omega
        | succ fu ih =>
          intro i x7 x8 h1 h2 hx hs
          refine sX10_thieves_74 0 x1 x2 x3 x4 (some (5 + 18 * n)) y49 x7 x8 hI.1 (Nat.le_refl _) ⟨5 + 18 * n, rfl, b6, fun c1 => ⟨_, I47, rfl, rfl, ?_, s⟩, fun c2 => ?_⟩
          · rw [hs, show (RW h (610 + 318 * n) 3).toNat = i by omega]
          · have hi : (i : Int) < RW h (610 + 318 * n) 3 := by omega
            have bz := bitZ_t (u := y49) hx
            refine ⟨fun c3 => ih (i + 1) _ _ (by omega) (by omega) (i_1 hx (by omega)) (orP_0 hs (if_neg (fun z => c3 (bz.mp z.2)))), fun c4 => ⟨_, c_isIn l G (I47, h.2) (5 + 18 * n) _ i f t x8 x2 x3 x4 b6 b7 oJ hx hi hf ht (by omega) (by omega), fun y18 I16 ⟨w1, w2⟩ => ?_⟩⟩
            have eI2 : I16 = I47 := w2
            subst eI2
            refine ⟨fun c6 => ih (i + 1) _ _ (by omega) (by omega) (i_1 hx (by omega)) (orP_0 hs (if_neg (fun z => by rw [← w1, c6] at z; exact Bool.false_ne_true z.1))), fun c7 => ih (i + 1) _ _ (by omega) (by omega) (i_1 hx (by omega)) ?_⟩
            rw [bit1_of hx]
            exact orP_s hs (if_pos ⟨w1.symm.trans c7, bz.mpr c4⟩)
      exact loop 7 0 0 0 (by omega) (by omega) rfl rfl
    · unfold thiefF; rw [if_neg (fun q => by have := q.2.2.2; omega)]
  · refine kX11_thieves 313 x1 x2 x3 x4 (sX11_thieves_0 313 x1 x2 x3 x4 hI.2.1 (Nat.le_refl _) ⟨_, c_isN l G hI x1, fun y6 I4 ⟨s1, s2, s3, s4⟩ => ⟨fun c2 => ⟨_, I4, rfl, rfl, rfl, s1⟩, fun c2 => ?_⟩⟩)
    exact absurd (c0.symm.trans (s3.symm.trans c2)) (fun z => by cases z)
  · refine kX11_thieves 313 x1 x2 x3 x4 (sX11_thieves_0 313 x1 x2 x3 x4 hI.2.1 (Nat.le_refl _) ⟨_, c_isN l G hI x1, fun y6 I4 ⟨s1, s2, s3, s4⟩ => ⟨fun c2 => absurd (bT.symm.trans (s3.symm.trans c2)) (fun z => by cases z), fun c2 => ?_⟩⟩)
    have eV : RW (I4, h.2) (610 + 318 * n) = RW h (610 + 318 * n) := RWc s1.al _
    have ma := s4 n b1 b2 c2
    have mm := ma.mn b2 (by rw [eV]; exact b7)
    rw [eV] at mm
    have w3 := b7.2.2.2.1
    obtain ⟨k01, ci⟩ := zisC_at mm b7 (p := x2)
    have n150 := stM_150 b7 (al := -1) 100
    have okk := (stM_ok b7 (al := -1) 100).1
    refine ⟨k01, fun c4 => ⟨_, I4, rfl, rfl, ?_, s1⟩, fun c5 => ⟨fun c6 => ⟨_, I4, rfl, rfl, ?_, s1⟩, fun c7 => ⟨fun c8 => ⟨_, I4, rfl, rfl, ?_, s1⟩, fun c9 => ⟨fun c10 => ⟨_, c_till l G (I4, h.2) n _ (-1) 99 99 hI.2.1 b7 mm (by rw [ma.2.1]; rfl) rfl (by decide), fun I43 ⟨g1, g2, g3, g4⟩ => ?_⟩, fun c12 => ⟨_, I4, rfl, rfl, ?_, s1⟩⟩⟩⟩⟩
    · have z := (bfalse ci).mp c4
      unfold thiefF; rw [if_neg (fun q => z q.1)]
    · have z := zmin_f.mp c6
      unfold thiefF; rw [if_neg (fun q => z q.2.1)]
    · have z := zmin_f.mp c8
      unfold thiefF; rw [if_neg (fun q => z q.2.2.1)]
    · have hc := ci.mp c5
      have z3 := zmin_t.mp c7
      have z4 := zmin_t.mp c9
      obtain ⟨f, hf⟩ : ∃ f : Nat, x3.toInt = (f : Int) := ⟨x3.toInt.toNat, by omega⟩
      obtain ⟨t, ht⟩ : ∃ t : Nat, x4.toInt = (t : Int) := ⟨x4.toInt.toNat, by omega⟩
      have fv : thiefF x2 x3 x4 (RW h (610 + 318 * n)) = thF (RW h (610 + 318 * n)) (usersF (stM (RW h (610 + 318 * n)) (-1) 100) x2) x2.toInt f (t - f + 1) (RW h (610 + 318 * n) 3).toNat := by
        unfold thiefF
        rw [if_pos ⟨hc, z3, z4, c10⟩, show x3.toInt.toNat = f by omega, show x4.toInt.toNat = t by omega]
      have u63 := users_63 okk x2
      rw [← thF_eq u63 _ (by omega)] at fv
      rw [fv]
      have s : SameC h I43 := s1.tr g1.same
      have mJ : MN (I43, h.2) n (RW h (610 + 318 * n)) := OnlyT.mn (h := (I4, h.2)) g1 mm
      obtain ⟨k3, v3⟩ := mJ.of (w := 3) (W := 3) rfl (by decide)
      have loop : ∀ (fu i : Nat) (x5 x6 : Int32) (u7 : Value), (i : Int) ≤ RW h (610 + 318 * n) 3 → RW h (610 + 318 * n) 3 - i < (fu : Int) → x6.toInt = (i : Int) → x5 = orP (fun p => if fnd (RW h (610 + 318 * n)) p x2.toInt f (t - f + 1) = true then bit1 p else 0) i →
          Z l G mX11_thieves 6 (fun v h1 => ∃ y I, v = some (.int y) ∧ h1 = (I, h.2) ∧ (y = orP (fun p => if fnd (RW h (610 + 318 * n)) p x2.toInt f (t - f + 1) = true then bit1 p else 0) (RW h (610 + 318 * n) 3).toNat &&& (usersF (stM (RW h (610 + 318 * n)) (-1) 100) x2 ^^^ -1) ∧ SameC h I)) 0 0 53 [va_rf (some 313), .int x1, .int x2, .int x3, .int x4, .int x5, .int x6, u7] [] (I43, h.2) := by
        intro fu
        induction fu with
        | zero => intro i x5 x6 u7 h1 h2; omega
        | succ fu ih =>
          intro i x5 x6 u7 h1 h2 hx hs
          refine sX11_thieves_53 313 x1 x2 x3 x4 x5 x6 u7 hI.2.1 (Nat.le_refl _) ⟨k3, fun c1 => ⟨_, c_usersM l G (I43, h.2) _ x2 hI.2.1 g2 n150, fun y I q => ⟨_, I, rfl, rfl, ?_, by rw [q.2]; exact s⟩⟩, fun c3 => ?_⟩
          · rw [q.1, hs, show (RW h (610 + 318 * n) 3).toNat = i by omega]
          · have hi : (i : Int) < RW h (610 + 318 * n) 3 := by omega
            have inner : ∀ (fu2 k : Nat) (x7 x8 : Int32), k ≤ t - f + 1 → t - f + 1 - k < fu2 → x8.toInt = ((f + k : Nat) : Int) → x7 = (x5 ||| (if fnd (RW h (610 + 318 * n)) i x2.toInt f k = true then bit1 i else 0)) →
                Z l G mX11_thieves 6 (fun v h1 => ∃ y I, v = some (.int y) ∧ h1 = (I, h.2) ∧ (y = orP (fun p => if fnd (RW h (610 + 318 * n)) p x2.toInt f (t - f + 1) = true then bit1 p else 0) (RW h (610 + 318 * n) 3).toNat &&& (usersF (stM (RW h (610 + 318 * n)) (-1) 100) x2 ^^^ -1) ∧ SameC h I)) 0 0 65 [va_rf (some 313), .int x1, .int x2, .int x3, .int x4, .int x7, .int x6, .int x8] [] (I43, h.2) := by
              intro fu2
              induction fu2 with
              | zero => intro k x7 x8 h3 h4; omega
              | succ fu2 ih2 =>
                intro k x7 x8 h3 h4 h8 hs2
                refine sX11_thieves_65 313 x1 x2 x3 x4 x7 x6 x8 hI.2.1 (Nat.le_refl _) ⟨fun c1 => ?_, fun c2 => ?_⟩
                · refine ih (i + 1) _ _ _ (by omega) (by omega) (i_1 hx (by omega)) ?_
                  rw [hs2, show k = t - f + 1 by omega]
                  exact orP_s hs rfl
                · have m1 := m100 hx (by omega) h8 (by omega)
                  have av := (g4 i hi).2 (f + k) (by omega)
                  have ez : zI (I43, h.2) (313 + 5) (zix ((100 * x6) + x8)) = I43 318 (100 * i + (f + k)) := by rw [zix_of m1]; rfl
                  rw [ez]
                  have sf : fnd (RW h (610 + 318 * n)) i x2.toInt f (k + 1) = (fnd (RW h (610 + 318 * n)) i x2.toInt f k || decide (spotV (RW h (610 + 318 * n)) i (f + k) = x2.toInt)) := rfl
                  refine ⟨by rw [m1]; omega, by rw [m1]; omega, fun c3 => ih2 (k + 1) _ _ (by omega) (by omega) (by rw [i_1 h8 (by omega)]; rfl) ?_, fun c4 => ih2 (k + 1) _ _ (by omega) (by omega) (by rw [i_1 h8 (by omega)]; rfl) ?_⟩
                  · rw [sf, decide_eq_false (fun e => c3 (i_ext (av.trans e))), Bool.or_false, Int32.or_zero]; exact hs2
                  · rw [sf, decide_eq_true (by rw [← av, c4]), Bool.or_true, if_pos rfl, hs2, bit1_of hx, Int32.or_assoc]
                    refine congrArg (x5 ||| ·) ?_
                    split
                    · exact Int32.or_self
                    · rw [Int32.or_comm, Int32.or_zero]
            refine inner (t - f + 2) 0 _ x3 (by omega) (by omega) (by rw [hf]; rfl) ?_
            show x5 = x5 ||| (if false = true then bit1 i else 0)
            rw [if_neg Bool.false_ne_true, Int32.or_zero]
      exact loop 7 0 0 0 zU (by omega) (by omega) rfl rfl
    · unfold thiefF; rw [if_neg (fun q => by have := q.2.2.2; omega)]
/-! ===== pays ===== -/
def mxI (t : Nat → Int32) : Nat → Option Nat
  | 0 => none
  | k + 1 => match mxI t k with
    | none => some k
    | some b => if (t b).toInt < (t k).toInt then some k else some b
theorem mxI_lt {t : Nat → Int32} {b : Nat} : ∀ n, mxI t n = some b → b < n
  | 0, h => by cases h
  | n + 1, h => by
    unfold mxI at h
    split at h
    · cases h; exact Nat.lt_succ_self _
    · rename_i c hc
      have := mxI_lt n hc
      split at h <;> cases h <;> omega
theorem mxI_n {t : Nat → Int32} {k : Nat} (h : mxI t k = none) : mxI t (k + 1) = some k := by
  show (match mxI t k with | none => _ | some b => _) = _
  rw [h]
theorem mxI_s {t : Nat → Int32} {k b : Nat} (h : mxI t k = some b) : mxI t (k + 1) = if (t b).toInt < (t k).toInt then some k else some b := by
  show (match mxI t k with | none => _ | some b => _) = _
  rw [h]
theorem mxI_pos {t : Nat → Int32} : ∀ k, 0 < k → ∃ b, mxI t k = some b
  | 0, h => by omega
  | k + 1, _ => by
    cases q : mxI t k with
    | none => exact ⟨k, mxI_n q⟩
    | some b =>
      rw [mxI_s q]
      split
      · exact ⟨k, rfl⟩
      · exact ⟨b, rfl⟩
theorem sumP_rng {f : Nat → Int32} : ∀ n : Nat, n ≤ 1000 → (∀ k, k < n → 0 ≤ (f k).toInt ∧ (f k).toInt ≤ 100) → 0 ≤ (sumP f n).toInt ∧ (sumP f n).toInt ≤ 100 * n
  | 0, _, _ => ⟨Int.le_refl _, Int.le_refl _⟩
  | n + 1, hn, h => by
    have a := sumP_rng n (by omega) (fun k hk => h k (by omega))
    have b := h n (Nat.lt_succ_self n)
    show 0 ≤ (sumP f n + f n).toInt ∧ (sumP f n + f n).toInt ≤ 100 * ((n + 1 : Nat) : Int)
    rw [i_add (by omega) (by omega)]
    omega
theorem tax_rng {V : Nat → Int} (w : WFN V) {st : PS} (ok : okS V st) (hn : st.n ≤ 150) (law p : Int32) : 0 ≤ (taxF V st law p).toInt ∧ (taxF V st law p).toInt ≤ 15000 := by
  have := sumP_rng (f := fun i => if p = -1 ∨ st.P i 6 = p then dueI V st law i else 0) st.n (by omega) (fun k hk => by
    split
    · unfold dueI
      split
      · exact ⟨by decide, by decide⟩
      · split
        · have ok6 := (ok k hk).2.2.2.2.2.1
          have := (per_w w (P := (st.P k 6).toInt.toNat) (by omega)).2.1
          rw [n_toi (by omega) (by omega)]; omega
        · exact (ok k hk).2.2.2.2.1
    · exact ⟨by decide, by decide⟩)
  unfold taxF
  omega
def paysF (x2 : Int32) (V : Nat → Int) : Int32 :=
  if x2 = -1 then topI (mxI (fun k => taxF V (stM V (-1) 100) (Int32.ofNat k) (-1)) 3)
  else if 0 ≤ x2.toInt ∧ x2.toInt ≤ 2 then topI (mxI (fun k => taxF V (stM V (-1) 100) x2 (Int32.ofNat k)) (V 3).toNat) else -1
theorem pp_pays {Kept : zH → Prop} (hk : KOK Kept) (l : Launch) (G : zG) : P_pays Kept l G := fun x1 x2 => by
  refine Pair.night hk x1 (-1) (paysF x2) (fun h hI c0 => ?_) (fun h n hI ⟨b1, b2, b4, b6, b7, b8⟩ => ?_) (fun h hI c0 => ?_) (fun h n hI ⟨b1, b2, b4, b6, b7, b8⟩ bT => ?_)
  · exact kX10_pays 0 x1 x2 (sX10_pays_0 0 x1 x2 hI.1 (Nat.le_refl _) ⟨fun c1 => ⟨_, h.1, rfl, rfl, rfl, SameC.rf h⟩, fun b5 c2 => absurd (c0.symm.trans c2) (fun z => by cases z)⟩)
  · have w3 := b7.2.2.2.1
    refine kX10_pays 0 x1 x2 (sX10_pays_0 0 x1 x2 hI.1 (Nat.le_refl _) ⟨fun c1 => absurd (b4.symm.trans c1) (fun z => by cases z), fun b5 c2 => ?_⟩)
    have e5 : b5 = 5 + 18 * n := (Option.some.inj (b4.symm.trans c2)).symm
    subst e5
    have l81 := los_81 hI.1
    have n150 := stM_150 b7 (al := -1) 100
    have okk := (stM_ok b7 (al := -1) 100).1
    have lay := c_lay l G h _ 81 (5 + 18 * n) 99 99 l81 b6 b7 b8 (by omega) rfl (by decide)
    have tr := fun law p => tax_rng b7 okk n150 law p
    generalize hV : RW h (610 + 318 * n) = V at b7 b8 n150 okk lay tr w3
    generalize hst : stM V (-1) 100 = st at n150 okk tr
    have fv : paysF x2 V = if x2 = -1 then topI (mxI (fun k => taxF V st (Int32.ofNat k) (-1)) 3) else if 0 ≤ x2.toInt ∧ x2.toInt ≤ 2 then topI (mxI (fun k => taxF V st x2 (Int32.ofNat k)) (V 3).toNat) else -1 := by
      unfold paysF; rw [hst]
    rw [fv]
    refine ⟨fun c3 => ⟨fun c4 => ⟨_, h.1, rfl, rfl, ?_, SameC.rf h⟩, fun c5 => ⟨fun c6 => ⟨fun y I => y = topI (mxI (fun k => taxF V st x2 (Int32.ofNat k)) (V 3).toNat) ∧ SameC h I, ?_, fun y I z => ⟨y, I, rfl, rfl, ?_, z.2⟩⟩, fun c8 => ⟨_, h.1, rfl, rfl, ?_, SameC.rf h⟩⟩⟩, fun c9 => ⟨fun y I => y = topI (mxI (fun k => taxF V st (Int32.ofNat k) (-1)) 3) ∧ SameC h I, ?_, fun y I z => ⟨y, I, rfl, rfl, ?_, z.2⟩⟩⟩
    · rw [if_neg c3, if_neg (by omega)]
    · refine kX10_dearestPayer 0 (5 + 18 * n) x2 (sX10_dearestPayer_0 0 (5 + 18 * n) x2 hI.1 b6 (Nat.le_refl _) ⟨_, lay, fun I ⟨g1, g2, g3⟩ => ?_⟩)
      rw [show (99 + 1 : Nat) = 100 from rfl, hst] at g2 g3
      have oJ : NObj (I, h.2) (5 + 18 * n) V := b8.same b7 (fun b z1 z2 => g1 b (by omega))
      have e3 : (zI (I, h.2) (5 + 18 * n) 3).toInt = V 3 := oJ.1 3 (by decide)
      have loop : ∀ (f i : Nat) (x3 x4 x5 : Int32) (u : Value), (i : Int) ≤ V 3 → V 3 - i < (f : Int) → x5.toInt = (i : Int) → x4 = topI (mxI (fun k => taxF V st x2 (Int32.ofNat k)) i) → (x3 = match mxI (fun k => taxF V st x2 (Int32.ofNat k)) i with | none => -1 | some b => taxF V st x2 (Int32.ofNat b)) →
          Z l G mX10_dearestPayer 6 (fun v h1 => ∃ y J, v = some (.int y) ∧ h1 = (J, h.2) ∧ (y = topI (mxI (fun k => taxF V st x2 (Int32.ofNat k)) (V 3).toNat) ∧ SameC h J)) 0 0 18 [va_rf (some 0), va_rf (some (5 + 18 * n)), .int x2, .int x3, .int x4, .int x5, u] [] (I, h.2) := by
        intro f
        induction f with
        | zero => intro i x3 x4 x5 u h1 h2; omega
        | succ f ih =>
          intro i x3 x4 x5 u h1 h2 hx h4 h3
          refine sX10_dearestPayer_18 0 (5 + 18 * n) x2 x3 x4 x5 u hI.1 b6 (Nat.le_refl _) ⟨fun c1 => ⟨_, I, rfl, rfl, ?_, SameC.lay (Or.inl rfl) g1⟩, fun c2 => ⟨_, c_taxC l G (I, h.2) V 81 (5 + 18 * n) st x2 x5 b7 okk l81 b6 oJ g2 n150, fun y10 I8 ⟨z1, z2⟩ => ?_⟩⟩
          · rw [h4, show (V 3).toNat = i by omega]
          · have eI : I8 = I := z2
            subst eI
            rw [n_ofn hx] at z1
            have t0 := tr x2 (Int32.ofNat i)
            cases q : mxI (fun k => taxF V st x2 (Int32.ofNat k)) i with
            | none =>
              rw [q] at h3
              have e3' : x3.toInt = -1 := by rw [h3]; rfl
              refine ⟨fun c4 => ?_, fun c5 => ih (i + 1) _ _ _ _ (by omega) (by omega) (i_1 hx (by omega)) (by rw [mxI_n q]; exact n_ofn hx) (by rw [mxI_n q]; exact z1)⟩
              rw [z1] at c4; omega
            | some b =>
              rw [q] at h3 h4
              have h3 : x3 = taxF V st x2 (Int32.ofNat b) := h3
              refine ⟨fun c4 => ih (i + 1) _ _ _ _ (by omega) (by omega) (i_1 hx (by omega)) ?_ ?_, fun c5 => ih (i + 1) _ _ _ _ (by omega) (by omega) (i_1 hx (by omega)) ?_ ?_⟩
              · rw [h3, z1] at c4
                rw [mxI_s q, if_neg (by omega)]; exact h4
              · rw [h3, z1] at c4
                rw [mxI_s q, if_neg (by omega)]; exact h3
              · rw [h3, z1] at c5
                rw [mxI_s q, if_pos c5]; exact n_ofn hx
              · rw [h3, z1] at c5
                rw [mxI_s q, if_pos c5]; exact z1
      exact loop 7 0 (-1) (-1) 0 zU (by omega) (by omega) rfl rfl rfl
    · rw [if_neg c3, if_pos (by omega)]; exact z.1
    · rw [if_neg c3, if_neg (by omega)]
    · refine kX10_dearestLaw 0 (5 + 18 * n) (sX10_dearestLaw_0 0 (5 + 18 * n) hI.1 b6 (Nat.le_refl _) ⟨_, lay, fun I ⟨g1, g2, g3⟩ => ?_⟩)
      rw [show (99 + 1 : Nat) = 100 from rfl, hst] at g2 g3
      have oJ : NObj (I, h.2) (5 + 18 * n) V := b8.same b7 (fun b z1 z2 => g1 b (by omega))
      have loop : ∀ (f i : Nat) (x2 x3 : Int32) (b : Nat), 1 ≤ i → i ≤ 3 → 3 - i < f → x3.toInt = (i : Int) → mxI (fun k => taxF V st (Int32.ofNat k) (-1)) i = some b → x2.toInt = (b : Int) →
          Z l G mX10_dearestLaw 6 (fun v h1 => ∃ y J, v = some (.int y) ∧ h1 = (J, h.2) ∧ (y = topI (mxI (fun k => taxF V st (Int32.ofNat k) (-1)) 3) ∧ SameC h J)) 0 0 14 [va_rf (some 0), va_rf (some (5 + 18 * n)), .int x2, .int x3] [] (I, h.2) := by
        intro f
        induction f with
        | zero => intro i x2 x3 b h0 h1 h2; omega
        | succ f ih =>
          intro i x2 x3 b h0 h1 h2 hx q hb
          refine sX10_dearestLaw_14 0 (5 + 18 * n) x2 x3 hI.1 b6 (Nat.le_refl _) ⟨fun c1 => ⟨_, I, rfl, rfl, ?_, SameC.lay (Or.inl rfl) g1⟩, fun c2 => ⟨_, c_taxC l G (I, h.2) V 81 (5 + 18 * n) st x3 (-1) b7 okk l81 b6 oJ g2 n150, fun y10 I8 ⟨z1, z2⟩ => ?_⟩⟩
          · rw [show i = 3 by omega] at q
            rw [q]; exact n_ofn hb
          · have eI : I8 = I := z2
            subst eI
            refine ⟨_, c_taxC l G (I8, h.2) V 81 (5 + 18 * n) st x2 (-1) b7 okk l81 b6 oJ g2 n150, fun y19 I17 ⟨z3, z4⟩ => ?_⟩
            have eI2 : I17 = I8 := z4
            subst eI2
            rw [n_ofn hx] at z1
            rw [n_ofn hb] at z3
            refine ⟨fun c5 => ih (i + 1) _ _ b (by omega) (by omega) (by omega) (i_1 hx (by omega)) ?_ hb, fun c6 => ih (i + 1) _ _ i (by omega) (by omega) (by omega) (i_1 hx (by omega)) ?_ hx⟩
            · rw [z1, z3] at c5
              rw [mxI_s q, if_neg (by omega)]
            · rw [z1, z3] at c6
              rw [mxI_s q, if_pos c6]
      exact loop 4 1 0 1 0 (by omega) (by omega) (by omega) rfl rfl rfl
    · rw [if_pos c9]; exact z.1
  · refine kX11_pays 313 x1 x2 (sX11_pays_0 313 x1 x2 hI.2.1 (Nat.le_refl _) ⟨_, c_isN l G hI x1, fun y6 I4 ⟨s1, s2, s3, s4⟩ => ⟨fun c2 => ⟨_, I4, rfl, rfl, rfl, s1⟩, fun c2 => ?_⟩⟩)
    exact absurd (c0.symm.trans (s3.symm.trans c2)) (fun z => by cases z)
  · refine kX11_pays 313 x1 x2 (sX11_pays_0 313 x1 x2 hI.2.1 (Nat.le_refl _) ⟨_, c_isN l G hI x1, fun y6 I4 ⟨s1, s2, s3, s4⟩ => ⟨fun c2 => absurd (bT.symm.trans (s3.symm.trans c2)) (fun z => by cases z), fun c2 => ?_⟩⟩)
    have eV : RW (I4, h.2) (610 + 318 * n) = RW h (610 + 318 * n) := RWc s1.al _
    have ma := s4 n b1 b2 c2
    have mm := ma.mn b2 (by rw [eV]; exact b7)
    rw [eV] at mm
    have w3 := b7.2.2.2.1
    have n150 := stM_150 b7 (al := -1) 100
    have okk := (stM_ok b7 (al := -1) 100).1
    have q2 := n3r (x := x2) (u := -1) (v := 2) (a := -1) (b := 2) rfl rfl
    have till := c_till l G (I4, h.2) n _ (-1) 99 99 hI.2.1 b7 mm (by rw [ma.2.1]; rfl) rfl (by decide)
    generalize hV : RW h (610 + 318 * n) = V at b7 b8 n150 okk till w3 mm
    generalize hst : stM V (-1) 100 = st at n150 okk
    have fv : paysF x2 V = if x2 = -1 then topI (mxI (fun k => taxF V st (Int32.ofNat k) (-1)) 3) else if 0 ≤ x2.toInt ∧ x2.toInt ≤ 2 then topI (mxI (fun k => taxF V st x2 (Int32.ofNat k)) (V 3).toNat) else -1 := by
      unfold paysF; rw [hst]
    rw [fv]
    refine ⟨fun c4 => ⟨_, till, fun I24 ⟨g1, g2, g3, g4⟩ => ?_⟩, fun c6 => ⟨_, I4, rfl, rfl, ?_, s1⟩⟩
    · rw [show (99 + 1 : Nat) = 100 from rfl, hst] at g2 g3
      have s : SameC h I24 := s1.tr g1.same
      have mJ : MN (I24, h.2) n V := OnlyT.mn (h := (I4, h.2)) g1 mm
      have h4 := q2.1.mp c4
      obtain ⟨k3, v3⟩ := mJ.of (w := 3) (W := 3) rfl (by decide)
      obtain ⟨T, hT⟩ : ∃ T : Nat → Int32, T = (if x2 = -1 then (fun k => taxF V st (Int32.ofNat k) (-1)) else (fun k => taxF V st x2 (Int32.ofNat k))) := ⟨_, rfl⟩
      obtain ⟨K, hK⟩ : ∃ K : Nat, K = (if x2 = -1 then 3 else (V 3).toNat) := ⟨_, rfl⟩
      have fv2 : (if x2 = -1 then topI (mxI (fun k => taxF V st (Int32.ofNat k) (-1)) 3) else if 0 ≤ x2.toInt ∧ x2.toInt ≤ 2 then topI (mxI (fun k => taxF V st x2 (Int32.ofNat k)) (V 3).toNat) else -1) = topI (mxI T K) := by
        rw [hT, hK]
        by_cases e : x2 = -1
        · rw [if_pos e, if_pos e, if_pos e]
        · have : x2.toInt ≠ -1 := fun z => e (i_ext z)
          rw [if_neg e, if_pos (by omega), if_neg e, if_neg e]
      rw [fv2]
      have K6 : K ≤ 6 := by rw [hK]; split <;> omega
      have loop : ∀ (f i : Nat) (x3 x4 x5 : Int32) (u : Value), i ≤ K → K - i < f → x5.toInt = (i : Int) → x3 = topI (mxI T i) → (∀ b, mxI T i = some b → x4 = T b) →
          Z l G mX11_pays 6 (fun v h1 => ∃ y J, v = some (.int y) ∧ h1 = (J, h.2) ∧ (y = topI (mxI T K) ∧ SameC h J)) 0 0 33 [va_rf (some 313), .int x1, .int x2, .int x3, .int x4, .int x5, u] [] (I24, h.2) := by
        intro f
        induction f with
        | zero => intro i x3 x4 x5 u h1 h2; omega
        | succ f ih =>
          intro i x3 x4 x5 u h1 h2 hx h3 h4
          have step : i < K → ∀ (y : Int32), y = T i →
              ((x3.toInt < (0 : Int) → Z l G mX11_pays 6 (fun v h1 => ∃ y J, v = some (.int y) ∧ h1 = (J, h.2) ∧ (y = topI (mxI T K) ∧ SameC h J)) 0 0 33 [va_rf (some 313), .int x1, .int x2, .int x5, .int y, .int (x5 + 1), .int y] [] (I24, h.2)) ∧
               ((0 : Int) ≤ x3.toInt → ((x4.toInt < y.toInt → Z l G mX11_pays 6 (fun v h1 => ∃ y J, v = some (.int y) ∧ h1 = (J, h.2) ∧ (y = topI (mxI T K) ∧ SameC h J)) 0 0 33 [va_rf (some 313), .int x1, .int x2, .int x5, .int y, .int (x5 + 1), .int y] [] (I24, h.2)) ∧
                (y.toInt ≤ x4.toInt → Z l G mX11_pays 6 (fun v h1 => ∃ y J, v = some (.int y) ∧ h1 = (J, h.2) ∧ (y = topI (mxI T K) ∧ SameC h J)) 0 0 33 [va_rf (some 313), .int x1, .int x2, .int x3, .int x4, .int (x5 + 1), .int y] [] (I24, h.2))))) := by
            intro hi y ey
            cases q : mxI T i with
            | none =>
              rw [q] at h3
              have e3' : x3.toInt = -1 := by rw [h3]; rfl
              exact ⟨fun _ => ih (i + 1) _ _ _ _ (by omega) (by omega) (i_1 hx (by omega)) (by rw [mxI_n q]; exact n_ofn hx) (fun b hb => by rw [mxI_n q] at hb; cases hb; exact ey), fun c => absurd c (by omega)⟩
            | some b =>
              have hb := mxI_lt i q
              rw [q] at h3
              have e3' : x3.toInt = (b : Int) := by rw [h3]; exact i_ofNat (by omega)
              have e4 := h4 b q
              refine ⟨fun c => absurd c (by omega), fun _ => ⟨fun c => ih (i + 1) _ _ _ _ (by omega) (by omega) (i_1 hx (by omega)) ?_ (fun b' hb' => ?_), fun c => ih (i + 1) _ _ _ _ (by omega) (by omega) (i_1 hx (by omega)) ?_ (fun b' hb' => ?_)⟩⟩
              · rw [e4, ey] at c
                rw [mxI_s q, if_pos c]; exact n_ofn hx
              · rw [e4, ey] at c
                rw [mxI_s q, if_pos c] at hb'
                cases hb'; exact ey
              · rw [e4, ey] at c
                rw [mxI_s q, if_neg (by omega)]; exact h3
              · rw [e4, ey] at c
                rw [mxI_s q, if_neg (by omega)] at hb'
                cases hb'; exact e4
          have tx : ∀ law p, CTi l G YX11_taxOf 2 [va_rf (some 313), .int law, .int p] (I24, h.2) (fun y I => y = taxF V st law p ∧ I = I24) := fun law p => c_taxM l G (I24, h.2) n V st law p b7 okk hI.2.1 mJ g2 n150
          refine sX11_pays_33 313 x1 x2 x3 x4 x5 u hI.2.1 (Nat.le_refl _) ⟨fun c1 => ⟨k3, fun c2 => ⟨_, I24, rfl, rfl, ?_, s⟩, fun c3 => ⟨fun c4 => ⟨_, tx x2 x5, fun y I ⟨z1, z2⟩ => ?_⟩, fun c10 => absurd c10 c1⟩⟩, fun c16 => ⟨fun c17 => ⟨_, I24, rfl, rfl, ?_, s⟩, fun c18 => ⟨fun c19 => absurd c16 c19, fun c25 => ⟨_, tx x5 (-1), fun y I ⟨z1, z2⟩ => ?_⟩⟩⟩⟩
          · rw [if_neg c1] at hK
            rw [h3, show K = i by omega]
          · subst z2
            rw [if_neg c1] at hK hT
            exact step (by omega) y (by rw [z1, hT, n_ofn hx])
          · rw [if_pos c16] at hK
            rw [h3, show K = i by omega]
          · subst z2
            rw [if_pos c16] at hK hT
            exact step (by omega) y (by rw [z1, hT, n_ofn hx])
      exact loop (K + 1) 0 (-1) 0 0 zU (by omega) (by omega) rfl rfl (fun b hb => by cases hb)
    · have h4 := q2.2.mp c6
      rw [if_neg (fun e => h4 (by rw [e]; exact ⟨by decide, by decide⟩)), if_neg (by omega)]
