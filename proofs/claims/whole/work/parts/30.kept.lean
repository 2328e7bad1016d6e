set_option maxRecDepth 4000
/-! ===== numbers ===== -/
theorem n_div {x y : Int32} (hx : 0 ≤ x.toInt) (hy : 0 < y.toInt) : (x / y).toInt = x.toInt / y.toInt := by
  have h1 := i_rng x
  have h2 : x.toInt / y.toInt ≤ x.toInt := Int.ediv_le_self _ hx
  have h3 : 0 ≤ x.toInt / y.toInt := Int.ediv_nonneg hx (by omega)
  rw [Int32.toInt_div, Int.tdiv_eq_ediv_of_nonneg hx]
  exact i_bm _ (by omega) (by omega)
theorem n_rem {x y : Int32} (hx : 0 ≤ x.toInt) (hy : 0 < y.toInt) : (zrem x y).toInt = x.toInt % y.toInt := by
  have hd := n_div hx hy
  have h1 := i_rng x
  have e : x.toInt % y.toInt = x.toInt - x.toInt / y.toInt * y.toInt := by rw [Int.emod_def, Int.mul_comm]
  have h2 : 0 ≤ x.toInt % y.toInt := Int.emod_nonneg _ (by omega)
  have h3 : x.toInt % y.toInt < y.toInt := Int.emod_lt_of_pos x.toInt hy
  have h4 : 0 ≤ x.toInt / y.toInt := Int.ediv_nonneg hx (by omega)
  have h5 : 0 ≤ x.toInt / y.toInt * y.toInt := Int.mul_nonneg h4 (by omega)
  have hm : (x / y * y).toInt = x.toInt / y.toInt * y.toInt := by
    rw [i_mul (by rw [hd]; omega) (by rw [hd]; omega), hd]
  unfold zrem
  rw [i_sub (by rw [hm]; omega) (by rw [hm]; omega), hm, e]
theorem n_ofi {y : Int32} {n : Int} (e : y.toInt = n) : y = Int32.ofInt n := by
  subst e; exact (Int32.ofInt_toInt y).symm
theorem n_toi {n : Int} (h1 : -2147483648 ≤ n) (h2 : n < 2147483648) : (Int32.ofInt n).toInt = n := by
  rw [Int32.toInt_ofInt]; exact i_bm _ h1 h2
theorem n_eqc {x : Int32} {c : Int32} : x = c ↔ x.toInt = c.toInt := ⟨fun e => by rw [e], i_ext⟩
theorem zixl {n : Nat} {x : Int32} (h : x.toInt = (n : Int)) : zix x = n := zix_of h
theorem zin3_t {v a b : Int32} : zin3 v a b = true ↔ a.toInt ≤ v.toInt ∧ v.toInt ≤ b.toInt := by unfold zin3; exact decide_eq_true_iff
theorem zin3_f {v a b : Int32} : zin3 v a b = false ↔ ¬ (a.toInt ≤ v.toInt ∧ v.toInt ≤ b.toInt) := by unfold zin3; exact decide_eq_false_iff_not
theorem zmin_t {m : Int32} : zmin m = true ↔ 0 ≤ m.toInt ∧ m.toInt < 100 := by unfold zmin; exact decide_eq_true_iff
theorem zmin_f {m : Int32} : zmin m = false ↔ ¬ (0 ≤ m.toInt ∧ m.toInt < 100) := by unfold zmin; exact decide_eq_false_iff_not
/-! ===== what is kept ===== -/
def TKh (TK : (Nat → Int) → (Nat → Int32) → (Nat → Int32) → Prop) (h : zH) : Prop := zI h 0 11 = -1 ∨ ∃ n : Nat, (zI h 0 11).toInt = (n : Int) ∧ (n : Int) < (AL h 0).toInt ∧ TK (RW h (610 + 318 * n)) (zI h 136) (zI h 137)
def RKh (RK : (Nat → Int) → (Nat → Int) → (Nat → Int32) → (Nat → Int32) → (Nat → Int32) → (Nat → Int32) → Prop) (h : zH) : Prop := zI h 0 13 = -1 ∨ ∃ n r : Nat, (zI h 0 13).toInt = (n : Int) ∧ (zI h 0 14).toInt = (r : Int) ∧ (n : Int) < (AL h 0).toInt ∧ (r : Int) < (AL h 1).toInt ∧ RK (RW h (610 + 318 * n)) (RV h (1246 + 51 * r)) (zI h 150) (zI h 151) (zI h 152) (zI h 153)
def KeptP (TK : (Nat → Int) → (Nat → Int32) → (Nat → Int32) → Prop) (RK : (Nat → Int) → (Nat → Int) → (Nat → Int32) → (Nat → Int32) → (Nat → Int32) → (Nat → Int32) → Prop) (h : zH) : Prop := TKh TK h ∧ RKh RK h
theorem RWc {h h' : zH} (e : AL h' = AL h) (b : Nat) : RW h' b = RW h b := by unfold RW; rw [e]
theorem RVc {h h' : zH} (e : AL h' = AL h) (b : Nat) : RV h' b = RV h b := by unfold RV; rw [e]
theorem SameC.al {h : zH} {I : Nat → Nat → Int32} (s : SameC h I) : AL (I, h.2) = AL h := funext fun j => s 314 (by unfold IC; omega) j
theorem SameC.z {h : zH} {I : Nat → Nat → Int32} (s : SameC h I) {b : Nat} (hb : IC b) : zI (I, h.2) b = zI h b := funext fun j => s b hb j
theorem SameC.rf (h : zH) : SameC h h.1 := fun _ _ _ => rfl
theorem SameC.tr {h : zH} {I J : Nat → Nat → Int32} (s : SameC h I) (t : SameC (I, h.2) J) : SameC h J := fun b hb j => (t b hb j).trans (s b hb j)
theorem KeptP.same {TK : (Nat → Int) → (Nat → Int32) → (Nat → Int32) → Prop} {RK : (Nat → Int) → (Nat → Int) → (Nat → Int32) → (Nat → Int32) → (Nat → Int32) → (Nat → Int32) → Prop} (h : zH) (I : Nat → Nat → Int32) (s : SameC h I) (k : KeptP TK RK h) : KeptP TK RK (I, h.2) := by
  have eA := s.al
  have z0 := s.z (b := 0) (by unfold IC; omega)
  unfold KeptP TKh RKh
  rw [eA, z0, s.z (b := 136) (by unfold IC; omega), s.z (b := 137) (by unfold IC; omega), s.z (b := 150) (by unfold IC; omega), s.z (b := 151) (by unfold IC; omega), s.z (b := 152) (by unfold IC; omega), s.z (b := 153) (by unfold IC; omega)]
  refine ⟨k.1.elim Or.inl (fun ⟨n, q1, q2, q3⟩ => Or.inr ⟨n, q1, q2, by rw [RWc eA]; exact q3⟩), k.2.elim Or.inl (fun ⟨n, r, q1, q2, q3, q4, q5⟩ => Or.inr ⟨n, r, q1, q2, q3, q4, by rw [RWc eA, RVc eA]; exact q5⟩)⟩
/-- all that a kept thing needs: it holds on when the ids of IC stay -/
def KOK (Kept : zH → Prop) : Prop := ∀ (h : zH) (I : Nat → Nat → Int32), SameC h I → Kept h → Kept (I, h.2)
/-- answers that are a function of the reference's array; nothing is kept otherwise than before -/
theorem Pair.of {Kept : zH → Prop} {l : Launch} {G : zG} {YC YM : zY} {dc dm : Nat} {args : List Value} (hk : KOK Kept) (F : (Nat → Int32) → Int32) (hc : ∀ h, Inv Kept h → CTi l G YC dc (va_rf (some 0) :: args) h (fun y I => y = F (AL h) ∧ SameC h I)) (hm : ∀ h, Inv Kept h → CTi l G YM dm (va_rf (some 313) :: args) h (fun y I => y = F (AL h) ∧ SameC h I)) : Pair Kept l G YC YM dc dm args := fun h hI => by
  refine ⟨F (AL h), fun I => SameC h I, hc h hI, fun I s j => s 1000000 (by unfold IC; omega) j, fun I s => (hm (I, h.2) (hI.kept hk s)).mono rfl fun v h1 ⟨y, I2, e1, e2, e3, e4⟩ => ⟨y, I2, e1, e2, by rw [e3, s.al], ?_⟩⟩
  exact Inv.kept (h := (I, h.2)) hk (hI.kept hk s) e4
theorem PairJ.of {Kept : zH → Prop} {l : Launch} {G : zG} {YC YM : zY} {dc dm : Nat} {args : List Value} (hk : KOK Kept) (F : (Nat → Int32) → Int64) (hc : ∀ h, Inv Kept h → CTj l G YC dc (va_rf (some 0) :: args) h (fun y I => y = F (AL h) ∧ SameC h I)) (hm : ∀ h, Inv Kept h → CTj l G YM dm (va_rf (some 313) :: args) h (fun y I => y = F (AL h) ∧ SameC h I)) : PairJ Kept l G YC YM dc dm args := fun h hI => by
  refine ⟨F (AL h), fun I => SameC h I, hc h hI, fun I s j => s 1000000 (by unfold IC; omega) j, fun I s => (hm (I, h.2) (hI.kept hk s)).mono rfl fun v h1 ⟨y, I2, e1, e2, e3, e4⟩ => ⟨y, I2, e1, e2, by rw [e3, s.al], ?_⟩⟩
  exact Inv.kept (h := (I, h.2)) hk (hI.kept hk s) e4
/-! ===== a night that there is, or isn't ===== -/
theorem Inv.night {Kept : zH → Prop} {h : zH} (hI : Inv Kept h) (x : Int32) : (znat h 1 x = none ∧ zisOf h 313 0 x = false ∧ ¬ (0 ≤ x.toInt ∧ x.toInt < (AL h 0).toInt)) ∨
    ∃ n : Nat, x.toInt = (n : Int) ∧ n < 2 ∧ (n : Int) < (AL h 0).toInt ∧ znat h 1 x = some (5 + 18 * n) ∧ zisOf h 313 0 x = true ∧ lo1 h (5 + 18 * n) ∧ WFN (RW h (610 + 318 * n)) ∧ NObj h (5 + 18 * n) (RW h (610 + 318 * n)) := by
  obtain ⟨l1, l2, hN, hT, hIm, hK⟩ := id hI
  obtain ⟨q1, q2, q3, q4, q5, q6, q7, q8⟩ := hT
  have e5 : zI h 1 5 = AL h 0 := q5.1
  have eM : zI h (313 + 1) (zix 0) = AL h 0 := rfl
  have hr := i_rng (AL h 0)
  have e1 : (AL h 0 - 1).toInt = (AL h 0).toInt - 1 := i_sub (by show _ ≤ _ - (1 : Int); omega) (by show _ - (1 : Int) < _; omega)
  by_cases c : 0 ≤ x.toInt ∧ x.toInt < (AL h 0).toInt
  · refine Or.inr ⟨x.toInt.toNat, by omega, by omega, by omega, ?_, ?_, ?_, ?_, ?_⟩
    · unfold znat
      rw [e5, if_pos (by omega)]
      show some (1 + (4 + 18 * zix x)) = _
      unfold zix
      exact congrArg some (by omega)
    · unfold zisOf
      rw [eM]
      exact zin3_t.mpr ⟨c.1, by rw [e1]; omega⟩
    · have h2 : x.toInt.toNat < 2 := by omega
      match x.toInt.toNat, h2 with
      | 0, _ => exact zlo.sub l1 5 (by decide +kernel) (by decide +kernel) (by decide +kernel)
      | 1, _ => exact zlo.sub l1 23 (by decide +kernel) (by decide +kernel) (by decide +kernel)
      | k + 2, q => omega
    · have := (q7 x.toInt.toNat (by omega)).1
      rw [show 0 + 610 + 318 * x.toInt.toNat = 610 + 318 * x.toInt.toNat by omega] at this
      exact this
    · have := (q7 x.toInt.toNat (by omega)).2
      rw [show 0 + 610 + 318 * x.toInt.toNat = 610 + 318 * x.toInt.toNat by omega, show 1 + 4 + 18 * x.toInt.toNat = 5 + 18 * x.toInt.toNat by omega] at this
      exact this
  · refine Or.inl ⟨?_, ?_, c⟩
    · unfold znat
      rw [e5]
      exact if_neg (fun q => c ⟨q.1, q.2.1⟩)
    · unfold zisOf
      rw [eM]
      exact zin3_f.mpr (fun q => c ⟨q.1, by have := q.2; rw [e1] at this; omega⟩)
theorem Inv.read {Kept : zH → Prop} {h : zH} (hI : Inv Kept h) (x : Int32) : (zrat h 1 x = none ∧ zisOf h 313 1 x = false ∧ ¬ (0 ≤ x.toInt ∧ x.toInt < (AL h 1).toInt)) ∨
    ∃ n : Nat, x.toInt = (n : Int) ∧ n < 2 ∧ (n : Int) < (AL h 1).toInt ∧ zrat h 1 x = some (41 + 6 * n) ∧ zisOf h 313 1 x = true ∧ lo3 h (41 + 6 * n) ∧ WFR (RV h (1246 + 51 * n)) ∧ RObj h (41 + 6 * n) (RV h (1246 + 51 * n)) := by
  obtain ⟨l1, l2, hN, hT, hIm, hK⟩ := id hI
  obtain ⟨q1, q2, q3, q4, q5, q6, q7, q8⟩ := hT
  have e5 : zI h 1 7 = AL h 1 := q6.1
  have eM : zI h (313 + 1) (zix 1) = AL h 1 := rfl
  have hr := i_rng (AL h 1)
  have hr0 : 0 ≤ (AL h (0 + 1)).toInt ∧ (AL h (0 + 1)).toInt ≤ 2 := q6.2
  rw [show 0 + 1 = 1 from rfl] at hr0
  have e1 : (AL h 1 - 1).toInt = (AL h 1).toInt - 1 := i_sub (by show _ ≤ _ - (1 : Int); omega) (by show _ - (1 : Int) < _; omega)
  by_cases c : 0 ≤ x.toInt ∧ x.toInt < (AL h 1).toInt
  · refine Or.inr ⟨x.toInt.toNat, by omega, by omega, by omega, ?_, ?_, ?_, ?_, ?_⟩
    · unfold zrat
      rw [e5, if_pos (by omega)]
      show some (1 + (40 + 6 * zix x)) = _
      unfold zix
      exact congrArg some (by omega)
    · unfold zisOf
      rw [eM]
      exact zin3_t.mpr ⟨c.1, by rw [e1]; omega⟩
    · have h2 : x.toInt.toNat < 2 := by omega
      match x.toInt.toNat, h2 with
      | 0, _ => exact zlo.sub l1 41 (by decide +kernel) (by decide +kernel) (by decide +kernel)
      | 1, _ => exact zlo.sub l1 47 (by decide +kernel) (by decide +kernel) (by decide +kernel)
      | k + 2, q => omega
    · have := (q8 x.toInt.toNat (by rw [show 0 + 1 = 1 from rfl]; omega)).1
      rw [show 0 + 1246 + 51 * x.toInt.toNat = 1246 + 51 * x.toInt.toNat by omega] at this
      exact this
    · have := (q8 x.toInt.toNat (by rw [show 0 + 1 = 1 from rfl]; omega)).2
      rw [show 0 + 1246 + 51 * x.toInt.toNat = 1246 + 51 * x.toInt.toNat by omega, show 1 + 40 + 6 * x.toInt.toNat = 41 + 6 * x.toInt.toNat by omega] at this
      exact this
  · refine Or.inl ⟨?_, ?_, c⟩
    · unfold zrat
      rw [e5]
      exact if_neg (fun q => c ⟨q.1, q.2.1⟩)
    · unfold zisOf
      rw [eM]
      exact zin3_f.mpr (fun q => c ⟨q.1, by have := q.2; rw [e1] at this; omega⟩)
/-! ===== the reference's night ===== -/
def zpl (h : zH) (a : Nat) : Nat → Nat → Int32 := fun b k => if b = a ∧ (k = 13 ∨ k = 14 ∨ k = 16 ∨ k = 18) then -1 else if b = a + 4 ∧ k < 100 then 0 else h.1 b k
theorem c_X11_plain (l : Launch) (G : zG) (h : zH) (a : Nat) (ha : lo11 h a) : CTv l G YX11_plain 1 [va_rf (some a)] h (fun I => I = zpl h a) := by
  have loop : ∀ (f i : Nat) (x : Int32) (I : Nat → Nat → Int32), i ≤ 100 → 100 - i < f → x.toInt = (i : Int) → (I = fun b k => if b = a ∧ (k = 13 ∨ k = 14 ∨ k = 16 ∨ k = 18) then -1 else if b = a + 4 ∧ k < i then 0 else h.1 b k) →
      Z l G mX11_plain 1 (fun w h1 => ∃ I1, w = none ∧ h1 = (I1, h.2) ∧ I1 = zpl h a) 0 0 22 [va_rf (some a), .int x] [] (I, h.2) := by
    intro f
    induction f with
    | zero => intro i x I h1 h2; omega
    | succ f ih =>
      intro i x I h1 h2 hx hI
      refine sX11_plain_22 a x ha (Nat.le_refl _) ⟨fun c => ⟨I, rfl, rfl, ?_⟩, fun c => ⟨by omega, by omega, fun I6 e6 => ?_⟩⟩
      · rw [hI, show i = 100 by omega]; rfl
      · refine ih (i + 1) (x + 1) I6 (by omega) (by omega) (i_1 hx (by omega)) ?_
        rw [e6, hI]
        funext b k
        show (if b = a + 4 ∧ k = zix x then 0 else if b = a ∧ (k = 13 ∨ k = 14 ∨ k = 16 ∨ k = 18) then -1 else if b = a + 4 ∧ k < i then 0 else h.1 b k) = (if b = a ∧ (k = 13 ∨ k = 14 ∨ k = 16 ∨ k = 18) then -1 else if b = a + 4 ∧ k < i + 1 then 0 else h.1 b k)
        rw [zix_of hx]
        (repeat' split) <;> first | rfl | omega
  refine kX11_plain a (sX11_plain_0 a ha (Nat.le_refl _) (fun I1 e1 I2 e2 I3 e3 I4 e4 => ?_))
  refine loop 101 0 0 I4 (by omega) (by omega) rfl ?_
  subst e1; subst e2; subst e3; subst e4
  funext b k
  show (if b = a ∧ k = 18 then -1 else if b = a ∧ k = 16 then -1 else if b = a ∧ k = 14 then -1 else if b = a ∧ k = 13 then -1 else h.1 b k) = (if b = a ∧ (k = 13 ∨ k = 14 ∨ k = 16 ∨ k = 18) then -1 else if b = a + 4 ∧ k < 0 then 0 else h.1 b k)
  (repeat' split) <;> first | rfl | omega
/-- the reference stands at night n, nothing told besides -/
def MAt (h : zH) (n : Nat) : Prop := (zI h 313 12).toInt = ((610 + 318 * n : Nat) : Int) ∧ zI h 313 13 = -1 ∧ zI h 313 14 = -1 ∧ zI h 313 16 = -1 ∧ zI h 313 18 = -1 ∧ ∀ m, m < 100 → zI h 317 m = 0
theorem c_isN (l : Launch) (G : zG) {Kept : zH → Prop} {h : zH} (hI : Inv Kept h) (x : Int32) : CTz l G YX11_isNight 3 [va_rf (some 313), .int x] h (fun y I => SameC h I ∧ (∀ b, b ≠ 313 → b ≠ 317 → I b = h.1 b) ∧ y = zisOf h 313 0 x ∧ ∀ n : Nat, x.toInt = (n : Int) → n < 2 → y = true → MAt (I, h.2) n) := by
  refine kX11_isNight 313 x (sX11_isNight_0 313 x hI.2.1 (Nat.le_refl _) ⟨by unfold ziok z5392; decide, fun c I e => ⟨_, c_X11_plain l G (I, h.2) 313 hI.2.1, fun J eJ => ⟨true, J, rfl, rfl, ?_⟩⟩, fun c => ⟨false, h.1, rfl, rfl, SameC.rf h, fun _ _ _ => rfl, c.symm, fun n _ _ q => absurd q (by decide)⟩⟩)
  have eJ2 : ∀ b, b ≠ 313 → b ≠ 317 → J b = h.1 b := fun b h1 h2 => by
    rw [eJ, e]
    funext k
    show (if b = 313 ∧ _ then _ else if b = 313 + 4 ∧ _ then _ else if b = 313 ∧ k = 12 then _ else h.1 b k) = _
    rw [if_neg (fun z => h1 z.1), if_neg (fun z => h2 z.1), if_neg (fun z => h1 z.1)]
  refine ⟨fun b hb j => by rw [eJ2 b (by unfold IC at hb; omega) (by unfold IC at hb; omega)], eJ2, c.symm, fun n hn h2 _ => ?_⟩
  have g : ∀ k, (k = 13 ∨ k = 14 ∨ k = 16 ∨ k = 18) → J 313 k = -1 := fun k hk => by rw [eJ]; exact if_pos ⟨rfl, hk⟩
  refine ⟨?_, g 13 (by decide), g 14 (by decide), g 16 (by decide), g 18 (by decide), fun m hm => ?_⟩
  · have e12 : J 313 12 = zplace 0 x := by
      rw [eJ, e]
      show (if 313 = 313 ∧ (12 = 13 ∨ 12 = 14 ∨ 12 = 16 ∨ 12 = 18) then (-1 : Int32) else if 313 = 313 + 4 ∧ 12 < 100 then 0 else if 313 = 313 ∧ 12 = 12 then zplace 0 x else h.1 313 12) = _
      rw [if_neg (by decide), if_neg (by decide), if_pos (by decide)]
    show (J 313 12).toInt = _
    rw [e12]
    show (610 + 318 * x).toInt = _
    have m1 : ((318 : Int32) * x).toInt = 318 * x.toInt := i_mul (by show _ ≤ (318 : Int) * _; omega) (by show (318 : Int) * _ < _; omega)
    rw [i_add (by rw [m1]; show _ ≤ (610 : Int) + _; omega) (by rw [m1]; show (610 : Int) + _ < _; omega), m1]
    show (610 : Int) + _ = _
    omega
  · rw [show zI (J, h.2) 317 m = J 317 m from rfl, eJ]
    show (if 317 = 313 ∧ _ then _ else if 317 = 313 + 4 ∧ m < 100 then _ else _) = _
    rw [if_neg (by omega), if_pos ⟨rfl, hm⟩]
/-- what the reference reads of its night -/
theorem MAt.of {h : zH} {n : Nat} (m : MAt h n) (hn : n < 2) {w : Int32} {W : Nat} (hw : w.toInt = (W : Int)) (hW : W < 318) : zofk h 313 w ∧ zof h 313 w = AL h (610 + 318 * n + W) := by
  have e : (zI h 313 12 + w).toInt = ((610 + 318 * n + W : Nat) : Int) := by
    rw [i_add (by rw [m.1]; omega) (by rw [m.1]; omega), m.1]; omega
  refine ⟨⟨by rw [e]; omega, by rw [e]; omega⟩, ?_⟩
  unfold zof
  rw [zix_of e]
  rfl
theorem MAt.told {h : zH} {n : Nat} (m : MAt h n) (hn : n < 2) {p w : Int32} {P W : Nat} (hp : p.toInt = (P : Int)) (hP : P < 6) (hw : w.toInt = (W : Int)) (hW : W < 33) : ztok h 313 p w ∧ ztold h 313 p w = AL h (610 + 318 * n + (120 + 33 * P + W)) := by
  have e1 : (zI h 313 12 + 120).toInt = ((730 + 318 * n : Nat) : Int) := by
    rw [i_add (by rw [m.1]; show _ ≤ _ + (120 : Int); omega) (by rw [m.1]; show _ + (120 : Int) < _; omega), m.1]; show _ + (120 : Int) = _; omega
  have e2 : ((33 : Int32) * p).toInt = 33 * P := by
    rw [i_mul (by rw [hp]; show _ ≤ (33 : Int) * _; omega) (by rw [hp]; show (33 : Int) * _ < _; omega), hp]; rfl
  have e3 : (zI h 313 12 + 120 + 33 * p).toInt = ((730 + 318 * n + 33 * P : Nat) : Int) := by
    rw [i_add (by rw [e1, e2]; omega) (by rw [e1, e2]; omega), e1, e2]; omega
  have e : (zI h 313 12 + 120 + 33 * p + w).toInt = ((610 + 318 * n + (120 + 33 * P + W) : Nat) : Int) := by
    rw [i_add (by rw [e3]; omega) (by rw [e3]; omega), e3]; omega
  refine ⟨⟨by rw [e]; omega, by rw [e]; omega⟩, ?_⟩
  unfold ztold
  rw [zix_of e]
  rfl
