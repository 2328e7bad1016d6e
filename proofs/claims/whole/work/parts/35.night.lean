set_option maxRecDepth 4000
/-! ===== nights and readings, as rows of numbers ===== -/
/-- night number n stands there -/
def NA (h : zH) (x : Int32) (n : Nat) : Prop := x.toInt = (n : Int) ∧ n < 2 ∧ znat h 1 x = some (5 + 18 * n) ∧ lo1 h (5 + 18 * n) ∧ WFN (RW h (610 + 318 * n)) ∧ NObj h (5 + 18 * n) (RW h (610 + 318 * n))
def RA (h : zH) (x : Int32) (n : Nat) : Prop := x.toInt = (n : Int) ∧ n < 2 ∧ zrat h 1 x = some (41 + 6 * n) ∧ lo3 h (41 + 6 * n) ∧ WFR (RV h (1246 + 51 * n)) ∧ RObj h (41 + 6 * n) (RV h (1246 + 51 * n))
def rwA (A : Nat → Int32) (b : Nat) : Nat → Int := fun w => if w < 318 then (A (b + w)).toInt else 0
def rvA (A : Nat → Int32) (b : Nat) : Nat → Int := fun w => if w < 51 then (A (b + w)).toInt else 0
def nF (x : Int32) (e : Int32) (f : (Nat → Int) → Int32) (A : Nat → Int32) : Int32 := if 0 ≤ x.toInt ∧ x.toInt < (A 0).toInt then f (rwA A (610 + 318 * x.toInt.toNat)) else e
def rF (x : Int32) (e : Int32) (f : (Nat → Int) → Int32) (A : Nat → Int32) : Int32 := if 0 ≤ x.toInt ∧ x.toInt < (A 1).toInt then f (rvA A (1246 + 51 * x.toInt.toNat)) else e
theorem Pair.night {Kept : zH → Prop} {l : Launch} {G : zG} {YC YM : zY} {dc dm : Nat} {args : List Value} (hk : KOK Kept) (x e : Int32) (f : (Nat → Int) → Int32)
    (c0 : ∀ h, Inv Kept h → znat h 1 x = none → CTi l G YC dc (va_rf (some 0) :: args) h (fun y I => y = e ∧ SameC h I))
    (c1 : ∀ h n, Inv Kept h → NA h x n → CTi l G YC dc (va_rf (some 0) :: args) h (fun y I => y = f (RW h (610 + 318 * n)) ∧ SameC h I))
    (m0 : ∀ h, Inv Kept h → zisOf h 313 0 x = false → CTi l G YM dm (va_rf (some 313) :: args) h (fun y I => y = e ∧ SameC h I))
    (m1 : ∀ h n, Inv Kept h → NA h x n → zisOf h 313 0 x = true → CTi l G YM dm (va_rf (some 313) :: args) h (fun y I => y = f (RW h (610 + 318 * n)) ∧ SameC h I)) : Pair Kept l G YC YM dc dm args := by
  refine Pair.of hk (nF x e f) (fun h hI => ?_) (fun h hI => ?_)
  · rcases hI.night x with ⟨a1, a2, a3⟩ | ⟨n, b1, b2, b3, b4, b5, b6, b7, b8⟩
    · exact (c0 h hI a1).mono rfl fun v h1 ⟨y, J, z1, z2, z3, z4⟩ => ⟨y, J, z1, z2, by rw [z3]; exact (if_neg a3).symm, z4⟩
    · refine (c1 h n hI ⟨b1, b2, b4, b6, b7, b8⟩).mono rfl fun v h1 ⟨y, J, z1, z2, z3, z4⟩ => ⟨y, J, z1, z2, ?_, z4⟩
      rw [z3]; unfold nF
      rw [if_pos ⟨by omega, by omega⟩, show x.toInt.toNat = n by omega]; rfl
  · rcases hI.night x with ⟨a1, a2, a3⟩ | ⟨n, b1, b2, b3, b4, b5, b6, b7, b8⟩
    · exact (m0 h hI a2).mono rfl fun v h1 ⟨y, J, z1, z2, z3, z4⟩ => ⟨y, J, z1, z2, by rw [z3]; exact (if_neg a3).symm, z4⟩
    · refine (m1 h n hI ⟨b1, b2, b4, b6, b7, b8⟩ b5).mono rfl fun v h1 ⟨y, J, z1, z2, z3, z4⟩ => ⟨y, J, z1, z2, ?_, z4⟩
      rw [z3]; unfold nF
      rw [if_pos ⟨by omega, by omega⟩, show x.toInt.toNat = n by omega]; rfl
theorem Pair.read {Kept : zH → Prop} {l : Launch} {G : zG} {YC YM : zY} {dc dm : Nat} {args : List Value} (hk : KOK Kept) (x e : Int32) (f : (Nat → Int) → Int32)
    (c0 : ∀ h, Inv Kept h → zrat h 1 x = none → CTi l G YC dc (va_rf (some 0) :: args) h (fun y I => y = e ∧ SameC h I))
    (c1 : ∀ h n, Inv Kept h → RA h x n → CTi l G YC dc (va_rf (some 0) :: args) h (fun y I => y = f (RV h (1246 + 51 * n)) ∧ SameC h I))
    (m0 : ∀ h, Inv Kept h → zisOf h 313 1 x = false → CTi l G YM dm (va_rf (some 313) :: args) h (fun y I => y = e ∧ SameC h I))
    (m1 : ∀ h n, Inv Kept h → RA h x n → zisOf h 313 1 x = true → CTi l G YM dm (va_rf (some 313) :: args) h (fun y I => y = f (RV h (1246 + 51 * n)) ∧ SameC h I)) : Pair Kept l G YC YM dc dm args := by
  refine Pair.of hk (rF x e f) (fun h hI => ?_) (fun h hI => ?_)
  · rcases hI.read x with ⟨a1, a2, a3⟩ | ⟨n, b1, b2, b3, b4, b5, b6, b7, b8⟩
    · exact (c0 h hI a1).mono rfl fun v h1 ⟨y, J, z1, z2, z3, z4⟩ => ⟨y, J, z1, z2, by rw [z3]; exact (if_neg a3).symm, z4⟩
    · refine (c1 h n hI ⟨b1, b2, b4, b6, b7, b8⟩).mono rfl fun v h1 ⟨y, J, z1, z2, z3, z4⟩ => ⟨y, J, z1, z2, ?_, z4⟩
      rw [z3]; unfold rF
      rw [if_pos ⟨by omega, by omega⟩, show x.toInt.toNat = n by omega]; rfl
  · rcases hI.read x with ⟨a1, a2, a3⟩ | ⟨n, b1, b2, b3, b4, b5, b6, b7, b8⟩
    · exact (m0 h hI a2).mono rfl fun v h1 ⟨y, J, z1, z2, z3, z4⟩ => ⟨y, J, z1, z2, by rw [z3]; exact (if_neg a3).symm, z4⟩
    · refine (m1 h n hI ⟨b1, b2, b4, b6, b7, b8⟩ b5).mono rfl fun v h1 ⟨y, J, z1, z2, z3, z4⟩ => ⟨y, J, z1, z2, ?_, z4⟩
      rw [z3]; unfold rF
      rw [if_pos ⟨by omega, by omega⟩, show x.toInt.toNat = n by omega]; rfl
theorem n_ofV {y : Int32} {n : Int} (e : y.toInt = n) : y = Int32.ofInt n := by subst e; exact (Int32.ofInt_toInt y).symm
theorem MAt.v {h : zH} {n : Nat} (m : MAt h n) (hn : n < 2) {w : Int32} {W : Nat} (hw : w.toInt = (W : Int)) (hW : W < 318) : zofk h 313 w ∧ (zof h 313 w).toInt = RW h (610 + 318 * n) W := by
  obtain ⟨a, b⟩ := m.of hn hw hW
  exact ⟨a, by rw [b, RW_at hW]⟩
theorem MAt.tv {h : zH} {n : Nat} (m : MAt h n) (hn : n < 2) {p w : Int32} {P W : Nat} (hp : p.toInt = (P : Int)) (hP : P < 6) (hw : w.toInt = (W : Int)) (hW : W < 33) : ztok h 313 p w ∧ (ztold h 313 p w).toInt = RW h (610 + 318 * n) (120 + 33 * P + W) := by
  obtain ⟨a, b⟩ := m.told hn hp hP hw hW
  exact ⟨a, by rw [b, RW_at (by omega)]⟩
theorem NA.z {h : zH} {I : Nat → Nat → Int32} {x : Int32} {n : Nat} (s : SameC h I) : RW (I, h.2) (610 + 318 * n) = RW h (610 + 318 * n) := RWc s.al _
theorem n3r {x : Int32} {a b : Int} {u v : Int32} (hu : u.toInt = a) (hv : v.toInt = b) : (zin3 x u v = true ↔ a ≤ x.toInt ∧ x.toInt ≤ b) ∧ (zin3 x u v = false ↔ ¬ (a ≤ x.toInt ∧ x.toInt ≤ b)) := by
  subst hu; subst hv; exact ⟨zin3_t, zin3_f⟩
/-! ===== sign ===== -/
def signF (x2 x3 : Int32) (R : Nat → Int) : Int32 := if x2 = -1 then (if x3 = 0 then Int32.ofInt (R 0) else -2) else if 0 ≤ x2.toInt ∧ x2.toInt < R 0 ∧ 0 ≤ x3.toInt ∧ x3.toInt ≤ 4 then Int32.ofInt (R (1 + 5 * x2.toInt.toNat + x3.toInt.toNat)) else -2
def RAt (h : zH) (r : Nat) : Prop := (zI h 313 43).toInt = ((1246 + 51 * r : Nat) : Int)
theorem zplace1 {x : Int32} {r : Nat} (hx : x.toInt = (r : Int)) (hr : r < 2) : (zplace 1 x).toInt = ((1246 + 51 * r : Nat) : Int) := by
  show (1246 + 51 * x).toInt = _
  have m1 : ((51 : Int32) * x).toInt = 51 * (r : Int) := by
    rw [i_mul (by rw [hx]; show _ ≤ (51 : Int) * _; omega) (by rw [hx]; show (51 : Int) * _ < _; omega), hx]; rfl
  rw [i_add (by rw [m1]; show _ ≤ (1246 : Int) + _; omega) (by rw [m1]; show (1246 : Int) + _ < _; omega), m1]
  show (1246 : Int) + _ = _
  omega
theorem RAt.s0 {h : zH} {r : Nat} (m : RAt h r) (hr : r < 2) : zrok h 313 ∧ (zsigns h 313).toInt = RV h (1246 + 51 * r) 0 := by
  refine ⟨⟨by rw [m]; omega, by rw [m]; omega⟩, ?_⟩
  unfold zsigns
  rw [zix_of m, RV_at (by decide)]; rfl
theorem RAt.s {h : zH} {r : Nat} (m : RAt h r) (hr : r < 2) {k w : Int32} {K W : Nat} (hk : k.toInt = (K : Int)) (hK : K < 10) (hw : w.toInt = (W : Int)) (hW : W < 5) : zsok h 313 k w ∧ (zsignOf h 313 k w).toInt = RV h (1246 + 51 * r) (1 + 5 * K + W) := by
  have e1 : (zI h 313 43 + 1).toInt = ((1247 + 51 * r : Nat) : Int) := by
    rw [i_add (by rw [m]; show _ ≤ _ + (1 : Int); omega) (by rw [m]; show _ + (1 : Int) < _; omega), m]; show _ + (1 : Int) = _; omega
  have e2 : ((5 : Int32) * k).toInt = 5 * (K : Int) := by
    rw [i_mul (by rw [hk]; show _ ≤ (5 : Int) * _; omega) (by rw [hk]; show (5 : Int) * _ < _; omega), hk]; rfl
  have e3 : (zI h 313 43 + 1 + 5 * k).toInt = ((1247 + 51 * r + 5 * K : Nat) : Int) := by
    rw [i_add (by rw [e1, e2]; omega) (by rw [e1, e2]; omega), e1, e2]; omega
  have e : (zI h 313 43 + 1 + 5 * k + w).toInt = ((1246 + 51 * r + (1 + 5 * K + W) : Nat) : Int) := by
    rw [i_add (by rw [e3]; omega) (by rw [e3]; omega), e3]; omega
  refine ⟨⟨by rw [e]; omega, by rw [e]; omega⟩, ?_⟩
  unfold zsignOf
  rw [zix_of e, RV_at (by omega)]; rfl
theorem robj_get {h : zH} {q n : Nat} {V : Nat → Int} {x v : Int32} (a : zAw h q n) (hn : n < 100000) {K : Nat} (hx : x.toInt = (K : Int)) (hK : K < n) (e : (zI h q K).toInt = v.toInt) : zget h (some q) x = v := by
  rw [zget_w a hx hK]; exact i_ext e
theorem pp_sign {Kept : zH → Prop} (hk : KOK Kept) (l : Launch) (G : zG) : P_sign Kept l G := fun x1 x2 x3 => by
  refine Pair.read hk x1 (-2) (signF x2 x3) (fun h hI c0 => ?_) (fun h n hI ⟨b1, b2, b4, b6, b7, b8⟩ => ?_) (fun h hI c0 => ?_) (fun h n hI ⟨b1, b2, b4, b6, b7, b8⟩ bT => ?_)
  · exact kX10_sign 0 x1 x2 x3 (sX10_sign_0 0 x1 x2 x3 hI.1 (Nat.le_refl _) ⟨fun c1 => ⟨_, h.1, rfl, rfl, rfl, SameC.rf h⟩, fun b5 c2 => absurd (c0.symm.trans c2) (fun z => by cases z)⟩)
  · have w0 := b7.1
    have r0 := b8.1
    refine kX10_sign 0 x1 x2 x3 (sX10_sign_0 0 x1 x2 x3 hI.1 (Nat.le_refl _) ⟨fun c1 => absurd (b4.symm.trans c1) (fun z => by cases z), fun b5 c2 => ?_⟩)
    have e5 : b5 = 41 + 6 * n := (Option.some.inj (b4.symm.trans c2)).symm
    subst e5
    have hs : zhs h (41 + 6 * n) x2 = decide (0 ≤ x2.toInt ∧ x2.toInt < RV h (1246 + 51 * n) 0) := by unfold zhs; rw [r0]
    refine ⟨fun c3 => ⟨b6, fun c4 => ⟨_, h.1, rfl, rfl, ?_, SameC.rf h⟩, fun c5 => ?_⟩, fun c7 => ⟨fun c8 => ⟨_, h.1, rfl, rfl, ?_, SameC.rf h⟩, fun c9 => ⟨b6, _, h.1, rfl, rfl, ?_, SameC.rf h⟩⟩⟩
    · have q := of_decide_eq_false (hs.symm.trans c4)
      unfold signF
      rw [if_neg c3, if_neg (fun z => q ⟨z.1, z.2.1⟩)]
    · have q := of_decide_eq_true (hs.symm.trans c5)
      obtain ⟨K, hK⟩ : ∃ K : Nat, x2.toInt = (K : Int) := ⟨x2.toInt.toNat, by omega⟩
      have hd := b8.2 K (by omega)
      have sf : ∀ W : Nat, x3.toInt = (W : Int) → W < 5 → signF x2 x3 (RV h (1246 + 51 * n)) = Int32.ofInt (RV h (1246 + 51 * n) (1 + 5 * K + W)) := fun W e3 h3 => by
        unfold signF
        rw [if_neg c3, if_pos (by omega), show x2.toInt.toNat = K by omega, show x3.toInt.toNat = W by omega]
      refine ⟨fun y I => y = signF x2 x3 (RV h (1246 + 51 * n)) ∧ SameC h I, ?_, fun y I z => ⟨y, I, rfl, rfl, z⟩⟩
      refine kX3_part (41 + 6 * n) x2 x3 (sX3_part_0 (41 + 6 * n) x2 x3 b6 (Nat.le_refl _) ⟨fun c1 => ⟨_, h.1, rfl, rfl, ?_, SameC.rf h⟩, fun c2 => ⟨_, h.1, rfl, rfl, ?_, SameC.rf h⟩, fun c2 => ⟨_, h.1, rfl, rfl, ?_, SameC.rf h⟩, fun c2 => ⟨_, h.1, rfl, rfl, ?_, SameC.rf h⟩, fun c2 => ⟨_, h.1, rfl, rfl, ?_, SameC.rf h⟩, fun c2 => ⟨_, h.1, rfl, rfl, ?_, SameC.rf h⟩⟩)
      · unfold signF
        rw [if_neg c3, if_neg (fun z => by omega)]
      · rw [sf 0 c2 (by decide), zget_w (b6.w 1 rfl) hK (by omega)]; exact n_ofV hd.1
      · rw [sf 1 c2 (by decide), zget_w (b6.w 2 rfl) hK (by omega), show 1 + 5 * K + 1 = 2 + 5 * K by omega]; exact n_ofV hd.2.1
      · rw [sf 2 c2 (by decide), zget_w (b6.w 3 rfl) hK (by omega), show 1 + 5 * K + 2 = 3 + 5 * K by omega]; exact n_ofV hd.2.2.1
      · rw [sf 3 c2 (by decide), zget_w (b6.w 4 rfl) hK (by omega), show 1 + 5 * K + 3 = 4 + 5 * K by omega]; exact n_ofV hd.2.2.2.1
      · rw [sf 4 c2 (by decide), zget_w (b6.w 5 rfl) hK (by omega), show 1 + 5 * K + 4 = 5 + 5 * K by omega]; exact n_ofV hd.2.2.2.2
    · unfold signF
      rw [if_pos c7, if_neg c8]
    · unfold signF
      rw [if_pos c7, if_pos c9]; exact n_ofV r0
  · exact kX11_sign 313 x1 x2 x3 (sX11_sign_0 313 x1 x2 x3 hI.2.1 (Nat.le_refl _) ⟨by unfold ziok z5392; decide, fun c1 => absurd (c0.symm.trans c1) (fun z => by cases z), fun c11 => ⟨_, h.1, rfl, rfl, rfl, SameC.rf h⟩⟩)
  · refine kX11_sign 313 x1 x2 x3 (sX11_sign_0 313 x1 x2 x3 hI.2.1 (Nat.le_refl _) ⟨by unfold ziok z5392; decide, fun c1 I12 c2 => ?_, fun c11 => absurd (bT.symm.trans c11) (fun z => by cases z)⟩)
    have s : SameC h I12 := fun b hb j => by
      rw [c2]; exact zI_wo (h := h) (a := 313) (b := b) (by unfold IC at hb; omega) j
    have m : RAt (I12, h.2) n := by
      have e : I12 313 43 = zplace 1 x1 := by rw [c2]; exact zwI_at
      show (I12 313 43).toInt = _
      rw [e]; exact zplace1 b1 b2
    have eV : RV (I12, h.2) (1246 + 51 * n) = RV h (1246 + 51 * n) := RVc s.al _
    have w0 := b7.1
    obtain ⟨k1, k2⟩ := m.s0 b2
    rw [eV] at k2
    have k3 : (zsigns (I12, h.2) 313 - 1).toInt = RV h (1246 + 51 * n) 0 - 1 := by
      rw [i_sub (by rw [k2]; show _ ≤ _ - (1 : Int); omega) (by rw [k2]; show _ - (1 : Int) < _; omega), k2]; rfl
    have q1 := n3r (x := x2) (u := 0) (a := 0) rfl k3
    have q2 := n3r (x := x3) (u := 0) (v := 4) (a := 0) (b := 4) rfl rfl
    refine ⟨fun c3 => ⟨k1, fun c4 => ⟨_, I12, rfl, rfl, ?_, s⟩, fun c5 => ⟨fun c6 => ⟨_, I12, rfl, rfl, ?_, s⟩, fun c7 => ?_⟩⟩, fun c8 => ⟨fun c9 => ⟨_, I12, rfl, rfl, ?_, s⟩, fun c10 => ⟨k1, _, I12, rfl, rfl, ?_, s⟩⟩⟩
    · have := q1.2.mp c4
      unfold signF
      rw [if_neg c3, if_neg (fun z => by omega)]
    · have := q2.2.mp c6
      unfold signF
      rw [if_neg c3, if_neg (fun z => by omega)]
    · have h5 := q1.1.mp c5
      have h7 := q2.1.mp c7
      obtain ⟨K, hK⟩ : ∃ K : Nat, x2.toInt = (K : Int) := ⟨x2.toInt.toNat, by omega⟩
      obtain ⟨W, hW⟩ : ∃ W : Nat, x3.toInt = (W : Int) := ⟨x3.toInt.toNat, by omega⟩
      obtain ⟨t1, t2⟩ := m.s b2 hK (by omega) hW (by omega)
      refine ⟨t1, _, I12, rfl, rfl, ?_, s⟩
      unfold signF
      rw [if_neg c3, if_pos (by omega), show x2.toInt.toNat = K by omega, show x3.toInt.toNat = W by omega, ← eV]
      exact n_ofV t2
    · unfold signF
      rw [if_pos c8, if_neg c9]
    · unfold signF
      rw [if_pos c8, if_pos c10]; exact n_ofV k2
/-! ===== night ===== -/
def rsum (V : Nat → Int) : Nat → Int
  | 0 => 0
  | n + 1 => rsum V n + V (5 + n)
theorem rsum_b {V : Nat → Int} (w : ∀ m, m < 100 → V (5 + m) = 0 ∨ V (5 + m) = 1) : ∀ n, n ≤ 100 → 0 ≤ rsum V n ∧ rsum V n ≤ n
  | 0, _ => ⟨Int.le_refl _, Int.le_refl _⟩
  | n + 1, h => by
    have := rsum_b w n (by omega)
    have h2 := w n (by omega)
    show 0 ≤ rsum V n + V (5 + n) ∧ rsum V n + V (5 + n) ≤ ((n + 1 : Nat) : Int)
    omega
def nightF (x2 : Int32) (V : Nat → Int) : Int32 :=
  if 0 ≤ x2.toInt ∧ x2.toInt ≤ 4 then Int32.ofInt (V x2.toInt.toNat) else if x2 = 5 then Int32.ofInt (rsum V 100)
  else if 10 ≤ x2.toInt ∧ x2.toInt ≤ 39 ∧ x2.toInt % 10 < V 4 then Int32.ofInt (V (105 + 3 * (x2.toInt % 10).toNat + x2.toInt.toNat / 10 - 1)) else -1
theorem c_X1_rainy (l : Launch) (G : zG) (h : zH) (q : Nat) (V : Nat → Int) (hq : lo1 h q) (w : WFN V) (o : NObj h q V) : CTi l G YX1_rainyMinutes 1 [va_rf (some q)] h (fun y I => y = Int32.ofInt (rsum V 100) ∧ I = h.1) := by
  have rb := rsum_b w.2.2.2.2.2.1
  have loop : ∀ (f i : Nat) (x y : Int32), i ≤ 100 → 100 - i < f → x.toInt = (i : Int) → y.toInt = rsum V i →
      Z l G mX1_rainyMinutes 1 (fun w h1 => ∃ x I1, w = some (.int x) ∧ h1 = (I1, h.2) ∧ (x = Int32.ofInt (rsum V 100) ∧ I1 = h.1)) 0 0 4 [va_rf (some q), .int y, .int x] [] h := by
    intro f
    induction f with
    | zero => intro i x y h1 h2; omega
    | succ f ih =>
      intro i x y h1 h2 hx hy
      refine sX1_rainyMinutes_4 q y x hq (Nat.le_refl _) ⟨fun c1 => ⟨_, h.1, rfl, rfl, ?_, rfl⟩, fun c2 => ⟨by omega, by show _ < (100 : Int); omega, ?_⟩⟩
      · rw [show i = 100 by omega] at hy; exact n_ofV hy
      · have e := o.2.1 i (by omega)
        have b1 := rb i h1
        have b2 := rb (i + 1) (by omega)
        have e2 : rsum V (i + 1) = rsum V i + V (5 + i) := rfl
        refine ih (i + 1) (x + 1) _ (by omega) (by omega) (i_1 hx (by omega)) ?_
        rw [zix_of hx, i_add (by omega) (by omega), hy, e]; rfl
  exact kX1_rainyMinutes q (sX1_rainyMinutes_0 q hq (Nat.le_refl _) (loop 101 0 0 0 (by omega) (by omega) rfl rfl))
theorem c_X11_rains (l : Launch) (G : zG) (h : zH) {n : Nat} (hl : lo11 h 313) (hn : n < 2) (m : MAt h n) (w : WFN (RW h (610 + 318 * n))) : CTi l G YX11_rainsTold 2 [va_rf (some 313)] h (fun y I => y = Int32.ofInt (rsum (RW h (610 + 318 * n)) 100) ∧ I = h.1) := by
  have rb := rsum_b w.2.2.2.2.2.1
  have loop : ∀ (f i : Nat) (x y : Int32), i ≤ 100 → 100 - i < f → x.toInt = (i : Int) → y.toInt = rsum (RW h (610 + 318 * n)) i →
      Z l G mX11_rainsTold 2 (fun w h1 => ∃ x I1, w = some (.int x) ∧ h1 = (I1, h.2) ∧ (x = Int32.ofInt (rsum (RW h (610 + 318 * n)) 100) ∧ I1 = h.1)) 0 0 4 [va_rf (some 313), .int y, .int x] [] h := by
    intro f
    induction f with
    | zero => intro i x y h1 h2; omega
    | succ f ih =>
      intro i x y h1 h2 hx hy
      refine sX11_rainsTold_4 313 y x hl (Nat.le_refl _) ⟨fun c1 => ⟨_, h.1, rfl, rfl, ?_, rfl⟩, fun c2 => ?_⟩
      · rw [show i = 100 by omega] at hy; exact n_ofV hy
      · have b1 := rb i h1
        have b2 := rb (i + 1) (by omega)
        have e2 : rsum (RW h (610 + 318 * n)) (i + 1) = rsum (RW h (610 + 318 * n)) i + RW h (610 + 318 * n) (5 + i) := rfl
        have e5 : (5 + x).toInt = ((5 + i : Nat) : Int) := by
          rw [i_add (by show _ ≤ (5 : Int) + _; omega) (by show (5 : Int) + _ < _; omega)]; show (5 : Int) + _ = _; omega
        obtain ⟨t1, t2⟩ := m.v hn e5 (by omega)
        refine ⟨t1, ih (i + 1) (x + 1) _ (by omega) (by omega) (i_1 hx (by omega)) ?_⟩
        rw [i_add (by omega) (by omega), hy, t2]; rfl
  exact kX11_rainsTold 313 (sX11_rainsTold_0 313 hl (Nat.le_refl _) (loop 101 0 0 0 (by omega) (by omega) rfl rfl))
theorem c_X1_errandPart (l : Launch) (G : zG) (h : zH) (q : Nat) (V : Nat → Int) (x2 : Int32) (hq : lo1 h q) (w : WFN V) (o : NObj h q V) (h6 : x2.toInt < 0 ∨ 5 < x2.toInt) : CTi l G YX1_errandPart 2 [va_rf (some q), .int x2] h (fun y I => y = nightF x2 V ∧ I = h.1) := by
  have w4 := w.2.2.2.2.1
  have o4 : (zI h q 4).toInt = V 4 := o.1 4 (by decide)
  have s : ∀ c : Int, 0 ≤ c → c ≤ 100 → c ≤ x2.toInt → (x2 - Int32.ofInt c).toInt = x2.toInt - c := fun c h1 h2 h3 => by
    have := i_rng x2
    rw [i_sub (by rw [n_toi (by omega) (by omega)]; omega) (by rw [n_toi (by omega) (by omega)]; omega), n_toi (by omega) (by omega)]
  have s1 : 10 ≤ x2.toInt → (x2 - 10).toInt = x2.toInt - 10 := fun z => s 10 (by decide) (by decide) z
  have s2 : 20 ≤ x2.toInt → (x2 - 20).toInt = x2.toInt - 20 := fun z => s 20 (by decide) (by decide) z
  have s3 : 30 ≤ x2.toInt → (x2 - 30).toInt = x2.toInt - 30 := fun z => s 30 (by decide) (by decide) z
  have n5 : ¬ (0 ≤ x2.toInt ∧ x2.toInt ≤ 4) := by omega
  have n6 : x2 ≠ 5 := fun z => by
    rw [z] at h6
    exact absurd h6 (by decide)
  have f0 : ¬ (10 ≤ x2.toInt ∧ x2.toInt ≤ 39 ∧ x2.toInt % 10 < V 4) → nightF x2 V = -1 := fun z => by
    unfold nightF; rw [if_neg n5, if_neg n6, if_neg z]
  have f1 : ∀ (K T : Nat), x2.toInt = ((10 * (T + 1) + K : Nat) : Int) → T < 3 → (K : Int) < V 4 → nightF x2 V = Int32.ofInt (V (105 + 3 * K + T)) := fun K T e hT hK => by
    unfold nightF
    rw [if_neg n5, if_neg n6, if_pos (by omega), show (x2.toInt % 10).toNat = K by omega, show x2.toInt.toNat / 10 = T + 1 by omega]
    exact congrArg (fun z => Int32.ofInt (V z)) (by omega)
  have g1 : ∀ (K T : Nat) (y : Int32), x2.toInt = ((10 * (T + 1) + K : Nat) : Int) → T < 3 → (K : Int) < V 4 → y.toInt = (K : Int) → zget h (some (q + 2 + T)) y = nightF x2 V := fun K T y e hT hK hy => by
    rw [f1 K T e hT hK]
    have d := o.2.2.1 K hK
    match T, hT with
    | 0, _ => rw [zget_w (hq.w 2 rfl : zAw h (q + 2 + 0) 5) hy (by omega)]; exact n_ofV d.1
    | 1, _ => rw [zget_w (hq.w 3 rfl : zAw h (q + 2 + 1) 5) hy (by omega), show 105 + 3 * K + 1 = 106 + 3 * K by omega]; exact n_ofV d.2.1
    | 2, _ => rw [zget_w (hq.w 4 rfl : zAw h (q + 2 + 2) 5) hy (by omega), show 105 + 3 * K + 2 = 107 + 3 * K by omega]; exact n_ofV d.2.2
    | k + 3, z => omega
  refine kX1_errandPart q x2 (sX1_errandPart_0 q x2 hq (Nat.le_refl _) ⟨fun c1 => ⟨fun c2 => ⟨fun c3 => ⟨_, h.1, rfl, rfl, (f0 (by omega)).symm, rfl⟩, fun c4 => absurd c4 (by omega)⟩, fun c7 => absurd c7 (by omega)⟩, fun c14 => ⟨fun c15 => ⟨fun c16 => ⟨fun c17 => ⟨_, h.1, rfl, rfl, ?_, rfl⟩, fun c18 => absurd c18 (by omega)⟩, fun c21 => ⟨fun c22 => ⟨fun c23 => ⟨_, h.1, rfl, rfl, ?_, rfl⟩, fun c24 => ⟨fun c25 => ⟨_, h.1, rfl, rfl, ?_, rfl⟩, fun c26 => ⟨_, h.1, rfl, rfl, ?_, rfl⟩⟩⟩, fun c27 => ⟨_, h.1, rfl, rfl, ?_, rfl⟩⟩⟩, fun c28 => ⟨_, h.1, rfl, rfl, ?_, rfl⟩⟩⟩)
  · rw [s1 c14, o4] at c15
    exact (f0 (by omega)).symm
  · rw [s2 c21, o4] at c22
    exact (f0 (by omega)).symm
  · rw [s3 c24, o4] at c25
    exact (f0 (by omega)).symm
  · rw [s3 c24, o4] at c26
    exact g1 (x2.toInt - 30).toNat 2 (x2 - 30) (by omega) (by decide) (by omega) (by rw [s3 c24]; omega)
  · rw [s2 c21, o4] at c27
    exact g1 (x2.toInt - 20).toNat 1 (x2 - 20) (by omega) (by decide) (by omega) (by rw [s2 c21]; omega)
  · rw [s1 c14, o4] at c28
    exact g1 (x2.toInt - 10).toNat 0 (x2 - 10) (by omega) (by decide) (by omega) (by rw [s1 c14]; omega)
theorem pp_night {Kept : zH → Prop} (hk : KOK Kept) (l : Launch) (G : zG) : P_night Kept l G := fun x1 x2 => by
  refine Pair.night hk x1 (-1) (nightF x2) (fun h hI c0 => ?_) (fun h n hI ⟨b1, b2, b4, b6, b7, b8⟩ => ?_) (fun h hI c0 => ?_) (fun h n hI ⟨b1, b2, b4, b6, b7, b8⟩ bT => ?_)
  · exact kX10_night 0 x1 x2 (sX10_night_0 0 x1 x2 hI.1 (Nat.le_refl _) ⟨fun c1 => ⟨_, h.1, rfl, rfl, rfl, SameC.rf h⟩, fun b5 c2 => absurd (c0.symm.trans c2) (fun z => by cases z)⟩)
  · have f1 : ∀ W : Nat, x2.toInt = (W : Int) → W < 5 → nightF x2 (RW h (610 + 318 * n)) = zI h (5 + 18 * n) W := fun W e h5 => by
      unfold nightF
      rw [if_pos (by omega), show x2.toInt.toNat = W by omega]; exact (n_ofV (b8.1 W h5)).symm
    refine kX10_night 0 x1 x2 (sX10_night_0 0 x1 x2 hI.1 (Nat.le_refl _) ⟨fun c1 => absurd (b4.symm.trans c1) (fun z => by cases z), fun b5 c2 => ?_⟩)
    have e5 : b5 = 5 + 18 * n := (Option.some.inj (b4.symm.trans c2)).symm
    subst e5
    refine ⟨fun c3 => ⟨b6, _, c_X1_errandPart l G h _ _ x2 b6 b7 b8 c3, fun y I z => ⟨y, I, rfl, rfl, z.1, by rw [z.2]; exact SameC.rf h⟩⟩, fun c5 => ⟨b6, _, h.1, rfl, rfl, (f1 0 c5 (by decide)).symm, SameC.rf h⟩, fun c5 => ⟨b6, _, h.1, rfl, rfl, (f1 1 c5 (by decide)).symm, SameC.rf h⟩, fun c5 => ⟨b6, _, h.1, rfl, rfl, (f1 2 c5 (by decide)).symm, SameC.rf h⟩, fun c5 => ⟨b6, _, h.1, rfl, rfl, (f1 3 c5 (by decide)).symm, SameC.rf h⟩, fun c5 => ⟨b6, _, h.1, rfl, rfl, (f1 4 c5 (by decide)).symm, SameC.rf h⟩, fun c10 => ⟨b6, _, c_X1_rainy l G h _ _ b6 b7 b8, fun y I z => ⟨y, I, rfl, rfl, ?_, by rw [z.2]; exact SameC.rf h⟩⟩⟩
    rw [z.1]
    unfold nightF
    rw [if_neg (by omega), if_pos (i_ext c10)]
  · refine kX11_night 313 x1 x2 (sX11_night_0 313 x1 x2 hI.2.1 (Nat.le_refl _) ⟨_, c_isN l G hI x1, fun y6 I4 ⟨s1, s2, s3, s4⟩ => ⟨fun c2 => ?_, fun c2 => ⟨_, I4, rfl, rfl, rfl, s1⟩⟩⟩)
    exact absurd (c0.symm.trans (s3.symm.trans c2)) (fun z => by cases z)
  · refine kX11_night 313 x1 x2 (sX11_night_0 313 x1 x2 hI.2.1 (Nat.le_refl _) ⟨_, c_isN l G hI x1, fun y6 I4 ⟨s1, s2, s3, s4⟩ => ⟨fun c2 => ?_, fun c2 => absurd (bT.symm.trans (s3.symm.trans c2)) (fun z => by cases z)⟩⟩)
    have m := s4 n b1 b2 c2
    have eV : RW (I4, h.2) (610 + 318 * n) = RW h (610 + 318 * n) := RWc s1.al _
    have w4 := b7.2.2.2.2.1
    have q1 := n3r (x := x2) (u := 0) (v := 4) (a := 0) (b := 4) rfl rfl
    have q2 := n3r (x := x2) (u := 10) (v := 39) (a := 10) (b := 39) rfl rfl
    obtain ⟨k1, k2⟩ := m.v b2 (w := 4) (W := 4) rfl (by decide)
    rw [eV] at k2
    refine ⟨fun c3 => ⟨fun c4 => ⟨fun c5 => ⟨_, I4, rfl, rfl, ?_, s1⟩, fun c6 => ⟨k1, fun c7 => ⟨_, I4, rfl, rfl, ?_, s1⟩, fun c8 => ?_⟩⟩, fun c9 => ⟨_, c_X11_rains l G (I4, h.2) hI.2.1 b2 m (by rw [eV]; exact b7), fun y I z => ⟨y, I, rfl, rfl, ?_, by rw [z.2]; exact s1⟩⟩⟩, fun c11 => ?_⟩
    · have h3 := q1.2.mp c3
      have h5 := q2.2.mp c5
      unfold nightF
      rw [if_neg h3, if_neg c4, if_neg (fun z => h5 ⟨z.1, z.2.1⟩)]
    · have h3 := q1.2.mp c3
      have h6 := q2.1.mp c6
      rw [k2, n_rem (by omega) (by decide)] at c7
      unfold nightF
      rw [if_neg h3, if_neg c4, if_neg (fun z => by have := z.2.2; exact absurd c7 (by show ¬ _ ≤ x2.toInt % (10 : Int); omega))]
    · have h3 := q1.2.mp c3
      have h6 := q2.1.mp c6
      have e1 : (zrem x2 10).toInt = x2.toInt % 10 := n_rem (by omega) (by decide)
      have e2 : (x2 / (10 : Int32)).toInt = x2.toInt / 10 := n_div (by omega) (by decide)
      rw [k2, e1] at c8
      have e3 : ((3 : Int32) * zrem x2 10).toInt = 3 * (x2.toInt % 10) := by
        rw [i_mul (by rw [e1]; show _ ≤ (3 : Int) * _; omega) (by rw [e1]; show (3 : Int) * _ < _; omega), e1]; rfl
      have e4 : ((105 : Int32) + 3 * zrem x2 10).toInt = 105 + 3 * (x2.toInt % 10) := by
        rw [i_add (by rw [e3]; show _ ≤ (105 : Int) + _; omega) (by rw [e3]; show (105 : Int) + _ < _; omega), e3]; rfl
      have e5 : (((105 : Int32) + 3 * zrem x2 10) + x2 / 10).toInt = 105 + 3 * (x2.toInt % 10) + x2.toInt / 10 := by
        rw [i_add (by rw [e4, e2]; omega) (by rw [e4, e2]; omega), e4, e2]
      have e6 : ((((105 : Int32) + 3 * zrem x2 10) + x2 / 10) - 1).toInt = ((105 + 3 * (x2.toInt % 10).toNat + x2.toInt.toNat / 10 - 1 : Nat) : Int) := by
        rw [i_sub (by rw [e5]; show _ ≤ _ - (1 : Int); omega) (by rw [e5]; show _ - (1 : Int) < _; omega), e5]; show _ - (1 : Int) = _; omega
      obtain ⟨t1, t2⟩ := m.v b2 e6 (by omega)
      refine ⟨t1, _, I4, rfl, rfl, ?_, s1⟩
      unfold nightF
      rw [if_neg h3, if_neg c4, if_pos ⟨h6.1, h6.2, c8⟩, ← eV]
      exact n_ofV t2
    · rw [z.1, eV]
      have h3 := q1.2.mp c3
      unfold nightF
      rw [if_neg h3, if_pos c9]
    · have h3 := q1.1.mp c11
      obtain ⟨t1, t2⟩ := m.v b2 (w := x2) (W := x2.toInt.toNat) (by omega) (by omega)
      refine ⟨t1, _, I4, rfl, rfl, ?_, s1⟩
      unfold nightF
      rw [if_pos h3, ← eV]
      exact n_ofV t2
