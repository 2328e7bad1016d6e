set_option maxRecDepth 4000
/-! ===== makers, follows ===== -/
def RKG (FW : (Nat → Int) → (Nat → Int) → Int32 → Int32 → (Nat → Int32) → Prop) : (Nat → Int) → (Nat → Int) → (Nat → Int32) → (Nat → Int32) → (Nat → Int32) → (Nat → Int32) → Prop := fun V R z0 z1 z2 z3 => RowC V R z0 z1 z2 ∧ (z0 3 = -1 ∨ FW V R (z0 3) (z0 4) z3)
section K58
variable {TK : (Nat → Int) → (Nat → Int32) → (Nat → Int32) → Prop} {RK : (Nat → Int) → (Nat → Int) → (Nat → Int32) → (Nat → Int32) → (Nat → Int32) → (Nat → Int32) → Prop} {FW : (Nat → Int) → (Nat → Int) → Int32 → Int32 → (Nat → Int32) → Prop}
/-- only the rows' objects and what says whose they are change -/
theorem Inv.rows {h : zH} {J : Nat → Nat → Int32} (hI : Inv (KeptP TK RK) h) (e : ∀ b, b ≠ 0 → ¬ (150 ≤ b ∧ b ≤ 156) → J b = h.1 b) (e0 : ∀ k, k ≠ 13 → k ≠ 14 → J 0 k = h.1 0 k) (r : RKh RK (J, h.2)) : Inv (KeptP TK RK) (J, h.2) := by
  obtain ⟨l1, l2, hN, hT, hIm, hK⟩ := hI
  have e314 : J 314 = h.1 314 := e 314 (by decide) (by decide)
  have eA : AL (J, h.2) = AL h := e314
  refine ⟨l1, l2, hN, hT.kept (fun b h1 h2 j => by rw [e b (by omega) (by omega)]) (fun j => by rw [e314]), fun k hk => ?_, ?_, r⟩
  · obtain ⟨r1, r2⟩ := hIm k hk
    show J 54 k = J 315 k ∧ (J 315 k = 0 ∨ J 315 k = 1 ∧ TRel (J, h.2) (157 + 52 * k) (1348 * (k + 1)))
    rw [e 54 (by decide) (by decide), e 315 (by decide) (by decide)]
    exact ⟨r1, r2.elim Or.inl (fun r => Or.inr ⟨r.1, r.2.kept (fun b h1 h2 j => by rw [e b (by omega) (by omega)]) (fun j => by rw [e314])⟩)⟩
  · have k1 := hK.1
    unfold TKh at k1 ⊢
    rw [eA, show zI (J, h.2) 0 11 = zI h 0 11 from e0 11 (by decide) (by decide), show zI (J, h.2) 136 = zI h 136 from e 136 (by decide) (by decide), show zI (J, h.2) 137 = zI h 137 from e 137 (by decide) (by decide)]
    exact k1.elim Or.inl (fun ⟨n, q1, q2, q3⟩ => Or.inr ⟨n, q1, q2, by rw [RWc eA]; exact q3⟩)
theorem los_150 {h : zH} (q : lo10 h 0) : lo4 h 150 := by
  have := zlo.sub (ks' := ks4) (rs' := rs4) q 150 (by decide +kernel) (by decide +kernel) (by decide +kernel)
  rw [Nat.zero_add] at this
  exact this
theorem c_cmp0 (l : Launch) (G : zG) (h : zH) (x1 x2 : Int32) (l10 : lo10 h 0) (c : znat h 1 x1 = none ∨ zrat h 1 x2 = none) : CTz l G YX10_compare 6 [va_rf (some 0), .int x1, .int x2] h (fun y I => y = false ∧ I = h.1) := by
  refine kX10_compare 0 x1 x2 (sX10_compare_0 0 x1 x2 l10 (Nat.le_refl _) ⟨fun c1 => ⟨false, h.1, rfl, rfl, rfl, rfl⟩, fun b8 c2 => ⟨fun c3 => ⟨false, h.1, rfl, rfl, rfl, rfl⟩, fun b12 c4 => ?_⟩⟩)
  exact c.elim (fun z => absurd (z.symm.trans c2) (fun y => by cases y)) (fun z => absurd (z.symm.trans c4) (fun y => by cases y))
def cmpQ (TK : (Nat → Int) → (Nat → Int32) → (Nat → Int32) → Prop) (FW : (Nat → Int) → (Nat → Int) → Int32 → Int32 → (Nat → Int32) → Prop) (h : zH) (x1 x2 : Int32) (V R : Nat → Int) (I : Nat → Nat → Int32) : Prop :=
  Inv (KeptP TK (RKG FW)) (I, h.2) ∧ (∀ b, b ≠ 0 → ¬ (150 ≤ b ∧ b ≤ 152) → I b = h.1 b) ∧ (∀ k, k ≠ 13 → k ≠ 14 → I 0 k = h.1 0 k) ∧ I 0 13 = x1 ∧ I 0 14 = x2 ∧ RKG FW V R (I 150) (I 151) (I 152) (I 153)
theorem c_cmp1 (l : Launch) (G : zG) (h : zH) (x1 x2 : Int32) (n r : Nat) (hI : Inv (KeptP TK (RKG FW)) h) (na : NA h x1 n) (ra : RA h x2 r) : CTz l G YX10_compare 6 [va_rf (some 0), .int x1, .int x2] h (fun y I => y = true ∧ cmpQ TK FW h x1 x2 (RW h (610 + 318 * n)) (RV h (1246 + 51 * r)) I) := by
  obtain ⟨b1, b2, b4, b6, b7, b8⟩ := na
  obtain ⟨d1, d2, d4, d6, d7, d8⟩ := ra
  have l150 := los_150 hI.1
  have fresh : ∀ (I22 I28 I31 : Nat → Nat → Int32), ((∀ b, b ≠ 150 → b ≠ 150 + 1 → b ≠ 150 + 2 → I22 b = h.1 b) ∧ RowC (RW h (610 + 318 * n)) (RV h (1246 + 51 * r)) (I22 150) (I22 (150 + 1)) (I22 (150 + 2)) ∧ I22 150 3 = -1) → I28 = (zwI (I22, h.2) 0 13 x1).1 → I31 = (zwI (I28, h.2) 0 14 x2).1 → cmpQ TK FW h x1 x2 (RW h (610 + 318 * n)) (RV h (1246 + 51 * r)) I31 := by
    intro I22 I28 I31 ⟨g1, g2, g3⟩ c7 c8
    obtain ⟨a1, a2, a3⟩ := zwI_eff c7
    obtain ⟨f1, f2, f3⟩ := zwI_eff c8
    have o : ∀ b, b ≠ 0 → I31 b = I22 b := fun b hb => (f1 b hb).trans (a1 b hb)
    have o0 : ∀ k, k ≠ 13 → k ≠ 14 → I31 0 k = h.1 0 k := fun k h1 h2 => ((f2 k h2).trans (a2 k h1)).trans (congrFun (g1 0 (by decide) (by decide) (by decide)) k)
    have ob : ∀ b, b ≠ 0 → ¬ (150 ≤ b ∧ b ≤ 152) → I31 b = h.1 b := fun b h1 h2 => (o b h1).trans (g1 b (by omega) (by omega) (by omega))
    have e13 : I31 0 13 = x1 := (f2 13 (by decide)).trans a3
    have rk : RKG FW (RW h (610 + 318 * n)) (RV h (1246 + 51 * r)) (I31 150) (I31 151) (I31 152) (I31 153) := by
      rw [o 150 (by decide), o 151 (by decide), o 152 (by decide)]
      exact ⟨g2, Or.inl g3⟩
    have eA : AL (I31, h.2) = AL h := ob 314 (by decide) (by decide)
    have hn := hI.night x1
    have hr := hI.read x2
    refine ⟨hI.rows (fun b h1 h2 => ob b h1 (by omega)) o0 (Or.inr ⟨n, r, by show (I31 0 13).toInt = _; rw [e13]; exact b1, by show (I31 0 14).toInt = _; rw [f3]; exact d1, ?_, ?_, ?_⟩), ob, o0, e13, f3, rk⟩
    · rw [eA]
      rcases hn with ⟨z1, _⟩ | ⟨n', z1, z2, z3, _⟩
      · exact absurd (z1.symm.trans b4) (fun y => by cases y)
      · omega
    · rw [eA]
      rcases hr with ⟨z1, _⟩ | ⟨n', z1, z2, z3, _⟩
      · exact absurd (z1.symm.trans d4) (fun y => by cases y)
      · omega
    · rw [RWc eA, RVc eA]; exact rk
  refine kX10_compare 0 x1 x2 (sX10_compare_0 0 x1 x2 hI.1 (Nat.le_refl _) ⟨fun c1 => absurd (b4.symm.trans c1) (fun z => by cases z), fun b8' c2 => ⟨fun c3 => absurd (d4.symm.trans c3) (fun z => by cases z), fun b12 c4 => ?_⟩⟩)
  have e8 : b8' = 5 + 18 * n := (Option.some.inj (b4.symm.trans c2)).symm
  have e12 : b12 = 41 + 6 * r := (Option.some.inj (d4.symm.trans c4)).symm
  subst e8
  subst e12
  have cx := c_compareX4 l G h 150 (5 + 18 * n) (41 + 6 * r) _ _ l150 b6 b7 b8 d6 d7 d8 (by omega) (by omega)
  refine ⟨fun c5 => ⟨_, cx, fun I22 c6 I28 c7 I31 c8 => ⟨true, I31, rfl, rfl, rfl, fresh I22 I28 I31 c6 c7 c8⟩⟩, fun c9 => ⟨fun c10 => ⟨true, h.1, rfl, rfl, rfl, ?_⟩, fun c11 => ⟨_, cx, fun I41 c12 I47 c13 I50 c14 => ⟨true, I50, rfl, rfl, rfl, fresh I41 I47 I50 c12 c13 c14⟩⟩⟩⟩
  refine ⟨hI, fun _ _ _ => rfl, fun _ _ _ => rfl, c9, c10, ?_⟩
  rcases hI.2.2.2.2.2.2 with z | ⟨n', r', q1, q2, q3, q4, q5⟩
  · exact absurd (c9.symm.trans z) (fun e => by rw [e, show (-1 : Int32).toInt = -1 from rfl] at b1; omega)
  · have c9' : zI h 0 13 = x1 := c9
    have c10' : zI h 0 14 = x2 := c10
    rw [c9'] at q1
    rw [c10'] at q2
    have en : n' = n := by omega
    have er : r' = r := by omega
    rw [en, er] at q5
    exact q5
def rdF (x1 x2 e : Int32) (f : (Nat → Int) → (Nat → Int) → Int32) (A : Nat → Int32) : Int32 := if (0 ≤ x1.toInt ∧ x1.toInt < (A 0).toInt) ∧ 0 ≤ x2.toInt ∧ x2.toInt < (A 1).toInt then f (rwA A (610 + 318 * x1.toInt.toNat)) (rvA A (1246 + 51 * x2.toInt.toNat)) else e
theorem Pair.rows {Kept : zH → Prop} {l : Launch} {G : zG} {YC YM : zY} {dc dm : Nat} {args : List Value} (hk : KOK Kept) (x1 x2 e : Int32) (f : (Nat → Int) → (Nat → Int) → Int32)
    (c0 : ∀ h, Inv Kept h → (znat h 1 x1 = none ∨ zrat h 1 x2 = none) → CTi l G YC dc (va_rf (some 0) :: args) h (fun y I => y = e ∧ SameC h I))
    (c1 : ∀ h n r, Inv Kept h → NA h x1 n → RA h x2 r → CTi l G YC dc (va_rf (some 0) :: args) h (fun y I => y = f (RW h (610 + 318 * n)) (RV h (1246 + 51 * r)) ∧ Inv Kept (I, h.2) ∧ AL (I, h.2) = AL h ∧ I 1000000 = h.1 1000000))
    (m0 : ∀ h, Inv Kept h → (zisOf h 313 0 x1 = false ∨ zisOf h 313 1 x2 = false) → CTi l G YM dm (va_rf (some 313) :: args) h (fun y I => y = e ∧ SameC h I))
    (m1 : ∀ h n r, Inv Kept h → NA h x1 n → RA h x2 r → zisOf h 313 0 x1 = true → zisOf h 313 1 x2 = true → CTi l G YM dm (va_rf (some 313) :: args) h (fun y I => y = f (RW h (610 + 318 * n)) (RV h (1246 + 51 * r)) ∧ SameC h I)) : Pair Kept l G YC YM dc dm args := fun h hI => by
  have hm : ∀ h, Inv Kept h → CTi l G YM dm (va_rf (some 313) :: args) h (fun y I => y = rdF x1 x2 e f (AL h) ∧ SameC h I) := fun h hI => by
    rcases hI.night x1 with ⟨a1, a2, a3⟩ | ⟨n, b1, b2, b3, b4, b5, b6, b7, b8⟩
    · exact (m0 h hI (Or.inl a2)).mono rfl fun v h1 ⟨y, J, z1, z2, z3, z4⟩ => ⟨y, J, z1, z2, by rw [z3]; exact (if_neg (fun z => a3 z.1)).symm, z4⟩
    · rcases hI.read x2 with ⟨a1, a2, a3⟩ | ⟨r, d1, d2, d3, d4, d5, d6, d7, d8⟩
      · exact (m0 h hI (Or.inr a2)).mono rfl fun v h1 ⟨y, J, z1, z2, z3, z4⟩ => ⟨y, J, z1, z2, by rw [z3]; exact (if_neg (fun z => a3 z.2)).symm, z4⟩
      · refine (m1 h n r hI ⟨b1, b2, b4, b6, b7, b8⟩ ⟨d1, d2, d4, d6, d7, d8⟩ b5 d5).mono rfl fun v h1 ⟨y, J, z1, z2, z3, z4⟩ => ⟨y, J, z1, z2, ?_, z4⟩
        rw [z3]; unfold rdF
        rw [if_pos ⟨⟨by omega, by omega⟩, by omega, by omega⟩, show x1.toInt.toNat = n by omega, show x2.toInt.toNat = r by omega]; rfl
  have hc : CTi l G YC dc (va_rf (some 0) :: args) h (fun y I => y = rdF x1 x2 e f (AL h) ∧ Inv Kept (I, h.2) ∧ AL (I, h.2) = AL h ∧ I 1000000 = h.1 1000000) := by
    rcases hI.night x1 with ⟨a1, a2, a3⟩ | ⟨n, b1, b2, b3, b4, b5, b6, b7, b8⟩
    · exact (c0 h hI (Or.inl a1)).mono rfl fun v h1 ⟨y, J, z1, z2, z3, z4⟩ => ⟨y, J, z1, z2, by rw [z3]; exact (if_neg (fun z => a3 z.1)).symm, hI.kept hk z4, z4.al, funext fun j => z4 1000000 (by unfold IC; omega) j⟩
    · rcases hI.read x2 with ⟨a1, a2, a3⟩ | ⟨r, d1, d2, d3, d4, d5, d6, d7, d8⟩
      · exact (c0 h hI (Or.inr a1)).mono rfl fun v h1 ⟨y, J, z1, z2, z3, z4⟩ => ⟨y, J, z1, z2, by rw [z3]; exact (if_neg (fun z => a3 z.2)).symm, hI.kept hk z4, z4.al, funext fun j => z4 1000000 (by unfold IC; omega) j⟩
      · refine (c1 h n r hI ⟨b1, b2, b4, b6, b7, b8⟩ ⟨d1, d2, d4, d6, d7, d8⟩).mono rfl fun v h1 ⟨y, J, z1, z2, z3, z4⟩ => ⟨y, J, z1, z2, ?_, z4⟩
        rw [z3]; unfold rdF
        rw [if_pos ⟨⟨by omega, by omega⟩, by omega, by omega⟩, show x1.toInt.toNat = n by omega, show x2.toInt.toNat = r by omega]; rfl
  refine ⟨rdF x1 x2 e f (AL h), fun I => Inv Kept (I, h.2) ∧ AL (I, h.2) = AL h ∧ I 1000000 = h.1 1000000, hc, fun I s j => by rw [s.2.2], fun I s => (hm (I, h.2) s.1).mono rfl fun v h1 ⟨y, I2, e1, e2, e3, e4⟩ => ⟨y, I2, e1, e2, by rw [e3, s.2.1], ?_⟩⟩
  exact Inv.kept (h := (I, h.2)) hk s.1 e4
/-- the reference reads night and reading -/
theorem c_areRead1 (l : Launch) (G : zG) {Kept : zH → Prop} {h : zH} (hI : Inv Kept h) (x1 x2 : Int32) (n r : Nat) (na : NA h x1 n) (ra : RA h x2 r) (t1 : zisOf h 313 0 x1 = true) (t2 : zisOf h 313 1 x2 = true) : CTz l G YX11_areRead 4 [va_rf (some 313), .int x1, .int x2] h (fun y I => y = true ∧ SameC h I ∧ MN (I, h.2) n (RW h (610 + 318 * n)) ∧ zI (I, h.2) 313 14 = -1 ∧ MR (I, h.2) r (RV h (1246 + 51 * r))) := by
  obtain ⟨b1, b2, b4, b6, b7, b8⟩ := na
  obtain ⟨d1, d2, d4, d6, d7, d8⟩ := ra
  refine kX11_areRead 313 x1 x2 (sX11_areRead_0 313 x1 x2 hI.2.1 (Nat.le_refl _) ⟨_, c_isN l G hI x1, fun y6 I4 ⟨s1, s2, s3, s4⟩ => ⟨fun c2 => absurd (t1.symm.trans (s3.symm.trans c2)) (fun z => by cases z), fun c3 => ⟨by unfold ziok z5392; decide, fun c4 I25 c5 => ⟨true, I25, rfl, rfl, rfl, ?_⟩, fun c6 => ?_⟩⟩⟩)
  · have ma := s4 n b1 b2 c3
    have eV : RW (I4, h.2) (610 + 318 * n) = RW h (610 + 318 * n) := RWc s1.al _
    have mm := ma.mn b2 (by rw [eV]; exact b7)
    rw [eV] at mm
    obtain ⟨a1, a2, a3⟩ := zwI_eff c5
    have s : SameC h I25 := fun b hb j => by
      rw [a1 b (by unfold IC at hb; omega)]; exact s1 b hb j
    refine ⟨s, mm.cg (h := (I4, h.2)) (fun k hk => a2 k (by omega)) (a1 314 (by decide)) (fun k _ => by rw [a1 317 (by decide)]), (a2 14 (by decide)).trans ma.2.2.1, d2, ?_, RVc s.al _⟩
    show (I25 313 43).toInt = _
    rw [a3]; exact zplace1 d1 d2
  · have e : zisOf (I4, h.2) 313 1 x2 = zisOf h 313 1 x2 := by
      unfold zisOf
      rw [show zI (I4, h.2) (313 + 1) (zix 1) = zI h (313 + 1) (zix 1) from s1 314 (by unfold IC; omega) _]
    exact absurd (t2.symm.trans (e.symm.trans c6)) (fun z => by cases z)
theorem c_areRead0 (l : Launch) (G : zG) {Kept : zH → Prop} {h : zH} (hI : Inv Kept h) (x1 x2 : Int32) (t : zisOf h 313 0 x1 = false ∨ zisOf h 313 1 x2 = false) : CTz l G YX11_areRead 4 [va_rf (some 313), .int x1, .int x2] h (fun y I => y = false ∧ SameC h I) := by
  refine kX11_areRead 313 x1 x2 (sX11_areRead_0 313 x1 x2 hI.2.1 (Nat.le_refl _) ⟨_, c_isN l G hI x1, fun y6 I4 ⟨s1, s2, s3, s4⟩ => ⟨fun c2 => ⟨false, I4, rfl, rfl, rfl, s1⟩, fun c3 => ⟨by unfold ziok z5392; decide, fun c4 I25 c5 => ?_, fun c6 => ⟨false, I4, rfl, rfl, rfl, s1⟩⟩⟩⟩)
  have e : zisOf (I4, h.2) 313 1 x2 = zisOf h 313 1 x2 := by
    unfold zisOf
    rw [show zI (I4, h.2) (313 + 1) (zix 1) = zI h (313 + 1) (zix 1) from s1 314 (by unfold IC; omega) _]
  exact t.elim (fun z => absurd (z.symm.trans (s3.symm.trans c3)) (fun y => by cases y)) (fun z => absurd (z.symm.trans (e.symm.trans c4)) (fun y => by cases y))
def forgF (V R : Nat → Int) : Int32 := orP (fun k => if mkF V R k = 0 then bit1 k else 0) (R 0).toNat
def makA (x3 : Int32) (V R : Nat → Int) : Int32 := if x3 = -1 then forgF V R else if 0 ≤ x3.toInt ∧ x3.toInt < R 0 then mkF V R x3.toInt.toNat else -2
theorem c_forged (l : Launch) (G : zG) (h : zH) (V R : Nat → Int) (hl : lo4 h 150) (wr : WFR R) (r : RowC V R (h.1 150) (h.1 151) (h.1 152)) : CTi l G YX4_forged 2 [va_rf (some 150)] h (fun y I => y = forgF V R ∧ I = h.1) := by
  have wr0 := wr.1
  have n0 : (zI h 150 0).toInt = R 0 := r.1
  have loop : ∀ (f i : Nat) (x1 x2 : Int32), (i : Int) ≤ R 0 → R 0 - i < (f : Int) → x2.toInt = (i : Int) → x1 = orP (fun k => if mkF V R k = 0 then bit1 k else 0) i →
      Z l G mX4_forged 2 (fun w h1 => ∃ x I1, w = some (.int x) ∧ h1 = (I1, h.2) ∧ (x = forgF V R ∧ I1 = h.1)) 0 0 4 [va_rf (some 150), .int x1, .int x2] [] h := by
    intro f
    induction f with
    | zero => intro i x1 x2 h1 h2; omega
    | succ f ih =>
      intro i x1 x2 h1 h2 hx hs
      refine sX4_forged_4 150 x1 x2 hl (Nat.le_refl _) ⟨fun c1 => ⟨_, h.1, rfl, rfl, ?_, rfl⟩, fun c2 => ?_⟩
      · rw [hs]; unfold forgF; rw [show (R 0).toNat = i by omega]
      · rw [zget_w (hl.w 1 rfl : zAw h (150 + 1) 10) hx (by omega), show zI h (150 + 1) i = mkF V R i from r.2.1 i (by omega)]
        refine ⟨fun c3 => ih (i + 1) _ _ (by omega) (by omega) (i_1 hx (by omega)) (orP_0 hs (if_neg c3)), fun c4 => ih (i + 1) _ _ (by omega) (by omega) (i_1 hx (by omega)) ?_⟩
        rw [bit1_of hx]
        exact orP_s hs (if_pos c4)
  exact kX4_forged 150 (sX4_forged_0 150 hl (Nat.le_refl _) (loop 11 0 0 0 (by omega) (by omega) rfl rfl))
theorem pp_makers (l : Launch) (G : zG) : P_makers (KeptP TK (RKG FW)) l G := fun x1 x2 x3 => by
  refine Pair.rows KeptP.ok x1 x2 (-2) (makA x3) (fun h hI c0 => ?_) (fun h n r hI na ra => ?_) (fun h hI c0 => ?_) (fun h n r hI na ra t1 t2 => ?_)
  · have cm := c_cmp0 l G h x1 x2 hI.1 c0
    refine kX10_makers 0 x1 x2 x3 (sX10_makers_0 0 x1 x2 x3 hI.1 (Nat.le_refl _) ⟨fun c1 => ⟨_, h.1, rfl, rfl, rfl, SameC.rf h⟩, fun b5 c2 => ⟨fun c3 => ⟨_, cm, fun y I ⟨z1, z2⟩ => ⟨fun c5 => absurd (z1.symm.trans c5) (fun z => by cases z), fun c9 => ⟨_, I, rfl, rfl, rfl, by rw [z2]; exact SameC.rf h⟩⟩⟩, fun c10 => ⟨?_, fun c11 => ⟨_, h.1, rfl, rfl, rfl, SameC.rf h⟩, fun c12 => ⟨_, cm, fun y I ⟨z1, z2⟩ => ⟨fun c5 => absurd (z1.symm.trans c5) (fun z => by cases z), fun c9 => ⟨_, I, rfl, rfl, rfl, by rw [z2]; exact SameC.rf h⟩⟩⟩⟩⟩⟩)
    rcases hI.read x2 with ⟨a1, a2, a3⟩ | ⟨r, d1, d2, d3, d4, d5, d6, d7, d8⟩
    · exact absurd (a1.symm.trans c2) (fun z => by cases z)
    · have e5 : b5 = 41 + 6 * r := (Option.some.inj (d4.symm.trans c2)).symm
      rw [e5]; exact d6
  · have cm := c_cmp1 l G h x1 x2 n r hI na ra
    obtain ⟨b1, b2, b4, b6, b7, b8⟩ := na
    obtain ⟨d1, d2, d4, d6, d7, d8⟩ := ra
    have w0 := d7.1
    have l150 := los_150 hI.1
    refine kX10_makers 0 x1 x2 x3 (sX10_makers_0 0 x1 x2 x3 hI.1 (Nat.le_refl _) ⟨fun c1 => absurd (d4.symm.trans c1) (fun z => by cases z), fun b5 c2 => ?_⟩)
    have e5 : b5 = 41 + 6 * r := (Option.some.inj (d4.symm.trans c2)).symm
    subst e5
    have hs : zhs h (41 + 6 * r) x3 = decide (0 ≤ x3.toInt ∧ x3.toInt < RV h (1246 + 51 * r) 0) := by unfold zhs; rw [d8.1]
    have fin : ∀ I, cmpQ TK FW h x1 x2 (RW h (610 + 318 * n)) (RV h (1246 + 51 * r)) I → Inv (KeptP TK (RKG FW)) (I, h.2) ∧ AL (I, h.2) = AL h ∧ I 1000000 = h.1 1000000 := fun I q => ⟨q.1, q.2.1 314 (by decide) (by decide), q.2.1 1000000 (by decide) (by decide)⟩
    refine ⟨fun c3 => ⟨_, cm, fun y I ⟨z1, z2⟩ => ⟨fun c5 => ⟨fun c6 => absurd c3 c6, fun c7 => ⟨_, c_forged l G (I, h.2) _ _ l150 d7 z2.2.2.2.2.2.1, fun y37 I35 ⟨u1, u2⟩ => ⟨y37, I35, rfl, rfl, ?_, by rw [u2]; exact fin I z2⟩⟩⟩, fun c9 => absurd (z1.symm.trans c9) (fun z => by cases z)⟩⟩, fun c10 => ⟨d6, fun c11 => ⟨_, h.1, rfl, rfl, ?_, hI, rfl, rfl⟩, fun c12 => ⟨_, cm, fun y I ⟨z1, z2⟩ => ⟨fun c14 => ⟨fun c15 => ⟨_, I, rfl, rfl, ?_, fin I z2⟩, fun c16 => absurd c16 c10⟩, fun c18 => absurd (z1.symm.trans c18) (fun z => by cases z)⟩⟩⟩⟩
    · unfold makA; rw [if_pos c3]; exact u1
    · have q := of_decide_eq_false (hs.symm.trans c11)
      unfold makA; rw [if_neg c10, if_neg q]
    · have q := of_decide_eq_true (hs.symm.trans c12)
      obtain ⟨K, hK⟩ : ∃ K : Nat, x3.toInt = (K : Int) := ⟨x3.toInt.toNat, by omega⟩
      unfold makA
      rw [if_neg c10, if_pos q, show x3.toInt.toNat = K by omega, zget_w (h := (I, h.2)) (l150.w 1 rfl) hK (by omega)]
      exact z2.2.2.2.2.2.1.2.1 K (by omega)
  · refine kX11_makers 313 x1 x2 x3 (sX11_makers_0 313 x1 x2 x3 hI.2.1 (Nat.le_refl _) ⟨_, c_areRead0 l G hI x1 x2 c0, fun y6 I4 ⟨z1, z2⟩ => ⟨fun c2 => ⟨_, I4, rfl, rfl, rfl, z2⟩, fun c3 => absurd (z1.symm.trans c3) (fun z => by cases z)⟩⟩)
  · have w0 := ra.2.2.2.2.1.1
    refine kX11_makers 313 x1 x2 x3 (sX11_makers_0 313 x1 x2 x3 hI.2.1 (Nat.le_refl _) ⟨_, c_areRead1 l G hI x1 x2 n r na ra t1 t2, fun y6 I4 ⟨z1, s, mm, h14, mr⟩ => ⟨fun c2 => absurd (z1.symm.trans c2) (fun z => by cases z), fun c3 => ?_⟩⟩)
    have b7 := na.2.2.2.2.1
    have d7 := ra.2.2.2.2.1
    obtain ⟨kr, vr⟩ := mr.s0
    have e1 : (zsigns (I4, h.2) 313 - 1).toInt = RV h (1246 + 51 * r) 0 - 1 := by
      rw [i_sub (by rw [vr]; show _ ≤ _ - (1 : Int); omega) (by rw [vr]; show _ - (1 : Int) < _; omega), vr]; rfl
    have q := n3r (x := x3) (u := -1) (a := -1) rfl e1
    refine ⟨kr, fun c4 => ⟨fun c5 => ?_, fun c6 => ?_⟩, fun c8 => ⟨_, I4, rfl, rfl, ?_, s⟩⟩
    · have loop : ∀ (f i : Nat) (x4 x5 : Int32), (i : Int) ≤ RV h (1246 + 51 * r) 0 → RV h (1246 + 51 * r) 0 - i < (f : Int) → x5.toInt = (i : Int) → x4 = orP (fun k => if mkF (RW h (610 + 318 * n)) (RV h (1246 + 51 * r)) k = 0 then bit1 k else 0) i →
          Z l G mX11_makers 5 (fun v h1 => ∃ y I, v = some (.int y) ∧ h1 = (I, h.2) ∧ (y = makA x3 (RW h (610 + 318 * n)) (RV h (1246 + 51 * r)) ∧ SameC h I)) 0 0 43 [va_rf (some 313), .int x1, .int x2, .int x3, .int x4, .int x5] [] (I4, h.2) := by
        intro f
        induction f with
        | zero => intro i x4 x5 h1 h2; omega
        | succ f ih =>
          intro i x4 x5 h1 h2 hx hs
          refine sX11_makers_43 313 x1 x2 x3 x4 x5 hI.2.1 (Nat.le_refl _) ⟨kr, fun c1 => ⟨_, I4, rfl, rfl, ?_, s⟩, fun c2 => ⟨_, c_makersM l G (I4, h.2) n r _ _ i x5 hI.2.1 b7 mm h14 d7 mr hx (by omega), fun y14 I12 ⟨u1, u2⟩ => ?_⟩⟩
          · unfold makA forgF
            rw [if_pos c5, hs, show (RV h (1246 + 51 * r) 0).toNat = i by omega]
          · have eI : I12 = I4 := u2
            subst eI
            refine ⟨fun c4 => ih (i + 1) _ _ (by omega) (by omega) (i_1 hx (by omega)) ?_, fun c5 => ih (i + 1) _ _ (by omega) (by omega) (i_1 hx (by omega)) ?_⟩
            · rw [Int32.or_zero]
              exact orP_0 hs (if_neg (by rw [← u1]; exact c4))
            · rw [bit1_of hx]
              exact orP_s hs (if_pos (by rw [← u1]; exact c5))
      exact loop 11 0 0 0 (by omega) (by omega) rfl rfl
    · have z3 := q.1.mp c4
      have n3 : x3.toInt ≠ -1 := fun e => c6 (i_ext e)
      obtain ⟨K, hK⟩ : ∃ K : Nat, x3.toInt = (K : Int) := ⟨x3.toInt.toNat, by omega⟩
      refine ⟨_, c_makersM l G (I4, h.2) n r _ _ K x3 hI.2.1 b7 mm h14 d7 mr hK (by omega), fun y I ⟨u1, u2⟩ => ⟨y, I, rfl, rfl, ?_, by rw [u2]; exact s⟩⟩
      unfold makA
      rw [if_neg c6, if_pos (by omega), show x3.toInt.toNat = K by omega]; exact u1
    · have z3 := q.2.mp c8
      unfold makA
      rw [if_neg (fun e => z3 (by rw [e]; exact ⟨by decide, by show (-1 : Int) ≤ _; omega⟩)), if_neg (by omega)]
def coupF (V R : Nat → Int) : Int32 := sumP (fun k => bitS (flF V R k)) (R 0).toNat
def folA (x3 : Int32) (V R : Nat → Int) : Int32 := if x3 = -1 then coupF V R else if 0 ≤ x3.toInt ∧ x3.toInt < R 0 then flF V R x3.toInt.toNat else -2
theorem or_1023 {x y : Int32} (hx : 0 ≤ x.toInt ∧ x.toInt < 1024) (hy : 0 ≤ y.toInt ∧ y.toInt < 1024) : 0 ≤ (x ||| y).toInt ∧ (x ||| y).toInt < 1024 := by
  have key : ∀ z : Int32, (0 ≤ z.toInt ∧ z.toInt < 1024) ↔ z.toBitVec.toNat < 1024 := fun z => by
    have hz := z.toBitVec.isLt
    show (0 ≤ z.toBitVec.toInt ∧ z.toBitVec.toInt < 1024) ↔ _
    rw [BitVec.toInt_eq_toNat_cond]
    split <;> omega
  rw [key] at hx hy ⊢
  rw [Int32.toBitVec_or, BitVec.toNat_or]
  exact Nat.or_lt_two_pow (n := 10) hx hy
theorem bit_1023 : ∀ p, p < 10 → 0 ≤ (bit1 p).toInt ∧ (bit1 p).toInt < 1024 := by decide +kernel
theorem orP_1023 {f : Nat → Int32} : ∀ n, (∀ k, k < n → 0 ≤ (f k).toInt ∧ (f k).toInt < 1024) → 0 ≤ (orP f n).toInt ∧ (orP f n).toInt < 1024
  | 0, _ => ⟨Int.le_refl _, (by decide : (0 : Int32).toInt < 1024)⟩
  | n + 1, h => or_1023 (orP_1023 n (fun k hk => h k (by omega))) (h n (Nat.lt_succ_self n))
theorem flF_1023 {V R : Nat → Int} (wr : WFR R) {k : Nat} : 0 ≤ (flF V R k).toInt ∧ (flF V R k).toInt < 1024 := by
  have wr0 := wr.1
  refine orP_1023 _ (fun p hp => ?_)
  split
  · exact bit_1023 p (by omega)
  · exact ⟨Int.le_refl _, (by decide : (0 : Int32).toInt < 1024)⟩
theorem c_couples (l : Launch) (G : zG) (h : zH) (V R : Nat → Int) (hl : lo4 h 150) (wr : WFR R) (r : RowC V R (h.1 150) (h.1 151) (h.1 152)) : CTi l G YX4_couples 2 [va_rf (some 150)] h (fun y I => y = coupF V R ∧ I = h.1) := by
  have wr0 := wr.1
  have n0 : (zI h 150 0).toInt = R 0 := r.1
  have loop : ∀ (f i : Nat) (x1 x2 : Int32), (i : Int) ≤ R 0 → R 0 - i < (f : Int) → x2.toInt = (i : Int) → x1 = sumP (fun k => bitS (flF V R k)) i →
      Z l G mX4_couples 2 (fun w h1 => ∃ x I1, w = some (.int x) ∧ h1 = (I1, h.2) ∧ (x = coupF V R ∧ I1 = h.1)) 0 0 4 [va_rf (some 150), .int x1, .int x2] [] h := by
    intro f
    induction f with
    | zero => intro i x1 x2 h1 h2; omega
    | succ f ih =>
      intro i x1 x2 h1 h2 hx hs
      refine sX4_couples_4 150 x1 x2 hl (Nat.le_refl _) ⟨fun c1 => ⟨_, h.1, rfl, rfl, ?_, rfl⟩, fun c2 => ?_⟩
      · rw [hs]; unfold coupF; rw [show (R 0).toNat = i by omega]
      · rw [zget_w (hl.w 2 rfl : zAw h (150 + 2) 10) hx (by omega), show zI h (150 + 2) i = flF V R i from r.2.2 i (by omega)]
        refine ⟨_, c_bitCount l G h _ (flF_1023 wr), fun y13 I11 ⟨z1, z2⟩ => ?_⟩
        have eI : I11 = h.1 := z2
        subst eI
        exact ih (i + 1) _ _ (by omega) (by omega) (i_1 hx (by omega)) (sumP_s hs z1.symm)
  exact kX4_couples 150 (sX4_couples_0 150 hl (Nat.le_refl _) (loop 11 0 0 0 (by omega) (by omega) rfl rfl))
theorem pp_follows (l : Launch) (G : zG) : P_follows (KeptP TK (RKG FW)) l G := fun x1 x2 x3 => by
  refine Pair.rows KeptP.ok x1 x2 (-2) (folA x3) (fun h hI c0 => ?_) (fun h n r hI na ra => ?_) (fun h hI c0 => ?_) (fun h n r hI na ra t1 t2 => ?_)
  · have cm := c_cmp0 l G h x1 x2 hI.1 c0
    refine kX10_follows 0 x1 x2 x3 (sX10_follows_0 0 x1 x2 x3 hI.1 (Nat.le_refl _) ⟨fun c1 => ⟨_, h.1, rfl, rfl, rfl, SameC.rf h⟩, fun b5 c2 => ⟨fun c3 => ⟨_, cm, fun y I ⟨z1, z2⟩ => ⟨fun c5 => absurd (z1.symm.trans c5) (fun z => by cases z), fun c9 => ⟨_, I, rfl, rfl, rfl, by rw [z2]; exact SameC.rf h⟩⟩⟩, fun c10 => ⟨?_, fun c11 => ⟨_, h.1, rfl, rfl, rfl, SameC.rf h⟩, fun c12 => ⟨_, cm, fun y I ⟨z1, z2⟩ => ⟨fun c5 => absurd (z1.symm.trans c5) (fun z => by cases z), fun c9 => ⟨_, I, rfl, rfl, rfl, by rw [z2]; exact SameC.rf h⟩⟩⟩⟩⟩⟩)
    rcases hI.read x2 with ⟨a1, a2, a3⟩ | ⟨r, d1, d2, d3, d4, d5, d6, d7, d8⟩
    · exact absurd (a1.symm.trans c2) (fun z => by cases z)
    · have e5 : b5 = 41 + 6 * r := (Option.some.inj (d4.symm.trans c2)).symm
      rw [e5]; exact d6
  · have cm := c_cmp1 l G h x1 x2 n r hI na ra
    obtain ⟨b1, b2, b4, b6, b7, b8⟩ := na
    obtain ⟨d1, d2, d4, d6, d7, d8⟩ := ra
    have w0 := d7.1
    have l150 := los_150 hI.1
    refine kX10_follows 0 x1 x2 x3 (sX10_follows_0 0 x1 x2 x3 hI.1 (Nat.le_refl _) ⟨fun c1 => absurd (d4.symm.trans c1) (fun z => by cases z), fun b5 c2 => ?_⟩)
    have e5 : b5 = 41 + 6 * r := (Option.some.inj (d4.symm.trans c2)).symm
    subst e5
    have hs : zhs h (41 + 6 * r) x3 = decide (0 ≤ x3.toInt ∧ x3.toInt < RV h (1246 + 51 * r) 0) := by unfold zhs; rw [d8.1]
    have fin : ∀ I, cmpQ TK FW h x1 x2 (RW h (610 + 318 * n)) (RV h (1246 + 51 * r)) I → Inv (KeptP TK (RKG FW)) (I, h.2) ∧ AL (I, h.2) = AL h ∧ I 1000000 = h.1 1000000 := fun I q => ⟨q.1, q.2.1 314 (by decide) (by decide), q.2.1 1000000 (by decide) (by decide)⟩
    refine ⟨fun c3 => ⟨_, cm, fun y I ⟨z1, z2⟩ => ⟨fun c5 => ⟨fun c6 => absurd c3 c6, fun c7 => ⟨_, c_couples l G (I, h.2) _ _ l150 d7 z2.2.2.2.2.2.1, fun y37 I35 ⟨u1, u2⟩ => ⟨y37, I35, rfl, rfl, ?_, by rw [u2]; exact fin I z2⟩⟩⟩, fun c9 => absurd (z1.symm.trans c9) (fun z => by cases z)⟩⟩, fun c10 => ⟨d6, fun c11 => ⟨_, h.1, rfl, rfl, ?_, hI, rfl, rfl⟩, fun c12 => ⟨_, cm, fun y I ⟨z1, z2⟩ => ⟨fun c14 => ⟨fun c15 => ⟨_, I, rfl, rfl, ?_, fin I z2⟩, fun c16 => absurd c16 c10⟩, fun c18 => absurd (z1.symm.trans c18) (fun z => by cases z)⟩⟩⟩⟩
    · unfold folA; rw [if_pos c3]; exact u1
    · have q := of_decide_eq_false (hs.symm.trans c11)
      unfold folA; rw [if_neg c10, if_neg q]
    · have q := of_decide_eq_true (hs.symm.trans c12)
      obtain ⟨K, hK⟩ : ∃ K : Nat, x3.toInt = (K : Int) := ⟨x3.toInt.toNat, by omega⟩
      unfold folA
      rw [if_neg c10, if_pos q, show x3.toInt.toNat = K by omega, zget_w (h := (I, h.2)) (l150.w 2 rfl) hK (by omega)]
      exact z2.2.2.2.2.2.1.2.2 K (by omega)
  · refine kX11_follows 313 x1 x2 x3 (sX11_follows_0 313 x1 x2 x3 hI.2.1 (Nat.le_refl _) ⟨_, c_areRead0 l G hI x1 x2 c0, fun y6 I4 ⟨z1, z2⟩ => ⟨fun c2 => ⟨_, I4, rfl, rfl, rfl, z2⟩, fun c3 => absurd (z1.symm.trans c3) (fun z => by cases z)⟩⟩)
  · have w0 := ra.2.2.2.2.1.1
    refine kX11_follows 313 x1 x2 x3 (sX11_follows_0 313 x1 x2 x3 hI.2.1 (Nat.le_refl _) ⟨_, c_areRead1 l G hI x1 x2 n r na ra t1 t2, fun y6 I4 ⟨z1, s, mm, h14, mr⟩ => ⟨fun c2 => absurd (z1.symm.trans c2) (fun z => by cases z), fun c3 => ?_⟩⟩)
    have b7 := na.2.2.2.2.1
    have d7 := ra.2.2.2.2.1
    obtain ⟨kr, vr⟩ := mr.s0
    have e1 : (zsigns (I4, h.2) 313 - 1).toInt = RV h (1246 + 51 * r) 0 - 1 := by
      rw [i_sub (by rw [vr]; show _ ≤ _ - (1 : Int); omega) (by rw [vr]; show _ - (1 : Int) < _; omega), vr]; rfl
    have q := n3r (x := x3) (u := -1) (a := -1) rfl e1
    refine ⟨kr, fun c4 => ⟨fun c5 => ?_, fun c6 => ?_⟩, fun c8 => ⟨_, I4, rfl, rfl, ?_, s⟩⟩
    · have loop : ∀ (f i : Nat) (x4 x5 : Int32), (i : Int) ≤ RV h (1246 + 51 * r) 0 → RV h (1246 + 51 * r) 0 - i < (f : Int) → x5.toInt = (i : Int) → x4 = sumP (fun k => bitS (flF (RW h (610 + 318 * n)) (RV h (1246 + 51 * r)) k)) i →
          Z l G mX11_follows 7 (fun v h1 => ∃ y I, v = some (.int y) ∧ h1 = (I, h.2) ∧ (y = folA x3 (RW h (610 + 318 * n)) (RV h (1246 + 51 * r)) ∧ SameC h I)) 0 0 43 [va_rf (some 313), .int x1, .int x2, .int x3, .int x4, .int x5] [] (I4, h.2) := by
        intro f
        induction f with
        | zero => intro i x4 x5 h1 h2; omega
        | succ f ih =>
          intro i x4 x5 h1 h2 hx hs
          refine sX11_follows_43 313 x1 x2 x3 x4 x5 hI.2.1 (Nat.le_refl _) ⟨kr, fun c1 => ⟨_, I4, rfl, rfl, ?_, s⟩, fun c2 => ⟨_, c_followersM l G (I4, h.2) n r _ _ i x5 hI.2.1 b7 mm h14 d7 mr hx (by omega), fun y14 I12 ⟨u1, u2⟩ => ?_⟩⟩
          · unfold folA coupF
            rw [if_pos c5, hs, show (RV h (1246 + 51 * r) 0).toNat = i by omega]
          · have eI : I12 = I4 := u2
            subst eI
            refine ⟨_, c_bits l G (I12, h.2) y14, fun y23 I21 ⟨v1, v2⟩ => ?_⟩
            have eI2 : I21 = I12 := v2
            subst eI2
            exact ih (i + 1) _ _ (by omega) (by omega) (i_1 hx (by omega)) (sumP_s hs (by rw [v1, u1]))
      exact loop 11 0 0 0 (by omega) (by omega) rfl rfl
    · have z3 := q.1.mp c4
      have n3 : x3.toInt ≠ -1 := fun e => c6 (i_ext e)
      obtain ⟨K, hK⟩ : ∃ K : Nat, x3.toInt = (K : Int) := ⟨x3.toInt.toNat, by omega⟩
      refine ⟨_, c_followersM l G (I4, h.2) n r _ _ K x3 hI.2.1 b7 mm h14 d7 mr hK (by omega), fun y I ⟨u1, u2⟩ => ⟨y, I, rfl, rfl, ?_, by rw [u2]; exact s⟩⟩
      unfold folA
      rw [if_neg c6, if_pos (by omega), show x3.toInt.toNat = K by omega]; exact u1
    · have z3 := q.2.mp c8
      unfold folA
      rw [if_neg (fun e => z3 (by rw [e]; exact ⟨by decide, by show (-1 : Int) ≤ _; omega⟩)), if_neg (by omega)]
end K58
