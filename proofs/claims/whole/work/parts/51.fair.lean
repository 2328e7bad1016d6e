set_option maxRecDepth 4000
/-! ===== counting bits ===== -/
def zbc (x0 : Int32) : Int32 := ((((((((x0 - ((zushr x0 1) &&& 1431655765)) &&& 858993459) + ((zushr (x0 - ((zushr x0 1) &&& 1431655765)) 2) &&& 858993459)) + (zushr (((x0 - ((zushr x0 1) &&& 1431655765)) &&& 858993459) + ((zushr (x0 - ((zushr x0 1) &&& 1431655765)) 2) &&& 858993459)) 4)) &&& 252645135) + (zushr (((((x0 - ((zushr x0 1) &&& 1431655765)) &&& 858993459) + ((zushr (x0 - ((zushr x0 1) &&& 1431655765)) 2) &&& 858993459)) + (zushr (((x0 - ((zushr x0 1) &&& 1431655765)) &&& 858993459) + ((zushr (x0 - ((zushr x0 1) &&& 1431655765)) 2) &&& 858993459)) 4)) &&& 252645135) 8)) + (zushr ((((((x0 - ((zushr x0 1) &&& 1431655765)) &&& 858993459) + ((zushr (x0 - ((zushr x0 1) &&& 1431655765)) 2) &&& 858993459)) + (zushr (((x0 - ((zushr x0 1) &&& 1431655765)) &&& 858993459) + ((zushr (x0 - ((zushr x0 1) &&& 1431655765)) 2) &&& 858993459)) 4)) &&& 252645135) + (zushr (((((x0 - ((zushr x0 1) &&& 1431655765)) &&& 858993459) + ((zushr (x0 - ((zushr x0 1) &&& 1431655765)) 2) &&& 858993459)) + (zushr (((x0 - ((zushr x0 1) &&& 1431655765)) &&& 858993459) + ((zushr (x0 - ((zushr x0 1) &&& 1431655765)) 2) &&& 858993459)) 4)) &&& 252645135) 8)) 16)) &&& 63)
def bitS (u : Int32) : Int32 := sumP (fun k => (u >>> (Int32.ofNat k &&& 31)) &&& 1) 31
theorem zbc_S : ∀ u, u < 1024 → zbc (Int32.ofNat u) = bitS (Int32.ofNat u) := by decide +kernel
theorem bitS_63 : ∀ u, u < 64 → 0 ≤ (bitS (Int32.ofNat u)).toInt ∧ (bitS (Int32.ofNat u)).toInt ≤ 6 ∧ ∀ p, p < 6 → ((Int32.ofNat u >>> (Int32.ofNat p &&& 31)) &&& 1 = 1 → 1 ≤ (bitS (Int32.ofNat u)).toInt) := by decide +kernel
theorem c_bitCount (l : Launch) (G : zG) (h : zH) (x : Int32) (hx : 0 ≤ x.toInt ∧ x.toInt < 1024) : CTi l G YJ6_bitCount_0f7a4 1 [.int x] h (fun y I => y = bitS x ∧ I = h.1) := by
  refine kJ6_bitCount_0f7a4 x (sJ6_bitCount_0f7a4_0 x (Nat.le_refl _) ⟨_, h.1, rfl, rfl, ?_, rfl⟩)
  obtain ⟨k, hk⟩ : ∃ k : Nat, x.toInt = (k : Int) := ⟨x.toInt.toNat, by omega⟩
  have := zbc_S k (by omega)
  rw [← n_ofn hk] at this
  exact this
theorem c_bits (l : Launch) (G : zG) (h : zH) (x : Int32) : CTi l G YX11_bits 1 [.int x] h (fun y I => y = bitS x ∧ I = h.1) := by
  have loop : ∀ (f i : Nat) (x1 x2 : Int32), i ≤ 31 → 31 - i < f → x2.toInt = (i : Int) → x1 = sumP (fun k => (x >>> (Int32.ofNat k &&& 31)) &&& 1) i →
      Z l G mX11_bits 1 (fun w h1 => ∃ y I1, w = some (.int y) ∧ h1 = (I1, h.2) ∧ (y = bitS x ∧ I1 = h.1)) 0 0 4 [.int x, .int x1, .int x2] [] h := by
    intro f
    induction f with
    | zero => intro i x1 x2 h1 h2; omega
    | succ f ih =>
      intro i x1 x2 h1 h2 hx hs
      refine sX11_bits_4 x x1 x2 (Nat.le_refl _) ⟨fun c1 => ⟨_, h.1, rfl, rfl, ?_, rfl⟩, fun c2 => ih (i + 1) _ _ (by omega) (by omega) (i_1 hx (by omega)) (sumP_s hs (by rw [n_ofn hx]))⟩
      rw [hs, show i = 31 by omega]; rfl
  exact kX11_bits x (sX11_bits_0 x (Nat.le_refl _) (loop 32 0 0 0 (by omega) (by omega) rfl rfl))
/-! ===== fair parts ===== -/
def shr (st : PS) (p i : Nat) : Nat := if ((st.P i 7 >>> (Int32.ofNat p &&& 31)) &&& 1) = 1 then (60 / (bitS (st.P i 7)).toInt).toNat else 0
def shN (st : PS) (p : Nat) : Nat := sumN (fun i => shr st p i) st.n
theorem shr_le {st : PS} {p i : Nat} : shr st p i ≤ 60 := by
  unfold shr
  split
  · have h1 : 60 / (bitS (st.P i 7)).toInt ≤ 60 := Int.ediv_le_self _ (by decide)
    omega
  · omega
/-- one print's part, and why it can be divided -/
theorem shr_at {V : Nat → Int} {st : PS} (ok : okS V st) {p i : Nat} (hp : p < 6) (hi : i < st.n) (c : ((st.P i 7 >>> (Int32.ofNat p &&& 31)) &&& 1) = 1) : (1 ≤ (bitS (st.P i 7)).toInt ∧ (bitS (st.P i 7)).toInt ≤ 6) ∧ ((60 : Int32) / bitS (st.P i 7)).toInt = (shr st p i : Int) := by
  have o7 := (ok i hi).2.2.2.2.2.2
  obtain ⟨u, hu⟩ : ∃ u : Nat, (st.P i 7).toInt = (u : Int) := ⟨(st.P i 7).toInt.toNat, by omega⟩
  have b := bitS_63 u (by omega)
  rw [← n_ofn hu] at b
  have b1 := b.2.2 p hp c
  refine ⟨⟨b1, b.2.1⟩, ?_⟩
  rw [n_div (by decide) (by omega)]
  unfold shr
  rw [if_pos c]
  have : 0 ≤ 60 / (bitS (st.P i 7)).toInt := Int.ediv_nonneg (by decide) (by omega)
  show (60 : Int) / _ = _
  omega
theorem c_shareOf (l : Launch) (G : zG) (h : zH) (V : Nat → Int) (a : Nat) (st : PS) (p : Nat) (x1 : Int32) (ok : okS V st) (ha : lo0 h a) (r : CPr h a st) (hn : st.n ≤ 150) (hp : x1.toInt = (p : Int)) (h6 : p < 6) : CTi l G YX0_shareOf 2 [va_rf (some a), .int x1] h (fun y I => y.toInt = (shN st p : Int) ∧ I = h.1) := by
  have n0 := r.1
  have le : ∀ i, sumN (fun i => shr st p i) i ≤ 60 * i := sumN_le (fun k => shr_le)
  have loop : ∀ (f i : Nat) (x2 x3 : Int32) (u : Value), i ≤ st.n → st.n - i < f → x3.toInt = (i : Int) → x2.toInt = (sumN (fun i => shr st p i) i : Int) →
      Z l G mX0_shareOf 2 (fun w h1 => ∃ x I1, w = some (.int x) ∧ h1 = (I1, h.2) ∧ (x.toInt = (shN st p : Int) ∧ I1 = h.1)) 0 0 4 [va_rf (some a), .int x1, .int x2, .int x3, u] [] h := by
    intro f
    induction f with
    | zero => intro i x2 x3 u h1 h2; omega
    | succ f ih =>
      intro i x2 x3 u h1 h2 h3 hs
      refine sX0_shareOf_4 a x1 x2 x3 u ha (Nat.le_refl _) ⟨fun c1 => ⟨_, h.1, rfl, rfl, ?_, rfl⟩, fun c2 => ?_⟩
      · rw [hs, show i = st.n by omega]; rfl
      · have hi : i < st.n := by omega
        have b := le i
        have s1 : sumN (fun i => shr st p i) (i + 1) = sumN (fun i => shr st p i) i + shr st p i := rfl
        have o7 := (ok i hi).2.2.2.2.2.2
        rw [(r.get ha hn h3 hi).2.2.2.2.2, n_ofn hp]
        refine ⟨fun c3 => ?_, fun c4 => ⟨_, c_bitCount l G h _ (by omega), fun y17 I15 ⟨z1, z2⟩ => ?_⟩⟩
        · rw [← n_ofn hp]
          refine ih (i + 1) _ _ _ (by omega) (by omega) (i_1 h3 (by omega)) ?_
          rw [s1, show shr st p i = 0 from if_neg c3]; exact hs
        · obtain ⟨q1, q2⟩ := shr_at ok h6 hi c4
          have eI : I15 = h.1 := z2
          subst eI
          have em : imax 1 y17 = bitS (st.P i 7) := i_ext (by rw [imax_t, z1, show (1 : Int32).toInt = 1 from rfl]; omega)
          rw [em]
          have sl := shr_le (st := st) (p := p) (i := i)
          refine ⟨fun z => by rw [z] at q1; exact absurd q1.1 (by decide), ?_⟩
          rw [← n_ofn hp]
          refine ih (i + 1) _ _ _ (by omega) (by omega) (i_1 h3 (by omega)) ?_
          rw [i_add (by omega) (by omega), hs, q2, s1]; omega
  exact kX0_shareOf a x1 (sX0_shareOf_0 a x1 ha (Nat.le_refl _) (loop (st.n + 1) 0 0 0 zU (by omega) (by omega) rfl rfl))
theorem j_ext {x y : Int64} (h : x.toInt = y.toInt) : x = y := Int64.toInt_inj.mp h
theorem j_bm (n : Int) (h1 : -9223372036854775808 ≤ n) (h2 : n < 9223372036854775808) : n.bmod (2 ^ 64) = n := by
  simp only [Int.bmod]
  split <;> omega
theorem j_add {x y : Int64} (h1 : -9223372036854775808 ≤ x.toInt + y.toInt) (h2 : x.toInt + y.toInt < 9223372036854775808) : (x + y).toInt = x.toInt + y.toInt := by
  rw [Int64.toInt_add]; exact j_bm _ h1 h2
theorem j_sub {x y : Int64} (h1 : -9223372036854775808 ≤ x.toInt - y.toInt) (h2 : x.toInt - y.toInt < 9223372036854775808) : (x - y).toInt = x.toInt - y.toInt := by
  rw [Int64.toInt_sub]; exact j_bm _ h1 h2
theorem j_mul {x y : Int64} (h1 : -9223372036854775808 ≤ x.toInt * y.toInt) (h2 : x.toInt * y.toInt < 9223372036854775808) : (x * y).toInt = x.toInt * y.toInt := by
  rw [Int64.toInt_mul]; exact j_bm _ h1 h2
theorem j_div {x y : Int64} (hx : 0 ≤ x.toInt ∧ x.toInt < 4000000000) (hy : 0 < y.toInt) : (x / y).toInt = x.toInt / y.toInt := by
  have h2 : x.toInt / y.toInt ≤ x.toInt := Int.ediv_le_self _ hx.1
  have h3 : 0 ≤ x.toInt / y.toInt := Int.ediv_nonneg hx.1 (by omega)
  rw [Int64.toInt_div, Int.tdiv_eq_ediv_of_nonneg hx.1]
  exact j_bm _ (by omega) (by omega)
theorem j_rem {x y : Int64} (hx : 0 ≤ x.toInt ∧ x.toInt < 4000000000) (hy : 0 < y.toInt) : (x - x / y * y).toInt = x.toInt % y.toInt := by
  have hd := j_div hx hy
  have e : x.toInt % y.toInt = x.toInt - x.toInt / y.toInt * y.toInt := by rw [Int.emod_def, Int.mul_comm]
  have h2 : 0 ≤ x.toInt % y.toInt := Int.emod_nonneg _ (by omega)
  have h4 : 0 ≤ x.toInt / y.toInt := Int.ediv_nonneg hx.1 (by omega)
  have h5 : 0 ≤ x.toInt / y.toInt * y.toInt := Int.mul_nonneg h4 (by omega)
  have hm : (x / y * y).toInt = x.toInt / y.toInt * y.toInt := by
    rw [j_mul (by rw [hd]; omega) (by rw [hd]; omega), hd]
  rw [j_sub (by rw [hm]; omega) (by rw [hm]; omega), hm, e]
theorem lg_0 {x : Int64} : lg_cmp x 0 = 0 ↔ x = 0 := by
  refine ⟨fun e => ?_, fun e => by rw [e]; exact lg_cmp_self 0⟩
  unfold lg_cmp at e
  split at e
  · exact absurd e (by decide)
  · split at e
    · assumption
    · exact absurd e (by decide)
theorem c_fairOf (l : Launch) (G : zG) (h : zH) (V : Nat → Int) (st : PS) (p : Nat) (x1 : Int32) (ok : okS V st) (hl : lo11 h 313) (r : MPr h st) (hn : st.n ≤ 150) (hp : x1.toInt = (p : Int)) (h6 : p < 6) : CTj l G YX11_fairOf 2 [va_rf (some 313), .int x1] h (fun y I => y.toInt = (shN st p : Int) ∧ I = h.1) := by
  have n0 := r.1
  have le : ∀ i, sumN (fun i => shr st p i) i ≤ 60 * i := sumN_le (fun k => shr_le)
  have loop : ∀ (f i : Nat) (x2 : Int64) (x4 : Int32), i ≤ st.n → st.n - i < f → x4.toInt = (i : Int) → x2.toInt = (sumN (fun i => shr st p i) i : Int) →
      Z l G mX11_fairOf 2 (fun w h1 => ∃ x I1, w = some (.long x) ∧ h1 = (I1, h.2) ∧ (x.toInt = (shN st p : Int) ∧ I1 = h.1)) 0 0 5 [va_rf (some 313), .int x1, .long x2, zU, .int x4] [] h := by
    intro f
    induction f with
    | zero => intro i x2 x4 h1 h2; omega
    | succ f ih =>
      intro i x2 x4 h1 h2 h3 hs
      refine sX11_fairOf_5 313 x1 x2 x4 hl (Nat.le_refl _) ⟨fun c1 => ⟨_, h.1, rfl, rfl, ?_, rfl⟩, fun c2 => ?_⟩
      · rw [hs, show i = st.n by omega]; rfl
      · have hi : i < st.n := by omega
        have b := le i
        have s1 : sumN (fun i => shr st p i) (i + 1) = sumN (fun i => shr st p i) i + shr st p i := rfl
        have k1 : 0 ≤ x4.toInt := by omega
        have k2 : x4.toInt < ((160 : Nat) : Int) := by show _ < (160 : Int); omega
        rw [zix_of h3, show zI h (313 + 14) i = st.P i 7 from r.2 i hi 7 (by decide), n_ofn hp]
        refine ⟨k1, k2, fun c3 => ?_, fun c4 => ⟨k1, k2, _, c_bits l G h _, fun y16 I14 ⟨z1, z2⟩ => ?_⟩⟩
        · rw [← n_ofn hp]
          refine ih (i + 1) _ _ (by omega) (by omega) (i_1 h3 (by omega)) ?_
          rw [s1, show shr st p i = 0 from if_neg c3, j_add (by show _ ≤ _ + (0 : Int); omega) (by show _ + (0 : Int) < _; omega), hs]
          show _ + (0 : Int) = _
          omega
        · obtain ⟨q1, q2⟩ := shr_at ok h6 hi c4
          have eI : I14 = h.1 := z2
          subst eI
          rw [z1]
          have sl := shr_le (st := st) (p := p) (i := i)
          refine ⟨fun z => by rw [z] at q1; exact absurd q1.1 (by decide), ?_⟩
          rw [← n_ofn hp]
          refine ih (i + 1) _ _ (by omega) (by omega) (i_1 h3 (by omega)) ?_
          have e64 : ((60 : Int32) / bitS (st.P i 7)).toInt64.toInt = (shr st p i : Int) := by rw [Int32.toInt_toInt64]; exact q2
          rw [j_add (by rw [e64]; omega) (by rw [e64]; omega), hs, e64, s1]; omega
  exact kX11_fairOf 313 x1 (sX11_fairOf_0 313 x1 hl (Nat.le_refl _) (loop (st.n + 1) 0 0 0 (by omega) (by omega) rfl rfl))
theorem c_greatest (l : Launch) (G : zG) (h : zH) (x0 : Int32) (s : Nat) (hs : x0.toInt = (s : Int)) : CTi l G YX10_greatestDivisor 1 [.int x0] h (fun y I => y.toInt = (Nat.gcd s 60 : Int) ∧ I = h.1) := by
  have gp : 0 < Nat.gcd s 60 := Nat.gcd_pos_of_pos_right _ (by decide)
  have gs : Nat.gcd s 60 ∣ s := Nat.gcd_dvd_left _ _
  have g60 : Nat.gcd s 60 ∣ 60 := Nat.gcd_dvd_right _ _
  have gle : Nat.gcd s 60 ≤ 60 := Nat.le_of_dvd (by decide) g60
  have loop : ∀ (i : Nat) (x1 : Int32), i ≤ 60 → x1.toInt = (i : Int) → Nat.gcd s 60 ≤ i →
      Z l G mX10_greatestDivisor 1 (fun w h1 => ∃ y I1, w = some (.int y) ∧ h1 = (I1, h.2) ∧ (y.toInt = (Nat.gcd s 60 : Int) ∧ I1 = h.1)) 0 0 3 [.int x0, .int x1] [] h := by
    intro i
    induction i with
    | zero => intro x1 h1 hx hg; omega
    | succ i ih =>
      intro x1 h1 hx hg
      have dm : (x1 + (-1)).toInt = (i : Int) := by
        rw [i_add (by show _ ≤ _ + (-1 : Int); omega) (by show _ + (-1 : Int) < _; omega), hx]; show _ + (-1 : Int) = _; omega
      have r60 : 1 < x1.toInt → (zrem 60 x1).toInt = ((60 % (i + 1) : Nat) : Int) := fun c => by
        rw [n_rem (by decide) (by omega), hx]; exact (Int.natCast_emod _ _).symm
      have rs : 1 < x1.toInt → (zrem x0 x1).toInt = ((s % (i + 1) : Nat) : Int) := fun c => by
        rw [n_rem (by omega) (by omega), hx, hs]; exact (Int.natCast_emod _ _).symm
      refine sX10_greatestDivisor_3 x0 x1 (Nat.le_refl _) ⟨fun c1 => ⟨_, h.1, rfl, rfl, ?_, rfl⟩, fun c2 => ⟨fun z => by rw [z] at c2; exact absurd c2 (by decide), fun c3 => ih _ (by omega) dm ?_, fun c4 => ⟨fun z => by rw [z] at c2; exact absurd c2 (by decide), fun c5 => ih _ (by omega) dm ?_, fun c6 => ⟨_, h.1, rfl, rfl, ?_, rfl⟩⟩⟩⟩
      · show (1 : Int) = _
        omega
      · have : Nat.gcd s 60 ≠ i + 1 := fun e => c3 (i_ext (by
          rw [r60 c2, ← e, Nat.mod_eq_zero_of_dvd g60]; rfl))
        omega
      · have : Nat.gcd s 60 ≠ i + 1 := fun e => c5 (i_ext (by
          rw [rs c2, ← e, Nat.mod_eq_zero_of_dvd gs]; rfl))
        omega
      · have d1 : (i + 1) ∣ 60 := Nat.dvd_of_mod_eq_zero (by
          have := congrArg Int32.toInt c4
          rw [r60 c2, show (0 : Int32).toInt = 0 from rfl] at this
          omega)
        have d2 : (i + 1) ∣ s := Nat.dvd_of_mod_eq_zero (by
          have := congrArg Int32.toInt c6
          rw [rs c2, show (0 : Int32).toInt = 0 from rfl] at this
          omega)
        have := Nat.le_of_dvd gp (Nat.dvd_gcd d2 d1)
        rw [hx]; omega
  exact kX10_greatestDivisor x0 (sX10_greatestDivisor_0 x0 (Nat.le_refl _) (loop 60 60 (by decide) rfl gle))
theorem c_common (l : Launch) (G : zG) (h : zH) (x0 x2 : Int64) (s t : Nat) (hs : x0.toInt = (s : Int)) (ht : x2.toInt = (t : Int)) (bs : s < 100000) (bt : t < 100000) : CTj l G YX11_common 1 [.long x0, .long x2] h (fun y I => y.toInt = (Nat.gcd s t : Int) ∧ I = h.1) := by
  have loop : ∀ (f a b : Nat) (x4 x6 : Int64) (u8 u9 : Value), b < f → a < 100000 → b < 100000 → x4.toInt = (a : Int) → x6.toInt = (b : Int) → Nat.gcd a b = Nat.gcd s t →
      Z l G mX11_common 1 (fun w h1 => ∃ y I1, w = some (.long y) ∧ h1 = (I1, h.2) ∧ (y.toInt = (Nat.gcd s t : Int) ∧ I1 = h.1)) 0 0 6 [.long x0, zU, .long x2, zU, .long x4, zU, .long x6, zU, u8, u9] [] h := by
    intro f
    induction f with
    | zero => intro a b x4 x6 u8 u9 h1; omega
    | succ f ih =>
      intro a b x4 x6 u8 u9 h1 ha hb h4 h6 hg
      refine sX11_common_6 x0 x2 x4 x6 u8 u9 (Nat.le_refl _) ⟨fun c1 => ⟨_, h.1, rfl, rfl, ?_, rfl⟩, fun c2 => ⟨fun z => c2 (lg_0.mpr z), ?_⟩⟩
      · have e := lg_0.mp c1
        rw [e, show (0 : Int64).toInt = 0 from rfl] at h6
        have b0 : b = 0 := by omega
        rw [b0, Nat.gcd_zero_right] at hg
        rw [h4, hg]
      · have hb0 : b ≠ 0 := fun z => c2 (lg_0.mpr (j_ext (by rw [h6, z]; rfl)))
        have er : (x4 - x4 / x6 * x6).toInt = ((a % b : Nat) : Int) := by
          rw [j_rem (by omega) (by omega), h4, h6]; exact (Int.natCast_emod _ _).symm
        have ml := Nat.mod_lt a (show 0 < b by omega)
        refine ih b (a % b) _ _ _ _ (by omega) hb (by omega) h6 er ?_
        rw [Nat.gcd_comm b, ← Nat.gcd_rec, Nat.gcd_comm]; exact hg
  exact kX11_common x0 x2 (sX11_common_0 x0 x2 (Nat.le_refl _) (loop (t + 1) s t x0 x2 zU zU (by omega) bs bt hs ht rfl))
def nFj (x : Int32) (e : Int64) (f : (Nat → Int) → Int64) (A : Nat → Int32) : Int64 := if 0 ≤ x.toInt ∧ x.toInt < (A 0).toInt then f (rwA A (610 + 318 * x.toInt.toNat)) else e
theorem PairJ.night {Kept : zH → Prop} {l : Launch} {G : zG} {YC YM : zY} {dc dm : Nat} {args : List Value} (hk : KOK Kept) (x : Int32) (e : Int64) (f : (Nat → Int) → Int64)
    (c0 : ∀ h, Inv Kept h → znat h 1 x = none → CTj l G YC dc (va_rf (some 0) :: args) h (fun y I => y = e ∧ SameC h I))
    (c1 : ∀ h n, Inv Kept h → NA h x n → CTj l G YC dc (va_rf (some 0) :: args) h (fun y I => y = f (RW h (610 + 318 * n)) ∧ SameC h I))
    (m0 : ∀ h, Inv Kept h → zisOf h 313 0 x = false → CTj l G YM dm (va_rf (some 313) :: args) h (fun y I => y = e ∧ SameC h I))
    (m1 : ∀ h n, Inv Kept h → NA h x n → zisOf h 313 0 x = true → CTj l G YM dm (va_rf (some 313) :: args) h (fun y I => y = f (RW h (610 + 318 * n)) ∧ SameC h I)) : PairJ Kept l G YC YM dc dm args := by
  refine PairJ.of hk (nFj x e f) (fun h hI => ?_) (fun h hI => ?_)
  · rcases hI.night x with ⟨a1, a2, a3⟩ | ⟨n, b1, b2, b3, b4, b5, b6, b7, b8⟩
    · exact (c0 h hI a1).mono rfl fun v h1 ⟨y, J, z1, z2, z3, z4⟩ => ⟨y, J, z1, z2, by rw [z3]; exact (if_neg a3).symm, z4⟩
    · refine (c1 h n hI ⟨b1, b2, b4, b6, b7, b8⟩).mono rfl fun v h1 ⟨y, J, z1, z2, z3, z4⟩ => ⟨y, J, z1, z2, ?_, z4⟩
      rw [z3]; unfold nFj
      rw [if_pos ⟨by omega, by omega⟩, show x.toInt.toNat = n by omega]; rfl
  · rcases hI.night x with ⟨a1, a2, a3⟩ | ⟨n, b1, b2, b3, b4, b5, b6, b7, b8⟩
    · exact (m0 h hI a2).mono rfl fun v h1 ⟨y, J, z1, z2, z3, z4⟩ => ⟨y, J, z1, z2, by rw [z3]; exact (if_neg a3).symm, z4⟩
    · refine (m1 h n hI ⟨b1, b2, b4, b6, b7, b8⟩ b5).mono rfl fun v h1 ⟨y, J, z1, z2, z3, z4⟩ => ⟨y, J, z1, z2, ?_, z4⟩
      rw [z3]; unfold nFj
      rw [if_pos ⟨by omega, by omega⟩, show x.toInt.toNat = n by omega]; rfl
def fairF (x2 : Int32) (x3 : Bool) (V : Nat → Int) : Int64 :=
  if 0 ≤ x2.toInt ∧ x2.toInt < V 3 then Int64.ofInt ((if x3 = true then 60 else (shN (stM V (-1) 100) x2.toInt.toNat : Int)) / (Nat.gcd (shN (stM V (-1) 100) x2.toInt.toNat) 60 : Int)) else -1
theorem j_ofV {y : Int64} {n : Int} (e : y.toInt = n) : y = Int64.ofInt n := by subst e; exact (Int64.ofInt_toInt y).symm
theorem shN_le {st : PS} {p : Nat} (hn : st.n ≤ 150) : shN st p ≤ 9000 := by
  have := sumN_le (f := fun i => shr st p i) (b := 60) (fun k => shr_le) st.n
  unfold shN
  omega
theorem pp_fair {Kept : zH → Prop} (hk : KOK Kept) (l : Launch) (G : zG) : P_fair Kept l G := fun x1 x2 x3 => by
  refine PairJ.night hk x1 (-1) (fairF x2 x3) (fun h hI c0 => ?_) (fun h n hI ⟨b1, b2, b4, b6, b7, b8⟩ => ?_) (fun h hI c0 => ?_) (fun h n hI ⟨b1, b2, b4, b6, b7, b8⟩ bT => ?_)
  · exact kX10_fair 0 x1 x2 x3 (sX10_fair_0 0 x1 x2 x3 hI.1 (Nat.le_refl _) ⟨fun c1 => ⟨_, h.1, rfl, rfl, rfl, SameC.rf h⟩, fun b5 c2 => absurd (c0.symm.trans c2) (fun z => by cases z)⟩)
  · have w3 := b7.2.2.2.1
    refine kX10_fair 0 x1 x2 x3 (sX10_fair_0 0 x1 x2 x3 hI.1 (Nat.le_refl _) ⟨fun c1 => absurd (b4.symm.trans c1) (fun z => by cases z), fun b5 c2 => ?_⟩)
    have e5 : b5 = 5 + 18 * n := (Option.some.inj (b4.symm.trans c2)).symm
    subst e5
    have l81 := los_81 hI.1
    have n150 := stM_150 b7 (al := -1) 100
    have okk := (stM_ok b7 (al := -1) 100).1
    by_cases hp : 0 ≤ x2.toInt ∧ x2.toInt < RW h (610 + 318 * n) 3
    · obtain ⟨P, hP⟩ : ∃ P : Nat, x2.toInt = (P : Int) := ⟨x2.toInt.toNat, by omega⟩
      obtain ⟨m1, m2, m3⟩ := per_mem b6 b7 b8 hP (by omega)
      refine ⟨b6, fun c3 => absurd (m1.symm.trans c3) (fun z => by cases z), fun b14 c4 => ⟨_, c_lay l G h _ 81 (5 + 18 * n) 99 99 l81 b6 b7 b8 (by omega) rfl (by decide), fun I20 ⟨g1, g2, g3⟩ => ?_⟩⟩
      have s := SameC.lay (Or.inl rfl) g1
      have sl := shN_le (p := P) n150
      refine ⟨_, c_shareOf l G (I20, h.2) _ 81 _ P x2 okk l81 g2 n150 hP m3, fun y31 I29 ⟨z1, z2⟩ => ?_⟩
      have eI : I29 = I20 := z2
      subst eI
      refine ⟨_, c_greatest l G (I29, h.2) y31 _ z1, fun y40 I38 ⟨z3, z4⟩ => ?_⟩
      have eI2 : I38 = I29 := z4
      subst eI2
      have gp : 0 < Nat.gcd (shN (stM (RW h (610 + 318 * n)) (-1) 100) P) 60 := Nat.gcd_pos_of_pos_right _ (by decide)
      have em : imax 1 y40 = y40 := i_ext (by rw [imax_t, show (1 : Int32).toInt = 1 from rfl]; omega)
      have nz : ¬ y40 = 0 := fun e => by rw [e, show (0 : Int32).toInt = 0 from rfl] at z3; omega
      have fv : fairF x2 x3 (RW h (610 + 318 * n)) = Int64.ofInt ((if x3 = true then 60 else (shN (stM (RW h (610 + 318 * n)) (-1) 100) P : Int)) / (Nat.gcd (shN (stM (RW h (610 + 318 * n)) (-1) 100) P) 60 : Int)) := by
        unfold fairF
        rw [if_pos hp, show x2.toInt.toNat = P by omega]
      rw [em, fv]
      refine ⟨fun c8 => ⟨nz, _, I38, rfl, rfl, j_ofV ?_, s⟩, fun c9 => ⟨nz, _, I38, rfl, rfl, j_ofV ?_, s⟩⟩
      · rw [Int32.toInt_toInt64, n_div (by omega) (by omega), z1, z3, c8, if_neg Bool.false_ne_true]
      · rw [Int32.toInt_toInt64, n_div (by decide) (by omega), z3, c9, if_pos rfl]; rfl
    · have mn := per_no b7 b8 hp
      refine ⟨b6, fun c3 => ⟨_, h.1, rfl, rfl, ?_, SameC.rf h⟩, fun b15 c4 => absurd (mn.symm.trans c4) (fun z => by cases z)⟩
      unfold fairF
      rw [if_neg hp]
  · refine kX11_fair 313 x1 x2 x3 (sX11_fair_0 313 x1 x2 x3 hI.2.1 (Nat.le_refl _) ⟨_, c_isN l G hI x1, fun y6 I4 ⟨s1, s2, s3, s4⟩ => ⟨fun c2 => ⟨_, I4, rfl, rfl, rfl, s1⟩, fun c2 => ?_⟩⟩)
    exact absurd (c0.symm.trans (s3.symm.trans c2)) (fun z => by cases z)
  · refine kX11_fair 313 x1 x2 x3 (sX11_fair_0 313 x1 x2 x3 hI.2.1 (Nat.le_refl _) ⟨_, c_isN l G hI x1, fun y6 I4 ⟨s1, s2, s3, s4⟩ => ⟨fun c2 => absurd (bT.symm.trans (s3.symm.trans c2)) (fun z => by cases z), fun c2 => ?_⟩⟩)
    have eV : RW (I4, h.2) (610 + 318 * n) = RW h (610 + 318 * n) := RWc s1.al _
    have ma := s4 n b1 b2 c2
    have mm := ma.mn b2 (by rw [eV]; exact b7)
    rw [eV] at mm
    have w3 := b7.2.2.2.1
    obtain ⟨k3, pi⟩ := zisP_at mm b7 (p := x2)
    have n150 := stM_150 b7 (al := -1) 100
    have okk := (stM_ok b7 (al := -1) 100).1
    refine ⟨k3, fun c4 => ⟨_, c_till l G (I4, h.2) n _ (-1) 99 99 hI.2.1 b7 mm (by rw [ma.2.1]; rfl) rfl (by decide), fun I25 ⟨g1, g2, g3, g4⟩ => ?_⟩, fun c10 => ⟨_, I4, rfl, rfl, ?_, s1⟩⟩
    · have hp := pi.mp c4
      obtain ⟨P, hP⟩ : ∃ P : Nat, x2.toInt = (P : Int) := ⟨x2.toInt.toNat, by omega⟩
      have s : SameC h I25 := s1.tr g1.same
      have sl := shN_le (p := P) n150
      refine ⟨_, c_fairOf l G (I25, h.2) _ _ P x2 okk hI.2.1 g2 n150 hP (by omega), fun y36 I34 ⟨z1, z2⟩ => ?_⟩
      have eI : I34 = I25 := z2
      subst eI
      refine ⟨_, c_common l G (I34, h.2) y36 60 _ 60 z1 rfl (Nat.lt_of_le_of_lt sl (by decide)) (by decide), fun y45 I43 ⟨z3, z4⟩ => ?_⟩
      have eI2 : I43 = I34 := z4
      subst eI2
      have gp : 0 < Nat.gcd (shN (stM (RW h (610 + 318 * n)) (-1) 100) P) 60 := Nat.gcd_pos_of_pos_right _ (by decide)
      have nz : ¬ y45 = 0 := fun e => by rw [e, show (0 : Int64).toInt = 0 from rfl] at z3; omega
      have fv : fairF x2 x3 (RW h (610 + 318 * n)) = Int64.ofInt ((if x3 = true then 60 else (shN (stM (RW h (610 + 318 * n)) (-1) 100) P : Int)) / (Nat.gcd (shN (stM (RW h (610 + 318 * n)) (-1) 100) P) 60 : Int)) := by
        unfold fairF
        rw [if_pos hp, show x2.toInt.toNat = P by omega]
      rw [fv]
      have sl' : (shN (stM (RW h (610 + 318 * n)) (-1) 100) P : Int) ≤ 9000 := by omega
      refine ⟨fun c8 => ⟨nz, _, I43, rfl, rfl, j_ofV ?_, s⟩, fun c9 => ⟨nz, _, I43, rfl, rfl, j_ofV ?_, s⟩⟩
      · rw [j_div (by omega) (by omega), z1, z3, c8, if_neg Bool.false_ne_true]
      · rw [j_div (by decide) (by omega), z3, c9, if_pos rfl]; rfl
    · have := (bfalse pi).mp c10
      unfold fairF
      rw [if_neg this]
