set_option maxRecDepth 4000
/-! ===== sums of naturals ===== -/
def sumN (f : Nat → Nat) : Nat → Nat
  | 0 => 0
  | k + 1 => sumN f k + f k
theorem sumN_cg {f g : Nat → Nat} : ∀ n, (∀ k, k < n → f k = g k) → sumN f n = sumN g n
  | 0, _ => rfl
  | n + 1, h => by
    show sumN f n + f n = sumN g n + g n
    rw [sumN_cg n (fun k hk => h k (by omega)), h n (Nat.lt_succ_self n)]
theorem sumN_0 : ∀ n, sumN (fun _ => 0) n = 0
  | 0 => rfl
  | n + 1 => by
    show sumN (fun _ => 0) n + 0 = 0
    rw [sumN_0 n]
theorem sumN_add {f g : Nat → Nat} : ∀ n, sumN (fun k => f k + g k) n = sumN f n + sumN g n
  | 0 => rfl
  | n + 1 => by
    show sumN (fun k => f k + g k) n + (f n + g n) = (sumN f n + f n) + (sumN g n + g n)
    rw [sumN_add n]; omega
theorem sumN_swap {f : Nat → Nat → Nat} (b : Nat) : ∀ a, sumN (fun i => sumN (fun j => f i j) b) a = sumN (fun j => sumN (fun i => f i j) a) b
  | 0 => (sumN_0 b).symm
  | a + 1 => by
    show sumN (fun i => sumN (fun j => f i j) b) a + sumN (fun j => f a j) b = sumN (fun j => sumN (fun i => f i j) a + f a j) b
    rw [sumN_swap b a, sumN_add]
theorem sumN_tail {f : Nat → Nat} {i : Nat} : ∀ n, i ≤ n → (∀ k, i ≤ k → k < n → f k = 0) → sumN f n = sumN f i
  | 0, h, _ => by rw [show i = 0 by omega]
  | n + 1, h, z => by
    by_cases e : i = n + 1
    · rw [e]
    · show sumN f n + f n = _
      rw [sumN_tail n (by omega) (fun k h1 h2 => z k h1 (by omega)), z n (by omega) (Nat.lt_succ_self n)]; rfl
theorem sumN_one {f : Nat → Nat} {j : Nat} (n : Nat) (hj : j < n) (h1 : f j = 1) (h0 : ∀ k, k < n → k ≠ j → f k = 0) : sumN f n = 1 := by
  rw [sumN_tail (i := j + 1) n (by omega) (fun k a b => h0 k (by omega) (by omega))]
  show sumN f j + f j = 1
  rw [h1, sumN_tail (i := 0) j (Nat.zero_le _) (fun k a b => h0 k (by omega) (by omega))]; rfl
theorem sumN_le {f : Nat → Nat} {b : Nat} (h : ∀ k, f k ≤ b) : ∀ n, sumN f n ≤ b * n
  | 0 => Nat.zero_le _
  | n + 1 => by
    have ih := sumN_le h n
    have := h n
    show sumN f n + f n ≤ b * (n + 1)
    rw [Nat.mul_succ]; omega
/-! ===== hidden prints ===== -/
def hidN (st : PS) : Nat := sumN (fun k => if topo st.P (st.P k 0) st.n = some k then 0 else 1) st.n
def topN (st : PS) (m : Nat) : Nat := sumN (fun c => if topo st.P (Int32.ofNat c) st.n = none then 0 else 1) m
theorem ofn_s (n : Nat) (h : n < 2147483647) : Int32.ofNat n + 1 = Int32.ofNat (n + 1) := n_ofn (i_1 (i_ofNat (by omega)) h)
theorem ofn_inj {a b : Nat} (ha : a < 1000) (hb : b < 1000) (e : Int32.ofNat a = Int32.ofNat b) : a = b := by
  have h1 := i_ofNat (n := a) (by omega)
  have h2 := i_ofNat (n := b) (by omega)
  rw [e] at h1
  omega
theorem hid_top {V : Nat → Int} (w : WFN V) {st : PS} (ok : okS V st) : hidN st + topN st 64 = st.n := by
  have wb := wh_rng w.1 w.2.1
  have e1 : topN st 64 = sumN (fun k => if topo st.P (st.P k 0) st.n = some k then 1 else 0) st.n := by
    have a : topN st 64 = sumN (fun c => sumN (fun k => if topo st.P (Int32.ofNat c) st.n = some k then 1 else 0) st.n) 64 := by
      unfold topN
      refine sumN_cg 64 (fun c hc => ?_)
      cases q : topo st.P (Int32.ofNat c) st.n with
      | none => rw [if_pos rfl, sumN_tail (i := 0) st.n (Nat.zero_le _) (fun k _ _ => if_neg (fun z => by cases z))]; rfl
      | some t =>
        rw [if_neg (fun z => by cases z)]
        exact (sumN_one (f := fun k => if some t = some k then 1 else 0) (j := t) st.n (topo_some _ q).1 (if_pos rfl) (fun k _ hk => if_neg (fun z => hk (Option.some.inj z).symm))).symm
    rw [a, sumN_swap]
    refine sumN_cg st.n (fun k hk => ?_)
    have oc := (ok k hk).1
    obtain ⟨c, hc⟩ : ∃ c : Nat, (st.P k 0).toInt = (c : Int) := ⟨(st.P k 0).toInt.toNat, by omega⟩
    have ec := n_ofn hc
    by_cases q : topo st.P (st.P k 0) st.n = some k
    · rw [if_pos q]
      refine sumN_one (j := c) 64 (by omega) (by rw [← ec]; exact if_pos q) (fun c' h64 hc' => if_neg (fun z => ?_))
      have := (topo_some _ z).2
      rw [ec] at this
      exact hc' (ofn_inj (by omega) (by omega) this.symm)
    · rw [if_neg q]
      rw [sumN_tail (i := 0) 64 (Nat.zero_le _) (fun c' _ _ => if_neg (fun z => by
        have := (topo_some _ z).2
        rw [this] at q
        exact q z))]; rfl
  rw [e1]
  unfold hidN
  rw [← sumN_add]
  have : sumN (fun _ => 1) st.n = st.n := by
    generalize st.n = n
    induction n with
    | zero => rfl
    | succ n ih => show sumN (fun _ => 1) n + 1 = n + 1; rw [ih]
  refine (sumN_cg st.n (fun k _ => ?_)).trans this
  show (if _ then 0 else 1) + (if _ then 1 else 0) = 1
  split <;> rfl
theorem c_hiddenC (l : Launch) (G : zG) (h : zH) (V : Nat → Int) (a : Nat) (st : PS) (w : WFN V) (ok : okS V st) (ha : lo0 h a) (r : CPr h a st) (hn : st.n ≤ 150) : CTi l G YX0_hidden 1 [va_rf (some a)] h (fun y I => y = Int32.ofNat (hidN st) ∧ I = h.1) := by
  have n0 := r.1
  have ht := hid_top w ok
  have le : ∀ m, m ≤ 64 → topN st m ≤ topN st 64 := fun m hm => by
    have : ∀ d, topN st m ≤ topN st (m + d) := fun d => by
      induction d with
      | zero => exact Nat.le_refl _
      | succ d ih => exact Nat.le_trans ih (Nat.le_add_right _ _)
    have := this (64 - m)
    rw [show m + (64 - m) = 64 by omega] at this
    exact this
  have loop : ∀ (f i : Nat) (x1 x2 : Int32), i ≤ 64 → 64 - i < f → x2.toInt = (i : Int) → x1.toInt = (st.n : Int) - topN st i →
      Z l G mX0_hidden 1 (fun w h1 => ∃ x I1, w = some (.int x) ∧ h1 = (I1, h.2) ∧ (x = Int32.ofNat (hidN st) ∧ I1 = h.1)) 0 0 7 [va_rf (some a), .int x1, .int x2] [] h := by
    intro f
    induction f with
    | zero => intro i x1 x2 h1 h2; omega
    | succ f ih =>
      intro i x1 x2 h1 h2 hx hs
      have b := le i h1
      refine sX0_hidden_7 a x1 x2 ha (Nat.le_refl _) ⟨fun c1 => ⟨_, h.1, rfl, rfl, ?_, rfl⟩, fun c2 => ?_⟩
      · rw [show i = 64 by omega] at hs
        exact n_ofn (by omega)
      · have i64 : i < 64 := by omega
        have et : zI h (a + 7) (zix x2) = topI (topo st.P (Int32.ofNat i) st.n) := by
          rw [← n_ofn hx]; exact r.2.2 x2 (by omega) (by omega)
        have b2 := le (i + 1) (by omega)
        have s1 : topN st (i + 1) = topN st i + (if topo st.P (Int32.ofNat i) st.n = none then 0 else 1) := rfl
        rw [et]
        refine ⟨by omega, by show _ < (64 : Int); omega, fun c3 => ih (i + 1) _ _ (by omega) (by omega) (i_1 hx (by omega)) ?_, fun c4 => ih (i + 1) _ _ (by omega) (by omega) (i_1 hx (by omega)) ?_⟩
        · rw [s1, if_pos ((topI_m1 (by omega)).mp c3)]; omega
        · rw [if_neg (fun z => c4 ((topI_m1 (by omega)).mpr z))] at s1
          rw [i_add (by show _ ≤ _ + (-1 : Int); omega) (by show _ + (-1 : Int) < _; omega), hs, s1]; show _ + (-1 : Int) = _; omega
  exact kX0_hidden a (sX0_hidden_0 a ha (Nat.le_refl _) (loop 65 0 _ 0 (by omega) (by omega) rfl (by rw [n0]; show _ = (st.n : Int) - ((0 : Nat) : Int); omega)))
theorem c_hiddenM (l : Launch) (G : zG) (h : zH) (st : PS) (hl : lo11 h 313) (r : MPr h st) (hn : st.n ≤ 150) : CTi l G YX11_hidden 2 [va_rf (some 313)] h (fun y I => y = Int32.ofNat (hidN st) ∧ I = h.1) := by
  have n0 := r.1
  have loop : ∀ (f i : Nat) (x1 x2 : Int32), i ≤ st.n → st.n - i < f → x2.toInt = (i : Int) → x1 = Int32.ofNat (sumN (fun k => if topo st.P (st.P k 0) st.n = some k then 0 else 1) i) →
      Z l G mX11_hidden 2 (fun w h1 => ∃ x I1, w = some (.int x) ∧ h1 = (I1, h.2) ∧ (x = Int32.ofNat (hidN st) ∧ I1 = h.1)) 0 0 4 [va_rf (some 313), .int x1, .int x2] [] h := by
    intro f
    induction f with
    | zero => intro i x1 x2 h1 h2; omega
    | succ f ih =>
      intro i x1 x2 h1 h2 hx hs
      refine sX11_hidden_4 313 x1 x2 hl (Nat.le_refl _) ⟨fun c1 => ⟨_, h.1, rfl, rfl, ?_, rfl⟩, fun c2 => ⟨by omega, by show _ < (160 : Int); omega, _, c_topmost l G h st _ hl r hn, fun y11 I9 ⟨ty, te⟩ => ?_⟩⟩
      · rw [hs, show i = st.n by omega]; rfl
      · have eI : I9 = h.1 := te
        subst eI
        have hi : i < st.n := by omega
        have sl := sumN_le (f := fun k => if topo st.P (st.P k 0) st.n = some k then 0 else 1) (b := 1) (fun k => by split <;> omega) i
        have ec : zI (h.1, h.2) (313 + 7) (zix x2) = st.P i 0 := by rw [zix_of hx]; exact r.2 i hi 0 (by decide)
        have ec' : zI h (313 + 7) (zix x2) = st.P i 0 := ec
        rw [ec'] at ty
        have iff : y11 = x2 ↔ topo st.P (st.P i 0) st.n = some i := by
          rw [ty]
          cases q : topo st.P (st.P i 0) st.n with
          | none => exact ⟨fun z => by
              have : (topI none).toInt = x2.toInt := congrArg Int32.toInt z
              rw [hx, show (topI none).toInt = -1 from rfl] at this
              omega, fun z => by cases z⟩
          | some t =>
            have tn := (topo_some _ q).1
            refine ⟨fun z => ?_, fun z => by cases z; exact (n_ofn hx).symm⟩
            rw [n_ofn hx] at z
            rw [ofn_inj (by omega) (by omega) z]
        have s1 : sumN (fun k => if topo st.P (st.P k 0) st.n = some k then 0 else 1) (i + 1) = sumN (fun k => if topo st.P (st.P k 0) st.n = some k then 0 else 1) i + (if topo st.P (st.P i 0) st.n = some i then 0 else 1) := rfl
        refine ⟨fun c4 => ih (i + 1) _ _ (by omega) (by omega) (i_1 hx (by omega)) ?_, fun c5 => ih (i + 1) _ _ (by omega) (by omega) (i_1 hx (by omega)) ?_⟩
        · rw [s1, if_neg (fun z => c4 (iff.mpr z)), hs]
          exact ofn_s _ (by omega)
        · rw [s1, if_pos (iff.mp c5), hs, Int32.add_zero]; rfl
  exact kX11_hidden 313 (sX11_hidden_0 313 hl (Nat.le_refl _) (loop (st.n + 1) 0 0 0 (by omega) (by omega) rfl rfl))
/-! ===== twins ===== -/
def twn (st : PS) (i j : Nat) : Nat := if st.P i 0 = st.P j 0 ∧ st.P i 1 = st.P j 1 ∧ st.P i 2 = st.P j 2 ∧ st.P i 3 = st.P j 3 then 1 else 0
theorem twn_c {st : PS} {i j : Nat} : twn st i j = twn st j i := by
  unfold twn
  by_cases c : st.P i 0 = st.P j 0 ∧ st.P i 1 = st.P j 1 ∧ st.P i 2 = st.P j 2 ∧ st.P i 3 = st.P j 3
  · rw [if_pos c, if_pos ⟨c.1.symm, c.2.1.symm, c.2.2.1.symm, c.2.2.2.symm⟩]
  · rw [if_neg c, if_neg (fun z => c ⟨z.1.symm, z.2.1.symm, z.2.2.1.symm, z.2.2.2.symm⟩)]
def twA (st : PS) (m : Nat) : Nat := sumN (fun i => sumN (fun j => if j < i then twn st i j else 0) st.n) m
def twB (st : PS) (m : Nat) : Nat := sumN (fun i => sumN (fun j => if i < j then twn st i j else 0) st.n) m
theorem tw_AB {st : PS} : twA st st.n = twB st st.n := by
  unfold twA twB
  rw [sumN_swap]
  refine sumN_cg _ (fun j _ => sumN_cg _ (fun i _ => ?_))
  rw [twn_c]
theorem twn_1 {st : PS} {i j : Nat} : twn st i j ≤ 1 := by
  unfold twn
  split <;> omega
theorem c_twinsC (l : Launch) (G : zG) (h : zH) (V : Nat → Int) (a : Nat) (st : PS) (ok : okS V st) (ha : lo0 h a) (r : CPr h a st) (hn : st.n ≤ 150) : CTi l G YX0_twins 2 [va_rf (some a)] h (fun y I => y = Int32.ofNat (twA st st.n) ∧ I = h.1) := by
  have n0 := r.1
  have in1 : ∀ i k, sumN (fun j => if j < i then twn st i j else 0) k ≤ 1 * k := fun i => sumN_le (fun k => by
    split
    · exact twn_1
    · exact Nat.zero_le _)
  have ou : ∀ k, twA st k ≤ (1 * st.n) * k := sumN_le (fun i => in1 i st.n)
  have outer : ∀ (f i : Nat) (x1 x2 : Int32) (u : Value), i ≤ st.n → st.n - i < f → x2.toInt = (i : Int) → x1 = Int32.ofNat (twA st i) →
      Z l G mX0_twins 2 (fun w h1 => ∃ x I1, w = some (.int x) ∧ h1 = (I1, h.2) ∧ (x = Int32.ofNat (twA st st.n) ∧ I1 = h.1)) 0 0 4 [va_rf (some a), .int x1, .int x2, u] [] h := by
    intro f
    induction f with
    | zero => intro i x1 x2 u h1 h2; omega
    | succ f ih =>
      intro i x1 x2 u h1 h2 hx hs
      have inner : ∀ (f2 j : Nat) (x1 x3 : Int32), i < st.n → j ≤ i → i - j < f2 → x3.toInt = (j : Int) → x1 = Int32.ofNat (twA st i + sumN (fun j => if j < i then twn st i j else 0) j) →
          Z l G mX0_twins 2 (fun w h1 => ∃ x I1, w = some (.int x) ∧ h1 = (I1, h.2) ∧ (x = Int32.ofNat (twA st st.n) ∧ I1 = h.1)) 0 0 14 [va_rf (some a), .int x1, .int x2, .int x3] [] h := by
        intro f2
        induction f2 with
        | zero => intro j x1 x3 hin h3 h4; omega
        | succ f2 ih2 =>
          intro j x1 x3 hin h3 h4 hj hs2
          refine sX0_twins_14 a x1 x2 x3 ha (Nat.le_refl _) ⟨fun c1 => ?_, fun c2 => ?_⟩
          · refine ih (i + 1) _ _ _ (by omega) (by omega) (i_1 hx (by omega)) ?_
            rw [hs2]
            show _ = Int32.ofNat (twA st i + sumN (fun j => if j < i then twn st i j else 0) st.n)
            rw [sumN_tail (i := j) st.n (by omega) (fun k h1 h2 => if_neg (by omega))]
          · have hji : j < i := by omega
            obtain ⟨p0, p1, _⟩ := r.get ha hn hx hin
            obtain ⟨q0, q1, _⟩ := r.get ha hn hj (by omega)
            obtain ⟨o1, o2, o3, o4, _⟩ := ok i hin
            obtain ⟨u1, u2, u3, u4, _⟩ := ok j (by omega)
            have eqs := shp_eq o2 o3 o4 u2 u3 u4
            have b1 := in1 i j
            have b2 := ou i
            have b3 : (1 * st.n) * i ≤ 150 * 150 := Nat.mul_le_mul (by omega) (by omega)
            have s1 : sumN (fun j => if j < i then twn st i j else 0) (j + 1) = sumN (fun j => if j < i then twn st i j else 0) j + twn st i j := by
              show sumN _ j + (if j < i then twn st i j else 0) = _
              rw [if_pos hji]
            rw [p0, p1, q0, q1]
            have add0 : twn st i j = 0 → x1 = Int32.ofNat (twA st i + sumN (fun j => if j < i then twn st i j else 0) (j + 1)) := fun z => by rw [s1, z]; exact hs2
            refine ⟨fun c3 => ih2 (j + 1) _ _ hin (by omega) (by omega) (i_1 hj (by omega)) (add0 (if_neg (fun z => c3 z.1))), fun c4 => ⟨fun c5 => ih2 (j + 1) _ _ hin (by omega) (by omega) (i_1 hj (by omega)) (add0 (if_neg (fun z => c5 (eqs.mpr z.2)))), fun c6 => ih2 (j + 1) _ _ hin (by omega) (by omega) (i_1 hj (by omega)) ?_⟩⟩
            have e1 : twn st i j = 1 := if_pos ⟨c4, eqs.mp c6⟩
            rw [s1, e1, hs2]
            exact ofn_s _ (by omega)
      refine sX0_twins_4 a x1 x2 u ha (Nat.le_refl _) ⟨fun c1 => ⟨_, h.1, rfl, rfl, ?_, rfl⟩, fun c2 => inner (i + 1) 0 _ 0 (by omega) (by omega) (by omega) rfl hs⟩
      rw [hs, show i = st.n by omega]
  exact kX0_twins a (sX0_twins_0 a ha (Nat.le_refl _) (outer (st.n + 1) 0 0 0 zU (by omega) (by omega) rfl rfl))
theorem c_twinsM (l : Launch) (G : zG) (h : zH) (st : PS) (hl : lo11 h 313) (r : MPr h st) (hn : st.n ≤ 150) : CTi l G YX11_twins 1 [va_rf (some 313)] h (fun y I => y = Int32.ofNat (twB st st.n) ∧ I = h.1) := by
  have n0 := r.1
  have in1 : ∀ i k, sumN (fun j => if i < j then twn st i j else 0) k ≤ 1 * k := fun i => sumN_le (fun k => by
    split
    · exact twn_1
    · exact Nat.zero_le _)
  have ou : ∀ k, twB st k ≤ (1 * st.n) * k := sumN_le (fun i => in1 i st.n)
  have outer : ∀ (f i : Nat) (x1 x2 : Int32) (u : Value), i ≤ st.n → st.n - i < f → x2.toInt = (i : Int) → x1 = Int32.ofNat (twB st i) →
      Z l G mX11_twins 1 (fun w h1 => ∃ x I1, w = some (.int x) ∧ h1 = (I1, h.2) ∧ (x = Int32.ofNat (twB st st.n) ∧ I1 = h.1)) 0 0 4 [va_rf (some 313), .int x1, .int x2, u] [] h := by
    intro f
    induction f with
    | zero => intro i x1 x2 u h1 h2; omega
    | succ f ih =>
      intro i x1 x2 u h1 h2 hx hs
      have inner : ∀ (f2 j : Nat) (x1 x3 : Int32), i < j → j ≤ st.n → st.n - j < f2 → x3.toInt = (j : Int) → x1 = Int32.ofNat (twB st i + sumN (fun j => if i < j then twn st i j else 0) j) →
          Z l G mX11_twins 1 (fun w h1 => ∃ x I1, w = some (.int x) ∧ h1 = (I1, h.2) ∧ (x = Int32.ofNat (twB st st.n) ∧ I1 = h.1)) 0 0 16 [va_rf (some 313), .int x1, .int x2, .int x3] [] h := by
        intro f2
        induction f2 with
        | zero => intro j x1 x3 hin h3 h4; omega
        | succ f2 ih2 =>
          intro j x1 x3 hin h3 h4 hj hs2
          refine sX11_twins_16 313 x1 x2 x3 hl (Nat.le_refl _) ⟨fun c1 => ?_, fun c2 => ?_⟩
          · refine ih (i + 1) _ _ _ (by omega) (by omega) (i_1 hx (by omega)) ?_
            rw [hs2, show j = st.n by omega]; rfl
          · have hjn : j < st.n := by omega
            have b1 := in1 i j
            have b2 := ou i
            have b3 : (1 * st.n) * i ≤ 150 * 150 := Nat.mul_le_mul (by omega) (by omega)
            have s1 : sumN (fun j => if i < j then twn st i j else 0) (j + 1) = sumN (fun j => if i < j then twn st i j else 0) j + twn st i j := by
              show sumN _ j + (if i < j then twn st i j else 0) = _
              rw [if_pos hin]
            have k1 : 0 ≤ x2.toInt := by omega
            have k2 : x2.toInt < ((160 : Nat) : Int) := by show _ < (160 : Int); omega
            have k3 : 0 ≤ x3.toInt := by omega
            have k4 : x3.toInt < ((160 : Nat) : Int) := by show _ < (160 : Int); omega
            have rd : ∀ W, W < 4 → zI h (320 + W) i = st.P i W ∧ zI h (320 + W) j = st.P j W := fun W hW => ⟨r.2 i (by omega) W (by omega), r.2 j hjn W (by omega)⟩
            have r0 := rd 0 (by decide); have r1 := rd 1 (by decide); have r2 := rd 2 (by decide); have r3 := rd 3 (by decide)
            rw [zix_of hx, zix_of hj, show zI h (313 + 7) i = st.P i 0 from r0.1, show zI h (313 + 7) j = st.P j 0 from r0.2, show zI h (313 + 8) i = st.P i 1 from r1.1, show zI h (313 + 8) j = st.P j 1 from r1.2, show zI h (313 + 9) i = st.P i 2 from r2.1, show zI h (313 + 9) j = st.P j 2 from r2.2, show zI h (313 + 10) i = st.P i 3 from r3.1, show zI h (313 + 10) j = st.P j 3 from r3.2]
            have add0 : ¬ (st.P i 0 = st.P j 0 ∧ st.P i 1 = st.P j 1 ∧ st.P i 2 = st.P j 2 ∧ st.P i 3 = st.P j 3) → x1 + 0 = Int32.ofNat (twB st i + sumN (fun j => if i < j then twn st i j else 0) (j + 1)) := fun z => by
              rw [s1, show twn st i j = 0 from if_neg z, Int32.add_zero]; exact hs2
            refine ⟨k1, k2, k3, k4, fun c3 => ih2 (j + 1) _ _ (by omega) (by omega) (by omega) (i_1 hj (by omega)) (add0 (fun z => c3 z.1)), fun c4 => ⟨k1, k2, k3, k4, fun c5 => ih2 (j + 1) _ _ (by omega) (by omega) (by omega) (i_1 hj (by omega)) (add0 (fun z => c5 z.2.1)), fun c6 => ⟨k1, k2, k3, k4, fun c7 => ih2 (j + 1) _ _ (by omega) (by omega) (by omega) (i_1 hj (by omega)) (add0 (fun z => c7 z.2.2.1)), fun c8 => ⟨k1, k2, k3, k4, fun c9 => ih2 (j + 1) _ _ (by omega) (by omega) (by omega) (i_1 hj (by omega)) (add0 (fun z => c9 z.2.2.2)), fun c10 => ih2 (j + 1) _ _ (by omega) (by omega) (by omega) (i_1 hj (by omega)) ?_⟩⟩⟩⟩
            rw [s1, show twn st i j = 1 from if_pos ⟨c4, c6, c8, c10⟩, hs2]
            exact ofn_s _ (by omega)
      refine sX11_twins_4 313 x1 x2 u hl (Nat.le_refl _) ⟨fun c1 => ⟨_, h.1, rfl, rfl, ?_, rfl⟩, fun c2 => inner (st.n + 1) (i + 1) _ _ (by omega) (by omega) (by omega) (i_1 hx (by omega)) ?_⟩
      · rw [hs, show i = st.n by omega]
      · rw [hs, sumN_tail (i := 0) (i + 1) (Nat.zero_le _) (fun k _ h2 => if_neg (by omega))]; rfl
  exact kX11_twins 313 (sX11_twins_0 313 hl (Nat.le_refl _) (outer (st.n + 1) 0 0 0 zU (by omega) (by omega) rfl rfl))
/-! ===== the deepest ===== -/
def dpI (st : PS) : Nat → Option Nat
  | 0 => none
  | k + 1 => match dpI st k with
    | none => some k
    | some b => if (st.P b 4).toInt < (st.P k 4).toInt then some k else some b
theorem dpI_lt {st : PS} {b : Nat} : ∀ n, dpI st n = some b → b < n
  | 0, h => by cases h
  | n + 1, h => by
    unfold dpI at h
    split at h
    · cases h; exact Nat.lt_succ_self _
    · rename_i c hc
      have := dpI_lt n hc
      split at h <;> cases h <;> omega
theorem c_deepC (l : Launch) (G : zG) (h : zH) (a : Nat) (st : PS) (ha : lo0 h a) (r : CPr h a st) (hn : st.n ≤ 150) : CTi l G YX0_deepest 2 [va_rf (some a)] h (fun y I => y = topI (dpI st st.n) ∧ I = h.1) := by
  have n0 := r.1
  have loop : ∀ (f i : Nat) (x1 x2 : Int32), i ≤ st.n → st.n - i < f → x2.toInt = (i : Int) → x1 = topI (dpI st i) →
      Z l G mX0_deepest 2 (fun w h1 => ∃ x I1, w = some (.int x) ∧ h1 = (I1, h.2) ∧ (x = topI (dpI st st.n) ∧ I1 = h.1)) 0 0 4 [va_rf (some a), .int x1, .int x2] [] h := by
    intro f
    induction f with
    | zero => intro i x1 x2 h1 h2; omega
    | succ f ih =>
      intro i x1 x2 h1 h2 hx hs
      refine sX0_deepest_4 a x1 x2 ha (Nat.le_refl _) ⟨fun c1 => ⟨_, h.1, rfl, rfl, ?_, rfl⟩, fun c2 => ?_⟩
      · rw [hs, show i = st.n by omega]
      · have hi : i < st.n := by omega
        cases q : dpI st i with
        | none =>
          rw [q] at hs
          have e : dpI st (i + 1) = some i := by show (match dpI st i with | none => _ | some b => _) = _; rw [q]
          exact ⟨fun c3 => ih (i + 1) _ _ (by omega) (by omega) (i_1 hx (by omega)) (by rw [e]; exact n_ofn hx), fun c4 => absurd hs c4⟩
        | some b =>
          have hb := dpI_lt i q
          rw [q] at hs
          have hb1 : x1.toInt = (b : Int) := by rw [hs]; exact i_ofNat (by omega)
          rw [(r.get ha hn hx hi).2.2.1, (r.get ha hn hb1 (by omega)).2.2.1]
          have e : dpI st (i + 1) = if (st.P b 4).toInt < (st.P i 4).toInt then some i else some b := by show (match dpI st i with | none => _ | some b => _) = _; rw [q]
          refine ⟨fun c3 => absurd c3 (by rw [hs]; exact ofn_m1 (by omega)), fun c4 => ⟨fun c5 => ih (i + 1) _ _ (by omega) (by omega) (i_1 hx (by omega)) ?_, fun c6 => ih (i + 1) _ _ (by omega) (by omega) (i_1 hx (by omega)) ?_⟩⟩
          · rw [e, if_neg (by omega)]; exact hs
          · rw [e, if_pos c6]; exact n_ofn hx
  exact kX0_deepest a (sX0_deepest_0 a ha (Nat.le_refl _) (loop (st.n + 1) 0 (-1) 0 (by omega) (by omega) rfl rfl))
theorem c_deepM (l : Launch) (G : zG) (h : zH) (st : PS) (hl : lo11 h 313) (r : MPr h st) (hn : st.n ≤ 150) : CTi l G YX11_deepest 1 [va_rf (some 313)] h (fun y I => y = topI (dpI st st.n) ∧ I = h.1) := by
  have n0 := r.1
  have loop : ∀ (f i : Nat) (x1 x2 : Int32), i ≤ st.n → st.n - i < f → x2.toInt = (i : Int) → x1 = topI (dpI st i) →
      Z l G mX11_deepest 1 (fun w h1 => ∃ x I1, w = some (.int x) ∧ h1 = (I1, h.2) ∧ (x = topI (dpI st st.n) ∧ I1 = h.1)) 0 0 4 [va_rf (some 313), .int x1, .int x2] [] h := by
    intro f
    induction f with
    | zero => intro i x1 x2 h1 h2; omega
    | succ f ih =>
      intro i x1 x2 h1 h2 hx hs
      refine sX11_deepest_4 313 x1 x2 hl (Nat.le_refl _) ⟨fun c1 => ⟨_, h.1, rfl, rfl, ?_, rfl⟩, fun c2 => ?_⟩
      · rw [hs, show i = st.n by omega]
      · have hi : i < st.n := by omega
        cases q : dpI st i with
        | none =>
          rw [q] at hs
          have e : dpI st (i + 1) = some i := by show (match dpI st i with | none => _ | some b => _) = _; rw [q]
          have hm : x1.toInt = -1 := by rw [hs]; rfl
          exact ⟨fun c3 => ih (i + 1) _ _ (by omega) (by omega) (i_1 hx (by omega)) (by rw [e]; exact n_ofn hx), fun c4 => absurd c4 (by omega)⟩
        | some b =>
          have hb := dpI_lt i q
          rw [q] at hs
          have hb1 : x1.toInt = (b : Int) := by rw [hs]; exact i_ofNat (by omega)
          rw [zix_of hx, zix_of hb1, show zI h (313 + 11) i = st.P i 4 from r.2 i hi 4 (by decide), show zI h (313 + 11) b = st.P b 4 from r.2 b (by omega) 4 (by decide)]
          have e : dpI st (i + 1) = if (st.P b 4).toInt < (st.P i 4).toInt then some i else some b := by show (match dpI st i with | none => _ | some b => _) = _; rw [q]
          refine ⟨fun c3 => absurd c3 (by omega), fun c4 => ⟨by omega, by show _ < (160 : Int); omega, by omega, by show _ < (160 : Int); omega, fun c5 => ih (i + 1) _ _ (by omega) (by omega) (i_1 hx (by omega)) ?_, fun c6 => ih (i + 1) _ _ (by omega) (by omega) (i_1 hx (by omega)) ?_⟩⟩
          · rw [e, if_neg (by omega)]; exact hs
          · rw [e, if_pos c6]; exact n_ofn hx
  exact kX11_deepest 313 (sX11_deepest_0 313 hl (Nat.le_refl _) (loop (st.n + 1) 0 (-1) 0 (by omega) (by omega) rfl rfl))
