set_option maxRecDepth 4000
/-! ===== rows of signs: which sign comes next, the reference ===== -/
section K9A
variable {F : Nat → Nat → Bool} {n : Nat}
theorem co_done {R : Nat → Nat → Bool} {Q : Nat → Bool} {M S a b : Nat} {g : Nat → Nat} (hb : b ≠ 10) (ha : S.testBit a = true) : Co (rmR (trR R a b) a b) (trQ Q a) M S g ↔ Co R Q M S g ∧ g a = b := by
  refine ⟨fun c => ?_, fun ⟨c, e⟩ => (co_rem hb e).mpr ((co_try hb ha).mpr ⟨c, e⟩)⟩
  have e : g a = b := by
    rcases c.2.1 a ha with ⟨_, z⟩ | ⟨_, z⟩
    · rw [trQ_at] at z; cases z
    · have z2 : (trR R a b a (g a) && !(decide (a < a) && decide (g a = b))) = true := z
      have z3 := (Bool.and_eq_true _ _ ▸ z2 : _ ∧ _).1
      rw [trR_at] at z3
      exact of_decide_eq_true (Bool.and_eq_true _ _ ▸ z3 : _ ∧ _).2
  exact (co_try hb ha).mp ((co_rem hb e).mp c)
theorem bit1_ne {k : Nat} (hk : k < 10) : ¬ bit1 k = 0 := fun e => by
  have : ibt (bit1 k) k = false := by rw [e]; exact ibt_0
  rw [ibt_1 hk, decide_eq_true rfl] at this; cases this
theorem bit1_inj {j k : Nat} (hj : j < 10) (hk : k < 10) (e : bit1 j = bit1 k) : j = k := by
  have : ibt (bit1 j) j = ibt (bit1 k) j := by rw [e]
  rw [ibt_1 hj, ibt_1 hk, decide_eq_true rfl] at this
  exact of_decide_eq_true this.symm
theorem and_bit {x : Int32} {k : Nat} (hk : k < 10) : x &&& bit1 k = if ibt x k = true then bit1 k else 0 := ibt_ext (fun b _ => by
  rw [ibt_and, ibt_1 hk]
  by_cases e : b = k
  · subst e
    cases q : ibt x b with
    | true => rw [if_pos rfl, ibt_1 hk, decide_eq_true rfl]; rfl
    | false => rw [if_neg Bool.false_ne_true, ibt_0]; rfl
  · rw [decide_eq_false e, Bool.and_false]
    split
    · rw [ibt_1 hk, decide_eq_false e]
    · exact ibt_0.symm)
theorem c_nextOf (l : Launch) (G : zG) (h : zH) (k : Nat) (x1 : Int32) (hl : lo11 h 313) (sg : SgN h n) (my : MyK h F noQ n) (hn : n ≤ 10) (d : DpK h.1 F noQ 10 n (2 ^ n)) (h1 : x1.toInt = (k : Int)) (hk : k < n) :
    CTi l G YX11_nextOf 3 [va_rf (some 313), .int x1] h (fun y I => y = ov (fstN F 10 n k) ∧ NxF h I) := by
  have pn := p2_le hn
  have s10 : (2 ^ n - 1).testBit 10 = false := by rw [full_bit]; exact decide_eq_false (by omega)
  -- the answer
  have ans : ∀ (J : Nat → Nat → Int32), NxF h J → ∀ (fu b : Nat) (u2 u5 u6 u7 : Value) (x4 : Int32), b ≤ n → n - b < fu → x4.toInt = (b : Int) → (∀ c, c < b → c ≠ fstN F 10 n k) →
      Z l G mX11_nextOf 3 (fun v h2 => ∃ y I1, v = some (.int y) ∧ h2 = (I1, h.2) ∧ (y = ov (fstN F 10 n k) ∧ NxF h I1)) 0 0 210 [va_rf (some 313), .int x1, u2, .int (mvN (fstN F 10 n k)), .int x4, u5, u6, u7] [] (J, h.2) := by
    intro J nf fu
    induction fu with
    | zero => intro b u2 u5 u6 u7 x4 q1 q2; omega
    | succ fu ih =>
      intro b u2 u5 u6 u7 x4 q1 q2 h4 nb
      have sgJ := nf.sg sg
      have fr := fst_rng (F := F) (j := k) hn (show 1 ≤ 10 by decide)
      refine sX11_nextOf_210 (h := (J, h.2)) 313 x1 u2 (mvN (fstN F 10 n k)) x4 u5 u6 u7 hl (Nat.le_refl _) ⟨sgJ.1, fun c1 => ⟨_, J, rfl, rfl, ?_, nf⟩, fun c2 => ⟨fun c3 => ?_, fun c4 => ⟨_, J, rfl, rfl, ?_, nf⟩⟩⟩
      · have eb : b = n := by have := sgJ.2; omega
        have : fstN F 10 n k = 10 := fr.resolve_right (fun z => nb _ (by omega) rfl)
        rw [this]; rfl
      · have hb : b < n := by have := sgJ.2; omega
        refine ih (b + 1) u2 u5 u6 u7 _ (by omega) (by omega) (i_1 h4 (by omega)) (fun c hc e => ?_)
        by_cases z : c = b
        · subst z
          refine c3 ?_
          rw [bit1_of h4, ← e]
          exact if_neg (by omega)
        · exact nb c (by omega) e
      · have hb : b < n := by have := sgJ.2; omega
        rw [bit1_of h4] at c4
        have ne : fstN F 10 n k ≠ 10 := fun z => by
          rw [z] at c4
          have : (0 : Int32) = bit1 b := c4
          exact bit1_ne (by omega) this.symm
        have lt := fr.resolve_left ne
        have e2 : bit1 (fstN F 10 n k) = bit1 b := by rw [← c4]; exact (if_neg ne).symm
        rw [bit1_inj (by omega) (by omega) e2]
        exact i_ext (by rw [h4, (ov_n (show b < 10 by omega)).1])
  -- sign by sign
  have loop : ∀ (x2 : Int32), x2.toInt = (mnL (vF F noQ 10 n) : Int) → ∀ (fu a : Nat) (x3 : Int32) (u4 u5 u6 u7 : Value) (J : Nat → Nat → Int32) (R : Nat → Nat → Bool) (Q : Nat → Bool), a ≤ k + 1 → k + 1 - a < fu → x3.toInt = (a : Int) → NI h F n J a R Q →
      Z l G mX11_nextOf 3 (fun v h2 => ∃ y I1, v = some (.int y) ∧ h2 = (I1, h.2) ∧ (y = ov (fstN F 10 n k) ∧ NxF h I1)) 0 0 7 [va_rf (some 313), .int x1, .int x2, .int x3, u4, u5, u6, u7] [] (J, h.2) := by
    intro x2 h2 fu
    induction fu with
    | zero => intro a x3 u4 u5 u6 u7 J R Q q1 q2; omega
    | succ fu ih =>
      intro a x3 u4 u5 u6 u7 J R Q q1 q2 h3 ni
      obtain ⟨nf, mk, inv, mv, qf⟩ := ni
      refine sX11_nextOf_7 (h := (J, h.2)) 313 x1 x2 x3 u4 u5 u6 u7 hl (Nat.le_refl _) ⟨fun c1 => ⟨by omega, by show _ < (10 : Int); omega, ?_⟩, fun c2 => ⟨by omega, by show _ < (10 : Int); omega, ?_⟩⟩
      · rw [zix_of h1]
        rw [show zI (J, h.2) (313 + 21) k = mvN (fstN F 10 n k) from mv k (by omega)]
        exact ans J nf (n + 1) 0 _ _ _ _ 0 (Nat.zero_le _) (by omega) rfl (fun c hc => by omega)
      · have ha : a < n := by omega
        have ba : (2 ^ n - 1).testBit a = true := by rw [full_bit]; exact decide_eq_true ha
        have fr := fst_rng (F := F) (j := a) hn (show 1 ≤ 10 by decide)
        rw [zix_of h3]
        generalize hA : zI (J, h.2) (313 + 21) a = A0
        have hA0 : ∀ y, y < n → ibt A0 y = R a y := fun y hy => by rw [← hA]; exact mk.1 a ha y hy
        -- settled: sign b follows
        have won : ∀ (b : Nat) (x5 : Int32), b < n → fstN F 10 n a = b → x5.toInt = (b : Int) → ∀ (v7 : Value) (K : Nat → Nat → Int32), NxF h K → MyK (K, h.2) (trR R a b) (trQ Q a) n → K 334 a = bit1 b → (∀ x, x < a → K 334 x = J 334 x) →
            Z l G mX11_nextOf 3 (fun v h2 => ∃ y I1, v = some (.int y) ∧ h2 = (I1, h.2) ∧ (y = ov (fstN F 10 n k) ∧ NxF h I1)) 0 0 26 [va_rf (some 313), .int x1, .int x2, .int x3, .int A0, .int x5, .int 1, v7] [] (K, h.2) := by
          intro b x5 hb fb h5 v7 K nK mK rK bK
          have strike : ∀ (fu2 i : Nat) (x7 : Int32) (K : Nat → Nat → Int32), a + 1 ≤ i → i ≤ n → n - i < fu2 → x7.toInt = (i : Int) → NxF h K → (∀ x, x < n → ∀ y, y < n → ibt (K 334 x) y = (trR R a b x y && !(decide (a < x ∧ x < i) && decide (y = b)))) → (∀ x, x < n → ibt (K 313 49) x = trQ Q a x) → K 334 a = bit1 b → (∀ x, x < a → K 334 x = J 334 x) →
              Z l G mX11_nextOf 3 (fun v h2 => ∃ y I1, v = some (.int y) ∧ h2 = (I1, h.2) ∧ (y = ov (fstN F 10 n k) ∧ NxF h I1)) 0 0 158 [va_rf (some 313), .int x1, .int x2, .int x3, .int A0, .int x5, .int 1, .int x7] [] (K, h.2) := by
            intro fu2
            induction fu2 with
            | zero => intro i x7 K q3 q4 q5; omega
            | succ fu2 ih2 =>
              intro i x7 K q3 q4 q5 h7 nK mK1 mK2 rK bK
              have sgK := nK.sg sg
              refine sX11_nextOf_158 (h := (K, h.2)) 313 x1 x2 x3 _ x5 1 x7 hl (Nat.le_refl _) ⟨sgK.1, fun c1 => ?_, fun c2 => ⟨fun c3 => absurd c3 (by decide), fun c4 => ?_⟩⟩
              · have ei : i = n := by have := sgK.2; omega
                refine ih (a + 1) _ _ _ _ _ K (rmR (trR R a b) a b) (trQ Q a) (by omega) (by omega) (i_1 h3 (by omega)) ⟨nK, ⟨fun x hx y hy => ?_, mK2⟩, fun g => ?_, fun x hx => ?_, fun x h1 h2 => ?_⟩
                · show ibt (K 334 x) y = _
                  rw [mK1 x hx y hy]
                  show _ = (trR R a b x y && !(decide (a < x) && decide (y = b)))
                  rw [show decide (a < x ∧ x < i) = decide (a < x) from decide_eq_decide.mpr ⟨fun z => z.1, fun z => ⟨z, by omega⟩⟩]
                · rw [co_done (by omega) ba, inv g]
                  refine ⟨fun ⟨⟨z1, z2⟩, z3⟩ => ⟨z1, fun x hx => ?_⟩, fun ⟨z1, z2⟩ => ⟨⟨z1, fun x hx => z2 x (by omega)⟩, (z2 a (by omega)).trans fb⟩⟩
                  by_cases y : x = a
                  · rw [y, z3, fb]
                  · exact z2 x (by omega)
                · by_cases y : x = a
                  · rw [y, rK, fb]; exact (if_neg (by omega)).symm
                  · rw [bK x (by omega)]; exact mv x (by omega)
                · rw [trQ_ne (by omega)]; exact qf x (by omega) h2
              · have hi : i < n := by have := sgK.2; omega
                refine ⟨by omega, by show _ < (10 : Int); omega, by omega, by show _ < (10 : Int); omega, fun I15 c5 => ?_⟩
                rw [zix_of h7] at c5
                have c5' : I15 = (zwI (K, h.2) 334 i (K 334 i &&& (((1 : Int32) <<< (x5 &&& 31)) ^^^ (-1)))).1 := c5
                obtain ⟨d1, d2, d3⟩ := zwI_eff c5'
                refine ih2 (i + 1) _ I15 (by omega) (by omega) (by omega) (i_1 h7 (by omega)) (nK.tr ⟨fun c _ w2 _ _ _ _ => d1 c w2, fun c _ => by rw [d1 313 (by decide)]⟩) (fun x hx y hy => ?_) (fun x hx => by rw [d1 313 (by decide)]; exact mK2 x hx) (by rw [d2 a (by omega)]; exact rK) (fun x hx => by rw [d2 x (by omega)]; exact bK x hx)
                by_cases z : x = i
                · subst z
                  rw [d3, ibt_and, bit1_of h5, ibt_not (by omega), ibt_1 (by omega), mK1 x hx y hy]
                  rw [show decide (a < x ∧ x < x) = false from decide_eq_false (fun w => by omega), show decide (a < x ∧ x < x + 1) = true from decide_eq_true ⟨by omega, by omega⟩]
                  rw [Bool.false_and, Bool.true_and, Bool.not_false, Bool.and_true]
                · rw [d2 x z]
                  show ibt (K 334 x) y = _
                  rw [mK1 x hx y hy, show decide (a < x ∧ x < i + 1) = decide (a < x ∧ x < i) from decide_eq_decide.mpr ⟨fun w => ⟨w.1, by omega⟩, fun w => ⟨w.1, by omega⟩⟩]
          refine sX11_nextOf_26 (h := (K, h.2)) 313 x1 x2 x3 A0 x5 1 v7 hl (Nat.le_refl _) ⟨fun c1 => ⟨fun c2 => ⟨fun c3 => ?_, fun c4 => absurd c4 (by decide)⟩, fun c6 => absurd c6 (by decide)⟩, fun c11 => absurd c11 (by decide)⟩
          refine strike (n + 1) (a + 1) _ K (Nat.le_refl _) (by omega) (by omega) (i_1 h3 (by omega)) nK (fun x hx y hy => ?_) mK.2 rK bK
          rw [show decide (a < x ∧ x < a + 1) = false from decide_eq_false (fun w => by omega), Bool.false_and, Bool.not_false, Bool.and_true]
          exact mK.1 x hx y hy
        -- one candidate after another
        have tries : ∀ (fu2 b : Nat) (x5 : Int32) (v7 : Value) (K : Nat → Nat → Int32), b ≤ n → n - b < fu2 → x5.toInt = (b : Int) → NxF h K → (∀ x, x < n → x ≠ a → ∀ y, y < n → ibt (K 334 x) y = R x y) → (∀ x, x < n → x ≠ a → ibt (K 313 49) x = Q x) → (∀ x, x < a → K 334 x = J 334 x) → b ≤ fstN F 10 n a →
            Z l G mX11_nextOf 3 (fun v h2 => ∃ y I1, v = some (.int y) ∧ h2 = (I1, h.2) ∧ (y = ov (fstN F 10 n k) ∧ NxF h I1)) 0 0 26 [va_rf (some 313), .int x1, .int x2, .int x3, .int A0, .int x5, .int 0, v7] [] (K, h.2) := by
          intro fu2
          induction fu2 with
          | zero => intro b x5 v7 K q3 q4; omega
          | succ fu2 ih2 =>
            intro b x5 v7 K q3 q4 h5 nK mK1 mK2 bK hf
            have sgK := nK.sg sg
            refine sX11_nextOf_26 (h := (K, h.2)) 313 x1 x2 x3 A0 x5 0 v7 hl (Nat.le_refl _) ⟨fun c1 => absurd rfl c1, fun c11 => ⟨sgK.1, fun c12 => ⟨fun c13 => absurd rfl c13, fun c17 => ⟨by omega, by show _ < (10 : Int); omega, fun I47 c18 => ⟨fun c19 => absurd rfl c19, fun c20 I54 c21 => ?_⟩⟩⟩, fun c22 => ⟨by omega, by show _ < (10 : Int); omega, fun I58 c23 I61 c24 => ?_⟩⟩⟩
            · -- nobody follows
              have eb : b = n := by have := sgK.2; omega
              have f10 : fstN F 10 n a = 10 := fr.resolve_right (fun z => by omega)
              rw [zix_of h3] at c18
              have c18' : I47 = (zwI (K, h.2) 334 a 0).1 := c18
              obtain ⟨d1, d2, d3⟩ := zwI_eff c18'
              obtain ⟨g1, g2, g3⟩ := zwI_eff c21
              have e47 : zI (I47, h.2) 313 49 = K 313 49 := by show I47 313 49 = _; rw [d1 313 (by decide)]
              have e334 : I54 334 = I47 334 := g1 334 (by decide)
              have nf54 : NxF h I54 := nK.tr ⟨fun c w1 w2 _ _ _ _ => (g1 c w1).trans (d1 c w2), fun c hc => (g2 c hc).trans (congrFun (d1 313 (by decide)) c)⟩
              have sg54 := nf54.sg sg
              have go : NI h F n I54 (a + 1) (ndR R a) Q := by
                refine ⟨nf54, ⟨fun x hx y hy => ?_, fun x hx => ?_⟩, fun g => ?_, fun x hx => ?_, fun x h1 h2 => qf x (by omega) h2⟩
                · show ibt (I54 334 x) y = _
                  rw [e334]
                  by_cases z : x = a
                  · rw [z, d3, ndR_at]; exact ibt_0
                  · rw [d2 x z, ndR_ne z]; exact mK1 x hx z y hy
                · show ibt (I54 313 49) x = _
                  rw [g3, e47, ibt_and, bit1_of h3, ibt_not (by omega), ibt_1 (by omega)]
                  by_cases z : x = a
                  · rw [z, decide_eq_true rfl, Bool.not_true, Bool.and_false]; exact (qf a (Nat.le_refl _) ha).symm
                  · rw [decide_eq_false z, Bool.not_false, Bool.and_true]; exact mK2 x hx z
                · rw [co_end ba (qf a (Nat.le_refl _) ha), inv g]
                  refine ⟨fun ⟨⟨z1, z2⟩, z3⟩ => ⟨z1, fun x hx => ?_⟩, fun ⟨z1, z2⟩ => ⟨⟨z1, fun x hx => z2 x (by omega)⟩, (z2 a (by omega)).trans f10⟩⟩
                  by_cases y : x = a
                  · rw [y, z3, f10]
                  · exact z2 x (by omega)
                · rw [e334]
                  by_cases y : x = a
                  · rw [y, d3, f10]; rfl
                  · rw [d2 x y]
                    show K 334 x = _
                    rw [bK x (by omega)]; exact mv x (by omega)
              have nx7 : ∀ (u4 u5 u6 u7 : Value), Z l G mX11_nextOf 3 (fun v h2 => ∃ y I1, v = some (.int y) ∧ h2 = (I1, h.2) ∧ (y = ov (fstN F 10 n k) ∧ NxF h I1)) 0 0 7 [va_rf (some 313), .int x1, .int x2, .int (x3 + 1), u4, u5, u6, u7] [] (I54, h.2) := fun u4 u5 u6 u7 => ih (a + 1) _ u4 u5 u6 u7 I54 _ _ (by omega) (by omega) (i_1 h3 (by omega)) go
              exact sX11_nextOf_158 (h := (I54, h.2)) 313 x1 x2 x3 _ x5 0 _ hl (Nat.le_refl _) ⟨sg54.1, fun _ => nx7 _ _ _ _, fun _ => ⟨fun _ => nx7 _ _ _ _, fun c4 => absurd rfl c4⟩⟩
            · have hb : b < n := by have := sgK.2; omega
              rw [zix_of h3] at c23
              have c23' : I58 = (zwI (K, h.2) 334 a (A0 &&& ((1 : Int32) <<< (x5 &&& 31)))).1 := c23
              rw [bit1_of h5, and_bit (by omega), hA0 b hb] at c23'
              obtain ⟨d1, d2, d3⟩ := zwI_eff c23'
              obtain ⟨g1, g2, g3⟩ := zwI_eff c24
              have e58 : zI (I58, h.2) 313 49 = K 313 49 := by show I58 313 49 = _; rw [d1 313 (by decide)]
              have e334 : I61 334 = I58 334 := g1 334 (by decide)
              have ea : zI (I61, h.2) (313 + 21) (zix x3) = if R a b = true then bit1 b else 0 := by
                rw [zix_of h3]
                show I61 334 a = _
                rw [e334]; exact d3
              have nf61 : NxF h I61 := nK.tr ⟨fun c w1 w2 _ _ _ _ => (g1 c w1).trans (d1 c w2), fun c hc => (g2 c hc).trans (congrFun (d1 313 (by decide)) c)⟩
              have m1 : ∀ x, x < n → x ≠ a → ∀ y, y < n → ibt (I61 334 x) y = R x y := fun x hx z y hy => by rw [e334, d2 x z]; exact mK1 x hx z y hy
              have m2 : ∀ x, x < n → ibt (I61 313 49) x = trQ Q a x := fun x hx => by
                rw [g3, e58, ibt_or, bit1_of h3, ibt_1 (by omega)]
                by_cases z : x = a
                · rw [z, trQ_at, decide_eq_true rfl, Bool.or_true]
                · rw [decide_eq_false z, Bool.or_false, trQ_ne z]; exact mK2 x hx z
              have b61 : ∀ x, x < a → I61 334 x = J 334 x := fun x hx => by
                rw [e334, d2 x (by omega)]; exact bK x hx
              have tr := try_iff (F := F) (R := R) (Q := Q) (M := 10) hn (by decide) ha hb inv
              have again : ∀ (K' : Nat → Nat → Int32) (v7 : Value), (∀ c, c ≠ 335 → c ≠ 336 → c ≠ 337 → c ≠ 338 → K' c = I61 c) → fstN F 10 n a ≠ b →
                  Z l G mX11_nextOf 3 (fun v h2 => ∃ y I1, v = some (.int y) ∧ h2 = (I1, h.2) ∧ (y = ov (fstN F 10 n k) ∧ NxF h I1)) 0 0 26 [va_rf (some 313), .int x1, .int x2, .int x3, .int A0, .int (x5 + 1), .int 0, v7] [] (K', h.2) := fun K' v7 e ne => by
                have e313 : K' 313 = I61 313 := e 313 (by decide) (by decide) (by decide) (by decide)
                have e34 : K' 334 = I61 334 := e 334 (by decide) (by decide) (by decide) (by decide)
                refine ih2 (b + 1) _ v7 K' (by omega) (by omega) (i_1 h5 (by omega)) (nf61.tr ⟨fun c _ _ w3 w4 w5 w6 => e c w3 w4 w5 w6, fun c _ => by rw [e313]⟩) (fun x hx z y hy => by rw [e34]; exact m1 x hx z y hy) (fun x hx z => by rw [e313, m2 x hx, trQ_ne z]) (fun x hx => by rw [e34]; exact b61 x hx) (by omega)
              refine ⟨by omega, by show _ < (10 : Int); omega, fun c25 => ⟨by omega, by show _ < (10 : Int); omega, fun c26 => ?_, fun c27 => absurd c25 c27⟩, fun c31 => ?_⟩
              · rw [ea] at c25
                refine again I61 v7 (fun _ _ _ _ _ => rfl) (fun z => ?_)
                rw [if_pos (tr.2 z).2] at c25
                exact bit1_ne (by omega) c25
              · have rab : R a b = true := by
                  cases z : R a b with
                  | true => rfl
                  | false => rw [ea, z, if_neg Bool.false_ne_true] at c31; exact absurd rfl c31
                have ea' : I61 334 a = bit1 b := by
                  have := ea
                  rw [zix_of h3, if_pos rab] at this; exact this
                have my61 : MyK (I61, h.2) (trR R a b) (trQ Q a) n := by
                  refine ⟨fun x hx y hy => ?_, m2⟩
                  show ibt (I61 334 x) y = _
                  by_cases z : x = a
                  · rw [z, ea', ibt_1 (by omega), trR_at]
                    by_cases w : y = b
                    · rw [w, rab]; rfl
                    · rw [decide_eq_false w, Bool.and_false]
                  · rw [trR_ne z]; exact m1 x hx z y hy
                refine ⟨_, c_counts (M := 10) l G (I61, h.2) 10 hl (nf61.sg sg) my61 hn rfl (by decide) (by decide), fun I93 ⟨z1, z2⟩ => ?_⟩
                have e93 : zI (I93, h.2) (313 + 21) (zix x3) = zI (I61, h.2) (313 + 21) (zix x3) := by
                  show I93 334 _ = I61 334 _
                  rw [z1 334 (by decide) (by decide) (by decide) (by decide)]
                refine ⟨by omega, by show _ < (10 : Int); omega, fun c33 => absurd (e93.symm.trans c33) c31, fun c34 => ⟨_, c_least (F := trR R a b) (Q := trQ Q a) (M := 10) l G (I93, h.2) hl ((nf61.tr (CnF.nx (h := (I61, h.2)) z1)).sg sg) hn z2, fun y110 I108 ⟨w1, w2⟩ => ?_⟩⟩
                have eI : I108 = I93 := w2
                subst eI
                refine ⟨fun c36 => again I108 v7 (fun c v1 v2 v3 v4 => z1 c v1 v2 v3 v4) (fun z => c36 (i_ext ?_)), fun c37 => ?_⟩
                · rw [w1, (tr.2 z).1, h2]
                · have le := tr.1 (by have : y110.toInt = x2.toInt := by rw [c37]
                                      omega)
                  have fb : fstN F 10 n a = b := by omega
                  refine won b _ hb fb ?_ v7 I108 (nf61.tr (CnF.nx (h := (I61, h.2)) z1)) (CnF.my (h := (I61, h.2)) z1 my61) ?_ (fun x hx => ?_)
                  · rw [Int32.add_zero]; exact h5
                  · rw [z1 334 (by decide) (by decide) (by decide) (by decide)]; exact ea'
                  · rw [z1 334 (by decide) (by decide) (by decide) (by decide)]; exact b61 x hx
        exact tries (n + 1) 0 0 _ J (Nat.zero_le _) (by omega) rfl nf (fun x hx _ y hy => mk.1 x hx y hy) (fun x hx _ => mk.2 x hx) (fun _ _ => rfl) (Nat.zero_le _)
  refine kX11_nextOf 313 x1 (sX11_nextOf_0 313 x1 hl (Nat.le_refl _) ⟨_, c_least (F := F) (Q := noQ) (M := 10) l G h hl sg hn d, fun y6 I4 ⟨z1, z2⟩ => ?_⟩)
  have eI : I4 = h.1 := z2
  subst eI
  exact loop y6 z1 (k + 2) 0 0 _ _ _ _ h.1 F noQ (by omega) (by omega) rfl ⟨NxF.rf h, my, fun g => ⟨fun c => ⟨c, fun x hx => by omega⟩, fun c => c.1⟩, fun x hx => by omega, fun _ _ _ => rfl⟩
end K9A
