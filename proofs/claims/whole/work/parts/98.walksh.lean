set_option maxRecDepth 4000
/-! ===== rows of signs: what the reference counts ===== -/
section K98
variable {F : Nat → Nat → Bool} {Q : Nat → Bool} {M n : Nat}
/-- ends[10 T + x] -/
def EnK (J : Nat → Nat → Int32) (n : Nat) (f : Nat → Nat → Nat) : Prop := ∀ T, T < 2 ^ n → ∀ x, x < n → (J 335 (10 * T + x)).toInt = (f T x : Int)
def MyK (h : zH) (F : Nat → Nat → Bool) (Q : Nat → Bool) (n : Nat) : Prop := (∀ x, x < n → ∀ y, y < n → ibt (zI h 334 x) y = F x y) ∧ ∀ x, x < n → ibt (zI h 313 49) x = Q x
theorem CnF.my {h : zH} {J : Nat → Nat → Int32} (f : CnF h J) (s : MyK h F Q n) : MyK (J, h.2) F Q n := by
  refine ⟨fun x hx y hy => ?_, fun x hx => ?_⟩
  · show ibt (J 334 x) y = _
    rw [f 334 (by decide) (by decide) (by decide) (by decide)]; exact s.1 x hx y hy
  · show ibt (J 313 49) x = _
    rw [f 313 (by decide) (by decide) (by decide) (by decide)]; exact s.2 x hx
def rwN (F : Nat → Nat → Bool) (Q : Nat → Bool) (n s a : Nat) : Nat := ((List.range a).map (fun c => if Q c = true then 0 else hN F n s c)).sum
theorem rwN_s {s a : Nat} : rwN F Q n s (a + 1) = rwN F Q n s a + (if Q a = true then 0 else hN F n s a) := sum_1
theorem rwN_le (hn : n ≤ 10) {s a : Nat} (hs : s < 2 ^ n) (ha : a ≤ n) : rwN F Q n s a ≤ 4000000 := by
  have := sum_b (g := fun c => if Q c = true then 0 else hN F n s c) (X := 362880) (fun c => by
    show (if Q c = true then 0 else hN F n s c) ≤ _
    split
    · omega
    · exact hN_b hn hs) a
  have h2 : a * 362880 ≤ 10 * 362880 := Nat.mul_le_mul_right _ (by omega)
  exact Nat.le_trans this (Nat.le_trans h2 (by decide))
theorem ix_inj {T x S y : Nat} (hx : x < 10) (hy : y < 10) (h : 10 * T + x = 10 * S + y) : T = S ∧ x = y := by omega
theorem c_bits2 {s : Nat} {x : Int32} (hn : n ≤ 10) (hs : s < 2 ^ n) (hx : x.toInt = (s : Int)) : (bitS x).toInt = (pcN n s : Int) := by
  have pn := p2_le hn
  have e : pcN n s = pcN 10 s := by
    unfold pcN cB
    rw [show (10 : Nat) = n + (10 - n) by omega, List.range_add, List.countP_append]
    have z : ((List.range (10 - n)).map (n + ·)).countP (fun a => s.testBit a) = 0 := List.countP_eq_zero.mpr (fun y hy => by
      obtain ⟨k, _, ek⟩ := List.mem_map.mp hy
      intro w
      have := bit_lt hs w
      omega)
    rw [z, Nat.add_zero]
  have t : ∀ s, s < 1024 → (bitS (Int32.ofNat s)).toInt = (pcN 10 s : Int) := by decide +kernel
  rw [e, n_ofn hx]
  exact t s (by omega)
theorem c_counts (l : Launch) (G : zG) (h : zH) (x1 : Int32) (hl : lo11 h 313) (sg : SgN h n) (my : MyK h F Q n) (hn : n ≤ 10) (h1 : x1.toInt = (M : Int)) (hM : 1 ≤ M) (hM2 : M ≤ 10) :
    CTv l G YX11_counts 2 [va_rf (some 313), .int x1] h (fun I => CnF h I ∧ DpK I F Q M n (2 ^ n)) := by
  have pn := p2_le hn
  have p1 : 1 ≤ 2 ^ n := Nat.pow_pos (by decide)
  have ix : ∀ (x3 x4 : Int32) (s a : Nat), s < 2 ^ n → a < n → x3.toInt = (s : Int) → x4.toInt = (a : Int) → ((10 * x3) + x4).toInt = ((10 * s + a : Nat) : Int) := fun x3 x4 s a hs ha q3 q4 => by
    have e1 : ((10 : Int32) * x3).toInt = 10 * (s : Int) := by
      rw [i_mul (by rw [q3]; show _ ≤ (10 : Int) * _; omega) (by rw [q3]; show (10 : Int) * _ < _; omega), q3]; rfl
    rw [i_add (by omega) (by omega), e1, q4]; omega
  -- sets, one after another
  have sets : ∀ (x2 : Int32), x2.toInt = ((2 ^ n : Nat) : Int) → ∀ (fu s : Nat) (x3 : Int32) (u4 u5 u6 : Value) (J : Nat → Nat → Int32), 1 ≤ s → s ≤ 2 ^ n → 2 ^ n - s < fu → x3.toInt = (s : Int) → CnF h J → EnK J n (val F n s 0 0) → (∀ T, 1 ≤ T → T < s → (J 336 T).toInt = ((rwsL F Q M n T).length : Int)) →
      Z l G mX11_counts 2 (fun v h2 => ∃ I1, v = none ∧ h2 = (I1, h.2) ∧ (CnF h I1 ∧ DpK I1 F Q M n (2 ^ n))) 0 0 61 [va_rf (some 313), .int x1, .int x2, .int x3, u4, u5, u6] [] (J, h.2) := by
    intro x2 h2 fu
    induction fu with
    | zero => intro s x3 u4 u5 u6 J q0 q1 q2; omega
    | succ fu ih =>
      intro s x3 u4 u5 u6 J q0 q1 q2 h3 cf en rw_
      refine sX11_counts_61 (h := (J, h.2)) 313 x1 x2 x3 u4 u5 u6 hl (Nat.le_refl _) ⟨fun c1 I6 c2 I10 c3 => ?_, fun c4 => ⟨by omega, by show _ < (1024 : Int); omega, fun I14 c5 => ?_⟩⟩
      · have es : s = 2 ^ n := by omega
        have c2' : I6 = (zwI (J, h.2) 337 0 0).1 := c2
        have c3' : I10 = (zwI (I6, h.2) 338 0 1).1 := c3
        obtain ⟨a1, a2, a3⟩ := zwI_eff c2'
        obtain ⟨b1, b2, b3⟩ := zwI_eff c3'
        refine c_counts2 (F := F) (Q := Q) (M := M) l G h x1 x2 hl hn hM h2 (2 ^ n + 1) 1 1 u4 u5 u6 I10 (Nat.le_refl _) p1 (by omega) rfl (fun b w1 w2 w3 w4 => (b1 b w4).trans ((a1 b w3).trans (cf b w1 w2 w3 w4))) (fun T hT => ?_) (fun T t1 t2 => ?_)
        · have e0 : T = 0 := by omega
          subst e0
          rw [vS_0]
          refine ⟨?_, b3⟩
          rw [b1 337 (by decide)]
          show (I6 337 0).toInt = _
          rw [a3]; rfl
        · rw [b1 336 (by decide)]
          show (I6 336 T).toInt = _
          rw [a1 336 (by decide)]; exact rw_ T t1 (by omega)
      · have hs : s < 2 ^ n := by omega
        rw [zix_of h3] at c5
        have c5' : I14 = (zwI (J, h.2) 336 s 0).1 := c5
        obtain ⟨a1, a2, a3⟩ := zwI_eff c5'
        -- the ends of this set, one after another
        have ends : ∀ (fu2 a : Nat) (x4 : Int32) (v5 v6 : Value) (K : Nat → Nat → Int32), a ≤ n → n - a < fu2 → x4.toInt = (a : Int) → CnF h K → EnK K n (val F n s a 0) → (∀ T, 1 ≤ T → T < s → (K 336 T).toInt = ((rwsL F Q M n T).length : Int)) → (K 336 s).toInt = (rwN F Q n s a : Int) →
            Z l G mX11_counts 2 (fun v h2 => ∃ I1, v = none ∧ h2 = (I1, h.2) ∧ (CnF h I1 ∧ DpK I1 F Q M n (2 ^ n))) 0 0 76 [va_rf (some 313), .int x1, .int x2, .int x3, .int x4, v5, v6] [] (K, h.2) := by
          intro fu2
          induction fu2 with
          | zero => intro a x4 v5 v6 K q3 q4; omega
          | succ fu2 ih2 =>
            intro a x4 v5 v6 K q3 q4 h4 cK eK rK kK
            have sgK : SgN (K, h.2) n := cK.sg sg
            have myK : MyK (K, h.2) F Q n := cK.my my
            refine sX11_counts_76 (h := (K, h.2)) 313 x1 x2 x3 x4 v5 v6 hl (Nat.le_refl _) ⟨sgK.1, fun c1 => ⟨_, c_bits l G (K, h.2) x3, fun y14 I12 ⟨z1, z2⟩ => ?_⟩, fun c6 => ?_⟩
            · have ea : a = n := by have := sgK.2; omega
              subst ea
              have eI : I12 = K := z2
              subst eI
              have bt := c_bits2 hn hs h3
              rw [← z1] at bt
              have rl : (rwsL F Q M a s).length = if pcN a s ≤ M then rwN F Q a s a else 0 := rwsL_len hs
              have en' : EnK I12 a (val F a (s + 1) 0 0) := fun T hT x hx => by rw [← val_set (F := F) (n := a) (s := s)]; exact eK T hT x hx
              refine ⟨fun c3 => ?_, fun c4 => ⟨by omega, by show _ < (1024 : Int); omega, fun I23 c5 => ?_⟩⟩
              · refine ih (s + 1) _ _ _ _ I12 (by omega) (by omega) (by omega) (i_1 h3 (by omega)) cK en' (fun T t1 t2 => ?_)
                by_cases z : T = s
                · rw [z, rl, if_pos (by omega)]; exact kK
                · exact rK T t1 (by omega)
              · rw [zix_of h3] at c5
                have c5' : I23 = (zwI (I12, h.2) 336 s 0).1 := c5
                obtain ⟨d1, d2, d3⟩ := zwI_eff c5'
                refine ih (s + 1) _ _ _ _ I23 (by omega) (by omega) (by omega) (i_1 h3 (by omega)) (fun b w1 w2 w3 w4 => (d1 b w2).trans (cK b w1 w2 w3 w4)) (fun T hT x hx => by rw [d1 335 (by decide)]; exact en' T hT x hx) (fun T t1 t2 => ?_)
                by_cases z : T = s
                · rw [z, rl, if_neg (by omega), d3]; rfl
                · rw [d2 T z]; exact rK T t1 (by omega)
            · have ha : a < n := by have := sgK.2; omega
              have hi := ix x3 x4 s a hs ha h3 h4
              have zi := zix_of hi
              have zs := zix_of h3
              have za := zix_of h4
              have vend : (K 335 (10 * s + a)).toInt = (hN F n s a : Int) := by rw [eK s hs a ha, val_at]
              have hb := hN_b (F := F) (a := a) hn hs
              have rb := rwN_le (F := F) (Q := Q) hn hs (show a ≤ n by omega)
              have bq := (ibt_bit (x := zI (K, h.2) 313 49) (k := a) (by omega))
              rw [← n_ofn h4] at bq
              have qa := myK.2 a ha
              -- what follows a row that ends in a
              have fol : ∀ (K1 : Nat → Nat → Int32) (x5 : Int32), x5.toInt = (hN F n s a : Int) → CnF h K1 → EnK K1 n (val F n s a 0) → (∀ T, 1 ≤ T → T < s → (K1 336 T).toInt = ((rwsL F Q M n T).length : Int)) → (K1 336 s).toInt = (rwN F Q n s (a + 1) : Int) →
                  ∀ (fu3 b : Nat) (x6 : Int32) (K2 : Nat → Nat → Int32), b ≤ n → n - b < fu3 → x6.toInt = (b : Int) → (∀ c, c ≠ 335 → K2 c = K1 c) → EnK K2 n (val F n s a b) →
                  Z l G mX11_counts 2 (fun v h2 => ∃ I1, v = none ∧ h2 = (I1, h.2) ∧ (CnF h I1 ∧ DpK I1 F Q M n (2 ^ n))) 0 0 129 [va_rf (some 313), .int x1, .int x2, .int x3, .int x4, .int x5, .int x6] [] (K2, h.2) := by
                intro K1 x5 h5 c1' e1 r1 k1 fu3
                induction fu3 with
                | zero => intro b x6 K2 q5 q6; omega
                | succ fu3 ih3 =>
                  intro b x6 K2 q5 q6 h6 o2 e2
                  have cK2 : CnF h K2 := fun c w1 w2 w3 w4 => (o2 c w1).trans (c1' c w1 w2 w3 w4)
                  have sg2 : SgN (K2, h.2) n := cK2.sg sg
                  have my2 : MyK (K2, h.2) F Q n := cK2.my my
                  have next : EnK K2 n (val F n s (a + 1) 0) → ∀ (v5 v6 : Value), Z l G mX11_counts 2 (fun v h2 => ∃ I1, v = none ∧ h2 = (I1, h.2) ∧ (CnF h I1 ∧ DpK I1 F Q M n (2 ^ n))) 0 0 76 [va_rf (some 313), .int x1, .int x2, .int x3, .int (x4 + 1), v5, v6] [] (K2, h.2) := fun e v5 v6 =>
                    ih2 (a + 1) _ v5 v6 K2 (by omega) (by omega) (i_1 h4 (by omega)) cK2 e (fun T t1 t2 => by rw [o2 336 (by decide)]; exact r1 T t1 t2) (by rw [o2 336 (by decide)]; exact k1)
                  refine sX11_counts_129 (h := (K2, h.2)) 313 x1 x2 x3 x4 x5 x6 hl (Nat.le_refl _) ⟨sg2.1, fun c1 => ?_, fun c2 => ⟨fun c3 => ?_, fun c4 => ⟨by omega, by show _ < (10 : Int); omega, fun c5 => ?_, fun c6 => ⟨fun c7 => ?_, fun c8 => ?_⟩⟩⟩⟩
                  · have eb : b = n := by have := sg2.2; omega
                    subst eb
                    exact next (fun T hT x hx => by rw [← val_a (F := F) (s := s) (a := a) hx]; exact e2 T hT x hx) _ _
                  · have h0 : hN F n s a = 0 := by have : x5.toInt ≤ 0 := c3; omega
                    exact next (fun T hT x hx => by rw [← val_a0 (b := b) h0]; exact e2 T hT x hx) _ _
                  · have hb2 : b < n := by have := sg2.2; omega
                    have b1 := (ibt_bit (x := zI (K2, h.2) (313 + 21) (zix x4)) (k := b) (by omega)).1
                    rw [← n_ofn h6, za] at b1
                    rw [za] at c5
                    have fb : F a b = false := by
                      have := my2.1 a ha b hb2
                      cases z : F a b with
                      | false => rfl
                      | true => exact absurd (b1.mpr (this.trans z)) c5
                    refine ih3 (b + 1) _ K2 (by omega) (by omega) (i_1 h6 (by omega)) o2 (fun T hT x hx => ?_)
                    rw [val_b, if_neg (fun z => by rw [z.2.2.2.2] at fb; cases fb)]; exact e2 T hT x hx
                  · have hb2 : b < n := by have := sg2.2; omega
                    have b2 := (ibt_bit (x := x3) (k := b) (by omega)).2
                    rw [← n_ofn h6, ibt_nat h3] at b2
                    have sb : s.testBit b = true := by
                      cases z : s.testBit b with
                      | true => rfl
                      | false => exact absurd (b2.mpr z) c7
                    refine ih3 (b + 1) _ K2 (by omega) (by omega) (i_1 h6 (by omega)) o2 (fun T hT x hx => ?_)
                    rw [val_b, if_neg (fun z => by rw [z.2.2.1] at sb; cases sb)]; exact e2 T hT x hx
                  · have hb2 : b < n := by have := sg2.2; omega
                    have b1 := (ibt_bit (x := zI (K2, h.2) (313 + 21) (zix x4)) (k := b) (by omega)).1
                    rw [← n_ofn h6, za] at b1
                    rw [za] at c6
                    have fb : F a b = true := (my2.1 a ha b hb2).symm.trans (b1.mp c6)
                    have b2 := (ibt_bit (x := x3) (k := b) (by omega)).2
                    rw [← n_ofn h6, ibt_nat h3] at b2
                    have sb : s.testBit b = false := b2.mp c8
                    have ns : (x3 ||| ((1 : Int32) <<< (x6 &&& 31))).toInt = ((s + 2 ^ b : Nat) : Int) := by
                      rw [bit1_of h6, i_or h3 (bit1_t b (by omega)), or_pow sb]
                    have Tb : (s + 2 ^ b).testBit b = true := by rw [Nat.add_comm, Nat.testBit_two_pow_add_eq, sb]; rfl
                    have Tl : s + 2 ^ b < 2 ^ n := by
                      rw [← or_pow sb]
                      exact Nat.or_lt_two_pow hs (Nat.pow_lt_pow_right (by decide) hb2)
                    have hi2 := ix _ x6 (s + 2 ^ b) b Tl hb2 ns h6
                    refine ⟨by omega, by rw [hi2]; show _ < (10240 : Int); omega, by omega, by rw [hi2]; show _ < (10240 : Int); omega, fun I24 c9 => ?_⟩
                    rw [zix_of hi2] at c9
                    have c9' : I24 = (zwI (K2, h.2) 335 (10 * (s + 2 ^ b) + b) (K2 335 (10 * (s + 2 ^ b) + b) + x5)).1 := c9
                    obtain ⟨d1, d2, d3⟩ := zwI_eff c9'
                    refine ih3 (b + 1) _ I24 (by omega) (by omega) (i_1 h6 (by omega)) (fun c hc => (d1 c hc).trans (o2 c hc)) (fun T hT x hx => ?_)
                    rw [val_b]
                    by_cases z : 10 * T + x = 10 * (s + 2 ^ b) + b
                    · obtain ⟨z1, z2⟩ := ix_inj (by omega) (by omega) z
                      subst z1
                      subst z2
                      have vl := val_le (F := F) (n := n) (s := s) (a := a) (b := x) (T := s + 2 ^ x) (x := x) hn Tl hs (by omega)
                      have ev := e2 _ Tl x hx
                      rw [d3, if_pos ⟨rfl, rfl, sb, by omega, fb⟩, i_add (by omega) (by omega), ev, h5]
                      omega
                    · rw [d2 _ z, if_neg (fun y => z (by rw [y.1, y.2.1]))]; exact e2 T hT x hx
              refine ⟨by omega, by rw [hi]; show _ < (10240 : Int); omega, by omega, by show _ < (1024 : Int); omega, fun c7 => ⟨by omega, by show _ < (1024 : Int); omega, fun I33 c8 => ?_⟩, fun c9 => ⟨by omega, by show _ < (1024 : Int); omega, fun I37 c10 => ?_⟩⟩
              · have q1 : Q a = true := by
                  cases z : Q a with
                  | true => rfl
                  | false => exact absurd (bq.2.mpr (qa.trans z)) c7
                rw [zs] at c8
                rw [zi]
                have c8' : I33 = (zwI (K, h.2) 336 s (K 336 s + 0)).1 := c8
                obtain ⟨d1, d2, d3⟩ := zwI_eff c8'
                have cI : CnF h I33 := fun c w1 w2 w3 w4 => (d1 c w2).trans (cK c w1 w2 w3 w4)
                have eI : EnK I33 n (val F n s a 0) := fun T hT x hx => by rw [d1 335 (by decide)]; exact eK T hT x hx
                refine fol I33 _ vend cI eI (fun T t1 t2 => by rw [d2 T (by omega)]; exact rK T t1 t2) ?_ (n + 1) 0 0 I33 (Nat.zero_le _) (by omega) rfl (fun _ _ => rfl) eI
                rw [d3, rwN_s, if_pos q1, Int32.add_zero]; exact kK
              · have q1 : ¬ Q a = true := fun z => by
                  have := bq.2.mp c9
                  rw [qa, z] at this; cases this
                rw [zs, zi] at c10
                rw [zi]
                have c10' : I37 = (zwI (K, h.2) 336 s (K 336 s + K 335 (10 * s + a))).1 := c10
                obtain ⟨d1, d2, d3⟩ := zwI_eff c10'
                have cI : CnF h I37 := fun c w1 w2 w3 w4 => (d1 c w2).trans (cK c w1 w2 w3 w4)
                have eI : EnK I37 n (val F n s a 0) := fun T hT x hx => by rw [d1 335 (by decide)]; exact eK T hT x hx
                refine fol I37 _ vend cI eI (fun T t1 t2 => by rw [d2 T (by omega)]; exact rK T t1 t2) ?_ (n + 1) 0 0 I37 (Nat.zero_le _) (by omega) rfl (fun _ _ => rfl) eI
                rw [d3, rwN_s, if_neg q1, i_add (by omega) (by omega), kK, vend]
                omega
        refine ends (n + 1) 0 0 _ _ I14 (Nat.zero_le _) (by omega) rfl (fun b w1 w2 w3 w4 => (a1 b w2).trans (cf b w1 w2 w3 w4)) (fun T hT x hx => by rw [a1 335 (by decide)]; exact en T hT x hx) (fun T t1 t2 => by rw [a2 T (by omega)]; exact rw_ T t1 t2) ?_
        rw [a3]; rfl
  -- one sign alone
  have ones : ∀ (x2 : Int32), x2.toInt = ((2 ^ n : Nat) : Int) → ∀ (fu c : Nat) (x3 : Int32) (u4 u5 u6 : Value) (J : Nat → Nat → Int32), c ≤ n → n - c < fu → x3.toInt = (c : Int) → CnF h J → (∀ T x, x < 10 → T < 1024 → J 335 (10 * T + x) = if T = 2 ^ x ∧ x < c then 1 else 0) →
      Z l G mX11_counts 2 (fun v h2 => ∃ I1, v = none ∧ h2 = (I1, h.2) ∧ (CnF h I1 ∧ DpK I1 F Q M n (2 ^ n))) 0 0 31 [va_rf (some 313), .int x1, .int x2, .int x3, u4, u5, u6] [] (J, h.2) := by
    intro x2 h2 fu
    induction fu with
    | zero => intro c x3 u4 u5 u6 J q1 q2; omega
    | succ fu ih =>
      intro c x3 u4 u5 u6 J q1 q2 h3 cf en
      have sgJ : SgN (J, h.2) n := cf.sg sg
      refine sX11_counts_31 (h := (J, h.2)) 313 x1 x2 x3 u4 u5 u6 hl (Nat.le_refl _) ⟨sgJ.1, fun c1 => ?_, fun c2 => ?_⟩
      · have ec : c = n := by have := sgJ.2; omega
        subst ec
        refine sets x2 h2 (2 ^ c + 1) 1 1 u4 u5 u6 J (Nat.le_refl _) p1 (by omega) rfl cf (fun T hT x hx => ?_) (fun T t1 t2 => by omega)
        rw [val_0, en T x (by omega) (by omega)]
        by_cases z : T = 2 ^ x
        · rw [if_pos ⟨z, hx⟩, if_pos z]; rfl
        · rw [if_neg (fun y => z y.1), if_neg z]; rfl
      · have hc : c < n := by have := sgJ.2; omega
        have pc : 2 ^ c < 2 ^ n := Nat.pow_lt_pow_right (by decide) hc
        have b1 : ((1 : Int32) <<< (x3 &&& 31)).toInt = ((2 ^ c : Nat) : Int) := by rw [bit1_of h3]; exact bit1_t c (by omega)
        have hi := ix _ x3 (2 ^ c) c pc hc b1 h3
        refine ⟨by omega, by rw [hi]; show _ < (10240 : Int); omega, fun I10 c3 => ?_⟩
        rw [zix_of hi] at c3
        have c3' : I10 = (zwI (J, h.2) 335 (10 * 2 ^ c + c) 1).1 := c3
        obtain ⟨d1, d2, d3⟩ := zwI_eff c3'
        refine ih (c + 1) _ u4 u5 u6 I10 (by omega) (by omega) (i_1 h3 (by omega)) (fun b w1 w2 w3 w4 => (d1 b w1).trans (cf b w1 w2 w3 w4)) (fun T x hx hT => ?_)
        by_cases z : 10 * T + x = 10 * 2 ^ c + c
        · obtain ⟨z1, z2⟩ := ix_inj hx (by omega) z
          subst z2
          rw [z1, d3, if_pos ⟨rfl, by omega⟩]
        · rw [d2 _ z]
          show J 335 (10 * T + x) = _
          rw [en T x hx hT]
          by_cases y : T = 2 ^ x ∧ x < c
          · rw [if_pos y, if_pos ⟨y.1, by omega⟩]
          · rw [if_neg y, if_neg]
            intro w
            by_cases v : x = c
            · subst v; exact z (by rw [w.1])
            · exact y ⟨w.1, by omega⟩
  -- all empty
  have zeros : ∀ (x2 : Int32), x2.toInt = ((2 ^ n : Nat) : Int) → ∀ (fu c : Nat) (x3 : Int32) (u4 u5 u6 : Value) (J : Nat → Nat → Int32), c ≤ 10240 → 10240 - c < fu → x3.toInt = (c : Int) → CnF h J → (∀ k, k < c → J 335 k = 0) →
      Z l G mX11_counts 2 (fun v h2 => ∃ I1, v = none ∧ h2 = (I1, h.2) ∧ (CnF h I1 ∧ DpK I1 F Q M n (2 ^ n))) 0 0 9 [va_rf (some 313), .int x1, .int x2, .int x3, u4, u5, u6] [] (J, h.2) := by
    intro x2 h2 fu
    induction fu with
    | zero => intro c x3 u4 u5 u6 J q1 q2; omega
    | succ fu ih =>
      intro c x3 u4 u5 u6 J q1 q2 h3 cf en
      refine sX11_counts_9 (h := (J, h.2)) 313 x1 x2 x3 u4 u5 u6 hl (Nat.le_refl _) ⟨fun c1 => ?_, fun c2 => ⟨by omega, c2, fun I6 c3 => ?_⟩⟩
      · have c1' : (10240 : Int) ≤ x3.toInt := c1
        refine ones x2 h2 (n + 1) 0 0 u4 u5 u6 J (Nat.zero_le _) (by omega) rfl cf (fun T x hx hT => ?_)
        rw [en _ (by omega), if_neg (fun z => absurd z.2 (Nat.not_lt_zero x))]
      · have c2' : x3.toInt < (10240 : Int) := c2
        rw [zix_of h3] at c3
        have c3' : I6 = (zwI (J, h.2) 335 c 0).1 := c3
        obtain ⟨d1, d2, d3⟩ := zwI_eff c3'
        refine ih (c + 1) _ u4 u5 u6 I6 (by omega) (by omega) (i_1 h3 (by omega)) (fun b w1 w2 w3 w4 => (d1 b w1).trans (cf b w1 w2 w3 w4)) (fun k hk => ?_)
        by_cases z : k = c
        · rw [z]; exact d3
        · rw [d2 k z]; exact en k (by omega)
  refine kX11_counts 313 x1 (sX11_counts_0 313 x1 hl (Nat.le_refl _) ⟨sg.1, zeros _ ?_ 10241 0 0 zU zU zU h.1 (Nat.zero_le _) (by omega) rfl (fun _ _ _ _ _ => rfl) (fun k hk => by omega)⟩)
  rw [bit1_of sg.2]
  exact bit1_t n (by omega)
end K98
