set_option maxRecDepth 4000
/-! ===== rows of signs: the reference's fewest and ways, set by set ===== -/
section K97
variable {F : Nat → Nat → Bool} {Q : Nat → Bool} {M n : Nat}
def SgN (h : zH) (n : Nat) : Prop := zrok h 313 ∧ (zsigns h 313).toInt = (n : Int)
theorem SgN.cg {h : zH} {J : Nat → Nat → Int32} (s : SgN h n) (e : J 313 43 = h.1 313 43) (e2 : J 314 = h.1 314) : SgN (J, h.2) n := by
  unfold SgN zrok zsigns at s ⊢
  have e3 : zI (J, h.2) 313 43 = zI h 313 43 := e
  have e4 : ∀ k, zI (J, h.2) (313 + 1) k = zI h (313 + 1) k := fun k => congrFun e2 k
  rw [e3, e4]; exact s
def CnF (h : zH) (J : Nat → Nat → Int32) : Prop := ∀ b, b ≠ 335 → b ≠ 336 → b ≠ 337 → b ≠ 338 → J b = h.1 b
theorem CnF.sg {h : zH} {J : Nat → Nat → Int32} (f : CnF h J) (s : SgN h n) : SgN (J, h.2) n := s.cg (by rw [f 313 (by decide) (by decide) (by decide) (by decide)]) (f 314 (by decide) (by decide) (by decide) (by decide))
def DpK (J : Nat → Nat → Int32) (F : Nat → Nat → Bool) (Q : Nat → Bool) (M n s : Nat) : Prop := ∀ T, T < s → (J 337 T).toInt = (mnL (vS F Q M n T) : Int) ∧ J 338 T = Int32.ofNat (wcL (vS F Q M n T))
def RwK (J : Nat → Nat → Int32) (F : Nat → Nat → Bool) (Q : Nat → Bool) (M n : Nat) : Prop := ∀ T, 1 ≤ T → T < 2 ^ n → (J 336 T).toInt = ((rwsL F Q M n T).length : Int)
theorem p2_le (hn : n ≤ 10) : 2 ^ n ≤ 1024 := Nat.pow_le_pow_right (n := 2) (by decide) hn
theorem zwI1 {h : zH} {a j b k : Nat} {v : Int32} : (zwI h a j v).1 b k = if b = a ∧ k = j then v else h.1 b k := rfl
/-- one part of a set is done -/
theorem dp_part {S p : Nat} (hn : n ≤ 10) {J K : Nat → Nat → Int32} {v w : Int32} {A : List Nat} (hv : v.toInt = (mnL (A ++ blk F Q M n S p) : Int)) (hw : w = Int32.ofNat (wcL (A ++ blk F Q M n S p))) (e7 : K 337 = fun k => if k = S then v else J 337 k) (e8 : K 338 = fun k => if k = S then w else J 338 k) (ho : ∀ b, b ≠ 337 → b ≠ 338 → K b = J b) (d : DpK J F Q M n S) (r : RwK J F Q M n) : DpK K F Q M n S ∧ RwK K F Q M n ∧ (K 337 S).toInt = (mnL (A ++ blk F Q M n S p) : Int) ∧ K 338 S = Int32.ofNat (wcL (A ++ blk F Q M n S p)) := by
  refine ⟨fun T hT => ?_, fun T h1 h2 => ?_, ?_, ?_⟩
  · rw [e7, e8]
    show (if T = S then v else J 337 T).toInt = _ ∧ (if T = S then w else J 338 T) = _
    rw [if_neg (by omega), if_neg (by omega)]; exact d T hT
  · rw [ho 336 (by decide) (by decide)]; exact r T h1 h2
  · rw [e7]
    show (if S = S then v else J 337 S).toInt = _
    rw [if_pos rfl]; exact hv
  · rw [e8]
    show (if S = S then w else J 338 S) = _
    rw [if_pos rfl]; exact hw
theorem c_counts2 (l : Launch) (G : zG) (h : zH) (x1 x2 : Int32) (hl : lo11 h 313) (hn : n ≤ 10) (hM : 1 ≤ M) (h2 : x2.toInt = ((2 ^ n : Nat) : Int)) : ∀ (fu s : Nat) (x3 : Int32) (u4 u5 u6 : Value) (J : Nat → Nat → Int32), 1 ≤ s → s ≤ 2 ^ n → 2 ^ n - s < fu → x3.toInt = (s : Int) → CnF h J → DpK J F Q M n s → RwK J F Q M n →
    Z l G mX11_counts 2 (fun v h2 => ∃ I1, v = none ∧ h2 = (I1, h.2) ∧ (CnF h I1 ∧ DpK I1 F Q M n (2 ^ n))) 0 0 239 [va_rf (some 313), .int x1, .int x2, .int x3, u4, u5, u6] [] (J, h.2) := by
  have pn := p2_le hn
  intro fu
  induction fu with
  | zero => intro s x3 u4 u5 u6 J q0 q1 q2; omega
  | succ fu ih =>
    intro s x3 u4 u5 u6 J q0 q1 q2 h3 cf dk rk
    refine sX11_counts_239 (h := (J, h.2)) 313 x1 x2 x3 u4 u5 u6 hl (Nat.le_refl _) ⟨fun c1 => ?_, fun c2 => ⟨by omega, by show _ < (1024 : Int); omega, fun I6 c3 => ⟨by omega, by show _ < (1024 : Int); omega, fun I10 c4 => ?_⟩⟩⟩
    · have es : s = 2 ^ n := by omega
      subst es
      exact ⟨J, rfl, rfl, cf, dk⟩
    · have hs : s < 2 ^ n := by omega
      rw [zix_of h3] at c3 c4
      obtain ⟨a1, a2, a3⟩ := zwI_eff c3
      obtain ⟨b1, b2, b3⟩ := zwI_eff c4
      have e7 : I10 337 s = 1000000 := by rw [b1 337 (by decide)]; exact a3
      have e7o : ∀ T, T ≠ s → I10 337 T = J 337 T := fun T hT => by rw [b1 337 (by decide)]; exact a2 T hT
      have e8o : ∀ T, T ≠ s → I10 338 T = J 338 T := fun T hT => by rw [b2 T hT]; show I6 338 T = _; rw [a1 338 (by decide)]
      have eo : ∀ b, b ≠ 337 → b ≠ 338 → I10 b = J b := fun b z1 z2 => (b1 b z2).trans (a1 b z1)
      -- the lowest sign of the set
      have ex4 : x3 &&& -x3 = bit1 (lwB s) := by
        have := (low_t s (by omega)).resolve_left (by omega)
        rw [← n_ofn h3] at this; exact this
      have lb := lwB_bit (show s < 2 ^ 10 by show s < 1024; omega) (show s ≠ 0 by omega)
      have l10 : lwB s < 10 := bit_lt (show s < 2 ^ 10 by show s < 1024; omega) lb
      have inner : ∀ (fu2 p : Nat) (x5 : Int32) (v6 : Value) (K : Nat → Nat → Int32), p ≤ s → p < fu2 → sbm p s → x5.toInt = (p : Int) → CnF h K → DpK K F Q M n s → RwK K F Q M n → (K 337 s).toInt = (mnL (prL (blk F Q M n s) s (s - p)) : Int) → K 338 s = Int32.ofNat (wcL (prL (blk F Q M n s) s (s - p))) →
          Z l G mX11_counts 2 (fun v h2 => ∃ I1, v = none ∧ h2 = (I1, h.2) ∧ (CnF h I1 ∧ DpK I1 F Q M n (2 ^ n))) 0 0 269 [va_rf (some 313), .int x1, .int x2, .int x3, .int (x3 &&& -x3), .int x5, v6] [] (K, h.2) := by
        intro fu2
        induction fu2 with
        | zero => intro p x5 v6 K z1 z2; omega
        | succ fu2 ih2 =>
          intro p x5 v6 K z1 z2 sb h5 cK dK rK k7 k8
          -- on to the next part
          have nxt : 0 < p → ∀ (v6 : Value) (K' : Nat → Nat → Int32), CnF h K' → DpK K' F Q M n s → RwK K' F Q M n → (K' 337 s).toInt = (mnL (prL (blk F Q M n s) s (s - p) ++ blk F Q M n s p) : Int) → K' 338 s = Int32.ofNat (wcL (prL (blk F Q M n s) s (s - p) ++ blk F Q M n s p)) →
              Z l G mX11_counts 2 (fun v h2 => ∃ I1, v = none ∧ h2 = (I1, h.2) ∧ (CnF h I1 ∧ DpK I1 F Q M n (2 ^ n))) 0 0 269 [va_rf (some 313), .int x1, .int x2, .int x3, .int (x3 &&& -x3), .int ((x5 - 1) &&& x3), v6] [] (K', h.2) := fun hp v6 K' a1 a2 a3 a4 a5 => by
            have e1 : (x5 - 1).toInt = ((p - 1 : Nat) : Int) := by
              rw [i_sub (by rw [h5]; show _ ≤ _ - (1 : Int); omega) (by rw [h5]; show _ - (1 : Int) < _; omega), h5]
              show (p : Int) - 1 = _
              omega
            rw [← prL_next hp z1 sb] at a4 a5
            have lt := sub_lt (S := s) hp
            exact ih2 ((p - 1) &&& s) _ v6 K' (by omega) (by omega) sub_sbm (i_and e1 h3) a1 a2 a3 a4 a5
          have p1024 : p < 1024 := by omega
          have zp : zix x5 = p := zix_of h5
          have zs : zix x3 = s := zix_of h3
          have st := dp_step (F := F) (Q := Q) (M := M) (n := n) (S := s) (m := p) hn (A := prL (blk F Q M n s) s (s - p))
          have b0 : (0 : Int) ≤ x5.toInt := by omega
          have b1' : x5.toInt < ((1024 : Nat) : Int) := by show _ < (1024 : Int); omega
          have b2' : (0 : Int) ≤ x3.toInt := by omega
          have b3' : x3.toInt < ((1024 : Nat) : Int) := by show _ < (1024 : Int); omega
          have ed : (x3 - x5).toInt = ((s - p : Nat) : Int) := by rw [i_sub (by omega) (by omega)]; omega
          have b4' : (0 : Int) ≤ (x3 - x5).toInt := by omega
          have b5' : (x3 - x5).toInt < ((1024 : Nat) : Int) := by show _ < (1024 : Int); omega
          have zd : zix (x3 - x5) = s - p := zix_of ed
          rw [show x3 &&& -x3 = bit1 (lwB s) from ex4] at *
          have low : x5 &&& bit1 (lwB s) = 0 ↔ p.testBit (lwB s) = false := by
            have := ibt_nat (b := lwB s) h5
            rw [← this]
            refine ⟨fun z => ?_, fun z => ibt_ext (fun b hb => ?_)⟩
            · have e : ibt (x5 &&& bit1 (lwB s)) (lwB s) = false := by rw [z]; exact ibt_0
              rw [ibt_and, ibt_1 l10, decide_eq_true rfl, Bool.and_true] at e
              exact e
            · rw [ibt_and, ibt_1 l10, ibt_0]
              by_cases y : b = lwB s
              · rw [y, z]; rfl
              · rw [decide_eq_false y, Bool.and_false]
          -- a heap in which what stands of s has changed
          have fin : 0 < p → ∀ (v w : Int32) (v6 : Value) (K' : Nat → Nat → Int32), v.toInt = (mnL (prL (blk F Q M n s) s (s - p) ++ blk F Q M n s p) : Int) → w = Int32.ofNat (wcL (prL (blk F Q M n s) s (s - p) ++ blk F Q M n s p)) → (K' 337 = fun k => if k = s then v else K 337 k) → (K' 338 = fun k => if k = s then w else K 338 k) → (∀ b, b ≠ 337 → b ≠ 338 → K' b = K b) →
              Z l G mX11_counts 2 (fun v h2 => ∃ I1, v = none ∧ h2 = (I1, h.2) ∧ (CnF h I1 ∧ DpK I1 F Q M n (2 ^ n))) 0 0 269 [va_rf (some 313), .int x1, .int x2, .int x3, .int (bit1 (lwB s)), .int ((x5 - 1) &&& x3), v6] [] (K', h.2) := fun hp v w v6 K' y1 y2 y3 y4 y5 => by
            obtain ⟨g1, g2, g3, g4⟩ := dp_part (F := F) (Q := Q) (M := M) hn y1 y2 y3 y4 y5 dK rK
            exact nxt hp v6 K' (fun b w1 w2 w3 w4 => (y5 b w3 w4).trans (cK b w1 w2 w3 w4)) g1 g2 g3 g4
          have same7 : ∀ v, v = K 337 s → K 337 = fun k => if k = s then v else K 337 k := fun v hv => funext fun k => by
            show K 337 k = if k = s then v else K 337 k
            split
            · rename_i e; rw [hv, e]
            · rfl
          have same8 : ∀ v, v = K 338 s → K 338 = fun k => if k = s then v else K 338 k := fun v hv => funext fun k => by
            show K 338 k = if k = s then v else K 338 k
            split
            · rename_i e; rw [hv, e]
            · rfl
          refine sX11_counts_269 (h := (K, h.2)) 313 x1 x2 x3 (bit1 (lwB s)) x5 v6 hl (Nat.le_refl _) ⟨fun c1 => ?_, fun c2 => ?_⟩
          · have p0 : p = 0 := by have : x5.toInt ≤ 0 := c1; omega
            subst p0
            rw [Nat.sub_zero, ← prL_all, ← vS_s hn hM hs (show s ≠ 0 by omega)] at k7 k8
            refine ih (s + 1) _ _ _ _ K (by omega) (by omega) (by omega) (i_1 h3 (by omega)) cK (fun T hT => ?_) rK
            by_cases z : T = s
            · rw [z]; exact ⟨k7, k8⟩
            · exact dK T (by omega)
          · have hp : 0 < p := by have : (0 : Int) < x5.toInt := c2; omega
            have rp := rK p (by omega) (by omega)
            have dp := dK (s - p) (by omega)
            have mb := (mnL_le (l := vS F Q M n (s - p))).1
            have mb2 := (mnL_le (l := prL (blk F Q M n s) s (s - p))).1
            have v3 : zI (K, h.2) (313 + 23) (zix x5) = K 336 p := by rw [zp]; rfl
            have v4 : zI (K, h.2) (313 + 24) (zix x3) = K 337 s := by rw [zs]; rfl
            have v5 : zI (K, h.2) (313 + 24) (zix (x3 - x5)) = K 337 (s - p) := by rw [zd]; rfl
            have vn : (K 337 (s - p) + 1).toInt = ((mnL (vS F Q M n (s - p)) + 1 : Nat) : Int) := i_1 dp.1 (by omega)
            have sub : p &&& s = p := sbm_and.mp sb
            have c10e : (1000000 : Int32).toInt = 1000000 := rfl
            refine ⟨fun c3 => ?_, fun c4 => ⟨b0, b1', fun c5 => ?_, fun c33 => ?_⟩⟩
            · -- the lowest isn't in it
              have nb := low.mp c3
              have nC : ¬ ((p &&& s = p ∧ p.testBit (lwB s) = true) ∧ ¬ (rwsL F Q M n p).length = 0 ∧ mnL (vS F Q M n (s - p)) + 1 < mnL (prL (blk F Q M n s) s (s - p))) := fun z => by rw [z.1.2] at nb; cases nb
              have nD : ¬ ((p &&& s = p ∧ p.testBit (lwB s) = true) ∧ ¬ (rwsL F Q M n p).length = 0 ∧ mnL (vS F Q M n (s - p)) + 1 = mnL (prL (blk F Q M n s) s (s - p) ++ blk F Q M n s p)) := fun z => by rw [z.1.2] at nb; cases nb
              rw [if_neg nC, if_neg nC, if_neg nD] at st
              exact fin hp _ _ _ K (by rw [st.1]; exact k7) (by rw [st.2]; exact k8) (same7 _ rfl) (same8 _ rfl) (fun _ _ _ => rfl)
            · have bl : p.testBit (lwB s) = true := by
                cases z : p.testBit (lwB s) with
                | true => rfl
                | false => exact absurd (low.mpr z) c4
              rw [v3] at c5
              have r0 : ¬ (rwsL F Q M n p).length = 0 := fun z => c5 (n_m0.mpr (by omega))
              -- the new number and the new ways
              have lessN : ∀ z : mnL (vS F Q M n (s - p)) + 1 < mnL (prL (blk F Q M n s) s (s - p)), mnL (prL (blk F Q M n s) s (s - p) ++ blk F Q M n s p) = mnL (vS F Q M n (s - p)) + 1 ∧ wcL (prL (blk F Q M n s) s (s - p) ++ blk F Q M n s p) = 0 + (rwsL F Q M n p).length * wcL (vS F Q M n (s - p)) := fun z => by
                have c : (p &&& s = p ∧ p.testBit (lwB s) = true) ∧ ¬ (rwsL F Q M n p).length = 0 ∧ mnL (vS F Q M n (s - p)) + 1 < mnL (prL (blk F Q M n s) s (s - p)) := ⟨⟨sub, bl⟩, r0, z⟩
                rw [if_pos c, if_pos c] at st
                refine ⟨st.1, ?_⟩
                rw [st.2, if_pos ⟨⟨sub, bl⟩, r0, st.1.symm⟩]
              have notN : ∀ z : ¬ mnL (vS F Q M n (s - p)) + 1 < mnL (prL (blk F Q M n s) s (s - p)), mnL (prL (blk F Q M n s) s (s - p) ++ blk F Q M n s p) = mnL (prL (blk F Q M n s) s (s - p)) ∧ wcL (prL (blk F Q M n s) s (s - p) ++ blk F Q M n s p) = wcL (prL (blk F Q M n s) s (s - p)) + (if mnL (vS F Q M n (s - p)) + 1 = mnL (prL (blk F Q M n s) s (s - p)) then (rwsL F Q M n p).length * wcL (vS F Q M n (s - p)) else 0) := fun z => by
                have c : ¬ ((p &&& s = p ∧ p.testBit (lwB s) = true) ∧ ¬ (rwsL F Q M n p).length = 0 ∧ mnL (vS F Q M n (s - p)) + 1 < mnL (prL (blk F Q M n s) s (s - p))) := fun w => z w.2.2
                rw [if_neg c, if_neg c] at st
                refine ⟨st.1, ?_⟩
                rw [st.2]
                congr 1
                by_cases y : mnL (vS F Q M n (s - p)) + 1 = mnL (prL (blk F Q M n s) s (s - p))
                · rw [if_pos ⟨⟨sub, bl⟩, r0, y.trans st.1.symm⟩, if_pos y]
                · rw [if_neg (fun w => y (w.2.2.trans st.1)), if_neg y]
              have rn : K 336 p = Int32.ofNat (rwsL F Q M n p).length := n_ofn rp
              rw [v4, v5]
              refine ⟨b4', b5', b2', b3', fun c6 => ⟨b2', b3', fun c7 => ⟨b2', b3', b2', b3', fun I27 c8 => ⟨b2', b3', b2', b3', fun c9 => ⟨b2', b3', fun I37 c10 => ?_⟩, fun c11 => ⟨b0, b1', b4', b5', b2', b3', fun I43 c12 => ?_⟩⟩⟩, fun c13 => absurd c13 (by omega)⟩, fun c19 => ⟨b2', b3', fun I67 c20 => ?_⟩⟩
              · have z : ¬ mnL (vS F Q M n (s - p)) + 1 < mnL (prL (blk F Q M n s) s (s - p)) := by omega
                obtain ⟨n1, n2⟩ := notN z
                rw [zs] at c8 c9 c10
                have c8' : I27 = (zwI (K, h.2) 337 s (K 337 s)).1 := c8
                obtain ⟨d1, d2, d3⟩ := zwI_eff c8'
                have e9 : zI (I27, h.2) (313 + 24) s = K 337 s := d3
                rw [e9] at c9
                have ne : ¬ mnL (vS F Q M n (s - p)) + 1 = mnL (prL (blk F Q M n s) s (s - p)) := fun y => c9 (i_ext (by omega))
                rw [if_neg ne, Nat.add_zero] at n2
                have c10' : I37 = (zwI (I27, h.2) 338 s (I27 338 s + 0)).1 := c10
                obtain ⟨g1, g2, g3⟩ := zwI_eff c10'
                have k337 : I37 337 = fun k => if k = s then K 337 s else K 337 k := by
                  rw [g1 337 (by decide)]
                  funext k
                  by_cases e : k = s
                  · rw [if_pos e, e]; exact d3
                  · rw [if_neg e]; exact d2 k e
                have k338 : I37 338 = fun k => if k = s then K 338 s else K 338 k := by
                  funext k
                  by_cases e : k = s
                  · rw [if_pos e, e, g3, d1 338 (by decide), Int32.add_zero]
                  · rw [if_neg e, g2 k e]
                    show I27 338 k = _
                    rw [d1 338 (by decide)]
                exact fin hp _ _ _ I37 (by rw [n1]; exact k7) (by rw [n2]; exact k8) k337 k338 (fun b w1 w2 => (g1 b w2).trans (d1 b w1))
              · have z : ¬ mnL (vS F Q M n (s - p)) + 1 < mnL (prL (blk F Q M n s) s (s - p)) := by omega
                obtain ⟨n1, n2⟩ := notN z
                rw [zs, zp, zd] at c12
                rw [zs] at c8 c11
                have c8' : I27 = (zwI (K, h.2) 337 s (K 337 s)).1 := c8
                obtain ⟨d1, d2, d3⟩ := zwI_eff c8'
                have e9 : zI (I27, h.2) (313 + 24) s = K 337 s := d3
                rw [e9] at c11
                have ye : mnL (vS F Q M n (s - p)) + 1 = mnL (prL (blk F Q M n s) s (s - p)) := by
                  have : (K 337 (s - p) + 1).toInt = (K 337 s).toInt := by rw [c11]
                  omega
                rw [if_pos ye] at n2
                have c12' : I43 = (zwI (I27, h.2) 338 s (I27 338 s + I27 336 p * I27 338 (s - p))).1 := c12
                obtain ⟨g1, g2, g3⟩ := zwI_eff c12'
                have k337 : I43 337 = fun k => if k = s then K 337 s else K 337 k := by
                  rw [g1 337 (by decide)]
                  funext k
                  by_cases e : k = s
                  · rw [if_pos e, e]; exact d3
                  · rw [if_neg e]; exact d2 k e
                have wv : K 338 s + K 336 p * K 338 (s - p) = Int32.ofNat (wcL (prL (blk F Q M n s) s (s - p) ++ blk F Q M n s p)) := by
                  rw [n2, Int32.ofNat_add, Int32.ofNat_mul, ← k8, ← rn, ← dp.2]
                have k338 : I43 338 = fun k => if k = s then K 338 s + K 336 p * K 338 (s - p) else K 338 k := by
                  funext k
                  by_cases e : k = s
                  · rw [if_pos e, e, g3, d1 338 (by decide), d1 336 (by decide)]
                  · rw [if_neg e, g2 k e]
                    show I27 338 k = _
                    rw [d1 338 (by decide)]
                exact fin hp _ _ _ I43 (by rw [n1]; exact k7) wv k337 k338 (fun b w1 w2 => (g1 b w2).trans (d1 b w1))
              · have z : mnL (vS F Q M n (s - p)) + 1 < mnL (prL (blk F Q M n s) s (s - p)) := by omega
                obtain ⟨n1, n2⟩ := lessN z
                rw [Nat.zero_add] at n2
                rw [zs] at c20
                have c20' : I67 = (zwI (K, h.2) 338 s 0).1 := c20
                obtain ⟨d1, d2, d3⟩ := zwI_eff c20'
                have e67 : zI (I67, h.2) (313 + 24) (zix x3) = K 337 s := by
                  rw [zs]
                  show I67 337 s = _
                  rw [d1 337 (by decide)]
                refine ⟨b2', b3', fun c21 => absurd c21 (by rw [e67]; omega), fun c27 => ⟨b2', b3', fun I97 c28 => ⟨b2', b3', b2', b3', fun c29 => absurd ?_ c29, fun c31 => ⟨b0, b1', b4', b5', b2', b3', fun I113 c32 => ?_⟩⟩⟩⟩
                · rw [zs] at c28 ⊢
                  have c28' : I97 = (zwI (I67, h.2) 337 s (K 337 (s - p) + 1)).1 := c28
                  exact (zwI_eff c28').2.2.symm
                · rw [zs, zp, zd] at c32
                  rw [zs] at c28
                  have c28' : I97 = (zwI (I67, h.2) 337 s (K 337 (s - p) + 1)).1 := c28
                  obtain ⟨o1, o2, o3⟩ := zwI_eff c28'
                  have c32' : I113 = (zwI (I97, h.2) 338 s (I97 338 s + I97 336 p * I97 338 (s - p))).1 := c32
                  obtain ⟨g1, g2, g3⟩ := zwI_eff c32'
                  have k337 : I113 337 = fun k => if k = s then K 337 (s - p) + 1 else K 337 k := by
                    rw [g1 337 (by decide)]
                    funext k
                    by_cases e : k = s
                    · rw [if_pos e, e]; exact o3
                    · rw [if_neg e]
                      show I97 337 k = _
                      rw [o2 k e]
                      show I67 337 k = _
                      rw [d1 337 (by decide)]
                  have wv : 0 + K 336 p * K 338 (s - p) = Int32.ofNat (wcL (prL (blk F Q M n s) s (s - p) ++ blk F Q M n s p)) := by
                    rw [n2, Int32.ofNat_mul, ← rn, ← dp.2, Int32.zero_add]
                  have k338 : I113 338 = fun k => if k = s then 0 + K 336 p * K 338 (s - p) else K 338 k := by
                    funext k
                    by_cases e : k = s
                    · rw [if_pos e, e, g3, o1 338 (by decide), o1 336 (by decide)]
                      show I67 338 s + I67 336 p * I67 338 (s - p) = _
                      rw [d3, d1 336 (by decide), d2 (s - p) (by omega)]
                    · rw [if_neg e, g2 k e]
                      show I97 338 k = _
                      rw [o1 338 (by decide)]
                      show I67 338 k = _
                      exact d2 k e
                  exact fin hp _ _ _ I113 (by rw [n1]; exact vn) wv k337 k338 (fun b w1 w2 => (g1 b w2).trans ((o1 b w1).trans (d1 b w2)))
            · -- no row of it
              rw [v3] at c33
              have r0 : (rwsL F Q M n p).length = 0 := by have := n_m0.mp c33; omega
              have nC : ¬ ((p &&& s = p ∧ p.testBit (lwB s) = true) ∧ ¬ (rwsL F Q M n p).length = 0 ∧ mnL (vS F Q M n (s - p)) + 1 < mnL (prL (blk F Q M n s) s (s - p))) := fun z => z.2.1 r0
              have nD : ¬ ((p &&& s = p ∧ p.testBit (lwB s) = true) ∧ ¬ (rwsL F Q M n p).length = 0 ∧ mnL (vS F Q M n (s - p)) + 1 = mnL (prL (blk F Q M n s) s (s - p) ++ blk F Q M n s p)) := fun z => z.2.1 r0
              rw [if_neg nC, if_neg nC, if_neg nD] at st
              exact fin hp _ _ _ K (by rw [st.1]; exact k7) (by rw [st.2]; exact k8) (same7 _ rfl) (same8 _ rfl) (fun _ _ _ => rfl)
      refine inner (s + 1) s x3 _ I10 (Nat.le_refl _) (by omega) (fun _ z => z) h3 (fun b w1 w2 w3 w4 => (eo b w3 w4).trans (cf b w1 w2 w3 w4)) (fun T hT => ?_) (fun T t1 t2 => ?_) ?_ ?_
      · rw [e7o T (by omega), e8o T (by omega)]; exact dk T hT
      · rw [eo 336 (by decide) (by decide)]; exact rk T t1 t2
      · rw [e7, Nat.sub_self]; rfl
      · rw [b3, Nat.sub_self]; rfl
end K97
