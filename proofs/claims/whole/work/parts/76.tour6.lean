set_option maxRecDepth 4000
/-! ===== the class's tour: going on, and the beginning ===== -/
section K76
variable {V : Nat → Int} {q : Nat}
theorem CS.neg {h : zH} {E : Nat} {S : US} (c : CS h E S) (e : zI h 136 0 = -1) : S.1 = 1000000 := by
  rcases c with ⟨c1, c2⟩ | ⟨c1, c2, c3, c4⟩
  · exact c1
  · rw [e] at c3
    have : (-1 : Int) = S.1 := c3
    omega
theorem CS.pos {h : zH} {E : Nat} {S : US} (c : CS h E S) (e : ¬ zI h 136 0 = -1) : (zI h 136 0).toInt = S.1 ∧ S.1 < 1000000 := by
  rcases c with ⟨c1, c2⟩ | ⟨c1, c2, c3, c4⟩
  · exact absurd c2 e
  · exact ⟨c3, c1⟩
theorem CS.le {h : zH} {E : Nat} {S : US} (c : CS h E S) : S.1 ≤ 1000000 := by
  rcases c with ⟨c1, c2⟩ | ⟨c1, c2, c3, c4⟩
  · omega
  · omega
def FX (V : Nat → Int) (r : Nat) (dn : Nat → Bool) (T : Nat → Int) (m w : Nat) (o : Nat → Nat) (d : Nat) : Nat → US → US := fun e S => if dn e = true ∨ ¬ (lgV V e T).1 < 1000000 then S else tw (lgV V) (afV V) (eV V) r (fun x => decide (x = e) || dn x) (afV V e T) ((m : Int) + (lgV V e T).1) (w + (lgV V e T).2) (updN o d e) (d + 1) S
theorem c_extend (l : Launch) (G : zG) (w9 : WFN V) (hq : q + 18 ≤ 136) : ∀ (r d m w : Nat) (dn : Nat → Bool) (T : Nat → Int) (o : Nat → Nat) (S : US) (h : zH) (x1 x2 x3 : Int32), d + r = eV V → cnt dn (eV V) = r → x1.toInt = (d : Int) → x2.toInt = (m : Int) → x3.toInt = (w : Int) → m ≤ 100 * d → w ≤ 40 * d → ExP h q d V dn T o S →
    CTvG l G YX7_extend (r + 7) [va_rf (some 136), .int x1, .int x2, .int x3] h (fun g => ExQ h g d V (tw (lgV V) (afV V) (eV V) r dn T (m : Int) w o d S)) := by
  intro r
  induction r with
  | zero =>
    intro d m w dn T o S h x1 x2 x3 hd hc h1 h2 h3 hm hw p
    have ev := eV_ok w9
    obtain ⟨⟨l7, r3, l1, no⟩, pT, po, pB, pC⟩ := id p
    have hE : (zI h q 4).toInt = V 4 := no.1 4 (by decide)
    have cut : S.1 ≤ (m : Int) → ExQ h h d V (tw (lgV V) (afV V) (eV V) 0 dn T (m : Int) w o d S) := fun z => by
      rw [tw_cut (fun e T => (lgV_rng w9 e T).1) 0 dn T m w o d S z]; exact ExQ.rf pC
    have e0 : (m : Int) < S.1 → tw (lgV V) (afV V) (eV V) 0 dn T (m : Int) w o d S = ((m : Int), w, o) := fun z => if_pos z
    have leaf : (m : Int) < S.1 → ∀ J1, J1 = (zwI h 136 0 x2).1 → ∀ J2, J2 = (zwI (J1, h.2) 136 1 x3).1 → ∃ P, CTv l G YX10_copy 2 [va_rf (some (136 + 2)), va_rf (some (136 + 1))] (J2, h.2) P ∧ ∀ I, P I → (none : Option Value) = none ∧ ExQ h (I, h.2) d V (tw (lgV V) (afV V) (eV V) 0 dn T (m : Int) w o d S) := fun z J1 e1 J2 e2 => by
      obtain ⟨P, z1, z2⟩ := ex_leaf l G h d m w dn T o S x2 x3 J1 J2 p w9 (by omega) h2 h3 z (by omega) e1 e2
      rw [e0 z]
      exact ⟨P, z1, fun I y => ⟨rfl, z2 I y⟩⟩
    refine kX7_extend 136 x1 x2 x3 (sX7_extend_0 136 x1 x2 x3 l7 (by omega) ⟨fun c1 => ⟨q, r3, l1, fun c2 I13 c3 I16 c4 => leaf (by rw [pC.neg c1]; omega) I13 c3 I16 c4, fun c6 => absurd c6 (by omega)⟩, fun c12 => ⟨fun c13 => ⟨q, r3, l1, fun c14 I59 c15 I62 c16 => leaf (by have := (pC.pos c12).1; omega) I59 c15 I62 c16, fun c18 => absurd c18 (by omega)⟩, fun c24 => ⟨rfl, cut (by have := (pC.pos c12).1; omega)⟩⟩⟩)
  | succ r ih =>
    intro d m w dn T o S h x1 x2 x3 hd hc h1 h2 h3 hm hw p
    have ev := eV_ok w9
    obtain ⟨⟨l7, r3, l1, no⟩, pT, po, pB, pC⟩ := id p
    have hE : (zI h q 4).toInt = V 4 := no.1 4 (by decide)
    have cut : S.1 ≤ (m : Int) → ExQ h h d V (tw (lgV V) (afV V) (eV V) (r + 1) dn T (m : Int) w o d S) := fun z => by
      rw [tw_cut (fun e T => (lgV_rng w9 e T).1) (r + 1) dn T m w o d S z]; exact ExQ.rf pC
    have eT : tw (lgV V) (afV V) (eV V) (r + 1) dn T (m : Int) w o d S = lpS (FX V r dn T m w o d) (eV V) S := rfl
    rw [eT] at cut ⊢
    have loop : ∀ (fu e : Nat) (x4 : Int32) (u5 : Value) (g : zH), e ≤ eV V → eV V - e < fu → x4.toInt = (e : Int) → ExQ h g d V (lpS (FX V r dn T m w o d) e S) →
        Z l G mX7_extend (r + 1 + 7) (fun v g => v = none ∧ ExQ h g d V (lpS (FX V r dn T m w o d) (eV V) S)) 0 0 58 [va_rf (some 136), .int x1, .int x2, .int x3, .int x4, u5] [] g := by
      intro fu
      induction fu with
      | zero => intro e x4 u5 g q1 q2; omega
      | succ fu ih2 =>
        intro e x4 u5 g q1 q2 h4 Q
        obtain ⟨f1, g4, gg, gO, gC⟩ := id Q
        have Eg : E7 g q V := p.1.fr hq w9 f1
        obtain ⟨l7g, r3g, l1g, nog⟩ := id Eg
        have hEg : (zI g q 4).toInt = V 4 := nog.1 4 (by decide)
        have Bg : BD (zI g 136 4) dn := by rw [g4]; exact pB
        refine sX7_extend_58 (h := g) 136 x1 x2 x3 x4 u5 l7g (by omega) ⟨q, r3g, l1g, fun c1 => ⟨rfl, ?_⟩, fun c2 => ?_⟩
        · have ee : e = eV V := by omega
          rw [ee] at Q; exact Q
        · have he : e < eV V := by omega
          have bt := Bg.at h4 (by omega)
          have s1 : lpS (FX V r dn T m w o d) (e + 1) S = FX V r dn T m w o d e (lpS (FX V r dn T m w o d) e S) := rfl
          refine ⟨fun c3 => ?_, fun c4 => ?_⟩
          · have dt : dn e = true := by
              cases z : dn e with
              | true => rfl
              | false => exact absurd (bt.mpr z) c3
            refine ih2 (e + 1) _ _ g (by omega) (by omega) (i_1 h4 (by omega)) ?_
            rw [s1, show FX V r dn T m w o d e (lpS (FX V r dn T m w o d) e S) = _ from if_pos (Or.inl dt)]
            exact Q
          · have df : dn e = false := bt.mp c4
            obtain ⟨er1, er2, er3⟩ := err_at l1g w9 nog h4 he
            obtain ⟨_, rP, _, rF, _, rT⟩ := err_ok w9 he
            have dg : d < 5 := by omega
            have pc := cnt_pos df (eV V) he
            have gd : ∀ c, c < 64 → (zI g (140 + d) c).toInt = T c := fun c hc => by rw [gg d (Nat.le_refl _)]; exact pT c hc
            have lr := lgV_rng w9 e T
            refine ⟨fun g' => SkQ g g' 146 q (140 + d) V T (pF V (peV V e) 0) (pF V (peV V e) 1) (feV V e) (teV V e), by rw [zgrd_of h1 (by omega)]; exact c_seek l G g 146 q (140 + d) (peV V e) (feV V e) (teV V e) _ _ _ (leg_9 l7g) l1g (gnd_w l7g (by omega)) w9 nog (by omega) (by omega) gd er1 rP er2 rF er3 rT, fun g33 ⟨k1, k2, k3, k4, k5, k6, k7⟩ => ?_⟩
            have f33 : Fr7 g g33 := ⟨fun b hb => k1 b (by omega), k2, k3, k4⟩
            have E33 : E7 g33 q V := Eg.fr hq w9 f33
            have x33 : WX 146 q (140 + d) V (pF V (peV V e) 0) (pF V (peV V e) 1) := ⟨w9, (per_w w9 rP).1, (per_w w9 rP).2.1, by omega, by omega⟩
            refine ⟨E33.1, fun c6 => ?_, fun c12 => ⟨rfl, ?_⟩⟩
            · have hW : (lgV V e T).1 < 1000000 := Decidable.byContradiction fun z => c6 (k7.2 z)
              obtain ⟨p1, p2, p3⟩ := k7.1 hW
              have hd1 : (x1 + 1).toInt = ((d + 1 : Nat) : Int) := i_1 h1 (by omega)
              refine ⟨fun I => (∀ b, b ≠ 140 + (d + 1) → I b = g33.1 b) ∧ ∀ c, c < 64 → (I (140 + (d + 1)) c).toInt = afV V e T c, by rw [zgrd_of hd1 (by omega)]; exact c_tread l G g33 146 q (140 + d) (140 + (d + 1)) (feV V e) (teV V e) k5 x33 (gnd_w E33.1 (by omega)) (by omega) rF k6 hW k7, fun I46 ⟨t1, t2⟩ I52 c8 I58 c9 => ?_⟩
              obtain ⟨a1, a2, a3⟩ := zwI_eff c8
              obtain ⟨b1, b2, b3⟩ := zput_eff (h := (I52, g33.2)) (N := 5) (E33.1.w 2 rfl) h1 (by omega) c9
              have e58 : ∀ b, b ≠ 136 → b ≠ 138 → b ≠ 140 + (d + 1) → I58 b = g33.1 b := fun b z1 z2 z3 => by
                rw [b1 b z2]; show I52 b = _
                rw [a1 b z1]; exact t1 b z3
              have f58 : Fr7 g33 (I58, g33.2) := Fr7.w (fun b hb => e58 b (by omega) (by omega) (by omega))
              have v136 : ∀ k, k ≠ 4 → I58 136 k = zI g 136 k := fun k hk => by
                rw [b1 136 (by decide)]; show I52 136 k = _
                rw [a2 k hk]; show I46 136 k = _
                rw [t1 136 (by omega), k1 136 (by decide)]; rfl
              have w4 : zI (I46, g33.2) 136 4 = zI g 136 4 := by
                show I46 136 4 = _; rw [t1 136 (by omega), k1 136 (by decide)]; rfl
              have v4 : I58 136 4 = (zI g 136 4 ||| ((1 : Int32) <<< (x4 &&& 31))) := by
                rw [b1 136 (by decide)]; show I52 136 4 = _
                rw [a3, w4]
              obtain ⟨Bs, Bc⟩ := Bg.set h4 (by omega) df
              have ord58 : ∀ k, k < d → I58 138 k = zI g 138 k := fun k hk => by
                rw [b2 k (by omega)]; show I52 138 k = _
                rw [a1 138 (by decide)]; show I46 138 k = _
                rw [t1 138 (by omega), k1 138 (by decide)]; rfl
              have m146 : ∀ k, I58 146 k = zI g33 146 k := fun k => by rw [e58 146 (by decide) (by decide) (by omega)]; rfl
              have C58 : CS (I58, g33.2) (eV V) (lpS (FX V r dn T m w o d) e S) := gC.cg (v136 0 (by decide)) (v136 1 (by decide)) (fun k => by show I58 137 k = _; rw [e58 137 (by decide) (by decide) (by omega), k1 137 (by decide)]; rfl)
              have P58 : ExP (I58, g33.2) q (d + 1) V (fun x => decide (x = e) || dn x) (afV V e T) (updN o d e) (lpS (FX V r dn T m w o d) e S) := by
                refine ⟨E33.fr hq w9 f58, fun c hc => ?_, fun k hk => ?_, ?_, C58⟩
                · show (I58 (140 + (d + 1)) c).toInt = _
                  rw [b1 _ (by omega)]; show (I52 _ c).toInt = _
                  rw [a1 _ (by omega)]; exact t2 c hc
                · show (I58 138 k).toInt = _
                  by_cases z : k = d
                  · subst z
                    rw [b3, h4]
                    unfold updN
                    rw [if_pos rfl]
                  · rw [ord58 k (by omega), gO k (by omega)]
                    unfold updN
                    rw [if_neg z]; exact po k (by omega)
                · show BD (I58 136 4) _
                  rw [v4]; exact Bs
              have c9' := cnt_add df (eV V)
              rw [if_pos he] at c9'
              obtain ⟨lm, hlm⟩ : ∃ k : Nat, (lgV V e T).1 = (k : Int) := ⟨(lgV V e T).1.toNat, by omega⟩
              have p1' : (zI g33 146 0).toInt = (lgV V e T).1 := p1
              have p2' : (zI g33 146 1).toInt = ((lgV V e T).2 : Int) := p2
              have A1 : (x2 + zI (I58, g33.2) (136 + 10) 0).toInt = ((m + lm : Nat) : Int) := by
                rw [show zI (I58, g33.2) (136 + 10) 0 = zI g33 146 0 from m146 0, i_add (by omega) (by omega)]; omega
              have A2 : (x3 + zI (I58, g33.2) (136 + 10) 1).toInt = ((w + (lgV V e T).2 : Nat) : Int) := by
                rw [show zI (I58, g33.2) (136 + 10) 1 = zI g33 146 1 from m146 1, i_add (by omega) (by omega)]; omega
              have rcu := ih (d + 1) (m + lm) (w + (lgV V e T).2) (fun x => decide (x = e) || dn x) (afV V e T) (updN o d e) (lpS (FX V r dn T m w o d) e S) (I58, g33.2) _ _ _ (by omega) (by omega) hd1 A1 A2 (by omega) (by omega) P58
              have eF : tw (lgV V) (afV V) (eV V) r (fun x => decide (x = e) || dn x) (afV V e T) ((m + lm : Nat) : Int) (w + (lgV V e T).2) (updN o d e) (d + 1) (lpS (FX V r dn T m w o d) e S) = lpS (FX V r dn T m w o d) (e + 1) S := by
                rw [s1, show FX V r dn T m w o d e (lpS (FX V r dn T m w o d) e S) = _ from if_neg (fun z => by rcases z with z | z; rw [df] at z; cases z; exact z hW), hlm, show ((m + lm : Nat) : Int) = (m : Int) + (lm : Int) by omega]
              rw [eF] at rcu
              refine ⟨_, r + 7, by omega, rcu, fun g71 ⟨y1, y2, y3, y4, y5⟩ => ⟨y1.l7 (f58.l7 E33.1), fun I74 c11 => ?_⟩⟩
              obtain ⟨d1, d2, d3⟩ := zwI_eff c11
              have y2' : zI g71 136 4 = (zI g 136 4 ||| ((1 : Int32) <<< (x4 &&& 31))) := y2.trans v4
              have f74 : Fr7 g71 (I74, g71.2) := Fr7.w (fun b hb => d1 b (by omega))
              refine ih2 (e + 1) _ _ (I74, g71.2) (by omega) (by omega) (i_1 h4 (by omega)) ⟨f1.tr (f33.tr (f58.tr (y1.tr f74))), ?_, fun k hk c => ?_, fun k hk => ?_, y5.cg (d2 0 (by decide)) (d2 1 (by decide)) (fun k => by show I74 137 k = _; rw [d1 137 (by decide)]; rfl)⟩
              · show I74 136 4 = _
                rw [d3, y2', Bc]; exact g4
              · show I74 (140 + k) c = _
                rw [d1 _ (by omega)]
                refine (y3 k (by omega) c).trans ?_
                show I58 (140 + k) c = _
                rw [e58 _ (by omega) (by omega) (by omega), k1 _ (by omega)]
                exact gg k hk c
              · show I74 138 k = _
                rw [d1 _ (by omega)]
                refine (y4 k (by omega)).trans ?_
                show I58 138 k = _
                rw [ord58 k hk]; exact gO k hk
            · have nW : ∀ T', ¬ (lgV V e T').1 < 1000000 := fun T' z => by
                have := (k7.1 (lgV_rch (T' := T) w9 z)).1
                have p1' : (zI g33 146 0).toInt = (lgV V e T).1 := this
                have p2' : (zI g33 146 0).toInt = -1 := n_m1.mp c12
                omega
              have all : ∀ e' S', e' < eV V → FX V r dn T m w o d e' S' = S' := fun e' S' he' => by
                unfold FX
                by_cases z : dn e' = true ∨ ¬ (lgV V e' T).1 < 1000000
                · rw [if_pos z]
                · rw [if_neg z]
                  have z1 : dn e' = false := by
                    cases y : dn e' with
                    | true => exact absurd (Or.inl y) z
                    | false => rfl
                  have ne : e ≠ e' := fun y => z (Or.inr (by rw [← y]; exact nW T))
                  have c := cnt_add z1 (eV V)
                  rw [if_pos he'] at c
                  exact tw_none r _ _ _ _ _ _ S' e (by omega) he (by rw [decide_eq_false ne, Bool.false_or]; exact df) nW
              have i1 : lpS (FX V r dn T m w o d) e S = S := lpS_id e (fun e' he' => all e' S (by omega))
              have i2 : lpS (FX V r dn T m w o d) (eV V) S = S := lpS_id _ (fun e' he' => all e' S he')
              rw [i2]
              rw [i1] at gC
              exact ⟨f1.tr f33, (congrFun (k1 136 (by decide)) 4).trans g4, fun k hk c => (congrFun (k1 (140 + k) (by omega)) c).trans (gg k hk c), fun k hk => (congrFun (k1 138 (by decide)) k).trans (gO k hk), gC.cg (congrFun (k1 136 (by decide)) 0) (congrFun (k1 136 (by decide)) 1) (fun k => congrFun (k1 137 (by decide)) k)⟩
    have go := loop (eV V + 1) 0 0 zU h (Nat.zero_le _) (by omega) rfl (ExQ.rf pC)
    refine kX7_extend 136 x1 x2 x3 (sX7_extend_0 136 x1 x2 x3 l7 (by omega) ⟨fun c1 => ⟨q, r3, l1, fun c2 => absurd c2 (by omega), fun c6 => ⟨fun c7 => go, fun c8 => ?_⟩⟩, fun c12 => ⟨fun c13 => ⟨q, r3, l1, fun c14 => absurd c14 (by omega), fun c18 => ⟨fun c19 => go, fun c20 => ?_⟩⟩, fun c24 => ⟨rfl, cut (by have := (pC.pos c12).1; omega)⟩⟩⟩)
    · have c8' : (5 : Int) ≤ x1.toInt := c8
      omega
    · have c20' : (5 : Int) ≤ x1.toInt := c20
      omega
end K76
