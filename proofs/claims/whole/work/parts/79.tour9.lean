set_option maxRecDepth 4000
/-! ===== tour ===== -/
section K79
variable {V : Nat → Int} {q : Nat} {TK : (Nat → Int) → (Nat → Int32) → (Nat → Int32) → Prop} {RK : (Nat → Int) → (Nat → Int) → (Nat → Int32) → (Nat → Int32) → (Nat → Int32) → (Nat → Int32) → Prop}
/-- only the clay's, the way's and the tour's objects and what says whose tour is kept change -/
theorem Inv.tours {h g : zH} (hI : Inv (KeptP TK RK) h) (e : ∀ b, b ≠ 0 → ¬ (81 ≤ b ∧ b < 150) → g.1 b = h.1 b) (e0 : ∀ k, k ≠ 11 → g.1 0 k = h.1 0 k) (mN : zN g = zN h) (l1 : lo10 g 0) (l2 : lo11 g 313) (t : TKh TK g) : Inv (KeptP TK RK) g := by
  obtain ⟨_, _, hN, hT, hIm, hK⟩ := hI
  have e314 : g.1 314 = h.1 314 := e 314 (by decide) (by decide)
  have eA : AL g = AL h := e314
  have t1 := hT.kept (I := g.1) (fun b h1 h2 j => by rw [e b (by omega) (by omega)]) (fun j => by rw [e314])
  refine ⟨l1, l2, mN.trans hN, t1, fun k hk => ?_, t, ?_⟩
  · obtain ⟨r1, r2⟩ := hIm k hk
    have t2 : ∀ r : TRel h (157 + 52 * k) (1348 * (k + 1)), TRel g (157 + 52 * k) (1348 * (k + 1)) := fun r => r.kept (I := g.1) (fun b h1 h2 j => by rw [e b (by omega) (by omega)]) (fun j => by rw [e314])
    show g.1 54 k = g.1 315 k ∧ (g.1 315 k = 0 ∨ g.1 315 k = 1 ∧ TRel g (157 + 52 * k) (1348 * (k + 1)))
    rw [e 54 (by decide) (by decide), e 315 (by decide) (by decide)]
    exact ⟨r1, r2.elim Or.inl (fun r => Or.inr ⟨r.1, t2 r.2⟩)⟩
  · have k1 := hK.2
    unfold RKh at k1 ⊢
    rw [eA, show zI g 0 13 = zI h 0 13 from e0 13 (by decide), show zI g 0 14 = zI h 0 14 from e0 14 (by decide), show zI g 150 = zI h 150 from e 150 (by decide) (by decide), show zI g 151 = zI h 151 from e 151 (by decide) (by decide), show zI g 152 = zI h 152 from e 152 (by decide) (by decide), show zI g 153 = zI h 153 from e 153 (by decide) (by decide)]
    exact k1.elim Or.inl (fun ⟨n, r, q1, q2, q3, q4, q5⟩ => Or.inr ⟨n, r, q1, q2, q3, q4, by rw [RWc eA, RVc eA]; exact q5⟩)
theorem cnt_all : ∀ n, cnt (fun _ => false) n = n
  | 0 => rfl
  | n + 1 => by
    show cnt (fun _ => false) n + (if false = true then 0 else 1) = n + 1
    rw [cnt_all n, if_neg Bool.false_ne_true]
def TRs (V : Nat → Int) : US := twR (lgV V) (afV V) (eV V) (tpT (stM V (-1) 100))
def TKq (V : Nat → Int) (z0 z1 : Nat → Int32) : Prop := ((TRs V).1 < 1000000 → 0 ≤ (TRs V).1 ∧ (z0 0).toInt = (TRs V).1 ∧ (z0 1).toInt = ((TRs V).2.1 : Int) ∧ ∀ k, k < eV V → (z1 k).toInt = ((TRs V).2.2 k : Int)) ∧ (¬ (TRs V).1 < 1000000 → z0 0 = -1)
theorem CS.tk {h : zH} (c : CS h (eV V) (TRs V)) : TKq V (zI h 136) (zI h 137) := by
  rcases c with ⟨c1, c2⟩ | ⟨c1, c2, c3, c4, c5⟩
  · exact ⟨fun z => absurd z (by omega), fun _ => c2⟩
  · exact ⟨fun _ => ⟨c2, c3, c4, c5⟩, fun z => absurd c1 z⟩
def BgQ (h g : zH) (q : Nat) (V T : Nat → Int) : Prop := (∀ b, (b < 136 ∨ 150 ≤ b) → g.1 b = h.1 b) ∧ (∀ b k, ¬ (b = 136 ∧ k = 3) → zR g b k = zR h b k) ∧ (∀ b, zK g b = zK h b) ∧ zN g = zN h ∧ ExP g q 0 V (fun _ => false) T (fun _ => 0) S0U
theorem c_begin (l : Launch) (G : zG) (h : zH) (T : Nat → Int) (hl : lo7 h 136) (hq : lo1 h q) (hq2 : q + 18 ≤ 136) (hg : zAw h 127 64) (w : WFN V) (o : NObj h q V) (hT : ∀ c, c < 64 → (zI h 127 c).toInt = T c) :
    CTvG l G YX7_begin 3 [va_rf (some 136), va_rf (some q), va_rf (some 127)] h (fun g => BgQ h g q V T) := by
  refine kX7_begin 136 q (some 127) (sX7_begin_0 136 q (some 127) hl hq (Nat.le_refl _) (fun g1 c1 => ?_))
  have r7 : rs7.all (fun e => decide (¬ (136 + e.1 = 136 ∧ e.2.1 = 3))) = true := by decide +kernel
  have gR : ∀ b k, ¬ (b = 136 ∧ k = 3) → zR g1 b k = zR h b k := fun b k z => by rw [c1, zR_w, if_neg z]
  have gI : g1.1 = h.1 := by rw [c1]; rfl
  have gK : ∀ b, zK g1 b = zK h b := fun b => by rw [c1]; rfl
  have gN : zN g1 = zN h := by rw [c1]; rfl
  have g3 : zR g1 136 3 = some q := by rw [c1, zR_ws]
  have l7' : lo7 g1 136 := zlo.gr hl gK gN (fun e he => gR _ _ (of_decide_eq_true (List.all_eq_true.mp r7 e he)))
  have l1' : lo1 g1 q := zlo.gr hq gK gN (fun e he => gR _ _ (fun z => by
    have a : rs1.all (fun e => decide (e.1 < 18)) = true := by decide +kernel
    have := of_decide_eq_true (List.all_eq_true.mp a e he)
    omega))
  refine ⟨l7', l1', fun I8 c2 I11 c3 I14 c4 => ?_⟩
  have e0 : zgrd 136 (0 : Int32) = some 140 := zgrd_of (x := 0) (d := 0) rfl (by decide)
  have hg1 : zAw g1 127 64 := ⟨(gK 127).trans hg.1, by rw [gN]; exact hg.2⟩
  obtain ⟨a1, a2, a3⟩ := zwI_eff c2
  obtain ⟨b1, b2, b3⟩ := zwI_eff c3
  obtain ⟨d1, d2, d3⟩ := zwI_eff c4
  refine ⟨fun I => I = zcy (I14, g1.2) 127 140 64, by rw [e0]; exact c_X10_copy l G (I14, g1.2) 127 140 64 hg1 (gnd_w l7' (d := 0) (by decide)) (by decide), fun I21 c5 => ⟨rfl, ?_⟩⟩
  have e14 : ∀ b, b ≠ 136 → I14 b = h.1 b := fun b hb => by
    rw [d1 b hb]; show I11 b = _
    rw [b1 b hb]; show I8 b = _
    rw [a1 b hb, gI]
  have e21 : ∀ b, b ≠ 140 → I21 b = I14 b := fun b hb => by rw [c5]; funext k; exact if_neg (fun z => hb z.1)
  have f4 : I21 136 4 = 0 := by
    rw [e21 136 (by decide), d2 4 (by decide)]; show I11 136 4 = _
    rw [b2 4 (by decide)]; exact a3
  have f0 : I21 136 0 = -1 := by
    rw [e21 136 (by decide), d2 0 (by decide)]; exact b3
  have g21 : ∀ b, b ≠ 136 → b ≠ 140 → I21 b = h.1 b := fun b z1 z2 => (e21 b z2).trans (e14 b z1)
  refine ⟨fun b hb => g21 b (by omega) (by omega), gR, gK, gN, ⟨l7', g3, l1', NObj.same (h := h) w o (fun b z1 z2 => g21 b (by omega) (by omega))⟩, fun c hc => ?_, fun k hk => by omega, ?_, Or.inl ⟨rfl, f0⟩⟩
  · show (I21 140 c).toInt = _
    rw [c5]
    show (if 140 = 140 ∧ c < 64 then I14 127 c else I14 140 c).toInt = T c
    rw [if_pos ⟨rfl, hc⟩, e14 127 (by decide)]; exact hT c hc
  · show BD (I21 136 4) _
    rw [f4]; exact BD.zero
theorem los_136 {h : zH} (o : lo10 h 0) : lo7 h 136 := by
  have := zlo.sub (ks' := ks7) (rs' := rs7) o 136 (by decide +kernel) (by decide +kernel) (by decide +kernel)
  rw [Nat.zero_add] at this
  exact this
def tourF (x2 : Int32) (V : Nat → Int) : Int32 :=
  if (TRs V).1 < 1000000 then
    (if x2.toInt = 0 then Int32.ofInt (TRs V).1 else if x2.toInt = 1 then Int32.ofNat (TRs V).2.1
     else if 10 ≤ x2.toInt ∧ x2.toInt < 10 + (eV V : Int) then Int32.ofNat ((TRs V).2.2 (x2.toInt.toNat - 10)) else -1)
  else -1
theorem lo10_fr {h g : zH} (hK : ∀ b, zK g b = zK h b) (hN : zN g = zN h) (hR : ∀ b k, ¬ (b = 136 ∧ k = 3) → ¬ (b = 146 ∧ (k = 3 ∨ k = 4)) → zR g b k = zR h b k) (l1 : lo10 h 0) (l2 : lo11 h 313) : lo10 g 0 ∧ lo11 g 313 := by
  refine ⟨zlo.gr l1 hK hN (fun e he => ?_), zlo.gr l2 hK hN (fun e he => hR _ _ (fun z => by omega) (fun z => by omega))⟩
  have a : rs10.all (fun e => decide (¬ (0 + e.1 = 136 ∧ e.2.1 = 3) ∧ ¬ (0 + e.1 = 146 ∧ (e.2.1 = 3 ∨ e.2.1 = 4)))) = true := by decide +kernel
  have := of_decide_eq_true (List.all_eq_true.mp a e he)
  exact hR _ _ this.1 this.2
end K79
