set_option maxRecDepth 4000
section K9Y
variable {TK : (Nat → Int) → (Nat → Int32) → (Nat → Int32) → Prop} {RK : (Nat → Int) → (Nat → Int) → (Nat → Int32) → (Nat → Int32) → (Nat → Int32) → (Nat → Int32) → Prop}
theorem okT_cg {h : zH} {I : Nat → Nat → Int32} {x : (Nat → Nat → Option Nat) × (Nat → Nat × Nat) × Nat} {x1 x2 : Int32} (e : I 314 = h.1 314) : okT (I, x) x1 x2 ↔ okT h x1 x2 := by
  unfold okT
  show ((x1 = 0 ∨ x1 = 1) ∧ (if x2 = -1 then (I 314 (zix x1)).toInt < 2 else 0 ≤ x2.toInt ∧ x2.toInt < (I 314 (zix x1)).toInt)) ↔ _
  rw [e]; exact Iff.rfl
theorem kT_cg {h : zH} {I : Nat → Nat → Int32} {x : (Nat → Nat → Option Nat) × (Nat → Nat × Nat) × Nat} {x1 x2 : Int32} (e : I 314 = h.1 314) : kT (I, x) x1 x2 = kT h x1 x2 := by
  unfold kT
  show (if x2 = -1 then I 314 (zix x1) else x2) = _
  rw [e]; rfl
/-- a text that is told to nobody -/
theorem Inv.txtS {h : zH} {I : Nat → Nat → Int32} {x : (Nat → Nat → Option Nat) × (Nat → Nat × Nat) × Nat} (hI : Inv (KeptP TK RK) h) (l1 : lo10 (I, x) 0) (l2 : lo11 (I, x) 313) (hN : zN (I, x) = 339)
    (sb : ∀ b, b ≠ 1 → b ≠ 313 → b ≠ 314 → b ≠ 316 → (b < 55 ∨ 81 ≤ b) → I b = h.1 b) (al : ∀ j, j ≠ 2 → j ≠ 3 → j ≠ 4 → I 314 j = h.1 314 j) (s1 : ∀ k, k ≠ 1 → k ≠ 2 → k ≠ 3 → I 1 k = h.1 1 k)
    (len : I 1 1 = 0 ∧ I 314 2 = 0) (ft : I 1 2 = I 314 3) (fp : I 1 3 = I 314 4) : Inv (KeptP TK RK) (I, x) := by
  obtain ⟨_, _, _, hT, hIm, hK⟩ := id hI
  obtain ⟨q1, q2, q3, q4, q5, q6, q7, q8⟩ := hT
  have e0 : I 314 0 = h.1 314 0 := al 0 (by decide) (by decide) (by decide)
  have e1 : I 314 1 = h.1 314 1 := al 1 (by decide) (by decide) (by decide)
  have eR : ∀ b, 610 ≤ b → RW (I, x) b = RW h b := fun b hb => RW_cg fun w _ => al _ (by omega) (by omega) (by omega)
  have eV : ∀ b, 610 ≤ b → RV (I, x) b = RV h b := fun b hb => RV_cg fun w _ => al _ (by omega) (by omega) (by omega)
  refine Inv.txt hI l1 l2 hN (sb 2 (by decide) (by decide) (by decide) (by decide) (by decide)) (sb 54 (by decide) (by decide) (by decide) (by decide) (by decide)) (sb 315 (by decide) (by decide) (by decide) (by decide) (by decide)) (fun b b1 b2 => sb b (by omega) (by omega) (by omega) (by omega) (by omega)) (fun j => ⟨fun _ _ => al j (by omega) (by omega) (by omega), fun _ => al j (by omega) (by omega) (by omega)⟩) ⟨len.1.trans len.2.symm, by rw [len.2]; decide, by rw [len.2]; decide⟩ ft fp ?_ ?_ (fun i hi => ?_) (fun i hi => ?_) ⟨?_, ?_⟩
  · rw [s1 5 (by decide) (by decide) (by decide), e0]; exact q5
  · rw [s1 7 (by decide) (by decide) (by decide), e1]; exact q6
  · rw [e0] at hi
    have hi2 : i < 2 := by have : (h.1 314 0).toInt ≤ 2 := q5.2.2; omega
    obtain ⟨w, o⟩ := q7 i hi
    rw [show 0 + 610 + 318 * i = 610 + 318 * i by omega, show 1 + 4 + 18 * i = 5 + 18 * i by omega] at o
    rw [show 0 + 610 + 318 * i = 610 + 318 * i by omega] at w
    rw [eR _ (by omega)]
    exact ⟨w, o.cp w (NCp.eq (fun b b1 b2 => sb b (by omega) (by omega) (by omega) (by omega) (by omega)))⟩
  · rw [e1] at hi
    have hi2 : i < 2 := by have : (h.1 314 1).toInt ≤ 2 := q6.2.2; omega
    obtain ⟨w, o⟩ := q8 i hi
    rw [show 0 + 1246 + 51 * i = 1246 + 51 * i by omega, show 1 + 40 + 6 * i = 41 + 6 * i by omega] at o
    rw [show 0 + 1246 + 51 * i = 1246 + 51 * i by omega] at w
    rw [eV _ (by omega)]
    exact ⟨w, o.cp w (RCp.eq (fun b b1 b2 => sb b (by omega) (by omega) (by omega) (by omega) (by omega)))⟩
  · have z0 : zI (I, x) 0 = zI h 0 := sb 0 (by decide) (by decide) (by decide) (by decide) (by decide)
    have z1 : zI (I, x) 136 = zI h 136 := sb 136 (by decide) (by decide) (by decide) (by decide) (by decide)
    have z2 : zI (I, x) 137 = zI h 137 := sb 137 (by decide) (by decide) (by decide) (by decide) (by decide)
    unfold TKh
    rw [z0, z1, z2, show AL (I, x) 0 = AL h 0 from e0]
    exact hK.1.elim Or.inl (fun ⟨m, k1, k2, k3⟩ => Or.inr ⟨m, k1, k2, by rw [eR _ (by omega)]; exact k3⟩)
  · have z0 : zI (I, x) 0 = zI h 0 := sb 0 (by decide) (by decide) (by decide) (by decide) (by decide)
    have z1 : zI (I, x) 150 = zI h 150 := sb 150 (by decide) (by decide) (by decide) (by decide) (by decide)
    have z2 : zI (I, x) 151 = zI h 151 := sb 151 (by decide) (by decide) (by decide) (by decide) (by decide)
    have z3 : zI (I, x) 152 = zI h 152 := sb 152 (by decide) (by decide) (by decide) (by decide) (by decide)
    have z4 : zI (I, x) 153 = zI h 153 := sb 153 (by decide) (by decide) (by decide) (by decide) (by decide)
    unfold RKh
    rw [z0, z1, z2, z3, z4, show AL (I, x) 0 = AL h 0 from e0, show AL (I, x) 1 = AL h 1 from e1]
    exact hK.2.elim Or.inl (fun ⟨m, r, k1, k2, k3, k4, k5⟩ => Or.inr ⟨m, r, k1, k2, k3, k4, by rw [eR _ (by omega), eV _ (by omega)]; exact k5⟩)
theorem c_tellNight (l : Launch) (G : zG) (h : zH) (y : Int32) (K : Nat) (hl : lo10 h 0) (hy : y.toInt = (K : Int)) (hK : K < 2) : CTv l G YX6_tellNight 5 [va_rf (some 1), .int y, va_rf (some 56)] h (fun J => (∀ c, c ≠ 1 → (c < 5 + 18 * K ∨ 5 + 18 * K + 18 ≤ c) → J c = h.1 c) ∧ (∀ k, k ≠ 5 → J 1 k = h.1 1 k) ∧ J 1 5 = imax (zI h 1 5) (y + 1) ∧ NCp h (J, h.2) 56 (5 + 18 * K)) := by
  have l56 : lo1 h 56 := zlo.sub hl 56 (by decide +kernel) (by decide +kernel) (by decide +kernel)
  have lK : lo1 h (5 + 18 * K) ∧ zR h 3 K = some (5 + 18 * K) := by
    match K, hK with
    | 0, _ => exact ⟨zlo.sub hl 5 (by decide +kernel) (by decide +kernel) (by decide +kernel), zlo.rm hl (o := 3) (j := 0) (t := 5) (by decide +kernel)⟩
    | 1, _ => exact ⟨zlo.sub hl 23 (by decide +kernel) (by decide +kernel) (by decide +kernel), zlo.rm hl (o := 3) (j := 1) (t := 23) (by decide +kernel)⟩
    | j + 2, q => omega
  refine kX6_tellNight 1 y 56 (sX6_tellNight_0 1 y 56 (los_10_1 hl) l56 (Nat.le_refl _) ⟨fun c1 => absurd c1 (by omega), fun c2 => ⟨fun c3 => absurd c3 (by omega), fun c4 => ⟨by omega, by omega, ⟨5 + 18 * K, by rw [zix_of hy]; exact lK.2, lK.1, ⟨_, c_X1_copyFrom l G h (5 + 18 * K) 56 lK.1 l56 (by omega), fun I17 c5 I23 c6 => ⟨I23, rfl, rfl, ?_⟩⟩⟩⟩⟩⟩)
  obtain ⟨a, b⟩ := c5
  have d : WrI (I17, h.2) I23 1 5 (imax (zI (I17, h.2) 1 5) (y + 1)) := zwI_eff c6
  have e1 : I17 1 = h.1 1 := a 1 (by omega)
  refine ⟨fun c z1 z2 => (d.f z1).trans (a c z2), fun k z => (d.2.1 k z).trans (congrFun e1 k), by rw [d.2.2]; exact congrArg (fun z => imax z (y + 1)) (congrFun e1 5), ?_⟩
  have f : ∀ b, 5 ≤ b → I23 b = I17 b := fun b z => d.f (by omega)
  obtain ⟨n1, n2, n3, n4⟩ := b
  refine ⟨fun k hk => ?_, fun k hk => ?_, fun k hk => ?_, fun p hp => ⟨fun k hk => ?_, fun k hk => ?_⟩⟩
  · show I23 _ _ = _; rw [f _ (by omega)]; exact n1 k hk
  · show I23 _ _ = _ ∧ I23 _ _ = _ ∧ I23 _ _ = _; rw [f _ (by omega), f _ (by omega), f _ (by omega)]; exact n2 k hk
  · show I23 _ _ = _; rw [f _ (by omega)]; exact n3 k hk
  · show I23 _ _ = _; rw [f _ (by omega)]; exact (n4 p hp).1 k hk
  · show I23 _ _ = _; rw [f _ (by omega)]; exact (n4 p hp).2 k hk
theorem c_tellReading (l : Launch) (G : zG) (h : zH) (y : Int32) (K : Nat) (hl : lo10 h 0) (hy : y.toInt = (K : Int)) (hK : K < 2) : CTv l G YX6_tellReading 4 [va_rf (some 1), .int y, va_rf (some 74)] h (fun J => (∀ c, c ≠ 1 → (c < 41 + 6 * K ∨ 41 + 6 * K + 6 ≤ c) → J c = h.1 c) ∧ (∀ k, k ≠ 7 → J 1 k = h.1 1 k) ∧ J 1 7 = imax (zI h 1 7) (y + 1) ∧ RCp h (J, h.2) 74 (41 + 6 * K)) := by
  have l74 : lo3 h 74 := zlo.sub hl 74 (by decide +kernel) (by decide +kernel) (by decide +kernel)
  have lK : lo3 h (41 + 6 * K) ∧ zR h 4 K = some (41 + 6 * K) := by
    match K, hK with
    | 0, _ => exact ⟨zlo.sub hl 41 (by decide +kernel) (by decide +kernel) (by decide +kernel), zlo.rm hl (o := 4) (j := 0) (t := 41) (by decide +kernel)⟩
    | 1, _ => exact ⟨zlo.sub hl 47 (by decide +kernel) (by decide +kernel) (by decide +kernel), zlo.rm hl (o := 4) (j := 1) (t := 47) (by decide +kernel)⟩
    | j + 2, q => omega
  refine kX6_tellReading 1 y 74 (sX6_tellReading_0 1 y 74 (los_10_1 hl) l74 (Nat.le_refl _) ⟨fun c1 => absurd c1 (by omega), fun c2 => ⟨fun c3 => absurd c3 (by omega), fun c4 => ⟨by omega, by omega, ⟨41 + 6 * K, by rw [zix_of hy]; exact lK.2, lK.1, ⟨_, c_X3_copyFrom l G h (41 + 6 * K) 74 lK.1 l74 (by omega), fun I17 c5 I23 c6 => ⟨I23, rfl, rfl, ?_⟩⟩⟩⟩⟩⟩)
  obtain ⟨a, b⟩ := c5
  have d : WrI (I17, h.2) I23 1 7 (imax (zI (I17, h.2) 1 7) (y + 1)) := zwI_eff c6
  have e1 : I17 1 = h.1 1 := a 1 (by omega)
  refine ⟨fun c z1 z2 => (d.f z1).trans (a c z2), fun k z => (d.2.1 k z).trans (congrFun e1 k), by rw [d.2.2]; exact congrArg (fun z => imax z (y + 1)) (congrFun e1 7), ?_⟩
  have f : ∀ b, 5 ≤ b → I23 b = I17 b := fun b z => d.f (by omega)
  obtain ⟨n1, n2⟩ := b
  refine ⟨?_, fun k hk => ?_⟩
  · show I23 _ _ = _; rw [f _ (by omega)]; exact n1
  · show I23 _ _ = _ ∧ I23 _ _ = _ ∧ I23 _ _ = _ ∧ I23 _ _ = _ ∧ I23 _ _ = _
    rw [f _ (by omega), f _ (by omega), f _ (by omega), f _ (by omega), f _ (by omega)]; exact n2 k hk
end K9Y
