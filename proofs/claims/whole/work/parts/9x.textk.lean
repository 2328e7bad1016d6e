set_option maxRecDepth 4000
/-! ===== text ===== -/
section K9X
variable {B : Nat → Int} {n : Nat}
theorem c_slotFor (l : Launch) (G : zG) (h : zH) (x1 x2 : Int32) (hl : lo6 h 1) (e5 : zI h 1 5 = zI h 314 0) (e7 : zI h 1 7 = zI h 314 1) : CTi l G YX6_slotFor 1 [va_rf (some 1), .int x1, .int x2] h (fun y I => I = h.1 ∧ (okT h x1 x2 → y = kT h x1 x2) ∧ (¬ okT h x1 x2 → y = -1)) := by
  have no : ¬ okT h x1 x2 → (∃ x I1, (some (.int (-1)) : Option Value) = some (.int x) ∧ h = (I1, h.2) ∧ (I1 = h.1 ∧ (okT h x1 x2 → x = kT h x1 x2) ∧ (¬ okT h x1 x2 → x = -1))) := fun c => ⟨-1, h.1, rfl, rfl, rfl, fun z => absurd z c, fun _ => rfl⟩
  have ya : ∀ y : Int32, okT h x1 x2 → y = kT h x1 x2 → (∃ x I1, (some (.int y) : Option Value) = some (.int x) ∧ h = (I1, h.2) ∧ (I1 = h.1 ∧ (okT h x1 x2 → x = kT h x1 x2) ∧ (¬ okT h x1 x2 → x = -1))) := fun y c e => ⟨y, h.1, rfl, rfl, rfl, fun _ => e, fun z => absurd c z⟩
  have both : ∀ f : Nat, zI h 1 f = zI h 314 (zix x1) → (x1 = 0 ∨ x1 = 1) →
      ((¬ x2 = -1 → ((x2.toInt < (0 : Int) → (∃ x I1, (some (.int (-1)) : Option Value) = some (.int x) ∧ h = (I1, h.2) ∧ (I1 = h.1 ∧ (okT h x1 x2 → x = kT h x1 x2) ∧ (¬ okT h x1 x2 → x = -1)))) ∧ ((0 : Int) ≤ x2.toInt → (((zI h 1 f).toInt ≤ x2.toInt → (∃ x I1, (some (.int (-1)) : Option Value) = some (.int x) ∧ h = (I1, h.2) ∧ (I1 = h.1 ∧ (okT h x1 x2 → x = kT h x1 x2) ∧ (¬ okT h x1 x2 → x = -1)))) ∧ (x2.toInt < (zI h 1 f).toInt → (∃ x I1, (some (.int x2) : Option Value) = some (.int x) ∧ h = (I1, h.2) ∧ (I1 = h.1 ∧ (okT h x1 x2 → x = kT h x1 x2) ∧ (¬ okT h x1 x2 → x = -1)))))))) ∧
      (x2 = -1 → (((2 : Int) ≤ (zI h 1 f).toInt → (∃ x I1, (some (.int (-1)) : Option Value) = some (.int x) ∧ h = (I1, h.2) ∧ (I1 = h.1 ∧ (okT h x1 x2 → x = kT h x1 x2) ∧ (¬ okT h x1 x2 → x = -1)))) ∧ ((zI h 1 f).toInt < (2 : Int) → (∃ x I1, (some (.int (zI h 1 f)) : Option Value) = some (.int x) ∧ h = (I1, h.2) ∧ (I1 = h.1 ∧ (okT h x1 x2 → x = kT h x1 x2) ∧ (¬ okT h x1 x2 → x = -1))))))) := fun f ef hx => by
    rw [ef]
    refine ⟨fun c => ⟨fun c2 => no (fun z => ?_), fun c3 => ⟨fun c4 => no (fun z => ?_), fun c5 => ya x2 ⟨hx, ?_⟩ (if_neg c).symm⟩⟩, fun c => ⟨fun c2 => no (fun z => ?_), fun c3 => ya _ ⟨hx, ?_⟩ (if_pos c).symm⟩⟩
    · have := z.2; rw [if_neg c] at this; omega
    · have := z.2; rw [if_neg c] at this; omega
    · rw [if_neg c]; exact ⟨c3, c5⟩
    · have := z.2; rw [if_pos c] at this; omega
    · rw [if_pos c]; exact c3
  refine kX6_slotFor 1 x1 x2 (sX6_slotFor_0 1 x1 x2 hl (Nat.le_refl _) ⟨fun c1 => ⟨fun c2 => absurd c1 c2, fun c11 => both 5 (by rw [c1]; exact e5) (Or.inl c1)⟩, fun c20 => ⟨fun c21 => ⟨fun c22 => both 7 (by rw [c21]; exact e7) (Or.inr c21), fun c31 => absurd (c31.symm.trans c21) (by decide)⟩, fun c40 => no (fun z => z.1.elim c20 c40)⟩⟩)
theorem WFN.cg {V W : Nat → Int} (e : ∀ w, w < 318 → W w = V w) (a : WFN V) : WFN W := by
  obtain ⟨a0, a1, a2, a3, a4, a5, a6, a7⟩ := a
  have e3 := e 3 (by decide)
  have e4 := e 4 (by decide)
  refine ⟨by rw [e 0 (by decide)]; exact a0, by rw [e 1 (by decide)]; exact a1, by rw [e 2 (by decide)]; exact a2, by rw [e3]; exact a3, by rw [e4]; exact a4, fun m hm => by rw [e (5 + m) (by omega)]; exact a5 m hm, fun k hk => ?_, fun p hp => ?_⟩
  · rw [e4] at hk
    rw [e (105 + 3 * k) (by omega), e (106 + 3 * k) (by omega), e (107 + 3 * k) (by omega), e3, e 0 (by decide), e 1 (by decide)]
    exact a6 k hk
  · rw [e3] at hp
    obtain ⟨b0, b1, b2, b3, b4, b5, b6, b7, b8⟩ := a7 p hp
    rw [e (120 + 33 * p) (by omega), e (121 + 33 * p) (by omega), e (122 + 33 * p) (by omega), e (123 + 33 * p) (by omega), e (124 + 33 * p) (by omega), e (125 + 33 * p) (by omega), e (126 + 33 * p) (by omega), e (127 + 33 * p) (by omega), e (128 + 33 * p) (by omega), e3, e 0 (by decide), e 1 (by decide)]
    refine ⟨b0, b1, b2, b3, b4, b5, b6, b7, fun i hi => ?_⟩
    have i24 : i < 24 := by rcases b7 with z | z <;> omega
    rw [e (129 + 33 * p + i) (by omega)]; exact b8 i hi
theorem NObj.cg {V W : Nat → Int} {h : zH} {q : Nat} (e : ∀ w, w < 318 → W w = V w) (a : WFN V) (o : NObj h q V) : NObj h q W := by
  obtain ⟨o1, o2, o3, o4⟩ := o
  have h3 := a.2.2.2.1
  have h4 := a.2.2.2.2.1
  refine ⟨fun f hf => by rw [e f (by omega)]; exact o1 f hf, fun m hm => by rw [e (5 + m) (by omega)]; exact o2 m hm, fun k hk => ?_, fun p hp => ?_⟩
  · rw [e 4 (by decide)] at hk
    rw [e (105 + 3 * k) (by omega), e (106 + 3 * k) (by omega), e (107 + 3 * k) (by omega)]; exact o3 k hk
  · rw [e 3 (by decide)] at hp
    have b7 := (a.2.2.2.2.2.2.2 p hp).2.2.2.2.2.2.2.1
    refine ⟨fun f hf => by rw [e _ (by omega)]; exact (o4 p hp).1 f hf, fun i hi => ?_⟩
    rw [e _ (by omega)] at hi
    have i24 : i < 24 := by rcases b7 with z | z <;> omega
    rw [e _ (by omega)]; exact (o4 p hp).2 i hi
theorem WFR.cg {V W : Nat → Int} (e : ∀ w, w < 51 → W w = V w) (a : WFR V) : WFR W := by
  obtain ⟨a0, a1⟩ := a
  refine ⟨by rw [e 0 (by decide)]; exact a0, fun k hk => ?_⟩
  rw [e 0 (by decide)] at hk
  rw [e (1 + 5 * k) (by omega), e (2 + 5 * k) (by omega), e (3 + 5 * k) (by omega), e (4 + 5 * k) (by omega), e (5 + 5 * k) (by omega)]
  exact a1 k hk
theorem RObj.cg {V W : Nat → Int} {h : zH} {q : Nat} (e : ∀ w, w < 51 → W w = V w) (a : WFR V) (o : RObj h q V) : RObj h q W := by
  have a0 := a.1
  refine ⟨by rw [e 0 (by decide)]; exact o.1, fun k hk => ?_⟩
  rw [e 0 (by decide)] at hk
  rw [e (1 + 5 * k) (by omega), e (2 + 5 * k) (by omega), e (3 + 5 * k) (by omega), e (4 + 5 * k) (by omega), e (5 + 5 * k) (by omega)]
  exact o.2 k hk
theorem NCp.eq {h : zH} {I : Nat → Nat → Int32} {x : (Nat → Nat → Option Nat) × (Nat → Nat × Nat) × Nat} {q : Nat} (e : ∀ b, q ≤ b → b < q + 18 → I b = h.1 b) : NCp h (I, x) q q :=
  ⟨fun f _ => congrFun (e _ (by omega) (by omega)) f, fun k _ => ⟨congrFun (e _ (by omega) (by omega)) k, congrFun (e _ (by omega) (by omega)) k, congrFun (e _ (by omega) (by omega)) k⟩, fun m _ => congrFun (e _ (by omega) (by omega)) m, fun p hp => ⟨fun f _ => congrFun (e _ (by omega) (by omega)) f, fun i _ => congrFun (e _ (by omega) (by omega)) i⟩⟩
theorem RCp.eq {h : zH} {I : Nat → Nat → Int32} {x : (Nat → Nat → Option Nat) × (Nat → Nat × Nat) × Nat} {q : Nat} (e : ∀ b, q ≤ b → b < q + 6 → I b = h.1 b) : RCp h (I, x) q q :=
  ⟨congrFun (e _ (by omega) (by omega)) 0, fun k _ => ⟨congrFun (e _ (by omega) (by omega)) k, congrFun (e _ (by omega) (by omega)) k, congrFun (e _ (by omega) (by omega)) k, congrFun (e _ (by omega) (by omega)) k, congrFun (e _ (by omega) (by omega)) k⟩⟩
/-- what stays between two calls, when the told things change as the reference's do -/
theorem Inv.txt {Kept : zH → Prop} {h : zH} {I : Nat → Nat → Int32} {x : (Nat → Nat → Option Nat) × (Nat → Nat × Nat) × Nat} (hI : Inv Kept h) (l1 : lo10 (I, x) 0) (l2 : lo11 (I, x) 313) (hN : zN (I, x) = 339)
    (tape : I 2 = h.1 2) (s54 : I 54 = h.1 54) (s315 : I 315 = h.1 315) (img : ∀ b, 157 ≤ b → b < 313 → I b = h.1 b) (al : ∀ j, (10 ≤ j → j < 610 → I 314 j = h.1 314 j) ∧ (1348 ≤ j → I 314 j = h.1 314 j))
    (len : I 1 1 = I 314 2 ∧ 0 ≤ (I 314 2).toInt ∧ (I 314 2).toInt ≤ 600) (ft : I 1 2 = I 314 3) (fp : I 1 3 = I 314 4) (c0 : I 1 5 = I 314 0 ∧ 0 ≤ (I 314 0).toInt ∧ (I 314 0).toInt ≤ 2) (c1 : I 1 7 = I 314 1 ∧ 0 ≤ (I 314 1).toInt ∧ (I 314 1).toInt ≤ 2)
    (nights : ∀ i : Nat, (i : Int) < (I 314 0).toInt → WFN (RW (I, x) (610 + 318 * i)) ∧ NObj (I, x) (5 + 18 * i) (RW (I, x) (610 + 318 * i))) (reads : ∀ i : Nat, (i : Int) < (I 314 1).toInt → WFR (RV (I, x) (1246 + 51 * i)) ∧ RObj (I, x) (41 + 6 * i) (RV (I, x) (1246 + 51 * i))) (kp : Kept (I, x)) : Inv Kept (I, x) := by
  obtain ⟨_, _, _, hT, hIm, _⟩ := hI
  obtain ⟨q1, q2, q3, q4, q5, q6, q7, q8⟩ := hT
  refine ⟨l1, l2, hN, ⟨fun i hi => ?_, ?_, ft, fp, ?_, c1, fun i hi => ?_, fun i hi => ?_⟩, fun k hk => ?_, kp⟩
  · have e : I 314 (0 + 10 + i) = h.1 314 (0 + 10 + i) := (al _).1 (by omega) (by omega)
    have := q1 i hi
    show I 2 i = I 314 (0 + 10 + i) ∧ 0 ≤ (I 314 (0 + 10 + i)).toInt ∧ (I 314 (0 + 10 + i)).toInt < 256
    rw [e, tape]; exact this
  · exact len
  · exact c0
  · rw [show 0 + 610 + 318 * i = 610 + 318 * i by omega, show 1 + 4 + 18 * i = 5 + 18 * i by omega]; exact nights i hi
  · rw [show 0 + 1246 + 51 * i = 1246 + 51 * i by omega, show 1 + 40 + 6 * i = 41 + 6 * i by omega]; exact reads i hi
  · obtain ⟨r1, r2⟩ := hIm k hk
    show I 54 k = I 315 k ∧ (I 315 k = 0 ∨ I 315 k = 1 ∧ TRel (I, x) (157 + 52 * k) (1348 * (k + 1)))
    rw [s54, s315]
    refine ⟨r1, r2.elim Or.inl (fun r => Or.inr ⟨r.1, r.2.moved (h2 := (I, x)) (fun b b1 b2 j => ?_) (fun j j1 j2 => ?_)⟩)⟩
    · exact congrFun (img b (by omega) (by omega)) j
    · exact (al j).2 (by omega)
end K9X
