set_option maxRecDepth 4000
/-! ===== numbers ===== -/
theorem i_bm (n : Int) (h1 : -2147483648 ≤ n) (h2 : n < 2147483648) : n.bmod (2 ^ 32) = n := by
  simp only [Int.bmod]
  split <;> omega
theorem i_add {x y : Int32} (h1 : -2147483648 ≤ x.toInt + y.toInt) (h2 : x.toInt + y.toInt < 2147483648) : (x + y).toInt = x.toInt + y.toInt := by
  rw [Int32.toInt_add]; exact i_bm _ h1 h2
theorem i_sub {x y : Int32} (h1 : -2147483648 ≤ x.toInt - y.toInt) (h2 : x.toInt - y.toInt < 2147483648) : (x - y).toInt = x.toInt - y.toInt := by
  rw [Int32.toInt_sub]; exact i_bm _ h1 h2
theorem i_mul {x y : Int32} (h1 : -2147483648 ≤ x.toInt * y.toInt) (h2 : x.toInt * y.toInt < 2147483648) : (x * y).toInt = x.toInt * y.toInt := by
  rw [Int32.toInt_mul]; exact i_bm _ h1 h2
theorem i_rng (x : Int32) : -2147483648 ≤ x.toInt ∧ x.toInt < 2147483648 := ⟨Int32.le_toInt x, Int32.toInt_lt x⟩
theorem i_ext {x y : Int32} (h : x.toInt = y.toInt) : x = y := Int32.toInt_inj.mp h
theorem i_ofNat {n : Nat} (h : n < 2147483648) : (Int32.ofNat n).toInt = (n : Int) := nI_toInt h
theorem zix_of {x : Int32} {n : Nat} (h : x.toInt = (n : Int)) : zix x = n := by unfold zix; omega
/-! ===== the two systems side by side: ClayPrints is object 0 (0 .. 312), ClayPrintsModel object 313 (313 .. 338) ===== -/
/-- the reference's one array -/
def AL (h : zH) (j : Nat) : Int32 := zI h 314 j
/-- what a told night keeps to: V is its row of 318 numbers -/
def WFN (V : Nat → Int) : Prop :=
  (2 ≤ V 0 ∧ V 0 ≤ 8) ∧ (2 ≤ V 1 ∧ V 1 ≤ 8) ∧ (0 ≤ V 2 ∧ V 2 ≤ 9) ∧ (0 ≤ V 3 ∧ V 3 ≤ 6) ∧ (0 ≤ V 4 ∧ V 4 ≤ 5) ∧
  (∀ m, m < 100 → V (5 + m) = 0 ∨ V (5 + m) = 1) ∧
  (∀ k : Nat, (k : Int) < V 4 → (0 ≤ V (105 + 3 * k) ∧ V (105 + 3 * k) < V 3) ∧ (0 ≤ V (106 + 3 * k) ∧ V (106 + 3 * k) < V 0 * V 1) ∧ (0 ≤ V (107 + 3 * k) ∧ V (107 + 3 * k) < V 0 * V 1)) ∧
  (∀ p : Nat, (p : Int) < V 3 → (0 ≤ V (120 + 33 * p) ∧ V (120 + 33 * p) ≤ 5) ∧ (1 ≤ V (121 + 33 * p) ∧ V (121 + 33 * p) ≤ 3) ∧ (1 ≤ V (122 + 33 * p) ∧ V (122 + 33 * p) ≤ 9) ∧ (0 ≤ V (123 + 33 * p) ∧ V (123 + 33 * p) ≤ 2) ∧ (0 ≤ V (124 + 33 * p) ∧ V (124 + 33 * p) ≤ 2) ∧ (-1 ≤ V (125 + 33 * p) ∧ V (125 + 33 * p) < V 3) ∧ V (125 + 33 * p) ≠ p ∧
    ((V (126 + 33 * p) = -1 ∧ V (127 + 33 * p) = -1 ∧ V (128 + 33 * p) = 0) ∨ ((0 ≤ V (126 + 33 * p) ∧ V (126 + 33 * p) < V 0 * V 1) ∧ (0 ≤ V (127 + 33 * p) ∧ V (127 + 33 * p) ≤ 60) ∧ (1 ≤ V (128 + 33 * p) ∧ V (128 + 33 * p) ≤ 24))) ∧
    ∀ i : Nat, (i : Int) < V (128 + 33 * p) → 0 ≤ V (129 + 33 * p + i) ∧ V (129 + 33 * p + i) ≤ 3)
/-- the Night object q holds the row V -/
def NObj (h : zH) (q : Nat) (V : Nat → Int) : Prop :=
  (∀ f, f < 5 → (zI h q f).toInt = V f) ∧ (∀ m, m < 100 → (zI h (q + 5) m).toInt = V (5 + m)) ∧
  (∀ k : Nat, (k : Int) < V 4 → (zI h (q + 2) k).toInt = V (105 + 3 * k) ∧ (zI h (q + 3) k).toInt = V (106 + 3 * k) ∧ (zI h (q + 4) k).toInt = V (107 + 3 * k)) ∧
  ∀ p : Nat, (p : Int) < V 3 → (∀ f, f < 9 → (zI h (q + 6 + 2 * p) f).toInt = V (120 + 33 * p + f)) ∧ ∀ i : Nat, (i : Int) < V (128 + 33 * p) → (zI h (q + 7 + 2 * p) i).toInt = V (129 + 33 * p + i)
def WFR (V : Nat → Int) : Prop :=
  (0 ≤ V 0 ∧ V 0 ≤ 10) ∧ ∀ k : Nat, (k : Int) < V 0 → (0 ≤ V (1 + 5 * k) ∧ V (1 + 5 * k) ≤ 63) ∧ (0 ≤ V (2 + 5 * k) ∧ V (2 + 5 * k) ≤ 6) ∧ (0 ≤ V (3 + 5 * k) ∧ V (3 + 5 * k) ≤ 1) ∧ (0 ≤ V (4 + 5 * k) ∧ V (4 + 5 * k) ≤ 3) ∧ (1 ≤ V (5 + 5 * k) ∧ V (5 + 5 * k) ≤ 99)
def RObj (h : zH) (q : Nat) (V : Nat → Int) : Prop :=
  (zI h q 0).toInt = V 0 ∧ ∀ k : Nat, (k : Int) < V 0 → (zI h (q + 1) k).toInt = V (1 + 5 * k) ∧ (zI h (q + 2) k).toInt = V (2 + 5 * k) ∧ (zI h (q + 3) k).toInt = V (3 + 5 * k) ∧ (zI h (q + 4) k).toInt = V (4 + 5 * k) ∧ (zI h (q + 5) k).toInt = V (5 + 5 * k)
/-- a row of the reference's array, from b on -/
def RW (h : zH) (b : Nat) : Nat → Int := fun w => if w < 318 then (AL h (b + w)).toInt else 0
def RV (h : zH) (b : Nat) : Nat → Int := fun w => if w < 51 then (AL h (b + w)).toInt else 0
theorem RW_at {h : zH} {b w : Nat} (hw : w < 318) : RW h b w = (AL h (b + w)).toInt := if_pos hw
theorem RV_at {h : zH} {b w : Nat} (hw : w < 51) : RV h b w = (AL h (b + w)).toInt := if_pos hw
theorem RW_cg {h h' : zH} {b b' : Nat} (e : ∀ w, w < 318 → AL h' (b' + w) = AL h (b + w)) : RW h' b' = RW h b := funext fun w => by
  unfold RW
  by_cases q : w < 318
  · rw [if_pos q, if_pos q, e w q]
  · rw [if_neg q, if_neg q]
theorem RV_cg {h h' : zH} {b b' : Nat} (e : ∀ w, w < 51 → AL h' (b' + w) = AL h (b + w)) : RV h' b' = RV h b := funext fun w => by
  unfold RV
  by_cases q : w < 51
  · rw [if_pos q, if_pos q, e w q]
  · rw [if_neg q, if_neg q]
/-- the Told object t holds what stands in the reference's array from B on -/
def TRel (h : zH) (t B : Nat) : Prop :=
  (∀ i, i < 600 → zI h (t + 1) i = AL h (B + 10 + i) ∧ 0 ≤ (AL h (B + 10 + i)).toInt ∧ (AL h (B + 10 + i)).toInt < 256) ∧
  (zI h t 1 = AL h (B + 2) ∧ 0 ≤ (AL h (B + 2)).toInt ∧ (AL h (B + 2)).toInt ≤ 600) ∧ zI h t 2 = AL h (B + 3) ∧ zI h t 3 = AL h (B + 4) ∧
  (zI h t 5 = AL h B ∧ 0 ≤ (AL h B).toInt ∧ (AL h B).toInt ≤ 2) ∧ (zI h t 7 = AL h (B + 1) ∧ 0 ≤ (AL h (B + 1)).toInt ∧ (AL h (B + 1)).toInt ≤ 2) ∧
  (∀ i : Nat, (i : Int) < (AL h B).toInt → WFN (RW h (B + 610 + 318 * i)) ∧ NObj h (t + 4 + 18 * i) (RW h (B + 610 + 318 * i))) ∧
  ∀ i : Nat, (i : Int) < (AL h (B + 1)).toInt → WFR (RV h (B + 1246 + 51 * i)) ∧ RObj h (t + 40 + 6 * i) (RV h (B + 1246 + 51 * i))
/-- ids on which what is kept from call to call rests -/
def IC (b : Nat) : Prop := b ≤ 54 ∨ (136 ≤ b ∧ b ≤ 312) ∨ b = 314 ∨ b = 315 ∨ 1000000 ≤ b
/-- what holds between two calls; the tours and rows that are kept stand in Kept -/
def Inv (Kept : zH → Prop) (h : zH) : Prop :=
  lo10 h 0 ∧ lo11 h 313 ∧ zN h = 339 ∧ TRel h 1 0 ∧
  (∀ k, k < 3 → zI h 54 k = zI h 315 k ∧ (zI h 315 k = 0 ∨ zI h 315 k = 1 ∧ TRel h (157 + 52 * k) (1348 * (k + 1)))) ∧ Kept h
/-- what one Night, Reading, Told holds, another one (in another heap) holds too -/
def NCp (h h2 : zH) (q q2 : Nat) : Prop := (∀ f, f < 5 → zI h2 q2 f = zI h q f) ∧ (∀ k, k < 5 → zI h2 (q2 + 2) k = zI h (q + 2) k ∧ zI h2 (q2 + 3) k = zI h (q + 3) k ∧ zI h2 (q2 + 4) k = zI h (q + 4) k) ∧ (∀ m, m < 100 → zI h2 (q2 + 5) m = zI h (q + 5) m) ∧
  ∀ p, p < 6 → (∀ f, f < 9 → zI h2 (q2 + 6 + 2 * p) f = zI h (q + 6 + 2 * p) f) ∧ ∀ i, i < 24 → zI h2 (q2 + 7 + 2 * p) i = zI h (q + 7 + 2 * p) i
def RCp (h h2 : zH) (q q2 : Nat) : Prop := zI h2 q2 0 = zI h q 0 ∧ ∀ k, k < 10 → zI h2 (q2 + 1) k = zI h (q + 1) k ∧ zI h2 (q2 + 2) k = zI h (q + 2) k ∧ zI h2 (q2 + 3) k = zI h (q + 3) k ∧ zI h2 (q2 + 4) k = zI h (q + 4) k ∧ zI h2 (q2 + 5) k = zI h (q + 5) k
def TCp (h h2 : zH) (t t2 : Nat) : Prop := (∀ i, i < 600 → zI h2 (t2 + 1) i = zI h (t + 1) i) ∧ (zI h2 t2 1 = zI h t 1 ∧ zI h2 t2 2 = zI h t 2 ∧ zI h2 t2 3 = zI h t 3 ∧ zI h2 t2 5 = zI h t 5 ∧ zI h2 t2 7 = zI h t 7) ∧ (∀ i, i < 2 → NCp h h2 (t + 4 + 18 * i) (t2 + 4 + 18 * i)) ∧ ∀ i, i < 2 → RCp h h2 (t + 40 + 6 * i) (t2 + 40 + 6 * i)
theorem NObj.cp {h h2 : zH} {q q2 : Nat} {V : Nat → Int} (w : WFN V) (n : NObj h q V) (c : NCp h h2 q q2) : NObj h2 q2 V := by
  obtain ⟨n1, n2, n3, n4⟩ := n
  obtain ⟨c1, c2, c3, c4⟩ := c
  have h5 := w.2.2.2.2.1
  have h6 := w.2.2.2.1
  refine ⟨fun f hf => by rw [c1 f hf]; exact n1 f hf, fun m hm => by rw [c3 m hm]; exact n2 m hm, fun k hk => ?_, fun p hp => ⟨fun f hf => by rw [(c4 p (by omega)).1 f hf]; exact (n4 p hp).1 f hf, fun i hi => ?_⟩⟩
  · obtain ⟨d1, d2, d3⟩ := c2 k (by omega)
    rw [d1, d2, d3]; exact n3 k hk
  · have w8 := (w.2.2.2.2.2.2.2 p hp).2.2.2.2.2.2.2.1
    rw [(c4 p (by omega)).2 i (by omega)]; exact (n4 p hp).2 i hi
theorem RObj.cp {h h2 : zH} {q q2 : Nat} {V : Nat → Int} (w : WFR V) (n : RObj h q V) (c : RCp h h2 q q2) : RObj h2 q2 V := by
  obtain ⟨n1, n2⟩ := n
  obtain ⟨c1, c2⟩ := c
  have h5 := w.1
  refine ⟨by rw [c1]; exact n1, fun k hk => ?_⟩
  obtain ⟨d1, d2, d3, d4, d5⟩ := c2 k (by omega)
  rw [d1, d2, d3, d4, d5]; exact n2 k hk
theorem TRel.cp {h h2 : zH} {t B t2 B2 : Nat} (q : TRel h t B) (ha : ∀ j, j < 1348 → AL h2 (B2 + j) = AL h (B + j)) (c : TCp h h2 t t2) : TRel h2 t2 B2 := by
  obtain ⟨q1, q2, q3, q4, q5, q6, q7, q8⟩ := q
  obtain ⟨c1, ⟨f1, f2, f3, f4, f5⟩, c3, c4⟩ := c
  refine ⟨fun i hi => ?_, ?_, ?_, ?_, ?_, ?_, fun i hi => ?_, fun i hi => ?_⟩
  · rw [c1 i hi, show B2 + 10 + i = B2 + (10 + i) by omega, ha _ (by omega), show B + (10 + i) = B + 10 + i by omega]; exact q1 i hi
  · rw [f1, ha 2 (by decide)]; exact q2
  · rw [f2, ha 3 (by decide)]; exact q3
  · rw [f3, ha 4 (by decide)]; exact q4
  · have := ha 0 (by decide)
    rw [Nat.add_zero, Nat.add_zero] at this
    rw [f4, this]; exact q5
  · rw [f5, ha 1 (by decide)]; exact q6
  · have h0 := ha 0 (by decide)
    rw [Nat.add_zero, Nat.add_zero] at h0
    rw [h0] at hi
    have hi2 : i < 2 := by have := q5.2.2; omega
    obtain ⟨w, n⟩ := q7 i hi
    have e : RW h2 (B2 + 610 + 318 * i) = RW h (B + 610 + 318 * i) := RW_cg fun w hw => by
      rw [show B2 + 610 + 318 * i + w = B2 + (610 + 318 * i + w) by omega, ha _ (by omega)]; exact congrArg (AL h) (by omega)
    rw [e]
    exact ⟨w, n.cp w (c3 i hi2)⟩
  · rw [ha 1 (by decide)] at hi
    have hi2 : i < 2 := by have := q6.2.2; omega
    obtain ⟨w, n⟩ := q8 i hi
    have e : RV h2 (B2 + 1246 + 51 * i) = RV h (B + 1246 + 51 * i) := RV_cg fun w hw => by
      rw [show B2 + 1246 + 51 * i + w = B2 + (1246 + 51 * i + w) by omega, ha _ (by omega)]; exact congrArg (AL h) (by omega)
    rw [e]
    exact ⟨w, n.cp w (c4 i hi2)⟩
theorem TCp.same {h h2 : zH} {t : Nat} (ht : ∀ b, t ≤ b → b < t + 52 → ∀ j, zI h2 b j = zI h b j) : TCp h h2 t t := by
  refine ⟨fun i _ => ht _ (by omega) (by omega) i, ⟨ht _ (by omega) (by omega) _, ht _ (by omega) (by omega) _, ht _ (by omega) (by omega) _, ht _ (by omega) (by omega) _, ht _ (by omega) (by omega) _⟩, fun i hi => ⟨fun f _ => ht _ (by omega) (by omega) f, fun k _ => ⟨ht _ (by omega) (by omega) k, ht _ (by omega) (by omega) k, ht _ (by omega) (by omega) k⟩, fun m _ => ht _ (by omega) (by omega) m, fun p hp => ⟨fun f _ => ht _ (by omega) (by omega) f, fun i _ => ht _ (by omega) (by omega) i⟩⟩, fun i hi => ⟨ht _ (by omega) (by omega) 0, fun k _ => ⟨ht _ (by omega) (by omega) k, ht _ (by omega) (by omega) k, ht _ (by omega) (by omega) k, ht _ (by omega) (by omega) k, ht _ (by omega) (by omega) k⟩⟩⟩
theorem TRel.moved {h h2 : zH} {t B : Nat} (q : TRel h t B) (ht : ∀ b, t ≤ b → b < t + 52 → ∀ j, zI h2 b j = zI h b j) (ha : ∀ j, B ≤ j → j < B + 1348 → AL h2 j = AL h j) : TRel h2 t B :=
  q.cp (fun j hj => ha _ (by omega) (by omega)) (TCp.same ht)
theorem TRel.kept {h : zH} {I : Nat → Nat → Int32} {t B : Nat} (q : TRel h t B) (ht : ∀ b, t ≤ b → b < t + 52 → ∀ j, I b j = h.1 b j) (ha : ∀ j, I 314 j = h.1 314 j) : TRel (I, h.2) t B :=
  q.moved (h2 := (I, h.2)) ht (fun j _ _ => ha j)
def SameC (h : zH) (I : Nat → Nat → Int32) : Prop := ∀ b, IC b → ∀ j, I b j = h.1 b j
theorem Inv.kept {Kept : zH → Prop} {h : zH} {I : Nat → Nat → Int32} (hk : ∀ h I, SameC h I → Kept h → Kept (I, h.2)) (q : Inv Kept h) (s : SameC h I) : Inv Kept (I, h.2) := by
  obtain ⟨q1, q2, q3, q4, q5, q6⟩ := q
  have e4 : ∀ j, I 314 j = h.1 314 j := s 314 (by unfold IC; omega)
  refine ⟨q1, q2, q3, q4.kept (fun b _ _ => s b (by unfold IC; omega)) e4, fun k hk3 => ?_, hk h I s q6⟩
  have e54 : zI (I, h.2) 54 k = zI h 54 k := s 54 (by unfold IC; omega) k
  have e315 : zI (I, h.2) 315 k = zI h 315 k := s 315 (by unfold IC; omega) k
  obtain ⟨r1, r2⟩ := q5 k hk3
  rw [e54, e315]
  exact ⟨r1, r2.elim Or.inl (fun r => Or.inr ⟨r.1, r.2.kept (fun b _ _ => s b (by unfold IC; omega)) e4⟩)⟩
/-- the read-only things, at any point of a walk -/
theorem z_ro {l : Launch} {G : zG} {M : zM} {d : Nat} {Q : Option Value → zH → Prop} {k n pc : Nat} {L S : List Value} {h : zH} (kk : (∀ i, i < 4 → zK h (1000000 + i) = (0, (gO G i).1) ∧ ∀ j, zI h (1000000 + i) j = (gO G i).2 j) → Z l G M d Q k n pc L S h) : Z l G M d Q k n pc L S h :=
  fun p e R s m args below meth c Qs H locs cells slots ls C hR hS hL hc hn => kk hR.2.2.2 p e R s m args below meth c Qs H locs cells slots ls C hR hS hL hc hn
/-- the two methods answer alike, and keep what is kept -/
def Pair (Kept : zH → Prop) (l : Launch) (G : zG) (YC YM : zY) (dc dm : Nat) (args : List Value) : Prop := ∀ h : zH, Inv Kept h → ∃ (F : Int32) (Mid : (Nat → Nat → Int32) → Prop), CTi l G YC dc (va_rf (some 0) :: args) h (fun y I => y = F ∧ Mid I) ∧ (∀ I, Mid I → ∀ j, I 1000000 j = h.1 1000000 j) ∧ ∀ I, Mid I → CTi l G YM dm (va_rf (some 313) :: args) (I, h.2) (fun y I2 => y = F ∧ Inv Kept (I2, h.2))
def PairZ (Kept : zH → Prop) (l : Launch) (G : zG) (YC YM : zY) (dc dm : Nat) (args : List Value) : Prop := ∀ h : zH, Inv Kept h → ∃ (F : Bool) (Mid : (Nat → Nat → Int32) → Prop), CTz l G YC dc (va_rf (some 0) :: args) h (fun y I => y = F ∧ Mid I) ∧ (∀ I, Mid I → ∀ j, I 1000000 j = h.1 1000000 j) ∧ ∀ I, Mid I → CTz l G YM dm (va_rf (some 313) :: args) (I, h.2) (fun y I2 => y = F ∧ Inv Kept (I2, h.2))
def PairJ (Kept : zH → Prop) (l : Launch) (G : zG) (YC YM : zY) (dc dm : Nat) (args : List Value) : Prop := ∀ h : zH, Inv Kept h → ∃ (F : Int64) (Mid : (Nat → Nat → Int32) → Prop), CTj l G YC dc (va_rf (some 0) :: args) h (fun y I => y = F ∧ Mid I) ∧ (∀ I, Mid I → ∀ j, I 1000000 j = h.1 1000000 j) ∧ ∀ I, Mid I → CTj l G YM dm (va_rf (some 313) :: args) (I, h.2) (fun y I2 => y = F ∧ Inv Kept (I2, h.2))
def PairG (Kept : zH → Prop) (l : Launch) (G : zG) (YC YM : zY) (dc dm : Nat) (args : List Value) : Prop := ∀ h : zH, Inv Kept h → ∃ (F : Int32) (Mid : zH → Prop), CTiG l G YC dc (va_rf (some 0) :: args) h (fun y g => y = F ∧ Mid g) ∧ (∀ g, Mid g → lo10 g 0 ∧ lo11 g 313 ∧ (∀ j, zI g 1000000 j = zI h 1000000 j) ∧ ∀ b, zK g b = zK h b) ∧ ∀ g, Mid g → CTi l G YM dm (va_rf (some 313) :: args) g (fun y I2 => y = F ∧ Inv Kept (I2, g.2))
theorem lg_cmp_self (x : Int64) : lg_cmp x x = 0 := by
  unfold lg_cmp
  rw [if_neg (by rw [gt_iff_lt, Int64.lt_iff_toInt_lt]; omega), if_pos rfl]
