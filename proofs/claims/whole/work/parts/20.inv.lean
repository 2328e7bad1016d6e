set_option maxRecDepth 4000
/-! ===== numbers ===== -/
theorem i_bm (n : Int) (h1 : -2147483648 ≤ n) (h2 : n < 2147483648) : n.bmod (2 ^ 32) = n := by
  simp only [Int.bmod]
  split <;> omega
theorem i_add {x y : Int32} (h1 : -2147483648 ≤ x.toInt + y.toInt) (h2 : x.toInt + y.toInt < 2147483648) : (x + y).toInt = x.toInt + y.toInt := by
  rw [Int32.toInt_add]; exact i_bm _ h1 h2
theorem i_sub {x y : Int32} (h1 : -2147483648 ≤ x.toInt - y.toInt) (h2 : x.toInt - y.toInt < 2147483648) : (x - y).toInt = x.toInt - y.toInt := by
  rw [Int32.toInt_sub]; exact i_bm _ h1 h2
theorem i_mul {x y : Int32} (h1 : -2147483648 ≤ x.toInt * y.toInt) (h2 : x.toInt * y.toInt < 2147483648) : (x * y).toInt = x.toInt * y.toInt := by
  rw [Int32.toInt_mul]; exact i_bm _ h1 h2
theorem i_rng (x : Int32) : -2147483648 ≤ x.toInt ∧ x.toInt < 2147483648 := ⟨Int32.le_toInt x, Int32.toInt_lt x⟩
theorem i_ext {x y : Int32} (h : x.toInt = y.toInt) : x = y := Int32.toInt_inj.mp h
theorem i_ofNat {n : Nat} (h : n < 2147483648) : (Int32.ofNat n).toInt = (n : Int) := nI_toInt h
theorem zix_of {x : Int32} {n : Nat} (h : x.toInt = (n : Int)) : zix x = n := by unfold zix; omega
/-! ===== the two systems side by side: ClayPrints is object 0 (0 .. 312), ClayPrintsModel object 313 (313 .. 338) ===== -/
/-- the reference's one array -/
def AL (h : zH) (j : Nat) : Int32 := zI h 314 j
/-- what a told night keeps to: V is its row of 318 numbers -/
def WFN (V : Nat → Int) : Prop :=
  (2 ≤ V 0 ∧ V 0 ≤ 8) ∧ (2 ≤ V 1 ∧ V 1 ≤ 8) ∧ (0 ≤ V 2 ∧ V 2 ≤ 9) ∧ (0 ≤ V 3 ∧ V 3 ≤ 6) ∧ (0 ≤ V 4 ∧ V 4 ≤ 5) ∧
  (∀ m, m < 100 → V (5 + m) = 0 ∨ V (5 + m) = 1) ∧
  (∀ k : Nat, (k : Int) < V 4 → (0 ≤ V (105 + 3 * k) ∧ V (105 + 3 * k) < V 3) ∧ (0 ≤ V (106 + 3 * k) ∧ V (106 + 3 * k) < V 0 * V 1) ∧ (0 ≤ V (107 + 3 * k) ∧ V (107 + 3 * k) < V 0 * V 1)) ∧
  (∀ p : Nat, (p : Int) < V 3 → (0 ≤ V (120 + 33 * p) ∧ V (120 + 33 * p) ≤ 5) ∧ (1 ≤ V (121 + 33 * p) ∧ V (121 + 33 * p) ≤ 3) ∧ (1 ≤ V (122 + 33 * p) ∧ V (122 + 33 * p) ≤ 9) ∧ (0 ≤ V (123 + 33 * p) ∧ V (123 + 33 * p) ≤ 2) ∧ (0 ≤ V (124 + 33 * p) ∧ V (124 + 33 * p) ≤ 2) ∧ (-1 ≤ V (125 + 33 * p) ∧ V (125 + 33 * p) < V 3) ∧ V (125 + 33 * p) ≠ p ∧
    ((V (126 + 33 * p) = -1 ∧ V (127 + 33 * p) = -1 ∧ V (128 + 33 * p) = 0) ∨ ((0 ≤ V (126 + 33 * p) ∧ V (126 + 33 * p) < V 0 * V 1) ∧ (0 ≤ V (127 + 33 * p) ∧ V (127 + 33 * p) ≤ 60) ∧ (1 ≤ V (128 + 33 * p) ∧ V (128 + 33 * p) ≤ 24))) ∧
    ∀ i : Nat, (i : Int) < V (128 + 33 * p) → 0 ≤ V (129 + 33 * p + i) ∧ V (129 + 33 * p + i) ≤ 3)
/-- the Night object q holds the row V -/
def NObj (h : zH) (q : Nat) (V : Nat → Int) : Prop :=
  (∀ f, f < 5 → (zI h q f).toInt = V f) ∧ (∀ m, m < 100 → (zI h (q + 5) m).toInt = V (5 + m)) ∧
  (∀ k : Nat, (k : Int) < V 4 → (zI h (q + 2) k).toInt = V (105 + 3 * k) ∧ (zI h (q + 3) k).toInt = V (106 + 3 * k) ∧ (zI h (q + 4) k).toInt = V (107 + 3 * k)) ∧
  ∀ p : Nat, (p : Int) < V 3 → (∀ f, f < 9 → (zI h (q + 6 + 2 * p) f).toInt = V (120 + 33 * p + f)) ∧ ∀ i : Nat, (i : Int) < V (128 + 33 * p) → (zI h (q + 7 + 2 * p) i).toInt = V (129 + 33 * p + i)
def WFR (V : Nat → Int) : Prop :=
  (0 ≤ V 0 ∧ V 0 ≤ 10) ∧ ∀ k : Nat, (k : Int) < V 0 → (0 ≤ V (1 + 5 * k) ∧ V (1 + 5 * k) ≤ 63) ∧ (0 ≤ V (2 + 5 * k) ∧ V (2 + 5 * k) ≤ 6) ∧ (0 ≤ V (3 + 5 * k) ∧ V (3 + 5 * k) ≤ 1) ∧ (0 ≤ V (4 + 5 * k) ∧ V (4 + 5 * k) ≤ 3) ∧ (1 ≤ V (5 + 5 * k) ∧ V (5 + 5 * k) ≤ 99)
def RObj (h : zH) (q : Nat) (V : Nat → Int) : Prop :=
  (zI h q 0).toInt = V 0 ∧ ∀ k : Nat, (k : Int) < V 0 → (zI h (q + 1) k).toInt = V (1 + 5 * k) ∧ (zI h (q + 2) k).toInt = V (2 + 5 * k) ∧ (zI h (q + 3) k).toInt = V (3 + 5 * k) ∧ (zI h (q + 4) k).toInt = V (4 + 5 * k) ∧ (zI h (q + 5) k).toInt = V (5 + 5 * k)
/-- a row of the reference's array, from b on -/
def RW (h : zH) (b : Nat) : Nat → Int := fun w => (AL h (b + w)).toInt
/-- the Told object t holds what stands in the reference's array from B on -/
def TRel (h : zH) (t B : Nat) : Prop :=
  (∀ i, i < 600 → zI h (t + 1) i = AL h (B + 10 + i) ∧ 0 ≤ (AL h (B + 10 + i)).toInt ∧ (AL h (B + 10 + i)).toInt < 256) ∧
  (zI h t 1 = AL h (B + 2) ∧ 0 ≤ (AL h (B + 2)).toInt ∧ (AL h (B + 2)).toInt ≤ 600) ∧ zI h t 2 = AL h (B + 3) ∧ zI h t 3 = AL h (B + 4) ∧
  (zI h t 5 = AL h B ∧ 0 ≤ (AL h B).toInt ∧ (AL h B).toInt ≤ 2) ∧ (zI h t 7 = AL h (B + 1) ∧ 0 ≤ (AL h (B + 1)).toInt ∧ (AL h (B + 1)).toInt ≤ 2) ∧
  (∀ i : Nat, (i : Int) < (AL h B).toInt → WFN (RW h (B + 610 + 318 * i)) ∧ NObj h (t + 4 + 18 * i) (RW h (B + 610 + 318 * i))) ∧
  ∀ i : Nat, (i : Int) < (AL h (B + 1)).toInt → WFR (RW h (B + 1246 + 51 * i)) ∧ RObj h (t + 40 + 6 * i) (RW h (B + 1246 + 51 * i))
/-- ids on which what is kept from call to call rests -/
def IC (b : Nat) : Prop := b ≤ 54 ∨ (136 ≤ b ∧ b ≤ 312) ∨ b = 314 ∨ b = 315 ∨ 1000000 ≤ b
/-- what holds between two calls; the tours and rows that are kept stand in Kept -/
def Inv (Kept : zH → Prop) (h : zH) : Prop :=
  lo10 h 0 ∧ lo11 h 313 ∧ zN h = 339 ∧ TRel h 1 0 ∧
  (∀ k, k < 3 → zI h 54 k = zI h 315 k ∧ (zI h 315 k = 0 ∨ zI h 315 k = 1 ∧ TRel h (157 + 52 * k) (1348 * (k + 1)))) ∧ Kept h
theorem TRel.kept {h : zH} {I : Nat → Nat → Int32} {t B : Nat} (q : TRel h t B) (ht : ∀ b, t ≤ b → b < t + 52 → ∀ j, I b j = h.1 b j) (ha : ∀ j, I 314 j = h.1 314 j) : TRel (I, h.2) t B := by
  have eA : ∀ j, AL (I, h.2) j = AL h j := ha
  have eR : ∀ b, RW (I, h.2) b = RW h b := fun b => funext fun w => by unfold RW; rw [eA]
  have eI : ∀ b j, t ≤ b → b < t + 52 → zI (I, h.2) b j = zI h b j := fun b j h1 h2 => ht b h1 h2 j
  obtain ⟨q1, q2, q3, q4, q5, q6, q7, q8⟩ := q
  refine ⟨fun i hi => ?_, ?_, ?_, ?_, ?_, ?_, fun i hi => ?_, fun i hi => ?_⟩
  · rw [eI _ _ (by omega) (by omega), eA]; exact q1 i hi
  · rw [eI _ _ (by omega) (by omega), eA]; exact q2
  · rw [eI _ _ (by omega) (by omega), eA]; exact q3
  · rw [eI _ _ (by omega) (by omega), eA]; exact q4
  · rw [eI _ _ (by omega) (by omega), eA]; exact q5
  · rw [eI _ _ (by omega) (by omega), eA]; exact q6
  · rw [eA] at hi
    have hi2 : i < 2 := by have := q5.2.2; omega
    rw [eR]
    obtain ⟨w, n1, n2, n3, n4⟩ := q7 i hi
    have h6 := w.2.2.2.1
    refine ⟨w, fun f hf => ?_, fun m hm => ?_, fun k hk => ?_, fun p hp => ⟨fun f hf => ?_, fun s hs => ?_⟩⟩
    · rw [eI _ _ (by omega) (by omega)]; exact n1 f hf
    · rw [eI _ _ (by omega) (by omega)]; exact n2 m hm
    · rw [eI _ _ (by omega) (by omega), eI _ _ (by omega) (by omega), eI _ _ (by omega) (by omega)]; exact n3 k hk
    · rw [eI _ _ (by omega) (by omega)]; exact (n4 p hp).1 f hf
    · rw [eI _ _ (by omega) (by omega)]; exact (n4 p hp).2 s hs
  · rw [eA] at hi
    have hi2 : i < 2 := by have := q6.2.2; omega
    rw [eR]
    obtain ⟨w, r1, r2⟩ := q8 i hi
    refine ⟨w, ?_, fun k hk => ?_⟩
    · rw [eI _ _ (by omega) (by omega)]; exact r1
    · rw [eI _ _ (by omega) (by omega), eI _ _ (by omega) (by omega), eI _ _ (by omega) (by omega), eI _ _ (by omega) (by omega), eI _ _ (by omega) (by omega)]; exact r2 k hk
def SameC (h : zH) (I : Nat → Nat → Int32) : Prop := ∀ b, IC b → ∀ j, I b j = h.1 b j
theorem Inv.kept {Kept : zH → Prop} {h : zH} {I : Nat → Nat → Int32} (hk : ∀ h I, SameC h I → Kept h → Kept (I, h.2)) (q : Inv Kept h) (s : SameC h I) : Inv Kept (I, h.2) := by
  obtain ⟨q1, q2, q3, q4, q5, q6⟩ := q
  have e4 : ∀ j, I 314 j = h.1 314 j := s 314 (by unfold IC; omega)
  refine ⟨q1, q2, q3, q4.kept (fun b _ _ => s b (by unfold IC; omega)) e4, fun k hk3 => ?_, hk h I s q6⟩
  have e54 : zI (I, h.2) 54 k = zI h 54 k := s 54 (by unfold IC; omega) k
  have e315 : zI (I, h.2) 315 k = zI h 315 k := s 315 (by unfold IC; omega) k
  obtain ⟨r1, r2⟩ := q5 k hk3
  rw [e54, e315]
  exact ⟨r1, r2.elim Or.inl (fun r => Or.inr ⟨r.1, r.2.kept (fun b _ _ => s b (by unfold IC; omega)) e4⟩)⟩
/-- the read-only things, at any point of a walk -/
theorem z_ro {l : Launch} {G : zG} {M : zM} {d : Nat} {Q : Option Value → zH → Prop} {k n pc : Nat} {L S : List Value} {h : zH} (kk : (∀ i, i < 4 → zK h (1000000 + i) = (0, (gO G i).1) ∧ ∀ j, zI h (1000000 + i) j = (gO G i).2 j) → Z l G M d Q k n pc L S h) : Z l G M d Q k n pc L S h :=
  fun p e R s m args below meth c Qs H locs cells slots ls C hR hS hL hc hn => kk hR.2.2.2 p e R s m args below meth c Qs H locs cells slots ls C hR hS hL hc hn
/-- the two methods answer alike, and keep what is kept -/
def Pair (Kept : zH → Prop) (l : Launch) (G : zG) (YC YM : zY) (dc dm : Nat) (args : List Value) : Prop := ∀ h : zH, Inv Kept h → ∃ (F : Int32) (Mid : (Nat → Nat → Int32) → Prop), CTi l G YC dc (va_rf (some 0) :: args) h (fun y I => y = F ∧ Mid I) ∧ (∀ I, Mid I → ∀ j, I 1000000 j = h.1 1000000 j) ∧ ∀ I, Mid I → CTi l G YM dm (va_rf (some 313) :: args) (I, h.2) (fun y I2 => y = F ∧ Inv Kept (I2, h.2))
def PairZ (Kept : zH → Prop) (l : Launch) (G : zG) (YC YM : zY) (dc dm : Nat) (args : List Value) : Prop := ∀ h : zH, Inv Kept h → ∃ (F : Bool) (Mid : (Nat → Nat → Int32) → Prop), CTz l G YC dc (va_rf (some 0) :: args) h (fun y I => y = F ∧ Mid I) ∧ (∀ I, Mid I → ∀ j, I 1000000 j = h.1 1000000 j) ∧ ∀ I, Mid I → CTz l G YM dm (va_rf (some 313) :: args) (I, h.2) (fun y I2 => y = F ∧ Inv Kept (I2, h.2))
def PairJ (Kept : zH → Prop) (l : Launch) (G : zG) (YC YM : zY) (dc dm : Nat) (args : List Value) : Prop := ∀ h : zH, Inv Kept h → ∃ (F : Int64) (Mid : (Nat → Nat → Int32) → Prop), CTj l G YC dc (va_rf (some 0) :: args) h (fun y I => y = F ∧ Mid I) ∧ (∀ I, Mid I → ∀ j, I 1000000 j = h.1 1000000 j) ∧ ∀ I, Mid I → CTj l G YM dm (va_rf (some 313) :: args) (I, h.2) (fun y I2 => y = F ∧ Inv Kept (I2, h.2))
def PairG (Kept : zH → Prop) (l : Launch) (G : zG) (YC YM : zY) (dc dm : Nat) (args : List Value) : Prop := ∀ h : zH, Inv Kept h → ∃ (F : Int32) (Mid : zH → Prop), CTiG l G YC dc (va_rf (some 0) :: args) h (fun y g => y = F ∧ Mid g) ∧ (∀ g, Mid g → lo10 g 0 ∧ lo11 g 313 ∧ (∀ j, zI g 1000000 j = zI h 1000000 j) ∧ ∀ b, zK g b = zK h b) ∧ ∀ g, Mid g → CTi l G YM dm (va_rf (some 313) :: args) g (fun y I2 => y = F ∧ Inv Kept (I2, g.2))
theorem lg_cmp_self (x : Int64) : lg_cmp x x = 0 := by
  unfold lg_cmp
  rw [if_neg (by rw [gt_iff_lt, Int64.lt_iff_toInt_lt]; omega), if_pos rfl]
