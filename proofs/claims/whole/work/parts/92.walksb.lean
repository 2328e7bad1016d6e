set_option maxRecDepth 4000
/-! ===== rows of signs: the class's objects ===== -/
section K92
variable {V R : Nat → Int}
/-! bits of ints -/
def ibt (x : Int32) (b : Nat) : Bool := x.toBitVec.getLsbD b
theorem ibt_and {x y : Int32} {b : Nat} : ibt (x &&& y) b = (ibt x b && ibt y b) := by
  unfold ibt
  rw [Int32.toBitVec_and, BitVec.getLsbD_and]
theorem ibt_or {x y : Int32} {b : Nat} : ibt (x ||| y) b = (ibt x b || ibt y b) := by
  unfold ibt
  rw [Int32.toBitVec_or, BitVec.getLsbD_or]
theorem ibt_not {x : Int32} {b : Nat} (hb : b < 32) : ibt (x ^^^ (-1)) b = !ibt x b := by
  unfold ibt
  rw [Int32.toBitVec_xor, BitVec.getLsbD_xor, show (-1 : Int32).toBitVec = BitVec.allOnes 32 from by decide, BitVec.getLsbD_allOnes, decide_eq_true hb, Bool.xor_true]
theorem ibt_0 {b : Nat} : ibt 0 b = false := by
  unfold ibt
  exact BitVec.getLsbD_zero
theorem ibt_big {x : Int32} {b : Nat} (h : 32 ≤ b) : ibt x b = false := BitVec.getLsbD_of_ge _ _ h
theorem ibt_ext {x y : Int32} (h : ∀ b, b < 32 → ibt x b = ibt y b) : x = y := Int32.toBitVec_inj.mp (BitVec.eq_of_getLsbD_eq (fun i hi => h i hi))
theorem ibt_t : ∀ k, k < 10 → ∀ b, b < 32 → ibt (bit1 k) b = decide (b = k) := by decide +kernel
theorem ibt_1 {k b : Nat} (hk : k < 10) : ibt (bit1 k) b = decide (b = k) := by
  by_cases h : b < 32
  · exact ibt_t k hk b h
  · rw [ibt_big (by omega), decide_eq_false (by omega)]
theorem ibt_nat {x : Int32} {m b : Nat} (h : x.toInt = (m : Int)) : ibt x b = m.testBit b := by
  have hx := x.toBitVec.isLt
  have e : x.toBitVec.toNat = m := by
    have : x.toBitVec.toInt = (m : Int) := h
    rw [BitVec.toInt_eq_toNat_cond] at this
    split at this <;> omega
  rw [← e]; rfl
/-- nothing of x but what y has too -/
theorem ibt_sub {x y : Int32} : x &&& (y ^^^ (-1)) = 0 ↔ ∀ b, b < 32 → ibt x b = true → ibt y b = true := by
  refine ⟨fun h b hb hx => ?_, fun h => ibt_ext (fun b hb => ?_)⟩
  · have e : ibt (x &&& (y ^^^ (-1))) b = false := by rw [h]; exact ibt_0
    rw [ibt_and, ibt_not hb, hx] at e
    cases q : ibt y b with
    | true => rfl
    | false => rw [q] at e; cases e
  · rw [ibt_and, ibt_not hb, ibt_0]
    cases q : ibt x b with
    | false => rfl
    | true => rw [h b hb q]; rfl
theorem ibt_one {x y : Int32} {k : Nat} (hk : k < 10) : (x &&& (y ^^^ (-1))) &&& bit1 k = 0 ↔ ¬ (ibt x k = true ∧ ibt y k = false) := by
  refine ⟨fun h ⟨h1, h2⟩ => ?_, fun h => ibt_ext (fun b hb => ?_)⟩
  · have e : ibt ((x &&& (y ^^^ (-1))) &&& bit1 k) k = false := by rw [h]; exact ibt_0
    rw [ibt_and, ibt_and, ibt_not (by omega), ibt_1 hk, h1, h2, decide_eq_true rfl] at e
    cases e
  · rw [ibt_and, ibt_and, ibt_not hb, ibt_1 hk, ibt_0]
    by_cases e : b = k
    · subst e
      cases q1 : ibt x b with
      | false => rfl
      | true =>
        cases q2 : ibt y b with
        | true => rfl
        | false => exact absurd ⟨q1, q2⟩ h
    · rw [decide_eq_false e, Bool.and_false]
theorem ibt_orP {f : Nat → Int32} {b : Nat} : ∀ n, ibt (orP f n) b = decide (∃ k, k < n ∧ ibt (f k) b = true)
  | 0 => by
    rw [decide_eq_false (fun ⟨k, h, _⟩ => by omega)]
    exact ibt_0
  | n + 1 => by
    show ibt (orP f n ||| f n) b = _
    rw [ibt_or, ibt_orP n]
    cases q : ibt (f n) b with
    | true => rw [Bool.or_true]; exact (decide_eq_true ⟨n, by omega, q⟩).symm
    | false =>
      rw [Bool.or_false]
      refine decide_eq_decide.mpr ⟨fun ⟨k, h1, h2⟩ => ⟨k, by omega, h2⟩, fun ⟨k, h1, h2⟩ => ⟨k, ?_, h2⟩⟩
      by_cases e : k = n
      · rw [e, q] at h2; cases h2
      · omega
/-- may sign b follow sign a -/
def fF (V R : Nat → Int) (a b : Nat) : Bool := ibt (flF V R a) b
def nR (R : Nat → Int) : Nat := (R 0).toNat
theorem nR_ok (wr : WFR R) : R 0 = (nR R : Int) ∧ nR R ≤ 10 := by
  have := wr.1
  unfold nR
  omega
theorem fF_lt (wr : WFR R) {a b : Nat} (h : fF V R a b = true) : b < nR R := by
  have ev := nR_ok wr
  unfold fF flF at h
  rw [ibt_orP] at h
  obtain ⟨k, h1, h2⟩ := of_decide_eq_true h
  have k10 : k < nR R := h1
  split at h2
  · rw [ibt_1 (by omega)] at h2
    have := of_decide_eq_true h2
    omega
  · rw [ibt_0] at h2; cases h2
/-- how a next sign stands in an array -/
def ov (v : Nat) : Int32 := if v = 10 then -1 else Int32.ofNat v
theorem ov_10 : ov 10 = -1 := rfl
theorem ov_n {v : Nat} (h : v < 10) : (ov v).toInt = (v : Int) ∧ ov v ≠ -1 := by
  have e : ov v = Int32.ofNat v := if_neg (by omega)
  have e2 : (Int32.ofNat v).toInt = (v : Int) := i_ofNat (by omega)
  rw [e]
  refine ⟨e2, fun z => ?_⟩
  have := n_m1.mp z
  omega
def SRf (h : zH) (V R : Nat → Int) (M L : Nat) (any : Bool) : Prop :=
  (zI h 150 0).toInt = R 0 ∧ (∀ k, k < nR R → zI h 152 k = flF V R k) ∧ (zI h 150 6).toInt = (L : Int) ∧ (zI h 150 7).toInt = (M : Int) ∧ (zI h 150 8 = 0 ↔ any = false)
def SRn (h : zH) (n : Nat) (nx : Nat → Nat) : Prop :=
  (∀ k, k < 10 → zI h 154 k = ov (nx k)) ∧ (∀ b, b < 10 → (∀ a, nx a = b → (zI h 155 b).toInt = (a : Int)) ∧ ((∀ a, nx a ≠ b) → zI h 155 b = -1)) ∧ ∀ b, b < 10 → (ibt (zI h 150 10) b = true ↔ ∃ a, a < n ∧ nx a = b)
def Fr4 (h : zH) (I : Nat → Nat → Int32) : Prop := (∀ b, b ≠ 150 → b ≠ 154 → b ≠ 155 → b ≠ 156 → I b = h.1 b) ∧ ∀ k, k ≠ 9 → k ≠ 10 → I 150 k = h.1 150 k
theorem Fr4.rf (h : zH) : Fr4 h h.1 := ⟨fun _ _ _ _ _ => rfl, fun _ _ _ => rfl⟩
theorem Fr4.tr {h : zH} {I J : Nat → Nat → Int32} (a : Fr4 h I) (c : Fr4 (I, h.2) J) : Fr4 h J := ⟨fun b z1 z2 z3 z4 => (c.1 b z1 z2 z3 z4).trans (a.1 b z1 z2 z3 z4), fun k z1 z2 => (c.2 k z1 z2).trans (a.2 k z1 z2)⟩
theorem Fr4.f {h : zH} {I : Nat → Nat → Int32} {M L : Nat} {any : Bool} (a : Fr4 h I) (s : SRf h V R M L any) : SRf (I, h.2) V R M L any := by
  obtain ⟨s1, s2, s3, s4, s5⟩ := s
  have e : ∀ k, k ≠ 9 → k ≠ 10 → zI (I, h.2) 150 k = zI h 150 k := a.2
  refine ⟨by rw [e 0 (by decide) (by decide)]; exact s1, fun k hk => ?_, by rw [e 6 (by decide) (by decide)]; exact s3, by rw [e 7 (by decide) (by decide)]; exact s4, by rw [e 8 (by decide) (by decide)]; exact s5⟩
  show I 152 k = _
  rw [a.1 152 (by decide) (by decide) (by decide) (by decide)]; exact s2 k hk
def s1W (any : Bool) (s : Nat × (Nat → Nat)) (x : Nat → Nat) : Nat × (Nat → Nat) := if any = true ∧ 0 < s.1 then s else (s.1 + 1, if s.1 = 0 then x else s.2)
def rnW (any : Bool) (X : List (Nat → Nat)) (s : Nat × (Nat → Nat)) : Nat × (Nat → Nat) := X.foldl (s1W any) s
theorem rnW_app {any : Bool} {X Y : List (Nat → Nat)} {s : Nat × (Nat → Nat)} : rnW any (X ++ Y) s = rnW any Y (rnW any X s) := List.foldl_append
theorem rnW_stop {s : Nat × (Nat → Nat)} (h : 0 < s.1) : ∀ X, rnW true X s = s
  | [] => rfl
  | x :: X => by
    show rnW true X (s1W true s x) = s
    rw [show s1W true s x = s from if_pos ⟨rfl, h⟩]
    exact rnW_stop h X
theorem rnW_le {any : Bool} : ∀ {X : List (Nat → Nat)} {s : Nat × (Nat → Nat)}, (rnW any X s).1 ≤ s.1 + X.length
  | [], s => Nat.le_refl _
  | x :: X, s => by
    have := rnW_le (any := any) (X := X) (s := s1W any s x)
    have e : (s1W any s x).1 ≤ s.1 + 1 := by
      unfold s1W
      split
      · omega
      · exact Nat.le_refl _
    show (rnW any X (s1W any s x)).1 ≤ s.1 + (X.length + 1)
    omega
theorem rnW_all : ∀ {X : List (Nat → Nat)} {s : Nat × (Nat → Nat)}, (rnW false X s).1 = s.1 + X.length
  | [], s => rfl
  | x :: X, s => by
    have := rnW_all (X := X) (s := s1W false s x)
    have e : (s1W false s x).1 = s.1 + 1 := by
      unfold s1W
      rw [if_neg (fun z => by cases z.1)]
    show (rnW false X (s1W false s x)).1 = s.1 + (X.length + 1)
    rw [this, e]; omega
theorem rnW_keep {any : Bool} : ∀ {X : List (Nat → Nat)} {s : Nat × (Nat → Nat)}, 0 < s.1 → (rnW any X s).2 = s.2 ∧ 0 < (rnW any X s).1
  | [], s, h => ⟨rfl, h⟩
  | x :: X, s, h => by
    have e : (s1W any s x).2 = s.2 ∧ 0 < (s1W any s x).1 := by
      unfold s1W
      split
      · exact ⟨rfl, h⟩
      · exact ⟨if_neg (by omega), by show 0 < s.1 + 1; omega⟩
    have := rnW_keep (any := any) (X := X) e.2
    exact ⟨this.1.trans e.1, this.2⟩
theorem rnW_hd {any : Bool} {x : Nat → Nat} {X : List (Nat → Nat)} {fd : Nat → Nat} : 0 < (rnW any (x :: X) (0, fd)).1 ∧ (rnW any (x :: X) (0, fd)).2 = x := by
  have e : s1W any (0, fd) x = (1, x) := by
    unfold s1W
    rw [if_neg (fun z => absurd z.2 (Nat.lt_irrefl 0)), if_pos rfl]
  show 0 < (rnW any X (s1W any (0, fd) x)).1 ∧ (rnW any X (s1W any (0, fd) x)).2 = x
  rw [e]
  have := rnW_keep (any := any) (X := X) (s := (1, x)) (show 0 < 1 by decide)
  exact ⟨this.2, this.1⟩
def Wst (h : zH) (s : Nat × (Nat → Nat)) : Prop := (zI h 150 9).toInt = (s.1 : Int) ∧ (0 < s.1 → ∀ k, k < 10 → zI h 156 k = ov (s.2 k))
end K92
