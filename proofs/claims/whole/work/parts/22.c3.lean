set_option maxRecDepth 4000
/-! ===== filling, clearing ===== -/
def zfill (h : zH) (q n : Nat) (v : Int32) : Nat → Nat → Int32 := fun b k => if b = q ∧ k < n then v else h.1 b k
theorem i_1 {x : Int32} {n : Nat} (h : x.toInt = (n : Int)) (hn : n < 2147483647) : (x + 1).toInt = ((n + 1 : Nat) : Int) := by
  rw [i_add (by show _ ≤ x.toInt + (1 : Int); omega) (by show x.toInt + (1 : Int) < _; omega)]
  show x.toInt + (1 : Int) = _
  omega
theorem c_fill (l : Launch) (G : zG) (h : zH) (q n : Nat) (v : Int32) (hq : zAw h q n) (hn : n < 100000) : CTv l G YJ7_fill_53178 1 [va_rf (some q), .int v] h (fun I => I = zfill h q n v) := by
  have loop : ∀ (f i : Nat) (x : Int32) (I : Nat → Nat → Int32), i ≤ n → n - i < f → x.toInt = (i : Int) → (I = fun b k => if b = q ∧ k < i then v else h.1 b k) →
      Z l G mJ7_fill_53178 1 (fun w h1 => ∃ I1, w = none ∧ h1 = (I1, h.2) ∧ I1 = zfill h q n v) 0 0 5 [va_rf (some q), .int v, .int x, .int (Int32.ofNat n)] [] (I, h.2) := by
    intro f
    induction f with
    | zero => intro i x I h1 h2; omega
    | succ f ih =>
      intro i x I h1 h2 hx hI
      have hN : (Int32.ofNat n).toInt = (n : Int) := i_ofNat (by omega)
      refine sJ7_fill_53178_5 (some q) v x (Int32.ofNat n) (Nat.le_refl _) ⟨fun c => ⟨I, rfl, rfl, ?_⟩, fun c => ⟨q, n, rfl, hq, by omega, by omega, fun I6 e6 => ?_⟩⟩
      · rw [hI, show i = n by omega]; rfl
      · refine ih (i + 1) (x + 1) I6 (by omega) (by omega) (i_1 hx (by omega)) ?_
        rw [e6, hI]
        funext b k
        show (if b = q ∧ k = zix x then v else if b = q ∧ k < i then v else h.1 b k) = _
        rw [zix_of hx]
        by_cases e : b = q
        · by_cases e2 : k = i
          · rw [if_pos ⟨e, e2⟩, if_pos ⟨e, by omega⟩]
          · rw [if_neg (fun z => e2 z.2)]
            by_cases e3 : k < i
            · rw [if_pos ⟨e, e3⟩, if_pos ⟨e, by omega⟩]
            · rw [if_neg (fun z => e3 z.2), if_neg (fun z => by omega)]
        · rw [if_neg (fun z => e z.1), if_neg (fun z => e z.1), if_neg (fun z => e z.1)]
  refine kJ7_fill_53178 (some q) v (sJ7_fill_53178_0 (some q) v (Nat.le_refl _) ⟨q, n, rfl, hq.r, ?_⟩)
  refine loop (n + 1) 0 0 h.1 (Nat.zero_le _) (by omega) rfl ?_
  funext b k
  rw [if_neg (fun z => by omega)]
def cst (k : Nat) (x : Int32) : Int32 := if k = 8 then 0 else if k = 6 ∨ k = 7 then -1 else x
def cl2 (k : Nat) (x : Int32) : Int32 := if k = 4 ∨ k = 8 then 0 else if k = 5 ∨ k = 6 ∨ k = 7 then -1 else x
theorem c_X2_stay (l : Launch) (G : zG) (h : zH) (a : Nat) (ha : lo2 h a) : CTv l G YX2_stay 1 [va_rf (some a)] h (fun I => I = fun b k => if b = a then cst k (h.1 b k) else h.1 b k) := by
  refine kX2_stay a (sX2_stay_0 a ha (Nat.le_refl _) (fun I1 e1 I2 e2 I3 e3 => ⟨I3, rfl, rfl, ?_⟩))
  subst e1; subst e2; subst e3
  funext b k
  show (if b = a ∧ k = 8 then 0 else if b = a ∧ k = 7 then -1 else if b = a ∧ k = 6 then -1 else h.1 b k) = _
  unfold cst
  by_cases e : b = a
  · simp only [e, true_and, if_true]
    by_cases e8 : k = 8
    · simp [e8]
    · by_cases e7 : k = 7
      · simp [e7]
      · simp [e8, e7]
  · simp [e]
theorem c_X2_clear (l : Launch) (G : zG) (h : zH) (a : Nat) (ha : lo2 h a) : CTv l G YX2_clear 2 [va_rf (some a)] h (fun I => I = fun b k => if b = a then cl2 k (h.1 b k) else h.1 b k) := by
  refine kX2_clear a (sX2_clear_0 a ha (Nat.le_refl _) (fun I1 e1 I2 e2 => ⟨_, c_X2_stay l G (I2, h.2) a ha, fun I3 e3 => ⟨I3, rfl, rfl, ?_⟩⟩))
  subst e1; subst e2; subst e3
  funext b k
  show (if b = a then cst k (if b = a ∧ k = 5 then -1 else if b = a ∧ k = 4 then 0 else h.1 b k) else if b = a ∧ k = 5 then -1 else if b = a ∧ k = 4 then 0 else h.1 b k) = _
  unfold cst cl2
  by_cases e : b = a
  · simp only [e, true_and, if_true]
    by_cases e8 : k = 8
    · simp [e8]
    · by_cases e7 : k = 7
      · simp [e7]
      · by_cases e6 : k = 6
        · simp [e6]
        · by_cases e5 : k = 5
          · simp [e5]
          · simp [e8, e7, e6, e5]
  · simp [e]
def clN (k : Nat) (x : Int32) : Int32 := if k = 0 ∨ k = 1 then 6 else if k = 2 then 2 else if k = 3 ∨ k = 4 then 0 else x
/-- a cleared night: the fields, i of its PEOPLE -/
def zclr (h : zH) (a i : Nat) : Nat → Nat → Int32 := fun b k => if b = a then clN k (h.1 b k) else if a + 6 ≤ b ∧ b < a + 6 + 2 * i ∧ (b - a) % 2 = 0 then cl2 k (h.1 b k) else h.1 b k
def zclN (h : zH) (a : Nat) : Nat → Nat → Int32 := fun b k => if b = a + 5 ∧ k < 100 then 0 else zclr h a 6 b k
theorem per_at {h : zH} {a : Nat} (ha : lo1 h a) {i : Nat} (hi : i < 6) : zR h (a + 1) i = some (a + (6 + 2 * i)) := by
  match i, hi with
  | 0, _ => exact ha.r 5 rfl
  | 1, _ => exact ha.r 7 rfl
  | 2, _ => exact ha.r 9 rfl
  | 3, _ => exact ha.r 11 rfl
  | 4, _ => exact ha.r 13 rfl
  | 5, _ => exact ha.r 15 rfl
  | j + 6, q => omega
theorem per_lo {h : zH} {a : Nat} (ha : lo1 h a) {i : Nat} (hi : i < 6) : lo2 h (a + (6 + 2 * i)) := by
  match i, hi with
  | 0, _ => exact zlo.sub ha 6 (by decide +kernel) (by decide +kernel) (by decide +kernel)
  | 1, _ => exact zlo.sub ha 8 (by decide +kernel) (by decide +kernel) (by decide +kernel)
  | 2, _ => exact zlo.sub ha 10 (by decide +kernel) (by decide +kernel) (by decide +kernel)
  | 3, _ => exact zlo.sub ha 12 (by decide +kernel) (by decide +kernel) (by decide +kernel)
  | 4, _ => exact zlo.sub ha 14 (by decide +kernel) (by decide +kernel) (by decide +kernel)
  | 5, _ => exact zlo.sub ha 16 (by decide +kernel) (by decide +kernel) (by decide +kernel)
  | j + 6, q => omega
theorem c_X1_clear (l : Launch) (G : zG) (h : zH) (a : Nat) (ha : lo1 h a) : CTv l G YX1_clear 3 [va_rf (some a)] h (fun I => I = zclN h a) := by
  have loop : ∀ (f i : Nat) (x : Int32) (I : Nat → Nat → Int32), i ≤ 6 → 6 - i < f → x.toInt = (i : Int) → I = zclr h a i →
      Z l G mX1_clear 3 (fun w h1 => ∃ I1, w = none ∧ h1 = (I1, h.2) ∧ I1 = zclN h a) 0 0 29 [va_rf (some a), .int x] [] (I, h.2) := by
    intro f
    induction f with
    | zero => intro i x I h1 h2; omega
    | succ f ih =>
      intro i x I h1 h2 hx hI
      refine sX1_clear_29 a x ha (Nat.le_refl _) ⟨fun c => ⟨_, c_fill l G (I, h.2) (a + 5) 100 0 (ha.w 5 rfl) (by decide), fun I8 e8 => ⟨I8, rfl, rfl, ?_⟩⟩, fun c => ⟨by omega, by omega, a + (6 + 2 * i), ?_, per_lo ha (by omega), _, c_X2_clear l G (I, h.2) _ (per_lo ha (by omega)), fun I22 e22 => ?_⟩⟩
      · rw [e8, hI, show i = 6 by omega]; rfl
      · rw [zix_of hx]; exact per_at ha (by omega)
      · refine ih (i + 1) (x + 1) I22 (by omega) (by omega) (i_1 hx (by omega)) ?_
        rw [e22, hI]
        funext b k
        show (if b = a + (6 + 2 * i) then cl2 k (zclr h a i b k) else zclr h a i b k) = zclr h a (i + 1) b k
        unfold zclr
        by_cases e : b = a
        · rw [if_neg (show ¬ b = a + (6 + 2 * i) by omega), if_pos e, if_pos e]
        · rw [if_neg e, if_neg e]
          by_cases e2 : b = a + (6 + 2 * i)
          · rw [if_pos e2, if_neg (show ¬ (a + 6 ≤ b ∧ b < a + 6 + 2 * i ∧ (b - a) % 2 = 0) by omega), if_pos (show a + 6 ≤ b ∧ b < a + 6 + 2 * (i + 1) ∧ (b - a) % 2 = 0 by omega)]
          · rw [if_neg e2]
            by_cases e3 : a + 6 ≤ b ∧ b < a + 6 + 2 * i ∧ (b - a) % 2 = 0
            · rw [if_pos e3, if_pos (show a + 6 ≤ b ∧ b < a + 6 + 2 * (i + 1) ∧ (b - a) % 2 = 0 by omega)]
            · rw [if_neg e3, if_neg (show ¬ (a + 6 ≤ b ∧ b < a + 6 + 2 * (i + 1) ∧ (b - a) % 2 = 0) by omega)]
  refine kX1_clear a (sX1_clear_0 a ha (Nat.le_refl _) (fun I1 e1 I2 e2 I3 e3 I4 e4 I5 e5 => ?_))
  refine loop 7 0 0 I5 (by omega) (by omega) rfl ?_
  subst e1; subst e2; subst e3; subst e4; subst e5
  funext b k
  show (if b = a ∧ k = 4 then 0 else if b = a ∧ k = 3 then 0 else if b = a ∧ k = 2 then 2 else if b = a ∧ k = 1 then 6 else if b = a ∧ k = 0 then 6 else h.1 b k) = _
  unfold zclr clN
  by_cases e : b = a
  · simp only [e, true_and, if_true]
    by_cases e4 : k = 4
    · simp [e4]
    · by_cases e3 : k = 3
      · simp [e3]
      · by_cases e2 : k = 2
        · simp [e2]
        · by_cases e1 : k = 1
          · simp [e1]
          · simp [e4, e3, e2, e1]
  · simp only [e, false_and, if_false]
    rw [if_neg (by omega)]
