set_option maxRecDepth 4000
section K32
variable {TK : (Nat → Int) → (Nat → Int32) → (Nat → Int32) → Prop} {RK : (Nat → Int) → (Nat → Int) → (Nat → Int32) → (Nat → Int32) → (Nat → Int32) → (Nat → Int32) → Prop}
theorem pp_end (l : Launch) (G : zG) : P_end (KeptP TK RK) l G := fun x1 h hI => by
  obtain ⟨q1, q2, q3, q4, q5, q6, q7, q8⟩ := hI.2.2.2.1
  have e1 : zI h (0 + 1) 1 = AL h 2 := q2.1
  have e2 : zI h (313 + 1) (zix 2) = AL h 2 := rfl
  have r2 : 0 ≤ (AL h 2).toInt ∧ (AL h 2).toInt ≤ 600 := q2.2
  by_cases c : x1.toInt < 0 ∨ (AL h 2).toInt < x1.toInt
  · refine ⟨-1, fun I => I = h.1, ?_, fun I e j => by rw [e], fun I e => ?_⟩
    · refine kX10_end 0 x1 (sX10_end_0 0 x1 hI.1 (Nat.le_refl _) ⟨fun c1 => ⟨-1, h.1, rfl, rfl, rfl, rfl⟩, fun c2 => ⟨fun c3 I9 c4 => ?_, fun c5 => ⟨-1, h.1, rfl, rfl, rfl, rfl⟩⟩⟩)
      rw [e1] at c3; omega
    · subst e
      refine kX11_end 313 x1 (sX11_end_0 313 x1 hI.2.1 (Nat.le_refl _) ⟨fun c1 => ⟨-1, h.1, rfl, rfl, rfl, hI⟩, fun c2 => ⟨fun c3 I9 c4 => ?_, fun c5 => ⟨-1, h.1, rfl, rfl, rfl, hI⟩⟩⟩)
      rw [show zI (h.1, h.2) (313 + 1) (zix 2) = AL h 2 from rfl] at c3; omega
  · refine ⟨x1, fun I => I = (zwI h 1 1 x1).1, ?_, fun I e j => ?_, fun I e => ?_⟩
    · refine kX10_end 0 x1 (sX10_end_0 0 x1 hI.1 (Nat.le_refl _) ⟨fun c1 => ?_, fun c2 => ⟨fun c3 I9 c4 => ⟨x1, I9, rfl, rfl, rfl, c4⟩, fun c5 => ?_⟩⟩)
      · omega
      · rw [e1] at c5; omega
    · rw [e]; exact zI_wo (h := h) (a := 1) (b := 1000000) (by decide) j
    · have eM : zI (I, h.2) (313 + 1) (zix 2) = AL h 2 := by rw [e]; exact zI_wo (h := h) (a := 1) (b := 314) (by decide) 2
      refine kX11_end 313 x1 (sX11_end_0 313 x1 hI.2.1 (Nat.le_refl _) ⟨fun c1 => ?_, fun c2 => ⟨fun c3 I9 c4 => ⟨x1, I9, rfl, rfl, rfl, ?_⟩, fun c5 => ?_⟩⟩)
      · omega
      · have eJ : ∀ b k, I9 b k = if b = 314 ∧ k = 2 then x1 else if b = 1 ∧ k = 1 then x1 else h.1 b k := fun b k => by rw [c4, e]; rfl
        refine Inv.fed hI (fun b _ h1 _ h3 j => ?_) (fun j hj => ?_) (fun j hj _ => ?_) ⟨?_, ?_⟩ (fun i hi => ?_)
        · rw [eJ, if_neg (fun z => h3 z.1), if_neg (fun z => h1 z.1)]
        · rw [eJ, if_neg (fun z => absurd z.1 (by decide)), if_neg (fun z => hj z.2)]
        · rw [eJ, if_neg (fun z => hj z.2), if_neg (fun z => absurd z.1 (by decide))]
        · rw [eJ, eJ]; rfl
        · rw [eJ, if_pos ⟨rfl, rfl⟩]; omega
        · rw [eJ, eJ, if_neg (fun z => absurd z.1 (by decide)), if_neg (fun z => absurd z.1 (by decide)), if_neg (fun z => by omega), if_neg (fun z => absurd z.1 (by decide))]
          have := q1 i hi
          rw [show 0 + 10 + i = 10 + i by omega] at this
          exact this
      · rw [eM] at c5; omega
/-! ===== feed ===== -/
def apf (h : zH) (a L : Nat) (x : Int32) (j : Nat) : Nat → Nat → Int32 := fun b k => if b = a ∧ k = 1 then Int32.ofNat (L + j) else if b = a + 1 ∧ L ≤ k ∧ k < L + j then bt x (k - L) else h.1 b k
theorem c_X6_append (l : Launch) (G : zG) (h : zH) (a : Nat) (x : Int32) (ha : lo6 h a) {L : Nat} (hL : (zI h a 1).toInt = (L : Int)) (h6 : L + 4 ≤ 600) : CTv l G YX6_append 2 [va_rf (some a), .int x] h (fun I => I = apf h a L x 4) := by
  have loop : ∀ (f j : Nat) (x2 : Int32) (I : Nat → Nat → Int32), j ≤ 4 → 4 - j < f → x2.toInt = 24 - 8 * (j : Int) → I = apf h a L x j →
      Z l G mX6_append 2 (fun w h1 => ∃ I1, w = none ∧ h1 = (I1, h.2) ∧ I1 = apf h a L x 4) 0 0 3 [va_rf (some a), .int x, .int x2] [] (I, h.2) := by
    intro f
    induction f with
    | zero => intro j x2 I h1 h2; omega
    | succ f ih =>
      intro j x2 I h1 h2 hx hI
      refine sX6_append_3 a x x2 ha (Nat.le_refl _) ⟨fun c => ⟨I, rfl, rfl, ?_⟩, fun c I8 e8 I11 e11 => ?_⟩
      · rw [hI, show j = 4 by omega]
      · have hj : j < 4 := by omega
        have eI : zI (I, h.2) a 1 = Int32.ofNat (L + j) := by show I a 1 = _; rw [hI]; exact if_pos ⟨rfl, rfl⟩
        have tI : (zI (I, h.2) a 1).toInt = ((L + j : Nat) : Int) := by rw [eI]; exact i_ofNat (by omega)
        have ev : zushr x x2 &&& 255 = bt x j := by
          match j, hj with
          | 0, _ => rw [show x2 = 24 from i_ext hx]; rfl
          | 1, _ => rw [show x2 = 16 from i_ext hx]; rfl
          | 2, _ => rw [show x2 = 8 from i_ext hx]; rfl
          | 3, _ => rw [show x2 = 0 from i_ext hx]; rfl
          | k + 4, q => omega
        rw [zput_w (h := (I, h.2)) (ha.w 1 rfl : zAw (I, h.2) (a + 1) 600) tI (by omega), ev] at e8
        have e12 : zI (I8, h.2) a 1 = Int32.ofNat (L + j) := by
          show I8 a 1 = _
          rw [e8]
          show (if a = a + 1 ∧ 1 = L + j then _ else I a 1) = _
          rw [if_neg (by omega)]; exact eI
        rw [e12, e8] at e11
        refine ih (j + 1) (x2 + (-8)) I11 (by omega) (by omega) ?_ ?_
        · rw [i_add (by show _ ≤ _ + (-8 : Int); omega) (by show _ + (-8 : Int) < _; omega)]
          show _ + (-8 : Int) = _
          omega
        · rw [e11, hI]
          funext b k
          show (if b = a ∧ k = 1 then Int32.ofNat (L + j) + 1 else if b = a + 1 ∧ k = L + j then bt x j else if b = a ∧ k = 1 then Int32.ofNat (L + j) else if b = a + 1 ∧ L ≤ k ∧ k < L + j then bt x (k - L) else h.1 b k) = (if b = a ∧ k = 1 then Int32.ofNat (L + (j + 1)) else if b = a + 1 ∧ L ≤ k ∧ k < L + (j + 1) then bt x (k - L) else h.1 b k)
          have e13 : Int32.ofNat (L + j) + 1 = Int32.ofNat (L + (j + 1)) := i_ext (by rw [i_1 (i_ofNat (by omega)) (by omega), i_ofNat (by omega)]; rfl)
          rw [e13]
          (repeat' split) <;> first | rfl | omega | exact congrArg (bt x) (by omega)
  refine kX6_append a x (sX6_append_0 a x ha (Nat.le_refl _) ?_)
  refine loop 5 0 24 h.1 (by omega) (by omega) rfl ?_
  funext b k
  show h.1 b k = (if b = a ∧ k = 1 then Int32.ofNat (L + 0) else if b = a + 1 ∧ L ≤ k ∧ k < L + 0 then bt x (k - L) else h.1 b k)
  by_cases e : b = a ∧ k = 1
  · rw [if_pos e, e.1, e.2]; exact n_ofn hL
  · rw [if_neg e, if_neg (by omega)]
def fbt (x1 x2 x3 x4 x5 : Int32) (i : Nat) : Int32 := if i < 4 then bt x1 i else if i < 8 then bt x2 (i - 4) else if i < 12 then bt x3 (i - 8) else if i < 16 then bt x4 (i - 12) else bt x5 (i - 16)
theorem fbt_rng (x1 x2 x3 x4 x5 : Int32) (i : Nat) : 0 ≤ (fbt x1 x2 x3 x4 x5 i).toInt ∧ (fbt x1 x2 x3 x4 x5 i).toInt < 256 := by
  unfold fbt
  (repeat' split) <;> exact bt_rng _ _
def fedC (h : zH) (L : Nat) (w : Nat → Int32) : Nat → Nat → Int32 := fun b k => if b = 1 ∧ k = 1 then Int32.ofNat (L + 20) else if b = 2 ∧ L ≤ k ∧ k < L + 20 then w (k - L) else h.1 b k
def fedM (h : zH) (L : Nat) (w : Nat → Int32) (i : Nat) : Nat → Nat → Int32 := fun b k => if b = 314 ∧ k = 2 then Int32.ofNat (L + i) else if b = 314 ∧ 10 + L ≤ k ∧ k < 10 + L + i then w (k - 10 - L) else h.1 b k
theorem c_X10_feed (l : Launch) (G : zG) (h : zH) (x1 x2 x3 x4 x5 : Int32) (l1 : lo10 h 0) {L : Nat} (hL : (zI h 1 1).toInt = (L : Int)) (h6 : L + 20 ≤ 600) : CTi l G YX10_feed 3 [va_rf (some 0), .int x1, .int x2, .int x3, .int x4, .int x5] h (fun y I => y = Int32.ofNat (L + 20) ∧ I = fedC h L (fbt x1 x2 x3 x4 x5)) := by
  have lt : lo6 h 1 := los_10_1 l1
  have e20 : (zI h 1 1 + 20).toInt = ((L + 20 : Nat) : Int) := by
    rw [i_add (by show _ ≤ _ + (20 : Int); omega) (by show _ + (20 : Int) < _; omega)]; show _ + (20 : Int) = _; omega
  have st : ∀ (g : zH) (K : Nat) (x : Int32) (I : Nat → Nat → Int32), K + 4 < 2147483648 → I = apf g 1 K x 4 → (zI (I, h.2) 1 1).toInt = ((K + 4 : Nat) : Int) := fun g K x I hK e => by
    show (I 1 1).toInt = _
    rw [e, show apf g 1 K x 4 1 1 = Int32.ofNat (K + 4) from if_pos ⟨rfl, rfl⟩]
    exact i_ofNat hK
  refine kX10_feed 0 x1 x2 x3 x4 x5 (sX10_feed_0 0 x1 x2 x3 x4 x5 l1 (Nat.le_refl _) ⟨fun c1 => ⟨_, c_X6_append l G h 1 x1 lt hL (by omega), fun I8 c2 => ?_⟩, fun c7 => ?_⟩)
  · refine ⟨_, c_X6_append l G (I8, h.2) 1 x2 lt (st _ L x1 I8 (by omega) c2) (by omega), fun I9 c3 => ?_⟩
    refine ⟨_, c_X6_append l G (I9, h.2) 1 x3 lt (st _ (L + 4) x2 I9 (by omega) c3) (by omega), fun I10 c4 => ?_⟩
    refine ⟨_, c_X6_append l G (I10, h.2) 1 x4 lt (st _ (L + 4 + 4) x3 I10 (by omega) c4) (by omega), fun I11 c5 => ?_⟩
    refine ⟨_, c_X6_append l G (I11, h.2) 1 x5 lt (st _ (L + 4 + 4 + 4) x4 I11 (by omega) c5) (by omega), fun I12 c6 => ⟨_, I12, rfl, rfl, ?_, ?_⟩⟩
    · show I12 1 1 = _
      rw [c6]
      exact if_pos ⟨rfl, rfl⟩
    · rw [c6, c5, c4, c3, c2]
      funext b k
      unfold apf fedC fbt
      dsimp only
      (repeat' split) <;> first | rfl | omega | exact congrArg (bt _) (by omega)
  · rw [e20] at c7; omega
theorem c_X11_feed (l : Launch) (G : zG) (h : zH) (x1 x2 x3 x4 x5 : Int32) (l1 : lo11 h 313) {L : Nat} (hL : (AL h 2).toInt = (L : Int)) (h6 : L + 20 ≤ 600) : CTi l G YX11_feed 1 [va_rf (some 313), .int x1, .int x2, .int x3, .int x4, .int x5] h (fun y I => y = Int32.ofNat (L + 20) ∧ I = fedM h L (fbt x1 x2 x3 x4 x5) 20) := by
  have e20 : (AL h 2 + 20).toInt = ((L + 20 : Nat) : Int) := by
    rw [i_add (by show _ ≤ _ + (20 : Int); omega) (by show _ + (20 : Int) < _; omega)]; show _ + (20 : Int) = _; omega
  have loop : ∀ (f i : Nat) (x6 : Int32) (u : Value) (I : Nat → Nat → Int32), i ≤ 20 → 20 - i < f → x6.toInt = (i : Int) → I = fedM h L (fbt x1 x2 x3 x4 x5) i →
      Z l G mX11_feed 1 (fun w h1 => ∃ x I1, w = some (.int x) ∧ h1 = (I1, h.2) ∧ (x = Int32.ofNat (L + 20) ∧ I1 = fedM h L (fbt x1 x2 x3 x4 x5) 20)) 0 0 20 [va_rf (some 313), .int x1, .int x2, .int x3, .int x4, .int x5, .int x6, u] [] (I, h.2) := by
    intro f
    induction f with
    | zero => intro i x6 u I h1 h2; omega
    | succ f ih =>
      intro i x6 u I h1 h2 hx hI
      have eI : zI (I, h.2) (313 + 1) (zix 2) = Int32.ofNat (L + i) := by show I 314 2 = _; rw [hI]; exact if_pos ⟨rfl, rfl⟩
      have tI : (10 + zI (I, h.2) (313 + 1) (zix 2)).toInt = ((10 + L + i : Nat) : Int) := by
        rw [eI, i_add (by rw [i_ofNat (by omega)]; show _ ≤ (10 : Int) + _; omega) (by rw [i_ofNat (by omega)]; show (10 : Int) + _ < _; omega), i_ofNat (by omega)]
        show (10 : Int) + _ = _
        omega
      have go : i < 20 → ∀ (w : Int32) (r : Nat), r < 4 → i % 4 = r → bt w r = fbt x1 x2 x3 x4 x5 i → ∀ I24, I24 = (zwI (I, h.2) (313 + 1) (zix (10 + zI (I, h.2) (313 + 1) (zix 2))) ((w >>> ((24 - (8 * (zrem x6 4))) &&& 31)) &&& 255)).1 → ∀ I29, I29 = (zwI (I24, h.2) (313 + 1) (zix 2) (zI (I24, h.2) (313 + 1) (zix 2) + 1)).1 → Z l G mX11_feed 1 (fun w h1 => ∃ x I1, w = some (.int x) ∧ h1 = (I1, h.2) ∧ (x = Int32.ofNat (L + 20) ∧ I1 = fedM h L (fbt x1 x2 x3 x4 x5) 20)) 0 0 20 [va_rf (some 313), .int x1, .int x2, .int x3, .int x4, .int x5, .int (x6 + 1), .int w] [] (I29, h.2) := by
        intro hi w r hr he hw I24 e24 I29 e29
        have e1 : (w >>> ((24 - (8 * (zrem x6 4))) &&& 31)) &&& 255 = fbt x1 x2 x3 x4 x5 i := by
          rw [n_ofn hx, b_rem4 i hi, he, b_bt w r hr, hw]
        rw [zix_of tI, e1] at e24
        have e2 : zI (I24, h.2) (313 + 1) (zix 2) = Int32.ofNat (L + i) := by
          show I24 314 2 = _
          rw [e24]
          show (if 314 = 313 + 1 ∧ 2 = 10 + L + i then _ else I 314 2) = _
          rw [if_neg (by omega)]; exact eI
        rw [e2, e24] at e29
        refine ih (i + 1) (x6 + 1) _ I29 (by omega) (by omega) (i_1 hx (by omega)) ?_
        rw [e29, hI]
        have e13 : Int32.ofNat (L + i) + 1 = Int32.ofNat (L + (i + 1)) := i_ext (by rw [i_1 (i_ofNat (by omega)) (by omega), i_ofNat (by omega)]; rfl)
        rw [e13]
        funext b k
        show (if b = 314 ∧ k = 2 then Int32.ofNat (L + (i + 1)) else if b = 314 ∧ k = 10 + L + i then fbt x1 x2 x3 x4 x5 i else if b = 314 ∧ k = 2 then Int32.ofNat (L + i) else if b = 314 ∧ 10 + L ≤ k ∧ k < 10 + L + i then fbt x1 x2 x3 x4 x5 (k - 10 - L) else h.1 b k) = (if b = 314 ∧ k = 2 then Int32.ofNat (L + (i + 1)) else if b = 314 ∧ 10 + L ≤ k ∧ k < 10 + L + (i + 1) then fbt x1 x2 x3 x4 x5 (k - 10 - L) else h.1 b k)
        (repeat' split) <;> first | rfl | omega | exact congrArg (fbt x1 x2 x3 x4 x5) (by omega)
      refine sX11_feed_20 313 x1 x2 x3 x4 x5 x6 u l1 (Nat.le_refl _) ⟨fun c1 => ⟨_, I, rfl, rfl, ?_, ?_⟩, fun c2 => ⟨fun c3 => ⟨fun c4 => ⟨fun c5 => ⟨fun c6 => ⟨by rw [tI]; omega, by rw [tI]; omega, go (by omega) x5 (i - 16) (by omega) (by omega) ?_⟩, fun c9 => ⟨by rw [tI]; omega, by rw [tI]; omega, go (by omega) x4 (i - 12) (by omega) (by omega) ?_⟩⟩, fun c12 => ⟨by rw [tI]; omega, by rw [tI]; omega, go (by omega) x3 (i - 8) (by omega) (by omega) ?_⟩⟩, fun c15 => ⟨by rw [tI]; omega, by rw [tI]; omega, go (by omega) x2 (i - 4) (by omega) (by omega) ?_⟩⟩, fun c18 => ⟨by rw [tI]; omega, by rw [tI]; omega, go (by omega) x1 i (by omega) (by omega) ?_⟩⟩⟩
      · rw [eI, show i = 20 by omega]
      · rw [hI, show i = 20 by omega]
      all_goals
        unfold fbt
        (repeat' split) <;> first | rfl | omega
  refine kX11_feed 313 x1 x2 x3 x4 x5 (sX11_feed_0 313 x1 x2 x3 x4 x5 l1 (Nat.le_refl _) ⟨fun c1 => ?_, fun c2 => ?_⟩)
  · refine loop 21 0 0 zU h.1 (by omega) (by omega) rfl ?_
    funext b k
    show h.1 b k = (if b = 314 ∧ k = 2 then Int32.ofNat (L + 0) else if b = 314 ∧ 10 + L ≤ k ∧ k < 10 + L + 0 then fbt x1 x2 x3 x4 x5 (k - 10 - L) else h.1 b k)
    by_cases e : b = 314 ∧ k = 2
    · rw [if_pos e, e.1, e.2]; exact n_ofn hL
    · rw [if_neg e, if_neg (by omega)]
  · rw [show zI h (313 + 1) (zix 2) + 20 = AL h 2 + 20 from rfl, e20] at c2; omega
theorem pp_feed (l : Launch) (G : zG) : P_feed (KeptP TK RK) l G := fun x1 x2 x3 x4 x5 h hI => by
  obtain ⟨q1, q2, q3, q4, q5, q6, q7, q8⟩ := hI.2.2.2.1
  have e1 : zI h 1 1 = AL h 2 := q2.1
  have r2 : 0 ≤ (AL h 2).toInt ∧ (AL h 2).toInt ≤ 600 := q2.2
  obtain ⟨L, hL⟩ : ∃ L : Nat, (AL h 2).toInt = (L : Int) := ⟨(AL h 2).toInt.toNat, by omega⟩
  have e20 : (AL h 2 + 20).toInt = ((L + 20 : Nat) : Int) := by
    rw [i_add (by show _ ≤ _ + (20 : Int); omega) (by show _ + (20 : Int) < _; omega)]; show _ + (20 : Int) = _; omega
  by_cases c : L + 20 ≤ 600
  · refine ⟨Int32.ofNat (L + 20), fun I => I = fedC h L (fbt x1 x2 x3 x4 x5), c_X10_feed l G h x1 x2 x3 x4 x5 hI.1 (by rw [e1]; exact hL) c, fun I e j => ?_, fun I e => ?_⟩
    · rw [e]
      show (if 1000000 = 1 ∧ _ then _ else if 1000000 = 2 ∧ _ then _ else _) = _
      rw [if_neg (fun z => absurd z.1 (by decide)), if_neg (fun z => absurd z.1 (by decide))]
    · have eA : ∀ k, AL (I, h.2) k = AL h k := fun k => by
        show I 314 k = _
        rw [e]
        show (if 314 = 1 ∧ _ then _ else if 314 = 2 ∧ _ then _ else _) = _
        rw [if_neg (fun z => absurd z.1 (by decide)), if_neg (fun z => absurd z.1 (by decide))]; rfl
      refine (c_X11_feed l G (I, h.2) x1 x2 x3 x4 x5 hI.2.1 (by rw [eA]; exact hL) c).mono rfl fun v h1 ⟨y, J, z1, z2, z3, z4⟩ => ⟨y, J, z1, z2, z3, ?_⟩
      have eJ : ∀ b k, J b k = if b = 314 ∧ k = 2 then Int32.ofNat (L + 20) else if b = 314 ∧ 10 + L ≤ k ∧ k < 10 + L + 20 then fbt x1 x2 x3 x4 x5 (k - 10 - L) else if b = 1 ∧ k = 1 then Int32.ofNat (L + 20) else if b = 2 ∧ L ≤ k ∧ k < L + 20 then fbt x1 x2 x3 x4 x5 (k - L) else h.1 b k := fun b k => by rw [z4, e]; rfl
      refine Inv.fed hI (fun b _ h1 h2 h3 j => ?_) (fun j hj => ?_) (fun j hj hj2 => ?_) ⟨?_, ?_⟩ (fun i hi => ?_)
      · rw [eJ, if_neg (fun z => h3 z.1), if_neg (fun z => h3 z.1), if_neg (fun z => h1 z.1), if_neg (fun z => h2 z.1)]
      · rw [eJ, if_neg (by omega), if_neg (by omega), if_neg (by omega), if_neg (by omega)]
      · rw [eJ, if_neg (by omega), if_neg (by omega), if_neg (by omega), if_neg (by omega)]
      · rw [eJ, eJ]; rfl
      · rw [eJ, if_pos ⟨rfl, rfl⟩, i_ofNat (by omega)]; omega
      · rw [eJ, eJ, if_neg (by omega), if_neg (by omega), if_neg (by omega), if_neg (by omega : ¬ (314 = 314 ∧ 10 + i = 2))]
        have hq := q1 i hi
        rw [show 0 + 10 + i = 10 + i by omega] at hq
        by_cases d : L ≤ i ∧ i < L + 20
        · rw [if_pos (by omega), if_pos (by omega), show 10 + i - 10 - L = i - L by omega]
          exact ⟨rfl, fbt_rng _ _ _ _ _ _⟩
        · rw [if_neg (by omega), if_neg (by omega), if_neg (by omega), if_neg (by omega)]
          exact hq
  · refine ⟨-1, fun I => I = h.1, ?_, fun I e j => by rw [e], fun I e => ?_⟩
    · refine kX10_feed 0 x1 x2 x3 x4 x5 (sX10_feed_0 0 x1 x2 x3 x4 x5 hI.1 (Nat.le_refl _) ⟨fun c1 => ?_, fun c7 => ⟨-1, h.1, rfl, rfl, rfl, rfl⟩⟩)
      rw [show zI h (0 + 1) 1 = AL h 2 from e1, e20] at c1
      omega
    · subst e
      refine kX11_feed 313 x1 x2 x3 x4 x5 (sX11_feed_0 313 x1 x2 x3 x4 x5 hI.2.1 (Nat.le_refl _) ⟨fun c1 => ?_, fun c2 => ⟨-1, h.1, rfl, rfl, rfl, hI⟩⟩)
      rw [show zI (h.1, h.2) (313 + 1) (zix 2) = AL h 2 from rfl, e20] at c1
      omega
end K32
