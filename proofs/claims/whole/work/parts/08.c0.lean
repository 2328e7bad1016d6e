set_option maxRecDepth 4000
theorem c_X10_get (l : Launch) (G : zG) (h : zH) (r : Option Nat) (i : Int32) (pre : zgok h r) : CVi l G YX10_get 1 [va_rf r, .int i] h (zget h r i) := by
  refine kX10_get r i (sX10_get_0 r i (Nat.le_refl _) ⟨fun e => cvi (by rw [e]; rfl), fun b e => ?_⟩)
  subst e
  obtain ⟨p1, p2⟩ := pre b rfl
  have hN : (Int32.ofNat (zK h b).2).toInt = ((zK h b).2 : Int) := nI_toInt (by omega)
  refine ⟨fun c => cvi (if_neg (by omega)).symm, fun c => ⟨_, p1, fun c2 => cvi (if_neg (by omega)).symm, fun c2 => ⟨_, p1, c, by omega, cvi (if_pos (by omega)).symm⟩⟩⟩
theorem c_X10_put (l : Launch) (G : zG) (h : zH) (r : Option Nat) (i v : Int32) (pre : zpok h r) : CVv l G YX10_put 1 [va_rf r, .int i, .int v] h (zput h r i v) := by
  have no : ¬ (∃ b, r = some b ∧ 0 ≤ i.toInt ∧ i.toInt < ((zK h b).2 : Int)) → h = zput h r i v := fun q => by
    refine Prod.ext (funext fun b => funext fun k => ?_) rfl
    exact (if_neg (fun z => q ⟨b, z.1, z.2.1, z.2.2.1⟩)).symm
  refine kX10_put r i v (sX10_put_0 r i v (Nat.le_refl _) ⟨fun e => ⟨rfl, no (by rintro ⟨b, q, -⟩; rw [e] at q; cases q)⟩, fun b e => ?_⟩)
  subst e
  obtain ⟨p1, p2⟩ := pre b rfl
  have hN : (Int32.ofNat (zK h b).2).toInt = ((zK h b).2 : Int) := nI_toInt (by omega)
  refine ⟨fun c => ⟨rfl, no (by rintro ⟨b', q, q1, q2⟩; omega)⟩, fun c => ⟨_, p1.r, fun c2 => ⟨rfl, no (by rintro ⟨b', q, q1, q2⟩; cases q; omega)⟩, fun c2 => ⟨_, p1, c, by omega, fun I e => ⟨rfl, ?_⟩⟩⟩⟩
  subst e
  refine Prod.ext (funext fun b' => funext fun k => ?_) rfl
  show (if b' = b ∧ k = zix i then v else h.1 b' k) = (if some b = some b' ∧ 0 ≤ i.toInt ∧ i.toInt < ((zK h b').2 : Int) ∧ k = zix i then v else h.1 b' k)
  by_cases q : b' = b ∧ k = zix i
  · obtain ⟨rfl, rfl⟩ := q
    rw [if_pos ⟨rfl, rfl⟩, if_pos ⟨rfl, c, by omega, rfl⟩]
  · rw [if_neg q, if_neg (fun z => q ⟨(Option.some.inj z.1).symm, z.2.2.2⟩)]
theorem c_X10_isMinute (l : Launch) (G : zG) (h : zH) (m : Int32) : CVb l G YX10_isMinute 1 [.int m] h (zmin m) := by
  refine kX10_isMinute m (sX10_isMinute_0 m (Nat.le_refl _) ⟨fun c => cv0 (decide_eq_false (by omega)), fun c => ⟨fun c2 => cv0 (decide_eq_false (by omega)), fun c2 => cv1 (decide_eq_true (by omega))⟩⟩)
theorem c_X10_shape (l : Launch) (G : zG) (h : zH) (s f d : Int32) : CVi l G YX10_shape 1 [.int s, .int f, .int d] h (zshape s f d) := kX10_shape s f d (sX10_shape_0 s f d (Nat.le_refl _) (cvi rfl))
theorem c_X10_soleOf (l : Launch) (G : zG) (h : zH) (s : Int32) : CVi l G YX10_soleOf 1 [.int s] h (zsole s) := kX10_soleOf s (sX10_soleOf_0 s (Nat.le_refl _) (cvi rfl))
theorem c_X10_footOf (l : Launch) (G : zG) (h : zH) (s : Int32) : CVi l G YX10_footOf 1 [.int s] h (zfoot s) := kX10_footOf s (sX10_footOf_0 s (Nat.le_refl _) (cvi rfl))
theorem c_X10_sideOf (l : Launch) (G : zG) (h : zH) (s : Int32) : CVi l G YX10_sideOf 1 [.int s] h (zside s) := kX10_sideOf s (sX10_sideOf_0 s (Nat.le_refl _) (cvi rfl))
theorem zix6 {p : Int32} {n : Nat} (h0 : 0 ≤ p.toInt) (h1 : p.toInt < (n : Int)) : zix p < n := by unfold zix; omega
theorem c_X1_slot (l : Launch) (G : zG) (h : zH) (a : Nat) (p : Int32) (ha : lo1 h a) : CVr l G YX1_slot 1 [va_rf (some a), .int p] h (zslot a p) := by
  refine kX1_slot a p (sX1_slot_0 a p ha (Nat.le_refl _) ⟨fun c => cvr (if_neg (by omega)).symm, fun c => ⟨fun c2 => cvr (if_neg (by omega)).symm, fun c2 => ⟨c, c2, cvr ?_⟩⟩⟩)
  have h6 : zix p < 6 := zix6 c c2
  unfold zslot
  rw [if_pos ⟨c, c2⟩]
  generalize zix p = j at h6
  match j, h6 with
  | 0, _ => exact ha.r 5 rfl
  | 1, _ => exact ha.r 7 rfl
  | 2, _ => exact ha.r 9 rfl
  | 3, _ => exact ha.r 11 rfl
  | 4, _ => exact ha.r 13 rfl
  | 5, _ => exact ha.r 15 rfl
  | j + 6, q => omega
theorem c_X1_cells (l : Launch) (G : zG) (h : zH) (a : Nat) (ha : lo1 h a) : CVi l G YX1_cells 1 [va_rf (some a)] h (zcells h a) := kX1_cells a (sX1_cells_0 a ha (Nat.le_refl _) (cvi rfl))
theorem c_X2_walksHimself (l : Launch) (G : zG) (h : zH) (a : Nat) (ha : lo2 h a) : CVb l G YX2_walksHimself 1 [va_rf (some a)] h (zwalks h a) := by
  refine kX2_walksHimself a (sX2_walksHimself_0 a ha (Nat.le_refl _) ⟨fun c => cv0 (decide_eq_false (fun q => c q.1)), fun c => ⟨fun c2 => cv0 (decide_eq_false (fun q => q.2 c2)), fun c2 => cv1 (decide_eq_true ⟨c, c2⟩)⟩⟩)
theorem c_X3_hasSign (l : Launch) (G : zG) (h : zH) (a : Nat) (k : Int32) (ha : lo3 h a) : CVb l G YX3_hasSign 1 [va_rf (some a), .int k] h (zhs h a k) := by
  refine kX3_hasSign a k (sX3_hasSign_0 a k ha (Nat.le_refl _) ⟨fun c => cv0 (decide_eq_false (by omega)), fun c => ⟨fun c2 => cv0 (decide_eq_false (by omega)), fun c2 => cv1 (decide_eq_true (by omega))⟩⟩)
theorem c_X6_nightAt (l : Launch) (G : zG) (h : zH) (a : Nat) (i : Int32) (ha : lo6 h a) : CVr l G YX6_nightAt 1 [va_rf (some a), .int i] h (znat h a i) := by
  refine kX6_nightAt a i (sX6_nightAt_0 a i ha (Nat.le_refl _) ⟨fun c => cvr (if_neg (by omega)).symm, fun c => ⟨fun c2 => cvr (if_neg (by omega)).symm, fun c2 => ⟨fun c3 => cvr (if_neg (by omega)).symm, fun c3 => ⟨c, c3, cvr ?_⟩⟩⟩⟩)
  have h6 : zix i < 2 := zix6 c c3
  unfold znat
  rw [if_pos ⟨c, c2, c3⟩]
  generalize zix i = j at h6
  match j, h6 with
  | 0, _ => exact ha.r 3 rfl
  | 1, _ => exact ha.r 21 rfl
  | j + 2, q => omega
theorem c_X6_readingAt (l : Launch) (G : zG) (h : zH) (a : Nat) (i : Int32) (ha : lo6 h a) : CVr l G YX6_readingAt 1 [va_rf (some a), .int i] h (zrat h a i) := by
  refine kX6_readingAt a i (sX6_readingAt_0 a i ha (Nat.le_refl _) ⟨fun c => cvr (if_neg (by omega)).symm, fun c => ⟨fun c2 => cvr (if_neg (by omega)).symm, fun c2 => ⟨fun c3 => cvr (if_neg (by omega)).symm, fun c3 => ⟨c, c3, cvr ?_⟩⟩⟩⟩)
  have h6 : zix i < 2 := zix6 c c3
  unfold zrat
  rw [if_pos ⟨c, c2, c3⟩]
  generalize zix i = j at h6
  match j, h6 with
  | 0, _ => exact ha.r 39 rfl
  | 1, _ => exact ha.r 45 rfl
  | j + 2, q => omega
theorem c_X7_groundAt (l : Launch) (G : zG) (h : zH) (a : Nat) (i : Int32) (ha : lo7 h a) : CVr l G YX7_groundAt 1 [va_rf (some a), .int i] h (zgrd a i) := by
  refine kX7_groundAt a i (sX7_groundAt_0 a i ha (Nat.le_refl _) ⟨fun c => cvr (if_neg (by omega)).symm, fun c => ⟨fun c2 => cvr (if_neg (by omega)).symm, fun c2 => ⟨c, c2, cvr ?_⟩⟩⟩)
  have h6 : zix i < 6 := zix6 c c2
  unfold zgrd
  rw [if_pos ⟨c, c2⟩]
  generalize zix i = j at h6
  match j, h6 with
  | 0, _ => exact ha.r 2 rfl
  | 1, _ => exact ha.r 3 rfl
  | 2, _ => exact ha.r 4 rfl
  | 3, _ => exact ha.r 5 rfl
  | 4, _ => exact ha.r 6 rfl
  | 5, _ => exact ha.r 7 rfl
  | j + 6, q => omega
theorem c_X5_isBlank (l : Launch) (G : zG) (h : zH) (c : Int32) : CVb l G YX5_isBlank 1 [.int c] h (zblank c) :=
  kX5_isBlank c (sX5_isBlank_0 c (Nat.le_refl _) ⟨fun q => cv1 (decide_eq_true (Or.inl q)), fun q => ⟨fun q2 => cv0 (decide_eq_false (fun z => z.elim q q2)), fun q2 => cv1 (decide_eq_true (Or.inr q2))⟩⟩)
theorem c_X5_isLetter (l : Launch) (G : zG) (h : zH) (c : Int32) : CVb l G YX5_isLetter 1 [.int c] h (zletter c) :=
  kX5_isLetter c (sX5_isLetter_0 c (Nat.le_refl _) ⟨fun q => cv0 (decide_eq_false (by omega)), fun q => ⟨fun q2 => cv0 (decide_eq_false (by omega)), fun q2 => cv1 (decide_eq_true ⟨q, q2⟩)⟩⟩)
theorem c_X5_isDigit (l : Launch) (G : zG) (h : zH) (c : Int32) : CVb l G YX5_isDigit 1 [.int c] h (zdigit c) :=
  kX5_isDigit c (sX5_isDigit_0 c (Nat.le_refl _) ⟨fun q => cv0 (decide_eq_false (by omega)), fun q => ⟨fun q2 => cv0 (decide_eq_false (by omega)), fun q2 => cv1 (decide_eq_true ⟨q, q2⟩)⟩⟩)
theorem c_X11_isLetter (l : Launch) (G : zG) (h : zH) (c : Int32) : CVb l G YX11_isLetter 1 [.int c] h (zletter c) :=
  kX11_isLetter c (sX11_isLetter_0 c (Nat.le_refl _) ⟨fun q => cv0 (decide_eq_false (by omega)), fun q => ⟨fun q2 => cv0 (decide_eq_false (by omega)), fun q2 => cv1 (decide_eq_true ⟨q, q2⟩)⟩⟩)
theorem c_X11_isDigit (l : Launch) (G : zG) (h : zH) (c : Int32) : CVb l G YX11_isDigit 1 [.int c] h (zdigit c) :=
  kX11_isDigit c (sX11_isDigit_0 c (Nat.le_refl _) ⟨fun q => cv0 (decide_eq_false (by omega)), fun q => ⟨fun q2 => cv0 (decide_eq_false (by omega)), fun q2 => cv1 (decide_eq_true ⟨q, q2⟩)⟩⟩)
theorem c_X11_isIn (l : Launch) (G : zG) (h : zH) (v x y : Int32) : CVb l G YX11_isIn 1 [.int v, .int x, .int y] h (zin3 v x y) :=
  kX11_isIn v x y (sX11_isIn_0 v x y (Nat.le_refl _) ⟨fun q => cv0 (decide_eq_false (by omega)), fun q => ⟨fun q2 => cv0 (decide_eq_false (by omega)), fun q2 => cv1 (decide_eq_true ⟨q, q2⟩)⟩⟩)
theorem c_X11_byteAt (l : Launch) (G : zG) (h : zH) (a : Nat) (p : Int32) (ha : lo11 h a) (pre : zbyok h a p) : CVi l G YX11_byteAt 1 [va_rf (some a), .int p] h (zbyte h a p) :=
  kX11_byteAt a p (sX11_byteAt_0 a p ha (Nat.le_refl _) ⟨fun c => cvi (if_neg (by omega)).symm, fun c => ⟨(pre c).1, (pre c).2, cvi (if_pos c).symm⟩⟩)
theorem c_X11_placeOf (l : Launch) (G : zG) (h : zH) (s k : Int32) : CVi l G YX11_placeOf 1 [.int s, .int k] h (zplace s k) :=
  kX11_placeOf s k (sX11_placeOf_0 s k (Nat.le_refl _) ⟨fun c => cvi (if_neg c).symm, fun c => cvi (if_pos c).symm⟩)
theorem c_X11_of (l : Launch) (G : zG) (h : zH) (a : Nat) (w : Int32) (ha : lo11 h a) (pre : zofk h a w) : CVi l G YX11_of 1 [va_rf (some a), .int w] h (zof h a w) :=
  kX11_of a w (sX11_of_0 a w ha (Nat.le_refl _) ⟨pre.1, pre.2, cvi rfl⟩)
theorem c_X11_told (l : Launch) (G : zG) (h : zH) (a : Nat) (p w : Int32) (ha : lo11 h a) (pre : ztok h a p w) : CVi l G YX11_told 1 [va_rf (some a), .int p, .int w] h (ztold h a p w) :=
  kX11_told a p w (sX11_told_0 a p w ha (Nat.le_refl _) ⟨pre.1, pre.2, cvi rfl⟩)
theorem c_X11_half (l : Launch) (G : zG) (h : zH) (a : Nat) (x : Int32) (ha : lo11 h a) : CVi l G YX11_half 1 [va_rf (some a), .int x] h (zhalf x) :=
  kX11_half a x (sX11_half_0 a x ha (Nat.le_refl _) ⟨fun c => cvi (if_neg (by omega)).symm, fun c => cvi (if_pos c).symm⟩)
theorem c_X11_apart (l : Launch) (G : zG) (h : zH) (x y : Int32) : CVi l G YX11_apart 1 [.int x, .int y] h (zapart x y) :=
  kX11_apart x y (sX11_apart_0 x y (Nat.le_refl _) ⟨fun c => cvi (if_neg (by omega)).symm, fun c => cvi (if_pos c).symm⟩)
theorem c_X11_signs (l : Launch) (G : zG) (h : zH) (a : Nat) (ha : lo11 h a) (pre : zrok h a) : CVi l G YX11_signs 1 [va_rf (some a)] h (zsigns h a) :=
  kX11_signs a (sX11_signs_0 a ha (Nat.le_refl _) ⟨pre.1, pre.2, cvi rfl⟩)
theorem c_X11_signOf (l : Launch) (G : zG) (h : zH) (a : Nat) (k w : Int32) (ha : lo11 h a) (pre : zsok h a k w) : CVi l G YX11_signOf 1 [va_rf (some a), .int k, .int w] h (zsignOf h a k w) :=
  kX11_signOf a k w (sX11_signOf_0 a k w ha (Nat.le_refl _) ⟨pre.1, pre.2, cvi rfl⟩)
theorem c_X1_beside (l : Launch) (G : zG) (h : zH) (a : Nat) (c s f : Int32) (ha : lo1 h a) : CVi l G YX1_beside 1 [va_rf (some a), .int c, .int s, .int f] h (zbes (zI h a 0) (zI h a 1) c s f) := by
  refine kX1_beside a c s f (sX1_beside_0 a c s f ha (Nat.le_refl _) ?_)
  generalize zI h a 0 = w
  generalize zI h a 1 = g
  have w0 : 1 ≤ w.toInt → ¬ w = 0 := fun q e => by rw [e] at q; exact absurd q (by decide)
  have bad : (c.toInt < 0 ∨ (w * g).toInt ≤ c.toInt ∨ w.toInt < 1) → -1 = zbes w g c s f := fun q => (if_pos q).symm
  have fin : ∀ row col : Int32, 0 ≤ c.toInt → c.toInt < (w * g).toInt → 1 ≤ w.toInt → row = zbrow w c s f → col = zbcol w c s f → ((row.toInt < 0 → -1 = zbes w g c s f) ∧ (g.toInt ≤ row.toInt → -1 = zbes w g c s f) ∧ (col.toInt < 0 → -1 = zbes w g c s f) ∧ (w.toInt ≤ col.toInt → -1 = zbes w g c s f) ∧ (0 ≤ row.toInt → row.toInt < g.toInt → 0 ≤ col.toInt → col.toInt < w.toInt → row * w + col = zbes w g c s f)) := by
    intro row col h1 h2 h3 e1 e2
    subst e1; subst e2
    unfold zbes
    rw [if_neg (by omega)]
    refine ⟨fun q => (if_neg (by omega)).symm, fun q => (if_neg (by omega)).symm, fun q => (if_neg (by omega)).symm, fun q => (if_neg (by omega)).symm, fun q1 q2 q3 q4 => (if_pos ⟨q1, q2, q3, q4⟩).symm⟩
  refine ⟨fun q => cvi (bad (Or.inl q)), fun q1 => ⟨fun q => cvi (bad (Or.inr (Or.inl q))), fun q2 => ⟨fun q3 => ⟨w0 q3, w0 q3, ?_⟩, fun q => cvi (bad (Or.inr (Or.inr q)))⟩⟩⟩
  refine ⟨fun qs => ?_, fun qs => ?_, fun qs => ?_, fun qs => ?_⟩
  · obtain ⟨k1, k2, k3, k4, k5⟩ := fin (c / w) (zrem c w - f) q1 q2 q3 (by unfold zbrow; rw [if_neg (by omega), if_neg (by omega)]) (by unfold zbcol; rw [if_neg (by omega), if_neg (by omega)])
    exact ⟨fun q => cvi (k1 q), fun p1 => ⟨fun q => cvi (k2 q), fun p2 => ⟨fun q => cvi (k3 q), fun p3 => ⟨fun q => cvi (k4 q), fun p4 => cvi (k5 p1 p2 p3 p4)⟩⟩⟩⟩
  · obtain ⟨k1, k2, k3, k4, k5⟩ := fin (c / w - f) (zrem c w) q1 q2 q3 (by unfold zbrow; rw [if_pos qs]) (by unfold zbcol; rw [if_neg (by omega), if_pos (Or.inl qs)])
    exact ⟨fun q => cvi (k1 q), fun p1 => ⟨fun q => cvi (k2 q), fun p2 => ⟨fun q => cvi (k3 q), fun p3 => ⟨fun q => cvi (k4 q), fun p4 => cvi (k5 p1 p2 p3 p4)⟩⟩⟩⟩
  · obtain ⟨k1, k2, k3, k4, k5⟩ := fin (c / w) (zrem c w + f) q1 q2 q3 (by unfold zbrow; rw [if_neg (by omega), if_neg (by omega)]) (by unfold zbcol; rw [if_pos qs])
    exact ⟨fun q => cvi (k1 q), fun p1 => ⟨fun q => cvi (k2 q), fun p2 => ⟨fun q => cvi (k3 q), fun p3 => ⟨fun q => cvi (k4 q), fun p4 => cvi (k5 p1 p2 p3 p4)⟩⟩⟩⟩
  · obtain ⟨k1, k2, k3, k4, k5⟩ := fin (c / w + f) (zrem c w) q1 q2 q3 (by unfold zbrow; rw [if_neg (by omega), if_pos qs]) (by unfold zbcol; rw [if_neg (by omega), if_pos (Or.inr qs)])
    exact ⟨fun q => cvi (k1 q), fun p1 => ⟨fun q => cvi (k2 q), fun p2 => ⟨fun q => cvi (k3 q), fun p3 => ⟨fun q => cvi (k4 q), fun p4 => cvi (k5 p1 p2 p3 p4)⟩⟩⟩⟩
