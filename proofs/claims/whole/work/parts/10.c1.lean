set_option maxRecDepth 4000
theorem c_X1_member (l : Launch) (G : zG) (h : zH) (a : Nat) (p : Int32) (ha : lo1 h a) : CVr l G YX1_member 2 [va_rf (some a), .int p] h (zmem h a p) :=
  kX1_member a p (sX1_member_0 a p ha (Nat.le_refl _) ⟨fun c => cvr (if_neg (by omega)).symm, fun c => cvr (if_pos c).symm⟩)
theorem c_X1_hasCell (l : Launch) (G : zG) (h : zH) (a : Nat) (c : Int32) (ha : lo1 h a) : CVb l G YX1_hasCell 2 [va_rf (some a), .int c] h (zhas h a c) :=
  kX1_hasCell a c (sX1_hasCell_0 a c ha (Nat.le_refl _) ⟨fun q => cv0 (decide_eq_false (by omega)), fun q => ⟨fun q2 => cv0 (decide_eq_false (by omega)), fun q2 => cv1 (decide_eq_true ⟨q, q2⟩)⟩⟩)
theorem c_X1_distance (l : Launch) (G : zG) (h : zH) (a : Nat) (x y : Int32) (ha : lo1 h a) : CVi l G YX1_distance 2 [va_rf (some a), .int x, .int y] h (zdist (zI h a 0) x y) := by
  have w0 : 1 ≤ (zI h a 0).toInt → ¬ zI h a 0 = 0 := fun q e => by rw [e] at q; exact absurd q (by decide)
  exact kX1_distance a x y (sX1_distance_0 a x y ha (Nat.le_refl _) ⟨fun q => ⟨w0 q, w0 q, w0 q, w0 q, cvi (if_neg (by omega)).symm⟩, fun q => cvi (if_pos q).symm⟩)
theorem c_X2_sideAt (l : Launch) (G : zG) (h : zH) (a : Nat) (i : Int32) (ha : lo2 h a) : CVi l G YX2_sideAt 2 [va_rf (some a), .int i] h (zsideAt h a i) :=
  kX2_sideAt a i (sX2_sideAt_0 a i ha (Nat.le_refl _) (cvi rfl))
theorem c_X2_depthUnder (l : Launch) (G : zG) (h : zH) (a : Nat) (x f : Int32) (ha : lo2 h a) : CVi l G YX2_depthUnder 2 [va_rf (some a), .int x, .int f] h (zdep (zI h a 3) x f) :=
  kX2_depthUnder a x f (sX2_depthUnder_0 a x f ha (Nat.le_refl _) ⟨fun c => cvi (if_neg c).symm, fun c => cvi (if_pos c).symm⟩)
theorem c_X9_costAt (l : Launch) (G : zG) (h : zH) (a : Nat) (i c : Int32) (ha : lo9 h a) : CVi l G YX9_costAt 2 [va_rf (some a), .int i, .int c] h (zcost h a i c) :=
  kX9_costAt a i c (sX9_costAt_0 a i c ha (Nat.le_refl _) ⟨fun q => cvi (if_neg q).symm, fun q => cvi (if_pos q).symm⟩)
theorem zpok.g {h : zH} {r : Option Nat} (q : zpok h r) : zgok h r := fun a e => ⟨(q a e).1.r, (q a e).2⟩
theorem c_X10_raise (l : Launch) (G : zG) (h : zH) (r : Option Nat) (i : Int32) (pre : zpok h r) : CVv l G YX10_raise 2 [va_rf r, .int i] h (zput h r i (zget h r i + 1)) :=
  kX10_raise r i (sX10_raise_0 r i (Nat.le_refl _) ⟨pre.g, pre, fun I e => ⟨rfl, by rw [e]; rfl⟩⟩)
theorem c_X11_people (l : Launch) (G : zG) (h : zH) (a : Nat) (ha : lo11 h a) (pre : zofk h a 3) : CVi l G YX11_people 2 [va_rf (some a)] h (zof h a 3) :=
  kX11_people a (sX11_people_0 a ha (Nat.le_refl _) ⟨pre, cvi rfl⟩)
theorem c_X11_cells (l : Launch) (G : zG) (h : zH) (a : Nat) (ha : lo11 h a) (pre : zofk h a 0 ∧ zofk h a 1) : CVi l G YX11_cells 2 [va_rf (some a)] h (zcel h a) :=
  kX11_cells a (sX11_cells_0 a ha (Nat.le_refl _) ⟨pre.1, pre.2, cvi rfl⟩)
theorem c_X11_isOf (l : Launch) (G : zG) (h : zH) (a : Nat) (s k : Int32) (ha : lo11 h a) (pre : ziok s) : CVb l G YX11_isOf 2 [va_rf (some a), .int s, .int k] h (zisOf h a s k) :=
  kX11_isOf a s k (sX11_isOf_0 a s k ha (Nat.le_refl _) ⟨pre.1, pre.2, cvi rfl⟩)
theorem c_X11_isMinute (l : Launch) (G : zG) (h : zH) (a : Nat) (m : Int32) (ha : lo11 h a) : CVb l G YX11_isMinute 2 [va_rf (some a), .int m] h (zmin m) :=
  kX11_isMinute a m (sX11_isMinute_0 a m ha (Nat.le_refl _) (cvi (congrArg zb (decide_eq_decide.mpr (by show ((0 : Int32).toInt ≤ m.toInt ∧ m.toInt ≤ (99 : Int32).toInt) ↔ _; rw [show (0 : Int32).toInt = 0 from rfl, show (99 : Int32).toInt = 99 from rfl]; omega)))))
theorem c_X11_soleOf (l : Launch) (G : zG) (h : zH) (a : Nat) (p : Int32) (ha : lo11 h a) (pre : ztok h a p 0) : CVi l G YX11_soleOf 2 [va_rf (some a), .int p] h (if p = zI h a 14 then zI h a 15 else ztold h a p 0) :=
  kX11_soleOf a p (sX11_soleOf_0 a p ha (Nat.le_refl _) ⟨fun c => ⟨pre, cvi (if_neg c).symm⟩, fun c => cvi (if_pos c).symm⟩)
theorem c_X11_carrierOf (l : Launch) (G : zG) (h : zH) (a : Nat) (p : Int32) (ha : lo11 h a) (pre : ztok h a p 5) : CVi l G YX11_carrierOf 2 [va_rf (some a), .int p] h (if p = zI h a 18 then zI h a 19 else ztold h a p 5) :=
  kX11_carrierOf a p (sX11_carrierOf_0 a p ha (Nat.le_refl _) ⟨fun c => ⟨pre, cvi (if_neg c).symm⟩, fun c => cvi (if_pos c).symm⟩)
theorem c_X11_minuteOf (l : Launch) (G : zG) (h : zH) (a : Nat) (p : Int32) (ha : lo11 h a) (pre : ztok h a p 7) : CVi l G YX11_minuteOf 2 [va_rf (some a), .int p] h (if p = zI h a 16 then zI h a 17 else ztold h a p 7) :=
  kX11_minuteOf a p (sX11_minuteOf_0 a p ha (Nat.le_refl _) ⟨fun c => ⟨pre, cvi (if_neg c).symm⟩, fun c => cvi (if_pos c).symm⟩)
theorem c_X11_errandOf (l : Launch) (G : zG) (h : zH) (a : Nat) (k w : Int32) (ha : lo11 h a) (pre : zofk h a (105 + 3 * k + w)) : CVi l G YX11_errandOf 2 [va_rf (some a), .int k, .int w] h (zof h a (105 + 3 * k + w)) :=
  kX11_errandOf a k w (sX11_errandOf_0 a k w ha (Nat.le_refl _) ⟨pre, cvi rfl⟩)
