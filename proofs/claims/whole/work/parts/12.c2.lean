set_option maxRecDepth 4000
theorem c_X11_isPerson (l : Launch) (G : zG) (h : zH) (a : Nat) (p : Int32) (ha : lo11 h a) (pre : zofk h a 3) : CVb l G YX11_isPerson 3 [va_rf (some a), .int p] h (zisP h a p) :=
  kX11_isPerson a p (sX11_isPerson_0 a p ha (Nat.le_refl _) ⟨pre, cvi rfl⟩)
theorem c_X11_isCell (l : Launch) (G : zG) (h : zH) (a : Nat) (c : Int32) (ha : lo11 h a) (pre : zofk h a 0 ∧ zofk h a 1) : CVb l G YX11_isCell 3 [va_rf (some a), .int c] h (zisC h a c) :=
  kX11_isCell a c (sX11_isCell_0 a c ha (Nat.le_refl _) ⟨pre, cvi rfl⟩)
theorem c_X11_isCarried (l : Launch) (G : zG) (h : zH) (a : Nat) (p : Int32) (ha : lo11 h a) (pre : ztok h a p 5) : CVb l G YX11_isCarried 3 [va_rf (some a), .int p] h (zisK h a p) :=
  kX11_isCarried a p (sX11_isCarried_0 a p ha (Nat.le_refl _) ⟨pre, fun q => cv0 (by show (!decide (_ = _)) = false; rw [decide_eq_true (show zcar h a p = -1 from q)]; rfl), fun q => cv1 (by show (!decide (_ = _)) = true; rw [decide_eq_false (show ¬ zcar h a p = -1 from q)]; rfl)⟩)
