set_option maxRecDepth 8000
theorem c_X0_init (l : Launch) (G : zG) (h : zH) (a : Nat) (hz : zN h = a + 1) (hk : zK h a = (200, 14)) (h6 : a + 14 ≤ 1000000) (h0 : ∀ j, zI h a j = 0) : CT l G YX0_init 2 13 1000 [va_rf (some a)] h (fun v g => v = none ∧ ∃ zs fv, zPL h g a ks0 rs0 zs fv) := by
  refine CT.of (by decide +kernel) (fun t e => by cases e) (Nat.le_of_ble_eq_true rfl) (show Z l G mX0_init 2 _ 13 1000 0 [va_rf (some a)] [] h from ?_)
  have p0 : zPL h h a [(200, 14)] [] [] (fun _ => 0) := zPL.ini hz hk h0 (by omega)
  refine z_aloadn dX0_init_0 rfl rfl ?_
  refine z_objInit dX0_init_1 w484 w195 w196 (by decide) (Nat.le_of_ble_eq_true rfl) ?_
  refine z_aloadn dX0_init_4 rfl rfl ?_
  refine z_sipush (v := 150) dX0_init_5 (by decide) ?_
  have hzh : zN h = a + 1 := p0.1
  refine z_newa (k := 12) (n := 850) (N := 150) 0 rfl (by decide) rfl (fun _ _ q => q) rfl (by decide) dX0_init_8 w286 (by decide) (Nat.le_of_ble_eq_true rfl) (by omega) ?_
  rw [hzh]
  refine z_nmG (fun g1 e2 => ?_)
  have p3 : zPL h g1 a [(200, 14), (1, 150)] [] [1] (fun _ => 0) := by rw [e2]; exact p0.al 1 150 (by show a + 2 ≤ _; omega)
  refine z_putF (j := 1) zc0 dX0_init_10 (p3.2.1 0 _ rfl) (by rw [p3.1]; show a + 0 < a + 2; omega) (by decide) rfl rfl rfl rfl w487 ?_
  refine z_nmG (fun g4 e5 => ?_)
  have p6 : zPL h g4 a [(200, 14), (1, 150)] [(0, 1, 1)] [1] (fun _ => 0) := by rw [e5]; exact p3.wR 0 1 1 (by decide) (by decide +kernel)
  refine z_aloadn dX0_init_13 rfl rfl ?_
  refine z_sipush (v := 150) dX0_init_14 (by decide) ?_
  have hzg4 : zN g4 = a + 2 := p6.1
  refine z_newa (k := 11) (n := 700) (N := 150) 0 rfl (by decide) rfl (fun _ _ q => q) rfl (by decide) dX0_init_17 w286 (by decide) (Nat.le_of_ble_eq_true rfl) (by omega) ?_
  rw [hzg4]
  refine z_nmG (fun g7 e8 => ?_)
  have p9 : zPL h g7 a [(200, 14), (1, 150), (1, 150)] [(0, 1, 1)] [1, 2] (fun _ => 0) := by rw [e8]; exact p6.al 1 150 (by show a + 3 ≤ _; omega)
  refine z_putF (j := 2) zc0 dX0_init_19 (p9.2.1 0 _ rfl) (by rw [p9.1]; show a + 0 < a + 3; omega) (by decide) rfl rfl rfl rfl w488 ?_
  refine z_nmG (fun g10 e11 => ?_)
  have p12 : zPL h g10 a [(200, 14), (1, 150), (1, 150)] [(0, 1, 1), (0, 2, 2)] [1, 2] (fun _ => 0) := by rw [e11]; exact p9.wR 0 2 2 (by decide) (by decide +kernel)
  refine z_aloadn dX0_init_22 rfl rfl ?_
  refine z_sipush (v := 150) dX0_init_23 (by decide) ?_
  have hzg10 : zN g10 = a + 3 := p12.1
  refine z_newa (k := 10) (n := 550) (N := 150) 0 rfl (by decide) rfl (fun _ _ q => q) rfl (by decide) dX0_init_26 w286 (by decide) (Nat.le_of_ble_eq_true rfl) (by omega) ?_
  rw [hzg10]
  refine z_nmG (fun g13 e14 => ?_)
  have p15 : zPL h g13 a [(200, 14), (1, 150), (1, 150), (1, 150)] [(0, 1, 1), (0, 2, 2)] [1, 2, 3] (fun _ => 0) := by rw [e14]; exact p12.al 1 150 (by show a + 4 ≤ _; omega)
  refine z_putF (j := 3) zc0 dX0_init_28 (p15.2.1 0 _ rfl) (by rw [p15.1]; show a + 0 < a + 4; omega) (by decide) rfl rfl rfl rfl w489 ?_
  refine z_nmG (fun g16 e17 => ?_)
  have p18 : zPL h g16 a [(200, 14), (1, 150), (1, 150), (1, 150)] [(0, 1, 1), (0, 2, 2), (0, 3, 3)] [1, 2, 3] (fun _ => 0) := by rw [e17]; exact p15.wR 0 3 3 (by decide) (by decide +kernel)
  refine z_aloadn dX0_init_31 rfl rfl ?_
  refine z_sipush (v := 150) dX0_init_32 (by decide) ?_
  have hzg16 : zN g16 = a + 4 := p18.1
  refine z_newa (k := 9) (n := 400) (N := 150) 0 rfl (by decide) rfl (fun _ _ q => q) rfl (by decide) dX0_init_35 w286 (by decide) (Nat.le_of_ble_eq_true rfl) (by omega) ?_
  rw [hzg16]
  refine z_nmG (fun g19 e20 => ?_)
  have p21 : zPL h g19 a [(200, 14), (1, 150), (1, 150), (1, 150), (1, 150)] [(0, 1, 1), (0, 2, 2), (0, 3, 3)] [1, 2, 3, 4] (fun _ => 0) := by rw [e20]; exact p18.al 1 150 (by show a + 5 ≤ _; omega)
  refine z_putF (j := 4) zc0 dX0_init_37 (p21.2.1 0 _ rfl) (by rw [p21.1]; show a + 0 < a + 5; omega) (by decide) rfl rfl rfl rfl w490 ?_
  refine z_nmG (fun g22 e23 => ?_)
  have p24 : zPL h g22 a [(200, 14), (1, 150), (1, 150), (1, 150), (1, 150)] [(0, 1, 1), (0, 2, 2), (0, 3, 3), (0, 4, 4)] [1, 2, 3, 4] (fun _ => 0) := by rw [e23]; exact p21.wR 0 4 4 (by decide) (by decide +kernel)
  refine z_aloadn dX0_init_40 rfl rfl ?_
  refine z_sipush (v := 150) dX0_init_41 (by decide) ?_
  have hzg22 : zN g22 = a + 5 := p24.1
  refine z_newa (k := 8) (n := 250) (N := 150) 0 rfl (by decide) rfl (fun _ _ q => q) rfl (by decide) dX0_init_44 w286 (by decide) (Nat.le_of_ble_eq_true rfl) (by omega) ?_
  rw [hzg22]
  refine z_nmG (fun g25 e26 => ?_)
  have p27 : zPL h g25 a [(200, 14), (1, 150), (1, 150), (1, 150), (1, 150), (1, 150)] [(0, 1, 1), (0, 2, 2), (0, 3, 3), (0, 4, 4)] [1, 2, 3, 4, 5] (fun _ => 0) := by rw [e26]; exact p24.al 1 150 (by show a + 6 ≤ _; omega)
  refine z_putF (j := 5) zc0 dX0_init_46 (p27.2.1 0 _ rfl) (by rw [p27.1]; show a + 0 < a + 6; omega) (by decide) rfl rfl rfl rfl w491 ?_
  refine z_nmG (fun g28 e29 => ?_)
  have p30 : zPL h g28 a [(200, 14), (1, 150), (1, 150), (1, 150), (1, 150), (1, 150)] [(0, 1, 1), (0, 2, 2), (0, 3, 3), (0, 4, 4), (0, 5, 5)] [1, 2, 3, 4, 5] (fun _ => 0) := by rw [e29]; exact p27.wR 0 5 5 (by decide) (by decide +kernel)
  refine z_aloadn dX0_init_49 rfl rfl ?_
  refine z_sipush (v := 150) dX0_init_50 (by decide) ?_
  have hzg28 : zN g28 = a + 6 := p30.1
  refine z_newa (k := 7) (n := 100) (N := 150) 0 rfl (by decide) rfl (fun _ _ q => q) rfl (by decide) dX0_init_53 w286 (by decide) (Nat.le_of_ble_eq_true rfl) (by omega) ?_
  rw [hzg28]
  refine z_nmG (fun g31 e32 => ?_)
  have p33 : zPL h g31 a [(200, 14), (1, 150), (1, 150), (1, 150), (1, 150), (1, 150), (1, 150)] [(0, 1, 1), (0, 2, 2), (0, 3, 3), (0, 4, 4), (0, 5, 5)] [1, 2, 3, 4, 5, 6] (fun _ => 0) := by rw [e32]; exact p30.al 1 150 (by show a + 7 ≤ _; omega)
  refine z_putF (j := 6) zc0 dX0_init_55 (p33.2.1 0 _ rfl) (by rw [p33.1]; show a + 0 < a + 7; omega) (by decide) rfl rfl rfl rfl w492 ?_
  refine z_nmG (fun g34 e35 => ?_)
  have p36 : zPL h g34 a [(200, 14), (1, 150), (1, 150), (1, 150), (1, 150), (1, 150), (1, 150)] [(0, 1, 1), (0, 2, 2), (0, 3, 3), (0, 4, 4), (0, 5, 5), (0, 6, 6)] [1, 2, 3, 4, 5, 6] (fun _ => 0) := by rw [e35]; exact p33.wR 0 6 6 (by decide) (by decide +kernel)
  refine z_aloadn dX0_init_58 rfl rfl ?_
  refine z_bipush (v := 64) dX0_init_59 (by decide) ?_
  have hzg34 : zN g34 = a + 7 := p36.1
  refine z_newa (k := 6) (n := 36) (N := 64) 0 rfl (by decide) rfl (fun _ _ q => q) rfl (by decide) dX0_init_61 w286 (by decide) (Nat.le_of_ble_eq_true rfl) (by omega) ?_
  rw [hzg34]
  refine z_nmG (fun g37 e38 => ?_)
  have p39 : zPL h g37 a [(200, 14), (1, 150), (1, 150), (1, 150), (1, 150), (1, 150), (1, 150), (1, 64)] [(0, 1, 1), (0, 2, 2), (0, 3, 3), (0, 4, 4), (0, 5, 5), (0, 6, 6)] [1, 2, 3, 4, 5, 6, 7] (fun _ => 0) := by rw [e38]; exact p36.al 1 64 (by show a + 8 ≤ _; omega)
  refine z_putF (j := 7) zc0 dX0_init_63 (p39.2.1 0 _ rfl) (by rw [p39.1]; show a + 0 < a + 8; omega) (by decide) rfl rfl rfl rfl w493 ?_
  refine z_nmG (fun g40 e41 => ?_)
  have p42 : zPL h g40 a [(200, 14), (1, 150), (1, 150), (1, 150), (1, 150), (1, 150), (1, 150), (1, 64)] [(0, 1, 1), (0, 2, 2), (0, 3, 3), (0, 4, 4), (0, 5, 5), (0, 6, 6), (0, 7, 7)] [1, 2, 3, 4, 5, 6, 7] (fun _ => 0) := by rw [e41]; exact p39.wR 0 7 7 (by decide) (by decide +kernel)
  refine z_aloadn dX0_init_66 rfl rfl ?_
  refine z_bipush (v := 6) dX0_init_67 (by decide) ?_
  have hzg40 : zN g40 = a + 8 := p42.1
  refine z_newa (k := 5) (n := 30) (N := 6) 0 rfl (by decide) rfl (fun _ _ q => q) rfl (by decide) dX0_init_69 w286 (by decide) (Nat.le_of_ble_eq_true rfl) (by omega) ?_
  rw [hzg40]
  refine z_nmG (fun g43 e44 => ?_)
  have p45 : zPL h g43 a [(200, 14), (1, 150), (1, 150), (1, 150), (1, 150), (1, 150), (1, 150), (1, 64), (1, 6)] [(0, 1, 1), (0, 2, 2), (0, 3, 3), (0, 4, 4), (0, 5, 5), (0, 6, 6), (0, 7, 7)] [1, 2, 3, 4, 5, 6, 7, 8] (fun _ => 0) := by rw [e44]; exact p42.al 1 6 (by show a + 9 ≤ _; omega)
  refine z_putF (j := 8) zc0 dX0_init_71 (p45.2.1 0 _ rfl) (by rw [p45.1]; show a + 0 < a + 9; omega) (by decide) rfl rfl rfl rfl w494 ?_
  refine z_nmG (fun g46 e47 => ?_)
  have p48 : zPL h g46 a [(200, 14), (1, 150), (1, 150), (1, 150), (1, 150), (1, 150), (1, 150), (1, 64), (1, 6)] [(0, 1, 1), (0, 2, 2), (0, 3, 3), (0, 4, 4), (0, 5, 5), (0, 6, 6), (0, 7, 7), (0, 8, 8)] [1, 2, 3, 4, 5, 6, 7, 8] (fun _ => 0) := by rw [e47]; exact p45.wR 0 8 8 (by decide) (by decide +kernel)
  refine z_aloadn dX0_init_74 rfl rfl ?_
  refine z_bipush (v := 6) dX0_init_75 (by decide) ?_
  have hzg46 : zN g46 = a + 9 := p48.1
  refine z_newa (k := 4) (n := 24) (N := 6) 0 rfl (by decide) rfl (fun _ _ q => q) rfl (by decide) dX0_init_77 w286 (by decide) (Nat.le_of_ble_eq_true rfl) (by omega) ?_
  rw [hzg46]
  refine z_nmG (fun g49 e50 => ?_)
  have p51 : zPL h g49 a [(200, 14), (1, 150), (1, 150), (1, 150), (1, 150), (1, 150), (1, 150), (1, 64), (1, 6), (1, 6)] [(0, 1, 1), (0, 2, 2), (0, 3, 3), (0, 4, 4), (0, 5, 5), (0, 6, 6), (0, 7, 7), (0, 8, 8)] [1, 2, 3, 4, 5, 6, 7, 8, 9] (fun _ => 0) := by rw [e50]; exact p48.al 1 6 (by show a + 10 ≤ _; omega)
  refine z_putF (j := 9) zc0 dX0_init_79 (p51.2.1 0 _ rfl) (by rw [p51.1]; show a + 0 < a + 10; omega) (by decide) rfl rfl rfl rfl w495 ?_
  refine z_nmG (fun g52 e53 => ?_)
  have p54 : zPL h g52 a [(200, 14), (1, 150), (1, 150), (1, 150), (1, 150), (1, 150), (1, 150), (1, 64), (1, 6), (1, 6)] [(0, 1, 1), (0, 2, 2), (0, 3, 3), (0, 4, 4), (0, 5, 5), (0, 6, 6), (0, 7, 7), (0, 8, 8), (0, 9, 9)] [1, 2, 3, 4, 5, 6, 7, 8, 9] (fun _ => 0) := by rw [e53]; exact p51.wR 0 9 9 (by decide) (by decide +kernel)
  refine z_aloadn dX0_init_82 rfl rfl ?_
  refine z_bipush (v := 6) dX0_init_83 (by decide) ?_
  have hzg52 : zN g52 = a + 10 := p54.1
  refine z_newa (k := 3) (n := 18) (N := 6) 0 rfl (by decide) rfl (fun _ _ q => q) rfl (by decide) dX0_init_85 w286 (by decide) (Nat.le_of_ble_eq_true rfl) (by omega) ?_
  rw [hzg52]
  refine z_nmG (fun g55 e56 => ?_)
  have p57 : zPL h g55 a [(200, 14), (1, 150), (1, 150), (1, 150), (1, 150), (1, 150), (1, 150), (1, 64), (1, 6), (1, 6), (1, 6)] [(0, 1, 1), (0, 2, 2), (0, 3, 3), (0, 4, 4), (0, 5, 5), (0, 6, 6), (0, 7, 7), (0, 8, 8), (0, 9, 9)] [1, 2, 3, 4, 5, 6, 7, 8, 9, 10] (fun _ => 0) := by rw [e56]; exact p54.al 1 6 (by show a + 11 ≤ _; omega)
  refine z_putF (j := 10) zc0 dX0_init_87 (p57.2.1 0 _ rfl) (by rw [p57.1]; show a + 0 < a + 11; omega) (by decide) rfl rfl rfl rfl w496 ?_
  refine z_nmG (fun g58 e59 => ?_)
  have p60 : zPL h g58 a [(200, 14), (1, 150), (1, 150), (1, 150), (1, 150), (1, 150), (1, 150), (1, 64), (1, 6), (1, 6), (1, 6)] [(0, 1, 1), (0, 2, 2), (0, 3, 3), (0, 4, 4), (0, 5, 5), (0, 6, 6), (0, 7, 7), (0, 8, 8), (0, 9, 9), (0, 10, 10)] [1, 2, 3, 4, 5, 6, 7, 8, 9, 10] (fun _ => 0) := by rw [e59]; exact p57.wR 0 10 10 (by decide) (by decide +kernel)
  refine z_aloadn dX0_init_90 rfl rfl ?_
  refine z_bipush (v := 6) dX0_init_91 (by decide) ?_
  have hzg58 : zN g58 = a + 11 := p60.1
  refine z_newa (k := 2) (n := 12) (N := 6) 0 rfl (by decide) rfl (fun _ _ q => q) rfl (by decide) dX0_init_93 w286 (by decide) (Nat.le_of_ble_eq_true rfl) (by omega) ?_
  rw [hzg58]
  refine z_nmG (fun g61 e62 => ?_)
  have p63 : zPL h g61 a [(200, 14), (1, 150), (1, 150), (1, 150), (1, 150), (1, 150), (1, 150), (1, 64), (1, 6), (1, 6), (1, 6), (1, 6)] [(0, 1, 1), (0, 2, 2), (0, 3, 3), (0, 4, 4), (0, 5, 5), (0, 6, 6), (0, 7, 7), (0, 8, 8), (0, 9, 9), (0, 10, 10)] [1, 2, 3, 4, 5, 6, 7, 8, 9, 10, 11] (fun _ => 0) := by rw [e62]; exact p60.al 1 6 (by show a + 12 ≤ _; omega)
  refine z_putF (j := 11) zc0 dX0_init_95 (p63.2.1 0 _ rfl) (by rw [p63.1]; show a + 0 < a + 12; omega) (by decide) rfl rfl rfl rfl w498 ?_
  refine z_nmG (fun g64 e65 => ?_)
  have p66 : zPL h g64 a [(200, 14), (1, 150), (1, 150), (1, 150), (1, 150), (1, 150), (1, 150), (1, 64), (1, 6), (1, 6), (1, 6), (1, 6)] [(0, 1, 1), (0, 2, 2), (0, 3, 3), (0, 4, 4), (0, 5, 5), (0, 6, 6), (0, 7, 7), (0, 8, 8), (0, 9, 9), (0, 10, 10), (0, 11, 11)] [1, 2, 3, 4, 5, 6, 7, 8, 9, 10, 11] (fun _ => 0) := by rw [e65]; exact p63.wR 0 11 11 (by decide) (by decide +kernel)
  refine z_aloadn dX0_init_98 rfl rfl ?_
  refine z_bipush (v := 6) dX0_init_99 (by decide) ?_
  have hzg64 : zN g64 = a + 12 := p66.1
  refine z_newa (k := 1) (n := 6) (N := 6) 0 rfl (by decide) rfl (fun _ _ q => q) rfl (by decide) dX0_init_101 w286 (by decide) (Nat.le_of_ble_eq_true rfl) (by omega) ?_
  rw [hzg64]
  refine z_nmG (fun g67 e68 => ?_)
  have p69 : zPL h g67 a [(200, 14), (1, 150), (1, 150), (1, 150), (1, 150), (1, 150), (1, 150), (1, 64), (1, 6), (1, 6), (1, 6), (1, 6), (1, 6)] [(0, 1, 1), (0, 2, 2), (0, 3, 3), (0, 4, 4), (0, 5, 5), (0, 6, 6), (0, 7, 7), (0, 8, 8), (0, 9, 9), (0, 10, 10), (0, 11, 11)] [1, 2, 3, 4, 5, 6, 7, 8, 9, 10, 11, 12] (fun _ => 0) := by rw [e68]; exact p66.al 1 6 (by show a + 13 ≤ _; omega)
  refine z_putF (j := 12) zc0 dX0_init_103 (p69.2.1 0 _ rfl) (by rw [p69.1]; show a + 0 < a + 13; omega) (by decide) rfl rfl rfl rfl w500 ?_
  refine z_nmG (fun g70 e71 => ?_)
  have p72 : zPL h g70 a [(200, 14), (1, 150), (1, 150), (1, 150), (1, 150), (1, 150), (1, 150), (1, 64), (1, 6), (1, 6), (1, 6), (1, 6), (1, 6)] [(0, 1, 1), (0, 2, 2), (0, 3, 3), (0, 4, 4), (0, 5, 5), (0, 6, 6), (0, 7, 7), (0, 8, 8), (0, 9, 9), (0, 10, 10), (0, 11, 11), (0, 12, 12)] [1, 2, 3, 4, 5, 6, 7, 8, 9, 10, 11, 12] (fun _ => 0) := by rw [e71]; exact p69.wR 0 12 12 (by decide) (by decide +kernel)
  refine z_aloadn dX0_init_106 rfl rfl ?_
  refine z_bipush (v := 6) dX0_init_107 (by decide) ?_
  have hzg70 : zN g70 = a + 13 := p72.1
  refine z_newa (k := 0) (n := 0) (N := 6) 0 rfl (by decide) rfl (fun _ _ q => q) rfl (by decide) dX0_init_109 w286 (by decide) (Nat.le_of_ble_eq_true rfl) (by omega) ?_
  rw [hzg70]
  refine z_nmG (fun g73 e74 => ?_)
  have p75 : zPL h g73 a [(200, 14), (1, 150), (1, 150), (1, 150), (1, 150), (1, 150), (1, 150), (1, 64), (1, 6), (1, 6), (1, 6), (1, 6), (1, 6), (1, 6)] [(0, 1, 1), (0, 2, 2), (0, 3, 3), (0, 4, 4), (0, 5, 5), (0, 6, 6), (0, 7, 7), (0, 8, 8), (0, 9, 9), (0, 10, 10), (0, 11, 11), (0, 12, 12)] [1, 2, 3, 4, 5, 6, 7, 8, 9, 10, 11, 12, 13] (fun _ => 0) := by rw [e74]; exact p72.al 1 6 (by show a + 14 ≤ _; omega)
  refine z_putF (j := 13) zc0 dX0_init_111 (p75.2.1 0 _ rfl) (by rw [p75.1]; show a + 0 < a + 14; omega) (by decide) rfl rfl rfl rfl w502 ?_
  refine z_nmG (fun g76 e77 => ?_)
  have p78 : zPL h g76 a [(200, 14), (1, 150), (1, 150), (1, 150), (1, 150), (1, 150), (1, 150), (1, 64), (1, 6), (1, 6), (1, 6), (1, 6), (1, 6), (1, 6)] [(0, 1, 1), (0, 2, 2), (0, 3, 3), (0, 4, 4), (0, 5, 5), (0, 6, 6), (0, 7, 7), (0, 8, 8), (0, 9, 9), (0, 10, 10), (0, 11, 11), (0, 12, 12), (0, 13, 13)] [1, 2, 3, 4, 5, 6, 7, 8, 9, 10, 11, 12, 13] (fun _ => 0) := by rw [e77]; exact p75.wR 0 13 13 (by decide) (by decide +kernel)
  exact z_ret (v := none) dX0_init_114 rfl rfl ⟨rfl, [1, 2, 3, 4, 5, 6, 7, 8, 9, 10, 11, 12, 13], (fun _ => 0), p78.to rfl (by decide +kernel) (by decide +kernel)⟩

theorem c_X2_init (l : Launch) (G : zG) (h : zH) (a : Nat) (hz : zN h = a + 1) (hk : zK h a = (202, 10)) (h6 : a + 2 ≤ 1000000) (h0 : ∀ j, zI h a j = 0) : CT l G YX2_init 2 1 24 [va_rf (some a)] h (fun v g => v = none ∧ ∃ zs fv, zPL h g a ks2 rs2 zs fv) := by
  refine CT.of (by decide +kernel) (fun t e => by cases e) (Nat.le_of_ble_eq_true rfl) (show Z l G mX2_init 2 _ 1 24 0 [va_rf (some a)] [] h from ?_)
  have p0 : zPL h h a [(202, 10)] [] [] (fun _ => 0) := zPL.ini hz hk h0 (by omega)
  refine z_aloadn dX2_init_0 rfl rfl ?_
  refine z_objInit dX2_init_1 w218 w195 w196 (by decide) (Nat.le_of_ble_eq_true rfl) ?_
  refine z_aloadn dX2_init_4 rfl rfl ?_
  refine z_bipush (v := 24) dX2_init_5 (by decide) ?_
  have hzh : zN h = a + 1 := p0.1
  refine z_newa (k := 0) (n := 0) (N := 24) 0 rfl (by decide) rfl (fun _ _ q => q) rfl (by decide) dX2_init_7 w286 (by decide) (Nat.le_of_ble_eq_true rfl) (by omega) ?_
  rw [hzh]
  refine z_nmG (fun g1 e2 => ?_)
  have p3 : zPL h g1 a [(202, 10), (1, 24)] [] [1] (fun _ => 0) := by rw [e2]; exact p0.al 1 24 (by show a + 2 ≤ _; omega)
  refine z_putF (j := 9) zc2 dX2_init_9 (p3.2.1 0 _ rfl) (by rw [p3.1]; show a + 0 < a + 2; omega) (by decide) rfl rfl rfl rfl w263 ?_
  refine z_nmG (fun g4 e5 => ?_)
  have p6 : zPL h g4 a [(202, 10), (1, 24)] [(0, 9, 1)] [1] (fun _ => 0) := by rw [e5]; exact p3.wR 0 9 1 (by decide) (by decide +kernel)
  exact z_ret (v := none) dX2_init_12 rfl rfl ⟨rfl, [1], (fun _ => 0), p6.to rfl (by decide +kernel) (by decide +kernel)⟩

theorem c_X3_init (l : Launch) (G : zG) (h : zH) (a : Nat) (hz : zN h = a + 1) (hk : zK h a = (203, 6)) (h6 : a + 6 ≤ 1000000) (h0 : ∀ j, zI h a j = 0) : CT l G YX3_init 2 5 50 [va_rf (some a)] h (fun v g => v = none ∧ ∃ zs fv, zPL h g a ks3 rs3 zs fv) := by
  refine CT.of (by decide +kernel) (fun t e => by cases e) (Nat.le_of_ble_eq_true rfl) (show Z l G mX3_init 2 _ 5 50 0 [va_rf (some a)] [] h from ?_)
  have p0 : zPL h h a [(203, 6)] [] [] (fun _ => 0) := zPL.ini hz hk h0 (by omega)
  refine z_aloadn dX3_init_0 rfl rfl ?_
  refine z_objInit dX3_init_1 w359 w195 w196 (by decide) (Nat.le_of_ble_eq_true rfl) ?_
  refine z_aloadn dX3_init_4 rfl rfl ?_
  refine z_bipush (v := 10) dX3_init_5 (by decide) ?_
  have hzh : zN h = a + 1 := p0.1
  refine z_newa (k := 4) (n := 40) (N := 10) 0 rfl (by decide) rfl (fun _ _ q => q) rfl (by decide) dX3_init_7 w286 (by decide) (Nat.le_of_ble_eq_true rfl) (by omega) ?_
  rw [hzh]
  refine z_nmG (fun g1 e2 => ?_)
  have p3 : zPL h g1 a [(203, 6), (1, 10)] [] [1] (fun _ => 0) := by rw [e2]; exact p0.al 1 10 (by show a + 2 ≤ _; omega)
  refine z_putF (j := 1) zc3 dX3_init_9 (p3.2.1 0 _ rfl) (by rw [p3.1]; show a + 0 < a + 2; omega) (by decide) rfl rfl rfl rfl w364 ?_
  refine z_nmG (fun g4 e5 => ?_)
  have p6 : zPL h g4 a [(203, 6), (1, 10)] [(0, 1, 1)] [1] (fun _ => 0) := by rw [e5]; exact p3.wR 0 1 1 (by decide) (by decide +kernel)
  refine z_aloadn dX3_init_12 rfl rfl ?_
  refine z_bipush (v := 10) dX3_init_13 (by decide) ?_
  have hzg4 : zN g4 = a + 2 := p6.1
  refine z_newa (k := 3) (n := 30) (N := 10) 0 rfl (by decide) rfl (fun _ _ q => q) rfl (by decide) dX3_init_15 w286 (by decide) (Nat.le_of_ble_eq_true rfl) (by omega) ?_
  rw [hzg4]
  refine z_nmG (fun g7 e8 => ?_)
  have p9 : zPL h g7 a [(203, 6), (1, 10), (1, 10)] [(0, 1, 1)] [1, 2] (fun _ => 0) := by rw [e8]; exact p6.al 1 10 (by show a + 3 ≤ _; omega)
  refine z_putF (j := 2) zc3 dX3_init_17 (p9.2.1 0 _ rfl) (by rw [p9.1]; show a + 0 < a + 3; omega) (by decide) rfl rfl rfl rfl w367 ?_
  refine z_nmG (fun g10 e11 => ?_)
  have p12 : zPL h g10 a [(203, 6), (1, 10), (1, 10)] [(0, 1, 1), (0, 2, 2)] [1, 2] (fun _ => 0) := by rw [e11]; exact p9.wR 0 2 2 (by decide) (by decide +kernel)
  refine z_aloadn dX3_init_20 rfl rfl ?_
  refine z_bipush (v := 10) dX3_init_21 (by decide) ?_
  have hzg10 : zN g10 = a + 3 := p12.1
  refine z_newa (k := 2) (n := 20) (N := 10) 0 rfl (by decide) rfl (fun _ _ q => q) rfl (by decide) dX3_init_23 w286 (by decide) (Nat.le_of_ble_eq_true rfl) (by omega) ?_
  rw [hzg10]
  refine z_nmG (fun g13 e14 => ?_)
  have p15 : zPL h g13 a [(203, 6), (1, 10), (1, 10), (1, 10)] [(0, 1, 1), (0, 2, 2)] [1, 2, 3] (fun _ => 0) := by rw [e14]; exact p12.al 1 10 (by show a + 4 ≤ _; omega)
  refine z_putF (j := 3) zc3 dX3_init_25 (p15.2.1 0 _ rfl) (by rw [p15.1]; show a + 0 < a + 4; omega) (by decide) rfl rfl rfl rfl w370 ?_
  refine z_nmG (fun g16 e17 => ?_)
  have p18 : zPL h g16 a [(203, 6), (1, 10), (1, 10), (1, 10)] [(0, 1, 1), (0, 2, 2), (0, 3, 3)] [1, 2, 3] (fun _ => 0) := by rw [e17]; exact p15.wR 0 3 3 (by decide) (by decide +kernel)
  refine z_aloadn dX3_init_28 rfl rfl ?_
  refine z_bipush (v := 10) dX3_init_29 (by decide) ?_
  have hzg16 : zN g16 = a + 4 := p18.1
  refine z_newa (k := 1) (n := 10) (N := 10) 0 rfl (by decide) rfl (fun _ _ q => q) rfl (by decide) dX3_init_31 w286 (by decide) (Nat.le_of_ble_eq_true rfl) (by omega) ?_
  rw [hzg16]
  refine z_nmG (fun g19 e20 => ?_)
  have p21 : zPL h g19 a [(203, 6), (1, 10), (1, 10), (1, 10), (1, 10)] [(0, 1, 1), (0, 2, 2), (0, 3, 3)] [1, 2, 3, 4] (fun _ => 0) := by rw [e20]; exact p18.al 1 10 (by show a + 5 ≤ _; omega)
  refine z_putF (j := 4) zc3 dX3_init_33 (p21.2.1 0 _ rfl) (by rw [p21.1]; show a + 0 < a + 5; omega) (by decide) rfl rfl rfl rfl w373 ?_
  refine z_nmG (fun g22 e23 => ?_)
  have p24 : zPL h g22 a [(203, 6), (1, 10), (1, 10), (1, 10), (1, 10)] [(0, 1, 1), (0, 2, 2), (0, 3, 3), (0, 4, 4)] [1, 2, 3, 4] (fun _ => 0) := by rw [e23]; exact p21.wR 0 4 4 (by decide) (by decide +kernel)
  refine z_aloadn dX3_init_36 rfl rfl ?_
  refine z_bipush (v := 10) dX3_init_37 (by decide) ?_
  have hzg22 : zN g22 = a + 5 := p24.1
  refine z_newa (k := 0) (n := 0) (N := 10) 0 rfl (by decide) rfl (fun _ _ q => q) rfl (by decide) dX3_init_39 w286 (by decide) (Nat.le_of_ble_eq_true rfl) (by omega) ?_
  rw [hzg22]
  refine z_nmG (fun g25 e26 => ?_)
  have p27 : zPL h g25 a [(203, 6), (1, 10), (1, 10), (1, 10), (1, 10), (1, 10)] [(0, 1, 1), (0, 2, 2), (0, 3, 3), (0, 4, 4)] [1, 2, 3, 4, 5] (fun _ => 0) := by rw [e26]; exact p24.al 1 10 (by show a + 6 ≤ _; omega)
  refine z_putF (j := 5) zc3 dX3_init_41 (p27.2.1 0 _ rfl) (by rw [p27.1]; show a + 0 < a + 6; omega) (by decide) rfl rfl rfl rfl w376 ?_
  refine z_nmG (fun g28 e29 => ?_)
  have p30 : zPL h g28 a [(203, 6), (1, 10), (1, 10), (1, 10), (1, 10), (1, 10)] [(0, 1, 1), (0, 2, 2), (0, 3, 3), (0, 4, 4), (0, 5, 5)] [1, 2, 3, 4, 5] (fun _ => 0) := by rw [e29]; exact p27.wR 0 5 5 (by decide) (by decide +kernel)
  exact z_ret (v := none) dX3_init_44 rfl rfl ⟨rfl, [1, 2, 3, 4, 5], (fun _ => 0), p30.to rfl (by decide +kernel) (by decide +kernel)⟩

theorem c_X4_init (l : Launch) (G : zG) (h : zH) (a : Nat) (hz : zN h = a + 1) (hk : zK h a = (204, 14)) (h6 : a + 7 ≤ 1000000) (h0 : ∀ j, zI h a j = 0) : CT l G YX4_init 2 6 60 [va_rf (some a)] h (fun v g => v = none ∧ ∃ zs fv, zPL h g a ks4 rs4 zs fv) := by
  refine CT.of (by decide +kernel) (fun t e => by cases e) (Nat.le_of_ble_eq_true rfl) (show Z l G mX4_init 2 _ 6 60 0 [va_rf (some a)] [] h from ?_)
  have p0 : zPL h h a [(204, 14)] [] [] (fun _ => 0) := zPL.ini hz hk h0 (by omega)
  refine z_aloadn dX4_init_0 rfl rfl ?_
  refine z_objInit dX4_init_1 w650 w195 w196 (by decide) (Nat.le_of_ble_eq_true rfl) ?_
  refine z_aloadn dX4_init_4 rfl rfl ?_
  refine z_bipush (v := 10) dX4_init_5 (by decide) ?_
  have hzh : zN h = a + 1 := p0.1
  refine z_newa (k := 5) (n := 50) (N := 10) 0 rfl (by decide) rfl (fun _ _ q => q) rfl (by decide) dX4_init_7 w286 (by decide) (Nat.le_of_ble_eq_true rfl) (by omega) ?_
  rw [hzh]
  refine z_nmG (fun g1 e2 => ?_)
  have p3 : zPL h g1 a [(204, 14), (1, 10)] [] [1] (fun _ => 0) := by rw [e2]; exact p0.al 1 10 (by show a + 2 ≤ _; omega)
  refine z_putF (j := 1) zc4 dX4_init_9 (p3.2.1 0 _ rfl) (by rw [p3.1]; show a + 0 < a + 2; omega) (by decide) rfl rfl rfl rfl w652 ?_
  refine z_nmG (fun g4 e5 => ?_)
  have p6 : zPL h g4 a [(204, 14), (1, 10)] [(0, 1, 1)] [1] (fun _ => 0) := by rw [e5]; exact p3.wR 0 1 1 (by decide) (by decide +kernel)
  refine z_aloadn dX4_init_12 rfl rfl ?_
  refine z_bipush (v := 10) dX4_init_13 (by decide) ?_
  have hzg4 : zN g4 = a + 2 := p6.1
  refine z_newa (k := 4) (n := 40) (N := 10) 0 rfl (by decide) rfl (fun _ _ q => q) rfl (by decide) dX4_init_15 w286 (by decide) (Nat.le_of_ble_eq_true rfl) (by omega) ?_
  rw [hzg4]
  refine z_nmG (fun g7 e8 => ?_)
  have p9 : zPL h g7 a [(204, 14), (1, 10), (1, 10)] [(0, 1, 1)] [1, 2] (fun _ => 0) := by rw [e8]; exact p6.al 1 10 (by show a + 3 ≤ _; omega)
  refine z_putF (j := 2) zc4 dX4_init_17 (p9.2.1 0 _ rfl) (by rw [p9.1]; show a + 0 < a + 3; omega) (by decide) rfl rfl rfl rfl w654 ?_
  refine z_nmG (fun g10 e11 => ?_)
  have p12 : zPL h g10 a [(204, 14), (1, 10), (1, 10)] [(0, 1, 1), (0, 2, 2)] [1, 2] (fun _ => 0) := by rw [e11]; exact p9.wR 0 2 2 (by decide) (by decide +kernel)
  refine z_aloadn dX4_init_20 rfl rfl ?_
  refine z_bipush (v := 10) dX4_init_21 (by decide) ?_
  have hzg10 : zN g10 = a + 3 := p12.1
  refine z_newa (k := 3) (n := 30) (N := 10) 0 rfl (by decide) rfl (fun _ _ q => q) rfl (by decide) dX4_init_23 w286 (by decide) (Nat.le_of_ble_eq_true rfl) (by omega) ?_
  rw [hzg10]
  refine z_nmG (fun g13 e14 => ?_)
  have p15 : zPL h g13 a [(204, 14), (1, 10), (1, 10), (1, 10)] [(0, 1, 1), (0, 2, 2)] [1, 2, 3] (fun _ => 0) := by rw [e14]; exact p12.al 1 10 (by show a + 4 ≤ _; omega)
  refine z_putF (j := 5) zc4 dX4_init_25 (p15.2.1 0 _ rfl) (by rw [p15.1]; show a + 0 < a + 4; omega) (by decide) rfl rfl rfl rfl w660 ?_
  refine z_nmG (fun g16 e17 => ?_)
  have p18 : zPL h g16 a [(204, 14), (1, 10), (1, 10), (1, 10)] [(0, 1, 1), (0, 2, 2), (0, 5, 3)] [1, 2, 3] (fun _ => 0) := by rw [e17]; exact p15.wR 0 5 3 (by decide) (by decide +kernel)
  refine z_aloadn dX4_init_28 rfl rfl ?_
  refine z_bipush (v := 10) dX4_init_29 (by decide) ?_
  have hzg16 : zN g16 = a + 4 := p18.1
  refine z_newa (k := 2) (n := 20) (N := 10) 0 rfl (by decide) rfl (fun _ _ q => q) rfl (by decide) dX4_init_31 w286 (by decide) (Nat.le_of_ble_eq_true rfl) (by omega) ?_
  rw [hzg16]
  refine z_nmG (fun g19 e20 => ?_)
  have p21 : zPL h g19 a [(204, 14), (1, 10), (1, 10), (1, 10), (1, 10)] [(0, 1, 1), (0, 2, 2), (0, 5, 3)] [1, 2, 3, 4] (fun _ => 0) := by rw [e20]; exact p18.al 1 10 (by show a + 5 ≤ _; omega)
  refine z_putF (j := 11) zc4 dX4_init_33 (p21.2.1 0 _ rfl) (by rw [p21.1]; show a + 0 < a + 5; omega) (by decide) rfl rfl rfl rfl w667 ?_
  refine z_nmG (fun g22 e23 => ?_)
  have p24 : zPL h g22 a [(204, 14), (1, 10), (1, 10), (1, 10), (1, 10)] [(0, 1, 1), (0, 2, 2), (0, 5, 3), (0, 11, 4)] [1, 2, 3, 4] (fun _ => 0) := by rw [e23]; exact p21.wR 0 11 4 (by decide) (by decide +kernel)
  refine z_aloadn dX4_init_36 rfl rfl ?_
  refine z_bipush (v := 10) dX4_init_37 (by decide) ?_
  have hzg22 : zN g22 = a + 5 := p24.1
  refine z_newa (k := 1) (n := 10) (N := 10) 0 rfl (by decide) rfl (fun _ _ q => q) rfl (by decide) dX4_init_39 w286 (by decide) (Nat.le_of_ble_eq_true rfl) (by omega) ?_
  rw [hzg22]
  refine z_nmG (fun g25 e26 => ?_)
  have p27 : zPL h g25 a [(204, 14), (1, 10), (1, 10), (1, 10), (1, 10), (1, 10)] [(0, 1, 1), (0, 2, 2), (0, 5, 3), (0, 11, 4)] [1, 2, 3, 4, 5] (fun _ => 0) := by rw [e26]; exact p24.al 1 10 (by show a + 6 ≤ _; omega)
  refine z_putF (j := 12) zc4 dX4_init_41 (p27.2.1 0 _ rfl) (by rw [p27.1]; show a + 0 < a + 6; omega) (by decide) rfl rfl rfl rfl w668 ?_
  refine z_nmG (fun g28 e29 => ?_)
  have p30 : zPL h g28 a [(204, 14), (1, 10), (1, 10), (1, 10), (1, 10), (1, 10)] [(0, 1, 1), (0, 2, 2), (0, 5, 3), (0, 11, 4), (0, 12, 5)] [1, 2, 3, 4, 5] (fun _ => 0) := by rw [e29]; exact p27.wR 0 12 5 (by decide) (by decide +kernel)
  refine z_aloadn dX4_init_44 rfl rfl ?_
  refine z_bipush (v := 10) dX4_init_45 (by decide) ?_
  have hzg28 : zN g28 = a + 6 := p30.1
  refine z_newa (k := 0) (n := 0) (N := 10) 0 rfl (by decide) rfl (fun _ _ q => q) rfl (by decide) dX4_init_47 w286 (by decide) (Nat.le_of_ble_eq_true rfl) (by omega) ?_
  rw [hzg28]
  refine z_nmG (fun g31 e32 => ?_)
  have p33 : zPL h g31 a [(204, 14), (1, 10), (1, 10), (1, 10), (1, 10), (1, 10), (1, 10)] [(0, 1, 1), (0, 2, 2), (0, 5, 3), (0, 11, 4), (0, 12, 5)] [1, 2, 3, 4, 5, 6] (fun _ => 0) := by rw [e32]; exact p30.al 1 10 (by show a + 7 ≤ _; omega)
  refine z_putF (j := 13) zc4 dX4_init_49 (p33.2.1 0 _ rfl) (by rw [p33.1]; show a + 0 < a + 7; omega) (by decide) rfl rfl rfl rfl w669 ?_
  refine z_nmG (fun g34 e35 => ?_)
  have p36 : zPL h g34 a [(204, 14), (1, 10), (1, 10), (1, 10), (1, 10), (1, 10), (1, 10)] [(0, 1, 1), (0, 2, 2), (0, 5, 3), (0, 11, 4), (0, 12, 5), (0, 13, 6)] [1, 2, 3, 4, 5, 6] (fun _ => 0) := by rw [e35]; exact p33.wR 0 13 6 (by decide) (by decide +kernel)
  exact z_ret (v := none) dX4_init_52 rfl rfl ⟨rfl, [1, 2, 3, 4, 5, 6], (fun _ => 0), p36.to rfl (by decide +kernel) (by decide +kernel)⟩

theorem c_X8_init (l : Launch) (G : zG) (h : zH) (a : Nat) (hz : zN h = a + 1) (hk : zK h a = (208, 7)) (h6 : a + 4 ≤ 1000000) (h0 : ∀ j, zI h a j = 0) : CT l G YX8_init 2 3 70 [va_rf (some a)] h (fun v g => v = none ∧ ∃ zs fv, zPL h g a ks8 rs8 zs fv) := by
  refine CT.of (by decide +kernel) (fun t e => by cases e) (Nat.le_of_ble_eq_true rfl) (show Z l G mX8_init 2 _ 3 70 0 [va_rf (some a)] [] h from ?_)
  have p0 : zPL h h a [(208, 7)] [] [] (fun _ => 0) := zPL.ini hz hk h0 (by omega)
  refine z_aloadn dX8_init_0 rfl rfl ?_
  refine z_objInit dX8_init_1 w582 w195 w196 (by decide) (Nat.le_of_ble_eq_true rfl) ?_
  refine z_aloadn dX8_init_4 rfl rfl ?_
  refine z_bipush (v := 64) dX8_init_5 (by decide) ?_
  have hzh : zN h = a + 1 := p0.1
  refine z_newa (k := 2) (n := 6) (N := 64) 0 rfl (by decide) rfl (fun _ _ q => q) rfl (by decide) dX8_init_7 w286 (by decide) (Nat.le_of_ble_eq_true rfl) (by omega) ?_
  rw [hzh]
  refine z_nmG (fun g1 e2 => ?_)
  have p3 : zPL h g1 a [(208, 7), (1, 64)] [] [1] (fun _ => 0) := by rw [e2]; exact p0.al 1 64 (by show a + 2 ≤ _; omega)
  refine z_putF (j := 0) zc8 dX8_init_9 (p3.2.1 0 _ rfl) (by rw [p3.1]; show a + 0 < a + 2; omega) (by decide) rfl rfl rfl rfl w583 ?_
  refine z_nmG (fun g4 e5 => ?_)
  have p6 : zPL h g4 a [(208, 7), (1, 64)] [(0, 0, 1)] [1] (fun _ => 0) := by rw [e5]; exact p3.wR 0 0 1 (by decide) (by decide +kernel)
  refine z_aloadn dX8_init_12 rfl rfl ?_
  refine z_iconst (v := 3) dX8_init_13 (by decide) ?_
  have hzg4 : zN g4 = a + 2 := p6.1
  refine z_newa (k := 1) (n := 3) (N := 3) 0 rfl (by decide) rfl (fun _ _ q => q) rfl (by decide) dX8_init_14 w286 (by decide) (Nat.le_of_ble_eq_true rfl) (by omega) ?_
  rw [hzg4]
  refine z_nmG (fun g7 e8 => ?_)
  have p9 : zPL h g7 a [(208, 7), (1, 64), (1, 3)] [(0, 0, 1)] [1, 2] (fun _ => 0) := by rw [e8]; exact p6.al 1 3 (by show a + 3 ≤ _; omega)
  refine z_putF (j := 4) zc8 dX8_init_16 (p9.2.1 0 _ rfl) (by rw [p9.1]; show a + 0 < a + 3; omega) (by decide) rfl rfl rfl rfl w587 ?_
  refine z_nmG (fun g10 e11 => ?_)
  have p12 : zPL h g10 a [(208, 7), (1, 64), (1, 3)] [(0, 0, 1), (0, 4, 2)] [1, 2] (fun _ => 0) := by rw [e11]; exact p9.wR 0 4 2 (by decide) (by decide +kernel)
  refine z_aloadn dX8_init_19 rfl rfl ?_
  refine z_iconst (v := 3) dX8_init_20 (by decide) ?_
  have hzg10 : zN g10 = a + 3 := p12.1
  refine z_newa (k := 0) (n := 0) (N := 3) 0 rfl (by decide) rfl (fun _ _ q => q) rfl (by decide) dX8_init_21 w286 (by decide) (Nat.le_of_ble_eq_true rfl) (by omega) ?_
  rw [hzg10]
  refine z_nmG (fun g13 e14 => ?_)
  have p15 : zPL h g13 a [(208, 7), (1, 64), (1, 3), (1, 3)] [(0, 0, 1), (0, 4, 2)] [1, 2, 3] (fun _ => 0) := by rw [e14]; exact p12.al 1 3 (by show a + 4 ≤ _; omega)
  refine z_putF (j := 5) zc8 dX8_init_23 (p15.2.1 0 _ rfl) (by rw [p15.1]; show a + 0 < a + 4; omega) (by decide) rfl rfl rfl rfl w588 ?_
  refine z_nmG (fun g16 e17 => ?_)
  have p18 : zPL h g16 a [(208, 7), (1, 64), (1, 3), (1, 3)] [(0, 0, 1), (0, 4, 2), (0, 5, 3)] [1, 2, 3] (fun _ => 0) := by rw [e17]; exact p15.wR 0 5 3 (by decide) (by decide +kernel)
  exact z_ret (v := none) dX8_init_26 rfl rfl ⟨rfl, [1, 2, 3], (fun _ => 0), p18.to rfl (by decide +kernel) (by decide +kernel)⟩

theorem c_X9_init (l : Launch) (G : zG) (h : zH) (a : Nat) (hz : zN h = a + 1) (hk : zK h a = (209, 10)) (h6 : a + 4 ≤ 1000000) (h0 : ∀ j, zI h a j = 0) : CT l G YX9_init 2 3 2792 [va_rf (some a)] h (fun v g => v = none ∧ ∃ zs fv, zPL h g a ks9 rs9 zs fv) := by
  refine CT.of (by decide +kernel) (fun t e => by cases e) (Nat.le_of_ble_eq_true rfl) (show Z l G mX9_init 2 _ 3 2792 0 [va_rf (some a)] [] h from ?_)
  have p0 : zPL h h a [(209, 10)] [] [] (fun _ => 0) := zPL.ini hz hk h0 (by omega)
  refine z_aloadn dX9_init_0 rfl rfl ?_
  refine z_objInit dX9_init_1 w540 w195 w196 (by decide) (Nat.le_of_ble_eq_true rfl) ?_
  refine z_aloadn dX9_init_4 rfl rfl ?_
  refine z_bipush (v := 40) dX9_init_5 (by decide) ?_
  have hzh : zN h = a + 1 := p0.1
  refine z_newa (k := 2) (n := 2752) (N := 40) 0 rfl (by decide) rfl (fun _ _ q => q) rfl (by decide) dX9_init_7 w286 (by decide) (Nat.le_of_ble_eq_true rfl) (by omega) ?_
  rw [hzh]
  refine z_nmG (fun g1 e2 => ?_)
  have p3 : zPL h g1 a [(209, 10), (1, 40)] [] [1] (fun _ => 0) := by rw [e2]; exact p0.al 1 40 (by show a + 2 ≤ _; omega)
  refine z_putF (j := 2) zc9 dX9_init_9 (p3.2.1 0 _ rfl) (by rw [p3.1]; show a + 0 < a + 2; omega) (by decide) rfl rfl rfl rfl w547 ?_
  refine z_nmG (fun g4 e5 => ?_)
  have p6 : zPL h g4 a [(209, 10), (1, 40)] [(0, 2, 1)] [1] (fun _ => 0) := by rw [e5]; exact p3.wR 0 2 1 (by decide) (by decide +kernel)
  refine z_aloadn dX9_init_12 rfl rfl ?_
  refine z_sipush (v := 2624) dX9_init_13 (by decide) ?_
  have hzg4 : zN g4 = a + 2 := p6.1
  refine z_newa (k := 1) (n := 128) (N := 2624) 0 rfl (by decide) rfl (fun _ _ q => q) rfl (by decide) dX9_init_16 w286 (by decide) (Nat.le_of_ble_eq_true rfl) (by omega) ?_
  rw [hzg4]
  refine z_nmG (fun g7 e8 => ?_)
  have p9 : zPL h g7 a [(209, 10), (1, 40), (1, 2624)] [(0, 2, 1)] [1, 2] (fun _ => 0) := by rw [e8]; exact p6.al 1 2624 (by show a + 3 ≤ _; omega)
  refine z_putF (j := 8) zc9 dX9_init_18 (p9.2.1 0 _ rfl) (by rw [p9.1]; show a + 0 < a + 3; omega) (by decide) rfl rfl rfl rfl w554 ?_
  refine z_nmG (fun g10 e11 => ?_)
  have p12 : zPL h g10 a [(209, 10), (1, 40), (1, 2624)] [(0, 2, 1), (0, 8, 2)] [1, 2] (fun _ => 0) := by rw [e11]; exact p9.wR 0 8 2 (by decide) (by decide +kernel)
  refine z_aloadn dX9_init_21 rfl rfl ?_
  refine z_sipush (v := 128) dX9_init_22 (by decide) ?_
  have hzg10 : zN g10 = a + 3 := p12.1
  refine z_newa (k := 0) (n := 0) (N := 128) 0 rfl (by decide) rfl (fun _ _ q => q) rfl (by decide) dX9_init_25 w286 (by decide) (Nat.le_of_ble_eq_true rfl) (by omega) ?_
  rw [hzg10]
  refine z_nmG (fun g13 e14 => ?_)
  have p15 : zPL h g13 a [(209, 10), (1, 40), (1, 2624), (1, 128)] [(0, 2, 1), (0, 8, 2)] [1, 2, 3] (fun _ => 0) := by rw [e14]; exact p12.al 1 128 (by show a + 4 ≤ _; omega)
  refine z_putF (j := 9) zc9 dX9_init_27 (p15.2.1 0 _ rfl) (by rw [p15.1]; show a + 0 < a + 4; omega) (by decide) rfl rfl rfl rfl w555 ?_
  refine z_nmG (fun g16 e17 => ?_)
  have p18 : zPL h g16 a [(209, 10), (1, 40), (1, 2624), (1, 128)] [(0, 2, 1), (0, 8, 2), (0, 9, 3)] [1, 2, 3] (fun _ => 0) := by rw [e17]; exact p15.wR 0 9 3 (by decide) (by decide +kernel)
  exact z_ret (v := none) dX9_init_30 rfl rfl ⟨rfl, [1, 2, 3], (fun _ => 0), p18.to rfl (by decide +kernel) (by decide +kernel)⟩
