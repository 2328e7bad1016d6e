set_option maxRecDepth 8000
def kA11_0 : List (Nat × Nat) := [(211, 50)]
theorem kA11_0_l : kA11_0.length = 1 := by decide +kernel
def rA11_1 : List (Nat × Nat × Nat) := []
def kA11_2 : List (Nat × Nat) := [(211, 50), (1, 5392)]
theorem kA11_2_l : kA11_2.length = 2 := by decide +kernel
def rA11_3 : List (Nat × Nat × Nat) := [(0, 0, 1)]
def kA11_4 : List (Nat × Nat) := [(211, 50), (1, 5392), (2, 3)]
theorem kA11_4_l : kA11_4.length = 3 := by decide +kernel
def rA11_5 : List (Nat × Nat × Nat) := [(0, 0, 1), (0, 1, 2)]
def kA11_6 : List (Nat × Nat) := [(211, 50), (1, 5392), (2, 3), (1, 318)]
theorem kA11_6_l : kA11_6.length = 4 := by decide +kernel
def rA11_7 : List (Nat × Nat × Nat) := [(0, 0, 1), (0, 1, 2), (0, 11, 3)]
def kA11_8 : List (Nat × Nat) := [(211, 50), (1, 5392), (2, 3), (1, 318), (2, 100)]
theorem kA11_8_l : kA11_8.length = 5 := by decide +kernel
def rA11_9 : List (Nat × Nat × Nat) := [(0, 0, 1), (0, 1, 2), (0, 11, 3), (0, 20, 4)]
def kA11_10 : List (Nat × Nat) := [(211, 50), (1, 5392), (2, 3), (1, 318), (2, 100), (1, 600)]
theorem kA11_10_l : kA11_10.length = 6 := by decide +kernel
def rA11_11 : List (Nat × Nat × Nat) := [(0, 0, 1), (0, 1, 2), (0, 11, 3), (0, 20, 4), (0, 21, 5)]
def kA11_12 : List (Nat × Nat) := [(211, 50), (1, 5392), (2, 3), (1, 318), (2, 100), (1, 600), (1, 6)]
theorem kA11_12_l : kA11_12.length = 7 := by decide +kernel
def rA11_13 : List (Nat × Nat × Nat) := [(0, 0, 1), (0, 1, 2), (0, 11, 3), (0, 20, 4), (0, 21, 5), (0, 22, 6)]
def kA11_14 : List (Nat × Nat) := [(211, 50), (1, 5392), (2, 3), (1, 318), (2, 100), (1, 600), (1, 6), (1, 160)]
theorem kA11_14_l : kA11_14.length = 8 := by decide +kernel
def rA11_15 : List (Nat × Nat × Nat) := [(0, 0, 1), (0, 1, 2), (0, 11, 3), (0, 20, 4), (0, 21, 5), (0, 22, 6), (0, 24, 7)]
def kA11_16 : List (Nat × Nat) := [(211, 50), (1, 5392), (2, 3), (1, 318), (2, 100), (1, 600), (1, 6), (1, 160), (1, 160)]
theorem kA11_16_l : kA11_16.length = 9 := by decide +kernel
def rA11_17 : List (Nat × Nat × Nat) := [(0, 0, 1), (0, 1, 2), (0, 11, 3), (0, 20, 4), (0, 21, 5), (0, 22, 6), (0, 24, 7), (0, 25, 8)]
def kA11_18 : List (Nat × Nat) := [(211, 50), (1, 5392), (2, 3), (1, 318), (2, 100), (1, 600), (1, 6), (1, 160), (1, 160), (1, 160)]
theorem kA11_18_l : kA11_18.length = 10 := by decide +kernel
def rA11_19 : List (Nat × Nat × Nat) := [(0, 0, 1), (0, 1, 2), (0, 11, 3), (0, 20, 4), (0, 21, 5), (0, 22, 6), (0, 24, 7), (0, 25, 8), (0, 26, 9)]
def kA11_20 : List (Nat × Nat) := [(211, 50), (1, 5392), (2, 3), (1, 318), (2, 100), (1, 600), (1, 6), (1, 160), (1, 160), (1, 160), (1, 160)]
theorem kA11_20_l : kA11_20.length = 11 := by decide +kernel
def rA11_21 : List (Nat × Nat × Nat) := [(0, 0, 1), (0, 1, 2), (0, 11, 3), (0, 20, 4), (0, 21, 5), (0, 22, 6), (0, 24, 7), (0, 25, 8), (0, 26, 9), (0, 27, 10)]
def kA11_22 : List (Nat × Nat) := [(211, 50), (1, 5392), (2, 3), (1, 318), (2, 100), (1, 600), (1, 6), (1, 160), (1, 160), (1, 160), (1, 160), (1, 160)]
theorem kA11_22_l : kA11_22.length = 12 := by decide +kernel
def rA11_23 : List (Nat × Nat × Nat) := [(0, 0, 1), (0, 1, 2), (0, 11, 3), (0, 20, 4), (0, 21, 5), (0, 22, 6), (0, 24, 7), (0, 25, 8), (0, 26, 9), (0, 27, 10), (0, 28, 11)]
def kA11_24 : List (Nat × Nat) := [(211, 50), (1, 5392), (2, 3), (1, 318), (2, 100), (1, 600), (1, 6), (1, 160), (1, 160), (1, 160), (1, 160), (1, 160), (1, 160)]
theorem kA11_24_l : kA11_24.length = 13 := by decide +kernel
def rA11_25 : List (Nat × Nat × Nat) := [(0, 0, 1), (0, 1, 2), (0, 11, 3), (0, 20, 4), (0, 21, 5), (0, 22, 6), (0, 24, 7), (0, 25, 8), (0, 26, 9), (0, 27, 10), (0, 28, 11), (0, 29, 12)]
def kA11_26 : List (Nat × Nat) := [(211, 50), (1, 5392), (2, 3), (1, 318), (2, 100), (1, 600), (1, 6), (1, 160), (1, 160), (1, 160), (1, 160), (1, 160), (1, 160), (1, 160)]
theorem kA11_26_l : kA11_26.length = 14 := by decide +kernel
def rA11_27 : List (Nat × Nat × Nat) := [(0, 0, 1), (0, 1, 2), (0, 11, 3), (0, 20, 4), (0, 21, 5), (0, 22, 6), (0, 24, 7), (0, 25, 8), (0, 26, 9), (0, 27, 10), (0, 28, 11), (0, 29, 12), (0, 30, 13)]
def kA11_28 : List (Nat × Nat) := [(211, 50), (1, 5392), (2, 3), (1, 318), (2, 100), (1, 600), (1, 6), (1, 160), (1, 160), (1, 160), (1, 160), (1, 160), (1, 160), (1, 160), (1, 160)]
theorem kA11_28_l : kA11_28.length = 15 := by decide +kernel
def rA11_29 : List (Nat × Nat × Nat) := [(0, 0, 1), (0, 1, 2), (0, 11, 3), (0, 20, 4), (0, 21, 5), (0, 22, 6), (0, 24, 7), (0, 25, 8), (0, 26, 9), (0, 27, 10), (0, 28, 11), (0, 29, 12), (0, 30, 13), (0, 31, 14)]
def kA11_30 : List (Nat × Nat) := [(211, 50), (1, 5392), (2, 3), (1, 318), (2, 100), (1, 600), (1, 6), (1, 160), (1, 160), (1, 160), (1, 160), (1, 160), (1, 160), (1, 160), (1, 160), (1, 24)]
theorem kA11_30_l : kA11_30.length = 16 := by decide +kernel
def rA11_31 : List (Nat × Nat × Nat) := [(0, 0, 1), (0, 1, 2), (0, 11, 3), (0, 20, 4), (0, 21, 5), (0, 22, 6), (0, 24, 7), (0, 25, 8), (0, 26, 9), (0, 27, 10), (0, 28, 11), (0, 29, 12), (0, 30, 13), (0, 31, 14), (0, 32, 15)]
def kA11_32 : List (Nat × Nat) := [(211, 50), (1, 5392), (2, 3), (1, 318), (2, 100), (1, 600), (1, 6), (1, 160), (1, 160), (1, 160), (1, 160), (1, 160), (1, 160), (1, 160), (1, 160), (1, 24), (1, 64)]
theorem kA11_32_l : kA11_32.length = 17 := by decide +kernel
def rA11_33 : List (Nat × Nat × Nat) := [(0, 0, 1), (0, 1, 2), (0, 11, 3), (0, 20, 4), (0, 21, 5), (0, 22, 6), (0, 24, 7), (0, 25, 8), (0, 26, 9), (0, 27, 10), (0, 28, 11), (0, 29, 12), (0, 30, 13), (0, 31, 14), (0, 32, 15), (0, 33, 16)]
def kA11_34 : List (Nat × Nat) := [(211, 50), (1, 5392), (2, 3), (1, 318), (2, 100), (1, 600), (1, 6), (1, 160), (1, 160), (1, 160), (1, 160), (1, 160), (1, 160), (1, 160), (1, 160), (1, 24), (1, 64), (1, 64)]
theorem kA11_34_l : kA11_34.length = 18 := by decide +kernel
def rA11_35 : List (Nat × Nat × Nat) := [(0, 0, 1), (0, 1, 2), (0, 11, 3), (0, 20, 4), (0, 21, 5), (0, 22, 6), (0, 24, 7), (0, 25, 8), (0, 26, 9), (0, 27, 10), (0, 28, 11), (0, 29, 12), (0, 30, 13), (0, 31, 14), (0, 32, 15), (0, 33, 16), (0, 34, 17)]
def kA11_36 : List (Nat × Nat) := [(211, 50), (1, 5392), (2, 3), (1, 318), (2, 100), (1, 600), (1, 6), (1, 160), (1, 160), (1, 160), (1, 160), (1, 160), (1, 160), (1, 160), (1, 160), (1, 24), (1, 64), (1, 64), (1, 5248)]
theorem kA11_36_l : kA11_36.length = 19 := by decide +kernel
def rA11_37 : List (Nat × Nat × Nat) := [(0, 0, 1), (0, 1, 2), (0, 11, 3), (0, 20, 4), (0, 21, 5), (0, 22, 6), (0, 24, 7), (0, 25, 8), (0, 26, 9), (0, 27, 10), (0, 28, 11), (0, 29, 12), (0, 30, 13), (0, 31, 14), (0, 32, 15), (0, 33, 16), (0, 34, 17), (0, 35, 18)]
def kA11_38 : List (Nat × Nat) := [(211, 50), (1, 5392), (2, 3), (1, 318), (2, 100), (1, 600), (1, 6), (1, 160), (1, 160), (1, 160), (1, 160), (1, 160), (1, 160), (1, 160), (1, 160), (1, 24), (1, 64), (1, 64), (1, 5248), (1, 41)]
theorem kA11_38_l : kA11_38.length = 20 := by decide +kernel
def rA11_39 : List (Nat × Nat × Nat) := [(0, 0, 1), (0, 1, 2), (0, 11, 3), (0, 20, 4), (0, 21, 5), (0, 22, 6), (0, 24, 7), (0, 25, 8), (0, 26, 9), (0, 27, 10), (0, 28, 11), (0, 29, 12), (0, 30, 13), (0, 31, 14), (0, 32, 15), (0, 33, 16), (0, 34, 17), (0, 35, 18), (0, 40, 19)]
def kA11_40 : List (Nat × Nat) := [(211, 50), (1, 5392), (2, 3), (1, 318), (2, 100), (1, 600), (1, 6), (1, 160), (1, 160), (1, 160), (1, 160), (1, 160), (1, 160), (1, 160), (1, 160), (1, 24), (1, 64), (1, 64), (1, 5248), (1, 41), (2, 41)]
theorem kA11_40_l : kA11_40.length = 21 := by decide +kernel
def rA11_41 : List (Nat × Nat × Nat) := [(0, 0, 1), (0, 1, 2), (0, 11, 3), (0, 20, 4), (0, 21, 5), (0, 22, 6), (0, 24, 7), (0, 25, 8), (0, 26, 9), (0, 27, 10), (0, 28, 11), (0, 29, 12), (0, 30, 13), (0, 31, 14), (0, 32, 15), (0, 33, 16), (0, 34, 17), (0, 35, 18), (0, 40, 19), (0, 41, 20)]
def kA11_42 : List (Nat × Nat) := [(211, 50), (1, 5392), (2, 3), (1, 318), (2, 100), (1, 600), (1, 6), (1, 160), (1, 160), (1, 160), (1, 160), (1, 160), (1, 160), (1, 160), (1, 160), (1, 24), (1, 64), (1, 64), (1, 5248), (1, 41), (2, 41), (1, 10)]
theorem kA11_42_l : kA11_42.length = 22 := by decide +kernel
def rA11_43 : List (Nat × Nat × Nat) := [(0, 0, 1), (0, 1, 2), (0, 11, 3), (0, 20, 4), (0, 21, 5), (0, 22, 6), (0, 24, 7), (0, 25, 8), (0, 26, 9), (0, 27, 10), (0, 28, 11), (0, 29, 12), (0, 30, 13), (0, 31, 14), (0, 32, 15), (0, 33, 16), (0, 34, 17), (0, 35, 18), (0, 40, 19), (0, 41, 20), (0, 44, 21)]
def kA11_44 : List (Nat × Nat) := [(211, 50), (1, 5392), (2, 3), (1, 318), (2, 100), (1, 600), (1, 6), (1, 160), (1, 160), (1, 160), (1, 160), (1, 160), (1, 160), (1, 160), (1, 160), (1, 24), (1, 64), (1, 64), (1, 5248), (1, 41), (2, 41), (1, 10), (1, 10240)]
theorem kA11_44_l : kA11_44.length = 23 := by decide +kernel
def rA11_45 : List (Nat × Nat × Nat) := [(0, 0, 1), (0, 1, 2), (0, 11, 3), (0, 20, 4), (0, 21, 5), (0, 22, 6), (0, 24, 7), (0, 25, 8), (0, 26, 9), (0, 27, 10), (0, 28, 11), (0, 29, 12), (0, 30, 13), (0, 31, 14), (0, 32, 15), (0, 33, 16), (0, 34, 17), (0, 35, 18), (0, 40, 19), (0, 41, 20), (0, 44, 21), (0, 45, 22)]
def kA11_46 : List (Nat × Nat) := [(211, 50), (1, 5392), (2, 3), (1, 318), (2, 100), (1, 600), (1, 6), (1, 160), (1, 160), (1, 160), (1, 160), (1, 160), (1, 160), (1, 160), (1, 160), (1, 24), (1, 64), (1, 64), (1, 5248), (1, 41), (2, 41), (1, 10), (1, 10240), (1, 1024)]
theorem kA11_46_l : kA11_46.length = 24 := by decide +kernel
def rA11_47 : List (Nat × Nat × Nat) := [(0, 0, 1), (0, 1, 2), (0, 11, 3), (0, 20, 4), (0, 21, 5), (0, 22, 6), (0, 24, 7), (0, 25, 8), (0, 26, 9), (0, 27, 10), (0, 28, 11), (0, 29, 12), (0, 30, 13), (0, 31, 14), (0, 32, 15), (0, 33, 16), (0, 34, 17), (0, 35, 18), (0, 40, 19), (0, 41, 20), (0, 44, 21), (0, 45, 22), (0, 46, 23)]
def kA11_48 : List (Nat × Nat) := [(211, 50), (1, 5392), (2, 3), (1, 318), (2, 100), (1, 600), (1, 6), (1, 160), (1, 160), (1, 160), (1, 160), (1, 160), (1, 160), (1, 160), (1, 160), (1, 24), (1, 64), (1, 64), (1, 5248), (1, 41), (2, 41), (1, 10), (1, 10240), (1, 1024), (1, 1024)]
theorem kA11_48_l : kA11_48.length = 25 := by decide +kernel
def rA11_49 : List (Nat × Nat × Nat) := [(0, 0, 1), (0, 1, 2), (0, 11, 3), (0, 20, 4), (0, 21, 5), (0, 22, 6), (0, 24, 7), (0, 25, 8), (0, 26, 9), (0, 27, 10), (0, 28, 11), (0, 29, 12), (0, 30, 13), (0, 31, 14), (0, 32, 15), (0, 33, 16), (0, 34, 17), (0, 35, 18), (0, 40, 19), (0, 41, 20), (0, 44, 21), (0, 45, 22), (0, 46, 23), (0, 47, 24)]
def kA11_50 : List (Nat × Nat) := [(211, 50), (1, 5392), (2, 3), (1, 318), (2, 100), (1, 600), (1, 6), (1, 160), (1, 160), (1, 160), (1, 160), (1, 160), (1, 160), (1, 160), (1, 160), (1, 24), (1, 64), (1, 64), (1, 5248), (1, 41), (2, 41), (1, 10), (1, 10240), (1, 1024), (1, 1024), (1, 1024)]
theorem kA11_50_l : kA11_50.length = 26 := by decide +kernel
def rA11_51 : List (Nat × Nat × Nat) := [(0, 0, 1), (0, 1, 2), (0, 11, 3), (0, 20, 4), (0, 21, 5), (0, 22, 6), (0, 24, 7), (0, 25, 8), (0, 26, 9), (0, 27, 10), (0, 28, 11), (0, 29, 12), (0, 30, 13), (0, 31, 14), (0, 32, 15), (0, 33, 16), (0, 34, 17), (0, 35, 18), (0, 40, 19), (0, 41, 20), (0, 44, 21), (0, 45, 22), (0, 46, 23), (0, 47, 24), (0, 48, 25)]
set_option maxHeartbeats 4000000 in
theorem ctD_6 (l : Launch) (G : zG) (h : zH) (a : Nat) (g142 : zH) (h6 : a + 26 ≤ 1000000) (p144 : zPL h g142 a kA11_48 rA11_49 [1, 2, 3, 4, 5, 6, 7, 8, 9, 10, 11, 12, 13, 14, 15, 16, 17, 18, 19, 20, 21, 22, 23, 24] (fun _ => 0)) : Z l G mX11_init 2 (fun w h1 => w = none ∧ zPL h h1 a ks11 rs11 [2, 3, 4, 5, 6, 7, 8, 9, 10, 11, 12, 13, 14, 15, 16, 17, 18, 19, 20, 21, 22, 23, 24, 25] (fun _ => 0) ∧ ∀ j, zI h1 (a + 1) j = if j = 4 then (-1 : Int32) else 0) 1 1024 210 [va_rf (some a)] [] g142 := by
  refine z_aloadn dX11_init_210 rfl rfl ?_
  refine z_sipush (v := 1024) dX11_init_211 (by decide) ?_
  have hzg142 : zN g142 = a + 25 := by rw [p144.1, kA11_48_l]
  refine z_newa (k := 0) (n := 0) (N := 1024) 0 rfl (by decide) rfl (fun _ _ q => q) rfl (by decide) dX11_init_214 w286 (by decide) (Nat.le_of_ble_eq_true rfl) (by omega) ?_
  rw [hzg142]
  refine z_nmG (fun g145 e146 => ?_)
  have p147 : zPL h g145 a kA11_50 rA11_49 [1, 2, 3, 4, 5, 6, 7, 8, 9, 10, 11, 12, 13, 14, 15, 16, 17, 18, 19, 20, 21, 22, 23, 24, 25] (fun _ => 0) := by rw [e146]; exact (p144.al 1 1024 (by rw [kA11_48_l]; omega)).to (by decide +kernel) (by decide +kernel) (by decide +kernel)
  clear p144
  refine z_putF (j := 48) zc11 dX11_init_216 (p147.2.1 0 (211, 50) (by decide +kernel)) (by rw [p147.1, kA11_50_l]; omega) (by decide) rfl rfl rfl rfl w1507 ?_
  refine z_nmG (fun g148 e149 => ?_)
  have p150 : zPL h g148 a kA11_50 rA11_51 [1, 2, 3, 4, 5, 6, 7, 8, 9, 10, 11, 12, 13, 14, 15, 16, 17, 18, 19, 20, 21, 22, 23, 24, 25] (fun _ => 0) := by rw [e149]; exact (p147.wR 0 48 25 (by decide +kernel) (by decide +kernel)).to (by decide +kernel) (by decide +kernel) (by decide +kernel)
  clear p147
  refine z_aloadn dX11_init_219 rfl rfl ?_
  refine z_getRq (j := 0) (x := some (a + 1)) zc11 dX11_init_220 (p150.2.1 0 (211, 50) (by decide +kernel)) (by rw [p150.1, kA11_50_l]; omega) (by decide) rfl w1459 (p150.2.2.1 0 (0, 0, 1) (by decide +kernel)).2 ?_
  refine z_iconst (v := 4) dX11_init_223 (by decide) ?_
  refine z_iconst (v := (-1)) dX11_init_224 (by decide) ?_
  refine z_iast (N := 5392) dX11_init_225 ⟨(p150.2.1 1 (1, 5392) (by decide +kernel)), (by rw [p150.1, kA11_50_l]; omega)⟩ (by decide) (by decide) ?_
  refine z_nmG (fun g151 e152 => ?_)
  have p153 : zPL h g151 a kA11_50 rA11_51 [2, 3, 4, 5, 6, 7, 8, 9, 10, 11, 12, 13, 14, 15, 16, 17, 18, 19, 20, 21, 22, 23, 24, 25] (fun _ => 0) := by rw [e152]; exact (p150.wA 1 4 (-1) (by decide +kernel) [2, 3, 4, 5, 6, 7, 8, 9, 10, 11, 12, 13, 14, 15, 16, 17, 18, 19, 20, 21, 22, 23, 24, 25] (by decide +kernel)).to (by decide +kernel) (by decide +kernel) (by decide +kernel)
  have hA : ∀ j, zI g151 (a + 1) j = if j = 4 then (-1 : Int32) else 0 := fun j => by
    rw [e152, zI_w]
    by_cases q : j = 4
    · rw [if_pos ⟨rfl, q⟩, if_pos q]
    · rw [if_neg (fun z => q z.2), if_neg q]; exact (p150.2.2.2.1 0 _ rfl).2 j
  exact z_ret (v := none) dX11_init_226 rfl rfl ⟨rfl, p153.to (by decide +kernel) (by decide +kernel) (by decide +kernel), hA⟩
set_option maxHeartbeats 4000000 in
theorem ctD_5 (l : Launch) (G : zG) (h : zH) (a : Nat) (g118 : zH) (h6 : a + 26 ≤ 1000000) (p120 : zPL h g118 a kA11_40 rA11_41 [1, 2, 3, 4, 5, 6, 7, 8, 9, 10, 11, 12, 13, 14, 15, 16, 17, 18, 19, 20] (fun _ => 0)) : Z l G mX11_init 2 (fun w h1 => w = none ∧ zPL h h1 a ks11 rs11 [2, 3, 4, 5, 6, 7, 8, 9, 10, 11, 12, 13, 14, 15, 16, 17, 18, 19, 20, 21, 22, 23, 24, 25] (fun _ => 0) ∧ ∀ j, zI h1 (a + 1) j = if j = 4 then (-1 : Int32) else 0) 5 13322 175 [va_rf (some a)] [] g118 := by
  refine z_aloadn dX11_init_175 rfl rfl ?_
  refine z_bipush (v := 10) dX11_init_176 (by decide) ?_
  have hzg118 : zN g118 = a + 21 := by rw [p120.1, kA11_40_l]
  refine z_newa (k := 4) (n := 13312) (N := 10) 0 rfl (by decide) rfl (fun _ _ q => q) rfl (by decide) dX11_init_178 w286 (by decide) (Nat.le_of_ble_eq_true rfl) (by omega) ?_
  rw [hzg118]
  refine z_nmG (fun g121 e122 => ?_)
  have p123 : zPL h g121 a kA11_42 rA11_41 [1, 2, 3, 4, 5, 6, 7, 8, 9, 10, 11, 12, 13, 14, 15, 16, 17, 18, 19, 20, 21] (fun _ => 0) := by rw [e122]; exact (p120.al 1 10 (by rw [kA11_40_l]; omega)).to (by decide +kernel) (by decide +kernel) (by decide +kernel)
  clear p120
  refine z_putF (j := 44) zc11 dX11_init_180 (p123.2.1 0 (211, 50) (by decide +kernel)) (by rw [p123.1, kA11_42_l]; omega) (by decide) rfl rfl rfl rfl w1503 ?_
  refine z_nmG (fun g124 e125 => ?_)
  have p126 : zPL h g124 a kA11_42 rA11_43 [1, 2, 3, 4, 5, 6, 7, 8, 9, 10, 11, 12, 13, 14, 15, 16, 17, 18, 19, 20, 21] (fun _ => 0) := by rw [e125]; exact (p123.wR 0 44 21 (by decide +kernel) (by decide +kernel)).to (by decide +kernel) (by decide +kernel) (by decide +kernel)
  clear p123
  refine z_aloadn dX11_init_183 rfl rfl ?_
  refine z_sipush (v := 10240) dX11_init_184 (by decide) ?_
  have hzg124 : zN g124 = a + 22 := by rw [p126.1, kA11_42_l]
  refine z_newa (k := 3) (n := 3072) (N := 10240) 0 rfl (by decide) rfl (fun _ _ q => q) rfl (by decide) dX11_init_187 w286 (by decide) (Nat.le_of_ble_eq_true rfl) (by omega) ?_
  rw [hzg124]
  refine z_nmG (fun g127 e128 => ?_)
  have p129 : zPL h g127 a kA11_44 rA11_43 [1, 2, 3, 4, 5, 6, 7, 8, 9, 10, 11, 12, 13, 14, 15, 16, 17, 18, 19, 20, 21, 22] (fun _ => 0) := by rw [e128]; exact (p126.al 1 10240 (by rw [kA11_42_l]; omega)).to (by decide +kernel) (by decide +kernel) (by decide +kernel)
  clear p126
  refine z_putF (j := 45) zc11 dX11_init_189 (p129.2.1 0 (211, 50) (by decide +kernel)) (by rw [p129.1, kA11_44_l]; omega) (by decide) rfl rfl rfl rfl w1504 ?_
  refine z_nmG (fun g130 e131 => ?_)
  have p132 : zPL h g130 a kA11_44 rA11_45 [1, 2, 3, 4, 5, 6, 7, 8, 9, 10, 11, 12, 13, 14, 15, 16, 17, 18, 19, 20, 21, 22] (fun _ => 0) := by rw [e131]; exact (p129.wR 0 45 22 (by decide +kernel) (by decide +kernel)).to (by decide +kernel) (by decide +kernel) (by decide +kernel)
  clear p129
  refine z_aloadn dX11_init_192 rfl rfl ?_
  refine z_sipush (v := 1024) dX11_init_193 (by decide) ?_
  have hzg130 : zN g130 = a + 23 := by rw [p132.1, kA11_44_l]
  refine z_newa (k := 2) (n := 2048) (N := 1024) 0 rfl (by decide) rfl (fun _ _ q => q) rfl (by decide) dX11_init_196 w286 (by decide) (Nat.le_of_ble_eq_true rfl) (by omega) ?_
  rw [hzg130]
  refine z_nmG (fun g133 e134 => ?_)
  have p135 : zPL h g133 a kA11_46 rA11_45 [1, 2, 3, 4, 5, 6, 7, 8, 9, 10, 11, 12, 13, 14, 15, 16, 17, 18, 19, 20, 21, 22, 23] (fun _ => 0) := by rw [e134]; exact (p132.al 1 1024 (by rw [kA11_44_l]; omega)).to (by decide +kernel) (by decide +kernel) (by decide +kernel)
  clear p132
  refine z_putF (j := 46) zc11 dX11_init_198 (p135.2.1 0 (211, 50) (by decide +kernel)) (by rw [p135.1, kA11_46_l]; omega) (by decide) rfl rfl rfl rfl w1505 ?_
  refine z_nmG (fun g136 e137 => ?_)
  have p138 : zPL h g136 a kA11_46 rA11_47 [1, 2, 3, 4, 5, 6, 7, 8, 9, 10, 11, 12, 13, 14, 15, 16, 17, 18, 19, 20, 21, 22, 23] (fun _ => 0) := by rw [e137]; exact (p135.wR 0 46 23 (by decide +kernel) (by decide +kernel)).to (by decide +kernel) (by decide +kernel) (by decide +kernel)
  clear p135
  refine z_aloadn dX11_init_201 rfl rfl ?_
  refine z_sipush (v := 1024) dX11_init_202 (by decide) ?_
  have hzg136 : zN g136 = a + 24 := by rw [p138.1, kA11_46_l]
  refine z_newa (k := 1) (n := 1024) (N := 1024) 0 rfl (by decide) rfl (fun _ _ q => q) rfl (by decide) dX11_init_205 w286 (by decide) (Nat.le_of_ble_eq_true rfl) (by omega) ?_
  rw [hzg136]
  refine z_nmG (fun g139 e140 => ?_)
  have p141 : zPL h g139 a kA11_48 rA11_47 [1, 2, 3, 4, 5, 6, 7, 8, 9, 10, 11, 12, 13, 14, 15, 16, 17, 18, 19, 20, 21, 22, 23, 24] (fun _ => 0) := by rw [e140]; exact (p138.al 1 1024 (by rw [kA11_46_l]; omega)).to (by decide +kernel) (by decide +kernel) (by decide +kernel)
  clear p138
  refine z_putF (j := 47) zc11 dX11_init_207 (p141.2.1 0 (211, 50) (by decide +kernel)) (by rw [p141.1, kA11_48_l]; omega) (by decide) rfl rfl rfl rfl w1506 ?_
  refine z_nmG (fun g142 e143 => ?_)
  have p144 : zPL h g142 a kA11_48 rA11_49 [1, 2, 3, 4, 5, 6, 7, 8, 9, 10, 11, 12, 13, 14, 15, 16, 17, 18, 19, 20, 21, 22, 23, 24] (fun _ => 0) := by rw [e143]; exact (p141.wR 0 47 24 (by decide +kernel) (by decide +kernel)).to (by decide +kernel) (by decide +kernel) (by decide +kernel)
  clear p141
  exact ctD_6 l G h a g142 h6 p144
set_option maxHeartbeats 4000000 in
theorem ctD_4 (l : Launch) (G : zG) (h : zH) (a : Nat) (g94 : zH) (h6 : a + 26 ≤ 1000000) (p96 : zPL h g94 a kA11_32 rA11_33 [1, 2, 3, 4, 5, 6, 7, 8, 9, 10, 11, 12, 13, 14, 15, 16] (fun _ => 0)) : Z l G mX11_init 2 (fun w h1 => w = none ∧ zPL h h1 a ks11 rs11 [2, 3, 4, 5, 6, 7, 8, 9, 10, 11, 12, 13, 14, 15, 16, 17, 18, 19, 20, 21, 22, 23, 24, 25] (fun _ => 0) ∧ ∀ j, zI h1 (a + 1) j = if j = 4 then (-1 : Int32) else 0) 9 18716 142 [va_rf (some a)] [] g94 := by
  refine z_aloadn dX11_init_142 rfl rfl ?_
  refine z_bipush (v := 64) dX11_init_143 (by decide) ?_
  have hzg94 : zN g94 = a + 17 := by rw [p96.1, kA11_32_l]
  refine z_newa (k := 8) (n := 18652) (N := 64) 0 rfl (by decide) rfl (fun _ _ q => q) rfl (by decide) dX11_init_145 w286 (by decide) (Nat.le_of_ble_eq_true rfl) (by omega) ?_
  rw [hzg94]
  refine z_nmG (fun g97 e98 => ?_)
  have p99 : zPL h g97 a kA11_34 rA11_33 [1, 2, 3, 4, 5, 6, 7, 8, 9, 10, 11, 12, 13, 14, 15, 16, 17] (fun _ => 0) := by rw [e98]; exact (p96.al 1 64 (by rw [kA11_32_l]; omega)).to (by decide +kernel) (by decide +kernel) (by decide +kernel)
  clear p96
  refine z_putF (j := 34) zc11 dX11_init_147 (p99.2.1 0 (211, 50) (by decide +kernel)) (by rw [p99.1, kA11_34_l]; omega) (by decide) rfl rfl rfl rfl w1493 ?_
  refine z_nmG (fun g100 e101 => ?_)
  have p102 : zPL h g100 a kA11_34 rA11_35 [1, 2, 3, 4, 5, 6, 7, 8, 9, 10, 11, 12, 13, 14, 15, 16, 17] (fun _ => 0) := by rw [e101]; exact (p99.wR 0 34 17 (by decide +kernel) (by decide +kernel)).to (by decide +kernel) (by decide +kernel) (by decide +kernel)
  clear p99
  refine z_aloadn dX11_init_150 rfl rfl ?_
  refine z_sipush (v := 5248) dX11_init_151 (by decide) ?_
  have hzg100 : zN g100 = a + 18 := by rw [p102.1, kA11_34_l]
  refine z_newa (k := 7) (n := 13404) (N := 5248) 0 rfl (by decide) rfl (fun _ _ q => q) rfl (by decide) dX11_init_154 w286 (by decide) (Nat.le_of_ble_eq_true rfl) (by omega) ?_
  rw [hzg100]
  refine z_nmG (fun g103 e104 => ?_)
  have p105 : zPL h g103 a kA11_36 rA11_35 [1, 2, 3, 4, 5, 6, 7, 8, 9, 10, 11, 12, 13, 14, 15, 16, 17, 18] (fun _ => 0) := by rw [e104]; exact (p102.al 1 5248 (by rw [kA11_34_l]; omega)).to (by decide +kernel) (by decide +kernel) (by decide +kernel)
  clear p102
  refine z_putF (j := 35) zc11 dX11_init_156 (p105.2.1 0 (211, 50) (by decide +kernel)) (by rw [p105.1, kA11_36_l]; omega) (by decide) rfl rfl rfl rfl w1494 ?_
  refine z_nmG (fun g106 e107 => ?_)
  have p108 : zPL h g106 a kA11_36 rA11_37 [1, 2, 3, 4, 5, 6, 7, 8, 9, 10, 11, 12, 13, 14, 15, 16, 17, 18] (fun _ => 0) := by rw [e107]; exact (p105.wR 0 35 18 (by decide +kernel) (by decide +kernel)).to (by decide +kernel) (by decide +kernel) (by decide +kernel)
  clear p105
  refine z_aloadn dX11_init_159 rfl rfl ?_
  refine z_bipush (v := 41) dX11_init_160 (by decide) ?_
  have hzg106 : zN g106 = a + 19 := by rw [p108.1, kA11_36_l]
  refine z_newa (k := 6) (n := 13363) (N := 41) 0 rfl (by decide) rfl (fun _ _ q => q) rfl (by decide) dX11_init_162 w286 (by decide) (Nat.le_of_ble_eq_true rfl) (by omega) ?_
  rw [hzg106]
  refine z_nmG (fun g109 e110 => ?_)
  have p111 : zPL h g109 a kA11_38 rA11_37 [1, 2, 3, 4, 5, 6, 7, 8, 9, 10, 11, 12, 13, 14, 15, 16, 17, 18, 19] (fun _ => 0) := by rw [e110]; exact (p108.al 1 41 (by rw [kA11_36_l]; omega)).to (by decide +kernel) (by decide +kernel) (by decide +kernel)
  clear p108
  refine z_putF (j := 40) zc11 dX11_init_164 (p111.2.1 0 (211, 50) (by decide +kernel)) (by rw [p111.1, kA11_38_l]; omega) (by decide) rfl rfl rfl rfl w1499 ?_
  refine z_nmG (fun g112 e113 => ?_)
  have p114 : zPL h g112 a kA11_38 rA11_39 [1, 2, 3, 4, 5, 6, 7, 8, 9, 10, 11, 12, 13, 14, 15, 16, 17, 18, 19] (fun _ => 0) := by rw [e113]; exact (p111.wR 0 40 19 (by decide +kernel) (by decide +kernel)).to (by decide +kernel) (by decide +kernel) (by decide +kernel)
  clear p111
  refine z_aloadn dX11_init_167 rfl rfl ?_
  refine z_bipush (v := 41) dX11_init_168 (by decide) ?_
  have hzg112 : zN g112 = a + 20 := by rw [p114.1, kA11_38_l]
  refine z_newa (k := 5) (n := 13322) (N := 41) 1 rfl (by decide) rfl (fun _ _ q => q) rfl (by decide) dX11_init_170 w478 (by decide) (Nat.le_of_ble_eq_true rfl) (by omega) ?_
  rw [hzg112]
  refine z_nmG (fun g115 e116 => ?_)
  have p117 : zPL h g115 a kA11_40 rA11_39 [1, 2, 3, 4, 5, 6, 7, 8, 9, 10, 11, 12, 13, 14, 15, 16, 17, 18, 19, 20] (fun _ => 0) := by rw [e116]; exact (p114.al 2 41 (by rw [kA11_38_l]; omega)).to (by decide +kernel) (by decide +kernel) (by decide +kernel)
  clear p114
  refine z_putF (j := 41) zc11 dX11_init_172 (p117.2.1 0 (211, 50) (by decide +kernel)) (by rw [p117.1, kA11_40_l]; omega) (by decide) rfl rfl rfl rfl w1500 ?_
  refine z_nmG (fun g118 e119 => ?_)
  have p120 : zPL h g118 a kA11_40 rA11_41 [1, 2, 3, 4, 5, 6, 7, 8, 9, 10, 11, 12, 13, 14, 15, 16, 17, 18, 19, 20] (fun _ => 0) := by rw [e119]; exact (p117.wR 0 41 20 (by decide +kernel) (by decide +kernel)).to (by decide +kernel) (by decide +kernel) (by decide +kernel)
  clear p117
  exact ctD_5 l G h a g118 h6 p120
set_option maxHeartbeats 4000000 in
theorem ctD_3 (l : Launch) (G : zG) (h : zH) (a : Nat) (g70 : zH) (h6 : a + 26 ≤ 1000000) (p72 : zPL h g70 a kA11_24 rA11_25 [1, 2, 3, 4, 5, 6, 7, 8, 9, 10, 11, 12] (fun _ => 0)) : Z l G mX11_init 2 (fun w h1 => w = none ∧ zPL h h1 a ks11 rs11 [2, 3, 4, 5, 6, 7, 8, 9, 10, 11, 12, 13, 14, 15, 16, 17, 18, 19, 20, 21, 22, 23, 24, 25] (fun _ => 0) ∧ ∀ j, zI h1 (a + 1) j = if j = 4 then (-1 : Int32) else 0) 13 19124 108 [va_rf (some a)] [] g70 := by
  refine z_aloadn dX11_init_108 rfl rfl ?_
  refine z_sipush (v := 160) dX11_init_109 (by decide) ?_
  have hzg70 : zN g70 = a + 13 := by rw [p72.1, kA11_24_l]
  refine z_newa (k := 12) (n := 18964) (N := 160) 0 rfl (by decide) rfl (fun _ _ q => q) rfl (by decide) dX11_init_112 w286 (by decide) (Nat.le_of_ble_eq_true rfl) (by omega) ?_
  rw [hzg70]
  refine z_nmG (fun g73 e74 => ?_)
  have p75 : zPL h g73 a kA11_26 rA11_25 [1, 2, 3, 4, 5, 6, 7, 8, 9, 10, 11, 12, 13] (fun _ => 0) := by rw [e74]; exact (p72.al 1 160 (by rw [kA11_24_l]; omega)).to (by decide +kernel) (by decide +kernel) (by decide +kernel)
  clear p72
  refine z_putF (j := 30) zc11 dX11_init_114 (p75.2.1 0 (211, 50) (by decide +kernel)) (by rw [p75.1, kA11_26_l]; omega) (by decide) rfl rfl rfl rfl w1489 ?_
  refine z_nmG (fun g76 e77 => ?_)
  have p78 : zPL h g76 a kA11_26 rA11_27 [1, 2, 3, 4, 5, 6, 7, 8, 9, 10, 11, 12, 13] (fun _ => 0) := by rw [e77]; exact (p75.wR 0 30 13 (by decide +kernel) (by decide +kernel)).to (by decide +kernel) (by decide +kernel) (by decide +kernel)
  clear p75
  refine z_aloadn dX11_init_117 rfl rfl ?_
  refine z_sipush (v := 160) dX11_init_118 (by decide) ?_
  have hzg76 : zN g76 = a + 14 := by rw [p78.1, kA11_26_l]
  refine z_newa (k := 11) (n := 18804) (N := 160) 0 rfl (by decide) rfl (fun _ _ q => q) rfl (by decide) dX11_init_121 w286 (by decide) (Nat.le_of_ble_eq_true rfl) (by omega) ?_
  rw [hzg76]
  refine z_nmG (fun g79 e80 => ?_)
  have p81 : zPL h g79 a kA11_28 rA11_27 [1, 2, 3, 4, 5, 6, 7, 8, 9, 10, 11, 12, 13, 14] (fun _ => 0) := by rw [e80]; exact (p78.al 1 160 (by rw [kA11_26_l]; omega)).to (by decide +kernel) (by decide +kernel) (by decide +kernel)
  clear p78
  refine z_putF (j := 31) zc11 dX11_init_123 (p81.2.1 0 (211, 50) (by decide +kernel)) (by rw [p81.1, kA11_28_l]; omega) (by decide) rfl rfl rfl rfl w1490 ?_
  refine z_nmG (fun g82 e83 => ?_)
  have p84 : zPL h g82 a kA11_28 rA11_29 [1, 2, 3, 4, 5, 6, 7, 8, 9, 10, 11, 12, 13, 14] (fun _ => 0) := by rw [e83]; exact (p81.wR 0 31 14 (by decide +kernel) (by decide +kernel)).to (by decide +kernel) (by decide +kernel) (by decide +kernel)
  clear p81
  refine z_aloadn dX11_init_126 rfl rfl ?_
  refine z_bipush (v := 24) dX11_init_127 (by decide) ?_
  have hzg82 : zN g82 = a + 15 := by rw [p84.1, kA11_28_l]
  refine z_newa (k := 10) (n := 18780) (N := 24) 0 rfl (by decide) rfl (fun _ _ q => q) rfl (by decide) dX11_init_129 w286 (by decide) (Nat.le_of_ble_eq_true rfl) (by omega) ?_
  rw [hzg82]
  refine z_nmG (fun g85 e86 => ?_)
  have p87 : zPL h g85 a kA11_30 rA11_29 [1, 2, 3, 4, 5, 6, 7, 8, 9, 10, 11, 12, 13, 14, 15] (fun _ => 0) := by rw [e86]; exact (p84.al 1 24 (by rw [kA11_28_l]; omega)).to (by decide +kernel) (by decide +kernel) (by decide +kernel)
  clear p84
  refine z_putF (j := 32) zc11 dX11_init_131 (p87.2.1 0 (211, 50) (by decide +kernel)) (by rw [p87.1, kA11_30_l]; omega) (by decide) rfl rfl rfl rfl w1491 ?_
  refine z_nmG (fun g88 e89 => ?_)
  have p90 : zPL h g88 a kA11_30 rA11_31 [1, 2, 3, 4, 5, 6, 7, 8, 9, 10, 11, 12, 13, 14, 15] (fun _ => 0) := by rw [e89]; exact (p87.wR 0 32 15 (by decide +kernel) (by decide +kernel)).to (by decide +kernel) (by decide +kernel) (by decide +kernel)
  clear p87
  refine z_aloadn dX11_init_134 rfl rfl ?_
  refine z_bipush (v := 64) dX11_init_135 (by decide) ?_
  have hzg88 : zN g88 = a + 16 := by rw [p90.1, kA11_30_l]
  refine z_newa (k := 9) (n := 18716) (N := 64) 0 rfl (by decide) rfl (fun _ _ q => q) rfl (by decide) dX11_init_137 w286 (by decide) (Nat.le_of_ble_eq_true rfl) (by omega) ?_
  rw [hzg88]
  refine z_nmG (fun g91 e92 => ?_)
  have p93 : zPL h g91 a kA11_32 rA11_31 [1, 2, 3, 4, 5, 6, 7, 8, 9, 10, 11, 12, 13, 14, 15, 16] (fun _ => 0) := by rw [e92]; exact (p90.al 1 64 (by rw [kA11_30_l]; omega)).to (by decide +kernel) (by decide +kernel) (by decide +kernel)
  clear p90
  refine z_putF (j := 33) zc11 dX11_init_139 (p93.2.1 0 (211, 50) (by decide +kernel)) (by rw [p93.1, kA11_32_l]; omega) (by decide) rfl rfl rfl rfl w1492 ?_
  refine z_nmG (fun g94 e95 => ?_)
  have p96 : zPL h g94 a kA11_32 rA11_33 [1, 2, 3, 4, 5, 6, 7, 8, 9, 10, 11, 12, 13, 14, 15, 16] (fun _ => 0) := by rw [e95]; exact (p93.wR 0 33 16 (by decide +kernel) (by decide +kernel)).to (by decide +kernel) (by decide +kernel) (by decide +kernel)
  clear p93
  exact ctD_4 l G h a g94 h6 p96
set_option maxHeartbeats 4000000 in
theorem ctD_2 (l : Launch) (G : zG) (h : zH) (a : Nat) (g46 : zH) (h6 : a + 26 ≤ 1000000) (p48 : zPL h g46 a kA11_16 rA11_17 [1, 2, 3, 4, 5, 6, 7, 8] (fun _ => 0)) : Z l G mX11_init 2 (fun w h1 => w = none ∧ zPL h h1 a ks11 rs11 [2, 3, 4, 5, 6, 7, 8, 9, 10, 11, 12, 13, 14, 15, 16, 17, 18, 19, 20, 21, 22, 23, 24, 25] (fun _ => 0) ∧ ∀ j, zI h1 (a + 1) j = if j = 4 then (-1 : Int32) else 0) 17 19764 72 [va_rf (some a)] [] g46 := by
  refine z_aloadn dX11_init_72 rfl rfl ?_
  refine z_sipush (v := 160) dX11_init_73 (by decide) ?_
  have hzg46 : zN g46 = a + 9 := by rw [p48.1, kA11_16_l]
  refine z_newa (k := 16) (n := 19604) (N := 160) 0 rfl (by decide) rfl (fun _ _ q => q) rfl (by decide) dX11_init_76 w286 (by decide) (Nat.le_of_ble_eq_true rfl) (by omega) ?_
  rw [hzg46]
  refine z_nmG (fun g49 e50 => ?_)
  have p51 : zPL h g49 a kA11_18 rA11_17 [1, 2, 3, 4, 5, 6, 7, 8, 9] (fun _ => 0) := by rw [e50]; exact (p48.al 1 160 (by rw [kA11_16_l]; omega)).to (by decide +kernel) (by decide +kernel) (by decide +kernel)
  clear p48
  refine z_putF (j := 26) zc11 dX11_init_78 (p51.2.1 0 (211, 50) (by decide +kernel)) (by rw [p51.1, kA11_18_l]; omega) (by decide) rfl rfl rfl rfl w1485 ?_
  refine z_nmG (fun g52 e53 => ?_)
  have p54 : zPL h g52 a kA11_18 rA11_19 [1, 2, 3, 4, 5, 6, 7, 8, 9] (fun _ => 0) := by rw [e53]; exact (p51.wR 0 26 9 (by decide +kernel) (by decide +kernel)).to (by decide +kernel) (by decide +kernel) (by decide +kernel)
  clear p51
  refine z_aloadn dX11_init_81 rfl rfl ?_
  refine z_sipush (v := 160) dX11_init_82 (by decide) ?_
  have hzg52 : zN g52 = a + 10 := by rw [p54.1, kA11_18_l]
  refine z_newa (k := 15) (n := 19444) (N := 160) 0 rfl (by decide) rfl (fun _ _ q => q) rfl (by decide) dX11_init_85 w286 (by decide) (Nat.le_of_ble_eq_true rfl) (by omega) ?_
  rw [hzg52]
  refine z_nmG (fun g55 e56 => ?_)
  have p57 : zPL h g55 a kA11_20 rA11_19 [1, 2, 3, 4, 5, 6, 7, 8, 9, 10] (fun _ => 0) := by rw [e56]; exact (p54.al 1 160 (by rw [kA11_18_l]; omega)).to (by decide +kernel) (by decide +kernel) (by decide +kernel)
  clear p54
  refine z_putF (j := 27) zc11 dX11_init_87 (p57.2.1 0 (211, 50) (by decide +kernel)) (by rw [p57.1, kA11_20_l]; omega) (by decide) rfl rfl rfl rfl w1486 ?_
  refine z_nmG (fun g58 e59 => ?_)
  have p60 : zPL h g58 a kA11_20 rA11_21 [1, 2, 3, 4, 5, 6, 7, 8, 9, 10] (fun _ => 0) := by rw [e59]; exact (p57.wR 0 27 10 (by decide +kernel) (by decide +kernel)).to (by decide +kernel) (by decide +kernel) (by decide +kernel)
  clear p57
  refine z_aloadn dX11_init_90 rfl rfl ?_
  refine z_sipush (v := 160) dX11_init_91 (by decide) ?_
  have hzg58 : zN g58 = a + 11 := by rw [p60.1, kA11_20_l]
  refine z_newa (k := 14) (n := 19284) (N := 160) 0 rfl (by decide) rfl (fun _ _ q => q) rfl (by decide) dX11_init_94 w286 (by decide) (Nat.le_of_ble_eq_true rfl) (by omega) ?_
  rw [hzg58]
  refine z_nmG (fun g61 e62 => ?_)
  have p63 : zPL h g61 a kA11_22 rA11_21 [1, 2, 3, 4, 5, 6, 7, 8, 9, 10, 11] (fun _ => 0) := by rw [e62]; exact (p60.al 1 160 (by rw [kA11_20_l]; omega)).to (by decide +kernel) (by decide +kernel) (by decide +kernel)
  clear p60
  refine z_putF (j := 28) zc11 dX11_init_96 (p63.2.1 0 (211, 50) (by decide +kernel)) (by rw [p63.1, kA11_22_l]; omega) (by decide) rfl rfl rfl rfl w1487 ?_
  refine z_nmG (fun g64 e65 => ?_)
  have p66 : zPL h g64 a kA11_22 rA11_23 [1, 2, 3, 4, 5, 6, 7, 8, 9, 10, 11] (fun _ => 0) := by rw [e65]; exact (p63.wR 0 28 11 (by decide +kernel) (by decide +kernel)).to (by decide +kernel) (by decide +kernel) (by decide +kernel)
  clear p63
  refine z_aloadn dX11_init_99 rfl rfl ?_
  refine z_sipush (v := 160) dX11_init_100 (by decide) ?_
  have hzg64 : zN g64 = a + 12 := by rw [p66.1, kA11_22_l]
  refine z_newa (k := 13) (n := 19124) (N := 160) 0 rfl (by decide) rfl (fun _ _ q => q) rfl (by decide) dX11_init_103 w286 (by decide) (Nat.le_of_ble_eq_true rfl) (by omega) ?_
  rw [hzg64]
  refine z_nmG (fun g67 e68 => ?_)
  have p69 : zPL h g67 a kA11_24 rA11_23 [1, 2, 3, 4, 5, 6, 7, 8, 9, 10, 11, 12] (fun _ => 0) := by rw [e68]; exact (p66.al 1 160 (by rw [kA11_22_l]; omega)).to (by decide +kernel) (by decide +kernel) (by decide +kernel)
  clear p66
  refine z_putF (j := 29) zc11 dX11_init_105 (p69.2.1 0 (211, 50) (by decide +kernel)) (by rw [p69.1, kA11_24_l]; omega) (by decide) rfl rfl rfl rfl w1488 ?_
  refine z_nmG (fun g70 e71 => ?_)
  have p72 : zPL h g70 a kA11_24 rA11_25 [1, 2, 3, 4, 5, 6, 7, 8, 9, 10, 11, 12] (fun _ => 0) := by rw [e71]; exact (p69.wR 0 29 12 (by decide +kernel) (by decide +kernel)).to (by decide +kernel) (by decide +kernel) (by decide +kernel)
  clear p69
  exact ctD_3 l G h a g70 h6 p72
set_option maxHeartbeats 4000000 in
theorem ctD_1 (l : Launch) (G : zG) (h : zH) (a : Nat) (g22 : zH) (h6 : a + 26 ≤ 1000000) (p24 : zPL h g22 a kA11_8 rA11_9 [1, 2, 3, 4] (fun _ => 0)) : Z l G mX11_init 2 (fun w h1 => w = none ∧ zPL h h1 a ks11 rs11 [2, 3, 4, 5, 6, 7, 8, 9, 10, 11, 12, 13, 14, 15, 16, 17, 18, 19, 20, 21, 22, 23, 24, 25] (fun _ => 0) ∧ ∀ j, zI h1 (a + 1) j = if j = 4 then (-1 : Int32) else 0) 21 20690 37 [va_rf (some a)] [] g22 := by
  refine z_aloadn dX11_init_37 rfl rfl ?_
  refine z_sipush (v := 600) dX11_init_38 (by decide) ?_
  have hzg22 : zN g22 = a + 5 := by rw [p24.1, kA11_8_l]
  refine z_newa (k := 20) (n := 20090) (N := 600) 0 rfl (by decide) rfl (fun _ _ q => q) rfl (by decide) dX11_init_41 w286 (by decide) (Nat.le_of_ble_eq_true rfl) (by omega) ?_
  rw [hzg22]
  refine z_nmG (fun g25 e26 => ?_)
  have p27 : zPL h g25 a kA11_10 rA11_9 [1, 2, 3, 4, 5] (fun _ => 0) := by rw [e26]; exact (p24.al 1 600 (by rw [kA11_8_l]; omega)).to (by decide +kernel) (by decide +kernel) (by decide +kernel)
  clear p24
  refine z_putF (j := 21) zc11 dX11_init_43 (p27.2.1 0 (211, 50) (by decide +kernel)) (by rw [p27.1, kA11_10_l]; omega) (by decide) rfl rfl rfl rfl w1480 ?_
  refine z_nmG (fun g28 e29 => ?_)
  have p30 : zPL h g28 a kA11_10 rA11_11 [1, 2, 3, 4, 5] (fun _ => 0) := by rw [e29]; exact (p27.wR 0 21 5 (by decide +kernel) (by decide +kernel)).to (by decide +kernel) (by decide +kernel) (by decide +kernel)
  clear p27
  refine z_aloadn dX11_init_46 rfl rfl ?_
  refine z_bipush (v := 6) dX11_init_47 (by decide) ?_
  have hzg28 : zN g28 = a + 6 := by rw [p30.1, kA11_10_l]
  refine z_newa (k := 19) (n := 20084) (N := 6) 0 rfl (by decide) rfl (fun _ _ q => q) rfl (by decide) dX11_init_49 w286 (by decide) (Nat.le_of_ble_eq_true rfl) (by omega) ?_
  rw [hzg28]
  refine z_nmG (fun g31 e32 => ?_)
  have p33 : zPL h g31 a kA11_12 rA11_11 [1, 2, 3, 4, 5, 6] (fun _ => 0) := by rw [e32]; exact (p30.al 1 6 (by rw [kA11_10_l]; omega)).to (by decide +kernel) (by decide +kernel) (by decide +kernel)
  clear p30
  refine z_putF (j := 22) zc11 dX11_init_51 (p33.2.1 0 (211, 50) (by decide +kernel)) (by rw [p33.1, kA11_12_l]; omega) (by decide) rfl rfl rfl rfl w1481 ?_
  refine z_nmG (fun g34 e35 => ?_)
  have p36 : zPL h g34 a kA11_12 rA11_13 [1, 2, 3, 4, 5, 6] (fun _ => 0) := by rw [e35]; exact (p33.wR 0 22 6 (by decide +kernel) (by decide +kernel)).to (by decide +kernel) (by decide +kernel) (by decide +kernel)
  clear p33
  refine z_aloadn dX11_init_54 rfl rfl ?_
  refine z_sipush (v := 160) dX11_init_55 (by decide) ?_
  have hzg34 : zN g34 = a + 7 := by rw [p36.1, kA11_12_l]
  refine z_newa (k := 18) (n := 19924) (N := 160) 0 rfl (by decide) rfl (fun _ _ q => q) rfl (by decide) dX11_init_58 w286 (by decide) (Nat.le_of_ble_eq_true rfl) (by omega) ?_
  rw [hzg34]
  refine z_nmG (fun g37 e38 => ?_)
  have p39 : zPL h g37 a kA11_14 rA11_13 [1, 2, 3, 4, 5, 6, 7] (fun _ => 0) := by rw [e38]; exact (p36.al 1 160 (by rw [kA11_12_l]; omega)).to (by decide +kernel) (by decide +kernel) (by decide +kernel)
  clear p36
  refine z_putF (j := 24) zc11 dX11_init_60 (p39.2.1 0 (211, 50) (by decide +kernel)) (by rw [p39.1, kA11_14_l]; omega) (by decide) rfl rfl rfl rfl w1483 ?_
  refine z_nmG (fun g40 e41 => ?_)
  have p42 : zPL h g40 a kA11_14 rA11_15 [1, 2, 3, 4, 5, 6, 7] (fun _ => 0) := by rw [e41]; exact (p39.wR 0 24 7 (by decide +kernel) (by decide +kernel)).to (by decide +kernel) (by decide +kernel) (by decide +kernel)
  clear p39
  refine z_aloadn dX11_init_63 rfl rfl ?_
  refine z_sipush (v := 160) dX11_init_64 (by decide) ?_
  have hzg40 : zN g40 = a + 8 := by rw [p42.1, kA11_14_l]
  refine z_newa (k := 17) (n := 19764) (N := 160) 0 rfl (by decide) rfl (fun _ _ q => q) rfl (by decide) dX11_init_67 w286 (by decide) (Nat.le_of_ble_eq_true rfl) (by omega) ?_
  rw [hzg40]
  refine z_nmG (fun g43 e44 => ?_)
  have p45 : zPL h g43 a kA11_16 rA11_15 [1, 2, 3, 4, 5, 6, 7, 8] (fun _ => 0) := by rw [e44]; exact (p42.al 1 160 (by rw [kA11_14_l]; omega)).to (by decide +kernel) (by decide +kernel) (by decide +kernel)
  clear p42
  refine z_putF (j := 25) zc11 dX11_init_69 (p45.2.1 0 (211, 50) (by decide +kernel)) (by rw [p45.1, kA11_16_l]; omega) (by decide) rfl rfl rfl rfl w1484 ?_
  refine z_nmG (fun g46 e47 => ?_)
  have p48 : zPL h g46 a kA11_16 rA11_17 [1, 2, 3, 4, 5, 6, 7, 8] (fun _ => 0) := by rw [e47]; exact (p45.wR 0 25 8 (by decide +kernel) (by decide +kernel)).to (by decide +kernel) (by decide +kernel) (by decide +kernel)
  clear p45
  exact ctD_2 l G h a g46 h6 p48
set_option maxHeartbeats 4000000 in
theorem c_X11_init (l : Launch) (G : zG) (h : zH) (a : Nat) (hz : zN h = a + 1) (hk : zK h a = (211, 50)) (h6 : a + 26 ≤ 1000000) (h0 : ∀ j, zI h a j = 0) : CT l G YX11_init 2 25 26503 [va_rf (some a)] h (fun v g => v = none ∧ zPL h g a ks11 rs11 [2, 3, 4, 5, 6, 7, 8, 9, 10, 11, 12, 13, 14, 15, 16, 17, 18, 19, 20, 21, 22, 23, 24, 25] (fun _ => 0) ∧ ∀ j, zI g (a + 1) j = if j = 4 then (-1 : Int32) else 0) := by
  refine CT.of (by decide +kernel) (fun t e => by cases e) (Nat.le_of_ble_eq_true rfl) (show Z l G mX11_init 2 _ 25 26503 0 [va_rf (some a)] [] h from ?_)
  have p0 : zPL h h a kA11_0 rA11_1 [] (fun _ => 0) := (zPL.ini hz hk h0 (by omega)).to (by decide +kernel) (by decide +kernel) (by decide +kernel)
  refine z_aloadn dX11_init_0 rfl rfl ?_
  refine z_objInit dX11_init_1 w1458 w195 w196 (by decide) (Nat.le_of_ble_eq_true rfl) ?_
  refine z_aloadn dX11_init_4 rfl rfl ?_
  refine z_sipush (v := 5392) dX11_init_5 (by decide) ?_
  have hzh : zN h = a + 1 := by rw [p0.1, kA11_0_l]
  refine z_newa (k := 24) (n := 21111) (N := 5392) 0 rfl (by decide) rfl (fun _ _ q => q) rfl (by decide) dX11_init_8 w286 (by decide) (Nat.le_of_ble_eq_true rfl) (by omega) ?_
  rw [hzh]
  refine z_nmG (fun g1 e2 => ?_)
  have p3 : zPL h g1 a kA11_2 rA11_1 [1] (fun _ => 0) := by rw [e2]; exact (p0.al 1 5392 (by rw [kA11_0_l]; omega)).to (by decide +kernel) (by decide +kernel) (by decide +kernel)
  clear p0
  refine z_putF (j := 0) zc11 dX11_init_10 (p3.2.1 0 (211, 50) (by decide +kernel)) (by rw [p3.1, kA11_2_l]; omega) (by decide) rfl rfl rfl rfl w1459 ?_
  refine z_nmG (fun g4 e5 => ?_)
  have p6 : zPL h g4 a kA11_2 rA11_3 [1] (fun _ => 0) := by rw [e5]; exact (p3.wR 0 0 1 (by decide +kernel) (by decide +kernel)).to (by decide +kernel) (by decide +kernel) (by decide +kernel)
  clear p3
  refine z_aloadn dX11_init_13 rfl rfl ?_
  refine z_iconst (v := 3) dX11_init_14 (by decide) ?_
  have hzg4 : zN g4 = a + 2 := by rw [p6.1, kA11_2_l]
  refine z_newa (k := 23) (n := 21108) (N := 3) 1 rfl (by decide) rfl (fun _ _ q => q) rfl (by decide) dX11_init_15 w478 (by decide) (Nat.le_of_ble_eq_true rfl) (by omega) ?_
  rw [hzg4]
  refine z_nmG (fun g7 e8 => ?_)
  have p9 : zPL h g7 a kA11_4 rA11_3 [1, 2] (fun _ => 0) := by rw [e8]; exact (p6.al 2 3 (by rw [kA11_2_l]; omega)).to (by decide +kernel) (by decide +kernel) (by decide +kernel)
  clear p6
  refine z_putF (j := 1) zc11 dX11_init_17 (p9.2.1 0 (211, 50) (by decide +kernel)) (by rw [p9.1, kA11_4_l]; omega) (by decide) rfl rfl rfl rfl w1460 ?_
  refine z_nmG (fun g10 e11 => ?_)
  have p12 : zPL h g10 a kA11_4 rA11_5 [1, 2] (fun _ => 0) := by rw [e11]; exact (p9.wR 0 1 2 (by decide +kernel) (by decide +kernel)).to (by decide +kernel) (by decide +kernel) (by decide +kernel)
  clear p9
  refine z_aloadn dX11_init_20 rfl rfl ?_
  refine z_sipush (v := 318) dX11_init_21 (by decide) ?_
  have hzg10 : zN g10 = a + 3 := by rw [p12.1, kA11_4_l]
  refine z_newa (k := 22) (n := 20790) (N := 318) 0 rfl (by decide) rfl (fun _ _ q => q) rfl (by decide) dX11_init_24 w286 (by decide) (Nat.le_of_ble_eq_true rfl) (by omega) ?_
  rw [hzg10]
  refine z_nmG (fun g13 e14 => ?_)
  have p15 : zPL h g13 a kA11_6 rA11_5 [1, 2, 3] (fun _ => 0) := by rw [e14]; exact (p12.al 1 318 (by rw [kA11_4_l]; omega)).to (by decide +kernel) (by decide +kernel) (by decide +kernel)
  clear p12
  refine z_putF (j := 11) zc11 dX11_init_26 (p15.2.1 0 (211, 50) (by decide +kernel)) (by rw [p15.1, kA11_6_l]; omega) (by decide) rfl rfl rfl rfl w1470 ?_
  refine z_nmG (fun g16 e17 => ?_)
  have p18 : zPL h g16 a kA11_6 rA11_7 [1, 2, 3] (fun _ => 0) := by rw [e17]; exact (p15.wR 0 11 3 (by decide +kernel) (by decide +kernel)).to (by decide +kernel) (by decide +kernel) (by decide +kernel)
  clear p15
  refine z_aloadn dX11_init_29 rfl rfl ?_
  refine z_bipush (v := 100) dX11_init_30 (by decide) ?_
  have hzg16 : zN g16 = a + 4 := by rw [p18.1, kA11_6_l]
  refine z_newa (k := 21) (n := 20690) (N := 100) 1 rfl (by decide) rfl (fun _ _ q => q) rfl (by decide) dX11_init_32 w478 (by decide) (Nat.le_of_ble_eq_true rfl) (by omega) ?_
  rw [hzg16]
  refine z_nmG (fun g19 e20 => ?_)
  have p21 : zPL h g19 a kA11_8 rA11_7 [1, 2, 3, 4] (fun _ => 0) := by rw [e20]; exact (p18.al 2 100 (by rw [kA11_6_l]; omega)).to (by decide +kernel) (by decide +kernel) (by decide +kernel)
  clear p18
  refine z_putF (j := 20) zc11 dX11_init_34 (p21.2.1 0 (211, 50) (by decide +kernel)) (by rw [p21.1, kA11_8_l]; omega) (by decide) rfl rfl rfl rfl w1479 ?_
  refine z_nmG (fun g22 e23 => ?_)
  have p24 : zPL h g22 a kA11_8 rA11_9 [1, 2, 3, 4] (fun _ => 0) := by rw [e23]; exact (p21.wR 0 20 4 (by decide +kernel) (by decide +kernel)).to (by decide +kernel) (by decide +kernel) (by decide +kernel)
  clear p21
  exact ctD_1 l G h a g22 h6 p24
