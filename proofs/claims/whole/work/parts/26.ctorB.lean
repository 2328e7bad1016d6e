set_option maxRecDepth 8000
theorem w613 : Cond.classLink "ClayPrints$Tour" 18 "[[I" ∈ zTs := List.mem_filter.mpr ⟨ztk2 205 rfl, rfl⟩
theorem zclN_lo {h : zH} {a b j : Nat} (h6 : a + 18 ≤ 1000000) (hb : b < a ∨ 1000000 ≤ b) : zclN h a b j = h.1 b j := by
  unfold zclN zclr
  rw [if_neg (by omega), if_neg (by omega), if_neg (by omega)]
theorem zPL.wA {h0 h : zH} {a : Nat} {ks : List (Nat × Nat)} {rs : List (Nat × Nat × Nat)} {zs : List Nat} {fv : Nat → Int32} (p : zPL h0 h a ks rs zs fv) (o j : Nat) (x : Int32) (ho : 0 < o ∧ o < ks.length) (zs' : List Nat) (hz : zs'.all (fun e => zs.contains e && !(e == o)) = true) : zPL h0 (zwI h (a + o) j x) a ks rs zs' fv := by
  obtain ⟨p1, p2, p3, p4, p5, p6, p7, p8⟩ := p
  refine ⟨p1, p2, p3, fun i e hi => ?_, fun k => ?_, fun b hb => ?_, p7, p8⟩
  · have h3 := List.all_eq_true.mp hz e (List.mem_of_getElem? hi)
    simp only [Bool.and_eq_true, Bool.not_eq_true', beq_eq_false_iff_ne] at h3
    obtain ⟨k, hk2⟩ := List.getElem?_of_mem (List.contains_iff_mem.mp h3.1)
    obtain ⟨q1, q2⟩ := p4 k e hk2
    exact ⟨q1, fun j => by rw [zI_wo (by have := h3.2; omega)]; exact q2 j⟩
  · rw [zI_wo (by omega)]; exact p5 k
  · obtain ⟨q1, q2, q3⟩ := p6 b hb
    refine ⟨q1, fun k => ?_, q3⟩
    rw [zI_wo (by omega)]; exact q2 k

def kA1_0 : List (Nat × Nat) := [(201, 10)]
theorem kA1_0_l : kA1_0.length = 1 := by decide +kernel
def rA1_1 : List (Nat × Nat × Nat) := []
def kA1_2 : List (Nat × Nat) := [(201, 10), (102, 6)]
theorem kA1_2_l : kA1_2.length = 2 := by decide +kernel
def rA1_3 : List (Nat × Nat × Nat) := [(0, 5, 1)]
def kA1_4 : List (Nat × Nat) := [(201, 10), (102, 6), (1, 5)]
theorem kA1_4_l : kA1_4.length = 3 := by decide +kernel
def rA1_5 : List (Nat × Nat × Nat) := [(0, 5, 1), (0, 6, 2)]
def kA1_6 : List (Nat × Nat) := [(201, 10), (102, 6), (1, 5), (1, 5)]
theorem kA1_6_l : kA1_6.length = 4 := by decide +kernel
def rA1_7 : List (Nat × Nat × Nat) := [(0, 5, 1), (0, 6, 2), (0, 7, 3)]
def kA1_8 : List (Nat × Nat) := [(201, 10), (102, 6), (1, 5), (1, 5), (1, 5)]
theorem kA1_8_l : kA1_8.length = 5 := by decide +kernel
def rA1_9 : List (Nat × Nat × Nat) := [(0, 5, 1), (0, 6, 2), (0, 7, 3), (0, 8, 4)]
def kA1_10 : List (Nat × Nat) := [(201, 10), (102, 6), (1, 5), (1, 5), (1, 5), (1, 100)]
theorem kA1_10_l : kA1_10.length = 6 := by decide +kernel
def rA1_11 : List (Nat × Nat × Nat) := [(0, 5, 1), (0, 6, 2), (0, 7, 3), (0, 8, 4), (0, 9, 5)]
def kA1_12 : List (Nat × Nat) := [(201, 10), (102, 6), (1, 5), (1, 5), (1, 5), (1, 100), (202, 10), (1, 24)]
theorem kA1_12_l : kA1_12.length = 8 := by decide +kernel
def rA1_13 : List (Nat × Nat × Nat) := [(0, 5, 1), (0, 6, 2), (0, 7, 3), (0, 8, 4), (0, 9, 5), (6, 9, 7)]
def rA1_14 : List (Nat × Nat × Nat) := [(0, 5, 1), (0, 6, 2), (0, 7, 3), (0, 8, 4), (0, 9, 5), (6, 9, 7), (1, 0, 6)]
def kA1_15 : List (Nat × Nat) := [(201, 10), (102, 6), (1, 5), (1, 5), (1, 5), (1, 100), (202, 10), (1, 24), (202, 10), (1, 24)]
theorem kA1_15_l : kA1_15.length = 10 := by decide +kernel
def rA1_16 : List (Nat × Nat × Nat) := [(0, 5, 1), (0, 6, 2), (0, 7, 3), (0, 8, 4), (0, 9, 5), (6, 9, 7), (1, 0, 6), (8, 9, 9)]
def rA1_17 : List (Nat × Nat × Nat) := [(0, 5, 1), (0, 6, 2), (0, 7, 3), (0, 8, 4), (0, 9, 5), (6, 9, 7), (1, 0, 6), (8, 9, 9), (1, 1, 8)]
def kA1_18 : List (Nat × Nat) := [(201, 10), (102, 6), (1, 5), (1, 5), (1, 5), (1, 100), (202, 10), (1, 24), (202, 10), (1, 24), (202, 10), (1, 24)]
theorem kA1_18_l : kA1_18.length = 12 := by decide +kernel
def rA1_19 : List (Nat × Nat × Nat) := [(0, 5, 1), (0, 6, 2), (0, 7, 3), (0, 8, 4), (0, 9, 5), (6, 9, 7), (1, 0, 6), (8, 9, 9), (1, 1, 8), (10, 9, 11)]
def rA1_20 : List (Nat × Nat × Nat) := [(0, 5, 1), (0, 6, 2), (0, 7, 3), (0, 8, 4), (0, 9, 5), (6, 9, 7), (1, 0, 6), (8, 9, 9), (1, 1, 8), (10, 9, 11), (1, 2, 10)]
def kA1_21 : List (Nat × Nat) := [(201, 10), (102, 6), (1, 5), (1, 5), (1, 5), (1, 100), (202, 10), (1, 24), (202, 10), (1, 24), (202, 10), (1, 24), (202, 10), (1, 24)]
theorem kA1_21_l : kA1_21.length = 14 := by decide +kernel
def rA1_22 : List (Nat × Nat × Nat) := [(0, 5, 1), (0, 6, 2), (0, 7, 3), (0, 8, 4), (0, 9, 5), (6, 9, 7), (1, 0, 6), (8, 9, 9), (1, 1, 8), (10, 9, 11), (1, 2, 10), (12, 9, 13)]
def rA1_23 : List (Nat × Nat × Nat) := [(0, 5, 1), (0, 6, 2), (0, 7, 3), (0, 8, 4), (0, 9, 5), (6, 9, 7), (1, 0, 6), (8, 9, 9), (1, 1, 8), (10, 9, 11), (1, 2, 10), (12, 9, 13), (1, 3, 12)]
def kA1_24 : List (Nat × Nat) := [(201, 10), (102, 6), (1, 5), (1, 5), (1, 5), (1, 100), (202, 10), (1, 24), (202, 10), (1, 24), (202, 10), (1, 24), (202, 10), (1, 24), (202, 10), (1, 24)]
theorem kA1_24_l : kA1_24.length = 16 := by decide +kernel
def rA1_25 : List (Nat × Nat × Nat) := [(0, 5, 1), (0, 6, 2), (0, 7, 3), (0, 8, 4), (0, 9, 5), (6, 9, 7), (1, 0, 6), (8, 9, 9), (1, 1, 8), (10, 9, 11), (1, 2, 10), (12, 9, 13), (1, 3, 12), (14, 9, 15)]
def rA1_26 : List (Nat × Nat × Nat) := [(0, 5, 1), (0, 6, 2), (0, 7, 3), (0, 8, 4), (0, 9, 5), (6, 9, 7), (1, 0, 6), (8, 9, 9), (1, 1, 8), (10, 9, 11), (1, 2, 10), (12, 9, 13), (1, 3, 12), (14, 9, 15), (1, 4, 14)]
def kA1_27 : List (Nat × Nat) := [(201, 10), (102, 6), (1, 5), (1, 5), (1, 5), (1, 100), (202, 10), (1, 24), (202, 10), (1, 24), (202, 10), (1, 24), (202, 10), (1, 24), (202, 10), (1, 24), (202, 10), (1, 24)]
theorem kA1_27_l : kA1_27.length = 18 := by decide +kernel
def rA1_28 : List (Nat × Nat × Nat) := [(0, 5, 1), (0, 6, 2), (0, 7, 3), (0, 8, 4), (0, 9, 5), (6, 9, 7), (1, 0, 6), (8, 9, 9), (1, 1, 8), (10, 9, 11), (1, 2, 10), (12, 9, 13), (1, 3, 12), (14, 9, 15), (1, 4, 14), (16, 9, 17)]
def rA1_29 : List (Nat × Nat × Nat) := [(0, 5, 1), (0, 6, 2), (0, 7, 3), (0, 8, 4), (0, 9, 5), (6, 9, 7), (1, 0, 6), (8, 9, 9), (1, 1, 8), (10, 9, 11), (1, 2, 10), (12, 9, 13), (1, 3, 12), (14, 9, 15), (1, 4, 14), (16, 9, 17), (1, 5, 16)]
theorem c_X1_init (l : Launch) (G : zG) (h : zH) (a : Nat) (hz : zN h = a + 1) (hk : zK h a = (201, 10)) (h6 : a + 18 ≤ 1000000) (h0 : ∀ j, zI h a j = 0) : CT l G YX1_init 4 17 325 [va_rf (some a)] h (fun v g => v = none ∧ ∃ zs fv, zPL h g a ks1 rs1 zs fv) := by
  refine CT.of (by decide +kernel) (fun t e => by cases e) (Nat.le_of_ble_eq_true rfl) (show Z l G mX1_init 4 _ 17 325 0 [va_rf (some a), zU] [] h from ?_)
  have p0 : zPL h h a kA1_0 rA1_1 [] (fun _ => 0) := (zPL.ini hz hk h0 (by omega)).to (by decide +kernel) (by decide +kernel) (by decide +kernel)
  refine z_aloadn dX1_init_0 rfl rfl ?_
  refine z_objInit dX1_init_1 w211 w195 w196 (by decide) (Nat.le_of_ble_eq_true rfl) ?_
  refine z_aloadn dX1_init_4 rfl rfl ?_
  refine z_bipush (v := 6) dX1_init_5 (by decide) ?_
  have hzh : zN h = a + 1 := by rw [p0.1, kA1_0_l]
  refine z_anew (k := 16) (n := 319) (N := 6) 4 rfl (by decide) dX1_init_7 w212 (by decide) (Nat.le_of_ble_eq_true rfl) (by omega) ?_
  rw [hzh]
  refine z_nmG (fun g1 e2 => ?_)
  have p3 : zPL h g1 a kA1_2 rA1_1 [1] (fun _ => 0) := by rw [e2]; exact (p0.al 102 6 (by rw [kA1_0_l]; omega)).to (by decide +kernel) (by decide +kernel) (by decide +kernel)
  clear p0
  refine z_putF (j := 5) zc1 dX1_init_10 (p3.2.1 0 (201, 10) (by decide +kernel)) (by rw [p3.1, kA1_2_l]; omega) (by decide) rfl rfl rfl rfl w321 ?_
  refine z_nmG (fun g4 e5 => ?_)
  have p6 : zPL h g4 a kA1_2 rA1_3 [1] (fun _ => 0) := by rw [e5]; exact (p3.wR 0 5 1 (by decide +kernel) (by decide +kernel)).to (by decide +kernel) (by decide +kernel) (by decide +kernel)
  clear p3
  refine z_aloadn dX1_init_13 rfl rfl ?_
  refine z_iconst (v := 5) dX1_init_14 (by decide) ?_
  have hzg4 : zN g4 = a + 2 := by rw [p6.1, kA1_2_l]
  refine z_newa (k := 15) (n := 314) (N := 5) 0 rfl (by decide) rfl (fun _ _ q => q) rfl (by decide) dX1_init_15 w286 (by decide) (Nat.le_of_ble_eq_true rfl) (by omega) ?_
  rw [hzg4]
  refine z_nmG (fun g7 e8 => ?_)
  have p9 : zPL h g7 a kA1_4 rA1_3 [1, 2] (fun _ => 0) := by rw [e8]; exact (p6.al 1 5 (by rw [kA1_2_l]; omega)).to (by decide +kernel) (by decide +kernel) (by decide +kernel)
  clear p6
  refine z_putF (j := 6) zc1 dX1_init_17 (p9.2.1 0 (201, 10) (by decide +kernel)) (by rw [p9.1, kA1_4_l]; omega) (by decide) rfl rfl rfl rfl w322 ?_
  refine z_nmG (fun g10 e11 => ?_)
  have p12 : zPL h g10 a kA1_4 rA1_5 [1, 2] (fun _ => 0) := by rw [e11]; exact (p9.wR 0 6 2 (by decide +kernel) (by decide +kernel)).to (by decide +kernel) (by decide +kernel) (by decide +kernel)
  clear p9
  refine z_aloadn dX1_init_20 rfl rfl ?_
  refine z_iconst (v := 5) dX1_init_21 (by decide) ?_
  have hzg10 : zN g10 = a + 3 := by rw [p12.1, kA1_4_l]
  refine z_newa (k := 14) (n := 309) (N := 5) 0 rfl (by decide) rfl (fun _ _ q => q) rfl (by decide) dX1_init_22 w286 (by decide) (Nat.le_of_ble_eq_true rfl) (by omega) ?_
  rw [hzg10]
  refine z_nmG (fun g13 e14 => ?_)
  have p15 : zPL h g13 a kA1_6 rA1_5 [1, 2, 3] (fun _ => 0) := by rw [e14]; exact (p12.al 1 5 (by rw [kA1_4_l]; omega)).to (by decide +kernel) (by decide +kernel) (by decide +kernel)
  clear p12
  refine z_putF (j := 7) zc1 dX1_init_24 (p15.2.1 0 (201, 10) (by decide +kernel)) (by rw [p15.1, kA1_6_l]; omega) (by decide) rfl rfl rfl rfl w325 ?_
  refine z_nmG (fun g16 e17 => ?_)
  have p18 : zPL h g16 a kA1_6 rA1_7 [1, 2, 3] (fun _ => 0) := by rw [e17]; exact (p15.wR 0 7 3 (by decide +kernel) (by decide +kernel)).to (by decide +kernel) (by decide +kernel) (by decide +kernel)
  clear p15
  refine z_aloadn dX1_init_27 rfl rfl ?_
  refine z_iconst (v := 5) dX1_init_28 (by decide) ?_
  have hzg16 : zN g16 = a + 4 := by rw [p18.1, kA1_6_l]
  refine z_newa (k := 13) (n := 304) (N := 5) 0 rfl (by decide) rfl (fun _ _ q => q) rfl (by decide) dX1_init_29 w286 (by decide) (Nat.le_of_ble_eq_true rfl) (by omega) ?_
  rw [hzg16]
  refine z_nmG (fun g19 e20 => ?_)
  have p21 : zPL h g19 a kA1_8 rA1_7 [1, 2, 3, 4] (fun _ => 0) := by rw [e20]; exact (p18.al 1 5 (by rw [kA1_6_l]; omega)).to (by decide +kernel) (by decide +kernel) (by decide +kernel)
  clear p18
  refine z_putF (j := 8) zc1 dX1_init_31 (p21.2.1 0 (201, 10) (by decide +kernel)) (by rw [p21.1, kA1_8_l]; omega) (by decide) rfl rfl rfl rfl w328 ?_
  refine z_nmG (fun g22 e23 => ?_)
  have p24 : zPL h g22 a kA1_8 rA1_9 [1, 2, 3, 4] (fun _ => 0) := by rw [e23]; exact (p21.wR 0 8 4 (by decide +kernel) (by decide +kernel)).to (by decide +kernel) (by decide +kernel) (by decide +kernel)
  clear p21
  refine z_aloadn dX1_init_34 rfl rfl ?_
  refine z_bipush (v := 100) dX1_init_35 (by decide) ?_
  have hzg22 : zN g22 = a + 5 := by rw [p24.1, kA1_8_l]
  refine z_newa (k := 12) (n := 204) (N := 100) 0 rfl (by decide) rfl (fun _ _ q => q) rfl (by decide) dX1_init_37 w286 (by decide) (Nat.le_of_ble_eq_true rfl) (by omega) ?_
  rw [hzg22]
  refine z_nmG (fun g25 e26 => ?_)
  have p27 : zPL h g25 a kA1_10 rA1_9 [1, 2, 3, 4, 5] (fun _ => 0) := by rw [e26]; exact (p24.al 1 100 (by rw [kA1_8_l]; omega)).to (by decide +kernel) (by decide +kernel) (by decide +kernel)
  clear p24
  refine z_putF (j := 9) zc1 dX1_init_39 (p27.2.1 0 (201, 10) (by decide +kernel)) (by rw [p27.1, kA1_10_l]; omega) (by decide) rfl rfl rfl rfl w331 ?_
  refine z_nmG (fun g28 e29 => ?_)
  have p30 : zPL h g28 a kA1_10 rA1_11 [1, 2, 3, 4, 5] (fun _ => 0) := by rw [e29]; exact (p27.wR 0 9 5 (by decide +kernel) (by decide +kernel)).to (by decide +kernel) (by decide +kernel) (by decide +kernel)
  clear p27
  refine z_iconst (v := 0) dX1_init_42 (by decide) ?_
  refine z_istoren (L' := [va_rf (some a), .int 0]) dX1_init_43 rfl (by decide) rfl ?_
  refine z_iloadn dX1_init_44 rfl rfl ?_
  refine z_aloadn dX1_init_45 rfl rfl ?_
  refine z_getRq (j := 5) (x := some (a + 1)) zc1 dX1_init_46 (p30.2.1 0 (201, 10) (by decide +kernel)) (by rw [p30.1, kA1_10_l]; omega) (by decide) rfl w321 (p30.2.2.1 0 (0, 5, 1) (by decide +kernel)).2 ?_
  refine z_alenk (v := 6) 4 rfl (by decide) dX1_init_49 (p30.2.1 1 (102, 6) (by decide +kernel)) (by rw [p30.1, kA1_10_l]; omega) rfl ?_
  refine z_icmp_ge (t := 72) dX1_init_50 (by decide) (fun c31 => absurd c31 (by decide)) (fun _ => ?_)
  refine z_aloadn dX1_init_53 rfl rfl ?_
  refine z_getRq (j := 5) (x := some (a + 1)) zc1 dX1_init_54 (p30.2.1 0 (201, 10) (by decide +kernel)) (by rw [p30.1, kA1_10_l]; omega) (by decide) rfl w321 (p30.2.2.1 0 (0, 5, 1) (by decide +kernel)).2 ?_
  refine z_iloadn dX1_init_57 rfl rfl ?_
  have hzg28 : zN g28 = a + 6 := by rw [p30.1, kA1_10_l]
  refine z_new (k := 11) (n := 194) zc2 dX1_init_58 w212 w214 w172 (by omega) ?_
  rw [hzg28]
  refine z_dup dX1_init_61 rfl ?_
  refine z_callI (k := 10) (n := 170) (mc := 1) (ms := 24) (h := (zal g28 202 10)) (S := [va_rf (some (a + 6)), .int 0, va_rf (some (a + 1))]) (M := mX1_init) (a := a + 6) (As := []) eX2_init rfl rfl w216 (Or.inr ⟨_, w215⟩) dX1_init_62 rfl (by decide) (Nat.le_of_ble_eq_true rfl) (c_X2_init l G (zal g28 202 10) (a + 6) (by show zN g28 + 1 = _; rw [hzg28]) (by rw [← hzg28]; exact zK_al) (by omega) (fun j => by rw [← hzg28]; exact zI_aln)) (fun v33 g34 q35 => ?_)
  obtain ⟨rfl, zsq35, fvq35, q35⟩ := q35
  rw [← hzg28] at q35
  have p36 : zPL h g34 a kA1_12 rA1_13 [1, 2, 3, 4, 5] (fun _ => 0) := (p30.sub q35).to (by decide +kernel) (by decide +kernel) (by decide +kernel)
  clear p30
  show Z l G _ _ _ _ _ 65 _ (va_rf (some (a + 6)) :: .int 0 :: va_rf (some (a + 1)) :: []) _
  refine z_aast (N := 6) (N2 := 10) 4 rfl (by decide) (show zcl[2]? = some _ from rfl) dX1_init_65 (p36.2.1 1 (102, 6) (by decide +kernel)) (by rw [p36.1, kA1_12_l]; omega) (p36.2.1 6 (202, 10) (by decide +kernel)) (by rw [p36.1, kA1_12_l]; omega) (by decide) (by decide) ?_
  refine z_nmG (fun g37 e38 => ?_)
  have p39 : zPL h g37 a kA1_12 rA1_14 [1, 2, 3, 4, 5] (fun _ => 0) := by rw [e38]; exact (p36.wR 1 0 6 (by decide +kernel) (by decide +kernel)).to (by decide +kernel) (by decide +kernel) (by decide +kernel)
  clear p36
  refine z_iinc (v := 1) (L' := [va_rf (some a), .int 1]) dX1_init_66 (by decide) rfl rfl rfl ?_
  refine z_goto (t := 44) dX1_init_69 (by decide) ?_
  refine z_iloadn dX1_init_44 rfl rfl ?_
  refine z_aloadn dX1_init_45 rfl rfl ?_
  refine z_getRq (j := 5) (x := some (a + 1)) zc1 dX1_init_46 (p39.2.1 0 (201, 10) (by decide +kernel)) (by rw [p39.1, kA1_12_l]; omega) (by decide) rfl w321 (p39.2.2.1 0 (0, 5, 1) (by decide +kernel)).2 ?_
  refine z_alenk (v := 6) 4 rfl (by decide) dX1_init_49 (p39.2.1 1 (102, 6) (by decide +kernel)) (by rw [p39.1, kA1_12_l]; omega) rfl ?_
  refine z_icmp_ge (t := 72) dX1_init_50 (by decide) (fun c40 => absurd c40 (by decide)) (fun _ => ?_)
  refine z_aloadn dX1_init_53 rfl rfl ?_
  refine z_getRq (j := 5) (x := some (a + 1)) zc1 dX1_init_54 (p39.2.1 0 (201, 10) (by decide +kernel)) (by rw [p39.1, kA1_12_l]; omega) (by decide) rfl w321 (p39.2.2.1 0 (0, 5, 1) (by decide +kernel)).2 ?_
  refine z_iloadn dX1_init_57 rfl rfl ?_
  have hzg37 : zN g37 = a + 8 := by rw [p39.1, kA1_12_l]
  refine z_new (k := 9) (n := 160) zc2 dX1_init_58 w212 w214 w172 (by omega) ?_
  rw [hzg37]
  refine z_dup dX1_init_61 rfl ?_
  refine z_callI (k := 8) (n := 136) (mc := 1) (ms := 24) (h := (zal g37 202 10)) (S := [va_rf (some (a + 8)), .int 1, va_rf (some (a + 1))]) (M := mX1_init) (a := a + 8) (As := []) eX2_init rfl rfl w216 (Or.inr ⟨_, w215⟩) dX1_init_62 rfl (by decide) (Nat.le_of_ble_eq_true rfl) (c_X2_init l G (zal g37 202 10) (a + 8) (by show zN g37 + 1 = _; rw [hzg37]) (by rw [← hzg37]; exact zK_al) (by omega) (fun j => by rw [← hzg37]; exact zI_aln)) (fun v42 g43 q44 => ?_)
  obtain ⟨rfl, zsq44, fvq44, q44⟩ := q44
  rw [← hzg37] at q44
  have p45 : zPL h g43 a kA1_15 rA1_16 [1, 2, 3, 4, 5] (fun _ => 0) := (p39.sub q44).to (by decide +kernel) (by decide +kernel) (by decide +kernel)
  clear p39
  show Z l G _ _ _ _ _ 65 _ (va_rf (some (a + 8)) :: .int 1 :: va_rf (some (a + 1)) :: []) _
  refine z_aast (N := 6) (N2 := 10) 4 rfl (by decide) (show zcl[2]? = some _ from rfl) dX1_init_65 (p45.2.1 1 (102, 6) (by decide +kernel)) (by rw [p45.1, kA1_15_l]; omega) (p45.2.1 8 (202, 10) (by decide +kernel)) (by rw [p45.1, kA1_15_l]; omega) (by decide) (by decide) ?_
  refine z_nmG (fun g46 e47 => ?_)
  have p48 : zPL h g46 a kA1_15 rA1_17 [1, 2, 3, 4, 5] (fun _ => 0) := by rw [e47]; exact (p45.wR 1 1 8 (by decide +kernel) (by decide +kernel)).to (by decide +kernel) (by decide +kernel) (by decide +kernel)
  clear p45
  refine z_iinc (v := 2) (L' := [va_rf (some a), .int 2]) dX1_init_66 (by decide) rfl rfl rfl ?_
  refine z_goto (t := 44) dX1_init_69 (by decide) ?_
  refine z_iloadn dX1_init_44 rfl rfl ?_
  refine z_aloadn dX1_init_45 rfl rfl ?_
  refine z_getRq (j := 5) (x := some (a + 1)) zc1 dX1_init_46 (p48.2.1 0 (201, 10) (by decide +kernel)) (by rw [p48.1, kA1_15_l]; omega) (by decide) rfl w321 (p48.2.2.1 0 (0, 5, 1) (by decide +kernel)).2 ?_
  refine z_alenk (v := 6) 4 rfl (by decide) dX1_init_49 (p48.2.1 1 (102, 6) (by decide +kernel)) (by rw [p48.1, kA1_15_l]; omega) rfl ?_
  refine z_icmp_ge (t := 72) dX1_init_50 (by decide) (fun c49 => absurd c49 (by decide)) (fun _ => ?_)
  refine z_aloadn dX1_init_53 rfl rfl ?_
  refine z_getRq (j := 5) (x := some (a + 1)) zc1 dX1_init_54 (p48.2.1 0 (201, 10) (by decide +kernel)) (by rw [p48.1, kA1_15_l]; omega) (by decide) rfl w321 (p48.2.2.1 0 (0, 5, 1) (by decide +kernel)).2 ?_
  refine z_iloadn dX1_init_57 rfl rfl ?_
  have hzg46 : zN g46 = a + 10 := by rw [p48.1, kA1_15_l]
  refine z_new (k := 7) (n := 126) zc2 dX1_init_58 w212 w214 w172 (by omega) ?_
  rw [hzg46]
  refine z_dup dX1_init_61 rfl ?_
  refine z_callI (k := 6) (n := 102) (mc := 1) (ms := 24) (h := (zal g46 202 10)) (S := [va_rf (some (a + 10)), .int 2, va_rf (some (a + 1))]) (M := mX1_init) (a := a + 10) (As := []) eX2_init rfl rfl w216 (Or.inr ⟨_, w215⟩) dX1_init_62 rfl (by decide) (Nat.le_of_ble_eq_true rfl) (c_X2_init l G (zal g46 202 10) (a + 10) (by show zN g46 + 1 = _; rw [hzg46]) (by rw [← hzg46]; exact zK_al) (by omega) (fun j => by rw [← hzg46]; exact zI_aln)) (fun v51 g52 q53 => ?_)
  obtain ⟨rfl, zsq53, fvq53, q53⟩ := q53
  rw [← hzg46] at q53
  have p54 : zPL h g52 a kA1_18 rA1_19 [1, 2, 3, 4, 5] (fun _ => 0) := (p48.sub q53).to (by decide +kernel) (by decide +kernel) (by decide +kernel)
  clear p48
  show Z l G _ _ _ _ _ 65 _ (va_rf (some (a + 10)) :: .int 2 :: va_rf (some (a + 1)) :: []) _
  refine z_aast (N := 6) (N2 := 10) 4 rfl (by decide) (show zcl[2]? = some _ from rfl) dX1_init_65 (p54.2.1 1 (102, 6) (by decide +kernel)) (by rw [p54.1, kA1_18_l]; omega) (p54.2.1 10 (202, 10) (by decide +kernel)) (by rw [p54.1, kA1_18_l]; omega) (by decide) (by decide) ?_
  refine z_nmG (fun g55 e56 => ?_)
  have p57 : zPL h g55 a kA1_18 rA1_20 [1, 2, 3, 4, 5] (fun _ => 0) := by rw [e56]; exact (p54.wR 1 2 10 (by decide +kernel) (by decide +kernel)).to (by decide +kernel) (by decide +kernel) (by decide +kernel)
  clear p54
  refine z_iinc (v := 3) (L' := [va_rf (some a), .int 3]) dX1_init_66 (by decide) rfl rfl rfl ?_
  refine z_goto (t := 44) dX1_init_69 (by decide) ?_
  refine z_iloadn dX1_init_44 rfl rfl ?_
  refine z_aloadn dX1_init_45 rfl rfl ?_
  refine z_getRq (j := 5) (x := some (a + 1)) zc1 dX1_init_46 (p57.2.1 0 (201, 10) (by decide +kernel)) (by rw [p57.1, kA1_18_l]; omega) (by decide) rfl w321 (p57.2.2.1 0 (0, 5, 1) (by decide +kernel)).2 ?_
  refine z_alenk (v := 6) 4 rfl (by decide) dX1_init_49 (p57.2.1 1 (102, 6) (by decide +kernel)) (by rw [p57.1, kA1_18_l]; omega) rfl ?_
  refine z_icmp_ge (t := 72) dX1_init_50 (by decide) (fun c58 => absurd c58 (by decide)) (fun _ => ?_)
  refine z_aloadn dX1_init_53 rfl rfl ?_
  refine z_getRq (j := 5) (x := some (a + 1)) zc1 dX1_init_54 (p57.2.1 0 (201, 10) (by decide +kernel)) (by rw [p57.1, kA1_18_l]; omega) (by decide) rfl w321 (p57.2.2.1 0 (0, 5, 1) (by decide +kernel)).2 ?_
  refine z_iloadn dX1_init_57 rfl rfl ?_
  have hzg55 : zN g55 = a + 12 := by rw [p57.1, kA1_18_l]
  refine z_new (k := 5) (n := 92) zc2 dX1_init_58 w212 w214 w172 (by omega) ?_
  rw [hzg55]
  refine z_dup dX1_init_61 rfl ?_
  refine z_callI (k := 4) (n := 68) (mc := 1) (ms := 24) (h := (zal g55 202 10)) (S := [va_rf (some (a + 12)), .int 3, va_rf (some (a + 1))]) (M := mX1_init) (a := a + 12) (As := []) eX2_init rfl rfl w216 (Or.inr ⟨_, w215⟩) dX1_init_62 rfl (by decide) (Nat.le_of_ble_eq_true rfl) (c_X2_init l G (zal g55 202 10) (a + 12) (by show zN g55 + 1 = _; rw [hzg55]) (by rw [← hzg55]; exact zK_al) (by omega) (fun j => by rw [← hzg55]; exact zI_aln)) (fun v60 g61 q62 => ?_)
  obtain ⟨rfl, zsq62, fvq62, q62⟩ := q62
  rw [← hzg55] at q62
  have p63 : zPL h g61 a kA1_21 rA1_22 [1, 2, 3, 4, 5] (fun _ => 0) := (p57.sub q62).to (by decide +kernel) (by decide +kernel) (by decide +kernel)
  clear p57
  show Z l G _ _ _ _ _ 65 _ (va_rf (some (a + 12)) :: .int 3 :: va_rf (some (a + 1)) :: []) _
  refine z_aast (N := 6) (N2 := 10) 4 rfl (by decide) (show zcl[2]? = some _ from rfl) dX1_init_65 (p63.2.1 1 (102, 6) (by decide +kernel)) (by rw [p63.1, kA1_21_l]; omega) (p63.2.1 12 (202, 10) (by decide +kernel)) (by rw [p63.1, kA1_21_l]; omega) (by decide) (by decide) ?_
  refine z_nmG (fun g64 e65 => ?_)
  have p66 : zPL h g64 a kA1_21 rA1_23 [1, 2, 3, 4, 5] (fun _ => 0) := by rw [e65]; exact (p63.wR 1 3 12 (by decide +kernel) (by decide +kernel)).to (by decide +kernel) (by decide +kernel) (by decide +kernel)
  clear p63
  refine z_iinc (v := 4) (L' := [va_rf (some a), .int 4]) dX1_init_66 (by decide) rfl rfl rfl ?_
  refine z_goto (t := 44) dX1_init_69 (by decide) ?_
  refine z_iloadn dX1_init_44 rfl rfl ?_
  refine z_aloadn dX1_init_45 rfl rfl ?_
  refine z_getRq (j := 5) (x := some (a + 1)) zc1 dX1_init_46 (p66.2.1 0 (201, 10) (by decide +kernel)) (by rw [p66.1, kA1_21_l]; omega) (by decide) rfl w321 (p66.2.2.1 0 (0, 5, 1) (by decide +kernel)).2 ?_
  refine z_alenk (v := 6) 4 rfl (by decide) dX1_init_49 (p66.2.1 1 (102, 6) (by decide +kernel)) (by rw [p66.1, kA1_21_l]; omega) rfl ?_
  refine z_icmp_ge (t := 72) dX1_init_50 (by decide) (fun c67 => absurd c67 (by decide)) (fun _ => ?_)
  refine z_aloadn dX1_init_53 rfl rfl ?_
  refine z_getRq (j := 5) (x := some (a + 1)) zc1 dX1_init_54 (p66.2.1 0 (201, 10) (by decide +kernel)) (by rw [p66.1, kA1_21_l]; omega) (by decide) rfl w321 (p66.2.2.1 0 (0, 5, 1) (by decide +kernel)).2 ?_
  refine z_iloadn dX1_init_57 rfl rfl ?_
  have hzg64 : zN g64 = a + 14 := by rw [p66.1, kA1_21_l]
  refine z_new (k := 3) (n := 58) zc2 dX1_init_58 w212 w214 w172 (by omega) ?_
  rw [hzg64]
  refine z_dup dX1_init_61 rfl ?_
  refine z_callI (k := 2) (n := 34) (mc := 1) (ms := 24) (h := (zal g64 202 10)) (S := [va_rf (some (a + 14)), .int 4, va_rf (some (a + 1))]) (M := mX1_init) (a := a + 14) (As := []) eX2_init rfl rfl w216 (Or.inr ⟨_, w215⟩) dX1_init_62 rfl (by decide) (Nat.le_of_ble_eq_true rfl) (c_X2_init l G (zal g64 202 10) (a + 14) (by show zN g64 + 1 = _; rw [hzg64]) (by rw [← hzg64]; exact zK_al) (by omega) (fun j => by rw [← hzg64]; exact zI_aln)) (fun v69 g70 q71 => ?_)
  obtain ⟨rfl, zsq71, fvq71, q71⟩ := q71
  rw [← hzg64] at q71
  have p72 : zPL h g70 a kA1_24 rA1_25 [1, 2, 3, 4, 5] (fun _ => 0) := (p66.sub q71).to (by decide +kernel) (by decide +kernel) (by decide +kernel)
  clear p66
  show Z l G _ _ _ _ _ 65 _ (va_rf (some (a + 14)) :: .int 4 :: va_rf (some (a + 1)) :: []) _
  refine z_aast (N := 6) (N2 := 10) 4 rfl (by decide) (show zcl[2]? = some _ from rfl) dX1_init_65 (p72.2.1 1 (102, 6) (by decide +kernel)) (by rw [p72.1, kA1_24_l]; omega) (p72.2.1 14 (202, 10) (by decide +kernel)) (by rw [p72.1, kA1_24_l]; omega) (by decide) (by decide) ?_
  refine z_nmG (fun g73 e74 => ?_)
  have p75 : zPL h g73 a kA1_24 rA1_26 [1, 2, 3, 4, 5] (fun _ => 0) := by rw [e74]; exact (p72.wR 1 4 14 (by decide +kernel) (by decide +kernel)).to (by decide +kernel) (by decide +kernel) (by decide +kernel)
  clear p72
  refine z_iinc (v := 5) (L' := [va_rf (some a), .int 5]) dX1_init_66 (by decide) rfl rfl rfl ?_
  refine z_goto (t := 44) dX1_init_69 (by decide) ?_
  refine z_iloadn dX1_init_44 rfl rfl ?_
  refine z_aloadn dX1_init_45 rfl rfl ?_
  refine z_getRq (j := 5) (x := some (a + 1)) zc1 dX1_init_46 (p75.2.1 0 (201, 10) (by decide +kernel)) (by rw [p75.1, kA1_24_l]; omega) (by decide) rfl w321 (p75.2.2.1 0 (0, 5, 1) (by decide +kernel)).2 ?_
  refine z_alenk (v := 6) 4 rfl (by decide) dX1_init_49 (p75.2.1 1 (102, 6) (by decide +kernel)) (by rw [p75.1, kA1_24_l]; omega) rfl ?_
  refine z_icmp_ge (t := 72) dX1_init_50 (by decide) (fun c76 => absurd c76 (by decide)) (fun _ => ?_)
  refine z_aloadn dX1_init_53 rfl rfl ?_
  refine z_getRq (j := 5) (x := some (a + 1)) zc1 dX1_init_54 (p75.2.1 0 (201, 10) (by decide +kernel)) (by rw [p75.1, kA1_24_l]; omega) (by decide) rfl w321 (p75.2.2.1 0 (0, 5, 1) (by decide +kernel)).2 ?_
  refine z_iloadn dX1_init_57 rfl rfl ?_
  have hzg73 : zN g73 = a + 16 := by rw [p75.1, kA1_24_l]
  refine z_new (k := 1) (n := 24) zc2 dX1_init_58 w212 w214 w172 (by omega) ?_
  rw [hzg73]
  refine z_dup dX1_init_61 rfl ?_
  refine z_callI (k := 0) (n := 0) (mc := 1) (ms := 24) (h := (zal g73 202 10)) (S := [va_rf (some (a + 16)), .int 5, va_rf (some (a + 1))]) (M := mX1_init) (a := a + 16) (As := []) eX2_init rfl rfl w216 (Or.inr ⟨_, w215⟩) dX1_init_62 rfl (by decide) (Nat.le_of_ble_eq_true rfl) (c_X2_init l G (zal g73 202 10) (a + 16) (by show zN g73 + 1 = _; rw [hzg73]) (by rw [← hzg73]; exact zK_al) (by omega) (fun j => by rw [← hzg73]; exact zI_aln)) (fun v78 g79 q80 => ?_)
  obtain ⟨rfl, zsq80, fvq80, q80⟩ := q80
  rw [← hzg73] at q80
  have p81 : zPL h g79 a kA1_27 rA1_28 [1, 2, 3, 4, 5] (fun _ => 0) := (p75.sub q80).to (by decide +kernel) (by decide +kernel) (by decide +kernel)
  clear p75
  show Z l G _ _ _ _ _ 65 _ (va_rf (some (a + 16)) :: .int 5 :: va_rf (some (a + 1)) :: []) _
  refine z_aast (N := 6) (N2 := 10) 4 rfl (by decide) (show zcl[2]? = some _ from rfl) dX1_init_65 (p81.2.1 1 (102, 6) (by decide +kernel)) (by rw [p81.1, kA1_27_l]; omega) (p81.2.1 16 (202, 10) (by decide +kernel)) (by rw [p81.1, kA1_27_l]; omega) (by decide) (by decide) ?_
  refine z_nmG (fun g82 e83 => ?_)
  have p84 : zPL h g82 a kA1_27 rA1_29 [1, 2, 3, 4, 5] (fun _ => 0) := by rw [e83]; exact (p81.wR 1 5 16 (by decide +kernel) (by decide +kernel)).to (by decide +kernel) (by decide +kernel) (by decide +kernel)
  clear p81
  refine z_iinc (v := 6) (L' := [va_rf (some a), .int 6]) dX1_init_66 (by decide) rfl rfl rfl ?_
  refine z_goto (t := 44) dX1_init_69 (by decide) ?_
  refine z_iloadn dX1_init_44 rfl rfl ?_
  refine z_aloadn dX1_init_45 rfl rfl ?_
  refine z_getRq (j := 5) (x := some (a + 1)) zc1 dX1_init_46 (p84.2.1 0 (201, 10) (by decide +kernel)) (by rw [p84.1, kA1_27_l]; omega) (by decide) rfl w321 (p84.2.2.1 0 (0, 5, 1) (by decide +kernel)).2 ?_
  refine z_alenk (v := 6) 4 rfl (by decide) dX1_init_49 (p84.2.1 1 (102, 6) (by decide +kernel)) (by rw [p84.1, kA1_27_l]; omega) rfl ?_
  refine z_icmp_ge (t := 72) dX1_init_50 (by decide) (fun _ => ?_) (fun c85 => absurd c85 (by decide))
  refine z_aloadn dX1_init_72 rfl rfl ?_
  have hlo : lo1 g82 a := by have := p84.lo (rs' := rs1) (by decide +kernel); exact this
  refine z_callV (k := 0) (n := 0) (mc := 0) (ms := 0) (h := g82) (S := []) (a := a) (M := mX1_init) (As := []) zc1 rfl eX1_clear w289 w0 (Or.inl w287) dX1_init_73 (p84.2.1 0 (201, 10) (by decide +kernel)) (by rw [p84.1, kA1_27_l]; omega) rfl (by decide) (Nat.le_of_ble_eq_true rfl) (c_X1_clear l G g82 a hlo) (fun v86 g87 q88 => ?_)
  obtain ⟨I89, rfl, rfl, q88⟩ := q88
  have hI9 : ∀ b, (b < a ∨ 1000000 ≤ b) → ∀ j, I89 b j = g82.1 b j := fun b hb j => by rw [q88]; exact zclN_lo (by omega) hb
  have p90 : zPL h (I89, g82.2) a kA1_27 rA1_29 [] (I89 a) := (p84.ch hI9).to (by decide +kernel) (by decide +kernel) (by decide +kernel)
  show Z l G _ _ _ _ _ 76 _ [] _
  exact z_ret (v := none) dX1_init_76 rfl rfl ⟨rfl, [], (I89 a), p90.to (by decide +kernel) (by decide +kernel) (by decide +kernel)⟩

def kA5_0 : List (Nat × Nat) := [(205, 13)]
theorem kA5_0_l : kA5_0.length = 1 := by decide +kernel
def rA5_1 : List (Nat × Nat × Nat) := []
def kA5_2 : List (Nat × Nat) := [(205, 13), (201, 10), (102, 6), (1, 5), (1, 5), (1, 5), (1, 100), (202, 10), (1, 24), (202, 10), (1, 24), (202, 10), (1, 24), (202, 10), (1, 24), (202, 10), (1, 24), (202, 10), (1, 24)]
theorem kA5_2_l : kA5_2.length = 19 := by decide +kernel
def rA5_3 : List (Nat × Nat × Nat) := [(1, 5, 2), (1, 6, 3), (1, 7, 4), (1, 8, 5), (1, 9, 6), (2, 0, 7), (7, 9, 8), (2, 1, 9), (9, 9, 10), (2, 2, 11), (11, 9, 12), (2, 3, 13), (13, 9, 14), (2, 4, 15), (15, 9, 16), (2, 5, 17), (17, 9, 18)]
def rA5_4 : List (Nat × Nat × Nat) := [(1, 5, 2), (1, 6, 3), (1, 7, 4), (1, 8, 5), (1, 9, 6), (2, 0, 7), (7, 9, 8), (2, 1, 9), (9, 9, 10), (2, 2, 11), (11, 9, 12), (2, 3, 13), (13, 9, 14), (2, 4, 15), (15, 9, 16), (2, 5, 17), (17, 9, 18), (0, 0, 1)]
def kA5_5 : List (Nat × Nat) := [(205, 13), (201, 10), (102, 6), (1, 5), (1, 5), (1, 5), (1, 100), (202, 10), (1, 24), (202, 10), (1, 24), (202, 10), (1, 24), (202, 10), (1, 24), (202, 10), (1, 24), (202, 10), (1, 24), (203, 6), (1, 10), (1, 10), (1, 10), (1, 10), (1, 10)]
theorem kA5_5_l : kA5_5.length = 25 := by decide +kernel
def rA5_6 : List (Nat × Nat × Nat) := [(1, 5, 2), (1, 6, 3), (1, 7, 4), (1, 8, 5), (1, 9, 6), (2, 0, 7), (7, 9, 8), (2, 1, 9), (9, 9, 10), (2, 2, 11), (11, 9, 12), (2, 3, 13), (13, 9, 14), (2, 4, 15), (15, 9, 16), (2, 5, 17), (17, 9, 18), (0, 0, 1), (19, 1, 20), (19, 2, 21), (19, 3, 22), (19, 4, 23), (19, 5, 24)]
def rA5_7 : List (Nat × Nat × Nat) := [(1, 5, 2), (1, 6, 3), (1, 7, 4), (1, 8, 5), (1, 9, 6), (2, 0, 7), (7, 9, 8), (2, 1, 9), (9, 9, 10), (2, 2, 11), (11, 9, 12), (2, 3, 13), (13, 9, 14), (2, 4, 15), (15, 9, 16), (2, 5, 17), (17, 9, 18), (0, 0, 1), (19, 1, 20), (19, 2, 21), (19, 3, 22), (19, 4, 23), (19, 5, 24), (0, 1, 19)]
def kA5_8 : List (Nat × Nat) := [(205, 13), (201, 10), (102, 6), (1, 5), (1, 5), (1, 5), (1, 100), (202, 10), (1, 24), (202, 10), (1, 24), (202, 10), (1, 24), (202, 10), (1, 24), (202, 10), (1, 24), (202, 10), (1, 24), (203, 6), (1, 10), (1, 10), (1, 10), (1, 10), (1, 10), (1, 27)]
theorem kA5_8_l : kA5_8.length = 26 := by decide +kernel
def rA5_9 : List (Nat × Nat × Nat) := [(1, 5, 2), (1, 6, 3), (1, 7, 4), (1, 8, 5), (1, 9, 6), (2, 0, 7), (7, 9, 8), (2, 1, 9), (9, 9, 10), (2, 2, 11), (11, 9, 12), (2, 3, 13), (13, 9, 14), (2, 4, 15), (15, 9, 16), (2, 5, 17), (17, 9, 18), (0, 0, 1), (19, 1, 20), (19, 2, 21), (19, 3, 22), (19, 4, 23), (19, 5, 24), (0, 1, 19), (0, 10, 25)]
theorem c_X5_init (l : Launch) (G : zG) (h : zH) (a : Nat) (hz : zN h = a + 1) (hk : zK h a = (205, 13)) (h6 : a + 26 ≤ 1000000) (h0 : ∀ j, zI h a j = 0) : CT l G YX5_init 5 25 418 [va_rf (some a)] h (fun v g => v = none ∧ ∃ zs fv, zPL h g a ks5 rs5 zs fv) := by
  refine CT.of (by decide +kernel) (fun t e => by cases e) (Nat.le_of_ble_eq_true rfl) (show Z l G mX5_init 5 _ 25 418 0 [va_rf (some a)] [] h from ?_)
  have p0 : zPL h h a kA5_0 rA5_1 [] (fun _ => 0) := (zPL.ini hz hk h0 (by omega)).to (by decide +kernel) (by decide +kernel) (by decide +kernel)
  refine z_aloadn dX5_init_0 rfl rfl ?_
  refine z_objInit dX5_init_1 w429 w195 w196 (by decide) (Nat.le_of_ble_eq_true rfl) ?_
  refine z_aloadn dX5_init_4 rfl rfl ?_
  have hzh : zN h = a + 1 := by rw [p0.1, kA5_0_l]
  refine z_new (k := 24) (n := 408) zc1 dX5_init_5 w430 w207 w171 (by omega) ?_
  rw [hzh]
  refine z_dup dX5_init_8 rfl ?_
  refine z_callI (k := 7) (n := 83) (mc := 17) (ms := 325) (h := (zal h 201 10)) (S := [va_rf (some (a + 1)), va_rf (some a)]) (M := mX5_init) (a := a + 1) (As := []) eX1_init rfl rfl w209 (Or.inr ⟨_, w431⟩) dX5_init_9 rfl (by decide) (Nat.le_of_ble_eq_true rfl) (c_X1_init l G (zal h 201 10) (a + 1) (by show zN h + 1 = _; rw [hzh]) (by rw [← hzh]; exact zK_al) (by omega) (fun j => by rw [← hzh]; exact zI_aln)) (fun v2 g3 q4 => ?_)
  obtain ⟨rfl, zsq4, fvq4, q4⟩ := q4
  rw [← hzh] at q4
  have p5 : zPL h g3 a kA5_2 rA5_3 [] (fun _ => 0) := (p0.sub q4).to (by decide +kernel) (by decide +kernel) (by decide +kernel)
  clear p0
  show Z l G _ _ _ _ _ 12 _ (va_rf (some (a + 1)) :: va_rf (some a) :: []) _
  refine z_putF (j := 0) zc5 dX5_init_12 (p5.2.1 0 (205, 13) (by decide +kernel)) (by rw [p5.1, kA5_2_l]; omega) (by decide) rfl rfl rfl rfl w434 ?_
  refine z_nmG (fun g6 e7 => ?_)
  have p8 : zPL h g6 a kA5_2 rA5_4 [] (fun _ => 0) := by rw [e7]; exact (p5.wR 0 0 1 (by decide +kernel) (by decide +kernel)).to (by decide +kernel) (by decide +kernel) (by decide +kernel)
  clear p5
  refine z_aloadn dX5_init_15 rfl rfl ?_
  have hzg6 : zN g6 = a + 19 := by rw [p8.1, kA5_2_l]
  refine z_new (k := 6) (n := 77) zc3 dX5_init_16 w432 w355 w174 (by omega) ?_
  rw [hzg6]
  refine z_dup dX5_init_19 rfl ?_
  refine z_callI (k := 1) (n := 27) (mc := 5) (ms := 50) (h := (zal g6 203 6)) (S := [va_rf (some (a + 19)), va_rf (some a)]) (M := mX5_init) (a := a + 19) (As := []) eX3_init rfl rfl w357 (Or.inr ⟨_, w433⟩) dX5_init_20 rfl (by decide) (Nat.le_of_ble_eq_true rfl) (c_X3_init l G (zal g6 203 6) (a + 19) (by show zN g6 + 1 = _; rw [hzg6]) (by rw [← hzg6]; exact zK_al) (by omega) (fun j => by rw [← hzg6]; exact zI_aln)) (fun v10 g11 q12 => ?_)
  obtain ⟨rfl, zsq12, fvq12, q12⟩ := q12
  rw [← hzg6] at q12
  have p13 : zPL h g11 a kA5_5 rA5_6 [] (fun _ => 0) := (p8.sub q12).to (by decide +kernel) (by decide +kernel) (by decide +kernel)
  clear p8
  show Z l G _ _ _ _ _ 23 _ (va_rf (some (a + 19)) :: va_rf (some a) :: []) _
  refine z_putF (j := 1) zc5 dX5_init_23 (p13.2.1 0 (205, 13) (by decide +kernel)) (by rw [p13.1, kA5_5_l]; omega) (by decide) rfl rfl rfl rfl w436 ?_
  refine z_nmG (fun g14 e15 => ?_)
  have p16 : zPL h g14 a kA5_5 rA5_7 [] (fun _ => 0) := by rw [e15]; exact (p13.wR 0 1 19 (by decide +kernel) (by decide +kernel)).to (by decide +kernel) (by decide +kernel) (by decide +kernel)
  clear p13
  refine z_aloadn dX5_init_26 rfl rfl ?_
  refine z_bipush (v := 27) dX5_init_27 (by decide) ?_
  have hzg14 : zN g14 = a + 25 := by rw [p16.1, kA5_5_l]
  refine z_newa (k := 0) (n := 0) (N := 27) 0 rfl (by decide) rfl (fun _ _ q => q) rfl (by decide) dX5_init_29 w286 (by decide) (Nat.le_of_ble_eq_true rfl) (by omega) ?_
  rw [hzg14]
  refine z_nmG (fun g17 e18 => ?_)
  have p19 : zPL h g17 a kA5_8 rA5_7 [25] (fun _ => 0) := by rw [e18]; exact (p16.al 1 27 (by rw [kA5_5_l]; omega)).to (by decide +kernel) (by decide +kernel) (by decide +kernel)
  clear p16
  refine z_putF (j := 10) zc5 dX5_init_31 (p19.2.1 0 (205, 13) (by decide +kernel)) (by rw [p19.1, kA5_8_l]; omega) (by decide) rfl rfl rfl rfl w448 ?_
  refine z_nmG (fun g20 e21 => ?_)
  have p22 : zPL h g20 a kA5_8 rA5_9 [25] (fun _ => 0) := by rw [e21]; exact (p19.wR 0 10 25 (by decide +kernel) (by decide +kernel)).to (by decide +kernel) (by decide +kernel) (by decide +kernel)
  clear p19
  exact z_ret (v := none) dX5_init_34 rfl rfl ⟨rfl, [25], (fun _ => 0), p22.to (by decide +kernel) (by decide +kernel) (by decide +kernel)⟩

def kA6_0 : List (Nat × Nat) := [(206, 8)]
theorem kA6_0_l : kA6_0.length = 1 := by decide +kernel
def rA6_1 : List (Nat × Nat × Nat) := []
def kA6_2 : List (Nat × Nat) := [(206, 8), (1, 600)]
theorem kA6_2_l : kA6_2.length = 2 := by decide +kernel
def rA6_3 : List (Nat × Nat × Nat) := [(0, 0, 1)]
def kA6_4 : List (Nat × Nat) := [(206, 8), (1, 600), (101, 2)]
theorem kA6_4_l : kA6_4.length = 3 := by decide +kernel
def rA6_5 : List (Nat × Nat × Nat) := [(0, 0, 1), (0, 4, 2)]
def kA6_6 : List (Nat × Nat) := [(206, 8), (1, 600), (101, 2), (103, 2)]
theorem kA6_6_l : kA6_6.length = 4 := by decide +kernel
def rA6_7 : List (Nat × Nat × Nat) := [(0, 0, 1), (0, 4, 2), (0, 6, 3)]
def kA6_8 : List (Nat × Nat) := [(206, 8), (1, 600), (101, 2), (103, 2), (201, 10), (102, 6), (1, 5), (1, 5), (1, 5), (1, 100), (202, 10), (1, 24), (202, 10), (1, 24), (202, 10), (1, 24), (202, 10), (1, 24), (202, 10), (1, 24), (202, 10), (1, 24)]
theorem kA6_8_l : kA6_8.length = 22 := by decide +kernel
def rA6_9 : List (Nat × Nat × Nat) := [(0, 0, 1), (0, 4, 2), (0, 6, 3), (4, 5, 5), (4, 6, 6), (4, 7, 7), (4, 8, 8), (4, 9, 9), (5, 0, 10), (10, 9, 11), (5, 1, 12), (12, 9, 13), (5, 2, 14), (14, 9, 15), (5, 3, 16), (16, 9, 17), (5, 4, 18), (18, 9, 19), (5, 5, 20), (20, 9, 21)]
def rA6_10 : List (Nat × Nat × Nat) := [(0, 0, 1), (0, 4, 2), (0, 6, 3), (4, 5, 5), (4, 6, 6), (4, 7, 7), (4, 8, 8), (4, 9, 9), (5, 0, 10), (10, 9, 11), (5, 1, 12), (12, 9, 13), (5, 2, 14), (14, 9, 15), (5, 3, 16), (16, 9, 17), (5, 4, 18), (18, 9, 19), (5, 5, 20), (20, 9, 21), (2, 0, 4)]
def kA6_11 : List (Nat × Nat) := [(206, 8), (1, 600), (101, 2), (103, 2), (201, 10), (102, 6), (1, 5), (1, 5), (1, 5), (1, 100), (202, 10), (1, 24), (202, 10), (1, 24), (202, 10), (1, 24), (202, 10), (1, 24), (202, 10), (1, 24), (202, 10), (1, 24), (201, 10), (102, 6), (1, 5), (1, 5), (1, 5), (1, 100), (202, 10), (1, 24), (202, 10), (1, 24), (202, 10), (1, 24), (202, 10), (1, 24), (202, 10), (1, 24), (202, 10), (1, 24)]
theorem kA6_11_l : kA6_11.length = 40 := by decide +kernel
def rA6_12 : List (Nat × Nat × Nat) := [(0, 0, 1), (0, 4, 2), (0, 6, 3), (4, 5, 5), (4, 6, 6), (4, 7, 7), (4, 8, 8), (4, 9, 9), (5, 0, 10), (10, 9, 11), (5, 1, 12), (12, 9, 13), (5, 2, 14), (14, 9, 15), (5, 3, 16), (16, 9, 17), (5, 4, 18), (18, 9, 19), (5, 5, 20), (20, 9, 21), (2, 0, 4), (22, 5, 23), (22, 6, 24), (22, 7, 25), (22, 8, 26), (22, 9, 27), (23, 0, 28), (28, 9, 29), (23, 1, 30), (30, 9, 31), (23, 2, 32), (32, 9, 33), (23, 3, 34), (34, 9, 35), (23, 4, 36), (36, 9, 37), (23, 5, 38), (38, 9, 39)]
def rA6_13 : List (Nat × Nat × Nat) := [(0, 0, 1), (0, 4, 2), (0, 6, 3), (4, 5, 5), (4, 6, 6), (4, 7, 7), (4, 8, 8), (4, 9, 9), (5, 0, 10), (10, 9, 11), (5, 1, 12), (12, 9, 13), (5, 2, 14), (14, 9, 15), (5, 3, 16), (16, 9, 17), (5, 4, 18), (18, 9, 19), (5, 5, 20), (20, 9, 21), (2, 0, 4), (22, 5, 23), (22, 6, 24), (22, 7, 25), (22, 8, 26), (22, 9, 27), (23, 0, 28), (28, 9, 29), (23, 1, 30), (30, 9, 31), (23, 2, 32), (32, 9, 33), (23, 3, 34), (34, 9, 35), (23, 4, 36), (36, 9, 37), (23, 5, 38), (38, 9, 39), (2, 1, 22)]
def kA6_14 : List (Nat × Nat) := [(206, 8), (1, 600), (101, 2), (103, 2), (201, 10), (102, 6), (1, 5), (1, 5), (1, 5), (1, 100), (202, 10), (1, 24), (202, 10), (1, 24), (202, 10), (1, 24), (202, 10), (1, 24), (202, 10), (1, 24), (202, 10), (1, 24), (201, 10), (102, 6), (1, 5), (1, 5), (1, 5), (1, 100), (202, 10), (1, 24), (202, 10), (1, 24), (202, 10), (1, 24), (202, 10), (1, 24), (202, 10), (1, 24), (202, 10), (1, 24), (203, 6), (1, 10), (1, 10), (1, 10), (1, 10), (1, 10)]
theorem kA6_14_l : kA6_14.length = 46 := by decide +kernel
def rA6_15 : List (Nat × Nat × Nat) := [(0, 0, 1), (0, 4, 2), (0, 6, 3), (4, 5, 5), (4, 6, 6), (4, 7, 7), (4, 8, 8), (4, 9, 9), (5, 0, 10), (10, 9, 11), (5, 1, 12), (12, 9, 13), (5, 2, 14), (14, 9, 15), (5, 3, 16), (16, 9, 17), (5, 4, 18), (18, 9, 19), (5, 5, 20), (20, 9, 21), (2, 0, 4), (22, 5, 23), (22, 6, 24), (22, 7, 25), (22, 8, 26), (22, 9, 27), (23, 0, 28), (28, 9, 29), (23, 1, 30), (30, 9, 31), (23, 2, 32), (32, 9, 33), (23, 3, 34), (34, 9, 35), (23, 4, 36), (36, 9, 37), (23, 5, 38), (38, 9, 39), (2, 1, 22), (40, 1, 41), (40, 2, 42), (40, 3, 43), (40, 4, 44), (40, 5, 45)]
def rA6_16 : List (Nat × Nat × Nat) := [(0, 0, 1), (0, 4, 2), (0, 6, 3), (4, 5, 5), (4, 6, 6), (4, 7, 7), (4, 8, 8), (4, 9, 9), (5, 0, 10), (10, 9, 11), (5, 1, 12), (12, 9, 13), (5, 2, 14), (14, 9, 15), (5, 3, 16), (16, 9, 17), (5, 4, 18), (18, 9, 19), (5, 5, 20), (20, 9, 21), (2, 0, 4), (22, 5, 23), (22, 6, 24), (22, 7, 25), (22, 8, 26), (22, 9, 27), (23, 0, 28), (28, 9, 29), (23, 1, 30), (30, 9, 31), (23, 2, 32), (32, 9, 33), (23, 3, 34), (34, 9, 35), (23, 4, 36), (36, 9, 37), (23, 5, 38), (38, 9, 39), (2, 1, 22), (40, 1, 41), (40, 2, 42), (40, 3, 43), (40, 4, 44), (40, 5, 45), (3, 0, 40)]
def kA6_17 : List (Nat × Nat) := [(206, 8), (1, 600), (101, 2), (103, 2), (201, 10), (102, 6), (1, 5), (1, 5), (1, 5), (1, 100), (202, 10), (1, 24), (202, 10), (1, 24), (202, 10), (1, 24), (202, 10), (1, 24), (202, 10), (1, 24), (202, 10), (1, 24), (201, 10), (102, 6), (1, 5), (1, 5), (1, 5), (1, 100), (202, 10), (1, 24), (202, 10), (1, 24), (202, 10), (1, 24), (202, 10), (1, 24), (202, 10), (1, 24), (202, 10), (1, 24), (203, 6), (1, 10), (1, 10), (1, 10), (1, 10), (1, 10), (203, 6), (1, 10), (1, 10), (1, 10), (1, 10), (1, 10)]
theorem kA6_17_l : kA6_17.length = 52 := by decide +kernel
def rA6_18 : List (Nat × Nat × Nat) := [(0, 0, 1), (0, 4, 2), (0, 6, 3), (4, 5, 5), (4, 6, 6), (4, 7, 7), (4, 8, 8), (4, 9, 9), (5, 0, 10), (10, 9, 11), (5, 1, 12), (12, 9, 13), (5, 2, 14), (14, 9, 15), (5, 3, 16), (16, 9, 17), (5, 4, 18), (18, 9, 19), (5, 5, 20), (20, 9, 21), (2, 0, 4), (22, 5, 23), (22, 6, 24), (22, 7, 25), (22, 8, 26), (22, 9, 27), (23, 0, 28), (28, 9, 29), (23, 1, 30), (30, 9, 31), (23, 2, 32), (32, 9, 33), (23, 3, 34), (34, 9, 35), (23, 4, 36), (36, 9, 37), (23, 5, 38), (38, 9, 39), (2, 1, 22), (40, 1, 41), (40, 2, 42), (40, 3, 43), (40, 4, 44), (40, 5, 45), (3, 0, 40), (46, 1, 47), (46, 2, 48), (46, 3, 49), (46, 4, 50), (46, 5, 51)]
def rA6_19 : List (Nat × Nat × Nat) := [(0, 0, 1), (0, 4, 2), (0, 6, 3), (4, 5, 5), (4, 6, 6), (4, 7, 7), (4, 8, 8), (4, 9, 9), (5, 0, 10), (10, 9, 11), (5, 1, 12), (12, 9, 13), (5, 2, 14), (14, 9, 15), (5, 3, 16), (16, 9, 17), (5, 4, 18), (18, 9, 19), (5, 5, 20), (20, 9, 21), (2, 0, 4), (22, 5, 23), (22, 6, 24), (22, 7, 25), (22, 8, 26), (22, 9, 27), (23, 0, 28), (28, 9, 29), (23, 1, 30), (30, 9, 31), (23, 2, 32), (32, 9, 33), (23, 3, 34), (34, 9, 35), (23, 4, 36), (36, 9, 37), (23, 5, 38), (38, 9, 39), (2, 1, 22), (40, 1, 41), (40, 2, 42), (40, 3, 43), (40, 4, 44), (40, 5, 45), (3, 0, 40), (46, 1, 47), (46, 2, 48), (46, 3, 49), (46, 4, 50), (46, 5, 51), (3, 1, 46)]
theorem c_X6_init (l : Launch) (G : zG) (h : zH) (a : Nat) (hz : zN h = a + 1) (hk : zK h a = (206, 8)) (h6 : a + 52 ≤ 1000000) (h0 : ∀ j, zI h a j = 0) : CT l G YX6_init 5 51 1386 [va_rf (some a)] h (fun v g => v = none ∧ ∃ zs fv, zPL h g a ks6 rs6 zs fv ∧ (∀ j, zI g a j = if j = 3 then (-1 : Int32) else 0) ∧ ∀ j, zI g (a + 1) j = 0) := by
  refine CT.of (by decide +kernel) (fun t e => by cases e) (Nat.le_of_ble_eq_true rfl) (show Z l G mX6_init 5 _ 51 1386 0 [va_rf (some a), zU] [] h from ?_)
  have p0 : zPL h h a kA6_0 rA6_1 [] (fun _ => 0) := (zPL.ini hz hk h0 (by omega)).to (by decide +kernel) (by decide +kernel) (by decide +kernel)
  refine z_aloadn dX6_init_0 rfl rfl ?_
  refine z_objInit dX6_init_1 w202 w195 w196 (by decide) (Nat.le_of_ble_eq_true rfl) ?_
  refine z_aloadn dX6_init_4 rfl rfl ?_
  refine z_sipush (v := 600) dX6_init_5 (by decide) ?_
  have hzh : zN h = a + 1 := by rw [p0.1, kA6_0_l]
  refine z_newa (k := 50) (n := 786) (N := 600) 0 rfl (by decide) rfl (fun _ _ q => q) rfl (by decide) dX6_init_8 w286 (by decide) (Nat.le_of_ble_eq_true rfl) (by omega) ?_
  rw [hzh]
  refine z_nmG (fun g1 e2 => ?_)
  have p3 : zPL h g1 a kA6_2 rA6_1 [1] (fun _ => 0) := by rw [e2]; exact (p0.al 1 600 (by rw [kA6_0_l]; omega)).to (by decide +kernel) (by decide +kernel) (by decide +kernel)
  clear p0
  refine z_putF (j := 0) zc6 dX6_init_10 (p3.2.1 0 (206, 8) (by decide +kernel)) (by rw [p3.1, kA6_2_l]; omega) (by decide) rfl rfl rfl rfl w392 ?_
  refine z_nmG (fun g4 e5 => ?_)
  have p6 : zPL h g4 a kA6_2 rA6_3 [1] (fun _ => 0) := by rw [e5]; exact (p3.wR 0 0 1 (by decide +kernel) (by decide +kernel)).to (by decide +kernel) (by decide +kernel) (by decide +kernel)
  clear p3
  refine z_aloadn dX6_init_13 rfl rfl ?_
  refine z_iconst (v := (-1)) dX6_init_14 (by decide) ?_
  refine z_putI (j := 3) zc6 dX6_init_15 (p6.2.1 0 (206, 8) (by decide +kernel)) (by rw [p6.1, kA6_2_l]; omega) (by decide) rfl rfl (Or.inl rfl) (Or.inl w398) ?_
  refine z_nmG (fun g7 e8 => ?_)
  have p9 : zPL h g7 a kA6_2 rA6_3 [1] (fun k => if k = 3 then ((-1) : Int32) else (fun _ => 0) k) := by rw [e8]; exact (p6.wI 3 (-1)).to (by decide +kernel) (by decide +kernel) (by decide +kernel)
  clear p6
  refine z_aloadn dX6_init_18 rfl rfl ?_
  refine z_iconst (v := 2) dX6_init_19 (by decide) ?_
  have hzg7 : zN g7 = a + 2 := by rw [p9.1, kA6_2_l]
  refine z_anew (k := 49) (n := 784) (N := 2) 3 rfl (by decide) dX6_init_20 w203 (by decide) (Nat.le_of_ble_eq_true rfl) (by omega) ?_
  rw [hzg7]
  refine z_nmG (fun g10 e11 => ?_)
  have p12 : zPL h g10 a kA6_4 rA6_3 [1, 2] (fun k => if k = 3 then ((-1) : Int32) else (fun _ => 0) k) := by rw [e11]; exact (p9.al 101 2 (by rw [kA6_2_l]; omega)).to (by decide +kernel) (by decide +kernel) (by decide +kernel)
  clear p9
  refine z_putF (j := 4) zc6 dX6_init_23 (p12.2.1 0 (206, 8) (by decide +kernel)) (by rw [p12.1, kA6_4_l]; omega) (by decide) rfl rfl rfl rfl w400 ?_
  refine z_nmG (fun g13 e14 => ?_)
  have p15 : zPL h g13 a kA6_4 rA6_5 [1, 2] (fun k => if k = 3 then ((-1) : Int32) else (fun _ => 0) k) := by rw [e14]; exact (p12.wR 0 4 2 (by decide +kernel) (by decide +kernel)).to (by decide +kernel) (by decide +kernel) (by decide +kernel)
  clear p12
  refine z_aloadn dX6_init_26 rfl rfl ?_
  refine z_iconst (v := 2) dX6_init_27 (by decide) ?_
  have hzg13 : zN g13 = a + 3 := by rw [p15.1, kA6_4_l]
  refine z_anew (k := 48) (n := 782) (N := 2) 5 rfl (by decide) dX6_init_28 w205 (by decide) (Nat.le_of_ble_eq_true rfl) (by omega) ?_
  rw [hzg13]
  refine z_nmG (fun g16 e17 => ?_)
  have p18 : zPL h g16 a kA6_6 rA6_5 [1, 2, 3] (fun k => if k = 3 then ((-1) : Int32) else (fun _ => 0) k) := by rw [e17]; exact (p15.al 103 2 (by rw [kA6_4_l]; omega)).to (by decide +kernel) (by decide +kernel) (by decide +kernel)
  clear p15
  refine z_putF (j := 6) zc6 dX6_init_31 (p18.2.1 0 (206, 8) (by decide +kernel)) (by rw [p18.1, kA6_6_l]; omega) (by decide) rfl rfl rfl rfl w403 ?_
  refine z_nmG (fun g19 e20 => ?_)
  have p21 : zPL h g19 a kA6_6 rA6_7 [1, 2, 3] (fun k => if k = 3 then ((-1) : Int32) else (fun _ => 0) k) := by rw [e20]; exact (p18.wR 0 6 3 (by decide +kernel) (by decide +kernel)).to (by decide +kernel) (by decide +kernel) (by decide +kernel)
  clear p18
  refine z_iconst (v := 0) dX6_init_34 (by decide) ?_
  refine z_istoren (L' := [va_rf (some a), .int 0]) dX6_init_35 rfl (by decide) rfl ?_
  refine z_iloadn dX6_init_36 rfl rfl ?_
  refine z_aloadn dX6_init_37 rfl rfl ?_
  refine z_getRq (j := 4) (x := some (a + 2)) zc6 dX6_init_38 (p21.2.1 0 (206, 8) (by decide +kernel)) (by rw [p21.1, kA6_6_l]; omega) (by decide) rfl w400 (p21.2.2.1 1 (0, 4, 2) (by decide +kernel)).2 ?_
  refine z_alenk (v := 2) 3 rfl (by decide) dX6_init_41 (p21.2.1 2 (101, 2) (by decide +kernel)) (by rw [p21.1, kA6_6_l]; omega) rfl ?_
  refine z_icmp_ge (t := 64) dX6_init_42 (by decide) (fun c22 => absurd c22 (by decide)) (fun _ => ?_)
  refine z_aloadn dX6_init_45 rfl rfl ?_
  refine z_getRq (j := 4) (x := some (a + 2)) zc6 dX6_init_46 (p21.2.1 0 (206, 8) (by decide +kernel)) (by rw [p21.1, kA6_6_l]; omega) (by decide) rfl w400 (p21.2.2.1 1 (0, 4, 2) (by decide +kernel)).2 ?_
  refine z_iloadn dX6_init_49 rfl rfl ?_
  have hzg19 : zN g19 = a + 4 := by rw [p21.1, kA6_6_l]
  refine z_new (k := 47) (n := 772) zc1 dX6_init_50 w203 w207 w171 (by omega) ?_
  rw [hzg19]
  refine z_dup dX6_init_53 rfl ?_
  refine z_callI (k := 30) (n := 447) (mc := 17) (ms := 325) (h := (zal g19 201 10)) (S := [va_rf (some (a + 4)), .int 0, va_rf (some (a + 2))]) (M := mX6_init) (a := a + 4) (As := []) eX1_init rfl rfl w209 (Or.inr ⟨_, w208⟩) dX6_init_54 rfl (by decide) (Nat.le_of_ble_eq_true rfl) (c_X1_init l G (zal g19 201 10) (a + 4) (by show zN g19 + 1 = _; rw [hzg19]) (by rw [← hzg19]; exact zK_al) (by omega) (fun j => by rw [← hzg19]; exact zI_aln)) (fun v24 g25 q26 => ?_)
  obtain ⟨rfl, zsq26, fvq26, q26⟩ := q26
  rw [← hzg19] at q26
  have p27 : zPL h g25 a kA6_8 rA6_9 [1, 2, 3] (fun k => if k = 3 then ((-1) : Int32) else (fun _ => 0) k) := (p21.sub q26).to (by decide +kernel) (by decide +kernel) (by decide +kernel)
  clear p21
  show Z l G _ _ _ _ _ 57 _ (va_rf (some (a + 4)) :: .int 0 :: va_rf (some (a + 2)) :: []) _
  refine z_aast (N := 2) (N2 := 10) 3 rfl (by decide) (show zcl[1]? = some _ from rfl) dX6_init_57 (p27.2.1 2 (101, 2) (by decide +kernel)) (by rw [p27.1, kA6_8_l]; omega) (p27.2.1 4 (201, 10) (by decide +kernel)) (by rw [p27.1, kA6_8_l]; omega) (by decide) (by decide) ?_
  refine z_nmG (fun g28 e29 => ?_)
  have p30 : zPL h g28 a kA6_8 rA6_10 [1, 2, 3] (fun k => if k = 3 then ((-1) : Int32) else (fun _ => 0) k) := by rw [e29]; exact (p27.wR 2 0 4 (by decide +kernel) (by decide +kernel)).to (by decide +kernel) (by decide +kernel) (by decide +kernel)
  clear p27
  refine z_iinc (v := 1) (L' := [va_rf (some a), .int 1]) dX6_init_58 (by decide) rfl rfl rfl ?_
  refine z_goto (t := 36) dX6_init_61 (by decide) ?_
  refine z_iloadn dX6_init_36 rfl rfl ?_
  refine z_aloadn dX6_init_37 rfl rfl ?_
  refine z_getRq (j := 4) (x := some (a + 2)) zc6 dX6_init_38 (p30.2.1 0 (206, 8) (by decide +kernel)) (by rw [p30.1, kA6_8_l]; omega) (by decide) rfl w400 (p30.2.2.1 1 (0, 4, 2) (by decide +kernel)).2 ?_
  refine z_alenk (v := 2) 3 rfl (by decide) dX6_init_41 (p30.2.1 2 (101, 2) (by decide +kernel)) (by rw [p30.1, kA6_8_l]; omega) rfl ?_
  refine z_icmp_ge (t := 64) dX6_init_42 (by decide) (fun c31 => absurd c31 (by decide)) (fun _ => ?_)
  refine z_aloadn dX6_init_45 rfl rfl ?_
  refine z_getRq (j := 4) (x := some (a + 2)) zc6 dX6_init_46 (p30.2.1 0 (206, 8) (by decide +kernel)) (by rw [p30.1, kA6_8_l]; omega) (by decide) rfl w400 (p30.2.2.1 1 (0, 4, 2) (by decide +kernel)).2 ?_
  refine z_iloadn dX6_init_49 rfl rfl ?_
  have hzg28 : zN g28 = a + 22 := by rw [p30.1, kA6_8_l]
  refine z_new (k := 29) (n := 437) zc1 dX6_init_50 w203 w207 w171 (by omega) ?_
  rw [hzg28]
  refine z_dup dX6_init_53 rfl ?_
  refine z_callI (k := 12) (n := 112) (mc := 17) (ms := 325) (h := (zal g28 201 10)) (S := [va_rf (some (a + 22)), .int 1, va_rf (some (a + 2))]) (M := mX6_init) (a := a + 22) (As := []) eX1_init rfl rfl w209 (Or.inr ⟨_, w208⟩) dX6_init_54 rfl (by decide) (Nat.le_of_ble_eq_true rfl) (c_X1_init l G (zal g28 201 10) (a + 22) (by show zN g28 + 1 = _; rw [hzg28]) (by rw [← hzg28]; exact zK_al) (by omega) (fun j => by rw [← hzg28]; exact zI_aln)) (fun v33 g34 q35 => ?_)
  obtain ⟨rfl, zsq35, fvq35, q35⟩ := q35
  rw [← hzg28] at q35
  have p36 : zPL h g34 a kA6_11 rA6_12 [1, 2, 3] (fun k => if k = 3 then ((-1) : Int32) else (fun _ => 0) k) := (p30.sub q35).to (by decide +kernel) (by decide +kernel) (by decide +kernel)
  clear p30
  show Z l G _ _ _ _ _ 57 _ (va_rf (some (a + 22)) :: .int 1 :: va_rf (some (a + 2)) :: []) _
  refine z_aast (N := 2) (N2 := 10) 3 rfl (by decide) (show zcl[1]? = some _ from rfl) dX6_init_57 (p36.2.1 2 (101, 2) (by decide +kernel)) (by rw [p36.1, kA6_11_l]; omega) (p36.2.1 22 (201, 10) (by decide +kernel)) (by rw [p36.1, kA6_11_l]; omega) (by decide) (by decide) ?_
  refine z_nmG (fun g37 e38 => ?_)
  have p39 : zPL h g37 a kA6_11 rA6_13 [1, 2, 3] (fun k => if k = 3 then ((-1) : Int32) else (fun _ => 0) k) := by rw [e38]; exact (p36.wR 2 1 22 (by decide +kernel) (by decide +kernel)).to (by decide +kernel) (by decide +kernel) (by decide +kernel)
  clear p36
  refine z_iinc (v := 2) (L' := [va_rf (some a), .int 2]) dX6_init_58 (by decide) rfl rfl rfl ?_
  refine z_goto (t := 36) dX6_init_61 (by decide) ?_
  refine z_iloadn dX6_init_36 rfl rfl ?_
  refine z_aloadn dX6_init_37 rfl rfl ?_
  refine z_getRq (j := 4) (x := some (a + 2)) zc6 dX6_init_38 (p39.2.1 0 (206, 8) (by decide +kernel)) (by rw [p39.1, kA6_11_l]; omega) (by decide) rfl w400 (p39.2.2.1 1 (0, 4, 2) (by decide +kernel)).2 ?_
  refine z_alenk (v := 2) 3 rfl (by decide) dX6_init_41 (p39.2.1 2 (101, 2) (by decide +kernel)) (by rw [p39.1, kA6_11_l]; omega) rfl ?_
  refine z_icmp_ge (t := 64) dX6_init_42 (by decide) (fun _ => ?_) (fun c40 => absurd c40 (by decide))
  refine z_iconst (v := 0) dX6_init_64 (by decide) ?_
  refine z_istoren (L' := [va_rf (some a), .int 0]) dX6_init_65 rfl (by decide) rfl ?_
  refine z_iloadn dX6_init_66 rfl rfl ?_
  refine z_aloadn dX6_init_67 rfl rfl ?_
  refine z_getRq (j := 6) (x := some (a + 3)) zc6 dX6_init_68 (p39.2.1 0 (206, 8) (by decide +kernel)) (by rw [p39.1, kA6_11_l]; omega) (by decide) rfl w403 (p39.2.2.1 2 (0, 6, 3) (by decide +kernel)).2 ?_
  refine z_alenk (v := 2) 5 rfl (by decide) dX6_init_71 (p39.2.1 3 (103, 2) (by decide +kernel)) (by rw [p39.1, kA6_11_l]; omega) rfl ?_
  refine z_icmp_ge (t := 94) dX6_init_72 (by decide) (fun c41 => absurd c41 (by decide)) (fun _ => ?_)
  refine z_aloadn dX6_init_75 rfl rfl ?_
  refine z_getRq (j := 6) (x := some (a + 3)) zc6 dX6_init_76 (p39.2.1 0 (206, 8) (by decide +kernel)) (by rw [p39.1, kA6_11_l]; omega) (by decide) rfl w403 (p39.2.2.1 2 (0, 6, 3) (by decide +kernel)).2 ?_
  refine z_iloadn dX6_init_79 rfl rfl ?_
  have hzg37 : zN g37 = a + 40 := by rw [p39.1, kA6_11_l]
  refine z_new (k := 11) (n := 106) zc3 dX6_init_80 w205 w355 w174 (by omega) ?_
  rw [hzg37]
  refine z_dup dX6_init_83 rfl ?_
  refine z_callI (k := 6) (n := 56) (mc := 5) (ms := 50) (h := (zal g37 203 6)) (S := [va_rf (some (a + 40)), .int 0, va_rf (some (a + 3))]) (M := mX6_init) (a := a + 40) (As := []) eX3_init rfl rfl w357 (Or.inr ⟨_, w356⟩) dX6_init_84 rfl (by decide) (Nat.le_of_ble_eq_true rfl) (c_X3_init l G (zal g37 203 6) (a + 40) (by show zN g37 + 1 = _; rw [hzg37]) (by rw [← hzg37]; exact zK_al) (by omega) (fun j => by rw [← hzg37]; exact zI_aln)) (fun v43 g44 q45 => ?_)
  obtain ⟨rfl, zsq45, fvq45, q45⟩ := q45
  rw [← hzg37] at q45
  have p46 : zPL h g44 a kA6_14 rA6_15 [1, 2, 3] (fun k => if k = 3 then ((-1) : Int32) else (fun _ => 0) k) := (p39.sub q45).to (by decide +kernel) (by decide +kernel) (by decide +kernel)
  clear p39
  show Z l G _ _ _ _ _ 87 _ (va_rf (some (a + 40)) :: .int 0 :: va_rf (some (a + 3)) :: []) _
  refine z_aast (N := 2) (N2 := 6) 5 rfl (by decide) (show zcl[3]? = some _ from rfl) dX6_init_87 (p46.2.1 3 (103, 2) (by decide +kernel)) (by rw [p46.1, kA6_14_l]; omega) (p46.2.1 40 (203, 6) (by decide +kernel)) (by rw [p46.1, kA6_14_l]; omega) (by decide) (by decide) ?_
  refine z_nmG (fun g47 e48 => ?_)
  have p49 : zPL h g47 a kA6_14 rA6_16 [1, 2, 3] (fun k => if k = 3 then ((-1) : Int32) else (fun _ => 0) k) := by rw [e48]; exact (p46.wR 3 0 40 (by decide +kernel) (by decide +kernel)).to (by decide +kernel) (by decide +kernel) (by decide +kernel)
  clear p46
  refine z_iinc (v := 1) (L' := [va_rf (some a), .int 1]) dX6_init_88 (by decide) rfl rfl rfl ?_
  refine z_goto (t := 66) dX6_init_91 (by decide) ?_
  refine z_iloadn dX6_init_66 rfl rfl ?_
  refine z_aloadn dX6_init_67 rfl rfl ?_
  refine z_getRq (j := 6) (x := some (a + 3)) zc6 dX6_init_68 (p49.2.1 0 (206, 8) (by decide +kernel)) (by rw [p49.1, kA6_14_l]; omega) (by decide) rfl w403 (p49.2.2.1 2 (0, 6, 3) (by decide +kernel)).2 ?_
  refine z_alenk (v := 2) 5 rfl (by decide) dX6_init_71 (p49.2.1 3 (103, 2) (by decide +kernel)) (by rw [p49.1, kA6_14_l]; omega) rfl ?_
  refine z_icmp_ge (t := 94) dX6_init_72 (by decide) (fun c50 => absurd c50 (by decide)) (fun _ => ?_)
  refine z_aloadn dX6_init_75 rfl rfl ?_
  refine z_getRq (j := 6) (x := some (a + 3)) zc6 dX6_init_76 (p49.2.1 0 (206, 8) (by decide +kernel)) (by rw [p49.1, kA6_14_l]; omega) (by decide) rfl w403 (p49.2.2.1 2 (0, 6, 3) (by decide +kernel)).2 ?_
  refine z_iloadn dX6_init_79 rfl rfl ?_
  have hzg47 : zN g47 = a + 46 := by rw [p49.1, kA6_14_l]
  refine z_new (k := 5) (n := 50) zc3 dX6_init_80 w205 w355 w174 (by omega) ?_
  rw [hzg47]
  refine z_dup dX6_init_83 rfl ?_
  refine z_callI (k := 0) (n := 0) (mc := 5) (ms := 50) (h := (zal g47 203 6)) (S := [va_rf (some (a + 46)), .int 1, va_rf (some (a + 3))]) (M := mX6_init) (a := a + 46) (As := []) eX3_init rfl rfl w357 (Or.inr ⟨_, w356⟩) dX6_init_84 rfl (by decide) (Nat.le_of_ble_eq_true rfl) (c_X3_init l G (zal g47 203 6) (a + 46) (by show zN g47 + 1 = _; rw [hzg47]) (by rw [← hzg47]; exact zK_al) (by omega) (fun j => by rw [← hzg47]; exact zI_aln)) (fun v52 g53 q54 => ?_)
  obtain ⟨rfl, zsq54, fvq54, q54⟩ := q54
  rw [← hzg47] at q54
  have p55 : zPL h g53 a kA6_17 rA6_18 [1, 2, 3] (fun k => if k = 3 then ((-1) : Int32) else (fun _ => 0) k) := (p49.sub q54).to (by decide +kernel) (by decide +kernel) (by decide +kernel)
  clear p49
  show Z l G _ _ _ _ _ 87 _ (va_rf (some (a + 46)) :: .int 1 :: va_rf (some (a + 3)) :: []) _
  refine z_aast (N := 2) (N2 := 6) 5 rfl (by decide) (show zcl[3]? = some _ from rfl) dX6_init_87 (p55.2.1 3 (103, 2) (by decide +kernel)) (by rw [p55.1, kA6_17_l]; omega) (p55.2.1 46 (203, 6) (by decide +kernel)) (by rw [p55.1, kA6_17_l]; omega) (by decide) (by decide) ?_
  refine z_nmG (fun g56 e57 => ?_)
  have p58 : zPL h g56 a kA6_17 rA6_19 [1, 2, 3] (fun k => if k = 3 then ((-1) : Int32) else (fun _ => 0) k) := by rw [e57]; exact (p55.wR 3 1 46 (by decide +kernel) (by decide +kernel)).to (by decide +kernel) (by decide +kernel) (by decide +kernel)
  clear p55
  refine z_iinc (v := 2) (L' := [va_rf (some a), .int 2]) dX6_init_88 (by decide) rfl rfl rfl ?_
  refine z_goto (t := 66) dX6_init_91 (by decide) ?_
  refine z_iloadn dX6_init_66 rfl rfl ?_
  refine z_aloadn dX6_init_67 rfl rfl ?_
  refine z_getRq (j := 6) (x := some (a + 3)) zc6 dX6_init_68 (p58.2.1 0 (206, 8) (by decide +kernel)) (by rw [p58.1, kA6_17_l]; omega) (by decide) rfl w403 (p58.2.2.1 2 (0, 6, 3) (by decide +kernel)).2 ?_
  refine z_alenk (v := 2) 5 rfl (by decide) dX6_init_71 (p58.2.1 3 (103, 2) (by decide +kernel)) (by rw [p58.1, kA6_17_l]; omega) rfl ?_
  refine z_icmp_ge (t := 94) dX6_init_72 (by decide) (fun _ => ?_) (fun c59 => absurd c59 (by decide))
  exact z_ret (v := none) dX6_init_94 rfl rfl ⟨rfl, [1, 2, 3], (fun k => if k = 3 then ((-1) : Int32) else (fun _ => 0) k), p58.to (by decide +kernel) (by decide +kernel) (by decide +kernel), fun j => p58.2.2.2.2.1 j, fun j => (p58.2.2.2.1 0 _ rfl).2 j⟩

def kA7_0 : List (Nat × Nat) := [(207, 8)]
theorem kA7_0_l : kA7_0.length = 1 := by decide +kernel
def rA7_1 : List (Nat × Nat × Nat) := []
def kA7_2 : List (Nat × Nat) := [(207, 8), (1, 5)]
theorem kA7_2_l : kA7_2.length = 2 := by decide +kernel
def rA7_3 : List (Nat × Nat × Nat) := [(0, 2, 1)]
def kA7_4 : List (Nat × Nat) := [(207, 8), (1, 5), (1, 5)]
theorem kA7_4_l : kA7_4.length = 3 := by decide +kernel
def rA7_5 : List (Nat × Nat × Nat) := [(0, 2, 1), (0, 5, 2)]
def kA7_6 : List (Nat × Nat) := [(207, 8), (1, 5), (1, 5), (99, 6)]
theorem kA7_6_l : kA7_6.length = 4 := by decide +kernel
def kA7_7 : List (Nat × Nat) := [(207, 8), (1, 5), (1, 5), (99, 6), (1, 64)]
theorem kA7_7_l : kA7_7.length = 5 := by decide +kernel
def rA7_8 : List (Nat × Nat × Nat) := [(0, 2, 1), (0, 5, 2), (3, 0, 4)]
def kA7_9 : List (Nat × Nat) := [(207, 8), (1, 5), (1, 5), (99, 6), (1, 64), (1, 64)]
theorem kA7_9_l : kA7_9.length = 6 := by decide +kernel
def rA7_10 : List (Nat × Nat × Nat) := [(0, 2, 1), (0, 5, 2), (3, 0, 4), (3, 1, 5)]
def kA7_11 : List (Nat × Nat) := [(207, 8), (1, 5), (1, 5), (99, 6), (1, 64), (1, 64), (1, 64)]
theorem kA7_11_l : kA7_11.length = 7 := by decide +kernel
def rA7_12 : List (Nat × Nat × Nat) := [(0, 2, 1), (0, 5, 2), (3, 0, 4), (3, 1, 5), (3, 2, 6)]
def kA7_13 : List (Nat × Nat) := [(207, 8), (1, 5), (1, 5), (99, 6), (1, 64), (1, 64), (1, 64), (1, 64)]
theorem kA7_13_l : kA7_13.length = 8 := by decide +kernel
def rA7_14 : List (Nat × Nat × Nat) := [(0, 2, 1), (0, 5, 2), (3, 0, 4), (3, 1, 5), (3, 2, 6), (3, 3, 7)]
def kA7_15 : List (Nat × Nat) := [(207, 8), (1, 5), (1, 5), (99, 6), (1, 64), (1, 64), (1, 64), (1, 64), (1, 64)]
theorem kA7_15_l : kA7_15.length = 9 := by decide +kernel
def rA7_16 : List (Nat × Nat × Nat) := [(0, 2, 1), (0, 5, 2), (3, 0, 4), (3, 1, 5), (3, 2, 6), (3, 3, 7), (3, 4, 8)]
def kA7_17 : List (Nat × Nat) := [(207, 8), (1, 5), (1, 5), (99, 6), (1, 64), (1, 64), (1, 64), (1, 64), (1, 64), (1, 64)]
theorem kA7_17_l : kA7_17.length = 10 := by decide +kernel
def rA7_18 : List (Nat × Nat × Nat) := [(0, 2, 1), (0, 5, 2), (3, 0, 4), (3, 1, 5), (3, 2, 6), (3, 3, 7), (3, 4, 8), (3, 5, 9)]
def rA7_19 : List (Nat × Nat × Nat) := [(0, 2, 1), (0, 5, 2), (3, 0, 4), (3, 1, 5), (3, 2, 6), (3, 3, 7), (3, 4, 8), (3, 5, 9), (0, 6, 3)]
def kA7_20 : List (Nat × Nat) := [(207, 8), (1, 5), (1, 5), (99, 6), (1, 64), (1, 64), (1, 64), (1, 64), (1, 64), (1, 64), (209, 10), (1, 40), (1, 2624), (1, 128)]
theorem kA7_20_l : kA7_20.length = 14 := by decide +kernel
def rA7_21 : List (Nat × Nat × Nat) := [(0, 2, 1), (0, 5, 2), (3, 0, 4), (3, 1, 5), (3, 2, 6), (3, 3, 7), (3, 4, 8), (3, 5, 9), (0, 6, 3), (10, 2, 11), (10, 8, 12), (10, 9, 13)]
def rA7_22 : List (Nat × Nat × Nat) := [(0, 2, 1), (0, 5, 2), (3, 0, 4), (3, 1, 5), (3, 2, 6), (3, 3, 7), (3, 4, 8), (3, 5, 9), (0, 6, 3), (10, 2, 11), (10, 8, 12), (10, 9, 13), (0, 7, 10)]
theorem c_X7_init (l : Launch) (G : zG) (h : zH) (a : Nat) (hz : zN h = a + 1) (hk : zK h a = (207, 8)) (h6 : a + 14 ≤ 1000000) (h0 : ∀ j, zI h a j = 0) : CT l G YX7_init 3 13 3202 [va_rf (some a)] h (fun v g => v = none ∧ ∃ zs fv, zPL h g a ks7 rs7 zs fv) := by
  refine CT.of (by decide +kernel) (fun t e => by cases e) (Nat.le_of_ble_eq_true rfl) (show Z l G mX7_init 3 _ 13 3202 0 [va_rf (some a)] [] h from ?_)
  have p0 : zPL h h a kA7_0 rA7_1 [] (fun _ => 0) := (zPL.ini hz hk h0 (by omega)).to (by decide +kernel) (by decide +kernel) (by decide +kernel)
  refine z_aloadn dX7_init_0 rfl rfl ?_
  refine z_objInit dX7_init_1 w612 w195 w196 (by decide) (Nat.le_of_ble_eq_true rfl) ?_
  refine z_aloadn dX7_init_4 rfl rfl ?_
  refine z_iconst (v := 5) dX7_init_5 (by decide) ?_
  have hzh : zN h = a + 1 := by rw [p0.1, kA7_0_l]
  refine z_newa (k := 12) (n := 3197) (N := 5) 0 rfl (by decide) rfl (fun _ _ q => q) rfl (by decide) dX7_init_6 w286 (by decide) (Nat.le_of_ble_eq_true rfl) (by omega) ?_
  rw [hzh]
  refine z_nmG (fun g1 e2 => ?_)
  have p3 : zPL h g1 a kA7_2 rA7_1 [1] (fun _ => 0) := by rw [e2]; exact (p0.al 1 5 (by rw [kA7_0_l]; omega)).to (by decide +kernel) (by decide +kernel) (by decide +kernel)
  clear p0
  refine z_putF (j := 2) zc7 dX7_init_8 (p3.2.1 0 (207, 8) (by decide +kernel)) (by rw [p3.1, kA7_2_l]; omega) (by decide) rfl rfl rfl rfl w621 ?_
  refine z_nmG (fun g4 e5 => ?_)
  have p6 : zPL h g4 a kA7_2 rA7_3 [1] (fun _ => 0) := by rw [e5]; exact (p3.wR 0 2 1 (by decide +kernel) (by decide +kernel)).to (by decide +kernel) (by decide +kernel) (by decide +kernel)
  clear p3
  refine z_aloadn dX7_init_11 rfl rfl ?_
  refine z_iconst (v := 5) dX7_init_12 (by decide) ?_
  have hzg4 : zN g4 = a + 2 := by rw [p6.1, kA7_2_l]
  refine z_newa (k := 11) (n := 3192) (N := 5) 0 rfl (by decide) rfl (fun _ _ q => q) rfl (by decide) dX7_init_13 w286 (by decide) (Nat.le_of_ble_eq_true rfl) (by omega) ?_
  rw [hzg4]
  refine z_nmG (fun g7 e8 => ?_)
  have p9 : zPL h g7 a kA7_4 rA7_3 [1, 2] (fun _ => 0) := by rw [e8]; exact (p6.al 1 5 (by rw [kA7_2_l]; omega)).to (by decide +kernel) (by decide +kernel) (by decide +kernel)
  clear p6
  refine z_putF (j := 5) zc7 dX7_init_15 (p9.2.1 0 (207, 8) (by decide +kernel)) (by rw [p9.1, kA7_4_l]; omega) (by decide) rfl rfl rfl rfl w625 ?_
  refine z_nmG (fun g10 e11 => ?_)
  have p12 : zPL h g10 a kA7_4 rA7_5 [1, 2] (fun _ => 0) := by rw [e11]; exact (p9.wR 0 5 2 (by decide +kernel) (by decide +kernel)).to (by decide +kernel) (by decide +kernel) (by decide +kernel)
  clear p9
  refine z_aloadn dX7_init_18 rfl rfl ?_
  refine z_bipush (v := 6) dX7_init_19 (by decide) ?_
  refine z_bipush (v := 64) dX7_init_21 (by decide) ?_
  have hzg10 : zN g10 = a + 3 := by rw [p12.1, kA7_4_l]
  refine z_mna (k := 4) (n := 2802) (N := 6) (K := 64) dX7_init_23 w613 w286 (by decide) (by decide) (by decide) (by decide) (by omega) ?_
  rw [hzg10]
  have p14 : zPL h (zal g10 99 6) a kA7_6 rA7_5 [1, 2, 3] (fun _ => 0) := (p12.al 99 6 (by rw [kA7_4_l]; omega)).to (by decide +kernel) (by decide +kernel) (by decide +kernel)
  clear p12
  have q16 := (p14.al 1 64 (by rw [kA7_6_l]; omega)).wR 3 0 4 (by decide +kernel) (by decide +kernel)
  rw [← hzg10, show a + 4 = zN g10 + 1 + 0 by rw [hzg10]] at q16
  have p15 : zPL h (zmf g10 6 64 1) a kA7_7 rA7_8 [1, 2, 3, 4] (fun _ => 0) := (q16).to (by decide +kernel) (by decide +kernel) (by decide +kernel)
  clear p14 q16
  have q18 := (p15.al 1 64 (by rw [kA7_7_l]; omega)).wR 3 1 5 (by decide +kernel) (by decide +kernel)
  rw [← hzg10, show a + 5 = zN g10 + 1 + 1 by rw [hzg10]] at q18
  have p17 : zPL h (zmf g10 6 64 2) a kA7_9 rA7_10 [1, 2, 3, 4, 5] (fun _ => 0) := (q18).to (by decide +kernel) (by decide +kernel) (by decide +kernel)
  clear p15 q18
  have q20 := (p17.al 1 64 (by rw [kA7_9_l]; omega)).wR 3 2 6 (by decide +kernel) (by decide +kernel)
  rw [← hzg10, show a + 6 = zN g10 + 1 + 2 by rw [hzg10]] at q20
  have p19 : zPL h (zmf g10 6 64 3) a kA7_11 rA7_12 [1, 2, 3, 4, 5, 6] (fun _ => 0) := (q20).to (by decide +kernel) (by decide +kernel) (by decide +kernel)
  clear p17 q20
  have q22 := (p19.al 1 64 (by rw [kA7_11_l]; omega)).wR 3 3 7 (by decide +kernel) (by decide +kernel)
  rw [← hzg10, show a + 7 = zN g10 + 1 + 3 by rw [hzg10]] at q22
  have p21 : zPL h (zmf g10 6 64 4) a kA7_13 rA7_14 [1, 2, 3, 4, 5, 6, 7] (fun _ => 0) := (q22).to (by decide +kernel) (by decide +kernel) (by decide +kernel)
  clear p19 q22
  have q24 := (p21.al 1 64 (by rw [kA7_13_l]; omega)).wR 3 4 8 (by decide +kernel) (by decide +kernel)
  rw [← hzg10, show a + 8 = zN g10 + 1 + 4 by rw [hzg10]] at q24
  have p23 : zPL h (zmf g10 6 64 5) a kA7_15 rA7_16 [1, 2, 3, 4, 5, 6, 7, 8] (fun _ => 0) := (q24).to (by decide +kernel) (by decide +kernel) (by decide +kernel)
  clear p21 q24
  have q26 := (p23.al 1 64 (by rw [kA7_15_l]; omega)).wR 3 5 9 (by decide +kernel) (by decide +kernel)
  rw [← hzg10, show a + 9 = zN g10 + 1 + 5 by rw [hzg10]] at q26
  have p25 : zPL h (zmf g10 6 64 6) a kA7_17 rA7_18 [1, 2, 3, 4, 5, 6, 7, 8, 9] (fun _ => 0) := (q26).to (by decide +kernel) (by decide +kernel) (by decide +kernel)
  clear p23 q26
  refine z_nmG (fun g13 e27 => ?_)
  have p28 : zPL h g13 a kA7_17 rA7_18 [1, 2, 3, 4, 5, 6, 7, 8, 9] (fun _ => 0) := by rw [e27]; exact (p25).to (by decide +kernel) (by decide +kernel) (by decide +kernel)
  clear p25
  refine z_putF (j := 6) zc7 dX7_init_27 (p28.2.1 0 (207, 8) (by decide +kernel)) (by rw [p28.1, kA7_17_l]; omega) (by decide) rfl rfl rfl rfl w626 ?_
  refine z_nmG (fun g29 e30 => ?_)
  have p31 : zPL h g29 a kA7_17 rA7_19 [1, 2, 3, 4, 5, 6, 7, 8, 9] (fun _ => 0) := by rw [e30]; exact (p28.wR 0 6 3 (by decide +kernel) (by decide +kernel)).to (by decide +kernel) (by decide +kernel) (by decide +kernel)
  clear p28
  refine z_aloadn dX7_init_30 rfl rfl ?_
  have hzg29 : zN g29 = a + 10 := by rw [p31.1, kA7_17_l]
  refine z_new (k := 3) (n := 2792) zc9 dX7_init_31 w615 w536 w177 (by omega) ?_
  rw [hzg29]
  refine z_dup dX7_init_34 rfl ?_
  refine z_callI (k := 0) (n := 0) (mc := 3) (ms := 2792) (h := (zal g29 209 10)) (S := [va_rf (some (a + 10)), va_rf (some a)]) (M := mX7_init) (a := a + 10) (As := []) eX9_init rfl rfl w538 (Or.inr ⟨_, w616⟩) dX7_init_35 rfl (by decide) (Nat.le_of_ble_eq_true rfl) (c_X9_init l G (zal g29 209 10) (a + 10) (by show zN g29 + 1 = _; rw [hzg29]) (by rw [← hzg29]; exact zK_al) (by omega) (fun j => by rw [← hzg29]; exact zI_aln)) (fun v33 g34 q35 => ?_)
  obtain ⟨rfl, zsq35, fvq35, q35⟩ := q35
  rw [← hzg29] at q35
  have p36 : zPL h g34 a kA7_20 rA7_21 [1, 2, 3, 4, 5, 6, 7, 8, 9] (fun _ => 0) := (p31.sub q35).to (by decide +kernel) (by decide +kernel) (by decide +kernel)
  clear p31
  show Z l G _ _ _ _ _ 38 _ (va_rf (some (a + 10)) :: va_rf (some a) :: []) _
  refine z_putF (j := 7) zc7 dX7_init_38 (p36.2.1 0 (207, 8) (by decide +kernel)) (by rw [p36.1, kA7_20_l]; omega) (by decide) rfl rfl rfl rfl w627 ?_
  refine z_nmG (fun g37 e38 => ?_)
  have p39 : zPL h g37 a kA7_20 rA7_22 [1, 2, 3, 4, 5, 6, 7, 8, 9] (fun _ => 0) := by rw [e38]; exact (p36.wR 0 7 10 (by decide +kernel) (by decide +kernel)).to (by decide +kernel) (by decide +kernel) (by decide +kernel)
  clear p36
  exact z_ret (v := none) dX7_init_41 rfl rfl ⟨rfl, [1, 2, 3, 4, 5, 6, 7, 8, 9], (fun _ => 0), p39.to (by decide +kernel) (by decide +kernel) (by decide +kernel)⟩
