set_option maxRecDepth 4000
theorem c_footStep {h0 h : zH} {st : PS} {p t : Nat} {x1 w y v add : Int32} {A B C D : Nat → Nat → Int32} (r : MPr h st) (g : Nat → Nat → Int32) (gt : MGt h g) (hg : ∀ q j, j < 4 → g q j = if q = p ∧ j = 0 then st.g q j + 1 else st.g q j) (ht : t < st.n) (hp : x1.toInt = (p : Int)) (h6 : p < 6) (hy : y.toInt = (t : Int)) (e0 : h0.2 = h.2) (o0 : OnlyP h0 h.1)
    (ev : v = imax (st.P t 4) w) (ea : add = if st.P t 6 = Int32.ofNat p then 0 else 1) (cA : A = (zwI h (313 + 11) (zix y) v).1) (cB : B = (zwI (A, h.2) (313 + 14) (zix y) ((zI (A, h.2) (313 + 14) (zix y)) ||| ((1 : Int32) <<< (x1 &&& 31)))).1) (cC : C = (zwI (B, h.2) (313 + 15) (zix ((4 * x1) + 2)) ((zI (B, h.2) (313 + 15) (zix ((4 * x1) + 2))) + 1)).1) (cD : D = (zwI (C, h.2) (313 + 15) (zix ((4 * x1) + 3)) ((zI (C, h.2) (313 + 15) (zix ((4 * x1) + 3))) + add)).1) :
    (fun (v : Option Value) h1 => ∃ J, v = none ∧ h1 = (J, h0.2) ∧ (OnlyP h0 J ∧ MPr (J, h0.2) (stepS st p t w) ∧ MGt (J, h0.2) (stepS st p t w).g)) none (D, h.2) := by
  rw [zix_of hy] at cA cB
  rw [zix_of (m4 (c := 2) (j := 2) hp h6 rfl (by decide))] at cC
  rw [zix_of (m4 (c := 3) (j := 3) hp h6 rfl (by decide))] at cD
  obtain ⟨a1, a2, a3⟩ := zwI_eff cA
  obtain ⟨b1, b2, b3⟩ := zwI_eff cB
  have gA : MGt (A, h.2) g := gt.cg (a1 328 (by decide))
  have gB : MGt (B, h.2) g := MGt.cg (h := (A, h.2)) gA (b1 328 (by decide))
  obtain ⟨y1, q1⟩ := MGt.up (h := (B, h.2)) (a := 1) gB h6 (by decide : 2 < 4) rfl rfl cC
  obtain ⟨y2, q2⟩ := MGt.up (h := (C, h.2)) (a := add) q1 h6 (by decide : 3 < 4) rfl rfl cD
  have out : ∀ b, b ≠ 324 → b ≠ 327 → b ≠ 328 → D b = h.1 b := fun b h1 h2 h3 => (y2 b h3).trans ((y1 b h3).trans ((b1 b h2).trans (a1 b h1)))
  rw [e0]
  refine ⟨D, rfl, rfl, ⟨fun b h1 h2 => (out b (by omega) (by omega) (by omega)).trans (o0.1 b h1 h2), fun k hk => (congrFun (out 313 (by decide) (by decide) (by decide)) k).trans (o0.2 k hk)⟩, ⟨by show (D 313 23).toInt = _; rw [out 313 (by decide) (by decide) (by decide)]; exact r.1, fun k hk j hj => ?_⟩, ?_⟩
  · show D (320 + j) k = (if k = t then upR (st.P k) (imax (st.P k 4) w) (st.P k 7 ||| bit1 p) else st.P k) j
    have old := r.2 k hk j hj
    have e2 : D (320 + j) = B (320 + j) := (y2 _ (by omega)).trans (y1 _ (by omega))
    rw [e2]
    by_cases z : k = t
    · rw [if_pos z]
      unfold upR
      by_cases z4 : j = 4
      · subst z4
        rw [if_pos rfl]
        show B 324 k = _
        rw [show B 324 = A 324 from b1 324 (by decide), z]
        exact a3.trans ev
      · rw [if_neg z4]
        by_cases z7 : j = 7
        · subst z7
          rw [if_pos rfl]
          show B 327 k = _
          rw [z, bit1_of hp] at *
          have o7 : A 327 t = st.P t 7 := (congrFun (a1 327 (by decide)) t).trans old
          exact b3.trans (congrArg (· ||| bit1 p) o7)
        · rw [if_neg z7]
          exact (congrFun (b1 (320 + j) (by omega)) k).trans ((congrFun (a1 (320 + j) (by omega)) k).trans old)
    · rw [if_neg z]
      by_cases z4 : j = 4
      · subst z4
        exact (congrFun (b1 324 (by decide)) k).trans ((a2 k z).trans old)
      · by_cases z7 : j = 7
        · subst z7
          exact (b2 k z).trans ((congrFun (a1 327 (by decide)) k).trans old)
        · exact (congrFun (b1 (320 + j) (by omega)) k).trans ((congrFun (a1 (320 + j) (by omega)) k).trans old)
  · refine q2.eq (fun q j hj => ?_)
    show gup st.g p 0 1 (if st.P t 6 = Int32.ofNat p then 0 else 1) q j = if q = p ∧ j = 3 then (if q = p ∧ j = 2 then g q j + 1 else g q j) + add else (if q = p ∧ j = 2 then g q j + 1 else g q j)
    rw [hg q j hj, ← ea]
    unfold gup
    by_cases e : q = p
    · rw [if_pos e]
      match j, hj with
      | 0, _ => simp [e]
      | 1, _ => simp [e]
      | 2, _ => simp [e]
      | 3, _ => simp [e]
      | k + 4, z => omega
    · simp [e]
theorem c_foot (l : Launch) (G : zG) (h : zH) (n : Nat) (V : Nat → Int) (al : Int) (st : PS) (P m : Nat) (x1 x2 : Int32) (hl : lo11 h 313) (w : WFN V) (mn : MN h n V) (hP : (P : Int) < V 3) (hp : x1.toInt = (P : Int)) (hm : x2.toInt = (m : Int)) (hm9 : m < 100) (r : MPr h st) (gt : MGt h st.g) (ok : okS V st) (hn : st.n < 150) (ft : isFt V al P m = true) (hat : (zI h 318 (100 * P + m)).toInt = spotV V P m) :
    CTv l G YX11_foot 4 [va_rf (some 313), .int x1, .int x2] h (fun I => OnlyP h I ∧ MPr (I, h.2) (goS V al st P m) ∧ MGt (I, h.2) (goS V al st P m).g) := by
  have w3 := w.2.2.2.1
  have h6 : P < 6 := by omega
  have pw := per_w w hP
  have z := (isFt_t w hP).mp ft
  have w8 := pw.2.2.2.2.2.2.2.1.resolve_left (fun y => z.1.1.2.2 y.1)
  obtain ⟨i, hi⟩ : ∃ i : Nat, m - (pF V P 7).toNat = i := ⟨_, rfl⟩
  rw [hi] at z
  obtain ⟨c, hcd⟩ : ∃ c, zI h 318 (100 * P + m) = c := ⟨_, rfl⟩
  have hc : c.toInt = (gow V P i).1 := by
    rw [← hcd, hat]
    unfold spotV posW
    rw [if_pos z.1.1.1, if_neg (by omega), hi, show min i (pF V P 8).toNat = i by omega]
  obtain ⟨kt, kv⟩ := mn.min hp h6
  have dK : (x2 - (if x1 = zI h 313 16 then zI h 313 17 else ztold h 313 x1 7)).toInt = (i : Int) := by
    rw [i_sub (by rw [kv]; omega) (by rw [kv]; omega), kv, hm]; omega
  generalize hKK : x2 - (if x1 = zI h 313 16 then zI h 313 17 else ztold h 313 x1 7) = KK at dK
  have rK : (zrem KK 2).toInt = ((i % 2 : Nat) : Int) := by
    rw [n_rem (by omega) (by decide), dK]; show (i : Int) % 2 = _; omega
  obtain ⟨mt, mv⟩ := mn.f (w := 4) (f := 4) hp h6 rfl (by decide)
  obtain ⟨st0, sv0⟩ := mn.sole hp h6
  have am := m100 hp h6 hm hm9
  have A1 : 0 ≤ ((100 * x1) + x2).toInt := by rw [am]; omega
  have A2 : ((100 * x1) + x2).toInt < ((600 : Nat) : Int) := by rw [am]; omega
  have b0 := m40 hp h6
  have b2 := m4 (c := 2) (j := 2) hp h6 rfl (by decide)
  have b3 := m4 (c := 3) (j := 3) hp h6 rfl (by decide)
  have G1 : 0 ≤ (4 * x1).toInt := by rw [b0]; omega
  have G2 : (4 * x1).toInt < ((24 : Nat) : Int) := by rw [b0]; omega
  have H1 : 0 ≤ ((4 * x1) + 2).toInt := by rw [b2]; omega
  have H2 : ((4 * x1) + 2).toInt < ((24 : Nat) : Int) := by rw [b2]; omega
  have K1 : 0 ≤ ((4 * x1) + 3).toInt := by rw [b3]; omega
  have K2 : ((4 * x1) + 3).toInt < ((24 : Nat) : Int) := by rw [b3]; omega
  have sole1 : ¬ ztold h 313 x1 4 = 1 → (if x1 = zI h 313 14 then zI h 313 15 else ztold h 313 x1 0).toInt = soleV V P := fun q => by
    rw [sv0]; unfold soleV
    rw [if_neg (show ¬ pF V P 4 = 1 from fun y => q (i_ext (mv.trans y)))]
  have sole6 : ztold h 313 x1 4 = 1 → (6 : Int32).toInt = soleV V P := fun q => by
    unfold soleV
    rw [if_pos (show pF V P 4 = 1 from mv.symm.trans (congrArg Int32.toInt q))]; rfl
  have side : ∀ K : Int32, K.toInt = ((9 + (i - 1) : Nat) : Int) → ztok h 313 x1 K ∧ (ztold h 313 x1 K).toInt = sdV V P (i - 1) := fun K e => mn.sd hp h6 e (by omega)
  have s8 : ¬ KK = 0 → (8 + KK).toInt = ((9 + (i - 1) : Nat) : Int) := fun q => by
    have : i ≠ 0 := fun y => q (i_ext (by rw [dK, y]; rfl))
    rw [i_add (by rw [dK]; show _ ≤ (8 : Int) + _; omega) (by rw [dK]; show (8 : Int) + _ < _; omega), dK]; show (8 : Int) + _ = _; omega
  have s9 : KK = 0 → ((8 : Int32) + 1).toInt = ((9 + (i - 1) : Nat) : Int) := fun q => by
    have := congrArg Int32.toInt q
    rw [dK, show (0 : Int32).toInt = 0 from rfl] at this
    rw [show i = 0 by omega]; rfl
  refine kX11_foot 313 x1 x2 (sX11_foot_0 313 x1 x2 hl (Nat.le_refl _) ?_)
  rw [hKK]
  refine ⟨kt, fun c1 => ⟨(side _ (s8 c1)).1, mt, fun c2 => ⟨st0, ?_⟩, fun c2 => ?_⟩, fun c1 => ⟨(side _ (s9 c1)).1, mt, fun c2 => ⟨st0, ?_⟩, fun c2 => ?_⟩⟩
  case refine_1 =>
    obtain ⟨SD, hSD, eD⟩ : ∃ SD, ztold h 313 x1 (8 + KK) = SD ∧ SD.toInt = sdV V P (i - 1) := ⟨_, rfl, (side _ (s8 c1)).2⟩
    obtain ⟨SO, hSO, eS⟩ : ∃ SO, (if x1 = zI h 313 14 then zI h 313 15 else ztold h 313 x1 0) = SO ∧ SO.toInt = soleV V P := ⟨_, rfl, sole1 c2⟩
    rw [hSD, hSO]
    clear hSD hSO c1 c2
    refine ⟨_, c_depthOf l G h n V P ((i % 2 : Nat) : Int) x1 (zrem KK 2) hl w mn hP hp rK (by omega), fun y30 I28 ⟨dz, de⟩ => ?_⟩
    have eI : I28 = h.1 := de
    subst eI
    refine ⟨A1, A2, _, c_topmost l G (h.1, h.2) st _ hl r (by omega), fun y40 I38 ⟨tz, te⟩ => ?_⟩
    have eI2 : I38 = h.1 := te
    subst eI2
    rw [zix_of am, show zI (h.1, h.2) (313 + 5) (100 * P + m) = c from hcd] at tz
    have eG : goS V al st P m = setD st P m c SO (zrem KK 2) SD y30 := by
      unfold goS
      rw [if_pos ft, hi, n_ofV hc, n_ofV eS, n_ofV eD, n_ofn rK, n_ofV dz]
    refine ⟨G1, G2, G1, G2, fun I46 c5 => ?_⟩
    rw [zix_of b0] at c5
    obtain ⟨y1, q1⟩ := gt.up (a := 1) h6 (by decide : 0 < 4) rfl rfl c5
    have r46 : MPr (I46, h.2) st := r.cg (by rw [y1 313 (by decide)]) (fun b z1 z2 => y1 b (by omega))
    have o46 : OnlyP h I46 := OnlyP.of (b0 := 328) (by decide) y1
    have press : setD st P m c SO (zrem KK 2) SD y30 = pressS st P m c SO (zrem KK 2) SD y30 → Z l G mX11_foot 4 (fun v h1 => ∃ J, v = none ∧ h1 = (J, h.2) ∧ (OnlyP h J ∧ MPr (J, h.2) (goS V al st P m) ∧ MGt (J, h.2) (goS V al st P m).g)) 0 0 222 [va_rf (some 313), .int x1, .int x2, .int KK, .int (zrem KK 2), .int SD, .int SO, .int y30, .int y40] [] (I46, h.2) := fun e => by
      rw [eG, e]
      exact c_foot222 l G h (I46, h.2) st P m x1 x2 c SO (zrem KK 2) SD y30 _ _ hl r46 _ q1 (fun _ _ _ => rfl) hn hp h6 hm hm9 ((congrFun (y1 318 (by decide)) _).trans hcd) rfl o46
    refine ⟨fun c6 => press ?_, fun c7 => ?_⟩
    · have := (topI_m1 (by omega)).mp (tz.symm.trans c6)
      unfold setD
      rw [this]
    obtain ⟨t, ht⟩ : ∃ t, topo st.P c st.n = some t := by
      cases q : topo st.P c st.n with
      | none => exact absurd (tz.trans (topI_none q)) c7
      | some t => exact ⟨t, rfl⟩
    have tn := (topo_some st.n ht).1
    have tt : y40.toInt = (t : Int) := by rw [tz]; exact topI_some (by omega) ht
    have N1 : 0 ≤ y40.toInt := by omega
    have N2 : y40.toInt < ((160 : Nat) : Int) := by show _ < (160 : Int); omega
    have e1 : zI (I46, h.2) (313 + 8) (zix y40) = st.P t 1 := by rw [zix_of tt]; exact r46.2 t tn 1 (by decide)
    have e2 : zI (I46, h.2) (313 + 9) (zix y40) = st.P t 2 := by rw [zix_of tt]; exact r46.2 t tn 2 (by decide)
    have e3 : zI (I46, h.2) (313 + 10) (zix y40) = st.P t 3 := by rw [zix_of tt]; exact r46.2 t tn 3 (by decide)
    have e4 : zI (I46, h.2) (313 + 11) (zix y40) = st.P t 4 := by rw [zix_of tt]; exact r46.2 t tn 4 (by decide)
    have no : ¬ (st.P t 1 = SO ∧ st.P t 2 = zrem KK 2 ∧ st.P t 3 = SD) → setD st P m c SO (zrem KK 2) SD y30 = pressS st P m c SO (zrem KK 2) SD y30 := fun q => by
      unfold setD
      rw [ht]
      exact if_neg q
    rw [e1, e2, e3, e4]
    refine ⟨N1, N2, fun c8 => press (no (fun q => c8 q.1)), fun c9 => ⟨N1, N2, fun c10 => press (no (fun q => c10 q.2.1)), fun c11 => ⟨N1, N2, fun c12 => press (no (fun q => c12 q.2.2)), fun c13 => ?_⟩⟩⟩
    have yes : setD st P m c SO (zrem KK 2) SD y30 = stepS st P t y30 := by
      unfold setD
      rw [ht]
      exact if_pos ⟨c9, c11, c13⟩
    rw [eG, yes]
    have who : ∀ (A B C : Nat → Nat → Int32) (v : Int32) (i2 : Nat) (v2 v3 : Int32), A = (zwI (I46, h.2) (313 + 11) (zix y40) v).1 → B = (zwI (A, h.2) (313 + 14) (zix y40) v2).1 → C = (zwI (B, h.2) (313 + 15) i2 v3).1 → zI (C, h.2) (313 + 13) (zix y40) = st.P t 6 := fun A B C v i2 v2 v3 z1 z2 z3 => by
      rw [z3, z2, z1, zix_of tt]
      exact ((zwI_no (by omega)).trans ((zwI_no (by omega)).trans (zwI_no (by omega)))).trans (r46.2 t tn 6 (by decide))
    refine ⟨N1, N2, fun c14 => ⟨N1, N2, N1, N2, fun I75 c15 => ⟨N1, N2, N1, N2, fun I80 c16 => ⟨H1, H2, H1, H2, fun I85 c17 => ⟨K1, K2, N1, N2, fun c18 => ⟨K1, K2, fun I95 c19 => ?_⟩, fun c20 => ⟨K1, K2, fun I99 c21 => ?_⟩⟩⟩⟩⟩, fun c22 => ⟨N1, N2, fun I103 c23 => ⟨N1, N2, N1, N2, fun I108 c24 => ⟨H1, H2, H1, H2, fun I113 c25 => ⟨K1, K2, N1, N2, fun c26 => ⟨K1, K2, fun I123 c27 => ?_⟩, fun c28 => ⟨K1, K2, fun I127 c29 => ?_⟩⟩⟩⟩⟩⟩
    · rw [who _ _ _ _ _ _ _ c15 c16 c17] at c18
      exact c_footStep (h := (I46, h.2)) r46 _ q1 (fun _ _ _ => rfl) tn hp h6 tt rfl o46 (by unfold imax; exact (if_neg (fun q => by have := Int32.lt_iff_toInt_lt.mp q; omega)).symm) (if_neg (fun q => c18 (q.trans (n_ofn hp).symm))).symm c15 c16 c17 c19
    · rw [who _ _ _ _ _ _ _ c15 c16 c17] at c20
      exact c_footStep (h := (I46, h.2)) r46 _ q1 (fun _ _ _ => rfl) tn hp h6 tt rfl o46 (by unfold imax; exact (if_neg (fun q => by have := Int32.lt_iff_toInt_lt.mp q; omega)).symm) (if_pos (c20.trans (n_ofn hp))).symm c15 c16 c17 c21
    · rw [who _ _ _ _ _ _ _ c23 c24 c25] at c26
      exact c_footStep (h := (I46, h.2)) r46 _ q1 (fun _ _ _ => rfl) tn hp h6 tt rfl o46 (by unfold imax; exact (if_pos (Int32.lt_iff_toInt_lt.mpr c22)).symm) (if_neg (fun q => c26 (q.trans (n_ofn hp).symm))).symm c23 c24 c25 c27
    · rw [who _ _ _ _ _ _ _ c23 c24 c25] at c28
      exact c_footStep (h := (I46, h.2)) r46 _ q1 (fun _ _ _ => rfl) tn hp h6 tt rfl o46 (by unfold imax; exact (if_pos (Int32.lt_iff_toInt_lt.mpr c22)).symm) (if_pos (c28.trans (n_ofn hp))).symm c23 c24 c25 c29
  case refine_2 =>
    obtain ⟨SD, hSD, eD⟩ : ∃ SD, ztold h 313 x1 (8 + KK) = SD ∧ SD.toInt = sdV V P (i - 1) := ⟨_, rfl, (side _ (s8 c1)).2⟩
    obtain ⟨SO, hSO, eS⟩ : ∃ SO : Int32, 6 = SO ∧ SO.toInt = soleV V P := ⟨_, rfl, sole6 c2⟩
    rw [hSD, hSO]
    clear hSD hSO c1 c2
    refine ⟨_, c_depthOf l G h n V P ((i % 2 : Nat) : Int) x1 (zrem KK 2) hl w mn hP hp rK (by omega), fun y30 I28 ⟨dz, de⟩ => ?_⟩
    have eI : I28 = h.1 := de
    subst eI
    refine ⟨A1, A2, _, c_topmost l G (h.1, h.2) st _ hl r (by omega), fun y40 I38 ⟨tz, te⟩ => ?_⟩
    have eI2 : I38 = h.1 := te
    subst eI2
    rw [zix_of am, show zI (h.1, h.2) (313 + 5) (100 * P + m) = c from hcd] at tz
    have eG : goS V al st P m = setD st P m c SO (zrem KK 2) SD y30 := by
      unfold goS
      rw [if_pos ft, hi, n_ofV hc, n_ofV eS, n_ofV eD, n_ofn rK, n_ofV dz]
    refine ⟨G1, G2, G1, G2, fun I46 c5 => ?_⟩
    rw [zix_of b0] at c5
    obtain ⟨y1, q1⟩ := gt.up (a := 1) h6 (by decide : 0 < 4) rfl rfl c5
    have r46 : MPr (I46, h.2) st := r.cg (by rw [y1 313 (by decide)]) (fun b z1 z2 => y1 b (by omega))
    have o46 : OnlyP h I46 := OnlyP.of (b0 := 328) (by decide) y1
    have press : setD st P m c SO (zrem KK 2) SD y30 = pressS st P m c SO (zrem KK 2) SD y30 → Z l G mX11_foot 4 (fun v h1 => ∃ J, v = none ∧ h1 = (J, h.2) ∧ (OnlyP h J ∧ MPr (J, h.2) (goS V al st P m) ∧ MGt (J, h.2) (goS V al st P m).g)) 0 0 222 [va_rf (some 313), .int x1, .int x2, .int KK, .int (zrem KK 2), .int SD, .int SO, .int y30, .int y40] [] (I46, h.2) := fun e => by
      rw [eG, e]
      exact c_foot222 l G h (I46, h.2) st P m x1 x2 c SO (zrem KK 2) SD y30 _ _ hl r46 _ q1 (fun _ _ _ => rfl) hn hp h6 hm hm9 ((congrFun (y1 318 (by decide)) _).trans hcd) rfl o46
    refine ⟨fun c6 => press ?_, fun c7 => ?_⟩
    · have := (topI_m1 (by omega)).mp (tz.symm.trans c6)
      unfold setD
      rw [this]
    obtain ⟨t, ht⟩ : ∃ t, topo st.P c st.n = some t := by
      cases q : topo st.P c st.n with
      | none => exact absurd (tz.trans (topI_none q)) c7
      | some t => exact ⟨t, rfl⟩
    have tn := (topo_some st.n ht).1
    have tt : y40.toInt = (t : Int) := by rw [tz]; exact topI_some (by omega) ht
    have N1 : 0 ≤ y40.toInt := by omega
    have N2 : y40.toInt < ((160 : Nat) : Int) := by show _ < (160 : Int); omega
    have e1 : zI (I46, h.2) (313 + 8) (zix y40) = st.P t 1 := by rw [zix_of tt]; exact r46.2 t tn 1 (by decide)
    have e2 : zI (I46, h.2) (313 + 9) (zix y40) = st.P t 2 := by rw [zix_of tt]; exact r46.2 t tn 2 (by decide)
    have e3 : zI (I46, h.2) (313 + 10) (zix y40) = st.P t 3 := by rw [zix_of tt]; exact r46.2 t tn 3 (by decide)
    have e4 : zI (I46, h.2) (313 + 11) (zix y40) = st.P t 4 := by rw [zix_of tt]; exact r46.2 t tn 4 (by decide)
    have no : ¬ (st.P t 1 = SO ∧ st.P t 2 = zrem KK 2 ∧ st.P t 3 = SD) → setD st P m c SO (zrem KK 2) SD y30 = pressS st P m c SO (zrem KK 2) SD y30 := fun q => by
      unfold setD
      rw [ht]
      exact if_neg q
    rw [e1, e2, e3, e4]
    refine ⟨N1, N2, fun c8 => press (no (fun q => c8 q.1)), fun c9 => ⟨N1, N2, fun c10 => press (no (fun q => c10 q.2.1)), fun c11 => ⟨N1, N2, fun c12 => press (no (fun q => c12 q.2.2)), fun c13 => ?_⟩⟩⟩
    have yes : setD st P m c SO (zrem KK 2) SD y30 = stepS st P t y30 := by
      unfold setD
      rw [ht]
      exact if_pos ⟨c9, c11, c13⟩
    rw [eG, yes]
    have who : ∀ (A B C : Nat → Nat → Int32) (v : Int32) (i2 : Nat) (v2 v3 : Int32), A = (zwI (I46, h.2) (313 + 11) (zix y40) v).1 → B = (zwI (A, h.2) (313 + 14) (zix y40) v2).1 → C = (zwI (B, h.2) (313 + 15) i2 v3).1 → zI (C, h.2) (313 + 13) (zix y40) = st.P t 6 := fun A B C v i2 v2 v3 z1 z2 z3 => by
      rw [z3, z2, z1, zix_of tt]
      exact ((zwI_no (by omega)).trans ((zwI_no (by omega)).trans (zwI_no (by omega)))).trans (r46.2 t tn 6 (by decide))
    refine ⟨N1, N2, fun c14 => ⟨N1, N2, N1, N2, fun I75 c15 => ⟨N1, N2, N1, N2, fun I80 c16 => ⟨H1, H2, H1, H2, fun I85 c17 => ⟨K1, K2, N1, N2, fun c18 => ⟨K1, K2, fun I95 c19 => ?_⟩, fun c20 => ⟨K1, K2, fun I99 c21 => ?_⟩⟩⟩⟩⟩, fun c22 => ⟨N1, N2, fun I103 c23 => ⟨N1, N2, N1, N2, fun I108 c24 => ⟨H1, H2, H1, H2, fun I113 c25 => ⟨K1, K2, N1, N2, fun c26 => ⟨K1, K2, fun I123 c27 => ?_⟩, fun c28 => ⟨K1, K2, fun I127 c29 => ?_⟩⟩⟩⟩⟩⟩
    · rw [who _ _ _ _ _ _ _ c15 c16 c17] at c18
      exact c_footStep (h := (I46, h.2)) r46 _ q1 (fun _ _ _ => rfl) tn hp h6 tt rfl o46 (by unfold imax; exact (if_neg (fun q => by have := Int32.lt_iff_toInt_lt.mp q; omega)).symm) (if_neg (fun q => c18 (q.trans (n_ofn hp).symm))).symm c15 c16 c17 c19
    · rw [who _ _ _ _ _ _ _ c15 c16 c17] at c20
      exact c_footStep (h := (I46, h.2)) r46 _ q1 (fun _ _ _ => rfl) tn hp h6 tt rfl o46 (by unfold imax; exact (if_neg (fun q => by have := Int32.lt_iff_toInt_lt.mp q; omega)).symm) (if_pos (c20.trans (n_ofn hp))).symm c15 c16 c17 c21
    · rw [who _ _ _ _ _ _ _ c23 c24 c25] at c26
      exact c_footStep (h := (I46, h.2)) r46 _ q1 (fun _ _ _ => rfl) tn hp h6 tt rfl o46 (by unfold imax; exact (if_pos (Int32.lt_iff_toInt_lt.mpr c22)).symm) (if_neg (fun q => c26 (q.trans (n_ofn hp).symm))).symm c23 c24 c25 c27
    · rw [who _ _ _ _ _ _ _ c23 c24 c25] at c28
      exact c_footStep (h := (I46, h.2)) r46 _ q1 (fun _ _ _ => rfl) tn hp h6 tt rfl o46 (by unfold imax; exact (if_pos (Int32.lt_iff_toInt_lt.mpr c22)).symm) (if_pos (c28.trans (n_ofn hp))).symm c23 c24 c25 c29
  case refine_3 =>
    obtain ⟨SD, hSD, eD⟩ : ∃ SD, ztold h 313 x1 (8 + 1) = SD ∧ SD.toInt = sdV V P (i - 1) := ⟨_, rfl, (side _ (s9 c1)).2⟩
    obtain ⟨SO, hSO, eS⟩ : ∃ SO, (if x1 = zI h 313 14 then zI h 313 15 else ztold h 313 x1 0) = SO ∧ SO.toInt = soleV V P := ⟨_, rfl, sole1 c2⟩
    rw [hSD, hSO]
    clear hSD hSO c1 c2
    refine ⟨_, c_depthOf l G h n V P ((i % 2 : Nat) : Int) x1 (zrem KK 2) hl w mn hP hp rK (by omega), fun y30 I28 ⟨dz, de⟩ => ?_⟩
    have eI : I28 = h.1 := de
    subst eI
    refine ⟨A1, A2, _, c_topmost l G (h.1, h.2) st _ hl r (by omega), fun y40 I38 ⟨tz, te⟩ => ?_⟩
    have eI2 : I38 = h.1 := te
    subst eI2
    rw [zix_of am, show zI (h.1, h.2) (313 + 5) (100 * P + m) = c from hcd] at tz
    have eG : goS V al st P m = setD st P m c SO (zrem KK 2) SD y30 := by
      unfold goS
      rw [if_pos ft, hi, n_ofV hc, n_ofV eS, n_ofV eD, n_ofn rK, n_ofV dz]
    refine ⟨G1, G2, G1, G2, fun I46 c5 => ?_⟩
    rw [zix_of b0] at c5
    obtain ⟨y1, q1⟩ := gt.up (a := 1) h6 (by decide : 0 < 4) rfl rfl c5
    have r46 : MPr (I46, h.2) st := r.cg (by rw [y1 313 (by decide)]) (fun b z1 z2 => y1 b (by omega))
    have o46 : OnlyP h I46 := OnlyP.of (b0 := 328) (by decide) y1
    have press : setD st P m c SO (zrem KK 2) SD y30 = pressS st P m c SO (zrem KK 2) SD y30 → Z l G mX11_foot 4 (fun v h1 => ∃ J, v = none ∧ h1 = (J, h.2) ∧ (OnlyP h J ∧ MPr (J, h.2) (goS V al st P m) ∧ MGt (J, h.2) (goS V al st P m).g)) 0 0 222 [va_rf (some 313), .int x1, .int x2, .int KK, .int (zrem KK 2), .int SD, .int SO, .int y30, .int y40] [] (I46, h.2) := fun e => by
      rw [eG, e]
      exact c_foot222 l G h (I46, h.2) st P m x1 x2 c SO (zrem KK 2) SD y30 _ _ hl r46 _ q1 (fun _ _ _ => rfl) hn hp h6 hm hm9 ((congrFun (y1 318 (by decide)) _).trans hcd) rfl o46
    refine ⟨fun c6 => press ?_, fun c7 => ?_⟩
    · have := (topI_m1 (by omega)).mp (tz.symm.trans c6)
      unfold setD
      rw [this]
    obtain ⟨t, ht⟩ : ∃ t, topo st.P c st.n = some t := by
      cases q : topo st.P c st.n with
      | none => exact absurd (tz.trans (topI_none q)) c7
      | some t => exact ⟨t, rfl⟩
    have tn := (topo_some st.n ht).1
    have tt : y40.toInt = (t : Int) := by rw [tz]; exact topI_some (by omega) ht
    have N1 : 0 ≤ y40.toInt := by omega
    have N2 : y40.toInt < ((160 : Nat) : Int) := by show _ < (160 : Int); omega
    have e1 : zI (I46, h.2) (313 + 8) (zix y40) = st.P t 1 := by rw [zix_of tt]; exact r46.2 t tn 1 (by decide)
    have e2 : zI (I46, h.2) (313 + 9) (zix y40) = st.P t 2 := by rw [zix_of tt]; exact r46.2 t tn 2 (by decide)
    have e3 : zI (I46, h.2) (313 + 10) (zix y40) = st.P t 3 := by rw [zix_of tt]; exact r46.2 t tn 3 (by decide)
    have e4 : zI (I46, h.2) (313 + 11) (zix y40) = st.P t 4 := by rw [zix_of tt]; exact r46.2 t tn 4 (by decide)
    have no : ¬ (st.P t 1 = SO ∧ st.P t 2 = zrem KK 2 ∧ st.P t 3 = SD) → setD st P m c SO (zrem KK 2) SD y30 = pressS st P m c SO (zrem KK 2) SD y30 := fun q => by
      unfold setD
      rw [ht]
      exact if_neg q
    rw [e1, e2, e3, e4]
    refine ⟨N1, N2, fun c8 => press (no (fun q => c8 q.1)), fun c9 => ⟨N1, N2, fun c10 => press (no (fun q => c10 q.2.1)), fun c11 => ⟨N1, N2, fun c12 => press (no (fun q => c12 q.2.2)), fun c13 => ?_⟩⟩⟩
    have yes : setD st P m c SO (zrem KK 2) SD y30 = stepS st P t y30 := by
      unfold setD
      rw [ht]
      exact if_pos ⟨c9, c11, c13⟩
    rw [eG, yes]
    have who : ∀ (A B C : Nat → Nat → Int32) (v : Int32) (i2 : Nat) (v2 v3 : Int32), A = (zwI (I46, h.2) (313 + 11) (zix y40) v).1 → B = (zwI (A, h.2) (313 + 14) (zix y40) v2).1 → C = (zwI (B, h.2) (313 + 15) i2 v3).1 → zI (C, h.2) (313 + 13) (zix y40) = st.P t 6 := fun A B C v i2 v2 v3 z1 z2 z3 => by
      rw [z3, z2, z1, zix_of tt]
      exact ((zwI_no (by omega)).trans ((zwI_no (by omega)).trans (zwI_no (by omega)))).trans (r46.2 t tn 6 (by decide))
    refine ⟨N1, N2, fun c14 => ⟨N1, N2, N1, N2, fun I75 c15 => ⟨N1, N2, N1, N2, fun I80 c16 => ⟨H1, H2, H1, H2, fun I85 c17 => ⟨K1, K2, N1, N2, fun c18 => ⟨K1, K2, fun I95 c19 => ?_⟩, fun c20 => ⟨K1, K2, fun I99 c21 => ?_⟩⟩⟩⟩⟩, fun c22 => ⟨N1, N2, fun I103 c23 => ⟨N1, N2, N1, N2, fun I108 c24 => ⟨H1, H2, H1, H2, fun I113 c25 => ⟨K1, K2, N1, N2, fun c26 => ⟨K1, K2, fun I123 c27 => ?_⟩, fun c28 => ⟨K1, K2, fun I127 c29 => ?_⟩⟩⟩⟩⟩⟩
    · rw [who _ _ _ _ _ _ _ c15 c16 c17] at c18
      exact c_footStep (h := (I46, h.2)) r46 _ q1 (fun _ _ _ => rfl) tn hp h6 tt rfl o46 (by unfold imax; exact (if_neg (fun q => by have := Int32.lt_iff_toInt_lt.mp q; omega)).symm) (if_neg (fun q => c18 (q.trans (n_ofn hp).symm))).symm c15 c16 c17 c19
    · rw [who _ _ _ _ _ _ _ c15 c16 c17] at c20
      exact c_footStep (h := (I46, h.2)) r46 _ q1 (fun _ _ _ => rfl) tn hp h6 tt rfl o46 (by unfold imax; exact (if_neg (fun q => by have := Int32.lt_iff_toInt_lt.mp q; omega)).symm) (if_pos (c20.trans (n_ofn hp))).symm c15 c16 c17 c21
    · rw [who _ _ _ _ _ _ _ c23 c24 c25] at c26
      exact c_footStep (h := (I46, h.2)) r46 _ q1 (fun _ _ _ => rfl) tn hp h6 tt rfl o46 (by unfold imax; exact (if_pos (Int32.lt_iff_toInt_lt.mpr c22)).symm) (if_neg (fun q => c26 (q.trans (n_ofn hp).symm))).symm c23 c24 c25 c27
    · rw [who _ _ _ _ _ _ _ c23 c24 c25] at c28
      exact c_footStep (h := (I46, h.2)) r46 _ q1 (fun _ _ _ => rfl) tn hp h6 tt rfl o46 (by unfold imax; exact (if_pos (Int32.lt_iff_toInt_lt.mpr c22)).symm) (if_pos (c28.trans (n_ofn hp))).symm c23 c24 c25 c29
  case refine_4 =>
    obtain ⟨SD, hSD, eD⟩ : ∃ SD, ztold h 313 x1 (8 + 1) = SD ∧ SD.toInt = sdV V P (i - 1) := ⟨_, rfl, (side _ (s9 c1)).2⟩
    obtain ⟨SO, hSO, eS⟩ : ∃ SO : Int32, 6 = SO ∧ SO.toInt = soleV V P := ⟨_, rfl, sole6 c2⟩
    rw [hSD, hSO]
    clear hSD hSO c1 c2
    refine ⟨_, c_depthOf l G h n V P ((i % 2 : Nat) : Int) x1 (zrem KK 2) hl w mn hP hp rK (by omega), fun y30 I28 ⟨dz, de⟩ => ?_⟩
    have eI : I28 = h.1 := de
    subst eI
    refine ⟨A1, A2, _, c_topmost l G (h.1, h.2) st _ hl r (by omega), fun y40 I38 ⟨tz, te⟩ => ?_⟩
    have eI2 : I38 = h.1 := te
    subst eI2
    rw [zix_of am, show zI (h.1, h.2) (313 + 5) (100 * P + m) = c from hcd] at tz
    have eG : goS V al st P m = setD st P m c SO (zrem KK 2) SD y30 := by
      unfold goS
      rw [if_pos ft, hi, n_ofV hc, n_ofV eS, n_ofV eD, n_ofn rK, n_ofV dz]
    refine ⟨G1, G2, G1, G2, fun I46 c5 => ?_⟩
    rw [zix_of b0] at c5
    obtain ⟨y1, q1⟩ := gt.up (a := 1) h6 (by decide : 0 < 4) rfl rfl c5
    have r46 : MPr (I46, h.2) st := r.cg (by rw [y1 313 (by decide)]) (fun b z1 z2 => y1 b (by omega))
    have o46 : OnlyP h I46 := OnlyP.of (b0 := 328) (by decide) y1
    have press : setD st P m c SO (zrem KK 2) SD y30 = pressS st P m c SO (zrem KK 2) SD y30 → Z l G mX11_foot 4 (fun v h1 => ∃ J, v = none ∧ h1 = (J, h.2) ∧ (OnlyP h J ∧ MPr (J, h.2) (goS V al st P m) ∧ MGt (J, h.2) (goS V al st P m).g)) 0 0 222 [va_rf (some 313), .int x1, .int x2, .int KK, .int (zrem KK 2), .int SD, .int SO, .int y30, .int y40] [] (I46, h.2) := fun e => by
      rw [eG, e]
      exact c_foot222 l G h (I46, h.2) st P m x1 x2 c SO (zrem KK 2) SD y30 _ _ hl r46 _ q1 (fun _ _ _ => rfl) hn hp h6 hm hm9 ((congrFun (y1 318 (by decide)) _).trans hcd) rfl o46
    refine ⟨fun c6 => press ?_, fun c7 => ?_⟩
    · have := (topI_m1 (by omega)).mp (tz.symm.trans c6)
      unfold setD
      rw [this]
    obtain ⟨t, ht⟩ : ∃ t, topo st.P c st.n = some t := by
      cases q : topo st.P c st.n with
      | none => exact absurd (tz.trans (topI_none q)) c7
      | some t => exact ⟨t, rfl⟩
    have tn := (topo_some st.n ht).1
    have tt : y40.toInt = (t : Int) := by rw [tz]; exact topI_some (by omega) ht
    have N1 : 0 ≤ y40.toInt := by omega
    have N2 : y40.toInt < ((160 : Nat) : Int) := by show _ < (160 : Int); omega
    have e1 : zI (I46, h.2) (313 + 8) (zix y40) = st.P t 1 := by rw [zix_of tt]; exact r46.2 t tn 1 (by decide)
    have e2 : zI (I46, h.2) (313 + 9) (zix y40) = st.P t 2 := by rw [zix_of tt]; exact r46.2 t tn 2 (by decide)
    have e3 : zI (I46, h.2) (313 + 10) (zix y40) = st.P t 3 := by rw [zix_of tt]; exact r46.2 t tn 3 (by decide)
    have e4 : zI (I46, h.2) (313 + 11) (zix y40) = st.P t 4 := by rw [zix_of tt]; exact r46.2 t tn 4 (by decide)
    have no : ¬ (st.P t 1 = SO ∧ st.P t 2 = zrem KK 2 ∧ st.P t 3 = SD) → setD st P m c SO (zrem KK 2) SD y30 = pressS st P m c SO (zrem KK 2) SD y30 := fun q => by
      unfold setD
      rw [ht]
      exact if_neg q
    rw [e1, e2, e3, e4]
    refine ⟨N1, N2, fun c8 => press (no (fun q => c8 q.1)), fun c9 => ⟨N1, N2, fun c10 => press (no (fun q => c10 q.2.1)), fun c11 => ⟨N1, N2, fun c12 => press (no (fun q => c12 q.2.2)), fun c13 => ?_⟩⟩⟩
    have yes : setD st P m c SO (zrem KK 2) SD y30 = stepS st P t y30 := by
      unfold setD
      rw [ht]
      exact if_pos ⟨c9, c11, c13⟩
    rw [eG, yes]
    have who : ∀ (A B C : Nat → Nat → Int32) (v : Int32) (i2 : Nat) (v2 v3 : Int32), A = (zwI (I46, h.2) (313 + 11) (zix y40) v).1 → B = (zwI (A, h.2) (313 + 14) (zix y40) v2).1 → C = (zwI (B, h.2) (313 + 15) i2 v3).1 → zI (C, h.2) (313 + 13) (zix y40) = st.P t 6 := fun A B C v i2 v2 v3 z1 z2 z3 => by
      rw [z3, z2, z1, zix_of tt]
      exact ((zwI_no (by omega)).trans ((zwI_no (by omega)).trans (zwI_no (by omega)))).trans (r46.2 t tn 6 (by decide))
    refine ⟨N1, N2, fun c14 => ⟨N1, N2, N1, N2, fun I75 c15 => ⟨N1, N2, N1, N2, fun I80 c16 => ⟨H1, H2, H1, H2, fun I85 c17 => ⟨K1, K2, N1, N2, fun c18 => ⟨K1, K2, fun I95 c19 => ?_⟩, fun c20 => ⟨K1, K2, fun I99 c21 => ?_⟩⟩⟩⟩⟩, fun c22 => ⟨N1, N2, fun I103 c23 => ⟨N1, N2, N1, N2, fun I108 c24 => ⟨H1, H2, H1, H2, fun I113 c25 => ⟨K1, K2, N1, N2, fun c26 => ⟨K1, K2, fun I123 c27 => ?_⟩, fun c28 => ⟨K1, K2, fun I127 c29 => ?_⟩⟩⟩⟩⟩⟩
    · rw [who _ _ _ _ _ _ _ c15 c16 c17] at c18
      exact c_footStep (h := (I46, h.2)) r46 _ q1 (fun _ _ _ => rfl) tn hp h6 tt rfl o46 (by unfold imax; exact (if_neg (fun q => by have := Int32.lt_iff_toInt_lt.mp q; omega)).symm) (if_neg (fun q => c18 (q.trans (n_ofn hp).symm))).symm c15 c16 c17 c19
    · rw [who _ _ _ _ _ _ _ c15 c16 c17] at c20
      exact c_footStep (h := (I46, h.2)) r46 _ q1 (fun _ _ _ => rfl) tn hp h6 tt rfl o46 (by unfold imax; exact (if_neg (fun q => by have := Int32.lt_iff_toInt_lt.mp q; omega)).symm) (if_pos (c20.trans (n_ofn hp))).symm c15 c16 c17 c21
    · rw [who _ _ _ _ _ _ _ c23 c24 c25] at c26
      exact c_footStep (h := (I46, h.2)) r46 _ q1 (fun _ _ _ => rfl) tn hp h6 tt rfl o46 (by unfold imax; exact (if_pos (Int32.lt_iff_toInt_lt.mpr c22)).symm) (if_neg (fun q => c26 (q.trans (n_ofn hp).symm))).symm c23 c24 c25 c27
    · rw [who _ _ _ _ _ _ _ c23 c24 c25] at c28
      exact c_footStep (h := (I46, h.2)) r46 _ q1 (fun _ _ _ => rfl) tn hp h6 tt rfl o46 (by unfold imax; exact (if_pos (Int32.lt_iff_toInt_lt.mpr c22)).symm) (if_pos (c28.trans (n_ofn hp))).symm c23 c24 c25 c29
