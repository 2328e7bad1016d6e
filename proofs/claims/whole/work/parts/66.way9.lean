set_option maxRecDepth 4000
/-! ===== the class's way: all of it ===== -/
section K66
variable {V T : Nat → Int} {S d : Int}
theorem c_trace (l : Launch) (G : zG) (h : zH) (a q g fr to : Nat) (x1 x2 : Int32) (B : Int × Nat) (o : WO h a q g V T S d) (x : WX a q g V S d) (h1 : x1.toInt = (fr : Int)) (h2 : x2.toInt = (to : Int)) (hfr : fr < nV V) (hto : to < nV V) (hW : B.1 < 1000000) (b1 : 1 ≤ B.2) (b40 : B.2 ≤ 40) (hst : (zI h a 1).toInt = (B.2 : Int)) (o0 : OpC h a 0 fr to B V T S d) (ly : ∀ i, i ≤ B.2 → LyC h a i to B V T S d) (xc : ∀ i, i < B.2 → XC h a i to B V T S d) :
    CTv l G YX9_trace 5 [va_rf (some a), .int x1, .int x2] h (fun I => (∀ b, b ≠ a + 1 → b ≠ a + 2 → I b = h.1 b) ∧ ∀ k, k < B.2 → (I (a + 1) k).toInt = (sdW (nxV V d) (pnT T S) to B.2 k (cwW (nxV V d) (pnT T S) to B.2 fr k) : Int)) := by
  have nv := nV_eq x.1
  have ok := w_ok (T := T) (S := S) (d := d) x.1
  have chain : ∀ i, i ≤ B.2 → cwW (nxV V d) (pnT T S) to B.2 fr i < nV V ∧ OpC h a i (cwW (nxV V d) (pnT T S) to B.2 fr i) to B V T S d := fun i hi => op_chain x.1 b40 hfr hW o0 i hi (fun j hj => ly j (by omega)) (fun j hj => xc j (by omega))
  have kpos : ∀ i, i ≤ B.2 → ∀ c, c < nV V → 0 ≤ Kc h a i c := fun i hi c hc => by
    rcases ly i hi c hc with e | e
    · omega
    · exact (GdW_100 e (by omega)).1
  have kgo : Kc h a B.2 to = B.1 := by
    obtain ⟨c1, c2⟩ := chain B.2 (Nat.le_refl _)
    exact (op_goal hW b1 (kpos _ (Nat.le_refl _) _ c1) c2).2
  have dsm : ∀ i, i ≤ B.2 → ∀ c, c < nV V → OpC h a i c to B V T S d → DW (nxV V d) (pnT T S) to i c (B.2 - i) < 1000000 := fun i hi c hc oc => by
    have := kpos i hi c hc
    have := oc.2
    omega
  have loop2 : ∀ (J0 : Nat → Nat → Int32), (∀ b, b ≠ a + 2 → J0 b = h.1 b) → (∀ c, c < 64 → Kc (J0, h.2) a 0 c = Kc h a 0 c) → (∀ j, 0 < j → j ≤ B.2 → TiC h (J0, h.2) a j to B V T S d) → ∀ (fu k : Nat) (x4 x5 : Int32) (u6 : Value) (J : Nat → Nat → Int32), k ≤ B.2 → B.2 - k < fu → x5.toInt = (k : Int) → x4.toInt = (cwW (nxV V d) (pnT T S) to B.2 fr k : Int) → (∀ b, b ≠ a + 1 → J b = J0 b) → (∀ j, j < k → (J (a + 1) j).toInt = (sdW (nxV V d) (pnT T S) to B.2 j (cwW (nxV V d) (pnT T S) to B.2 fr j) : Int)) →
      Z l G mX9_trace 5 (fun w h1 => ∃ I, w = none ∧ h1 = (I, h.2) ∧ ((∀ b, b ≠ a + 1 → b ≠ a + 2 → I b = h.1 b) ∧ ∀ k, k < B.2 → (I (a + 1) k).toInt = (sdW (nxV V d) (pnT T S) to B.2 k (cwW (nxV V d) (pnT T S) to B.2 fr k) : Int))) 0 0 66 [va_rf (some a), .int x1, .int x2, zU, .int x4, .int x5, u6] [] (J, h.2) := by
    intro J0 z0 zl zt fu
    induction fu with
    | zero => intro k x4 x5 u6 J q1 q2; omega
    | succ fu ih =>
      intro k x4 x5 u6 J q1 q2 hx h4 r1 r2
      have eO : ∀ b, b ≠ a + 1 → b ≠ a + 2 → J b = h.1 b := fun b e1 e2 => (r1 b e1).trans (z0 b e2)
      have oJ : WO (J, h.2) a q g V T S d := o.cg x (fun b hb => eO b (by omega) (by omega)) (by rw [eO a (by omega) (by omega)]) (by rw [eO a (by omega) (by omega)])
      have e1 : (zI (J, h.2) a 1).toInt = (B.2 : Int) := by
        show (J a 1).toInt = _
        rw [eO a (by omega) (by omega)]; exact hst
      refine sX9_trace_66 (h := (J, h.2)) a x1 x2 zU x4 x5 u6 o.1 (Nat.le_refl _) ⟨fun c1 => ⟨J, rfl, rfl, eO, fun j hj => r2 j (by omega)⟩, fun c2 => ?_⟩
      have hk : k < B.2 := by omega
      obtain ⟨p1, p2⟩ := chain k (by omega)
      have eJ : ∀ j c, Kc (J, h.2) a j c = Kc (J0, h.2) a j c := fun j c => by
        show (J (a + 2) _).toInt = (J0 (a + 2) _).toInt
        rw [r1 (a + 2) (by omega)]
      have tJ : TiC h (J, h.2) a (k + 1) to B V T S d := fun c hc => by rw [eJ]; exact zt (k + 1) (by omega) (by omega) c hc
      have eK : Kc (J, h.2) a k (cwW (nxV V d) (pnT T S) to B.2 fr k) = Kc h a k (cwW (nxV V d) (pnT T S) to B.2 fr k) := by
        rw [eJ]
        by_cases e : k = 0
        · subst e; exact zl _ (by omega)
        · exact (zt k (by omega) (by omega) _ p1).2 p2
      have kp := kpos k (by omega) _ p1
      refine ⟨_, c_sideOn l G (J, h.2) a q g k _ x5 x4 oJ x hx (by omega) h4 p1 (by rw [eK]; exact ⟨kp, p2.1⟩), fun y10 I8 ⟨w1, w2⟩ I17 c4 => ?_⟩
      have eI : I8 = J := w2
      subst eI
      have sv := (TiC.sv x.1 b40 hk (ly k (by omega)) (ly (k + 1) (by omega)) (xc k hk) tJ p1 eK p2.1).1 p2
      rw [fs4_cg sv] at w1
      have sd := sdW_spec ok hk (dsm k (by omega) _ p1 p2)
      have sd1 : fs4 (svW (nxV V d) (pnT T S) to B.2 k (cwW (nxV V d) (pnT T S) to B.2 fr k)) < 4 := sd.1
      rw [if_pos sd1] at w1
      obtain ⟨a1, a2, a3⟩ := zput_eff (h := (I8, h.2)) (o.1.w 1 rfl) hx (by omega) c4
      have o17 : WO (I17, h.2) a q g V T S d := oJ.cg x (fun b hb => a1 b (by omega)) (by rw [a1 a (by omega)]) (by rw [a1 a (by omega)])
      refine ⟨q, o17.2.1, o17.2.2.2.1, ih (k + 1) _ _ _ I17 (by omega) (by omega) (i_1 hx (by omega)) ?_ (fun b hb => (a1 b hb).trans (r1 b hb)) (fun j hj => ?_)⟩
      · have wn := w_next o17 x h4 w1 sd1
        have nn := (ok.1 _ _ p1 sd.1).resolve_left sd.2.1
        rw [wn]
        show nxV V d (cwW (nxV V d) (pnT T S) to B.2 fr k) (sdW (nxV V d) (pnT T S) to B.2 k (cwW (nxV V d) (pnT T S) to B.2 fr k)) = ((nxV V d (cwW (nxV V d) (pnT T S) to B.2 fr k) (sdW (nxV V d) (pnT T S) to B.2 k (cwW (nxV V d) (pnT T S) to B.2 fr k))).toNat : Int)
        omega
      · by_cases e : j = k
        · subst e; rw [a3]; exact w1
        · rw [a2 j e]; exact r2 j (by omega)
  have loop1 : ∀ (fu i : Nat) (x4 : Int32) (u3 u5 u6 : Value) (J : Nat → Nat → Int32), i < B.2 → i < fu → x4.toInt = (i : Int) → (∀ b, b ≠ a + 2 → J b = h.1 b) → (∀ j, j ≤ i → ∀ c, c < 64 → Kc (J, h.2) a j c = Kc h a j c) → (∀ j, i < j → j ≤ B.2 → TiC h (J, h.2) a j to B V T S d) →
      Z l G mX9_trace 5 (fun w h1 => ∃ I, w = none ∧ h1 = (I, h.2) ∧ ((∀ b, b ≠ a + 1 → b ≠ a + 2 → I b = h.1 b) ∧ ∀ k, k < B.2 → (I (a + 1) k).toInt = (sdW (nxV V d) (pnT T S) to B.2 k (cwW (nxV V d) (pnT T S) to B.2 fr k) : Int))) 0 0 43 [va_rf (some a), .int x1, .int x2, u3, .int x4, u5, u6] [] (J, h.2) := by
    intro fu
    induction fu with
    | zero => intro i x4 u3 u5 u6 J q1 q2; omega
    | succ fu ih =>
      intro i x4 u3 u5 u6 J q1 q2 hx r1 r2 r3
      have oJ : WO (J, h.2) a q g V T S d := o.cg x (fun b hb => r1 b (by omega)) (by rw [r1 a (by omega)]) (by rw [r1 a (by omega)])
      refine sX9_trace_43 (h := (J, h.2)) a x1 x2 u3 x4 u5 u6 o.1 (Nat.le_refl _) ⟨fun c1 => ?_, fun c2 => ⟨_, c_strikeLost l G (J, h.2) a q g i x4 oJ x hx (by omega) (fun c hc => by rw [r2 i (Nat.le_refl _) c (by omega)]; exact kpos i (by omega) c hc), fun I8 ⟨s1, s2, s3, s4⟩ => ?_⟩⟩
      · have c1' : x4.toInt ≤ 0 := c1
        have ei : i = 0 := by omega
        subst ei
        exact loop2 J r1 (r2 0 (Nat.le_refl _)) (fun j hj => r3 j hj) (B.2 + 1) 0 x1 0 u6 J (by omega) (by omega) rfl h1 (fun _ _ => rfl) (fun j hj => by omega)
      · have c2' : (0 : Int) < x4.toInt := c2
        have e4 : (x4 + (-1)).toInt = ((i - 1 : Nat) : Int) := by
          rw [i_add (by show _ ≤ _ + (-1 : Int); omega) (by show _ + (-1 : Int) < _; omega), hx]
          show (i : Int) + (-1) = _; omega
        have kI : ∀ j, j ≠ i → ∀ c, c < 64 → Kc (I8, h.2) a j c = Kc (J, h.2) a j c := fun j hj c hc => by
          show (I8 (a + 2) (64 * j + c)).toInt = (J (a + 2) (64 * j + c)).toInt
          rw [s2 _ (by omega)]
        refine ih (i - 1) _ _ _ _ I8 (by omega) (by omega) e4 (fun b hb => (s1 b hb).trans (r1 b hb)) (fun j hj c hc => (kI j (by omega) c hc).trans (r2 j (by omega) c hc)) (fun j hj hjn => ?_)
        by_cases e : j = i
        · subst e
          intro c hc
          have ej := r2 j (Nat.le_refl _) c (by omega)
          have sv := fun hk => TiC.sv x.1 b40 q1 (ly j (by omega)) (ly (j + 1) (by omega)) (xc j q1) (r3 (j + 1) (by omega) (by omega)) hc ej hk
          have s4' : Kc (I8, h.2) a j c = if Kc h a j c < 1000 ∧ fs4 (pSC (J, h.2) a j c V T S d) = 4 then 1000 else Kc h a j c := by
            rw [← show Kc (J, h.2) a j c = Kc h a j c from ej]; exact s4 c hc
          refine ⟨fun z => ?_, fun oc => ?_⟩
          · by_cases q : Kc h a j c < 1000 ∧ fs4 (pSC (J, h.2) a j c V T S d) = 4
            · rw [if_pos q] at s4'; omega
            · rw [if_neg q] at s4'
              have hk : Kc h a j c < 1000 := by omega
              have f4 := fs4_lt (pSC (J, h.2) a j c V T S d)
              have ex : ∃ s, s < 4 ∧ pSC (J, h.2) a j c V T S d s = true := Decidable.byContradiction fun z2 => q ⟨hk, fs4_no (fun s hs => by
                cases q3 : pSC (J, h.2) a j c V T S d s with
                | true => exact absurd ⟨s, hs, q3⟩ z2
                | false => rfl)⟩
              obtain ⟨s, hs, q3⟩ := ex
              exact ⟨(sv hk).2 s hs q3, s4'⟩
          · have sd := sdW_spec ok q1 (dsm j (by omega) c hc oc)
            have sd1 : fs4 (svW (nxV V d) (pnT T S) to B.2 j c) < 4 := sd.1
            rw [← fs4_cg ((sv oc.1).1 oc)] at sd1
            rw [if_neg (fun z => by omega)] at s4'
            exact s4'
        · intro c hc
          rw [kI j e c (by omega)]
          exact r3 j (by omega) hjn c hc
  refine kX9_trace a x1 x2 (sX9_trace_0 a x1 x2 o.1 (Nat.le_refl _) ⟨_, c_clearLayer l G h a B.2 (zI h a 1) o.1 hst b40, fun I7 ⟨g1, g2, g3⟩ I16 c2 => ?_⟩)
  have e71 : zI (I7, h.2) a 1 = zI h a 1 := by
    show I7 a 1 = _
    rw [g1 a (by omega)]; rfl
  rw [e71, zcost_at o.1 hst b40 h2 (by omega)] at c2
  obtain ⟨a1, a2, a3⟩ := zput_eff (h := (I7, h.2)) (o.1.w 2 rfl) (m64 hst (by omega) h2 (by omega)) (by omega) c2
  have e16 : zI (I16, h.2) a 1 = zI h a 1 := by
    show I16 a 1 = _
    rw [a1 a (by omega)]; exact e71
  rw [e16]
  have em : (zI h a 1 - 1).toInt = ((B.2 - 1 : Nat) : Int) := by
    rw [i_sub (by rw [hst]; show _ ≤ _ - (1 : Int); omega) (by rw [hst]; show _ - (1 : Int) < _; omega), hst]
    show (B.2 : Int) - 1 = _; omega
  have kI : ∀ j, j ≠ B.2 → ∀ c, c < 64 → Kc (I16, h.2) a j c = Kc h a j c := fun j hj c hc => by
    show (I16 (a + 2) (64 * j + c)).toInt = _
    rw [a2 _ (by omega)]
    show (I7 (a + 2) (64 * j + c)).toInt = _
    rw [g2 _ (by omega)]; rfl
  refine loop1 B.2 (B.2 - 1) _ _ zU zU I16 (by omega) (by omega) em (fun b hb => (a1 b hb).trans (g1 b hb)) (fun j hj c hc => kI j (by omega) c hc) (fun j hj hjn => ?_)
  have ej : j = B.2 := by omega
  subst ej
  intro c hc
  by_cases e : c = to
  · subst e
    have eK : Kc (I16, h.2) a B.2 c = Kc h a B.2 c := by
      show (I16 (a + 2) (64 * B.2 + c)).toInt = _
      rw [a3]; rfl
    exact ⟨fun z => ⟨⟨by omega, by rw [Nat.sub_self, DW_0 (by omega), if_pos rfl]; omega⟩, eK⟩, fun _ => eK⟩
  · have eK : Kc (I16, h.2) a B.2 c = 1000 := by
      show (I16 (a + 2) (64 * B.2 + c)).toInt = _
      rw [a2 _ (by omega)]
      show (I7 (a + 2) (64 * B.2 + c)).toInt = _
      rw [g3 c (by omega)]; rfl
    exact ⟨fun z => by omega, fun oc => absurd (op_goal hW b1 (kpos _ (Nat.le_refl _) _ hc) oc).1 e⟩
end K66
