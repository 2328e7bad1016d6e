set_option maxRecDepth 4000
/-! ===== a way once gone: the reference ===== -/
section K72
variable {V T : Nat → Int}
theorem c_lays (l : Launch) (G : zG) (h : zH) (n P fr to : Nat) (x1 : Int32) (hl : lo11 h 313) (w : WFN V) (m : WM h n V T P) (hP : (P : Int) < V 3) (h1 : x1.toInt = (fr : Int)) (hfr : fr < nV V) (hW : (wyP V T (pF V P 0) (pF V P 1) fr to).1 < 1000000) (r : MwR h V T (pF V P 0) (pF V P 1) fr to) :
    CTv l G YX11_lays 3 [va_rf (some 313), .int x1] h (fun I => (∀ b, b ≠ 330 → b ≠ 333 → I b = h.1 b) ∧ ∀ c, c < 64 → (I 330 c).toInt = tlT V T (pF V P 0) (pF V P 1) fr to c) := by
  have nv := nV_eq w
  have ok := w_ok (T := T) (S := pF V P 0) (d := pF V P 1) w
  have pw := per_w w hP
  have wr := wyP_rng (V := V) (T := T) (S := pF V P 0) (d := pF V P 1) (fr := fr) (to := to) w
  obtain ⟨r0, r1, r2⟩ := r
  have w0 := wyP_0 w hW
  unfold tlT
  generalize hn : (wyP V T (pF V P 0) (pF V P 1) fr to).2 = nn at r1 r2 w0 wr ⊢
  refine kX11_lays 313 x1 (sX11_lays_0 313 x1 hl (Nat.le_refl _) ⟨fun c1 => ?_, fun c2 => ⟨h.1, rfl, rfl, fun _ _ _ => rfl, fun c hc => ?_⟩⟩)
  · have hn0 : nn ≠ 0 := fun z => c1 (n_m0.mpr (by rw [r1, z]; rfl))
    rw [if_neg hn0]
    have hD := w0.resolve_left hn0
    have cw := fun i hi => cwW_spec ok hfr hD i hi
    have sd := fun i (hi : i < nn) => sdW_spec ok hi (cw i (by omega)).2
    have en : ∀ i, i < nn → nxV V (pF V P 1) (cwW (nxV V (pF V P 1)) (pnT T (pF V P 0)) to nn fr i) (skW (nxV V (pF V P 1)) (pnT T (pF V P 0)) to nn fr i) = (cwW (nxV V (pF V P 1)) (pnT T (pF V P 0)) to nn fr (i + 1) : Int) := fun i hi => by
      have := (ok.1 _ _ (cw i (by omega)).1 (sd i hi).1).resolve_left (sd i hi).2.1
      exact (Int.toNat_of_nonneg this.1).symm
    have s4 : ∀ i, i < nn → skW (nxV V (pF V P 1)) (pnT T (pF V P 0)) to nn fr i < 4 := fun i hi => (sd i hi).1
    let Fin : (Option Value → zH → Prop) := fun w h1 => ∃ J, w = none ∧ h1 = (J, h.2) ∧ ((∀ b, b ≠ 330 → b ≠ 333 → J b = h.1 b) ∧ ∀ c, c < 64 → (J 330 c).toInt = ldT V T (pF V P 0) (pF V P 1) to nn fr (nn + 1) c)
    have e39 : ∀ K : Nat → Nat → Int32, (∀ b, b ≠ 330 → b ≠ 333 → K b = h.1 b) → (zI (K, h.2) 313 39).toInt = (nn : Int) := fun K e => by show (K 313 39).toInt = _; rw [e 313 (by decide) (by decide)]; exact r1
    have esd : ∀ K : Nat → Nat → Int32, (∀ b, b ≠ 330 → b ≠ 333 → K b = h.1 b) → ∀ (x : Int32) (k : Nat), x.toInt = (k : Int) → k < nn → (zI (K, h.2) (313 + 19) (zix x)).toInt = (skW (nxV V (pF V P 1)) (pnT T (pF V P 0)) to nn fr k : Int) := fun K e x k hx hk => by
      rw [zix_of hx]
      show (K 332 k).toInt = _
      rw [e 332 (by decide) (by decide)]; exact r2 k hk
    have mW : ∀ (K : Nat → Nat → Int32) (T' : Nat → Int), (∀ b, b ≠ 330 → b ≠ 333 → K b = h.1 b) → (∀ c, c < 64 → (K 330 c).toInt = T' c) → WM (K, h.2) n V T' P := fun K T' e eT => by
      obtain ⟨m1, m2, m3, m4⟩ := m
      refine ⟨m1.cg (fun k _ => by rw [e 313 (by decide) (by decide)]) (e 314 (by decide) (by decide)) (fun k _ => by rw [e 317 (by decide) (by decide)]), ?_, ?_, eT⟩
      · rw [RWc (show AL (K, h.2) = AL h from e 314 (by decide) (by decide))]; exact m2
      · show (K 313 36).toInt = _; rw [e 313 (by decide) (by decide)]; exact m3
    have fr1 : ∀ k, pnT T (pF V P 0) (k % 2) (cwW (nxV V (pF V P 1)) (pnT T (pF V P 0)) to nn fr k) (skW (nxV V (pF V P 1)) (pnT T (pF V P 0)) to nn fr (k - 1)) = if T (cwW (nxV V (pF V P 1)) (pnT T (pF V P 0)) to nn fr k) = 8 * pF V P 0 + 4 * ((k % 2 : Nat) : Int) + (skW (nxV V (pF V P 1)) (pnT T (pF V P 0)) to nn fr (k - 1) : Int) then 0 else 1 := fun k => rfl
    have loop2 : ∀ (Kf : Nat → Int32), (∀ k, k ≤ nn → (Kf k).toInt = pnT T (pF V P 0) (k % 2) (cwW (nxV V (pF V P 1)) (pnT T (pF V P 0)) to nn fr k) (skW (nxV V (pF V P 1)) (pnT T (pF V P 0)) to nn fr (k - 1))) → ∀ (fu k : Nat) (x2 x3 : Int32) (J : Nat → Nat → Int32), k ≤ nn + 1 → nn + 1 - k < fu → x3.toInt = (k : Int) → x2.toInt = (cwW (nxV V (pF V P 1)) (pnT T (pF V P 0)) to nn fr (k - 1) : Int) → (∀ b, b ≠ 330 → b ≠ 333 → J b = h.1 b) → J 333 = Kf → (∀ c, c < 64 → (J 330 c).toInt = ldT V T (pF V P 0) (pF V P 1) to nn fr k c) →
        Z l G mX11_lays 3 Fin 0 0 96 [va_rf (some 313), .int x1, .int x2, .int x3] [] (J, h.2) := by
      intro Kf hKf fu
      induction fu with
      | zero => intro k x2 x3 J q1 q2; omega
      | succ fu ih =>
        intro k x2 x3 J q1 q2 h3 h2 e1 e33 e2
        have e9 := e39 J e1
        have mJ := mW J _ e1 e2
        refine sX11_lays_96 (h := (J, h.2)) 313 x1 x2 x3 hl (Nat.le_refl _) ⟨fun c1 => ⟨J, rfl, rfl, e1, fun c hc => ?_⟩, fun c2 => ?_⟩
        · have ek : k = nn + 1 := by omega
          rw [e2 c hc, ek]
        · have hk : k ≤ nn := by omega
          have f0 : zI (J, h.2) (313 + 20) (zix x3) = Kf k := by
            rw [zix_of h3]
            show J 333 k = _
            rw [e33]
          have fk := hKf k hk
          have cwk := cw k hk
          -- one print
          have press : ∀ (c2' : Int32) (v : Int32) (K : Nat → Nat → Int32), c2'.toInt = (cwW (nxV V (pF V P 1)) (pnT T (pF V P 0)) to nn fr k : Int) → v.toInt = 8 * pF V P 0 + 4 * ((k % 2 : Nat) : Int) + (skW (nxV V (pF V P 1)) (pnT T (pF V P 0)) to nn fr (k - 1) : Int) → ¬ Kf k = 0 → K = (zwI (J, h.2) (313 + 17) (zix c2') v).1 →
              Z l G mX11_lays 3 Fin 0 0 96 [va_rf (some 313), .int x1, .int c2', .int (x3 + 1)] [] (K, h.2) := fun c2' v K hc2 hv nz eK => by
            rw [zix_of hc2] at eK
            obtain ⟨a1, a2, a3⟩ := zwI_eff eK
            refine ih (k + 1) c2' _ K (by omega) (by omega) (i_1 h3 (by omega)) hc2 (fun b z1 z2 => (a1 b z1).trans (e1 b z1 z2)) ((a1 333 (by decide)).trans e33) (fun c hc => ?_)
            have ne : T (cwW (nxV V (pF V P 1)) (pnT T (pF V P 0)) to nn fr k) ≠ 8 * pF V P 0 + 4 * ((k % 2 : Nat) : Int) + (skW (nxV V (pF V P 1)) (pnT T (pF V P 0)) to nn fr (k - 1) : Int) := fun z => nz (n_m0.mpr (by rw [fk, fr1, if_pos z]))
            show _ = (if c = _ ∧ _ then _ else _)
            by_cases e : c = cwW (nxV V (pF V P 1)) (pnT T (pF V P 0)) to nn fr k
            · subst e
              rw [if_pos ⟨rfl, ne⟩, show K 330 _ = v from a3]; exact hv
            · rw [if_neg (fun z => e z.1), show K 330 c = J 330 c from a2 c e]; exact e2 c hc
          have skip : ∀ (c2' : Int32), c2'.toInt = (cwW (nxV V (pF V P 1)) (pnT T (pF V P 0)) to nn fr k : Int) → Kf k = 0 → Z l G mX11_lays 3 Fin 0 0 96 [va_rf (some 313), .int x1, .int c2', .int (x3 + 1)] [] (J, h.2) := fun c2' hc2 z => by
            refine ih (k + 1) c2' _ J (by omega) (by omega) (i_1 h3 (by omega)) hc2 e1 e33 (fun c hc => ?_)
            have e : T (cwW (nxV V (pF V P 1)) (pnT T (pF V P 0)) to nn fr k) = 8 * pF V P 0 + 4 * ((k % 2 : Nat) : Int) + (skW (nxV V (pF V P 1)) (pnT T (pF V P 0)) to nn fr (k - 1) : Int) := Decidable.byContradiction fun q => by
              rw [fr1, if_neg q, z] at fk
              exact absurd fk (by decide)
            show _ = (if c = _ ∧ _ then _ else _)
            rw [if_neg (fun q => q.2 (by rw [q.1]; exact e))]
            exact e2 c hc
          have td0 := mJ.td w hP mJ.2.2.1 (f := 0) (F := 0) rfl (by decide)
          have td1 := mJ.td w hP mJ.2.2.1 (f := 1) (F := 1) rfl (by decide)
          have val : ∀ (s : Int32), s.toInt = (skW (nxV V (pF V P 1)) (pnT T (pF V P 0)) to nn fr (k - 1) : Int) → skW (nxV V (pF V P 1)) (pnT T (pF V P 0)) to nn fr (k - 1) < 4 → (((8 * ztold (J, h.2) 313 (zI (J, h.2) 313 36) 0) + (4 * zrem x3 2)) + s).toInt = 8 * pF V P 0 + 4 * ((k % 2 : Nat) : Int) + (skW (nxV V (pF V P 1)) (pnT T (pF V P 0)) to nn fr (k - 1) : Int) := fun s hs hs4 => by
            have t2 := td0.2
            have e1 : ((8 : Int32) * ztold (J, h.2) 313 (zI (J, h.2) 313 36) 0).toInt = 8 * pF V P 0 := by
              rw [i_mul (by rw [t2]; show _ ≤ (8 : Int) * _; omega) (by rw [t2]; show (8 : Int) * _ < _; omega), t2]; rfl
            have r2' := rem2 h3
            have e2 : ((4 : Int32) * zrem x3 2).toInt = 4 * ((k % 2 : Nat) : Int) := by
              rw [i_mul (by rw [r2']; show _ ≤ (4 : Int) * _; omega) (by rw [r2']; show (4 : Int) * _ < _; omega), r2']; rfl
            have e3 : ((8 : Int32) * ztold (J, h.2) 313 (zI (J, h.2) 313 36) 0 + 4 * zrem x3 2).toInt = 8 * pF V P 0 + 4 * ((k % 2 : Nat) : Int) := by rw [i_add (by omega) (by omega), e1, e2]
            rw [i_add (by omega) (by omega), e3, hs]
          refine ⟨fun c3 => ?_, fun c10 => ?_⟩
          · have c3' : x3.toInt ≤ 0 := c3
            have k0 : k = 0 := by omega
            subst k0
            have x30 : x3 = 0 := n_m0.mpr h3
            replace h2 : x2.toInt = (cwW (nxV V (pF V P 1)) (pnT T (pF V P 0)) to nn fr 0 : Int) := h2
            have c64 : cwW (nxV V (pF V P 1)) (pnT T (pF V P 0)) to nn fr 0 < 64 := by have := cwk.1; omega
            refine ⟨by omega, by show _ < (41 : Int); omega, fun c4 => skip x2 h2 (by rw [← f0]; exact c4), fun c5 => ⟨td0.1, fun c6 => absurd x30 c6, fun c8 => ⟨by omega, by show _ < (64 : Int); omega, fun I29 c9 => press x2 _ I29 h2 (val _ (esd J e1 0 0 rfl (by omega)) (s4 0 (by omega))) (by rw [← f0]; exact c5) c9⟩⟩⟩
          · have c10' : 0 < x3.toInt := c10
            have k0 : 0 < k := by omega
            have em : (x3 - 1).toInt = ((k - 1 : Nat) : Int) := by
              rw [i_sub (by rw [h3]; show _ ≤ _ - (1 : Int); omega) (by rw [h3]; show _ - (1 : Int) < _; omega), h3]
              show (k : Int) - 1 = _; omega
            have es := esd J e1 _ _ em (by omega)
            have s4k := s4 (k - 1) (by omega)
            refine ⟨by omega, by rw [em]; show _ < (41 : Int); omega, td1.1, ⟨_, c_stepped l G (J, h.2) V x2 _ _ hl (n_st mJ).1 (n_st mJ).2 w.1 w.2.1 (by have := (cw (k - 1) (by omega)).1; omega) (by omega) (by rw [td1.2]; omega), fun y42 I40 ⟨z1, z2⟩ => ?_⟩⟩
            have eI : I40 = J := z2
            subst eI
            have ey : y42.toInt = (cwW (nxV V (pF V P 1)) (pnT T (pF V P 0)) to nn fr k : Int) := by
              rw [z1, h2, es, td1.2]
              have := en (k - 1) (by omega)
              rw [show k - 1 + 1 = k by omega] at this
              exact this
            refine ⟨by omega, by show _ < (41 : Int); omega, fun c12 => skip y42 ey (by rw [← f0]; exact c12), fun c13 => ⟨td0.1, fun c14 => ⟨by omega, by rw [em]; show _ < (41 : Int); omega, by omega, by have := cwk.1; show _ < (64 : Int); omega, fun I61 c15 => press y42 _ I61 ey (val _ es s4k) (by rw [← f0]; exact c13) c15⟩, fun c16 => absurd (n_m0.mp c16) (by omega)⟩⟩
    have loop1 : ∀ (fu k : Nat) (x2 x3 : Int32) (J : Nat → Nat → Int32), k ≤ nn + 1 → nn + 1 - k < fu → x3.toInt = (k : Int) → x2.toInt = (cwW (nxV V (pF V P 1)) (pnT T (pF V P 0)) to nn fr (k - 1) : Int) → (∀ b, b ≠ 333 → J b = h.1 b) → (∀ j, j < k → (J 333 j).toInt = pnT T (pF V P 0) (j % 2) (cwW (nxV V (pF V P 1)) (pnT T (pF V P 0)) to nn fr j) (skW (nxV V (pF V P 1)) (pnT T (pF V P 0)) to nn fr (j - 1))) →
        Z l G mX11_lays 3 Fin 0 0 12 [va_rf (some 313), .int x1, .int x2, .int x3] [] (J, h.2) := by
      intro fu
      induction fu with
      | zero => intro k x2 x3 J q1 q2; omega
      | succ fu ih =>
        intro k x2 x3 J q1 q2 h3 h2 e1 e2
        have e1' : ∀ b, b ≠ 330 → b ≠ 333 → J b = h.1 b := fun b _ z2 => e1 b z2
        have e9 := e39 J e1'
        have mJ : WM (J, h.2) n V T P := mW J _ e1' (fun c hc => by rw [e1 330 (by decide)]; exact m.2.2.2 c hc)
        refine sX11_lays_12 (h := (J, h.2)) 313 x1 x2 x3 hl (Nat.le_refl _) ⟨fun c1 => ?_, fun c2 => ?_⟩
        · refine loop2 (J 333) (fun j hj => e2 j (by omega)) (nn + 2) 0 x1 0 J (by omega) (by omega) rfl h1 e1' rfl (fun c hc => ?_)
          rw [e1 330 (by decide)]; exact m.2.2.2 c hc
        · have hk : k ≤ nn := by omega
          have cwk := cw k hk
          have stp : ∀ (c2' v : Int32) (K : Nat → Nat → Int32), c2'.toInt = (cwW (nxV V (pF V P 1)) (pnT T (pF V P 0)) to nn fr k : Int) → v.toInt = pnT T (pF V P 0) (k % 2) (cwW (nxV V (pF V P 1)) (pnT T (pF V P 0)) to nn fr k) (skW (nxV V (pF V P 1)) (pnT T (pF V P 0)) to nn fr (k - 1)) → K = (zwI (J, h.2) (313 + 20) (zix x3) v).1 →
              Z l G mX11_lays 3 Fin 0 0 12 [va_rf (some 313), .int x1, .int c2', .int (x3 + 1)] [] (K, h.2) := fun c2' v K hc2 hv eK => by
            rw [zix_of h3] at eK
            obtain ⟨a1, a2, a3⟩ := zwI_eff eK
            refine ih (k + 1) c2' _ K (by omega) (by omega) (i_1 h3 (by omega)) hc2 (fun b hb => (a1 b hb).trans (e1 b hb)) (fun j hj => ?_)
            by_cases e : j = k
            · subst e; rw [show K 333 j = v from a3]; exact hv
            · rw [show K 333 j = J 333 j from a2 j e]; exact e2 j (by omega)
          have both : ∀ (y : Int32), y.toInt = pnT T (pF V P 0) (k % 2) (cwW (nxV V (pF V P 1)) (pnT T (pF V P 0)) to nn fr k) (skW (nxV V (pF V P 1)) (pnT T (pF V P 0)) to nn fr (k - 1)) → (¬ y = 1 → (0 : Int32).toInt = pnT T (pF V P 0) (k % 2) (cwW (nxV V (pF V P 1)) (pnT T (pF V P 0)) to nn fr k) (skW (nxV V (pF V P 1)) (pnT T (pF V P 0)) to nn fr (k - 1))) ∧ (y = 1 → (1 : Int32).toInt = pnT T (pF V P 0) (k % 2) (cwW (nxV V (pF V P 1)) (pnT T (pF V P 0)) to nn fr k) (skW (nxV V (pF V P 1)) (pnT T (pF V P 0)) to nn fr (k - 1))) := fun y hy => by
            refine ⟨fun z => ?_, fun z => by rw [← hy, z]⟩
            have b := ok.2 (k % 2) (cwW (nxV V (pF V P 1)) (pnT T (pF V P 0)) to nn fr k) (skW (nxV V (pF V P 1)) (pnT T (pF V P 0)) to nn fr (k - 1))
            have y1 : y.toInt ≠ 1 := fun q => z (i_ext q)
            show (0 : Int) = _; omega
          have i0 : 0 ≤ x3.toInt := by omega
          have i1 : x3.toInt < ((41 : Nat) : Int) := by show _ < (41 : Int); omega
          refine ⟨fun c3 => ?_, fun c16 => ?_⟩
          · have c3' : x3.toInt ≤ 0 := c3
            have k0 : k = 0 := by omega
            subst k0
            have x30 : x3 = 0 := n_m0.mpr h3
            replace h2 : x2.toInt = (cwW (nxV V (pF V P 1)) (pnT T (pF V P 0)) to nn fr 0 : Int) := h2
            have c64 : cwW (nxV V (pF V P 1)) (pnT T (pF V P 0)) to nn fr 0 < 64 := by have := cwk.1; omega
            refine ⟨fun c4 => absurd x30 c4, fun c10 => ⟨_, c_newAt l G (J, h.2) n P _ 0 (skW (nxV V (pF V P 1)) (pnT T (pF V P 0)) to nn fr 0) x2 _ _ hl w mJ hP h2 c64 (rem2 h3) (by decide) (esd J e1' 0 0 rfl (by omega)) (s4 0 (by omega)), fun y41 I39 ⟨z1, z2⟩ => ?_⟩⟩
            have eI : I39 = J := z2
            subst eI
            exact ⟨fun c12 => ⟨i0, i1, fun I50 c13 => stp x2 _ I50 h2 ((both y41 z1).1 c12) c13⟩, fun c14 => ⟨i0, i1, fun I54 c15 => stp x2 _ I54 h2 ((both y41 z1).2 c14) c15⟩⟩
          · have c16' : 0 < x3.toInt := c16
            have k0 : 0 < k := by omega
            have em : (x3 - 1).toInt = ((k - 1 : Nat) : Int) := by
              rw [i_sub (by rw [h3]; show _ ≤ _ - (1 : Int); omega) (by rw [h3]; show _ - (1 : Int) < _; omega), h3]
              show (k : Int) - 1 = _; omega
            have es := esd J e1' _ _ em (by omega)
            have s4k := s4 (k - 1) (by omega)
            have td1 := mJ.td w hP mJ.2.2.1 (f := 1) (F := 1) rfl (by decide)
            refine ⟨by omega, by rw [em]; show _ < (41 : Int); omega, td1.1, ⟨_, c_stepped l G (J, h.2) V x2 _ _ hl (n_st mJ).1 (n_st mJ).2 w.1 w.2.1 (by have := (cw (k - 1) (by omega)).1; omega) (by omega) (by rw [td1.2]; omega), fun y67 I65 ⟨z1, z2⟩ => ?_⟩⟩
            have eI : I65 = J := z2
            subst eI
            have ey : y67.toInt = (cwW (nxV V (pF V P 1)) (pnT T (pF V P 0)) to nn fr k : Int) := by
              rw [z1, h2, es, td1.2]
              have := en (k - 1) (by omega)
              rw [show k - 1 + 1 = k by omega] at this
              exact this
            refine ⟨fun c18 => ⟨by omega, by rw [em]; show _ < (41 : Int); omega, ⟨_, c_newAt l G (I65, h.2) n P _ (k % 2) _ y67 _ _ hl w mJ hP ey (by have := cwk.1; omega) (rem2 h3) (by omega) es s4k, fun y81 I79 ⟨v1, v2⟩ => ?_⟩⟩, fun c24 => absurd (n_m0.mp c24) (by omega)⟩
            have eI2 : I79 = I65 := v2
            subst eI2
            exact ⟨fun c20 => ⟨i0, i1, fun I90 c21 => stp y67 _ I90 ey ((both y81 v1).1 c20) c21⟩, fun c22 => ⟨i0, i1, fun I94 c23 => stp y67 _ I94 ey ((both y81 v1).2 c22) c23⟩⟩
    exact loop1 (nn + 2) 0 x1 0 h.1 (by omega) (by omega) rfl h1 (fun _ _ => rfl) (fun j hj => by omega)
  · have hn0 : nn = 0 := by have := n_m0.mp c2; omega
    rw [if_pos hn0]; exact m.2.2.2 c hc
end K72
