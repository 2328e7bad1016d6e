set_option maxRecDepth 4000
/-! ===== the reference's way: what is ahead ===== -/
section K68
variable {V T : Nat → Int}
def WM (h : zH) (n : Nat) (V T : Nat → Int) (P : Nat) : Prop := MN h n V ∧ RW h (610 + 318 * n) = V ∧ (zI h 313 36).toInt = (P : Int) ∧ ∀ c, c < 64 → (zI h 330 c).toInt = T c
theorem WM.cg {h : zH} {J : Nat → Nat → Int32} {n P : Nat} (m : WM h n V T P) (e1 : ∀ k, k ≤ 36 → J 313 k = h.1 313 k) (e2 : J 314 = h.1 314) (e3 : J 317 = h.1 317) (e4 : J 330 = h.1 330) : WM (J, h.2) n V T P := by
  obtain ⟨m1, m2, m3, m4⟩ := m
  refine ⟨m1.cg (fun k hk => e1 k (by omega)) e2 (fun k _ => by rw [e3]), ?_, ?_, fun c hc => ?_⟩
  · rw [RWc (show AL (J, h.2) = AL h from e2)]; exact m2
  · show (J 313 36).toInt = _
    rw [e1 36 (by decide)]; exact m3
  · show (J 330 c).toInt = _
    rw [e4]; exact m4 c hc
theorem WM.td {h : zH} {n P : Nat} (m : WM h n V T P) (w : WFN V) (hP : (P : Int) < V 3) {p f : Int32} {F : Nat} (hp : p.toInt = (P : Int)) (hf : f.toInt = (F : Int)) (hF : F < 33) : ztok h 313 p f ∧ (ztold h 313 p f).toInt = pF V P F := by
  have w3 := w.2.2.2.1
  obtain ⟨t1, t2⟩ := m.1.t hp (by omega) hf hF
  refine ⟨t1, ?_⟩
  rw [t2, ← RW_at (by omega), m.2.1]
  show V (120 + 33 * P + F) = _
  rfl
theorem c_newAt (l : Launch) (G : zG) (h : zH) (n P c f s : Nat) (x1 x2 x3 : Int32) (hl : lo11 h 313) (w : WFN V) (m : WM h n V T P) (hP : (P : Int) < V 3) (h1 : x1.toInt = (c : Int)) (hc : c < 64) (h2 : x2.toInt = (f : Int)) (hf : f < 2) (h3 : x3.toInt = (s : Int)) (hs : s < 4) :
    CTi l G YX11_newAt 2 [va_rf (some 313), .int x1, .int x2, .int x3] h (fun y I => y.toInt = pnT T (pF V P 0) f c s ∧ I = h.1) := by
  obtain ⟨t1, t2⟩ := m.td w hP m.2.2.1 (f := 0) (F := 0) rfl (by decide)
  have pw := per_w w hP
  have e1 : ((8 : Int32) * ztold h 313 (zI h 313 36) 0).toInt = 8 * pF V P 0 := by
    rw [i_mul (by rw [t2]; show _ ≤ (8 : Int) * _; omega) (by rw [t2]; show (8 : Int) * _ < _; omega), t2]; rfl
  have e2 : ((4 : Int32) * x2).toInt = 4 * (f : Int) := by
    rw [i_mul (by rw [h2]; show _ ≤ (4 : Int) * _; omega) (by rw [h2]; show (4 : Int) * _ < _; omega), h2]; rfl
  have e3 : ((8 : Int32) * ztold h 313 (zI h 313 36) 0 + 4 * x2).toInt = 8 * pF V P 0 + 4 * (f : Int) := by rw [i_add (by omega) (by omega), e1, e2]
  have e4 : ((8 : Int32) * ztold h 313 (zI h 313 36) 0 + 4 * x2 + x3).toInt = 8 * pF V P 0 + 4 * (f : Int) + (s : Int) := by rw [i_add (by omega) (by omega), e3, h3]
  have e5 : zI h (313 + 17) (zix x1) = zI h 330 c := by rw [zix_of h1]
  have tc := m.2.2.2 c hc
  unfold pnT
  refine kX11_newAt 313 x1 x2 x3 (sX11_newAt_0 313 x1 x2 x3 hl (Nat.le_refl _) ⟨by omega, by show _ < (64 : Int); omega, t1, fun c1 => ⟨_, h.1, rfl, rfl, ?_, rfl⟩, fun c2 => ⟨_, h.1, rfl, rfl, ?_, rfl⟩⟩)
  · rw [e5] at c1
    rw [if_neg (fun z => c1 (i_ext (by rw [tc, e4]; exact z)))]; rfl
  · rw [e5] at c2
    rw [if_pos (by rw [← tc, c2, e4])]; rfl
theorem n_st {h : zH} {n P : Nat} (m : WM h n V T P) : (zofk h 313 0 ∧ (zof h 313 0).toInt = V 0) ∧ (zofk h 313 1 ∧ (zof h 313 1).toInt = V 1) := ⟨m.1.of (w := 0) (W := 0) rfl (by decide), m.1.of (w := 1) (W := 1) rfl (by decide)⟩
theorem c_by (l : Launch) (G : zG) (h : zH) (n P c f s k : Nat) (A : Nat → Nat → Int) (x1 x2 x3 x4 : Int32) (hl : lo11 h 313) (w : WFN V) (m : WM h n V T P) (hP : (P : Int) < V 3) (h1 : x1.toInt = (k : Int)) (hk : k ≤ 40) (h2 : x2.toInt = (c : Int)) (hc : c < nV V) (h3 : x3.toInt = (f : Int)) (hf : f < 2) (h4 : x4.toInt = (s : Int)) (hs : s < 4) (hA : ∀ c, c < nV V → ∀ f, f < 2 → (zI h 331 (128 * k + 2 * c + f)).toInt = A f c ∧ 0 ≤ A f c ∧ A f c ≤ 1000000) :
    CTi l G YX11_by 3 [va_rf (some 313), .int x1, .int x2, .int x3, .int x4] h (fun y I => y.toInt = byW (nxV V (pF V P 1)) (pnT T (pF V P 0)) A f c s ∧ I = h.1) := by
  have nv := nV_eq w
  have pw := per_w w hP
  obtain ⟨t1, t2⟩ := m.td w hP m.2.2.1 (f := 1) (F := 1) rfl (by decide)
  refine kX11_by 313 x1 x2 x3 x4 (sX11_by_0 313 x1 x2 x3 x4 hl (Nat.le_refl _) ⟨t1, ⟨_, c_stepped l G h V x2 x4 _ hl (n_st m).1 (n_st m).2 w.1 w.2.1 (by omega) (by omega) (by omega), fun y10 I8 ⟨z1, z2⟩ => ?_⟩⟩)
  have eI : I8 = h.1 := z2
  subst eI
  have z1' : y10.toInt = nxV V (pF V P 1) c s := by rw [z1, h2, h4, t2]; rfl
  unfold byW
  refine ⟨fun c2 => ?_, fun c4 => ⟨_, h.1, rfl, rfl, ?_, rfl⟩⟩
  · have hn : nxV V (pF V P 1) c s ≠ -1 := fun z => c2 (n_m1.mpr (z1'.trans z))
    rw [if_neg hn]
    obtain ⟨n0, n1⟩ := ((w_ok (T := T) (S := pF V P 0) (d := pF V P 1) w).1 c s hc hs).resolve_left hn
    obtain ⟨n', en⟩ : ∃ n' : Nat, nxV V (pF V P 1) c s = (n' : Int) := ⟨(nxV V (pF V P 1) c s).toNat, by omega⟩
    have e1 : ((1 : Int32) - x3).toInt = ((1 - f : Nat) : Int) := by
      rw [i_sub (by rw [h3]; show _ ≤ (1 : Int) - _; omega) (by rw [h3]; show (1 : Int) - _ < _; omega), h3]
      show (1 : Int) - _ = _; omega
    have e6 : ((128 : Int32) * x1).toInt = 128 * (k : Int) := by
      rw [i_mul (by rw [h1]; show _ ≤ (128 : Int) * _; omega) (by rw [h1]; show (128 : Int) * _ < _; omega), h1]; rfl
    have e7 : ((2 : Int32) * y10).toInt = 2 * (n' : Int) := by
      rw [i_mul (by rw [z1', en]; show _ ≤ (2 : Int) * _; omega) (by rw [z1', en]; show (2 : Int) * _ < _; omega), z1', en]; rfl
    have e8 : (128 * x1 + 2 * y10).toInt = 128 * (k : Int) + 2 * (n' : Int) := by rw [i_add (by omega) (by omega), e6, e7]
    have e9 : (128 * x1 + 2 * y10 + 1).toInt = 128 * (k : Int) + 2 * (n' : Int) + 1 := by
      rw [i_add (by rw [e8]; show _ ≤ _ + (1 : Int); omega) (by rw [e8]; show _ + (1 : Int) < _; omega), e8]; rfl
    have ei : (128 * x1 + 2 * y10 + 1 - x3).toInt = ((128 * k + 2 * n' + (1 - f) : Nat) : Int) := by
      rw [i_sub (by omega) (by omega), e9, h3]; omega
    obtain ⟨v1, v2, v3⟩ := hA n' (by omega) (1 - f) (by omega)
    rw [show (nxV V (pF V P 1) c s).toNat = n' by omega]
    refine ⟨_, c_newAt l G h n P n' (1 - f) s y10 _ x4 hl w m hP (by omega) (by omega) e1 (by omega) h4 hs, fun y23 I21 ⟨q1, q2⟩ => ?_⟩
    have eI2 : I21 = h.1 := q2
    subst eI2
    have pr : 0 ≤ pnT T (pF V P 0) (1 - f) n' s ∧ pnT T (pF V P 0) (1 - f) n' s ≤ 1 := by unfold pnT; split <;> omega
    have ev : (zI h (313 + 18) (zix (128 * x1 + 2 * y10 + 1 - x3))).toInt = A (1 - f) n' := by rw [zix_of ei]; exact v1
    refine ⟨by rw [ei]; omega, by rw [ei]; show _ < (5248 : Int); omega, _, h.1, rfl, rfl, ?_, rfl⟩
    rw [i_add (by rw [q1]; show _ ≤ _ + (zI h (313 + 18) _).toInt; rw [ev]; omega) (by rw [q1]; show _ + (zI h (313 + 18) _).toInt < _; rw [ev]; omega), q1]
    exact congrArg (pnT T (pF V P 0) (1 - f) n' s + ·) ev
  · rw [if_pos (by rw [← z1']; exact n_m1.mp c4)]; rfl
theorem c_first (l : Launch) (G : zG) (h : zH) (n P c s k to : Nat) (x1 x2 x3 : Int32) (hl : lo11 h 313) (w : WFN V) (m : WM h n V T P) (hP : (P : Int) < V 3) (h1 : x1.toInt = (k : Int)) (hk : k ≤ 40) (h2 : x2.toInt = (c : Int)) (hc : c < nV V) (h3 : x3.toInt = (s : Int)) (hs : s < 4) (hA : ∀ c, c < nV V → ∀ f, f < 2 → (zI h 331 (128 * k + 2 * c + f)).toInt = Ah (nxV V (pF V P 1)) (pnT T (pF V P 0)) to k f c) :
    CTi l G YX11_first 4 [va_rf (some 313), .int x1, .int x2, .int x3] h (fun y I => y.toInt = fsW (nxV V (pF V P 1)) (pnT T (pF V P 0)) to c k s ∧ I = h.1) := by
  have nv := nV_eq w
  have ok := w_ok (T := T) (S := pF V P 0) (d := pF V P 1) w
  refine kX11_first 313 x1 x2 x3 (sX11_first_0 313 x1 x2 x3 hl (Nat.le_refl _) ⟨_, (c_newAt l G h n P c 0 s x2 0 x3 hl w m hP h2 (by omega) rfl (by decide) h3 hs), fun y6 I4 ⟨z1, z2⟩ => ?_⟩)
  have eI : I4 = h.1 := z2
  subst eI
  refine ⟨_, c_by l G h n P c 0 s k _ x1 x2 0 x3 hl w m hP h1 hk h2 hc rfl (by decide) h3 hs (fun c hc f hf => ⟨hA c hc f hf, Ah_rng ok k f c⟩), fun y15 I13 ⟨q1, q2⟩ => ⟨_, I13, rfl, rfl, ?_, q2⟩⟩
  have pr : 0 ≤ pnT T (pF V P 0) 0 c s ∧ pnT T (pF V P 0) 0 c s ≤ 1 := by unfold pnT; split <;> omega
  have br : 0 ≤ byW (nxV V (pF V P 1)) (pnT T (pF V P 0)) (Ah (nxV V (pF V P 1)) (pnT T (pF V P 0)) to k) 0 c s ∧ byW (nxV V (pF V P 1)) (pnT T (pF V P 0)) (Ah (nxV V (pF V P 1)) (pnT T (pF V P 0)) to k) 0 c s ≤ 1000001 := by
    unfold byW
    split
    · omega
    · have a1 := Ah_rng (to := to) ok k (1 - 0) (nxV V (pF V P 1) c s).toNat
      have a2 := ok.2 (1 - 0) (nxV V (pF V P 1) c s).toNat s
      omega
  rw [i_add (by omega) (by omega), z1, q1]; rfl
theorem c_solves (l : Launch) (G : zG) (h : zH) (n P to : Nat) (hl : lo11 h 313) (w : WFN V) (m : WM h n V T P) (hP : (P : Int) < V 3) (hg : (zI h 313 37).toInt = (to : Int)) :
    CTv l G YX11_solves 4 [va_rf (some 313)] h (fun I => (∀ b, b ≠ 331 → I b = h.1 b) ∧ ∀ k, k ≤ 40 → ∀ c, c < nV V → ∀ f, f < 2 → (I 331 (128 * k + 2 * c + f)).toInt = Ah (nxV V (pF V P 1)) (pnT T (pF V P 0)) to k f c) := by
  have nv := nV_eq w
  have ok := w_ok (T := T) (S := pF V P 0) (d := pF V P 1) w
  let Fin : (Option Value → zH → Prop) := fun w h1 => ∃ J, w = none ∧ h1 = (J, h.2) ∧ ((∀ b, b ≠ 331 → J b = h.1 b) ∧ ∀ k, k ≤ 40 → ∀ c, c < nV V → ∀ f, f < 2 → (J 331 (128 * k + 2 * c + f)).toInt = Ah (nxV V (pF V P 1)) (pnT T (pF V P 0)) to k f c)
  have loopM : ∀ (fm k : Nat) (x1 : Int32) (u2 u3 u4 u5 : Value) (I : Nat → Nat → Int32), k ≤ 41 → 41 - k < fm → x1.toInt = (k : Int) → (∀ b, b ≠ 331 → I b = h.1 b) → (∀ j, j < k → ∀ c, c < nV V → ∀ f, f < 2 → (I 331 (128 * j + 2 * c + f)).toInt = Ah (nxV V (pF V P 1)) (pnT T (pF V P 0)) to j f c) →
      Z l G mX11_solves 4 Fin 0 0 2 [va_rf (some 313), .int x1, u2, u3, u4, u5] [] (I, h.2) := by
    intro fm
    induction fm with
    | zero => intro k x1 u2 u3 u4 u5 I q1 q2; omega
    | succ fm ihM =>
      intro k x1 u2 u3 u4 u5 I q1 q2 hx e1 e2
      refine sX11_solves_2 (h := (I, h.2)) 313 x1 u2 u3 u4 u5 hl (Nat.le_refl _) ⟨fun c1 => ⟨I, rfl, rfl, e1, fun j hj => e2 j (by have : (40 : Int) < x1.toInt := c1; omega)⟩, fun c2 => ?_⟩
      have hk : k ≤ 40 := by have : x1.toInt ≤ (40 : Int) := c2; omega
      have loopK : ∀ (fk j : Nat) (x2 : Int32) (u3 u4 u5 : Value) (J : Nat → Nat → Int32), j ≤ 2 * nV V → 2 * nV V - j < fk → x2.toInt = (j : Int) → (∀ b, b ≠ 331 → J b = h.1 b) → (∀ i, i < k → ∀ c, c < nV V → ∀ f, f < 2 → (J 331 (128 * i + 2 * c + f)).toInt = Ah (nxV V (pF V P 1)) (pnT T (pF V P 0)) to i f c) → (∀ c, c < nV V → ∀ f, f < 2 → 2 * c + f < j → (J 331 (128 * k + 2 * c + f)).toInt = Ah (nxV V (pF V P 1)) (pnT T (pF V P 0)) to k f c) →
          Z l G mX11_solves 4 Fin 0 0 10 [va_rf (some 313), .int x1, .int x2, u3, u4, u5] [] (J, h.2) := by
        intro fk
        induction fk with
        | zero => intro j x2 u3 u4 u5 J q3 q4; omega
        | succ fk ihK =>
          intro j x2 u3 u4 u5 J q3 q4 hx2 f1 f2 f3
          have mJ : WM (J, h.2) n V T P := m.cg (fun k _ => by rw [f1 313 (by decide)]) (f1 314 (by decide)) (f1 317 (by decide)) (f1 330 (by decide))
          obtain ⟨zk, zc⟩ := zcel_at mJ.1 w
          rw [nv.1] at zc
          have e2c : ((2 : Int32) * zcel (J, h.2) 313).toInt = 2 * (nV V : Int) := by
            rw [i_mul (by rw [zc]; show _ ≤ (2 : Int) * _; omega) (by rw [zc]; show (2 : Int) * _ < _; omega), zc]; rfl
          obtain ⟨c, f, hf, ej⟩ : ∃ c f, f < 2 ∧ j = 2 * c + f := ⟨j / 2, j % 2, by omega, by omega⟩
          have ed : (x2 / 2).toInt = (c : Int) := by rw [n_div (by omega) (by decide), hx2]; show (j : Int) / 2 = _; omega
          have er : (zrem x2 2).toInt = (f : Int) := by rw [rem2 hx2]; omega
          have e128 : (128 * x1 + x2).toInt = ((128 * k + 2 * c + f : Nat) : Int) := by
            have : ((128 : Int32) * x1).toInt = 128 * (k : Int) := by
              rw [i_mul (by rw [hx]; show _ ≤ (128 : Int) * _; omega) (by rw [hx]; show (128 : Int) * _ < _; omega), hx]; rfl
            rw [i_add (by omega) (by omega), this, hx2]; omega
          have write : j < 2 * nV V → ∀ (x3 : Int32) (u4 u5 : Value) (I6 : Nat → Nat → Int32), x3.toInt = Ah (nxV V (pF V P 1)) (pnT T (pF V P 0)) to k f c → I6 = (zwI (J, h.2) (313 + 18) (zix (128 * x1 + x2)) x3).1 →
              Z l G mX11_solves 4 Fin 0 0 10 [va_rf (some 313), .int x1, .int (x2 + 1), .int x3, u4, u5] [] (I6, h.2) := by
            intro hj x3 u4 u5 I6 hv c5
            rw [zix_of e128] at c5
            obtain ⟨a1, a2, a3⟩ := zwI_eff c5
            refine ihK (j + 1) _ _ _ _ I6 (by omega) (by omega) (i_1 hx2 (by omega)) (fun b hb => (a1 b hb).trans (f1 b hb)) (fun i hi c' hc' f' hf' => ?_) (fun c' hc' f' hf' hlt => ?_)
            · rw [show I6 331 (128 * i + 2 * c' + f') = J 331 (128 * i + 2 * c' + f') from a2 _ (by omega)]; exact f2 i hi c' hc' f' hf'
            · by_cases e : 2 * c' + f' = j
              · have ec : c' = c := by omega
                have eff : f' = f := by omega
                rw [ec, eff, show I6 331 (128 * k + 2 * c + f) = x3 from a3]; exact hv
              · rw [show I6 331 (128 * k + 2 * c' + f') = J 331 (128 * k + 2 * c' + f') from a2 _ (by omega)]; exact f3 c' hc' f' hf' (by omega)
          refine sX11_solves_10 (h := (J, h.2)) 313 x1 x2 u3 u4 u5 hl (Nat.le_refl _) ⟨zk, fun c1 => ?_, fun c2 => ?_⟩
          · refine ihM (k + 1) _ _ _ _ _ J (by omega) (by omega) (i_1 hx (by omega)) f1 (fun i hi c' hc' f' hf' => ?_)
            by_cases e : i = k
            · subst e; exact f3 c' hc' f' hf' (by omega)
            · exact f2 i (by omega) c' hc' f' hf'
          · have hj : j < 2 * nV V := by omega
            have i0 : (0 : Int) ≤ (128 * x1 + x2).toInt := by omega
            have i1 : (128 * x1 + x2).toInt < ((5248 : Nat) : Int) := by omega
            have gJ : (zI (J, h.2) 313 37).toInt = (to : Int) := by show (J 313 37).toInt = _; rw [f1 313 (by decide)]; exact hg
            refine ⟨fun c3 => ?_, fun c4 => ⟨fun c5 => ?_, fun c6 => ?_⟩⟩
            · have k0 : 0 < k := Nat.pos_of_ne_zero fun z => c3 (n_m0.mpr (by omega))
              have loopS : ∀ (fs s : Nat) (x3 x4 : Int32) (u5 : Value), s ≤ 4 → 4 - s < fs → x4.toInt = (s : Int) → x3.toInt = mnS (fun s => byW (nxV V (pF V P 1)) (pnT T (pF V P 0)) (Ah (nxV V (pF V P 1)) (pnT T (pF V P 0)) to (k - 1)) f c s) s →
                  Z l G mX11_solves 4 Fin 0 0 45 [va_rf (some 313), .int x1, .int x2, .int x3, .int x4, u5] [] (J, h.2) := by
                intro fs
                induction fs with
                | zero => intro s x3 x4 u5 q5 q6; omega
                | succ fs ihS =>
                  intro s x3 x4 u5 q5 q6 hs hv
                  have e1x : (x1 - 1).toInt = ((k - 1 : Nat) : Int) := by
                    rw [i_sub (by rw [hx]; show _ ≤ _ - (1 : Int); omega) (by rw [hx]; show _ - (1 : Int) < _; omega), hx]
                    show (k : Int) - 1 = _; omega
                  refine sX11_solves_45 (h := (J, h.2)) 313 x1 x2 x3 x4 u5 hl (Nat.le_refl _) ⟨fun c1 => ⟨i0, i1, fun I6 c2 => write hj x3 _ _ I6 ?_ c2⟩, fun c3' => ⟨fun c4 => absurd c4 (by rw [hx]; show ¬ (k : Int) ≤ 0; omega), fun c6 => ⟨_, c_by l G (J, h.2) n P c f s (k - 1) _ _ _ _ x4 hl w mJ hP e1x (by omega) ed (by omega) er hf hs (by omega) (fun c' hc' f' hf' => ⟨f2 (k - 1) (by omega) c' hc' f' hf', Ah_rng ok _ _ _⟩), fun y22 I20 ⟨z1, z2⟩ => ?_⟩⟩⟩
                  · have e4 : s = 4 := by have : (4 : Int) ≤ x4.toInt := c1; omega
                    rw [hv, e4]
                    obtain ⟨k', hk'⟩ : ∃ k', k = k' + 1 := ⟨k - 1, by omega⟩
                    subst hk'
                    rfl
                  · have eI : I20 = J := z2
                    subst eI
                    have stp : mnS (fun s => byW (nxV V (pF V P 1)) (pnT T (pF V P 0)) (Ah (nxV V (pF V P 1)) (pnT T (pF V P 0)) to (k - 1)) f c s) (s + 1) = if byW (nxV V (pF V P 1)) (pnT T (pF V P 0)) (Ah (nxV V (pF V P 1)) (pnT T (pF V P 0)) to (k - 1)) f c s < mnS (fun s => byW (nxV V (pF V P 1)) (pnT T (pF V P 0)) (Ah (nxV V (pF V P 1)) (pnT T (pF V P 0)) to (k - 1)) f c s) s then byW (nxV V (pF V P 1)) (pnT T (pF V P 0)) (Ah (nxV V (pF V P 1)) (pnT T (pF V P 0)) to (k - 1)) f c s else mnS (fun s => byW (nxV V (pF V P 1)) (pnT T (pF V P 0)) (Ah (nxV V (pF V P 1)) (pnT T (pF V P 0)) to (k - 1)) f c s) s := rfl
                    refine ⟨fun c8 => ihS (s + 1) _ _ _ (by omega) (by omega) (i_1 hs (by omega)) ?_, fun c9 => ihS (s + 1) _ _ _ (by omega) (by omega) (i_1 hs (by omega)) ?_⟩
                    · rw [stp, if_neg (by omega)]; exact hv
                    · rw [stp, if_pos (by omega)]; exact z1
              exact loopS 5 0 1000000 0 u5 (by omega) (by omega) rfl rfl
            · have k0 : k = 0 := by have := n_m0.mp c4; omega
              refine sX11_solves_45 (h := (J, h.2)) 313 x1 x2 1000000 0 u5 hl (Nat.le_refl _) ⟨fun c1 => absurd c1 (by decide), fun _ => ⟨fun _ => ⟨i0, i1, fun I14 c' => write hj 1000000 _ _ I14 ?_ c'⟩, fun c6 => absurd c6 (by rw [hx]; show ¬ 0 < (k : Int); omega)⟩⟩
              rw [k0]
              show (1000000 : Int32).toInt = if c = to then (0 : Int) else 1000000
              rw [if_neg (fun z => c5 (i_ext (by rw [ed, gJ, z])))]; rfl
            · have k0 : k = 0 := by have := n_m0.mp c4; omega
              refine sX11_solves_45 (h := (J, h.2)) 313 x1 x2 0 0 u5 hl (Nat.le_refl _) ⟨fun c1 => absurd c1 (by decide), fun _ => ⟨fun _ => ⟨i0, i1, fun I14 c' => write hj 0 _ _ I14 ?_ c'⟩, fun c6 => absurd c6 (by rw [hx]; show ¬ 0 < (k : Int); omega)⟩⟩
              rw [k0]
              show (0 : Int32).toInt = if c = to then (0 : Int) else 1000000
              have : (x2 / 2).toInt = (zI (J, h.2) 313 37).toInt := by rw [c6]
              rw [if_pos (by omega)]; rfl
      exact loopK (2 * nV V + 1) 0 0 u3 u4 u5 I (by omega) (by omega) rfl e1 e2 (fun c hc f hf hlt => by omega)
  exact kX11_solves 313 (sX11_solves_0 313 hl (Nat.le_refl _) (loopM 42 0 0 zU zU zU zU h.1 (by omega) (by omega) rfl (fun _ _ => rfl) (fun j hj => by omega)))
end K68
