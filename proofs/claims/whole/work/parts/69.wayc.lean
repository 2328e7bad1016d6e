set_option maxRecDepth 4000
/-! ===== the reference's way: found and traced ===== -/
section K69
variable {V T : Nat → Int}
def WM0 (h : zH) (n : Nat) (V T : Nat → Int) : Prop := MN h n V ∧ RW h (610 + 318 * n) = V ∧ ∀ c, c < 64 → (zI h 330 c).toInt = T c
theorem WM0.cg {h : zH} {J : Nat → Nat → Int32} {n : Nat} (m : WM0 h n V T) (e1 : ∀ k, k ≤ 35 → J 313 k = h.1 313 k) (e2 : J 314 = h.1 314) (e3 : J 317 = h.1 317) (e4 : J 330 = h.1 330) : WM0 (J, h.2) n V T := by
  obtain ⟨m1, m2, m4⟩ := m
  refine ⟨m1.cg (fun k hk => e1 k (by omega)) e2 (fun k _ => by rw [e3]), ?_, fun c hc => ?_⟩
  · rw [RWc (show AL (J, h.2) = AL h from e2)]; exact m2
  · show (J 330 c).toInt = _
    rw [e4]; exact m4 c hc
theorem val_sv {nx : Nat → Nat → Int} {pn : Nat → Nat → Nat → Int} {to N n k c s : Nat} (ok : WPok nx pn N) (hk : k < n) (hD : DW nx pn to k c (n - k) < 1000000) : ((if k = 0 then pn 0 c s else 0) + byW nx pn (Ah nx pn to (n - (k + 1))) (k % 2) c s = DW nx pn to k c (n - k)) ↔ svW nx pn to n k c s = true := by
  unfold svW
  rw [decide_eq_true_iff]
  by_cases e : nx c s = -1
  · have e9 : byW nx pn (Ah nx pn to (n - (k + 1))) (k % 2) c s = 1000000 := if_pos e
    have b := (ok.2 0 c s).1
    rw [e9]
    refine ⟨fun z => ?_, fun z => absurd e z.1⟩
    split at z <;> omega
  · rw [DW_one (n - (k + 1)) k c s e]
    exact ⟨fun z => ⟨e, z⟩, fun z => z.2⟩
/-- what the reference then knows of a way -/
def MwR (h : zH) (V T : Nat → Int) (S d : Int) (fr to : Nat) : Prop :=
  (zI h 313 38).toInt = (wyP V T S d fr to).1 ∧ (zI h 313 39).toInt = ((wyP V T S d fr to).2 : Int) ∧ ∀ k, k < (wyP V T S d fr to).2 → (zI h 332 k).toInt = (sdW (nxV V d) (pnT T S) to (wyP V T S d fr to).2 k (cwW (nxV V d) (pnT T S) to (wyP V T S d fr to).2 fr k) : Int)
def IwQ (h : zH) (I : Nat → Nat → Int32) (x1 : Int32) (y : Bool) (V T : Nat → Int) (S d : Int) (fr to : Nat) : Prop :=
  (∀ b, b ≠ 313 → b ≠ 331 → b ≠ 332 → I b = h.1 b) ∧ (∀ k, (k < 36 ∨ 40 ≤ k) → I 313 k = h.1 313 k) ∧ I 313 36 = x1 ∧ (y = true ↔ (wyP V T S d fr to).1 < 1000000) ∧ (y = true → MwR (I, h.2) V T S d fr to)
theorem c_isWay (l : Launch) (G : zG) (h : zH) (n P fr to : Nat) (x1 x2 x3 : Int32) (hl : lo11 h 313) (w : WFN V) (m : WM0 h n V T) (h1 : x1.toInt = (P : Int)) (hP : (P : Int) < V 3) (h2 : x2.toInt = (fr : Int)) (hfr : fr < nV V) (h3 : x3.toInt = (to : Int)) :
    CTz l G YX11_isWay 5 [va_rf (some 313), .int x1, .int x2, .int x3] h (fun y I => IwQ h I x1 y V T (pF V P 0) (pF V P 1) fr to) := by
  have nv := nV_eq w
  have ok := w_ok (T := T) (S := pF V P 0) (d := pF V P 1) w
  have pw := per_w w hP
  refine kX11_isWay 313 x1 x2 x3 (sX11_isWay_0 313 x1 x2 x3 hl (Nat.le_refl _) (fun I1 c1 I4 c2 I7 c3 I10 c4 => ?_))
  obtain ⟨a1, a2, a3⟩ := zwI_eff c1
  obtain ⟨b1, b2, b3⟩ := zwI_eff c2
  obtain ⟨d1, d2, d3⟩ := zwI_eff c3
  obtain ⟨f1, f2, f3⟩ := zwI_eff c4
  have e10 : ∀ b, b ≠ 313 → I10 b = h.1 b := fun b hb => (f1 b hb).trans ((d1 b hb).trans ((b1 b hb).trans (a1 b hb)))
  have e10k : ∀ k, (k < 36 ∨ 40 ≤ k) → I10 313 k = h.1 313 k := fun k hk => (f2 k (by omega)).trans ((d2 k (by omega)).trans ((b2 k (by omega)).trans (a2 k (by omega))))
  have e36 : I10 313 36 = x1 := (f2 36 (by decide)).trans ((d2 36 (by decide)).trans ((b2 36 (by decide)).trans a3))
  have e37 : I10 313 37 = x3 := (f2 37 (by decide)).trans ((d2 37 (by decide)).trans b3)
  have e38 : I10 313 38 = 0 := (f2 38 (by decide)).trans d3
  refine ⟨fun c5 => ?_, fun c8 => ?_⟩
  · have ne : fr ≠ to := fun z => c5 (i_ext (by rw [h2, h3, z]))
    have eP : wyP V T (pF V P 0) (pF V P 1) fr to = bw (nxV V (pF V P 1)) (pnT T (pF V P 0)) to fr 40 := if_neg ne
    have m10 : WM (I10, h.2) n V T P := by
      obtain ⟨q1, q2, q3⟩ := m.cg (fun k hk => e10k k (by omega)) (e10 314 (by decide)) (e10 317 (by decide)) (e10 330 (by decide))
      exact ⟨q1, q2, by show (I10 313 36).toInt = _; rw [e36]; exact h1, q3⟩
    refine ⟨_, c_solves l G (I10, h.2) n P to hl w m10 hP (by show (I10 313 37).toInt = _; rw [e37]; exact h3), fun I20 ⟨g1, g2⟩ I26 c7 => ?_⟩
    obtain ⟨i1, i2, i3⟩ := zwI_eff c7
    have bs := bw_spec (to := to) (fr := fr) ok
    have bD := bw_D (to := to) (fr := fr) ok
    -- all further states
    let St : (Nat → Nat → Int32) → Prop := fun J => (∀ b, b ≠ 313 → b ≠ 332 → J b = I20 b) ∧ (∀ k, (k < 38 ∨ 40 ≤ k) → J 313 k = I10 313 k)
    have stM : ∀ J, St J → WM (J, h.2) n V T P := fun J ⟨s1, s2⟩ => m10.cg (fun k hk => s2 k (by omega)) ((s1 314 (by decide) (by decide)).trans (g1 314 (by decide))) ((s1 317 (by decide) (by decide)).trans (g1 317 (by decide))) ((s1 330 (by decide) (by decide)).trans (g1 330 (by decide)))
    have stA : ∀ J, St J → ∀ k, k ≤ 40 → ∀ c, c < nV V → ∀ f, f < 2 → (zI (J, h.2) 331 (128 * k + 2 * c + f)).toInt = Ah (nxV V (pF V P 1)) (pnT T (pF V P 0)) to k f c := fun J ⟨s1, s2⟩ k hk c hc f hf => by
      show (J 331 _).toInt = _
      rw [s1 331 (by decide) (by decide)]; exact g2 k hk c hc f hf
    have stE : ∀ J, St J → (∀ b, b ≠ 313 → b ≠ 331 → b ≠ 332 → J b = h.1 b) ∧ (∀ k, (k < 36 ∨ 40 ≤ k) → J 313 k = h.1 313 k) ∧ J 313 36 = x1 := fun J ⟨s1, s2⟩ =>
      ⟨fun b z1 z2 z3 => (s1 b z1 z3).trans ((g1 b z2).trans (e10 b z1)), fun k hk => (s2 k (by omega)).trans (e10k k hk), (s2 36 (by decide)).trans e36⟩
    let Fin : (Option Value → zH → Prop) := fun v h1 => ∃ y J, v = some (.int (zb y)) ∧ h1 = (J, h.2) ∧ IwQ h J x1 y V T (pF V P 0) (pF V P 1) fr to
    have tr : (bw (nxV V (pF V P 1)) (pnT T (pF V P 0)) to fr 40).1 < 1000000 → ∀ (nn : Nat), nn = (bw (nxV V (pF V P 1)) (pnT T (pF V P 0)) to fr 40).2 → ∀ (fu k : Nat) (x4 x5 x6 : Int32) (u7 : Value) (J : Nat → Nat → Int32), St J → (J 313 38).toInt = (bw (nxV V (pF V P 1)) (pnT T (pF V P 0)) to fr 40).1 → (J 313 39).toInt = (nn : Int) → k ≤ nn → nn - k < fu → x6.toInt = (k : Int) → x4.toInt = (cwW (nxV V (pF V P 1)) (pnT T (pF V P 0)) to nn fr k : Int) → x5.toInt = DW (nxV V (pF V P 1)) (pnT T (pF V P 0)) to k (cwW (nxV V (pF V P 1)) (pnT T (pF V P 0)) to nn fr k) (nn - k) →
        (∀ j, j < k → (J 332 j).toInt = (sdW (nxV V (pF V P 1)) (pnT T (pF V P 0)) to nn j (cwW (nxV V (pF V P 1)) (pnT T (pF V P 0)) to nn fr j) : Int)) →
        Z l G mX11_isWay 5 Fin 0 0 130 [va_rf (some 313), .int x1, .int x2, .int x3, .int x4, .int x5, .int x6, u7] [] (J, h.2) := by
      intro hW nn enn fu
      have b40 := (bD hW).2.2.2
      rw [← enn] at b40
      have D0 : DW (nxV V (pF V P 1)) (pnT T (pF V P 0)) to 0 fr nn < 1000000 := by rw [enn, (bD hW).1]; exact hW
      induction fu with
      | zero => intro k x4 x5 x6 u7 J s e1 e2 q1 q2; omega
      | succ fu ih =>
        intro k x4 x5 x6 u7 J s e1 e2 q1 q2 h6 h4 h5 r
        refine sX11_isWay_130 (h := (J, h.2)) 313 x1 x2 x3 x4 x5 x6 u7 hl (Nat.le_refl _) ⟨fun c1 => ?_, fun c2 => ?_⟩
        · have ek : k = nn := by have : (J 313 39).toInt ≤ x6.toInt := c1; omega
          obtain ⟨z1, z2, z3⟩ := stE J s
          refine ⟨true, J, rfl, rfl, z1, z2, z3, ⟨fun _ => by rw [eP]; exact hW, fun _ => rfl⟩, fun _ => ⟨?_, ?_, ?_⟩⟩
          · rw [eP]; exact e1
          · rw [eP, ← enn]; exact e2
          · rw [eP, ← enn]; exact fun j hj => r j (by omega)
        · have hk : k < nn := by have : x6.toInt < (J 313 39).toInt := c2; omega
          obtain ⟨cw1, cw2⟩ := cwW_spec ok hfr D0 k (by omega)
          have sd := sdW_spec ok hk cw2
          generalize hc : cwW (nxV V (pF V P 1)) (pnT T (pF V P 0)) to nn fr k = c at cw1 cw2 sd h4 h5
          have inner : ∀ (fs sd' : Nat) (x7 : Int32), sd' ≤ sdW (nxV V (pF V P 1)) (pnT T (pF V P 0)) to nn k c → sdW (nxV V (pF V P 1)) (pnT T (pF V P 0)) to nn k c - sd' < fs → x7.toInt = (sd' : Int) →
              Z l G mX11_isWay 5 Fin 0 0 142 [va_rf (some 313), .int x1, .int x2, .int x3, .int x4, .int x5, .int x6, .int x7] [] (J, h.2) := by
            intro fs
            induction fs with
            | zero => intro s' x7 q3 q4; omega
            | succ fs ih2 =>
              intro s' x7 q3 q4 h7
              have hs4 : s' < 4 := by omega
              have vs := val_sv (s := s') ok hk cw2
              have isd : svW (nxV V (pF V P 1)) (pnT T (pF V P 0)) to nn k c s' = true → s' = sdW (nxV V (pF V P 1)) (pnT T (pF V P 0)) to nn k c := fun z => by
                have := fs4_spec (p := svW (nxV V (pF V P 1)) (pnT T (pF V P 0)) to nn k c) ⟨s', hs4, z⟩
                by_cases e : s' < sdW (nxV V (pF V P 1)) (pnT T (pF V P 0)) to nn k c
                · rw [this.2.2 s' e] at z; cases z
                · omega
              have atsd : s' = sdW (nxV V (pF V P 1)) (pnT T (pF V P 0)) to nn k c → svW (nxV V (pF V P 1)) (pnT T (pF V P 0)) to nn k c s' = true := fun z => by
                rw [z]; exact decide_eq_true sd.2
              have next : svW (nxV V (pF V P 1)) (pnT T (pF V P 0)) to nn k c s' ≠ true → Z l G mX11_isWay 5 Fin 0 0 142 [va_rf (some 313), .int x1, .int x2, .int x3, .int x4, .int x5, .int x6, .int (x7 + 1)] [] (J, h.2) := fun z =>
                have ne : s' ≠ sdW (nxV V (pF V P 1)) (pnT T (pF V P 0)) to nn k c := fun y => z (atsd y)
                ih2 (s' + 1) _ (by omega) (by omega) (i_1 h7 (by omega))
              have mJ := stM J s
              -- the side serves: what then follows
              have hit : svW (nxV V (pF V P 1)) (pnT T (pF V P 0)) to nn k c s' = true → ∀ I19, I19 = (zwI (J, h.2) (313 + 19) (zix x6) x7).1 →
                  (St I19 ∧ WM (I19, h.2) n V T P ∧ (nxV V (pF V P 1) c s' ≠ -1 ∧ 0 ≤ nxV V (pF V P 1) c s' ∧ (nxV V (pF V P 1) c s').toNat < nV V) ∧ ∀ (y1 y2 y3 : Int32) (u7' : Value), y1.toInt = nxV V (pF V P 1) c s' → y2.toInt = (if k = 0 then pnT T (pF V P 0) 0 c s' else 0) → y3.toInt = pnT T (pF V P 0) ((k + 1) % 2) (nxV V (pF V P 1) c s').toNat s' →
                    Z l G mX11_isWay 5 Fin 0 0 130 [va_rf (some 313), .int x1, .int x2, .int x3, .int y1, .int ((x5 - y2) - y3), .int (x6 + 1), u7'] [] (I19, h.2)) := by
                intro z I19 c4
                rw [zix_of h6] at c4
                obtain ⟨k1, k2, k3⟩ := zwI_eff c4
                have s19 : St I19 := ⟨fun b z1 z2 => (k1 b z2).trans (s.1 b z1 z2), fun k hk => by rw [k1 313 (by decide)]; exact s.2 k hk⟩
                have es := isd z
                obtain ⟨zz1, zz2⟩ := of_decide_eq_true z
                have nn' := (ok.1 c s' cw1 hs4).resolve_left zz1
                refine ⟨s19, stM I19 s19, ⟨zz1, nn'⟩, fun y1 y2 y3 u7' e1' e2' e3' => ?_⟩
                have pr : PrW (nxV V (pF V P 1)) (pnT T (pF V P 0)) k c s' = y3.toInt + y2.toInt := by
                  unfold PrW; rw [e2', e3']
                have dr := DW_rng (to := to) ok (k + 1) (nxV V (pF V P 1) c s').toNat (nn - (k + 1))
                have p2 : 0 ≤ y2.toInt ∧ y2.toInt ≤ 1 := by rw [e2']; split; exact ok.2 0 c s'; omega
                have p3 : 0 ≤ y3.toInt ∧ y3.toInt ≤ 1 := by rw [e3']; exact ok.2 _ _ _
                have v1 : (x5 - y2).toInt = x5.toInt - y2.toInt := i_sub (by omega) (by omega)
                have ecw : cwW (nxV V (pF V P 1)) (pnT T (pF V P 0)) to nn fr (k + 1) = (nxV V (pF V P 1) c s').toNat := by
                  show (nxV V (pF V P 1) (cwW (nxV V (pF V P 1)) (pnT T (pF V P 0)) to nn fr k) (sdW (nxV V (pF V P 1)) (pnT T (pF V P 0)) to nn k (cwW (nxV V (pF V P 1)) (pnT T (pF V P 0)) to nn fr k))).toNat = _
                  rw [hc, ← es]
                refine ih (k + 1) y1 _ _ u7' I19 s19 (by rw [k1 313 (by decide)]; exact e1) (by rw [k1 313 (by decide)]; exact e2) (by omega) (by omega) (i_1 h6 (by omega)) ?_ ?_ (fun j hj => ?_)
                · rw [ecw]; omega
                · rw [ecw, i_sub (by omega) (by omega), v1]; omega
                · by_cases e : j = k
                  · subst e
                    rw [show I19 332 j = x7 from k3, hc, h7, es]
                  · rw [show I19 332 j = J 332 j from k2 j e]; exact r j (by omega)
              have td1 : ∀ I19, WM (I19, h.2) n V T P → ztok (I19, h.2) 313 x1 1 ∧ (ztold (I19, h.2) 313 x1 1).toInt = pF V P 1 := fun I19 mm => mm.td w hP h1 (f := 1) (F := 1) rfl (by decide)
              have e61 : (x6 + 1).toInt = ((k + 1 : Nat) : Int) := i_1 h6 (by omega)
              have ba : (0 : Int) ≤ x6.toInt := by omega
              have bb : x6.toInt < ((41 : Nat) : Int) := by omega
              have e39 : (zI (J, h.2) 313 39 - 1).toInt = ((nn - 1 : Nat) : Int) := by
                have e2'' : (zI (J, h.2) 313 39).toInt = (nn : Int) := e2
                rw [i_sub (by rw [e2'']; show _ ≤ _ - (1 : Int); omega) (by rw [e2'']; show _ - (1 : Int) < _; omega), e2'']
                show (nn : Int) - 1 = _; omega
              have e39k : (zI (J, h.2) 313 39 - 1 - x6).toInt = ((nn - (k + 1) : Nat) : Int) := by
                rw [i_sub (by omega) (by omega), e39, h6]; omega
              refine sX11_isWay_142 (h := (J, h.2)) 313 x1 x2 x3 x4 x5 x6 x7 hl (Nat.le_refl _) ⟨fun c1 => ⟨_, c_by l G (J, h.2) n P c (k % 2) s' (nn - (k + 1)) _ _ x4 _ x7 hl w mJ hP e39k (by omega) h4 cw1 (rem2 h6) (by omega) h7 hs4 (fun c' hc' f' hf' => ⟨stA J s (nn - (k + 1)) (by omega) c' hc' f' hf', Ah_rng ok _ _ _⟩), fun y10 I8 ⟨v1, v2⟩ => ?_⟩, fun c13 => ⟨_, c_first l G (J, h.2) n P fr s' (nn - 1) to _ x2 x7 hl w mJ hP e39 (by omega) h2 hfr h7 hs4 (fun c' hc' f' hf' => stA J s (nn - 1) (by omega) c' hc' f' hf'), fun y84 I82 ⟨v1, v2⟩ => ?_⟩⟩
              · have eI : I8 = J := v2
                subst eI
                have k0 : k ≠ 0 := fun z => c1 (n_m0.mpr (by omega))
                rw [if_neg k0, Int.zero_add] at vs
                refine ⟨fun c3 => ⟨ba, bb, fun I19 c4 => ?_⟩, fun c12 => next (fun z => c12 (i_ext (by rw [v1, h5]; exact vs.mpr z)))⟩
                obtain ⟨s19, m19, ⟨n1, n2, n3⟩, go⟩ := hit (vs.mp (by rw [← v1, c3]; exact h5)) I19 c4
                refine ⟨fun c5 => ⟨(td1 I19 m19).1, ⟨_, c_stepped l G (I19, h.2) V x4 x7 _ hl (n_st m19).1 (n_st m19).2 w.1 w.2.1 (by omega) (by omega) (by rw [(td1 I19 m19).2]; omega), fun y35 I33 ⟨t1, t2⟩ => ?_⟩⟩, fun c8 => absurd c8 c1⟩
                have eI3 : I33 = I19 := t2
                subst eI3
                have t1' : y35.toInt = nxV V (pF V P 1) c s' := by rw [t1, h4, h7, (td1 _ m19).2]; rfl
                refine ⟨_, c_newAt l G (I33, h.2) n P (nxV V (pF V P 1) c s').toNat ((k + 1) % 2) s' y35 _ x7 hl w m19 hP (by omega) (by omega) (rem2 e61) (by omega) h7 hs4, fun y44 I42 ⟨o1, o2⟩ => ?_⟩
                have eI4 : I42 = I33 := o2
                subst eI4
                exact go y35 0 y44 _ t1' (by rw [if_neg k0]; rfl) o1
              · have eI : I82 = J := v2
                subst eI
                have k0 : k = 0 := by have := n_m0.mp c13; omega
                have ecf : c = fr := by rw [← hc, k0]; rfl
                subst ecf
                have evs : fsW (nxV V (pF V P 1)) (pnT T (pF V P 0)) to c (nn - 1) s' = (if k = 0 then pnT T (pF V P 0) 0 c s' else 0) + byW (nxV V (pF V P 1)) (pnT T (pF V P 0)) (Ah (nxV V (pF V P 1)) (pnT T (pF V P 0)) to (nn - (k + 1))) (k % 2) c s' := by
                  rw [if_pos k0, k0]; rfl
                rw [← evs] at vs
                refine ⟨fun c15 => ⟨ba, bb, fun I93 c16 => ?_⟩, fun c24 => next (fun z => c24 (i_ext (by rw [v1, h5]; exact vs.mpr z)))⟩
                obtain ⟨s19, m19, ⟨n1, n2, n3⟩, go⟩ := hit (vs.mp (by rw [← v1, c15]; exact h5)) I93 c16
                refine ⟨fun c17 => absurd c13 c17, fun c20 => ⟨_, c_newAt l G (I93, h.2) n P c 0 s' x2 0 x7 hl w m19 hP h2 (by omega) rfl (by decide) h7 hs4, fun y127 I125 ⟨o1, o2⟩ => ?_⟩⟩
                have eI3 : I125 = I93 := o2
                subst eI3
                refine ⟨(td1 _ m19).1, ⟨_, c_stepped l G (I125, h.2) V x4 x7 _ hl (n_st m19).1 (n_st m19).2 w.1 w.2.1 (by omega) (by omega) (by rw [(td1 _ m19).2]; omega), fun y140 I138 ⟨t1, t2⟩ => ?_⟩⟩
                have eI4 : I138 = I125 := t2
                subst eI4
                have t1' : y140.toInt = nxV V (pF V P 1) c s' := by rw [t1, h4, h7, (td1 _ m19).2]; rfl
                refine ⟨_, c_newAt l G (I138, h.2) n P (nxV V (pF V P 1) c s').toNat ((k + 1) % 2) s' y140 _ x7 hl w m19 hP (by omega) (by omega) (rem2 e61) (by omega) h7 hs4, fun y149 I147 ⟨p1, p2⟩ => ?_⟩
                have eI5 : I147 = I138 := p2
                subst eI5
                exact go y140 y127 y149 _ t1' (by rw [if_pos k0]; exact o1) p1
          exact inner 5 0 0 (Nat.zero_le _) (by omega) rfl
    have loopN : ∀ (fu k : Nat) (x4 : Int32) (u5 u6 u7 : Value) (J : Nat → Nat → Int32), St J → k ≤ 40 → 40 - k < fu → x4.toInt = ((k + 1 : Nat) : Int) → (J 313 38).toInt = (bw (nxV V (pF V P 1)) (pnT T (pF V P 0)) to fr k).1 → (J 313 39).toInt = ((bw (nxV V (pF V P 1)) (pnT T (pF V P 0)) to fr k).2 : Int) →
        Z l G mX11_isWay 5 Fin 0 0 41 [va_rf (some 313), .int x1, .int x2, .int x3, .int x4, u5, u6, u7] [] (J, h.2) := by
      intro fu
      induction fu with
      | zero => intro k x4 u5 u6 u7 J s q1 q2; omega
      | succ fu ih =>
        intro k x4 u5 u6 u7 J s q1 q2 h4 e1 e2
        refine sX11_isWay_41 (h := (J, h.2)) 313 x1 x2 x3 x4 u5 u6 u7 hl (Nat.le_refl _) ⟨fun c1 => ?_, fun c4 => ?_⟩
        · have ek : k = 40 := by have : (40 : Int) < x4.toInt := c1; omega
          subst ek
          refine ⟨fun c2 => ?_, fun c3 => ?_⟩
          · have hW : (bw (nxV V (pF V P 1)) (pnT T (pF V P 0)) to fr 40).1 < 1000000 := by have : (J 313 38).toInt < 1000000 := c2; omega
            refine tr hW _ rfl ((bw (nxV V (pF V P 1)) (pnT T (pF V P 0)) to fr 40).2 + 1) 0 x2 _ 0 u7 J s e1 e2 (by omega) (by omega) rfl h2 ?_ (fun j hj => by omega)
            show (J 313 38).toInt = DW (nxV V (pF V P 1)) (pnT T (pF V P 0)) to 0 fr _
            rw [Nat.sub_zero, (bD hW).1]; exact e1
          · have hW : ¬ (bw (nxV V (pF V P 1)) (pnT T (pF V P 0)) to fr 40).1 < 1000000 := by have : (1000000 : Int) ≤ (J 313 38).toInt := c3; omega
            obtain ⟨z1, z2, z3⟩ := stE J s
            exact ⟨false, J, rfl, rfl, z1, z2, z3, ⟨fun z => (by cases z), fun z => absurd (by rw [← eP]; exact z) hW⟩, fun z => by cases z⟩
        · have hk : k < 40 := by have : x4.toInt ≤ (40 : Int) := c4; omega
          have loopS : ∀ (fs sd : Nat) (x5 : Int32) (u6 : Value) (K : Nat → Nat → Int32), St K → sd ≤ 4 → 4 - sd < fs → x5.toInt = (sd : Int) → (K 313 38).toInt = (bwS (fsW (nxV V (pF V P 1)) (pnT T (pF V P 0)) to fr k) k sd (bw (nxV V (pF V P 1)) (pnT T (pF V P 0)) to fr k)).1 → (K 313 39).toInt = ((bwS (fsW (nxV V (pF V P 1)) (pnT T (pF V P 0)) to fr k) k sd (bw (nxV V (pF V P 1)) (pnT T (pF V P 0)) to fr k)).2 : Int) →
              Z l G mX11_isWay 5 Fin 0 0 51 [va_rf (some 313), .int x1, .int x2, .int x3, .int x4, .int x5, u6, u7] [] (K, h.2) := by
            intro fs
            induction fs with
            | zero => intro sd x5 u6 K sK q3 q4; omega
            | succ fs ihS =>
              intro sd x5 u6 K sK q3 q4 h5 k1 k2
              have e41 : (x4 - 1).toInt = ((k : Nat) : Int) := by
                rw [i_sub (by rw [h4]; show _ ≤ _ - (1 : Int); omega) (by rw [h4]; show _ - (1 : Int) < _; omega), h4]
                show ((k + 1 : Nat) : Int) - 1 = _; omega
              refine sX11_isWay_51 (h := (K, h.2)) 313 x1 x2 x3 x4 x5 u6 u7 hl (Nat.le_refl _) ⟨fun c1 => ?_, fun c2 => ⟨_, c_first l G (K, h.2) n P fr sd k to _ x2 x5 hl w (stM K sK) hP e41 (by omega) h2 hfr h5 (by omega) (fun c' hc' f' hf' => stA K sK k (by omega) c' hc' f' hf'), fun y10 I8 ⟨v1, v2⟩ => ?_⟩⟩
              · have e4 : sd = 4 := by omega
                subst e4
                exact ih (k + 1) _ _ _ _ K sK (by omega) (by omega) (by rw [i_1 h4 (by omega)]) k1 k2
              · have eI : I8 = K := v2
                subst eI
                have stp : bwS (fsW (nxV V (pF V P 1)) (pnT T (pF V P 0)) to fr k) k (sd + 1) (bw (nxV V (pF V P 1)) (pnT T (pF V P 0)) to fr k) = if fsW (nxV V (pF V P 1)) (pnT T (pF V P 0)) to fr k sd < (bwS (fsW (nxV V (pF V P 1)) (pnT T (pF V P 0)) to fr k) k sd (bw (nxV V (pF V P 1)) (pnT T (pF V P 0)) to fr k)).1 then (fsW (nxV V (pF V P 1)) (pnT T (pF V P 0)) to fr k sd, k + 1) else bwS (fsW (nxV V (pF V P 1)) (pnT T (pF V P 0)) to fr k) k sd (bw (nxV V (pF V P 1)) (pnT T (pF V P 0)) to fr k) := rfl
                refine ⟨fun c4' I18 c5 I21 c6 => ?_, fun c7 => ?_⟩
                · have c4'' : y10.toInt < (I8 313 38).toInt := c4'
                  obtain ⟨m1, m2, m3⟩ := zwI_eff c5
                  obtain ⟨o1, o2, o3⟩ := zwI_eff c6
                  refine ihS (sd + 1) _ _ I21 ⟨fun b z1 z2 => (o1 b z1).trans ((m1 b z1).trans (sK.1 b z1 z2)), fun j hj => (o2 j (by omega)).trans ((m2 j (by omega)).trans (sK.2 j hj))⟩ (by omega) (by omega) (i_1 h5 (by omega)) ?_ ?_
                  · rw [stp, if_pos (by omega), o2 38 (by decide)]
                    show (I18 313 38).toInt = _
                    rw [m3]; exact v1
                  · rw [stp, if_pos (by omega), o3]; exact h4
                · have c7' : (I8 313 38).toInt ≤ y10.toInt := c7
                  exact ihS (sd + 1) _ _ I8 sK (by omega) (by omega) (i_1 h5 (by omega)) (by rw [stp, if_neg (by omega)]; exact k1) (by rw [stp, if_neg (by omega)]; exact k2)
          exact loopS 5 0 0 u6 J s (by omega) (by omega) rfl e1 e2
    refine loopN 41 0 1 zU zU zU I26 ⟨fun b z1 z2 => i1 b z1, fun k hk => ?_⟩ (by omega) (by omega) rfl ?_ ?_
    · rw [i2 k (by omega)]; show I20 313 k = _
      rw [g1 313 (by decide)]
    · rw [i3]; rfl
    · rw [i2 39 (by decide)]; show (I20 313 39).toInt = _
      rw [g1 313 (by decide)]; show (I10 313 39).toInt = _
      rw [f3]; rfl
  · have ef : fr = to := by
      have : x2.toInt = x3.toInt := by rw [c8]
      omega
    have eP : wyP V T (pF V P 0) (pF V P 1) fr to = (0, 0) := if_pos ef
    refine ⟨true, I10, rfl, rfl, fun b z1 z2 z3 => e10 b z1, e10k, e36, ⟨fun _ => by rw [eP]; decide, fun _ => rfl⟩, fun _ => ⟨?_, ?_, fun k hk => ?_⟩⟩
    · rw [eP]; show (I10 313 38).toInt = _; rw [e38]; rfl
    · rw [eP]; show (I10 313 39).toInt = _; rw [f3]; rfl
    · rw [eP] at hk; exact absurd hk (Nat.not_lt_zero k)
end K69
