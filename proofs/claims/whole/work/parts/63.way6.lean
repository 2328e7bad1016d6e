set_option maxRecDepth 4000
/-! ===== the class's way: from layer to layer ===== -/
section K63
variable {V T : Nat → Int} {S d : Int}
def OpC (h : zH) (a i c : Nat) (to : Nat) (B : Int × Nat) (V T : Nat → Int) (S d : Int) : Prop := Kc h a i c < 1000 ∧ Kc h a i c + DW (nxV V d) (pnT T S) to i c (B.2 - i) = B.1
def LyC (h : zH) (a i : Nat) (to : Nat) (B : Int × Nat) (V T : Nat → Int) (S d : Int) : Prop := ∀ c, c < nV V → Kc h a i c = 1000 ∨ GdW (nxV V d) (pnT T S) to B i c (Kc h a i c)
def SeC (h : zH) (a i j : Nat) (to : Nat) (B : Int × Nat) (V T : Nat → Int) (S d : Int) : Prop := ∀ f, f < 2 → ∀ c, c < nV V → Sn h a f c = 1000 ∨ ∃ jj, 0 < jj ∧ (jj < i ∨ (jj = i ∧ c < j)) ∧ jj % 2 = f ∧ GdW (nxV V d) (pnT T S) to B jj c (Sn h a f c)
def SpQ (h : zH) (I : Nat → Nat → Int32) (a i j to : Nat) (B : Int × Nat) (y : Bool) (V T : Nat → Int) (S d : Int) : Prop :=
  (∀ b, b ≠ a + 2 → b ≠ a + 3 → I b = h.1 b) ∧ (∀ k, k < 64 * (i + 1) → I (a + 2) k = h.1 (a + 2) k) ∧ LyC (I, h.2) a (i + 1) to B V T S d ∧ SeC (I, h.2) a i j to B V T S d ∧
  (i < B.2 → ∀ c, c < j → OpC h a i c to B V T S d → y = true ∧ ∀ s, s < 4 → nxV V d c s ≠ -1 → Kc (I, h.2) a (i + 1) (nxV V d c s).toNat ≤ Kc h a i c + PrW (nxV V d) (pnT T S) i c s)
theorem GdW_100 {nx : Nat → Nat → Int} {pn : Nat → Nat → Nat → Int} {to i c : Nat} {B : Int × Nat} {v : Int} (g : GdW nx pn to B i c v) (hi : i ≤ 41) : 0 ≤ v ∧ v ≤ 42 := by
  obtain ⟨⟨g1, g2⟩, _⟩ := g
  refine ⟨g1, ?_⟩
  split at g2 <;> omega
theorem c_spread (l : Launch) (G : zG) (h : zH) (a q g i to : Nat) (B : Int × Nat) (x1 x2 : Int32) (o : WO h a q g V T S d) (x : WX a q g V S d) (hB : B.2 ≤ 40) (h1 : x1.toInt = (i : Int)) (hi : i < 40) (ly : LyC h a i to B V T S d) (se : SeC h a i 0 to B V T S d) (hb : x2.toInt ≤ 1000) (hbB : i < B.2 → B.1 < x2.toInt) :
    CTz l G YX9_spread 4 [va_rf (some a), .int x1, .int x2] h (fun y I => SpQ h I a i (nV V) to B y V T S d) := by
  have nv := nV_eq x.1
  have ok := w_ok (T := T) (S := S) (d := d) x.1
  have e1 : (x1 + 1).toInt = ((i + 1 : Nat) : Int) := i_1 h1 (by omega)
  have loop : ∀ (fu j : Nat) (x3 : Bool) (x4 : Int32) (u5 u6 : Value) (I : Nat → Nat → Int32), j ≤ nV V → nV V - j < fu → x4.toInt = (j : Int) → SpQ h I a i j to B x3 V T S d →
      Z l G mX9_spread 4 (fun w h1 => ∃ y J, w = some (.int (zb y)) ∧ h1 = (J, h.2) ∧ SpQ h J a i (nV V) to B y V T S d) 0 0 12 [va_rf (some a), .int x1, .int x2, .int (zb x3), .int x4, u5, u6] [] (I, h.2) := by
    intro fu
    induction fu with
    | zero => intro j x3 x4 u5 u6 I q1 q2; omega
    | succ fu ih =>
      intro j x3 x4 u5 u6 I q1 q2 hx r
      obtain ⟨r1, r2, r3, r4, r5⟩ := r
      have oI : WO (I, h.2) a q g V T S d := o.cg x (fun b hb => r1 b (by omega) (by omega)) (by rw [r1 a (by omega) (by omega)]) (by rw [r1 a (by omega) (by omega)])
      have zc := (zhas_at x.1 oI.2.2.2.2.2.1 (c := 0)).1
      rw [nv.1] at zc
      refine sX9_spread_12 (h := (I, h.2)) a x1 x2 x3 x4 u5 u6 o.1 (Nat.le_refl _) ⟨q, oI.2.1, oI.2.2.2.1, fun c1 => ⟨x3, I, rfl, rfl, r1, r2, r3, ?_, fun z c hc => r5 z c (by omega)⟩, fun c2 => ?_⟩
      · have ej : j = nV V := by omega
        rw [← ej]; exact r4
      · have hj : j < nV V := by omega
        have ez := zcost_at (h := (I, h.2)) (a := a) (i := i) (c := j) o.1 h1 (by omega) hx (by omega)
        have eK : (zI (I, h.2) (a + 2) (64 * i + j)).toInt = Kc h a i j := by
          show (I (a + 2) (64 * i + j)).toInt = _
          rw [r2 _ (by omega)]; rfl
        have eS : zget (I, h.2) (some (a + 3)) ((zrem x1 2) * 64 + x4) = zI (I, h.2) (a + 3) (64 * (i % 2) + j) := zget_w (h := (I, h.2)) (o.1.w 3 rfl) (m64 (rem2 h1) (by omega) hx (by omega)) (by omega)
        rw [ez, eS]
        have gd : Kc h a i j < 1000 → GdW (nxV V d) (pnT T S) to B i j (Kc h a i j) := fun z => (ly j hj).resolve_left (by omega)
        refine ⟨fun c3 => ?_, fun c4 => ⟨fun c5 => ?_, fun c6 => ⟨fun c7 => ⟨_, c_reachFrom l G (I, h.2) a q g i j x1 x4 _ oI x h1 hi hx hj ?_, fun I33 c8 => ?_⟩, fun c9 I42 c10 => ⟨_, c_reachFrom (T := T) l G (I42, h.2) a q g i j x1 x4 _ ?_ x h1 hi hx hj ?_, fun I48 c11 => ?_⟩⟩⟩⟩
        · rw [eK] at c3
          refine ih (j + 1) x3 _ _ _ I (by omega) (by omega) (i_1 hx (by omega)) ⟨r1, r2, r3, fun f hf c hc => (r4 f hf c hc).elim Or.inl (fun ⟨jj, p1, p2, p3⟩ => Or.inr ⟨jj, p1, by omega, p3⟩), fun z c hc oc => ?_⟩
          by_cases ec : c = j
          · subst ec
            have := DW_rng (to := to) ok i c (B.2 - i)
            have := oc.2
            have := hbB z
            omega
          · exact r5 z c (by omega) oc
        · rw [eK] at c4 c5
          refine ih (j + 1) x3 _ _ _ I (by omega) (by omega) (i_1 hx (by omega)) ⟨r1, r2, r3, fun f hf c hc => (r4 f hf c hc).elim Or.inl (fun ⟨jj, p1, p2, p3⟩ => Or.inr ⟨jj, p1, by omega, p3⟩), fun z c hc oc => ?_⟩
          by_cases ec : c = j
          · subst ec
            exfalso
            have c5' : Sn (I, h.2) a (i % 2) c ≤ Kc h a i c := c5
            rcases r4 (i % 2) (by omega) c (by omega) with e | ⟨jj, p1, p2, p3, p4⟩
            · have := oc.1; omega
            · have := GdW_par p4 p1 (by omega) p3 (by omega) hB oc.2
              omega
          · exact r5 z c (by omega) oc
        · rw [eK]
          have := GdW_100 (gd (by rw [eK] at c4; omega)) (by omega)
          omega
        · rw [eK] at c4 c6
          have g1 := gd (by omega)
          obtain ⟨w1, w2, w3, w4⟩ := c8
          rw [eK] at w3 w4
          refine ih (j + 1) true _ _ _ I33 (by omega) (by omega) (i_1 hx (by omega)) ⟨fun b k1 k2 => (w1 b k1).trans (r1 b k1 k2), fun k hk => (w2 k (by omega)).trans (r2 k hk), fun n hn => ?_, fun f hf c hc => ?_, fun z c hc oc => ⟨rfl, fun s hs hsn => ?_⟩⟩
          · rcases (w3 n (by omega)).2 with e | ⟨s, s1, s2, s3⟩
            · rw [e]; exact r3 n hn
            · refine Or.inr ?_
              rw [s3]
              have := GdW_step ok g1 s1 (by rw [s2]; omega)
              rw [show (nxV V d j s).toNat = n by omega] at this
              exact this
          · have eq : Sn (I33, h.2) a f c = Sn (I, h.2) a f c := by
              show (I33 (a + 3) _).toInt = (I (a + 3) _).toInt
              rw [w1 (a + 3) (by omega)]
            rw [eq]
            exact (r4 f hf c hc).elim Or.inl (fun ⟨jj, p1, p2, p3⟩ => Or.inr ⟨jj, p1, by omega, p3⟩)
          · by_cases ec : c = j
            · subst ec; exact w4 s hs hsn
            · have nn := ((ok.1 c s (by omega) hs).resolve_left hsn).2
              have p := (r5 z c (by omega) oc).2 s hs hsn
              have p2 := (w3 (nxV V d c s).toNat (by omega)).1
              have p2' : Kc (I33, h.2) a (i + 1) (nxV V d c s).toNat ≤ Kc (I, h.2) a (i + 1) (nxV V d c s).toNat := p2
              omega
        · obtain ⟨a1, a2, a3⟩ := zput_eff (h := (I, h.2)) (o.1.w 3 rfl) (m64 (rem2 h1) (by omega) hx (by omega)) (by omega) c10
          exact oI.cg x (fun b hb => a1 b (by omega)) (by rw [a1 a (by omega)]) (by rw [a1 a (by omega)])
        · rw [eK]
          have := GdW_100 (gd (by rw [eK] at c4; omega)) (by omega)
          omega
        · obtain ⟨a1, a2, a3⟩ := zput_eff (h := (I, h.2)) (o.1.w 3 rfl) (m64 (rem2 h1) (by omega) hx (by omega)) (by omega) c10
          rw [eK] at c4 c6
          have g1 := gd (by omega)
          obtain ⟨w1, w2, w3, w4⟩ := c11
          rw [eK] at w3 w4
          have e2 : ∀ n, Kc (I42, h.2) a (i + 1) n = Kc (I, h.2) a (i + 1) n := fun n => by
            show (I42 (a + 2) _).toInt = (I (a + 2) _).toInt
            rw [a1 (a + 2) (by omega)]
          refine ih (j + 1) true _ _ _ I48 (by omega) (by omega) (i_1 hx (by omega)) ⟨fun b k1 k2 => (w1 b k1).trans ((a1 b k2).trans (r1 b k1 k2)), fun k hk => ?_, fun n hn => ?_, fun f hf c hc => ?_, fun z c hc oc => ⟨rfl, fun s hs hsn => ?_⟩⟩
          · rw [w2 k (by omega)]
            show I42 (a + 2) k = _
            rw [a1 (a + 2) (by omega)]; exact r2 k hk
          · rcases (w3 n (by omega)).2 with e | ⟨s, s1, s2, s3⟩
            · rw [show Kc (I48, h.2) a (i + 1) n = Kc (I, h.2) a (i + 1) n from e.trans (e2 n)]; exact r3 n hn
            · refine Or.inr ?_
              rw [s3]
              have := GdW_step ok g1 s1 (by rw [s2]; omega)
              rw [show (nxV V d j s).toNat = n by omega] at this
              exact this
          · by_cases ee : 64 * f + c = 64 * (i % 2) + j
            · have ef : f = i % 2 := by omega
              have ec : c = j := by omega
              refine Or.inr ⟨i, by rw [h1] at c9; have c9' : (0 : Int) < (i : Int) := c9; omega, Or.inr ⟨rfl, by omega⟩, ef.symm, ?_⟩
              have eq : Sn (I48, h.2) a f c = Kc h a i j := by
                show (I48 (a + 3) (64 * f + c)).toInt = _
                rw [w1 (a + 3) (by omega), ee]
                show (I42 (a + 3) (64 * (i % 2) + j)).toInt = _
                rw [a3]; exact eK
              rw [eq, ec]; exact g1
            · have eq : Sn (I48, h.2) a f c = Sn (I, h.2) a f c := by
                show (I48 (a + 3) (64 * f + c)).toInt = (I (a + 3) (64 * f + c)).toInt
                rw [w1 (a + 3) (by omega)]
                show (I42 (a + 3) (64 * f + c)).toInt = _
                rw [a2 _ ee]
              rw [eq]
              exact (r4 f hf c hc).elim Or.inl (fun ⟨jj, p1, p2, p3⟩ => Or.inr ⟨jj, p1, by omega, p3⟩)
          · by_cases ec : c = j
            · subst ec; exact w4 s hs hsn
            · have nn := ((ok.1 c s (by omega) hs).resolve_left hsn).2
              have p := (r5 z c (by omega) oc).2 s hs hsn
              have p2 : Kc (I48, h.2) a (i + 1) (nxV V d c s).toNat ≤ Kc (I42, h.2) a (i + 1) (nxV V d c s).toNat := (w3 (nxV V d c s).toNat (by omega)).1
              rw [e2] at p2
              omega
  refine kX9_spread a x1 x2 (sX9_spread_0 a x1 x2 o.1 (Nat.le_refl _) ⟨_, c_clearLayer l G h a (i + 1) (x1 + 1) o.1 e1 (by omega), fun I4 ⟨g1, g2, g3⟩ => ?_⟩)
  refine loop (nV V + 1) 0 false 0 zU zU I4 (by omega) (by omega) rfl ⟨fun b k1 k2 => g1 b k1, fun k hk => g2 k (by omega), fun c hc => Or.inl ?_, fun f hf c hc => ?_, fun z c hc => by omega⟩
  · show (I4 (a + 2) (64 * (i + 1) + c)).toInt = 1000
    rw [g3 c (by omega)]; rfl
  · have eq : Sn (I4, h.2) a f c = Sn h a f c := by
      show (I4 (a + 3) (64 * f + c)).toInt = (h.1 (a + 3) (64 * f + c)).toInt
      rw [g1 (a + 3) (by omega)]
    rw [eq]
    exact se f hf c hc
end K63
