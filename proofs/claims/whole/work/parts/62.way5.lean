set_option maxRecDepth 4000
/-! ===== the class's way: layers ===== -/
section K62
variable {V T : Nat → Int} {S d : Int}
def nxV (V : Nat → Int) (d : Int) : Nat → Nat → Int := fun c s => bes V (c : Int) (s : Int) d
def pnT (T : Nat → Int) (S : Int) : Nat → Nat → Nat → Int := fun f c s => if T c = 8 * S + 4 * (f : Int) + (s : Int) then 0 else 1
def WO (h : zH) (a q g : Nat) (V T : Nat → Int) (S d : Int) : Prop := lo9 h a ∧ zR h a 3 = some q ∧ zR h a 4 = some g ∧ lo1 h q ∧ zAw h g 64 ∧ NObj h q V ∧ (∀ c, c < 64 → (zI h g c).toInt = T c) ∧ (zI h a 5).toInt = S ∧ (zI h a 6).toInt = d
def WX (a q g : Nat) (V : Nat → Int) (S d : Int) : Prop := WFN V ∧ (0 ≤ S ∧ S ≤ 5) ∧ (1 ≤ d ∧ d ≤ 3) ∧ (q + 18 ≤ a ∨ a + 4 ≤ q) ∧ (g < a ∨ a + 4 ≤ g)
def nV (V : Nat → Int) : Nat := (V 0 * V 1).toNat
theorem nV_eq (w : WFN V) : V 0 * V 1 = (nV V : Int) ∧ 4 ≤ nV V ∧ nV V ≤ 64 := by
  have := wh_rng w.1 w.2.1
  unfold nV
  omega
theorem w_ok (w : WFN V) : WPok (nxV V d) (pnT T S) (nV V) := by
  have e := nV_eq w
  refine ⟨fun c s _ _ => (bes_rng (V := V) (c : Int) (s : Int) d).elim Or.inl (fun z => Or.inr ⟨z.1, ?_⟩), fun f c s => ?_⟩
  · show (bes V (c : Int) (s : Int) d).toNat < _
    omega
  · unfold pnT
    split <;> omega
theorem WO.cg {h : zH} {J : Nat → Nat → Int32} {a q g : Nat} (o : WO h a q g V T S d) (x : WX a q g V S d) (e : ∀ b, (b < a ∨ a + 4 ≤ b) → J b = h.1 b) (e5 : J a 5 = h.1 a 5) (e6 : J a 6 = h.1 a 6) : WO (J, h.2) a q g V T S d := by
  obtain ⟨o1, o2, o3, o4, o5, o6, o7, o8, o9⟩ := o
  obtain ⟨x1, x2, x3, x4, x5⟩ := x
  refine ⟨o1, o2, o3, o4, o5, o6.same x1 (fun b z1 z2 => e b (by omega)), fun c hc => ?_, ?_, ?_⟩
  · show (J g c).toInt = _
    rw [e g (by omega)]; exact o7 c hc
  · show (J a 5).toInt = _
    rw [e5]; exact o8
  · show (J a 6).toInt = _
    rw [e6]; exact o9
theorem m64 {x y : Int32} {i c : Nat} (hx : x.toInt = (i : Int)) (hi : i < 100) (hy : y.toInt = (c : Int)) (hc : c < 64) : (x * 64 + y).toInt = ((64 * i + c : Nat) : Int) := by
  have e : (x * 64).toInt = 64 * (i : Int) := by
    rw [i_mul (by rw [hx]; show _ ≤ _ * (64 : Int); omega) (by rw [hx]; show _ * (64 : Int) < _; omega), hx, Int.mul_comm]; rfl
  rw [i_add (by rw [e]; omega) (by rw [e]; omega), e, hy]; omega
def Kc (h : zH) (a i c : Nat) : Int := (zI h (a + 2) (64 * i + c)).toInt
def Sn (h : zH) (a f c : Nat) : Int := (zI h (a + 3) (64 * f + c)).toInt
theorem zcost_at {h : zH} {a i c : Nat} {x1 x2 : Int32} (ha : lo9 h a) (h1 : x1.toInt = (i : Int)) (hi : i ≤ 40) (h2 : x2.toInt = (c : Int)) (hc : c < 64) : zcost h a x1 x2 = zI h (a + 2) (64 * i + c) := by
  unfold zcost
  rw [if_neg (fun e => by rw [e] at h2; rw [show (-1 : Int32).toInt = -1 from rfl] at h2; omega), zget_w (ha.w 2 rfl) (m64 h1 (by omega) h2 hc) (by omega)]
theorem c_clearLayer (l : Launch) (G : zG) (h : zH) (a i : Nat) (x1 : Int32) (ha : lo9 h a) (h1 : x1.toInt = (i : Int)) (hi : i ≤ 40) :
    CTv l G YX9_clearLayer 2 [va_rf (some a), .int x1] h (fun I => (∀ b, b ≠ a + 2 → I b = h.1 b) ∧ (∀ j, (j < 64 * i ∨ 64 * i + 64 ≤ j) → I (a + 2) j = h.1 (a + 2) j) ∧ ∀ c, c < 64 → I (a + 2) (64 * i + c) = 1000) := by
  have loop : ∀ (fu c : Nat) (x2 : Int32) (I : Nat → Nat → Int32), c ≤ 64 → 64 - c < fu → x2.toInt = (c : Int) → (∀ b, b ≠ a + 2 → I b = h.1 b) → (∀ j, (j < 64 * i ∨ 64 * i + 64 ≤ j) → I (a + 2) j = h.1 (a + 2) j) → (∀ k, k < c → I (a + 2) (64 * i + k) = 1000) →
      Z l G mX9_clearLayer 2 (fun w h1 => ∃ J, w = none ∧ h1 = (J, h.2) ∧ ((∀ b, b ≠ a + 2 → J b = h.1 b) ∧ (∀ j, (j < 64 * i ∨ 64 * i + 64 ≤ j) → J (a + 2) j = h.1 (a + 2) j) ∧ ∀ c, c < 64 → J (a + 2) (64 * i + c) = 1000)) 0 0 2 [va_rf (some a), .int x1, .int x2] [] (I, h.2) := by
    intro fu
    induction fu with
    | zero => intro c x2 I q1 q2; omega
    | succ fu ih =>
      intro c x2 I q1 q2 hx e1 e2 e3
      refine sX9_clearLayer_2 (h := (I, h.2)) a x1 x2 ha (Nat.le_refl _) ⟨fun c1 => ⟨I, rfl, rfl, e1, e2, fun k hk => e3 k (by omega)⟩, fun c2 I8 c3 => ?_⟩
      obtain ⟨a1, a2, a3⟩ := zput_eff (h := (I, h.2)) (ha.w 2 rfl) (m64 h1 (by omega) hx (by omega)) (by omega) c3
      refine ih (c + 1) _ I8 (by omega) (by omega) (i_1 hx (by omega)) (fun b hb => (a1 b hb).trans (e1 b hb)) (fun j hj => (a2 j (by omega)).trans (e2 j hj)) (fun k hk => ?_)
      by_cases ek : k = c
      · subst ek; exact a3
      · exact (a2 _ (by omega)).trans (e3 k (by omega))
  exact kX9_clearLayer a x1 (sX9_clearLayer_0 a x1 ha (Nat.le_refl _) (loop 65 0 0 h.1 (by omega) (by omega) rfl (fun _ _ => rfl) (fun _ _ => rfl) (fun k hk => by omega)))
theorem tw_eq {h : zH} {a q g : Nat} (o : WO h a q g V T S d) (x : WX a q g V S d) {c F s : Nat} {y f sd : Int32} (hy : y.toInt = (c : Int)) (hc : c < 64) (hf : f.toInt = (F : Int)) (hF : F ≤ 1) (hs : sd.toInt = (s : Int)) (hs4 : s < 4) : zgok h (zR h a 4) ∧ (zget h (zR h a 4) y = zshape (zI h a 5) f sd ↔ T c = 8 * S + 4 * (F : Int) + (s : Int)) := by
  obtain ⟨o1, o2, o3, o4, o5, o6, o7, o8, o9⟩ := o
  obtain ⟨x1, x2, x3, x4, x5⟩ := x
  rw [o3]
  refine ⟨zgok_lo o5 (by decide), ?_⟩
  rw [zget_w o5 hy hc, n_eqc, o7 c hc, (shp (by omega) (by omega) (by omega)).1, o8, hf, hs]
theorem w_next {h : zH} {a q g : Nat} (o : WO h a q g V T S d) (x : WX a q g V S d) {c s : Nat} {y sd : Int32} (hy : y.toInt = (c : Int)) (hs : sd.toInt = (s : Int)) (hs4 : s < 4) : (zbes (zI h q 0) (zI h q 1) y sd (zI h a 6)).toInt = nxV V d c s := by
  obtain ⟨o1, o2, o3, o4, o5, o6, o7, o8, o9⟩ := o
  obtain ⟨x1, x2, x3, x4, x5⟩ := x
  rw [zbes_eq (V := V) (o6.1 0 (by decide)) (o6.1 1 (by decide)) x1.1 x1.2.1 (by omega) (by omega), o9, hy, hs]; rfl
theorem rem2 {x : Int32} {i : Nat} (hx : x.toInt = (i : Int)) : (zrem x 2).toInt = ((i % 2 : Nat) : Int) := by
  rw [n_rem (by omega) (by decide), hx]; rfl
theorem c_priceOf (l : Launch) (G : zG) (h : zH) (a q g i c s n : Nat) (x1 x2 x3 x4 : Int32) (o : WO h a q g V T S d) (x : WX a q g V S d) (h1 : x1.toInt = (i : Int)) (hi : i < 41) (h2 : x2.toInt = (c : Int)) (hc : c < 64) (h3 : x3.toInt = (s : Int)) (hs : s < 4) (h4 : x4.toInt = (n : Int)) (hn : n < 64) (en : (nxV V d c s).toNat = n) :
    CTi l G YX9_priceOf 2 [va_rf (some a), .int x1, .int x2, .int x3, .int x4] h (fun y I => y.toInt = PrW (nxV V d) (pnT T S) i c s ∧ I = h.1) := by
  have e1 : (x1 + 1).toInt = ((i + 1 : Nat) : Int) := i_1 h1 (by omega)
  obtain ⟨k1, t1⟩ := tw_eq o x (f := zrem (x1 + 1) 2) h4 hn (rem2 e1) (by omega) h3 hs
  obtain ⟨k2, t2⟩ := tw_eq o x (f := 0) (F := 0) h2 hc rfl (by omega) h3 hs
  have z0 : x1 = 0 ↔ i = 0 := by rw [n_m0, h1]; omega
  unfold PrW pnT
  rw [en]
  refine kX9_priceOf a x1 x2 x3 x4 (sX9_priceOf_0 a x1 x2 x3 x4 o.1 (Nat.le_refl _) ⟨k1, fun c1 => ⟨fun c2 => ⟨_, h.1, rfl, rfl, ?_, rfl⟩, fun c3 => ⟨k2, fun c4 => ⟨_, h.1, rfl, rfl, ?_, rfl⟩, fun c5 => ⟨_, h.1, rfl, rfl, ?_, rfl⟩⟩⟩, fun c6 => ⟨fun c7 => ⟨_, h.1, rfl, rfl, ?_, rfl⟩, fun c8 => ⟨k2, fun c9 => ⟨_, h.1, rfl, rfl, ?_, rfl⟩, fun c10 => ⟨_, h.1, rfl, rfl, ?_, rfl⟩⟩⟩⟩)
  · rw [if_neg (fun z => c1 (t1.mpr z)), if_neg (fun z => c2 (z0.mpr z))]; rfl
  · rw [if_neg (fun z => c1 (t1.mpr z)), if_pos (z0.mp c3), if_pos (t2.mp c4)]; rfl
  · rw [if_neg (fun z => c1 (t1.mpr z)), if_pos (z0.mp c3), if_neg (fun z => c5 (t2.mpr z))]; rfl
  · rw [if_pos (t1.mp c6), if_neg (fun z => c7 (z0.mpr z))]; rfl
  · rw [if_pos (t1.mp c6), if_pos (z0.mp c8), if_pos (t2.mp c9)]; rfl
  · rw [if_pos (t1.mp c6), if_pos (z0.mp c8), if_neg (fun z => c10 (t2.mpr z))]; rfl
theorem imin_t (x y : Int32) : (imin x y).toInt = if y.toInt < x.toInt then y.toInt else x.toInt := by
  unfold imin
  by_cases c : y < x
  · rw [if_pos c, if_pos (Int32.lt_iff_toInt_lt.mp c)]
  · rw [if_neg c, if_neg (fun z => c (Int32.lt_iff_toInt_lt.mpr z))]
/-- what one square gives on to the next layer -/
def RfQ (h : zH) (I : Nat → Nat → Int32) (a i c k : Nat) (v : Int) (V T : Nat → Int) (S d : Int) : Prop :=
  (∀ b, b ≠ a + 2 → I b = h.1 b) ∧ (∀ j, (j < 64 * (i + 1) ∨ 64 * (i + 1) + 64 ≤ j) → I (a + 2) j = h.1 (a + 2) j) ∧
  (∀ n, n < 64 → Kc (I, h.2) a (i + 1) n ≤ Kc h a (i + 1) n ∧ (Kc (I, h.2) a (i + 1) n = Kc h a (i + 1) n ∨ ∃ s, s < 4 ∧ nxV V d c s = (n : Int) ∧ Kc (I, h.2) a (i + 1) n = v + PrW (nxV V d) (pnT T S) i c s)) ∧
  ∀ s, s < k → nxV V d c s ≠ -1 → Kc (I, h.2) a (i + 1) (nxV V d c s).toNat ≤ v + PrW (nxV V d) (pnT T S) i c s
theorem c_reachFrom (l : Launch) (G : zG) (h : zH) (a q g i c : Nat) (x1 x2 x3 : Int32) (o : WO h a q g V T S d) (x : WX a q g V S d) (h1 : x1.toInt = (i : Int)) (hi : i < 40) (h2 : x2.toInt = (c : Int)) (hc : c < nV V) (h3 : 0 ≤ x3.toInt ∧ x3.toInt ≤ 100) :
    CTv l G YX9_reachFrom 3 [va_rf (some a), .int x1, .int x2, .int x3] h (fun I => RfQ h I a i c 4 x3.toInt V T S d) := by
  have nv := nV_eq x.1
  have ok := w_ok (T := T) (S := S) (d := d) x.1
  have e1 : (x1 + 1).toInt = ((i + 1 : Nat) : Int) := i_1 h1 (by omega)
  have loop : ∀ (fu k : Nat) (x4 : Int32) (u5 u6 : Value) (I : Nat → Nat → Int32), k ≤ 4 → 4 - k < fu → x4.toInt = (k : Int) → RfQ h I a i c k x3.toInt V T S d →
      Z l G mX9_reachFrom 3 (fun w h1 => ∃ J, w = none ∧ h1 = (J, h.2) ∧ RfQ h J a i c 4 x3.toInt V T S d) 0 0 3 [va_rf (some a), .int x1, .int x2, .int x3, .int x4, u5, u6] [] (I, h.2) := by
    intro fu
    induction fu with
    | zero => intro k x4 u5 u6 I q1 q2; omega
    | succ fu ih =>
      intro k x4 u5 u6 I q1 q2 hx r
      obtain ⟨r1, r2, r3, r4⟩ := r
      have oI : WO (I, h.2) a q g V T S d := o.cg x (fun b hb => r1 b (by omega)) (by rw [r1 a (by omega)]) (by rw [r1 a (by omega)])
      refine sX9_reachFrom_3 (h := (I, h.2)) a x1 x2 x3 x4 u5 u6 o.1 (Nat.le_refl _) ⟨fun c1 => ⟨I, rfl, rfl, r1, r2, r3, fun s hs => r4 s (by omega)⟩, fun c2 => ⟨q, oI.2.1, oI.2.2.2.1, fun c3 => ?_, fun c4 => ?_⟩⟩
      · have wn := w_next oI x h2 hx (by omega)
        refine ih (k + 1) _ _ _ I (by omega) (by omega) (i_1 hx (by omega)) ⟨r1, r2, r3, fun s hs hn => ?_⟩
        by_cases es : s = k
        · subst es; exact absurd (wn.symm.trans (n_m1.mp c3)) hn
        · exact r4 s (by omega) hn
      · have wn := w_next oI x h2 hx (by omega)
        have hn : nxV V d c k ≠ -1 := fun z => c4 (n_m1.mpr (wn.trans z))
        obtain ⟨n0, n1⟩ := (ok.1 c k hc (by omega)).resolve_left hn
        obtain ⟨n, en⟩ : ∃ n : Nat, nxV V d c k = (n : Int) := ⟨(nxV V d c k).toNat, by omega⟩
        have hn64 : n < 64 := by omega
        rw [en] at wn
        refine ⟨_, c_priceOf l G (I, h.2) a q g i c k n x1 x2 x4 _ oI x h1 (by omega) h2 (by omega) hx (by omega) wn hn64 (by omega), fun y24 I22 ⟨z1, z2⟩ I31 c6 => ?_⟩
        have eI : I22 = I := z2
        subst eI
        have pr := PrW_rng ok i c k
        have pr2 : PrW (nxV V d) (pnT T S) i c k ≤ 2 := by have := pr.2; split at this <;> omega
        have ez := zcost_at (h := (I22, h.2)) (a := a) (i := i + 1) (c := n) o.1 e1 (by omega) wn hn64
        rw [ez] at c6
        obtain ⟨a1, a2, a3⟩ := zput_eff (h := (I22, h.2)) (o.1.w 2 rfl) (m64 e1 (by omega) wn hn64) (by omega) c6
        have e3 : (x3 + y24).toInt = x3.toInt + PrW (nxV V d) (pnT T S) i c k := by rw [i_add (by omega) (by omega), z1]
        have eN : Kc (I31, h.2) a (i + 1) n = if x3.toInt + PrW (nxV V d) (pnT T S) i c k < Kc (I22, h.2) a (i + 1) n then x3.toInt + PrW (nxV V d) (pnT T S) i c k else Kc (I22, h.2) a (i + 1) n := by
          show (I31 (a + 2) (64 * (i + 1) + n)).toInt = _
          rw [a3, imin_t, e3]; rfl
        have eO : ∀ n', n' ≠ n → Kc (I31, h.2) a (i + 1) n' = Kc (I22, h.2) a (i + 1) n' := fun n' hn' => by
          show (I31 (a + 2) (64 * (i + 1) + n')).toInt = _
          rw [a2 _ (by omega)]; rfl
        refine ih (k + 1) _ _ _ I31 (by omega) (by omega) (i_1 hx (by omega)) ⟨fun b hb => (a1 b hb).trans (r1 b hb), fun j hj => (a2 j (by omega)).trans (r2 j hj), fun n' hn' => ?_, fun s hs hsn => ?_⟩
        · obtain ⟨p1, p2⟩ := r3 n' hn'
          by_cases ee : n' = n
          · subst ee
            rw [eN]
            split
            · exact ⟨by omega, Or.inr ⟨k, by omega, en, rfl⟩⟩
            · exact ⟨p1, p2⟩
          · rw [eO n' ee]; exact ⟨p1, p2⟩
        · by_cases es : s = k
          · subst es
            rw [show (nxV V d c s).toNat = n by omega, eN]
            split <;> omega
          · have p := r4 s (by omega) hsn
            by_cases ee : (nxV V d c s).toNat = n
            · rw [ee] at p ⊢
              rw [eN]
              split <;> omega
            · rw [eO _ ee]; exact p
  exact kX9_reachFrom a x1 x2 x3 (sX9_reachFrom_0 a x1 x2 x3 o.1 (Nat.le_refl _) (loop 5 0 0 zU zU h.1 (by omega) (by omega) rfl ⟨fun _ _ => rfl, fun _ _ => rfl, fun n _ => ⟨Int.le_refl _, Or.inl rfl⟩, fun s hs => by omega⟩))
end K62
