set_option maxRecDepth 4000
/-! ===== way ===== -/
section K70
variable {TK : (Nat → Int) → (Nat → Int32) → (Nat → Int32) → Prop} {RK : (Nat → Int) → (Nat → Int) → (Nat → Int32) → (Nat → Int32) → (Nat → Int32) → (Nat → Int32) → Prop}
def tpT (st : PS) (c : Nat) : Int := match topo st.P (Int32.ofNat c) st.n with
  | none => -1
  | some k => 8 * (st.P k 1).toInt + 4 * (st.P k 2).toInt + (st.P k 3).toInt
theorem tpT_n {st : PS} {c : Nat} (h : topo st.P (Int32.ofNat c) st.n = none) : tpT st c = -1 := by
  unfold tpT; rw [h]
theorem tpT_s {st : PS} {c k : Nat} (h : topo st.P (Int32.ofNat c) st.n = some k) : tpT st c = 8 * (st.P k 1).toInt + 4 * (st.P k 2).toInt + (st.P k 3).toInt := by
  unfold tpT; rw [h]
theorem c_showTops (l : Launch) (G : zG) (h : zH) (V : Nat → Int) (a g : Nat) (st : PS) (ha : lo0 h a) (hg : zAw h g 64) (dj : g < a ∨ a + 14 ≤ g) (r : CPr h a st) (hn : st.n ≤ 150) (ok : okS V st) :
    CTv l G YX0_showTops 2 [va_rf (some a), va_rf (some g)] h (fun I => (∀ b, b ≠ g → I b = h.1 b) ∧ ∀ c, c < 64 → (I g c).toInt = tpT st c) := by
  have loop : ∀ (fu i : Nat) (x2 : Int32) (u3 : Value) (I : Nat → Nat → Int32), i ≤ 64 → 64 - i < fu → x2.toInt = (i : Int) → (∀ b, b ≠ g → I b = h.1 b) → (∀ c, c < i → (I g c).toInt = tpT st c) →
      Z l G mX0_showTops 2 (fun w h1 => ∃ J, w = none ∧ h1 = (J, h.2) ∧ ((∀ b, b ≠ g → J b = h.1 b) ∧ ∀ c, c < 64 → (J g c).toInt = tpT st c)) 0 0 2 [va_rf (some a), va_rf (some g), .int x2, u3] [] (I, h.2) := by
    intro fu
    induction fu with
    | zero => intro i x2 u3 I q1 q2; omega
    | succ fu ih =>
      intro i x2 u3 I q1 q2 hx e1 e2
      have rI : CPr (I, h.2) a st := r.cg (fun b h1 h2 => e1 b (by omega))
      have et : zI (I, h.2) (a + 7) (zix x2) = topI (topo st.P (Int32.ofNat i) st.n) ∨ ¬ i < 64 := by
        by_cases c : i < 64
        · exact Or.inl (by rw [rI.2.2 x2 (by omega) (by omega), n_ofn hx])
        · exact Or.inr c
      have put : i < 64 → ∀ (v : Int32) (u : Value) (I' : Nat → Nat → Int32), v.toInt = tpT st i → I' = (zput (I, h.2) (some g) x2 v).1 →
          Z l G mX0_showTops 2 (fun w h1 => ∃ J, w = none ∧ h1 = (J, h.2) ∧ ((∀ b, b ≠ g → J b = h.1 b) ∧ ∀ c, c < 64 → (J g c).toInt = tpT st c)) 0 0 2 [va_rf (some a), va_rf (some g), .int (x2 + 1), u] [] (I', h.2) := fun hi v u I' hv c => by
        obtain ⟨a1, a2, a3⟩ := zput_eff (h := (I, h.2)) hg hx hi c
        refine ih (i + 1) _ _ I' (by omega) (by omega) (i_1 hx (by omega)) (fun b hb => (a1 b hb).trans (e1 b hb)) (fun k hk => ?_)
        by_cases e : k = i
        · subst e; rw [a3]; exact hv
        · rw [a2 k e]; exact e2 k (by omega)
      refine sX0_showTops_2 (h := (I, h.2)) a (some g) x2 u3 ha (Nat.le_refl _) ⟨fun c1 => ⟨I, rfl, rfl, e1, fun c hc => e2 c (by have : (64 : Int) ≤ x2.toInt := c1; omega)⟩, fun c2 => ?_⟩
      have hi : i < 64 := by have : x2.toInt < (64 : Int) := c2; omega
      have et' := et.resolve_right (fun z => z hi)
      have pk : zpok (I, h.2) (some g) := zpok_lo (h := (I, h.2)) hg (by decide)
      refine ⟨by omega, by show _ < (64 : Int); omega, fun c3 => ⟨pk, fun I17 c4 => put hi _ _ I17 ?_ c4⟩, fun c5 => ⟨pk, fun I24 c6 => put hi _ _ I24 ?_ c6⟩⟩
      · rw [et'] at c3 ⊢
        cases q : topo st.P (Int32.ofNat i) st.n with
        | none => rw [q] at c3; exact absurd rfl c3
        | some k =>
          obtain ⟨hk, _⟩ := topo_some _ q
          have o := ok k hk
          have ek : (Int32.ofNat k).toInt = (k : Int) := i_ofNat (by omega)
          show (zget (I, h.2) (some (a + 2)) (Int32.ofNat k)).toInt = _
          rw [(rI.get (h := (I, h.2)) ha hn ek hk).2.1, (shp (by have := o.2.1; omega) (by have := o.2.2.1; omega) (by have := o.2.2.2.1; omega)).1, tpT_s q]
      · rw [et'] at c5
        cases q : topo st.P (Int32.ofNat i) st.n with
        | none => rw [tpT_n q]; rfl
        | some k =>
          rw [q] at c5
          obtain ⟨hk, _⟩ := topo_some _ q
          have ek : (Int32.ofNat k).toInt = (k : Int) := i_ofNat (by omega)
          have : (Int32.ofNat k).toInt = -1 := n_m1.mp c5
          omega
  exact kX0_showTops a (some g) (sX0_showTops_0 a (some g) ha (Nat.le_refl _) (loop 65 0 0 zU h.1 (by omega) (by omega) rfl (fun _ _ => rfl) (fun c hc => by omega)))
theorem c_topmosts (l : Launch) (G : zG) (h : zH) (V : Nat → Int) (st : PS) (hl : lo11 h 313) (r : MPr h st) (hn : st.n ≤ 150) (ok : okS V st) :
    CTv l G YX11_topmosts 2 [va_rf (some 313)] h (fun I => (∀ b, b ≠ 330 → I b = h.1 b) ∧ ∀ c, c < 64 → (I 330 c).toInt = tpT st c) := by
  have loop : ∀ (fu i : Nat) (x1 : Int32) (u2 : Value) (I : Nat → Nat → Int32), i ≤ 64 → 64 - i < fu → x1.toInt = (i : Int) → (∀ b, b ≠ 330 → I b = h.1 b) → (∀ c, c < i → (I 330 c).toInt = tpT st c) →
      Z l G mX11_topmosts 2 (fun w h1 => ∃ J, w = none ∧ h1 = (J, h.2) ∧ ((∀ b, b ≠ 330 → J b = h.1 b) ∧ ∀ c, c < 64 → (J 330 c).toInt = tpT st c)) 0 0 2 [va_rf (some 313), .int x1, u2] [] (I, h.2) := by
    intro fu
    induction fu with
    | zero => intro i x1 u2 I q1 q2; omega
    | succ fu ih =>
      intro i x1 u2 I q1 q2 hx e1 e2
      have rI : MPr (I, h.2) st := r.cg (by rw [e1 313 (by decide)]) (fun b h1 h2 => e1 b (by omega))
      have put : i < 64 → ∀ (v : Int32) (u : Value) (I' : Nat → Nat → Int32), v.toInt = tpT st i → I' = (zwI (I, h.2) (313 + 17) (zix x1) v).1 →
          Z l G mX11_topmosts 2 (fun w h1 => ∃ J, w = none ∧ h1 = (J, h.2) ∧ ((∀ b, b ≠ 330 → J b = h.1 b) ∧ ∀ c, c < 64 → (J 330 c).toInt = tpT st c)) 0 0 2 [va_rf (some 313), .int (x1 + 1), u] [] (I', h.2) := fun hi v u I' hv c => by
        rw [zix_of hx] at c
        obtain ⟨a1, a2, a3⟩ := zwI_eff c
        refine ih (i + 1) _ _ I' (by omega) (by omega) (i_1 hx (by omega)) (fun b hb => (a1 b hb).trans (e1 b hb)) (fun k hk => ?_)
        by_cases e : k = i
        · subst e; rw [show I' 330 k = v from a3]; exact hv
        · rw [show I' 330 k = I 330 k from a2 k e]; exact e2 k (by omega)
      refine sX11_topmosts_2 (h := (I, h.2)) 313 x1 u2 hl (Nat.le_refl _) ⟨fun c1 => ⟨I, rfl, rfl, e1, fun c hc => e2 c (by have : (64 : Int) ≤ x1.toInt := c1; omega)⟩, fun c2 => ⟨_, c_topmost l G (I, h.2) st x1 hl rI hn, fun y10 I8 ⟨z1, z2⟩ => ?_⟩⟩
      have hi : i < 64 := by have : x1.toInt < (64 : Int) := c2; omega
      have eI : I8 = I := z2
      subst eI
      rw [n_ofn hx] at z1
      cases q : topo st.P (Int32.ofNat i) st.n with
      | none =>
        rw [q] at z1
        refine ⟨fun c4 => absurd z1 c4, fun c6 => ⟨by omega, by show _ < (64 : Int); omega, fun I26 c7 => put hi _ _ I26 ?_ c7⟩⟩
        rw [tpT_n q]; rfl
      | some k =>
        rw [q] at z1
        obtain ⟨hk, _⟩ := topo_some _ q
        have o := ok k hk
        have ek : y10.toInt = (k : Int) := by rw [z1]; exact i_ofNat (by omega)
        have b0 : (0 : Int) ≤ y10.toInt := by omega
        have b1 : y10.toInt < ((160 : Nat) : Int) := by show _ < (160 : Int); omega
        refine ⟨fun c4 => ⟨b0, b1, b0, b1, b0, b1, by omega, by show _ < (64 : Int); omega, fun I22 c5 => put hi _ _ I22 ?_ c5⟩, fun c6 => absurd (n_m1.mp c6) (by omega)⟩
        have p1 := rI.2 k hk 1 (by decide)
        have p2 := rI.2 k hk 2 (by decide)
        have p3 := rI.2 k hk 3 (by decide)
        rw [zix_of ek, tpT_s q]
        rw [show zI (I8, h.2) (313 + 8) k = st.P k 1 from p1, show zI (I8, h.2) (313 + 9) k = st.P k 2 from p2, show zI (I8, h.2) (313 + 10) k = st.P k 3 from p3]
        have o1 := o.2.1
        have o2 := o.2.2.1
        have o3 := o.2.2.2.1
        have e1 : ((8 : Int32) * st.P k 1).toInt = 8 * (st.P k 1).toInt := i_mul (by show _ ≤ (8 : Int) * _; omega) (by show (8 : Int) * _ < _; omega)
        have e2 : ((4 : Int32) * st.P k 2).toInt = 4 * (st.P k 2).toInt := i_mul (by show _ ≤ (4 : Int) * _; omega) (by show (4 : Int) * _ < _; omega)
        have e3 : ((8 : Int32) * st.P k 1 + 4 * st.P k 2).toInt = 8 * (st.P k 1).toInt + 4 * (st.P k 2).toInt := by rw [i_add (by omega) (by omega), e1, e2]
        rw [i_add (by omega) (by omega), e3]
  exact kX11_topmosts 313 (sX11_topmosts_0 313 hl (Nat.le_refl _) (loop 65 0 0 zU h.1 (by omega) (by omega) rfl (fun _ _ => rfl) (fun c hc => by omega)))
/-- a heap with other references of no account -/
def GM (h g : zH) : Prop := SameC h g.1 ∧ (∀ b, zK g b = zK h b) ∧ zN g = zN h ∧ lo10 g 0 ∧ lo11 g 313
theorem Inv.gm {h g : zH} (hI : Inv (KeptP TK RK) h) (m : GM h g) : Inv (KeptP TK RK) g := by
  obtain ⟨s, mK, mN, m10, m11⟩ := m
  obtain ⟨q1, q2, q3, q4, q5, q6⟩ := Inv.kept (I := g.1) KeptP.same hI s
  exact ⟨m10, m11, mN.trans hI.2.2.1, q4, q5, q6⟩
theorem PairG.night {l : Launch} {G : zG} {YC YM : zY} {dc dm : Nat} {args : List Value} (x e : Int32) (f : (Nat → Int) → Int32)
    (c0 : ∀ h, Inv (KeptP TK RK) h → znat h 1 x = none → CTiG l G YC dc (va_rf (some 0) :: args) h (fun y g => y = e ∧ GM h g))
    (c1 : ∀ h n, Inv (KeptP TK RK) h → NA h x n → CTiG l G YC dc (va_rf (some 0) :: args) h (fun y g => y = f (RW h (610 + 318 * n)) ∧ GM h g))
    (m0 : ∀ h, Inv (KeptP TK RK) h → zisOf h 313 0 x = false → CTi l G YM dm (va_rf (some 313) :: args) h (fun y I => y = e ∧ SameC h I))
    (m1 : ∀ h n, Inv (KeptP TK RK) h → NA h x n → zisOf h 313 0 x = true → CTi l G YM dm (va_rf (some 313) :: args) h (fun y I => y = f (RW h (610 + 318 * n)) ∧ SameC h I)) : PairG (KeptP TK RK) l G YC YM dc dm args := fun h hI => by
  refine ⟨nF x e f (AL h), fun g => GM h g, ?_, fun g m => ⟨m.2.2.2.1, m.2.2.2.2, fun j => m.1 1000000 (by unfold IC; omega) j, m.2.1⟩, fun g m => ?_⟩
  · rcases hI.night x with ⟨a1, a2, a3⟩ | ⟨n, b1, b2, b3, b4, b5, b6, b7, b8⟩
    · exact (c0 h hI a1).mono rfl fun v h1 ⟨y, z1, z2, z3⟩ => ⟨y, z1, by rw [z2]; exact (if_neg a3).symm, z3⟩
    · refine (c1 h n hI ⟨b1, b2, b4, b6, b7, b8⟩).mono rfl fun v h1 ⟨y, z1, z2, z3⟩ => ⟨y, z1, ?_, z3⟩
      rw [z2]; unfold nF
      rw [if_pos ⟨by omega, by omega⟩, show x.toInt.toNat = n by omega]; rfl
  · have gI := hI.gm m
    have eA : AL g = AL h := funext fun j => m.1 314 (by unfold IC; omega) j
    rw [← eA]
    rcases gI.night x with ⟨a1, a2, a3⟩ | ⟨n, b1, b2, b3, b4, b5, b6, b7, b8⟩
    · exact (m0 g gI a2).mono rfl fun v h1 ⟨y, J, z1, z2, z3, z4⟩ => ⟨y, J, z1, z2, by rw [z3]; exact (if_neg a3).symm, Inv.kept (h := g) KeptP.same gI z4⟩
    · refine (m1 g n gI ⟨b1, b2, b4, b6, b7, b8⟩ b5).mono rfl fun v h1 ⟨y, J, z1, z2, z3, z4⟩ => ⟨y, J, z1, z2, ?_, Inv.kept (h := g) KeptP.same gI z4⟩
      rw [z3]; unfold nF
      rw [if_pos ⟨by omega, by omega⟩, show x.toInt.toNat = n by omega]; rfl
theorem GM.rf {h : zH} (l1 : lo10 h 0) (l2 : lo11 h 313) {J : Nat → Nat → Int32} (s : SameC h J) : GM h (J, h.2) := ⟨s, fun _ => rfl, rfl, l1, l2⟩
theorem los_128 {h : zH} (q : lo10 h 0) : lo9 h 128 := by
  have := zlo.sub (ks' := ks9) (rs' := rs9) q 128 (by decide +kernel) (by decide +kernel) (by decide +kernel)
  rw [Nat.zero_add] at this
  exact this
theorem law_127 {h : zH} (q : lo10 h 0) : zAw h 127 64 := by
  have := zlo.w (n := 64) q 127 (by decide +kernel)
  rw [Nat.zero_add] at this
  exact this
theorem zlo.gr {h g : zH} {a : Nat} {ks : List (Nat × Nat)} {rs : List (Nat × Nat × Nat)} (q : zlo h a ks rs) (hK : ∀ b, zK g b = zK h b) (hN : zN g = zN h) (hR : ∀ e, e ∈ rs → zR g (a + e.1) e.2.1 = zR h (a + e.1) e.2.1) : zlo g a ks rs :=
  ⟨by rw [hN]; exact q.1, fun i e hi => by rw [hK]; exact q.2.1 i e hi, fun i e hi => by rw [hR e (List.mem_of_getElem? hi)]; exact q.2.2 i e hi⟩
def wayS (V : Nat → Int) (P fr to : Nat) : Int × Nat := wyP V (tpT (stM V (-1) 100)) (pF V P 0) (pF V P 1) fr to
def wayF (x2 x3 x4 x5 : Int32) (V : Nat → Int) : Int32 :=
  if (0 ≤ x2.toInt ∧ x2.toInt < V 3) ∧ (0 ≤ x3.toInt ∧ x3.toInt < V 0 * V 1) ∧ (0 ≤ x4.toInt ∧ x4.toInt < V 0 * V 1) then
    (if (wayS V x2.toInt.toNat x3.toInt.toNat x4.toInt.toNat).1 < 1000000 then
      (if x5.toInt = 0 then Int32.ofInt (wayS V x2.toInt.toNat x3.toInt.toNat x4.toInt.toNat).1
       else if x5.toInt = 1 then Int32.ofNat (wayS V x2.toInt.toNat x3.toInt.toNat x4.toInt.toNat).2
       else if 10 ≤ x5.toInt ∧ x5.toInt < 10 + ((wayS V x2.toInt.toNat x3.toInt.toNat x4.toInt.toNat).2 : Int) then
         Int32.ofNat (sdW (nxV V (pF V x2.toInt.toNat 1)) (pnT (tpT (stM V (-1) 100)) (pF V x2.toInt.toNat 0)) x4.toInt.toNat (wayS V x2.toInt.toNat x3.toInt.toNat x4.toInt.toNat).2 (x5.toInt.toNat - 10) (cwW (nxV V (pF V x2.toInt.toNat 1)) (pnT (tpT (stM V (-1) 100)) (pF V x2.toInt.toNat 0)) x4.toInt.toNat (wayS V x2.toInt.toNat x3.toInt.toNat x4.toInt.toNat).2 x3.toInt.toNat (x5.toInt.toNat - 10)))
       else -1)
     else -1)
  else -1
theorem wyP_rng {V T : Nat → Int} {S d : Int} {fr to : Nat} (w : WFN V) : 0 ≤ (wyP V T S d fr to).1 ∧ (wyP V T S d fr to).2 ≤ 40 ∧ ((wyP V T S d fr to).1 < 1000000 → (wyP V T S d fr to).1 < 100) := by
  have ok := w_ok (T := T) (S := S) (d := d) w
  unfold wyP
  by_cases e : fr = to
  · rw [if_pos e]; exact ⟨Int.le_refl _, Nat.zero_le _, fun _ => by decide⟩
  · rw [if_neg e]
    have := bw_spec (to := to) (fr := fr) ok 40
    exact ⟨this.2.1, this.2.2.1, fun z => (bw_D ok z).2.1⟩
theorem pp_way (l : Launch) (G : zG) : P_way (KeptP TK RK) l G := fun x1 x2 x3 x4 x5 => by
  refine PairG.night x1 (-1) (wayF x2 x3 x4 x5) (fun h hI c0 => ?_) (fun h n hI ⟨b1, b2, b4, b6, b7, b8⟩ => ?_) (fun h hI c0 => ?_) (fun h n hI ⟨b1, b2, b4, b6, b7, b8⟩ bT => ?_)
  · exact kX10_way 0 x1 x2 x3 x4 x5 (sX10_way_0 0 x1 x2 x3 x4 x5 hI.1 (Nat.le_refl _) ⟨fun c1 => ⟨_, rfl, rfl, GM.rf hI.1 hI.2.1 (SameC.rf h)⟩, fun b5 c2 => absurd (c0.symm.trans c2) (fun z => by cases z)⟩)
  · refine kX10_way 0 x1 x2 x3 x4 x5 (sX10_way_0 0 x1 x2 x3 x4 x5 hI.1 (Nat.le_refl _) ⟨fun c1 => absurd (b4.symm.trans c1) (fun z => by cases z), fun b5 c2 => ?_⟩)
    have e5 : b5 = 5 + 18 * n := (Option.some.inj (b4.symm.trans c2)).symm
    subst e5
    have same : GM h h := GM.rf hI.1 hI.2.1 (SameC.rf h)
    have hh := fun c => (zhas_at b7 b8 (c := c)).2
    refine ⟨b6, fun c3 => ⟨_, rfl, ?_, same⟩, fun b14 c4 => ?_⟩
    · unfold wayF
      rw [if_neg (fun z => ?_)]
      obtain ⟨P, hP⟩ : ∃ P : Nat, x2.toInt = (P : Int) := ⟨x2.toInt.toNat, by omega⟩
      exact absurd ((per_mem b6 b7 b8 hP (by omega)).1.symm.trans c3) (fun z => by cases z)
    · have h2 : 0 ≤ x2.toInt ∧ x2.toInt < RW h (610 + 318 * n) 3 := Decidable.byContradiction fun z => absurd ((per_no b7 b8 z).symm.trans c4) (fun z => by cases z)
      refine ⟨fun c5 => ⟨_, rfl, ?_, same⟩, fun c6 => ⟨fun c7 => ?_, fun c21 => ⟨_, rfl, ?_, same⟩⟩⟩
      · unfold wayF; rw [if_neg (fun z => (bfalse (hh x3)).mp c5 z.2.1)]
      · have h3 := (hh x3).mp c6
        have h4 := (hh x4).mp c7
        have nv := nV_eq b7
        obtain ⟨P, hP⟩ : ∃ P : Nat, x2.toInt = (P : Int) := ⟨x2.toInt.toNat, by omega⟩
        obtain ⟨fr, hfr⟩ : ∃ k : Nat, x3.toInt = (k : Int) := ⟨x3.toInt.toNat, by omega⟩
        obtain ⟨to, hto⟩ : ∃ k : Nat, x4.toInt = (k : Int) := ⟨x4.toInt.toNat, by omega⟩
        have l81 := los_81 hI.1
        have n150 := stM_150 b7 (al := -1) 100
        have okk := (stM_ok b7 (al := -1) 100).1
        refine ⟨_, c_lay l G h _ 81 (5 + 18 * n) 99 99 l81 b6 b7 b8 (by omega) rfl (by decide), fun I34 ⟨g1, g2, g3⟩ => ⟨_, c_showTops l G (I34, h.2) _ 81 127 _ l81 (law_127 hI.1) (by decide) g2 n150 okk, fun I43 ⟨t1, t2⟩ => ?_⟩⟩
        have e43 : ∀ b, b ≠ 127 → (b < 81 ∨ 95 ≤ b) → I43 b = h.1 b := fun b z1 z2 => (t1 b z1).trans (g1 b (by omega))
        have o43 : NObj (I43, h.2) (5 + 18 * n) (RW h (610 + 318 * n)) := b8.same b7 (fun b z1 z2 => e43 b (by omega) (by omega))
        refine ⟨_, c_seek l G (I43, h.2) 128 (5 + 18 * n) 127 P fr to x2 x3 x4 (los_128 hI.1) b6 (law_127 hI.1) b7 o43 (by omega) (by decide) t2 hP (by omega) hfr (by omega) hto (by omega), fun g57 ⟨k1, k2, k3, k4, k5, k6, k7⟩ => ?_⟩
        have l10' : lo10 g57 0 := zlo.gr (h := (I43, h.2)) hI.1 k3 k4 (fun e he => k2 _ _ (fun z => by
          have q : rs10.all (fun e => decide (¬ (0 + e.1 = 128 ∧ (e.2.1 = 3 ∨ e.2.1 = 4)))) = true := by decide +kernel
          exact (of_decide_eq_true (List.all_eq_true.mp q e he)) z))
        have l11' : lo11 g57 313 := zlo.gr (h := (I43, h.2)) hI.2.1 k3 k4 (fun e he => k2 _ _ (fun z => by omega))
        have gm : GM h g57 := ⟨fun b hb j => by unfold IC at hb; rw [k1 b (by omega)]; show I43 b j = _; rw [e43 b (by omega) (by omega)], k3, k4, l10', l11'⟩
        have wr := wyP_rng (T := tpT (stM (RW h (610 + 318 * n)) (-1) 100)) (S := pF (RW h (610 + 318 * n)) P 0) (d := pF (RW h (610 + 318 * n)) P 1) (fr := fr) (to := to) b7
        have fv : wayF x2 x3 x4 x5 (RW h (610 + 318 * n)) = _ := if_pos ⟨h2, h3, h4⟩
        rw [show x2.toInt.toNat = P by omega, show x3.toInt.toNat = fr by omega, show x4.toInt.toNat = to by omega] at fv
        rw [fv]
        refine ⟨l10', fun c11 => ?_, fun c20 => ⟨_, rfl, ?_, gm⟩⟩
        · have hW : (wayS (RW h (610 + 318 * n)) P fr to).1 < 1000000 := Decidable.byContradiction fun z => c11 (k7.2 z)
          obtain ⟨p1, p2, p3⟩ := k7.1 hW
          rw [if_pos hW]
          refine ⟨fun c12 => ⟨_, rfl, ?_, gm⟩, fun c13 => ⟨fun c14 => ⟨_, rfl, ?_, gm⟩, fun c15 => ⟨fun c16 => ⟨_, rfl, ?_, gm⟩, fun c17 => ?_⟩⟩⟩
          · rw [if_pos c12]
            exact n_ofV p1
          · rw [if_neg c13, if_pos c14]
            exact n_ofn p2
          · have c16' : x5.toInt < (10 : Int) := c16
            rw [if_neg c13, if_neg c15, if_neg (by omega)]
          · have c17' : (10 : Int) ≤ x5.toInt := c17
            have xl := Int32.toInt_lt x5
            have e10 : (x5 - 10).toInt = x5.toInt - 10 := i_sub (by show _ ≤ x5.toInt - (10 : Int); omega) (by show x5.toInt - (10 : Int) < _; omega)
            have p2' : (zI g57 (0 + 128) 1).toInt = ((wayS (RW h (610 + 318 * n)) P fr to).2 : Int) := p2
            refine ⟨fun c18 => ⟨_, rfl, ?_, gm⟩, fun c19 => ⟨_, rfl, ?_, gm⟩⟩
            · rw [if_neg c13, if_neg c15, if_neg (by omega)]
            · rw [if_neg c13, if_neg c15, if_pos (by omega)]
              have hk : x5.toInt.toNat - 10 < (wayS (RW h (610 + 318 * n)) P fr to).2 := by omega
              have w40 : (wayS (RW h (610 + 318 * n)) P fr to).2 ≤ 40 := wr.2.1
              show zget g57 (some 129) (x5 - 10) = _
              rw [zget_w (n := 40) (k5.1.w 1 rfl) (i := x5.toInt.toNat - 10) (by omega) (by omega)]
              exact n_ofn (p3 _ hk)
        · have nW : ¬ (wayS (RW h (610 + 318 * n)) P fr to).1 < 1000000 := fun z => by
            have p1 : (zI g57 128 0).toInt = (wayS (RW h (610 + 318 * n)) P fr to).1 := (k7.1 z).1
            have p2 : (zI g57 128 0).toInt = -1 := n_m1.mp c20
            have p3 : 0 ≤ (wayS (RW h (610 + 318 * n)) P fr to).1 := wr.1
            omega
          rw [if_neg nW]
      · unfold wayF; rw [if_neg (fun z => (bfalse (hh x4)).mp c21 z.2.2)]
  · refine kX11_way 313 x1 x2 x3 x4 x5 (sX11_way_0 313 x1 x2 x3 x4 x5 hI.2.1 (Nat.le_refl _) ⟨_, c_isN l G hI x1, fun y6 I4 ⟨s1, s2, s3, s4⟩ => ⟨fun c2 => ⟨_, I4, rfl, rfl, rfl, s1⟩, fun c2 => ?_⟩⟩)
    exact absurd (c0.symm.trans (s3.symm.trans c2)) (fun z => by cases z)
  · refine kX11_way 313 x1 x2 x3 x4 x5 (sX11_way_0 313 x1 x2 x3 x4 x5 hI.2.1 (Nat.le_refl _) ⟨_, c_isN l G hI x1, fun y6 I4 ⟨s1, s2, s3, s4⟩ => ⟨fun c2 => absurd (bT.symm.trans (s3.symm.trans c2)) (fun z => by cases z), fun c2 => ?_⟩⟩)
    have eV : RW (I4, h.2) (610 + 318 * n) = RW h (610 + 318 * n) := RWc s1.al _
    have ma := s4 n b1 b2 c2
    have mm := ma.mn b2 (by rw [eV]; exact b7)
    rw [eV] at mm
    obtain ⟨k3, ip⟩ := zisP_at mm b7 (p := x2)
    have zc := fun p => zisC_at mm b7 (p := p)
    have n150 := stM_150 b7 (al := -1) 100
    have okk := (stM_ok b7 (al := -1) 100).1
    refine ⟨k3, fun c4 => ⟨_, I4, rfl, rfl, ?_, s1⟩, fun c5 => ⟨(zc x3).1, fun c6 => ⟨_, I4, rfl, rfl, ?_, s1⟩, fun c7 => ⟨(zc x4).1, fun c8 => ?_, fun c20 => ⟨_, I4, rfl, rfl, ?_, s1⟩⟩⟩⟩
    · unfold wayF; rw [if_neg (fun z => (bfalse ip).mp c4 z.1)]
    · unfold wayF; rw [if_neg (fun z => (bfalse (zc x3).2).mp c6 z.2.1)]
    · have h2 := ip.mp c5
      have h3 := (zc x3).2.mp c7
      have h4 := (zc x4).2.mp c8
      have nv := nV_eq b7
      obtain ⟨P, hP⟩ : ∃ P : Nat, x2.toInt = (P : Int) := ⟨x2.toInt.toNat, by omega⟩
      obtain ⟨fr, hfr⟩ : ∃ k : Nat, x3.toInt = (k : Int) := ⟨x3.toInt.toNat, by omega⟩
      obtain ⟨to, hto⟩ : ∃ k : Nat, x4.toInt = (k : Int) := ⟨x4.toInt.toNat, by omega⟩
      refine ⟨_, c_till l G (I4, h.2) n _ (-1) 99 99 hI.2.1 b7 mm (by rw [ma.2.1]; rfl) rfl (by decide), fun I41 ⟨g1, g2, g3, g4⟩ => ⟨_, c_topmosts l G (I41, h.2) _ _ hI.2.1 g2 n150 okk, fun I50 ⟨t1, t2⟩ => ?_⟩⟩
      have mJ : MN (I41, h.2) n (RW h (610 + 318 * n)) := OnlyT.mn (h := (I4, h.2)) g1 mm
      have s41 : SameC h I41 := s1.tr g1.same
      have m50 : WM0 (I50, h.2) n (RW h (610 + 318 * n)) (tpT (stM (RW h (610 + 318 * n)) (-1) 100)) := ⟨MN.cg (h := (I41, h.2)) mJ (fun k _ => by rw [t1 313 (by decide)]) (t1 314 (by decide)) (fun k _ => by rw [t1 317 (by decide)]), by
        have : AL (I50, h.2) = AL h := funext fun j => by show I50 314 j = _; rw [t1 314 (by decide)]; exact s41 314 (by unfold IC; omega) j
        exact RWc this _, t2⟩
      refine ⟨_, c_isWay l G (I50, h.2) n P fr to x2 x3 x4 hI.2.1 b7 m50 hP (by omega) hfr (by omega) hto, fun y61 I59 ⟨q1, q2, q3, q4, q5⟩ => ?_⟩
      have s59 : SameC h I59 := fun b hb j => by
        have hb' : b ≠ 313 ∧ b ≠ 330 ∧ b ≠ 331 ∧ b ≠ 332 := by unfold IC at hb; omega
        rw [q1 b hb'.1 hb'.2.2.1 hb'.2.2.2]
        show I50 b j = _
        rw [t1 b hb'.2.1]; exact s41 b hb j
      have wr := wyP_rng (T := tpT (stM (RW h (610 + 318 * n)) (-1) 100)) (S := pF (RW h (610 + 318 * n)) P 0) (d := pF (RW h (610 + 318 * n)) P 1) (fr := fr) (to := to) b7
      have fv : wayF x2 x3 x4 x5 (RW h (610 + 318 * n)) = _ := if_pos ⟨h2, h3, h4⟩
      rw [show x2.toInt.toNat = P by omega, show x3.toInt.toNat = fr by omega, show x4.toInt.toNat = to by omega] at fv
      rw [fv]
      refine ⟨fun c12 => ?_, fun c19 => ⟨_, I59, rfl, rfl, ?_, s59⟩⟩
      · have hW : (wayS (RW h (610 + 318 * n)) P fr to).1 < 1000000 := q4.mp c12
        obtain ⟨p1, p2, p3⟩ := q5 c12
        have p2' : (zI (I59, h.2) 313 39).toInt = ((wayS (RW h (610 + 318 * n)) P fr to).2 : Int) := p2
        have w40 : (wayS (RW h (610 + 318 * n)) P fr to).2 ≤ 40 := wr.2.1
        have e9 : (9 + zI (I59, h.2) 313 39).toInt = 9 + ((wayS (RW h (610 + 318 * n)) P fr to).2 : Int) := by
          rw [i_add (by rw [p2']; show _ ≤ (9 : Int) + _; omega) (by rw [p2']; show (9 : Int) + _ < _; omega), p2']; rfl
        rw [if_pos hW]
        have z5 := n3r (x := x5) (u := 10) (v := 9 + zI (I59, h.2) 313 39) rfl e9
        refine ⟨fun c13 => ⟨fun c14 => ⟨fun c15 => ⟨_, I59, rfl, rfl, ?_, s59⟩, fun c16 => ?_⟩, fun c17 => ⟨_, I59, rfl, rfl, ?_, s59⟩⟩, fun c18 => ⟨_, I59, rfl, rfl, ?_, s59⟩⟩
        · have zz := z5.2.mp c15
          rw [show (10 : Int32).toInt = 10 from rfl] at zz
          rw [if_neg (fun z => c13 (n_m0.mpr z)), if_neg (show ¬ x5.toInt = 1 from fun z => c14 (i_ext z)), if_neg (by omega)]
        · have zz := z5.1.mp c16
          rw [show (10 : Int32).toInt = 10 from rfl] at zz
          have xl := Int32.toInt_lt x5
          have e10 : (x5 - 10).toInt = x5.toInt - 10 := i_sub (by show _ ≤ x5.toInt - (10 : Int); omega) (by show x5.toInt - (10 : Int) < _; omega)
          refine ⟨by omega, by rw [e10]; show _ < (41 : Int); omega, _, I59, rfl, rfl, ?_, s59⟩
          rw [if_neg (fun z => c13 (n_m0.mpr z)), if_neg (show ¬ x5.toInt = 1 from fun z => c14 (i_ext z)), if_pos (by omega)]
          rw [zix_of (n := x5.toInt.toNat - 10) (by rw [e10]; omega)]
          exact n_ofn (p3 _ (show x5.toInt.toNat - 10 < (wayS (RW h (610 + 318 * n)) P fr to).2 by omega))
        · rw [c17]; exact n_ofn p2
        · rw [c18]; exact n_ofV p1
      · have nW : ¬ (wayS (RW h (610 + 318 * n)) P fr to).1 < 1000000 := fun z => by
          rw [q4.mpr z] at c19; cases c19
        rw [if_neg nW]
    · unfold wayF; rw [if_neg (fun z => (bfalse (zc x4).2).mp c20 z.2.2)]
end K70
