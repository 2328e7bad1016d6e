set_option maxRecDepth 4000
/-! ===== the class lays the clay ===== -/
theorem NObj.same {h : zH} {I : Nat → Nat → Int32} {q : Nat} {V : Nat → Int} (w : WFN V) (o : NObj h q V) (e : ∀ b, q ≤ b → b < q + 18 → I b = h.1 b) : NObj (I, h.2) q V := by
  have z : ∀ b, q ≤ b → b < q + 18 → ∀ j, zI (I, h.2) b j = zI h b j := fun b h1 h2 j => congrFun (e b h1 h2) j
  have w3 := w.2.2.2.1
  obtain ⟨o1, o2, o3, o4⟩ := o
  exact ⟨fun f hf => by rw [z _ (by omega) (by omega)]; exact o1 f hf, fun m hm => by rw [z _ (by omega) (by omega)]; exact o2 m hm, fun k hk => by rw [z _ (by omega) (by omega), z _ (by omega) (by omega), z _ (by omega) (by omega)]; exact o3 k hk, fun p hp => ⟨fun f hf => by rw [z _ (by omega) (by omega)]; exact (o4 p hp).1 f hf, fun i hi => by rw [z _ (by omega) (by omega)]; exact (o4 p hp).2 i hi⟩⟩
theorem c_loadOf (l : Launch) (G : zG) (h : zH) (q : Nat) (V : Nat → Int) (P : Nat) (x1 : Int32) (hq : lo1 h q) (w : WFN V) (o : NObj h q V) (hP : (P : Int) < V 3) (hx : x1.toInt = (P : Int)) : CTi l G YX1_loadOf 3 [va_rf (some q), .int x1] h (fun y I => y.toInt = loadV V P ∧ I = h.1) := by
  have w3 := w.2.2.2.1
  have w2 := w.2.2.1
  have e3 : (zI h q 3).toInt = V 3 := o.1 3 (by decide)
  have e2 : (zI h q 2).toInt = V 2 := o.1 2 (by decide)
  have loop : ∀ (f k : Nat) (x2 x3 : Int32) (u : Value), (k : Int) ≤ V 3 → V 3 - k < (f : Int) → x3.toInt = (k : Int) → x2.toInt = V 2 + lds V P k →
      Z l G mX1_loadOf 3 (fun w h1 => ∃ x I1, w = some (.int x) ∧ h1 = (I1, h.2) ∧ (x.toInt = loadV V P ∧ I1 = h.1)) 0 0 7 [va_rf (some q), .int x1, .int x2, .int x3, u] [] h := by
    intro f
    induction f with
    | zero => intro k x2 x3 u h1 h2; omega
    | succ f ih =>
      intro k x2 x3 u h1 h2 h3 hs
      refine sX1_loadOf_7 q x1 x2 x3 u hq (Nat.le_refl _) ⟨fun c1 => ⟨_, h.1, rfl, rfl, ?_, rfl⟩, fun c2 => ?_⟩
      · rw [hs]; unfold loadV; rw [show (V 3).toNat = k by omega]
      · have hk : (k : Int) < V 3 := by omega
        obtain ⟨m1, m2, m3⟩ := per_mem hq w o h3 hk
        have pf := (per_f o hk).1
        have b := lds_rng w (p := P) k h1
        have pw := (per_w w hk).2.2.1
        have e22 := pf 2 (by decide)
        have e5 := pf 5 (by decide)
        have s1 : lds V P (k + 1) = lds V P k + (if k = P ∨ pF V k 5 = P then pF V k 2 else 0) := rfl
        refine ⟨fun c3 => absurd (m1.symm.trans c3) (fun z => by cases z), fun b9 c4 => ?_⟩
        have eb : b9 = q + (6 + 2 * k) := (Option.some.inj (m1.symm.trans c4)).symm
        subst eb
        have add : (x2 + zI h (q + (6 + 2 * k)) 2).toInt = V 2 + lds V P k + pF V k 2 := by rw [i_add (by omega) (by omega), hs, e22]
        refine ⟨fun c5 => ⟨m2, ih (k + 1) _ _ _ (by omega) (by omega) (i_1 h3 (by omega)) ?_⟩, fun c6 => ⟨m2, fun c7 => ih (k + 1) _ _ _ (by omega) (by omega) (i_1 h3 (by omega)) ?_, fun c8 => ih (k + 1) _ _ _ (by omega) (by omega) (i_1 h3 (by omega)) ?_⟩⟩
        · have e : k = P := by have := congrArg Int32.toInt c5; omega
          rw [add, s1, if_pos (Or.inl e)]; omega
        · have e : ¬ k = P := fun z => c6 (i_ext (by omega))
          have e' : ¬ pF V k 5 = P := fun z => c7 (i_ext (by omega))
          rw [hs, s1, if_neg (fun z => z.elim e e')]; omega
        · have e : pF V k 5 = P := by have := congrArg Int32.toInt c8; omega
          rw [add, s1, if_pos (Or.inr e)]; omega
  exact kX1_loadOf q x1 (sX1_loadOf_0 q x1 hq (Nat.le_refl _) (loop 7 0 _ 0 zU (by omega) (by omega) rfl (by rw [e2]; show V 2 = V 2 + 0; omega)))
theorem zdep_t {limp load foot : Int32} {L W F : Int} (hl : limp.toInt = L) (hw : load.toInt = W) (hf : foot.toInt = F) (bf : 0 ≤ F ∧ F ≤ 1) (bw : 1 ≤ W ∧ W ≤ 1000) : (zdep limp load foot).toInt = if L = F + 1 then (if W < 4 then 1 else W / 2) else W := by
  have e1 : (foot + 1).toInt = F + 1 := by
    rw [i_add (by show _ ≤ _ + (1 : Int); omega) (by show _ + (1 : Int) < _; omega), hf]; rfl
  have e2 : (load / 2).toInt = W / 2 := by rw [n_div (by omega) (by decide), hw]; rfl
  unfold zdep
  by_cases c : L = F + 1
  · rw [if_pos (i_ext (by omega)), if_pos c, imax_t, e2, show (1 : Int32).toInt = 1 from rfl]
    split <;> omega
  · rw [if_neg (fun z => c (by have := congrArg Int32.toInt z; omega)), if_neg c]; exact hw
theorem per_side0 {h : zH} {q : Nat} {V : Nat → Int} (hq : lo1 h q) (w : WFN V) (o : NObj h q V) {x : Int32} {P i : Nat} (hP : (P : Int) < V 3) (hx : x.toInt = (i : Int)) (hi : (i : Int) ≤ pF V P 8) (h0 : 1 ≤ pF V P 8) : (zsideAt h (q + (6 + 2 * P)) x).toInt = sdV V P (i - 1) := by
  match i, hx, hi with
  | 0, hx, hi =>
    have e : x = 0 := i_ext hx
    have hl := per_lo hq (i := P) (by have := w.2.2.2.1; omega)
    have ez : (imax 0 (x - 1)).toInt = ((0 : Nat) : Int) := by rw [e]; decide
    unfold zsideAt
    rw [zget_w (hl.w 1 rfl) ez (by omega)]
    exact (per_f o hP).2 0 (by omega)
  | k + 1, hx, hi => exact per_side hq w o hP hx (by omega)
def spV (V : Nat → Int) (p i : Nat) : Int := if (gow V p i).2 = true then (gow V p i).1 else -1
theorem spV_s {V : Nat → Int} {p i : Nat} : bes V (spV V p i) (sdV V p i) (pF V p 1) = spV V p (i + 1) := by
  unfold spV
  by_cases c : (gow V p i).2 = true
  · rw [if_pos c]
    by_cases b : bes V (gow V p i).1 (sdV V p i) (pF V p 1) = -1
    · rw [gow_out c b, b]; rfl
    · rw [gow_on c b]; rfl
  · rw [if_neg c, gow_off (Bool.eq_false_iff.mpr c)]
    unfold bes
    rw [if_neg (by omega)]; rfl
def spk (V : Nat → Int) (p m : Nat) : Prop := walkV V (-1) p = true ∧ pF V p 7 ≤ m ∧ (m : Int) ≤ pF V p 7 + pF V p 8
def goQ (V : Nat → Int) (h : zH) (a : Nat) (st : PS) (p m : Nat) (J : Nat → Nat → Int32) : Prop :=
  (∀ b, (b < a ∨ a + 14 ≤ b ∨ b = a + 9) → J b = h.1 b) ∧ CPr (J, h.2) a (goS V (-1) st p m) ∧ CGt (J, h.2) a (goS V (-1) st p m).g ∧ (∀ p', p' ≠ p → J (a + 8) p' = h.1 (a + 8) p') ∧ (spk V p m → (J (a + 8) p).toInt = spV V p (m - (pF V p 7).toNat))
theorem walkV_t {V : Nat → Int} {p : Nat} : walkV V (-1) p = true ↔ pF V p 5 = -1 ∧ pF V p 4 ≠ 2 ∧ pF V p 6 ≠ -1 := by
  unfold walkV
  rw [decide_eq_true_iff]
  exact ⟨fun z => z.1, fun z => ⟨z, Or.inl rfl⟩⟩
theorem c_goOn (l : Launch) (G : zG) (h : zH) (V : Nat → Int) (a q : Nat) (st : PS) (p m : Nat) (x2 x3 : Int32) (ha : lo0 h a) (hq : lo1 h q) (w : WFN V) (o : NObj h q V) (dj : q + 18 ≤ a ∨ a + 14 ≤ q) (r : CPr h a st) (g : CGt h a st.g) (ok : okS V st) (hP : (p : Int) < V 3) (hp : x2.toInt = (p : Int)) (hm : x3.toInt = (m : Int)) (hm9 : m < 100) (n150 : isFt V (-1) p m = true → st.n < 150) (ld : (zI h (a + 9) p).toInt = loadV V p) (sp : walkV V (-1) p = true → pF V p 7 < m → (m : Int) ≤ pF V p 7 + pF V p 8 → (zI h (a + 8) p).toInt = spV V p (m - 1 - (pF V p 7).toNat)) :
    CTv l G YX0_goOn 4 [va_rf (some a), va_rf (some q), .int x2, .int x3] h (goQ V h a st p m) := by
  obtain ⟨w1, w2, w3, w4, w5, w6, w7, w8, w9, _⟩ := lo0_w ha
  obtain ⟨m1, m2, m3⟩ := per_mem hq w o hp hP
  have pf := (per_f o hP).1
  have pw := per_w w hP
  have e0 := pf 0 (by decide)
  have e4 := pf 4 (by decide)
  have e5 := pf 5 (by decide)
  have e6 := pf 6 (by decide)
  have e7 := pf 7 (by decide)
  have e8 := pf 8 (by decide)
  have non : isFt V (-1) p m = false → ¬ spk V p m → goQ V h a st p m h.1 := fun c c2 => by
    have eg : goS V (-1) st p m = st := by unfold goS; rw [if_neg (by rw [c]; decide)]
    exact ⟨fun _ _ => rfl, by rw [eg]; exact r, by rw [eg]; exact g, fun _ _ => rfl, fun z => absurd z c2⟩
  have ftt := isFt_t (al := -1) (m := m) w hP
  refine kX0_goOn a q x2 x3 (sX0_goOn_0 a q x2 x3 ha hq (Nat.le_refl _) ⟨fun c1 => absurd (m1.symm.trans c1) (fun z => by cases z), fun b5 c2 => ?_⟩)
  have eb : b5 = q + (6 + 2 * p) := (Option.some.inj (m1.symm.trans c2)).symm
  subst eb
  refine ⟨m2, fun c3 => ⟨h.1, rfl, rfl, ?_⟩, fun c4 => ⟨fun c5 => ?_, fun c26 => ⟨h.1, rfl, rfl, ?_⟩⟩⟩
  · have z4 : pF V p 4 = 2 := by have := congrArg Int32.toInt c3; rw [e4] at this; exact this
    have nw : ¬ walkV V (-1) p = true := fun z => (walkV_t.mp z).2.1 z4
    exact non (Bool.eq_false_iff.mpr (fun z => (ftt.mp z).1.1.2.1 z4)) (fun z => nw z.1)
  · have z := of_decide_eq_true c5
    have z5 : pF V p 5 = -1 := e5.symm.trans (n_m1.mp z.1)
    have z6 : pF V p 6 ≠ -1 := fun y => z.2 (n_m1.mpr (e6.trans y))
    have z4 : pF V p 4 ≠ 2 := fun y => c4 (i_ext (e4.trans y))
    have wk : walkV V (-1) p = true := walkV_t.mpr ⟨z5, z4, z6⟩
    have w8' := pw.2.2.2.2.2.2.2.1.resolve_left (fun y => z6 y.1)
    have dK : (x3 - zI h (q + (6 + 2 * p)) 7).toInt = (m : Int) - pF V p 7 := by rw [i_sub (by omega) (by omega), hm, e7]
    have eK := show x3 - zI h (q + (6 + 2 * p)) 7 = x3 - zI h (q + (6 + 2 * p)) 7 from rfl
    generalize hKK : x3 - zI h (q + (6 + 2 * p)) 7 = KK at dK ⊢
    refine ⟨fun c6 => ⟨h.1, rfl, rfl, non (Bool.eq_false_iff.mpr (fun y => by have := (ftt.mp y).2.1; omega)) (fun y => by have := y.2.1; omega)⟩, fun c7 => ?_⟩
    obtain ⟨i, hi⟩ : ∃ i : Nat, m - (pF V p 7).toNat = i := ⟨_, rfl⟩
    have hKi : KK.toInt = (i : Int) := by omega
    refine ⟨fun c8 => ?_, fun c25 => ⟨h.1, rfl, rfl, non (Bool.eq_false_iff.mpr (fun y => by have := (ftt.mp y).2.2.1; omega)) (fun y => by have := y.2.2; omega)⟩⟩
    have hi8 : (i : Int) ≤ pF V p 8 := by omega
    have rK : (zrem KK 2).toInt = ((i % 2 : Nat) : Int) := by
      rw [n_rem (by omega) (by decide), hKi]; show (i : Int) % 2 = _; omega
    -- the spot is set, then the foot
    have aft : ∀ (cv : Int32) (J : Nat → Nat → Int32), cv.toInt = spV V p i → J = (zput h (some (a + 8)) x2 cv).1 →
        (cv = (-1) → (fun (v : Option Value) h1 => ∃ J, v = none ∧ h1 = (J, h.2) ∧ goQ V h a st p m J) none (J, h.2)) ∧
        (¬ cv = (-1) → ((¬ zI (J, h.2) (q + (6 + 2 * p)) 4 = 1 → ∃ P68, CTv l G YX0_setDown 3 [va_rf (some a), .int x2, .int x3, .int cv, .int (zshape (zI (J, h.2) (q + (6 + 2 * p)) 0) (zrem KK 2) (zsideAt (J, h.2) (q + (6 + 2 * p)) KK)), .int (zdep (zI (J, h.2) (q + (6 + 2 * p)) 3) (zget (J, h.2) (some (a + 9)) x2) (zrem KK 2))] (J, h.2) P68 ∧ ∀ (I71 : Nat → Nat → Int32), P68 I71 → (fun (v : Option Value) h1 => ∃ J, v = none ∧ h1 = (J, h.2) ∧ goQ V h a st p m J) none (I71, h.2)) ∧
          (zI (J, h.2) (q + (6 + 2 * p)) 4 = 1 → ∃ P89, CTv l G YX0_setDown 3 [va_rf (some a), .int x2, .int x3, .int cv, .int (zshape (6 : Int32) (zrem KK 2) (zsideAt (J, h.2) (q + (6 + 2 * p)) KK)), .int (zdep (zI (J, h.2) (q + (6 + 2 * p)) 3) (zget (J, h.2) (some (a + 9)) x2) (zrem KK 2))] (J, h.2) P89 ∧ ∀ (I92 : Nat → Nat → Int32), P89 I92 → (fun (v : Option Value) h1 => ∃ J, v = none ∧ h1 = (J, h.2) ∧ goQ V h a st p m J) none (I92, h.2)))) := by
      intro cv J ecv eJ
      obtain ⟨j1, j2, j3⟩ := zput_eff w8 hp m3 eJ
      have oJ : NObj (J, h.2) q V := o.same w (fun b h1 h2 => j1 b (by omega))
      have pfJ := (per_f oJ hP).1
      have rJ : CPr (J, h.2) a st := r.cg (fun b h1 h2 => j1 b (by omega))
      have gJ : CGt (J, h.2) a st.g := g.cg (fun b h1 h2 => j1 b (by omega))
      refine ⟨fun c => ⟨J, rfl, rfl, ?_⟩, fun c => ?_⟩
      · have off : ¬ (gow V p i).2 = true := fun z => by
          have cr := gow_rng w8'.1 i
          have := n_m1.mp c
          rw [ecv] at this
          unfold spV at this
          rw [if_pos z] at this
          omega
        have nf : isFt V (-1) p m = false := Bool.eq_false_iff.mpr (fun y => off (by have := (ftt.mp y).2.2.2; rw [hi] at this; exact this))
        have eg : goS V (-1) st p m = st := by unfold goS; rw [if_neg (by rw [nf]; decide)]
        exact ⟨fun b hb => j1 b (by omega), by rw [eg]; exact rJ, by rw [eg]; exact gJ, j2, fun _ => by rw [j3, hi]; exact ecv⟩
      · have on : (gow V p i).2 = true := Decidable.byContradiction fun z => c (n_m1.mpr (by
          rw [ecv]; unfold spV; exact if_neg z))
        have ec : cv.toInt = (gow V p i).1 := by rw [ecv]; unfold spV; exact if_pos on
        have ft : isFt V (-1) p m = true := ftt.mpr ⟨⟨⟨z5, z4, z6⟩, Or.inl rfl⟩, by omega, by omega, by rw [hi]; exact on⟩
        have cr := gow_rng w8'.1 i
        have wb := wh_rng w.1 w.2.1
        have eside : (zsideAt (J, h.2) (q + (6 + 2 * p)) KK).toInt = sdV V p (i - 1) := per_side0 (h := (J, h.2)) hq w oJ hP hKi hi8 w8'.2.2.1
        have rside := pw.2.2.2.2.2.2.2.2 (i - 1) (by omega)
        have el : (zget (J, h.2) (some (a + 9)) x2).toInt = loadV V p := by
          rw [zget_w (h := (J, h.2)) w9 hp m3]
          show (J (a + 9) p).toInt = _
          rw [j1 _ (by omega)]; exact ld
        have ed := zdep_t (foot := zrem KK 2) (pfJ 3 (by decide)) el rK (by omega) (by have := load_rng w hP; omega)
        have sl := sole_rng w hP
        have fin : ∀ sv : Int32, sv.toInt = soleV V p → ∃ P68, CTv l G YX0_setDown 3 [va_rf (some a), .int x2, .int x3, .int cv, .int (zshape sv (zrem KK 2) (zsideAt (J, h.2) (q + (6 + 2 * p)) KK)), .int (zdep (zI (J, h.2) (q + (6 + 2 * p)) 3) (zget (J, h.2) (some (a + 9)) x2) (zrem KK 2))] (J, h.2) P68 ∧ ∀ (I71 : Nat → Nat → Int32), P68 I71 → (fun (v : Option Value) h1 => ∃ J, v = none ∧ h1 = (J, h.2) ∧ goQ V h a st p m J) none (I71, h.2) := by
          intro sv es
          refine ⟨_, c_setDown l G (J, h.2) V a st p m x2 x3 cv sv (zrem KK 2) (zsideAt (J, h.2) (q + (6 + 2 * p)) KK) _ ha rJ gJ ok (n150 ft) hp m3 hm (by rw [ec]; omega) (by rw [es]; exact sl) (by rw [rK]; omega) (by rw [eside]; exact rside), fun I71 ⟨q1, q2, q3⟩ => ⟨I71, rfl, rfl, ?_⟩⟩
          have eg : goS V (-1) st p m = setD st p m cv sv (zrem KK 2) (zsideAt (J, h.2) (q + (6 + 2 * p)) KK) (zdep (zI (J, h.2) (q + (6 + 2 * p)) 3) (zget (J, h.2) (some (a + 9)) x2) (zrem KK 2)) := by
            unfold goS
            rw [if_pos ft, hi, n_ofV ec, n_ofV es, n_ofV eside, n_ofn rK]
            rw [n_ofn rK] at ed
            rw [n_ofV ed]
            rfl
          rw [← eg] at q2 q3
          exact ⟨fun b hb => by rw [q1 b (by omega)]; exact j1 b (by omega), q2, q3, fun p' hp' => by rw [q1 (a + 8) (by omega)]; exact j2 p' hp', fun _ => by rw [q1 (a + 8) (by omega), hi]; show (J (a + 8) p).toInt = _; rw [j3]; exact ecv⟩
        have e4J : (zI (J, h.2) (q + (6 + 2 * p)) 4).toInt = pF V p 4 := pfJ 4 (by decide)
        have e0J : (zI (J, h.2) (q + (6 + 2 * p)) 0).toInt = pF V p 0 := pfJ 0 (by decide)
        refine ⟨fun c13 => fin _ ?_, fun c15 => fin 6 ?_⟩
        · unfold soleV
          rw [if_neg (show ¬ pF V p 4 = 1 from fun z => c13 (i_ext (e4J.trans z)))]; exact e0J
        · unfold soleV
          rw [if_pos (show pF V p 4 = 1 from e4J.symm.trans (congrArg Int32.toInt c15))]; rfl
    have k8 := zget_w w8 hp m3
    refine ⟨fun c9 I45 c10 => aft _ I45 ?_ c10, fun c17 I101 c18 => aft _ I101 ?_ c18⟩
    · have hi0 : i ≠ 0 := fun z => c9 (i_ext (by rw [hKi, z]; rfl))
      obtain ⟨k, hk⟩ : ∃ k, i = k + 1 := ⟨i - 1, by omega⟩
      have eb := per_bes hq w o (c := zget h (some (a + 8)) x2) hP (x := KK) (k := k) (by rw [hKi, hk]) (by omega)
      rw [eb, k8, sp wk (by omega) (by omega), show m - 1 - (pF V p 7).toNat = k by omega, spV_s, hk]
    · have hi0 : i = 0 := by have := congrArg Int32.toInt c17; rw [hKi] at this; exact Int.ofNat.inj this
      rw [e6, hi0]; rfl
  · have z := of_decide_eq_false c26
    have nw : ¬ (pF V p 5 = -1 ∧ pF V p 6 ≠ -1) := fun y => z ⟨n_m1.mpr (e5.trans y.1), fun k => y.2 (e6.symm.trans (n_m1.mp k))⟩
    exact non (Bool.eq_false_iff.mpr (fun y => nw ⟨(ftt.mp y).1.1.1, (ftt.mp y).1.1.2.2⟩)) (fun y => nw ⟨(walkV_t.mp y.1).1, (walkV_t.mp y.1).2.2⟩)
theorem c_lay (l : Launch) (G : zG) (h : zH) (V : Nat → Int) (a q u : Nat) (x2 : Int32) (ha : lo0 h a) (hq : lo1 h q) (w : WFN V) (o : NObj h q V) (dj : q + 18 ≤ a ∨ a + 14 ≤ q) (hu : x2.toInt = (u : Int)) (hu9 : u < 100) :
    CTv l G YX0_lay 5 [va_rf (some a), va_rf (some q), .int x2] h (fun I => (∀ b, (b < a ∨ a + 14 ≤ b) → I b = h.1 b) ∧ CPr (I, h.2) a (stM V (-1) (u + 1)) ∧ CGt (I, h.2) a (stM V (-1) (u + 1)).g) := by
  obtain ⟨v1, v2, v3, v4, v5, v6, v7, v8, v9, _⟩ := lo0_w ha
  have w3 := w.2.2.2.1
  have minute : ∀ (f m : Nat) (x3 : Int32) (u4 : Value) (I : Nat → Nat → Int32), m ≤ u + 1 → u + 1 - m < f → x3.toInt = (m : Int) → (∀ b, (b < a ∨ a + 14 ≤ b) → I b = h.1 b) → CPr (I, h.2) a (stM V (-1) m) → CGt (I, h.2) a (stM V (-1) m).g → (∀ p : Nat, (p : Int) < V 3 → (I (a + 9) p).toInt = loadV V p) → (∀ p : Nat, (p : Int) < V 3 → walkV V (-1) p = true → pF V p 7 < m → (m : Int) ≤ pF V p 7 + pF V p 8 → (I (a + 8) p).toInt = spV V p (m - 1 - (pF V p 7).toNat)) →
      Z l G mX0_lay 5 (fun w h1 => ∃ J, w = none ∧ h1 = (J, h.2) ∧ ((∀ b, (b < a ∨ a + 14 ≤ b) → J b = h.1 b) ∧ CPr (J, h.2) a (stM V (-1) (u + 1)) ∧ CGt (J, h.2) a (stM V (-1) (u + 1)).g)) 0 0 67 [va_rf (some a), va_rf (some q), .int x2, .int x3, u4] [] (I, h.2) := by
    intro f
    induction f with
    | zero => intro m x3 u4 I h1 h2; omega
    | succ f ih =>
      intro m x3 u4 I h1 h2 hm s1 s2 s3 s4 s5
      have oI : NObj (I, h.2) q V := o.same w (fun b z1 z2 => s1 b (by omega))
      have fin : u + 1 ≤ m → (fun (w : Option Value) h1 => ∃ J, w = none ∧ h1 = (J, h.2) ∧ ((∀ b, (b < a ∨ a + 14 ≤ b) → J b = h.1 b) ∧ CPr (J, h.2) a (stM V (-1) (u + 1)) ∧ CGt (J, h.2) a (stM V (-1) (u + 1)).g)) none (I, h.2) := fun z => by
        have e : m = u + 1 := by omega
        rw [e] at s2 s3
        exact ⟨I, rfl, rfl, s1, s2, s3⟩
      have people : ∀ (f2 j : Nat) (x4 : Int32) (J : Nat → Nat → Int32), m < 100 → m ≤ u → (j : Int) ≤ V 3 → V 3 - j < (f2 : Int) → x4.toInt = (j : Int) → (∀ b, (b < a ∨ a + 14 ≤ b) → J b = h.1 b) → CPr (J, h.2) a (stP V (-1) m (stW V m (stM V (-1) m)) j) → CGt (J, h.2) a (stP V (-1) m (stW V m (stM V (-1) m)) j).g → (∀ p : Nat, (p : Int) < V 3 → (J (a + 9) p).toInt = loadV V p) → (∀ p : Nat, (p : Int) < V 3 → p < j → spk V p m → (J (a + 8) p).toInt = spV V p (m - (pF V p 7).toNat)) → (∀ p : Nat, (p : Int) < V 3 → j ≤ p → walkV V (-1) p = true → pF V p 7 < m → (m : Int) ≤ pF V p 7 + pF V p 8 → (J (a + 8) p).toInt = spV V p (m - 1 - (pF V p 7).toNat)) →
          Z l G mX0_lay 5 (fun w h1 => ∃ J, w = none ∧ h1 = (J, h.2) ∧ ((∀ b, (b < a ∨ a + 14 ≤ b) → J b = h.1 b) ∧ CPr (J, h.2) a (stM V (-1) (u + 1)) ∧ CGt (J, h.2) a (stM V (-1) (u + 1)).g)) 0 0 97 [va_rf (some a), va_rf (some q), .int x2, .int x3, .int x4] [] (J, h.2) := by
        intro f2
        induction f2 with
        | zero => intro j x4 J h3 h4 h5; omega
        | succ f2 ih2 =>
          intro j x4 J m100 mu h3 h4 hx t1 t2 t3 t4 t5 t6
          have oJ : NObj (J, h.2) q V := o.same w (fun b z1 z2 => t1 b (by omega))
          have e3 : (zI (J, h.2) q 3).toInt = V 3 := oJ.1 3 (by decide)
          refine sX0_lay_97 a q x2 x3 x4 ha hq (Nat.le_refl _) ⟨fun c1 => ?_, fun c2 => ?_⟩
          · have ej : (V 3).toNat = j := by omega
            have es : stP V (-1) m (stW V m (stM V (-1) m)) j = stM V (-1) (m + 1) := by rw [← ej]; rfl
            rw [es] at t2 t3
            refine ih (m + 1) (x3 + 1) _ J (by omega) (by omega) (i_1 hm (by omega)) t1 t2 t3 t4 (fun p hp wk b1 b2 => ?_)
            rw [t5 p hp (by omega) ⟨wk, by omega, by omega⟩]
            rfl
          · have hj : (j : Int) < V 3 := by omega
            have okJ := stP_ok w (al := -1) (m := m) (stM_ok w (al := -1) m).2 j h3
            have n1 := stP_150 w (al := -1) (m := m) h3
            refine ⟨_, c_goOn l G (J, h.2) V a q _ j m x4 x3 ha hq w oJ dj t2 t3 okJ hj hx hm m100 (n1.2 hj) (t4 j hj) (fun wk b1 b2 => t6 j hj (Nat.le_refl _) wk b1 b2), fun I8 ⟨g1, g2, g3, g4, g5⟩ => ?_⟩
            refine ih2 (j + 1) (x4 + 1) I8 m100 mu (by omega) (by omega) (i_1 hx (by omega)) (fun b hb => by rw [g1 b (by omega)]; exact t1 b hb) g2 g3 (fun p hp => by rw [g1 _ (by omega)]; exact t4 p hp) (fun p hp hpj sk => ?_) (fun p hp hpj wk b1 b2 => ?_)
            · by_cases e : p = j
              · subst e; exact g5 sk
              · rw [g4 p e]; exact t5 p hp (by omega) sk
            · rw [g4 p (by omega)]; exact t6 p hp (by omega) wk b1 b2
      refine sX0_lay_67 a q x2 x3 u4 ha hq (Nat.le_refl _) ⟨fun c1 => fin (by omega), fun c2 => ⟨fun c3 => fin (by omega), fun c4 => ?_⟩⟩
      have e5 : (zget (I, h.2) (some (q + 5)) x3).toInt = V (5 + m) := by
        rw [zget_w (h := (I, h.2)) (hq.w 5 rfl) hm (by omega)]; exact oI.2.1 m (by omega)
      refine ⟨fun c5 => ?_, fun c6 => ⟨_, c_wash l G (I, h.2) a (stM V (-1) m) ha, fun I19 ⟨k1, k2⟩ => ?_⟩⟩
      · have es : stW V m (stM V (-1) m) = stM V (-1) m := by
          unfold stW
          rw [if_neg (show ¬ V (5 + m) = 1 from fun z => c5 (i_ext (e5.trans z)))]
        refine people 7 0 0 I (by omega) (by omega) (by omega) (by omega) rfl s1 ?_ ?_ s4 (fun p hp hp0 => absurd hp0 (Nat.not_lt_zero p)) (fun p hp _ => s5 p hp)
        · show CPr (I, h.2) a (stW V m (stM V (-1) m)); rw [es]; exact s2
        · show CGt (I, h.2) a (stW V m (stM V (-1) m)).g; rw [es]; exact s3
      · have es : stW V m (stM V (-1) m) = washS (stM V (-1) m) := by
          unfold stW
          rw [if_pos (show V (5 + m) = 1 from e5.symm.trans (congrArg Int32.toInt c6))]
        refine people 7 0 0 I19 (by omega) (by omega) (by omega) (by omega) rfl (fun b hb => by rw [k1 b (by omega) (by omega)]; exact s1 b hb) ?_ ?_ (fun p hp => by rw [k1 _ (by omega) (by omega)]; exact s4 p hp) (fun p hp hp0 => absurd hp0 (Nat.not_lt_zero p)) (fun p hp _ wk b1 b2 => by rw [k1 _ (by omega) (by omega)]; exact s5 p hp wk b1 b2)
        · show CPr (I19, h.2) a (stW V m (stM V (-1) m)); rw [es]; exact k2
        · show CGt (I19, h.2) a (stW V m (stM V (-1) m)).g; rw [es]; exact CGt.cg (h := (I, h.2)) s3 (fun b h1 h2 => k1 b (by omega) (by omega))
  have loads : ∀ (f j : Nat) (x3 : Int32) (u4 : Value) (I : Nat → Nat → Int32), (j : Int) ≤ V 3 → V 3 - j < (f : Int) → x3.toInt = (j : Int) → (∀ b, (b < a ∨ a + 14 ≤ b) → I b = h.1 b) → CPr (I, h.2) a ps0 → CGt (I, h.2) a ps0.g → (∀ p, p < j → (I (a + 9) p).toInt = loadV V p) →
      Z l G mX0_lay 5 (fun w h1 => ∃ J, w = none ∧ h1 = (J, h.2) ∧ ((∀ b, (b < a ∨ a + 14 ≤ b) → J b = h.1 b) ∧ CPr (J, h.2) a (stM V (-1) (u + 1)) ∧ CGt (J, h.2) a (stM V (-1) (u + 1)).g)) 0 0 38 [va_rf (some a), va_rf (some q), .int x2, .int x3, u4] [] (I, h.2) := by
    intro f
    induction f with
    | zero => intro j x3 u4 I h1 h2; omega
    | succ f ih =>
      intro j x3 u4 I h1 h2 hx s1 s2 s3 s4
      have oI : NObj (I, h.2) q V := o.same w (fun b z1 z2 => s1 b (by omega))
      have e3 : (zI (I, h.2) q 3).toInt = V 3 := oI.1 3 (by decide)
      refine sX0_lay_38 a q x2 x3 u4 ha hq (Nat.le_refl _) ⟨fun c1 => ?_, fun c2 => ?_⟩
      · refine minute (u + 2) 0 0 u4 I (by omega) (by omega) rfl s1 s2 s3 (fun p hp => s4 p (by omega)) (fun p hp wk b1 b2 => ?_)
        have w8 := (per_w w hp).2.2.2.2.2.2.2.1.resolve_left (fun y => (walkV_t.mp wk).2.2 y.1)
        omega
      · have hj : (j : Int) < V 3 := by omega
        refine ⟨_, c_loadOf l G (I, h.2) q V j x3 hq w oI hj hx, fun y I8 ⟨y1, y2⟩ I17 c4 => ?_⟩
        have eI : I8 = I := y2
        subst eI
        obtain ⟨f1, f2, f3⟩ := zput_eff (h := (I8, h.2)) v9 hx (by omega) c4
        refine ih (j + 1) (x3 + 1) u4 I17 (by omega) (by omega) (i_1 hx (by omega)) (fun b hb => by rw [f1 b (by omega)]; exact s1 b hb) (CPr.cg (h := (I8, h.2)) s2 (fun b h1 h2 => f1 b (by omega))) (CGt.cg (h := (I8, h.2)) s3 (fun b h1 h2 => f1 b (by omega))) (fun p hp => ?_)
        by_cases e : p = j
        · rw [e, f3]; exact y1
        · rw [f2 p e]; exact s4 p (by omega)
  refine kX0_lay a q x2 (sX0_lay_0 a q x2 ha hq (Nat.le_refl _) ⟨_, c_wash l G h a ps0 ha, fun I4 ⟨k1, k2⟩ => ⟨_, c_fill l G (I4, h.2) (a + 10) 6 0 (ha.w 10 rfl) (by decide), fun I13 c2 => ⟨_, c_fill l G (I13, h.2) (a + 11) 6 0 (ha.w 11 rfl) (by decide), fun I22 c3 => ⟨_, c_fill l G (I22, h.2) (a + 12) 6 0 (ha.w 12 rfl) (by decide), fun I31 c4 => ⟨_, c_fill l G (I31, h.2) (a + 13) 6 0 (ha.w 13 rfl) (by decide), fun I40 c5 => ?_⟩⟩⟩⟩⟩)
  have z1 : ∀ b, b ≠ a + 10 → I13 b = I4 b := fun b hb => by rw [c2]; exact funext fun k => if_neg (fun z => hb z.1)
  have z2 : ∀ b, b ≠ a + 11 → I22 b = I13 b := fun b hb => by rw [c3]; exact funext fun k => if_neg (fun z => hb z.1)
  have z3 : ∀ b, b ≠ a + 12 → I31 b = I22 b := fun b hb => by rw [c4]; exact funext fun k => if_neg (fun z => hb z.1)
  have z4 : ∀ b, b ≠ a + 13 → I40 b = I31 b := fun b hb => by rw [c5]; exact funext fun k => if_neg (fun z => hb z.1)
  have y1 : ∀ k, k < 6 → I13 (a + 10) k = 0 := fun k hk => by rw [c2]; exact if_pos ⟨rfl, hk⟩
  have y2 : ∀ k, k < 6 → I22 (a + 11) k = 0 := fun k hk => by rw [c3]; exact if_pos ⟨rfl, hk⟩
  have y3 : ∀ k, k < 6 → I31 (a + 12) k = 0 := fun k hk => by rw [c4]; exact if_pos ⟨rfl, hk⟩
  have y4 : ∀ k, k < 6 → I40 (a + 13) k = 0 := fun k hk => by rw [c5]; exact if_pos ⟨rfl, hk⟩
  have all : ∀ b, (b < a + 10 ∨ a + 14 ≤ b) → I40 b = I4 b := fun b hb => by rw [z4 b (by omega), z3 b (by omega), z2 b (by omega), z1 b (by omega)]
  refine loads 7 0 0 zU I40 (by omega) (by omega) rfl (fun b hb => by rw [all b (by omega)]; exact k1 b (by omega) (by omega)) (CPr.cg (h := (I4, h.2)) k2 (fun b h1 h2 => all b (by omega))) (fun p hp j hj => ?_) (fun p hp => absurd hp (Nat.not_lt_zero p))
  show I40 (a + (10 + j)) p = 0
  match j, hj with
  | 0, _ => rw [z4 _ (by omega), z3 _ (by omega), z2 _ (by omega)]; exact y1 p hp
  | 1, _ => rw [z4 _ (by omega), z3 _ (by omega)]; exact y2 p hp
  | 2, _ => rw [z4 _ (by omega)]; exact y3 p hp
  | 3, _ => exact y4 p hp
  | k + 4, z => omega
