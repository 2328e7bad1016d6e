set_option maxRecDepth 4000
/-! ===== where one is: the reference ===== -/
/-- the reference stands at night n, whose numbers (with what would be) are V -/
def MN (h : zH) (n : Nat) (V : Nat → Int) : Prop :=
  n < 2 ∧ (zI h 313 12).toInt = ((610 + 318 * n : Nat) : Int) ∧ (∀ W, W < 5 → (AL h (610 + 318 * n + W)).toInt = V W) ∧
  (∀ m, m < 100 → (V (5 + m) = 1 ↔ ((AL h (610 + 318 * n + (5 + m))).toInt = 1 ∨ ¬ zI h 317 m = 0))) ∧
  ∀ P, P < 6 → (if Int32.ofNat P = zI h 313 14 then zI h 313 15 else AL h (610 + 318 * n + (120 + 33 * P + 0))).toInt = pF V P 0 ∧
    (if Int32.ofNat P = zI h 313 18 then zI h 313 19 else AL h (610 + 318 * n + (120 + 33 * P + 5))).toInt = pF V P 5 ∧
    (if Int32.ofNat P = zI h 313 16 then zI h 313 17 else AL h (610 + 318 * n + (120 + 33 * P + 7))).toInt = pF V P 7 ∧
    (∀ f, (f = 1 ∨ f = 2 ∨ f = 3 ∨ f = 4 ∨ f = 6 ∨ f = 8) → (AL h (610 + 318 * n + (120 + 33 * P + f))).toInt = pF V P f) ∧
    ∀ i, i < 24 → (AL h (610 + 318 * n + (129 + 33 * P + i))).toInt = sdV V P i
theorem ofn_m1 {P : Nat} (h : P < 1000) : ¬ Int32.ofNat P = -1 := fun e => by
  have := i_ofNat (n := P) (by omega)
  rw [e, show (-1 : Int32).toInt = -1 from rfl] at this
  omega
theorem MAt.mn {h : zH} {n : Nat} (m : MAt h n) (hn : n < 2) (w : WFN (RW h (610 + 318 * n))) : MN h n (RW h (610 + 318 * n)) := by
  obtain ⟨m1, m2, m3, m4, m5, m6⟩ := m
  have rw' : ∀ W, W < 318 → (AL h (610 + 318 * n + W)).toInt = RW h (610 + 318 * n) W := fun W hW => (RW_at hW).symm
  refine ⟨hn, m1, fun W hW => rw' W (by omega), fun k hk => ?_, fun P hP => ⟨?_, ?_, ?_, fun f hf => ?_, fun i hi => ?_⟩⟩
  · rw [rw' _ (by omega)]
    exact ⟨Or.inl, fun z => z.resolve_right (fun y => y (m6 k hk))⟩
  · rw [m3, if_neg (ofn_m1 (by omega))]; exact rw' _ (by omega)
  · rw [m5, if_neg (ofn_m1 (by omega))]; exact rw' _ (by omega)
  · rw [m4, if_neg (ofn_m1 (by omega))]; exact rw' _ (by omega)
  · exact rw' _ (by omega)
  · exact rw' _ (by omega)
theorem MN.cg {h : zH} {J : Nat → Nat → Int32} {n : Nat} {V : Nat → Int} (m : MN h n V) (e1 : ∀ k, (k = 12 ∨ (14 ≤ k ∧ k ≤ 19)) → J 313 k = h.1 313 k) (e2 : J 314 = h.1 314) (e3 : ∀ k, k < 100 → J 317 k = h.1 317 k) : MN (J, h.2) n V := by
  obtain ⟨m0, m1, m2, m3, m4⟩ := m
  have z : ∀ k, (k = 12 ∨ (14 ≤ k ∧ k ≤ 19)) → zI (J, h.2) 313 k = zI h 313 k := e1
  have a : AL (J, h.2) = AL h := e2
  unfold MN
  rw [z 12 (by decide), z 14 (by decide), z 15 (by decide), z 16 (by decide), z 17 (by decide), z 18 (by decide), z 19 (by decide), a]
  refine ⟨m0, m1, m2, fun k hk => ?_, m4⟩
  rw [show zI (J, h.2) 317 k = zI h 317 k from e3 k hk]
  exact m3 k hk
theorem MN.w {h : zH} {n : Nat} {V : Nat → Int} (m : MN h n V) {w : Int32} {W : Nat} (hw : w.toInt = (W : Int)) (hW : W < 318) : zofk h 313 w ∧ zof h 313 w = AL h (610 + 318 * n + W) := by
  obtain ⟨m0, m1, m2, m3, m4⟩ := m
  have e : (zI h 313 12 + w).toInt = ((610 + 318 * n + W : Nat) : Int) := by
    rw [i_add (by rw [m1]; omega) (by rw [m1]; omega), m1]; omega
  refine ⟨⟨by rw [e]; omega, by rw [e]; omega⟩, ?_⟩
  unfold zof
  rw [zix_of e]; rfl
theorem MN.t {h : zH} {n : Nat} {V : Nat → Int} (m : MN h n V) {p w : Int32} {P W : Nat} (hp : p.toInt = (P : Int)) (hP : P < 6) (hw : w.toInt = (W : Int)) (hW : W < 33) : ztok h 313 p w ∧ ztold h 313 p w = AL h (610 + 318 * n + (120 + 33 * P + W)) := by
  obtain ⟨m0, m1, m2, m3, m4⟩ := m
  have e1 : (zI h 313 12 + 120).toInt = ((730 + 318 * n : Nat) : Int) := by
    rw [i_add (by rw [m1]; show _ ≤ _ + (120 : Int); omega) (by rw [m1]; show _ + (120 : Int) < _; omega), m1]; show _ + (120 : Int) = _; omega
  have e2 : ((33 : Int32) * p).toInt = 33 * P := by
    rw [i_mul (by rw [hp]; show _ ≤ (33 : Int) * _; omega) (by rw [hp]; show (33 : Int) * _ < _; omega), hp]; rfl
  have e3 : (zI h 313 12 + 120 + 33 * p).toInt = ((730 + 318 * n + 33 * P : Nat) : Int) := by
    rw [i_add (by rw [e1, e2]; omega) (by rw [e1, e2]; omega), e1, e2]; omega
  have e : (zI h 313 12 + 120 + 33 * p + w).toInt = ((610 + 318 * n + (120 + 33 * P + W) : Nat) : Int) := by
    rw [i_add (by rw [e3]; omega) (by rw [e3]; omega), e3]; omega
  refine ⟨⟨by rw [e]; omega, by rw [e]; omega⟩, ?_⟩
  unfold ztold
  rw [zix_of e]; rfl
theorem MN.of {h : zH} {n : Nat} {V : Nat → Int} (m : MN h n V) {w : Int32} {W : Nat} (hw : w.toInt = (W : Int)) (hW : W < 5) : zofk h 313 w ∧ (zof h 313 w).toInt = V W := by
  obtain ⟨a, b⟩ := m.w hw (by omega)
  exact ⟨a, by rw [b]; exact m.2.2.1 W hW⟩
theorem MN.f {h : zH} {n : Nat} {V : Nat → Int} (m : MN h n V) {p w : Int32} {P f : Nat} (hp : p.toInt = (P : Int)) (hP : P < 6) (hw : w.toInt = (f : Int)) (hf : f = 1 ∨ f = 2 ∨ f = 3 ∨ f = 4 ∨ f = 6 ∨ f = 8) : ztok h 313 p w ∧ (ztold h 313 p w).toInt = pF V P f := by
  obtain ⟨a, b⟩ := m.t hp hP hw (by omega)
  exact ⟨a, by rw [b]; exact (m.2.2.2.2 P hP).2.2.2.1 f hf⟩
theorem MN.sd {h : zH} {n : Nat} {V : Nat → Int} (m : MN h n V) {p w : Int32} {P i : Nat} (hp : p.toInt = (P : Int)) (hP : P < 6) (hw : w.toInt = ((9 + i : Nat) : Int)) (hi : i < 24) : ztok h 313 p w ∧ (ztold h 313 p w).toInt = sdV V P i := by
  obtain ⟨a, b⟩ := m.t hp hP hw (by omega)
  exact ⟨a, by rw [b, show 120 + 33 * P + (9 + i) = 129 + 33 * P + i by omega]; exact (m.2.2.2.2 P hP).2.2.2.2 i hi⟩
theorem MN.car {h : zH} {n : Nat} {V : Nat → Int} (m : MN h n V) {p : Int32} {P : Nat} (hp : p.toInt = (P : Int)) (hP : P < 6) : ztok h 313 p 5 ∧ (if p = zI h 313 18 then zI h 313 19 else ztold h 313 p 5).toInt = pF V P 5 := by
  obtain ⟨a, b⟩ := m.t hp hP (w := 5) (W := 5) rfl (by decide)
  exact ⟨a, by rw [b, n_ofn hp]; exact (m.2.2.2.2 P hP).2.1⟩
theorem MN.min {h : zH} {n : Nat} {V : Nat → Int} (m : MN h n V) {p : Int32} {P : Nat} (hp : p.toInt = (P : Int)) (hP : P < 6) : ztok h 313 p 7 ∧ (if p = zI h 313 16 then zI h 313 17 else ztold h 313 p 7).toInt = pF V P 7 := by
  obtain ⟨a, b⟩ := m.t hp hP (w := 7) (W := 7) rfl (by decide)
  exact ⟨a, by rw [b, n_ofn hp]; exact (m.2.2.2.2 P hP).2.2.1⟩
theorem MN.sole {h : zH} {n : Nat} {V : Nat → Int} (m : MN h n V) {p : Int32} {P : Nat} (hp : p.toInt = (P : Int)) (hP : P < 6) : ztok h 313 p 0 ∧ (if p = zI h 313 14 then zI h 313 15 else ztold h 313 p 0).toInt = pF V P 0 := by
  obtain ⟨a, b⟩ := m.t hp hP (w := 0) (W := 0) rfl (by decide)
  exact ⟨a, by rw [b, n_ofn hp]; exact (m.2.2.2.2 P hP).1⟩
theorem MN.isK {h : zH} {n : Nat} {V : Nat → Int} (m : MN h n V) {p : Int32} {P : Nat} (hp : p.toInt = (P : Int)) (hP : P < 6) : zisK h 313 p = true ↔ pF V P 5 ≠ -1 := by
  have e := (m.car hp hP).2
  unfold zisK zcar
  rw [Bool.not_eq_true', decide_eq_false_iff_not, n_m1, e]
theorem m100 {x y : Int32} {P m : Nat} (hx : x.toInt = (P : Int)) (hP : P < 6) (hy : y.toInt = (m : Int)) (hm : m < 100) : ((100 * x) + y).toInt = ((100 * P + m : Nat) : Int) := by
  have e : ((100 : Int32) * x).toInt = 100 * (P : Int) := by
    rw [i_mul (by rw [hx]; show _ ≤ (100 : Int) * _; omega) (by rw [hx]; show (100 : Int) * _ < _; omega), hx]; rfl
  rw [i_add (by rw [e]; omega) (by rw [e]; omega), e, hy]; omega
theorem c_goes (l : Launch) (G : zG) (h : zH) (n : Nat) (V : Nat → Int) (x1 : Int32) (P : Nat) (hl : lo11 h 313) (w : WFN V) (m : MN h n V) (hp : x1.toInt = (P : Int)) (hP : (P : Int) < V 3) : CTv l G YX11_goes 3 [va_rf (some 313), .int x1] h (fun I => (∀ b, b ≠ 318 → b ≠ 319 → I b = h.1 b) ∧ (∀ k, (k < 100 * P ∨ 100 * P + 100 ≤ k) → I 318 k = h.1 318 k) ∧ (∀ k, k ≠ P → I 319 k = h.1 319 k) ∧ (I 319 P).toInt = madeV V P ∧ ∀ j, j < 100 → (I 318 (100 * P + j)).toInt = posW V P j) := by
  have pw := per_w w hP
  have w8 := pw.2.2.2.2.2.2.2.1
  have h6 : P < 6 := by have := w.2.2.2.1; omega
  have mc : ∀ {I : Nat → Nat → Int32}, (∀ b, b ≠ 318 → b ≠ 319 → I b = h.1 b) → MN (I, h.2) n V := fun e => m.cg (fun k _ => by rw [e 313 (by decide) (by decide)]) (e 314 (by decide) (by decide)) (fun k _ => by rw [e 317 (by decide) (by decide)])
  have loop : ∀ (f j K : Nat) (x2 x3 x4 : Int32) (u5 u6 : Value) (I : Nat → Nat → Int32), (∀ b, b ≠ 318 → b ≠ 319 → I b = h.1 b) → (∀ k, (k < 100 * P ∨ 100 * P + 100 ≤ k) → I 318 k = h.1 318 k) → (∀ k, k ≠ P → I 319 k = h.1 319 k) → pF V P 6 ≠ -1 →
      K = min (j - 1 - (pF V P 7).toNat) (pF V P 8).toNat → (pF V P 7).toNat ≤ j → j ≤ 100 → 100 - j < f → x4.toInt = (j : Int) → x2.toInt = (gow V P K).1 → x3 = (if (gow V P K).2 = true then 1 else 0) → (I 319 P).toInt = (mdc V P K : Int) → (∀ i, i < j → (I 318 (100 * P + i)).toInt = posW V P i) →
      Z l G mX11_goes 3 (fun w h1 => ∃ J, w = none ∧ h1 = (J, h.2) ∧ ((∀ b, b ≠ 318 → b ≠ 319 → J b = h.1 b) ∧ (∀ k, (k < 100 * P ∨ 100 * P + 100 ≤ k) → J 318 k = h.1 318 k) ∧ (∀ k, k ≠ P → J 319 k = h.1 319 k) ∧ (J 319 P).toInt = madeV V P ∧ ∀ j, j < 100 → (J 318 (100 * P + j)).toInt = posW V P j)) 0 0 62 [va_rf (some 313), .int x1, .int x2, .int x3, .int x4, u5, u6] [] (I, h.2) := by
    intro f
    induction f with
    | zero => intro j K x2 x3 x4 u5 u6 I s1 s2 s3 hs hK hB h1 h2; omega
    | succ f ih =>
      intro j K x2 x3 x4 u5 u6 I s1 s2 s3 hs hK hB h1 h2 h4 h5 h3 hm hat
      have mI := mc s1
      have w8' := w8.resolve_left (fun z => hs z.1)
      obtain ⟨kt, kv⟩ := mI.min hp h6
      obtain ⟨et, ev⟩ := mI.f (w := 8) (f := 8) hp h6 rfl (by decide)
      have dK : ∀ y : Int32, y = x4 - (if x1 = zI (I, h.2) 313 16 then zI (I, h.2) 313 17 else ztold (I, h.2) 313 x1 7) → y.toInt = (j : Int) - pF V P 7 := fun y e => by
        rw [e, i_sub (by rw [kv]; omega) (by rw [kv]; omega), kv, h4]
      generalize hKK : x4 - (if x1 = zI (I, h.2) 313 16 then zI (I, h.2) 313 17 else ztold (I, h.2) 313 x1 7) = KK
      have dd := dK KK hKK.symm
      -- one more minute
      have go : j < 100 → ∀ (K' : Nat) (y2 y3 : Int32) (v6 : Value) (I0 J : Nat → Nat → Int32), K' = min (j - (pF V P 7).toNat) (pF V P 8).toNat → y2.toInt = (gow V P K').1 → y3 = (if (gow V P K').2 = true then 1 else 0) → (∀ b, b ≠ 319 → I0 b = I b) → (∀ k, k ≠ P → I0 319 k = h.1 319 k) → (I0 319 P).toInt = (mdc V P K' : Int) → J = (zwI (I0, h.2) (313 + 5) (zix ((100 * x1) + x4)) y2).1 →
          Z l G mX11_goes 3 (fun w h1 => ∃ J, w = none ∧ h1 = (J, h.2) ∧ ((∀ b, b ≠ 318 → b ≠ 319 → J b = h.1 b) ∧ (∀ k, (k < 100 * P ∨ 100 * P + 100 ≤ k) → J 318 k = h.1 318 k) ∧ (∀ k, k ≠ P → J 319 k = h.1 319 k) ∧ (J 319 P).toInt = madeV V P ∧ ∀ j, j < 100 → (J 318 (100 * P + j)).toInt = posW V P j)) 0 0 62 [va_rf (some 313), .int x1, .int y2, .int y3, .int (x4 + 1), .int KK, v6] [] (J, h.2) := by
        intro hj K' y2 y3 v6 I0 J eK e2 e3 t1 t2 t3 eJ
        rw [zix_of (m100 hp h6 h4 hj)] at eJ
        have a1 : ∀ b, b ≠ 318 → J b = I0 b := fun b hb => by rw [eJ]; exact funext fun k => if_neg (fun z => hb z.1)
        have a2 : ∀ k, J 318 k = if k = 100 * P + j then y2 else I 318 k := fun k => by
          rw [eJ]
          show (if 318 = 318 ∧ k = 100 * P + j then y2 else I0 318 k) = _
          rw [t1 318 (by decide)]
          (repeat' split) <;> first | rfl | omega
        refine ih (j + 1) K' y2 y3 (x4 + 1) _ v6 J (fun b z1 z2 => ?_) (fun k hk => ?_) (fun k hk => ?_) hs (by omega) (by omega) (by omega) (by omega) (i_1 h4 (by omega)) e2 e3 ?_ (fun i hi => ?_)
        · rw [a1 b z1, t1 b z2, s1 b z1 z2]
        · rw [a2, if_neg (by omega)]; exact s2 k hk
        · rw [a1 319 (by decide)]; exact t2 k hk
        · rw [a1 319 (by decide)]; exact t3
        · rw [a2]
          by_cases e : i = j
          · rw [if_pos (by omega), e2, e]
            unfold posW
            rw [if_neg (by omega), eK]
          · rw [if_neg (by omega)]; exact hat i (by omega)
      have m1 := fun (hj : j < 100) => m100 hp h6 h4 hj
      refine sX11_goes_62 313 x1 x2 x3 x4 u5 u6 hl (Nat.le_refl _) ?_
      rw [hKK]
      refine ⟨fun c1 => ⟨I, rfl, rfl, s1, s2, s3, ?_, fun i hi => hat i (by omega)⟩, fun c2 => ?_⟩
      · rw [hm]
        unfold madeV
        rw [if_neg hs, show K = (pF V P 8).toNat by omega]
      have hj : j < 100 := by omega
      have mm := m1 hj
      have b1 : 0 ≤ ((100 * x1) + x4).toInt := by rw [mm]; omega
      have b2 : ((100 * x1) + x4).toInt < ((600 : Nat) : Int) := by rw [mm]; omega
      have p1 : 0 ≤ x1.toInt := by omega
      have p2 : x1.toInt < ((6 : Nat) : Int) := by omega
      refine ⟨kt, fun c3 => ⟨b1, b2, fun I14 c4 => ?_⟩, fun c5 => ⟨et, fun c6 => ⟨b1, b2, fun I26 c7 => ?_⟩, fun c8 => ⟨fun c9 => ⟨b1, b2, fun I34 c10 => ?_⟩, fun c11 => ?_⟩⟩⟩
      · rw [dd] at c3
        exact go hj K x2 x3 u6 I I14 (by omega) h5 h3 (fun _ _ => rfl) s3 hm c4
      · rw [ev, dd] at c6
        exact go hj K x2 x3 u6 I I26 (by omega) h5 h3 (fun _ _ => rfl) s3 hm c7
      · rw [dd] at c5
        rw [dd, ev] at c8
        have off : (gow V P K).2 = false := by
          by_cases z : (gow V P K).2 = true
          · rw [if_pos z, c9] at h3; exact absurd h3 (by decide)
          · exact Bool.eq_false_iff.mpr z
        have g1 := gow_off off
        refine go hj (K + 1) x2 x3 u6 I I34 (by omega) (by rw [g1]; exact h5) (by rw [g1, c9]; rfl) (fun _ _ => rfl) s3 ?_ c10
        rw [hm]
        show _ = ((mdc V P K + (if (gow V P (K + 1)).2 = true then 1 else 0) : Nat) : Int)
        rw [g1]; rfl
      · rw [dd] at c5
        rw [dd, ev] at c8
        have on : (gow V P K).2 = true := by
          by_cases z : (gow V P K).2 = true
          · exact z
          · rw [if_neg z] at h3; exact absurd h3 c11
        have e8 : (8 + KK).toInt = ((9 + K : Nat) : Int) := by
          rw [i_add (by rw [dd]; show _ ≤ (8 : Int) + _; omega) (by rw [dd]; show (8 : Int) + _ < _; omega), dd]; show (8 : Int) + _ = _; omega
        obtain ⟨st, sv⟩ := mI.sd hp h6 e8 (by omega)
        obtain ⟨ft, fv⟩ := mI.f (w := 1) (f := 1) hp h6 rfl (by decide)
        have sr := pw.2.2.2.2.2.2.2.2 K (by omega)
        have cr := gow_rng w8'.1 K
        have k0 := mI.of (w := 0) (W := 0) rfl (by decide)
        have k1 := mI.of (w := 1) (W := 1) rfl (by decide)
        refine ⟨st, ft, _, c_stepped l G (I, h.2) V x2 _ _ hl k0 k1 w.1 w.2.1 (by rw [h5]; exact cr) (by rw [sv]; exact sr) (by rw [fv]; have := pw.2.1; omega), fun y50 I48 ⟨z1, z2⟩ => ?_⟩
        rw [h5, sv, fv] at z1
        have z2' : I48 = I := z2
        subst z2'
        have d319 : ∀ (v : Int32) (J : Nat → Nat → Int32), J = (zwI (I48, h.2) (313 + 6) (zix x1) v).1 → (∀ b, b ≠ 319 → J b = I48 b) ∧ (∀ k, k ≠ P → J 319 k = h.1 319 k) ∧ J 319 P = v := fun v J e => by
          rw [zix_of hp] at e
          refine ⟨fun b hb => by rw [e]; exact funext fun k => if_neg (fun z => hb z.1), fun k hk => ?_, by rw [e]; exact if_pos ⟨rfl, rfl⟩⟩
          rw [e]
          show (if 319 = 319 ∧ k = P then v else I48 319 k) = _
          rw [if_neg (fun z => hk z.2)]; exact s3 k hk
        have e319 : zI (I48, h.2) (313 + 6) (zix x1) = I48 319 P := by rw [zix_of hp]; rfl
        have kb := mdc_le (V := V) (p := P) K
        refine ⟨fun c13 => ⟨p1, p2, p1, p2, fun I62 c14 => ⟨b1, b2, fun I66 c15 => ?_⟩⟩, fun c16 => ⟨p1, p2, p1, p2, fun I73 c17 => ⟨b1, b2, fun I77 c18 => ?_⟩⟩⟩
        · have g1 := gow_out on (z1.symm.trans (n_m1.mp c13))
          rw [e319] at c14
          obtain ⟨q1, q2, q3⟩ := d319 _ I62 c14
          refine go hj (K + 1) x2 0 _ I62 I66 (by omega) (by rw [g1]; exact h5) (by rw [g1]; rfl) q1 q2 ?_ c15
          rw [q3, i_add (by rw [hm]; show _ ≤ _ + (0 : Int); omega) (by rw [hm]; show _ + (0 : Int) < _; omega), hm]
          show _ = ((mdc V P K + (if (gow V P (K + 1)).2 = true then 1 else 0) : Nat) : Int)
          rw [g1]; rfl
        · have g1 := gow_on on (fun z => c16 (n_m1.mpr (z1.trans z)))
          rw [e319] at c17
          obtain ⟨q1, q2, q3⟩ := d319 _ I73 c17
          refine go hj (K + 1) y50 1 _ I73 I77 (by omega) (by rw [g1]; exact z1) (by rw [g1]; rfl) q1 q2 ?_ c18
          rw [q3, i_add (by rw [hm]; show _ ≤ _ + (1 : Int); omega) (by rw [hm]; show _ + (1 : Int) < _; omega), hm]
          show _ = ((mdc V P K + (if (gow V P (K + 1)).2 = true then 1 else 0) : Nat) : Int)
          rw [g1]; rfl
  have loop9 : ∀ (f j : Nat) (x2 : Int32) (u3 u4 u5 u6 : Value) (I : Nat → Nat → Int32), (∀ b, b ≠ 318 → b ≠ 319 → I b = h.1 b) → (∀ k, (k < 100 * P ∨ 100 * P + 100 ≤ k) → I 318 k = h.1 318 k) → (∀ k, k ≠ P → I 319 k = h.1 319 k) →
      j ≤ 100 → 100 - j < f → x2.toInt = (j : Int) → I 319 P = 0 → (∀ i, i < j → I 318 (100 * P + i) = -1) →
      Z l G mX11_goes 3 (fun w h1 => ∃ J, w = none ∧ h1 = (J, h.2) ∧ ((∀ b, b ≠ 318 → b ≠ 319 → J b = h.1 b) ∧ (∀ k, (k < 100 * P ∨ 100 * P + 100 ≤ k) → J 318 k = h.1 318 k) ∧ (∀ k, k ≠ P → J 319 k = h.1 319 k) ∧ (J 319 P).toInt = madeV V P ∧ ∀ j, j < 100 → (J 318 (100 * P + j)).toInt = posW V P j)) 0 0 9 [va_rf (some 313), .int x1, .int x2, u3, u4, u5, u6] [] (I, h.2) := by
    intro f
    induction f with
    | zero => intro j x2 u3 u4 u5 u6 I s1 s2 s3 h1 h2; omega
    | succ f ih =>
      intro j x2 u3 u4 u5 u6 I s1 s2 s3 h1 h2 hx hm hat
      have mI := mc s1
      obtain ⟨ct, cv⟩ := mI.f (w := 6) (f := 6) hp h6 rfl (by decide)
      obtain ⟨kt, kv⟩ := mI.min hp h6
      refine sX11_goes_9 313 x1 x2 u3 u4 u5 u6 hl (Nat.le_refl _) ⟨fun c1 => ⟨ct, fun c2 => ⟨ct, kt, ?_⟩, fun c3 => ⟨I, rfl, rfl, s1, s2, s3, ?_, fun i hi => ?_⟩⟩, fun c4 => ?_⟩
      · have hs : pF V P 6 ≠ -1 := fun y => c2 (n_m1.mpr (cv.trans y))
        have w8' := w8.resolve_left (fun z => hs z.1)
        refine loop 101 (pF V P 7).toNat 0 _ _ _ u5 u6 I s1 s2 s3 hs (by omega) (Nat.le_refl _) (by omega) (by omega) (by rw [kv]; omega) cv rfl (by rw [hm]; rfl) (fun i hi => ?_)
        rw [hat i (by omega)]
        unfold posW
        rw [if_pos (Or.inr (by omega))]; rfl
      · have hs : pF V P 6 = -1 := cv.symm.trans (n_m1.mp c3)
        rw [hm]; unfold madeV; rw [if_pos hs]; rfl
      · have hs : pF V P 6 = -1 := cv.symm.trans (n_m1.mp c3)
        rw [hat i (by omega)]; unfold posW; rw [if_pos (Or.inl hs)]; rfl
      · have mm := m100 hp h6 hx (by omega)
        refine ⟨by rw [mm]; omega, by rw [mm]; omega, fun I22 c5 => ?_⟩
        rw [zix_of mm] at c5
        have a1 : ∀ b, b ≠ 318 → I22 b = I b := fun b hb => by rw [c5]; exact funext fun k => if_neg (fun z => hb z.1)
        have a2 : ∀ k, I22 318 k = if k = 100 * P + j then -1 else I 318 k := fun k => by
          rw [c5]
          show (if 318 = 318 ∧ k = 100 * P + j then (-1 : Int32) else I 318 k) = _
          (repeat' split) <;> first | rfl | omega
        refine ih (j + 1) (x2 + 1) u3 u4 u5 u6 I22 (fun b z1 z2 => ?_) (fun k hk => ?_) (fun k hk => ?_) (by omega) (by omega) (i_1 hx (by omega)) ?_ (fun i hi => ?_)
        · rw [a1 b z1, s1 b z1 z2]
        · rw [a2, if_neg (by omega)]; exact s2 k hk
        · rw [a1 319 (by decide)]; exact s3 k hk
        · rw [a1 319 (by decide)]; exact hm
        · rw [a2]
          by_cases e : i = j
          · rw [if_pos (by omega)]
          · rw [if_neg (by omega)]; exact hat i (by omega)
  refine kX11_goes 313 x1 (sX11_goes_0 313 x1 hl (Nat.le_refl _) ⟨by omega, by show _ < (6 : Int); omega, fun I2 c1 => ?_⟩)
  rw [zix_of hp] at c1
  refine loop9 101 0 0 zU zU zU zU I2 (fun b z1 z2 => ?_) (fun k hk => ?_) (fun k hk => ?_) (by omega) (by omega) rfl ?_ (fun i hi => absurd hi (Nat.not_lt_zero i))
  · rw [c1]; exact funext fun k => zwI_no (fun z => z2 z.1)
  · rw [c1]; exact zwI_no (fun z => absurd z.1 (by decide))
  · rw [c1]; exact zwI_no (fun z => hk z.2)
  · rw [c1]; exact zwI_at
def gdP (V : Nat → Int) (I : Nat → Nat → Int32) (P : Nat) : Prop := (I 319 P).toInt = stepsV V P ∧ ∀ j, j < 100 → (I 318 (100 * P + j)).toInt = spotV V P j
theorem c_places (l : Launch) (G : zG) (h : zH) (n : Nat) (V : Nat → Int) (hl : lo11 h 313) (w : WFN V) (m : MN h n V) : CTv l G YX11_places 4 [va_rf (some 313)] h (fun I => (∀ b, b ≠ 318 → b ≠ 319 → I b = h.1 b) ∧ ∀ P : Nat, (P : Int) < V 3 → gdP V I P) := by
  have w3 := w.2.2.2.1
  have mc : ∀ {I : Nat → Nat → Int32}, (∀ b, b ≠ 318 → b ≠ 319 → I b = h.1 b) → MN (I, h.2) n V := fun e => m.cg (fun k _ => by rw [e 313 (by decide) (by decide)]) (e 314 (by decide) (by decide)) (fun k _ => by rw [e 317 (by decide) (by decide)])
  have loop2 : ∀ (f i : Nat) (x1 : Int32) (u2 u3 : Value) (I : Nat → Nat → Int32), (i : Int) ≤ V 3 → V 3 - i < (f : Int) → x1.toInt = (i : Int) → (∀ b, b ≠ 318 → b ≠ 319 → I b = h.1 b) → (∀ P : Nat, (P : Int) < V 3 → (P < i ∨ pF V P 5 = -1) → gdP V I P) →
      Z l G mX11_places 4 (fun w h1 => ∃ J, w = none ∧ h1 = (J, h.2) ∧ ((∀ b, b ≠ 318 → b ≠ 319 → J b = h.1 b) ∧ ∀ P : Nat, (P : Int) < V 3 → gdP V J P)) 0 0 31 [va_rf (some 313), .int x1, u2, u3] [] (I, h.2) := by
    intro f
    induction f with
    | zero => intro i x1 u2 u3 I h1 h2; omega
    | succ f ih =>
      intro i x1 u2 u3 I h1 h2 hx s1 s2
      have mI := mc s1
      obtain ⟨k3, v3⟩ := mI.of (w := 3) (W := 3) rfl (by decide)
      refine sX11_places_31 313 x1 u2 u3 hl (Nat.le_refl _) ⟨k3, fun c1 => ⟨I, rfl, rfl, s1, fun P hP => s2 P hP (Or.inl (by omega))⟩, fun c2 => ?_⟩
      have hP : (i : Int) < V 3 := by omega
      have pw := per_w w hP
      obtain ⟨ct, cv⟩ := mI.car hx (by omega)
      have ck := mI.isK hx (by omega)
      refine ⟨ct, fun c3 => ⟨ct, by omega, by show _ < (6 : Int); omega, fun I22 c4 => ?_⟩, fun c5 => ?_⟩
      · have n5 := ck.mp c3
        have w5 := pw.2.2.2.2.2.1
        obtain ⟨R, hR⟩ : ∃ R : Nat, pF V i 5 = (R : Int) := ⟨(pF V i 5).toNat, by omega⟩
        have nR : R ≠ i := fun e => pw.2.2.2.2.2.2.1 (by rw [hR, e])
        rw [zix_of hx] at c4
        have sv : stepsV V i = 0 := by unfold stepsV; exact if_neg n5
        have pv : ∀ j, spotV V i j = if pF V R 5 = -1 then posW V R j else pF V i 6 := fun j => by
          unfold spotV
          rw [if_neg n5, show (pF V i 5).toNat = R by omega]
        have inner : ∀ (f j : Nat) (x2 x3 : Int32) (J : Nat → Nat → Int32), j ≤ 100 → 100 - j < f → x2.toInt = (R : Int) → x3.toInt = (j : Int) → (∀ b, b ≠ 318 → b ≠ 319 → J b = h.1 b) → (∀ P : Nat, (P : Int) < V 3 → P ≠ i → (P < i ∨ pF V P 5 = -1) → gdP V J P) → J 319 i = 0 → (∀ j', j' < j → (J 318 (100 * i + j')).toInt = spotV V i j') →
            Z l G mX11_places 4 (fun w h1 => ∃ J, w = none ∧ h1 = (J, h.2) ∧ ((∀ b, b ≠ 318 → b ≠ 319 → J b = h.1 b) ∧ ∀ P : Nat, (P : Int) < V 3 → gdP V J P)) 0 0 65 [va_rf (some 313), .int x1, .int x2, .int x3] [] (J, h.2) := by
          intro f2
          induction f2 with
          | zero => intro j x2 x3 J h1 h2; omega
          | succ f2 ih2 =>
            intro j x2 x3 J g1 g2 hx2 hx3 t1 t2 t3 t4
            have mJ := mc t1
            refine sX11_places_65 313 x1 x2 x3 hl (Nat.le_refl _) ⟨fun c1 => ?_, fun c6 => ?_⟩
            · refine ih (i + 1) (x1 + 1) _ _ J (by omega) (by omega) (i_1 hx (by omega)) t1 (fun P hP2 q => ?_)
              by_cases e : P = i
              · subst e
                exact ⟨by rw [t3, sv]; rfl, fun j' hj' => t4 j' (by omega)⟩
              · exact t2 P hP2 e (q.elim (fun z => Or.inl (by omega)) Or.inr)
            · have m1 := m100 hx (by omega) hx3 (by omega)
              have m2 := m100 hx2 (by omega) hx3 (by omega)
              obtain ⟨rt, rv⟩ := mJ.car hx2 (by omega)
              have rk := mJ.isK hx2 (by omega)
              obtain ⟨ft, fv⟩ := mJ.f (w := 6) (f := 6) hx (by omega) rfl (by decide)
              have next : ∀ (v : Int32) (J2 : Nat → Nat → Int32), v.toInt = spotV V i j → J2 = (zwI (J, h.2) (313 + 5) (zix ((100 * x1) + x3)) v).1 → Z l G mX11_places 4 (fun w h1 => ∃ J, w = none ∧ h1 = (J, h.2) ∧ ((∀ b, b ≠ 318 → b ≠ 319 → J b = h.1 b) ∧ ∀ P : Nat, (P : Int) < V 3 → gdP V J P)) 0 0 65 [va_rf (some 313), .int x1, .int x2, .int (x3 + 1)] [] (J2, h.2) := by
                intro v J2 ev eJ
                rw [zix_of m1] at eJ
                have a1 : ∀ b, b ≠ 318 → J2 b = J b := fun b hb => by rw [eJ]; exact funext fun k => zwI_no (fun z => hb z.1)
                have a2 : ∀ k, k ≠ 100 * i + j → J2 318 k = J 318 k := fun k hk => by rw [eJ]; exact zwI_no (fun z => hk z.2)
                have a3 : J2 318 (100 * i + j) = v := by rw [eJ]; exact zwI_at
                refine ih2 (j + 1) x2 (x3 + 1) J2 (by omega) (by omega) hx2 (i_1 hx3 (by omega)) (fun b z1 z2 => by rw [a1 b z1]; exact t1 b z1 z2) (fun P hP2 e q => ?_) (by rw [a1 319 (by decide)]; exact t3) (fun j' hj' => ?_)
                · obtain ⟨d1, d2⟩ := t2 P hP2 e q
                  refine ⟨by rw [a1 319 (by decide)]; exact d1, fun j' hj' => ?_⟩
                  rw [a2 _ (by omega)]; exact d2 j' hj'
                · by_cases e : j' = j
                  · rw [e, a3, ev]
                  · rw [a2 _ (by omega)]; exact t4 j' (by omega)
              refine ⟨rt, fun c3 => ⟨by rw [m2]; omega, by rw [m2]; omega, by rw [m1]; omega, by rw [m1]; omega, fun I15 c4 => next _ I15 ?_ c4⟩, fun c5 => ⟨ft, by rw [m1]; omega, by rw [m1]; omega, fun I23 c6 => next _ I23 ?_ c6⟩⟩
              · have r5 : pF V R 5 = -1 := Decidable.byContradiction fun z => by
                  have := rk.mpr z
                  rw [c3] at this
                  exact Bool.false_ne_true this
                rw [zix_of m2, pv, if_pos r5]
                have := (t2 R (by omega) nR (Or.inr r5)).2 j (by omega)
                unfold spotV at this
                rw [if_pos r5] at this
                exact this
              · rw [pv, if_neg (rk.mp c5)]; exact fv
        have a1 : ∀ b, b ≠ 319 → I22 b = I b := fun b hb => by rw [c4]; exact funext fun k => zwI_no (fun z => hb z.1)
        have a2 : ∀ k, k ≠ i → I22 319 k = I 319 k := fun k hk => by rw [c4]; exact zwI_no (fun z => hk z.2)
        refine inner 101 0 _ 0 I22 (by omega) (by omega) (by rw [cv]; exact hR) rfl (fun b z1 z2 => by rw [a1 b z2]; exact s1 b z1 z2) (fun P hP2 e q => ?_) (by rw [c4]; exact zwI_at) (fun j' hj' => absurd hj' (Nat.not_lt_zero j'))
        obtain ⟨d1, d2⟩ := s2 P hP2 q
        exact ⟨by rw [a2 _ e]; exact d1, fun j' hj' => by rw [a1 318 (by decide)]; exact d2 j' hj'⟩
      · have n5 : pF V i 5 = -1 := Decidable.byContradiction fun z => by
          have := ck.mpr z
          rw [c5] at this
          exact Bool.false_ne_true this
        refine ih (i + 1) (x1 + 1) _ _ I (by omega) (by omega) (i_1 hx (by omega)) s1 (fun P hP2 q => s2 P hP2 ?_)
        by_cases e : P = i
        · rw [e]; exact Or.inr n5
        · exact q.elim (fun z => Or.inl (by omega)) Or.inr
  have loop1 : ∀ (f i : Nat) (x1 : Int32) (u2 u3 : Value) (I : Nat → Nat → Int32), (i : Int) ≤ V 3 → V 3 - i < (f : Int) → x1.toInt = (i : Int) → (∀ b, b ≠ 318 → b ≠ 319 → I b = h.1 b) → (∀ P : Nat, (P : Int) < V 3 → P < i → pF V P 5 = -1 → gdP V I P) →
      Z l G mX11_places 4 (fun w h1 => ∃ J, w = none ∧ h1 = (J, h.2) ∧ ((∀ b, b ≠ 318 → b ≠ 319 → J b = h.1 b) ∧ ∀ P : Nat, (P : Int) < V 3 → gdP V J P)) 0 0 2 [va_rf (some 313), .int x1, u2, u3] [] (I, h.2) := by
    intro f
    induction f with
    | zero => intro i x1 u2 u3 I h1 h2; omega
    | succ f ih =>
      intro i x1 u2 u3 I h1 h2 hx s1 s2
      have mI := mc s1
      obtain ⟨k3, v3⟩ := mI.of (w := 3) (W := 3) rfl (by decide)
      refine sX11_places_2 313 x1 u2 u3 hl (Nat.le_refl _) ⟨k3, fun c1 => ?_, fun c2 => ?_⟩
      · exact loop2 7 0 0 _ _ I (by omega) (by omega) rfl s1 (fun P hP q => s2 P hP (by omega) (q.resolve_left (Nat.not_lt_zero P)))
      · have hP : (i : Int) < V 3 := by omega
        obtain ⟨ct, cv⟩ := mI.car hx (by omega)
        have ck := mI.isK hx (by omega)
        refine ⟨ct, fun c3 => ih (i + 1) (x1 + 1) _ _ I (by omega) (by omega) (i_1 hx (by omega)) s1 (fun P hP2 hi n5 => s2 P hP2 ?_ n5), fun c4 => ⟨_, c_goes l G (I, h.2) n V x1 i hl w mI hx hP, fun I20 ⟨g1, g2, g3, g4, g5⟩ => ?_⟩⟩
        · by_cases e : P = i
          · rw [e] at n5; exact absurd n5 (ck.mp c3)
          · omega
        · refine ih (i + 1) (x1 + 1) _ _ I20 (by omega) (by omega) (i_1 hx (by omega)) (fun b z1 z2 => by rw [g1 b z1 z2]; exact s1 b z1 z2) (fun P hP2 hi n5 => ?_)
          by_cases e : P = i
          · subst e
            refine ⟨?_, fun j hj => ?_⟩
            · rw [g4]; unfold stepsV; rw [if_pos n5]
            · rw [g5 j hj]; unfold spotV; rw [if_pos n5]
          · obtain ⟨d1, d2⟩ := s2 P hP2 (by omega) n5
            exact ⟨by rw [g3 P e]; exact d1, fun j hj => by rw [g2 _ (by omega)]; exact d2 j hj⟩
  exact kX11_places 313 (sX11_places_0 313 hl (Nat.le_refl _) (loop1 7 0 0 zU zU h.1 (by omega) (by omega) rfl (fun _ _ _ => rfl) (fun P _ q => absurd q (Nat.not_lt_zero P))))
