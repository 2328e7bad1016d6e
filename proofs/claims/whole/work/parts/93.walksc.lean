set_option maxRecDepth 4000
/-! ===== rows of signs: may two rows be joined ===== -/
section K93
variable {V R : Nat → Int} {M L i n : Nat} {any : Bool} {nx : Nat → Nat}
theorem lo4_w {h : zH} (o : lo4 h 150) : zAw h 151 10 ∧ zAw h 152 10 ∧ zAw h 153 10 ∧ zAw h 154 10 ∧ zAw h 155 10 ∧ zAw h 156 10 := ⟨o.w 1 rfl, o.w 2 rfl, o.w 3 rfl, o.w 4 rfl, o.w 5 rfl, o.w 6 rfl⟩
theorem c_may (l : Launch) (G : zG) (h : zH) (b : Nat) (x1 x2 : Int32) (hl : lo4 h 150) (wr : WFR R) (hM : 1 ≤ M) (hM2 : M ≤ 10) (s : SRf h V R M L any) (sn : SRn h (nR R) nx) (p : PV (fF V R) M (nR R) i nx) (h1 : x1.toInt = (i : Int)) (hi : i < nR R) (h2 : x2.toInt = (b : Int)) (hb : b < nR R) :
    CTz l G YX4_mayJoin 2 [va_rf (some 150), .int x1, .int x2] h (fun y I => y = jnB (fF V R) M (nR R) i nx b ∧ I = h.1) := by
  have ev := nR_ok wr
  obtain ⟨s1, s2, s3, s4, s5⟩ := s
  obtain ⟨n1, n2, n3⟩ := sn
  obtain ⟨w1, w2, w3, w4, w5, w6⟩ := lo4_w hl
  obtain ⟨p1, p2, p3, p4⟩ := id p
  have n10 : nx 10 = 10 := p1 10 (by omega)
  have nlt : ∀ x, nx x ≠ 10 → nx x < nR R := fun x hx => by
    by_cases z : x < i
    · exact ((p2 x z).resolve_left hx).1
    · exact absurd (p1 x (by omega)) hx
  have xlt : ∀ x, nx x ≠ 10 → x < i := fun x hx => Classical.byContradiction fun z => hx (p1 x (by omega))
  have itl : ∀ k, itN nx k b ≠ 10 → itN nx k b < 10 := fun k hk => by
    cases k with
    | zero => show b < 10; omega
    | succ k =>
      rw [itN_s] at hk ⊢
      have := nlt _ hk
      omega
  have eF : zget h (some (150 + 2)) x1 = flF V R i := by rw [show 150 + 2 = 152 from rfl, zget_w w2 h1 (by omega)]; exact s2 i hi
  -- going back from a
  have back : (fF V R i b = true ∧ ∀ a, a < nR R → nx a ≠ b) → ∀ (eb : Nat) (x4 : Int32), x4.toInt = (itN nx eb b : Int) → itN nx eb b ≠ 10 → itN nx (eb + 1) b = 10 → ∀ (fu j fi : Nat) (x3 x5 : Int32), 11 - (2 + eb + j) < fu → x3.toInt = ((2 + eb + j : Nat) : Int) → x5.toInt = (fi : Int) → fi < nR R → itN nx j fi = i →
      Z l G mX4_mayJoin 2 (fun v h2 => ∃ y I1, v = some (.int (zb y)) ∧ h2 = (I1, h.2) ∧ (y = jnB (fF V R) M (nR R) i nx b ∧ I1 = h.1)) 0 0 68 [va_rf (some 150), .int x1, .int x2, .int x3, .int x4, .int x5] [] h := by
    intro fr eb x4 hx4 e1 e2 fu
    induction fu with
    | zero => intro j fi x3 x5 q; omega
    | succ fu ih =>
      intro j fi x3 x5 q h3 h5 hfi hf
      have eb4 : zget h (some (150 + 5)) x5 = zI h 155 fi := zget_w w5 h5 (by omega)
      have v7 : (zI h 150 7).toInt = (M : Int) := s4
      have e41 : x4 = x1 ↔ itN nx eb b = i := ⟨fun z => by rw [z] at hx4; omega, fun z => i_ext (by omega)⟩
      have no : itN nx eb b = i → ¬ jnB (fF V R) M (nR R) i nx b = true := fun z w => join_cyc ev.2 hi hb p z (jnB_iff.mp w).2.2
      have lng : itN nx eb b ≠ i → M < 2 + eb + j → ¬ jnB (fF V R) M (nR R) i nx b = true := fun z y w => join_long ev.2 hi p e1 z hf y (jnB_iff.mp w).2.2
      have f0 : ¬ jnB (fF V R) M (nR R) i nx b = true → false = jnB (fF V R) M (nR R) i nx b := fun z => by
        cases y : jnB (fF V R) M (nR R) i nx b with
        | false => rfl
        | true => exact absurd y z
      refine sX4_mayJoin_68 (h := h) 150 x1 x2 x3 x4 x5 hl (Nat.le_refl _) ⟨fun c1 => ⟨fun c2 => ⟨false, h.1, rfl, rfl, f0 (no (e41.mp c2)), rfl⟩, fun c3 => ⟨fun c4 => ⟨false, h.1, rfl, rfl, f0 (lng (fun z => c3 (e41.mpr z)) (by omega)), rfl⟩, fun c5 => ⟨true, h.1, rfl, rfl, ?_, rfl⟩⟩⟩, fun c6 => ⟨fun c7 => ⟨fun c8 => ⟨false, h.1, rfl, rfl, f0 (no (e41.mp c8)), rfl⟩, fun c9 => ⟨fun c10 => ⟨false, h.1, rfl, rfl, f0 (lng (fun z => c9 (e41.mpr z)) (by omega)), rfl⟩, fun c11 => ?_⟩⟩, fun c12 => ?_⟩⟩
      · rw [eb4] at c1
        have np : ∀ a, nx a ≠ fi := fun a ha => by
          have := (n2 fi (by omega)).1 a ha
          rw [c1] at this
          have t : (-1 : Int) = (a : Int) := this
          omega
        exact (jnB_iff.mpr ⟨fr.1, fr.2, fun a _ => join_yes ev.2 hi p e1 e2 (fun z => c3 (e41.mpr z)) hf np (by omega) a⟩).symm
      · have c7' : (10 : Int) < x3.toInt := c7
        omega
      · rw [eb4] at c6
        have c12' : x3.toInt ≤ (10 : Int) := c12
        have ex : ∃ a, nx a = fi := Classical.byContradiction fun z => c6 ((n2 fi (by omega)).2 (fun a ha => z ⟨a, ha⟩))
        obtain ⟨a, ha⟩ := ex
        have va := (n2 fi (by omega)).1 a ha
        have al := xlt a (by omega)
        refine ih (j + 1) a _ _ (by omega) ?_ (by rw [eb4]; exact va) (by omega) (by show itN nx j (nx a) = i; rw [ha]; exact hf)
        have := i_1 h3 (by omega)
        rw [this]; omega
  -- going on from b
  have on : (fF V R i b = true ∧ ∀ a, a < nR R → nx a ≠ b) → ∀ (fu k : Nat) (x3 x4 : Int32) (u5 : Value), 11 - k < fu → x3.toInt = ((2 + k : Nat) : Int) → x4.toInt = (itN nx k b : Int) → itN nx k b ≠ 10 →
      Z l G mX4_mayJoin 2 (fun v h2 => ∃ y I1, v = some (.int (zb y)) ∧ h2 = (I1, h.2) ∧ (y = jnB (fF V R) M (nR R) i nx b ∧ I1 = h.1)) 0 0 29 [va_rf (some 150), .int x1, .int x2, .int x3, .int x4, u5] [] h := by
    intro fr fu
    induction fu with
    | zero => intro k x3 x4 u5 q; omega
    | succ fu ih =>
      intro k x3 x4 u5 q h3 h4 hk
      have k10 := itl k hk
      have e4 : zget h (some (150 + 4)) x4 = ov (nx (itN nx k b)) := by rw [zget_w w4 h4 k10]; exact n1 _ k10
      have kM : k < M := Classical.byContradiction fun z => hk (itN_ab n10 (p4 b) (by omega))
      refine sX4_mayJoin_29 (h := h) 150 x1 x2 x3 x4 u5 hl (Nat.le_refl _) ⟨fun c1 => ?_, fun c2 => ⟨fun c3 => ?_, fun c4 => ?_⟩⟩
      · rw [e4] at c1
        have z : nx (itN nx k b) = 10 := Classical.byContradiction fun y => (ov_n (show nx (itN nx k b) < 10 by have := nlt _ y; omega)).2 c1
        exact back fr k x4 h4 hk (by rw [itN_s]; exact z) 12 0 i x3 x1 (by omega) (by rw [h3]; omega) h1 hi rfl
      · rw [e4] at c2
        have c3' : (10 : Int) < x3.toInt := c3
        have z : nx (itN nx k b) ≠ 10 := fun y => c2 (by rw [y]; rfl)
        rw [← itN_s (nx := nx)] at z
        exact absurd (itN_ab n10 (p4 b) (by omega)) z
      · rw [e4] at c2
        have c4' : x3.toInt ≤ (10 : Int) := c4
        have z : nx (itN nx k b) ≠ 10 := fun y => c2 (by rw [y]; rfl)
        have zl := nlt _ z
        refine ih (k + 1) _ _ u5 (by omega) ?_ ?_ (by rw [itN_s]; exact z)
        · have := i_1 h3 (by omega)
          rw [this]; omega
        · rw [e4, (ov_n (show nx (itN nx k b) < 10 by omega)).1, itN_s]
  refine kX4_mayJoin 150 x1 x2 (sX4_mayJoin_0 150 x1 x2 hl (Nat.le_refl _) ⟨fun c1 => ?_, fun c2 => ⟨false, h.1, rfl, rfl, ?_, rfl⟩⟩)
  · rw [eF, bit1_of h2, ibt_one (by omega)] at c1
    have c1' := Classical.byContradiction c1
    refine on ⟨c1'.1, fun a ha e => ?_⟩ 12 0 2 x2 zU (by omega) rfl h2 (by show b ≠ 10; omega)
    have := (n3 b (by omega)).mpr ⟨a, ha, e⟩
    rw [c1'.2] at this; cases this
  · rw [eF, bit1_of h2, ibt_one (by omega)] at c2
    cases y : jnB (fF V R) M (nR R) i nx b with
    | false => rfl
    | true =>
      obtain ⟨j1, j2, _⟩ := jnB_iff.mp y
      refine absurd ⟨j1, ?_⟩ c2
      cases z : ibt (zI h 150 10) b with
      | false => rfl
      | true =>
        obtain ⟨a, ha, e⟩ := (n3 b (by omega)).mp z
        exact absurd e (j2 a ha)
theorem c_ends4 (l : Launch) (G : zG) (h : zH) (x1 : Int32) (hl : lo4 h 150) (wr : WFR R) (s : SRf h V R M L any) (sn : SRn h (nR R) nx) (h1 : x1.toInt = (i : Int)) (hi : i ≤ nR R) :
    CTi l G YX4_endsFrom 2 [va_rf (some 150), .int x1] h (fun y I => y.toInt = (efB (fF V R) (nR R) i nx : Int) ∧ I = h.1) := by
  have ev := nR_ok wr
  obtain ⟨s1, s2, s3, s4, s5⟩ := s
  obtain ⟨n1, n2, n3⟩ := sn
  obtain ⟨w1, w2, w3, w4, w5, w6⟩ := lo4_w hl
  have loop : ∀ (fu k : Nat) (x2 x3 : Int32), i ≤ k → k ≤ nR R → nR R - k < fu → x3.toInt = (k : Int) → x2.toInt = (cB k (fun k => decide (i ≤ k) && decide (∀ b, b < nR R → fF V R k b = true → ∃ a, a < nR R ∧ nx a = b)) : Int) →
      Z l G mX4_endsFrom 2 (fun v h2 => ∃ y I1, v = some (.int y) ∧ h2 = (I1, h.2) ∧ (y.toInt = (efB (fF V R) (nR R) i nx : Int) ∧ I1 = h.1)) 0 0 4 [va_rf (some 150), .int x1, .int x2, .int x3] [] h := by
    intro fu
    induction fu with
    | zero => intro k x2 x3 q0 q1 q2; omega
    | succ fu ih =>
      intro k x2 x3 q0 q1 q2 h3 h2
      refine sX4_endsFrom_4 (h := h) 150 x1 x2 x3 hl (Nat.le_refl _) ⟨fun c1 => ⟨x2, h.1, rfl, rfl, ?_, rfl⟩, fun c2 => ?_⟩
      · have ek : k = nR R := by omega
        rw [h2, ek]; rfl
      · have hk : k < nR R := by omega
        have eF : zget h (some (150 + 2)) x3 = flF V R k := by rw [show 150 + 2 = 152 from rfl, zget_w w2 h3 (by omega)]; exact s2 k hk
        have key : (flF V R k &&& (zI h 150 10 ^^^ (-1))) = 0 ↔ ∀ b, b < nR R → fF V R k b = true → ∃ a, a < nR R ∧ nx a = b := by
          rw [ibt_sub]
          refine ⟨fun z b hb hf => (n3 b (by omega)).mp (z b (by omega) hf), fun z b hb hf => ?_⟩
          have := fF_lt wr hf
          exact (n3 b (by omega)).mpr (z b this hf)
        have st : cB (k + 1) (fun k => decide (i ≤ k) && decide (∀ b, b < nR R → fF V R k b = true → ∃ a, a < nR R ∧ nx a = b)) = cB k (fun k => decide (i ≤ k) && decide (∀ b, b < nR R → fF V R k b = true → ∃ a, a < nR R ∧ nx a = b)) + (if (decide (i ≤ k) && decide (∀ b, b < nR R → fF V R k b = true → ∃ a, a < nR R ∧ nx a = b)) = true then 1 else 0) := by
          unfold cB
          rw [List.range_succ, List.countP_append, List.countP_cons, List.countP_nil, Nat.zero_add]
        have bd : cB k (fun k => decide (i ≤ k) && decide (∀ b, b < nR R → fF V R k b = true → ∃ a, a < nR R ∧ nx a = b)) ≤ k := by
          have := List.countP_le_length (p := fun k => decide (i ≤ k) && decide (∀ b, b < nR R → fF V R k b = true → ∃ a, a < nR R ∧ nx a = b)) (l := List.range k)
          rw [List.length_range] at this
          exact this
        refine ⟨fun c3 => ?_, fun c4 => ?_⟩
        · rw [eF, key] at c3
          refine ih (k + 1) _ _ (by omega) (by omega) (by omega) (i_1 h3 (by omega)) ?_
          rw [st, decide_eq_false c3, Bool.and_false, if_neg Bool.false_ne_true]; exact h2
        · rw [eF, key] at c4
          refine ih (k + 1) _ _ (by omega) (by omega) (by omega) (i_1 h3 (by omega)) ?_
          rw [st, decide_eq_true c4, decide_eq_true q0, Bool.and_self, if_pos rfl]
          exact i_1 h2 (by omega)
  refine kX4_endsFrom 150 x1 (sX4_endsFrom_0 150 x1 hl (Nat.le_refl _) (loop 11 i 0 x1 (Nat.le_refl _) hi (by omega) h1 ?_))
  have z : cB i (fun k => decide (i ≤ k) && decide (∀ b, b < nR R → fF V R k b = true → ∃ a, a < nR R ∧ nx a = b)) = 0 := by
    unfold cB
    exact List.countP_eq_zero.mpr (fun x hx => by
      have := List.mem_range.mp hx
      rw [decide_eq_false (by omega), Bool.false_and]; exact Bool.false_ne_true)
  rw [z]; rfl
end K93
