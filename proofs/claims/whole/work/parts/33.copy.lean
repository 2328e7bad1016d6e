set_option maxRecDepth 4000
/-! ===== copies ===== -/
def zcy (h : zH) (q0 q1 N : Nat) : Nat → Nat → Int32 := fun c k => if c = q1 ∧ k < N then h.1 q0 k else h.1 c k
theorem c_X10_copy (l : Launch) (G : zG) (h : zH) (q0 q1 N : Nat) (h0 : zAw h q0 N) (h1 : zAw h q1 N) (hN : N < 100000) : CTv l G YX10_copy 2 [va_rf (some q0), va_rf (some q1)] h (fun I => I = zcy h q0 q1 N) := by
  have eN : (Int32.ofNat N).toInt = (N : Int) := i_ofNat (by omega)
  have em : imin (Int32.ofNat N) (Int32.ofNat N) = Int32.ofNat N := by unfold imin; split <;> rfl
  refine kX10_copy (some q0) (some q1) (sX10_copy_0 (some q0) (some q1) (Nat.le_refl _) ⟨fun c1 => absurd c1 (fun z => by cases z), fun b2 c2 => ⟨fun c3 => absurd c3 (fun z => by cases z), fun b6 c4 => ?_⟩⟩)
  have eb2 : b2 = q0 := (Option.some.inj c2).symm
  have eb6 : b6 = q1 := (Option.some.inj c4).symm
  subst eb2
  subst eb6
  refine ⟨N, h0.r, N, h1.r, b2, b6, rfl, rfl, N, N, h0, h1, Int.le_refl _, Int.le_refl _, by rw [em, eN]; omega, by rw [em, eN]; omega, by rw [em, eN]; omega, fun I e => ⟨I, rfl, rfl, ?_⟩⟩
  rw [e, em, zix_of eN]
  funext c k
  show (if c = b6 ∧ 0 ≤ k ∧ k < 0 + N then h.1 b2 (0 + (k - 0)) else h.1 c k) = (if c = b6 ∧ k < N then h.1 b2 k else h.1 c k)
  by_cases q : c = b6 ∧ k < N
  · rw [if_pos ⟨q.1, by omega, by omega⟩, if_pos q]; exact congrArg (h.1 b2) (by omega)
  · rw [if_neg (fun z => q ⟨z.1, by omega⟩), if_neg q]
def cpL (h : zH) (a b : Nat) (l : List Nat) : Nat → Nat → Int32 := fun c k => if c = a ∧ k ∈ l then h.1 b k else h.1 c k
theorem cpL_0 (h : zH) (a b : Nat) : h.1 = cpL h a b [] := by
  funext c k
  exact (if_neg (fun z => absurd z.2 List.not_mem_nil)).symm
theorem cpL_s {h : zH} {a b j : Nat} {l : List Nat} {I J : Nat → Nat → Int32} (hne : b ≠ a) (e : I = cpL h a b l) (e2 : J = (zwI (I, h.2) a j (zI (I, h.2) b j)).1) : J = cpL h a b (j :: l) := by
  rw [e2, e]
  funext c k
  have er : zI (cpL h a b l, h.2) b j = h.1 b j := if_neg (fun z => hne z.1)
  rw [er]
  show (if c = a ∧ k = j then h.1 b j else if c = a ∧ k ∈ l then h.1 b k else h.1 c k) = (if c = a ∧ k ∈ j :: l then h.1 b k else h.1 c k)
  by_cases q : c = a ∧ k = j
  · rw [if_pos q, if_pos ⟨q.1, by rw [q.2]; exact List.mem_cons_self⟩, q.2]
  · rw [if_neg q]
    by_cases q2 : c = a ∧ k ∈ l
    · rw [if_pos q2, if_pos ⟨q2.1, List.mem_cons_of_mem _ q2.2⟩]
    · rw [if_neg q2, if_neg (fun z => (List.mem_cons.mp z.2).elim (fun y => q ⟨z.1, y⟩) (fun y => q2 ⟨z.1, y⟩))]
theorem cpL_in {h : zH} {a b k : Nat} {l : List Nat} (hk : k ∈ l) : cpL h a b l a k = h.1 b k := if_pos ⟨rfl, hk⟩
theorem cpL_out {h : zH} {a b c : Nat} {l : List Nat} (hc : c ≠ a) : cpL h a b l c = h.1 c := funext fun _ => if_neg (fun z => hc z.1)
theorem zcy_out {h : zH} {q0 q1 N c : Nat} (hc : c ≠ q1) : zcy h q0 q1 N c = h.1 c := funext fun _ => if_neg (fun z => hc z.1)
theorem zcy_in {h : zH} {q0 q1 N k : Nat} (hk : k < N) : zcy h q0 q1 N q1 k = h.1 q0 k := if_pos ⟨rfl, hk⟩
theorem c_X2_copyFrom (l : Launch) (G : zG) (h : zH) (a b : Nat) (ha : lo2 h a) (hb : lo2 h b) (hd : a + 2 ≤ b ∨ b + 2 ≤ a) : CTv l G YX2_copyFrom 3 [va_rf (some a), va_rf (some b)] h (fun J => (∀ c, c ≠ a → c ≠ a + 1 → J c = h.1 c) ∧ (∀ f, f < 9 → J a f = h.1 b f) ∧ ∀ i, i < 24 → J (a + 1) i = h.1 (b + 1) i) := by
  have hne : b ≠ a := by omega
  refine kX2_copyFrom a b (sX2_copyFrom_0 a b ha hb (Nat.le_refl _) (fun I1 e1 I2 e2 I3 e3 I4 e4 I5 e5 I6 e6 I7 e7 I8 e8 I9 e9 => ?_))
  have s9 := cpL_s hne (cpL_s hne (cpL_s hne (cpL_s hne (cpL_s hne (cpL_s hne (cpL_s hne (cpL_s hne (cpL_s hne (cpL_0 h a b) e1) e2) e3) e4) e5) e6) e7) e8) e9
  refine ⟨_, c_X10_copy l G (I9, h.2) (b + 1) (a + 1) 24 (hb.w 1 rfl) (ha.w 1 rfl) (by decide), fun J eJ => ⟨J, rfl, rfl, fun c h1 h2 => ?_, fun f hf => ?_, fun i hi => ?_⟩⟩
  · rw [eJ, zcy_out h2]
    show I9 c = _
    rw [s9, cpL_out h1]
  · rw [eJ, zcy_out (by omega)]
    show I9 a f = _
    rw [s9]
    exact cpL_in (by simp only [List.mem_cons, List.not_mem_nil, or_false]; omega)
  · rw [eJ, zcy_in hi]
    show I9 (b + 1) i = _
    rw [s9, cpL_out (by omega)]
theorem c_X1_copyFrom (l : Launch) (G : zG) (h : zH) (a b : Nat) (ha : lo1 h a) (hb : lo1 h b) (hd : a + 18 ≤ b ∨ b + 18 ≤ a) : CTv l G YX1_copyFrom 4 [va_rf (some a), va_rf (some b)] h (fun J => (∀ c, (c < a ∨ a + 18 ≤ c) → J c = h.1 c) ∧ NCp h (J, h.2) b a) := by
  have hne : b ≠ a := by omega
  have loop : ∀ (f i : Nat) (x : Int32) (I : Nat → Nat → Int32), i ≤ 6 → 6 - i < f → x.toInt = (i : Int) → (∀ c, c ≠ a → ¬ (a + 6 ≤ c ∧ c < a + 6 + 2 * i) → I c = h.1 c) → (∀ f, f < 5 → I a f = h.1 b f) → (∀ p, p < i → (∀ f, f < 9 → I (a + 6 + 2 * p) f = h.1 (b + 6 + 2 * p) f) ∧ ∀ k, k < 24 → I (a + 7 + 2 * p) k = h.1 (b + 7 + 2 * p) k) →
      Z l G mX1_copyFrom 4 (fun w h1 => ∃ J, w = none ∧ h1 = (J, h.2) ∧ (∀ c, (c < a ∨ a + 18 ≤ c) → J c = h.1 c) ∧ NCp h (J, h.2) b a) 0 0 42 [va_rf (some a), va_rf (some b), .int x] [] (I, h.2) := by
    intro f
    induction f with
    | zero => intro i x I h1 h2; omega
    | succ f ih =>
      intro i x I h1 h2 hx s1 s2 s3
      refine sX1_copyFrom_42 a b x ha hb (Nat.le_refl _) ⟨fun c1 => ?_, fun c2 => ⟨fun c3 => absurd c3 (by omega), fun c3 => ⟨by omega, by omega, by omega, by omega, a + (6 + 2 * i), ?_, per_lo ha (by omega), ?_⟩⟩⟩
      · have hi : i = 6 := by omega
        subst hi
        refine ⟨_, c_X10_copy l G (I, h.2) (b + 2) (a + 2) 5 (hb.w 2 rfl) (ha.w 2 rfl) (by decide), fun J2 e2 => ⟨_, c_X10_copy l G (J2, h.2) (b + 3) (a + 3) 5 (hb.w 3 rfl) (ha.w 3 rfl) (by decide), fun J3 e3 => ⟨_, c_X10_copy l G (J3, h.2) (b + 4) (a + 4) 5 (hb.w 4 rfl) (ha.w 4 rfl) (by decide), fun J4 e4 => ⟨_, c_X10_copy l G (J4, h.2) (b + 5) (a + 5) 100 (hb.w 5 rfl) (ha.w 5 rfl) (by decide), fun J5 e5 => ⟨J5, rfl, rfl, ?_⟩⟩⟩⟩⟩
        have o5 : ∀ c, c ≠ a + 5 → J5 c = J4 c := fun c hc => by rw [e5]; exact zcy_out hc
        have o4 : ∀ c, c ≠ a + 4 → J4 c = J3 c := fun c hc => by rw [e4]; exact zcy_out hc
        have o3 : ∀ c, c ≠ a + 3 → J3 c = J2 c := fun c hc => by rw [e3]; exact zcy_out hc
        have o2 : ∀ c, c ≠ a + 2 → J2 c = I c := fun c hc => by rw [e2]; exact zcy_out hc
        have oo : ∀ c, (c < a + 2 ∨ a + 6 ≤ c) → J5 c = I c := fun c hc => by rw [o5 c (by omega), o4 c (by omega), o3 c (by omega), o2 c (by omega)]
        refine ⟨fun c hc => by rw [oo c (by omega), s1 c (by omega) (by omega)], fun f hf => ?_, fun k hk => ⟨?_, ?_, ?_⟩, fun m hm => ?_, fun p hp => ⟨fun f hf => ?_, fun k hk => ?_⟩⟩
        · show J5 a f = h.1 b f
          rw [oo a (by omega)]; exact s2 f hf
        · show J5 (a + 2) k = h.1 (b + 2) k
          rw [o5 _ (by omega), o4 _ (by omega), o3 _ (by omega), e2, zcy_in hk]
          show I (b + 2) k = _
          rw [s1 _ (by omega) (by omega)]
        · show J5 (a + 3) k = h.1 (b + 3) k
          rw [o5 _ (by omega), o4 _ (by omega), e3, zcy_in hk]
          show J2 (b + 3) k = _
          rw [o2 _ (by omega), s1 _ (by omega) (by omega)]
        · show J5 (a + 4) k = h.1 (b + 4) k
          rw [o5 _ (by omega), e4, zcy_in hk]
          show J3 (b + 4) k = _
          rw [o3 _ (by omega), o2 _ (by omega), s1 _ (by omega) (by omega)]
        · show J5 (a + 5) m = h.1 (b + 5) m
          rw [e5, zcy_in hm]
          show J4 (b + 5) m = _
          rw [o4 _ (by omega), o3 _ (by omega), o2 _ (by omega), s1 _ (by omega) (by omega)]
        · show J5 (a + 6 + 2 * p) f = h.1 (b + 6 + 2 * p) f
          rw [oo _ (by omega)]; exact (s3 p hp).1 f hf
        · show J5 (a + 7 + 2 * p) k = h.1 (b + 7 + 2 * p) k
          rw [oo _ (by omega)]; exact (s3 p hp).2 k hk
      · rw [zix_of hx]; exact per_at ha (by omega)
      · have er : zR (I, h.2) (b + 1) (zix x) = some (b + (6 + 2 * i)) := by rw [zix_of hx]; exact per_at hb (by omega)
        rw [er]
        refine ⟨_, c_X2_copyFrom l G (I, h.2) (a + (6 + 2 * i)) (b + (6 + 2 * i)) (per_lo ha (by omega)) (per_lo hb (by omega)) (by omega), fun J ⟨j1, j2, j3⟩ => ?_⟩
        refine ih (i + 1) (x + 1) J (by omega) (by omega) (i_1 hx (by omega)) (fun c hc hc2 => ?_) (fun f hf => ?_) (fun p hp => ?_)
        · rw [j1 c (by omega) (by omega)]; exact s1 c hc (by omega)
        · rw [j1 a (by omega) (by omega)]; exact s2 f hf
        · by_cases e : p = i
          · subst e
            refine ⟨fun f hf => ?_, fun k hk => ?_⟩
            · rw [show a + 6 + 2 * p = a + (6 + 2 * p) by omega, j2 f hf]
              show I (b + (6 + 2 * p)) f = _
              rw [s1 _ (by omega) (by omega)]; exact congrArg (fun z => h.1 z f) (by omega)
            · rw [show a + 7 + 2 * p = a + (6 + 2 * p) + 1 by omega, j3 k hk]
              show I (b + (6 + 2 * p) + 1) k = _
              rw [s1 _ (by omega) (by omega)]; exact congrArg (fun z => h.1 z k) (by omega)
          · obtain ⟨t1, t2⟩ := s3 p (by omega)
            exact ⟨fun f hf => by rw [j1 _ (by omega) (by omega)]; exact t1 f hf, fun k hk => by rw [j1 _ (by omega) (by omega)]; exact t2 k hk⟩
  refine kX1_copyFrom a b (sX1_copyFrom_0 a b ha hb (Nat.le_refl _) (fun I1 e1 I2 e2 I3 e3 I4 e4 I5 e5 => ?_))
  have s5 := cpL_s hne (cpL_s hne (cpL_s hne (cpL_s hne (cpL_s hne (cpL_0 h a b) e1) e2) e3) e4) e5
  refine loop 7 0 0 I5 (by omega) (by omega) rfl (fun c hc _ => by rw [s5, cpL_out hc]) (fun f hf => ?_) (fun p hp => absurd hp (Nat.not_lt_zero p))
  rw [s5]
  exact cpL_in (by simp only [List.mem_cons, List.not_mem_nil, or_false]; omega)
theorem c_X3_copyFrom (l : Launch) (G : zG) (h : zH) (a b : Nat) (ha : lo3 h a) (hb : lo3 h b) (hd : a + 6 ≤ b ∨ b + 6 ≤ a) : CTv l G YX3_copyFrom 3 [va_rf (some a), va_rf (some b)] h (fun J => (∀ c, (c < a ∨ a + 6 ≤ c) → J c = h.1 c) ∧ RCp h (J, h.2) b a) := by
  have hne : b ≠ a := by omega
  refine kX3_copyFrom a b (sX3_copyFrom_0 a b ha hb (Nat.le_refl _) (fun I1 e1 => ?_))
  have s1 := cpL_s hne (cpL_0 h a b) e1
  refine ⟨_, c_X10_copy l G (I1, h.2) (b + 1) (a + 1) 10 (hb.w 1 rfl) (ha.w 1 rfl) (by decide), fun J2 e2 => ⟨_, c_X10_copy l G (J2, h.2) (b + 2) (a + 2) 10 (hb.w 2 rfl) (ha.w 2 rfl) (by decide), fun J3 e3 => ⟨_, c_X10_copy l G (J3, h.2) (b + 3) (a + 3) 10 (hb.w 3 rfl) (ha.w 3 rfl) (by decide), fun J4 e4 => ⟨_, c_X10_copy l G (J4, h.2) (b + 4) (a + 4) 10 (hb.w 4 rfl) (ha.w 4 rfl) (by decide), fun J5 e5 => ⟨_, c_X10_copy l G (J5, h.2) (b + 5) (a + 5) 10 (hb.w 5 rfl) (ha.w 5 rfl) (by decide), fun J6 e6 => ⟨J6, rfl, rfl, ?_⟩⟩⟩⟩⟩⟩
  have o6 : ∀ c, c ≠ a + 5 → J6 c = J5 c := fun c hc => by rw [e6]; exact zcy_out hc
  have o5 : ∀ c, c ≠ a + 4 → J5 c = J4 c := fun c hc => by rw [e5]; exact zcy_out hc
  have o4 : ∀ c, c ≠ a + 3 → J4 c = J3 c := fun c hc => by rw [e4]; exact zcy_out hc
  have o3 : ∀ c, c ≠ a + 2 → J3 c = J2 c := fun c hc => by rw [e3]; exact zcy_out hc
  have o2 : ∀ c, c ≠ a + 1 → J2 c = I1 c := fun c hc => by rw [e2]; exact zcy_out hc
  have o1 : ∀ c, c ≠ a → I1 c = h.1 c := fun c hc => by rw [s1, cpL_out hc]
  refine ⟨fun c hc => by rw [o6 c (by omega), o5 c (by omega), o4 c (by omega), o3 c (by omega), o2 c (by omega), o1 c (by omega)], ?_, fun k hk => ⟨?_, ?_, ?_, ?_, ?_⟩⟩
  · show J6 a 0 = h.1 b 0
    rw [o6 _ (by omega), o5 _ (by omega), o4 _ (by omega), o3 _ (by omega), o2 _ (by omega), s1]
    exact cpL_in (by decide)
  · show J6 (a + 1) k = h.1 (b + 1) k
    rw [o6 _ (by omega), o5 _ (by omega), o4 _ (by omega), o3 _ (by omega), e2, zcy_in hk]
    show I1 (b + 1) k = _
    rw [o1 _ (by omega)]
  · show J6 (a + 2) k = h.1 (b + 2) k
    rw [o6 _ (by omega), o5 _ (by omega), o4 _ (by omega), e3, zcy_in hk]
    show J2 (b + 2) k = _
    rw [o2 _ (by omega), o1 _ (by omega)]
  · show J6 (a + 3) k = h.1 (b + 3) k
    rw [o6 _ (by omega), o5 _ (by omega), e4, zcy_in hk]
    show J3 (b + 3) k = _
    rw [o3 _ (by omega), o2 _ (by omega), o1 _ (by omega)]
  · show J6 (a + 4) k = h.1 (b + 4) k
    rw [o6 _ (by omega), e5, zcy_in hk]
    show J4 (b + 4) k = _
    rw [o4 _ (by omega), o3 _ (by omega), o2 _ (by omega), o1 _ (by omega)]
  · show J6 (a + 5) k = h.1 (b + 5) k
    rw [e6, zcy_in hk]
    show J5 (b + 5) k = _
    rw [o5 _ (by omega), o4 _ (by omega), o3 _ (by omega), o2 _ (by omega), o1 _ (by omega)]
theorem nts_at {h : zH} {t i : Nat} (ht : lo6 h t) (hi : i < 2) : zR h (t + 2) i = some (t + (4 + 18 * i)) ∧ lo1 h (t + (4 + 18 * i)) ∧ zR h (t + 3) i = some (t + (40 + 6 * i)) ∧ lo3 h (t + (40 + 6 * i)) := by
  match i, hi with
  | 0, _ => exact ⟨ht.r 3 rfl, zlo.sub ht 4 (by decide +kernel) (by decide +kernel) (by decide +kernel), ht.r 39 rfl, zlo.sub ht 40 (by decide +kernel) (by decide +kernel) (by decide +kernel)⟩
  | 1, _ => exact ⟨ht.r 21 rfl, zlo.sub ht 22 (by decide +kernel) (by decide +kernel) (by decide +kernel), ht.r 45 rfl, zlo.sub ht 46 (by decide +kernel) (by decide +kernel) (by decide +kernel)⟩
  | k + 2, q => omega
theorem c_X6_copyFrom (l : Launch) (G : zG) (h : zH) (a b : Nat) (ha : lo6 h a) (hb : lo6 h b) (hd : a + 52 ≤ b ∨ b + 52 ≤ a) : CTv l G YX6_copyFrom 5 [va_rf (some a), va_rf (some b)] h (fun J => (∀ c, (c < a ∨ a + 52 ≤ c) → J c = h.1 c) ∧ TCp h (J, h.2) b a) := by
  have hne : b ≠ a := by omega
  have loop2 : ∀ (f i : Nat) (x : Int32) (I : Nat → Nat → Int32), i ≤ 2 → 2 - i < f → x.toInt = (i : Int) → (∀ c, (c < a ∨ a + 52 ≤ c) → I c = h.1 c) → (∀ k, k < 600 → I (a + 1) k = h.1 (b + 1) k) → (I a 1 = h.1 b 1 ∧ I a 2 = h.1 b 2 ∧ I a 3 = h.1 b 3 ∧ I a 5 = h.1 b 5 ∧ I a 7 = h.1 b 7) → (∀ j, j < 2 → NCp h (I, h.2) (b + 4 + 18 * j) (a + 4 + 18 * j)) → (∀ j, j < i → RCp h (I, h.2) (b + 40 + 6 * j) (a + 40 + 6 * j)) →
      Z l G mX6_copyFrom 5 (fun w h1 => ∃ J, w = none ∧ h1 = (J, h.2) ∧ (∀ c, (c < a ∨ a + 52 ≤ c) → J c = h.1 c) ∧ TCp h (J, h.2) b a) 0 0 94 [va_rf (some a), va_rf (some b), .int x] [] (I, h.2) := by
    intro f
    induction f with
    | zero => intro i x I h1 h2; omega
    | succ f ih =>
      intro i x I h1 h2 hx s1 s2 s3 s4 s5
      have fin : 2 ≤ i → (fun (w : Option Value) h1 => ∃ J, w = none ∧ h1 = (J, h.2) ∧ (∀ c, (c < a ∨ a + 52 ≤ c) → J c = h.1 c) ∧ TCp h (J, h.2) b a) none (I, h.2) := fun hi => ⟨I, rfl, rfl, s1, s2, s3, s4, fun j hj => s5 j (by omega)⟩
      refine sX6_copyFrom_94 a b x ha hb (Nat.le_refl _) ⟨fun c1 => fin (by omega), fun c2 => ⟨fun c3 => fin (by omega), fun c3 => ⟨by omega, by omega, by omega, by omega, a + (40 + 6 * i), ?_, (nts_at ha (by omega)).2.2.2, ?_⟩⟩⟩
      · rw [zix_of hx]; exact (nts_at ha (by omega)).2.2.1
      · have er : zR (I, h.2) (b + 3) (zix x) = some (b + (40 + 6 * i)) := by rw [zix_of hx]; exact (nts_at hb (by omega)).2.2.1
        rw [er]
        refine ⟨_, c_X3_copyFrom l G (I, h.2) (a + (40 + 6 * i)) (b + (40 + 6 * i)) (nts_at ha (by omega)).2.2.2 (nts_at hb (by omega)).2.2.2 (by omega), fun J ⟨j1, j2, j3⟩ => ?_⟩
        have jI : ∀ c, (c < a + (40 + 6 * i) ∨ a + (40 + 6 * i) + 6 ≤ c) → ∀ k, zI (J, h.2) c k = zI (I, h.2) c k := fun c hc k => congrFun (j1 c hc) k
        refine ih (i + 1) (x + 1) J (by omega) (by omega) (i_1 hx (by omega)) (fun c hc => by rw [j1 c (by omega)]; exact s1 c hc) (fun k hk => by rw [j1 _ (by omega)]; exact s2 k hk) (by rw [j1 a (by omega)]; exact s3) (fun j hj => ?_) (fun j hj => ?_)
        · obtain ⟨n1, n2, n3, n4⟩ := s4 j hj
          exact ⟨fun f hf => by rw [jI _ (by omega)]; exact n1 f hf, fun k hk => by rw [jI _ (by omega), jI _ (by omega), jI _ (by omega)]; exact n2 k hk, fun m hm => by rw [jI _ (by omega)]; exact n3 m hm, fun p hp => ⟨fun f hf => by rw [jI _ (by omega)]; exact (n4 p hp).1 f hf, fun k hk => by rw [jI _ (by omega)]; exact (n4 p hp).2 k hk⟩⟩
        · by_cases e : j = i
          · subst e
            have hb1 : ∀ c, b + 40 + 6 * j ≤ c → c < b + 40 + 6 * j + 6 → ∀ k, zI (I, h.2) c k = zI h c k := fun c h1 h2 k => congrFun (s1 c (by omega)) k
            rw [show b + 40 + 6 * j = b + (40 + 6 * j) by omega, show a + 40 + 6 * j = a + (40 + 6 * j) by omega]
            refine ⟨by rw [j2]; exact hb1 _ (by omega) (by omega) 0, fun k hk => ?_⟩
            obtain ⟨d1, d2, d3, d4, d5⟩ := j3 k hk
            rw [d1, d2, d3, d4, d5]
            exact ⟨hb1 _ (by omega) (by omega) k, hb1 _ (by omega) (by omega) k, hb1 _ (by omega) (by omega) k, hb1 _ (by omega) (by omega) k, hb1 _ (by omega) (by omega) k⟩
          · obtain ⟨r1, r2⟩ := s5 j (by omega)
            exact ⟨by rw [jI _ (by omega)]; exact r1, fun k hk => by rw [jI _ (by omega), jI _ (by omega), jI _ (by omega), jI _ (by omega), jI _ (by omega)]; exact r2 k hk⟩
  have loop1 : ∀ (f i : Nat) (x : Int32) (I : Nat → Nat → Int32), i ≤ 2 → 2 - i < f → x.toInt = (i : Int) → (∀ c, (c < a ∨ a + 52 ≤ c) → I c = h.1 c) → (∀ k, k < 600 → I (a + 1) k = h.1 (b + 1) k) → (I a 1 = h.1 b 1 ∧ I a 2 = h.1 b 2 ∧ I a 3 = h.1 b 3 ∧ I a 5 = h.1 b 5 ∧ I a 7 = h.1 b 7) → (∀ j, j < i → NCp h (I, h.2) (b + 4 + 18 * j) (a + 4 + 18 * j)) →
      Z l G mX6_copyFrom 5 (fun w h1 => ∃ J, w = none ∧ h1 = (J, h.2) ∧ (∀ c, (c < a ∨ a + 52 ≤ c) → J c = h.1 c) ∧ TCp h (J, h.2) b a) 0 0 53 [va_rf (some a), va_rf (some b), .int x] [] (I, h.2) := by
    intro f
    induction f with
    | zero => intro i x I h1 h2; omega
    | succ f ih =>
      intro i x I h1 h2 hx s1 s2 s3 s4
      have fin : 2 ≤ i → Z l G mX6_copyFrom 5 (fun w h1 => ∃ J, w = none ∧ h1 = (J, h.2) ∧ (∀ c, (c < a ∨ a + 52 ≤ c) → J c = h.1 c) ∧ TCp h (J, h.2) b a) 0 0 94 [va_rf (some a), va_rf (some b), .int 0] [] (I, h.2) := fun hi => loop2 3 0 0 I (by omega) (by omega) rfl s1 s2 s3 (fun j hj => s4 j (by omega)) (fun j hj => absurd hj (Nat.not_lt_zero j))
      refine sX6_copyFrom_53 a b x ha hb (Nat.le_refl _) ⟨fun c1 => fin (by omega), fun c2 => ⟨fun c3 => fin (by omega), fun c3 => ⟨by omega, by omega, by omega, by omega, a + (4 + 18 * i), ?_, (nts_at ha (by omega)).2.1, ?_⟩⟩⟩
      · rw [zix_of hx]; exact (nts_at ha (by omega)).1
      · have er : zR (I, h.2) (b + 2) (zix x) = some (b + (4 + 18 * i)) := by rw [zix_of hx]; exact (nts_at hb (by omega)).1
        rw [er]
        refine ⟨_, c_X1_copyFrom l G (I, h.2) (a + (4 + 18 * i)) (b + (4 + 18 * i)) (nts_at ha (by omega)).2.1 (nts_at hb (by omega)).2.1 (by omega), fun J ⟨j1, j2, j3, j4, j5⟩ => ?_⟩
        have jI : ∀ c, (c < a + (4 + 18 * i) ∨ a + (4 + 18 * i) + 18 ≤ c) → ∀ k, zI (J, h.2) c k = zI (I, h.2) c k := fun c hc k => congrFun (j1 c hc) k
        refine ih (i + 1) (x + 1) J (by omega) (by omega) (i_1 hx (by omega)) (fun c hc => by rw [j1 c (by omega)]; exact s1 c hc) (fun k hk => by rw [j1 _ (by omega)]; exact s2 k hk) (by rw [j1 a (by omega)]; exact s3) (fun j hj => ?_)
        by_cases e : j = i
        · subst e
          have hb1 : ∀ c, b + 4 + 18 * j ≤ c → c < b + 4 + 18 * j + 18 → ∀ k, zI (I, h.2) c k = zI h c k := fun c h1 h2 k => congrFun (s1 c (by omega)) k
          rw [show b + 4 + 18 * j = b + (4 + 18 * j) by omega, show a + 4 + 18 * j = a + (4 + 18 * j) by omega]
          refine ⟨fun f hf => by rw [j2 f hf]; exact hb1 _ (by omega) (by omega) f, fun k hk => ?_, fun m hm => by rw [j4 m hm]; exact hb1 _ (by omega) (by omega) m, fun p hp => ⟨fun f hf => by rw [(j5 p hp).1 f hf]; exact hb1 _ (by omega) (by omega) f, fun k hk => by rw [(j5 p hp).2 k hk]; exact hb1 _ (by omega) (by omega) k⟩⟩
          obtain ⟨d1, d2, d3⟩ := j3 k hk
          rw [d1, d2, d3]
          exact ⟨hb1 _ (by omega) (by omega) k, hb1 _ (by omega) (by omega) k, hb1 _ (by omega) (by omega) k⟩
        · obtain ⟨n1, n2, n3, n4⟩ := s4 j (by omega)
          exact ⟨fun f hf => by rw [jI _ (by omega)]; exact n1 f hf, fun k hk => by rw [jI _ (by omega), jI _ (by omega), jI _ (by omega)]; exact n2 k hk, fun m hm => by rw [jI _ (by omega)]; exact n3 m hm, fun p hp => ⟨fun f hf => by rw [jI _ (by omega)]; exact (n4 p hp).1 f hf, fun k hk => by rw [jI _ (by omega)]; exact (n4 p hp).2 k hk⟩⟩
  refine kX6_copyFrom a b (sX6_copyFrom_0 a b ha hb (Nat.le_refl _) ⟨_, c_X10_copy l G h (b + 1) (a + 1) 600 (hb.w 1 rfl) (ha.w 1 rfl) (by decide), fun I0 e0 I1 e1 I2 e2 I3 e3 I5 e5 I7 e7 => ?_⟩)
  have s7 := cpL_s (h := (I0, h.2)) hne (cpL_s (h := (I0, h.2)) hne (cpL_s (h := (I0, h.2)) hne (cpL_s (h := (I0, h.2)) hne (cpL_s (h := (I0, h.2)) hne (cpL_0 (I0, h.2) a b) e1) e2) e3) e5) e7
  have ob : I0 b = h.1 b := by rw [e0]; exact zcy_out (by omega)
  refine loop1 3 0 0 I7 (by omega) (by omega) rfl (fun c hc => ?_) (fun k hk => ?_) ?_ (fun j hj => absurd hj (Nat.not_lt_zero j))
  · rw [s7, cpL_out (by omega)]
    show I0 c = _
    rw [e0, zcy_out (by omega)]
  · rw [s7, cpL_out (by omega)]
    show I0 (a + 1) k = _
    rw [e0, zcy_in hk]
  · rw [s7, cpL_in (by decide), cpL_in (by decide), cpL_in (by decide), cpL_in (by decide), cpL_in (by decide)]
    show I0 b 1 = _ ∧ I0 b 2 = _ ∧ I0 b 3 = _ ∧ I0 b 5 = _ ∧ I0 b 7 = _
    rw [ob]
    exact ⟨rfl, rfl, rfl, rfl, rfl⟩
