set_option maxRecDepth 4000
/-! ===== where clay would tell most: the class ===== -/
def updN (t : Nat → Nat) (d c : Nat) : Nat → Nat := fun i => if i = d then c else t i
abbrev TS := Int × (Nat → Nat)
def scL (body : Nat → TS → TS) : Nat → Nat → TS → TS
  | _, 0, S => S
  | c, n + 1, S => scL body (c + 1) n (body c S)
def lfS (b : Int32) (t : Nat → Nat) (S : TS) : TS := if S.1 < (bitS b).toInt then ((bitS b).toInt, t) else S
def sc (u : Nat → Int32) (N : Nat) : Nat → Nat → Int32 → (Nat → Nat) → Nat → TS → TS
  | 0, _, b, t, _, S => lfS b t S
  | r + 1, f, b, t, d, S => scL (fun c S => sc u N r (c + 1) (b ||| u c) (updN t d c) (d + 1) S) f (N - f) S
theorem bitS_le : ∀ u, u < 64 → ∀ v, v < 64 → (Int32.ofNat u ||| Int32.ofNat v) = Int32.ofNat v → (bitS (Int32.ofNat u)).toInt ≤ (bitS (Int32.ofNat v)).toInt := by decide +kernel
def r63 (x : Int32) : Prop := 0 ≤ x.toInt ∧ x.toInt < 64
theorem r63_or {x y : Int32} (a : r63 x) (b : r63 y) : r63 (x ||| y) := by
  obtain ⟨u, hu⟩ : ∃ u : Nat, x.toInt = (u : Int) := ⟨x.toInt.toNat, by have := a.1; omega⟩
  obtain ⟨v, hv⟩ : ∃ v : Nat, y.toInt = (v : Int) := ⟨y.toInt.toNat, by have := b.1; omega⟩
  have := or_63 u (by have := a.2; omega) v (by have := b.2; omega)
  rw [← n_ofn hu, ← n_ofn hv] at this
  exact this
theorem bitS_r {x : Int32} (a : r63 x) : 0 ≤ (bitS x).toInt ∧ (bitS x).toInt ≤ 6 := by
  obtain ⟨u, hu⟩ : ∃ u : Nat, x.toInt = (u : Int) := ⟨x.toInt.toNat, by have := a.1; omega⟩
  have := bitS_63 u (by have := a.2; omega)
  rw [← n_ofn hu] at this
  exact ⟨this.1, this.2.1⟩
theorem bitS_mono {x y : Int32} (a : r63 x) (b : r63 y) (e : x ||| y = y) : (bitS x).toInt ≤ (bitS y).toInt := by
  obtain ⟨u, hu⟩ : ∃ u : Nat, x.toInt = (u : Int) := ⟨x.toInt.toNat, by have := a.1; omega⟩
  obtain ⟨v, hv⟩ : ∃ v : Nat, y.toInt = (v : Int) := ⟨y.toInt.toNat, by have := b.1; omega⟩
  have := bitS_le u (by have := a.2; omega) v (by have := b.2; omega)
  rw [← n_ofn hu, ← n_ofn hv] at this
  exact this e
theorem scL_id {body : Nat → TS → TS} {S : TS} : ∀ n f, (∀ c, f ≤ c → c < f + n → body c S = S) → scL body f n S = S
  | 0, _, _ => rfl
  | n + 1, f, h => by
    show scL body (f + 1) n (body f S) = S
    rw [h f (Nat.le_refl _) (by omega)]
    exact scL_id n (f + 1) (fun c h1 h2 => h c (by omega) (by omega))
theorem sc_id {u : Nat → Int32} {N : Nat} {al : Int32} (hu : ∀ c, c < N → r63 (u c) ∧ u c ||| al = al) (ha : r63 al) : ∀ r f b t d S, r63 b → b ||| al = al → (bitS al).toInt ≤ S.1 → sc u N r f b t d S = S
  | 0, f, b, t, d, S, hb, e, hS => by
    show (if _ then _ else _) = _
    have := bitS_mono hb ha e
    rw [if_neg (by omega)]
  | r + 1, f, b, t, d, S, hb, e, hS => by
    refine scL_id (N - f) f (fun c h1 h2 => ?_)
    have hc : c < N := by omega
    exact sc_id hu ha r (c + 1) _ _ _ S (r63_or hb (hu c hc).1) (by rw [Int32.or_assoc, (hu c hc).2]; exact e) hS
theorem scL_inv {body : Nat → TS → TS} {P : TS → Prop} {N : Nat} : ∀ n f S, f + n ≤ N → (∀ c S, c < N → P S → P (body c S)) → P S → P (scL body f n S)
  | 0, _, _, _, _, h => h
  | n + 1, f, S, hn, hb, h => scL_inv n (f + 1) (body f S) (by omega) hb (hb f S (by omega) h)
theorem lfS_inv {P : TS → Prop} {b : Int32} {t : Nat → Nat} {S : TS} (h : P S) (h2 : S.1 < (bitS b).toInt → P ((bitS b).toInt, t)) : P (lfS b t S) := by
  unfold lfS
  split
  · rename_i c; exact h2 c
  · exact h
theorem sc_ge {u : Nat → Int32} {N : Nat} {v : Int} : ∀ r f b t d S, v ≤ S.1 → v ≤ (sc u N r f b t d S).1
  | 0, f, b, t, d, S, h => lfS_inv (P := fun S => v ≤ S.1) h (fun z => by show v ≤ (bitS b).toInt; omega)
  | r + 1, f, b, t, d, S, h => by
    by_cases c : f ≤ N
    · exact scL_inv (P := fun S => v ≤ S.1) (N := N) (N - f) f S (by omega) (fun c S _ q => sc_ge r _ _ _ _ S q) h
    · show v ≤ (scL _ f (N - f) S).1
      rw [show N - f = 0 by omega]; exact h
theorem sc_64 {u : Nat → Int32} {N : Nat} (hN : N ≤ 64) : ∀ r f b t d S, (∀ i, t i < 64) → (∀ i, S.2 i < 64) → ∀ i, (sc u N r f b t d S).2 i < 64
  | 0, f, b, t, d, S, ht, h => lfS_inv (P := fun S => ∀ i, S.2 i < 64) h (fun z => ht)
  | r + 1, f, b, t, d, S, ht, h => by
    by_cases c : f ≤ N
    · refine scL_inv (P := fun S => ∀ i, S.2 i < 64) (N := N) (N - f) f S (by omega) (fun c S hc q => sc_64 hN r _ _ _ _ S (fun i => ?_) q) h
      unfold updN
      split
      · omega
      · exact ht i
    · show ∀ i, (scL _ f (N - f) S).2 i < 64
      rw [show N - f = 0 by omega]; exact h
theorem sc_pos {u : Nat → Int32} {N : Nat} (hu : ∀ c, c < N → r63 (u c)) : ∀ r f b t d S, r63 b → f + r ≤ N → 0 ≤ (sc u N r f b t d S).1
  | 0, f, b, t, d, S, hb, h => by
    have := bitS_r hb
    show 0 ≤ (lfS b t S).1
    unfold lfS
    split
    · exact this.1
    · omega
  | r + 1, f, b, t, d, S, hb, h => by
    obtain ⟨n, hn⟩ : ∃ n, N - f = n + 1 := ⟨N - f - 1, by omega⟩
    show 0 ≤ (scL _ f (N - f) S).1
    rw [hn]
    refine scL_inv (P := fun S => 0 ≤ S.1) (N := N) n (f + 1) _ (by omega) (fun c S _ q => sc_ge r _ _ _ _ S q) ?_
    exact sc_pos hu r (f + 1) _ _ _ S (r63_or hb (hu f (by omega))) (by omega)
/-- what the class's traps hold of a state: who was caught, and where -/
def TSt (h : zH) (k : Nat) (S : TS) : Prop := (zI h 132 6).toInt = S.1 ∧ (0 ≤ S.1 → ∀ i, i < k → (zI h 135 i).toInt = (S.2 i : Int))
def TOk (h : zH) (u : Nat → Int32) (N k : Nat) (al : Int32) : Prop := (zI h 132 1).toInt = (N : Int) ∧ (zI h 132 2).toInt = (k : Int) ∧ zI h 132 3 = al ∧ ∀ c, c < N → zI h 133 c = u c
def TOn (h : zH) (I : Nat → Nat → Int32) (d : Nat) : Prop := (∀ b, b ≠ 132 → b ≠ 134 → b ≠ 135 → I b = h.1 b) ∧ (∀ j, j ≠ 6 → I 132 j = h.1 132 j) ∧ ∀ i, i < d → I 134 i = h.1 134 i
theorem TOn.ok {h : zH} {I : Nat → Nat → Int32} {d : Nat} {u : Nat → Int32} {N k : Nat} {al : Int32} (o : TOn h I d) (t : TOk h u N k al) : TOk (I, h.2) u N k al :=
  ⟨by show (I 132 1).toInt = _; rw [o.2.1 1 (by decide)]; exact t.1, by show (I 132 2).toInt = _; rw [o.2.1 2 (by decide)]; exact t.2.1, by show I 132 3 = _; rw [o.2.1 3 (by decide)]; exact t.2.2.1, fun c hc => by show I 133 c = _; rw [o.1 133 (by decide) (by decide) (by decide)]; exact t.2.2.2 c hc⟩
theorem TOn.tr {h : zH} {I J : Nat → Nat → Int32} {d e : Nat} (o : TOn h I d) (p : TOn (I, h.2) J e) (hd : d ≤ e) : TOn h J d :=
  ⟨fun b h1 h2 h3 => (p.1 b h1 h2 h3).trans (o.1 b h1 h2 h3), fun j hj => (p.2.1 j hj).trans (o.2.1 j hj), fun i hi => (p.2.2 i (by omega)).trans (o.2.2 i hi)⟩
theorem TOn.rf (h : zH) (d : Nat) : TOn h h.1 d := ⟨fun _ _ _ _ => rfl, fun _ _ => rfl, fun _ _ => rfl⟩
theorem c_choose (l : Launch) (G : zG) (u : Nat → Int32) (N k : Nat) (al : Int32) (hN : N ≤ 64) (hk : k ≤ 3) (hu : ∀ c, c < N → r63 (u c) ∧ u c ||| al = al) (ha : r63 al) : ∀ (r : Nat) (h : zH) (d f : Nat) (x1 x2 x3 : Int32) (t : Nat → Nat) (S : TS), lo8 h 132 → TOk h u N k al → TSt h k S → d + r = k → x1.toInt = (d : Int) → x2.toInt = (f : Int) → f ≤ N → r63 x3 → x3 ||| al = al → (∀ i, i < d → (zI h 134 i).toInt = (t i : Int)) →
    CTv l G YX8_choose (r + 3) [va_rf (some 132), .int x1, .int x2, .int x3] h (fun I => TOn h I d ∧ TSt (I, h.2) k (sc u N r f x3 t d S)) := by
  intro r
  induction r with
  | zero =>
    intro h d f x1 x2 x3 t S hl ok st hd h1 h2 hf hb eb ht
    refine kX8_choose 132 x1 x2 x3 (sX8_choose_0 132 x1 x2 x3 hl (Nat.le_refl _) ⟨fun c1 => ⟨_, c_bitCount l G h x3 ⟨hb.1, by have := hb.2; omega⟩, fun y10 I8 ⟨z1, z2⟩ => ?_⟩, fun c8 => absurd c8 (by rw [ok.2.1]; omega)⟩)
    subst z1
    have eI : I8 = h.1 := z2
    subst eI
    refine ⟨fun c3 => ⟨h.1, rfl, rfl, TOn.rf h d, ?_⟩, fun c4 => ⟨_, c_bitCount l G h x3 ⟨hb.1, by have := hb.2; omega⟩, fun y23 I21 ⟨z3, z4⟩ I27 c6 => ⟨_, c_X10_copy l G (I27, h.2) 134 135 3 (hl.w 2 rfl) (hl.w 3 rfl) (by decide), fun I33 c7 => ⟨I33, rfl, rfl, ?_, ?_⟩⟩⟩⟩
    · show TSt h k (lfS x3 t S)
      have c3' : (bitS x3).toInt ≤ (zI h 132 6).toInt := c3
      unfold lfS
      rw [if_neg (by have := st.1; omega)]
      exact st
    · have eI : I21 = h.1 := z4
      subst eI
      obtain ⟨a1, a2, a3⟩ := zwI_eff c6
      rw [c7]
      refine ⟨fun b q1 q2 q3 => ?_, fun j hj => ?_, fun i hi => ?_⟩
      · funext j
        show (if b = 135 ∧ j < 3 then I27 134 j else I27 b j) = _
        rw [if_neg (fun z => q3 z.1), a1 b q1]
      · show (if 132 = 135 ∧ j < 3 then I27 134 j else I27 132 j) = _
        rw [if_neg (fun z => absurd z.1 (by decide)), a2 j hj]
      · show (if 134 = 135 ∧ i < 3 then I27 134 i else I27 134 i) = _
        rw [if_neg (fun z => absurd z.1 (by decide)), a1 134 (by decide)]
    · have eI : I21 = h.1 := z4
      subst eI
      obtain ⟨a1, a2, a3⟩ := zwI_eff c6
      have c4' : (zI h 132 6).toInt < (bitS x3).toInt := c4
      show TSt (I33, h.2) k (lfS x3 t S)
      unfold lfS
      rw [if_pos (by have := st.1; omega), c7]
      refine ⟨?_, fun _ i hi => ?_⟩
      · show (if 132 = 135 ∧ 6 < 3 then I27 134 6 else I27 132 6).toInt = _
        rw [if_neg (fun z => absurd z.1 (by decide)), a3, z3]
      · show (if 135 = 135 ∧ i < 3 then I27 134 i else I27 135 i).toInt = (t i : Int)
        rw [if_pos ⟨rfl, by omega⟩, a1 134 (by decide)]
        exact ht i (by omega)
  | succ r ih =>
    intro h d f x1 x2 x3 t S hl ok st hd h1 h2 hf hb eb ht
    have loop : ∀ (fu c : Nat) (x4 : Int32) (S' : TS) (I : Nat → Nat → Int32), c ≤ N → N - c < fu → x4.toInt = (c : Int) → TOn h I d → TSt (I, h.2) k S' → scL (fun c S => sc u N r (c + 1) (x3 ||| u c) (updN t d c) (d + 1) S) c (N - c) S' = sc u N (r + 1) f x3 t d S →
        Z l G mX8_choose (r + 1 + 3) (fun w h1 => ∃ J, w = none ∧ h1 = (J, h.2) ∧ (TOn h J d ∧ TSt (J, h.2) k (sc u N (r + 1) f x3 t d S))) 0 0 47 [va_rf (some 132), .int x1, .int x2, .int x3, .int x4] [] (I, h.2) := by
      intro fu
      induction fu with
      | zero => intro c x4 S' I q1 q2; omega
      | succ fu ih2 =>
        intro c x4 S' I q1 q2 hx on st' e
        have ok' := on.ok ok
        refine sX8_choose_47 132 x1 x2 x3 x4 hl (by omega) ⟨fun c1 => ⟨I, rfl, rfl, on, ?_⟩, fun c2 => ⟨_, c_bitCount l G (I, h.2) (zI (I, h.2) 132 3) ?_, fun y10 I8 ⟨z1, z2⟩ => ?_⟩⟩
        · have : N - c = 0 := by have := ok'.1; omega
          rw [this] at e
          rw [← e]; exact st'
        · rw [ok'.2.2.1]; exact ⟨ha.1, by have := ha.2; omega⟩
        · have hc : c < N := by have := ok'.1; omega
          have eI : I8 = I := z2
          subst eI
          rw [ok'.2.2.1] at z1
          refine ⟨fun c4 => ⟨I8, rfl, rfl, on, ?_⟩, fun c5 I21 c6 => ⟨_, r + 3, by omega, ih (I21, h.2) (d + 1) (c + 1) (x1 + 1) (x4 + 1) _ (updN t d c) S' hl ?_ ?_ (by omega) (i_1 h1 (by omega)) (i_1 hx (by omega)) (by omega) ?_ ?_ ?_, fun I30 ⟨w1, w2⟩ => ?_⟩⟩
          · rw [scL_id (N - c) c (fun c' g1 g2 => sc_id hu ha r _ _ _ _ S' (r63_or hb (hu c' (by omega)).1) (by rw [Int32.or_assoc, (hu c' (by omega)).2]; exact eb) (by have := st'.1; rw [z1] at c4; have c4' : (bitS al).toInt ≤ (zI (I8, h.2) 132 6).toInt := c4; omega))] at e
            rw [← e]; exact st'
          · obtain ⟨a1, a2, a3⟩ := zput_eff (h := (I8, h.2)) (hl.w 2 rfl) h1 (by omega) c6
            exact ⟨by show (I21 132 1).toInt = _; rw [a1 132 (by decide)]; exact ok'.1, by show (I21 132 2).toInt = _; rw [a1 132 (by decide)]; exact ok'.2.1, by show I21 132 3 = _; rw [a1 132 (by decide)]; exact ok'.2.2.1, fun c' hc' => by show I21 133 c' = _; rw [a1 133 (by decide)]; exact ok'.2.2.2 c' hc'⟩
          · obtain ⟨a1, a2, a3⟩ := zput_eff (h := (I8, h.2)) (hl.w 2 rfl) h1 (by omega) c6
            exact ⟨by show (I21 132 6).toInt = _; rw [a1 132 (by decide)]; exact st'.1, fun hp i hi => by show (I21 135 i).toInt = _; rw [a1 135 (by decide)]; exact st'.2 hp i hi⟩
          · obtain ⟨a1, a2, a3⟩ := zput_eff (h := (I8, h.2)) (hl.w 2 rfl) h1 (by omega) c6
            rw [zget_w (h := (I21, h.2)) (hl.w 1 rfl) hx (by omega), show zI (I21, h.2) 133 c = u c from by show I21 133 c = _; rw [a1 133 (by decide)]; exact ok'.2.2.2 c hc]
            exact r63_or hb (hu c hc).1
          · obtain ⟨a1, a2, a3⟩ := zput_eff (h := (I8, h.2)) (hl.w 2 rfl) h1 (by omega) c6
            rw [zget_w (h := (I21, h.2)) (hl.w 1 rfl) hx (by omega), show zI (I21, h.2) 133 c = u c from by show I21 133 c = _; rw [a1 133 (by decide)]; exact ok'.2.2.2 c hc, Int32.or_assoc, (hu c hc).2]
            exact eb
          · obtain ⟨a1, a2, a3⟩ := zput_eff (h := (I8, h.2)) (hl.w 2 rfl) h1 (by omega) c6
            intro i hi
            show (I21 134 i).toInt = _
            unfold updN
            by_cases ei : i = d
            · subst ei
              rw [if_pos rfl, a3]; exact hx
            · rw [if_neg ei, show I21 134 i = h.1 134 i from (a2 i ei).trans (on.2.2 i (by omega))]
              exact ht i (by omega)
          · obtain ⟨a1, a2, a3⟩ := zput_eff (h := (I8, h.2)) (hl.w 2 rfl) h1 (by omega) c6
            have on1 : TOn h I21 d := ⟨fun b q1 q2 q3 => (a1 b q2).trans (on.1 b q1 q2 q3), fun j hj => by rw [a1 132 (by decide)]; exact on.2.1 j hj, fun i hi => (a2 i (by omega)).trans (on.2.2 i hi)⟩
            have eu : x3 ||| zget (I21, h.2) (some (132 + 1)) x4 = x3 ||| u c := by
              rw [zget_w (h := (I21, h.2)) (hl.w 1 rfl) hx (by omega), show zI (I21, h.2) 133 c = u c from by show I21 133 c = _; rw [a1 133 (by decide)]; exact ok'.2.2.2 c hc]
            rw [eu] at w2
            refine ih2 (c + 1) (x4 + 1) _ I30 (by omega) (by omega) (i_1 hx (by omega)) (on1.tr w1 (by omega)) w2 ?_
            obtain ⟨m, hm⟩ : ∃ m, N - c = m + 1 := ⟨N - c - 1, by omega⟩
            rw [hm] at e
            rw [show N - (c + 1) = m by omega]
            exact e
    refine kX8_choose 132 x1 x2 x3 (sX8_choose_0 132 x1 x2 x3 hl (by omega) ⟨fun c1 => absurd c1 (by rw [ok.2.1]; omega), fun c8 => ⟨fun c9 => ?_, fun c10 => absurd c10 (by omega)⟩⟩)
    exact loop (N - f + 1) f x2 S h.1 hf (by omega) h2 (TOn.rf h d) st rfl
