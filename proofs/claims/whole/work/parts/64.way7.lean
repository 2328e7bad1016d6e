set_option maxRecDepth 4000
/-! ===== the class's way: the fewest prints ===== -/
section K64
variable {V T : Nat → Int} {S d : Int}
theorem DW_small {nx : Nat → Nat → Int} {pn : Nat → Nat → Nat → Int} {to N : Nat} (ok : WPok nx pn N) : ∀ m i c, DW nx pn to i c m < 1000000 → DW nx pn to i c m ≤ (m : Int) + (if i = 0 then 1 else 0)
  | 0, i, c, h => by
    unfold DW at h ⊢
    by_cases e : i = 0
    · rw [if_pos e, if_pos rfl] at h; omega
    · rw [if_neg e] at h ⊢
      rw [if_neg e]
      have e2 : Ah nx pn to 0 (i % 2) c = if c = to then 0 else 1000000 := rfl
      rw [e2] at h ⊢
      split at h
      · rename_i q; rw [if_pos q]; omega
      · omega
  | m + 1, i, c, h => by
    obtain ⟨s, h1, h2, h3⟩ := DW_att ok m i c h
    have p := PrW_rng (nx := nx) ok i c s
    have ih := DW_small (to := to) ok m (i + 1) (nx c s).toNat (by omega)
    rw [if_neg (by omega)] at ih
    split at p <;> rename_i q
    · rw [if_pos q]; omega
    · rw [if_neg q]; omega
theorem bw_D {nx : Nat → Nat → Int} {pn : Nat → Nat → Nat → Int} {to fr N : Nat} (ok : WPok nx pn N) (h : (bw nx pn to fr 40).1 < 1000000) : DW nx pn to 0 fr (bw nx pn to fr 40).2 = (bw nx pn to fr 40).1 ∧ (bw nx pn to fr 40).1 < 100 ∧ 0 ≤ (bw nx pn to fr 40).1 ∧ 1 ≤ (bw nx pn to fr 40).2 ∧ (bw nx pn to fr 40).2 ≤ 40 := by
  obtain ⟨a, a0, b, c, d⟩ := bw_spec (to := to) (fr := fr) ok 40
  obtain ⟨d1, s, d2, d3⟩ := d h
  have g := (GdW_0 (fr := fr) (to := to) ok).2 (bw nx pn to fr 40).2 (by omega)
  have e : DW nx pn to 0 fr (bw nx pn to fr 40).2 ≤ (bw nx pn to fr 40).1 := by
    obtain ⟨k, hk⟩ : ∃ k, (bw nx pn to fr 40).2 = k + 1 := ⟨(bw nx pn to fr 40).2 - 1, by omega⟩
    rw [hk]
    rw [hk] at d3
    rw [d3]
    exact (mnS_le (g := fsW nx pn to fr k) 4).2 s d2
  have e2 : DW nx pn to 0 fr (bw nx pn to fr 40).2 = (bw nx pn to fr 40).1 := by omega
  have sm := DW_small (to := to) ok (bw nx pn to fr 40).2 0 fr (by omega)
  rw [if_pos rfl] at sm
  omega
theorem DW_0 {nx : Nat → Nat → Int} {pn : Nat → Nat → Nat → Int} {to i c : Nat} (hi : 0 < i) : DW nx pn to i c 0 = if c = to then 0 else 1000000 := by
  unfold DW
  rw [if_neg (by omega)]; rfl
theorem LyC.cg {h h' : zH} {a i to : Nat} {B : Int × Nat} (ly : LyC h a i to B V T S d) (e : ∀ c, c < nV V → Kc h' a i c = Kc h a i c) : LyC h' a i to B V T S d := fun c hc => by rw [e c hc]; exact ly c hc
def XC (h : zH) (a i to : Nat) (B : Int × Nat) (V T : Nat → Int) (S d : Int) : Prop := ∀ c, c < nV V → OpC h a i c to B V T S d → ∀ s, s < 4 → nxV V d c s ≠ -1 → Kc h a (i + 1) (nxV V d c s).toNat ≤ Kc h a i c + PrW (nxV V d) (pnT T S) i c s
theorem OpC.cg {h h' : zH} {a i c to : Nat} {B : Int × Nat} (o : OpC h a i c to B V T S d) (e : Kc h' a i c = Kc h a i c) : OpC h' a i c to B V T S d := by
  unfold OpC at o ⊢; rw [e]; exact o
/-- from a best square to the next -/
theorem op_next {h : zH} {a i c s to : Nat} {B : Int × Nat} (w : WFN V) (hB : B.2 ≤ 40) (hi : i < B.2) (ly0 : LyC h a i to B V T S d) (ly : LyC h a (i + 1) to B V T S d) (xc : XC h a i to B V T S d) (hc : c < nV V) (o : OpC h a i c to B V T S d) (hs : s < 4) (hn : nxV V d c s ≠ -1) (he : PrW (nxV V d) (pnT T S) i c s + DW (nxV V d) (pnT T S) to (i + 1) (nxV V d c s).toNat (B.2 - (i + 1)) = DW (nxV V d) (pnT T S) to i c (B.2 - i)) :
    OpC h a (i + 1) (nxV V d c s).toNat to B V T S d ∧ Kc h a (i + 1) (nxV V d c s).toNat = Kc h a i c + PrW (nxV V d) (pnT T S) i c s := by
  have ok := w_ok (T := T) (S := S) (d := d) w
  have le := xc c hc o s hs hn
  have pr := PrW_rng ok i c s
  have pr2 : PrW (nxV V d) (pnT T S) i c s ≤ 2 := by have := pr.2; split at this <;> omega
  have g0 := GdW_100 ((ly0 c hc).resolve_left (by have := o.1; omega)) (by omega)
  have nn := ((ok.1 c s hc hs).resolve_left hn).2
  have g := (ly _ nn).resolve_left (by omega)
  obtain ⟨e1, e2⟩ := OpW_next ok hi hB o.2 hs hn he g le
  exact ⟨⟨by omega, e2⟩, e1⟩
theorem op_chain {h : zH} {a to fr : Nat} {B : Int × Nat} (w : WFN V) (hB : B.2 ≤ 40) (hfr : fr < nV V) (hW : B.1 < 1000000) (o0 : OpC h a 0 fr to B V T S d) : ∀ i, i ≤ B.2 → (∀ j, j ≤ i → LyC h a j to B V T S d) → (∀ j, j < i → XC h a j to B V T S d) → cwW (nxV V d) (pnT T S) to B.2 fr i < nV V ∧ OpC h a i (cwW (nxV V d) (pnT T S) to B.2 fr i) to B V T S d
  | 0, _, _, _ => ⟨hfr, o0⟩
  | i + 1, hi, ly, xc => by
    have ok := w_ok (T := T) (S := S) (d := d) w
    obtain ⟨c1, c2⟩ := op_chain w hB hfr hW o0 i (by omega) (fun j hj => ly j (by omega)) (fun j hj => xc j (by omega))
    have g := (ly i (by omega) _ c1).resolve_left (by have := c2.1; omega)
    have k0 := (GdW_100 g (by omega)).1
    have hD : DW (nxV V d) (pnT T S) to i (cwW (nxV V d) (pnT T S) to B.2 fr i) (B.2 - i) < 1000000 := by have := c2.2; omega
    obtain ⟨s1, s2, s3⟩ := sdW_spec ok (by omega) hD
    exact ⟨((ok.1 _ _ c1 s1).resolve_left s2).2, (op_next w hB (by omega) (ly i (by omega)) (ly (i + 1) (by omega)) (xc i (by omega)) c1 c2 s1 s2 s3).1⟩
/-- the last best square is the goal -/
theorem op_goal {h : zH} {a c to : Nat} {B : Int × Nat} (hW : B.1 < 1000000) (h1 : 1 ≤ B.2) (k0 : 0 ≤ Kc h a B.2 c) (o : OpC h a B.2 c to B V T S d) : c = to ∧ Kc h a B.2 to = B.1 := by
  have e := o.2
  rw [Nat.sub_self, DW_0 (by omega)] at e
  by_cases q : c = to
  · subst q; rw [if_pos rfl] at e; exact ⟨rfl, by omega⟩
  · rw [if_neg q] at e; omega
def FwQ (h : zH) (a fr to : Nat) (B : Int × Nat) (y : Int32) (V T : Nat → Int) (S d : Int) : Prop :=
  (B.1 < 1000000 → y.toInt = B.1 ∧ (zI h a 1).toInt = (B.2 : Int) ∧ OpC h a 0 fr to B V T S d ∧ (∀ i, i ≤ B.2 → LyC h a i to B V T S d) ∧ ∀ i, i < B.2 → XC h a i to B V T S d) ∧ (¬ B.1 < 1000000 → y.toInt = 1000)
def BsC (x3 y1 : Int32) (i to : Nat) (B : Int × Nat) (V T : Nat → Int) (S d : Int) : Prop := x3.toInt = 1000 ∨ ∃ st : Nat, y1.toInt = (st : Int) ∧ 0 < st ∧ st < i ∧ GdW (nxV V d) (pnT T S) to B st to x3.toInt
theorem c_fewestPrints (l : Launch) (G : zG) (h : zH) (a q g fr to : Nat) (x1 x2 : Int32) (B : Int × Nat) (eB : B = bw (nxV V d) (pnT T S) to fr 40) (o : WO h a q g V T S d) (x : WX a q g V S d) (h1 : x1.toInt = (fr : Int)) (h2 : x2.toInt = (to : Int)) (hfr : fr < nV V) (hto : to < nV V) (ne : fr ≠ to) :
    CTi l G YX9_fewestPrints 5 [va_rf (some a), .int x1, .int x2] h (fun y I => (∀ b, b ≠ a → b ≠ a + 2 → b ≠ a + 3 → I b = h.1 b) ∧ (∀ k, k ≠ 1 → I a k = h.1 a k) ∧ FwQ (I, h.2) a fr to B y V T S d) := by
  have nv := nV_eq x.1
  have ok := w_ok (T := T) (S := S) (d := d) x.1
  have bs := bw_spec (to := to) (fr := fr) ok 40
  have bn := bw_none (to := to) (fr := fr) ok 40
  have bD := bw_D (to := to) (fr := fr) ok
  rw [← eB] at bs bn bD
  have g0 : GdW (nxV V d) (pnT T S) to B 0 fr 0 := by rw [eB]; exact GdW_0 ok
  have lt0 : ∀ i, i < B.2 → B.1 < 1000000 := fun i hi => Decidable.byContradiction fun z => by have := bn (by omega); omega
  have loop : ∀ (fu i : Nat) (x3 x4 x5 : Int32) (J : Nat → Nat → Int32), i ≤ 41 → 41 - i < fu → x5.toInt = (i : Int) → (∀ b, b ≠ a → b ≠ a + 2 → b ≠ a + 3 → J b = h.1 b) → (∀ k, k ≠ 1 → J a k = h.1 a k) →
      BsC x3 (J a 1) i to B V T S d →
      (B.2 < i → B.1 < 1000000 → x3.toInt = B.1 ∧ (J a 1).toInt = (B.2 : Int)) → (x4 = 0 → B.2 < i) →
      (∀ j, j ≤ 40 → (j < i ∨ (j = i ∧ x4 ≠ 0)) → LyC (J, h.2) a j to B V T S d) → (x4 ≠ 0 → SeC (J, h.2) a i 0 to B V T S d) → (∀ j, j < B.2 → (j + 1 < i ∨ (j + 1 = i ∧ x4 ≠ 0)) → XC (J, h.2) a j to B V T S d) → Kc (J, h.2) a 0 fr = 0 → Kc (J, h.2) a 0 to = 1000 →
      Z l G mX9_fewestPrints 5 (fun w h1 => ∃ y I, w = some (.int y) ∧ h1 = (I, h.2) ∧ ((∀ b, b ≠ a → b ≠ a + 2 → b ≠ a + 3 → I b = h.1 b) ∧ (∀ k, k ≠ 1 → I a k = h.1 a k) ∧ FwQ (I, h.2) a fr to B y V T S d)) 0 0 34 [va_rf (some a), .int x1, .int x2, .int x3, .int x4, .int x5] [] (J, h.2) := by
    intro fu
    induction fu with
    | zero => intro i x3 x4 x5 J q1 q2; omega
    | succ fu ih =>
      intro i x3 x4 x5 J q1 q2 hx j1 j2 m1 m2 m3 m4 m5 m6 m7 m8
      have o0 : B.1 < 1000000 → OpC (J, h.2) a 0 fr to B V T S d := fun z => ⟨by rw [m7]; omega, by rw [m7, Nat.sub_zero, Int.zero_add]; subst eB; exact (bD z).1⟩
      have fin : B.2 < i → (fun (w : Option Value) h1 => ∃ y I, w = some (.int y) ∧ h1 = (I, h.2) ∧ ((∀ b, b ≠ a → b ≠ a + 2 → b ≠ a + 3 → I b = h.1 b) ∧ (∀ k, k ≠ 1 → I a k = h.1 a k) ∧ FwQ (I, h.2) a fr to B y V T S d)) (some (.int x3)) (J, h.2) := fun z => by
        refine ⟨x3, J, rfl, rfl, j1, j2, fun zW => ?_, fun zW => ?_⟩
        · obtain ⟨p1, p2⟩ := m2 z zW
          exact ⟨p1, p2, o0 zW, fun j hj => m4 j (by omega) (Or.inl (by omega)), fun j hj => m6 j hj (by omega)⟩
        · rcases m1 with e | ⟨st, s1, s2, s3, s4⟩
          · exact e
          · have b1 := (s4.2 0 (by omega)).1
            rw [DW_0 s2, if_pos rfl] at b1
            have := GdW_100 s4 (by omega)
            omega
      refine sX9_fewestPrints_34 (h := (J, h.2)) a x1 x2 x3 x4 x5 o.1 (Nat.le_refl _) ⟨fun c1 => fin (by have c1' : (40 : Int) < x5.toInt := c1; omega), fun c2 => ⟨fun c3 => fin (m3 c3), fun c4 => ?_⟩⟩
      have hi : i ≤ 40 := by have c2' : x5.toInt ≤ (40 : Int) := c2; omega
      have ez := zcost_at (h := (J, h.2)) (a := a) (i := i) (c := to) o.1 hx hi h2 (by omega)
      have eK : (zI (J, h.2) (a + 2) (64 * i + to)).toInt = Kc (J, h.2) a i to := rfl
      rw [ez]
      have lyi := m4 i hi (Or.inr ⟨rfl, c4⟩)
      have chain : i ≤ B.2 → B.1 < 1000000 → cwW (nxV V d) (pnT T S) to B.2 fr i < nV V ∧ OpC (J, h.2) a i (cwW (nxV V d) (pnT T S) to B.2 fr i) to B V T S d := fun z zW =>
        op_chain x.1 bs.2.2.1 hfr zW (o0 zW) i z (fun j hj => m4 j (by omega) (by by_cases e : j = i; exact Or.inr ⟨e, c4⟩; exact Or.inl (by omega))) (fun j hj => m6 j (by omega) (by by_cases e : j + 1 = i; exact Or.inr ⟨e, c4⟩; exact Or.inl (by omega)))
      have goal : B.2 = i → B.1 < 1000000 → Kc (J, h.2) a i to = B.1 := fun z zW => by
        obtain ⟨p1, p2⟩ := chain (by omega) zW
        have gg := GdW_100 ((lyi _ p1).resolve_left (by have := p2.1; omega)) (by omega)
        have b4 := (bD zW).2.2.2.1
        subst z
        exact (op_goal zW b4 gg.1 p2).2
      have nobest : B.1 < 1000000 → x3.toInt ≤ B.1 → B.2 < i := fun zW z => by
        rcases m1 with e | ⟨st, s1, s2, s3, s4⟩
        · have := (bD zW).2.1; omega
        · have b1 := s4.2 0 (by omega)
          rw [DW_0 s2, if_pos rfl] at b1
          have := b1.2 (by omega)
          omega
      have after : ∀ (x3' : Int32) (K : Nat → Nat → Int32), (∀ b, b ≠ a → K b = J b) → (∀ k, k ≠ 1 → K a k = J a k) → BsC x3' (K a 1) (i + 1) to B V T S d → (B.2 < i + 1 → B.1 < 1000000 → x3'.toInt = B.1 ∧ (K a 1).toInt = (B.2 : Int)) →
          (((40 : Int) ≤ x5.toInt → Z l G mX9_fewestPrints 5 (fun w h1 => ∃ y I, w = some (.int y) ∧ h1 = (I, h.2) ∧ ((∀ b, b ≠ a → b ≠ a + 2 → b ≠ a + 3 → I b = h.1 b) ∧ (∀ k, k ≠ 1 → I a k = h.1 a k) ∧ FwQ (I, h.2) a fr to B y V T S d)) 0 0 34 [va_rf (some a), .int x1, .int x2, .int x3', .int 0, .int (x5 + 1)] [] (K, h.2)) ∧
           (x5.toInt < (40 : Int) → ∃ P, CTz l G YX9_spread 4 [va_rf (some a), .int x5, .int x3'] (K, h.2) P ∧ ∀ (y : Bool) (I : Nat → Nat → Int32), P y I → ((y = false → Z l G mX9_fewestPrints 5 (fun w h1 => ∃ y I, w = some (.int y) ∧ h1 = (I, h.2) ∧ ((∀ b, b ≠ a → b ≠ a + 2 → b ≠ a + 3 → I b = h.1 b) ∧ (∀ k, k ≠ 1 → I a k = h.1 a k) ∧ FwQ (I, h.2) a fr to B y V T S d)) 0 0 34 [va_rf (some a), .int x1, .int x2, .int x3', .int 0, .int (x5 + 1)] [] (I, h.2)) ∧ (y = true → Z l G mX9_fewestPrints 5 (fun w h1 => ∃ y I, w = some (.int y) ∧ h1 = (I, h.2) ∧ ((∀ b, b ≠ a → b ≠ a + 2 → b ≠ a + 3 → I b = h.1 b) ∧ (∀ k, k ≠ 1 → I a k = h.1 a k) ∧ FwQ (I, h.2) a fr to B y V T S d)) 0 0 34 [va_rf (some a), .int x1, .int x2, .int x3', .int 1, .int (x5 + 1)] [] (I, h.2)))) ) := by
        intro x3' K k1 k2 n1 n2
        have kK : ∀ j c, Kc (K, h.2) a j c = Kc (J, h.2) a j c := fun j c => by
          show (K (a + 2) _).toInt = (J (a + 2) _).toInt
          rw [k1 (a + 2) (by omega)]
        have sK : ∀ f c, Sn (K, h.2) a f c = Sn (J, h.2) a f c := fun f c => by
          show (K (a + 3) _).toInt = (J (a + 3) _).toInt
          rw [k1 (a + 3) (by omega)]
        have kx : ∀ j, XC (J, h.2) a j to B V T S d → XC (K, h.2) a j to B V T S d := fun j xc c hc oc s hs hn => by
          rw [kK, kK]; exact xc c hc (oc.cg (kK j c).symm) s hs hn
        refine ⟨fun c6 => ?_, fun c7 => ?_⟩
        · refine ih (i + 1) x3' 0 _ K (by omega) (by omega) (i_1 hx (by omega)) (fun b b1 b2 b3 => (k1 b b1).trans (j1 b b1 b2 b3)) (fun k hk => (k2 k hk).trans (j2 k hk)) n1 n2 (fun _ => by have := bs.2.2.1; omega) (fun j hj q => (m4 j hj (by rcases q with q | q; exact (by by_cases e : j = i; exact Or.inr ⟨e, c4⟩; exact Or.inl (by omega)); exact absurd rfl q.2)).cg (fun c _ => kK j c)) (fun z => absurd rfl z) (fun j hj q => kx j (m6 j hj (by rcases q with q | q; exact (by by_cases e : j + 1 = i; exact Or.inr ⟨e, c4⟩; exact Or.inl (by omega)); exact absurd rfl q.2))) (by rw [kK]; exact m7) (by rw [kK]; exact m8)
        · have i40 : i < 40 := by omega
          refine ⟨_, c_spread l G (K, h.2) a q g i to B x5 x3' (o.cg x (fun b hb => ?_) ?_ ?_) x bs.2.2.1 hx i40 (lyi.cg (fun c _ => kK i c)) (fun f hf c hc => by rw [sK]; exact m5 c4 f hf c hc) ?_ (fun z => ?_), fun y I sp => ?_⟩
          · rw [k1 b (by omega)]; exact j1 b (by omega) (by omega) (by omega)
          · rw [k2 5 (by decide)]; exact j2 5 (by decide)
          · rw [k2 6 (by decide)]; exact j2 6 (by decide)
          · rcases n1 with e | ⟨st, s1, s2, s3, s4⟩
            · omega
            · have := GdW_100 s4 (by omega); omega
          · have zW := lt0 i z
            rcases n1 with e | ⟨st, s1, s2, s3, s4⟩
            · have := (bD zW).2.1; omega
            · have b1 := s4.2 0 (by omega)
              rw [DW_0 s2, if_pos rfl] at b1
              by_cases e : x3'.toInt + 0 = B.1
              · have := b1.2 e; omega
              · omega
          · obtain ⟨p1, p2, p3, p4, p5⟩ := sp
            have kI : ∀ j, j ≤ i → ∀ c, c < 64 → Kc (I, h.2) a j c = Kc (J, h.2) a j c := fun j hj c hc => by
              rw [← kK]
              show (I (a + 2) (64 * j + c)).toInt = (K (a + 2) (64 * j + c)).toInt
              rw [p2 _ (by omega)]
            have t1 : ∀ b, b ≠ a → b ≠ a + 2 → b ≠ a + 3 → I b = h.1 b := fun b b1 b2 b3 => (p1 b b2 b3).trans ((k1 b b1).trans (j1 b b1 b2 b3))
            have ea : I a = K a := p1 a (by omega) (by omega)
            have t2 : ∀ k, k ≠ 1 → I a k = h.1 a k := fun k hk => by rw [ea]; exact (k2 k hk).trans (j2 k hk)
            have lyI : ∀ j, j ≤ i → LyC (I, h.2) a j to B V T S d := fun j hj => (m4 j (by omega) (by by_cases e : j = i; exact Or.inr ⟨e, c4⟩; exact Or.inl (by omega))).cg (fun c hc => kI j hj c (by omega))
            have xcI : ∀ j, j < B.2 → j < i → XC (I, h.2) a j to B V T S d := fun j hj hji c hc oc s hs hn => by
              have nn := ((ok.1 c s hc hs).resolve_left hn).2
              rw [kI j (by omega) c (by omega), kI (j + 1) (by omega) _ (by omega)]
              exact m6 j hj (by by_cases e : j + 1 = i; exact Or.inr ⟨e, c4⟩; exact Or.inl (by omega)) c hc (oc.cg (kI j (by omega) c (by omega)).symm) s hs hn
            have seI : SeC (I, h.2) a (i + 1) 0 to B V T S d := fun f hf c hc => (p4 f hf c hc).elim Or.inl (fun ⟨jj, z1, z2, z3⟩ => Or.inr ⟨jj, z1, Or.inl (by omega), z3⟩)
            have xi : i < B.2 → XC (I, h.2) a i to B V T S d := fun z c hc oc s hs hn => by
              have oK : OpC (K, h.2) a i c to B V T S d := oc.cg (by rw [kI i (Nat.le_refl _) c (by omega)]; exact kK i c)
              have := (p5 z c hc oK).2 s hs hn
              rw [kI i (Nat.le_refl _) c (by omega), ← kK]; exact this
            refine ⟨fun c9 => ?_, fun c10 => ?_⟩
            · refine ih (i + 1) x3' 0 _ I (by omega) (by omega) (i_1 hx (by omega)) t1 t2 (by rw [ea]; exact n1) (by rw [ea]; exact n2) (fun _ => ?_) (fun j hj q => lyI j (by rcases q with q | q; omega; exact absurd rfl q.2)) (fun z => absurd rfl z) (fun j hj q => xcI j hj (by rcases q with q | q; omega; exact absurd rfl q.2)) (by rw [kI 0 (by omega) fr (by omega)]; exact m7) (by rw [kI 0 (by omega) to (by omega)]; exact m8)
              exact Decidable.byContradiction fun z => by
                have zi : i < B.2 := by omega
                obtain ⟨w1, w2⟩ := chain (by omega) (lt0 i zi)
                have := (p5 zi _ w1 (w2.cg (kK i _))).1
                rw [c9] at this; cases this
            · refine ih (i + 1) x3' 1 _ I (by omega) (by omega) (i_1 hx (by omega)) t1 t2 (by rw [ea]; exact n1) (by rw [ea]; exact n2) (fun z => absurd z (by decide)) (fun j hj q => ?_) (fun _ => seI) (fun j hj q => ?_) (by rw [kI 0 (by omega) fr (by omega)]; exact m7) (by rw [kI 0 (by omega) to (by omega)]; exact m8)
              · by_cases e : j = i + 1
                · subst e; exact p3
                · exact lyI j (by omega)
              · by_cases e : j = i
                · subst e; exact xi hj
                · exact xcI j hj (by omega)
      refine ⟨fun c5 => ?_, fun c11 I36 c12 => ?_⟩
      · rw [eK] at c5
        have af := after x3 J (fun _ _ => rfl) (fun _ _ => rfl) (Or.elim m1 Or.inl (fun ⟨st, s1, s2, s3, s4⟩ => Or.inr ⟨st, s1, s2, by omega, s4⟩)) (fun z zW => by
          by_cases e : B.2 < i
          · exact m2 e zW
          · have := goal (by omega) zW
            have := nobest zW (by omega)
            omega)
        exact ⟨af.1, af.2⟩
      · rw [eK] at c11
        obtain ⟨a1, a2, a3⟩ := zwI_eff c12
        have x3le : x3.toInt ≤ 1000 := by
          rcases m1 with e | ⟨st, s1, s2, s3, s4⟩
          · omega
          · have := GdW_100 s4 (by omega); omega
        have i0 : 0 < i := Nat.pos_of_ne_zero fun z => by subst z; rw [m8] at c11; omega
        have gi := (lyi to hto).resolve_left (by omega)
        have af := after (zI (J, h.2) (a + 2) (64 * i + to)) I36 (fun b hb => a1 b hb) (fun k hk => a2 k hk) (Or.inr ⟨i, by rw [a3]; exact hx, i0, by omega, gi⟩) (fun z zW => by
          by_cases e : B.2 < i
          · have p := (m2 e zW).1
            have b1 := (gi.2 0 (by omega)).1
            rw [DW_0 i0, if_pos rfl] at b1
            omega
          · have e2 : B.2 = i := by omega
            exact ⟨goal e2 zW, by rw [a3, hx, e2]⟩)
        exact ⟨af.1, af.2⟩
  refine kX9_fewestPrints a x1 x2 (sX9_fewestPrints_0 a x1 x2 o.1 (Nat.le_refl _) ⟨_, c_fill l G h (a + 3) 128 1000 (o.1.w 3 rfl) (by decide), fun I4 c1 => ⟨_, c_clearLayer l G (I4, h.2) a 0 0 o.1 rfl (by omega), fun I13 ⟨g1, g2, g3⟩ I22 c3 => ?_⟩⟩)
  obtain ⟨a1, a2, a3⟩ := zput_eff (h := (I13, h.2)) (o.1.w 2 rfl) h1 (by omega) c3
  have t4 : ∀ b, b ≠ a + 3 → I4 b = h.1 b := fun b hb => by
    rw [c1]; funext k; exact if_neg (fun z => hb z.1)
  have tt : ∀ b, b ≠ a + 2 → b ≠ a + 3 → I22 b = h.1 b := fun b b1 b2 => (a1 b b1).trans ((g1 b b1).trans (t4 b b2))
  have l0 : ∀ c, c < 64 → Kc (I22, h.2) a 0 c = if c = fr then 0 else 1000 := fun c hc => by
    show (I22 (a + 2) (64 * 0 + c)).toInt = _
    rw [show 64 * 0 + c = c by omega]
    by_cases e : c = fr
    · subst e; rw [if_pos rfl, a3]; rfl
    · rw [if_neg e, a2 c e]
      have := g3 c hc
      rw [show 64 * 0 + c = c by omega] at this
      show (I13 (a + 2) c).toInt = _
      rw [this]; rfl
  refine loop 42 0 1000 1 0 I22 (by omega) (by omega) rfl (fun b b1 b2 b3 => tt b b2 b3) (fun k hk => by rw [tt a (by omega) (by omega)]) (Or.inl rfl) (fun z => by omega) (fun z => absurd z (by decide)) (fun j hj q => ?_) (fun _ f hf c hc => Or.inl ?_) (fun j hj q => by omega) (by rw [l0 fr (by omega), if_pos rfl]) (by rw [l0 to (by omega), if_neg (fun z => ne z.symm)])
  · have ej : j = 0 := by omega
    subst ej
    intro c hc
    rw [l0 c (by omega)]
    by_cases e : c = fr
    · subst e; rw [if_pos rfl]; exact Or.inr g0
    · rw [if_neg e]; exact Or.inl rfl
  · show (I22 (a + 3) (64 * f + c)).toInt = 1000
    rw [a1 (a + 3) (by omega)]
    show (I13 (a + 3) (64 * f + c)).toInt = 1000
    rw [g1 (a + 3) (by omega), c1]
    show (if a + 3 = a + 3 ∧ 64 * f + c < 128 then (1000 : Int32) else h.1 (a + 3) (64 * f + c)).toInt = 1000
    rw [if_pos ⟨rfl, by omega⟩]; rfl
end K64
