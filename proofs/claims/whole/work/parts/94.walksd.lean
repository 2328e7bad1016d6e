set_option maxRecDepth 4000
/-! ===== rows of signs: the search ===== -/
section K94
variable {V R : Nat → Int} {M L : Nat} {any : Bool}
theorem Fr4.n {h : zH} {I : Nat → Nat → Int32} {n : Nat} {nx : Nat → Nat} (s : SRn h n nx) (e4 : I 154 = h.1 154) (e5 : I 155 = h.1 155) (e10 : I 150 10 = h.1 150 10) : SRn (I, h.2) n nx := by
  obtain ⟨n1, n2, n3⟩ := s
  refine ⟨fun k hk => ?_, fun b hb => ?_, fun b hb => ?_⟩
  · show I 154 k = _; rw [e4]; exact n1 k hk
  · show (∀ a, nx a = b → (I 155 b).toInt = (a : Int)) ∧ ((∀ a, nx a ≠ b) → I 155 b = -1)
    rw [e5]; exact n2 b hb
  · show ibt (I 150 10) b = true ↔ _
    rw [e10]; exact n3 b hb
/-- at the end of the signs -/
theorem s4_leaf (l : Launch) (G : zG) (h : zH) (nx : Nat → Nat) (s : Nat × (Nat → Nat)) (hl : lo4 h 150) (sf : SRf h V R M L any) (sn : SRn h (nR R) nx) (ws : Wst h s) (hs : s.1 < 2000000000) (ha : ¬ (any = true ∧ 0 < s.1)) :
    (¬ zI h 150 9 = 0 → ∀ I, I = (zwI h 150 9 ((zI h 150 9) + 1)).1 → Fr4 h I ∧ SRn (I, h.2) (nR R) nx ∧ Wst (I, h.2) (s1W any s nx)) ∧
    (zI h 150 9 = 0 → ∃ P, CTv l G YX10_copy 2 [va_rf (some (150 + 4)), va_rf (some (150 + 6))] h P ∧ ∀ I0, P I0 → ∀ I, I = (zwI (I0, h.2) 150 9 ((zI (I0, h.2) 150 9) + 1)).1 → Fr4 h I ∧ SRn (I, h.2) (nR R) nx ∧ Wst (I, h.2) (s1W any s nx)) := by
  obtain ⟨w1, w2, w3, w4, w5, w6⟩ := lo4_w hl
  obtain ⟨v1, v2⟩ := ws
  have e : s1W any s nx = (s.1 + 1, if s.1 = 0 then nx else s.2) := if_neg ha
  rw [e]
  refine ⟨fun c I c4 => ?_, fun c => ⟨_, c_X10_copy l G h 154 156 10 w4 w6 (by decide), fun I0 c6 I c7 => ?_⟩⟩
  · obtain ⟨a1, a2, a3⟩ := zwI_eff c4
    have s0 : s.1 ≠ 0 := fun z => c (n_m0.mpr (by omega))
    refine ⟨⟨fun b z1 _ _ _ => a1 b z1, fun k z1 _ => a2 k z1⟩, Fr4.n sn (a1 154 (by decide)) (a1 155 (by decide)) (a2 10 (by decide)), ?_, fun _ k hk => ?_⟩
    · show (I 150 9).toInt = ((s.1 + 1 : Nat) : Int)
      rw [a3]; exact i_1 v1 (by omega)
    · show I 156 k = ov ((if s.1 = 0 then nx else s.2) k)
      rw [a1 156 (by decide), if_neg s0]; exact v2 (by omega) k hk
  · obtain ⟨a1, a2, a3⟩ := zwI_eff c7
    have s0 : s.1 = 0 := by have := n_m0.mp c; omega
    have eI : ∀ b, b ≠ 156 → I0 b = h.1 b := fun b hb => by rw [c6]; funext k; exact if_neg (fun z => hb z.1)
    have e9 : zI (I0, h.2) 150 9 = zI h 150 9 := by show I0 150 9 = _; rw [eI 150 (by decide)]; rfl
    refine ⟨⟨fun b z1 _ _ z4 => (a1 b z1).trans (eI b z4), fun k z1 _ => (a2 k z1).trans (congrFun (eI 150 (by decide)) k)⟩, Fr4.n sn ((a1 154 (by decide)).trans (eI 154 (by decide))) ((a1 155 (by decide)).trans (eI 155 (by decide))) ((a2 10 (by decide)).trans (congrFun (eI 150 (by decide)) 10)), ?_, fun _ k hk => ?_⟩
    · show (I 150 9).toInt = ((s.1 + 1 : Nat) : Int)
      rw [a3, e9]; exact i_1 v1 (by omega)
    · show I 156 k = ov ((if s.1 = 0 then nx else s.2) k)
      rw [a1 156 (by decide), if_pos s0]
      show I0 156 k = _
      rw [c6, show zcy h 154 156 10 156 k = h.1 154 k from if_pos ⟨rfl, hk⟩]
      exact sn.1 k hk
def GX (F : Nat → Nat → Bool) (M n L r i : Nat) (nx : Nat → Nat) (en b : Nat) : List (Nat → Nat) := if jnB F M n i nx b = true then DS F M n L r (i + 1) (upN nx i b) en else []
theorem c_search (l : Launch) (G : zG) (wr : WFR R) (hM : 1 ≤ M) (hM2 : M ≤ 10) : ∀ (r i en : Nat) (nx : Nat → Nat) (h : zH) (x1 x2 : Int32) (s : Nat × (Nat → Nat)), i + r = nR R → lo4 h 150 → PV (fF V R) M (nR R) i nx → SRf h V R M L any → SRn h (nR R) nx → Wst h s → x1.toInt = (i : Int) → x2.toInt = (en : Int) → en ≤ L → L ≤ 10 → s.1 + (DS (fF V R) M (nR R) L r i nx en).length < 2000000000 →
    CTv l G YX4_search (r + 3) [va_rf (some 150), .int x1, .int x2] h (fun I => Fr4 h I ∧ SRn (I, h.2) (nR R) nx ∧ Wst (I, h.2) (rnW any (DS (fF V R) M (nR R) L r i nx en) s)) := by
  have ev := nR_ok wr
  intro r
  induction r with
  | zero =>
    intro i en nx h x1 x2 s hi hl p sf sn ws h1 h2 he hL hb
    have v0 : (zI h 150 0).toInt = R 0 := sf.1
    have v9 := ws.1
    have vb : s.1 < 2000000000 := by
      have : s.1 + 1 < 2000000000 := hb
      omega
    have any0 := sf.2.2.2.2
    have rn : rnW any (DS (fF V R) M (nR R) L 0 i nx en) s = s1W any s nx := rfl
    rw [rn]
    have lf := fun ha => s4_leaf l G h nx s hl sf sn ws vb ha
    refine kX4_search 150 x1 x2 (sX4_search_0 150 x1 x2 hl (by omega) ⟨fun c1 => ?_, fun c19 => ⟨fun c20 => ?_, fun c38 => ?_⟩⟩)
    · have na : ¬ (any = true ∧ 0 < s.1) := fun z => by rw [any0.mp c1] at z; cases z.1
      obtain ⟨f1, f2⟩ := lf na
      refine ⟨fun c2 => ⟨fun c3 I13 c4 => ⟨I13, rfl, rfl, f1 c3 I13 c4⟩, fun c5 => ?_⟩, fun c8 => absurd c8 (by omega)⟩
      obtain ⟨P, q1, q2⟩ := f2 c5
      exact ⟨P, q1, fun I0 z I c7 => ⟨I, rfl, rfl, q2 I0 z I c7⟩⟩
    · have na : ¬ (any = true ∧ 0 < s.1) := fun z => by have : (zI h 150 9).toInt ≤ 0 := c20; omega
      obtain ⟨f1, f2⟩ := lf na
      refine ⟨fun c21 => ⟨fun c22 I76 c23 => ⟨I76, rfl, rfl, f1 c22 I76 c23⟩, fun c24 => ?_⟩, fun c27 => absurd c27 (by omega)⟩
      obtain ⟨P, q1, q2⟩ := f2 c24
      exact ⟨P, q1, fun I0 z I c7 => ⟨I, rfl, rfl, q2 I0 z I c7⟩⟩
    · have at1 : any = true := by
        cases q : any with
        | true => rfl
        | false => exact absurd (any0.mpr q) c19
      have c38' : (0 : Int) < (zI h 150 9).toInt := c38
      refine ⟨h.1, rfl, rfl, Fr4.rf h, sn, ?_⟩
      rw [show s1W any s nx = s from if_pos ⟨at1, by omega⟩]; exact ws
  | succ r ih =>
    intro i en nx h x1 x2 s hi hl p sf sn ws h1 h2 he hL hb
    have v0 : (zI h 150 0).toInt = R 0 := sf.1
    have v9 := ws.1
    have any0 := sf.2.2.2.2
    have un : DS (fF V R) M (nR R) L (r + 1) i nx en = if L < en + efB (fF V R) (nR R) i nx then [] else (List.range (nR R)).flatMap (GX (fF V R) M (nR R) L r i nx en) ++ (if en < L then DS (fF V R) M (nR R) L r (i + 1) nx (en + 1) else []) := rfl
    generalize hX : DS (fF V R) M (nR R) L (r + 1) i nx en = X at un hb ⊢
    -- the signs that may come next
    have loop : ¬ L < en + efB (fF V R) (nR R) i nx → ∀ (fu b : Nat) (x3 : Int32) (J : Nat → Nat → Int32), b ≤ nR R → nR R - b < fu → x3.toInt = (b : Int) → Fr4 h J → SRn (J, h.2) (nR R) nx → Wst (J, h.2) (rnW any ((List.range b).flatMap (GX (fF V R) M (nR R) L r i nx en)) s) →
        Z l G mX4_search (r + 1 + 3) (fun v h2 => ∃ I1, v = none ∧ h2 = (I1, h.2) ∧ (Fr4 h I1 ∧ SRn (I1, h.2) (nR R) nx ∧ Wst (I1, h.2) (rnW any X s))) 0 0 75 [va_rf (some 150), .int x1, .int x2, .int x3] [] (J, h.2) := by
      intro hq fu
      rw [if_neg hq] at un
      induction fu with
      | zero => intro b x3 J q1 q2; omega
      | succ fu ih2 =>
        intro b x3 J q1 q2 h3 fr snJ wJ
        have sJ : SRf (J, h.2) V R M L any := fr.f sf
        have vJ0 : (zI (J, h.2) 150 0).toInt = R 0 := sJ.1
        have vJ6 : (zI (J, h.2) 150 6).toInt = (L : Int) := sJ.2.2.1
        refine sX4_search_75 (h := (J, h.2)) 150 x1 x2 x3 hl (by omega) ⟨fun c1 => ⟨fun c2 => ?_, fun c3 => ?_⟩, fun c5 => ?_⟩
        · have eb : b = nR R := by omega
          rw [if_neg (by omega), List.append_nil] at un
          rw [eb] at wJ
          rw [un]
          exact ⟨J, rfl, rfl, fr, snJ, wJ⟩
        · have eb : b = nR R := by omega
          have el : en < L := by omega
          rw [if_pos el] at un
          have lX : X.length = ((List.range (nR R)).flatMap (GX (fF V R) M (nR R) L r i nx en)).length + (DS (fF V R) M (nR R) L r (i + 1) nx (en + 1)).length := by rw [un, List.length_append]
          have lr := rnW_le (any := any) (X := (List.range b).flatMap (GX (fF V R) M (nR R) L r i nx en)) (s := s)
          rw [eb] at lr wJ
          have rcu := ih (i + 1) (en + 1) nx (J, h.2) (x1 + 1) (x2 + 1) _ (by omega) hl (PV_none p) sJ snJ wJ (i_1 h1 (by omega)) (i_1 h2 (by omega)) (by omega) hL (by omega)
          refine ⟨_, r + 3, by omega, rcu, fun I12 ⟨z1, z2, z3⟩ => ⟨I12, rfl, rfl, fr.tr z1, z2, ?_⟩⟩
          rw [un, rnW_app]; exact z3
        · have hb' : b < nR R := by omega
          have st : (List.range (b + 1)).flatMap (GX (fF V R) M (nR R) L r i nx en) = (List.range b).flatMap (GX (fF V R) M (nR R) L r i nx en) ++ GX (fF V R) M (nR R) L r i nx en b := by
            rw [List.range_succ, List.flatMap_append, List.flatMap_cons, List.flatMap_nil, List.append_nil]
          -- what is found so far, and still to be found
          have lX : ((List.range b).flatMap (GX (fF V R) M (nR R) L r i nx en)).length + (GX (fF V R) M (nR R) L r i nx en b).length ≤ X.length := by
            rw [un, List.length_append]
            have e1 : (List.range (nR R)) = List.range (b + 1) ++ (List.range (nR R - (b + 1))).map ((b + 1) + ·) := by
              rw [← List.range_add, show b + 1 + (nR R - (b + 1)) = nR R by omega]
            rw [e1, List.flatMap_append, List.length_append, st, List.length_append]
            omega
          have lr := rnW_le (any := any) (X := (List.range b).flatMap (GX (fF V R) M (nR R) L r i nx en)) (s := s)
          refine ⟨_, c_may l G (J, h.2) b x1 x3 hl wr hM hM2 sJ snJ p h1 (by omega) h3 hb', fun y25 I23 ⟨z1, z2⟩ => ?_⟩
          have eI : I23 = J := z2
          subst eI
          refine ⟨fun c7 => ?_, fun c8 I36 c9 I42 c10 I45 c11 => ?_⟩
          · have g0 : GX (fF V R) M (nR R) L r i nx en b = [] := if_neg (by rw [← z1, c7]; exact Bool.false_ne_true)
            refine ih2 (b + 1) _ I23 (by omega) (by omega) (i_1 h3 (by omega)) fr snJ ?_
            rw [st, g0, List.append_nil]; exact wJ
          · have jb : jnB (fF V R) M (nR R) i nx b = true := z1.symm.trans c8
            have g1 : GX (fF V R) M (nR R) L r i nx en b = DS (fF V R) M (nR R) L r (i + 1) (upN nx i b) en := if_pos jb
            rw [g1] at lX
            obtain ⟨w1, w2, w3, w4, w5, w6⟩ := lo4_w hl
            obtain ⟨a1, a2, a3⟩ := zput_eff (h := (I23, h.2)) (N := 10) (q := 154) w4 h1 (by omega) c9
            obtain ⟨b1, b2, b3⟩ := zput_eff (h := (I36, h.2)) (N := 10) (q := 155) w5 h3 (by omega) c10
            obtain ⟨d1, d2, d3⟩ := zwI_eff c11
            obtain ⟨n1, n2, n3⟩ := id snJ
            obtain ⟨_, jf, _⟩ := jnB_iff.mp jb
            have nxi : nx i = 10 := p.1 i (Nat.le_refl _)
            have jfa : ∀ a, nx a ≠ b := fun a e => by
              by_cases z : a < nR R
              · exact jf a z e
              · have := p.1 a (by omega); omega
            have u_i : upN nx i b i = b := if_pos rfl
            have u_n : ∀ a, a ≠ i → upN nx i b a = nx a := fun a ha => if_neg ha
            have f45 : Fr4 (I23, h.2) I45 := ⟨fun c z1 z2 z3 z4 => (d1 c z1).trans ((b1 c z3).trans (a1 c z2)), fun k z1 z2 => (d2 k z2).trans (congrFun ((b1 150 (by decide)).trans (a1 150 (by decide))) k)⟩
            have e154 : I45 154 = I36 154 := (d1 154 (by decide)).trans (b1 154 (by decide))
            have e155 : ∀ c, I45 155 c = I42 155 c := fun c => congrFun (d1 155 (by decide)) c
            have sn45 : SRn (I45, h.2) (nR R) (upN nx i b) := by
              refine ⟨fun k hk => ?_, fun c hc => ⟨fun a ha => ?_, fun ha => ?_⟩, fun c hc => ?_⟩
              · show I45 154 k = _
                rw [e154]
                by_cases z : k = i
                · subst z
                  rw [a3, u_i]
                  exact (i_ext (by rw [h3, (ov_n (show b < 10 by omega)).1]))
                · rw [a2 k z, u_n k z]; exact n1 k hk
              · show (I45 155 c).toInt = _
                rw [e155]
                by_cases z : c = b
                · subst z
                  have ea : a = i := Classical.byContradiction fun y => jfa a ((u_n a y).symm.trans ha)
                  rw [b3, ea]; exact h1
                · have ea : a ≠ i := fun y => z (by rw [y, u_i] at ha; exact ha.symm)
                  rw [b2 c z]
                  show (I36 155 c).toInt = _
                  rw [a1 155 (by decide)]
                  exact (n2 c hc).1 a ((u_n a ea).symm.trans ha)
              · show I45 155 c = -1
                rw [e155]
                have z : c ≠ b := fun y => ha i (by rw [u_i, y])
                rw [b2 c z]
                show I36 155 c = -1
                rw [a1 155 (by decide)]
                refine (n2 c hc).2 (fun a y => ?_)
                have ea : a ≠ i := fun w => by rw [w, nxi] at y; omega
                exact ha a ((u_n a ea).trans y)
              · show ibt (I45 150 10) c = true ↔ _
                have e10 : zI (I42, h.2) 150 10 = zI (I23, h.2) 150 10 := congrFun ((b1 150 (by decide)).trans (a1 150 (by decide))) 10
                rw [d3, e10, bit1_of h3, ibt_or, ibt_1 (by omega), Bool.or_eq_true, n3 c hc, decide_eq_true_eq]
                refine ⟨fun z => ?_, fun ⟨a, ha, e⟩ => ?_⟩
                · rcases z with ⟨a, ha, e⟩ | z
                  · exact ⟨a, ha, by rw [u_n a (fun w => by rw [w, nxi] at e; omega)]; exact e⟩
                  · exact ⟨i, by omega, by rw [u_i, z]⟩
                · by_cases w : a = i
                  · right; rw [w, u_i] at e; exact e.symm
                  · left; exact ⟨a, ha, (u_n a w).symm.trans e⟩
            have s45 : SRf (I45, h.2) V R M L any := Fr4.f (h := (I23, h.2)) f45 sJ
            have ws45 : Wst (I45, h.2) (rnW any ((List.range b).flatMap (GX (fF V R) M (nR R) L r i nx en)) s) := by
              refine ⟨?_, fun z k hk => ?_⟩
              · show (I45 150 9).toInt = _
                rw [d2 9 (by decide)]
                show (I42 150 9).toInt = _
                rw [b1 150 (by decide)]
                show (I36 150 9).toInt = _
                rw [a1 150 (by decide)]; exact wJ.1
              · show I45 156 k = _
                rw [d1 156 (by decide)]
                show I42 156 k = _
                rw [b1 156 (by decide)]
                show I36 156 k = _
                rw [a1 156 (by decide)]; exact wJ.2 z k hk
            have rcu := ih (i + 1) en (upN nx i b) (I45, h.2) (x1 + 1) x2 _ (by omega) hl (PV_some ev.2 hM (by omega) hb' p jb) s45 sn45 ws45 (i_1 h1 (by omega)) h2 he hL (by omega)
            refine ⟨_, r + 3, by omega, rcu, fun I51 ⟨y1, y2, y3⟩ I59 c13 I65 c14 I71 c15 => ?_⟩
            obtain ⟨k1, k2, k3⟩ := zwI_eff c13
            obtain ⟨m1, m2, m3⟩ := zput_eff (h := (I59, h.2)) (N := 10) (q := 155) w5 h3 (by omega) c14
            obtain ⟨o1, o2, o3⟩ := zput_eff (h := (I65, h.2)) (N := 10) (q := 154) w4 h1 (by omega) c15
            obtain ⟨r1, r2, r3⟩ := id y2
            have e71 : ∀ c, c ≠ 150 → c ≠ 154 → c ≠ 155 → I71 c = I51 c := fun c z1 z2 z3 => (o1 c z2).trans ((m1 c z3).trans (k1 c z1))
            have e710 : ∀ k, k ≠ 10 → I71 150 k = I51 150 k := fun k hk => (congrFun ((o1 150 (by decide)).trans (m1 150 (by decide))) k).trans (k2 k hk)
            have f71 : Fr4 (I51, h.2) I71 := ⟨fun c z1 z2 z3 _ => e71 c z1 z2 z3, fun k _ z2 => e710 k z2⟩
            refine ih2 (b + 1) _ I71 (by omega) (by omega) (i_1 h3 (by omega)) (fr.tr (Fr4.tr (h := (I23, h.2)) f45 (Fr4.tr (h := (I45, h.2)) y1 f71))) ⟨fun k hk => ?_, fun c hc => ⟨fun a ha => ?_, fun ha => ?_⟩, fun c hc => ?_⟩ ⟨?_, fun z k hk => ?_⟩
            · show I71 154 k = _
              by_cases z : k = i
              · subst z
                rw [o3, nxi]; rfl
              · rw [o2 k z]
                show I65 154 k = _
                rw [m1 154 (by decide)]
                show I59 154 k = _
                rw [k1 154 (by decide)]
                exact (r1 k hk).trans (by rw [u_n k z])
            · show (I71 155 c).toInt = _
              rw [o1 155 (by decide)]
              have z : c ≠ b := fun y => jfa a (ha.trans y)
              show (I65 155 c).toInt = _
              rw [m2 c z]
              show (I59 155 c).toInt = _
              rw [k1 155 (by decide)]
              have ea : a ≠ i := fun w => by rw [w, nxi] at ha; omega
              exact (r2 c hc).1 a ((u_n a ea).trans ha)
            · show I71 155 c = -1
              rw [o1 155 (by decide)]
              show I65 155 c = -1
              by_cases z : c = b
              · rw [z]; exact m3
              · rw [m2 c z]
                show I59 155 c = -1
                rw [k1 155 (by decide)]
                refine (r2 c hc).2 (fun a e => ?_)
                by_cases w : a = i
                · rw [w, u_i] at e; exact z e.symm
                · exact ha a ((u_n a w).symm.trans e)
            · show ibt (I71 150 10) c = true ↔ _
              have e10 : I71 150 10 = I59 150 10 := congrFun ((o1 150 (by decide)).trans (m1 150 (by decide))) 10
              rw [e10, k3, bit1_of h3, ibt_and, ibt_not (by omega), ibt_1 (by omega), Bool.and_eq_true, r3 c hc]
              by_cases z : c = b
              · rw [decide_eq_true z]
                exact ⟨fun w => absurd w.2 Bool.false_ne_true, fun ⟨a, _, e⟩ => absurd (e.trans z) (jfa a)⟩
              · rw [decide_eq_false z]
                refine ⟨fun ⟨⟨a, ha, e⟩, _⟩ => ⟨a, ha, ?_⟩, fun ⟨a, ha, e⟩ => ⟨⟨a, ha, ?_⟩, rfl⟩⟩
                · rw [← u_n a (fun w => z (by rw [w, u_i] at e; exact e.symm))]; exact e
                · rw [u_n a (fun w => by rw [w, nxi] at e; omega)]; exact e
            · rw [st, g1, rnW_app]
              show (I71 150 9).toInt = _
              rw [e710 9 (by decide)]; exact y3.1
            · rw [st, g1, rnW_app] at z ⊢
              show I71 156 k = _
              rw [e71 156 (by decide) (by decide) (by decide)]; exact y3.2 z k hk
    have go : ∀ (y : Int32), y.toInt = (efB (fF V R) (nR R) i nx : Int) → ((x2 + y).toInt ≤ (zI h 150 6).toInt → Z l G mX4_search (r + 1 + 3) (fun v h2 => ∃ I1, v = none ∧ h2 = (I1, h.2) ∧ (Fr4 h I1 ∧ SRn (I1, h.2) (nR R) nx ∧ Wst (I1, h.2) (rnW any X s))) 0 0 75 [va_rf (some 150), .int x1, .int x2, .int 0] [] h) ∧ ((zI h 150 6).toInt < (x2 + y).toInt → ∃ I1, (none : Option Value) = none ∧ h = (I1, h.2) ∧ (Fr4 h I1 ∧ SRn (I1, h.2) (nR R) nx ∧ Wst (I1, h.2) (rnW any X s))) := fun y hy => by
      have v6 : (zI h 150 6).toInt = (L : Int) := sf.2.2.1
      have el : efB (fF V R) (nR R) i nx ≤ nR R := by
        have := List.countP_le_length (p := fun k => decide (i ≤ k) && decide (∀ b, b < nR R → fF V R k b = true → ∃ a, a < nR R ∧ nx a = b)) (l := List.range (nR R))
        rw [List.length_range] at this
        exact this
      have e2 : (x2 + y).toInt = (en : Int) + (efB (fF V R) (nR R) i nx : Int) := by rw [i_add (by omega) (by omega), h2, hy]
      refine ⟨fun c => loop (by omega) (nR R + 1) 0 0 h.1 (Nat.zero_le _) (by omega) rfl (Fr4.rf h) sn ws, fun c => ⟨h.1, rfl, rfl, Fr4.rf h, sn, ?_⟩⟩
      rw [un, if_pos (by omega)]; exact ws
    refine kX4_search 150 x1 x2 (sX4_search_0 150 x1 x2 hl (by omega) ⟨fun c1 => ⟨fun c2 => absurd c2 (by omega), fun c8 => ⟨fun c9 => ⟨_, c_ends4 l G h x1 hl wr sf sn h1 (by omega), fun y37 I35 ⟨z1, z2⟩ => ?_⟩, fun c13 => ?_⟩⟩, fun c19 => ⟨fun c20 => ⟨fun c21 => absurd c21 (by omega), fun c27 => ⟨fun c28 => ⟨_, c_ends4 l G h x1 hl wr sf sn h1 (by omega), fun y100 I98 ⟨z1, z2⟩ => ?_⟩, fun c32 => ?_⟩⟩, fun c38 => ?_⟩⟩)
    · have eI : I35 = h.1 := z2
      subst eI
      exact go y37 z1
    · have c13' : (10 : Int) ≤ x1.toInt := c13
      omega
    · have eI : I98 = h.1 := z2
      subst eI
      exact go y100 z1
    · have c32' : (10 : Int) ≤ x1.toInt := c32
      omega
    · have at1 : any = true := by
        cases q : any with
        | true => rfl
        | false => exact absurd (any0.mpr q) c19
      have c38' : (0 : Int) < (zI h 150 9).toInt := c38
      refine ⟨h.1, rfl, rfl, Fr4.rf h, sn, ?_⟩
      rw [at1, rnW_stop (by omega)]; exact ws
end K94
