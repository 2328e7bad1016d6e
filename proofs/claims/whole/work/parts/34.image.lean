set_option maxRecDepth 4000
section K34
variable {TK : (Nat → Int) → (Nat → Int32) → (Nat → Int32) → Prop} {RK : (Nat → Int) → (Nat → Int) → (Nat → Int32) → (Nat → Int32) → (Nat → Int32) → (Nat → Int32) → Prop}
theorem zlo.rm {h : zH} {a : Nat} {ks : List (Nat × Nat)} {rs : List (Nat × Nat × Nat)} (q : zlo h a ks rs) {o j t : Nat} (hi : rs.contains (o, j, t) = true) : zR h (a + o) j = some (a + t) := by
  have h2 : (o, j, t) ∈ rs := List.contains_iff_mem.mp hi
  obtain ⟨i, h3⟩ := List.getElem?_of_mem h2
  exact q.r i h3
theorem img_at {h : zH} (hl : lo10 h 0) {n : Nat} (hn : n < 3) : zR h 53 n = some (157 + 52 * n) ∧ lo6 h (157 + 52 * n) := by
  match n, hn with
  | 0, _ => exact ⟨(zlo.rm hl (o := 53) (j := 0) (t := 157) (by decide +kernel)).trans (by rw [Nat.zero_add]), by have := zlo.sub (ks' := ks6) (rs' := rs6) hl 157 (by decide +kernel) (by decide +kernel) (by decide +kernel); rw [Nat.zero_add] at this; exact this⟩
  | 1, _ => exact ⟨(zlo.rm hl (o := 53) (j := 1) (t := 209) (by decide +kernel)).trans (by rw [Nat.zero_add]), by have := zlo.sub (ks' := ks6) (rs' := rs6) hl 209 (by decide +kernel) (by decide +kernel) (by decide +kernel); rw [Nat.zero_add] at this; exact this⟩
  | 2, _ => exact ⟨(zlo.rm hl (o := 53) (j := 2) (t := 261) (by decide +kernel)).trans (by rw [Nat.zero_add]), by have := zlo.sub (ks' := ks6) (rs' := rs6) hl 261 (by decide +kernel) (by decide +kernel) (by decide +kernel); rw [Nat.zero_add] at this; exact this⟩
  | k + 3, q => omega
/-- what is kept rests on the first 1348 numbers and a few objects -/
theorem KeptP.lo {h : zH} {J : Nat → Nat → Int32} (k : KeptP TK RK h) (b0 : (AL h 0).toInt ≤ 2) (b1 : (AL h 1).toInt ≤ 2) (eA : ∀ j, j < 1348 → J 314 j = h.1 314 j) (e0 : ∀ j, J 0 j = h.1 0 j) (e1 : ∀ b, (b = 136 ∨ b = 137 ∨ b = 150 ∨ b = 151 ∨ b = 152 ∨ b = 153) → J b = h.1 b) : KeptP TK RK (J, h.2) := by
  have a : ∀ j, j < 1348 → AL (J, h.2) j = AL h j := eA
  have e : ∀ b, (b = 136 ∨ b = 137 ∨ b = 150 ∨ b = 151 ∨ b = 152 ∨ b = 153) → zI (J, h.2) b = zI h b := e1
  have z : ∀ j, zI (J, h.2) 0 j = zI h 0 j := e0
  unfold KeptP TKh RKh
  rw [z, z, z, a 0 (by decide), a 1 (by decide), e 136 (by decide), e 137 (by decide), e 150 (by decide), e 151 (by decide), e 152 (by decide), e 153 (by decide)]
  refine ⟨k.1.elim Or.inl (fun ⟨n, q1, q2, q3⟩ => Or.inr ⟨n, q1, q2, ?_⟩), k.2.elim Or.inl (fun ⟨n, r, q1, q2, q3, q4, q5⟩ => Or.inr ⟨n, r, q1, q2, q3, q4, ?_⟩)⟩
  · rw [RW_cg (h := h) (b := 610 + 318 * n) (fun w hw => a _ (by omega))]; exact q3
  · rw [RW_cg (h := h) (b := 610 + 318 * n) (fun w hw => a _ (by omega)), RV_cg (h := h) (b := 1246 + 51 * r) (fun w hw => a _ (by omega))]; exact q5
theorem m1348 {x : Int32} {n : Nat} (hx : x.toInt = (n : Int)) (hn : n < 3) {x2 : Int32} {i : Nat} (hi : x2.toInt = (i : Int)) (hi2 : i < 1348) : ((1348 * (x + 1)) + x2).toInt = ((1348 * (n + 1) + i : Nat) : Int) := by
  have e1 : (x + 1).toInt = ((n + 1 : Nat) : Int) := i_1 hx (by omega)
  have e2 : ((1348 : Int32) * (x + 1)).toInt = 1348 * ((n + 1 : Nat) : Int) := by
    rw [i_mul (by rw [e1]; show _ ≤ (1348 : Int) * _; omega) (by rw [e1]; show (1348 : Int) * _ < _; omega), e1]; rfl
  rw [i_add (by rw [e2]; omega) (by rw [e2]; omega), e2, hi]; omega
def imL (g : zH) (B i : Nat) : Nat → Nat → Int32 := fun b k => if b = 314 ∧ B ≤ k ∧ k < B + i then g.1 314 (k - B) else g.1 b k
theorem imL_out {g : zH} {B i b k : Nat} (q : ¬ (b = 314 ∧ B ≤ k ∧ k < B + i)) : imL g B i b k = g.1 b k := if_neg q
theorem imL_in {g : zH} {B i k : Nat} (q : k < i) : imL g B i 314 (B + k) = g.1 314 k := (if_pos ⟨rfl, by omega, by omega⟩).trans (congrArg (g.1 314) (by omega))
theorem zwI_no {h : zH} {a j b k : Nat} {v : Int32} (q : ¬ (b = a ∧ k = j)) : (zwI h a j v).1 b k = h.1 b k := if_neg q
theorem zwI_at {h : zH} {a j : Nat} {v : Int32} : (zwI h a j v).1 a j = v := if_pos ⟨rfl, rfl⟩
theorem m_image (l : Launch) (G : zG) (h : zH) (x1 : Int32) {n : Nat} (l1 : lo11 h 313) (hx : x1.toInt = (n : Int)) (hn : n < 3) : CTz l G YX11_image 2 [va_rf (some 313), .int x1] h (fun y I => y = true ∧ I = imL (zwI h 315 n 1) (1348 * (n + 1)) 1348) := by
  obtain ⟨B, hB⟩ : ∃ B, 1348 * (n + 1) = B := ⟨_, rfl⟩
  rw [hB]
  have loop : ∀ (f i : Nat) (x2 : Int32) (I : Nat → Nat → Int32), i ≤ 1348 → 1348 - i < f → x2.toInt = (i : Int) → I = imL (zwI h 315 n 1) B i →
      Z l G mX11_image 2 (fun w h1 => ∃ x I1, w = some (.int (zb x)) ∧ h1 = (I1, h.2) ∧ (x = true ∧ I1 = imL (zwI h 315 n 1) B 1348)) 0 0 20 [va_rf (some 313), .int x1, .int x2] [] (I, h.2) := by
    intro f
    induction f with
    | zero => intro i x I h1 h2; omega
    | succ f ih =>
      intro i x2 I h1 h2 hi hI
      refine sX11_image_20 313 x1 x2 l1 (Nat.le_refl _) ⟨fun c1 => ⟨true, I, rfl, rfl, rfl, by rw [hI, show i = 1348 by omega]⟩, fun c2 => ?_⟩
      have eq := m1348 hx hn hi (by omega)
      rw [hB] at eq
      refine ⟨by omega, by show _ < (5392 : Int); omega, by rw [eq]; omega, by rw [eq]; omega, fun I7 c3 => ih (i + 1) (x2 + 1) I7 (by omega) (by omega) (i_1 hi (by omega)) ?_⟩
      rw [zix_of eq, zix_of hi] at c3
      have ev : zI (I, h.2) (313 + 1) i = (zwI h 315 n 1).1 314 i := by
        show I 314 i = _
        rw [hI]
        exact imL_out (by omega)
      rw [c3, ev, hI]
      funext b k
      show (if b = 314 ∧ k = B + i then (zwI h 315 n 1).1 314 i else imL (zwI h 315 n 1) B i b k) = _
      by_cases e : b = 314 ∧ k = B + i
      · rw [if_pos e, e.1, e.2, imL_in (by omega)]
      · rw [if_neg e]
        by_cases e2 : b = 314 ∧ B ≤ k ∧ k < B + i
        · obtain ⟨e3, e4, e5⟩ := e2
          rw [e3, show k = B + (k - B) by omega, imL_in (by omega), imL_in (by omega)]
        · rw [imL_out e2, imL_out (by omega)]
  have c : zin3 x1 0 2 = true := zin3_t.mpr ⟨by show (0 : Int) ≤ _; omega, by show _ ≤ (2 : Int); omega⟩
  refine kX11_image 313 x1 (sX11_image_0 313 x1 l1 (Nat.le_refl _) ⟨fun _ => ⟨by omega, by show _ < (3 : Int); omega, fun I9 c2 => ?_⟩, fun c3 => by rw [c] at c3; cases c3⟩)
  rw [zix_of hx] at c2
  refine loop 1349 0 0 I9 (by omega) (by omega) rfl ?_
  rw [c2]
  funext b k
  exact (imL_out (by omega)).symm
def agL (g : zH) (B i : Nat) : Nat → Nat → Int32 := fun b k => if b = 314 ∧ k < i then g.1 314 (B + k) else g.1 b k
theorem agL_out {g : zH} {B i b k : Nat} (q : ¬ (b = 314 ∧ k < i)) : agL g B i b k = g.1 b k := if_neg q
theorem agL_in {g : zH} {B i k : Nat} (q : k < i) : agL g B i 314 k = g.1 314 (B + k) := if_pos ⟨rfl, q⟩
theorem m_again (l : Launch) (G : zG) (h : zH) (x1 : Int32) {n : Nat} (l1 : lo11 h 313) (hx : x1.toInt = (n : Int)) (hn : n < 3) (hz : ¬ zI h 315 n = 0) : CTz l G YX11_again 2 [va_rf (some 313), .int x1] h (fun y I => y = true ∧ I = agL h (1348 * (n + 1)) 1348) := by
  have hB2 : 1348 ≤ 1348 * (n + 1) := by omega
  obtain ⟨B, hB⟩ : ∃ B, 1348 * (n + 1) = B := ⟨_, rfl⟩
  rw [hB]
  rw [hB] at hB2
  have loop : ∀ (f i : Nat) (x2 : Int32) (I : Nat → Nat → Int32), i ≤ 1348 → 1348 - i < f → x2.toInt = (i : Int) → I = agL h B i →
      Z l G mX11_again 2 (fun w h1 => ∃ x I1, w = some (.int (zb x)) ∧ h1 = (I1, h.2) ∧ (x = true ∧ I1 = agL h B 1348)) 0 0 22 [va_rf (some 313), .int x1, .int x2] [] (I, h.2) := by
    intro f
    induction f with
    | zero => intro i x I h1 h2; omega
    | succ f ih =>
      intro i x2 I h1 h2 hi hI
      refine sX11_again_22 313 x1 x2 l1 (Nat.le_refl _) ⟨fun c1 => ⟨true, I, rfl, rfl, rfl, by rw [hI, show i = 1348 by omega]⟩, fun c2 => ?_⟩
      have eq := m1348 hx hn hi (by omega)
      rw [hB] at eq
      refine ⟨by rw [eq]; omega, by rw [eq]; omega, by omega, by show _ < (5392 : Int); omega, fun I7 c3 => ih (i + 1) (x2 + 1) I7 (by omega) (by omega) (i_1 hi (by omega)) ?_⟩
      rw [zix_of eq, zix_of hi] at c3
      have ev : zI (I, h.2) (313 + 1) (B + i) = h.1 314 (B + i) := by
        show I 314 _ = _
        rw [hI]
        exact agL_out (by omega)
      rw [c3, ev, hI]
      funext b k
      show (if b = 314 ∧ k = i then h.1 314 (B + i) else agL h B i b k) = _
      by_cases e : b = 314 ∧ k = i
      · rw [if_pos e, e.1, e.2, agL_in (by omega)]
      · rw [if_neg e]
        by_cases e2 : b = 314 ∧ k < i
        · obtain ⟨e3, e4⟩ := e2
          rw [e3, agL_in e4, agL_in (by omega)]
        · rw [agL_out e2, agL_out (by omega)]
  have c : zin3 x1 0 2 = true := zin3_t.mpr ⟨by show (0 : Int) ≤ _; omega, by show _ ≤ (2 : Int); omega⟩
  refine kX11_again 313 x1 (sX11_again_0 313 x1 l1 (Nat.le_refl _) ⟨fun c3 => by rw [c] at c3; (cases c3), fun _ => ⟨by omega, by show _ < (3 : Int); omega, fun c3 => ?_, fun c4 => ?_⟩⟩)
  · exact loop 1349 0 0 h.1 (by omega) (by omega) rfl (funext fun b => funext fun k => (agL_out (by omega)).symm)
  · rw [zix_of hx] at c4; exact absurd c4 hz
theorem pp_image (l : Launch) (G : zG) : P_image (KeptP TK RK) l G := fun x1 h hI => by
  obtain ⟨l1, l2, hN, hT, hIm, hK⟩ := id hI
  by_cases c : 0 ≤ x1.toInt ∧ x1.toInt < 3
  · obtain ⟨n, hx⟩ : ∃ n : Nat, x1.toInt = (n : Int) := ⟨x1.toInt.toNat, by omega⟩
    have hn : n < 3 := by omega
    obtain ⟨ia, il⟩ := img_at l1 hn
    refine ⟨true, fun I => (∀ b, b ≠ 54 → (b < 157 + 52 * n ∨ 157 + 52 * n + 52 ≤ b) → I b = h.1 b) ∧ (∀ k, I 54 k = if k = n then 1 else h.1 54 k) ∧ TCp h (I, h.2) 1 (157 + 52 * n), ?_, fun I ⟨i1, i2, i3⟩ j => by rw [i1 1000000 (by decide) (by omega)], fun I ⟨i1, i2, i3⟩ => ?_⟩
    · refine kX10_image 0 x1 (sX10_image_0 0 x1 l1 (Nat.le_refl _) ⟨fun c1 => absurd c1 (by omega), fun c2 => ⟨fun c3 => absurd c3 (by omega), fun c4 => ⟨fun c5 => ⟨by omega, by show _ < (3 : Int); omega, 157 + 52 * n, by rw [zix_of hx]; exact ia, il, _, c_X6_copyFrom l G h (157 + 52 * n) 1 il (los_10_1 l1) (by omega), fun I21 ⟨c6, c6b⟩ => ⟨by omega, by show _ < (3 : Int); omega, fun I28 c7 => ⟨true, I28, rfl, rfl, rfl, ?_⟩⟩⟩, fun c8 => absurd c8 (by omega)⟩⟩⟩)
      rw [zix_of hx] at c7
      have e28 : ∀ b, b ≠ 54 → I28 b = I21 b := fun b hb => by rw [c7]; exact funext fun k => if_neg (fun z => hb z.1)
      refine ⟨fun b h1 h2 => by rw [e28 b h1, c6 b h2], fun k => ?_, ?_⟩
      · rw [c7]
        show (if 54 = 0 + 54 ∧ k = n then (1 : Int32) else I21 54 k) = _
        rw [c6 54 (by omega)]
        (repeat' split) <;> first | rfl | omega
      · have z : ∀ b, 157 + 52 * n ≤ b → ∀ k, zI (I28, h.2) b k = zI (I21, h.2) b k := fun b hb k => congrFun (e28 b (by omega)) k
        obtain ⟨t1, t2, t3, t4⟩ := c6b
        refine ⟨fun i hi => by rw [z _ (by omega)]; exact t1 i hi, by rw [z _ (by omega), z _ (by omega), z _ (by omega), z _ (by omega), z _ (by omega)]; exact t2, fun i hi => ?_, fun i hi => ?_⟩
        · obtain ⟨n1, n2, n3, n4⟩ := t3 i hi
          exact ⟨fun f hf => by rw [z _ (by omega)]; exact n1 f hf, fun k hk => by rw [z _ (by omega), z _ (by omega), z _ (by omega)]; exact n2 k hk, fun m hm => by rw [z _ (by omega)]; exact n3 m hm, fun p hp => ⟨fun f hf => by rw [z _ (by omega)]; exact (n4 p hp).1 f hf, fun k hk => by rw [z _ (by omega)]; exact (n4 p hp).2 k hk⟩⟩
        · obtain ⟨r1, r2⟩ := t4 i hi
          exact ⟨by rw [z _ (by omega)]; exact r1, fun k hk => by rw [z _ (by omega), z _ (by omega), z _ (by omega), z _ (by omega), z _ (by omega)]; exact r2 k hk⟩
    · refine (m_image l G (I, h.2) x1 l2 hx hn).mono rfl fun v h1 ⟨y, J, z1, z2, z3, z4⟩ => ⟨y, J, z1, z2, z3, ?_⟩
      have j1 : ∀ b, b ≠ 314 → b ≠ 315 → J b = I b := fun b h1 h2 => by
        rw [z4]; funext k
        rw [imL_out (fun z => h1 z.1)]; exact zwI_no (fun z => h2 z.1)
      have j2 : ∀ k, (k < 1348 * (n + 1) ∨ 1348 * (n + 1) + 1348 ≤ k) → J 314 k = h.1 314 k := fun k hk => by
        rw [z4, imL_out (by omega)]
        exact (zwI_no (h := (I, h.2)) (fun z => absurd z.1 (by decide))).trans (by rw [show (I, h.2).1 314 = h.1 314 from i1 314 (by decide) (by omega)])
      have j3 : ∀ k, k < 1348 → J 314 (1348 * (n + 1) + k) = h.1 314 k := fun k hk => by
        rw [z4, imL_in hk]
        exact (zwI_no (h := (I, h.2)) (fun z => absurd z.1 (by decide))).trans (by rw [show (I, h.2).1 314 = h.1 314 from i1 314 (by decide) (by omega)])
      have j4 : ∀ k, J 315 k = if k = n then 1 else h.1 315 k := fun k => by
        rw [z4, imL_out (by omega)]
        show (if 315 = 315 ∧ k = n then (1 : Int32) else I 315 k) = _
        rw [i1 315 (by decide) (by omega)]
        by_cases e : k = n
        · rw [if_pos ⟨rfl, e⟩, if_pos e]
        · rw [if_neg (fun z => e z.2), if_neg e]
      have j5 : ∀ b, b < 157 → b ≠ 54 → J b = h.1 b := fun b h1 h2 => by rw [j1 b (by omega) (by omega), i1 b h2 (by omega)]
      have aI : AL (I, h.2) = AL h := by show I 314 = h.1 314; exact i1 314 (by decide) (by omega)
      refine ⟨l1, l2, hN, hT.moved (fun b h1 h2 j => by show J b j = _; rw [j5 b (by omega) (by omega)]; rfl) (fun j h1 h2 => j2 j (by omega)), fun k hk => ?_, ?_⟩
      · show J 54 k = J 315 k ∧ (J 315 k = 0 ∨ J 315 k = 1 ∧ TRel (J, h.2) (157 + 52 * k) (1348 * (k + 1)))
        rw [j1 54 (by decide) (by decide), i2, j4]
        by_cases e : k = n
        · subst e
          rw [if_pos rfl, if_pos rfl]
          refine ⟨rfl, Or.inr ⟨rfl, ?_⟩⟩
          have t1 : TRel (I, h.2) (157 + 52 * k) 0 := hT.cp (fun j _ => by rw [aI]) i3
          refine t1.cp (fun j hj => ?_) (TCp.same (fun b h1 h2 j => by show J b j = I b j; rw [j1 b (by omega) (by omega)]))
          rw [aI]
          show J 314 _ = h.1 314 (0 + j)
          rw [j3 j hj, Nat.zero_add]
        · rw [if_neg e, if_neg e]
          obtain ⟨r1, r2⟩ := hIm k hk
          refine ⟨r1, r2.elim Or.inl (fun r => Or.inr ⟨r.1, ?_⟩)⟩
          exact r.2.moved (fun b h1 h2 j => by show J b j = _; rw [j1 b (by omega) (by omega), i1 b (by omega) (by omega)]; rfl) (fun j h1 h2 => j2 j (by omega))
      · exact KeptP.lo hK hT.2.2.2.2.1.2.2 hT.2.2.2.2.2.1.2.2 (fun j hj => j2 j (by omega)) (fun j => by rw [j5 0 (by decide) (by decide)]) (fun b hb => j5 b (by omega) (by omega))
  · refine ⟨false, fun I => I = h.1, ?_, fun I e j => by rw [e], fun I e => ?_⟩
    · refine kX10_image 0 x1 (sX10_image_0 0 x1 l1 (Nat.le_refl _) ⟨fun c1 => ⟨false, h.1, rfl, rfl, rfl, rfl⟩, fun c2 => ⟨fun c3 => ⟨false, h.1, rfl, rfl, rfl, rfl⟩, fun c4 => absurd c4 (by omega)⟩⟩)
    · subst e
      refine kX11_image 313 x1 (sX11_image_0 313 x1 l2 (Nat.le_refl _) ⟨fun c1 => ?_, fun c3 => ⟨false, h.1, rfl, rfl, rfl, hI⟩⟩)
      have := zin3_t.mp c1
      rw [show (0 : Int32).toInt = 0 from rfl, show (2 : Int32).toInt = 2 from rfl] at this
      exact absurd this (by omega)
theorem c_X10_forget (l : Launch) (G : zG) (h : zH) (a : Nat) (ha : lo10 h a) : CTv l G YX10_forgetFindings 1 [va_rf (some a)] h (fun I => ∀ b k, I b k = if b = a ∧ (k = 11 ∨ k = 13 ∨ k = 14) then -1 else h.1 b k) := by
  refine kX10_forgetFindings a (sX10_forgetFindings_0 a ha (Nat.le_refl _) (fun I1 c1 I4 c2 I7 c3 => ⟨I7, rfl, rfl, fun b k => ?_⟩))
  rw [c3, c2, c1]
  show (if b = a ∧ k = 14 then (-1 : Int32) else if b = a ∧ k = 13 then -1 else if b = a ∧ k = 11 then -1 else h.1 b k) = _
  (repeat' split) <;> first | rfl | omega
theorem pp_again (l : Launch) (G : zG) : P_again (KeptP TK RK) l G := fun x1 h hI => by
  obtain ⟨l1, l2, hN, hT, hIm, hK⟩ := id hI
  by_cases c : (0 ≤ x1.toInt ∧ x1.toInt < 3) ∧ ¬ zI h 54 (zix x1) = 0
  · obtain ⟨⟨ca, cb⟩, cz⟩ := c
    obtain ⟨n, hx⟩ : ∃ n : Nat, x1.toInt = (n : Int) := ⟨x1.toInt.toNat, by omega⟩
    have hn : n < 3 := by omega
    obtain ⟨ia, il⟩ := img_at l1 hn
    rw [zix_of hx] at cz
    obtain ⟨r1, r2⟩ := hIm n hn
    have rT : TRel h (157 + 52 * n) (1348 * (n + 1)) := r2.elim (fun z => absurd (r1.trans z) cz) (fun z => z.2)
    refine ⟨true, fun I => (∀ b, b ≠ 0 → (b < 1 ∨ 53 ≤ b) → I b = h.1 b) ∧ (I 0 11 = -1 ∧ I 0 13 = -1) ∧ TCp h (I, h.2) (157 + 52 * n) 1, ?_, fun I ⟨i1, i2, i3⟩ j => by rw [i1 1000000 (by decide) (by omega)], fun I ⟨i1, i2, i3⟩ => ?_⟩
    · refine kX10_again 0 x1 (sX10_again_0 0 x1 l1 (Nat.le_refl _) ⟨fun c1 => absurd c1 (by omega), fun c2 => ⟨fun c3 => absurd c3 (by omega), fun c4 => ⟨fun c5 => absurd c5 (by omega), fun c6 => ⟨by omega, by show _ < (3 : Int); omega, fun c7 => ⟨by omega, by show _ < (3 : Int); omega, (fun I => (∀ c, (c < 1 ∨ 1 + 52 ≤ c) → I c = h.1 c) ∧ TCp h (I, h.2) (157 + 52 * n) 1), ?_, fun I22 c8 => ⟨_, c_X10_forget l G (I22, h.2) 0 l1, fun I31 c9 => ⟨true, I31, rfl, rfl, rfl, ?_⟩⟩⟩, fun c10 => absurd (by rw [zix_of hx] at c10; exact c10) cz⟩⟩⟩⟩)
      · rw [zix_of hx, show zR h (0 + 53) n = some (157 + 52 * n) from ia]
        exact c_X6_copyFrom l G h 1 (157 + 52 * n) (los_10_1 l1) il (by omega)
      · obtain ⟨c8, t1, t2, t3, t4⟩ := c8
        have z : ∀ b, 1 ≤ b → ∀ k, zI (I31, h.2) b k = zI (I22, h.2) b k := fun b hb k => by
          show I31 b k = _
          rw [c9]; exact if_neg (by omega)
        refine ⟨fun b h1 h2 => ?_, ⟨?_, ?_⟩, fun i hi => by rw [z _ (by omega)]; exact t1 i hi, by rw [z _ (by omega), z _ (by omega), z _ (by omega), z _ (by omega), z _ (by omega)]; exact t2, fun i hi => ?_, fun i hi => ?_⟩
        · funext k
          have := z b (by omega) k
          rw [show I31 b k = I22 b k from this, c8 b (by omega)]
        · rw [c9]; exact if_pos (by decide)
        · rw [c9]; exact if_pos (by decide)
        · obtain ⟨n1, n2, n3, n4⟩ := t3 i hi
          exact ⟨fun f hf => by rw [z _ (by omega)]; exact n1 f hf, fun k hk => by rw [z _ (by omega), z _ (by omega), z _ (by omega)]; exact n2 k hk, fun m hm => by rw [z _ (by omega)]; exact n3 m hm, fun p hp => ⟨fun f hf => by rw [z _ (by omega)]; exact (n4 p hp).1 f hf, fun k hk => by rw [z _ (by omega)]; exact (n4 p hp).2 k hk⟩⟩
        · obtain ⟨r1, r2⟩ := t4 i hi
          exact ⟨by rw [z _ (by omega)]; exact r1, fun k hk => by rw [z _ (by omega), z _ (by omega), z _ (by omega), z _ (by omega), z _ (by omega)]; exact r2 k hk⟩
    · have hz : ¬ zI (I, h.2) 315 n = 0 := by
        show ¬ I 315 n = 0
        rw [i1 315 (by decide) (by omega)]
        exact fun z => cz (r1.trans z)
      refine (m_again l G (I, h.2) x1 l2 hx hn hz).mono rfl fun v h1 ⟨y, J, z1, z2, z3, z4⟩ => ⟨y, J, z1, z2, z3, ?_⟩
      have j1 : ∀ b, b ≠ 314 → J b = I b := fun b h1 => by
        rw [z4]; funext k
        exact agL_out (fun z => h1 z.1)
      have j2 : ∀ k, 1348 ≤ k → J 314 k = h.1 314 k := fun k hk => by
        rw [z4, agL_out (by omega), show (I, h.2).1 314 = h.1 314 from i1 314 (by decide) (by omega)]
      have j3 : ∀ k, k < 1348 → J 314 k = h.1 314 (1348 * (n + 1) + k) := fun k hk => by
        rw [z4, agL_in hk, show (I, h.2).1 314 = h.1 314 from i1 314 (by decide) (by omega)]
      have j5 : ∀ b, 53 ≤ b → b ≠ 314 → J b = h.1 b := fun b h1 h2 => by rw [j1 b (by omega), i1 b (by omega) (by omega)]
      have aI : AL (I, h.2) = AL h := by show I 314 = h.1 314; exact i1 314 (by decide) (by omega)
      refine ⟨l1, l2, hN, ?_, fun k hk => ?_, ?_⟩
      · have t1 : TRel (I, h.2) 1 (1348 * (n + 1)) := rT.cp (fun j _ => by rw [aI]) i3
        refine t1.cp (fun j hj => ?_) (TCp.same (fun b h1 h2 j => by show J b j = I b j; rw [j1 b (by omega)]))
        rw [aI]
        show J 314 (0 + j) = h.1 314 _
        rw [Nat.zero_add, j3 j hj]
      · show J 54 k = J 315 k ∧ (J 315 k = 0 ∨ J 315 k = 1 ∧ TRel (J, h.2) (157 + 52 * k) (1348 * (k + 1)))
        rw [j5 54 (by decide) (by decide), j5 315 (by decide) (by decide)]
        obtain ⟨r1, r2⟩ := hIm k hk
        refine ⟨r1, r2.elim Or.inl (fun r => Or.inr ⟨r.1, ?_⟩)⟩
        exact r.2.moved (fun b h1 h2 j => by show J b j = _; rw [j5 b (by omega) (by omega)]; rfl) (fun j h1 h2 => j2 j (by omega))
      · have e0 : J 0 = I 0 := j1 0 (by decide)
        exact ⟨Or.inl (by show J 0 11 = -1; rw [e0]; exact i2.1), Or.inl (by show J 0 13 = -1; rw [e0]; exact i2.2)⟩
  · refine ⟨false, fun I => I = h.1, ?_, fun I e j => by rw [e], fun I e => ?_⟩
    · refine kX10_again 0 x1 (sX10_again_0 0 x1 l1 (Nat.le_refl _) ⟨fun c1 => ⟨false, h.1, rfl, rfl, rfl, rfl⟩, fun c2 => ⟨fun c3 => ⟨false, h.1, rfl, rfl, rfl, rfl⟩, fun c4 => ⟨fun c5 => absurd c5 (by omega), fun c6 => ⟨by omega, by show _ < (3 : Int); omega, fun c7 => absurd ⟨⟨c2, c4⟩, c7⟩ c, fun c10 => ⟨false, h.1, rfl, rfl, rfl, rfl⟩⟩⟩⟩⟩)
    · subst e
      refine kX11_again 313 x1 (sX11_again_0 313 x1 l2 (Nat.le_refl _) ⟨fun c1 => ⟨false, h.1, rfl, rfl, rfl, hI⟩, fun c2 => ?_⟩)
      have c3 := zin3_t.mp c2
      rw [show (0 : Int32).toInt = 0 from rfl, show (2 : Int32).toInt = 2 from rfl] at c3
      obtain ⟨n, hx⟩ : ∃ n : Nat, x1.toInt = (n : Int) := ⟨x1.toInt.toNat, by omega⟩
      refine ⟨by omega, by show _ < (3 : Int); omega, fun c4 => ?_, fun c4 => ⟨false, h.1, rfl, rfl, rfl, hI⟩⟩
      refine absurd ⟨⟨by omega, by omega⟩, fun z => c4 ?_⟩ c
      rw [zix_of hx] at z
      rw [zix_of hx]
      exact ((hIm n (by omega)).1.symm.trans z : zI h 315 n = 0)
end K34
