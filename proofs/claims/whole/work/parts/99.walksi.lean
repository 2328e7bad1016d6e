set_option maxRecDepth 4000
/-! ===== rows of signs: which sign comes next, the reference ===== -/
section K99
variable {V R : Nat → Int} {F : Nat → Nat → Bool} {Q : Nat → Bool} {M n : Nat}
def NxF (h : zH) (J : Nat → Nat → Int32) : Prop := (∀ b, b ≠ 313 → b ≠ 334 → b ≠ 335 → b ≠ 336 → b ≠ 337 → b ≠ 338 → J b = h.1 b) ∧ ∀ k, k ≠ 49 → J 313 k = h.1 313 k
theorem NxF.rf (h : zH) : NxF h h.1 := ⟨fun _ _ _ _ _ _ _ => rfl, fun _ _ => rfl⟩
theorem NxF.tr {h : zH} {I J : Nat → Nat → Int32} (a : NxF h I) (c : NxF (I, h.2) J) : NxF h J := ⟨fun b z1 z2 z3 z4 z5 z6 => (c.1 b z1 z2 z3 z4 z5 z6).trans (a.1 b z1 z2 z3 z4 z5 z6), fun k z => (c.2 k z).trans (a.2 k z)⟩
theorem CnF.nx {h : zH} {J : Nat → Nat → Int32} (f : CnF h J) : NxF h J := ⟨fun b _ _ z3 z4 z5 z6 => f b z3 z4 z5 z6, fun k _ => by rw [f 313 (by decide) (by decide) (by decide) (by decide)]⟩
theorem NxF.sg {h : zH} {J : Nat → Nat → Int32} (f : NxF h J) (s : SgN h n) : SgN (J, h.2) n := s.cg (f.2 43 (by decide)) (f.1 314 (by decide) (by decide) (by decide) (by decide) (by decide) (by decide))
theorem NxF.same {h : zH} {J : Nat → Nat → Int32} (f : NxF h J) : SameC h J := fun b hb j => by
  unfold IC at hb
  rw [f.1 b (by omega) (by omega) (by omega) (by omega) (by omega) (by omega)]
theorem MR.cg {h : zH} {J : Nat → Nat → Int32} {r : Nat} (m : MR h r R) (e : J 313 43 = h.1 313 43) (e2 : J 314 = h.1 314) : MR (J, h.2) r R := by
  obtain ⟨m1, m2, m3⟩ := m
  refine ⟨m1, ?_, ?_⟩
  · unfold RAt at m2 ⊢
    rw [show zI (J, h.2) 313 43 = zI h 313 43 from e]; exact m2
  · rw [RVc (show AL (J, h.2) = AL h from e2)]; exact m3
theorem c_mays (l : Launch) (G : zG) (h : zH) (nn r : Nat) (hl : lo11 h 313) (w : WFN V) (m : MN h nn V) (h14 : zI h 313 14 = -1) (wr : WFR R) (mr : MR h r R) :
    CTv l G YX11_mays 7 [va_rf (some 313)] h (fun I => NxF h I ∧ MyK (I, h.2) (fF V R) noQ (nR R)) := by
  have ev := nR_ok wr
  have loop : ∀ (fu c : Nat) (x1 : Int32) (J : Nat → Nat → Int32), c ≤ nR R → nR R - c < fu → x1.toInt = (c : Int) → (∀ b, b ≠ 313 → b ≠ 334 → J b = h.1 b) → (∀ k, k ≠ 49 → J 313 k = h.1 313 k) → J 313 49 = 0 → (∀ x, x < c → J 334 x = flF V R x) →
      Z l G mX11_mays 7 (fun v h2 => ∃ I1, v = none ∧ h2 = (I1, h.2) ∧ (NxF h I1 ∧ MyK (I1, h.2) (fF V R) noQ (nR R))) 0 0 7 [va_rf (some 313), .int x1] [] (J, h.2) := by
    intro fu
    induction fu with
    | zero => intro c x1 J q1 q2; omega
    | succ fu ih =>
      intro c x1 J q1 q2 h1 e0 e1 e49 e34
      have mnJ : MN (J, h.2) nn V := m.cg (fun k hk => e1 k (by omega)) (e0 314 (by decide) (by decide)) (fun k _ => by rw [e0 317 (by decide) (by decide)])
      have mrJ : MR (J, h.2) r R := mr.cg (e1 43 (by decide)) (e0 314 (by decide) (by decide))
      obtain ⟨k1, k2⟩ := mrJ.s0
      refine sX11_mays_7 (h := (J, h.2)) 313 x1 hl (Nat.le_refl _) ⟨k1, fun c1 => ?_, fun c2 => ?_⟩
      · refine ⟨J, rfl, rfl, ⟨fun b z1 z2 _ _ _ _ => e0 b z1 z2, e1⟩, fun x hx y hy => ?_, fun x hx => ?_⟩
        · show ibt (J 334 x) y = _
          rw [e34 x (by omega)]; rfl
        · show ibt (J 313 49) x = _
          rw [e49]; exact ibt_0
      · have hc : c < nR R := by omega
        refine ⟨_, c_followersM l G (J, h.2) nn r V R c x1 hl w mnJ ((e1 14 (by decide)).trans h14) wr mrJ h1 (by omega), fun y14 I12 ⟨z1, z2⟩ => ⟨by omega, by show _ < (10 : Int); omega, fun I19 c4 => ?_⟩⟩
        have eI : I12 = J := z2
        subst eI
        rw [zix_of h1] at c4
        have c4' : I19 = (zwI (I12, h.2) 334 c y14).1 := c4
        obtain ⟨d1, d2, d3⟩ := zwI_eff c4'
        refine ih (c + 1) _ I19 (by omega) (by omega) (i_1 h1 (by omega)) (fun b w1 w2 => (d1 b w2).trans (e0 b w1 w2)) (fun k hk => by rw [d1 313 (by decide)]; exact e1 k hk) (by rw [d1 313 (by decide)]; exact e49) (fun x hx => ?_)
        by_cases z : x = c
        · rw [z, d3]; exact z1
        · rw [d2 x z]; exact e34 x (by omega)
  refine kX11_mays 313 (sX11_mays_0 313 hl (Nat.le_refl _) (fun I1 c1 => ?_))
  obtain ⟨a1, a2, a3⟩ := zwI_eff c1
  exact loop 11 0 0 I1 (Nat.zero_le _) (by omega) rfl (fun b w1 _ => a1 b w1) (fun k hk => a2 k hk) a3 (fun x hx => by omega)
theorem full_ix {h : zH} (sg : SgN h n) (hn : n ≤ 10) : (((1 : Int32) <<< ((zsigns h 313) &&& 31)) - 1).toInt = ((2 ^ n - 1 : Nat) : Int) := by
  have pn := p2_le hn
  have p1 : 1 ≤ 2 ^ n := Nat.pow_pos (by decide)
  have e : ((1 : Int32) <<< ((zsigns h 313) &&& 31)).toInt = ((2 ^ n : Nat) : Int) := by rw [bit1_of sg.2]; exact bit1_t n (by omega)
  rw [i_sub (by rw [e]; show _ ≤ _ - (1 : Int); omega) (by rw [e]; show _ - (1 : Int) < _; omega), e]
  show _ - (1 : Int) = _
  omega
theorem c_least (l : Launch) (G : zG) (h : zH) (hl : lo11 h 313) (sg : SgN h n) (hn : n ≤ 10) (d : DpK h.1 F Q M n (2 ^ n)) :
    CTi l G YX11_least 2 [va_rf (some 313)] h (fun y I => y.toInt = (mnL (vF F Q M n) : Int) ∧ I = h.1) := by
  have pn := p2_le hn
  have e := full_ix sg hn
  refine kX11_least 313 (sX11_least_0 313 hl (Nat.le_refl _) ⟨sg.1, by omega, by rw [e]; show _ < (1024 : Int); omega, ⟨_, h.1, rfl, rfl, ?_, rfl⟩⟩)
  rw [zix_of e]
  exact (d _ (full_lt n)).1
/-- what a settled sign's row of bits is -/
def mvN (v : Nat) : Int32 := if v = 10 then 0 else bit1 v
def NI (h : zH) (F : Nat → Nat → Bool) (n : Nat) (J : Nat → Nat → Int32) (a : Nat) (R : Nat → Nat → Bool) (Q : Nat → Bool) : Prop :=
  NxF h J ∧ MyK (J, h.2) R Q n ∧ (∀ g, Co R Q 10 (2 ^ n - 1) g ↔ Co F noQ 10 (2 ^ n - 1) g ∧ ∀ x, x < a → g x = fstN F 10 n x) ∧ (∀ x, x < a → J 334 x = mvN (fstN F 10 n x)) ∧ ∀ x, a ≤ x → x < n → Q x = false
end K99
