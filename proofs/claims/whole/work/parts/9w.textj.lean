set_option maxRecDepth 4000
/-! ===== texts: the reference reads a text ===== -/
section K9W
variable {B : Nat → Int} {n : Nat}
theorem fz_s {q o : Nat} {full : Bool} {s : Nat × Nat} (h : s.1 ≠ 0) : ∀ k, fzB B n q o full s k = s
  | 0 => by
    unfold fzB
    split
    · exact nt_X h
    · rfl
  | k + 1 => by
    unfold fzB
    rw [fz_s h k, nt_X h, if_id, nt_X h, if_id]
def okT (h : zH) (x1 x2 : Int32) : Prop := (x1 = 0 ∨ x1 = 1) ∧ (if x2 = -1 then (zI h 314 (zix x1)).toInt < 2 else 0 ≤ x2.toInt ∧ x2.toInt < (zI h 314 (zix x1)).toInt)
def plT (sort K : Nat) : Nat := if sort = 0 then 610 + 318 * K else 1246 + 51 * K
def szT (sort : Nat) : Nat := if sort = 0 then 318 else 51
def kT (h : zH) (x1 x2 : Int32) : Int32 := if x2 = -1 then zI h 314 (zix x1) else x2
def TxW (h : zH) (x1 x2 : Int32) (sort : Nat) (V : Nat → Int) (y : Int32) (I : Nat → Nat → Int32) : Prop :=
  ∃ K : Nat, K < 2 ∧ y = kT h x1 x2 ∧ y.toInt = (K : Int) ∧ (∀ w, w < szT sort → (I 314 (plT sort K + w)).toInt = V w) ∧ (x2 = -1 → (I 314 sort).toInt = (K : Int) + 1) ∧
  ∀ j, j ≠ 2 → j ≠ 3 → j ≠ 4 → ¬ (x2 = -1 ∧ j = sort) → (j < plT sort K ∨ plT sort K + szT sort ≤ j) → I 314 j = h.1 314 j
def TxR (h : zH) (B : Nat → Int) (n : Nat) (x1 x2 : Int32) (sort : Nat) (y : Int32) (I : Nat → Nat → Int32) : Prop :=
  FlM (I, h.2) (prB B n sort (n + 1) 0 (S0s sort)).1 ∧ ((prB B n sort (n + 1) 0 (S0s sort)).1.1 ≠ 0 → y = -1 ∧ ∀ j, j ≠ 2 → j ≠ 3 → j ≠ 4 → I 314 j = h.1 314 j) ∧
  ((prB B n sort (n + 1) 0 (S0s sort)).1.1 = 0 → TxW h x1 x2 sort (prB B n sort (n + 1) 0 (S0s sort)).2 y I)
def TxP (h : zH) (B : Nat → Int) (n : Nat) (x1 x2 : Int32) (y : Int32) (I : Nat → Nat → Int32) : Prop :=
  (∀ b, b ≠ 313 → b ≠ 314 → b ≠ 316 → I b = h.1 b) ∧ I 314 2 = 0 ∧
  (¬ okT h x1 x2 → y = -2 ∧ FlM (I, h.2) (0, 0) ∧ ∀ j, j ≠ 2 → j ≠ 3 → j ≠ 4 → I 314 j = h.1 314 j) ∧
  (okT h x1 x2 → ∀ sort : Nat, x1.toInt = (sort : Int) → TxR h B n x1 x2 sort y I)
theorem pl_x {x1 x3 : Int32} {sort K : Nat} (h1 : x1.toInt = (sort : Int)) (h3 : x3.toInt = (K : Int)) (hK : K < 2) : (zplace x1 x3).toInt = ((plT sort K : Nat) : Int) := by
  unfold zplace plT
  by_cases e : x1 = 0
  · have s0 : sort = 0 := by rw [e] at h1; have : (0 : Int) = (sort : Int) := h1; omega
    rw [if_pos e, if_pos s0]
    have m : (318 * x3).toInt = 318 * x3.toInt := i_mul (by show _ ≤ (318 : Int) * x3.toInt; omega) (by show (318 : Int) * x3.toInt < _; omega)
    rw [i_add (by rw [m]; show _ ≤ (610 : Int) + _; omega) (by rw [m]; show (610 : Int) + _ < _; omega), m]
    show (610 : Int) + _ = _
    omega
  · have s0 : sort ≠ 0 := fun z => e (i_ext (by rw [h1, z]; rfl))
    rw [if_neg e, if_neg s0]
    have m : (51 * x3).toInt = 51 * x3.toInt := i_mul (by show _ ≤ (51 : Int) * x3.toInt; omega) (by show (51 : Int) * x3.toInt < _; omega)
    rw [i_add (by rw [m]; show _ ≤ (1246 : Int) + _; omega) (by rw [m]; show (1246 : Int) + _ < _; omega), m]
    show (1246 : Int) + _ = _
    omega
theorem c_textM (l : Launch) (G : zG) (h : zH) (x1 x2 : Int32) (hl : lo11 h 313) (hB : ∀ i, i < n → (zI h 314 (10 + i)).toInt = B i ∧ 0 ≤ B i ∧ B i < 256) (hn : n ≤ 600) (h2 : (zI h 314 2).toInt = (n : Int)) (r0 : 0 ≤ (zI h 314 0).toInt ∧ (zI h 314 0).toInt ≤ 2) (r1 : 0 ≤ (zI h 314 1).toInt ∧ (zI h 314 1).toInt ≤ 2) :
    CTi l G YX11_text 9 [va_rf (some 313), .int x1, .int x2] h (fun y I => TxP h B n x1 x2 y I) := by
  -- the copy
  have copy : ∀ (sort K : Nat) (R : (Nat × Nat) × (Nat → Int)) (x3 : Int32), R = prB B n sort (n + 1) 0 (S0s sort) → okT h x1 x2 → x1.toInt = (sort : Int) → sort = 0 ∨ sort = 1 → K < 2 → x3 = kT h x1 x2 → x3.toInt = (K : Int) → R.1.1 = 0 → ∀ (fu i : Nat) (x4 : Int32) (J : Nat → Nat → Int32), x4.toInt = (i : Int) → i ≤ szT sort → szT sort - i < fu → (∀ b, b ≠ 313 → b ≠ 314 → b ≠ 316 → J b = h.1 b) → J 314 2 = 0 → FlM (J, h.2) R.1 → RwM (J, h.2) R.2 → (∀ w, w < i → (J 314 (plT sort K + w)).toInt = R.2 w) → (x2 = -1 → (J 314 sort).toInt = (K : Int) + 1) → (∀ j, j ≠ 2 → j ≠ 3 → j ≠ 4 → ¬ (x2 = -1 ∧ j = sort) → (j < plT sort K ∨ plT sort K + szT sort ≤ j) → J 314 j = h.1 314 j) →
      Z l G mX11_text 9 (fun v h1 => ∃ x I1, v = some (.int x) ∧ h1 = (I1, h.2) ∧ TxP h B n x1 x2 x I1) 0 0 231 [va_rf (some 313), .int x1, .int x2, .int x3, .int x4] [] (J, h.2) := by
    intro sort K R x3 eR ok e1 hs2 hK ek e3 R0 fu
    have hpl := pl_x e1 e3 hK
    have psm : plT sort K < 1300 ∧ 600 < plT sort K ∧ szT sort ≤ 318 := by
      unfold plT szT
      rcases hs2 with e | e
      · rw [if_pos e, if_pos e]; omega
      · rw [if_neg (by omega), if_neg (by omega)]; omega
    induction fu with
    | zero => intro i x4 J e4 q0 q1; omega
    | succ fu ih =>
      intro i x4 J e4 q0 q1 fr j2 fl rw_ wr cn oth
      have fin : szT sort ≤ i → (∃ x I1, (some (.int x3) : Option Value) = some (.int x) ∧ (J, h.2) = (I1, h.2) ∧ TxP h B n x1 x2 x I1) := fun le => by
        refine ⟨x3, J, rfl, rfl, fr, j2, fun z => absurd ok z, fun _ sort' e' => ?_⟩
        have es : sort' = sort := by omega
        subst es
        unfold TxR
        rw [← eR]
        exact ⟨fl, fun z => absurd R0 z, fun _ => ⟨K, hK, ek, e3, fun w hw => wr w (by omega), cn, oth⟩⟩
      have ix : i < szT sort → (zplace x1 x3 + x4).toInt = ((plT sort K + i : Nat) : Int) := fun lt => by
        rw [i_add (by omega) (by omega), hpl, e4]; omega
      have step : i < szT sort → ∀ I14 : Nat → Nat → Int32, I14 = (zwI (J, h.2) (313 + 1) (zix (zplace x1 x3 + x4)) (zI (J, h.2) (313 + 3) (zix x4))).1 → Z l G mX11_text 9 (fun v h1 => ∃ x I1, v = some (.int x) ∧ h1 = (I1, h.2) ∧ TxP h B n x1 x2 x I1) 0 0 231 [va_rf (some 313), .int x1, .int x2, .int x3, .int (x4 + 1)] [] (I14, h.2) := fun lt I14 c4 => by
        have d : WrI (J, h.2) I14 314 (plT sort K + i) (zI (J, h.2) (313 + 3) (zix x4)) := by
          have := zwI_eff c4
          rw [zix_of (ix lt)] at this; exact this
        have ev : (zI (J, h.2) (313 + 3) (zix x4)).toInt = R.2 i := by rw [zix_of e4]; exact rw_ i (by omega)
        refine ih (i + 1) (x4 + 1) I14 (i_1 e4 (by omega)) (by omega) (by omega) (fun b z1 z2 z3 => (d.f z2).trans (fr b z1 z2 z3)) ((d.2.1 2 (by omega)).trans j2) (fl.kp (d.2.1 3 (by omega)) (d.2.1 4 (by omega))) (RwM.kp (h := (J, h.2)) rw_ (d.f (by decide))) (fun w hw => ?_) (fun z => ?_) (fun j z1 z2 z3 z4 z5 => ?_)
        · by_cases z : w = i
          · rw [z, d.2.2]; exact ev
          · rw [d.2.1 _ (by omega)]; exact wr w (by omega)
        · rw [d.2.1 _ (by omega)]; exact cn z
        · rw [d.2.1 j (by omega)]; exact oth j z1 z2 z3 z4 z5
      refine sX11_text_231 (h := (J, h.2)) 313 x1 x2 x3 x4 hl (Nat.le_refl _) ⟨fun c1 => ?_, fun c5 => ?_⟩
      · have s1 : szT sort = 51 := if_neg (fun z => c1 (i_ext (by rw [e1, z]; rfl)))
        exact ⟨fun c2 => fin (by omega), fun c3 => ⟨by omega, by omega, by rw [ix (by omega)]; omega, by rw [ix (by omega)]; omega, step (by omega)⟩⟩
      · have s1 : szT sort = 318 := if_pos (by rw [c5] at e1; have : (0 : Int) = (sort : Int) := e1; omega)
        exact ⟨fun c6 => fin (by omega), fun c7 => ⟨by omega, by omega, by rw [ix (by omega)]; omega, by rw [ix (by omega)]; omega, step (by omega)⟩⟩
  -- behind the lines
  have p186 : ∀ (sort : Nat) (R : (Nat × Nat) × (Nat → Int)) (u3 u4 : Value) (J : Nat → Nat → Int32), R = prB B n sort (n + 1) 0 (S0s sort) → okT h x1 x2 → x1.toInt = (sort : Int) → sort = 0 ∨ sort = 1 → (∀ b, b ≠ 313 → b ≠ 314 → b ≠ 316 → J b = h.1 b) → J 314 2 = 0 → FlM (J, h.2) R.1 → (R.1.1 = 0 → RwM (J, h.2) R.2) → (∀ j, j ≠ 2 → j ≠ 3 → j ≠ 4 → J 314 j = h.1 314 j) →
      Z l G mX11_text 9 (fun v h1 => ∃ x I1, v = some (.int x) ∧ h1 = (I1, h.2) ∧ TxP h B n x1 x2 x I1) 0 0 186 [va_rf (some 313), .int x1, .int x2, u3, u4] [] (J, h.2) := fun sort R u3 u4 J eR ok e1 hs2 fr j2 fl rw_ oth => by
    have f3 : zI (J, h.2) (313 + 1) (zix (3 : Int32)) = 0 ↔ R.1.1 = 0 := ⟨fun z => by
      have e := fl.1
      have z' : zI (J, h.2) 314 3 = 0 := z
      rw [z'] at e
      have : (0 : Int) = (R.1.1 : Int) := e
      omega, fun z => i_ext (by have e := fl.1; rw [z] at e; exact e)⟩
    have es : zix x1 = sort := zix_of e1
    have eJ : zI (J, h.2) 314 sort = zI h 314 sort := oth sort (by omega) (by omega) (by omega)
    have rs : 0 ≤ (zI h 314 sort).toInt ∧ (zI h 314 sort).toInt ≤ 2 := by rcases hs2 with e | e <;> (subst e; assumption)
    have xin : 0 ≤ x1.toInt ∧ x1.toInt < ((5392 : Nat) : Int) := by omega
    refine sX11_text_186 (h := (J, h.2)) 313 x1 x2 u3 u4 hl (Nat.le_refl _) ⟨fun c1 => ⟨fun c2 => ⟨fun c3 => ?_, fun c4 => absurd c4 c2⟩, fun c6 => ⟨xin.1, xin.2, fun c7 => absurd c6 c7, fun c8 => ⟨xin.1, xin.2, xin.1, xin.2, fun I26 c9 => ?_⟩⟩⟩, fun c10 => ⟨-1, J, rfl, rfl, fr, j2, fun z => absurd ok z, fun _ sort' e' => ?_⟩⟩
    · have R0 := f3.mp c1
      have k2 := ok.2
      rw [if_neg c2, es] at k2
      have ek : x2 = kT h x1 x2 := (if_neg c2).symm
      obtain ⟨K, hK⟩ : ∃ K : Nat, x2.toInt = (K : Int) := ⟨x2.toInt.toNat, by omega⟩
      refine sX11_text_228 (h := (J, h.2)) 313 x1 x2 x2 u4 hl (Nat.le_refl _) ?_
      exact copy sort K R x2 eR ok e1 hs2 (by omega) ek hK R0 (szT sort + 1) 0 0 J rfl (Nat.zero_le _) (by omega) fr j2 fl (rw_ R0) (fun w hw => absurd hw (Nat.not_lt_zero w)) (fun z => absurd z c2) (fun j z1 z2 z3 _ _ => oth j z1 z2 z3)
    · have R0 := f3.mp c1
      have k2 := ok.2
      rw [if_pos c6, es] at k2
      have ek : zI (J, h.2) (313 + 1) (zix x1) = kT h x1 x2 := by
        unfold kT
        rw [if_pos c6, es]; exact eJ
      obtain ⟨K, hK⟩ : ∃ K : Nat, (zI (J, h.2) (313 + 1) (zix x1)).toInt = (K : Int) := ⟨(zI h 314 sort).toInt.toNat, by
        rw [es, show zI (J, h.2) (313 + 1) sort = zI h 314 sort from eJ]; omega⟩
      have hK2 : K < 2 := by
        have : (zI (J, h.2) (313 + 1) (zix x1)).toInt = (zI h 314 sort).toInt := by rw [es]; exact congrArg Int32.toInt eJ
        omega
      have d : WrI (J, h.2) I26 314 sort (zI (J, h.2) (313 + 1) (zix x1) + 1) := by
        have := zwI_eff c9
        rw [es] at this ⊢; exact this
      refine sX11_text_228 (h := (I26, h.2)) 313 x1 x2 _ u4 hl (Nat.le_refl _) ?_
      refine copy sort K R _ eR ok e1 hs2 hK2 ek hK R0 (szT sort + 1) 0 0 I26 rfl (Nat.zero_le _) (by omega) (fun b z1 z2 z3 => (d.f z2).trans (fr b z1 z2 z3)) ((d.2.1 2 (by omega)).trans j2) (fl.kp (d.2.1 3 (by omega)) (d.2.1 4 (by omega))) (RwM.kp (h := (J, h.2)) (rw_ R0) (d.f (by decide))) (fun w hw => absurd hw (Nat.not_lt_zero w)) (fun _ => ?_) (fun j z1 z2 z3 z4 _ => ?_)
      · rw [d.2.2, i_1 hK (by omega)]; omega
      · rw [d.2.1 j (fun z => z4 ⟨c6, z⟩)]; exact oth j z1 z2 z3
    · have R0 : R.1.1 ≠ 0 := fun z => c10 (f3.mpr z)
      have es2 : sort' = sort := by omega
      subst es2
      unfold TxR
      rw [← eR]
      exact ⟨fl, fun _ => ⟨rfl, oth⟩, fun z => absurd z R0⟩
  have loop : ∀ (sort : Nat) (R : (Nat × Nat) × (Nat → Int)), R = prB B n sort (n + 1) 0 (S0s sort) → okT h x1 x2 → x1.toInt = (sort : Int) → sort = 0 ∨ sort = 1 → ∀ (fu : Nat) (u3 u4 : Value) (J : Nat → Nat → Int32), (∀ b, b ≠ 313 → b ≠ 314 → b ≠ 316 → J b = h.1 b) → J 314 2 = 0 → (∀ j, j ≠ 2 → j ≠ 3 → j ≠ 4 → J 314 j = h.1 314 j) → TpM (J, h.2) B n → ((MSq (J, h.2) B n true 0 R.1 ∧ R.1.1 ≠ 0) ∨ ∃ (q : Nat) (S : TxS) (V : Nat → Int), n - q < fu ∧ prB B n sort fu q S = R ∧ MSq (J, h.2) B n false q S.1 ∧ RwM (J, h.2) V ∧ LnB sort V ∧ (S.1.1 = 0 → V = S.2.1 ∧ (zI (J, h.2) 313 9).toInt = S.2.2.1 ∧ (zI (J, h.2) 313 10).toInt = S.2.2.2) ∧ (S.1.1 ≠ 0 → S.1.2 < tkW B n q) ∧ WIs sort S.2.1 S.2.2.1 S.2.2.2) →
      Z l G mX11_text 9 (fun v h1 => ∃ x I1, v = some (.int x) ∧ h1 = (I1, h.2) ∧ TxP h B n x1 x2 x I1) 0 0 99 [va_rf (some 313), .int x1, .int x2, u3, u4] [] (J, h.2) := by
    intro sort R eR ok e1 hs2 fu
    have x0 : x1 = 0 ↔ sort = 0 := ⟨fun z => by rw [z] at e1; have : (0 : Int) = (sort : Int) := e1; omega, fun z => i_ext (by rw [e1, z]; rfl)⟩
    have wrong : ∀ (u3 u4 : Value) (J : Nat → Nat → Int32), (∀ b, b ≠ 313 → b ≠ 314 → b ≠ 316 → J b = h.1 b) → J 314 2 = 0 → (∀ j, j ≠ 2 → j ≠ 3 → j ≠ 4 → J 314 j = h.1 314 j) → MSq (J, h.2) B n true 0 R.1 → R.1.1 ≠ 0 → Z l G mX11_text 9 (fun v h1 => ∃ x I1, v = some (.int x) ∧ h1 = (I1, h.2) ∧ TxP h B n x1 x2 x I1) 0 0 99 [va_rf (some 313), .int x1, .int x2, u3, u4] [] (J, h.2) := fun u3 u4 J fr j2 oth m R0 => by
      have w8 : zI (J, h.2) 313 8 = 1 := m.2.2 rfl
      have f3 : ¬ zI (J, h.2) (313 + 1) (zix (3 : Int32)) = 0 := fun z => R0 (by
        have e := m.1.1
        have z' : zI (J, h.2) 314 3 = 0 := z
        rw [z'] at e
        have : (0 : Int) = (R.1.1 : Int) := e
        omega)
      refine sX11_text_99 (h := (J, h.2)) 313 x1 x2 u3 u4 hl (Nat.le_refl _) ⟨fun c1 => ?_, fun c2 => absurd (w8.symm.trans c2) (by decide)⟩
      exact sX11_text_131 (h := (J, h.2)) 313 x1 x2 u3 u4 hl (Nat.le_refl _) ⟨fun c1 => p186 sort R u3 u4 J eR ok e1 hs2 fr j2 m.1 (fun z => absurd z R0) oth, fun c2 => absurd c2 f3⟩
    induction fu with
    | zero =>
      intro u3 u4 J fr j2 oth tp st
      rcases st with ⟨m, R0⟩ | ⟨q, S, V, a, _⟩
      · exact wrong u3 u4 J fr j2 oth m R0
      · omega
    | succ fu ih =>
      intro u3 u4 J fr j2 oth tp st
      rcases st with ⟨m, R0⟩ | ⟨q, S, V, a1, hR, m, rw_, lb, ex, pl, ws⟩
      · exact wrong u3 u4 J fr j2 oth m R0
      · obtain ⟨w8, hq, mt⟩ := m.2.1 rfl
        have e5 : (zI (J, h.2) 313 5).toInt = (tkK B n q : Int) := mt.2.2.1
        have k0 : zI (J, h.2) 313 5 = 0 ↔ tkK B n q = 0 := ⟨fun z => by
          rw [z] at e5
          have : (0 : Int) = (tkK B n q : Int) := e5
          omega, fun z => i_ext (by rw [e5, z]; rfl)⟩
        have f3 : zI (J, h.2) (313 + 1) (zix (3 : Int32)) = 0 ↔ S.1.1 = 0 := ⟨fun z => by
          have e := m.1.1
          have z' : zI (J, h.2) 314 3 = 0 := z
          rw [z'] at e
          have : (0 : Int) = (S.1.1 : Int) := e
          omega, fun z => i_ext (by have e := m.1.1; rw [z] at e; exact e)⟩
        have eP : prB B n sort (fu + 1) q S = if tkK B n q = 0 then (fiB sort S (tkW B n q), S.2.1) else if o1B B n sort q = true then (if o2B B n q = true then prB B n sort fu (nxB B n q) (stB B n q S) else ((1, tkW B n (pzB B n q (hdB B n q))), S.2.1)) else ((1, tkW B n q), S.2.1) := rfl
        -- a line more
        have more : tkK B n q ≠ 0 → ∀ I16, NlP sort (J, h.2) B n q S.1 V I16 → Z l G mX11_text 9 (fun v h1 => ∃ x I1, v = some (.int x) ∧ h1 = (I1, h.2) ∧ TxP h B n x1 x2 x I1) 0 0 99 [va_rf (some 313), .int x1, .int x2, u3, u4] [] (I16, h.2) := fun kn I16 N => by
          obtain ⟨n1, n2, n3, V', n4, n5, n6⟩ := N
          have fr2 : ∀ b, b ≠ 313 → b ≠ 314 → b ≠ 316 → I16 b = h.1 b := fun b z1 z2 z3 => (n1.1 b z1 z2 z3).trans (fr b z1 z2 z3)
          have j22 : I16 314 2 = 0 := (n1.2.2 2 (by decide) (by decide)).trans j2
          have oth2 : ∀ j, j ≠ 2 → j ≠ 3 → j ≠ 4 → I16 314 j = h.1 314 j := fun j z1 z2 z3 => (n1.2.2 j z2 z3).trans (oth j z1 z2 z3)
          by_cases oo : o1B B n sort q = true ∧ o2B B n q = true
          · have g := nx_go oo.1 oo.2
            have efz : fzB B n q (tkO B n q) (fulT (tkO B n q) V) S.1 (hdB B n q) = (stB B n q S).1 := by
              rw [stB_f]
              by_cases z : S.1.1 = 0
              · rw [(ex z).1]
              · rw [fz_s z, fz_s z]
            have M := n2 oo
            rw [efz] at M
            refine ih u3 u4 I16 fr2 j22 oth2 (n1.tp tp) (Or.inr ⟨nxB B n q, stB B n q S, V', by omega, ?_, M, n4, n5, fun z => ?_, fun z => ?_, stB_ws hs2 oo.1 oo.2 ws⟩)
            · rw [← hR, eP, if_neg kn, if_pos oo.1, if_pos oo.2]
            · have z1 : (fzB B n q (tkO B n q) (fulT (tkO B n q) V) S.1 (hdB B n q)).1 = 0 := by rw [efz]; exact z
              have s0 := (fz_0 _ z1).1
              obtain ⟨x1', x2', x3'⟩ := ex s0
              obtain ⟨y1, y2, y3⟩ := n6 oo (of_decide_eq_true oo.2).1 z1
              rw [x1', x2', x3'] at y1
              rw [x1', x2', x3'] at y2
              rw [x1', x2', x3'] at y3
              have z2 : (fzB B n q (tkO B n q) (fulT (tkO B n q) S.2.1) S.1 (hdB B n q)).1 = 0 := by rw [← stB_f]; exact z
              exact ts_key (P := fun W fo fc => V' = W ∧ (zI (I16, h.2) 313 9).toInt = fo ∧ (zI (I16, h.2) 313 10).toInt = fc) (stB_0 z2) ⟨y1, y2, y3⟩
            · rw [← efz] at z ⊢
              have hp := fz_pl (o := tkO B n q) (full := fulT (tkO B n q) V) pl kn (hdB B n q) hd_1 z
              have k2 : tkK B n (pzB B n q (hdB B n q)) ≠ 0 := by rw [(of_decide_eq_true oo.2).2]; decide
              have g2 := tk_go k2
              have tw := (tkW_sp (B := B) (n := n) (q := nxB B n q)).1
              have en : nxB B n q = tkE B n (pzB B n q (hdB B n q)) := rfl
              omega
          · have M := n3 oo
            have eRR : R.1 = (1, bpB B n sort q) := by
              rw [← hR, eP, if_neg kn]
              unfold bpB
              by_cases o1 : o1B B n sort q = true
              · rw [if_pos o1, if_pos o1, if_neg (fun o2 => oo ⟨o1, o2⟩)]
              · rw [if_neg o1, if_neg o1]
            rw [← eRR] at M
            exact wrong u3 u4 I16 fr2 j22 oth2 M (by rw [eRR]; exact Nat.one_ne_zero)
        refine sX11_text_99 (h := (J, h.2)) 313 x1 x2 u3 u4 hl (Nat.le_refl _) ⟨fun c1 => absurd w8 c1, fun c2 => ⟨fun c3 => ?_, fun c4 => ⟨fun c5 => ?_, fun c7 => ?_⟩⟩⟩
        · have kz := k0.mp c3
          have eRR : R = (fiB sort S (tkW B n q), S.2.1) := by rw [← hR, eP, if_pos kz]
          have ok_ : ¬ (sort = 0 ∧ (S.2.1 3 ≤ S.2.2.1 ∨ S.2.1 0 * S.2.1 1 ≤ S.2.2.2)) → Z l G mX11_text 9 (fun v h1 => ∃ x I1, v = some (.int x) ∧ h1 = (I1, h.2) ∧ TxP h B n x1 x2 x I1) 0 0 186 [va_rf (some 313), .int x1, .int x2, u3, u4] [] (J, h.2) := fun nc => by
            have e2 : R = (S.1, S.2.1) := by rw [eRR]; unfold fiB; rw [if_neg nc]
            refine p186 sort R u3 u4 J eR ok e1 hs2 fr j2 (by rw [e2]; exact m.1) (fun z => ?_) oth
            rw [e2] at z ⊢
            have := (ex z).1
            subst this; exact rw_
          have ft : S.1.1 ≠ 0 → Z l G mX11_text 9 (fun v h1 => ∃ x I1, v = some (.int x) ∧ h1 = (I1, h.2) ∧ TxP h B n x1 x2 x I1) 0 0 186 [va_rf (some 313), .int x1, .int x2, u3, u4] [] (J, h.2) := fun nz => by
            have e2 : R = (S.1, S.2.1) := by
              rw [eRR]; unfold fiB
              split
              · rw [nt_X nz]
              · rfl
            exact p186 sort R u3 u4 J eR ok e1 hs2 fr j2 (by rw [e2]; exact m.1) (fun z => by rw [e2] at z; exact absurd z nz) oth
          have bad : S.1.1 = 0 → (sort = 0 ∧ (S.2.1 3 ≤ S.2.2.1 ∨ S.2.1 0 * S.2.1 1 ≤ S.2.2.2)) → Z l G mX11_text 9 (fun v h1 => ∃ x I1, v = some (.int x) ∧ h1 = (I1, h.2) ∧ TxP h B n x1 x2 x I1) 0 0 177 [va_rf (some 313), .int x1, .int x2, u3, u4] [] (J, h.2) := fun z0 cc => by
            refine sX11_text_177 (h := (J, h.2)) 313 x1 x2 u3 u4 hl (Nat.le_refl _) ⟨_, c_also l G (J, h.2) S.1 4 (tkW B n q) q false 4 _ hl rfl (by decide) mt.1 m, fun I4 d1 => ?_⟩
            obtain ⟨g1, g2⟩ := d1
            rw [if_neg Bool.false_ne_true, al_z z0] at g2
            have e2 : R = ((4, tkW B n q), S.2.1) := by rw [eRR]; unfold fiB; rw [if_pos cc, nt_z z0]
            exact p186 sort R u3 u4 I4 eR ok e1 hs2 (fun b y1 y2 y3 => (g1.1 b y1 y2).trans (fr b y1 y2 y3)) ((g1.2.2 2 (by decide) (by decide)).trans j2) (by rw [e2]; exact g2.1) (fun z => by rw [e2] at z; exact absurd z (Nat.succ_ne_zero 3)) (fun j y1 y2 y3 => (g1.2.2 j y2 y3).trans (oth j y1 y2 y3))
          refine sX11_text_131 (h := (J, h.2)) 313 x1 x2 u3 u4 hl (Nat.le_refl _) ⟨fun c1 => ft (fun z => c1 (f3.mpr z)), fun c2 => ⟨fun c3 => ok_ (fun z => c3 (x0.mpr z.1)), fun c4 => ?_⟩⟩
          have z0 := f3.mp c2
          have s0 := x0.mp c4
          obtain ⟨x1', x2', x3'⟩ := ex z0
          have hd := (ws.1 s0).hd
          have a3 : (zI (J, h.2) (313 + 3) (zix (3 : Int32))).toInt = S.2.1 3 := by rw [← x1']; exact rw_ 3 (by decide)
          have a0 : (zI (J, h.2) (313 + 3) (zix (0 : Int32))).toInt = S.2.1 0 := by rw [← x1']; exact rw_ 0 (by decide)
          have aa : (zI (J, h.2) (313 + 3) (zix (1 : Int32))).toInt = S.2.1 1 := by rw [← x1']; exact rw_ 1 (by decide)
          have p1 : 4 ≤ S.2.1 0 * S.2.1 1 := by
            have := Int.mul_le_mul hd.1.1 hd.2.1.1 (by decide) (by omega)
            omega
          have p2 : S.2.1 0 * S.2.1 1 ≤ 64 := by
            have := Int.mul_le_mul hd.1.2 hd.2.1.2 (by omega) (by decide)
            omega
          have am : (zI (J, h.2) (313 + 3) (zix (0 : Int32)) * zI (J, h.2) (313 + 3) (zix (1 : Int32))).toInt = S.2.1 0 * S.2.1 1 := by
            rw [i_mul (by rw [a0, aa]; omega) (by rw [a0, aa]; omega), a0, aa]
          refine ⟨fun c5 => bad z0 ⟨s0, Or.inl (by rw [← a3, ← x2']; exact c5)⟩, fun c6 => ⟨fun c7 => ok_ (fun z => ?_), fun c8 => bad z0 ⟨s0, Or.inr (by rw [← am, ← x3']; exact c8)⟩⟩⟩
          rw [a3, x2'] at c6
          rw [am, x3'] at c7
          omega
        · have kn : tkK B n q ≠ 0 := fun z => c4 (k0.mpr z)
          have s1 : sort = 1 := hs2.elim (fun z => absurd (x0.mpr z) c5) id
          subst s1
          exact ⟨_, c_signLine l G (J, h.2) q S.1 V hl tp pl m rw_ lb, fun I16 c6 => more kn I16 c6⟩
        · have kn : tkK B n q ≠ 0 := fun z => c4 (k0.mpr z)
          have s0 := x0.mp c7
          subst s0
          exact ⟨_, c_nightLine l G (J, h.2) q S.1 V hl tp hq pl m rw_ lb, fun I25 c8 => more kn I25 c8⟩
  refine kX11_text 313 x1 x2 (sX11_text_0 (h := h) 313 x1 x2 hl (Nat.le_refl _) (fun I2 c1 I6 c2 I10 c3 I14 c4 => ?_))
  have d1 : WrI h I2 313 2 (zI h 314 2) := zwI_eff c1
  have d2 : WrI (I2, h.2) I6 314 2 0 := zwI_eff c2
  have d3 : WrI (I6, h.2) I10 314 3 0 := zwI_eff c3
  have d4 : WrI (I10, h.2) I14 314 4 (-1) := zwI_eff c4
  have fr14 : ∀ b, b ≠ 313 → b ≠ 314 → b ≠ 316 → I14 b = h.1 b := fun b z1 z2 _ => (d4.f z2).trans ((d3.f z2).trans ((d2.f z2).trans (d1.f z1)))
  have oth14 : ∀ j, j ≠ 2 → j ≠ 3 → j ≠ 4 → I14 314 j = h.1 314 j := fun j z1 z2 z3 => (d4.2.1 j z3).trans ((d3.2.1 j z2).trans ((d2.2.1 j z1).trans (congrFun (d1.f (by decide)) j)))
  have j2 : I14 314 2 = 0 := (d4.2.1 2 (by decide)).trans ((d3.2.1 2 (by decide)).trans d2.2.2)
  have fl0 : FlM (I14, h.2) (0, 0) := ⟨by show (I14 314 3).toInt = 0; rw [d4.2.1 3 (by decide)]; show (I10 314 3).toInt = 0; rw [d3.2.2]; rfl, fun _ => d4.2.2, fun z => absurd rfl z⟩
  have no : ¬ okT h x1 x2 → Z l G mX11_text 9 (fun v h1 => ∃ x I1, v = some (.int x) ∧ h1 = (I1, h.2) ∧ TxP h B n x1 x2 x I1) 0 0 67 [va_rf (some 313), .int x1, .int x2, zU, zU] [] (I14, h.2) := fun nk =>
    sX11_text_67 (h := (I14, h.2)) 313 x1 x2 zU zU hl (Nat.le_refl _) ⟨-2, I14, rfl, rfl, fr14, j2, fun _ => ⟨rfl, fl0, oth14⟩, fun z => absurd z nk⟩
  have x01 : zin3 x1 0 1 = true → ∃ sort : Nat, x1.toInt = (sort : Int) ∧ (sort = 0 ∨ sort = 1) ∧ (x1 = 0 ∨ x1 = 1) ∧ zix x1 = sort := fun z => by
    have := in3_i.mp z
    have t0 : (0 : Int32).toInt = 0 := rfl
    have t1 : (1 : Int32).toInt = 1 := rfl
    rw [t0, t1] at this
    by_cases y : x1.toInt = 0
    · exact ⟨0, y, Or.inl rfl, Or.inl (i_ext y), zix_of y⟩
    · have y1 : x1.toInt = 1 := by omega
      exact ⟨1, y1, Or.inr rfl, Or.inr (i_ext y1), zix_of y1⟩
  have eI : ∀ sort, sort = 0 ∨ sort = 1 → zI (I14, h.2) 314 sort = zI h 314 sort := fun sort hs => oth14 sort (by omega) (by omega) (by omega)
  have yes : okT h x1 x2 → zin3 x1 0 1 = true → Z l G mX11_text 9 (fun v h1 => ∃ x I1, v = some (.int x) ∧ h1 = (I1, h.2) ∧ TxP h B n x1 x2 x I1) 0 0 70 [va_rf (some 313), .int x1, .int x2, zU, zU] [] (I14, h.2) := fun ok z => by
    obtain ⟨sort, e1, hs2, _, es⟩ := x01 z
    refine sX11_text_70 (h := (I14, h.2)) 313 x1 x2 zU zU hl (Nat.le_refl _) (fun I1 b1 I4 b2 I7 b3 I10' b4 => ⟨_, c_clears l G (I10', h.2) sort x1 hl e1 hs2, fun I16 b5 => ?_⟩)
    have f1 : WrI (I14, h.2) I1 313 3 0 := zwI_eff b1
    have f2 : WrI (I1, h.2) I4 313 8 0 := zwI_eff b2
    have f3 : WrI (I4, h.2) I7 313 9 (-1) := zwI_eff b3
    have f4 : WrI (I7, h.2) I10' 313 10 (-1) := zwI_eff b4
    obtain ⟨b6, b7⟩ := b5
    have g13 : I16 313 = I10' 313 := b6 313 (by decide)
    have k3 : I16 313 3 = 0 := by rw [g13, f4.2.1 3 (by decide)]; show I7 313 3 = 0; rw [f3.2.1 3 (by decide)]; show I4 313 3 = 0; rw [f2.2.1 3 (by decide)]; exact f1.2.2
    have k8 : I16 313 8 = 0 := by rw [g13, f4.2.1 8 (by decide)]; show I7 313 8 = 0; rw [f3.2.1 8 (by decide)]; exact f2.2.2
    have k9 : I16 313 9 = -1 := by rw [g13, f4.2.1 9 (by decide)]; exact f3.2.2
    have k10 : I16 313 10 = -1 := by rw [g13]; exact f4.2.2
    have k2 : I16 313 2 = zI h 314 2 := by rw [g13, f4.2.1 2 (by decide)]; show I7 313 2 = _; rw [f3.2.1 2 (by decide)]; show I4 313 2 = _; rw [f2.2.1 2 (by decide)]; show I1 313 2 = _; rw [f1.2.1 2 (by decide)]; show I14 313 2 = _; rw [d4.f (by decide)]; show I10 313 2 = _; rw [d3.f (by decide)]; show I6 313 2 = _; rw [d2.f (by decide)]; exact d1.2.2
    have o16 : ∀ b, b ≠ 313 → b ≠ 316 → I16 b = I14 b := fun b z1 z2 => (b6 b z2).trans ((f4.f z1).trans ((f3.f z1).trans ((f2.f z1).trans (f1.f z1))))
    have tp : TpM (I16, h.2) B n := ⟨by show (I16 313 2).toInt = _; rw [k2]; exact h2, fun i hi => by
      show (I16 314 (10 + i)).toInt = _ ∧ _
      rw [o16 314 (by decide) (by decide), oth14 (10 + i) (by omega) (by omega) (by omega)]; exact hB i hi, hn⟩
    refine ⟨_, c_advance l G (I16, h.2) 0 hl tp (Nat.zero_le _) (by show (I16 313 3).toInt = _; rw [k3]; rfl), fun I25 b8 => ?_⟩
    obtain ⟨u1, u2⟩ := b8
    have o25 : ∀ b, b ≠ 313 → b ≠ 316 → I25 b = I14 b := fun b z1 z2 => (u1.1 b z1).trans (o16 b z1 z2)
    have fl25 : FlM (I25, h.2) (0, 0) := FlM.kp (h := (I14, h.2)) fl0 (congrFun (o25 314 (by decide) (by decide)) 3) (congrFun (o25 314 (by decide) (by decide)) 4)
    refine loop sort _ rfl ok e1 hs2 (n + 1) zU zU I25 (fun b z1 z2 z3 => (o25 b z1 z3).trans (fr14 b z1 z2 z3)) ?_ (fun j z1 z2 z3 => ?_) (u1.tp tp) (Or.inr ⟨0, S0s sort, V0s sort, by omega, rfl, ⟨fl25, fun _ => ⟨?_, Nat.zero_le _, u2⟩, fun z => by cases z⟩, RwM.kp (h := (I16, h.2)) b7 (u1.1 316 (by decide)), ?_, fun _ => ⟨rfl, ?_, ?_⟩, fun z => absurd rfl z, WIs_0 hs2⟩)
    · rw [o25 314 (by decide) (by decide)]; exact j2
    · rw [o25 314 (by decide) (by decide)]; exact oth14 j z1 z2 z3
    · show I25 313 8 = 0
      rw [u1.2 8 (by decide)]; exact k8
    · rcases hs2 with e | e
      · subst e; exact ⟨fun _ => by decide, fun z => absurd z (by decide)⟩
      · subst e; exact ⟨fun z => absurd z (by decide), fun _ => by decide⟩
    · show (I25 313 9).toInt = -1
      rw [u1.2 9 (by decide)]; show (I16 313 9).toInt = -1; rw [k9]; rfl
    · show (I25 313 10).toInt = -1
      rw [u1.2 10 (by decide)]; show (I16 313 10).toInt = -1; rw [k10]; rfl
  refine ⟨fun c5 => no (fun z => ?_), fun c6 => ?_⟩
  · have := z.1
    rcases this with e | e
    · rw [e] at c5; exact absurd c5 (by decide)
    · rw [e] at c5; exact absurd c5 (by decide)
  · obtain ⟨sort, e1, hs2, ex1, es⟩ := x01 c6
    have zok : ziok x1 := by show 0 ≤ x1.toInt ∧ x1.toInt < 5392; omega
    have rs : 0 ≤ (zI h 314 sort).toInt ∧ (zI h 314 sort).toInt ≤ 2 := by rcases hs2 with e | e <;> (subst e; assumption)
    have m1 : (zI (I14, h.2) (313 + 1) (zix x1) - 1).toInt = (zI h 314 sort).toInt - 1 := by
      have : zI (I14, h.2) (313 + 1) (zix x1) = zI h 314 sort := by rw [es]; exact eI sort hs2
      rw [this, i_sub (by show _ ≤ _ - (1 : Int); omega) (by show _ - (1 : Int) < _; omega)]; rfl
    refine ⟨fun c7 => ⟨zok, fun c8 => yes ⟨ex1, ?_⟩ c6, fun c9 => no (fun z => ?_)⟩, fun c10 => ⟨zok.1, by omega, fun c11 => yes ⟨ex1, ?_⟩ c6, fun c12 => no (fun z => ?_)⟩⟩
    · have := in3_i.mp c8
      rw [m1] at this
      have t0 : (0 : Int32).toInt = 0 := rfl
      rw [if_neg c7, es]
      omega
    · have k := z.2
      rw [if_neg c7, es] at k
      have : zin3 x2 0 (zI (I14, h.2) (313 + 1) (zix x1) - 1) = true := in3_i.mpr (by rw [m1]; have t0 : (0 : Int32).toInt = 0 := rfl; omega)
      have c9' : zin3 x2 0 (zI (I14, h.2) (313 + 1) (zix x1) - 1) = false := c9
      rw [this] at c9'; cases c9'
    · rw [if_pos c10, es, ← eI sort hs2]
      rw [es] at c11; exact c11
    · have k := z.2
      rw [if_pos c10, es] at k
      rw [es, show zI (I14, h.2) (313 + 1) sort = zI h 314 sort from eI sort hs2] at c12
      omega
end K9W
