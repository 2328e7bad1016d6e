set_option maxRecDepth 4000
/-! ===== texts: a line without a heap; the class tells ===== -/
section K9M
variable {B : Nat → Int} {n : Nat}
theorem nt_ne {s : Nat × Nat} {k p : Nat} (hk : k ≠ 0) : (ntS s k p).1 ≠ 0 := by
  unfold ntS
  split
  · exact hk
  · assumption
theorem fz_0 {q o : Nat} {full : Bool} {s : Nat × Nat} : ∀ k, (fzB B n q o full s k).1 = 0 → s.1 = 0 ∧ full = false ∧ ∀ i, i < k → bdT o i (vzB B n q i) (vzB B n q 0) = false ∧ ¬ (o = 4 ∧ i = 27)
  | 0, h => by
    unfold fzB at h
    split at h
    · exact absurd h (nt_ne (by decide))
    · rename_i z
      exact ⟨h, by cases full with | false => rfl | true => exact absurd rfl z, fun i hi => absurd hi (Nat.not_lt_zero i)⟩
  | k + 1, h => by
    unfold fzB at h
    split at h
    · exact absurd h (nt_ne (by decide))
    · rename_i z
      split at h
      · exact absurd h (nt_ne (by decide))
      · rename_i y
        obtain ⟨a, b, c⟩ := fz_0 k h
        refine ⟨a, b, fun i hi => ?_⟩
        by_cases e : i = k
        · subst e
          refine ⟨?_, z⟩
          cases w : bdT o i (vzB B n q i) (vzB B n q 0) with
          | false => rfl
          | true => exact absurd w y
        · exact c i (by omega)
theorem bd_0 {o i : Nat} {v a0 : Int} (h : bdT o i v a0 = false) : loT o i ≤ v ∧ v ≤ hiT o i ∧ ¬ (o = 5 ∧ i = 1 ∧ v = a0) := by
  have := of_decide_eq_false h
  exact ⟨Int.not_lt.mp fun z => this (Or.inl z), Int.not_lt.mp fun z => this (Or.inr (Or.inl z)), fun z => this (Or.inr (Or.inr z))⟩
theorem cz_eq {q i : Nat} : ∀ L, (∀ j, j < i → tkK B n (pzB B n q j) = 1) → i ≤ L → (i = L ∨ tkK B n (pzB B n q i) ≠ 1) → czB B n q L = i
  | L, h1, h2, h3 => by
    obtain ⟨a, b, c⟩ := czB_sp (B := B) (n := n) (q := q) L
    by_cases z : czB B n q L < i
    · exact absurd (h1 _ z) (c (by omega))
    · by_cases y : i < czB B n q L
      · rcases h3 with e | e
        · omega
        · exact absurd (b i y) e
      · omega
theorem li_ls : ∀ o, o < 12 → o ≠ 4 → liT o = lsT o := by decide
theorem okO_in {sort o : Nat} (h : okO sort o = true) : 1 ≤ o ∧ o < 12 := by
  unfold okO at h
  split at h
  · have := of_decide_eq_true h; omega
  · have := of_decide_eq_true h; omega
theorem o1_ok {sort q : Nat} (h : o1B B n sort q = true) : tkK B n q = 3 ∧ okO sort (tkO B n q) = true := by
  have h2 := (Bool.and_eq_true _ _).mp h
  exact ⟨of_decide_eq_true h2.1, h2.2⟩
theorem ln_bd {sort q : Nat} {S : TxS} (h1 : o1B B n sort q = true) (h2 : o2B B n q = true) (hf : (fzB B n q (tkO B n q) (fulT (tkO B n q) S.2.1) S.1 (hdB B n q)).1 = 0) : BdT (tkO B n q) (hdB B n q) (vzB B n q) ∧ S.1.1 = 0 ∧ fulT (tkO B n q) S.2.1 = false := by
  obtain ⟨a, b, c⟩ := fz_0 _ hf
  have o2 := of_decide_eq_true h2
  have ok := okO_in (o1_ok h1).2
  have cz := (czB_sp (B := B) (n := n) (q := q) (liT (tkO B n q))).1
  refine ⟨⟨fun i hi => ?_, o2.1, fun ne => ?_, fun e => ?_, fun e => ?_⟩, a, b⟩
  · have := bd_0 (c i hi).1; exact ⟨this.1, this.2.1⟩
  · have := li_ls _ ok.2 ne
    have e : hdB B n q = czB B n q (liT (tkO B n q)) := rfl
    have := o2.1
    omega
  · exact Nat.le_of_not_lt fun z => (c 27 (by omega)).2 ⟨e, rfl⟩
  · have l2 : lsT (tkO B n q) = 2 := by rw [e]; rfl
    have := bd_0 (c 1 (by omega)).1
    exact fun z => this.2.2 ⟨e, rfl, z⟩
theorem hd_1 {q : Nat} : ∀ j, j < hdB B n q → tkK B n (pzB B n q j) = 1 := (czB_sp (B := B) (n := n) (q := q) (liT (tkO B n q))).2.1
theorem nx_go {sort q : Nat} (h1 : o1B B n sort q = true) (h2 : o2B B n q = true) : q < nxB B n q ∧ nxB B n q ≤ n ∧ tkW B n q < nxB B n q := by
  have k0 : tkK B n q ≠ 0 := by rw [(o1_ok h1).1]; decide
  have g := pz_grow k0 (hdB B n q) hd_1
  have g0 := tk_go k0
  have o2 := of_decide_eq_true h2
  have k2 : tkK B n (pzB B n q (hdB B n q)) ≠ 0 := by rw [o2.2]; decide
  have g2 := tk_go k2
  have e : nxB B n q = tkE B n (pzB B n q (hdB B n q)) := rfl
  rw [e]
  omega
theorem stB_0 {q : Nat} {S : TxS} (hf : (fzB B n q (tkO B n q) (fulT (tkO B n q) S.2.1) S.1 (hdB B n q)).1 = 0) : stB B n q S = (fzB B n q (tkO B n q) (fulT (tkO B n q) S.2.1) S.1 (hdB B n q), tlI (tkO B n q) (vzB B n q) (hdB B n q) S.2.1 S.2.2.1 S.2.2.2) := if_pos hf
theorem stB_1 {q : Nat} {S : TxS} (hf : (fzB B n q (tkO B n q) (fulT (tkO B n q) S.2.1) S.1 (hdB B n q)).1 ≠ 0) : stB B n q S = (fzB B n q (tkO B n q) (fulT (tkO B n q) S.2.1) S.1 (hdB B n q), S.2) := if_neg hf
theorem stB_f {q : Nat} {S : TxS} : (stB B n q S).1 = fzB B n q (tkO B n q) (fulT (tkO B n q) S.2.1) S.1 (hdB B n q) := by
  by_cases hf : (fzB B n q (tkO B n q) (fulT (tkO B n q) S.2.1) S.1 (hdB B n q)).1 = 0
  · rw [stB_0 hf]
  · rw [stB_1 hf]
theorem ts_key {P : (Nat → Int) → Int → Int → Prop} {F : Nat × Nat} {T : (Nat → Int) × Int × Int} {R : TxS} (e : R = (F, T)) (h : P T.1 T.2.1 T.2.2) : P R.2.1 R.2.2.1 R.2.2.2 := by
  subst e; exact h
theorem stB_ws {sort q : Nat} {S : TxS} (hs : sort = 0 ∨ sort = 1) (h1 : o1B B n sort q = true) (h2 : o2B B n q = true) (w : WIs sort S.2.1 S.2.2.1 S.2.2.2) : WIs sort (stB B n q S).2.1 (stB B n q S).2.2.1 (stB B n q S).2.2.2 := by
  by_cases hf : (fzB B n q (tkO B n q) (fulT (tkO B n q) S.2.1) S.1 (hdB B n q)).1 = 0
  · obtain ⟨a, b, c⟩ := ln_bd h1 h2 hf
    exact ts_key (P := WIs sort) (stB_0 hf) (WIs.st (v := vzB B n q) hs (o1_ok h1).2 w a c)
  · exact ts_key (P := WIs sort) (stB_1 hf) w
/-- a row that is told is what rows can be -/
theorem pr_ok {sort : Nat} (hs : sort = 0 ∨ sort = 1) : ∀ (f q : Nat) (S : TxS), n - q < f → q ≤ n → WIs sort S.2.1 S.2.2.1 S.2.2.2 → (prB B n sort f q S).1.1 = 0 → (sort = 0 → WFN (prB B n sort f q S).2) ∧ (sort = 1 → WFR (prB B n sort f q S).2)
  | 0, q, S, h, _, _, _ => by omega
  | f + 1, q, S, h, hq, w, hr => by
    unfold prB at hr ⊢
    split at hr
    · rename_i k0
      rw [if_pos k0]
      refine ⟨fun e => ?_, fun e => w.2 e⟩
      have w0 := w.1 e
      unfold fiB at hr
      split at hr
      · exact absurd hr (nt_ne (by decide))
      · rename_i z
        exact w0.fin (Int.not_le.mp fun y => z ⟨e, Or.inl y⟩) (Int.not_le.mp fun y => z ⟨e, Or.inr y⟩)
    · rename_i k0
      rw [if_neg k0]
      split at hr
      · rename_i h1
        rw [if_pos h1]
        split at hr
        · rename_i h2
          rw [if_pos h2]
          have g := nx_go h1 h2
          exact pr_ok hs f (nxB B n q) (stB B n q S) (by omega) g.2.1 (stB_ws hs h1 h2 w) hr
        · exact absurd hr Nat.one_ne_zero
      · exact absurd hr Nat.one_ne_zero
theorem c_tell (l : Launch) (G : zG) (h : zH) (sort o had : Nat) (V : Nat → Int) (fo fc : Int) (v : Nat → Int) (x1 x2 : Int32) (hl : lo5 h 55) (hs : sort = 0 ∨ sort = 1) (ok : okO sort o = true) (st : CSt sort h V fo fc) (w : WIs sort V fo fc) (hx1 : x1.toInt = (o : Int) - 1) (hx2 : x2.toInt = (had : Int)) (hn : ∀ j, j < had → j < 27 → (zI h 80 j).toInt = v j) (b : BdT o had v) (nf : fulT o V = false) :
    CTv l G YX5_tell 3 [va_rf (some 55), .int x1, .int x2] h (fun I => FrL h I ∧ CSt sort (I, h.2) (tlI o v had V fo fc).1 (tlI o v had V fo fc).2.1 (tlI o v had V fo fc).2.2) := by
  have oi := okO_in ok
  have s0 : o ≤ 10 → sort = 0 := fun e => hs.elim id (fun z => by rw [z] at ok; have := ok_1 ok; omega)
  have s1 : o = 11 → sort = 1 := fun e => hs.elim (fun z => by rw [z] at ok; have := ok_0 ok; omega) id
  have z80 : ∀ (c : Int32) (j : Nat), c.toInt = (j : Int) → j < had → j < 27 → (zget h (some (55 + 25)) c).toInt = v j := fun c j hc hj h27 => by
    have : zget h (some (55 + 25)) c = zI h 80 j := zget_w (n := 27) (hl.w 25 rfl) hc h27
    rw [this]; exact hn j hj h27
  have b1 := b.1
  have b2 := b.2.1
  have eN : ∀ x : Int, 0 ≤ x → x = (x.toNat : Int) := fun x hx => by omega
  refine kX5_tell 55 x1 x2 (sX5_tell_0 55 x1 x2 hl (Nat.le_refl _) ⟨fun c1 => ?_, fun c3 I22 c4 I25 c5 => ?_, fun c6 I29 c7 => ?_, fun c8 => ?_, fun c10 => ?_, fun c12 => ?_, fun c14 => ?_, fun c16 => ?_, fun c18 => ?_, fun c20 I99 c21 => ?_, fun c22 => ?_⟩)
  · have e : o = 11 := by omega
    subst e
    have e1 := s1 rfl
    subst e1
    have h5 : had = 5 := b.2.2.1 (by decide)
    have w0 := (w.2 rfl).1
    have f := ful_11 nf
    exact ⟨_, c_tellSign l G h V fo fc v (V 0).toNat hl st (fun j hj => hn j (by omega) (by omega)) (eN _ w0.1) (by omega), fun I15 c2 => ⟨I15, rfl, rfl, c2⟩⟩
  · have e : o = 1 := by omega
    subst e
    have e1 := s0 (by decide)
    subst e1
    have h5 : had = 2 := b.2.2.1 (by decide)
    obtain ⟨nx, s12, s11⟩ := st.1 rfl
    have d1 : WrI h I22 56 0 (zget h (some (55 + 25)) (0 : Int32)) := zwI_eff c4
    have d2 : WrI (I22, h.2) I25 56 1 (zget h (some (55 + 25)) (1 : Int32)) := zwI_eff c5
    have a1 := NXl.wr 0 56 0 nx (by decide) (ad_0 0 (by decide)) d1 (z80 0 0 rfl (by omega) (by decide))
    have a2 := NXl.wr 1 56 1 a1 (by decide) (ad_0 1 (by decide)) d2 (z80 1 1 rfl (by omega) (by decide))
    have f55 : I25 55 = h.1 55 := (d2.f (by decide)).trans (d1.f (by decide))
    refine ⟨I25, rfl, rfl, ((FrL.rf h).w1 d1 (by decide)).w1 d2 (by decide), CSt.n (a2.to (fun w hw hl2 => Or.inr (Or.inr (liv_cg (V' := upI (upI V 0 (v 0)) 1 (v 1)) rfl rfl (fun p => by rw [upI_ne (by omega), upI_ne (by omega)]) hl2)))) ?_ ?_⟩
    · show (I25 55 12).toInt = _; rw [f55]; exact s12
    · show (I25 55 11).toInt = _; rw [f55]; exact s11
  · have e : o = 2 := by omega
    subst e
    have e1 := s0 (by decide)
    subst e1
    obtain ⟨nx, s12, s11⟩ := st.1 rfl
    have d1 : WrI h I29 56 2 (zget h (some (55 + 25)) (0 : Int32)) := zwI_eff c7
    have a1 := NXl.wr 2 56 2 nx (by decide) (ad_0 2 (by decide)) d1 (z80 0 0 rfl b2 (by decide))
    refine ⟨I29, rfl, rfl, (FrL.rf h).w1 d1 (by decide), CSt.n (a1.to (fun w hw hl2 => Or.inr (liv_cg (V' := upI V 2 (v 0)) rfl rfl (fun p => upI_ne (by omega)) hl2))) ?_ ?_⟩
    · show (I29 55 12).toInt = _; rw [d1.f (by decide)]; exact s12
    · show (I29 55 11).toInt = _; rw [d1.f (by decide)]; exact s11
  · have e : o = 3 := by omega
    subst e
    have e1 := s0 (by decide)
    subst e1
    have h5 : had = 4 := b.2.2.1 (by decide)
    have f := ful_3 nf
    have hd := (w.1 rfl).hd
    exact ⟨_, c_tellFoot l G h V fo fc v _ _ _ _ (V 3).toNat hl st (z80 0 0 rfl (by omega) (by decide)) (z80 1 1 rfl (by omega) (by decide)) (z80 2 2 rfl (by omega) (by decide)) (z80 3 3 rfl (by omega) (by decide)) (eN _ hd.2.2.2.1.1) (by omega), fun I39 c9 => ⟨I39, rfl, rfl, c9⟩⟩
  · have e : o = 4 := by omega
    subst e
    have e1 := s0 (by decide)
    subst e1
    have h4 : 4 ≤ had := b2
    have h27 := b.2.2.2.1 rfl
    have b0 : 0 ≤ v 0 ∧ v 0 ≤ 5 := b1 0 (by omega)
    exact ⟨_, c_tellWalk l G h V fo fc v _ _ _ _ (v 0).toNat had hl st (z80 0 0 rfl (by omega) (by decide)) (z80 1 1 rfl (by omega) (by decide)) (z80 2 2 rfl (by omega) (by decide)) (by rw [i_sub (by rw [hx2]; show _ ≤ _ - (3 : Int); omega) (by rw [hx2]; show _ - (3 : Int) < _; omega), hx2]; rfl) ⟨h4, h27⟩ (fun j hj => hn j hj (by omega)) (eN _ b0.1) (by omega), fun I49 c11 => ⟨I49, rfl, rfl, c11⟩⟩
  · have e : o = 5 := by omega
    subst e
    have e1 := s0 (by decide)
    subst e1
    have h5 : had = 2 := b.2.2.1 (by decide)
    have b0 : 0 ≤ v 1 ∧ v 1 ≤ 5 := b1 1 (by omega)
    exact ⟨_, c_tellCarry l G h V fo fc v _ _ (v 1).toNat hl st (z80 0 0 rfl (by omega) (by decide)) (z80 1 1 rfl (by omega) (by decide)) (eN _ b0.1) (by omega), fun I59 c13 => ⟨I59, rfl, rfl, c13⟩⟩
  · have e : o = 6 := by omega
    subst e
    have e1 := s0 (by decide)
    subst e1
    have b0 : 0 ≤ v 0 ∧ v 0 ≤ 5 := b1 0 b2
    exact ⟨_, c_tellManner l G h V fo fc v 0 _ _ (v 0).toNat hl st (z80 0 0 rfl b2 (by decide)) rfl (eN _ b0.1) (by omega), fun I69 c15 => ⟨I69, rfl, rfl, c15⟩⟩
  · have e : o = 7 := by omega
    subst e
    have e1 := s0 (by decide)
    subst e1
    have b0 : 0 ≤ v 0 ∧ v 0 ≤ 5 := b1 0 b2
    exact ⟨_, c_tellManner l G h V fo fc v 1 _ _ (v 0).toNat hl st (z80 0 0 rfl b2 (by decide)) rfl (eN _ b0.1) (by omega), fun I69 c15 => ⟨I69, rfl, rfl, c15⟩⟩
  · have e : o = 8 := by omega
    subst e
    have e1 := s0 (by decide)
    subst e1
    have b0 : 0 ≤ v 0 ∧ v 0 ≤ 5 := b1 0 b2
    exact ⟨_, c_tellManner l G h V fo fc v 2 _ _ (v 0).toNat hl st (z80 0 0 rfl b2 (by decide)) rfl (eN _ b0.1) (by omega), fun I69 c15 => ⟨I69, rfl, rfl, c15⟩⟩
  · have e : o = 9 := by omega
    subst e
    have e1 := s0 (by decide)
    subst e1
    obtain ⟨nx, s12, s11⟩ := st.1 rfl
    have b0 : 0 ≤ v 0 ∧ v 0 ≤ 99 := b1 0 b2
    have d1 : WrI h I99 61 (v 0).toNat (1 : Int32) := zput_eff (q := 61) (N := 100) (hl.w 6 rfl) ((z80 0 0 rfl b2 (by decide)).trans (eN _ b0.1)) (by omega) c21
    have a1 := NXl.wr (5 + (v 0).toNat) 61 (v 0).toNat (x := 1) nx (by omega) (ad_r _ (by omega)) d1 rfl
    refine ⟨I99, rfl, rfl, (FrL.rf h).w1 d1 (by decide), CSt.n (a1.to (fun w hw hl2 => Or.inr (liv_cg (V' := upI V (5 + (v 0).toNat) 1) (upI_ne (by omega)) (upI_ne (by omega)) (fun p => upI_ne (by omega)) hl2))) ?_ ?_⟩
    · show (I99 55 12).toInt = _; rw [d1.f (by decide)]; exact s12
    · show (I99 55 11).toInt = _; rw [d1.f (by decide)]; exact s11
  · have e : o = 10 := by omega
    subst e
    have e1 := s0 (by decide)
    subst e1
    have h5 : had = 3 := b.2.2.1 (by decide)
    have f := ful_10 nf
    have hd := (w.1 rfl).hd
    exact ⟨_, c_tellErrand l G h V fo fc v _ _ _ (V 4).toNat hl st (z80 0 0 rfl (by omega) (by decide)) (z80 1 1 rfl (by omega) (by decide)) (z80 2 2 rfl (by omega) (by decide)) (eN _ hd.2.2.2.2.1) (by omega), fun I106 c23 => ⟨I106, rfl, rfl, c23⟩⟩
end K9M
