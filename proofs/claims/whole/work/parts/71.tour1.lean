set_option maxRecDepth 4000
/-! ===== a way once gone ===== -/
section K71
variable {V T : Nat → Int} {S d : Int}
/-- the side with which print k of a way is made, and its square -/
def skW (nx : Nat → Nat → Int) (pn : Nat → Nat → Nat → Int) (to n fr k : Nat) : Nat := sdW nx pn to n k (cwW nx pn to n fr k)
def ldT (V T : Nat → Int) (S d : Int) (to n fr : Nat) : Nat → Nat → Int
  | 0 => T
  | k + 1 => fun c => if c = cwW (nxV V d) (pnT T S) to n fr k ∧ T c ≠ 8 * S + 4 * ((k % 2 : Nat) : Int) + (skW (nxV V d) (pnT T S) to n fr (k - 1) : Int) then 8 * S + 4 * ((k % 2 : Nat) : Int) + (skW (nxV V d) (pnT T S) to n fr (k - 1) : Int) else ldT V T S d to n fr k c
def tlT (V T : Nat → Int) (S d : Int) (fr to : Nat) : Nat → Int := if (wyP V T S d fr to).2 = 0 then T else ldT V T S d to (wyP V T S d fr to).2 fr ((wyP V T S d fr to).2 + 1)
theorem c_pressIn (l : Launch) (G : zG) (h : zH) (a q g t c F s k n fr to : Nat) (x2 x3 : Int32) (o : WO h a q g V T S d) (x : WX a q g V S d) (ht : zAw h t 64) (h2 : x2.toInt = (c : Int)) (hc : c < 64) (h3 : x3.toInt = 8 * S + 4 * (F : Int) + (s : Int)) (ec : c = cwW (nxV V d) (pnT T S) to n fr k) (eF : F = k % 2) (es : s = skW (nxV V d) (pnT T S) to n fr (k - 1)) (hA : ∀ c, c < 64 → (zI h t c).toInt = ldT V T S d to n fr k c) :
    CTv l G YX9_pressIn 2 [va_rf (some a), va_rf (some t), .int x2, .int x3] h (fun I => (∀ b, b ≠ t → I b = h.1 b) ∧ ∀ c, c < 64 → (I t c).toInt = ldT V T S d to n fr (k + 1) c) := by
  obtain ⟨o1, o2, o3, o4, o5, o6, o7, o8, o9⟩ := o
  have ez : (zget h (zR h a 4) x2).toInt = T c := by rw [o3, zget_w o5 h2 hc]; exact o7 c hc
  refine kX9_pressIn a (some t) x2 x3 (sX9_pressIn_0 a (some t) x2 x3 o1 (Nat.le_refl _) ⟨by rw [o3]; exact zgok_lo o5 (by decide), fun c1 => ⟨h.1, rfl, rfl, fun _ _ => rfl, fun c' hc' => ?_⟩, fun c2 => ⟨zpok_lo ht (by decide), fun I13 c3 => ⟨I13, rfl, rfl, ?_⟩⟩⟩)
  · have : T c = 8 * S + 4 * (F : Int) + (s : Int) := by rw [← ez, c1, h3]
    show (zI h t c').toInt = (if c' = _ ∧ _ then _ else _)
    rw [← eF, ← es, ← ec, if_neg (fun z => z.2 (by rw [z.1]; exact this))]
    exact hA c' hc'
  · obtain ⟨a1, a2, a3⟩ := zput_eff ht h2 hc c3
    have ne : T c ≠ 8 * S + 4 * (F : Int) + (s : Int) := fun z => c2 (i_ext (by rw [ez, z, h3]))
    refine ⟨a1, fun c' hc' => ?_⟩
    show _ = (if c' = _ ∧ _ then _ else _)
    rw [← eF, ← es, ← ec]
    by_cases e : c' = c
    · subst e
      rw [if_pos ⟨rfl, ne⟩, a3]; exact h3
    · rw [if_neg (fun z => e z.1), a2 c' e]
      exact hA c' hc'
theorem wyP_0 {fr to : Nat} (w : WFN V) (h : (wyP V T S d fr to).1 < 1000000) : (wyP V T S d fr to).2 = 0 ∨ (DW (nxV V d) (pnT T S) to 0 fr (wyP V T S d fr to).2 < 1000000) := by
  unfold wyP at h ⊢
  by_cases e : fr = to
  · rw [if_pos e]; exact Or.inl rfl
  · rw [if_neg e] at h ⊢
    have := bw_D (w_ok (T := T) (S := S) (d := d) w) h
    exact Or.inr (by omega)
theorem c_tread (l : Launch) (G : zG) (h : zH) (a q g t fr to : Nat) (o : WO h a q g V T S d) (x : WX a q g V S d) (ht : zAw h t 64) (dt : t ≠ g ∧ (t < a ∨ a + 4 ≤ t) ∧ (t < q ∨ q + 18 ≤ t)) (hfr : fr < nV V) (h7 : (zI h a 7).toInt = (fr : Int)) (hW : (wyP V T S d fr to).1 < 1000000) (r : WyR h a V T S d fr to) :
    CTv l G YX9_tread 3 [va_rf (some a), va_rf (some t)] h (fun I => (∀ b, b ≠ t → I b = h.1 b) ∧ ∀ c, c < 64 → (I t c).toInt = tlT V T S d fr to c) := by
  have nv := nV_eq x.1
  have ok := w_ok (T := T) (S := S) (d := d) x.1
  have wr := wyP_rng (V := V) (T := T) (S := S) (d := d) (fr := fr) (to := to) x.1
  obtain ⟨r0, r1, r2⟩ := r.1 hW
  have w0 := wyP_0 x.1 hW
  unfold tlT
  generalize hn : (wyP V T S d fr to).2 = n at r1 r2 w0 wr ⊢
  have loop : ∀ (fu i : Nat) (x2 x3 : Int32) (u4 : Value) (J : Nat → Nat → Int32), i ≤ n → n - i < fu → x3.toInt = (i : Int) → x2.toInt = (cwW (nxV V d) (pnT T S) to n fr i : Int) → (∀ b, b ≠ t → J b = h.1 b) → (∀ c, c < 64 → (J t c).toInt = ldT V T S d to n fr (if i = 0 then 0 else i + 1) c) →
      Z l G mX9_tread 3 (fun w h1 => ∃ J, w = none ∧ h1 = (J, h.2) ∧ ((∀ b, b ≠ t → J b = h.1 b) ∧ ∀ c, c < 64 → (J t c).toInt = (if n = 0 then T else ldT V T S d to n fr (n + 1)) c)) 0 0 15 [va_rf (some a), va_rf (some t), .int x2, .int x3, u4] [] (J, h.2) := by
    intro fu
    induction fu with
    | zero => intro i x2 x3 u4 J q1 q2; omega
    | succ fu ih =>
      intro i x2 x3 u4 J q1 q2 h3 h2 e1 e2
      have oJ : ∀ K : Nat → Nat → Int32, (∀ b, b ≠ t → K b = h.1 b) → WO (K, h.2) a q g V T S d := fun K e => by
        obtain ⟨o1, o2, o3, o4, o5, o6, o7, o8, o9⟩ := o
        have dj := x.2.2.2.1
        refine ⟨o1, o2, o3, o4, o5, o6.same x.1 (fun b z1 z2 => e b (by omega)), fun c hc => ?_, ?_, ?_⟩
        · show (K g c).toInt = _; rw [e g dt.1.symm]; exact o7 c hc
        · show (K a 5).toInt = _; rw [e a (by omega)]; exact o8
        · show (K a 6).toInt = _; rw [e a (by omega)]; exact o9
      have ea1 : ∀ K : Nat → Nat → Int32, (∀ b, b ≠ t → K b = h.1 b) → (zI (K, h.2) a 1).toInt = (n : Int) := fun K e => by show (K a 1).toInt = _; rw [e a (by omega)]; exact r1
      have esd : ∀ K : Nat → Nat → Int32, (∀ b, b ≠ t → K b = h.1 b) → i < n → (zget (K, h.2) (some (a + 1)) x3).toInt = (skW (nxV V d) (pnT T S) to n fr i : Int) := fun K e hi => by
        rw [zget_w (h := (K, h.2)) (o.1.w 1 rfl) h3 (by omega)]
        show (K (a + 1) i).toInt = _
        rw [e (a + 1) (by omega)]; exact r2 i hi
      refine sX9_tread_15 (h := (J, h.2)) a (some t) x2 x3 u4 o.1 (Nat.le_refl _) ⟨fun c1 => ⟨J, rfl, rfl, e1, fun c hc => ?_⟩, fun c2 => ?_⟩
      · have ei : i = n := by have := ea1 J e1; omega
        subst ei
        rw [e2 c hc]
        by_cases z : i = 0
        · rw [if_pos z, if_pos z]; rfl
        · rw [if_neg z, if_neg z]
      · have hi : i < n := by have := ea1 J e1; omega
        have hD := w0.resolve_left (by omega)
        obtain ⟨cw1, cw2⟩ := cwW_spec ok hfr hD i (by omega)
        have sd := sdW_spec ok hi cw2
        obtain ⟨cn1, cn2⟩ := cwW_spec ok hfr hD (i + 1) (by omega)
        have s4 : skW (nxV V d) (pnT T S) to n fr i < 4 := sd.1
        have en : nxV V d (cwW (nxV V d) (pnT T S) to n fr i) (skW (nxV V d) (pnT T S) to n fr i) = (cwW (nxV V d) (pnT T S) to n fr (i + 1) : Int) := by
          have := (ok.1 _ _ cw1 sd.1).resolve_left sd.2.1
          show nxV V d _ _ = ((nxV V d (cwW (nxV V d) (pnT T S) to n fr i) (sdW (nxV V d) (pnT T S) to n i (cwW (nxV V d) (pnT T S) to n fr i))).toNat : Int)
          exact (Int.toNat_of_nonneg this.1).symm
        have e31 : (x3 + 1).toInt = ((i + 1 : Nat) : Int) := i_1 h3 (by omega)
        have shp1 : ∀ K : Nat → Nat → Int32, (∀ b, b ≠ t → K b = h.1 b) → ∀ (f : Int32) (F : Nat), f.toInt = (F : Int) → F ≤ 1 → ∀ s' : Int32, s'.toInt = (skW (nxV V d) (pnT T S) to n fr i : Int) → (zshape (zI (K, h.2) a 5) f s').toInt = 8 * S + 4 * (F : Int) + (skW (nxV V d) (pnT T S) to n fr i : Int) := fun K e f F hf hF s' hs' => by
          have o8 := (oJ K e).2.2.2.2.2.2.2.1
          have xS := x.2.1
          rw [(shp (by omega) (by omega) (by omega)).1, o8, hf, hs']
        refine ⟨fun c3 => ?_, fun c5 => ?_⟩
        · have i0 : i ≠ 0 := fun z => c3 (n_m0.mpr (by omega))
          have wn := w_next (oJ J e1) x h2 (esd J e1 hi) s4
          rw [if_neg i0] at e2
          refine ⟨q, (oJ J e1).2.1, (oJ J e1).2.2.2.1, ⟨_, c_pressIn l G (J, h.2) a q g t (cwW (nxV V d) (pnT T S) to n fr (i + 1)) ((i + 1) % 2) (skW (nxV V d) (pnT T S) to n fr i) (i + 1) n fr to _ _ (oJ J e1) x ht (wn.trans en) (by omega) (shp1 J e1 _ _ (rem2 e31) (by omega) _ (esd J e1 hi)) rfl rfl rfl e2, fun I25 ⟨g1, g2⟩ => ?_⟩⟩
          refine ih (i + 1) _ _ _ I25 (by omega) (by omega) e31 (wn.trans en) (fun b hb => (g1 b hb).trans (e1 b hb)) ?_
          rw [if_neg (by omega)]; exact g2
        · have i0 : i = 0 := by have := n_m0.mp c5; omega
          rw [if_pos i0] at e2
          subst i0
          refine ⟨_, c_pressIn l G (J, h.2) a q g t fr 0 (skW (nxV V d) (pnT T S) to n fr 0) 0 n fr to x2 _ (oJ J e1) x ht h2 (by omega) (shp1 J e1 0 0 rfl (by omega) _ (esd J e1 hi)) rfl rfl rfl e2, fun I37 ⟨g1, g2⟩ => ?_⟩
          have e37 : ∀ b, b ≠ t → I37 b = h.1 b := fun b hb => (g1 b hb).trans (e1 b hb)
          have wn := w_next (oJ I37 e37) x h2 (esd J e1 hi) s4
          have wn' : (zbes (zI (I37, h.2) q 0) (zI (I37, h.2) q 1) x2 (zget (J, h.2) (some (a + 1)) x3) (zI (I37, h.2) a 6)).toInt = (cwW (nxV V d) (pnT T S) to n fr 1 : Int) := wn.trans en
          refine ⟨q, (oJ I37 e37).2.1, (oJ I37 e37).2.2.2.1, ⟨_, c_pressIn l G (I37, h.2) a q g t (cwW (nxV V d) (pnT T S) to n fr 1) 1 (skW (nxV V d) (pnT T S) to n fr 0) 1 n fr to _ _ (oJ I37 e37) x ht wn' (by omega) (shp1 I37 e37 _ _ (rem2 e31) (by omega) _ (esd J e1 hi)) rfl rfl rfl g2, fun I56 ⟨k1, k2⟩ => ?_⟩⟩
          exact ih 1 _ _ _ I56 (by omega) (by omega) e31 wn' (fun b hb => (k1 b hb).trans (e37 b hb)) k2
  refine kX9_tread a (some t) (sX9_tread_0 a (some t) o.1 (Nat.le_refl _) ?_)
  refine ⟨fun I => I = zcy h g t 64, by rw [o.2.2.1]; exact c_X10_copy l G h g t 64 o.2.2.2.2.1 ht (by decide), fun I12 c5 => ?_⟩
  have e12 : ∀ b, b ≠ t → I12 b = h.1 b := fun b hb => by
    rw [c5]; funext k; exact if_neg (fun z => hb z.1)
  refine loop (n + 1) 0 _ 0 zU I12 (Nat.zero_le _) (by omega) rfl ?_ e12 (fun c hc => ?_)
  · show (I12 a 7).toInt = _
    rw [e12 a (by omega)]; exact h7
  · rw [if_pos rfl]
    show (I12 t c).toInt = T c
    rw [c5]
    show (if t = t ∧ c < 64 then h.1 g c else h.1 t c).toInt = T c
    rw [if_pos ⟨rfl, hc⟩]; exact o.2.2.2.2.2.2.1 c hc
end K71
