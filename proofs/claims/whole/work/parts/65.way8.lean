set_option maxRecDepth 4000
/-! ===== the class's way: its trace ===== -/
section K65
variable {V T : Nat → Int} {S d : Int}
def pSC (h : zH) (a i c : Nat) (V T : Nat → Int) (S d : Int) : Nat → Bool := fun s => decide (nxV V d c s ≠ -1 ∧ Kc h a (i + 1) (nxV V d c s).toNat < 1000 ∧ Kc h a (i + 1) (nxV V d c s).toNat = Kc h a i c + PrW (nxV V d) (pnT T S) i c s)
theorem c_sideOn (l : Launch) (G : zG) (h : zH) (a q g i c : Nat) (x1 x2 : Int32) (o : WO h a q g V T S d) (x : WX a q g V S d) (h1 : x1.toInt = (i : Int)) (hi : i < 40) (h2 : x2.toInt = (c : Int)) (hc : c < nV V) (hK : 0 ≤ Kc h a i c ∧ Kc h a i c < 1000) :
    CTi l G YX9_sideOn 3 [va_rf (some a), .int x1, .int x2] h (fun y I => y.toInt = (if fs4 (pSC h a i c V T S d) < 4 then (fs4 (pSC h a i c V T S d) : Int) else -1) ∧ I = h.1) := by
  have nv := nV_eq x.1
  have ok := w_ok (T := T) (S := S) (d := d) x.1
  have e1 : (x1 + 1).toInt = ((i + 1 : Nat) : Int) := i_1 h1 (by omega)
  have loop : ∀ (fu k : Nat) (x3 : Int32) (u4 u5 : Value), k ≤ 4 → 4 - k < fu → x3.toInt = (k : Int) → (∀ j, j < k → pSC h a i c V T S d j = false) →
      Z l G mX9_sideOn 3 (fun w h1 => ∃ y I, w = some (.int y) ∧ h1 = (I, h.2) ∧ (y.toInt = (if fs4 (pSC h a i c V T S d) < 4 then (fs4 (pSC h a i c V T S d) : Int) else -1) ∧ I = h.1)) 0 0 2 [va_rf (some a), .int x1, .int x2, .int x3, u4, u5] [] h := by
    intro fu
    induction fu with
    | zero => intro k x3 u4 u5 q1 q2; omega
    | succ fu ih =>
      intro k x3 u4 u5 q1 q2 hx r
      have wn := w_next o x h2 hx
      have nxt : pSC h a i c V T S d k = false → ∀ u4 u5, k < 4 → Z l G mX9_sideOn 3 (fun w h1 => ∃ y I, w = some (.int y) ∧ h1 = (I, h.2) ∧ (y.toInt = (if fs4 (pSC h a i c V T S d) < 4 then (fs4 (pSC h a i c V T S d) : Int) else -1) ∧ I = h.1)) 0 0 2 [va_rf (some a), .int x1, .int x2, .int (x3 + 1), u4, u5] [] h := fun z u4 u5 hk =>
        ih (k + 1) _ _ _ (by omega) (by omega) (i_1 hx (by omega)) (fun j hj => by
          by_cases e : j = k
          · subst e; exact z
          · exact r j (by omega))
      refine sX9_sideOn_2 a x1 x2 x3 u4 u5 o.1 (Nat.le_refl _) ⟨fun c1 => ⟨_, h.1, rfl, rfl, ?_, rfl⟩, fun c2 => ⟨q, o.2.1, o.2.2.2.1, fun c3 => ?_, fun c4 => ?_⟩⟩
      · rw [fs4_no (fun j hj => r j (by omega)), if_neg (by omega)]; rfl
      · refine nxt (decide_eq_false fun ⟨z1, z2, z3⟩ => ?_) _ _ (by omega)
        have wk := wn (by omega)
        obtain ⟨n0, n1⟩ := (ok.1 c k hc (by omega)).resolve_left z1
        have ez := zcost_at (h := h) (a := a) (i := i + 1) (c := (nxV V d c k).toNat) o.1 e1 (by omega) (x2 := zbes (zI h q 0) (zI h q 1) x2 x3 (zI h a 6)) (by omega) (by omega)
        rw [ez] at c3
        have c3' : (1000 : Int) ≤ Kc h a (i + 1) (nxV V d c k).toNat := c3
        omega
      · have wk := wn (by omega)
        have hn : nxV V d c k ≠ -1 := fun z => by
          rw [z] at wk
          have e : zbes (zI h q 0) (zI h q 1) x2 x3 (zI h a 6) = -1 := n_m1.mpr wk
          rw [e] at c4
          exact absurd c4 (by show ¬ (zcost h a (x1 + 1) (-1)).toInt < 1000; unfold zcost; rw [if_pos rfl]; decide)
        obtain ⟨n0, n1⟩ := (ok.1 c k hc (by omega)).resolve_left hn
        obtain ⟨n, en⟩ : ∃ n : Nat, nxV V d c k = (n : Int) := ⟨(nxV V d c k).toNat, by omega⟩
        have ez := zcost_at (h := h) (a := a) (i := i + 1) (c := n) o.1 e1 (by omega) (x2 := zbes (zI h q 0) (zI h q 1) x2 x3 (zI h a 6)) (by omega) (by omega)
        have ez0 := zcost_at (h := h) (a := a) (i := i) (c := c) o.1 h1 (by omega) h2 (by omega)
        rw [ez] at c4 ⊢
        rw [ez0]
        have c4' : Kc h a (i + 1) n < 1000 := c4
        refine ⟨_, c_priceOf l G h a q g i c k n x1 x2 x3 _ o x h1 (by omega) h2 (by omega) hx (by omega) (by omega) (by omega) (by omega), fun y27 I25 ⟨z1, z2⟩ => ?_⟩
        have eI : I25 = h.1 := z2
        subst eI
        have pr := PrW_rng ok i c k
        have pr2 : PrW (nxV V d) (pnT T S) i c k ≤ 2 := by have := pr.2; split at this <;> omega
        have es : (zI h (a + 2) (64 * i + c) + y27).toInt = Kc h a i c + PrW (nxV V d) (pnT T S) i c k := by
          have e : (zI h (a + 2) (64 * i + c)).toInt = Kc h a i c := rfl
          rw [i_add (by omega) (by omega), z1, e]
        have ep : pSC h a i c V T S d k = decide (nxV V d c k ≠ -1 ∧ Kc h a (i + 1) n < 1000 ∧ Kc h a (i + 1) n = Kc h a i c + PrW (nxV V d) (pnT T S) i c k) := by
          unfold pSC
          rw [show (nxV V d c k).toNat = n by omega]
        refine ⟨fun c6 => nxt ?_ _ _ (by omega), fun c7 => ⟨_, h.1, rfl, rfl, ?_, rfl⟩⟩
        · rw [ep]
          refine decide_eq_false fun ⟨_, _, z3⟩ => c6 (i_ext ?_)
          rw [es]; exact z3
        · have e9 : fs4 (pSC h a i c V T S d) = k := fs4_at (by omega) (by
            rw [ep]
            refine decide_eq_true ⟨hn, c4', ?_⟩
            rw [← es]; exact congrArg Int32.toInt c7) r
          rw [e9, if_pos (by omega)]; exact hx
  exact kX9_sideOn a x1 x2 (sX9_sideOn_0 a x1 x2 o.1 (Nat.le_refl _) (loop 5 0 0 zU zU (by omega) (by omega) rfl (fun j hj => by omega)))
def StQ (h : zH) (I : Nat → Nat → Int32) (a i k : Nat) (V T : Nat → Int) (S d : Int) : Prop := (∀ b, b ≠ a + 2 → I b = h.1 b) ∧ (∀ j, (j < 64 * i ∨ 64 * i + 64 ≤ j) → I (a + 2) j = h.1 (a + 2) j) ∧
  (∀ c, c < nV V → k ≤ c → Kc (I, h.2) a i c = Kc h a i c) ∧ ∀ c, c < k → Kc (I, h.2) a i c = if Kc h a i c < 1000 ∧ fs4 (pSC h a i c V T S d) = 4 then 1000 else Kc h a i c
theorem fs4_lt (p : Nat → Bool) : fs4 p ≤ 4 := by
  unfold fs4
  (repeat' split) <;> omega
theorem c_strikeLost (l : Launch) (G : zG) (h : zH) (a q g i : Nat) (x1 : Int32) (o : WO h a q g V T S d) (x : WX a q g V S d) (h1 : x1.toInt = (i : Int)) (hi : i < 40) (hK : ∀ c, c < nV V → 0 ≤ Kc h a i c) :
    CTv l G YX9_strikeLost 4 [va_rf (some a), .int x1] h (fun I => StQ h I a i (nV V) V T S d) := by
  have nv := nV_eq x.1
  have loop : ∀ (fu k : Nat) (x2 : Int32) (I : Nat → Nat → Int32), k ≤ nV V → nV V - k < fu → x2.toInt = (k : Int) → StQ h I a i k V T S d →
      Z l G mX9_strikeLost 4 (fun w h1 => ∃ J, w = none ∧ h1 = (J, h.2) ∧ StQ h J a i (nV V) V T S d) 0 0 2 [va_rf (some a), .int x1, .int x2] [] (I, h.2) := by
    intro fu
    induction fu with
    | zero => intro k x2 I q1 q2; omega
    | succ fu ih =>
      intro k x2 I q1 q2 hx r
      obtain ⟨r1, r2, r3, r4⟩ := r
      have oI : WO (I, h.2) a q g V T S d := o.cg x (fun b hb => r1 b (by omega)) (by rw [r1 a (by omega)]) (by rw [r1 a (by omega)])
      have zc := (zhas_at x.1 oI.2.2.2.2.2.1 (c := 0)).1
      rw [nv.1] at zc
      refine sX9_strikeLost_2 (h := (I, h.2)) a x1 x2 o.1 (Nat.le_refl _) ⟨q, oI.2.1, oI.2.2.2.1, fun c1 => ⟨I, rfl, rfl, r1, r2, fun c hc hk => r3 c hc (by omega), fun c hc => r4 c (by omega)⟩, fun c2 => ?_⟩
      have hk : k < nV V := by omega
      have ez := zcost_at (h := (I, h.2)) (a := a) (i := i) (c := k) o.1 h1 (by omega) hx (by omega)
      rw [ez]
      have eK := r3 k hk (Nat.le_refl _)
      have eK' : (zI (I, h.2) (a + 2) (64 * i + k)).toInt = Kc h a i k := eK
      rw [eK']
      have ep : pSC (I, h.2) a i k V T S d = pSC h a i k V T S d := funext fun s => by
        have e : ∀ n, n < 64 → Kc (I, h.2) a (i + 1) n = Kc h a (i + 1) n := fun n hn => by
          show (I (a + 2) (64 * (i + 1) + n)).toInt = (h.1 (a + 2) (64 * (i + 1) + n)).toInt
          rw [r2 _ (by omega)]
        unfold pSC
        rw [eK]
        refine decide_eq_decide.mpr ⟨fun ⟨z1, z2⟩ => ⟨z1, ?_⟩, fun ⟨z1, z2⟩ => ⟨z1, ?_⟩⟩
        · have nn := ((bes_rng (V := V) (k : Int) (s : Int) d)).resolve_left z1
          have nn' : (nxV V d k s).toNat < 64 := by show (bes V (k : Int) (s : Int) d).toNat < 64; omega
          rw [e _ nn'] at z2; exact z2
        · have nn := ((bes_rng (V := V) (k : Int) (s : Int) d)).resolve_left z1
          have nn' : (nxV V d k s).toNat < 64 := by show (bes V (k : Int) (s : Int) d).toNat < 64; omega
          rw [e _ nn']; exact z2
      refine ⟨fun c3 => ?_, fun c4 => ⟨_, c_sideOn l G (I, h.2) a q g i k x1 x2 oI x h1 hi hx hk (by rw [eK]; exact ⟨hK k hk, c4⟩), fun y24 I22 ⟨z1, z2⟩ => ?_⟩⟩
      · refine ih (k + 1) _ I (by omega) (by omega) (i_1 hx (by omega)) ⟨r1, r2, fun c hc hk' => r3 c hc (by omega), fun c hc => ?_⟩
        by_cases e : c = k
        · subst e; rw [if_neg (by omega)]; exact eK
        · exact r4 c (by omega)
      · have eI : I22 = I := z2
        subst eI
        rw [ep] at z1
        have f4 := fs4_lt (pSC h a i k V T S d)
        refine ⟨fun c6 => ?_, fun c7 I35 c8 => ?_⟩
        · refine ih (k + 1) _ I22 (by omega) (by omega) (i_1 hx (by omega)) ⟨r1, r2, fun c hc hk' => r3 c hc (by omega), fun c hc => ?_⟩
          by_cases e : c = k
          · subst e
            rw [if_neg (fun z => ?_)]; exact eK
            rw [if_neg (by omega)] at z1
            exact c6 (n_m1.mpr z1)
          · exact r4 c (by omega)
        · obtain ⟨a1, a2, a3⟩ := zput_eff (h := (I22, h.2)) (o.1.w 2 rfl) (m64 h1 (by omega) hx (by omega)) (by omega) c8
          have ne : fs4 (pSC h a i k V T S d) = 4 := by
            rw [n_m1.mp c7] at z1
            split at z1 <;> omega
          refine ih (k + 1) _ I35 (by omega) (by omega) (i_1 hx (by omega)) ⟨fun b hb => (a1 b hb).trans (r1 b hb), fun j hj => (a2 j (by omega)).trans (r2 j hj), fun c hc hk' => ?_, fun c hc => ?_⟩
          · show (I35 (a + 2) (64 * i + c)).toInt = _
            rw [a2 _ (by omega)]; exact r3 c hc (by omega)
          · by_cases e : c = k
            · subst e
              rw [if_pos ⟨c4, ne⟩]
              show (I35 (a + 2) (64 * i + c)).toInt = _
              rw [a3]; rfl
            · show (I35 (a + 2) (64 * i + c)).toInt = _
              rw [a2 _ (by omega)]; exact r4 c (by omega)
  exact kX9_strikeLost a x1 (sX9_strikeLost_0 a x1 o.1 (Nat.le_refl _) (loop (nV V + 1) 0 0 h.1 (by omega) (by omega) rfl ⟨fun _ _ => rfl, fun _ _ => rfl, fun _ _ _ => rfl, fun c hc => by omega⟩))
/-- layer i holds the best squares alone -/
def TiC (h g : zH) (a i to : Nat) (B : Int × Nat) (V T : Nat → Int) (S d : Int) : Prop := ∀ c, c < nV V → (Kc g a i c < 1000 → OpC h a i c to B V T S d ∧ Kc g a i c = Kc h a i c) ∧ (OpC h a i c to B V T S d → Kc g a i c = Kc h a i c)
theorem TiC.sv {h g : zH} {a i to c : Nat} {B : Int × Nat} (w : WFN V) (hB : B.2 ≤ 40) (hi : i < B.2) (ly0 : LyC h a i to B V T S d) (ly : LyC h a (i + 1) to B V T S d) (xc : XC h a i to B V T S d) (t : TiC h g a (i + 1) to B V T S d) (hc : c < nV V) (e : Kc g a i c = Kc h a i c) (hk : Kc h a i c < 1000) :
    (OpC h a i c to B V T S d → ∀ s, s < 4 → pSC g a i c V T S d s = svW (nxV V d) (pnT T S) to B.2 i c s) ∧ (∀ s, s < 4 → pSC g a i c V T S d s = true → OpC h a i c to B V T S d) := by
  have ok := w_ok (T := T) (S := S) (d := d) w
  have fwd : ∀ s, s < 4 → pSC g a i c V T S d s = true → OpC h a i c to B V T S d ∧ svW (nxV V d) (pnT T S) to B.2 i c s = true := fun s hs z => by
    obtain ⟨z1, z2, z3⟩ := of_decide_eq_true z
    have nn := ((ok.1 c s hc hs).resolve_left z1).2
    obtain ⟨o1, o2⟩ := (t _ nn).1 z2
    have st := DW_step (nx := nxV V d) (pn := pnT T S) (to := to) (B.2 - (i + 1)) i c s hs z1
    rw [show B.2 - (i + 1) + 1 = B.2 - i by omega] at st
    have gd := (((ly0 c hc).resolve_left (by omega)).2 (B.2 - i) (by omega)).1
    have oo := o1.2
    rw [← o2, z3, e] at oo
    exact ⟨⟨hk, by omega⟩, decide_eq_true ⟨z1, by omega⟩⟩
  refine ⟨fun o s hs => ?_, fun s hs z => (fwd s hs z).1⟩
  cases q : svW (nxV V d) (pnT T S) to B.2 i c s with
  | true =>
    obtain ⟨z1, z2⟩ := of_decide_eq_true q
    have nn := ((ok.1 c s hc hs).resolve_left z1).2
    obtain ⟨o1, o2⟩ := op_next w hB hi ly0 ly xc hc o hs z1 z2
    have eg := (t _ nn).2 o1
    exact decide_eq_true ⟨z1, by rw [eg]; exact o1.1, by rw [eg, o2, e]⟩
  | false =>
    cases q2 : pSC g a i c V T S d s with
    | true => rw [(fwd s hs q2).2] at q; cases q
    | false => rfl
end K65
