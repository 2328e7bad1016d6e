set_option maxRecDepth 4000
/-! ===== texts: what the class tells ===== -/
section K9I
/-! places of a night's numbers in the class -/
def adB (w : Nat) : Nat := if w < 5 then 56 else if w < 105 then 61 else if w < 120 then 58 + (w - 105) % 3 else if (w - 120) % 33 < 9 then 62 + 2 * ((w - 120) / 33) else 63 + 2 * ((w - 120) / 33)
def adK (w : Nat) : Nat := if w < 5 then w else if w < 105 then w - 5 else if w < 120 then (w - 105) / 3 else if (w - 120) % 33 < 9 then (w - 120) % 33 else (w - 120) % 33 - 9
def adI (b k : Nat) : Nat := if b = 56 then k else if b = 61 then 5 + k else if b < 61 then 105 + 3 * k + (b - 58) else if b % 2 = 0 then 120 + 33 * ((b - 62) / 2) + k else 129 + 33 * ((b - 62) / 2) + k
theorem adI_eq : ∀ w, w < 318 → adI (adB w) (adK w) = w := by decide +kernel
theorem adB_in : ∀ w, w < 318 → 56 ≤ adB w ∧ adB w < 74 := by decide +kernel
theorem ad_0 : ∀ f, f < 5 → adB f = 56 ∧ adK f = f := by decide
theorem ad_r : ∀ m, m < 100 → adB (5 + m) = 61 ∧ adK (5 + m) = m := by decide +kernel
theorem ad_e : ∀ k, k < 5 → ∀ c, c < 3 → adB (105 + 3 * k + c) = 58 + c ∧ adK (105 + 3 * k + c) = k := by decide +kernel
theorem ad_f : ∀ p, p < 6 → ∀ f, f < 9 → adB (120 + 33 * p + f) = 62 + 2 * p ∧ adK (120 + 33 * p + f) = f := by decide +kernel
theorem ad_s : ∀ p, p < 6 → ∀ i, i < 24 → adB (129 + 33 * p + i) = 63 + 2 * p ∧ adK (129 + 33 * p + i) = i := by decide +kernel
def NXl (h : zH) (V : Nat → Int) (L : Nat → Prop) : Prop := ∀ w, w < 318 → L w → (zI h (adB w) (adK w)).toInt = V w
def WrI (h : zH) (I : Nat → Nat → Int32) (b0 k0 : Nat) (y : Int32) : Prop := (∀ b, b ≠ b0 → I b = h.1 b) ∧ (∀ k, k ≠ k0 → I b0 k = h.1 b0 k) ∧ I b0 k0 = y
theorem NXl.wr {h : zH} {I : Nat → Nat → Int32} {V : Nat → Int} {L : Nat → Prop} (w0 b0 k0 : Nat) {x : Int} {y : Int32} (a : NXl h V L) (h0 : w0 < 318) (hb : adB w0 = b0 ∧ adK w0 = k0) (e : WrI h I b0 k0 y) (hy : y.toInt = x) : NXl (I, h.2) (upI V w0 x) (fun w => w = w0 ∨ L w) := by
  obtain ⟨e1, e2, e3⟩ := e
  intro w hw hl
  show (I (adB w) (adK w)).toInt = if w = w0 then x else V w
  by_cases z : w = w0
  · rw [if_pos z, z, hb.1, hb.2, e3]; exact hy
  · rw [if_neg z]
    have hl2 : L w := hl.elim (fun q => absurd q z) id
    have e0 : I (adB w) (adK w) = h.1 (adB w) (adK w) := by
      by_cases q : adB w = b0
      · by_cases q2 : adK w = k0
        · exact absurd (by rw [← adI_eq w hw, ← adI_eq w0 h0, q, q2, hb.1, hb.2]) z
        · rw [q]; exact e2 _ q2
      · rw [e1 _ q]
    rw [e0]; exact a w hw hl2
theorem NXl.kp {h : zH} {I : Nat → Nat → Int32} {V : Nat → Int} {L : Nat → Prop} (a : NXl h V L) (e : ∀ b, 56 ≤ b → b < 74 → I b = h.1 b) : NXl (I, h.2) V L := fun w hw hl => by
  have := adB_in w hw
  show (I (adB w) (adK w)).toInt = _
  rw [e _ this.1 this.2]; exact a w hw hl
/-- numbers that count -/
def liv (V : Nat → Int) (w : Nat) : Prop := (105 ≤ w → w < 120 → (((w - 105) / 3 : Nat) : Int) < V 4) ∧ (120 ≤ w → 9 ≤ (w - 120) % 33 → (((w - 120) % 33 - 9 : Nat) : Int) < V (128 + 33 * ((w - 120) / 33))) ∧ (120 ≤ w → (w - 120) % 33 < 4 → (((w - 120) / 33 : Nat) : Int) < V 3)
def NXo (h : zH) (V : Nat → Int) : Prop := NXl h V (liv V)
theorem NXl.to {h : zH} {V : Nat → Int} {L : Nat → Prop} (a : NXl h V L) (k : ∀ w, w < 318 → liv V w → L w) : NXo h V := fun w hw hl => a w hw (k w hw hl)
theorem liv_cg {V V' : Nat → Int} {w : Nat} (e3 : V' 3 = V 3) (e4 : V' 4 = V 4) (e8 : ∀ p, V' (128 + 33 * p) = V (128 + 33 * p)) (a : liv V' w) : liv V w := by
  unfold liv at *
  rw [e3, e4, e8] at a; exact a
theorem NXo.obj {h : zH} {V : Nat → Int} (a : NXo h V) (h3 : V 3 ≤ 6) (h4 : V 4 ≤ 5) (h8 : ∀ p, p < 6 → V (128 + 33 * p) ≤ 24) : NObj h 56 V := by
  refine ⟨fun f hf => ?_, fun m hm => ?_, fun k hk => ?_, fun p hp => ⟨fun f hf => ?_, fun i hi => ?_⟩⟩
  · have e := ad_0 f hf
    have := a f (by omega) ⟨fun q => by omega, fun q => by omega, fun q => by omega⟩
    rw [e.1, e.2] at this; exact this
  · have e := ad_r m hm
    have := a (5 + m) (by omega) ⟨fun q => by omega, fun q => by omega, fun q => by omega⟩
    rw [e.1, e.2] at this; exact this
  · have g : ∀ c, c < 3 → (zI h (58 + c) k).toInt = V (105 + 3 * k + c) := fun c hc => by
      have e := ad_e k (by omega) c hc
      have := a (105 + 3 * k + c) (by omega) ⟨fun q1 q2 => by rw [show (105 + 3 * k + c - 105) / 3 = k by omega]; exact hk, fun q => by omega, fun q => by omega⟩
      rw [e.1, e.2] at this; exact this
    refine ⟨g 0 (by decide), ?_, ?_⟩
    · rw [show 106 + 3 * k = 105 + 3 * k + 1 by omega]; exact g 1 (by decide)
    · rw [show 107 + 3 * k = 105 + 3 * k + 2 by omega]; exact g 2 (by decide)
  · have e := ad_f p (by omega) f hf
    have := a (120 + 33 * p + f) (by omega) ⟨fun q => by omega, fun _ q => by omega, fun _ _ => by rw [show (120 + 33 * p + f - 120) / 33 = p by omega]; exact hp⟩
    rw [e.1, e.2] at this; exact this
  · have e := ad_s p (by omega) i (by have := h8 p (by omega); omega)
    have := a (129 + 33 * p + i) (by have := h8 p (by omega); omega) ⟨fun q => by omega, fun _ _ => by
      have := h8 p (by omega)
      rw [show (129 + 33 * p + i - 120) / 33 = p by omega, show (129 + 33 * p + i - 120) % 33 - 9 = i by omega]; exact hi, fun _ q => by have := h8 p (by omega); omega⟩
    rw [e.1, e.2] at this
    rw [show 56 + 7 + 2 * p = 63 + 2 * p by omega]; exact this
/-! rows -/
theorem upI_at {V : Nat → Int} {k : Nat} {v : Int} : upI V k v k = v := if_pos rfl
theorem upI_ne {V : Nat → Int} {k j : Nat} {v : Int} (h : j ≠ k) : upI V k v j = V j := if_neg h
theorem sdI_0 {V : Nat → Int} {k : Nat} {v : Nat → Int} : sdI V k v 0 = V := funext fun x => if_neg (by omega)
theorem sdI_s {V : Nat → Int} {k m : Nat} {v : Nat → Int} : sdI V k v (m + 1) = upI (sdI V k v m) (k + m) (v m) := funext fun x => by
  unfold sdI upI
  by_cases q : x = k + m
  · rw [if_pos ⟨by omega, by omega⟩, if_pos q, show x - k = m by omega]
  · rw [if_neg q]
    by_cases z : k ≤ x ∧ x < k + m
    · exact (if_pos ⟨z.1, by omega⟩).trans (if_pos z).symm
    · exact (if_neg (fun y => z ⟨y.1, by omega⟩)).trans (if_neg z).symm
theorem sdI_o {V : Nat → Int} {k m x : Nat} {v : Nat → Int} (h : x < k ∨ k + m ≤ x) : sdI V k v m x = V x := if_neg (by omega)
theorem sdI_i {V : Nat → Int} {k m j : Nat} {v : Nat → Int} (h : j < m) : sdI V k v m (k + j) = v j := by
  unfold sdI
  rw [if_pos ⟨by omega, by omega⟩, show k + j - k = j by omega]
theorem mxZ_eq {x y : Int32} : (imax x y).toInt = mxZ x.toInt y.toInt := by
  rw [imax_t]; unfold mxZ
  split <;> omega
/-! the frame -/
def FrL (h : zH) (I : Nat → Nat → Int32) : Prop := (∀ b, (b < 55 ∨ 80 ≤ b) → I b = h.1 b) ∧ ∀ k, k ≠ 11 → k ≠ 12 → I 55 k = h.1 55 k
theorem FrL.rf (h : zH) : FrL h h.1 := ⟨fun _ _ => rfl, fun _ _ _ => rfl⟩
theorem FrL.tr {h : zH} {I J : Nat → Nat → Int32} (a : FrL h I) (c : FrL (I, h.2) J) : FrL h J := ⟨fun b z => (c.1 b z).trans (a.1 b z), fun k z1 z2 => (c.2 k z1 z2).trans (a.2 k z1 z2)⟩
theorem FrL.w1 {h : zH} {I J : Nat → Nat → Int32} {b0 k0 : Nat} {y : Int32} (f : FrL h I) (e : WrI (I, h.2) J b0 k0 y) (hb : 56 ≤ b0 ∧ b0 < 80) : FrL h J := f.tr ⟨fun b z => e.1 b (by omega), fun k _ _ => congrFun (e.1 55 (by omega)) k⟩
theorem FrL.w2 {h : zH} {I J : Nat → Nat → Int32} {k0 : Nat} {y : Int32} (f : FrL h I) (e : WrI (I, h.2) J 55 k0 y) (hk : k0 = 11 ∨ k0 = 12) : FrL h J := f.tr ⟨fun b z => e.1 b (by omega), fun k _ _ => e.2.1 k (by omega)⟩
/-- what the class holds of the text that is read: a night, a reading -/
def CSt (sort : Nat) (h : zH) (V : Nat → Int) (fo fc : Int) : Prop :=
  (sort = 0 → NXo h V ∧ (zI h 55 12).toInt = fo ∧ (zI h 55 11).toInt = fc) ∧
  (sort = 1 → RObj h 74 V ∧ (zI h 56 0).toInt = 6 ∧ (zI h 56 1).toInt = 6 ∧ (zI h 56 3).toInt = 0 ∧ zI h 55 12 = -1 ∧ zI h 55 11 = -1)
theorem CSt.kp {sort : Nat} {h : zH} {I : Nat → Nat → Int32} {V : Nat → Int} {fo fc : Int} (c : CSt sort h V fo fc) (e : ∀ b, 56 ≤ b → b < 80 → I b = h.1 b) (e1 : I 55 11 = h.1 55 11) (e2 : I 55 12 = h.1 55 12) : CSt sort (I, h.2) V fo fc := by
  obtain ⟨c1, c2⟩ := c
  refine ⟨fun z => ?_, fun z => ?_⟩
  · obtain ⟨a1, a2, a3⟩ := c1 z
    refine ⟨NXl.kp a1 (fun b h1 h2 => e b h1 (by omega)), ?_, ?_⟩
    · show (I 55 12).toInt = _; rw [e2]; exact a2
    · show (I 55 11).toInt = _; rw [e1]; exact a3
  · obtain ⟨a1, a2, a3, a4, a5, a6⟩ := c2 z
    refine ⟨⟨?_, fun k hk => ?_⟩, ?_, ?_, ?_, ?_, ?_⟩
    · show (I 74 0).toInt = _; rw [e 74 (by decide) (by decide)]; exact a1.1
    · have := a1.2 k hk
      show (I 75 k).toInt = _ ∧ (I 76 k).toInt = _ ∧ (I 77 k).toInt = _ ∧ (I 78 k).toInt = _ ∧ (I 79 k).toInt = _
      rw [e 75 (by decide) (by decide), e 76 (by decide) (by decide), e 77 (by decide) (by decide), e 78 (by decide) (by decide), e 79 (by decide) (by decide)]
      exact this
    · show (I 56 0).toInt = _; rw [e 56 (by decide) (by decide)]; exact a2
    · show (I 56 1).toInt = _; rw [e 56 (by decide) (by decide)]; exact a3
    · show (I 56 3).toInt = _; rw [e 56 (by decide) (by decide)]; exact a4
    · show I 55 12 = _; rw [e2]; exact a5
    · show I 55 11 = _; rw [e1]; exact a6
theorem lo51 {h : zH} (hl : lo5 h 55) : lo1 h 56 := zlo.sub hl 1 (by decide +kernel) (by decide +kernel) (by decide +kernel)
theorem slot_at {x : Int32} {p : Nat} (hx : x.toInt = (p : Int)) (hp : p < 6) : zslot (55 + 1) x = some (62 + 2 * p) := by
  unfold zslot
  rw [if_pos ⟨by omega, by omega⟩, zix_of hx, show 55 + 1 + (6 + 2 * p) = 62 + 2 * p by omega]
theorem slot_lo {h : zH} (hl : lo5 h 55) {p : Nat} (hp : p < 6) : lo2 h (62 + 2 * p) := by
  have := per_lo (lo51 hl) hp
  rw [show 56 + (6 + 2 * p) = 62 + 2 * p by omega] at this; exact this
end K9I
