set_option maxRecDepth 4000
/-! ===== what a constructor lays ===== -/
def zSm (a : Nat) (h0 h : zH) : Prop := ∀ b, (b < a ∨ 1000000 ≤ b) → zK h b = zK h0 b ∧ (∀ j, zI h b j = zI h0 b j) ∧ ∀ j, zR h b j = zR h0 b j
/-- from a on lie things of the kinds ks, with the references rs; the ints of those in zs are 0, those of a itself are fv; below a nothing has changed since h0 -/
def zPL (h0 h : zH) (a : Nat) (ks : List (Nat × Nat)) (rs : List (Nat × Nat × Nat)) (zs : List Nat) (fv : Nat → Int32) : Prop :=
  zN h = a + ks.length ∧ (∀ (i : Nat) (q : Nat × Nat), ks[i]? = some q → zK h (a + i) = q) ∧ (∀ (i : Nat) (q : Nat × Nat × Nat), rs[i]? = some q → q.1 < ks.length ∧ zR h (a + q.1) q.2.1 = some (a + q.2.2)) ∧
  (∀ (i o : Nat), zs[i]? = some o → (0 < o ∧ o < ks.length) ∧ ∀ j, zI h (a + o) j = 0) ∧ (∀ j, zI h a j = fv j) ∧ zSm a h0 h ∧ 0 < ks.length ∧ a + ks.length ≤ 1000000
theorem zPL.lo {h0 h : zH} {a : Nat} {ks : List (Nat × Nat)} {rs rs' : List (Nat × Nat × Nat)} {zs : List Nat} {fv : Nat → Int32} (p : zPL h0 h a ks rs zs fv) (hr : rs'.all (fun e => rs.contains e) = true) : zlo h a ks rs' := by
  refine ⟨by rw [p.1]; omega, p.2.1, fun i q hi => ?_⟩
  have h1 := List.all_eq_true.mp hr q (List.mem_of_getElem? hi)
  obtain ⟨k, hk2⟩ := List.getElem?_of_mem (List.contains_iff_mem.mp h1)
  exact (p.2.2.1 k q hk2).2
theorem zPL.ini {h : zH} {a : Nat} {q : Nat × Nat} (hz : zN h = a + 1) (hk : zK h a = q) (h0 : ∀ j, zI h a j = 0) (h6 : a + 1 ≤ 1000000) : zPL h h a [q] [] [] (fun _ => 0) := by
  refine ⟨hz, fun i e hi => ?_, fun i e hi => (by cases hi), fun i e hi => (by cases hi), h0, fun b _ => ⟨rfl, fun _ => rfl, fun _ => rfl⟩, Nat.one_pos, h6⟩
  match i, hi with
  | 0, hi => cases hi; exact hk
theorem zPL.lt {h0 h : zH} {a : Nat} {ks : List (Nat × Nat)} {rs : List (Nat × Nat × Nat)} {zs : List Nat} {fv : Nat → Int32} (p : zPL h0 h a ks rs zs fv) {m : Nat} (h6 : a + m ≤ 1000000) (hm : ks.length < m) : zN h < 1000000 := by rw [p.1]; omega
theorem zK_alo {h : zH} {kd n b : Nat} (hb : b ≠ zN h) : zK (zal h kd n) b = zK h b := if_neg hb
theorem zI_alo {h : zH} {kd n b j : Nat} (hb : b ≠ zN h) : zI (zal h kd n) b j = zI h b j := if_neg hb
theorem zR_alo {h : zH} {kd n b j : Nat} (hb : b ≠ zN h) : zR (zal h kd n) b j = zR h b j := if_neg hb
theorem zI_aln {h : zH} {kd n j : Nat} : zI (zal h kd n) (zN h) j = 0 := if_pos rfl
theorem lapp {α : Type} {l : List α} {x : α} {i : Nat} {q : α} (h : (l ++ [x])[i]? = some q) : l[i]? = some q ∨ (i = l.length ∧ q = x) := by
  by_cases hl : i < l.length
  · rw [List.getElem?_append_left hl] at h; exact Or.inl h
  · rw [List.getElem?_append_right (by omega)] at h
    have h0 : i - l.length < 1 := (List.getElem?_eq_some_iff.mp h).1
    have : i = l.length := by omega
    subst this
    rw [Nat.sub_self] at h
    cases h
    exact Or.inr ⟨rfl, rfl⟩
theorem zPL.al {h0 h : zH} {a : Nat} {ks : List (Nat × Nat)} {rs : List (Nat × Nat × Nat)} {zs : List Nat} {fv : Nat → Int32} (p : zPL h0 h a ks rs zs fv) (kd n : Nat) (h6 : a + (ks.length + 1) ≤ 1000000) : zPL h0 (zal h kd n) a (ks ++ [(kd, n)]) rs (zs ++ [ks.length]) fv := by
  obtain ⟨p1, p2, p3, p4, p5, p6, p7, p8⟩ := p
  have hl : (ks ++ [(kd, n)]).length = ks.length + 1 := by simp
  refine ⟨by rw [hl]; show zN h + 1 = _; omega, fun i q hi => ?_, fun i q hi => ?_, fun i o hi => ?_, fun j => ?_, fun b hb => ?_, by rw [hl]; omega, by rw [hl]; exact h6⟩
  · rcases lapp hi with h1 | ⟨h1, h2⟩
    · have : i < ks.length := (List.getElem?_eq_some_iff.mp h1).1
      rw [zK_alo (by omega)]; exact p2 i q h1
    · rw [h1, h2, ← p1]; exact zK_al
  · obtain ⟨q1, q2⟩ := p3 i q hi
    rw [hl, zR_alo (by omega)]
    exact ⟨by omega, q2⟩
  · rcases lapp hi with h1 | ⟨h1, h2⟩
    · obtain ⟨q1, q2⟩ := p4 i o h1
      rw [hl]
      exact ⟨by omega, fun j => by rw [zI_alo (by omega)]; exact q2 j⟩
    · subst h2
      rw [hl]
      exact ⟨by omega, fun j => by rw [← p1]; exact zI_aln⟩
  · rw [zI_alo (by omega)]; exact p5 j
  · obtain ⟨q1, q2, q3⟩ := p6 b hb
    have hne : b ≠ zN h := by omega
    exact ⟨by rw [zK_alo hne]; exact q1, fun j => by rw [zI_alo hne]; exact q2 j, fun j => by rw [zR_alo hne]; exact q3 j⟩
theorem zPL.wR {h0 h : zH} {a : Nat} {ks : List (Nat × Nat)} {rs : List (Nat × Nat × Nat)} {zs : List Nat} {fv : Nat → Int32} (p : zPL h0 h a ks rs zs fv) (o j t : Nat) (ho : o < ks.length) (hn : rs.all (fun e => !(e.1 == o && e.2.1 == j)) = true) : zPL h0 (zwR h (a + o) j (some (a + t))) a ks (rs ++ [(o, j, t)]) zs fv := by
  obtain ⟨p1, p2, p3, p4, p5, p6, p7, p8⟩ := p
  refine ⟨p1, p2, fun i q hi => ?_, p4, p5, fun b hb => ?_, p7, p8⟩
  · rcases lapp hi with h1 | ⟨h1, h2⟩
    · obtain ⟨q1, q2⟩ := p3 i q h1
      refine ⟨q1, ?_⟩
      have h3 := List.all_eq_true.mp hn q (List.mem_of_getElem? h1)
      rw [zR_w, if_neg (fun z => by
        have e1 : q.1 = o := by omega
        have e2 : q.2.1 = j := z.2
        simp [e1, e2] at h3)]
      exact q2
    · subst h2; exact ⟨ho, zR_ws⟩
  · obtain ⟨q1, q2, q3⟩ := p6 b hb
    exact ⟨q1, q2, fun k => by rw [zR_w, if_neg (fun z => by omega)]; exact q3 k⟩
theorem zPL.wI {h0 h : zH} {a : Nat} {ks : List (Nat × Nat)} {rs : List (Nat × Nat × Nat)} {zs : List Nat} {fv : Nat → Int32} (p : zPL h0 h a ks rs zs fv) (j : Nat) (x : Int32) : zPL h0 (zwI h a j x) a ks rs zs (fun k => if k = j then x else fv k) := by
  obtain ⟨p1, p2, p3, p4, p5, p6, p7, p8⟩ := p
  refine ⟨p1, p2, p3, fun i o hi => ?_, fun k => ?_, fun b hb => ?_, p7, p8⟩
  · obtain ⟨q1, q2⟩ := p4 i o hi
    exact ⟨q1, fun k => by rw [zI_wo (by omega)]; exact q2 k⟩
  · show zI (zwI h a j x) a k = if k = j then x else fv k
    rw [zI_w]
    by_cases e : k = j
    · rw [if_pos ⟨rfl, e⟩, if_pos e]
    · rw [if_neg (fun z => e z.2), if_neg e]; exact p5 k
  · obtain ⟨q1, q2, q3⟩ := p6 b hb
    exact ⟨q1, fun k => by rw [zI_wo (by omega)]; exact q2 k, q3⟩
/-- ints that change from a on alone -/
theorem zPL.ch {h0 h : zH} {a : Nat} {ks : List (Nat × Nat)} {rs : List (Nat × Nat × Nat)} {zs : List Nat} {fv : Nat → Int32} (p : zPL h0 h a ks rs zs fv) {I : Nat → Nat → Int32} (hI : ∀ b, (b < a ∨ 1000000 ≤ b) → ∀ j, I b j = h.1 b j) : zPL h0 (I, h.2) a ks rs [] (I a) := by
  obtain ⟨p1, p2, p3, p4, p5, p6, p7, p8⟩ := p
  refine ⟨p1, p2, p3, fun i o hi => (by cases hi), fun _ => rfl, fun b hb => ?_, p7, p8⟩
  obtain ⟨q1, q2, q3⟩ := p6 b hb
  exact ⟨q1, fun j => (hI b hb j).trans (q2 j), q3⟩
def zsh (o : Nat) (rs : List (Nat × Nat × Nat)) : List (Nat × Nat × Nat) := rs.map fun e => (o + e.1, e.2.1, o + e.2.2)
/-- a new object of its own, laid by its constructor -/
theorem zPL.sub {h0 h h2 : zH} {a kd n : Nat} {ks ks' : List (Nat × Nat)} {rs rs' : List (Nat × Nat × Nat)} {zs zs' : List Nat} {fv fv' : Nat → Int32} (p : zPL h0 h a ks rs zs fv) (p' : zPL (zal h kd n) h2 (zN h) ks' rs' zs' fv') : zPL h0 h2 a (ks ++ ks') (rs ++ zsh ks.length rs') zs fv := by
  obtain ⟨p1, p2, p3, p4, p5, p6, p7, p8⟩ := p
  obtain ⟨s1, s2, s3, s4, s5, s6, s7, s8⟩ := p'
  have low : ∀ b, b < zN h → zK h2 b = zK h b ∧ (∀ j, zI h2 b j = zI h b j) ∧ ∀ j, zR h2 b j = zR h b j := fun b hb => by
    obtain ⟨q1, q2, q3⟩ := s6 b (Or.inl hb)
    have hne : b ≠ zN h := by omega
    exact ⟨by rw [q1, zK_alo hne], fun j => by rw [q2, zI_alo hne], fun j => by rw [q3, zR_alo hne]⟩
  refine ⟨by rw [s1, p1, List.length_append]; omega, fun i q hi => ?_, fun i q hi => ?_, fun i o hi => ?_, fun j => ?_, fun b hb => ?_, by rw [List.length_append]; omega, by rw [List.length_append]; omega⟩
  · by_cases hl : i < ks.length
    · rw [List.getElem?_append_left hl] at hi
      rw [(low _ (by omega)).1]; exact p2 i q hi
    · rw [List.getElem?_append_right (by omega)] at hi
      have := s2 _ _ hi
      rw [show zN h + (i - ks.length) = a + i by omega] at this
      exact this
  · by_cases hl : i < rs.length
    · rw [List.getElem?_append_left hl] at hi
      obtain ⟨q1, q2⟩ := p3 i q hi
      rw [List.length_append, (low _ (by omega)).2.2]
      exact ⟨by omega, q2⟩
    · rw [List.getElem?_append_right (by omega)] at hi
      unfold zsh at hi
      rw [List.getElem?_map] at hi
      cases hv : rs'[i - rs.length]? with
      | none => rw [hv] at hi; cases hi
      | some e =>
        rw [hv] at hi
        have hi : some (ks.length + e.1, e.2.1, ks.length + e.2.2) = some q := hi
        cases hi
        obtain ⟨q1, q2⟩ := s3 _ _ hv
        rw [List.length_append]
        refine ⟨by show ks.length + e.1 < _; omega, ?_⟩
        show zR h2 (a + (ks.length + e.1)) e.2.1 = some (a + (ks.length + e.2.2))
        rw [show a + (ks.length + e.1) = zN h + e.1 by omega, q2]
        exact congrArg some (by omega)
  · obtain ⟨q1, q2⟩ := p4 i o hi
    rw [List.length_append]
    exact ⟨by omega, fun j => by rw [(low _ (by omega)).2.1]; exact q2 j⟩
  · rw [(low _ (by omega)).2.1]; exact p5 j
  · obtain ⟨q1, q2, q3⟩ := p6 b hb
    have hne : b ≠ zN h := by omega
    obtain ⟨r1, r2, r3⟩ := s6 b (by omega)
    exact ⟨by rw [r1, zK_alo hne]; exact q1, fun j => by rw [r2, zI_alo hne]; exact q2 j, fun j => by rw [r3, zR_alo hne]; exact q3 j⟩
theorem zPL.to {h0 h : zH} {a : Nat} {ks ks' : List (Nat × Nat)} {rs rs' : List (Nat × Nat × Nat)} {zs zs' : List Nat} {fv : Nat → Int32} (p : zPL h0 h a ks rs zs fv) (hk : ks = ks') (hr : rs'.all (fun e => rs.contains e) = true) (hz : zs'.all (fun e => zs.contains e) = true) : zPL h0 h a ks' rs' zs' fv := by
  subst hk
  obtain ⟨p1, p2, p3, p4, p5, p6, p7, p8⟩ := p
  refine ⟨p1, p2, fun i q hi => ?_, fun i o hi => ?_, p5, p6, p7, p8⟩
  · obtain ⟨k, hk2⟩ := List.getElem?_of_mem (List.contains_iff_mem.mp (List.all_eq_true.mp hr q (List.mem_of_getElem? hi)))
    exact p3 k q hk2
  · obtain ⟨k, hk2⟩ := List.getElem?_of_mem (List.contains_iff_mem.mp (List.all_eq_true.mp hz o (List.mem_of_getElem? hi)))
    exact p4 k o hk2
theorem i_tdv : defaultValue FieldType.int = .int 0 := rfl
