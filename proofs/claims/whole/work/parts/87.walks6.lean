set_option maxRecDepth 4000
/-! ===== rows of signs: the first of all ===== -/
section K87
theorem DS_nd {F : Nat → Nat → Bool} {M n L : Nat} (hn : n ≤ 10) (hM : 1 ≤ M) : ∀ r i nx, i + r = n → PV F M n i nx → enB i nx ≤ L → (DS F M n L r i nx (enB i nx)).Nodup
  | 0, _, _, _, _, _ => List.pairwise_singleton _ _
  | r + 1, i, nx, hi, p, he => by
    show (if L < enB i nx + efB F n i nx then [] else _ ++ _).Nodup
    have nxi : nx i = 10 := p.1 i (Nat.le_refl _)
    have e1 : enB (i + 1) nx = enB i nx + 1 := by rw [enB_s, if_pos nxi]
    have up : ∀ b, b < n → upN nx i b i = b ∧ enB (i + 1) (upN nx i b) = enB i nx := fun b hb => by
      have u : upN nx i b i = b := if_pos rfl
      refine ⟨u, ?_⟩
      rw [enB_s, enB_up, u, if_neg (by omega)]; rfl
    -- what a member has at i
    have at_i : ∀ b, b < n → jnB F M n i nx b = true → (DS F M n L r (i + 1) (upN nx i b) (enB i nx)).Nodup ∧ ∀ g, g ∈ DS F M n L r (i + 1) (upN nx i b) (enB i nx) → g i = b := fun b hb w => by
      have p' := PV_some hn hM (by omega) hb p w
      obtain ⟨u1, u2⟩ := up b hb
      have a := DS_nd hn hM r (i + 1) (upN nx i b) (by omega) p' (by rw [u2]; exact he)
      have m := DS_mem hn hM r (i + 1) (upN nx i b) (by omega) p' (by rw [u2]; exact he)
      rw [u2] at a m
      exact ⟨a, fun g hg => (((m g).mp hg).2.1 i (by omega)).trans u1⟩
    by_cases q : L < enB i nx + efB F n i nx
    · rw [if_pos q]; exact List.Pairwise.nil
    · rw [if_neg q, List.nodup_append]
      refine ⟨?_, ?_, fun x hx y hy e => ?_⟩
      · unfold List.Nodup
        rw [List.pairwise_flatMap]
        refine ⟨fun b hb => ?_, List.Pairwise.imp_of_mem ?_ (List.nodup_range (n := n))⟩
        · split
          · rename_i w; exact (at_i b (List.mem_range.mp hb) w).1
          · exact List.Pairwise.nil
        · intro b c hb hc hne x hx y hy e
          subst e
          split at hx
          · rename_i w1
            split at hy
            · rename_i w2
              exact hne (((at_i b (List.mem_range.mp hb) w1).2 x hx).symm.trans ((at_i c (List.mem_range.mp hc) w2).2 x hy))
            · exact absurd hy List.not_mem_nil
          · exact absurd hx List.not_mem_nil
      · split
        · rename_i w
          have := DS_nd hn hM r (i + 1) nx (by omega) (PV_none p) (by rw [e1]; exact w)
          rw [e1] at this; exact this
        · exact List.Pairwise.nil
      · subst e
        obtain ⟨b, hb, hx⟩ := List.mem_flatMap.mp hx
        split at hx
        · rename_i w1
          split at hy
          · rename_i w2
            have m := DS_mem hn hM r (i + 1) nx (by omega) (PV_none p) (by rw [e1]; exact w2) x
            rw [e1] at m
            have h1 := (m.mp hy).2.1 i (by omega)
            have h2 := (at_i b (List.mem_range.mp hb) w1).2 x hx
            have := List.mem_range.mp hb
            omega
          · exact absurd hy List.not_mem_nil
        · exact absurd hx List.not_mem_nil
/-- the head comes first: none is the last of what a sign may have -/
theorem DS_hd {F : Nat → Nat → Bool} {M n L : Nat} (hn : n ≤ 10) (hM : 1 ≤ M) : ∀ r i nx, i + r = n → PV F M n i nx → enB i nx ≤ L → ∀ g l, DS F M n L r i nx (enB i nx) = g :: l → ∀ g', g' ∈ DS F M n L r i nx (enB i nx) → ∀ j, j < n → (∀ a, a < j → g' a = g a) → g j ≤ g' j
  | 0, i, nx, hi, p, he, g, l, e, g', hg, j, hj, ha => by
    have e' : [nx] = g :: l := e
    have hg' : g' ∈ [nx] := hg
    rw [List.mem_singleton] at hg'
    rw [hg', (List.cons.inj e').1]; exact Nat.le_refl _
  | r + 1, i, nx, hi, p, he, g, l, e, g', hg, j, hj, ha => by
    have nxi : nx i = 10 := p.1 i (Nat.le_refl _)
    have e1 : enB (i + 1) nx = enB i nx + 1 := by rw [enB_s, if_pos nxi]
    have up : ∀ b, b < n → upN nx i b i = b ∧ enB (i + 1) (upN nx i b) = enB i nx := fun b hb => by
      have u : upN nx i b i = b := if_pos rfl
      refine ⟨u, ?_⟩
      rw [enB_s, enB_up, u, if_neg (by omega)]; rfl
    have mb := fun b (hb : b < n) (w : jnB F M n i nx b = true) => by
      have m := DS_mem (L := L) hn hM r (i + 1) (upN nx i b) (by omega) (PV_some hn hM (by omega) hb p w) (by rw [(up b hb).2]; exact he)
      rw [(up b hb).2] at m
      exact m
    have at_i : ∀ b, b < n → jnB F M n i nx b = true → ∀ g, g ∈ DS F M n L r (i + 1) (upN nx i b) (enB i nx) → g i = b := fun b hb w g hg => (((mb b hb w g).mp hg).2.1 i (by omega)).trans (up b hb).1
    have hda : ∀ b, b < n → jnB F M n i nx b = true → ∀ g l, DS F M n L r (i + 1) (upN nx i b) (enB i nx) = g :: l → ∀ g', g' ∈ DS F M n L r (i + 1) (upN nx i b) (enB i nx) → ∀ j, j < n → (∀ a, a < j → g' a = g a) → g j ≤ g' j := fun b hb w => by
      have := DS_hd (L := L) hn hM r (i + 1) (upN nx i b) (by omega) (PV_some hn hM (by omega) hb p w) (by rw [(up b hb).2]; exact he)
      rw [(up b hb).2] at this
      exact this
    have same_i : ∀ g, g ∈ DS F M n L (r + 1) i nx (enB i nx) → ∀ a, a < i → g a = nx a := fun g hg => ((DS_mem hn hM (r + 1) i nx hi p he g).mp hg).2.1
    have gm : g ∈ DS F M n L (r + 1) i nx (enB i nx) := by rw [e]; exact List.mem_cons_self ..
    have j1 : i ≤ j ∨ j < i := by omega
    rcases j1 with ji | ji
    · -- by the list of what sign i may have
      have lists : ∀ (bs : List Nat) (tl : List (Nat → Nat)), (∀ b, b ∈ bs → b < n) → List.Pairwise (fun x y => x < y) bs → (∀ h, h ∈ tl → h i = 10) → (∀ g l, tl = g :: l → ∀ g', g' ∈ tl → ∀ j, j < n → (∀ a, a < j → g' a = g a) → g j ≤ g' j) → ∀ g l, bs.flatMap (fun b => if jnB F M n i nx b = true then DS F M n L r (i + 1) (upN nx i b) (enB i nx) else []) ++ tl = g :: l → ∀ g', g' ∈ bs.flatMap (fun b => if jnB F M n i nx b = true then DS F M n L r (i + 1) (upN nx i b) (enB i nx) else []) ++ tl → ∀ j, j < n → i ≤ j → (∀ a, a < j → g' a = g a) → g j ≤ g' j := by
        intro bs
        induction bs with
        | nil => intro tl _ _ _ ht g l e g' hg j hj _ ha; exact ht g l e g' hg j hj ha
        | cons b bs ih =>
          intro tl hb hp h10 ht g l e g' hg j hj ji ha
          obtain ⟨hp1, hp2⟩ := List.pairwise_cons.mp hp
          have bn := hb b (List.mem_cons_self ..)
          rw [List.flatMap_cons, List.append_assoc] at e hg
          -- whatever comes behind has more at i
          have more : ∀ h, h ∈ bs.flatMap (fun b => if jnB F M n i nx b = true then DS F M n L r (i + 1) (upN nx i b) (enB i nx) else []) ++ tl → b < h i := fun h hh => by
            rcases List.mem_append.mp hh with z | z
            · obtain ⟨c, hc, z⟩ := List.mem_flatMap.mp z
              split at z
              · rename_i w
                rw [at_i c (hb c (List.mem_cons_of_mem _ hc)) w h z]; exact hp1 c hc
              · exact absurd z List.not_mem_nil
            · rw [h10 h z]; omega
          by_cases w : jnB F M n i nx b = true
          · rw [if_pos w] at e hg
            cases q : DS F M n L r (i + 1) (upN nx i b) (enB i nx) with
            | nil =>
              rw [q, List.nil_append] at e hg
              exact ih tl (fun b hb' => hb b (List.mem_cons_of_mem _ hb')) hp2 h10 ht g l e g' hg j hj ji ha
            | cons g0 l0 =>
              rw [q, List.cons_append] at e
              have eg : g0 = g := (List.cons.inj e).1
              have gi : g i = b := by rw [← eg]; exact at_i b bn w g0 (by rw [q]; exact List.mem_cons_self ..)
              rcases List.mem_append.mp hg with z | z
              · exact hda b bn w g l0 (by rw [q, eg]) g' z j hj ha
              · have := more g' z
                by_cases y : j = i
                · subst y; omega
                · have := ha i (by omega)
                  omega
          · rw [if_neg w, List.nil_append] at e hg
            exact ih tl (fun b hb' => hb b (List.mem_cons_of_mem _ hb')) hp2 h10 ht g l e g' hg j hj ji ha
      have un : DS F M n L (r + 1) i nx (enB i nx) = if L < enB i nx + efB F n i nx then [] else (List.range n).flatMap (fun b => if jnB F M n i nx b = true then DS F M n L r (i + 1) (upN nx i b) (enB i nx) else []) ++ (if enB i nx < L then DS F M n L r (i + 1) nx (enB i nx + 1) else []) := rfl
      by_cases q : L < enB i nx + efB F n i nx
      · rw [un, if_pos q] at e; cases e
      · rw [un, if_neg q] at e hg
        refine lists (List.range n) _ (fun b hb => List.mem_range.mp hb) List.pairwise_lt_range (fun h hh => ?_) (fun g l e g' hg j hj ha => ?_) g l e g' hg j hj ji ha
        · split at hh
          · rename_i w
            have m := DS_mem (L := L) hn hM r (i + 1) nx (by omega) (PV_none p) (by rw [e1]; exact w) h
            rw [e1] at m
            exact ((m.mp hh).2.1 i (by omega)).trans nxi
          · exact absurd hh List.not_mem_nil
        · split at e
          · rename_i w
            rw [if_pos w] at hg
            have := DS_hd (L := L) hn hM r (i + 1) nx (by omega) (PV_none p) (by rw [e1]; exact w) g l (by rw [e1]; exact e) g' (by rw [e1]; exact hg) j hj ha
            exact this
          · cases e
    · rw [same_i g gm j ji, same_i g' hg j ji]; exact Nat.le_refl _
end K87
