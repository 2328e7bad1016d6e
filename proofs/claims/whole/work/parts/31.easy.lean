set_option maxRecDepth 4000
/-! ===== bits, rows ===== -/
theorem b_255 (x : Int32) : 0 ≤ (x &&& 255).toInt ∧ (x &&& 255).toInt < 256 := by
  have h1 : (x &&& 255).toBitVec.toNat ≤ 255 := by
    rw [Int32.toBitVec_and, BitVec.toNat_and]
    exact Nat.and_le_right
  have h2 : (x &&& 255).toInt = ((x &&& 255).toBitVec.toNat : Int) := by
    show (x &&& 255).toBitVec.toInt = _
    rw [BitVec.toInt_eq_toNat_of_lt (by omega)]
  omega
def bt (x : Int32) (i : Nat) : Int32 := match i with
  | 0 => zushr x 24 &&& 255
  | 1 => zushr x 16 &&& 255
  | 2 => zushr x 8 &&& 255
  | _ => zushr x 0 &&& 255
theorem bt_rng (x : Int32) (i : Nat) : 0 ≤ (bt x i).toInt ∧ (bt x i).toInt < 256 := by
  unfold bt
  split <;> exact b_255 _
theorem b_shr (x : Int32) : (x >>> ((24 : Int32) &&& 31)) &&& 255 = zushr x 24 &&& 255 ∧ (x >>> ((16 : Int32) &&& 31)) &&& 255 = zushr x 16 &&& 255 ∧ (x >>> ((8 : Int32) &&& 31)) &&& 255 = zushr x 8 &&& 255 ∧ (x >>> ((0 : Int32) &&& 31)) &&& 255 = zushr x 0 &&& 255 := by
  have key : ∀ (s : Nat), s ≤ 24 → (BitVec.sshiftRight x.toBitVec s) &&& 255#32 = (x.toBitVec >>> s) &&& 255#32 := by
    intro s hs
    apply BitVec.eq_of_getLsbD_eq
    intro i hi
    rw [BitVec.getLsbD_and, BitVec.getLsbD_and, BitVec.getLsbD_sshiftRight, BitVec.getLsbD_ushiftRight]
    by_cases h8 : i < 8
    · rw [if_pos (by omega)]
      simp [hi, show ¬ 32 ≤ i by omega]
    · have : (255#32).getLsbD i = false := by
        rw [BitVec.getLsbD_ofNat]
        have h9 : Nat.testBit 255 i = false := Nat.testBit_lt_two_pow (Nat.lt_of_lt_of_le (by decide : 255 < 2 ^ 8) (Nat.pow_le_pow_right (by decide) (by omega)))
        simp [h9]
      rw [this, Bool.and_false, Bool.and_false]
  refine ⟨?_, ?_, ?_, ?_⟩
  · exact Int32.toBitVec_inj.mp (key 24 (by decide))
  · exact Int32.toBitVec_inj.mp (key 16 (by decide))
  · exact Int32.toBitVec_inj.mp (key 8 (by decide))
  · exact Int32.toBitVec_inj.mp (key 0 (by decide))
theorem b_bt (x : Int32) (r : Nat) (hr : r < 4) : (x >>> ((24 - 8 * Int32.ofNat r) &&& 31)) &&& 255 = bt x r := by
  obtain ⟨h1, h2, h3, h4⟩ := b_shr x
  match r, hr with
  | 0, _ => exact h1
  | 1, _ => exact h2
  | 2, _ => exact h3
  | 3, _ => exact h4
  | k + 4, q => omega
theorem b_rem4 : ∀ i : Nat, i < 20 → zrem (Int32.ofNat i) 4 = Int32.ofNat (i % 4) := by decide
theorem n_ofn {x : Int32} {i : Nat} (h : x.toInt = (i : Int)) : x = Int32.ofNat i := by
  have := i_rng x
  exact i_ext (by rw [h, i_ofNat (by omega)])
theorem zput_w {h : zH} {a n : Nat} {x v : Int32} {i : Nat} (q : zAw h a n) (hi : x.toInt = (i : Int)) (hn : i < n) : zput h (some a) x v = zwI h a i v := by
  refine Prod.ext (funext fun b => funext fun k => ?_) rfl
  show (if some a = some b ∧ 0 ≤ x.toInt ∧ x.toInt < ((zK h b).2 : Int) ∧ k = zix x then v else h.1 b k) = (if b = a ∧ k = i then v else h.1 b k)
  rw [zix_of hi]
  by_cases e : b = a
  · subst e
    have : (zK h b).2 = n := by rw [q.1]
    by_cases e2 : k = i
    · rw [if_pos ⟨rfl, by omega, by omega, e2⟩, if_pos ⟨rfl, e2⟩]
    · rw [if_neg (fun z => e2 z.2.2.2), if_neg (fun z => e2 z.2)]
  · rw [if_neg (fun z => e (Option.some.inj z.1).symm), if_neg (fun z => e z.1)]
theorem zput_no {h : zH} {a n : Nat} {x v : Int32} (q : zAw h a n) (hi : ¬ (0 ≤ x.toInt ∧ x.toInt < (n : Int))) : zput h (some a) x v = h := by
  refine Prod.ext (funext fun b => funext fun k => ?_) rfl
  show (if some a = some b ∧ 0 ≤ x.toInt ∧ x.toInt < ((zK h b).2 : Int) ∧ k = zix x then v else h.1 b k) = h.1 b k
  refine if_neg (fun z => ?_)
  have e := Option.some.inj z.1
  subst e
  rw [q.1] at z
  exact hi ⟨z.2.1, z.2.2.1⟩
theorem zget_w {h : zH} {a n : Nat} {x : Int32} {i : Nat} (q : zAw h a n) (hi : x.toInt = (i : Int)) (hn : i < n) : zget h (some a) x = zI h a i := by
  rw [zget_lo q, if_pos (by omega), zix_of hi]
theorem zget_no {h : zH} {a n : Nat} {x : Int32} (q : zAw h a n) (hi : ¬ (0 ≤ x.toInt ∧ x.toInt < (n : Int))) : zget h (some a) x = -1 := by
  rw [zget_lo q, if_neg hi]
/-! ===== count, fault ===== -/
section K31
variable {TK : (Nat → Int) → (Nat → Int32) → (Nat → Int32) → Prop} {RK : (Nat → Int) → (Nat → Int) → (Nat → Int32) → (Nat → Int32) → (Nat → Int32) → (Nat → Int32) → Prop}
theorem KeptP.ok : KOK (KeptP TK RK) := KeptP.same
theorem pp_count {Kept : zH → Prop} (hk : KOK Kept) (l : Launch) (G : zG) : P_count Kept l G := fun x1 => by
  refine Pair.of hk (fun A => if x1 = 0 then A 0 else if x1 = 1 then A 1 else -2) (fun h hI => ?_) (fun h hI => ?_)
  · refine kX10_count 0 x1 (sX10_count_0 0 x1 hI.1 (Nat.le_refl _) ?_)
    refine ⟨fun c1 => ⟨fun c2 => ⟨_, h.1, rfl, rfl, ?_, SameC.rf h⟩, fun c2 => ⟨_, h.1, rfl, rfl, ?_, SameC.rf h⟩⟩, fun c => ⟨_, h.1, rfl, rfl, ?_, SameC.rf h⟩⟩
    · rw [if_neg c1, if_neg c2]
    · rw [if_neg c1, if_pos c2]; exact hI.2.2.2.1.2.2.2.2.2.1.1
    · rw [if_pos c]; exact hI.2.2.2.1.2.2.2.2.1.1
  · refine kX11_count 313 x1 (sX11_count_0 313 x1 hI.2.1 (Nat.le_refl _) ?_)
    refine ⟨fun c1 => ⟨_, h.1, rfl, rfl, ?_, SameC.rf h⟩, fun c1 => ⟨?_, ?_, _, h.1, rfl, rfl, ?_, SameC.rf h⟩⟩
    · have c2 := zin3_f.mp c1
      rw [if_neg (fun e => c2 (by rw [e]; decide)), if_neg (fun e => c2 (by rw [e]; decide))]
    all_goals
      have c2 := zin3_t.mp c1
      rw [show (0 : Int32).toInt = 0 from rfl, show (1 : Int32).toInt = 1 from rfl] at c2
    · omega
    · omega
    · by_cases e : x1 = 0
      · rw [if_pos e, e]; rfl
      · have e1 : x1 = 1 := i_ext (by
          have : x1.toInt ≠ 0 := fun z => e (i_ext z)
          show x1.toInt = 1
          omega)
        rw [if_neg e, if_pos e1, e1]; rfl
theorem pp_fault {Kept : zH → Prop} (hk : KOK Kept) (l : Launch) (G : zG) : P_fault Kept l G := fun x1 => by
  refine Pair.of hk (fun A => if x1 = 0 then A 3 else if x1 = 1 then A 4 else -1) (fun h hI => ?_) (fun h hI => ?_)
  · refine kX10_fault 0 x1 (sX10_fault_0 0 x1 hI.1 (Nat.le_refl _) ?_)
    refine ⟨fun c1 => ⟨fun c2 => ⟨_, h.1, rfl, rfl, ?_, SameC.rf h⟩, fun c2 => ⟨_, h.1, rfl, rfl, ?_, SameC.rf h⟩⟩, fun c => ⟨_, h.1, rfl, rfl, ?_, SameC.rf h⟩⟩
    · rw [if_neg c1, if_neg c2]
    · rw [if_neg c1, if_pos c2]; exact hI.2.2.2.1.2.2.2.1
    · rw [if_pos c]; exact hI.2.2.2.1.2.2.1
  · refine kX11_fault 313 x1 (sX11_fault_0 313 x1 hI.2.1 (Nat.le_refl _) ?_)
    refine ⟨fun c1 => ⟨fun c2 => ⟨_, h.1, rfl, rfl, ?_, SameC.rf h⟩, fun c2 => ⟨_, h.1, rfl, rfl, ?_, SameC.rf h⟩⟩, fun c => ⟨_, h.1, rfl, rfl, ?_, SameC.rf h⟩⟩
    · rw [if_neg c1, if_neg c2]
    · rw [if_neg c1, if_pos c2]; rfl
    · rw [if_pos c]; rfl
/-! ===== the tape ===== -/
/-- only the tape and its length change -/
theorem Inv.fed {h : zH} {J : Nat → Nat → Int32} (hI : Inv (KeptP TK RK) h) (same : ∀ b, IC b → b ≠ 1 → b ≠ 2 → b ≠ 314 → ∀ j, J b j = h.1 b j) (s1 : ∀ j, j ≠ 1 → J 1 j = h.1 1 j) (sA : ∀ j, j ≠ 2 → (j < 10 ∨ 610 ≤ j) → J 314 j = h.1 314 j)
    (len : J 1 1 = J 314 2 ∧ 0 ≤ (J 314 2).toInt ∧ (J 314 2).toInt ≤ 600) (tape : ∀ i, i < 600 → J 2 i = J 314 (10 + i) ∧ 0 ≤ (J 314 (10 + i)).toInt ∧ (J 314 (10 + i)).toInt < 256) : Inv (KeptP TK RK) (J, h.2) := by
  obtain ⟨l1, l2, hN, hT, hIm, hK⟩ := hI
  obtain ⟨q1, q2, q3, q4, q5, q6, q7, q8⟩ := hT
  have eA : ∀ j, j ≠ 2 → (j < 10 ∨ 610 ≤ j) → AL (J, h.2) j = AL h j := sA
  have eR : ∀ B, 610 ≤ B → RW (J, h.2) B = RW h B := fun B hB => RW_cg fun w _ => eA _ (by omega) (by omega)
  have eV : ∀ B, 610 ≤ B → RV (J, h.2) B = RV h B := fun B hB => RV_cg fun w _ => eA _ (by omega) (by omega)
  have eZ : ∀ b, IC b → b ≠ 1 → b ≠ 2 → b ≠ 314 → ∀ j, zI (J, h.2) b j = zI h b j := same
  have eF : ∀ b, IC b → b ≠ 1 → b ≠ 2 → b ≠ 314 → zI (J, h.2) b = zI h b := fun b h1 h2 h3 h4 => funext (same b h1 h2 h3 h4)
  refine ⟨l1, l2, hN, ⟨?_, ?_, ?_, ?_, ?_, ?_, fun i hi => ?_, fun i hi => ?_⟩, fun k hk => ?_, ?_, ?_⟩
  · intro i hi
    exact ⟨by rw [show (0 + 10 + i : Nat) = 10 + i by omega]; exact (tape i hi).1, by rw [show (0 + 10 + i : Nat) = 10 + i by omega]; exact (tape i hi).2⟩
  · exact len
  · show J 1 2 = J 314 3
    rw [s1 2 (by decide), sA 3 (by decide) (by decide)]; exact q3
  · show J 1 3 = J 314 4
    rw [s1 3 (by decide), sA 4 (by decide) (by decide)]; exact q4
  · show J 1 5 = J 314 0 ∧ 0 ≤ (J 314 0).toInt ∧ (J 314 0).toInt ≤ 2
    rw [s1 5 (by decide), sA 0 (by decide) (by decide)]; exact q5
  · show J 1 7 = J 314 1 ∧ 0 ≤ (J 314 1).toInt ∧ (J 314 1).toInt ≤ 2
    rw [s1 7 (by decide), sA 1 (by decide) (by decide)]; exact q6
  · rw [eA 0 (by decide) (by decide)] at hi
    have hi2 : i < 2 := by have := q5.2.2; omega
    rw [eR _ (by omega)]
    obtain ⟨w, n1, n2, n3, n4⟩ := q7 i hi
    have h6 := w.2.2.2.1
    refine ⟨w, fun f hf => ?_, fun m hm => ?_, fun k hk => ?_, fun p hp => ⟨fun f hf => ?_, fun s hs => ?_⟩⟩
    · rw [eZ _ (by unfold IC; omega) (by omega) (by omega) (by omega)]; exact n1 f hf
    · rw [eZ _ (by unfold IC; omega) (by omega) (by omega) (by omega)]; exact n2 m hm
    · rw [eZ _ (by unfold IC; omega) (by omega) (by omega) (by omega), eZ _ (by unfold IC; omega) (by omega) (by omega) (by omega), eZ _ (by unfold IC; omega) (by omega) (by omega) (by omega)]; exact n3 k hk
    · rw [eZ _ (by unfold IC; omega) (by omega) (by omega) (by omega)]; exact (n4 p hp).1 f hf
    · rw [eZ _ (by unfold IC; omega) (by omega) (by omega) (by omega)]; exact (n4 p hp).2 s hs
  · rw [eA 1 (by decide) (by decide)] at hi
    have hi2 : i < 2 := by have := q6.2.2; rw [show 0 + 1 = 1 from rfl] at this; omega
    rw [eV _ (by omega)]
    obtain ⟨w, r1, r2⟩ := q8 i hi
    refine ⟨w, ?_, fun k hk => ?_⟩
    · rw [eZ _ (by unfold IC; omega) (by omega) (by omega) (by omega)]; exact r1
    · rw [eZ _ (by unfold IC; omega) (by omega) (by omega) (by omega), eZ _ (by unfold IC; omega) (by omega) (by omega) (by omega), eZ _ (by unfold IC; omega) (by omega) (by omega) (by omega), eZ _ (by unfold IC; omega) (by omega) (by omega) (by omega), eZ _ (by unfold IC; omega) (by omega) (by omega) (by omega)]; exact r2 k hk
  · rw [eZ _ (by unfold IC; omega) (by omega) (by omega) (by omega), eZ _ (by unfold IC; omega) (by omega) (by omega) (by omega)]
    obtain ⟨r1, r2⟩ := hIm k hk
    refine ⟨r1, r2.elim Or.inl (fun r => Or.inr ⟨r.1, ?_⟩)⟩
    exact r.2.moved (fun b h1 h2 j => eZ b (by unfold IC; omega) (by omega) (by omega) (by omega) j) (fun j hj _ => eA j (by omega) (by omega))
  · unfold TKh
    rw [eF 0 (by unfold IC; omega) (by decide) (by decide) (by decide), eA 0 (by decide) (by decide), eF 136 (by unfold IC; omega) (by decide) (by decide) (by decide), eF 137 (by unfold IC; omega) (by decide) (by decide) (by decide)]
    exact hK.1.elim Or.inl (fun ⟨n, z1, z2, z3⟩ => Or.inr ⟨n, z1, z2, by rw [eR _ (by omega)]; exact z3⟩)
  · unfold RKh
    rw [eF 0 (by unfold IC; omega) (by decide) (by decide) (by decide), eA 0 (by decide) (by decide), eA 1 (by decide) (by decide), eF 150 (by unfold IC; omega) (by decide) (by decide) (by decide), eF 151 (by unfold IC; omega) (by decide) (by decide) (by decide), eF 152 (by unfold IC; omega) (by decide) (by decide) (by decide), eF 153 (by unfold IC; omega) (by decide) (by decide) (by decide)]
    exact hK.2.elim Or.inl (fun ⟨n, r, z1, z2, z3, z4, z5⟩ => Or.inr ⟨n, r, z1, z2, z3, z4, by rw [eR _ (by omega), eV _ (by omega)]; exact z5⟩)
end K31
