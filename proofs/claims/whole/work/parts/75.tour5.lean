set_option maxRecDepth 4000
/-! ===== the class's tour: going on ===== -/
section K75
variable {V : Nat → Int} {q : Nat}
def Fr7 (h h' : zH) : Prop := (∀ b, (b < 136 ∨ 150 ≤ b) → h'.1 b = h.1 b) ∧ (∀ b k, ¬ (b = 146 ∧ (k = 3 ∨ k = 4)) → zR h' b k = zR h b k) ∧ (∀ b, zK h' b = zK h b) ∧ zN h' = zN h
theorem Fr7.rf (h : zH) : Fr7 h h := ⟨fun _ _ => rfl, fun _ _ _ => rfl, fun _ => rfl, rfl⟩
theorem Fr7.tr {h g k : zH} (a : Fr7 h g) (c : Fr7 g k) : Fr7 h k := ⟨fun x hx => (c.1 x hx).trans (a.1 x hx), fun x y z => (c.2.1 x y z).trans (a.2.1 x y z), fun x => (c.2.2.1 x).trans (a.2.2.1 x), c.2.2.2.trans a.2.2.2⟩
theorem Fr7.w {h : zH} {J : Nat → Nat → Int32} (e : ∀ b, (b < 136 ∨ 150 ≤ b) → J b = h.1 b) : Fr7 h (J, h.2) := ⟨e, fun _ _ _ => rfl, fun _ => rfl, rfl⟩
theorem Fr7.l7 {h g : zH} (f : Fr7 h g) (o : lo7 h 136) : lo7 g 136 := zlo.gr o f.2.2.1 f.2.2.2 (fun e he => f.2.1 _ _ (fun z => by
  have a : rs7.all (fun e => decide (¬ (136 + e.1 = 146 ∧ (e.2.1 = 3 ∨ e.2.1 = 4)))) = true := by decide +kernel
  exact (of_decide_eq_true (List.all_eq_true.mp a e he)) z))
theorem Fr7.l1 {h g : zH} (f : Fr7 h g) (hq : q + 18 ≤ 136) (o : lo1 h q) : lo1 g q := zlo.gr o f.2.2.1 f.2.2.2 (fun e he => f.2.1 _ _ (fun z => by
  have a : rs1.all (fun e => decide (e.1 < 18)) = true := by decide +kernel
  have := of_decide_eq_true (List.all_eq_true.mp a e he)
  omega))
theorem Fr7.no {h g : zH} (f : Fr7 h g) (hq : q + 18 ≤ 136) (w : WFN V) (o : NObj h q V) : NObj g q V := NObj.same (h := h) (I := g.1) w o (fun b z1 z2 => f.1 b (by omega))
def E7 (h : zH) (q : Nat) (V : Nat → Int) : Prop := lo7 h 136 ∧ zR h 136 3 = some q ∧ lo1 h q ∧ NObj h q V
theorem E7.fr {h g : zH} (e : E7 h q V) (hq : q + 18 ≤ 136) (w : WFN V) (f : Fr7 h g) : E7 g q V := ⟨f.l7 e.1, (f.2.1 136 3 (by omega)).trans e.2.1, f.l1 hq e.2.2.1, f.no hq w e.2.2.2⟩
theorem bt_a : ∀ D, D < 32 → ∀ e, e < 5 → (¬ (((Int32.ofNat D) >>> (Int32.ofNat e &&& 31)) &&& 1) = 0 ∨ (D + 2 ^ e < 32 ∧ ((Int32.ofNat D) ||| ((1 : Int32) <<< (Int32.ofNat e &&& 31))) = Int32.ofNat (D + 2 ^ e) ∧ ((Int32.ofNat (D + 2 ^ e)) &&& (((1 : Int32) <<< (Int32.ofNat e &&& 31)) ^^^ (-1))) = Int32.ofNat D)) := by decide +kernel
theorem bt_b : ∀ D, D < 32 → ∀ e, e < 5 → ∀ x, x < 5 → (¬ (((Int32.ofNat D) >>> (Int32.ofNat e &&& 31)) &&& 1) = 0 ∨ ((((Int32.ofNat (D + 2 ^ e)) >>> (Int32.ofNat x &&& 31)) &&& 1) = 0 ↔ (x ≠ e ∧ (((Int32.ofNat D) >>> (Int32.ofNat x &&& 31)) &&& 1) = 0))) := by decide +kernel
theorem bt_t (D : Nat) (hD : D < 32) (e : Nat) (he : e < 5) (z : (((Int32.ofNat D) >>> (Int32.ofNat e &&& 31)) &&& 1) = 0) : D + 2 ^ e < 32 ∧ ((Int32.ofNat D) ||| ((1 : Int32) <<< (Int32.ofNat e &&& 31))) = Int32.ofNat (D + 2 ^ e) ∧ ((Int32.ofNat (D + 2 ^ e)) &&& (((1 : Int32) <<< (Int32.ofNat e &&& 31)) ^^^ (-1))) = Int32.ofNat D ∧ ∀ x, x < 5 → ((((Int32.ofNat (D + 2 ^ e)) >>> (Int32.ofNat x &&& 31)) &&& 1) = 0 ↔ (x ≠ e ∧ (((Int32.ofNat D) >>> (Int32.ofNat x &&& 31)) &&& 1) = 0)) := by
  obtain ⟨a, c, d⟩ := (bt_a D hD e he).resolve_left (fun y => y z)
  exact ⟨a, c, d, fun x hx => (bt_b D hD e he x hx).resolve_left (fun y => y z)⟩
def BD (v : Int32) (dn : Nat → Bool) : Prop := ∃ D, D < 32 ∧ v = Int32.ofNat D ∧ ∀ e, e < 5 → ((((Int32.ofNat D) >>> (Int32.ofNat e &&& 31)) &&& 1) = 0 ↔ dn e = false)
theorem BD.at {v x : Int32} {dn : Nat → Bool} {e : Nat} (c : BD v dn) (hx : x.toInt = (e : Int)) (he : e < 5) : (((v >>> (x &&& 31)) &&& 1) = 0 ↔ dn e = false) := by
  obtain ⟨D, h1, h2, h3⟩ := c
  rw [n_ofn hx, h2]; exact h3 e he
theorem BD.set {v x : Int32} {dn : Nat → Bool} {e : Nat} (c : BD v dn) (hx : x.toInt = (e : Int)) (he : e < 5) (hd : dn e = false) : BD (v ||| ((1 : Int32) <<< (x &&& 31))) (fun x => decide (x = e) || dn x) ∧ ((v ||| ((1 : Int32) <<< (x &&& 31))) &&& (((1 : Int32) <<< (x &&& 31)) ^^^ (-1))) = v := by
  obtain ⟨D, h1, h2, h3⟩ := c
  rw [n_ofn hx, h2]
  obtain ⟨t1, t2, t3, t4⟩ := bt_t D h1 e he ((h3 e he).mpr hd)
  rw [t2]
  refine ⟨⟨D + 2 ^ e, t1, rfl, fun y hy => ?_⟩, t3⟩
  rw [t4 y hy, h3 y hy]
  show y ≠ e ∧ dn y = false ↔ (decide (y = e) || dn y) = false
  by_cases z : y = e
  · rw [decide_eq_true z]; exact ⟨fun w => absurd z w.1, fun w => absurd w (by rw [Bool.true_or]; decide)⟩
  · rw [decide_eq_false z, Bool.false_or]; exact ⟨fun w => w.2, fun w => ⟨z, w⟩⟩
/-- what is kept as the best -/
def CS (h : zH) (E : Nat) (S : US) : Prop := (S.1 = 1000000 ∧ zI h 136 0 = -1) ∨ (S.1 < 1000000 ∧ 0 ≤ S.1 ∧ (zI h 136 0).toInt = S.1 ∧ (zI h 136 1).toInt = (S.2.1 : Int) ∧ ∀ k, k < E → (zI h 137 k).toInt = (S.2.2 k : Int))
theorem CS.cg {h g : zH} {E : Nat} {S : US} (c : CS h E S) (e0 : zI g 136 0 = zI h 136 0) (e1 : zI g 136 1 = zI h 136 1) (e2 : ∀ k, zI g 137 k = zI h 137 k) : CS g E S := by
  rcases c with ⟨c1, c2⟩ | ⟨c1, c2, c3, c4, c5⟩
  · exact Or.inl ⟨c1, e0.trans c2⟩
  · exact Or.inr ⟨c1, c2, by rw [e0]; exact c3, by rw [e1]; exact c4, fun k hk => by rw [e2]; exact c5 k hk⟩
theorem zgrd_of {x : Int32} {d : Nat} (hx : x.toInt = (d : Int)) (hd : d < 6) : zgrd 136 x = some (140 + d) := by
  unfold zgrd
  rw [if_pos (by omega), zix_of hx, show 136 + (4 + d) = 140 + d by omega]
theorem gnd_w {h : zH} (o : lo7 h 136) {d : Nat} (hd : d < 6) : zAw h (140 + d) 64 := by
  match d, hd with
  | 0, _ => exact o.w 4 rfl
  | 1, _ => exact o.w 5 rfl
  | 2, _ => exact o.w 6 rfl
  | 3, _ => exact o.w 7 rfl
  | 4, _ => exact o.w 8 rfl
  | 5, _ => exact o.w 9 rfl
  | n + 6, h => omega
theorem leg_9 {h : zH} (o : lo7 h 136) : lo9 h 146 := zlo.sub (ks' := ks9) (rs' := rs9) o 10 (by decide +kernel) (by decide +kernel) (by decide +kernel)
theorem err_at {h : zH} (hq : lo1 h q) (w : WFN V) (o : NObj h q V) {x : Int32} {e : Nat} (hx : x.toInt = (e : Int)) (he : e < eV V) : (zget h (some (q + 2)) x).toInt = (peV V e : Int) ∧ (zget h (some (q + 3)) x).toInt = (feV V e : Int) ∧ (zget h (some (q + 4)) x).toInt = (teV V e : Int) := by
  have ev := eV_ok w
  obtain ⟨z1, _, z3, _, z5, _⟩ := err_ok w he
  obtain ⟨y1, y2, y3⟩ := o.2.2.1 e (by omega)
  rw [zget_w (n := 5) (hq.w 2 rfl) hx (by omega), zget_w (n := 5) (hq.w 3 rfl) hx (by omega), zget_w (n := 5) (hq.w 4 rfl) hx (by omega), y1, y2, y3]
  exact ⟨z1, z3, z5⟩
def ExP (h : zH) (q d : Nat) (V : Nat → Int) (dn : Nat → Bool) (T : Nat → Int) (o : Nat → Nat) (S : US) : Prop :=
  E7 h q V ∧ (∀ c, c < 64 → (zI h (140 + d) c).toInt = T c) ∧ (∀ k, k < d → (zI h 138 k).toInt = (o k : Int)) ∧ BD (zI h 136 4) dn ∧ CS h (eV V) S
def ExQ (h g : zH) (d : Nat) (V : Nat → Int) (S : US) : Prop :=
  Fr7 h g ∧ zI g 136 4 = zI h 136 4 ∧ (∀ k, k ≤ d → ∀ c, zI g (140 + k) c = zI h (140 + k) c) ∧ (∀ k, k < d → zI g 138 k = zI h 138 k) ∧ CS g (eV V) S
theorem ExQ.rf {h : zH} {d : Nat} {S : US} (c : CS h (eV V) S) : ExQ h h d V S := ⟨Fr7.rf h, rfl, fun _ _ _ => rfl, fun _ _ => rfl, c⟩
/-- the leaf -/
theorem ex_leaf (l : Launch) (G : zG) (h : zH) (d m w : Nat) (dn : Nat → Bool) (T : Nat → Int) (o : Nat → Nat) (S : US) (x2 x3 : Int32) (J1 J2 : Nat → Nat → Int32) (p : ExP h q d V dn T o S) (w9 : WFN V) (hd : d = eV V) (h2 : x2.toInt = (m : Int)) (h3 : x3.toInt = (w : Int)) (hm : (m : Int) < S.1) (hm6 : m < 1000000) (e1 : J1 = (zwI h 136 0 x2).1) (e2 : J2 = (zwI (J1, h.2) 136 1 x3).1) :
    ∃ P, CTv l G YX10_copy 2 [va_rf (some (136 + 2)), va_rf (some (136 + 1))] (J2, h.2) P ∧ ∀ I, P I → ExQ h (I, h.2) d V ((m : Int), w, o) := by
  have ev := eV_ok w9
  obtain ⟨⟨l7, r3, l1, no⟩, pT, po, pB, pC⟩ := p
  obtain ⟨a1, a2, a3⟩ := zwI_eff e1
  obtain ⟨b1, b2, b3⟩ := zwI_eff e2
  refine ⟨_, c_X10_copy l G (J2, h.2) 138 137 5 (l7.w 2 rfl) (l7.w 1 rfl) (by decide), fun I c5 => ?_⟩
  have eI : ∀ b, b ≠ 137 → I b = J2 b := fun b hb => by rw [c5]; funext k; exact if_neg (fun z => hb z.1)
  have e7 : ∀ k, k < 5 → I 137 k = J2 138 k := fun k hk => by rw [c5]; exact if_pos ⟨rfl, hk⟩
  have eh : ∀ b, b ≠ 136 → b ≠ 137 → I b = h.1 b := fun b z1 z2 => (eI b z2).trans ((b1 b z1).trans (a1 b z1))
  refine ⟨Fr7.w (fun b hb => eh b (by omega) (by omega)), ?_, fun k hk c => ?_, fun k hk => ?_, Or.inr ⟨by show (m : Int) < 1000000; omega, by show (0 : Int) ≤ (m : Int); omega, ?_, ?_, fun k hk => ?_⟩⟩
  · show I 136 4 = h.1 136 4
    rw [eI 136 (by decide), b2 4 (by decide)]; exact a2 4 (by decide)
  · show I (140 + k) c = _; rw [eh (140 + k) (by omega) (by omega)]; rfl
  · show I 138 k = _; rw [eh 138 (by decide) (by decide)]; rfl
  · show (I 136 0).toInt = _
    rw [eI 136 (by decide), b2 0 (by decide)]
    show (J1 136 0).toInt = _
    rw [a3]; exact h2
  · show (I 136 1).toInt = _
    rw [eI 136 (by decide), b3]; exact h3
  · show (I 137 k).toInt = _
    rw [e7 k (by omega), b1 138 (by decide)]
    show (J1 138 k).toInt = _
    rw [a1 138 (by decide)]; exact po k (by omega)
end K75
