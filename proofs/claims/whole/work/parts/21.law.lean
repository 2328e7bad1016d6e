set_option maxRecDepth 4000
/-- what stands at a place of the law's loop -/
def lawZ (l : Launch) (G : zG) (d k n pc : Nat) (x : Int32) (h : zH) : Prop := Z l G mL_law d (fun v _ => v = some (.int 1)) k n pc [va_rf (some 1000000), va_rf (some 0), va_rf (some 313), .int x] [] h
abbrev P_feed (Kept : zH → Prop) (l : Launch) (G : zG) : Prop := ∀ (x1 x2 x3 x4 x5 : Int32), Pair Kept l G YX10_feed YX11_feed 3 1 [.int x1, .int x2, .int x3, .int x4, .int x5]
theorem law_feed {Kept : zH → Prop} {l : Launch} {G : zG} {d k n : Nat} (hp : P_feed Kept l G) (hd : 20 ≤ d) {h : zH} {x : Int32} (hI : Inv Kept h) (hx0 : 0 ≤ x.toInt) (hx1 : x.toInt + 6 ≤ ((gO G 0).1 : Int)) (hL : (gO G 0).1 ≤ 3072) (cont : ∀ g, Inv Kept g → lawZ l G d k n 1494 x g) : lawZ l G d k n 172 x h := by
  refine z_ro (fun ro => ?_)
  have hK0 := (ro 0 (by decide)).1
  have har : ∀ g : zH, zK g 1000000 = zK h 1000000 → zAr g 1000000 (gO G 0).1 := fun g e => ⟨by rw [e]; exact congrArg Prod.snd hK0, Or.inr ⟨by omega, by omega⟩⟩
  have e1 : (x + 1).toInt = x.toInt + 1 := i_add (by show _ ≤ x.toInt + (1 : Int); omega) (by show x.toInt + (1 : Int) < _; omega)
  have e2 : (x + 2).toInt = x.toInt + 2 := i_add (by show _ ≤ x.toInt + (2 : Int); omega) (by show x.toInt + (2 : Int) < _; omega)
  have e3 : (x + 3).toInt = x.toInt + 3 := i_add (by show _ ≤ x.toInt + (3 : Int); omega) (by show x.toInt + (3 : Int) < _; omega)
  have e4 : (x + 4).toInt = x.toInt + 4 := i_add (by show _ ≤ x.toInt + (4 : Int); omega) (by show x.toInt + (4 : Int) < _; omega)
  have e5 : (x + 5).toInt = x.toInt + 5 := i_add (by show _ ≤ x.toInt + (5 : Int); omega) (by show x.toInt + (5 : Int) < _; omega)
  obtain ⟨F, Mid, c1, m1, c2⟩ := hp (zI h 1000000 (zix (x + 1))) (zI h 1000000 (zix (x + 2))) (zI h 1000000 (zix (x + 3))) (zI h 1000000 (zix (x + 4))) (zI h 1000000 (zix (x + 5))) h hI
  refine sL_law_172 (some 1000000) 0 313 x hI.1 hI.2.1 (by omega) ⟨1000000, (gO G 0).1, rfl, har h rfl, (by rw [e1]; omega), (by rw [e1]; omega), 1000000, (gO G 0).1, rfl, har h rfl, (by rw [e2]; omega), (by rw [e2]; omega), 1000000, (gO G 0).1, rfl, har h rfl, (by rw [e3]; omega), (by rw [e3]; omega), 1000000, (gO G 0).1, rfl, har h rfl, (by rw [e4]; omega), (by rw [e4]; omega), 1000000, (gO G 0).1, rfl, har h rfl, (by rw [e5]; omega), (by rw [e5]; omega), (fun y I => y = F ∧ Mid I), c1, fun y I q => ?_⟩
  have e : ∀ j, zI (I, h.2) 1000000 j = zI h 1000000 j := m1 I q.2
  refine ⟨1000000, (gO G 0).1, rfl, har (I, h.2) rfl, (by rw [e1]; omega), (by rw [e1]; omega), 1000000, (gO G 0).1, rfl, har (I, h.2) rfl, (by rw [e2]; omega), (by rw [e2]; omega), 1000000, (gO G 0).1, rfl, har (I, h.2) rfl, (by rw [e3]; omega), (by rw [e3]; omega), 1000000, (gO G 0).1, rfl, har (I, h.2) rfl, (by rw [e4]; omega), (by rw [e4]; omega), 1000000, (gO G 0).1, rfl, har (I, h.2) rfl, (by rw [e5]; omega), (by rw [e5]; omega), (fun y I2 => y = F ∧ Inv Kept (I2, h.2)), (by simp only [e]; exact c2 I q.2), fun y2 I2 q2 => ⟨fun _ => cont _ q2.2, fun ne => absurd (by rw [q.1, q2.1]) ne⟩⟩

abbrev P_end (Kept : zH → Prop) (l : Launch) (G : zG) : Prop := ∀ (x1 : Int32), Pair Kept l G YX10_end YX11_end 1 1 [.int x1]
theorem law_end {Kept : zH → Prop} {l : Launch} {G : zG} {d k n : Nat} (hp : P_end Kept l G) (hd : 20 ≤ d) {h : zH} {x : Int32} (hI : Inv Kept h) (hx0 : 0 ≤ x.toInt) (hx1 : x.toInt + 6 ≤ ((gO G 0).1 : Int)) (hL : (gO G 0).1 ≤ 3072) (cont : ∀ g, Inv Kept g → lawZ l G d k n 1494 x g) : lawZ l G d k n 235 x h := by
  refine z_ro (fun ro => ?_)
  have hK0 := (ro 0 (by decide)).1
  have har : ∀ g : zH, zK g 1000000 = zK h 1000000 → zAr g 1000000 (gO G 0).1 := fun g e => ⟨by rw [e]; exact congrArg Prod.snd hK0, Or.inr ⟨by omega, by omega⟩⟩
  have e1 : (x + 1).toInt = x.toInt + 1 := i_add (by show _ ≤ x.toInt + (1 : Int); omega) (by show x.toInt + (1 : Int) < _; omega)
  obtain ⟨F, Mid, c1, m1, c2⟩ := hp (zI h 1000000 (zix (x + 1))) h hI
  refine sL_law_235 (some 1000000) 0 313 x hI.1 hI.2.1 (by omega) ⟨1000000, (gO G 0).1, rfl, har h rfl, (by rw [e1]; omega), (by rw [e1]; omega), (fun y I => y = F ∧ Mid I), c1, fun y I q => ?_⟩
  have e : ∀ j, zI (I, h.2) 1000000 j = zI h 1000000 j := m1 I q.2
  refine ⟨1000000, (gO G 0).1, rfl, har (I, h.2) rfl, (by rw [e1]; omega), (by rw [e1]; omega), (fun y I2 => y = F ∧ Inv Kept (I2, h.2)), (by simp only [e]; exact c2 I q.2), fun y2 I2 q2 => ⟨fun _ => cont _ q2.2, fun ne => absurd (by rw [q.1, q2.1]) ne⟩⟩

abbrev P_text (Kept : zH → Prop) (l : Launch) (G : zG) : Prop := ∀ (x1 x2 : Int32), PairG Kept l G YX10_text YX11_text 9 9 [.int x1, .int x2]
theorem law_text {Kept : zH → Prop} {l : Launch} {G : zG} {d k n : Nat} (hp : P_text Kept l G) (hd : 20 ≤ d) {h : zH} {x : Int32} (hI : Inv Kept h) (hx0 : 0 ≤ x.toInt) (hx1 : x.toInt + 6 ≤ ((gO G 0).1 : Int)) (hL : (gO G 0).1 ≤ 3072) (cont : ∀ g, Inv Kept g → lawZ l G d k n 1494 x g) : lawZ l G d k n 258 x h := by
  refine z_ro (fun ro => ?_)
  have hK0 := (ro 0 (by decide)).1
  have har : ∀ g : zH, zK g 1000000 = zK h 1000000 → zAr g 1000000 (gO G 0).1 := fun g e => ⟨by rw [e]; exact congrArg Prod.snd hK0, Or.inr ⟨by omega, by omega⟩⟩
  have e1 : (x + 1).toInt = x.toInt + 1 := i_add (by show _ ≤ x.toInt + (1 : Int); omega) (by show x.toInt + (1 : Int) < _; omega)
  have e2 : (x + 2).toInt = x.toInt + 2 := i_add (by show _ ≤ x.toInt + (2 : Int); omega) (by show x.toInt + (2 : Int) < _; omega)
  obtain ⟨F, Mid, c1, m1, c2⟩ := hp (zI h 1000000 (zix (x + 1))) (zI h 1000000 (zix (x + 2))) h hI
  refine sL_law_258 (some 1000000) 0 313 x hI.1 hI.2.1 (by omega) ⟨1000000, (gO G 0).1, rfl, har h rfl, (by rw [e1]; omega), (by rw [e1]; omega), 1000000, (gO G 0).1, rfl, har h rfl, (by rw [e2]; omega), (by rw [e2]; omega), (fun y g => y = F ∧ Mid g), c1, fun y g q => ?_⟩
  obtain ⟨l1, l2, e, eK⟩ := m1 g q.2
  refine ⟨l1, l2, 1000000, (gO G 0).1, rfl, har g (eK _), (by rw [e1]; omega), (by rw [e1]; omega), 1000000, (gO G 0).1, rfl, har g (eK _), (by rw [e2]; omega), (by rw [e2]; omega), (fun y I2 => y = F ∧ Inv Kept (I2, g.2)), (by simp only [e]; exact c2 g q.2), fun y2 I2 q2 => ⟨fun _ => cont _ q2.2, fun ne => absurd (by rw [q.1, q2.1]) ne⟩⟩

abbrev P_fault (Kept : zH → Prop) (l : Launch) (G : zG) : Prop := ∀ (x1 : Int32), Pair Kept l G YX10_fault YX11_fault 1 1 [.int x1]
theorem law_fault {Kept : zH → Prop} {l : Launch} {G : zG} {d k n : Nat} (hp : P_fault Kept l G) (hd : 20 ≤ d) {h : zH} {x : Int32} (hI : Inv Kept h) (hx0 : 0 ≤ x.toInt) (hx1 : x.toInt + 6 ≤ ((gO G 0).1 : Int)) (hL : (gO G 0).1 ≤ 3072) (cont : ∀ g, Inv Kept g → lawZ l G d k n 1494 x g) : lawZ l G d k n 291 x h := by
  refine z_ro (fun ro => ?_)
  have hK0 := (ro 0 (by decide)).1
  have har : ∀ g : zH, zK g 1000000 = zK h 1000000 → zAr g 1000000 (gO G 0).1 := fun g e => ⟨by rw [e]; exact congrArg Prod.snd hK0, Or.inr ⟨by omega, by omega⟩⟩
  have e1 : (x + 1).toInt = x.toInt + 1 := i_add (by show _ ≤ x.toInt + (1 : Int); omega) (by show x.toInt + (1 : Int) < _; omega)
  obtain ⟨F, Mid, c1, m1, c2⟩ := hp (zI h 1000000 (zix (x + 1))) h hI
  refine sL_law_291 (some 1000000) 0 313 x hI.1 hI.2.1 (by omega) ⟨1000000, (gO G 0).1, rfl, har h rfl, (by rw [e1]; omega), (by rw [e1]; omega), (fun y I => y = F ∧ Mid I), c1, fun y I q => ?_⟩
  have e : ∀ j, zI (I, h.2) 1000000 j = zI h 1000000 j := m1 I q.2
  refine ⟨1000000, (gO G 0).1, rfl, har (I, h.2) rfl, (by rw [e1]; omega), (by rw [e1]; omega), (fun y I2 => y = F ∧ Inv Kept (I2, h.2)), (by simp only [e]; exact c2 I q.2), fun y2 I2 q2 => ⟨fun _ => cont _ q2.2, fun ne => absurd (by rw [q.1, q2.1]) ne⟩⟩

abbrev P_night (Kept : zH → Prop) (l : Launch) (G : zG) : Prop := ∀ (x1 x2 : Int32), Pair Kept l G YX10_night YX11_night 3 4 [.int x1, .int x2]
theorem law_night {Kept : zH → Prop} {l : Launch} {G : zG} {d k n : Nat} (hp : P_night Kept l G) (hd : 20 ≤ d) {h : zH} {x : Int32} (hI : Inv Kept h) (hx0 : 0 ≤ x.toInt) (hx1 : x.toInt + 6 ≤ ((gO G 0).1 : Int)) (hL : (gO G 0).1 ≤ 3072) (cont : ∀ g, Inv Kept g → lawZ l G d k n 1494 x g) : lawZ l G d k n 314 x h := by
  refine z_ro (fun ro => ?_)
  have hK0 := (ro 0 (by decide)).1
  have har : ∀ g : zH, zK g 1000000 = zK h 1000000 → zAr g 1000000 (gO G 0).1 := fun g e => ⟨by rw [e]; exact congrArg Prod.snd hK0, Or.inr ⟨by omega, by omega⟩⟩
  have e1 : (x + 1).toInt = x.toInt + 1 := i_add (by show _ ≤ x.toInt + (1 : Int); omega) (by show x.toInt + (1 : Int) < _; omega)
  have e2 : (x + 2).toInt = x.toInt + 2 := i_add (by show _ ≤ x.toInt + (2 : Int); omega) (by show x.toInt + (2 : Int) < _; omega)
  obtain ⟨F, Mid, c1, m1, c2⟩ := hp (zI h 1000000 (zix (x + 1))) (zI h 1000000 (zix (x + 2))) h hI
  refine sL_law_314 (some 1000000) 0 313 x hI.1 hI.2.1 (by omega) ⟨1000000, (gO G 0).1, rfl, har h rfl, (by rw [e1]; omega), (by rw [e1]; omega), 1000000, (gO G 0).1, rfl, har h rfl, (by rw [e2]; omega), (by rw [e2]; omega), (fun y I => y = F ∧ Mid I), c1, fun y I q => ?_⟩
  have e : ∀ j, zI (I, h.2) 1000000 j = zI h 1000000 j := m1 I q.2
  refine ⟨1000000, (gO G 0).1, rfl, har (I, h.2) rfl, (by rw [e1]; omega), (by rw [e1]; omega), 1000000, (gO G 0).1, rfl, har (I, h.2) rfl, (by rw [e2]; omega), (by rw [e2]; omega), (fun y I2 => y = F ∧ Inv Kept (I2, h.2)), (by simp only [e]; exact c2 I q.2), fun y2 I2 q2 => ⟨fun _ => cont _ q2.2, fun ne => absurd (by rw [q.1, q2.1]) ne⟩⟩

abbrev P_person (Kept : zH → Prop) (l : Launch) (G : zG) : Prop := ∀ (x1 x2 x3 : Int32), Pair Kept l G YX10_person YX11_person 4 5 [.int x1, .int x2, .int x3]
theorem law_person {Kept : zH → Prop} {l : Launch} {G : zG} {d k n : Nat} (hp : P_person Kept l G) (hd : 20 ≤ d) {h : zH} {x : Int32} (hI : Inv Kept h) (hx0 : 0 ≤ x.toInt) (hx1 : x.toInt + 6 ≤ ((gO G 0).1 : Int)) (hL : (gO G 0).1 ≤ 3072) (cont : ∀ g, Inv Kept g → lawZ l G d k n 1494 x g) : lawZ l G d k n 347 x h := by
  refine z_ro (fun ro => ?_)
  have hK0 := (ro 0 (by decide)).1
  have har : ∀ g : zH, zK g 1000000 = zK h 1000000 → zAr g 1000000 (gO G 0).1 := fun g e => ⟨by rw [e]; exact congrArg Prod.snd hK0, Or.inr ⟨by omega, by omega⟩⟩
  have e1 : (x + 1).toInt = x.toInt + 1 := i_add (by show _ ≤ x.toInt + (1 : Int); omega) (by show x.toInt + (1 : Int) < _; omega)
  have e2 : (x + 2).toInt = x.toInt + 2 := i_add (by show _ ≤ x.toInt + (2 : Int); omega) (by show x.toInt + (2 : Int) < _; omega)
  have e3 : (x + 3).toInt = x.toInt + 3 := i_add (by show _ ≤ x.toInt + (3 : Int); omega) (by show x.toInt + (3 : Int) < _; omega)
  obtain ⟨F, Mid, c1, m1, c2⟩ := hp (zI h 1000000 (zix (x + 1))) (zI h 1000000 (zix (x + 2))) (zI h 1000000 (zix (x + 3))) h hI
  refine sL_law_347 (some 1000000) 0 313 x hI.1 hI.2.1 (by omega) ⟨1000000, (gO G 0).1, rfl, har h rfl, (by rw [e1]; omega), (by rw [e1]; omega), 1000000, (gO G 0).1, rfl, har h rfl, (by rw [e2]; omega), (by rw [e2]; omega), 1000000, (gO G 0).1, rfl, har h rfl, (by rw [e3]; omega), (by rw [e3]; omega), (fun y I => y = F ∧ Mid I), c1, fun y I q => ?_⟩
  have e : ∀ j, zI (I, h.2) 1000000 j = zI h 1000000 j := m1 I q.2
  refine ⟨1000000, (gO G 0).1, rfl, har (I, h.2) rfl, (by rw [e1]; omega), (by rw [e1]; omega), 1000000, (gO G 0).1, rfl, har (I, h.2) rfl, (by rw [e2]; omega), (by rw [e2]; omega), 1000000, (gO G 0).1, rfl, har (I, h.2) rfl, (by rw [e3]; omega), (by rw [e3]; omega), (fun y I2 => y = F ∧ Inv Kept (I2, h.2)), (by simp only [e]; exact c2 I q.2), fun y2 I2 q2 => ⟨fun _ => cont _ q2.2, fun ne => absurd (by rw [q.1, q2.1]) ne⟩⟩

abbrev P_where (Kept : zH → Prop) (l : Launch) (G : zG) : Prop := ∀ (x1 x2 x3 : Int32), Pair Kept l G YX10_where YX11_where 5 5 [.int x1, .int x2, .int x3]
theorem law_where {Kept : zH → Prop} {l : Launch} {G : zG} {d k n : Nat} (hp : P_where Kept l G) (hd : 20 ≤ d) {h : zH} {x : Int32} (hI : Inv Kept h) (hx0 : 0 ≤ x.toInt) (hx1 : x.toInt + 6 ≤ ((gO G 0).1 : Int)) (hL : (gO G 0).1 ≤ 3072) (cont : ∀ g, Inv Kept g → lawZ l G d k n 1494 x g) : lawZ l G d k n 390 x h := by
  refine z_ro (fun ro => ?_)
  have hK0 := (ro 0 (by decide)).1
  have har : ∀ g : zH, zK g 1000000 = zK h 1000000 → zAr g 1000000 (gO G 0).1 := fun g e => ⟨by rw [e]; exact congrArg Prod.snd hK0, Or.inr ⟨by omega, by omega⟩⟩
  have e1 : (x + 1).toInt = x.toInt + 1 := i_add (by show _ ≤ x.toInt + (1 : Int); omega) (by show x.toInt + (1 : Int) < _; omega)
  have e2 : (x + 2).toInt = x.toInt + 2 := i_add (by show _ ≤ x.toInt + (2 : Int); omega) (by show x.toInt + (2 : Int) < _; omega)
  have e3 : (x + 3).toInt = x.toInt + 3 := i_add (by show _ ≤ x.toInt + (3 : Int); omega) (by show x.toInt + (3 : Int) < _; omega)
  obtain ⟨F, Mid, c1, m1, c2⟩ := hp (zI h 1000000 (zix (x + 1))) (zI h 1000000 (zix (x + 2))) (zI h 1000000 (zix (x + 3))) h hI
  refine sL_law_390 (some 1000000) 0 313 x hI.1 hI.2.1 (by omega) ⟨1000000, (gO G 0).1, rfl, har h rfl, (by rw [e1]; omega), (by rw [e1]; omega), 1000000, (gO G 0).1, rfl, har h rfl, (by rw [e2]; omega), (by rw [e2]; omega), 1000000, (gO G 0).1, rfl, har h rfl, (by rw [e3]; omega), (by rw [e3]; omega), (fun y I => y = F ∧ Mid I), c1, fun y I q => ?_⟩
  have e : ∀ j, zI (I, h.2) 1000000 j = zI h 1000000 j := m1 I q.2
  refine ⟨1000000, (gO G 0).1, rfl, har (I, h.2) rfl, (by rw [e1]; omega), (by rw [e1]; omega), 1000000, (gO G 0).1, rfl, har (I, h.2) rfl, (by rw [e2]; omega), (by rw [e2]; omega), 1000000, (gO G 0).1, rfl, har (I, h.2) rfl, (by rw [e3]; omega), (by rw [e3]; omega), (fun y I2 => y = F ∧ Inv Kept (I2, h.2)), (by simp only [e]; exact c2 I q.2), fun y2 I2 q2 => ⟨fun _ => cont _ q2.2, fun ne => absurd (by rw [q.1, q2.1]) ne⟩⟩

abbrev P_print (Kept : zH → Prop) (l : Launch) (G : zG) : Prop := ∀ (x1 x2 x3 x4 : Int32), Pair Kept l G YX10_print YX11_print 6 6 [.int x1, .int x2, .int x3, .int x4]
theorem law_print {Kept : zH → Prop} {l : Launch} {G : zG} {d k n : Nat} (hp : P_print Kept l G) (hd : 20 ≤ d) {h : zH} {x : Int32} (hI : Inv Kept h) (hx0 : 0 ≤ x.toInt) (hx1 : x.toInt + 6 ≤ ((gO G 0).1 : Int)) (hL : (gO G 0).1 ≤ 3072) (cont : ∀ g, Inv Kept g → lawZ l G d k n 1494 x g) : lawZ l G d k n 433 x h := by
  refine z_ro (fun ro => ?_)
  have hK0 := (ro 0 (by decide)).1
  have har : ∀ g : zH, zK g 1000000 = zK h 1000000 → zAr g 1000000 (gO G 0).1 := fun g e => ⟨by rw [e]; exact congrArg Prod.snd hK0, Or.inr ⟨by omega, by omega⟩⟩
  have e1 : (x + 1).toInt = x.toInt + 1 := i_add (by show _ ≤ x.toInt + (1 : Int); omega) (by show x.toInt + (1 : Int) < _; omega)
  have e2 : (x + 2).toInt = x.toInt + 2 := i_add (by show _ ≤ x.toInt + (2 : Int); omega) (by show x.toInt + (2 : Int) < _; omega)
  have e3 : (x + 3).toInt = x.toInt + 3 := i_add (by show _ ≤ x.toInt + (3 : Int); omega) (by show x.toInt + (3 : Int) < _; omega)
  have e4 : (x + 4).toInt = x.toInt + 4 := i_add (by show _ ≤ x.toInt + (4 : Int); omega) (by show x.toInt + (4 : Int) < _; omega)
  obtain ⟨F, Mid, c1, m1, c2⟩ := hp (zI h 1000000 (zix (x + 1))) (zI h 1000000 (zix (x + 2))) (zI h 1000000 (zix (x + 3))) (zI h 1000000 (zix (x + 4))) h hI
  refine sL_law_433 (some 1000000) 0 313 x hI.1 hI.2.1 (by omega) ⟨1000000, (gO G 0).1, rfl, har h rfl, (by rw [e1]; omega), (by rw [e1]; omega), 1000000, (gO G 0).1, rfl, har h rfl, (by rw [e2]; omega), (by rw [e2]; omega), 1000000, (gO G 0).1, rfl, har h rfl, (by rw [e3]; omega), (by rw [e3]; omega), 1000000, (gO G 0).1, rfl, har h rfl, (by rw [e4]; omega), (by rw [e4]; omega), (fun y I => y = F ∧ Mid I), c1, fun y I q => ?_⟩
  have e : ∀ j, zI (I, h.2) 1000000 j = zI h 1000000 j := m1 I q.2
  refine ⟨1000000, (gO G 0).1, rfl, har (I, h.2) rfl, (by rw [e1]; omega), (by rw [e1]; omega), 1000000, (gO G 0).1, rfl, har (I, h.2) rfl, (by rw [e2]; omega), (by rw [e2]; omega), 1000000, (gO G 0).1, rfl, har (I, h.2) rfl, (by rw [e3]; omega), (by rw [e3]; omega), 1000000, (gO G 0).1, rfl, har (I, h.2) rfl, (by rw [e4]; omega), (by rw [e4]; omega), (fun y I2 => y = F ∧ Inv Kept (I2, h.2)), (by simp only [e]; exact c2 I q.2), fun y2 I2 q2 => ⟨fun _ => cont _ q2.2, fun ne => absurd (by rw [q.1, q2.1]) ne⟩⟩

abbrev P_cell (Kept : zH → Prop) (l : Launch) (G : zG) : Prop := ∀ (x1 x2 x3 x4 : Int32), Pair Kept l G YX10_cell YX11_cell 6 6 [.int x1, .int x2, .int x3, .int x4]
theorem law_cell {Kept : zH → Prop} {l : Launch} {G : zG} {d k n : Nat} (hp : P_cell Kept l G) (hd : 20 ≤ d) {h : zH} {x : Int32} (hI : Inv Kept h) (hx0 : 0 ≤ x.toInt) (hx1 : x.toInt + 6 ≤ ((gO G 0).1 : Int)) (hL : (gO G 0).1 ≤ 3072) (cont : ∀ g, Inv Kept g → lawZ l G d k n 1494 x g) : lawZ l G d k n 486 x h := by
  refine z_ro (fun ro => ?_)
  have hK0 := (ro 0 (by decide)).1
  have har : ∀ g : zH, zK g 1000000 = zK h 1000000 → zAr g 1000000 (gO G 0).1 := fun g e => ⟨by rw [e]; exact congrArg Prod.snd hK0, Or.inr ⟨by omega, by omega⟩⟩
  have e1 : (x + 1).toInt = x.toInt + 1 := i_add (by show _ ≤ x.toInt + (1 : Int); omega) (by show x.toInt + (1 : Int) < _; omega)
  have e2 : (x + 2).toInt = x.toInt + 2 := i_add (by show _ ≤ x.toInt + (2 : Int); omega) (by show x.toInt + (2 : Int) < _; omega)
  have e3 : (x + 3).toInt = x.toInt + 3 := i_add (by show _ ≤ x.toInt + (3 : Int); omega) (by show x.toInt + (3 : Int) < _; omega)
  have e4 : (x + 4).toInt = x.toInt + 4 := i_add (by show _ ≤ x.toInt + (4 : Int); omega) (by show x.toInt + (4 : Int) < _; omega)
  obtain ⟨F, Mid, c1, m1, c2⟩ := hp (zI h 1000000 (zix (x + 1))) (zI h 1000000 (zix (x + 2))) (zI h 1000000 (zix (x + 3))) (zI h 1000000 (zix (x + 4))) h hI
  refine sL_law_486 (some 1000000) 0 313 x hI.1 hI.2.1 (by omega) ⟨1000000, (gO G 0).1, rfl, har h rfl, (by rw [e1]; omega), (by rw [e1]; omega), 1000000, (gO G 0).1, rfl, har h rfl, (by rw [e2]; omega), (by rw [e2]; omega), 1000000, (gO G 0).1, rfl, har h rfl, (by rw [e3]; omega), (by rw [e3]; omega), 1000000, (gO G 0).1, rfl, har h rfl, (by rw [e4]; omega), (by rw [e4]; omega), (fun y I => y = F ∧ Mid I), c1, fun y I q => ?_⟩
  have e : ∀ j, zI (I, h.2) 1000000 j = zI h 1000000 j := m1 I q.2
  refine ⟨1000000, (gO G 0).1, rfl, har (I, h.2) rfl, (by rw [e1]; omega), (by rw [e1]; omega), 1000000, (gO G 0).1, rfl, har (I, h.2) rfl, (by rw [e2]; omega), (by rw [e2]; omega), 1000000, (gO G 0).1, rfl, har (I, h.2) rfl, (by rw [e3]; omega), (by rw [e3]; omega), 1000000, (gO G 0).1, rfl, har (I, h.2) rfl, (by rw [e4]; omega), (by rw [e4]; omega), (fun y I2 => y = F ∧ Inv Kept (I2, h.2)), (by simp only [e]; exact c2 I q.2), fun y2 I2 q2 => ⟨fun _ => cont _ q2.2, fun ne => absurd (by rw [q.1, q2.1]) ne⟩⟩

abbrev P_gait (Kept : zH → Prop) (l : Launch) (G : zG) : Prop := ∀ (x1 x2 x3 : Int32), Pair Kept l G YX10_gait YX11_gait 6 6 [.int x1, .int x2, .int x3]
theorem law_gait {Kept : zH → Prop} {l : Launch} {G : zG} {d k n : Nat} (hp : P_gait Kept l G) (hd : 20 ≤ d) {h : zH} {x : Int32} (hI : Inv Kept h) (hx0 : 0 ≤ x.toInt) (hx1 : x.toInt + 6 ≤ ((gO G 0).1 : Int)) (hL : (gO G 0).1 ≤ 3072) (cont : ∀ g, Inv Kept g → lawZ l G d k n 1494 x g) : lawZ l G d k n 539 x h := by
  refine z_ro (fun ro => ?_)
  have hK0 := (ro 0 (by decide)).1
  have har : ∀ g : zH, zK g 1000000 = zK h 1000000 → zAr g 1000000 (gO G 0).1 := fun g e => ⟨by rw [e]; exact congrArg Prod.snd hK0, Or.inr ⟨by omega, by omega⟩⟩
  have e1 : (x + 1).toInt = x.toInt + 1 := i_add (by show _ ≤ x.toInt + (1 : Int); omega) (by show x.toInt + (1 : Int) < _; omega)
  have e2 : (x + 2).toInt = x.toInt + 2 := i_add (by show _ ≤ x.toInt + (2 : Int); omega) (by show x.toInt + (2 : Int) < _; omega)
  have e3 : (x + 3).toInt = x.toInt + 3 := i_add (by show _ ≤ x.toInt + (3 : Int); omega) (by show x.toInt + (3 : Int) < _; omega)
  obtain ⟨F, Mid, c1, m1, c2⟩ := hp (zI h 1000000 (zix (x + 1))) (zI h 1000000 (zix (x + 2))) (zI h 1000000 (zix (x + 3))) h hI
  refine sL_law_539 (some 1000000) 0 313 x hI.1 hI.2.1 (by omega) ⟨1000000, (gO G 0).1, rfl, har h rfl, (by rw [e1]; omega), (by rw [e1]; omega), 1000000, (gO G 0).1, rfl, har h rfl, (by rw [e2]; omega), (by rw [e2]; omega), 1000000, (gO G 0).1, rfl, har h rfl, (by rw [e3]; omega), (by rw [e3]; omega), (fun y I => y = F ∧ Mid I), c1, fun y I q => ?_⟩
  have e : ∀ j, zI (I, h.2) 1000000 j = zI h 1000000 j := m1 I q.2
  refine ⟨1000000, (gO G 0).1, rfl, har (I, h.2) rfl, (by rw [e1]; omega), (by rw [e1]; omega), 1000000, (gO G 0).1, rfl, har (I, h.2) rfl, (by rw [e2]; omega), (by rw [e2]; omega), 1000000, (gO G 0).1, rfl, har (I, h.2) rfl, (by rw [e3]; omega), (by rw [e3]; omega), (fun y I2 => y = F ∧ Inv Kept (I2, h.2)), (by simp only [e]; exact c2 I q.2), fun y2 I2 q2 => ⟨fun _ => cont _ q2.2, fun ne => absurd (by rw [q.1, q2.1]) ne⟩⟩

abbrev P_tax (Kept : zH → Prop) (l : Launch) (G : zG) : Prop := ∀ (x1 x2 x3 : Int32), Pair Kept l G YX10_tax YX11_tax 6 6 [.int x1, .int x2, .int x3]
theorem law_tax {Kept : zH → Prop} {l : Launch} {G : zG} {d k n : Nat} (hp : P_tax Kept l G) (hd : 20 ≤ d) {h : zH} {x : Int32} (hI : Inv Kept h) (hx0 : 0 ≤ x.toInt) (hx1 : x.toInt + 6 ≤ ((gO G 0).1 : Int)) (hL : (gO G 0).1 ≤ 3072) (cont : ∀ g, Inv Kept g → lawZ l G d k n 1494 x g) : lawZ l G d k n 582 x h := by
  refine z_ro (fun ro => ?_)
  have hK0 := (ro 0 (by decide)).1
  have har : ∀ g : zH, zK g 1000000 = zK h 1000000 → zAr g 1000000 (gO G 0).1 := fun g e => ⟨by rw [e]; exact congrArg Prod.snd hK0, Or.inr ⟨by omega, by omega⟩⟩
  have e1 : (x + 1).toInt = x.toInt + 1 := i_add (by show _ ≤ x.toInt + (1 : Int); omega) (by show x.toInt + (1 : Int) < _; omega)
  have e2 : (x + 2).toInt = x.toInt + 2 := i_add (by show _ ≤ x.toInt + (2 : Int); omega) (by show x.toInt + (2 : Int) < _; omega)
  have e3 : (x + 3).toInt = x.toInt + 3 := i_add (by show _ ≤ x.toInt + (3 : Int); omega) (by show x.toInt + (3 : Int) < _; omega)
  obtain ⟨F, Mid, c1, m1, c2⟩ := hp (zI h 1000000 (zix (x + 1))) (zI h 1000000 (zix (x + 2))) (zI h 1000000 (zix (x + 3))) h hI
  refine sL_law_582 (some 1000000) 0 313 x hI.1 hI.2.1 (by omega) ⟨1000000, (gO G 0).1, rfl, har h rfl, (by rw [e1]; omega), (by rw [e1]; omega), 1000000, (gO G 0).1, rfl, har h rfl, (by rw [e2]; omega), (by rw [e2]; omega), 1000000, (gO G 0).1, rfl, har h rfl, (by rw [e3]; omega), (by rw [e3]; omega), (fun y I => y = F ∧ Mid I), c1, fun y I q => ?_⟩
  have e : ∀ j, zI (I, h.2) 1000000 j = zI h 1000000 j := m1 I q.2
  refine ⟨1000000, (gO G 0).1, rfl, har (I, h.2) rfl, (by rw [e1]; omega), (by rw [e1]; omega), 1000000, (gO G 0).1, rfl, har (I, h.2) rfl, (by rw [e2]; omega), (by rw [e2]; omega), 1000000, (gO G 0).1, rfl, har (I, h.2) rfl, (by rw [e3]; omega), (by rw [e3]; omega), (fun y I2 => y = F ∧ Inv Kept (I2, h.2)), (by simp only [e]; exact c2 I q.2), fun y2 I2 q2 => ⟨fun _ => cont _ q2.2, fun ne => absurd (by rw [q.1, q2.1]) ne⟩⟩

abbrev P_fair (Kept : zH → Prop) (l : Launch) (G : zG) : Prop := ∀ (x1 x2 : Int32) (x3 : Bool), PairJ Kept l G YX10_fair YX11_fair 6 6 [.int x1, .int x2, .int (zb x3)]
theorem law_fair {Kept : zH → Prop} {l : Launch} {G : zG} {d k n : Nat} (hp : P_fair Kept l G) (hd : 20 ≤ d) {h : zH} {x : Int32} (hI : Inv Kept h) (hx0 : 0 ≤ x.toInt) (hx1 : x.toInt + 6 ≤ ((gO G 0).1 : Int)) (hL : (gO G 0).1 ≤ 3072) (cont : ∀ g, Inv Kept g → lawZ l G d k n 1494 x g) : lawZ l G d k n 625 x h := by
  refine z_ro (fun ro => ?_)
  have hK0 := (ro 0 (by decide)).1
  have har : ∀ g : zH, zK g 1000000 = zK h 1000000 → zAr g 1000000 (gO G 0).1 := fun g e => ⟨by rw [e]; exact congrArg Prod.snd hK0, Or.inr ⟨by omega, by omega⟩⟩
  have e1 : (x + 1).toInt = x.toInt + 1 := i_add (by show _ ≤ x.toInt + (1 : Int); omega) (by show x.toInt + (1 : Int) < _; omega)
  have e2 : (x + 2).toInt = x.toInt + 2 := i_add (by show _ ≤ x.toInt + (2 : Int); omega) (by show x.toInt + (2 : Int) < _; omega)
  have e3 : (x + 3).toInt = x.toInt + 3 := i_add (by show _ ≤ x.toInt + (3 : Int); omega) (by show x.toInt + (3 : Int) < _; omega)
  refine sL_law_625 (some 1000000) 0 313 x hI.1 hI.2.1 (by omega) ⟨1000000, (gO G 0).1, rfl, har h rfl, (by rw [e1]; omega), (by rw [e1]; omega), 1000000, (gO G 0).1, rfl, har h rfl, (by rw [e2]; omega), (by rw [e2]; omega), 1000000, (gO G 0).1, rfl, har h rfl, (by rw [e3]; omega), (by rw [e3]; omega), fun q0 => ?_, fun q0 => ?_⟩
  · obtain ⟨F, Mid, c1, m1, c2⟩ := hp (zI h 1000000 (zix (x + 1))) (zI h 1000000 (zix (x + 2))) false h hI
    refine ⟨(fun y I => y = F ∧ Mid I), c1, fun y I q => ?_⟩
    have e : ∀ j, zI (I, h.2) 1000000 j = zI h 1000000 j := m1 I q.2
    exact ⟨1000000, (gO G 0).1, rfl, har (I, h.2) rfl, (by rw [e1]; omega), (by rw [e1]; omega), 1000000, (gO G 0).1, rfl, har (I, h.2) rfl, (by rw [e2]; omega), (by rw [e2]; omega), 1000000, (gO G 0).1, rfl, har (I, h.2) rfl, (by rw [e3]; omega), (by rw [e3]; omega), fun _ => ⟨(fun y I2 => y = F ∧ Inv Kept (I2, h.2)), (by simp only [e]; exact c2 I q.2), fun y2 I2 q2 => ⟨fun _ => cont _ q2.2, fun ne => absurd (by rw [q.1, q2.1]; exact lg_cmp_self F) ne⟩⟩, fun q1 => absurd (by rw [e]; exact q0) q1⟩
  · obtain ⟨F, Mid, c1, m1, c2⟩ := hp (zI h 1000000 (zix (x + 1))) (zI h 1000000 (zix (x + 2))) true h hI
    refine ⟨(fun y I => y = F ∧ Mid I), c1, fun y I q => ?_⟩
    have e : ∀ j, zI (I, h.2) 1000000 j = zI h 1000000 j := m1 I q.2
    exact ⟨1000000, (gO G 0).1, rfl, har (I, h.2) rfl, (by rw [e1]; omega), (by rw [e1]; omega), 1000000, (gO G 0).1, rfl, har (I, h.2) rfl, (by rw [e2]; omega), (by rw [e2]; omega), 1000000, (gO G 0).1, rfl, har (I, h.2) rfl, (by rw [e3]; omega), (by rw [e3]; omega), fun q1 => absurd (by rw [← e]; exact q1) q0, fun _ => ⟨(fun y I2 => y = F ∧ Inv Kept (I2, h.2)), (by simp only [e]; exact c2 I q.2), fun y2 I2 q2 => ⟨fun _ => cont _ q2.2, fun ne => absurd (by rw [q.1, q2.1]; exact lg_cmp_self F) ne⟩⟩⟩

abbrev P_alone (Kept : zH → Prop) (l : Launch) (G : zG) : Prop := ∀ (x1 x2 : Int32), Pair Kept l G YX10_alone YX11_alone 8 7 [.int x1, .int x2]
theorem law_alone {Kept : zH → Prop} {l : Launch} {G : zG} {d k n : Nat} (hp : P_alone Kept l G) (hd : 20 ≤ d) {h : zH} {x : Int32} (hI : Inv Kept h) (hx0 : 0 ≤ x.toInt) (hx1 : x.toInt + 6 ≤ ((gO G 0).1 : Int)) (hL : (gO G 0).1 ≤ 3072) (cont : ∀ g, Inv Kept g → lawZ l G d k n 1494 x g) : lawZ l G d k n 685 x h := by
  refine z_ro (fun ro => ?_)
  have hK0 := (ro 0 (by decide)).1
  have har : ∀ g : zH, zK g 1000000 = zK h 1000000 → zAr g 1000000 (gO G 0).1 := fun g e => ⟨by rw [e]; exact congrArg Prod.snd hK0, Or.inr ⟨by omega, by omega⟩⟩
  have e1 : (x + 1).toInt = x.toInt + 1 := i_add (by show _ ≤ x.toInt + (1 : Int); omega) (by show x.toInt + (1 : Int) < _; omega)
  have e2 : (x + 2).toInt = x.toInt + 2 := i_add (by show _ ≤ x.toInt + (2 : Int); omega) (by show x.toInt + (2 : Int) < _; omega)
  obtain ⟨F, Mid, c1, m1, c2⟩ := hp (zI h 1000000 (zix (x + 1))) (zI h 1000000 (zix (x + 2))) h hI
  refine sL_law_685 (some 1000000) 0 313 x hI.1 hI.2.1 (by omega) ⟨1000000, (gO G 0).1, rfl, har h rfl, (by rw [e1]; omega), (by rw [e1]; omega), 1000000, (gO G 0).1, rfl, har h rfl, (by rw [e2]; omega), (by rw [e2]; omega), (fun y I => y = F ∧ Mid I), c1, fun y I q => ?_⟩
  have e : ∀ j, zI (I, h.2) 1000000 j = zI h 1000000 j := m1 I q.2
  refine ⟨1000000, (gO G 0).1, rfl, har (I, h.2) rfl, (by rw [e1]; omega), (by rw [e1]; omega), 1000000, (gO G 0).1, rfl, har (I, h.2) rfl, (by rw [e2]; omega), (by rw [e2]; omega), (fun y I2 => y = F ∧ Inv Kept (I2, h.2)), (by simp only [e]; exact c2 I q.2), fun y2 I2 q2 => ⟨fun _ => cont _ q2.2, fun ne => absurd (by rw [q.1, q2.1]) ne⟩⟩

abbrev P_pays (Kept : zH → Prop) (l : Launch) (G : zG) : Prop := ∀ (x1 x2 : Int32), Pair Kept l G YX10_pays YX11_pays 7 6 [.int x1, .int x2]
theorem law_pays {Kept : zH → Prop} {l : Launch} {G : zG} {d k n : Nat} (hp : P_pays Kept l G) (hd : 20 ≤ d) {h : zH} {x : Int32} (hI : Inv Kept h) (hx0 : 0 ≤ x.toInt) (hx1 : x.toInt + 6 ≤ ((gO G 0).1 : Int)) (hL : (gO G 0).1 ≤ 3072) (cont : ∀ g, Inv Kept g → lawZ l G d k n 1494 x g) : lawZ l G d k n 718 x h := by
  refine z_ro (fun ro => ?_)
  have hK0 := (ro 0 (by decide)).1
  have har : ∀ g : zH, zK g 1000000 = zK h 1000000 → zAr g 1000000 (gO G 0).1 := fun g e => ⟨by rw [e]; exact congrArg Prod.snd hK0, Or.inr ⟨by omega, by omega⟩⟩
  have e1 : (x + 1).toInt = x.toInt + 1 := i_add (by show _ ≤ x.toInt + (1 : Int); omega) (by show x.toInt + (1 : Int) < _; omega)
  have e2 : (x + 2).toInt = x.toInt + 2 := i_add (by show _ ≤ x.toInt + (2 : Int); omega) (by show x.toInt + (2 : Int) < _; omega)
  obtain ⟨F, Mid, c1, m1, c2⟩ := hp (zI h 1000000 (zix (x + 1))) (zI h 1000000 (zix (x + 2))) h hI
  refine sL_law_718 (some 1000000) 0 313 x hI.1 hI.2.1 (by omega) ⟨1000000, (gO G 0).1, rfl, har h rfl, (by rw [e1]; omega), (by rw [e1]; omega), 1000000, (gO G 0).1, rfl, har h rfl, (by rw [e2]; omega), (by rw [e2]; omega), (fun y I => y = F ∧ Mid I), c1, fun y I q => ?_⟩
  have e : ∀ j, zI (I, h.2) 1000000 j = zI h 1000000 j := m1 I q.2
  refine ⟨1000000, (gO G 0).1, rfl, har (I, h.2) rfl, (by rw [e1]; omega), (by rw [e1]; omega), 1000000, (gO G 0).1, rfl, har (I, h.2) rfl, (by rw [e2]; omega), (by rw [e2]; omega), (fun y I2 => y = F ∧ Inv Kept (I2, h.2)), (by simp only [e]; exact c2 I q.2), fun y2 I2 q2 => ⟨fun _ => cont _ q2.2, fun ne => absurd (by rw [q.1, q2.1]) ne⟩⟩

abbrev P_traps (Kept : zH → Prop) (l : Launch) (G : zG) : Prop := ∀ (x1 x2 x3 : Int32), Pair Kept l G YX10_traps YX11_traps 8 6 [.int x1, .int x2, .int x3]
theorem law_traps {Kept : zH → Prop} {l : Launch} {G : zG} {d k n : Nat} (hp : P_traps Kept l G) (hd : 20 ≤ d) {h : zH} {x : Int32} (hI : Inv Kept h) (hx0 : 0 ≤ x.toInt) (hx1 : x.toInt + 6 ≤ ((gO G 0).1 : Int)) (hL : (gO G 0).1 ≤ 3072) (cont : ∀ g, Inv Kept g → lawZ l G d k n 1494 x g) : lawZ l G d k n 751 x h := by
  refine z_ro (fun ro => ?_)
  have hK0 := (ro 0 (by decide)).1
  have har : ∀ g : zH, zK g 1000000 = zK h 1000000 → zAr g 1000000 (gO G 0).1 := fun g e => ⟨by rw [e]; exact congrArg Prod.snd hK0, Or.inr ⟨by omega, by omega⟩⟩
  have e1 : (x + 1).toInt = x.toInt + 1 := i_add (by show _ ≤ x.toInt + (1 : Int); omega) (by show x.toInt + (1 : Int) < _; omega)
  have e2 : (x + 2).toInt = x.toInt + 2 := i_add (by show _ ≤ x.toInt + (2 : Int); omega) (by show x.toInt + (2 : Int) < _; omega)
  have e3 : (x + 3).toInt = x.toInt + 3 := i_add (by show _ ≤ x.toInt + (3 : Int); omega) (by show x.toInt + (3 : Int) < _; omega)
  obtain ⟨F, Mid, c1, m1, c2⟩ := hp (zI h 1000000 (zix (x + 1))) (zI h 1000000 (zix (x + 2))) (zI h 1000000 (zix (x + 3))) h hI
  refine sL_law_751 (some 1000000) 0 313 x hI.1 hI.2.1 (by omega) ⟨1000000, (gO G 0).1, rfl, har h rfl, (by rw [e1]; omega), (by rw [e1]; omega), 1000000, (gO G 0).1, rfl, har h rfl, (by rw [e2]; omega), (by rw [e2]; omega), 1000000, (gO G 0).1, rfl, har h rfl, (by rw [e3]; omega), (by rw [e3]; omega), (fun y I => y = F ∧ Mid I), c1, fun y I q => ?_⟩
  have e : ∀ j, zI (I, h.2) 1000000 j = zI h 1000000 j := m1 I q.2
  refine ⟨1000000, (gO G 0).1, rfl, har (I, h.2) rfl, (by rw [e1]; omega), (by rw [e1]; omega), 1000000, (gO G 0).1, rfl, har (I, h.2) rfl, (by rw [e2]; omega), (by rw [e2]; omega), 1000000, (gO G 0).1, rfl, har (I, h.2) rfl, (by rw [e3]; omega), (by rw [e3]; omega), (fun y I2 => y = F ∧ Inv Kept (I2, h.2)), (by simp only [e]; exact c2 I q.2), fun y2 I2 q2 => ⟨fun _ => cont _ q2.2, fun ne => absurd (by rw [q.1, q2.1]) ne⟩⟩

abbrev P_near (Kept : zH → Prop) (l : Launch) (G : zG) : Prop := ∀ (x1 x2 x3 x4 : Int32), Pair Kept l G YX10_near YX11_near 5 5 [.int x1, .int x2, .int x3, .int x4]
theorem law_near {Kept : zH → Prop} {l : Launch} {G : zG} {d k n : Nat} (hp : P_near Kept l G) (hd : 20 ≤ d) {h : zH} {x : Int32} (hI : Inv Kept h) (hx0 : 0 ≤ x.toInt) (hx1 : x.toInt + 6 ≤ ((gO G 0).1 : Int)) (hL : (gO G 0).1 ≤ 3072) (cont : ∀ g, Inv Kept g → lawZ l G d k n 1494 x g) : lawZ l G d k n 794 x h := by
  refine z_ro (fun ro => ?_)
  have hK0 := (ro 0 (by decide)).1
  have har : ∀ g : zH, zK g 1000000 = zK h 1000000 → zAr g 1000000 (gO G 0).1 := fun g e => ⟨by rw [e]; exact congrArg Prod.snd hK0, Or.inr ⟨by omega, by omega⟩⟩
  have e1 : (x + 1).toInt = x.toInt + 1 := i_add (by show _ ≤ x.toInt + (1 : Int); omega) (by show x.toInt + (1 : Int) < _; omega)
  have e2 : (x + 2).toInt = x.toInt + 2 := i_add (by show _ ≤ x.toInt + (2 : Int); omega) (by show x.toInt + (2 : Int) < _; omega)
  have e3 : (x + 3).toInt = x.toInt + 3 := i_add (by show _ ≤ x.toInt + (3 : Int); omega) (by show x.toInt + (3 : Int) < _; omega)
  have e4 : (x + 4).toInt = x.toInt + 4 := i_add (by show _ ≤ x.toInt + (4 : Int); omega) (by show x.toInt + (4 : Int) < _; omega)
  obtain ⟨F, Mid, c1, m1, c2⟩ := hp (zI h 1000000 (zix (x + 1))) (zI h 1000000 (zix (x + 2))) (zI h 1000000 (zix (x + 3))) (zI h 1000000 (zix (x + 4))) h hI
  refine sL_law_794 (some 1000000) 0 313 x hI.1 hI.2.1 (by omega) ⟨1000000, (gO G 0).1, rfl, har h rfl, (by rw [e1]; omega), (by rw [e1]; omega), 1000000, (gO G 0).1, rfl, har h rfl, (by rw [e2]; omega), (by rw [e2]; omega), 1000000, (gO G 0).1, rfl, har h rfl, (by rw [e3]; omega), (by rw [e3]; omega), 1000000, (gO G 0).1, rfl, har h rfl, (by rw [e4]; omega), (by rw [e4]; omega), (fun y I => y = F ∧ Mid I), c1, fun y I q => ?_⟩
  have e : ∀ j, zI (I, h.2) 1000000 j = zI h 1000000 j := m1 I q.2
  refine ⟨1000000, (gO G 0).1, rfl, har (I, h.2) rfl, (by rw [e1]; omega), (by rw [e1]; omega), 1000000, (gO G 0).1, rfl, har (I, h.2) rfl, (by rw [e2]; omega), (by rw [e2]; omega), 1000000, (gO G 0).1, rfl, har (I, h.2) rfl, (by rw [e3]; omega), (by rw [e3]; omega), 1000000, (gO G 0).1, rfl, har (I, h.2) rfl, (by rw [e4]; omega), (by rw [e4]; omega), (fun y I2 => y = F ∧ Inv Kept (I2, h.2)), (by simp only [e]; exact c2 I q.2), fun y2 I2 q2 => ⟨fun _ => cont _ q2.2, fun ne => absurd (by rw [q.1, q2.1]) ne⟩⟩

abbrev P_way (Kept : zH → Prop) (l : Launch) (G : zG) : Prop := ∀ (x1 x2 x3 x4 x5 : Int32), PairG Kept l G YX10_way YX11_way 7 6 [.int x1, .int x2, .int x3, .int x4, .int x5]
theorem law_way {Kept : zH → Prop} {l : Launch} {G : zG} {d k n : Nat} (hp : P_way Kept l G) (hd : 20 ≤ d) {h : zH} {x : Int32} (hI : Inv Kept h) (hx0 : 0 ≤ x.toInt) (hx1 : x.toInt + 6 ≤ ((gO G 0).1 : Int)) (hL : (gO G 0).1 ≤ 3072) (cont : ∀ g, Inv Kept g → lawZ l G d k n 1494 x g) : lawZ l G d k n 847 x h := by
  refine z_ro (fun ro => ?_)
  have hK0 := (ro 0 (by decide)).1
  have har : ∀ g : zH, zK g 1000000 = zK h 1000000 → zAr g 1000000 (gO G 0).1 := fun g e => ⟨by rw [e]; exact congrArg Prod.snd hK0, Or.inr ⟨by omega, by omega⟩⟩
  have e1 : (x + 1).toInt = x.toInt + 1 := i_add (by show _ ≤ x.toInt + (1 : Int); omega) (by show x.toInt + (1 : Int) < _; omega)
  have e2 : (x + 2).toInt = x.toInt + 2 := i_add (by show _ ≤ x.toInt + (2 : Int); omega) (by show x.toInt + (2 : Int) < _; omega)
  have e3 : (x + 3).toInt = x.toInt + 3 := i_add (by show _ ≤ x.toInt + (3 : Int); omega) (by show x.toInt + (3 : Int) < _; omega)
  have e4 : (x + 4).toInt = x.toInt + 4 := i_add (by show _ ≤ x.toInt + (4 : Int); omega) (by show x.toInt + (4 : Int) < _; omega)
  have e5 : (x + 5).toInt = x.toInt + 5 := i_add (by show _ ≤ x.toInt + (5 : Int); omega) (by show x.toInt + (5 : Int) < _; omega)
  obtain ⟨F, Mid, c1, m1, c2⟩ := hp (zI h 1000000 (zix (x + 1))) (zI h 1000000 (zix (x + 2))) (zI h 1000000 (zix (x + 3))) (zI h 1000000 (zix (x + 4))) (zI h 1000000 (zix (x + 5))) h hI
  refine sL_law_847 (some 1000000) 0 313 x hI.1 hI.2.1 (by omega) ⟨1000000, (gO G 0).1, rfl, har h rfl, (by rw [e1]; omega), (by rw [e1]; omega), 1000000, (gO G 0).1, rfl, har h rfl, (by rw [e2]; omega), (by rw [e2]; omega), 1000000, (gO G 0).1, rfl, har h rfl, (by rw [e3]; omega), (by rw [e3]; omega), 1000000, (gO G 0).1, rfl, har h rfl, (by rw [e4]; omega), (by rw [e4]; omega), 1000000, (gO G 0).1, rfl, har h rfl, (by rw [e5]; omega), (by rw [e5]; omega), (fun y g => y = F ∧ Mid g), c1, fun y g q => ?_⟩
  obtain ⟨l1, l2, e, eK⟩ := m1 g q.2
  refine ⟨l1, l2, 1000000, (gO G 0).1, rfl, har g (eK _), (by rw [e1]; omega), (by rw [e1]; omega), 1000000, (gO G 0).1, rfl, har g (eK _), (by rw [e2]; omega), (by rw [e2]; omega), 1000000, (gO G 0).1, rfl, har g (eK _), (by rw [e3]; omega), (by rw [e3]; omega), 1000000, (gO G 0).1, rfl, har g (eK _), (by rw [e4]; omega), (by rw [e4]; omega), 1000000, (gO G 0).1, rfl, har g (eK _), (by rw [e5]; omega), (by rw [e5]; omega), (fun y I2 => y = F ∧ Inv Kept (I2, g.2)), (by simp only [e]; exact c2 g q.2), fun y2 I2 q2 => ⟨fun _ => cont _ q2.2, fun ne => absurd (by rw [q.1, q2.1]) ne⟩⟩

abbrev P_tour (Kept : zH → Prop) (l : Launch) (G : zG) : Prop := ∀ (x1 x2 : Int32), PairG Kept l G YX10_tour YX11_tour 13 7 [.int x1, .int x2]
theorem law_tour {Kept : zH → Prop} {l : Launch} {G : zG} {d k n : Nat} (hp : P_tour Kept l G) (hd : 20 ≤ d) {h : zH} {x : Int32} (hI : Inv Kept h) (hx0 : 0 ≤ x.toInt) (hx1 : x.toInt + 6 ≤ ((gO G 0).1 : Int)) (hL : (gO G 0).1 ≤ 3072) (cont : ∀ g, Inv Kept g → lawZ l G d k n 1494 x g) : lawZ l G d k n 910 x h := by
  refine z_ro (fun ro => ?_)
  have hK0 := (ro 0 (by decide)).1
  have har : ∀ g : zH, zK g 1000000 = zK h 1000000 → zAr g 1000000 (gO G 0).1 := fun g e => ⟨by rw [e]; exact congrArg Prod.snd hK0, Or.inr ⟨by omega, by omega⟩⟩
  have e1 : (x + 1).toInt = x.toInt + 1 := i_add (by show _ ≤ x.toInt + (1 : Int); omega) (by show x.toInt + (1 : Int) < _; omega)
  have e2 : (x + 2).toInt = x.toInt + 2 := i_add (by show _ ≤ x.toInt + (2 : Int); omega) (by show x.toInt + (2 : Int) < _; omega)
  obtain ⟨F, Mid, c1, m1, c2⟩ := hp (zI h 1000000 (zix (x + 1))) (zI h 1000000 (zix (x + 2))) h hI
  refine sL_law_910 (some 1000000) 0 313 x hI.1 hI.2.1 (by omega) ⟨1000000, (gO G 0).1, rfl, har h rfl, (by rw [e1]; omega), (by rw [e1]; omega), 1000000, (gO G 0).1, rfl, har h rfl, (by rw [e2]; omega), (by rw [e2]; omega), (fun y g => y = F ∧ Mid g), c1, fun y g q => ?_⟩
  obtain ⟨l1, l2, e, eK⟩ := m1 g q.2
  refine ⟨l1, l2, 1000000, (gO G 0).1, rfl, har g (eK _), (by rw [e1]; omega), (by rw [e1]; omega), 1000000, (gO G 0).1, rfl, har g (eK _), (by rw [e2]; omega), (by rw [e2]; omega), (fun y I2 => y = F ∧ Inv Kept (I2, g.2)), (by simp only [e]; exact c2 g q.2), fun y2 I2 q2 => ⟨fun _ => cont _ q2.2, fun ne => absurd (by rw [q.1, q2.1]) ne⟩⟩

abbrev P_sign (Kept : zH → Prop) (l : Launch) (G : zG) : Prop := ∀ (x1 x2 x3 : Int32), Pair Kept l G YX10_sign YX11_sign 3 3 [.int x1, .int x2, .int x3]
theorem law_sign {Kept : zH → Prop} {l : Launch} {G : zG} {d k n : Nat} (hp : P_sign Kept l G) (hd : 20 ≤ d) {h : zH} {x : Int32} (hI : Inv Kept h) (hx0 : 0 ≤ x.toInt) (hx1 : x.toInt + 6 ≤ ((gO G 0).1 : Int)) (hL : (gO G 0).1 ≤ 3072) (cont : ∀ g, Inv Kept g → lawZ l G d k n 1494 x g) : lawZ l G d k n 943 x h := by
  refine z_ro (fun ro => ?_)
  have hK0 := (ro 0 (by decide)).1
  have har : ∀ g : zH, zK g 1000000 = zK h 1000000 → zAr g 1000000 (gO G 0).1 := fun g e => ⟨by rw [e]; exact congrArg Prod.snd hK0, Or.inr ⟨by omega, by omega⟩⟩
  have e1 : (x + 1).toInt = x.toInt + 1 := i_add (by show _ ≤ x.toInt + (1 : Int); omega) (by show x.toInt + (1 : Int) < _; omega)
  have e2 : (x + 2).toInt = x.toInt + 2 := i_add (by show _ ≤ x.toInt + (2 : Int); omega) (by show x.toInt + (2 : Int) < _; omega)
  have e3 : (x + 3).toInt = x.toInt + 3 := i_add (by show _ ≤ x.toInt + (3 : Int); omega) (by show x.toInt + (3 : Int) < _; omega)
  obtain ⟨F, Mid, c1, m1, c2⟩ := hp (zI h 1000000 (zix (x + 1))) (zI h 1000000 (zix (x + 2))) (zI h 1000000 (zix (x + 3))) h hI
  refine sL_law_943 (some 1000000) 0 313 x hI.1 hI.2.1 (by omega) ⟨1000000, (gO G 0).1, rfl, har h rfl, (by rw [e1]; omega), (by rw [e1]; omega), 1000000, (gO G 0).1, rfl, har h rfl, (by rw [e2]; omega), (by rw [e2]; omega), 1000000, (gO G 0).1, rfl, har h rfl, (by rw [e3]; omega), (by rw [e3]; omega), (fun y I => y = F ∧ Mid I), c1, fun y I q => ?_⟩
  have e : ∀ j, zI (I, h.2) 1000000 j = zI h 1000000 j := m1 I q.2
  refine ⟨1000000, (gO G 0).1, rfl, har (I, h.2) rfl, (by rw [e1]; omega), (by rw [e1]; omega), 1000000, (gO G 0).1, rfl, har (I, h.2) rfl, (by rw [e2]; omega), (by rw [e2]; omega), 1000000, (gO G 0).1, rfl, har (I, h.2) rfl, (by rw [e3]; omega), (by rw [e3]; omega), (fun y I2 => y = F ∧ Inv Kept (I2, h.2)), (by simp only [e]; exact c2 I q.2), fun y2 I2 q2 => ⟨fun _ => cont _ q2.2, fun ne => absurd (by rw [q.1, q2.1]) ne⟩⟩

abbrev P_makers (Kept : zH → Prop) (l : Launch) (G : zG) : Prop := ∀ (x1 x2 x3 : Int32), Pair Kept l G YX10_makers YX11_makers 7 5 [.int x1, .int x2, .int x3]
theorem law_makers {Kept : zH → Prop} {l : Launch} {G : zG} {d k n : Nat} (hp : P_makers Kept l G) (hd : 20 ≤ d) {h : zH} {x : Int32} (hI : Inv Kept h) (hx0 : 0 ≤ x.toInt) (hx1 : x.toInt + 6 ≤ ((gO G 0).1 : Int)) (hL : (gO G 0).1 ≤ 3072) (cont : ∀ g, Inv Kept g → lawZ l G d k n 1494 x g) : lawZ l G d k n 986 x h := by
  refine z_ro (fun ro => ?_)
  have hK0 := (ro 0 (by decide)).1
  have har : ∀ g : zH, zK g 1000000 = zK h 1000000 → zAr g 1000000 (gO G 0).1 := fun g e => ⟨by rw [e]; exact congrArg Prod.snd hK0, Or.inr ⟨by omega, by omega⟩⟩
  have e1 : (x + 1).toInt = x.toInt + 1 := i_add (by show _ ≤ x.toInt + (1 : Int); omega) (by show x.toInt + (1 : Int) < _; omega)
  have e2 : (x + 2).toInt = x.toInt + 2 := i_add (by show _ ≤ x.toInt + (2 : Int); omega) (by show x.toInt + (2 : Int) < _; omega)
  have e3 : (x + 3).toInt = x.toInt + 3 := i_add (by show _ ≤ x.toInt + (3 : Int); omega) (by show x.toInt + (3 : Int) < _; omega)
  obtain ⟨F, Mid, c1, m1, c2⟩ := hp (zI h 1000000 (zix (x + 1))) (zI h 1000000 (zix (x + 2))) (zI h 1000000 (zix (x + 3))) h hI
  refine sL_law_986 (some 1000000) 0 313 x hI.1 hI.2.1 (by omega) ⟨1000000, (gO G 0).1, rfl, har h rfl, (by rw [e1]; omega), (by rw [e1]; omega), 1000000, (gO G 0).1, rfl, har h rfl, (by rw [e2]; omega), (by rw [e2]; omega), 1000000, (gO G 0).1, rfl, har h rfl, (by rw [e3]; omega), (by rw [e3]; omega), (fun y I => y = F ∧ Mid I), c1, fun y I q => ?_⟩
  have e : ∀ j, zI (I, h.2) 1000000 j = zI h 1000000 j := m1 I q.2
  refine ⟨1000000, (gO G 0).1, rfl, har (I, h.2) rfl, (by rw [e1]; omega), (by rw [e1]; omega), 1000000, (gO G 0).1, rfl, har (I, h.2) rfl, (by rw [e2]; omega), (by rw [e2]; omega), 1000000, (gO G 0).1, rfl, har (I, h.2) rfl, (by rw [e3]; omega), (by rw [e3]; omega), (fun y I2 => y = F ∧ Inv Kept (I2, h.2)), (by simp only [e]; exact c2 I q.2), fun y2 I2 q2 => ⟨fun _ => cont _ q2.2, fun ne => absurd (by rw [q.1, q2.1]) ne⟩⟩

abbrev P_follows (Kept : zH → Prop) (l : Launch) (G : zG) : Prop := ∀ (x1 x2 x3 : Int32), Pair Kept l G YX10_follows YX11_follows 7 7 [.int x1, .int x2, .int x3]
theorem law_follows {Kept : zH → Prop} {l : Launch} {G : zG} {d k n : Nat} (hp : P_follows Kept l G) (hd : 20 ≤ d) {h : zH} {x : Int32} (hI : Inv Kept h) (hx0 : 0 ≤ x.toInt) (hx1 : x.toInt + 6 ≤ ((gO G 0).1 : Int)) (hL : (gO G 0).1 ≤ 3072) (cont : ∀ g, Inv Kept g → lawZ l G d k n 1494 x g) : lawZ l G d k n 1029 x h := by
  refine z_ro (fun ro => ?_)
  have hK0 := (ro 0 (by decide)).1
  have har : ∀ g : zH, zK g 1000000 = zK h 1000000 → zAr g 1000000 (gO G 0).1 := fun g e => ⟨by rw [e]; exact congrArg Prod.snd hK0, Or.inr ⟨by omega, by omega⟩⟩
  have e1 : (x + 1).toInt = x.toInt + 1 := i_add (by show _ ≤ x.toInt + (1 : Int); omega) (by show x.toInt + (1 : Int) < _; omega)
  have e2 : (x + 2).toInt = x.toInt + 2 := i_add (by show _ ≤ x.toInt + (2 : Int); omega) (by show x.toInt + (2 : Int) < _; omega)
  have e3 : (x + 3).toInt = x.toInt + 3 := i_add (by show _ ≤ x.toInt + (3 : Int); omega) (by show x.toInt + (3 : Int) < _; omega)
  obtain ⟨F, Mid, c1, m1, c2⟩ := hp (zI h 1000000 (zix (x + 1))) (zI h 1000000 (zix (x + 2))) (zI h 1000000 (zix (x + 3))) h hI
  refine sL_law_1029 (some 1000000) 0 313 x hI.1 hI.2.1 (by omega) ⟨1000000, (gO G 0).1, rfl, har h rfl, (by rw [e1]; omega), (by rw [e1]; omega), 1000000, (gO G 0).1, rfl, har h rfl, (by rw [e2]; omega), (by rw [e2]; omega), 1000000, (gO G 0).1, rfl, har h rfl, (by rw [e3]; omega), (by rw [e3]; omega), (fun y I => y = F ∧ Mid I), c1, fun y I q => ?_⟩
  have e : ∀ j, zI (I, h.2) 1000000 j = zI h 1000000 j := m1 I q.2
  refine ⟨1000000, (gO G 0).1, rfl, har (I, h.2) rfl, (by rw [e1]; omega), (by rw [e1]; omega), 1000000, (gO G 0).1, rfl, har (I, h.2) rfl, (by rw [e2]; omega), (by rw [e2]; omega), 1000000, (gO G 0).1, rfl, har (I, h.2) rfl, (by rw [e3]; omega), (by rw [e3]; omega), (fun y I2 => y = F ∧ Inv Kept (I2, h.2)), (by simp only [e]; exact c2 I q.2), fun y2 I2 q2 => ⟨fun _ => cont _ q2.2, fun ne => absurd (by rw [q.1, q2.1]) ne⟩⟩

abbrev P_walks (Kept : zH → Prop) (l : Launch) (G : zG) : Prop := ∀ (x1 x2 x3 : Int32), Pair Kept l G YX10_walks YX11_walks 16 8 [.int x1, .int x2, .int x3]
theorem law_walks {Kept : zH → Prop} {l : Launch} {G : zG} {d k n : Nat} (hp : P_walks Kept l G) (hd : 20 ≤ d) {h : zH} {x : Int32} (hI : Inv Kept h) (hx0 : 0 ≤ x.toInt) (hx1 : x.toInt + 6 ≤ ((gO G 0).1 : Int)) (hL : (gO G 0).1 ≤ 3072) (cont : ∀ g, Inv Kept g → lawZ l G d k n 1494 x g) : lawZ l G d k n 1072 x h := by
  refine z_ro (fun ro => ?_)
  have hK0 := (ro 0 (by decide)).1
  have har : ∀ g : zH, zK g 1000000 = zK h 1000000 → zAr g 1000000 (gO G 0).1 := fun g e => ⟨by rw [e]; exact congrArg Prod.snd hK0, Or.inr ⟨by omega, by omega⟩⟩
  have e1 : (x + 1).toInt = x.toInt + 1 := i_add (by show _ ≤ x.toInt + (1 : Int); omega) (by show x.toInt + (1 : Int) < _; omega)
  have e2 : (x + 2).toInt = x.toInt + 2 := i_add (by show _ ≤ x.toInt + (2 : Int); omega) (by show x.toInt + (2 : Int) < _; omega)
  have e3 : (x + 3).toInt = x.toInt + 3 := i_add (by show _ ≤ x.toInt + (3 : Int); omega) (by show x.toInt + (3 : Int) < _; omega)
  obtain ⟨F, Mid, c1, m1, c2⟩ := hp (zI h 1000000 (zix (x + 1))) (zI h 1000000 (zix (x + 2))) (zI h 1000000 (zix (x + 3))) h hI
  refine sL_law_1072 (some 1000000) 0 313 x hI.1 hI.2.1 (by omega) ⟨1000000, (gO G 0).1, rfl, har h rfl, (by rw [e1]; omega), (by rw [e1]; omega), 1000000, (gO G 0).1, rfl, har h rfl, (by rw [e2]; omega), (by rw [e2]; omega), 1000000, (gO G 0).1, rfl, har h rfl, (by rw [e3]; omega), (by rw [e3]; omega), (fun y I => y = F ∧ Mid I), c1, fun y I q => ?_⟩
  have e : ∀ j, zI (I, h.2) 1000000 j = zI h 1000000 j := m1 I q.2
  refine ⟨1000000, (gO G 0).1, rfl, har (I, h.2) rfl, (by rw [e1]; omega), (by rw [e1]; omega), 1000000, (gO G 0).1, rfl, har (I, h.2) rfl, (by rw [e2]; omega), (by rw [e2]; omega), 1000000, (gO G 0).1, rfl, har (I, h.2) rfl, (by rw [e3]; omega), (by rw [e3]; omega), (fun y I2 => y = F ∧ Inv Kept (I2, h.2)), (by simp only [e]; exact c2 I q.2), fun y2 I2 q2 => ⟨fun _ => cont _ q2.2, fun ne => absurd (by rw [q.1, q2.1]) ne⟩⟩

abbrev P_drawn (Kept : zH → Prop) (l : Launch) (G : zG) : Prop := ∀ (x1 x2 x3 x4 : Int32), Pair Kept l G YX10_drawn YX11_drawn 6 6 [.int x1, .int x2, .int x3, .int x4]
theorem law_drawn {Kept : zH → Prop} {l : Launch} {G : zG} {d k n : Nat} (hp : P_drawn Kept l G) (hd : 20 ≤ d) {h : zH} {x : Int32} (hI : Inv Kept h) (hx0 : 0 ≤ x.toInt) (hx1 : x.toInt + 6 ≤ ((gO G 0).1 : Int)) (hL : (gO G 0).1 ≤ 3072) (cont : ∀ g, Inv Kept g → lawZ l G d k n 1494 x g) : lawZ l G d k n 1115 x h := by
  refine z_ro (fun ro => ?_)
  have hK0 := (ro 0 (by decide)).1
  have har : ∀ g : zH, zK g 1000000 = zK h 1000000 → zAr g 1000000 (gO G 0).1 := fun g e => ⟨by rw [e]; exact congrArg Prod.snd hK0, Or.inr ⟨by omega, by omega⟩⟩
  have e1 : (x + 1).toInt = x.toInt + 1 := i_add (by show _ ≤ x.toInt + (1 : Int); omega) (by show x.toInt + (1 : Int) < _; omega)
  have e2 : (x + 2).toInt = x.toInt + 2 := i_add (by show _ ≤ x.toInt + (2 : Int); omega) (by show x.toInt + (2 : Int) < _; omega)
  have e3 : (x + 3).toInt = x.toInt + 3 := i_add (by show _ ≤ x.toInt + (3 : Int); omega) (by show x.toInt + (3 : Int) < _; omega)
  have e4 : (x + 4).toInt = x.toInt + 4 := i_add (by show _ ≤ x.toInt + (4 : Int); omega) (by show x.toInt + (4 : Int) < _; omega)
  obtain ⟨F, Mid, c1, m1, c2⟩ := hp (zI h 1000000 (zix (x + 1))) (zI h 1000000 (zix (x + 2))) (zI h 1000000 (zix (x + 3))) (zI h 1000000 (zix (x + 4))) h hI
  refine sL_law_1115 (some 1000000) 0 313 x hI.1 hI.2.1 (by omega) ⟨1000000, (gO G 0).1, rfl, har h rfl, (by rw [e1]; omega), (by rw [e1]; omega), 1000000, (gO G 0).1, rfl, har h rfl, (by rw [e2]; omega), (by rw [e2]; omega), 1000000, (gO G 0).1, rfl, har h rfl, (by rw [e3]; omega), (by rw [e3]; omega), 1000000, (gO G 0).1, rfl, har h rfl, (by rw [e4]; omega), (by rw [e4]; omega), (fun y I => y = F ∧ Mid I), c1, fun y I q => ?_⟩
  have e : ∀ j, zI (I, h.2) 1000000 j = zI h 1000000 j := m1 I q.2
  refine ⟨1000000, (gO G 0).1, rfl, har (I, h.2) rfl, (by rw [e1]; omega), (by rw [e1]; omega), 1000000, (gO G 0).1, rfl, har (I, h.2) rfl, (by rw [e2]; omega), (by rw [e2]; omega), 1000000, (gO G 0).1, rfl, har (I, h.2) rfl, (by rw [e3]; omega), (by rw [e3]; omega), 1000000, (gO G 0).1, rfl, har (I, h.2) rfl, (by rw [e4]; omega), (by rw [e4]; omega), (fun y I2 => y = F ∧ Inv Kept (I2, h.2)), (by simp only [e]; exact c2 I q.2), fun y2 I2 q2 => ⟨fun _ => cont _ q2.2, fun ne => absurd (by rw [q.1, q2.1]) ne⟩⟩

abbrev P_dawn (Kept : zH → Prop) (l : Launch) (G : zG) : Prop := ∀ (x1 x2 : Int32), Pair Kept l G YX10_dawn YX11_dawn 6 6 [.int x1, .int x2]
theorem law_dawn {Kept : zH → Prop} {l : Launch} {G : zG} {d k n : Nat} (hp : P_dawn Kept l G) (hd : 20 ≤ d) {h : zH} {x : Int32} (hI : Inv Kept h) (hx0 : 0 ≤ x.toInt) (hx1 : x.toInt + 6 ≤ ((gO G 0).1 : Int)) (hL : (gO G 0).1 ≤ 3072) (cont : ∀ g, Inv Kept g → lawZ l G d k n 1494 x g) : lawZ l G d k n 1168 x h := by
  refine z_ro (fun ro => ?_)
  have hK0 := (ro 0 (by decide)).1
  have har : ∀ g : zH, zK g 1000000 = zK h 1000000 → zAr g 1000000 (gO G 0).1 := fun g e => ⟨by rw [e]; exact congrArg Prod.snd hK0, Or.inr ⟨by omega, by omega⟩⟩
  have e1 : (x + 1).toInt = x.toInt + 1 := i_add (by show _ ≤ x.toInt + (1 : Int); omega) (by show x.toInt + (1 : Int) < _; omega)
  have e2 : (x + 2).toInt = x.toInt + 2 := i_add (by show _ ≤ x.toInt + (2 : Int); omega) (by show x.toInt + (2 : Int) < _; omega)
  obtain ⟨F, Mid, c1, m1, c2⟩ := hp (zI h 1000000 (zix (x + 1))) (zI h 1000000 (zix (x + 2))) h hI
  refine sL_law_1168 (some 1000000) 0 313 x hI.1 hI.2.1 (by omega) ⟨1000000, (gO G 0).1, rfl, har h rfl, (by rw [e1]; omega), (by rw [e1]; omega), 1000000, (gO G 0).1, rfl, har h rfl, (by rw [e2]; omega), (by rw [e2]; omega), (fun y I => y = F ∧ Mid I), c1, fun y I q => ?_⟩
  have e : ∀ j, zI (I, h.2) 1000000 j = zI h 1000000 j := m1 I q.2
  refine ⟨1000000, (gO G 0).1, rfl, har (I, h.2) rfl, (by rw [e1]; omega), (by rw [e1]; omega), 1000000, (gO G 0).1, rfl, har (I, h.2) rfl, (by rw [e2]; omega), (by rw [e2]; omega), (fun y I2 => y = F ∧ Inv Kept (I2, h.2)), (by simp only [e]; exact c2 I q.2), fun y2 I2 q2 => ⟨fun _ => cont _ q2.2, fun ne => absurd (by rw [q.1, q2.1]) ne⟩⟩

abbrev P_carried (Kept : zH → Prop) (l : Launch) (G : zG) : Prop := ∀ (x1 x2 x3 : Int32) (x4 : Bool), Pair Kept l G YX10_carried YX11_carried 6 6 [.int x1, .int x2, .int x3, .int (zb x4)]
theorem law_carried {Kept : zH → Prop} {l : Launch} {G : zG} {d k n : Nat} (hp : P_carried Kept l G) (hd : 20 ≤ d) {h : zH} {x : Int32} (hI : Inv Kept h) (hx0 : 0 ≤ x.toInt) (hx1 : x.toInt + 6 ≤ ((gO G 0).1 : Int)) (hL : (gO G 0).1 ≤ 3072) (cont : ∀ g, Inv Kept g → lawZ l G d k n 1494 x g) : lawZ l G d k n 1201 x h := by
  refine z_ro (fun ro => ?_)
  have hK0 := (ro 0 (by decide)).1
  have har : ∀ g : zH, zK g 1000000 = zK h 1000000 → zAr g 1000000 (gO G 0).1 := fun g e => ⟨by rw [e]; exact congrArg Prod.snd hK0, Or.inr ⟨by omega, by omega⟩⟩
  have e1 : (x + 1).toInt = x.toInt + 1 := i_add (by show _ ≤ x.toInt + (1 : Int); omega) (by show x.toInt + (1 : Int) < _; omega)
  have e2 : (x + 2).toInt = x.toInt + 2 := i_add (by show _ ≤ x.toInt + (2 : Int); omega) (by show x.toInt + (2 : Int) < _; omega)
  have e3 : (x + 3).toInt = x.toInt + 3 := i_add (by show _ ≤ x.toInt + (3 : Int); omega) (by show x.toInt + (3 : Int) < _; omega)
  have e4 : (x + 4).toInt = x.toInt + 4 := i_add (by show _ ≤ x.toInt + (4 : Int); omega) (by show x.toInt + (4 : Int) < _; omega)
  refine sL_law_1201 (some 1000000) 0 313 x hI.1 hI.2.1 (by omega) ⟨1000000, (gO G 0).1, rfl, har h rfl, (by rw [e1]; omega), (by rw [e1]; omega), 1000000, (gO G 0).1, rfl, har h rfl, (by rw [e2]; omega), (by rw [e2]; omega), 1000000, (gO G 0).1, rfl, har h rfl, (by rw [e3]; omega), (by rw [e3]; omega), 1000000, (gO G 0).1, rfl, har h rfl, (by rw [e4]; omega), (by rw [e4]; omega), fun q0 => ?_, fun q0 => ?_⟩
  · obtain ⟨F, Mid, c1, m1, c2⟩ := hp (zI h 1000000 (zix (x + 1))) (zI h 1000000 (zix (x + 2))) (zI h 1000000 (zix (x + 3))) false h hI
    refine ⟨(fun y I => y = F ∧ Mid I), c1, fun y I q => ?_⟩
    have e : ∀ j, zI (I, h.2) 1000000 j = zI h 1000000 j := m1 I q.2
    exact ⟨1000000, (gO G 0).1, rfl, har (I, h.2) rfl, (by rw [e1]; omega), (by rw [e1]; omega), 1000000, (gO G 0).1, rfl, har (I, h.2) rfl, (by rw [e2]; omega), (by rw [e2]; omega), 1000000, (gO G 0).1, rfl, har (I, h.2) rfl, (by rw [e3]; omega), (by rw [e3]; omega), 1000000, (gO G 0).1, rfl, har (I, h.2) rfl, (by rw [e4]; omega), (by rw [e4]; omega), fun _ => ⟨(fun y I2 => y = F ∧ Inv Kept (I2, h.2)), (by simp only [e]; exact c2 I q.2), fun y2 I2 q2 => ⟨fun _ => cont _ q2.2, fun ne => absurd (by rw [q.1, q2.1]) ne⟩⟩, fun q1 => absurd (by rw [e]; exact q0) q1⟩
  · obtain ⟨F, Mid, c1, m1, c2⟩ := hp (zI h 1000000 (zix (x + 1))) (zI h 1000000 (zix (x + 2))) (zI h 1000000 (zix (x + 3))) true h hI
    refine ⟨(fun y I => y = F ∧ Mid I), c1, fun y I q => ?_⟩
    have e : ∀ j, zI (I, h.2) 1000000 j = zI h 1000000 j := m1 I q.2
    exact ⟨1000000, (gO G 0).1, rfl, har (I, h.2) rfl, (by rw [e1]; omega), (by rw [e1]; omega), 1000000, (gO G 0).1, rfl, har (I, h.2) rfl, (by rw [e2]; omega), (by rw [e2]; omega), 1000000, (gO G 0).1, rfl, har (I, h.2) rfl, (by rw [e3]; omega), (by rw [e3]; omega), 1000000, (gO G 0).1, rfl, har (I, h.2) rfl, (by rw [e4]; omega), (by rw [e4]; omega), fun q1 => absurd (by rw [← e]; exact q1) q0, fun _ => ⟨(fun y I2 => y = F ∧ Inv Kept (I2, h.2)), (by simp only [e]; exact c2 I q.2), fun y2 I2 q2 => ⟨fun _ => cont _ q2.2, fun ne => absurd (by rw [q.1, q2.1]) ne⟩⟩⟩

abbrev P_better (Kept : zH → Prop) (l : Launch) (G : zG) : Prop := ∀ (x1 x2 : Int32) (x3 : Bool), Pair Kept l G YX10_better YX11_better 7 6 [.int x1, .int x2, .int (zb x3)]
theorem law_better {Kept : zH → Prop} {l : Launch} {G : zG} {d k n : Nat} (hp : P_better Kept l G) (hd : 20 ≤ d) {h : zH} {x : Int32} (hI : Inv Kept h) (hx0 : 0 ≤ x.toInt) (hx1 : x.toInt + 6 ≤ ((gO G 0).1 : Int)) (hL : (gO G 0).1 ≤ 3072) (cont : ∀ g, Inv Kept g → lawZ l G d k n 1494 x g) : lawZ l G d k n 1270 x h := by
  refine z_ro (fun ro => ?_)
  have hK0 := (ro 0 (by decide)).1
  have har : ∀ g : zH, zK g 1000000 = zK h 1000000 → zAr g 1000000 (gO G 0).1 := fun g e => ⟨by rw [e]; exact congrArg Prod.snd hK0, Or.inr ⟨by omega, by omega⟩⟩
  have e1 : (x + 1).toInt = x.toInt + 1 := i_add (by show _ ≤ x.toInt + (1 : Int); omega) (by show x.toInt + (1 : Int) < _; omega)
  have e2 : (x + 2).toInt = x.toInt + 2 := i_add (by show _ ≤ x.toInt + (2 : Int); omega) (by show x.toInt + (2 : Int) < _; omega)
  have e3 : (x + 3).toInt = x.toInt + 3 := i_add (by show _ ≤ x.toInt + (3 : Int); omega) (by show x.toInt + (3 : Int) < _; omega)
  refine sL_law_1270 (some 1000000) 0 313 x hI.1 hI.2.1 (by omega) ⟨1000000, (gO G 0).1, rfl, har h rfl, (by rw [e1]; omega), (by rw [e1]; omega), 1000000, (gO G 0).1, rfl, har h rfl, (by rw [e2]; omega), (by rw [e2]; omega), 1000000, (gO G 0).1, rfl, har h rfl, (by rw [e3]; omega), (by rw [e3]; omega), fun q0 => ?_, fun q0 => ?_⟩
  · obtain ⟨F, Mid, c1, m1, c2⟩ := hp (zI h 1000000 (zix (x + 1))) (zI h 1000000 (zix (x + 2))) false h hI
    refine ⟨(fun y I => y = F ∧ Mid I), c1, fun y I q => ?_⟩
    have e : ∀ j, zI (I, h.2) 1000000 j = zI h 1000000 j := m1 I q.2
    exact ⟨1000000, (gO G 0).1, rfl, har (I, h.2) rfl, (by rw [e1]; omega), (by rw [e1]; omega), 1000000, (gO G 0).1, rfl, har (I, h.2) rfl, (by rw [e2]; omega), (by rw [e2]; omega), 1000000, (gO G 0).1, rfl, har (I, h.2) rfl, (by rw [e3]; omega), (by rw [e3]; omega), fun _ => ⟨(fun y I2 => y = F ∧ Inv Kept (I2, h.2)), (by simp only [e]; exact c2 I q.2), fun y2 I2 q2 => ⟨fun _ => cont _ q2.2, fun ne => absurd (by rw [q.1, q2.1]) ne⟩⟩, fun q1 => absurd (by rw [e]; exact q0) q1⟩
  · obtain ⟨F, Mid, c1, m1, c2⟩ := hp (zI h 1000000 (zix (x + 1))) (zI h 1000000 (zix (x + 2))) true h hI
    refine ⟨(fun y I => y = F ∧ Mid I), c1, fun y I q => ?_⟩
    have e : ∀ j, zI (I, h.2) 1000000 j = zI h 1000000 j := m1 I q.2
    exact ⟨1000000, (gO G 0).1, rfl, har (I, h.2) rfl, (by rw [e1]; omega), (by rw [e1]; omega), 1000000, (gO G 0).1, rfl, har (I, h.2) rfl, (by rw [e2]; omega), (by rw [e2]; omega), 1000000, (gO G 0).1, rfl, har (I, h.2) rfl, (by rw [e3]; omega), (by rw [e3]; omega), fun q1 => absurd (by rw [← e]; exact q1) q0, fun _ => ⟨(fun y I2 => y = F ∧ Inv Kept (I2, h.2)), (by simp only [e]; exact c2 I q.2), fun y2 I2 q2 => ⟨fun _ => cont _ q2.2, fun ne => absurd (by rw [q.1, q2.1]) ne⟩⟩⟩

abbrev P_thieves (Kept : zH → Prop) (l : Launch) (G : zG) : Prop := ∀ (x1 x2 x3 x4 : Int32), Pair Kept l G YX10_thieves YX11_thieves 6 6 [.int x1, .int x2, .int x3, .int x4]
theorem law_thieves {Kept : zH → Prop} {l : Launch} {G : zG} {d k n : Nat} (hp : P_thieves Kept l G) (hd : 20 ≤ d) {h : zH} {x : Int32} (hI : Inv Kept h) (hx0 : 0 ≤ x.toInt) (hx1 : x.toInt + 6 ≤ ((gO G 0).1 : Int)) (hL : (gO G 0).1 ≤ 3072) (cont : ∀ g, Inv Kept g → lawZ l G d k n 1494 x g) : lawZ l G d k n 1329 x h := by
  refine z_ro (fun ro => ?_)
  have hK0 := (ro 0 (by decide)).1
  have har : ∀ g : zH, zK g 1000000 = zK h 1000000 → zAr g 1000000 (gO G 0).1 := fun g e => ⟨by rw [e]; exact congrArg Prod.snd hK0, Or.inr ⟨by omega, by omega⟩⟩
  have e1 : (x + 1).toInt = x.toInt + 1 := i_add (by show _ ≤ x.toInt + (1 : Int); omega) (by show x.toInt + (1 : Int) < _; omega)
  have e2 : (x + 2).toInt = x.toInt + 2 := i_add (by show _ ≤ x.toInt + (2 : Int); omega) (by show x.toInt + (2 : Int) < _; omega)
  have e3 : (x + 3).toInt = x.toInt + 3 := i_add (by show _ ≤ x.toInt + (3 : Int); omega) (by show x.toInt + (3 : Int) < _; omega)
  have e4 : (x + 4).toInt = x.toInt + 4 := i_add (by show _ ≤ x.toInt + (4 : Int); omega) (by show x.toInt + (4 : Int) < _; omega)
  obtain ⟨F, Mid, c1, m1, c2⟩ := hp (zI h 1000000 (zix (x + 1))) (zI h 1000000 (zix (x + 2))) (zI h 1000000 (zix (x + 3))) (zI h 1000000 (zix (x + 4))) h hI
  refine sL_law_1329 (some 1000000) 0 313 x hI.1 hI.2.1 (by omega) ⟨1000000, (gO G 0).1, rfl, har h rfl, (by rw [e1]; omega), (by rw [e1]; omega), 1000000, (gO G 0).1, rfl, har h rfl, (by rw [e2]; omega), (by rw [e2]; omega), 1000000, (gO G 0).1, rfl, har h rfl, (by rw [e3]; omega), (by rw [e3]; omega), 1000000, (gO G 0).1, rfl, har h rfl, (by rw [e4]; omega), (by rw [e4]; omega), (fun y I => y = F ∧ Mid I), c1, fun y I q => ?_⟩
  have e : ∀ j, zI (I, h.2) 1000000 j = zI h 1000000 j := m1 I q.2
  refine ⟨1000000, (gO G 0).1, rfl, har (I, h.2) rfl, (by rw [e1]; omega), (by rw [e1]; omega), 1000000, (gO G 0).1, rfl, har (I, h.2) rfl, (by rw [e2]; omega), (by rw [e2]; omega), 1000000, (gO G 0).1, rfl, har (I, h.2) rfl, (by rw [e3]; omega), (by rw [e3]; omega), 1000000, (gO G 0).1, rfl, har (I, h.2) rfl, (by rw [e4]; omega), (by rw [e4]; omega), (fun y I2 => y = F ∧ Inv Kept (I2, h.2)), (by simp only [e]; exact c2 I q.2), fun y2 I2 q2 => ⟨fun _ => cont _ q2.2, fun ne => absurd (by rw [q.1, q2.1]) ne⟩⟩

abbrev P_row (Kept : zH → Prop) (l : Launch) (G : zG) : Prop := ∀ (x1 x2 x3 : Int32), Pair Kept l G YX10_row YX11_row 15 8 [.int x1, .int x2, .int x3]
theorem law_row {Kept : zH → Prop} {l : Launch} {G : zG} {d k n : Nat} (hp : P_row Kept l G) (hd : 20 ≤ d) {h : zH} {x : Int32} (hI : Inv Kept h) (hx0 : 0 ≤ x.toInt) (hx1 : x.toInt + 6 ≤ ((gO G 0).1 : Int)) (hL : (gO G 0).1 ≤ 3072) (cont : ∀ g, Inv Kept g → lawZ l G d k n 1494 x g) : lawZ l G d k n 1382 x h := by
  refine z_ro (fun ro => ?_)
  have hK0 := (ro 0 (by decide)).1
  have har : ∀ g : zH, zK g 1000000 = zK h 1000000 → zAr g 1000000 (gO G 0).1 := fun g e => ⟨by rw [e]; exact congrArg Prod.snd hK0, Or.inr ⟨by omega, by omega⟩⟩
  have e1 : (x + 1).toInt = x.toInt + 1 := i_add (by show _ ≤ x.toInt + (1 : Int); omega) (by show x.toInt + (1 : Int) < _; omega)
  have e2 : (x + 2).toInt = x.toInt + 2 := i_add (by show _ ≤ x.toInt + (2 : Int); omega) (by show x.toInt + (2 : Int) < _; omega)
  have e3 : (x + 3).toInt = x.toInt + 3 := i_add (by show _ ≤ x.toInt + (3 : Int); omega) (by show x.toInt + (3 : Int) < _; omega)
  obtain ⟨F, Mid, c1, m1, c2⟩ := hp (zI h 1000000 (zix (x + 1))) (zI h 1000000 (zix (x + 2))) (zI h 1000000 (zix (x + 3))) h hI
  refine sL_law_1382 (some 1000000) 0 313 x hI.1 hI.2.1 (by omega) ⟨1000000, (gO G 0).1, rfl, har h rfl, (by rw [e1]; omega), (by rw [e1]; omega), 1000000, (gO G 0).1, rfl, har h rfl, (by rw [e2]; omega), (by rw [e2]; omega), 1000000, (gO G 0).1, rfl, har h rfl, (by rw [e3]; omega), (by rw [e3]; omega), (fun y I => y = F ∧ Mid I), c1, fun y I q => ?_⟩
  have e : ∀ j, zI (I, h.2) 1000000 j = zI h 1000000 j := m1 I q.2
  refine ⟨1000000, (gO G 0).1, rfl, har (I, h.2) rfl, (by rw [e1]; omega), (by rw [e1]; omega), 1000000, (gO G 0).1, rfl, har (I, h.2) rfl, (by rw [e2]; omega), (by rw [e2]; omega), 1000000, (gO G 0).1, rfl, har (I, h.2) rfl, (by rw [e3]; omega), (by rw [e3]; omega), (fun y I2 => y = F ∧ Inv Kept (I2, h.2)), (by simp only [e]; exact c2 I q.2), fun y2 I2 q2 => ⟨fun _ => cont _ q2.2, fun ne => absurd (by rw [q.1, q2.1]) ne⟩⟩

abbrev P_count (Kept : zH → Prop) (l : Launch) (G : zG) : Prop := ∀ (x1 : Int32), Pair Kept l G YX10_count YX11_count 1 2 [.int x1]
theorem law_count {Kept : zH → Prop} {l : Launch} {G : zG} {d k n : Nat} (hp : P_count Kept l G) (hd : 20 ≤ d) {h : zH} {x : Int32} (hI : Inv Kept h) (hx0 : 0 ≤ x.toInt) (hx1 : x.toInt + 6 ≤ ((gO G 0).1 : Int)) (hL : (gO G 0).1 ≤ 3072) (cont : ∀ g, Inv Kept g → lawZ l G d k n 1494 x g) : lawZ l G d k n 1425 x h := by
  refine z_ro (fun ro => ?_)
  have hK0 := (ro 0 (by decide)).1
  have har : ∀ g : zH, zK g 1000000 = zK h 1000000 → zAr g 1000000 (gO G 0).1 := fun g e => ⟨by rw [e]; exact congrArg Prod.snd hK0, Or.inr ⟨by omega, by omega⟩⟩
  have e1 : (x + 1).toInt = x.toInt + 1 := i_add (by show _ ≤ x.toInt + (1 : Int); omega) (by show x.toInt + (1 : Int) < _; omega)
  obtain ⟨F, Mid, c1, m1, c2⟩ := hp (zI h 1000000 (zix (x + 1))) h hI
  refine sL_law_1425 (some 1000000) 0 313 x hI.1 hI.2.1 (by omega) ⟨1000000, (gO G 0).1, rfl, har h rfl, (by rw [e1]; omega), (by rw [e1]; omega), (fun y I => y = F ∧ Mid I), c1, fun y I q => ?_⟩
  have e : ∀ j, zI (I, h.2) 1000000 j = zI h 1000000 j := m1 I q.2
  refine ⟨1000000, (gO G 0).1, rfl, har (I, h.2) rfl, (by rw [e1]; omega), (by rw [e1]; omega), (fun y I2 => y = F ∧ Inv Kept (I2, h.2)), (by simp only [e]; exact c2 I q.2), fun y2 I2 q2 => ⟨fun _ => cont _ q2.2, fun ne => absurd (by rw [q.1, q2.1]) ne⟩⟩

abbrev P_image (Kept : zH → Prop) (l : Launch) (G : zG) : Prop := ∀ (x1 : Int32), PairZ Kept l G YX10_image YX11_image 6 2 [.int x1]
theorem law_image {Kept : zH → Prop} {l : Launch} {G : zG} {d k n : Nat} (hp : P_image Kept l G) (hd : 20 ≤ d) {h : zH} {x : Int32} (hI : Inv Kept h) (hx0 : 0 ≤ x.toInt) (hx1 : x.toInt + 6 ≤ ((gO G 0).1 : Int)) (hL : (gO G 0).1 ≤ 3072) (cont : ∀ g, Inv Kept g → lawZ l G d k n 1494 x g) : lawZ l G d k n 1448 x h := by
  refine z_ro (fun ro => ?_)
  have hK0 := (ro 0 (by decide)).1
  have har : ∀ g : zH, zK g 1000000 = zK h 1000000 → zAr g 1000000 (gO G 0).1 := fun g e => ⟨by rw [e]; exact congrArg Prod.snd hK0, Or.inr ⟨by omega, by omega⟩⟩
  have e1 : (x + 1).toInt = x.toInt + 1 := i_add (by show _ ≤ x.toInt + (1 : Int); omega) (by show x.toInt + (1 : Int) < _; omega)
  obtain ⟨F, Mid, c1, m1, c2⟩ := hp (zI h 1000000 (zix (x + 1))) h hI
  refine sL_law_1448 (some 1000000) 0 313 x hI.1 hI.2.1 (by omega) ⟨1000000, (gO G 0).1, rfl, har h rfl, (by rw [e1]; omega), (by rw [e1]; omega), (fun y I => y = F ∧ Mid I), c1, fun y I q => ?_⟩
  have e : ∀ j, zI (I, h.2) 1000000 j = zI h 1000000 j := m1 I q.2
  refine ⟨1000000, (gO G 0).1, rfl, har (I, h.2) rfl, (by rw [e1]; omega), (by rw [e1]; omega), (fun y I2 => y = F ∧ Inv Kept (I2, h.2)), (by simp only [e]; exact c2 I q.2), fun y2 I2 q2 => ⟨fun _ => cont _ q2.2, fun ne => absurd (by rw [q.1, q2.1]) ne⟩⟩

abbrev P_again (Kept : zH → Prop) (l : Launch) (G : zG) : Prop := ∀ (x1 : Int32), PairZ Kept l G YX10_again YX11_again 6 2 [.int x1]
theorem law_again {Kept : zH → Prop} {l : Launch} {G : zG} {d k n : Nat} (hp : P_again Kept l G) (hd : 20 ≤ d) {h : zH} {x : Int32} (hI : Inv Kept h) (hx0 : 0 ≤ x.toInt) (hx1 : x.toInt + 6 ≤ ((gO G 0).1 : Int)) (hL : (gO G 0).1 ≤ 3072) (cont : ∀ g, Inv Kept g → lawZ l G d k n 1494 x g) : lawZ l G d k n 1471 x h := by
  refine z_ro (fun ro => ?_)
  have hK0 := (ro 0 (by decide)).1
  have har : ∀ g : zH, zK g 1000000 = zK h 1000000 → zAr g 1000000 (gO G 0).1 := fun g e => ⟨by rw [e]; exact congrArg Prod.snd hK0, Or.inr ⟨by omega, by omega⟩⟩
  have e1 : (x + 1).toInt = x.toInt + 1 := i_add (by show _ ≤ x.toInt + (1 : Int); omega) (by show x.toInt + (1 : Int) < _; omega)
  obtain ⟨F, Mid, c1, m1, c2⟩ := hp (zI h 1000000 (zix (x + 1))) h hI
  refine sL_law_1471 (some 1000000) 0 313 x hI.1 hI.2.1 (by omega) ⟨1000000, (gO G 0).1, rfl, har h rfl, (by rw [e1]; omega), (by rw [e1]; omega), (fun y I => y = F ∧ Mid I), c1, fun y I q => ?_⟩
  have e : ∀ j, zI (I, h.2) 1000000 j = zI h 1000000 j := m1 I q.2
  refine ⟨1000000, (gO G 0).1, rfl, har (I, h.2) rfl, (by rw [e1]; omega), (by rw [e1]; omega), (fun y I2 => y = F ∧ Inv Kept (I2, h.2)), (by simp only [e]; exact c2 I q.2), fun y2 I2 q2 => ⟨fun _ => cont _ q2.2, fun ne => absurd (by rw [q.1, q2.1]) ne⟩⟩

/-- the law's loop: with i calls made, what is kept holds -/
theorem law_loop {Kept : zH → Prop} {l : Launch} {G : zG} {d k n : Nat} (p_feed : P_feed Kept l G) (p_end : P_end Kept l G) (p_text : P_text Kept l G) (p_fault : P_fault Kept l G) (p_night : P_night Kept l G) (p_person : P_person Kept l G) (p_where : P_where Kept l G) (p_print : P_print Kept l G) (p_cell : P_cell Kept l G) (p_gait : P_gait Kept l G) (p_tax : P_tax Kept l G) (p_fair : P_fair Kept l G) (p_alone : P_alone Kept l G) (p_pays : P_pays Kept l G) (p_traps : P_traps Kept l G) (p_near : P_near Kept l G) (p_way : P_way Kept l G) (p_tour : P_tour Kept l G) (p_sign : P_sign Kept l G) (p_makers : P_makers Kept l G) (p_follows : P_follows Kept l G) (p_walks : P_walks Kept l G) (p_drawn : P_drawn Kept l G) (p_dawn : P_dawn Kept l G) (p_carried : P_carried Kept l G) (p_better : P_better Kept l G) (p_thieves : P_thieves Kept l G) (p_row : P_row Kept l G) (p_count : P_count Kept l G) (p_image : P_image Kept l G) (p_again : P_again Kept l G) (hd : 20 ≤ d) (hL : (gO G 0).1 ≤ 3072) : ∀ (f : Nat) (x : Int32) (h : zH), Inv Kept h → 0 ≤ x.toInt → x.toInt ≤ 3078 → (3078 - x.toInt) < 6 * (f : Int) → lawZ l G d k n 18 x h := by
  intro f
  induction f with
  | zero =>
    intro x h hI h0 h1 h2
    omega
  | succ f ih =>
    intro x h hI h0 h1 h2
    refine z_ro (fun ro => ?_)
    have hK0 := (ro 0 (by decide)).1
    have har : zAr h 1000000 (gO G 0).1 := ⟨congrArg Prod.snd hK0, Or.inr ⟨by omega, by omega⟩⟩
    have hN : (Int32.ofNat (gO G 0).1).toInt = ((gO G 0).1 : Int) := i_ofNat (by omega)
    have hN6 : (Int32.ofNat (gO G 0).1 - 6).toInt = ((gO G 0).1 : Int) - 6 := by
      rw [← hN]
      exact i_sub (by show _ ≤ _ - (6 : Int); omega) (by show _ - (6 : Int) < _; omega)
    refine sL_law_18 (some 1000000) 0 313 x hI.1 hI.2.1 (by omega) ⟨1000000, (gO G 0).1, rfl, har, fun _ => rfl, fun c => ?_⟩
    rw [hN6] at c
    have cont : ∀ g, Inv Kept g → lawZ l G d k n 1494 x g := fun g hg => by
      have e6 : (x + 6).toInt = x.toInt + 6 := i_add (by show _ ≤ x.toInt + (6 : Int); omega) (by show x.toInt + (6 : Int) < _; omega)
      exact sL_law_1494 (some 1000000) 0 313 x hg.1 hg.2.1 (by omega) (ih (x + 6) g hg (by omega) (by omega) (by omega))
    refine ⟨1000000, (gO G 0).1, rfl, har, h0, by omega, fun _ => cont h hI, fun _ => law_feed p_feed hd hI h0 (by omega) hL cont, fun _ => law_end p_end hd hI h0 (by omega) hL cont, fun _ => law_text p_text hd hI h0 (by omega) hL cont, fun _ => law_fault p_fault hd hI h0 (by omega) hL cont, fun _ => law_night p_night hd hI h0 (by omega) hL cont, fun _ => law_person p_person hd hI h0 (by omega) hL cont, fun _ => law_where p_where hd hI h0 (by omega) hL cont, fun _ => law_print p_print hd hI h0 (by omega) hL cont, fun _ => law_cell p_cell hd hI h0 (by omega) hL cont, fun _ => law_gait p_gait hd hI h0 (by omega) hL cont, fun _ => law_tax p_tax hd hI h0 (by omega) hL cont, fun _ => law_fair p_fair hd hI h0 (by omega) hL cont, fun _ => law_alone p_alone hd hI h0 (by omega) hL cont, fun _ => law_pays p_pays hd hI h0 (by omega) hL cont, fun _ => law_traps p_traps hd hI h0 (by omega) hL cont, fun _ => law_near p_near hd hI h0 (by omega) hL cont, fun _ => law_way p_way hd hI h0 (by omega) hL cont, fun _ => law_tour p_tour hd hI h0 (by omega) hL cont, fun _ => law_sign p_sign hd hI h0 (by omega) hL cont, fun _ => law_makers p_makers hd hI h0 (by omega) hL cont, fun _ => law_follows p_follows hd hI h0 (by omega) hL cont, fun _ => law_walks p_walks hd hI h0 (by omega) hL cont, fun _ => law_drawn p_drawn hd hI h0 (by omega) hL cont, fun _ => law_dawn p_dawn hd hI h0 (by omega) hL cont, fun _ => law_carried p_carried hd hI h0 (by omega) hL cont, fun _ => law_better p_better hd hI h0 (by omega) hL cont, fun _ => law_thieves p_thieves hd hI h0 (by omega) hL cont, fun _ => law_row p_row hd hI h0 (by omega) hL cont, fun _ => law_count p_count hd hI h0 (by omega) hL cont, fun _ => law_image p_image hd hI h0 (by omega) hL cont, fun _ => law_again p_again hd hI h0 (by omega) hL cont⟩
