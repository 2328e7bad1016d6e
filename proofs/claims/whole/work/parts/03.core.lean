/-! the abstract heap: ints, references, kinds (kind, length) and the next id; objects and arrays have ids 0, 1, ..; ids from 1000000 on are read-only things that were there before -/
abbrev zH : Type := (Nat → Nat → Int32) × (Nat → Nat → Option Nat) × (Nat → Nat × Nat) × Nat
def zI (h : zH) (a j : Nat) : Int32 := h.1 a j
def zR (h : zH) (a j : Nat) : Option Nat := h.2.1 a j
def zK (h : zH) (a : Nat) : Nat × Nat := h.2.2.1 a
def zN (h : zH) : Nat := h.2.2.2
def zwI (h : zH) (a j : Nat) (x : Int32) : zH := (fun b k => if b = a ∧ k = j then x else h.1 b k, h.2)
def zwR (h : zH) (a j : Nat) (x : Option Nat) : zH := (h.1, fun b k => if b = a ∧ k = j then x else h.2.1 b k, h.2.2)
/-- a new thing of a kind and a length: zeros and nulls -/
def zal (h : zH) (kd n : Nat) : zH := (fun b k => if b = h.2.2.2 then 0 else h.1 b k, fun b k => if b = h.2.2.2 then none else h.2.1 b k, fun b => if b = h.2.2.2 then (kd, n) else h.2.2.1 b, h.2.2.2 + 1)
/-- a copied piece of one array of ints in another -/
def zcp (h : zH) (a b sp dp n : Nat) : zH := (fun c k => if c = b ∧ dp ≤ k ∧ k < dp + n then h.1 a (sp + (k - dp)) else h.1 c k, h.2)
abbrev zcl : List vw_C := [(RX0, TX0, 14), (RX1, TX1, 10), (RX2, TX2, 10), (RX3, TX3, 6), (RX4, TX4, 14), (RX5, TX5, 13), (RX6, TX6, 8), (RX7, TX7, 8), (RX8, TX8, 7), (RX9, TX9, 10), (RX10, TX10, 15), (RX11, TX11, 50)]
def zty (ci : Nat) : Nat → FieldType := match ci with
  | 0 => tyX0
  | 1 => tyX1
  | 2 => tyX2
  | 3 => tyX3
  | 4 => tyX4
  | 5 => tyX5
  | 6 => tyX6
  | 7 => tyX7
  | 8 => tyX8
  | 9 => tyX9
  | 10 => tyX10
  | _ => tyX11
def zrf (ci k : Nat) : Bool := (zty ci k).isReference
/-- what is the same in the whole run: classes' numbers and slots, array classes' numbers, the first address, addresses and contents of the read-only things -/
abbrev zG : Type := va_G × (Nat → ClassId) × Nat × (Nat → Nat) × (Nat → Nat × (Nat → Int32))
def gD (G : zG) : va_G := G.1
def gy (G : zG) : Nat → ClassId := G.2.1
def gB (G : zG) : Nat := G.2.2.1
def gX (G : zG) : Nat → Nat := G.2.2.2.1
def gO (G : zG) : Nat → Nat × (Nat → Int32) := G.2.2.2.2
def zf (G : zG) (k : Nat) : Nat := if k < 1000000 then gB G + k else gX G (k - 1000000)
def zt (G : zG) (v : Value) : Value := match v with
  | .ref k => .ref (zf G k)
  | w => w
def zfv (G : zG) (h : zH) (ci k j : Nat) : Value := if zrf ci j = true then va_rf ((zR h k j).map (zf G)) else .int (zI h k j)
def zE (G : zG) (h : zH) (k : Nat) : va_E :=
  if (zK h k).1 < 50 then .inl (gy G (zK h k).1, (zK h k).2, .inl (zI h k))
  else if (zK h k).1 < 200 then .inl (gy G (zK h k).1, (zK h k).2, .inr (.inr (.inr (.inr (fun j => (zR h k j).map (zf G))))))
  else .inr ((zK h k).1 - 200, (List.range (zK h k).2).map (zfv G h ((zK h k).1 - 200) k))
def zRel (G : zG) (h : zH) (H : Heap) : Prop := H.size = gB G + zN h ∧ zN h ≤ 1000000 ∧ (∀ k, k < zN h → va_at (gD G) zcl (gB G + k, zE G h k) H) ∧ ∀ i, i < 4 → zK h (1000000 + i) = (0, (gO G i).1) ∧ ∀ j, zI h (1000000 + i) j = (gO G i).2 j
abbrev zat : List (Nat × FieldType) := [(1, .int), (2, .boolean), (99, .array .int), (101, .object "ClayPrints$Night"), (102, .object "ClayPrints$Person"), (103, .object "ClayPrints$Reading"), (106, .object "ClayPrints$Told")]
def zA (G : zG) : Nat → Prop := fun q => gB G ≤ q
def zsl : List Nat := [4, 3, 4, 4, 5, 4, 5, 6, 4, 6, 4]
def zsb : List (List Int32) := [[115, 105, 122, 101], [119, 101, 116], [102, 111, 111, 116], [119, 97, 108, 107], [99, 97, 114, 114, 121], [102, 101, 101, 116], [104, 97, 110, 100, 115], [114, 111, 108, 108, 101, 100], [114, 97, 105, 110], [101, 114, 114, 97, 110, 100], [115, 105, 103, 110]]
def zst_w : List (Nat × String) := [(122, "size"), (124, "wet"), (126, "foot"), (128, "walk"), (130, "carry"), (132, "feet"), (134, "hands"), (136, "rolled"), (138, "rain"), (140, "errand"), (142, "sign")]
/-- a formatter that is never called -/
def zFo (G : zG) (U : State) (H : Heap) : Prop := va_Z "jdk/internal/util/Preconditions" "SIOOBE_FORMATTER" "Ljava/util/function/BiFunction;" .null (zA G) U H ∨ va_Z "jdk/internal/util/Preconditions" "SIOOBE_FORMATTER" "Ljava/util/function/BiFunction;" (.ref (gX G 4)) (zA G) U H
/-- the read-only things that were there before -/
def zEx (G : zG) (U : State) (H : Heap) : Prop :=
  (∀ i, i < 4 → va_T .int (gX G i) (gO G i).1 (fun j => .int ((gO G i).2 j)) (zA G) U H) ∧
  va_Z "ClayPrints$Scribe" "NUMBERS" "[I" (.ref (gX G 1)) (zA G) U H ∧ va_Z "ClayPrints$Scribe" "LEAST" "[I" (.ref (gX G 2)) (zA G) U H ∧ va_Z "ClayPrints$Scribe" "MOST" "[I" (.ref (gX G 3)) (zA G) U H ∧
  va_Z "java/lang/String" "COMPACT_STRINGS" "Z" (.int 1) (zA G) U H ∧
  vk_S 11 zsl zsb (fun i => gX G (10 + i)) (fun i => gX G (30 + i)) (zA G) U H ∧
  zFo G U H
def zAOA (U : State) : Prop := (Cond.arrayOver (.array .int)).before #[] U = true
theorem zAOA.moved {u U : State} (hvm : u.vm.Alike U.vm) (h : zAOA u) : zAOA U := by
  obtain ⟨comp, c, k, h1, h2, h3, h4, h5⟩ := arrayOverA_spec h
  obtain ⟨k', hk', he⟩ := hvm.2.2 _ _ h3
  have hi : (U.vm.classes.findIdx? fun (x : Class) => match x.kind with | .array component _ => component == comp | _ => false) = some c := by
    have hb1 := va_idx_bare U.vm comp
    have hb2 := va_idx_bare u.vm comp
    rw [hvm.bare_eq] at hb1
    exact hb1.symm.trans (hb2.trans h2)
  have hkind : k'.kind = .array comp (.array .int) := by rw [he]; exact h4
  have f1 : U.vm.findClass (FieldType.array .int).toString = some comp := by rw [hvm.findClass]; exact h1
  have f2 : U.vm.findClass ("[" ++ (FieldType.array .int).toString) = some c := by rw [hvm.findClass]; exact h5
  unfold zAOA Cond.before Cond.holds
  simp only [Cond.value]
  rw [f1, Option.bind_some]
  refine (congrArg (fun o : Option Nat => (o.bind (fun c => (U.vm.classes[c]?).map fun (k : Class) => match k.kind with | .array _ ty => decide (ty = FieldType.array .int) && decide (U.vm.findClass ("[" ++ (FieldType.array .int).toString) = some c) | _ => false) == some true)) hi).trans ?_
  simp [hk', hkind, f2]
def zisN (w : Cond) : Bool := match w with
  | .fieldLinkNest .. => true
  | .methodLinkNest .. => true
  | _ => false
/-- what the tables say, in each state of the run -/
def zTb (G : zG) (U : State) : Prop :=
  va_K (gD G) zcl (zat.map fun q => (gy G q.1, q.2)) U ∧ (∀ w ∈ lw_tbl, zisN w = true → va_Nw w U) ∧ (∀ q ∈ zat, ∀ C, q.2 = .object C → va_AO C U) ∧ (∀ i q, zst_w[i]? = some q → vk_R "ClayPrints$Scribe" q.1 q.2 (gX G (10 + i)) U) ∧ zAOA U
def zGOK (G : zG) (U : State) : Prop := zTb G U ∧ zEx G U U.heap ∧ gB G ≤ U.heap.size
def zTs : List Cond := lw_tbl.filter goodWord
theorem zin {w : Cond} (i : Nat) (h : lw_tbl[i]? = some w) (hg : goodWord w = true) : w ∈ zTs := List.mem_filter.mpr ⟨List.mem_of_getElem? h, hg⟩
theorem zTs_in {w : Cond} (h : w ∈ zTs) : w ∈ lw_tbl := (List.mem_filter.mp h).1
theorem zTs_good {w : Cond} (h : w ∈ zTs) : goodWord w = true := (List.mem_filter.mp h).2
theorem zgood {ws : List Cond} (h : ∀ w ∈ ws, w ∈ zTs) : GoodIn zTs ws := fun w hw => ⟨h w hw, good_of_word (zTs_good (h w hw))⟩
/-! moved, kept -/
theorem zEx.moved {G : zG} {u U : State} {H : Heap} (hvm : u.vm.Alike U.vm) (h : zEx G u H) : zEx G U H := by
  obtain ⟨h1, h2, h3, h4, h5, h6, h7⟩ := h
  exact ⟨fun i hi => (h1 i hi).moved hvm, h2.moved hvm, h3.moved hvm, h4.moved hvm, h5.moved hvm, h6.moved hvm, h7.imp (fun q => q.moved hvm) (fun q => q.moved hvm)⟩
theorem zEx.kept {G : zG} {U : State} {H H1 : Heap} (h : zEx G U H) (hq : ∀ a : Nat, a < H.size → ¬ zA G a → H1[a]? = H[a]?) : zEx G U H1 := by
  obtain ⟨h1, h2, h3, h4, h5, h6, h7⟩ := h
  exact ⟨fun i hi => (h1 i hi).kept hq, h2.kept hq, h3.kept hq, h4.kept hq, h5.kept hq, h6.kept hq, h7.imp (fun q => q.kept hq) (fun q => q.kept hq)⟩
theorem zTb.warm {G : zG} {s U : State} (hW : s.WarmedH U.vm) (h : zTb G s) : zTb G U := by
  obtain ⟨h1, h2, h3, h4, h5⟩ := h
  refine ⟨h1.moved hW.alike, fun w hw hn => ?_, fun q hq C e => (h3 q hq C e).moved hW.alike, fun i q hq => (h4 i q hq).warm hW, h5.moved hW.alike⟩
  have h9 := h2 w hw hn
  cases w <;> first | (exact absurd hn (by decide)) | (exact h9.warmF hW) | (exact h9.warmM hW) | (simp [zisN] at hn)
theorem zTb.same {G : zG} {u U : State} (hv : U.vm = u.vm) (h : zTb G u) : zTb G U := by
  obtain ⟨h1, h2, h3, h4, h5⟩ := h
  have hal : u.vm.Alike U.vm := by rw [hv]; exact Vm.Alike.refl u.vm
  refine ⟨h1.moved hal, fun w hw hn => ?_, fun q hq C e => (h3 q hq C e).moved hal, fun i q hq => (h4 i q hq).same hv, h5.moved hal⟩
  have h9 := h2 w hw hn
  refine va_tabs ?_ hv.symm h9
  cases w <;> first | rfl | (simp [zisN] at hn)
theorem zf_lt {G : zG} {k : Nat} (h : k < 1000000) : zf G k = gB G + k := if_pos h
/-! locals, by their places; what isn't known stands as zU -/
abbrev zU : Value := .float 0
def zkn (v : Value) : Bool := match v with
  | .float _ => false
  | .double _ => false
  | _ => true
def zL (G : zG) (ls : Array Slot) (nL : Nat) (L : List Value) : Prop := ls.size = nL ∧ lv_wf ls ∧ ∀ (k : Nat) (v : Value), L[k]? = some v → zkn v = true → ls[k]? = some (.val (zt G v))
def zps (G : zG) (L : List Value) : List (Nat × Value) := (List.range L.length).filterMap fun k => (L[k]?).bind fun v => if zkn v = true then some (k, zt G v) else none
/-- before a store at i: a long whose second half stands there is gone -/
def zcut (L : List Value) (i : Nat) : List Value := match i with
  | 0 => L
  | j + 1 => match L[j]? with
    | some (.long _) => L.set j zU
    | _ => L
def zs1 (L : List Value) (i : Nat) (v : Value) : List Value := (zcut L i).set i v
def zs2 (L : List Value) (i : Nat) (v : Value) : List Value := ((zcut L i).set i v).set (i + 1) zU
theorem zt_cat (G : zG) (v : Value) : (zt G v).category = v.category := by cases v <;> rfl
theorem zps_mem {G : zG} {L : List Value} {k : Nat} {v : Value} (h : L[k]? = some v) (hk : zkn v = true) : (k, zt G v) ∈ zps G L := by
  refine List.mem_filterMap.mpr ⟨k, List.mem_range.mpr (List.getElem?_eq_some_iff.mp h).1, ?_⟩
  rw [h]
  show (if zkn v = true then some (k, zt G v) else none) = _
  rw [if_pos hk]
theorem zps_of {G : zG} {L : List Value} {q : Nat × Value} (h : q ∈ zps G L) : ∃ v, L[q.1]? = some v ∧ zkn v = true ∧ q.2 = zt G v := by
  obtain ⟨k, -, hk⟩ := List.mem_filterMap.mp h
  cases hv : L[k]? with
  | none => rw [hv] at hk; cases hk
  | some v =>
    rw [hv] at hk
    have hk : (if zkn v = true then some (k, zt G v) else none) = some q := hk
    by_cases hz : zkn v = true
    · rw [if_pos hz] at hk
      cases hk
      exact ⟨v, hv, hz, rfl⟩
    · rw [if_neg hz] at hk
      cases hk
theorem zL_has {G : zG} {ls : Array Slot} {nL : Nat} {L : List Value} (h : zL G ls nL L) : lv_has ls nL (zps G L) := by
  refine ⟨h.1, h.2.1, fun q hq => ?_⟩
  obtain ⟨v, h1, h2, h3⟩ := zps_of hq
  rw [h3]
  exact h.2.2 _ _ h1 h2
theorem zcut_ne {L : List Value} {i k : Nat} {v : Value} (h : (zcut L i)[k]? = some v) (hk : zkn v = true) : L[k]? = some v ∧ ¬ (k + 1 = i ∧ v.category = 2) := by
  cases i with
  | zero => exact ⟨h, fun q => by omega⟩
  | succ j =>
    show L[k]? = some v ∧ _
    unfold zcut at h
    dsimp only at h
    split at h
    next x hx =>
      by_cases e : k = j
      · subst e
        have hl : k < L.length := (List.getElem?_eq_some_iff.mp hx).1
        rw [List.getElem?_set_self hl] at h
        cases h
        cases hk
      · rw [List.getElem?_set_ne (Ne.symm e)] at h
        exact ⟨h, fun q => by omega⟩
    next hx =>
      refine ⟨h, fun q => ?_⟩
      have e : k = j := by omega
      subst e
      cases v <;> first | (exact absurd h (hx _)) | (refine absurd q.2 ?_; simp [Value.category]; done) | (refine absurd hk ?_; simp [zkn]; done)
theorem zs1_of {G : zG} {ls : Array Slot} {nL : Nat} {L : List Value} {i : Nat} {v : Value} (h : lv_has ls nL ((i, zt G v) :: (zps G L).filter (fun q => !(q.1 == i) && !(q.1 + 1 == i && q.2.category == 2)))) : zL G ls nL (zs1 L i v) := by
  refine ⟨h.1, h.2.1, fun k w hw hk => ?_⟩
  unfold zs1 at hw
  by_cases e : k = i
  · subst e
    by_cases hl : k < (zcut L k).length
    · rw [List.getElem?_set_self hl] at hw
      cases hw
      exact h.2.2 (k, zt G v) List.mem_cons_self
    · rw [List.getElem?_eq_none (by rw [List.length_set]; omega)] at hw
      cases hw
  · rw [List.getElem?_set_ne (Ne.symm e)] at hw
    obtain ⟨h1, h2⟩ := zcut_ne hw hk
    refine h.2.2 (k, zt G w) (List.mem_cons_of_mem _ (List.mem_filter.mpr ⟨zps_mem h1 hk, ?_⟩))
    show (!(k == i) && !(k + 1 == i && (zt G w).category == 2)) = true
    rw [zt_cat]
    by_cases e1 : k + 1 = i
    · have : ¬ w.category = 2 := fun q => h2 ⟨e1, q⟩
      simp [e, e1, this]
    · simp [e, e1]
theorem zs2_of {G : zG} {ls : Array Slot} {nL : Nat} {L : List Value} {i : Nat} {v : Value} (h : lv_has ls nL ((i, zt G v) :: (zps G L).filter (fun q => !(q.1 == i) && (!(q.1 == i + 1) && !(q.1 + 1 == i && q.2.category == 2))))) : zL G ls nL (zs2 L i v) := by
  refine ⟨h.1, h.2.1, fun k w hw hk => ?_⟩
  unfold zs2 at hw
  by_cases e0 : k = i + 1
  · subst e0
    by_cases hl : i + 1 < ((zcut L i).set i v).length
    · rw [List.getElem?_set_self hl] at hw
      cases hw
      cases hk
    · rw [List.getElem?_eq_none (by rw [List.length_set]; omega)] at hw
      cases hw
  rw [List.getElem?_set_ne (Ne.symm e0)] at hw
  by_cases e : k = i
  · subst e
    by_cases hl : k < (zcut L k).length
    · rw [List.getElem?_set_self hl] at hw
      cases hw
      exact h.2.2 (k, zt G v) List.mem_cons_self
    · rw [List.getElem?_eq_none (by rw [List.length_set]; omega)] at hw
      cases hw
  · rw [List.getElem?_set_ne (Ne.symm e)] at hw
    obtain ⟨h1, h2⟩ := zcut_ne hw hk
    refine h.2.2 (k, zt G w) (List.mem_cons_of_mem _ (List.mem_filter.mpr ⟨zps_mem h1 hk, ?_⟩))
    show (!(k == i) && (!(k == i + 1) && !(k + 1 == i && (zt G w).category == 2))) = true
    rw [zt_cat]
    by_cases e1 : k + 1 = i
    · have : ¬ w.category = 2 := fun q => h2 ⟨e1, q⟩
      simp [e, e0, e1, this]
    · simp [e, e0, e1]
/-- the locals at a method's entry -/
def zent : List Value → List Value
  | [] => []
  | v :: vs => if v.category = 2 then v :: zU :: zent vs else v :: zent vs
theorem zent_has {G : zG} : ∀ (vs : List Value) (i k : Nat) (v : Value), (zent vs)[k]? = some v → zkn v = true → (i + k, zt G v) ∈ lv_args i (vs.map (zt G))
  | [], i, k, v, h, _ => by cases h
  | w :: vs, i, k, v, h, hk => by
    show (i + k, zt G v) ∈ (i, zt G w) :: lv_args (if (zt G w).category = 2 then i + 2 else i + 1) (vs.map (zt G))
    rw [zt_cat]
    unfold zent at h
    by_cases hc : w.category = 2
    · rw [if_pos hc] at h ⊢
      match k, h with
      | 0, h => cases h; exact List.mem_cons_self
      | 1, h => cases h; cases hk
      | k + 2, h =>
        have := zent_has (G := G) vs (i + 2) k v h hk
        rw [show i + (k + 2) = i + 2 + k by omega]
        exact List.mem_cons_of_mem _ this
    · rw [if_neg hc] at h ⊢
      match k, h with
      | 0, h => cases h; exact List.mem_cons_self
      | k + 1, h =>
        have := zent_has (G := G) vs (i + 1) k v h hk
        rw [show i + (k + 1) = i + 1 + k by omega]
        exact List.mem_cons_of_mem _ this
def zpad (n : Nat) (L : List Value) : List Value := L ++ List.replicate (n - L.length) zU
theorem zent_len (G : zG) : ∀ vs : List Value, (lg_sl (vs.map (zt G))).length = (zent vs).length
  | [] => rfl
  | v :: vs => by
    have ih := zent_len G vs
    unfold zent
    simp only [lg_sl, List.map_cons, List.flatMap_cons, List.length_append, zt_cat] at ih ⊢
    by_cases hc : v.category = 2
    · simp only [hc, if_true, List.length_cons, List.length_nil, ih]
      omega
    · simp only [hc, if_false, List.length_cons, List.length_nil, ih]
      omega
theorem zL_entry {G : zG} (vs : List Value) {n : Nat} (h : (zent vs).length ≤ n) : zL G ((lg_sl (vs.map (zt G)) ++ List.replicate (n - (lg_sl (vs.map (zt G))).length) Slot.unset).toArray) n (zpad n (zent vs)) := by
  have h1 := lv_entry (vs.map (zt G)) (n := n) (by rw [zent_len]; exact h)
  refine ⟨h1.1, h1.2.1, fun k v hv hk => ?_⟩
  unfold zpad at hv
  by_cases hl : k < (zent vs).length
  · rw [List.getElem?_append_left hl] at hv
    have := zent_has (G := G) vs 0 k v hv hk
    rw [Nat.zero_add] at this
    exact h1.2.2 _ this
  · rw [List.getElem?_append_right (by omega)] at hv
    have := List.mem_of_getElem? hv
    obtain ⟨-, rfl⟩ := List.mem_replicate.mp this
    cases hk
/-! ===== the judgement Z: from this point of a method of the class, the method comes to its end, with Q of the answer and the heap =====
M: the method's class, code, locals' number, return type, and whether it is a constructor; d: frames below; k, n: cells and slots that may still come -/
abbrev zM : Type := String × ByteArray × Nat × Option FieldType × Bool
def mO (M : zM) : String := M.1
def mC (M : zM) : ByteArray := M.2.1
def mL (M : zM) : Nat := M.2.2.1
def mR (M : zM) : Option FieldType := M.2.2.2.1
def mI (M : zM) : Bool := M.2.2.2.2
def zretI (r : Option FieldType) : Instr := match r with
  | none => .return_
  | some .long => .lreturn
  | some (.object _) => .areturn
  | some (.array _) => .areturn
  | _ => .ireturn
/-- an answer that fits a return type -/
def zfits (r : Option FieldType) (v : Option Value) : Prop := match r with
  | none => v = none
  | some .long => ∃ x, v = some (.long x)
  | some (.object _) => ∃ q, v = some (va_rf q)
  | some (.array _) => ∃ q, v = some (va_rf q)
  | some t => ∃ x, v = some (.int x) ∧ narrow t (.int x) = .int x
def zCX (l : Launch) (G : zG) (M : zM) (d : Nat) (Q : Option Value → zH → Prop) (p : Program) (e : Env) (R : Room) (s : State) (m : MethodId) (args : Array Value) (below : List Frame) (meth : Method) (c : Code) (Qs : State → Prop) : Prop :=
  p.tables.exec = Jvm.exec ∧ c.code = mC M ∧ c.maxLocals = mL M ∧ s.vm.findClass (mO M) = some m.cls ∧ (∀ w ∈ zTs, w.before args s = true) ∧ zGOK G s ∧ (mI M = true → meth.name = "<init>") ∧ d ≤ R.frames ∧ 40 * d ≤ R.locals ∧
  ∀ (v : Option Value) (h : zH) (H : Heap) (locs : List Loc) (cells slots pc : Nat) (ls : Array Slot), Q v h → zfits (mR M) v → zRel G h H → va_S (zA G) s.heap H locs → cells ≤ R.cells → slots ≤ R.slots → decode (mC M) pc = .ok (zretI (mR M), 1) → W p l e R s m args below meth c H locs cells slots Qs (F0 m pc ls (v.map (zt G)).toList)
def Z (l : Launch) (G : zG) (M : zM) (d : Nat) (Q : Option Value → zH → Prop) (k n : Nat) (pc : Nat) (L S : List Value) (h : zH) : Prop :=
  ∀ (p : Program) (e : Env) (R : Room) (s : State) (m : MethodId) (args : Array Value) (below : List Frame) (meth : Method) (c : Code) (Qs : State → Prop) (H : Heap) (locs : List Loc) (cells slots : Nat) (ls : Array Slot),
    zCX l G M d Q p e R s m args below meth c Qs → zRel G h H → va_S (zA G) s.heap H locs → zL G ls (mL M) L → cells + k ≤ R.cells → slots + n ≤ R.slots → W p l e R s m args below meth c H locs cells slots Qs (F0 m pc ls (S.map (zt G)))
/-- a method: its name, code, locals' number, return type -/
abbrev zY : Type := MethodName × ByteArray × Nat × Option FieldType
def yM (Y : zY) : zM := (Y.1.cls, Y.2.1, Y.2.2.1, Y.2.2.2, Y.1.name == "<init>")
def zQc (G : zG) (Q : Option Value → zH → Prop) : Array Value → State → Outcome → State → Prop := fun _ st o t => (∃ (v : Option Value) (h : zH), o = .returned (v.map (zt G)) ∧ Q v h ∧ zRel G h t.heap) ∧ va_F (zA G) st t
def zPc (G : zG) (a : List Value) (h : zH) : Array Value → State → Prop := fun v U => v = (a.map (zt G)).toArray ∧ zRel G h U.heap ∧ zGOK G U
abbrev zRm (d k n : Nat) : Room := { frames := d, cells := k, slots := n, locals := 40 * d }
/-- a contract: from the heap h, Y called with a returns, with Q of the answer and the heap; d frames, k cells and n slots at most -/
def CT (l : Launch) (G : zG) (Y : zY) (d k n : Nat) (a : List Value) (h : zH) (Q : Option Value → zH → Prop) : Prop :=
  Met l Y.1 (.code Y.1 Y.2.1 Y.2.2.1 Y.2.2.2 :: zTs) (zRm d k n) (zPc G a h) (zQc G Q) k n (zA G)
theorem zRel_kept {G : zG} {h : zH} {H : Heap} {U : State} (hR : zRel G h H) (hO : zEx G U H) : zEx G U H := hO
theorem zret_of {l : Launch} {G : zG} {M : zM} {Q : Option Value → zH → Prop} {p : Program} {e : Env} {R : Room} {s : State} {m : MethodId} {args : Array Value} {below : List Frame} {meth : Method} {c : Code} (hx : p.tables.exec = Jvm.exec) (hb : c.code = mC M) (hr : meth.sig.returnType = mR M) (hlocks : meth.locks = false)
    (hnf : ∀ t, mR M = some t → t ≠ .float ∧ t ≠ .double)
    (v : Option Value) (h : zH) (H : Heap) (locs : List Loc) (cells slots pc : Nat) (ls : Array Slot) (hQ : Q v h) (hf : zfits (mR M) v) (hR : zRel G h H) (hS : va_S (zA G) s.heap H locs) (hc : cells ≤ R.cells) (hs : slots ≤ R.slots) (hd : decode (mC M) pc = .ok (zretI (mR M), 1)) : W p l e R s m args below meth c H locs cells slots (MQ below (zQc G Q) args s R.cells R.slots (zA G)) (F0 m pc ls (v.map (zt G)).toList) := by
  refine W.widen hc hs ?_
  have key : ∀ t : State, t.heap = H → s.WarmedH t.vm → zQc G Q args s (.returned (v.map (zt G))) t := fun t ht hW => ⟨⟨v, h, rfl, hQ, by rw [ht]; exact hR⟩, hS.F ht⟩
  cases hM : mR M with
  | none =>
    rw [hM] at hf hd hr
    have hf : v = none := hf
    subst hf
    exact W.vret hx hb hr key hS.2.2 hd
  | some t =>
    have h9 := hnf t hM
    rw [hM] at hf hd hr
    cases t with
    | long =>
      obtain ⟨x, rfl⟩ := (show ∃ x, v = some (.long x) from hf)
      exact W.lret hx hb hr key hS.2.2 hd
    | object C =>
      obtain ⟨q, rfl⟩ := (show ∃ q, v = some (va_rf q) from hf)
      refine W.aret (v := zt G (va_rf q)) hx hb hr (Or.inl ⟨_, rfl⟩) ?_ key hS.2.2 hd
      cases q with
      | none => exact Or.inl rfl
      | some a => exact Or.inr ⟨_, rfl⟩
    | array C =>
      obtain ⟨q, rfl⟩ := (show ∃ q, v = some (va_rf q) from hf)
      refine W.aret (v := zt G (va_rf q)) hx hb hr (Or.inr ⟨_, rfl⟩) ?_ key hS.2.2 hd
      cases q with
      | none => exact Or.inl rfl
      | some a => exact Or.inr ⟨_, rfl⟩
    | float => exact absurd rfl h9.1
    | double => exact absurd rfl h9.2
    | int => obtain ⟨x, rfl, hn⟩ := (show ∃ x, v = some (.int x) ∧ narrow .int (.int x) = .int x from hf); exact W.zret hx hb hr hn key hS.2.2 hd
    | boolean => obtain ⟨x, rfl, hn⟩ := (show ∃ x, v = some (.int x) ∧ narrow .boolean (.int x) = .int x from hf); exact W.zret hx hb hr hn key hS.2.2 hd
    | byte => obtain ⟨x, rfl, hn⟩ := (show ∃ x, v = some (.int x) ∧ narrow .byte (.int x) = .int x from hf); exact W.zret hx hb hr hn key hS.2.2 hd
    | short => obtain ⟨x, rfl, hn⟩ := (show ∃ x, v = some (.int x) ∧ narrow .short (.int x) = .int x from hf); exact W.zret hx hb hr hn key hS.2.2 hd
    | char => obtain ⟨x, rfl, hn⟩ := (show ∃ x, v = some (.int x) ∧ narrow .char (.int x) = .int x from hf); exact W.zret hx hb hr hn key hS.2.2 hd
/-- a contract, out of the walk of the body -/
theorem CT.of {l : Launch} {G : zG} {Y : zY} {d k n : Nat} {a : List Value} {h : zH} {Q : Option Value → zH → Prop} (hy : plainName Y.1.cls = true) (hnf : ∀ t, Y.2.2.2 = some t → t ≠ .float ∧ t ≠ .double) (hl : (zent a).length ≤ Y.2.2.1)
    (body : Z l G (yM Y) d Q k n 0 (zpad Y.2.2.1 (zent a)) [] h) : CT l G Y d k n a h Q := by
  obtain ⟨y, cc, nL, rt⟩ := Y
  refine Met.ofW (cc := cc) (maxL := nL) (ret := rt) hy rfl ?_
  intro p e s m args below meth c s₁ B hml hv
  obtain ⟨rfl, hR, hO⟩ := hv
  have hts := atoms_spec (ws := Cond.code y cc nL rt :: zTs) B.pre
  rw [lg_entry_eq]
  refine body p e _ s m _ below meth c _ s.heap [] 0 0 _ ⟨B.exec, B.bytes, hml, findClass_of_methodNamed B.named, fun w hw => hts w (List.mem_cons_of_mem _ hw), hO, fun hi => ?_, Nat.le_refl _, Nat.le_refl _, zret_of B.exec B.bytes B.returns B.notSynchronized hnf⟩ hR va_S.rf (zL_entry a hl) (by show 0 + k ≤ k; omega) (by show 0 + n ≤ n; omega)
  have e1 := (name_of_methodNamed B.named B.method).1
  have e2 : (y.name == "<init>") = true := hi
  rw [e1]
  exact eq_of_beq e2
/-! ===== the rows of Z ===== -/
section ZR
variable {l : Launch} {G : zG} {M : zM} {d : Nat} {Q : Option Value → zH → Prop} {k n pc : Nat} {L S : List Value} {h : zH}
theorem z_iconst {z : Int} {v : Int32} (hd : decode (mC M) pc = .ok (.iconst z, 1)) (hv : Int32.ofInt z = v) (kk : Z l G M d Q k n (pc + 1) L (.int v :: S) h) : Z l G M d Q k n pc L S h :=
  fun p e R s m args below meth c Qs H locs cells slots ls C hR hS hL hc hn => lv_iconst C.1 C.2.1 hd hv (kk p e R s m args below meth c Qs H locs cells slots ls C hR hS hL hc hn)
theorem z_bipush {z : Int} {v : Int32} (hd : decode (mC M) pc = .ok (.bipush z, 2)) (hv : (Int8.ofInt z).toInt32 = v) (kk : Z l G M d Q k n (pc + 2) L (.int v :: S) h) : Z l G M d Q k n pc L S h :=
  fun p e R s m args below meth c Qs H locs cells slots ls C hR hS hL hc hn => lv_bipush C.1 C.2.1 hd hv (kk p e R s m args below meth c Qs H locs cells slots ls C hR hS hL hc hn)
theorem z_sipush {z : Int} {v : Int32} (hd : decode (mC M) pc = .ok (.sipush z, 3)) (hv : (Int16.ofInt z).toInt32 = v) (kk : Z l G M d Q k n (pc + 3) L (.int v :: S) h) : Z l G M d Q k n pc L S h :=
  fun p e R s m args below meth c Qs H locs cells slots ls C hR hS hL hc hn => lv_sipush C.1 C.2.1 hd hv (kk p e R s m args below meth c Qs H locs cells slots ls C hR hS hL hc hn)
theorem z_lconst {z : Fin 2} {v : Int64} (hd : decode (mC M) pc = .ok (.lconst z, 1)) (hv : Int64.ofNat (z : Nat) = v) (kk : Z l G M d Q k n (pc + 1) L (.long v :: S) h) : Z l G M d Q k n pc L S h :=
  fun p e R s m args below meth c Qs H locs cells slots ls C hR hS hL hc hn => lv_lconst C.1 C.2.1 hd hv (kk p e R s m args below meth c Qs H locs cells slots ls C hR hS hL hc hn)
theorem z_ldc {ix : Nat} {v : Int32} (hw : Cond.constant (mO M) ix v ∈ zTs) (hd : decode (mC M) pc = .ok (.ldc ix, 2)) (kk : Z l G M d Q k n (pc + 2) L (.int v :: S) h) : Z l G M d Q k n pc L S h :=
  fun p e R s m args below meth c Qs H locs cells slots ls C hR hS hL hc hn => lv_ldc C.1 C.2.1 C.2.2.2.1 (C.2.2.2.2.1 _ hw) hd (kk p e R s m args below meth c Qs H locs cells slots ls C hR hS hL hc hn)
theorem z_ldcw {ix : Nat} {v : Int32} (hw : Cond.constant (mO M) ix v ∈ zTs) (hd : decode (mC M) pc = .ok (.ldc_w ix, 3)) (kk : Z l G M d Q k n (pc + 3) L (.int v :: S) h) : Z l G M d Q k n pc L S h :=
  fun p e R s m args below meth c Qs H locs cells slots ls C hR hS hL hc hn => lv_ldcw C.1 C.2.1 C.2.2.2.1 (C.2.2.2.2.1 _ hw) hd (kk p e R s m args below meth c Qs H locs cells slots ls C hR hS hL hc hn)
theorem z_ldc2 {ix : Nat} {v : Int64} (hw : Cond.constantLong (mO M) ix v ∈ zTs) (hd : decode (mC M) pc = .ok (.ldc2_w ix, 3)) (kk : Z l G M d Q k n (pc + 3) L (.long v :: S) h) : Z l G M d Q k n pc L S h :=
  fun p e R s m args below meth c Qs H locs cells slots ls C hR hS hL hc hn => lv_ldc2 C.1 C.2.1 C.2.2.2.1 (C.2.2.2.2.1 _ hw) hd (kk p e R s m args below meth c Qs H locs cells slots ls C hR hS hL hc hn)
theorem z_null (hd : decode (mC M) pc = .ok (.aconst_null, 1)) (kk : Z l G M d Q k n (pc + 1) L (va_rf none :: S) h) : Z l G M d Q k n pc L S h :=
  fun p e R s m args below meth c Qs H locs cells slots ls C hR hS hL hc hn => lv_null C.1 C.2.1 hd (kk p e R s m args below meth c Qs H locs cells slots ls C hR hS hL hc hn)
theorem z_iloadn {i : Fin 4} {j : Nat} {x : Int32} (hd : decode (mC M) pc = .ok (.iload_n i, 1)) (hi : (i : Nat) = j) (hv : L[j]? = some (.int x)) (kk : Z l G M d Q k n (pc + 1) L (.int x :: S) h) : Z l G M d Q k n pc L S h :=
  fun p e R s m args below meth c Qs H locs cells slots ls C hR hS hL hc hn => lv_iload_n C.1 C.2.1 hd hi (hL.2.2 _ _ hv rfl) (kk p e R s m args below meth c Qs H locs cells slots ls C hR hS hL hc hn)
theorem z_iload {j : Nat} {x : Int32} (hd : decode (mC M) pc = .ok (.iload j, 2)) (hv : L[j]? = some (.int x)) (kk : Z l G M d Q k n (pc + 2) L (.int x :: S) h) : Z l G M d Q k n pc L S h :=
  fun p e R s m args below meth c Qs H locs cells slots ls C hR hS hL hc hn => lv_iload C.1 C.2.1 hd (hL.2.2 _ _ hv rfl) (kk p e R s m args below meth c Qs H locs cells slots ls C hR hS hL hc hn)
theorem z_lloadn {i : Fin 4} {j : Nat} {x : Int64} (hd : decode (mC M) pc = .ok (.lload_n i, 1)) (hi : (i : Nat) = j) (hv : L[j]? = some (.long x)) (kk : Z l G M d Q k n (pc + 1) L (.long x :: S) h) : Z l G M d Q k n pc L S h :=
  fun p e R s m args below meth c Qs H locs cells slots ls C hR hS hL hc hn => lv_lload_n C.1 C.2.1 hd hi (hL.2.2 _ _ hv rfl) (kk p e R s m args below meth c Qs H locs cells slots ls C hR hS hL hc hn)
theorem z_lload {j : Nat} {x : Int64} (hd : decode (mC M) pc = .ok (.lload j, 2)) (hv : L[j]? = some (.long x)) (kk : Z l G M d Q k n (pc + 2) L (.long x :: S) h) : Z l G M d Q k n pc L S h :=
  fun p e R s m args below meth c Qs H locs cells slots ls C hR hS hL hc hn => lv_lload C.1 C.2.1 hd (hL.2.2 _ _ hv rfl) (kk p e R s m args below meth c Qs H locs cells slots ls C hR hS hL hc hn)
theorem z_aloadn {i : Fin 4} {j : Nat} {x : Option Nat} (hd : decode (mC M) pc = .ok (.aload_n i, 1)) (hi : (i : Nat) = j) (hv : L[j]? = some (va_rf x)) (kk : Z l G M d Q k n (pc + 1) L (va_rf x :: S) h) : Z l G M d Q k n pc L S h := by
  intro p e R s m args below meth c Qs H locs cells slots ls C hR hS hL hc hn
  have k2 := kk p e R s m args below meth c Qs H locs cells slots ls C hR hS hL hc hn
  cases x with
  | none => exact lv_aload_nN C.1 C.2.1 hd hi (hL.2.2 _ _ hv rfl) k2
  | some q => exact lv_aload_n C.1 C.2.1 hd hi (hL.2.2 _ _ hv rfl) k2
theorem z_aload {j : Nat} {x : Option Nat} (hd : decode (mC M) pc = .ok (.aload j, 2)) (hv : L[j]? = some (va_rf x)) (kk : Z l G M d Q k n (pc + 2) L (va_rf x :: S) h) : Z l G M d Q k n pc L S h := by
  intro p e R s m args below meth c Qs H locs cells slots ls C hR hS hL hc hn
  have k2 := kk p e R s m args below meth c Qs H locs cells slots ls C hR hS hL hc hn
  cases x with
  | none => exact lv_aloadN C.1 C.2.1 hd (hL.2.2 _ _ hv rfl) k2
  | some q => exact lv_aload C.1 C.2.1 hd (hL.2.2 _ _ hv rfl) k2
theorem z_istoren {i : Fin 4} {j : Nat} {x : Int32} {L' : List Value} (hd : decode (mC M) pc = .ok (.istore_n i, 1)) (hi : (i : Nat) = j) (hj : j < mL M) (hv : zs1 L j (.int x) = L') (kk : Z l G M d Q k n (pc + 1) L' S h) : Z l G M d Q k n pc L (.int x :: S) h :=
  fun p e R s m args below meth c Qs H locs cells slots ls C hR hS hL hc hn => lv_istore_n C.1 C.2.1 hd hi (zL_has hL) hj rfl fun ls' h' => kk p e R s m args below meth c Qs H locs cells slots ls' C hR hS (hv ▸ zs1_of h') hc hn
theorem z_istore {j : Nat} {x : Int32} {L' : List Value} (hd : decode (mC M) pc = .ok (.istore j, 2)) (hj : j < mL M) (hv : zs1 L j (.int x) = L') (kk : Z l G M d Q k n (pc + 2) L' S h) : Z l G M d Q k n pc L (.int x :: S) h :=
  fun p e R s m args below meth c Qs H locs cells slots ls C hR hS hL hc hn => lv_istore C.1 C.2.1 hd (zL_has hL) hj rfl fun ls' h' => kk p e R s m args below meth c Qs H locs cells slots ls' C hR hS (hv ▸ zs1_of h') hc hn
theorem z_lstoren {i : Fin 4} {j : Nat} {x : Int64} {L' : List Value} (hd : decode (mC M) pc = .ok (.lstore_n i, 1)) (hi : (i : Nat) = j) (hj : j + 1 < mL M) (hv : zs2 L j (.long x) = L') (kk : Z l G M d Q k n (pc + 1) L' S h) : Z l G M d Q k n pc L (.long x :: S) h :=
  fun p e R s m args below meth c Qs H locs cells slots ls C hR hS hL hc hn => lv_lstore_n C.1 C.2.1 hd hi (zL_has hL) hj rfl fun ls' h' => kk p e R s m args below meth c Qs H locs cells slots ls' C hR hS (hv ▸ zs2_of h') hc hn
theorem z_lstore {j : Nat} {x : Int64} {L' : List Value} (hd : decode (mC M) pc = .ok (.lstore j, 2)) (hj : j + 1 < mL M) (hv : zs2 L j (.long x) = L') (kk : Z l G M d Q k n (pc + 2) L' S h) : Z l G M d Q k n pc L (.long x :: S) h :=
  fun p e R s m args below meth c Qs H locs cells slots ls C hR hS hL hc hn => lv_lstore C.1 C.2.1 hd (zL_has hL) hj rfl fun ls' h' => kk p e R s m args below meth c Qs H locs cells slots ls' C hR hS (hv ▸ zs2_of h') hc hn
theorem z_astoren {i : Fin 4} {j : Nat} {x : Option Nat} {L' : List Value} (hd : decode (mC M) pc = .ok (.astore_n i, 1)) (hi : (i : Nat) = j) (hj : j < mL M) (hv : zs1 L j (va_rf x) = L') (kk : Z l G M d Q k n (pc + 1) L' S h) : Z l G M d Q k n pc L (va_rf x :: S) h := by
  intro p e R s m args below meth c Qs H locs cells slots ls C hR hS hL hc hn
  cases x with
  | none => exact lv_astore_nN C.1 C.2.1 hd hi (zL_has hL) hj rfl fun ls' h' => kk p e R s m args below meth c Qs H locs cells slots ls' C hR hS (hv ▸ zs1_of h') hc hn
  | some q => exact lv_astore_n C.1 C.2.1 hd hi (zL_has hL) hj rfl fun ls' h' => kk p e R s m args below meth c Qs H locs cells slots ls' C hR hS (hv ▸ zs1_of h') hc hn
theorem z_astore {j : Nat} {x : Option Nat} {L' : List Value} (hd : decode (mC M) pc = .ok (.astore j, 2)) (hj : j < mL M) (hv : zs1 L j (va_rf x) = L') (kk : Z l G M d Q k n (pc + 2) L' S h) : Z l G M d Q k n pc L (va_rf x :: S) h := by
  intro p e R s m args below meth c Qs H locs cells slots ls C hR hS hL hc hn
  cases x with
  | none => exact lv_astoreN C.1 C.2.1 hd (zL_has hL) hj rfl fun ls' h' => kk p e R s m args below meth c Qs H locs cells slots ls' C hR hS (hv ▸ zs1_of h') hc hn
  | some q => exact lv_astore C.1 C.2.1 hd (zL_has hL) hj rfl fun ls' h' => kk p e R s m args below meth c Qs H locs cells slots ls' C hR hS (hv ▸ zs1_of h') hc hn
theorem z_iinc {j : Nat} {z : Int} {x v : Int32} {L' : List Value} (hd : decode (mC M) pc = .ok (.iinc j z, 3)) (hj : j < mL M) (hx : L[j]? = some (.int x)) (he : x + Int32.ofInt z = v) (hv : zs1 L j (.int v) = L') (kk : Z l G M d Q k n (pc + 3) L' S h) : Z l G M d Q k n pc L S h := by
  intro p e R s m args below meth c Qs H locs cells slots ls C hR hS hL hc hn
  obtain ⟨q, hq⟩ := List.getElem?_of_mem (zps_mem (G := G) hx rfl)
  exact lv_iinc C.1 C.2.1 hd (zL_has hL) (k := q) hq he hj rfl fun ls' h' => kk p e R s m args below meth c Qs H locs cells slots ls' C hR hS (hv ▸ zs1_of (v := .int v) h') hc hn
theorem z_iadd {x y : Int32} (hd : decode (mC M) pc = .ok (.iadd, 1)) (kk : Z l G M d Q k n (pc + 1) L (.int (x + y) :: S) h) : Z l G M d Q k n pc L (.int y :: .int x :: S) h :=
  fun p e R s m args below meth c Qs H locs cells slots ls C hR hS hL hc hn => lv_iadd C.1 C.2.1 hd (kk p e R s m args below meth c Qs H locs cells slots ls C hR hS hL hc hn)
theorem z_isub {x y : Int32} (hd : decode (mC M) pc = .ok (.isub, 1)) (kk : Z l G M d Q k n (pc + 1) L (.int (x - y) :: S) h) : Z l G M d Q k n pc L (.int y :: .int x :: S) h :=
  fun p e R s m args below meth c Qs H locs cells slots ls C hR hS hL hc hn => lv_isub C.1 C.2.1 hd (kk p e R s m args below meth c Qs H locs cells slots ls C hR hS hL hc hn)
theorem z_imul {x y : Int32} (hd : decode (mC M) pc = .ok (.imul, 1)) (kk : Z l G M d Q k n (pc + 1) L (.int (x * y) :: S) h) : Z l G M d Q k n pc L (.int y :: .int x :: S) h :=
  fun p e R s m args below meth c Qs H locs cells slots ls C hR hS hL hc hn => lv_imul C.1 C.2.1 hd (kk p e R s m args below meth c Qs H locs cells slots ls C hR hS hL hc hn)
theorem z_iand {x y : Int32} (hd : decode (mC M) pc = .ok (.iand, 1)) (kk : Z l G M d Q k n (pc + 1) L (.int (x &&& y) :: S) h) : Z l G M d Q k n pc L (.int y :: .int x :: S) h :=
  fun p e R s m args below meth c Qs H locs cells slots ls C hR hS hL hc hn => lv_iand C.1 C.2.1 hd (kk p e R s m args below meth c Qs H locs cells slots ls C hR hS hL hc hn)
theorem z_ior {x y : Int32} (hd : decode (mC M) pc = .ok (.ior, 1)) (kk : Z l G M d Q k n (pc + 1) L (.int (x ||| y) :: S) h) : Z l G M d Q k n pc L (.int y :: .int x :: S) h :=
  fun p e R s m args below meth c Qs H locs cells slots ls C hR hS hL hc hn => lv_ior C.1 C.2.1 hd (kk p e R s m args below meth c Qs H locs cells slots ls C hR hS hL hc hn)
theorem z_ixor {x y : Int32} (hd : decode (mC M) pc = .ok (.ixor, 1)) (kk : Z l G M d Q k n (pc + 1) L (.int (x ^^^ y) :: S) h) : Z l G M d Q k n pc L (.int y :: .int x :: S) h :=
  fun p e R s m args below meth c Qs H locs cells slots ls C hR hS hL hc hn => lv_ixor C.1 C.2.1 hd (kk p e R s m args below meth c Qs H locs cells slots ls C hR hS hL hc hn)
theorem z_ishl {x y : Int32} (hd : decode (mC M) pc = .ok (.ishl, 1)) (kk : Z l G M d Q k n (pc + 1) L (.int (x <<< (y &&& 31)) :: S) h) : Z l G M d Q k n pc L (.int y :: .int x :: S) h :=
  fun p e R s m args below meth c Qs H locs cells slots ls C hR hS hL hc hn => lv_ishl C.1 C.2.1 hd (kk p e R s m args below meth c Qs H locs cells slots ls C hR hS hL hc hn)
theorem z_ishr {x y : Int32} (hd : decode (mC M) pc = .ok (.ishr, 1)) (kk : Z l G M d Q k n (pc + 1) L (.int (x >>> (y &&& 31)) :: S) h) : Z l G M d Q k n pc L (.int y :: .int x :: S) h :=
  fun p e R s m args below meth c Qs H locs cells slots ls C hR hS hL hc hn => lv_ishr C.1 C.2.1 hd (kk p e R s m args below meth c Qs H locs cells slots ls C hR hS hL hc hn)
theorem z_ladd {x y : Int64} (hd : decode (mC M) pc = .ok (.ladd, 1)) (kk : Z l G M d Q k n (pc + 1) L (.long (x + y) :: S) h) : Z l G M d Q k n pc L (.long y :: .long x :: S) h :=
  fun p e R s m args below meth c Qs H locs cells slots ls C hR hS hL hc hn => lv_ladd C.1 C.2.1 hd (kk p e R s m args below meth c Qs H locs cells slots ls C hR hS hL hc hn)
theorem z_lsub {x y : Int64} (hd : decode (mC M) pc = .ok (.lsub, 1)) (kk : Z l G M d Q k n (pc + 1) L (.long (x - y) :: S) h) : Z l G M d Q k n pc L (.long y :: .long x :: S) h :=
  fun p e R s m args below meth c Qs H locs cells slots ls C hR hS hL hc hn => lv_lsub C.1 C.2.1 hd (kk p e R s m args below meth c Qs H locs cells slots ls C hR hS hL hc hn)
theorem z_lmul {x y : Int64} (hd : decode (mC M) pc = .ok (.lmul, 1)) (kk : Z l G M d Q k n (pc + 1) L (.long (x * y) :: S) h) : Z l G M d Q k n pc L (.long y :: .long x :: S) h :=
  fun p e R s m args below meth c Qs H locs cells slots ls C hR hS hL hc hn => lv_lmul C.1 C.2.1 hd (kk p e R s m args below meth c Qs H locs cells slots ls C hR hS hL hc hn)
theorem z_idiv {x y : Int32} (hd : decode (mC M) pc = .ok (.idiv, 1)) (hne : ¬ y = 0) (kk : Z l G M d Q k n (pc + 1) L (.int (x / y) :: S) h) : Z l G M d Q k n pc L (.int y :: .int x :: S) h :=
  fun p e R s m args below meth c Qs H locs cells slots ls C hR hS hL hc hn => lv_idiv C.1 C.2.1 hd hne (kk p e R s m args below meth c Qs H locs cells slots ls C hR hS hL hc hn)
theorem z_irem {x y : Int32} (hd : decode (mC M) pc = .ok (.irem, 1)) (hne : ¬ y = 0) (kk : Z l G M d Q k n (pc + 1) L (.int (x - x / y * y) :: S) h) : Z l G M d Q k n pc L (.int y :: .int x :: S) h :=
  fun p e R s m args below meth c Qs H locs cells slots ls C hR hS hL hc hn => lv_irem C.1 C.2.1 hd hne (kk p e R s m args below meth c Qs H locs cells slots ls C hR hS hL hc hn)
theorem z_ldiv {x y : Int64} (hd : decode (mC M) pc = .ok (.ldiv, 1)) (hne : ¬ y = 0) (kk : Z l G M d Q k n (pc + 1) L (.long (x / y) :: S) h) : Z l G M d Q k n pc L (.long y :: .long x :: S) h :=
  fun p e R s m args below meth c Qs H locs cells slots ls C hR hS hL hc hn => lv_ldiv C.1 C.2.1 hd hne (kk p e R s m args below meth c Qs H locs cells slots ls C hR hS hL hc hn)
theorem z_lrem {x y : Int64} (hd : decode (mC M) pc = .ok (.lrem, 1)) (hne : ¬ y = 0) (kk : Z l G M d Q k n (pc + 1) L (.long (x - x / y * y) :: S) h) : Z l G M d Q k n pc L (.long y :: .long x :: S) h :=
  fun p e R s m args below meth c Qs H locs cells slots ls C hR hS hL hc hn => lv_lrem C.1 C.2.1 hd hne (kk p e R s m args below meth c Qs H locs cells slots ls C hR hS hL hc hn)
theorem z_iushr {x y v : Int32} (hd : decode (mC M) pc = .ok (.iushr, 1)) (hv : (x.toUInt32 >>> (y.toUInt32 &&& Int32.toUInt32 31)).toInt32 = v) (kk : Z l G M d Q k n (pc + 1) L (.int v :: S) h) : Z l G M d Q k n pc L (.int y :: .int x :: S) h :=
  fun p e R s m args below meth c Qs H locs cells slots ls C hR hS hL hc hn => lv_iushr C.1 C.2.1 hd hv (kk p e R s m args below meth c Qs H locs cells slots ls C hR hS hL hc hn)
theorem z_ineg {x : Int32} (hd : decode (mC M) pc = .ok (.ineg, 1)) (kk : Z l G M d Q k n (pc + 1) L (.int (-x) :: S) h) : Z l G M d Q k n pc L (.int x :: S) h :=
  fun p e R s m args below meth c Qs H locs cells slots ls C hR hS hL hc hn => lv_ineg C.1 C.2.1 hd (kk p e R s m args below meth c Qs H locs cells slots ls C hR hS hL hc hn)
theorem z_i2l {x : Int32} {v : Int64} (hd : decode (mC M) pc = .ok (.i2l, 1)) (hv : x.toInt64 = v) (kk : Z l G M d Q k n (pc + 1) L (.long v :: S) h) : Z l G M d Q k n pc L (.int x :: S) h :=
  fun p e R s m args below meth c Qs H locs cells slots ls C hR hS hL hc hn => lv_i2l C.1 C.2.1 hd hv (kk p e R s m args below meth c Qs H locs cells slots ls C hR hS hL hc hn)
theorem z_lcmp {x y : Int64} (hd : decode (mC M) pc = .ok (.lcmp, 1)) (kk : Z l G M d Q k n (pc + 1) L (.int (lg_cmp x y) :: S) h) : Z l G M d Q k n pc L (.long y :: .long x :: S) h :=
  fun p e R s m args below meth c Qs H locs cells slots ls C hR hS hL hc hn => W.lcmp C.1 C.2.1 hd (kk p e R s m args below meth c Qs H locs cells slots ls C hR hS hL hc hn)
theorem z_dup {v : Value} (hd : decode (mC M) pc = .ok (.dup, 1)) (hv : v.category = 1) (kk : Z l G M d Q k n (pc + 1) L (v :: v :: S) h) : Z l G M d Q k n pc L (v :: S) h :=
  fun p e R s m args below meth c Qs H locs cells slots ls C hR hS hL hc hn => lv_dup C.1 C.2.1 hd (by rw [zt_cat]; exact hv) (kk p e R s m args below meth c Qs H locs cells slots ls C hR hS hL hc hn)
theorem z_dup2 {v w : Value} (hd : decode (mC M) pc = .ok (.dup2, 1)) (hv : v.category = 1) (hw : w.category = 1) (kk : Z l G M d Q k n (pc + 1) L (v :: w :: v :: w :: S) h) : Z l G M d Q k n pc L (v :: w :: S) h :=
  fun p e R s m args below meth c Qs H locs cells slots ls C hR hS hL hc hn => lv_dup2_11 C.1 C.2.1 hd (by rw [zt_cat]; exact hv) (by rw [zt_cat]; exact hw) (kk p e R s m args below meth c Qs H locs cells slots ls C hR hS hL hc hn)
theorem z_goto {o : Int} {t : Nat} (hd : decode (mC M) pc = .ok (.goto o, 3)) (ht : (pc : Int) + o = (t : Int)) (kk : Z l G M d Q k n t L S h) : Z l G M d Q k n pc L S h :=
  fun p e R s m args below meth c Qs H locs cells slots ls C hR hS hL hc hn => lv_goto C.1 C.2.1 hd ht (kk p e R s m args below meth c Qs H locs cells slots ls C hR hS hL hc hn)
theorem z_if_eq {x : Int32} {o : Int} {t : Nat} (hd : decode (mC M) pc = .ok (.ifCond .eq o, 3)) (ht : (pc : Int) + o = (t : Int)) (kt : x = 0 → Z l G M d Q k n t L S h) (kf : ¬ x = 0 → Z l G M d Q k n (pc + 3) L S h) : Z l G M d Q k n pc L (.int x :: S) h :=
  fun p e R s m args below meth c Qs H locs cells slots ls C hR hS hL hc hn => lv_if_eq C.1 C.2.1 hd ht (fun q => kt q p e R s m args below meth c Qs H locs cells slots ls C hR hS hL hc hn) (fun q => kf q p e R s m args below meth c Qs H locs cells slots ls C hR hS hL hc hn)
theorem z_icmp_eq {x y : Int32} {o : Int} {t : Nat} (hd : decode (mC M) pc = .ok (.if_icmp .eq o, 3)) (ht : (pc : Int) + o = (t : Int)) (kt : x = y → Z l G M d Q k n t L S h) (kf : ¬ x = y → Z l G M d Q k n (pc + 3) L S h) : Z l G M d Q k n pc L (.int y :: .int x :: S) h :=
  fun p e R s m args below meth c Qs H locs cells slots ls C hR hS hL hc hn => lv_icmp_eq C.1 C.2.1 hd ht (fun q => kt q p e R s m args below meth c Qs H locs cells slots ls C hR hS hL hc hn) (fun q => kf q p e R s m args below meth c Qs H locs cells slots ls C hR hS hL hc hn)
theorem z_if_ne {x : Int32} {o : Int} {t : Nat} (hd : decode (mC M) pc = .ok (.ifCond .ne o, 3)) (ht : (pc : Int) + o = (t : Int)) (kt : ¬ x = 0 → Z l G M d Q k n t L S h) (kf : x = 0 → Z l G M d Q k n (pc + 3) L S h) : Z l G M d Q k n pc L (.int x :: S) h :=
  fun p e R s m args below meth c Qs H locs cells slots ls C hR hS hL hc hn => lv_if_ne C.1 C.2.1 hd ht (fun q => kt q p e R s m args below meth c Qs H locs cells slots ls C hR hS hL hc hn) (fun q => kf q p e R s m args below meth c Qs H locs cells slots ls C hR hS hL hc hn)
theorem z_icmp_ne {x y : Int32} {o : Int} {t : Nat} (hd : decode (mC M) pc = .ok (.if_icmp .ne o, 3)) (ht : (pc : Int) + o = (t : Int)) (kt : ¬ x = y → Z l G M d Q k n t L S h) (kf : x = y → Z l G M d Q k n (pc + 3) L S h) : Z l G M d Q k n pc L (.int y :: .int x :: S) h :=
  fun p e R s m args below meth c Qs H locs cells slots ls C hR hS hL hc hn => lv_icmp_ne C.1 C.2.1 hd ht (fun q => kt q p e R s m args below meth c Qs H locs cells slots ls C hR hS hL hc hn) (fun q => kf q p e R s m args below meth c Qs H locs cells slots ls C hR hS hL hc hn)
theorem z_if_lt {x : Int32} {o : Int} {t : Nat} (hd : decode (mC M) pc = .ok (.ifCond .lt o, 3)) (ht : (pc : Int) + o = (t : Int)) (kt : x.toInt < 0 → Z l G M d Q k n t L S h) (kf : 0 ≤ x.toInt → Z l G M d Q k n (pc + 3) L S h) : Z l G M d Q k n pc L (.int x :: S) h := by
  intro p e R s m args below meth c Qs H locs cells slots ls C hR hS hL hc hn
  have iff : x < (0 : Int32) ↔ x.toInt < (0 : Int32).toInt := Int32.lt_iff_toInt_lt
  exact lv_if_lt C.1 C.2.1 hd ht (fun q => kt (iff.mp q) p e R s m args below meth c Qs H locs cells slots ls C hR hS hL hc hn) (fun q => kf (Int.not_lt.mp (fun z => q (iff.mpr z))) p e R s m args below meth c Qs H locs cells slots ls C hR hS hL hc hn)
theorem z_icmp_lt {x y : Int32} {o : Int} {t : Nat} (hd : decode (mC M) pc = .ok (.if_icmp .lt o, 3)) (ht : (pc : Int) + o = (t : Int)) (kt : x.toInt < y.toInt → Z l G M d Q k n t L S h) (kf : y.toInt ≤ x.toInt → Z l G M d Q k n (pc + 3) L S h) : Z l G M d Q k n pc L (.int y :: .int x :: S) h := by
  intro p e R s m args below meth c Qs H locs cells slots ls C hR hS hL hc hn
  have iff : x < y ↔ x.toInt < y.toInt := Int32.lt_iff_toInt_lt
  exact lv_icmp_lt C.1 C.2.1 hd ht (fun q => kt (iff.mp q) p e R s m args below meth c Qs H locs cells slots ls C hR hS hL hc hn) (fun q => kf (Int.not_lt.mp (fun z => q (iff.mpr z))) p e R s m args below meth c Qs H locs cells slots ls C hR hS hL hc hn)
theorem z_if_ge {x : Int32} {o : Int} {t : Nat} (hd : decode (mC M) pc = .ok (.ifCond .ge o, 3)) (ht : (pc : Int) + o = (t : Int)) (kt : 0 ≤ x.toInt → Z l G M d Q k n t L S h) (kf : x.toInt < 0 → Z l G M d Q k n (pc + 3) L S h) : Z l G M d Q k n pc L (.int x :: S) h := by
  intro p e R s m args below meth c Qs H locs cells slots ls C hR hS hL hc hn
  have iff : (0 : Int32) ≤ x ↔ (0 : Int32).toInt ≤ x.toInt := Int32.le_iff_toInt_le
  exact lv_if_ge C.1 C.2.1 hd ht (fun q => kt (iff.mp q) p e R s m args below meth c Qs H locs cells slots ls C hR hS hL hc hn) (fun q => kf (Int.not_le.mp (fun z => q (iff.mpr z))) p e R s m args below meth c Qs H locs cells slots ls C hR hS hL hc hn)
theorem z_icmp_ge {x y : Int32} {o : Int} {t : Nat} (hd : decode (mC M) pc = .ok (.if_icmp .ge o, 3)) (ht : (pc : Int) + o = (t : Int)) (kt : y.toInt ≤ x.toInt → Z l G M d Q k n t L S h) (kf : x.toInt < y.toInt → Z l G M d Q k n (pc + 3) L S h) : Z l G M d Q k n pc L (.int y :: .int x :: S) h := by
  intro p e R s m args below meth c Qs H locs cells slots ls C hR hS hL hc hn
  have iff : y ≤ x ↔ y.toInt ≤ x.toInt := Int32.le_iff_toInt_le
  exact lv_icmp_ge C.1 C.2.1 hd ht (fun q => kt (iff.mp q) p e R s m args below meth c Qs H locs cells slots ls C hR hS hL hc hn) (fun q => kf (Int.not_le.mp (fun z => q (iff.mpr z))) p e R s m args below meth c Qs H locs cells slots ls C hR hS hL hc hn)
theorem z_if_gt {x : Int32} {o : Int} {t : Nat} (hd : decode (mC M) pc = .ok (.ifCond .gt o, 3)) (ht : (pc : Int) + o = (t : Int)) (kt : 0 < x.toInt → Z l G M d Q k n t L S h) (kf : x.toInt ≤ 0 → Z l G M d Q k n (pc + 3) L S h) : Z l G M d Q k n pc L (.int x :: S) h := by
  intro p e R s m args below meth c Qs H locs cells slots ls C hR hS hL hc hn
  have iff : (0 : Int32) < x ↔ (0 : Int32).toInt < x.toInt := Int32.lt_iff_toInt_lt
  exact lv_if_gt C.1 C.2.1 hd ht (fun q => kt (iff.mp q) p e R s m args below meth c Qs H locs cells slots ls C hR hS hL hc hn) (fun q => kf (Int.not_lt.mp (fun z => q (iff.mpr z))) p e R s m args below meth c Qs H locs cells slots ls C hR hS hL hc hn)
theorem z_icmp_gt {x y : Int32} {o : Int} {t : Nat} (hd : decode (mC M) pc = .ok (.if_icmp .gt o, 3)) (ht : (pc : Int) + o = (t : Int)) (kt : y.toInt < x.toInt → Z l G M d Q k n t L S h) (kf : x.toInt ≤ y.toInt → Z l G M d Q k n (pc + 3) L S h) : Z l G M d Q k n pc L (.int y :: .int x :: S) h := by
  intro p e R s m args below meth c Qs H locs cells slots ls C hR hS hL hc hn
  have iff : y < x ↔ y.toInt < x.toInt := Int32.lt_iff_toInt_lt
  exact lv_icmp_gt C.1 C.2.1 hd ht (fun q => kt (iff.mp q) p e R s m args below meth c Qs H locs cells slots ls C hR hS hL hc hn) (fun q => kf (Int.not_lt.mp (fun z => q (iff.mpr z))) p e R s m args below meth c Qs H locs cells slots ls C hR hS hL hc hn)
theorem z_if_le {x : Int32} {o : Int} {t : Nat} (hd : decode (mC M) pc = .ok (.ifCond .le o, 3)) (ht : (pc : Int) + o = (t : Int)) (kt : x.toInt ≤ 0 → Z l G M d Q k n t L S h) (kf : 0 < x.toInt → Z l G M d Q k n (pc + 3) L S h) : Z l G M d Q k n pc L (.int x :: S) h := by
  intro p e R s m args below meth c Qs H locs cells slots ls C hR hS hL hc hn
  have iff : x ≤ (0 : Int32) ↔ x.toInt ≤ (0 : Int32).toInt := Int32.le_iff_toInt_le
  exact lv_if_le C.1 C.2.1 hd ht (fun q => kt (iff.mp q) p e R s m args below meth c Qs H locs cells slots ls C hR hS hL hc hn) (fun q => kf (Int.not_le.mp (fun z => q (iff.mpr z))) p e R s m args below meth c Qs H locs cells slots ls C hR hS hL hc hn)
theorem z_icmp_le {x y : Int32} {o : Int} {t : Nat} (hd : decode (mC M) pc = .ok (.if_icmp .le o, 3)) (ht : (pc : Int) + o = (t : Int)) (kt : x.toInt ≤ y.toInt → Z l G M d Q k n t L S h) (kf : y.toInt < x.toInt → Z l G M d Q k n (pc + 3) L S h) : Z l G M d Q k n pc L (.int y :: .int x :: S) h := by
  intro p e R s m args below meth c Qs H locs cells slots ls C hR hS hL hc hn
  have iff : x ≤ y ↔ x.toInt ≤ y.toInt := Int32.le_iff_toInt_le
  exact lv_icmp_le C.1 C.2.1 hd ht (fun q => kt (iff.mp q) p e R s m args below meth c Qs H locs cells slots ls C hR hS hL hc hn) (fun q => kf (Int.not_le.mp (fun z => q (iff.mpr z))) p e R s m args below meth c Qs H locs cells slots ls C hR hS hL hc hn)
theorem z_ifnull {x : Option Nat} {o : Int} {t : Nat} (hd : decode (mC M) pc = .ok (.ifnull o, 3)) (ht : (pc : Int) + o = (t : Int)) (kt : x = none → Z l G M d Q k n t L S h) (kf : ∀ q, x = some q → Z l G M d Q k n (pc + 3) L S h) : Z l G M d Q k n pc L (va_rf x :: S) h := by
  intro p e R s m args below meth c Qs H locs cells slots ls C hR hS hL hc hn
  cases x with
  | none => exact lv_ifnullN C.1 C.2.1 hd ht (kt rfl p e R s m args below meth c Qs H locs cells slots ls C hR hS hL hc hn)
  | some q => exact lv_ifnull C.1 C.2.1 hd (kf q rfl p e R s m args below meth c Qs H locs cells slots ls C hR hS hL hc hn)
theorem z_ifnonnull {x : Option Nat} {o : Int} {t : Nat} (hd : decode (mC M) pc = .ok (.ifnonnull o, 3)) (ht : (pc : Int) + o = (t : Int)) (kt : ∀ q, x = some q → Z l G M d Q k n t L S h) (kf : x = none → Z l G M d Q k n (pc + 3) L S h) : Z l G M d Q k n pc L (va_rf x :: S) h := by
  intro p e R s m args below meth c Qs H locs cells slots ls C hR hS hL hc hn
  cases x with
  | none => exact lv_ifnonnullN C.1 C.2.1 hd (kf rfl p e R s m args below meth c Qs H locs cells slots ls C hR hS hL hc hn)
  | some q => exact lv_ifnonnull C.1 C.2.1 hd ht (kt q rfl p e R s m args below meth c Qs H locs cells slots ls C hR hS hL hc hn)
theorem z_tsw {df lo hi : Int} {offs : Array Int} {len : Nat} {x : Int32} {td : Nat} {ts : List Nat} (hd : decode (mC M) pc = .ok (.tableswitch df lo hi offs, len)) (htd : (pc : Int) + df = (td : Int)) (hts : offs.toList.map (fun o => (pc : Int) + o) = ts.map (fun t : Nat => (t : Int))) (hhi : hi + 1 = lo + (ts.length : Int))
    (kd : (x.toInt < lo ∨ hi < x.toInt) → Z l G M d Q k n td L S h) (kk : ∀ (i t : Nat), ts[i]? = some t → x.toInt = lo + (i : Int) → Z l G M d Q k n t L S h) : Z l G M d Q k n pc L (.int x :: S) h := by
  intro p e R s m args below meth c Qs H locs cells slots ls C hR hS hL hc hn
  by_cases h1 : x.toInt < lo
  · exact lv_tableOut C.1 C.2.1 hd (Or.inl h1) htd (kd (Or.inl h1) p e R s m args below meth c Qs H locs cells slots ls C hR hS hL hc hn)
  by_cases h2 : hi < x.toInt
  · exact lv_tableOut C.1 C.2.1 hd (Or.inr h2) htd (kd (Or.inr h2) p e R s m args below meth c Qs H locs cells slots ls C hR hS hL hc hn)
  have hi9 : (x.toInt - lo).toNat < ts.length := by omega
  have ht : ts[(x.toInt - lo).toNat]? = some ts[(x.toInt - lo).toNat] := List.getElem?_eq_getElem hi9
  have ho : (offs.toList.map (fun o => (pc : Int) + o))[(x.toInt - lo).toNat]? = some ((ts[(x.toInt - lo).toNat] : Nat) : Int) := by rw [hts, List.getElem?_map, ht]; rfl
  rw [List.getElem?_map] at ho
  cases hof : offs.toList[(x.toInt - lo).toNat]? with
  | none => rw [hof] at ho; cases ho
  | some o =>
    rw [hof] at ho
    rw [Array.getElem?_toList] at hof
    exact lv_tableIn C.1 C.2.1 hd h1 h2 hof (Option.some.inj ho) (kk _ _ ht (by omega) p e R s m args below meth c Qs H locs cells slots ls C hR hS hL hc hn)
theorem z_lsw {df : Int} {ps : Array (Int × Int)} {len : Nat} {x : Int32} {t : Nat} {o : Int} (hd : decode (mC M) pc = .ok (.lookupswitch df ps, len)) (hp : (ps.toList.zip (ps.toList.drop 1)).all (fun (a, next) => a.1 < next.1) = true) (ho : Op.lookupswitch.offset ps.toList df x.toInt = o) (ht : (pc : Int) + o = (t : Int)) (kk : Z l G M d Q k n t L S h) : Z l G M d Q k n pc L (.int x :: S) h :=
  fun p e R s m args below meth c Qs H locs cells slots ls C hR hS hL hc hn => lv_lookup C.1 C.2.1 hd hp ho ht (kk p e R s m args below meth c Qs H locs cells slots ls C hR hS hL hc hn)
/-- the method's end -/
theorem z_ret {v : Option Value} (hd : decode (mC M) pc = .ok (zretI (mR M), 1)) (hf : zfits (mR M) v) (hv : v.toList = S) (hQ : Q v h) : Z l G M d Q k n pc L S h := by
  intro p e R s m args below meth c Qs H locs cells slots ls C hR hS hL hc hn
  subst hv
  have := C.2.2.2.2.2.2.2.2.2 v h H locs cells slots pc ls hQ hf hR hS (by omega) (by omega) hd
  cases v <;> exact this
theorem z_mono {k' n' : Nat} (hk : k ≤ k') (hn : n ≤ n') (kk : Z l G M d Q k n pc L S h) : Z l G M d Q k' n' pc L S h :=
  fun p e R s m args below meth c Qs H locs cells slots ls C hR hS hL hc hs => kk p e R s m args below meth c Qs H locs cells slots ls C hR hS hL (by omega) (by omega)
end ZR
/-! ===== the rows of Z: heap ===== -/
theorem va_one {D : va_G} {a : Nat} {e : va_E} {H : Heap} (h : va_at D zcl (a, e) H) : va_P D zcl [(a, e)] H := by
  intro k q hq
  match k, hq with
  | 0, hq => cases hq; exact h
theorem zV_get {n j : Nat} {f : Nat → Value} (h : j < n) : vp_V ((List.range n).map f) j = f j := by
  unfold vp_V
  rw [List.getD_eq_getElem?_getD, List.getElem?_map, List.getElem?_range h]
  rfl
theorem zfs_at {n j : Nat} {f : Nat → Value} (h : j < n) : ((List.range n).map f)[j]? = some (f j) := by
  rw [List.getElem?_map, List.getElem?_range h]; rfl
theorem zat_in {kd : Nat} {ty : FieldType} (i : Nat) (h : zat[i]? = some (kd, ty)) (G : zG) : (zat.map fun q => (gy G q.1, q.2))[i]? = some (gy G kd, ty) := by
  rw [List.getElem?_map, h]; rfl
/-- an array of ints: the class's own, or one of the read-only ones -/
def zAr (h : zH) (a n : Nat) : Prop := (zK h a).2 = n ∧ ((zK h a).1 = 1 ∧ a < zN h ∨ 1000000 ≤ a ∧ a < 1000004)
def zAw (h : zH) (a n : Nat) : Prop := zK h a = (1, n) ∧ a < zN h
theorem zAw.r {h : zH} {a n : Nat} (q : zAw h a n) : zAr h a n := ⟨by rw [q.1], Or.inl ⟨by rw [q.1], q.2⟩⟩
/-- an object of class ci -/
def zOb (h : zH) (a ci : Nat) : Prop := (∃ r, zcl[ci]? = some r ∧ zK h a = (200 + ci, r.2.2)) ∧ a < zN h
def zni (c : Int32 × Nat) : Prop := 0 ≤ c.1.toInt ∧ c.1.toInt < c.2
theorem zin_of {i : Int32} {n : Nat} (h0 : 0 ≤ i.toInt) (h1 : i.toInt < n) : vp_in i n := vp_in_iff.mpr ⟨h0, h1⟩
def zix (i : Int32) : Nat := i.toInt.toNat
theorem zix_eq (i : Int32) : i.toNatClampNeg = zix i := rfl
theorem zRel.at {G : zG} {h : zH} {H : Heap} (hR : zRel G h H) {a : Nat} (ha : a < zN h) : va_at (gD G) zcl (gB G + a, zE G h a) H := hR.2.2.1 a ha
theorem zE_arr {G : zG} {h : zH} {a : Nat} (hk : (zK h a).1 < 50) : zE G h a = .inl (gy G (zK h a).1, (zK h a).2, .inl (zI h a)) := if_pos hk
theorem zE_ref {G : zG} {h : zH} {a : Nat} (h1 : ¬ (zK h a).1 < 50) (h2 : (zK h a).1 < 200) : zE G h a = .inl (gy G (zK h a).1, (zK h a).2, .inr (.inr (.inr (.inr (fun j => (zR h a j).map (zf G)))))) := by
  unfold zE
  rw [if_neg h1, if_pos h2]
theorem zE_ob {G : zG} {h : zH} {a ci n : Nat} (hk : zK h a = (200 + ci, n)) : zE G h a = .inr (ci, (List.range n).map (zfv G h ci a)) := by
  unfold zE
  rw [hk]
  dsimp only
  rw [if_neg (by omega), if_neg (by omega), show 200 + ci - 200 = ci by omega]
theorem zRel.ro {G : zG} {h : zH} {H : Heap} (hR : zRel G h H) {a n : Nat} (h1 : 1000000 ≤ a) (h2 : a < 1000004) (hn : (zK h a).2 = n) : n = (gO G (a - 1000000)).1 ∧ ∀ j, zI h a j = (gO G (a - 1000000)).2 j := by
  have := hR.2.2.2 (a - 1000000) (by omega)
  rw [show 1000000 + (a - 1000000) = a by omega] at this
  rw [this.1] at hn
  exact ⟨hn.symm, this.2⟩
section ZH
variable {l : Launch} {G : zG} {M : zM} {d : Nat} {Q : Option Value → zH → Prop} {k n pc : Nat} {L S : List Value} {h : zH}
theorem z_iald {a N : Nat} {i : Int32} (hd : decode (mC M) pc = .ok (.iaload, 1)) (ha : zAr h a N) (h0 : 0 ≤ i.toInt) (h1 : i.toInt < N) (kk : Z l G M d Q k n (pc + 1) L (.int (zI h a (zix i)) :: S) h) : Z l G M d Q k n pc L (.int i :: va_rf (some a) :: S) h := by
  intro p e R s m args below meth c Qs H locs cells slots ls C hR hS hL hc hn
  have k2 := kk p e R s m args below meth c Qs H locs cells slots ls C hR hS hL hc hn
  obtain ⟨hN, ⟨hk, hl⟩ | ⟨h5, h6⟩⟩ := ha
  · have hat := hR.at hl
    rw [zE_arr (by omega)] at hat
    show W p l e R s m args below meth c H locs cells slots Qs (F0 m pc ls (.int i :: .ref (zf G a) :: S.map (zt G)))
    have hl9 := hR.2.1
    rw [zf_lt (by omega)]
    rw [hk, hN] at hat
    exact va_iald C.1 C.2.1 C.2.2.2.2.2.1.1.1 (va_one hat) 0 0 rfl (zat_in 0 rfl G) (zin_of h0 h1) hd k2
  · obtain ⟨e1, e2⟩ := hR.ro h5 h6 hN
    obtain ⟨cell, c1, c2, c3, c4, c5, c6, c7⟩ := ((C.2.2.2.2.2.1.2.1.1 (a - 1000000) (by omega)).kept hS.2.1)
    show W p l e R s m args below meth c H locs cells slots Qs (F0 m pc ls (.int i :: .ref (zf G a) :: S.map (zt G)))
    have ef : zf G a = gX G (a - 1000000) := if_neg (by omega)
    rw [ef]
    have hv := zin_of h0 h1
    have hlt : i.toNatClampNeg < N := Nat.not_le.mp fun q => hv (Or.inr q)
    refine W.iald C.1 C.2.1 c1 c2 c3 (fun q => hv (q.elim Or.inl (fun q => Or.inr (by omega)))) (c6 _ (by omega)) rfl rfl hd ?_
    have e3 := e2 (zix i)
    have k3 : W p l e R s m args below meth c H locs cells slots Qs (F0 m (pc + 1) ls (.int (zI h a (zix i)) :: S.map (zt G))) := k2
    rw [e3] at k3
    exact k3
theorem z_alen {a N : Nat} {v : Int32} (hd : decode (mC M) pc = .ok (.arraylength, 1)) (ha : zAr h a N) (hv : Int32.ofNat N = v) (kk : Z l G M d Q k n (pc + 1) L (.int v :: S) h) : Z l G M d Q k n pc L (va_rf (some a) :: S) h := by
  intro p e R s m args below meth c Qs H locs cells slots ls C hR hS hL hc hn
  have k2 := kk p e R s m args below meth c Qs H locs cells slots ls C hR hS hL hc hn
  obtain ⟨hN, ⟨hk, hl⟩ | ⟨h5, h6⟩⟩ := ha
  · have hat := hR.at hl
    rw [zE_arr (by omega)] at hat
    show W p l e R s m args below meth c H locs cells slots Qs (F0 m pc ls (.ref (zf G a) :: S.map (zt G)))
    have hl9 := hR.2.1
    rw [zf_lt (by omega)]
    rw [hk, hN] at hat
    exact va_alen C.1 C.2.1 C.2.2.2.2.2.1.1.1 (va_one hat) 0 0 rfl (zat_in 0 rfl G) hv hd k2
  · obtain ⟨e1, e2⟩ := hR.ro h5 h6 hN
    obtain ⟨cell, c1, c2, c3, c4, c5, c6, c7⟩ := ((C.2.2.2.2.2.1.2.1.1 (a - 1000000) (by omega)).kept hS.2.1)
    show W p l e R s m args below meth c H locs cells slots Qs (F0 m pc ls (.ref (zf G a) :: S.map (zt G)))
    have ef : zf G a = gX G (a - 1000000) := if_neg (by omega)
    rw [ef]
    exact W.alen C.1 C.2.1 c1 c2 (c5.trans (by rw [← e1]; exact hv)) rfl rfl hd k2
/-- the length of an array of another kind, by its place in zat -/
theorem z_alenk {a kd N : Nat} {ty : FieldType} {v : Int32} (t : Nat) (ht : zat[t]? = some (kd, ty)) (hkd : kd < 200) (hd : decode (mC M) pc = .ok (.arraylength, 1)) (hk : zK h a = (kd, N)) (hl : a < zN h) (hv : Int32.ofNat N = v) (kk : Z l G M d Q k n (pc + 1) L (.int v :: S) h) : Z l G M d Q k n pc L (va_rf (some a) :: S) h := by
  intro p e R s m args below meth c Qs H locs cells slots ls C hR hS hL hc hn
  have k2 := kk p e R s m args below meth c Qs H locs cells slots ls C hR hS hL hc hn
  have hat := hR.at hl
  show W p l e R s m args below meth c H locs cells slots Qs (F0 m pc ls (.ref (zf G a) :: S.map (zt G)))
  have hl9 := hR.2.1
  rw [zf_lt (by omega)]
  by_cases h5 : kd < 50
  · rw [zE_arr (by rw [hk]; exact h5), hk] at hat
    exact va_alen C.1 C.2.1 C.2.2.2.2.2.1.1.1 (va_one hat) 0 t rfl (zat_in t ht G) hv hd k2
  · rw [zE_ref (by rw [hk]; exact h5) (by rw [hk]; exact hkd), hk] at hat
    exact va_alen C.1 C.2.1 C.2.2.2.2.2.1.1.1 (va_one hat) 0 t rfl (zat_in t ht G) hv hd k2
theorem z_bald {a N : Nat} {i : Int32} (hd : decode (mC M) pc = .ok (.baload, 1)) (hk : zK h a = (2, N)) (hl : a < zN h) (h0 : 0 ≤ i.toInt) (h1 : i.toInt < N) (kk : Z l G M d Q k n (pc + 1) L (.int (zI h a (zix i)) :: S) h) : Z l G M d Q k n pc L (.int i :: va_rf (some a) :: S) h := by
  intro p e R s m args below meth c Qs H locs cells slots ls C hR hS hL hc hn
  have k2 := kk p e R s m args below meth c Qs H locs cells slots ls C hR hS hL hc hn
  have hat := hR.at hl
  rw [zE_arr (by rw [hk]; omega), hk] at hat
  show W p l e R s m args below meth c H locs cells slots Qs (F0 m pc ls (.int i :: .ref (zf G a) :: S.map (zt G)))
  have hl9 := hR.2.1
  rw [zf_lt (by omega)]
  exact va_zald C.1 C.2.1 C.2.2.2.2.2.1.1.1 (va_one hat) 0 1 rfl (zat_in 1 rfl G) (zin_of h0 h1) hd k2
theorem z_aald {a kd N : Nat} {Cn : String} {i : Int32} (t : Nat) (ht : zat[t]? = some (kd, .object Cn)) (hkd : 50 ≤ kd ∧ kd < 200) (hd : decode (mC M) pc = .ok (.aaload, 1)) (hk : zK h a = (kd, N)) (hl : a < zN h) (h0 : 0 ≤ i.toInt) (h1 : i.toInt < N) (kk : Z l G M d Q k n (pc + 1) L (va_rf (zR h a (zix i)) :: S) h) : Z l G M d Q k n pc L (.int i :: va_rf (some a) :: S) h := by
  intro p e R s m args below meth c Qs H locs cells slots ls C hR hS hL hc hn
  have k2 := kk p e R s m args below meth c Qs H locs cells slots ls C hR hS hL hc hn
  have hat := hR.at hl
  rw [zE_ref (by rw [hk]; dsimp only; omega) (by rw [hk]; exact hkd.2), hk] at hat
  show W p l e R s m args below meth c H locs cells slots Qs (F0 m pc ls (.int i :: .ref (zf G a) :: S.map (zt G)))
  have hl9 := hR.2.1
  rw [zf_lt (by omega)]
  refine va_aldq C.1 C.2.1 C.2.2.2.2.2.1.1.1 (va_one hat) 0 t rfl (zat_in t ht G) (zin_of h0 h1) hd ?_
  have k3 : W p l e R s m args below meth c H locs cells slots Qs (F0 m (pc + 1) ls (zt G (va_rf (zR h a (zix i))) :: S.map (zt G))) := k2
  rw [zix_eq]
  cases hz : zR h a (zix i) with
  | none => rw [hz] at k3; exact k3
  | some q => rw [hz] at k3; exact k3
theorem zfv_t {G : zG} {h : zH} {ci a j : Nat} (hr : zrf ci j = true) : zfv G h ci a j = zt G (va_rf (zR h a j)) := by
  unfold zfv
  rw [if_pos hr]
  cases zR h a j <;> rfl
theorem zfv_i {G : zG} {h : zH} {ci a j : Nat} (hr : zrf ci j = false) : zfv G h ci a j = .int (zI h a j) := by
  unfold zfv
  rw [if_neg (by rw [hr]; decide)]
end ZH
/-! ===== the rows of Z: stores ===== -/
theorem zRel_put {G : zG} {h h' : zH} {a : Nat} {H H1 : Heap} (hR : zRel G h H) (ha : a < zN h) (e : va_at (gD G) zcl (gB G + a, zE G h' a) H1) (z : H1.size = H.size) (oq : ∀ q : Nat, q ≠ gB G + a → H1[q]? = H[q]?)
    (hK : ∀ b, zK h' b = zK h b) (hN : zN h' = zN h) (hI : ∀ b, b ≠ a → ∀ j, zI h' b j = zI h b j) (hr : ∀ b, b ≠ a → ∀ j, zR h' b j = zR h b j) : zRel G h' H1 := by
  have h9 := hR.2.1
  refine ⟨by rw [z, hN]; exact hR.1, by rw [hN]; exact hR.2.1, fun b hb => ?_, fun i hi => ⟨by rw [hK]; exact (hR.2.2.2 i hi).1, fun j => by rw [hI _ (by omega)]; exact (hR.2.2.2 i hi).2 j⟩⟩
  rw [hN] at hb
  by_cases q : b = a
  · subst q; exact e
  · have e1 : zE G h' b = zE G h b := by
      have f1 : zI h' b = zI h b := funext (hI b q)
      have f2 : zR h' b = zR h b := funext (hr b q)
      unfold zE zfv
      rw [hK, f1, f2]
    rw [e1]
    exact (hR.2.2.1 b hb).kept (oq _ (by show gB G + b ≠ gB G + a; omega))
theorem zI_w {h : zH} {a j b k : Nat} {x : Int32} : zI (zwI h a j x) b k = if b = a ∧ k = j then x else zI h b k := rfl
theorem zI_ws {h : zH} {a j : Nat} {x : Int32} : zI (zwI h a j x) a j = x := if_pos ⟨rfl, rfl⟩
theorem zR_ws {h : zH} {a j : Nat} {x : Option Nat} : zR (zwR h a j x) a j = x := if_pos ⟨rfl, rfl⟩
theorem zR_w {h : zH} {a j b k : Nat} {x : Option Nat} : zR (zwR h a j x) b k = if b = a ∧ k = j then x else zR h b k := rfl
theorem zI_wa {h : zH} {a j : Nat} {x : Int32} : zI (zwI h a j x) a = upd (zI h a) j x := by
  funext q
  show (if a = a ∧ q = j then x else _) = if q = j then x else _
  by_cases e : q = j
  · rw [if_pos ⟨rfl, e⟩, if_pos e]
  · rw [if_neg (fun z => e z.2), if_neg e]; rfl
theorem zI_wo {h : zH} {a j b : Nat} {x : Int32} (hb : b ≠ a) (k : Nat) : zI (zwI h a j x) b k = zI h b k := if_neg (fun z => hb z.1)
theorem zR_wo {h : zH} {a j b : Nat} {x : Option Nat} (hb : b ≠ a) (k : Nat) : zR (zwR h a j x) b k = zR h b k := if_neg (fun z => hb z.1)
/-- a class by its number: name, fields, how many; all of its rows -/
def zCl (ci : Nat) (C : String) (T : u_T) (N : Nat) : Prop := zcl[ci]? = some (C, T, N) ∧ (∀ w ∈ u_ws C T N, w ∈ zTs) ∧ (∀ k, k < N → parseFieldDescriptor (T k).2.2.1 = some (zty ci k)) ∧ (∀ a, a < N → ∀ b, b < N → a ≠ b → (T a).2.1 ≠ (T b).2.1) ∧ ∀ k, k < N → defaultValue (zty ci k) = if zrf ci k = true then .null else .int 0
theorem zin_l {ws : List Cond} (ps : List Nat) (hp : ws = ps.filterMap (fun i => lw_tbl[i]?)) (h : ws.all goodWord = true) : ∀ w ∈ ws, w ∈ zTs := fun w hw => List.mem_filter.mpr ⟨(goodIn_r ws ps hp h w hw).1, List.all_eq_true.mp h w hw⟩
/-- what a field takes -/
def zok (t : FieldType) (v : Value) : Prop := match v with
  | .int x => t = .int ∨ t = .boolean ∧ (x = 0 ∨ x = 1)
  | .null => t.isReference = true
  | .ref _ => t.isReference = true
  | _ => False
theorem zok_n {t : FieldType} {v : Value} (h : zok t v) : narrow t v = v ∧ fits t v = true := by
  cases v with
  | int x =>
    rcases h with h | ⟨h, h2⟩
    · subst h; exact ⟨vp_nar_int x, rfl⟩
    · subst h; rcases h2 with h2 | h2 <;> subst h2 <;> decide
  | null => cases t <;> first | (exact ⟨rfl, rfl⟩) | (refine absurd (show FieldType.isReference _ = true from h) ?_; decide)
  | ref a => cases t <;> first | (exact ⟨rfl, rfl⟩) | (refine absurd (show FieldType.isReference _ = true from h) ?_; decide)
  | long x => exact absurd h id
  | float x => exact absurd h id
  | double x => exact absurd h id
  | retAddr x => exact absurd h id
theorem zok_t {G : zG} {t : FieldType} {v : Value} (h : zok t v) : zok t (zt G v) := by cases v <;> exact h
section ZP
variable {l : Launch} {G : zG} {M : zM} {d : Nat} {Q : Option Value → zH → Prop} {k n pc : Nat} {L S : List Value} {h : zH}
theorem z_iast {a N : Nat} {i x : Int32} (hd : decode (mC M) pc = .ok (.iastore, 1)) (ha : zAw h a N) (h0 : 0 ≤ i.toInt) (h1 : i.toInt < N) (kk : Z l G M d Q k n (pc + 1) L S (zwI h a (zix i) x)) : Z l G M d Q k n pc L (.int x :: .int i :: va_rf (some a) :: S) h := by
  intro p e R s m args below meth c Qs H locs cells slots ls C hR hS hL hc hn
  have hat := hR.at ha.2
  rw [zE_arr (by rw [ha.1]; show (1 : Nat) < 50; decide), ha.1] at hat
  have hl9 := hR.2.1
  have hl8 := ha.2
  show W p l e R s m args below meth c H locs cells slots Qs (F0 m pc ls (.int x :: .int i :: .ref (zf G a) :: S.map (zt G)))
  rw [zf_lt (by omega)]
  refine W.iast C.1 C.2.1 (show H[gB G + a]? = some (vp_cell _ _) from hat) ((C.2.2.2.2.2.1.1.1.2 0 _ (zat_in 0 rfl G)).1 N (fun j => .int (zI h a j))) (fun q => by cases q) (by show ¬ (i < 0 ∨ (arrV _ _ _).slots.size ≤ _); rw [arrV_size]; exact zin_of h0 h1) rfl rfl hd fun H1 e1 z oq => ?_
  refine kk p e R s m args below meth c Qs H1 _ cells slots ls C (zRel_put hR ha.2 ?_ z oq (fun _ => rfl) rfl (fun b hb => zI_wo hb) (fun _ _ _ => rfl)) (hS.put z oq (Nat.le_add_right _ _)) hL hc hn
  rw [zE_arr (by show (zK h a).1 < 50; rw [ha.1]; show (1 : Nat) < 50; decide), show zK (zwI h a (zix i) x) a = zK h a from rfl, ha.1, zI_wa]
  show H1[gB G + a]? = some (vp_cell _ _)
  rw [e1, vp_cell_i, vp_cell_i, arrV_store]
  congr 2
  funext q
  by_cases hq : q = i.toNatClampNeg
  · subst hq
    simp [updV, upd, zix_eq]
  · rw [zix_eq] at hq
    simp [updV, upd, hq, zix_eq]
theorem z_bast {a N : Nat} {i x : Int32} (hd : decode (mC M) pc = .ok (.bastore, 1)) (hk : zK h a = (2, N)) (hl : a < zN h) (h0 : 0 ≤ i.toInt) (h1 : i.toInt < N) (hx : x = 0 ∨ x = 1) (kk : Z l G M d Q k n (pc + 1) L S (zwI h a (zix i) x)) : Z l G M d Q k n pc L (.int x :: .int i :: va_rf (some a) :: S) h := by
  intro p e R s m args below meth c Qs H locs cells slots ls C hR hS hL hc hn
  have hat := hR.at hl
  rw [zE_arr (by rw [hk]; show (2 : Nat) < 50; decide), hk] at hat
  have hl9 := hR.2.1
  show W p l e R s m args below meth c H locs cells slots Qs (F0 m pc ls (.int x :: .int i :: .ref (zf G a) :: S.map (zt G)))
  rw [zf_lt (by omega)]
  refine W.zast C.1 C.2.1 (show H[gB G + a]? = some (vp_cell _ _) from hat) ((C.2.2.2.2.2.1.1.1.2 1 _ (zat_in 1 rfl G)).1 N (fun j => .int (zI h a j))) (fun q => by cases q) (by show ¬ (i < 0 ∨ (arrV _ _ _).slots.size ≤ _); rw [arrV_size]; exact zin_of h0 h1) rfl rfl hd fun H1 e1 z oq => ?_
  refine kk p e R s m args below meth c Qs H1 _ cells slots ls C (zRel_put hR hl ?_ z oq (fun _ => rfl) rfl (fun b hb => zI_wo hb) (fun _ _ _ => rfl)) (hS.put z oq (Nat.le_add_right _ _)) hL hc hn
  rw [zE_arr (by show (zK h a).1 < 50; rw [hk]; show (2 : Nat) < 50; decide), show zK (zwI h a (zix i) x) a = zK h a from rfl, hk, zI_wa]
  show H1[gB G + a]? = some (vp_cell _ _)
  have hnx : narrow .boolean (.int x) = .int x := by rcases hx with e | e <;> subst e <;> decide
  rw [e1, vp_cell_i, vp_cell_i, hnx, arrV_store]
  congr 2
  funext q
  by_cases hq : q = i.toNatClampNeg
  · subst hq
    simp [updV, upd, zix_eq]
  · rw [zix_eq] at hq
    simp [updV, upd, hq, zix_eq]
/-- an object of class ci put at place i of an array of such -/
theorem z_aast {a b ci kd N N2 : Nat} {r : vw_C} {i : Int32} (t : Nat) (ht : zat[t]? = some (kd, .object r.1)) (hkd : 50 ≤ kd ∧ kd < 200) (hr : zcl[ci]? = some r) (hd : decode (mC M) pc = .ok (.aastore, 1)) (hk : zK h a = (kd, N)) (hl : a < zN h) (hb : zK h b = (200 + ci, N2)) (hbl : b < zN h) (h0 : 0 ≤ i.toInt) (h1 : i.toInt < N)
    (kk : Z l G M d Q k n (pc + 1) L S (zwR h a (zix i) (some b))) : Z l G M d Q k n pc L (va_rf (some b) :: .int i :: va_rf (some a) :: S) h := by
  intro p e R s m args below meth c Qs H locs cells slots ls C hR hS hL hc hn
  have hat := hR.at hl
  have hbt := hR.at hbl
  rw [zE_ob hb] at hbt
  rw [zE_ref (by rw [hk]; dsimp only; omega) (by rw [hk]; exact hkd.2), hk] at hat
  have hl9 := hR.2.1
  show W p l e R s m args below meth c H locs cells slots Qs (F0 m pc ls (.ref (zf G b) :: .int i :: .ref (zf G a) :: S.map (zt G)))
  rw [zf_lt (by omega), zf_lt (by omega)]
  have hK := C.2.2.2.2.2.1.1.1
  obtain ⟨r', hr', cellV, g1, g2, g3, -⟩ := hbt
  have hcls := (hK.1 ci r hr).2
  obtain ⟨kA, comp, k1, k2, k3, -⟩ := (hK.2 t _ (zat_in t ht G)).2
  have hcomp : comp = (gD G).1 ci := Option.some.inj (k3.symm.trans hcls.1)
  subst hcomp
  obtain ⟨kC, hkC, -⟩ := hcls.2
  refine W.aast C.1 C.2.1 (show H[gB G + a]? = some (vp_cell _ _) from hat) (fun q h => by cases h) (fun h => by cases h) k1 k2 rfl hkC ⟨fun q => (zin_of h0 h1) (Or.inl q), by show _ < (arrV _ _ _).slots.size; rw [arrV_size]; exact Nat.not_le.mp fun q => (zin_of h0 h1) (Or.inr q)⟩ g1 (fun q h => by rw [g3] at h; cases h) (by rw [g2]; exact hkC) (by rw [g2]; exact va_assign hcls) rfl rfl hd fun H1 e1 z oq => ?_
  refine kk p e R s m args below meth c Qs H1 _ cells slots ls C (zRel_put hR hl ?_ z oq (fun _ => rfl) rfl (fun _ _ _ => rfl) (fun b hb => zR_wo hb)) (hS.put z oq (Nat.le_add_right _ _)) hL hc hn
  rw [zE_ref (by show ¬ (zK h a).1 < 50; rw [hk]; dsimp only; omega) (by show (zK h a).1 < 200; rw [hk]; exact hkd.2), show zK (zwR h a (zix i) (some b)) a = zK h a from rfl, hk]
  show H1[gB G + a]? = some (vp_cell _ _)
  rw [e1, vp_cell_q, vp_cell_q, arrV_store]
  congr 2
  funext q
  by_cases hq : q = i.toNatClampNeg
  · subst hq
    rw [zix_eq]
    simp only [updV, if_pos, zR_ws, Option.map_some, va_rf, zf_lt (show b < 1000000 by omega)]
  · rw [zix_eq] at hq
    simp only [updV, zix_eq, if_neg hq]
    rw [show zR (zwR h a (zix i) (some b)) a q = zR h a q from if_neg (fun z => hq z.2)]
    exact if_neg hq
theorem z_getI {a ci C N ix j : _} {T : u_T} (hC : zCl ci C T N) (hd : decode (mC M) pc = .ok (.getfield ix, 3)) (hk : zK h a = (200 + ci, N)) (hl : a < zN h) (hj : j < N) (hr : zrf ci j = false) (hw : Cond.fieldLink (mO M) ix (T j).1 (T j).2.1 (T j).2.2.1 ∈ zTs) (kk : Z l G M d Q k n (pc + 3) L (.int (zI h a j) :: S) h) : Z l G M d Q k n pc L (va_rf (some a) :: S) h := by
  intro p e R s m args below meth c Qs H locs cells slots ls X hR hS hL hc hn
  have hat := hR.at hl
  rw [zE_ob hk] at hat
  have hl9 := hR.2.1
  show W p l e R s m args below meth c H locs cells slots Qs (F0 m pc ls (.ref (zf G a) :: S.map (zt G)))
  rw [zf_lt (by omega)]
  exact va_get X.1 X.2.1 X.2.2.2.2.1 hC.2.1 X.2.2.2.1 X.2.2.2.2.2.1.1.1 (va_one hat) 0 rfl hC.1 j hj (X.2.2.2.2.1 _ hw) (fun _ q => q) ((zfs_at hj).trans (by rw [zfv_i hr]; rfl)) hd (kk p e R s m args below meth c Qs H locs cells slots ls X hR hS hL hc hn)
theorem z_getR {a ci C N ix j : _} {T : u_T} (hC : zCl ci C T N) (hd : decode (mC M) pc = .ok (.getfield ix, 3)) (hk : zK h a = (200 + ci, N)) (hl : a < zN h) (hj : j < N) (hr : zrf ci j = true) (hw : Cond.fieldLink (mO M) ix (T j).1 (T j).2.1 (T j).2.2.1 ∈ zTs) (kk : Z l G M d Q k n (pc + 3) L (va_rf (zR h a j) :: S) h) : Z l G M d Q k n pc L (va_rf (some a) :: S) h := by
  intro p e R s m args below meth c Qs H locs cells slots ls X hR hS hL hc hn
  have hat := hR.at hl
  rw [zE_ob hk] at hat
  have hl9 := hR.2.1
  show W p l e R s m args below meth c H locs cells slots Qs (F0 m pc ls (.ref (zf G a) :: S.map (zt G)))
  rw [zf_lt (by omega)]
  exact va_get X.1 X.2.1 X.2.2.2.2.1 hC.2.1 X.2.2.2.1 X.2.2.2.2.2.1.1.1 (va_one hat) 0 rfl hC.1 j hj (X.2.2.2.2.1 _ hw) (fun _ q => q) ((zfs_at hj).trans (by rw [zfv_t hr])) hd (kk p e R s m args below meth c Qs H locs cells slots ls X hR hS hL hc hn)
theorem z_nw {l : Launch} {G : zG} {M : zM} {d : Nat} {Q : Option Value → zH → Prop} {p : Program} {e : Env} {R : Room} {s : State} {m : MethodId} {args : Array Value} {below : List Frame} {meth : Method} {c : Code} {Qs : State → Prop} (X : zCX l G M d Q p e R s m args below meth c Qs) {w : Cond} (hw : w ∈ lw_tbl) (hn : zisN w = true) : va_Nw w s := X.2.2.2.2.2.1.1.2.1 w hw hn
theorem z_getIN {a ci C N ix j : _} {host : String} {T : u_T} (hC : zCl ci C T N) (hd : decode (mC M) pc = .ok (.getfield ix, 3)) (hk : zK h a = (200 + ci, N)) (hl : a < zN h) (hj : j < N) (hr : zrf ci j = false) (hw : Cond.fieldLinkNest (mO M) ix (T j).1 (T j).2.1 (T j).2.2.1 host ∈ lw_tbl) (kk : Z l G M d Q k n (pc + 3) L (.int (zI h a j) :: S) h) : Z l G M d Q k n pc L (va_rf (some a) :: S) h := by
  intro p e R s m args below meth c Qs H locs cells slots ls X hR hS hL hc hn
  have hat := hR.at hl
  rw [zE_ob hk] at hat
  have hl9 := hR.2.1
  show W p l e R s m args below meth c H locs cells slots Qs (F0 m pc ls (.ref (zf G a) :: S.map (zt G)))
  rw [zf_lt (by omega)]
  exact va_getN X.1 X.2.1 X.2.2.2.2.1 hC.2.1 X.2.2.2.1 X.2.2.2.2.2.1.1.1 (va_one hat) 0 rfl hC.1 j hj ((z_nw X hw rfl).use rfl) (fun _ q => q) ((zfs_at hj).trans (by rw [zfv_i hr]; rfl)) hd (kk p e R s m args below meth c Qs H locs cells slots ls X hR hS hL hc hn)
theorem z_getRN {a ci C N ix j : _} {host : String} {T : u_T} (hC : zCl ci C T N) (hd : decode (mC M) pc = .ok (.getfield ix, 3)) (hk : zK h a = (200 + ci, N)) (hl : a < zN h) (hj : j < N) (hr : zrf ci j = true) (hw : Cond.fieldLinkNest (mO M) ix (T j).1 (T j).2.1 (T j).2.2.1 host ∈ lw_tbl) (kk : Z l G M d Q k n (pc + 3) L (va_rf (zR h a j) :: S) h) : Z l G M d Q k n pc L (va_rf (some a) :: S) h := by
  intro p e R s m args below meth c Qs H locs cells slots ls X hR hS hL hc hn
  have hat := hR.at hl
  rw [zE_ob hk] at hat
  have hl9 := hR.2.1
  show W p l e R s m args below meth c H locs cells slots Qs (F0 m pc ls (.ref (zf G a) :: S.map (zt G)))
  rw [zf_lt (by omega)]
  exact va_getN X.1 X.2.1 X.2.2.2.2.1 hC.2.1 X.2.2.2.1 X.2.2.2.2.2.1.1.1 (va_one hat) 0 rfl hC.1 j hj ((z_nw X hw rfl).use rfl) (fun _ q => q) ((zfs_at hj).trans (by rw [zfv_t hr])) hd (kk p e R s m args below meth c Qs H locs cells slots ls X hR hS hL hc hn)
/-- the fields behind a put -/
theorem z_putcell {h h' : zH} {a ci C N j : _} {T : u_T} {rv : Value} {H1 : Heap} {args : Array Value} {s : State} {m : MethodId} {own : String} (hC : zCl ci C T N) (hown : s.vm.findClass own = some m.cls) (hts : ∀ w ∈ zTs, w.before args s = true) (hK : va_K (gD G) zcl (zat.map fun q => (gy G q.1, q.2)) s) (hk : zK h a = (200 + ci, N)) (hk' : zK h' a = (200 + ci, N)) (hj : j < N) {cell : Cell} (q2 : cell.cls = (gD G).1 ci) (q3 : cell.vm = .none) (q4 : ∀ k, k < N → cell.slots[(gD G).2 ci k]? = some (vp_V ((List.range N).map (zfv G h ci a)) k))
    (e1 : H1[gB G + a]? = some (cell.setSlot ((gD G).2 ci j) rv)) (hv : ∀ i, i < N → zfv G h' ci a i = if i = j then rv else zfv G h ci a i) : va_at (gD G) zcl (gB G + a, zE G h' a) H1 := by
  rw [zE_ob hk']
  have hap := va_apart (own := own) hts hC.2.1 (zty ci) hC.2.2.1 hC.2.2.2.1 hK hC.1
  refine ⟨_, hC.1, t_OB.to (V := updV (vp_V ((List.range N).map (zfv G h ci a))) j rv) ⟨_, e1, q2, q3, t_set q4 hap hj rv⟩ (fun i hi => ?_)⟩
  rw [zV_get hi, hv i hi]
  unfold updV
  by_cases e : i = j
  · rw [if_pos e, if_pos e]
  · rw [if_neg e, if_neg e, zV_get hi]
theorem z_putG {h' : zH} {a ci C N ix j : _} {T : u_T} {v : Value} (hC : zCl ci C T N) (hd : decode (mC M) pc = .ok (.putfield ix, 3)) (hk : zK h a = (200 + ci, N)) (hl : a < zN h) (hj : j < N) (hfin : (T j).2.2.2 = false) (hok : zok (zty ci j) v) (hw : Cond.fieldLink (mO M) ix (T j).1 (T j).2.1 (T j).2.2.1 ∈ zTs ∨ ∃ host, Cond.fieldLinkNest (mO M) ix (T j).1 (T j).2.1 (T j).2.2.1 host ∈ lw_tbl)
    (hv : ∀ G : zG, ∀ i, i < N → zfv G h' ci a i = if i = j then zt G v else zfv G h ci a i) (hK' : ∀ b, zK h' b = zK h b) (hN' : zN h' = zN h) (hI' : ∀ b, b ≠ a → ∀ j, zI h' b j = zI h b j) (hr' : ∀ b, b ≠ a → ∀ j, zR h' b j = zR h b j)
    (kk : Z l G M d Q k n (pc + 3) L S h') : Z l G M d Q k n pc L (v :: va_rf (some a) :: S) h := by
  intro p e R s m args below meth c Qs H locs cells slots ls X hR hS hL hc hn
  have hat := hR.at hl
  rw [zE_ob hk] at hat
  have hl9 := hR.2.1
  show W p l e R s m args below meth c H locs cells slots Qs (F0 m pc ls (zt G v :: .ref (zf G a) :: S.map (zt G)))
  rw [zf_lt (by omega)]
  have hKK := X.2.2.2.2.2.1.1.1
  obtain ⟨r, r1, cell, q1, q2, q3, q4⟩ := hat
  have hr : r = (C, T, N) := Option.some.inj (r1.symm.trans hC.1)
  subst hr
  obtain ⟨hSl, hfc, kC, hkC, hkind⟩ := hKK.1 ci _ hC.1
  obtain ⟨cf, kf, fi, f, hi, hsl⟩ := hSl j hj
  have hlay := X.2.2.2.2.1 _ (hC.2.1 _ (u_in_lay hj))
  unfold u_lay at hlay
  rw [if_neg (by rw [hfin]; decide)] at hlay
  have hst := (u_facts hfc hkC (u_lays X.2.2.2.2.1 hC.2.1 hj) hi).1
  have h6 := u_store hfc hkC hkind hlay hi (hC.2.2.1 j hj) (zok_n (zok_t (G := G) hok)).1 (zok_n (zok_t (G := G) hok)).2
  have go : ∀ H1 : Heap, H1[gB G + a]? = some (cell.setSlot f.slot (zt G v)) → H1.size = H.size → (∀ q, q ≠ gB G + a → H1[q]? = H[q]?) → W p l e R s m args below meth c H1 (locs ++ [⟨gB G + a, f.slot⟩]) cells slots Qs (F0 m (pc + 3) ls (S.map (zt G))) := fun H1 e1 z oq => by
    rw [hsl] at e1
    exact kk p e R s m args below meth c Qs H1 _ cells slots ls X (zRel_put hR hl (z_putcell hC X.2.2.2.1 X.2.2.2.2.1 hKK hk (by rw [hK']; exact hk) hj q2 q3 q4 e1 (hv G)) z oq hK' hN' hI' hr') (hS.put z oq (Nat.le_add_right _ _)) hL hc hn
  rcases hw with hw | ⟨host, hw⟩
  · exact W.putK X.1 X.2.1 (f := f) ⟨X.2.2.2.1, X.2.2.2.2.1 _ hw, ⟨_, _, _, hi⟩, hst⟩ (by rw [q2]; exact h6) q1 q3 (by rw [hsl]; exact k2_hasslot (q4 j hj)) rfl rfl hd go
  · exact va_WputK X.1 X.2.1 (f := f) X.2.2.2.1 ((z_nw X hw rfl).use rfl) hi hst (by rw [q2]; exact h6) q1 q3 (by rw [hsl]; exact k2_hasslot (q4 j hj)) rfl rfl hd go
theorem zfv_wI {h : zH} {a ci j : Nat} {x : Int32} (hr : zrf ci j = false) (G : zG) (i : Nat) : zfv G (zwI h a j x) ci a i = if i = j then zt G (.int x) else zfv G h ci a i := by
  by_cases e : i = j
  · subst e
    rw [if_pos rfl, zfv_i hr, zI_ws]; rfl
  · rw [if_neg e]
    unfold zfv
    rw [show zI (zwI h a j x) a i = zI h a i from if_neg (fun z => e z.2), show zR (zwI h a j x) a i = zR h a i from rfl]
theorem zfv_wR {h : zH} {a ci j : Nat} {x : Option Nat} (hr : zrf ci j = true) (G : zG) (i : Nat) : zfv G (zwR h a j x) ci a i = if i = j then zt G (va_rf x) else zfv G h ci a i := by
  by_cases e : i = j
  · subst e
    rw [if_pos rfl, zfv_t hr, zR_ws]
  · rw [if_neg e]
    unfold zfv
    rw [show zR (zwR h a j x) a i = zR h a i from if_neg (fun z => e z.2), show zI (zwR h a j x) a i = zI h a i from rfl]
theorem z_putI {a ci C N ix j : _} {T : u_T} {x : Int32} (hC : zCl ci C T N) (hd : decode (mC M) pc = .ok (.putfield ix, 3)) (hk : zK h a = (200 + ci, N)) (hl : a < zN h) (hj : j < N) (hfin : (T j).2.2.2 = false) (hr : zrf ci j = false) (hok : zok (zty ci j) (.int x)) (hw : Cond.fieldLink (mO M) ix (T j).1 (T j).2.1 (T j).2.2.1 ∈ zTs ∨ ∃ host, Cond.fieldLinkNest (mO M) ix (T j).1 (T j).2.1 (T j).2.2.1 host ∈ lw_tbl)
    (kk : Z l G M d Q k n (pc + 3) L S (zwI h a j x)) : Z l G M d Q k n pc L (.int x :: va_rf (some a) :: S) h :=
  z_putG hC hd hk hl hj hfin hok hw (fun G i _ => zfv_wI hr G i) (fun _ => rfl) rfl (fun _ hb => zI_wo hb) (fun _ _ _ => rfl) kk
theorem z_putR {a ci C N ix j : _} {T : u_T} {x : Option Nat} (hC : zCl ci C T N) (hd : decode (mC M) pc = .ok (.putfield ix, 3)) (hk : zK h a = (200 + ci, N)) (hl : a < zN h) (hj : j < N) (hfin : (T j).2.2.2 = false) (hr : zrf ci j = true) (hw : Cond.fieldLink (mO M) ix (T j).1 (T j).2.1 (T j).2.2.1 ∈ zTs ∨ ∃ host, Cond.fieldLinkNest (mO M) ix (T j).1 (T j).2.1 (T j).2.2.1 host ∈ lw_tbl)
    (kk : Z l G M d Q k n (pc + 3) L S (zwR h a j x)) : Z l G M d Q k n pc L (va_rf x :: va_rf (some a) :: S) h :=
  z_putG hC hd hk hl hj hfin (by cases x <;> exact hr) hw (fun G i _ => zfv_wR hr G i) (fun _ => rfl) rfl (fun _ _ _ => rfl) (fun _ hb => zR_wo hb) kk
/-- a final field, in its class's constructor -/
theorem z_putF {a ci C N ix j : _} {T : u_T} {x : Option Nat} (hC : zCl ci C T N) (hd : decode (mC M) pc = .ok (.putfield ix, 3)) (hk : zK h a = (200 + ci, N)) (hl : a < zN h) (hj : j < N) (hfin : (T j).2.2.2 = true) (hMI : mI M = true) (hdecl : (T j).1 = mO M) (hr : zrf ci j = true) (hw : Cond.fieldLink (mO M) ix (T j).1 (T j).2.1 (T j).2.2.1 ∈ zTs)
    (kk : Z l G M d Q k n (pc + 3) L S (zwR h a j x)) : Z l G M d Q k n pc L (va_rf x :: va_rf (some a) :: S) h := by
  intro p e R s m args below meth c Qs H locs cells slots ls X hR hS hL hc hn
  have hat := hR.at hl
  rw [zE_ob hk] at hat
  have hl9 := hR.2.1
  have hok : zok (zty ci j) (va_rf x) := by cases x <;> exact hr
  show W p l e R s m args below meth c H locs cells slots Qs (F0 m pc ls (zt G (va_rf x) :: .ref (zf G a) :: S.map (zt G)))
  rw [zf_lt (by omega)]
  have hKK := X.2.2.2.2.2.1.1.1
  obtain ⟨r, r1, cell, q1, q2, q3, q4⟩ := hat
  have hr : r = (C, T, N) := Option.some.inj (r1.symm.trans hC.1)
  subst hr
  obtain ⟨hSl, hfc, kC, hkC, hkind⟩ := hKK.1 ci _ hC.1
  obtain ⟨cf, kf, fi, f, hi, hsl⟩ := hSl j hj
  have hlay := X.2.2.2.2.1 _ (hC.2.1 _ (u_in_lay hj))
  unfold u_lay at hlay
  rw [if_pos hfin] at hlay
  have hst := (u_facts hfc hkC (u_lays X.2.2.2.2.1 hC.2.1 hj) hi).1
  have hcf : m.cls = cf := by
    obtain ⟨_, _, c', _, _, _, -, -, hf', -, -, -, hown2, -⟩ := Cond.laysFinal_spec hlay
    have e1 : c' = cf := by have := hi.symm.trans hf'; simp at this; exact this.1.symm
    rw [hdecl] at hown2
    rw [← e1]; exact Option.some.inj (X.2.2.2.1.symm.trans hown2)
  have h6 := u_fits hfc hkC hkind (Or.inr hlay) hi (hC.2.2.1 j hj) (zok_n (zok_t (G := G) hok)).1 (zok_n (zok_t (G := G) hok)).2
  refine W.putFinK X.1 X.2.1 X.2.2.2.1 (X.2.2.2.2.1 _ hw) hi hst hcf (X.2.2.2.2.2.2.1 hMI) (by rw [q2]; exact h6) q1 q3 (by rw [hsl]; exact k2_hasslot (q4 j hj)) rfl rfl hd fun H1 e1 z oq => ?_
  rw [hsl] at e1
  exact kk p e R s m args below meth c Qs H1 _ cells slots ls X (zRel_put hR hl (z_putcell hC X.2.2.2.1 X.2.2.2.2.1 hKK hk (show zK h a = _ from hk) hj q2 q3 q4 e1 (fun i _ => zfv_wR (by assumption) G i)) z oq (fun _ => rfl) rfl (fun _ _ _ => rfl) (fun _ hb => zR_wo hb)) (hS.put z oq (Nat.le_add_right _ _)) hL hc hn
end ZP
/-! ===== the rows of Z: new things ===== -/
theorem zRel_al {G : zG} {h : zH} {kd N : Nat} {H H1 : Heap} (hR : zRel G h H) (hlt : zN h < 1000000) (e : va_at (gD G) zcl (gB G + zN h, zE G (zal h kd N) (zN h)) H1) (z : H1.size = H.size + 1) (oq : ∀ q : Nat, q < H.size → H1[q]? = H[q]?) : zRel G (zal h kd N) H1 := by
  refine ⟨by rw [z, hR.1]; rfl, hlt, fun b hb => ?_, fun i hi => ?_⟩
  · by_cases q : b = zN h
    · subst q; exact e
    · have hb : b < zN h + 1 := hb
      have hb2 : b < zN h := by omega
      have e1 : zE G (zal h kd N) b = zE G h b := by
        have f1 : zI (zal h kd N) b = zI h b := funext fun j => if_neg q
        have f2 : zR (zal h kd N) b = zR h b := funext fun j => if_neg q
        have f3 : zK (zal h kd N) b = zK h b := if_neg q
        unfold zE zfv
        rw [f1, f2, f3]
      rw [e1]
      exact (hR.2.2.1 b hb2).kept (oq _ (by show gB G + b < H.size; rw [hR.1]; omega))
  · have hne : 1000000 + i ≠ zN h := by omega
    exact ⟨(show zK (zal h kd N) (1000000 + i) = zK h (1000000 + i) from if_neg hne).trans (hR.2.2.2 i hi).1, fun j => (show zI (zal h kd N) (1000000 + i) j = zI h (1000000 + i) j from if_neg hne).trans ((hR.2.2.2 i hi).2 j)⟩
theorem zK_al {h : zH} {kd N : Nat} : zK (zal h kd N) (zN h) = (kd, N) := if_pos rfl
theorem va_S_push {A : Nat → Prop} {H0 H H1 : Heap} {locs : List Loc} (hS : va_S A H0 H locs) (z1 : H1.size = H.size + 1) (o1 : ∀ q, q < H.size → H1[q]? = H[q]?) : va_S A H0 H1 locs :=
  ⟨Nat.le_trans hS.1 (by omega), fun x h1 h2 => (o1 x (Nat.lt_of_lt_of_le h1 hS.1)).trans (hS.2.1 x h1 h2), hS.2.2⟩
section ZN
variable {l : Launch} {G : zG} {M : zM} {d : Nat} {Q : Option Value → zH → Prop} {k n pc : Nat} {L S : List Value} {h : zH}
theorem z_new {ci C N ix : _} {T : u_T} (hC : zCl ci C T N) (hd : decode (mC M) pc = .ok (.new ix, 3)) (hw : Cond.classLink (mO M) ix C ∈ zTs) (hi : Cond.instantiable C N ∈ zTs) (hini : Cond.initialized C ∈ zTs) (hlt : zN h < 1000000)
    (kk : Z l G M d Q k n (pc + 3) L (va_rf (some (zN h)) :: S) (zal h (200 + ci) N)) : Z l G M d Q (k + 1) (n + N) pc L S h := by
  intro p e R s m args below meth c Qs H locs cells slots ls X hR hS hL hc hn
  have hts := X.2.2.2.2.1
  have hKn := X.2.2.2.2.2.1.1.1.1 ci _ hC.1
  refine W.newcK X.1 X.2.1 X.2.2.2.1 (hts _ hw) (hts _ hi) (hts _ hini) rfl hd (by omega) (by omega) hKn.2.1 rfl fun H1 kC hkC e1 z1 o1 => ?_
  have k2 := kk p e R s m args below meth c Qs H1 locs (cells + 1) (slots + N) ls X (zRel_al hR hlt ?_ z1 o1) (va_S_push hS z1 o1) hL (by omega) (by omega)
  · have k3 : W p l e R s m args below meth c H1 locs (cells + 1) (slots + N) Qs (F0 m (pc + 3) ls (.ref (zf G (zN h)) :: S.map (zt G))) := k2
    rw [zf_lt hlt, ← hR.1] at k3
    exact k3
  · rw [zE_ob zK_al]
    refine ⟨_, hC.1, ?_⟩
    rw [hR.1] at e1
    refine (u_born (zty ci) hts hC.2.1 hKn hkC e1 hC.2.2.1).to (fun j hj => ?_)
    rw [zV_get hj, hC.2.2.2.2 j hj]
    unfold zfv
    rw [show zR (zal h (200 + ci) N) (zN h) j = none from if_pos rfl, show zI (zal h (200 + ci) N) (zN h) j = 0 from if_pos rfl]
    rfl
theorem z_newa {kd : Nat} {at_ : ArrayType} {ty : FieldType} {x : Int32} {N : Nat} (t : Nat) (ht : zat[t]? = some (kd, ty)) (hkd : kd < 50) (hty : newarray.typeOf at_ = ty) (hfc : ∀ s cA, va_RA s cA ty → s.vm.findClass ("[" ++ ty.toString) = some cA) (hdv : defaultValue ty = .int 0) (hcb : componentBytes ty ≤ 4) (hd : decode (mC M) pc = .ok (.newarray at_, 2)) (hw : Cond.arrayClass ty ∈ zTs) (hx : x.toInt = (N : Int)) (hN : N ≤ 100000) (hlt : zN h < 1000000)
    (kk : Z l G M d Q k n (pc + 2) L (va_rf (some (zN h)) :: S) (zal h kd N)) : Z l G M d Q (k + 1) (n + N) pc L (.int x :: S) h := by
  intro p e R s m args below meth c Qs H locs cells slots ls X hR hS hL hc hn
  subst hty
  have hts := X.2.2.2.2.1
  have hcl : x.toNatClampNeg = N := by rw [zix_eq]; unfold zix; omega
  have hnn : ¬ x < 0 := fun q => by
    have : x.toInt < (0 : Int32).toInt := Int32.lt_iff_toInt_lt.mp q
    rw [show (0 : Int32).toInt = 0 from rfl] at this
    omega
  refine va_newaK X.1 X.2.1 (hts _ hw) rfl hd rfl hnn hcl (Nat.le_trans (Nat.mul_le_mul hN hcb) (Nat.le_of_ble_eq_true rfl)) (by omega) (by omega) rfl fun H1 cA e1 z1 o1 hAr hNm => ?_
  have hcA : cA = gy G kd := Option.some.inj (hNm.symm.trans (hfc _ _ (X.2.2.2.2.2.1.1.1.2 t _ (zat_in t ht G)).2))
  subst hcA
  have k2 := kk p e R s m args below meth c Qs H1 locs (cells + 1) (slots + N) ls X (zRel_al hR hlt ?_ z1 o1) (va_S_push hS z1 o1) hL (by omega) (by omega)
  · have k3 : W p l e R s m args below meth c H1 locs (cells + 1) (slots + N) Qs (F0 m (pc + 2) ls (.ref (zf G (zN h)) :: S.map (zt G))) := k2
    rw [zf_lt hlt, ← hR.1] at k3
    exact k3
  · rw [zE_arr (by rw [zK_al]; exact hkd), zK_al, show zI (zal h kd N) (zN h) = (fun _ => 0) from funext fun j => if_pos rfl]
    show H1[gB G + zN h]? = some (vp_cell _ _)
    rw [← hR.1, vp_cell_i]
    rw [hdv] at e1
    exact e1
theorem z_anew {kd : Nat} {C : String} {ix : Nat} {x : Int32} {N : Nat} (t : Nat) (ht : zat[t]? = some (kd, .object C)) (hkd : 50 ≤ kd ∧ kd < 200) (hd : decode (mC M) pc = .ok (.anewarray ix, 3)) (hw : Cond.classLink (mO M) ix C ∈ zTs) (hx : x.toInt = (N : Int)) (hN : N ≤ 100000) (hlt : zN h < 1000000)
    (kk : Z l G M d Q k n (pc + 3) L (va_rf (some (zN h)) :: S) (zal h kd N)) : Z l G M d Q (k + 1) (n + N) pc L (.int x :: S) h := by
  intro p e R s m args below meth c Qs H locs cells slots ls X hR hS hL hc hn
  have hts := X.2.2.2.2.1
  have hcl : x.toNatClampNeg = N := by rw [zix_eq]; unfold zix; omega
  have hnn : ¬ x < 0 := fun q => by
    have : x.toInt < (0 : Int32).toInt := Int32.lt_iff_toInt_lt.mp q
    rw [show (0 : Int32).toInt = 0 from rfl] at this
    omega
  have hover := X.2.2.2.2.2.1.1.2.2.1 _ (List.mem_of_getElem? ht) C rfl
  obtain ⟨kA0, comp0, r1, r2, r3, r4⟩ := (X.2.2.2.2.2.1.1.1.2 t _ (zat_in t ht G)).2
  refine W.anew X.1 X.2.1 X.2.2.2.1 (hts _ hw) (va_AO.use hover) rfl hd rfl hnn (by rw [hcl]; omega) (by omega) (by rw [hcl]; omega) fun cA kA comp f1 f2 f3 f4 => ?_
  rw [hcl]
  have hcA : cA = gy G kd := Option.some.inj (f1.symm.trans r4)
  subst hcA
  generalize hH1 : H.push ({ cls := gy G kd, slots := Array.replicate N .null, vm := .none } : Cell) = H1
  have z1 : H1.size = H.size + 1 := by rw [← hH1, Array.size_push]
  have e1 : H1[H.size]? = some (arrV (gy G kd) N (fun _ => .null)) := by rw [← hH1, Array.getElem?_push_size, ← arrV_new]
  have o1 : ∀ q : Nat, q < H.size → H1[q]? = H[q]? := fun q hq => by rw [← hH1, Array.getElem?_push, if_neg (Nat.ne_of_lt hq)]
  have k2 := kk p e R s m args below meth c Qs H1 locs (cells + 1) (slots + N) ls X (zRel_al hR hlt ?_ z1 o1) (va_S_push hS z1 o1) hL (by omega) (by omega)
  · have k3 : W p l e R s m args below meth c H1 locs (cells + 1) (slots + N) Qs (F0 m (pc + 3) ls (.ref (zf G (zN h)) :: S.map (zt G))) := k2
    rw [zf_lt hlt, ← hR.1] at k3
    exact k3
  · rw [zE_ref (by rw [zK_al]; dsimp only; omega) (by rw [zK_al]; exact hkd.2), zK_al, show (fun j => (zR (zal h kd N) (zN h) j).map (zf G)) = (fun _ => none) from funext fun j => by rw [show zR (zal h kd N) (zN h) j = none from if_pos rfl]; rfl]
    show H1[gB G + zN h]? = some (vp_cell _ _)
    rw [← hR.1, vp_cell_q]
    exact e1
/-- a static array of Scribe -/
theorem z_gets {ix i : Nat} {nm : String} (hZ : ∀ U H, zEx G U H → va_Z "ClayPrints$Scribe" nm "[I" (.ref (gX G i)) (zA G) U H) (hi : i < 1000) (hd : decode (mC M) pc = .ok (.getstatic ix, 3)) (hw : Cond.fieldLink (mO M) ix "ClayPrints$Scribe" nm "[I" ∈ zTs) (kk : Z l G M d Q k n (pc + 3) L (va_rf (some (1000000 + i)) :: S) h) : Z l G M d Q k n pc L S h := by
  intro p e R s m args below meth c Qs H locs cells slots ls X hR hS hL hc hn
  have k2 : W p l e R s m args below meth c H locs cells slots Qs (F0 m (pc + 3) ls (.ref (zf G (1000000 + i)) :: S.map (zt G))) := kk p e R s m args below meth c Qs H locs cells slots ls X hR hS hL hc hn
  rw [show zf G (1000000 + i) = gX G i from by unfold zf; rw [if_neg (by omega), show 1000000 + i - 1000000 = i by omega]] at k2
  exact va_gets X.1 X.2.1 (hZ s s.heap X.2.2.2.2.2.1.2.1) hS X.2.2.2.1 (X.2.2.2.2.1 _ hw) (fun _ q => q) hd k2
/-- a String constant of Scribe -/
theorem z_ldcs {ix i : Nat} {tx : String} (hM : mO M = "ClayPrints$Scribe") (hq : zst_w[i]? = some (ix, tx)) (hd : decode (mC M) pc = .ok (.ldc ix, 2)) (kk : Z l G M d Q k n (pc + 2) L (va_rf (some (1000010 + i)) :: S) h) : Z l G M d Q k n pc L S h := by
  intro p e R s m args below meth c Qs H locs cells slots ls X hR hS hL hc hn
  have k2 : W p l e R s m args below meth c H locs cells slots Qs (F0 m (pc + 2) ls (.ref (zf G (1000010 + i)) :: S.map (zt G))) := kk p e R s m args below meth c Qs H locs cells slots ls X hR hS hL hc hn
  rw [show zf G (1000010 + i) = gX G (10 + i) from by unfold zf; rw [if_neg (by omega), show 1000010 + i - 1000000 = 10 + i by omega]] at k2
  have ho := X.2.2.2.1
  rw [hM] at ho
  exact va_ldcS X.1 X.2.1 ho (X.2.2.2.2.2.1.1.2.2.2.1 i _ hq) hd k2
theorem z_objInit {a ix : Nat} (hd : decode (mC M) pc = .ok (.invokespecial ix, 3)) (hw : Cond.methodLink (mO M) ix Lib.objectInit ∈ zTs) (hi : Cond.instanceMethod Lib.objectInit ∈ zTs) (hcd : Cond.code Lib.objectInit ⟨#[0xb1]⟩ 1 none ∈ zTs) (hdp : 1 ≤ d) (hS4 : S.length ≤ 4) (kk : Z l G M d Q k n (pc + 3) L S h) : Z l G M d Q k n pc L (va_rf (some a) :: S) h := by
  intro p e R s m args below meth c Qs H locs cells slots ls X hR hS hL hc hn
  have hts := X.2.2.2.2.1
  have h40 := X.2.2.2.2.2.2.2.2.1
  have hfr := X.2.2.2.2.2.2.2.1
  have hsum : ((S.map (zt G)).map fun v => v.category).sum ≤ 8 := by
    have : ∀ S : List Value, ((S.map (zt G)).map fun v => v.category).sum ≤ 2 * S.length := by
      intro S
      induction S with
      | nil => exact Nat.le_refl _
      | cons v t ih =>
        simp only [List.map_cons, List.sum_cons, List.length_cons]
        rcases lv_cat (zt G v) with e | e <;> omega
    have := this S
    omega
  refine W.objInit (a := zf G a) (rest := S.map (zt G)) X.1 X.2.1 X.2.2.2.1 (hts _ hw) (hts _ hi) (hts _ hcd) rfl (by rw [X.2.2.1]; exact hL.1) rfl hd (by omega) (by show 2 * 0 + _ + 12 ≤ _; omega) ?_
  exact kk p e R s m args below meth c Qs H locs cells slots ls X hR hS hL hc hn
theorem zroom (G : zG) (S : List Value) : ((S.map (zt G)).map fun v => v.category).sum ≤ 2 * S.length := by
  induction S with
  | nil => exact Nat.le_refl _
  | cons v t ih =>
    simp only [List.map_cons, List.sum_cons, List.length_cons]
    rcases lv_cat (zt G v) with e | e <;> omega
/-! calls -/
theorem z_run {p : Program} {e : Env} {R : Room} {s : State} {m : MethodId} {args : Array Value} {below : List Frame} {meth : Method} {c : Code} {Qs : State → Prop} {H : Heap} {locs : List Loc} {cells slots mc ms : Nat} {ls : Array Slot} {st0 rest : List Value} {a : Array Value} {Q' : Option Value → zH → Prop}
    (hr : va_Run p l e R s m args below meth c H locs cells slots mc ms (F0 m pc ls st0) rest (zQc G Q' a) (zA G)) (hS : va_S (zA G) s.heap H locs)
    (kk : ∀ (v : Option Value) (h1 : zH) (H1 : Heap) (locs1 : List Loc), Q' v h1 → zRel G h1 H1 → va_S (zA G) s.heap H1 locs1 → W p l e R s m args below meth c H1 locs1 (cells + mc) (slots + ms) Qs (F0 m (pc + 3) ls ((v.map (zt G)).toList ++ rest))) : W p l e R s m args below meth c H locs cells slots Qs (F0 m pc ls st0) := by
  intro T hT X
  obtain ⟨v, st₀, t, T', L, h0, X', hL, e1, e2, ⟨⟨v', h1, hv, hq, hRl⟩, hz, hk⟩, st⟩ := hr T hT X
  cases hv
  rw [h0] at hz hk
  obtain ⟨t2, a1, b1⟩ := kk v' h1 T'.heap (locs ++ L) hq (by rw [e1]; exact hRl)
    ⟨Nat.le_trans hS.1 (by rw [e1]; exact hz), fun q h1 h2 => by rw [e1, hk q (Nat.lt_of_lt_of_le h1 hS.1) h2]; exact hS.2.1 q h1 h2, fun q hq => by
      rcases List.mem_append.mp hq with h | h
      · exact hS.2.2 q h
      · exact hL q h⟩ T' rfl X'
  exact ⟨t2, st t2 a1, b1⟩
theorem zPc_blind (a : List Value) : FrameBlind (zPc G a h) := fun v U g mk q => ⟨q.1, q.2.1, zTb.same (u := U) rfl q.2.2.1, zEx.moved (u := U) (Vm.Alike.refl U.vm) q.2.2.2.1, q.2.2.2.2⟩
theorem zPc_to {s : State} {H : Heap} {locs : List Loc} (hO : zGOK G s) (hR : zRel G h H) (hS : va_S (zA G) s.heap H locs) (a : List Value) : ∀ U : State, U.heap = H → s.WarmedH U.vm → zPc G a h (a.map (zt G)).toArray U := fun U hU hW => ⟨rfl, by rw [hU]; exact hR, hO.1.warm hW, by
  have h1 := (hO.2.1.kept hS.2.1).moved hW.alike
  rw [hU]; exact h1, by rw [hU]; exact Nat.le_trans hO.2.2 hS.1⟩
/-- what is decided of a method that is called -/
def zMe (Y : zY) (np : Nat) : Prop := Cond.code Y.1 Y.2.1 Y.2.2.1 Y.2.2.2 ∈ zTs ∧ Cond.initialized Y.1.cls ∈ zTs ∧ Y.1.cls ≠ "java/lang/invoke/MethodHandle" ∧ Y.1.cls ≠ "java/lang/invoke/VarHandle" ∧ (parseMethodDescriptor Y.1.desc).map (fun d => d.parameters.length) = some np ∧ Y.2.2.1 ≤ 21
def zLk (M : zM) (ix : Nat) (y : MethodName) : Prop := Cond.methodLink (mO M) ix y ∈ zTs ∨ ∃ host, Cond.methodLinkNest (mO M) ix y host ∈ lw_tbl
theorem zcat_map (v : Option Value) (S : List Value) : (v.map (zt G)).toList ++ S.map (zt G) = (v.toList ++ S).map (zt G) := by cases v <;> rfl
theorem zmapr (As : List Value) (x : Value) (S : List Value) : (As.reverse ++ x :: S).map (zt G) = (As.map (zt G)).reverse ++ zt G x :: S.map (zt G) := by rw [List.map_append, List.map_reverse]; rfl
theorem zmaps (As S : List Value) : (As.reverse ++ S).map (zt G) = (As.map (zt G)).reverse ++ S.map (zt G) := by rw [List.map_append, List.map_reverse]
theorem zhB {R : Room} {s : State} {args : Array Value} {own : String} {ix d' mc ms np : Nat} {Y : zY} (hts : ∀ w ∈ zTs, w.before args s = true) (hM : zMe Y np) (hl : Cond.methodLink own ix Y.1 ∈ zTs) (hfr : d ≤ R.frames) (h40 : 40 * d ≤ R.locals) (hdp : d' + 1 ≤ d) : CallB R s args own ix Y.1 Y.2.1 Y.2.2.1 Y.2.2.2 (.code Y.1 Y.2.1 Y.2.2.1 Y.2.2.2 :: zTs) (zRm d' mc ms) mc ms np :=
  callB_of np hts (zgood (fun w hw => by rcases List.mem_cons.mp hw with e | e; · rw [e]; exact hM.1
                                         · exact e)) rfl rfl rfl (hts _ hM.2.1) (hts _ hl) ⟨hM.2.2.1, hM.2.2.2.1, hM.2.2.2.2.1⟩ ⟨by show d' + 1 ≤ _; omega, by have := hM.2.2.2.2.2; show 8 + (Y.2.2.1 + 11) + 40 * d' ≤ _; omega⟩
theorem zhN {R : Room} {s : State} {args : Array Value} {own host : String} {ix d' mc ms np : Nat} {Y : zY} (hts : ∀ w ∈ zTs, w.before args s = true) (hM : zMe Y np) (hl : va_Nw (.methodLinkNest own ix Y.1 host) s) (hfr : d ≤ R.frames) (h40 : 40 * d ≤ R.locals) (hdp : d' + 1 ≤ d) : va_CN R s args own ix Y.1 host Y.2.1 Y.2.2.1 Y.2.2.2 (.code Y.1 Y.2.1 Y.2.2.1 Y.2.2.2 :: zTs) (zRm d' mc ms) mc ms np :=
  va_cnB np hts (zgood (fun w hw => by rcases List.mem_cons.mp hw with e | e; · rw [e]; exact hM.1
                                       · exact e)) rfl rfl rfl hl (hts _ hM.2.1) ⟨hM.2.2.1, hM.2.2.2.1, hM.2.2.2.2.1⟩ ⟨by show d' + 1 ≤ _; omega, by have := hM.2.2.2.2.2; show 8 + (Y.2.2.1 + 11) + 40 * d' ≤ _; omega⟩
theorem z_callV {Y : zY} {np ix a ci N d' mc ms : Nat} {C : String} {T : u_T} {As : List Value} {Q' : Option Value → zH → Prop} (hC : zCl ci C T N) (hY : Y.1.cls = C) (hM : zMe Y np) (hin : Cond.instanceMethod Y.1 ∈ zTs) (hse : Cond.selects C Y.1 Y.1 ∈ zTs) (hl : zLk M ix Y.1) (hd : decode (mC M) pc = .ok (.invokevirtual ix, 3)) (hk : zK h a = (200 + ci, N)) (hal : a < zN h) (hAs : As.length = np) (hdp : d' + 1 ≤ d) (hS4 : S.length ≤ 4)
    (hT : CT l G Y d' mc ms (va_rf (some a) :: As) h Q') (kk : ∀ v h1, Q' v h1 → Z l G M d Q k n (pc + 3) L (v.toList ++ S) h1) : Z l G M d Q (k + mc) (n + ms) pc L (As.reverse ++ va_rf (some a) :: S) h := by
  intro p e R s m args below meth c Qs H locs cells slots ls X hR hS hL hc hn
  have hts := X.2.2.2.2.1
  have h40 := X.2.2.2.2.2.2.2.2.1
  have hfr := X.2.2.2.2.2.2.2.1
  have hl9 := hR.2.1
  have hat := hR.at hal
  rw [zE_ob hk] at hat
  have hzf : zf G a = gB G + a := zf_lt (by omega)
  rw [zmapr]
  have hroom := zroom G S
  have hrec := va_recv X.2.2.2.2.2.1.1.1 (va_one hat) (ci := ci) (q0 := 0) hC.1 rfl
  have hpre : PreV s H C (zf G a) (zPc G (va_rf (some a) :: As) h) (As.map (zt G)) := ⟨zPc_blind _, by rw [hzf]; exact hrec, zPc_to X.2.2.2.2.2.1 hR hS _⟩
  refine z_run (a := (zt G (va_rf (some a)) :: As.map (zt G)).toArray) (Q' := Q') (mc := mc) (ms := ms) (rest := S.map (zt G)) ?_ hS (fun v h1 H1 locs1 hq hR1 hS1 => by rw [zcat_map]; exact kk v h1 hq p e R s m args below meth c Qs H1 locs1 (cells + mc) (slots + ms) ls X hR1 hS1 hL (by omega) (by omega))
  rcases hl with hl | ⟨host, hl⟩
  · exact va_runV (S := ⟨X.1, X.2.1, X.2.2.1, X.2.2.2.1, hts⟩) hT ⟨zhB hts hM hl hfr h40 hdp, hts _ hin, hts _ hse⟩ hpre rfl (by rw [List.length_map]; exact hAs) hL.1 rfl (by show 2 * 0 + _ ≤ 8; omega) hd ⟨by omega, by omega⟩
  · exact va_runVN (S := ⟨X.1, X.2.1, X.2.2.1, X.2.2.2.1, hts⟩) hT ⟨zhN hts hM (z_nw X hl rfl) hfr h40 hdp, hts _ hin, hts _ hse⟩ hpre rfl (by rw [List.length_map]; exact hAs) hL.1 rfl (by show 2 * 0 + _ ≤ 8; omega) hd ⟨by omega, by omega⟩
theorem z_callS {Y : zY} {np ix d' mc ms : Nat} {As : List Value} {Q' : Option Value → zH → Prop} (hM : zMe Y np) (hst : Cond.static Y.1 ∈ zTs) (hl : zLk M ix Y.1) (hd : decode (mC M) pc = .ok (.invokestatic ix, 3)) (hAs : As.length = np) (hdp : d' + 1 ≤ d) (hS4 : S.length ≤ 4)
    (hT : CT l G Y d' mc ms As h Q') (kk : ∀ v h1, Q' v h1 → Z l G M d Q k n (pc + 3) L (v.toList ++ S) h1) : Z l G M d Q (k + mc) (n + ms) pc L (As.reverse ++ S) h := by
  intro p e R s m args below meth c Qs H locs cells slots ls X hR hS hL hc hn
  have hts := X.2.2.2.2.1
  have h40 := X.2.2.2.2.2.2.2.2.1
  have hfr := X.2.2.2.2.2.2.2.1
  rw [zmaps]
  have hroom := zroom G S
  have hpre : PreS s H (zPc G As h) (As.map (zt G)) := ⟨zPc_blind _, zPc_to X.2.2.2.2.2.1 hR hS _⟩
  refine z_run (a := (As.map (zt G)).toArray) (Q' := Q') (mc := mc) (ms := ms) (rest := S.map (zt G)) ?_ hS (fun v h1 H1 locs1 hq hR1 hS1 => by rw [zcat_map]; exact kk v h1 hq p e R s m args below meth c Qs H1 locs1 (cells + mc) (slots + ms) ls X hR1 hS1 hL (by omega) (by omega))
  rcases hl with hl | ⟨host, hl⟩
  · exact va_runS (S := ⟨X.1, X.2.1, X.2.2.1, X.2.2.2.1, hts⟩) hT ⟨zhB hts hM hl hfr h40 hdp, hts _ hst⟩ hpre rfl (by rw [List.length_map]; exact hAs) hL.1 rfl (by show 2 * 0 + _ ≤ 8; omega) hd ⟨by omega, by omega⟩
  · exact va_runSN (S := ⟨X.1, X.2.1, X.2.2.1, X.2.2.2.1, hts⟩) hT ⟨zhN hts hM (z_nw X hl rfl) hfr h40 hdp, hts _ hst, trivial⟩ hpre rfl (by rw [List.length_map]; exact hAs) hL.1 rfl (by show 2 * 0 + _ ≤ 8; omega) hd ⟨by omega, by omega⟩
theorem z_callI {Y : zY} {np ix a d' mc ms : Nat} {As : List Value} {Q' : Option Value → zH → Prop} (hM : zMe Y np) (hr0 : Y.2.2.2 = none) (hnm : Y.1.name = "<init>") (hin : Cond.instanceMethod Y.1 ∈ zTs) (hl : zLk M ix Y.1) (hd : decode (mC M) pc = .ok (.invokespecial ix, 3)) (hAs : As.length = np) (hdp : d' + 1 ≤ d) (hS4 : S.length ≤ 4)
    (hT : CT l G Y d' mc ms (va_rf (some a) :: As) h Q') (kk : ∀ v h1, Q' v h1 → Z l G M d Q k n (pc + 3) L (v.toList ++ S) h1) : Z l G M d Q (k + mc) (n + ms) pc L (As.reverse ++ va_rf (some a) :: S) h := by
  obtain ⟨y, cc, nL, rt⟩ := Y
  have hr0 : rt = none := hr0
  subst hr0
  intro p e R s m args below meth c Qs H locs cells slots ls X hR hS hL hc hn
  have hts := X.2.2.2.2.1
  have h40 := X.2.2.2.2.2.2.2.2.1
  have hfr := X.2.2.2.2.2.2.2.1
  rw [zmapr]
  have hroom := zroom G S
  have hpre : PreS s H (zPc G (va_rf (some a) :: As) h) (.ref (zf G a) :: As.map (zt G)) := ⟨zPc_blind _, zPc_to X.2.2.2.2.2.1 hR hS _⟩
  refine z_run (a := (zt G (va_rf (some a)) :: As.map (zt G)).toArray) (Q' := Q') (mc := mc) (ms := ms) (rest := S.map (zt G)) ?_ hS (fun v h1 H1 locs1 hq hR1 hS1 => by rw [zcat_map]; exact kk v h1 hq p e R s m args below meth c Qs H1 locs1 (cells + mc) (slots + ms) ls X hR1 hS1 hL (by omega) (by omega))
  rcases hl with hl | ⟨host, hl⟩
  · exact va_runI (S := ⟨X.1, X.2.1, X.2.2.1, X.2.2.2.1, hts⟩) hT ⟨zhB hts hM hl hfr h40 hdp, hnm, hts _ hin⟩ hpre rfl (by rw [List.length_map]; exact hAs) hL.1 rfl (by show 2 * 0 + _ ≤ 8; omega) hd ⟨by omega, by omega⟩
  · exact va_runIN (S := ⟨X.1, X.2.1, X.2.2.1, X.2.2.2.1, hts⟩) hT ⟨zhN hts hM (z_nw X hl rfl) hfr h40 hdp, hnm, hts _ hin⟩ hpre rfl (by rw [List.length_map]; exact hAs) hL.1 rfl (by show 2 * 0 + _ ≤ 8; omega) hd ⟨by omega, by omega⟩
theorem z_max {x y : Int32} {ix : Nat} (hd : decode (mC M) pc = .ok (.invokestatic ix, 3)) (hl : Cond.methodLink (mO M) ix Lib.Math.max.name ∈ zTs) (hs : Cond.static Lib.Math.max.name ∈ zTs) (hi : Cond.initialized "java/lang/Math" ∈ zTs) (hcd : Cond.code Lib.Math.max.name Lib.Math.max.code 2 (some .int) ∈ zTs) (hdp : 1 ≤ d) (hS4 : S.length ≤ 4) (kk : Z l G M d Q k n (pc + 3) L (.int (if x < y then y else x) :: S) h) : Z l G M d Q k n pc L (.int y :: .int x :: S) h := by
  intro p e R s m args below meth c Qs H locs cells slots ls X hR hS hL hc hn
  have hts := X.2.2.2.2.1
  have h40 := X.2.2.2.2.2.2.2.2.1
  have hfr := X.2.2.2.2.2.2.2.1
  have hroom := zroom G S
  exact va_mmax X.1 X.2.1 (by rw [X.2.2.1]; exact hL.1.symm) X.2.2.2.1 (hts _ hl) (hts _ hs) (hts _ hi) (hts _ hcd) (by omega) (by omega) (by omega) (by omega) hd (kk p e R s m args below meth c Qs H locs cells slots ls X hR hS hL hc hn)
theorem z_min {x y : Int32} {ix : Nat} (hd : decode (mC M) pc = .ok (.invokestatic ix, 3)) (hl : Cond.methodLink (mO M) ix Lib.Math.min.name ∈ zTs) (hs : Cond.static Lib.Math.min.name ∈ zTs) (hi : Cond.initialized "java/lang/Math" ∈ zTs) (hcd : Cond.code Lib.Math.min.name Lib.Math.min.code 2 (some .int) ∈ zTs) (hdp : 1 ≤ d) (hS4 : S.length ≤ 4) (kk : Z l G M d Q k n (pc + 3) L (.int (if y < x then y else x) :: S) h) : Z l G M d Q k n pc L (.int y :: .int x :: S) h := by
  intro p e R s m args below meth c Qs H locs cells slots ls X hR hS hL hc hn
  have hts := X.2.2.2.2.1
  have h40 := X.2.2.2.2.2.2.2.2.1
  have hfr := X.2.2.2.2.2.2.2.1
  have hroom := zroom G S
  exact va_mmin X.1 X.2.1 (by rw [X.2.2.1]; exact hL.1.symm) X.2.2.2.1 (hts _ hl) (hts _ hs) (hts _ hi) (hts _ hcd) (by omega) (by omega) (by omega) (by omega) hd (kk p e R s m args below meth c Qs H locs cells slots ls X hR hS hL hc hn)
theorem z_abs {x : Int32} {ix : Nat} (hd : decode (mC M) pc = .ok (.invokestatic ix, 3)) (hl : Cond.methodLink (mO M) ix Lib.Math.abs.name ∈ zTs) (hs : Cond.static Lib.Math.abs.name ∈ zTs) (hi : Cond.initialized "java/lang/Math" ∈ zTs) (hcd : Cond.code Lib.Math.abs.name Lib.Math.abs.code 1 (some .int) ∈ zTs) (hdp : 1 ≤ d) (hS4 : S.length ≤ 4) (kk : Z l G M d Q k n (pc + 3) L (.int (if 0 ≤ x then x else 0 - x) :: S) h) : Z l G M d Q k n pc L (.int x :: S) h := by
  intro p e R s m args below meth c Qs H locs cells slots ls X hR hS hL hc hn
  have hts := X.2.2.2.2.1
  have h40 := X.2.2.2.2.2.2.2.2.1
  have hfr := X.2.2.2.2.2.2.2.1
  have hroom := zroom G S
  exact va_mabs X.1 X.2.1 (by rw [X.2.2.1]; exact hL.1.symm) X.2.2.2.1 (hts _ hl) (hts _ hs) (hts _ hi) (hts _ hcd) (by omega) (by omega) (by omega) (by omega) hd (kk p e R s m args below meth c Qs H locs cells slots ls X hR hS hL hc hn)
end ZN
theorem zI_cp {h : zH} {a b c sp dp n k : Nat} : zI (zcp h a b sp dp n) c k = if c = b ∧ dp ≤ k ∧ k < dp + n then zI h a (sp + (k - dp)) else zI h c k := rfl
section ZC
variable {l : Launch} {G : zG} {M : zM} {d : Nat} {Q : Option Value → zH → Prop} {k n pc : Nat} {L S : List Value} {h : zH}
theorem z_copy {a b N0 N1 ix : Nat} {sp dp z : Int32} (hd : decode (mC M) pc = .ok (.invokestatic ix, 3)) (hl : Cond.methodLink (mO M) ix arraycopyName ∈ zTs) (hnat : Cond.native arraycopyName ∈ zTs) (hst : Cond.static arraycopyName ∈ zTs) (hi : Cond.initialized "java/lang/System" ∈ zTs) (hdp : 1 ≤ d) (hS4 : S.length ≤ 1) (ha : zAw h a N0) (hb : zAw h b N1) (h1 : 0 ≤ sp.toInt) (h2 : 0 ≤ dp.toInt) (h3 : 0 ≤ z.toInt) (h4 : sp.toInt + z.toInt ≤ N0) (h5 : dp.toInt + z.toInt ≤ N1)
    (kk : Z l G M d Q k n (pc + 3) L S (zcp h a b (zix sp) (zix dp) (zix z))) : Z l G M d Q k n pc L (.int z :: .int dp :: va_rf (some b) :: .int sp :: va_rf (some a) :: S) h := by
  intro p e R s m args below meth c Qs H locs cells slots ls X0 hR hS hL hc hn
  have hts := X0.2.2.2.2.1
  have h40 := X0.2.2.2.2.2.2.2.2.1
  have hfr := X0.2.2.2.2.2.2.2.1
  have hroom := zroom G S
  have hl9 := hR.2.1
  have hla := ha.2
  have hlb := hb.2
  have hata := hR.at ha.2
  have hatb := hR.at hb.2
  rw [zE_arr (by rw [ha.1]; show (1 : Nat) < 50; decide), ha.1] at hata
  rw [zE_arr (by rw [hb.1]; show (1 : Nat) < 50; decide), hb.1] at hatb
  have hc0 : H[gB G + a]? = some (vp_cell (gy G 1) (N0, .inl (zI h a))) := hata
  have hc1 : H[gB G + b]? = some (vp_cell (gy G 1) (N1, .inl (zI h b))) := hatb
  have hAr := (X0.2.2.2.2.2.1.1.1.2 0 _ (zat_in 0 rfl G)).1
  obtain ⟨-, k0, hk0, cm0, hkk0⟩ := hAr N0 (fun j => .int (zI h a j))
  obtain ⟨-, k1, hk1, cm1, hkk1⟩ := hAr N1 (fun j => .int (zI h b j))
  have neg : ∀ x : Int32, 0 ≤ x.toInt → ¬ x < 0 := fun x hx q => by
    have : x.toInt < (0 : Int32).toInt := Int32.lt_iff_toInt_lt.mp q
    rw [show (0 : Int32).toInt = 0 from rfl] at this
    omega
  have cl : ∀ x : Int32, 0 ≤ x.toInt → x.toInt = (x.toNatClampNeg : Int) := fun x hx => by
    rw [zix_eq]; unfold zix; omega
  show W p l e R s m args below meth c H locs cells slots Qs (F0 m pc ls (.int z :: .int dp :: .ref (zf G b) :: .int sp :: .ref (zf G a) :: S.map (zt G)))
  rw [zf_lt (by omega), zf_lt (by omega)]
  have hnw : nativeFrameWords "java/lang/System" "arraycopy" 5 ≤ 20 := by decide +kernel
  have c1 := cl sp h1
  have c2 := cl dp h2
  have c3 := cl z h3
  intro T hT X
  obtain ⟨vm', X', step⟩ := X.arraycopy X0.1 X0.2.2.2.1 (hts _ hl) (hts _ hnat) (hts _ hst) (hts _ hi) (src := gB G + a) (dst := gB G + b) (cs := vp_cell (gy G 1) (N0, .inl (zI h a))) (cd := vp_cell (gy G 1) (N1, .inl (zI h b))) (srcPos := sp) (destPos := dp) (n := z) (by rw [hT]; exact hc0) (by rw [hT]; exact hc1)
    (fun _ h => by cases h) (fun _ h => by cases h) (fun h => by cases h) (fun h => by cases h) hk0 hk1 hkk0 hkk1 (by simp [refKind]) (neg sp h1) (neg dp h2) (neg z h3)
    (by show ¬ _ > ((arrV (gy G 1) N0 (fun j => .int (zI h a j))).slots.size : Int); rw [arrV_size]; omega)
    (by show ¬ _ > ((arrV (gy G 1) N1 (fun j => .int (zI h b j))).slots.size : Int); rw [arrV_size]; omega)
    (fun vm₁ _ i hi => by
      have e : (vp_cell (gy G 1) (N0, .inl (zI h a))).slots.getD (sp.toNatClampNeg + i) .null = .int (zI h a (sp.toNatClampNeg + i)) := by
        show (arrV (gy G 1) N0 (fun j => .int (zI h a j))).slots.getD _ _ = _
        rw [Array.getD_eq_getD_getElem?, arrV_read _ _ (by omega)]
        rfl
      refine ⟨?_, ?_⟩
      · rw [e]
        rfl
      · rw [e]
        exact trivial)
    (g := F0 m pc ls (.int z :: .int dp :: .ref (gB G + b) :: .int sp :: .ref (gB G + a) :: S.map (zt G))) rfl (by rw [X0.2.2.1]; exact hL.1) (rest := S.map (zt G)) rfl (by rw [X0.2.1]; exact hd) (by omega) (by show 2 * 0 + _ + (nativeFrameWords "java/lang/System" "arraycopy" 5 + 11) ≤ _; omega)
  have e1 : copied (vp_cell (gy G 1) (N0, .inl (zI h a))) (vp_cell (gy G 1) (N1, .inl (zI h b))) sp dp z = vp_cell (gy G 1) (N1, .inl (va_cpy (zI h a) (zI h b) sp.toNatClampNeg dp.toNatClampNeg z.toNatClampNeg)) := va_copied (fun z => .int z) (gy G 1) (gy G 1) (zI h a) (zI h b) (by omega)
  rw [e1] at X' step
  have hlt : gB G + b < H.size := (Array.getElem?_eq_some_iff.mp hc1).1
  have hheap : ((T.setVm vm').setCell (gB G + b) (vp_cell (gy G 1) (N1, .inl (va_cpy (zI h a) (zI h b) sp.toNatClampNeg dp.toNatClampNeg z.toNatClampNeg)))).heap = H.setIfInBounds (gB G + b) (vp_cell (gy G 1) (N1, .inl (va_cpy (zI h a) (zI h b) sp.toNatClampNeg dp.toNatClampNeg z.toNatClampNeg))) := by rw [← hT]; rfl
  have oq : ∀ q : Nat, q ≠ gB G + b → (H.setIfInBounds (gB G + b) (vp_cell (gy G 1) (N1, .inl (va_cpy (zI h a) (zI h b) sp.toNatClampNeg dp.toNatClampNeg z.toNatClampNeg))))[q]? = H[q]? := fun q hq => by simp [Array.getElem?_setIfInBounds, Ne.symm hq]
  have hat9 : va_at (gD G) zcl (gB G + b, zE G (zcp h a b (zix sp) (zix dp) (zix z)) b) (H.setIfInBounds (gB G + b) (vp_cell (gy G 1) (N1, .inl (va_cpy (zI h a) (zI h b) sp.toNatClampNeg dp.toNatClampNeg z.toNatClampNeg)))) := by
    rw [zE_arr (by show (zK h b).1 < 50; rw [hb.1]; show (1 : Nat) < 50; decide), show zK (zcp h a b (zix sp) (zix dp) (zix z)) b = zK h b from rfl, hb.1]
    show (H.setIfInBounds (gB G + b) _)[gB G + b]? = some (vp_cell _ _)
    rw [show zI (zcp h a b (zix sp) (zix dp) (zix z)) b = va_cpy (zI h a) (zI h b) sp.toNatClampNeg dp.toNatClampNeg z.toNatClampNeg from funext fun j => by
      rw [zI_cp, zix_eq, zix_eq, zix_eq]
      unfold va_cpy
      by_cases q : zix dp ≤ j ∧ j < zix dp + zix z
      · rw [if_pos ⟨rfl, q⟩, if_pos q]
      · rw [if_neg (fun w => q w.2), if_neg q]]
    simp [Array.getElem?_setIfInBounds, hlt]
  obtain ⟨t, a1, b1⟩ := kk p e R s m args below meth c Qs _ _ cells slots ls X0 (zRel_put hR hb.2 hat9 (by simp) oq (fun _ => rfl) rfl (fun c hc j => by rw [zI_cp, if_neg (fun q => hc q.1)]) (fun _ _ _ => rfl)) ⟨by simp; exact hS.1, fun q g1 g2 => by
      rw [oq q (fun e => g2 (by rw [e]; exact Nat.le_add_right _ _))]
      exact hS.2.1 q g1 g2, fun q hq => by
      rcases List.mem_append.mp hq with h | h
      · exact hS.2.2 q h
      · obtain ⟨z, -, hz⟩ := List.mem_map.mp h
        rw [← hz]
        exact Nat.le_add_right _ _⟩ hL hc hn _ hheap X'
  exact ⟨t, step t a1, b1⟩
end ZC
/-! ===== switches, layouts, small functions ===== -/
def zsw (x : Int32) (P : Nat → Prop) : Int → List Nat → Prop
  | _, [] => True
  | lo, t :: ts => (x.toInt = lo → P t) ∧ zsw x P (lo + 1) ts
theorem zsw_at {x : Int32} {P : Nat → Prop} : ∀ (ts : List Nat) (lo : Int), zsw x P lo ts → ∀ (i t : Nat), ts[i]? = some t → x.toInt = lo + (i : Int) → P t
  | [], _, _, _, _, h, _ => by cases h
  | t0 :: ts, lo, hz, 0, t, h, hx => by cases h; exact hz.1 (by omega)
  | t0 :: ts, lo, hz, i + 1, t, h, hx => zsw_at ts (lo + 1) hz.2 i t h (by omega)
def zlw (x : Int32) (P : Nat → Prop) (td : Nat) : List (Int × Nat) → Prop
  | [] => P td
  | (a, t) :: r => (x.toInt = a → P t) ∧ (¬ x.toInt = a → zlw x P td r)
section ZS
variable {l : Launch} {G : zG} {M : zM} {d : Nat} {Q : Option Value → zH → Prop} {k n pc : Nat} {L S : List Value} {h : zH}
theorem z_tswc {df lo hi : Int} {offs : Array Int} {len : Nat} {x : Int32} {td : Nat} {ts : List Nat} (hd : decode (mC M) pc = .ok (.tableswitch df lo hi offs, len)) (htd : (pc : Int) + df = (td : Int)) (hts : offs.toList.map (fun o => (pc : Int) + o) = ts.map (fun t : Nat => (t : Int))) (hhi : hi + 1 = lo + (ts.length : Int))
    (kd : (x.toInt < lo ∨ hi < x.toInt) → Z l G M d Q k n td L S h) (kk : zsw x (fun t => Z l G M d Q k n t L S h) lo ts) : Z l G M d Q k n pc L (.int x :: S) h :=
  z_tsw hd htd hts hhi kd (zsw_at ts lo kk)
theorem zlw_go {x : Int32} {P : Nat → Prop} {df : Int} {td : Nat} (hdf : (pc : Int) + df = (td : Int)) : ∀ (ps : List (Int × Int)) (ts : List (Int × Nat)), ps.map (fun q => (q.1, (pc : Int) + q.2)) = ts.map (fun q => (q.1, (q.2 : Int))) → zlw x P td ts → ∃ (o : Int) (t : Nat), Op.lookupswitch.offset ps df x.toInt = o ∧ (pc : Int) + o = (t : Int) ∧ P t
  | [], [], _, hz => ⟨df, td, rfl, hdf, hz⟩
  | [], _ :: _, h, _ => by cases h
  | _ :: _, [], h, _ => by cases h
  | (a, o) :: ps, (b, t) :: ts, h, hz => by
    simp only [List.map_cons, List.cons.injEq, Prod.mk.injEq] at h
    obtain ⟨⟨h1, h2⟩, h3⟩ := h
    subst h1
    by_cases e : x.toInt = a
    · exact ⟨o, t, by simp [Op.lookupswitch.offset, e], h2, hz.1 e⟩
    · obtain ⟨o', t', g1, g2, g3⟩ := zlw_go hdf ps ts h3 (hz.2 e)
      refine ⟨o', t', ?_, g2, g3⟩
      rw [← g1]
      simp [Op.lookupswitch.offset]
      intro e2
      exact absurd e2.symm e
theorem z_lswc {df : Int} {ps : Array (Int × Int)} {len : Nat} {x : Int32} {td : Nat} {ts : List (Int × Nat)} (hd : decode (mC M) pc = .ok (.lookupswitch df ps, len)) (hp : (ps.toList.zip (ps.toList.drop 1)).all (fun (a, next) => a.1 < next.1) = true) (hdf : (pc : Int) + df = (td : Int)) (hts : ps.toList.map (fun q => (q.1, (pc : Int) + q.2)) = ts.map (fun q => (q.1, (q.2 : Int))))
    (kk : zlw x (fun t => Z l G M d Q k n t L S h) td ts) : Z l G M d Q k n pc L (.int x :: S) h := by
  obtain ⟨o, t, h1, h2, h3⟩ := zlw_go hdf ps.toList ts hts kk
  exact z_lsw hd hp h1 h2 h3
end ZS
/-- the layout of an object with all that it owns: kinds one behind another, references that stay -/
def zlo (h : zH) (a : Nat) (ks : List (Nat × Nat)) (rs : List (Nat × Nat × Nat)) : Prop := a + ks.length ≤ zN h ∧ (∀ (i : Nat) (q : Nat × Nat), ks[i]? = some q → zK h (a + i) = q) ∧ ∀ (i : Nat) (q : Nat × Nat × Nat), rs[i]? = some q → zR h (a + q.1) q.2.1 = some (a + q.2.2)
theorem zlo.k {h : zH} {a : Nat} {ks : List (Nat × Nat)} {rs : List (Nat × Nat × Nat)} (q : zlo h a ks rs) (i : Nat) {kd n : Nat} (hi : ks[i]? = some (kd, n)) : zK h (a + i) = (kd, n) := q.2.1 i _ hi
theorem zlo.lt {h : zH} {a : Nat} {ks : List (Nat × Nat)} {rs : List (Nat × Nat × Nat)} (q : zlo h a ks rs) (i : Nat) {e : Nat × Nat} (hi : ks[i]? = some e) : a + i < zN h := by
  have h1 : i < ks.length := (List.getElem?_eq_some_iff.mp hi).1
  have h2 := q.1
  omega
theorem zlo.r {h : zH} {a : Nat} {ks : List (Nat × Nat)} {rs : List (Nat × Nat × Nat)} (q : zlo h a ks rs) (i : Nat) {o j t : Nat} (hi : rs[i]? = some (o, j, t)) : zR h (a + o) j = some (a + t) := q.2.2 i _ hi
theorem zlo.w {h : zH} {a : Nat} {ks : List (Nat × Nat)} {rs : List (Nat × Nat × Nat)} (q : zlo h a ks rs) (i : Nat) {n : Nat} (hi : ks[i]? = some (1, n)) : zAw h (a + i) n := ⟨q.k i hi, q.lt i hi⟩
theorem zlo.sub {h : zH} {a : Nat} {ks ks' : List (Nat × Nat)} {rs rs' : List (Nat × Nat × Nat)} (q : zlo h a ks rs) (o : Nat) (hk : (ks.drop o).take ks'.length = ks') (hl : o + ks'.length ≤ ks.length) (hr : rs'.all (fun e => rs.contains (o + e.1, e.2.1, o + e.2.2)) = true) : zlo h (a + o) ks' rs' := by
  refine ⟨by have := q.1; omega, fun i e hi => ?_, fun i e hi => ?_⟩
  · have h1 : i < ks'.length := (List.getElem?_eq_some_iff.mp hi).1
    rw [← hk, List.getElem?_take_of_lt h1, List.getElem?_drop] at hi
    have := q.2.1 (o + i) e hi
    rw [← Nat.add_assoc] at this
    exact this
  · have h1 := List.all_eq_true.mp hr e (List.mem_of_getElem? hi)
    obtain ⟨k, hk2⟩ := List.getElem?_of_mem (List.contains_iff_mem.mp h1)
    have := q.2.2 k _ hk2
    dsimp only at this
    rw [← Nat.add_assoc, ← Nat.add_assoc] at this
    exact this
def zb (b : Bool) : Int32 := if b = true then 1 else 0
theorem zb_fit (b : Bool) : zfits (some .boolean) (some (.int (zb b))) := ⟨zb b, rfl, by cases b <;> decide⟩
theorem zb_01 (b : Bool) : zb b = 0 ∨ zb b = 1 := by cases b <;> decide
theorem zb_eq (b : Bool) : (zb b = 0) = (b = false) := by cases b <;> simp [zb]
def zushr (x y : Int32) : Int32 := (x.toUInt32 >>> (y.toUInt32 &&& Int32.toUInt32 31)).toInt32
def zrem (x y : Int32) : Int32 := x - x / y * y
def imax (x y : Int32) : Int32 := if x < y then y else x
def imin (x y : Int32) : Int32 := if y < x then y else x
def iabs (x : Int32) : Int32 := if 0 ≤ x then x else 0 - x
/-- contracts whose heap afterwards is that of a function of ints alone -/
def CF (l : Launch) (G : zG) (Y : zY) (d : Nat) (a : List Value) (h : zH) (v : Option Value) (F : Nat → Nat → Int32) : Prop := CT l G Y d 0 0 a h (fun w h1 => w = v ∧ h1 = (F, h.2))
theorem CT.mono {l : Launch} {G : zG} {Y : zY} {d d' k n : Nat} {a : List Value} {h : zH} {Q Q' : Option Value → zH → Prop} (c : CT l G Y d k n a h Q) (hd : d = d') (hq : ∀ v h1, Q v h1 → Q' v h1) : CT l G Y d' k n a h Q' := by
  subst hd
  unfold CT Met at c ⊢
  refine Jvm.Free.MetFree.mono c (fun _ _ q => q) (fun _ _ _ _ _ q => q) (fun a s o t _ q => ⟨⟨by obtain ⟨⟨⟨v, h1, e1, e2, e3⟩, -⟩, -⟩ := q; exact ⟨v, h1, e1, hq v h1 e2, e3⟩, q.1.2⟩, q.2⟩)
section ZQ
variable {l : Launch} {G : zG} {M : zM} {d : Nat} {Q : Option Value → zH → Prop} {k n pc : Nat} {L S : List Value} {h : zH}
/-- the ints of a heap get a name -/
theorem z_nm {h' : zH} {r : (Nat → Nat → Option Nat) × (Nat → Nat × Nat) × Nat} (hr : h'.2 = r) (kk : ∀ I1 : Nat → Nat → Int32, I1 = h'.1 → Z l G M d Q k n pc L S (I1, r)) : Z l G M d Q k n pc L S h' := by
  subst hr
  exact kk h'.1 rfl
theorem z_nmG {h' : zH} (kk : ∀ g : zH, g = h' → Z l G M d Q k n pc L S g) : Z l G M d Q k n pc L S h' := kk h' rfl
theorem z_nmR {h' : zH} (kk : ∀ R1 : Nat → Nat → Option Nat, R1 = h'.2.1 → Z l G M d Q k n pc L S (h'.1, R1, h'.2.2)) : Z l G M d Q k n pc L S h' := kk h'.2.1 rfl
theorem z_getRq {a ci C N ix j : _} {x : Option Nat} {T : u_T} (hC : zCl ci C T N) (hd : decode (mC M) pc = .ok (.getfield ix, 3)) (hk : zK h a = (200 + ci, N)) (hl : a < zN h) (hj : j < N) (hr : zrf ci j = true) (hw : Cond.fieldLink (mO M) ix (T j).1 (T j).2.1 (T j).2.2.1 ∈ zTs) (hx : zR h a j = x) (kk : Z l G M d Q k n (pc + 3) L (va_rf x :: S) h) : Z l G M d Q k n pc L (va_rf (some a) :: S) h := by
  subst hx
  exact z_getR hC hd hk hl hj hr hw kk
theorem z_getRNq {a ci C N ix j : _} {x : Option Nat} {host : String} {T : u_T} (hC : zCl ci C T N) (hd : decode (mC M) pc = .ok (.getfield ix, 3)) (hk : zK h a = (200 + ci, N)) (hl : a < zN h) (hj : j < N) (hr : zrf ci j = true) (hw : Cond.fieldLinkNest (mO M) ix (T j).1 (T j).2.1 (T j).2.2.1 host ∈ lw_tbl) (hx : zR h a j = x) (kk : Z l G M d Q k n (pc + 3) L (va_rf x :: S) h) : Z l G M d Q k n pc L (va_rf (some a) :: S) h := by
  subst hx
  exact z_getRN hC hd hk hl hj hr hw kk
theorem zb0 {b : Bool} (h : zb b = 0) : b = false := by cases b <;> simp_all [zb]
theorem zb1 {b : Bool} (h : ¬ zb b = 0) : b = true := by cases b <;> simp_all [zb]
theorem z_aaldq {a kd N : Nat} {Cn : String} {i : Int32} {x : Option Nat} (t : Nat) (ht : zat[t]? = some (kd, .object Cn)) (hkd : 50 ≤ kd ∧ kd < 200) (hd : decode (mC M) pc = .ok (.aaload, 1)) (hk : zK h a = (kd, N)) (hl : a < zN h) (h0 : 0 ≤ i.toInt) (h1 : i.toInt < N) (hx : zR h a (zix i) = x) (kk : Z l G M d Q k n (pc + 1) L (va_rf x :: S) h) : Z l G M d Q k n pc L (.int i :: va_rf (some a) :: S) h := by
  subst hx
  exact z_aald t ht hkd hd hk hl h0 h1 kk
/-- contracts by what comes back; only ints of the heap change -/
def CTi (l : Launch) (G : zG) (Y : zY) (d : Nat) (a : List Value) (h : zH) (P : Int32 → (Nat → Nat → Int32) → Prop) : Prop := CT l G Y d 0 0 a h (fun v h1 => ∃ x I1, v = some (.int x) ∧ h1 = (I1, h.2) ∧ P x I1)
def CTz (l : Launch) (G : zG) (Y : zY) (d : Nat) (a : List Value) (h : zH) (P : Bool → (Nat → Nat → Int32) → Prop) : Prop := CT l G Y d 0 0 a h (fun v h1 => ∃ x I1, v = some (.int (zb x)) ∧ h1 = (I1, h.2) ∧ P x I1)
def CTj (l : Launch) (G : zG) (Y : zY) (d : Nat) (a : List Value) (h : zH) (P : Int64 → (Nat → Nat → Int32) → Prop) : Prop := CT l G Y d 0 0 a h (fun v h1 => ∃ x I1, v = some (.long x) ∧ h1 = (I1, h.2) ∧ P x I1)
def CTr (l : Launch) (G : zG) (Y : zY) (d : Nat) (a : List Value) (h : zH) (P : Option Nat → (Nat → Nat → Int32) → Prop) : Prop := CT l G Y d 0 0 a h (fun v h1 => ∃ x I1, v = some (va_rf x) ∧ h1 = (I1, h.2) ∧ P x I1)
def CTv (l : Launch) (G : zG) (Y : zY) (d : Nat) (a : List Value) (h : zH) (P : (Nat → Nat → Int32) → Prop) : Prop := CT l G Y d 0 0 a h (fun v h1 => ∃ I1, v = none ∧ h1 = (I1, h.2) ∧ P I1)
def CTvG (l : Launch) (G : zG) (Y : zY) (d : Nat) (a : List Value) (h : zH) (P : zH → Prop) : Prop := CT l G Y d 0 0 a h (fun v h1 => v = none ∧ P h1)
def CTzG (l : Launch) (G : zG) (Y : zY) (d : Nat) (a : List Value) (h : zH) (P : Bool → zH → Prop) : Prop := CT l G Y d 0 0 a h (fun v h1 => ∃ x, v = some (.int (zb x)) ∧ P x h1)
def CTiG (l : Launch) (G : zG) (Y : zY) (d : Nat) (a : List Value) (h : zH) (P : Int32 → zH → Prop) : Prop := CT l G Y d 0 0 a h (fun v h1 => ∃ x, v = some (.int x) ∧ P x h1)
/-- contracts of an answer and a heap that are told -/
def CVi (l : Launch) (G : zG) (Y : zY) (d : Nat) (a : List Value) (h : zH) (x : Int32) : Prop := CT l G Y d 0 0 a h (fun v h1 => v = some (.int x) ∧ h1 = h)
def CVr (l : Launch) (G : zG) (Y : zY) (d : Nat) (a : List Value) (h : zH) (x : Option Nat) : Prop := CT l G Y d 0 0 a h (fun v h1 => v = some (va_rf x) ∧ h1 = h)
def CVj (l : Launch) (G : zG) (Y : zY) (d : Nat) (a : List Value) (h : zH) (x : Int64) : Prop := CT l G Y d 0 0 a h (fun v h1 => v = some (.long x) ∧ h1 = h)
def CVv (l : Launch) (G : zG) (Y : zY) (d : Nat) (a : List Value) (h h2 : zH) : Prop := CT l G Y d 0 0 a h (fun v h1 => v = none ∧ h1 = h2)
end ZQ
