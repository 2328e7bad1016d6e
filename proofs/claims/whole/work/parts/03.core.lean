/-! the abstract heap: ints, references, kinds (kind, length) and the next id; objects and arrays have ids 0, 1, ..; ids from 1000000 on are read-only things that were there before -/
abbrev zH : Type := (Nat → Nat → Int32) × (Nat → Nat → Option Nat) × (Nat → Nat × Nat) × Nat
def zI (h : zH) (a j : Nat) : Int32 := h.1 a j
def zR (h : zH) (a j : Nat) : Option Nat := h.2.1 a j
def zK (h : zH) (a : Nat) : Nat × Nat := h.2.2.1 a
def zN (h : zH) : Nat := h.2.2.2
def zwI (h : zH) (a j : Nat) (x : Int32) : zH := (fun b k => if b = a ∧ k = j then x else h.1 b k, h.2)
def zwR (h : zH) (a j : Nat) (x : Option Nat) : zH := (h.1, fun b k => if b = a ∧ k = j then x else h.2.1 b k, h.2.2)
/-- a new thing of a kind and a length: zeros and nulls -/
def zal (h : zH) (kd n : Nat) : zH := (fun b k => if b = h.2.2.2 then 0 else h.1 b k, fun b k => if b = h.2.2.2 then none else h.2.1 b k, fun b => if b = h.2.2.2 then (kd, n) else h.2.2.1 b, h.2.2.2 + 1)
/-- a copied piece of one array of ints in another -/
def zcp (h : zH) (a b sp dp n : Nat) : zH := (fun c k => if c = b ∧ dp ≤ k ∧ k < dp + n then h.1 a (sp + (k - dp)) else h.1 c k, h.2)
abbrev zcl : List vw_C := [(RX0, TX0, 14), (RX1, TX1, 10), (RX2, TX2, 10), (RX3, TX3, 6), (RX4, TX4, 14), (RX5, TX5, 13), (RX6, TX6, 8), (RX7, TX7, 8), (RX8, TX8, 7), (RX9, TX9, 10), (RX10, TX10, 15), (RX11, TX11, 50)]
def zty (ci : Nat) : Nat → FieldType := match ci with
  | 0 => tyX0
  | 1 => tyX1
  | 2 => tyX2
  | 3 => tyX3
  | 4 => tyX4
  | 5 => tyX5
  | 6 => tyX6
  | 7 => tyX7
  | 8 => tyX8
  | 9 => tyX9
  | 10 => tyX10
  | _ => tyX11
def zrf (ci k : Nat) : Bool := (zty ci k).isReference
/-- what is the same in the whole run: classes' numbers and slots, array classes' numbers, the first address, addresses and contents of the read-only things -/
abbrev zG : Type := va_G × (Nat → ClassId) × Nat × (Nat → Nat) × (Nat → Nat × (Nat → Int32))
def gD (G : zG) : va_G := G.1
def gy (G : zG) : Nat → ClassId := G.2.1
def gB (G : zG) : Nat := G.2.2.1
def gX (G : zG) : Nat → Nat := G.2.2.2.1
def gO (G : zG) : Nat → Nat × (Nat → Int32) := G.2.2.2.2
def zf (G : zG) (k : Nat) : Nat := if k < 1000000 then gB G + k else gX G (k - 1000000)
def zt (G : zG) (v : Value) : Value := match v with
  | .ref k => .ref (zf G k)
  | w => w
def zfv (G : zG) (h : zH) (ci k j : Nat) : Value := if zrf ci j = true then va_rf ((zR h k j).map (zf G)) else .int (zI h k j)
def zE (G : zG) (h : zH) (k : Nat) : va_E :=
  if (zK h k).1 < 50 then .inl (gy G (zK h k).1, (zK h k).2, .inl (zI h k))
  else if (zK h k).1 < 200 then .inl (gy G (zK h k).1, (zK h k).2, .inr (.inr (.inr (.inr (fun j => (zR h k j).map (zf G))))))
  else .inr ((zK h k).1 - 200, (List.range (zK h k).2).map (zfv G h ((zK h k).1 - 200) k))
def zRel (G : zG) (h : zH) (H : Heap) : Prop := H.size = gB G + zN h ∧ zN h ≤ 1000000 ∧ (∀ k, k < zN h → va_at (gD G) zcl (gB G + k, zE G h k) H) ∧ ∀ i, i < 4 → zK h (1000000 + i) = (0, (gO G i).1) ∧ ∀ j, zI h (1000000 + i) j = (gO G i).2 j
abbrev zat : List (Nat × FieldType) := [(1, .int), (2, .boolean), (99, .array .int), (101, .object "ClayPrints$Night"), (102, .object "ClayPrints$Person"), (103, .object "ClayPrints$Reading"), (106, .object "ClayPrints$Told")]
def zA (G : zG) : Nat → Prop := fun q => gB G ≤ q
def zsl : List Nat := [4, 3, 4, 4, 5, 4, 5, 6, 4, 6, 4]
def zsb : List (List Int32) := [[115, 105, 122, 101], [119, 101, 116], [102, 111, 111, 116], [119, 97, 108, 107], [99, 97, 114, 114, 121], [102, 101, 101, 116], [104, 97, 110, 100, 115], [114, 111, 108, 108, 101, 100], [114, 97, 105, 110], [101, 114, 114, 97, 110, 100], [115, 105, 103, 110]]
def zst_w : List (Nat × String) := [(122, "size"), (124, "wet"), (126, "foot"), (128, "walk"), (130, "carry"), (132, "feet"), (134, "hands"), (136, "rolled"), (138, "rain"), (140, "errand"), (142, "sign")]
/-- the read-only things that were there before -/
def zEx (G : zG) (U : State) (H : Heap) : Prop :=
  (∀ i, i < 4 → va_T .int (gX G i) (gO G i).1 (fun j => .int ((gO G i).2 j)) (zA G) U H) ∧
  va_Z "ClayPrints$Scribe" "NUMBERS" "[I" (.ref (gX G 1)) (zA G) U H ∧ va_Z "ClayPrints$Scribe" "LEAST" "[I" (.ref (gX G 2)) (zA G) U H ∧ va_Z "ClayPrints$Scribe" "MOST" "[I" (.ref (gX G 3)) (zA G) U H ∧
  va_Z "java/lang/String" "COMPACT_STRINGS" "Z" (.int 1) (zA G) U H ∧
  vk_S 11 zsl zsb (fun i => gX G (10 + i)) (fun i => gX G (30 + i)) (zA G) U H
def zisN (w : Cond) : Bool := match w with
  | .fieldLinkNest .. => true
  | .methodLinkNest .. => true
  | _ => false
/-- what the tables say, in each state of the run -/
def zTb (G : zG) (U : State) : Prop :=
  va_K (gD G) zcl (zat.map fun q => (gy G q.1, q.2)) U ∧ (∀ w ∈ lw_tbl, zisN w = true → va_Nw w U) ∧ (∀ q ∈ zat, ∀ C, q.2 = .object C → va_AO C U) ∧ (∀ i q, zst_w[i]? = some q → vk_R "ClayPrints$Scribe" q.1 q.2 (gX G (10 + i)) U)
def zGOK (G : zG) (U : State) : Prop := zTb G U ∧ zEx G U U.heap ∧ gB G ≤ U.heap.size
def zTs : List Cond := lw_tbl.filter goodWord
theorem zin {w : Cond} (i : Nat) (h : lw_tbl[i]? = some w) (hg : goodWord w = true) : w ∈ zTs := List.mem_filter.mpr ⟨List.mem_of_getElem? h, hg⟩
theorem zTs_in {w : Cond} (h : w ∈ zTs) : w ∈ lw_tbl := (List.mem_filter.mp h).1
theorem zTs_good {w : Cond} (h : w ∈ zTs) : goodWord w = true := (List.mem_filter.mp h).2
theorem zgood {ws : List Cond} (h : ∀ w ∈ ws, w ∈ zTs) : GoodIn zTs ws := fun w hw => ⟨h w hw, good_of_word (zTs_good (h w hw))⟩
/-! moved, kept -/
theorem zEx.moved {G : zG} {u U : State} {H : Heap} (hvm : u.vm.Alike U.vm) (h : zEx G u H) : zEx G U H := by
  obtain ⟨h1, h2, h3, h4, h5, h6⟩ := h
  exact ⟨fun i hi => (h1 i hi).moved hvm, h2.moved hvm, h3.moved hvm, h4.moved hvm, h5.moved hvm, h6.moved hvm⟩
theorem zEx.kept {G : zG} {U : State} {H H1 : Heap} (h : zEx G U H) (hq : ∀ a : Nat, a < H.size → ¬ zA G a → H1[a]? = H[a]?) : zEx G U H1 := by
  obtain ⟨h1, h2, h3, h4, h5, h6⟩ := h
  exact ⟨fun i hi => (h1 i hi).kept hq, h2.kept hq, h3.kept hq, h4.kept hq, h5.kept hq, h6.kept hq⟩
theorem zTb.warm {G : zG} {s U : State} (hW : s.WarmedH U.vm) (h : zTb G s) : zTb G U := by
  obtain ⟨h1, h2, h3, h4⟩ := h
  refine ⟨h1.moved hW.alike, fun w hw hn => ?_, fun q hq C e => (h3 q hq C e).moved hW.alike, fun i q hq => (h4 i q hq).warm hW⟩
  have h9 := h2 w hw hn
  cases w <;> first | (exact absurd hn (by decide)) | (exact h9.warmF hW) | (exact h9.warmM hW) | (simp [zisN] at hn)
theorem zTb.same {G : zG} {u U : State} (hv : U.vm = u.vm) (h : zTb G u) : zTb G U := by
  obtain ⟨h1, h2, h3, h4⟩ := h
  have hal : u.vm.Alike U.vm := by rw [hv]; exact Vm.Alike.refl u.vm
  refine ⟨h1.moved hal, fun w hw hn => ?_, fun q hq C e => (h3 q hq C e).moved hal, fun i q hq => (h4 i q hq).same hv⟩
  have h9 := h2 w hw hn
  refine va_tabs ?_ hv.symm h9
  cases w <;> first | rfl | (simp [zisN] at hn)
theorem zf_lt {G : zG} {k : Nat} (h : k < 1000000) : zf G k = gB G + k := if_pos h
/-! locals, by their places; what isn't known stands as zU -/
abbrev zU : Value := .float 0
def zkn (v : Value) : Bool := match v with
  | .float _ => false
  | .double _ => false
  | _ => true
def zL (G : zG) (ls : Array Slot) (nL : Nat) (L : List Value) : Prop := ls.size = nL ∧ lv_wf ls ∧ ∀ (k : Nat) (v : Value), L[k]? = some v → zkn v = true → ls[k]? = some (.val (zt G v))
def zps (G : zG) (L : List Value) : List (Nat × Value) := (List.range L.length).filterMap fun k => (L[k]?).bind fun v => if zkn v = true then some (k, zt G v) else none
/-- before a store at i: a long whose second half stands there is gone -/
def zcut (L : List Value) (i : Nat) : List Value := match i with
  | 0 => L
  | j + 1 => match L[j]? with
    | some (.long _) => L.set j zU
    | _ => L
def zs1 (L : List Value) (i : Nat) (v : Value) : List Value := (zcut L i).set i v
def zs2 (L : List Value) (i : Nat) (v : Value) : List Value := ((zcut L i).set i v).set (i + 1) zU
theorem zt_cat (G : zG) (v : Value) : (zt G v).category = v.category := by cases v <;> rfl
theorem zps_mem {G : zG} {L : List Value} {k : Nat} {v : Value} (h : L[k]? = some v) (hk : zkn v = true) : (k, zt G v) ∈ zps G L := by
  refine List.mem_filterMap.mpr ⟨k, List.mem_range.mpr (List.getElem?_eq_some_iff.mp h).1, ?_⟩
  rw [h]
  show (if zkn v = true then some (k, zt G v) else none) = _
  rw [if_pos hk]
theorem zps_of {G : zG} {L : List Value} {q : Nat × Value} (h : q ∈ zps G L) : ∃ v, L[q.1]? = some v ∧ zkn v = true ∧ q.2 = zt G v := by
  obtain ⟨k, -, hk⟩ := List.mem_filterMap.mp h
  cases hv : L[k]? with
  | none => rw [hv] at hk; cases hk
  | some v =>
    rw [hv] at hk
    have hk : (if zkn v = true then some (k, zt G v) else none) = some q := hk
    by_cases hz : zkn v = true
    · rw [if_pos hz] at hk
      cases hk
      exact ⟨v, hv, hz, rfl⟩
    · rw [if_neg hz] at hk
      cases hk
theorem zL_has {G : zG} {ls : Array Slot} {nL : Nat} {L : List Value} (h : zL G ls nL L) : lv_has ls nL (zps G L) := by
  refine ⟨h.1, h.2.1, fun q hq => ?_⟩
  obtain ⟨v, h1, h2, h3⟩ := zps_of hq
  rw [h3]
  exact h.2.2 _ _ h1 h2
theorem zcut_ne {L : List Value} {i k : Nat} {v : Value} (h : (zcut L i)[k]? = some v) (hk : zkn v = true) : L[k]? = some v ∧ ¬ (k + 1 = i ∧ v.category = 2) := by
  cases i with
  | zero => exact ⟨h, fun q => by omega⟩
  | succ j =>
    show L[k]? = some v ∧ _
    unfold zcut at h
    dsimp only at h
    split at h
    next x hx =>
      by_cases e : k = j
      · subst e
        have hl : k < L.length := (List.getElem?_eq_some_iff.mp hx).1
        rw [List.getElem?_set_self hl] at h
        cases h
        cases hk
      · rw [List.getElem?_set_ne (Ne.symm e)] at h
        exact ⟨h, fun q => by omega⟩
    next hx =>
      refine ⟨h, fun q => ?_⟩
      have e : k = j := by omega
      subst e
      cases v <;> first | (exact absurd h (hx _)) | (refine absurd q.2 ?_; simp [Value.category]; done) | (refine absurd hk ?_; simp [zkn]; done)
theorem zs1_of {G : zG} {ls : Array Slot} {nL : Nat} {L : List Value} {i : Nat} {v : Value} (h : lv_has ls nL ((i, zt G v) :: (zps G L).filter (fun q => !(q.1 == i) && !(q.1 + 1 == i && q.2.category == 2)))) : zL G ls nL (zs1 L i v) := by
  refine ⟨h.1, h.2.1, fun k w hw hk => ?_⟩
  unfold zs1 at hw
  by_cases e : k = i
  · subst e
    by_cases hl : k < (zcut L k).length
    · rw [List.getElem?_set_self hl] at hw
      cases hw
      exact h.2.2 (k, zt G v) List.mem_cons_self
    · rw [List.getElem?_eq_none (by rw [List.length_set]; omega)] at hw
      cases hw
  · rw [List.getElem?_set_ne (Ne.symm e)] at hw
    obtain ⟨h1, h2⟩ := zcut_ne hw hk
    refine h.2.2 (k, zt G w) (List.mem_cons_of_mem _ (List.mem_filter.mpr ⟨zps_mem h1 hk, ?_⟩))
    show (!(k == i) && !(k + 1 == i && (zt G w).category == 2)) = true
    rw [zt_cat]
    by_cases e1 : k + 1 = i
    · have : ¬ w.category = 2 := fun q => h2 ⟨e1, q⟩
      simp [e, e1, this]
    · simp [e, e1]
theorem zs2_of {G : zG} {ls : Array Slot} {nL : Nat} {L : List Value} {i : Nat} {v : Value} (h : lv_has ls nL ((i, zt G v) :: (zps G L).filter (fun q => !(q.1 == i) && (!(q.1 == i + 1) && !(q.1 + 1 == i && q.2.category == 2))))) : zL G ls nL (zs2 L i v) := by
  refine ⟨h.1, h.2.1, fun k w hw hk => ?_⟩
  unfold zs2 at hw
  by_cases e0 : k = i + 1
  · subst e0
    by_cases hl : i + 1 < ((zcut L i).set i v).length
    · rw [List.getElem?_set_self hl] at hw
      cases hw
      cases hk
    · rw [List.getElem?_eq_none (by rw [List.length_set]; omega)] at hw
      cases hw
  rw [List.getElem?_set_ne (Ne.symm e0)] at hw
  by_cases e : k = i
  · subst e
    by_cases hl : k < (zcut L k).length
    · rw [List.getElem?_set_self hl] at hw
      cases hw
      exact h.2.2 (k, zt G v) List.mem_cons_self
    · rw [List.getElem?_eq_none (by rw [List.length_set]; omega)] at hw
      cases hw
  · rw [List.getElem?_set_ne (Ne.symm e)] at hw
    obtain ⟨h1, h2⟩ := zcut_ne hw hk
    refine h.2.2 (k, zt G w) (List.mem_cons_of_mem _ (List.mem_filter.mpr ⟨zps_mem h1 hk, ?_⟩))
    show (!(k == i) && (!(k == i + 1) && !(k + 1 == i && (zt G w).category == 2))) = true
    rw [zt_cat]
    by_cases e1 : k + 1 = i
    · have : ¬ w.category = 2 := fun q => h2 ⟨e1, q⟩
      simp [e, e0, e1, this]
    · simp [e, e0, e1]
/-- the locals at a method's entry -/
def zent : List Value → List Value
  | [] => []
  | v :: vs => if v.category = 2 then v :: zU :: zent vs else v :: zent vs
theorem zent_has {G : zG} : ∀ (vs : List Value) (i k : Nat) (v : Value), (zent vs)[k]? = some v → zkn v = true → (i + k, zt G v) ∈ lv_args i (vs.map (zt G))
  | [], i, k, v, h, _ => by cases h
  | w :: vs, i, k, v, h, hk => by
    show (i + k, zt G v) ∈ (i, zt G w) :: lv_args (if (zt G w).category = 2 then i + 2 else i + 1) (vs.map (zt G))
    rw [zt_cat]
    unfold zent at h
    by_cases hc : w.category = 2
    · rw [if_pos hc] at h ⊢
      match k, h with
      | 0, h => cases h; exact List.mem_cons_self
      | 1, h => cases h; cases hk
      | k + 2, h =>
        have := zent_has (G := G) vs (i + 2) k v h hk
        rw [show i + (k + 2) = i + 2 + k by omega]
        exact List.mem_cons_of_mem _ this
    · rw [if_neg hc] at h ⊢
      match k, h with
      | 0, h => cases h; exact List.mem_cons_self
      | k + 1, h =>
        have := zent_has (G := G) vs (i + 1) k v h hk
        rw [show i + (k + 1) = i + 1 + k by omega]
        exact List.mem_cons_of_mem _ this
def zpad (n : Nat) (L : List Value) : List Value := L ++ List.replicate (n - L.length) zU
theorem zent_len (G : zG) : ∀ vs : List Value, (lg_sl (vs.map (zt G))).length = (zent vs).length
  | [] => rfl
  | v :: vs => by
    have ih := zent_len G vs
    unfold zent
    simp only [lg_sl, List.map_cons, List.flatMap_cons, List.length_append, zt_cat] at ih ⊢
    by_cases hc : v.category = 2
    · simp only [hc, if_true, List.length_cons, List.length_nil, ih]
      omega
    · simp only [hc, if_false, List.length_cons, List.length_nil, ih]
      omega
theorem zL_entry {G : zG} (vs : List Value) {n : Nat} (h : (zent vs).length ≤ n) : zL G ((lg_sl (vs.map (zt G)) ++ List.replicate (n - (lg_sl (vs.map (zt G))).length) Slot.unset).toArray) n (zpad n (zent vs)) := by
  have h1 := lv_entry (vs.map (zt G)) (n := n) (by rw [zent_len]; exact h)
  refine ⟨h1.1, h1.2.1, fun k v hv hk => ?_⟩
  unfold zpad at hv
  by_cases hl : k < (zent vs).length
  · rw [List.getElem?_append_left hl] at hv
    have := zent_has (G := G) vs 0 k v hv hk
    rw [Nat.zero_add] at this
    exact h1.2.2 _ this
  · rw [List.getElem?_append_right (by omega)] at hv
    have := List.mem_of_getElem? hv
    obtain ⟨-, rfl⟩ := List.mem_replicate.mp this
    cases hk
/-! ===== the judgement Z: from this point of a method of the class, the method comes to its end, with Q of the answer and the heap =====
M: the method's class, code, locals' number, return type, and whether it is a constructor; d: frames below; k, n: cells and slots that may still come -/
abbrev zM : Type := String × ByteArray × Nat × Option FieldType × Bool
def mO (M : zM) : String := M.1
def mC (M : zM) : ByteArray := M.2.1
def mL (M : zM) : Nat := M.2.2.1
def mR (M : zM) : Option FieldType := M.2.2.2.1
def mI (M : zM) : Bool := M.2.2.2.2
def zretI (r : Option FieldType) : Instr := match r with
  | none => .return_
  | some .long => .lreturn
  | some (.object _) => .areturn
  | some (.array _) => .areturn
  | _ => .ireturn
/-- an answer that fits a return type -/
def zfits (r : Option FieldType) (v : Option Value) : Prop := match r with
  | none => v = none
  | some .long => ∃ x, v = some (.long x)
  | some (.object _) => ∃ q, v = some (va_rf q)
  | some (.array _) => ∃ q, v = some (va_rf q)
  | some t => ∃ x, v = some (.int x) ∧ narrow t (.int x) = .int x
def zCX (l : Launch) (G : zG) (M : zM) (d : Nat) (Q : Option Value → zH → Prop) (p : Program) (e : Env) (R : Room) (s : State) (m : MethodId) (args : Array Value) (below : List Frame) (meth : Method) (c : Code) (Qs : State → Prop) : Prop :=
  p.tables.exec = Jvm.exec ∧ c.code = mC M ∧ c.maxLocals = mL M ∧ s.vm.findClass (mO M) = some m.cls ∧ (∀ w ∈ zTs, w.before args s = true) ∧ zGOK G s ∧ (mI M = true → meth.name = "<init>") ∧ d ≤ R.frames ∧ 40 * d ≤ R.locals ∧
  ∀ (v : Option Value) (h : zH) (H : Heap) (locs : List Loc) (cells slots pc : Nat) (ls : Array Slot), Q v h → zfits (mR M) v → zRel G h H → va_S (zA G) s.heap H locs → cells ≤ R.cells → slots ≤ R.slots → decode (mC M) pc = .ok (zretI (mR M), 1) → W p l e R s m args below meth c H locs cells slots Qs (F0 m pc ls (v.map (zt G)).toList)
def Z (l : Launch) (G : zG) (M : zM) (d : Nat) (Q : Option Value → zH → Prop) (k n : Nat) (pc : Nat) (L S : List Value) (h : zH) : Prop :=
  ∀ (p : Program) (e : Env) (R : Room) (s : State) (m : MethodId) (args : Array Value) (below : List Frame) (meth : Method) (c : Code) (Qs : State → Prop) (H : Heap) (locs : List Loc) (cells slots : Nat) (ls : Array Slot),
    zCX l G M d Q p e R s m args below meth c Qs → zRel G h H → va_S (zA G) s.heap H locs → zL G ls (mL M) L → cells + k ≤ R.cells → slots + n ≤ R.slots → W p l e R s m args below meth c H locs cells slots Qs (F0 m pc ls (S.map (zt G)))
/-- a method: its name, code, locals' number, return type -/
abbrev zY : Type := MethodName × ByteArray × Nat × Option FieldType
def yM (Y : zY) : zM := (Y.1.cls, Y.2.1, Y.2.2.1, Y.2.2.2, Y.1.name == "<init>")
def zQc (G : zG) (Q : Option Value → zH → Prop) : Array Value → State → Outcome → State → Prop := fun _ st o t => (∃ (v : Option Value) (h : zH), o = .returned (v.map (zt G)) ∧ Q v h ∧ zRel G h t.heap) ∧ va_F (zA G) st t
def zPc (G : zG) (a : List Value) (h : zH) : Array Value → State → Prop := fun v U => v = (a.map (zt G)).toArray ∧ zRel G h U.heap ∧ zGOK G U
abbrev zRm (d k n : Nat) : Room := { frames := d, cells := k, slots := n, locals := 40 * d }
/-- a contract: from the heap h, Y called with a returns, with Q of the answer and the heap; d frames, k cells and n slots at most -/
def CT (l : Launch) (G : zG) (Y : zY) (d k n : Nat) (a : List Value) (h : zH) (Q : Option Value → zH → Prop) : Prop :=
  Met l Y.1 (.code Y.1 Y.2.1 Y.2.2.1 Y.2.2.2 :: zTs) (zRm d k n) (zPc G a h) (zQc G Q) k n (zA G)
theorem zRel_kept {G : zG} {h : zH} {H : Heap} {U : State} (hR : zRel G h H) (hO : zEx G U H) : zEx G U H := hO
theorem zret_of {l : Launch} {G : zG} {M : zM} {Q : Option Value → zH → Prop} {p : Program} {e : Env} {R : Room} {s : State} {m : MethodId} {args : Array Value} {below : List Frame} {meth : Method} {c : Code} (hx : p.tables.exec = Jvm.exec) (hb : c.code = mC M) (hr : meth.sig.returnType = mR M) (hlocks : meth.locks = false)
    (hnf : ∀ t, mR M = some t → t ≠ .float ∧ t ≠ .double)
    (v : Option Value) (h : zH) (H : Heap) (locs : List Loc) (cells slots pc : Nat) (ls : Array Slot) (hQ : Q v h) (hf : zfits (mR M) v) (hR : zRel G h H) (hS : va_S (zA G) s.heap H locs) (hc : cells ≤ R.cells) (hs : slots ≤ R.slots) (hd : decode (mC M) pc = .ok (zretI (mR M), 1)) : W p l e R s m args below meth c H locs cells slots (MQ below (zQc G Q) args s R.cells R.slots (zA G)) (F0 m pc ls (v.map (zt G)).toList) := by
  refine W.widen hc hs ?_
  have key : ∀ t : State, t.heap = H → s.WarmedH t.vm → zQc G Q args s (.returned (v.map (zt G))) t := fun t ht hW => ⟨⟨v, h, rfl, hQ, by rw [ht]; exact hR⟩, hS.F ht⟩
  cases hM : mR M with
  | none =>
    rw [hM] at hf hd hr
    have hf : v = none := hf
    subst hf
    exact W.vret hx hb hr key hS.2.2 hd
  | some t =>
    have h9 := hnf t hM
    rw [hM] at hf hd hr
    cases t with
    | long =>
      obtain ⟨x, rfl⟩ := (show ∃ x, v = some (.long x) from hf)
      exact W.lret hx hb hr key hS.2.2 hd
    | object C =>
      obtain ⟨q, rfl⟩ := (show ∃ q, v = some (va_rf q) from hf)
      refine W.aret (v := zt G (va_rf q)) hx hb hr (Or.inl ⟨_, rfl⟩) ?_ key hS.2.2 hd
      cases q with
      | none => exact Or.inl rfl
      | some a => exact Or.inr ⟨_, rfl⟩
    | array C =>
      obtain ⟨q, rfl⟩ := (show ∃ q, v = some (va_rf q) from hf)
      refine W.aret (v := zt G (va_rf q)) hx hb hr (Or.inr ⟨_, rfl⟩) ?_ key hS.2.2 hd
      cases q with
      | none => exact Or.inl rfl
      | some a => exact Or.inr ⟨_, rfl⟩
    | float => exact absurd rfl h9.1
    | double => exact absurd rfl h9.2
    | int => obtain ⟨x, rfl, hn⟩ := (show ∃ x, v = some (.int x) ∧ narrow .int (.int x) = .int x from hf); exact W.zret hx hb hr hn key hS.2.2 hd
    | boolean => obtain ⟨x, rfl, hn⟩ := (show ∃ x, v = some (.int x) ∧ narrow .boolean (.int x) = .int x from hf); exact W.zret hx hb hr hn key hS.2.2 hd
    | byte => obtain ⟨x, rfl, hn⟩ := (show ∃ x, v = some (.int x) ∧ narrow .byte (.int x) = .int x from hf); exact W.zret hx hb hr hn key hS.2.2 hd
    | short => obtain ⟨x, rfl, hn⟩ := (show ∃ x, v = some (.int x) ∧ narrow .short (.int x) = .int x from hf); exact W.zret hx hb hr hn key hS.2.2 hd
    | char => obtain ⟨x, rfl, hn⟩ := (show ∃ x, v = some (.int x) ∧ narrow .char (.int x) = .int x from hf); exact W.zret hx hb hr hn key hS.2.2 hd
/-- a contract, out of the walk of the body -/
theorem CT.of {l : Launch} {G : zG} {Y : zY} {d k n : Nat} {a : List Value} {h : zH} {Q : Option Value → zH → Prop} (hy : plainName Y.1.cls = true) (hnf : ∀ t, Y.2.2.2 = some t → t ≠ .float ∧ t ≠ .double) (hl : (zent a).length ≤ Y.2.2.1)
    (body : Z l G (yM Y) d Q k n 0 (zpad Y.2.2.1 (zent a)) [] h) : CT l G Y d k n a h Q := by
  obtain ⟨y, cc, nL, rt⟩ := Y
  refine Met.ofW (cc := cc) (maxL := nL) (ret := rt) hy rfl ?_
  intro p e s m args below meth c s₁ B hml hv
  obtain ⟨rfl, hR, hO⟩ := hv
  have hts := atoms_spec (ws := Cond.code y cc nL rt :: zTs) B.pre
  rw [lg_entry_eq]
  refine body p e _ s m _ below meth c _ s.heap [] 0 0 _ ⟨B.exec, B.bytes, hml, findClass_of_methodNamed B.named, fun w hw => hts w (List.mem_cons_of_mem _ hw), hO, fun hi => ?_, Nat.le_refl _, Nat.le_refl _, zret_of B.exec B.bytes B.returns B.notSynchronized hnf⟩ hR va_S.rf (zL_entry a hl) (by show 0 + k ≤ k; omega) (by show 0 + n ≤ n; omega)
  have e1 := (name_of_methodNamed B.named B.method).1
  have e2 : (y.name == "<init>") = true := hi
  rw [e1]
  exact eq_of_beq e2
/-! ===== the rows of Z ===== -/
section ZR
variable {l : Launch} {G : zG} {M : zM} {d : Nat} {Q : Option Value → zH → Prop} {k n pc : Nat} {L S : List Value} {h : zH}
theorem z_iconst {z : Int} {v : Int32} (hd : decode (mC M) pc = .ok (.iconst z, 1)) (hv : Int32.ofInt z = v) (kk : Z l G M d Q k n (pc + 1) L (.int v :: S) h) : Z l G M d Q k n pc L S h :=
  fun p e R s m args below meth c Qs H locs cells slots ls C hR hS hL hc hn => lv_iconst C.1 C.2.1 hd hv (kk p e R s m args below meth c Qs H locs cells slots ls C hR hS hL hc hn)
theorem z_bipush {z : Int} {v : Int32} (hd : decode (mC M) pc = .ok (.bipush z, 2)) (hv : (Int8.ofInt z).toInt32 = v) (kk : Z l G M d Q k n (pc + 2) L (.int v :: S) h) : Z l G M d Q k n pc L S h :=
  fun p e R s m args below meth c Qs H locs cells slots ls C hR hS hL hc hn => lv_bipush C.1 C.2.1 hd hv (kk p e R s m args below meth c Qs H locs cells slots ls C hR hS hL hc hn)
theorem z_sipush {z : Int} {v : Int32} (hd : decode (mC M) pc = .ok (.sipush z, 3)) (hv : (Int16.ofInt z).toInt32 = v) (kk : Z l G M d Q k n (pc + 3) L (.int v :: S) h) : Z l G M d Q k n pc L S h :=
  fun p e R s m args below meth c Qs H locs cells slots ls C hR hS hL hc hn => lv_sipush C.1 C.2.1 hd hv (kk p e R s m args below meth c Qs H locs cells slots ls C hR hS hL hc hn)
theorem z_lconst {z : Fin 2} {v : Int64} (hd : decode (mC M) pc = .ok (.lconst z, 1)) (hv : Int64.ofNat (z : Nat) = v) (kk : Z l G M d Q k n (pc + 1) L (.long v :: S) h) : Z l G M d Q k n pc L S h :=
  fun p e R s m args below meth c Qs H locs cells slots ls C hR hS hL hc hn => lv_lconst C.1 C.2.1 hd hv (kk p e R s m args below meth c Qs H locs cells slots ls C hR hS hL hc hn)
theorem z_ldc {ix : Nat} {v : Int32} (hw : Cond.constant (mO M) ix v ∈ zTs) (hd : decode (mC M) pc = .ok (.ldc ix, 2)) (kk : Z l G M d Q k n (pc + 2) L (.int v :: S) h) : Z l G M d Q k n pc L S h :=
  fun p e R s m args below meth c Qs H locs cells slots ls C hR hS hL hc hn => lv_ldc C.1 C.2.1 C.2.2.2.1 (C.2.2.2.2.1 _ hw) hd (kk p e R s m args below meth c Qs H locs cells slots ls C hR hS hL hc hn)
theorem z_ldcw {ix : Nat} {v : Int32} (hw : Cond.constant (mO M) ix v ∈ zTs) (hd : decode (mC M) pc = .ok (.ldc_w ix, 3)) (kk : Z l G M d Q k n (pc + 3) L (.int v :: S) h) : Z l G M d Q k n pc L S h :=
  fun p e R s m args below meth c Qs H locs cells slots ls C hR hS hL hc hn => lv_ldcw C.1 C.2.1 C.2.2.2.1 (C.2.2.2.2.1 _ hw) hd (kk p e R s m args below meth c Qs H locs cells slots ls C hR hS hL hc hn)
theorem z_ldc2 {ix : Nat} {v : Int64} (hw : Cond.constantLong (mO M) ix v ∈ zTs) (hd : decode (mC M) pc = .ok (.ldc2_w ix, 3)) (kk : Z l G M d Q k n (pc + 3) L (.long v :: S) h) : Z l G M d Q k n pc L S h :=
  fun p e R s m args below meth c Qs H locs cells slots ls C hR hS hL hc hn => lv_ldc2 C.1 C.2.1 C.2.2.2.1 (C.2.2.2.2.1 _ hw) hd (kk p e R s m args below meth c Qs H locs cells slots ls C hR hS hL hc hn)
theorem z_null (hd : decode (mC M) pc = .ok (.aconst_null, 1)) (kk : Z l G M d Q k n (pc + 1) L (va_rf none :: S) h) : Z l G M d Q k n pc L S h :=
  fun p e R s m args below meth c Qs H locs cells slots ls C hR hS hL hc hn => lv_null C.1 C.2.1 hd (kk p e R s m args below meth c Qs H locs cells slots ls C hR hS hL hc hn)
theorem z_iloadn {i : Fin 4} {j : Nat} {x : Int32} (hd : decode (mC M) pc = .ok (.iload_n i, 1)) (hi : (i : Nat) = j) (hv : L[j]? = some (.int x)) (kk : Z l G M d Q k n (pc + 1) L (.int x :: S) h) : Z l G M d Q k n pc L S h :=
  fun p e R s m args below meth c Qs H locs cells slots ls C hR hS hL hc hn => lv_iload_n C.1 C.2.1 hd hi (hL.2.2 _ _ hv rfl) (kk p e R s m args below meth c Qs H locs cells slots ls C hR hS hL hc hn)
theorem z_iload {j : Nat} {x : Int32} (hd : decode (mC M) pc = .ok (.iload j, 2)) (hv : L[j]? = some (.int x)) (kk : Z l G M d Q k n (pc + 2) L (.int x :: S) h) : Z l G M d Q k n pc L S h :=
  fun p e R s m args below meth c Qs H locs cells slots ls C hR hS hL hc hn => lv_iload C.1 C.2.1 hd (hL.2.2 _ _ hv rfl) (kk p e R s m args below meth c Qs H locs cells slots ls C hR hS hL hc hn)
theorem z_lloadn {i : Fin 4} {j : Nat} {x : Int64} (hd : decode (mC M) pc = .ok (.lload_n i, 1)) (hi : (i : Nat) = j) (hv : L[j]? = some (.long x)) (kk : Z l G M d Q k n (pc + 1) L (.long x :: S) h) : Z l G M d Q k n pc L S h :=
  fun p e R s m args below meth c Qs H locs cells slots ls C hR hS hL hc hn => lv_lload_n C.1 C.2.1 hd hi (hL.2.2 _ _ hv rfl) (kk p e R s m args below meth c Qs H locs cells slots ls C hR hS hL hc hn)
theorem z_lload {j : Nat} {x : Int64} (hd : decode (mC M) pc = .ok (.lload j, 2)) (hv : L[j]? = some (.long x)) (kk : Z l G M d Q k n (pc + 2) L (.long x :: S) h) : Z l G M d Q k n pc L S h :=
  fun p e R s m args below meth c Qs H locs cells slots ls C hR hS hL hc hn => lv_lload C.1 C.2.1 hd (hL.2.2 _ _ hv rfl) (kk p e R s m args below meth c Qs H locs cells slots ls C hR hS hL hc hn)
theorem z_aloadn {i : Fin 4} {j : Nat} {x : Option Nat} (hd : decode (mC M) pc = .ok (.aload_n i, 1)) (hi : (i : Nat) = j) (hv : L[j]? = some (va_rf x)) (kk : Z l G M d Q k n (pc + 1) L (va_rf x :: S) h) : Z l G M d Q k n pc L S h := by
  intro p e R s m args below meth c Qs H locs cells slots ls C hR hS hL hc hn
  have k2 := kk p e R s m args below meth c Qs H locs cells slots ls C hR hS hL hc hn
  cases x with
  | none => exact lv_aload_nN C.1 C.2.1 hd hi (hL.2.2 _ _ hv rfl) k2
  | some q => exact lv_aload_n C.1 C.2.1 hd hi (hL.2.2 _ _ hv rfl) k2
theorem z_aload {j : Nat} {x : Option Nat} (hd : decode (mC M) pc = .ok (.aload j, 2)) (hv : L[j]? = some (va_rf x)) (kk : Z l G M d Q k n (pc + 2) L (va_rf x :: S) h) : Z l G M d Q k n pc L S h := by
  intro p e R s m args below meth c Qs H locs cells slots ls C hR hS hL hc hn
  have k2 := kk p e R s m args below meth c Qs H locs cells slots ls C hR hS hL hc hn
  cases x with
  | none => exact lv_aloadN C.1 C.2.1 hd (hL.2.2 _ _ hv rfl) k2
  | some q => exact lv_aload C.1 C.2.1 hd (hL.2.2 _ _ hv rfl) k2
theorem z_istoren {i : Fin 4} {j : Nat} {x : Int32} {L' : List Value} (hd : decode (mC M) pc = .ok (.istore_n i, 1)) (hi : (i : Nat) = j) (hj : j < mL M) (hv : zs1 L j (.int x) = L') (kk : Z l G M d Q k n (pc + 1) L' S h) : Z l G M d Q k n pc L (.int x :: S) h :=
  fun p e R s m args below meth c Qs H locs cells slots ls C hR hS hL hc hn => lv_istore_n C.1 C.2.1 hd hi (zL_has hL) hj rfl fun ls' h' => kk p e R s m args below meth c Qs H locs cells slots ls' C hR hS (hv ▸ zs1_of h') hc hn
theorem z_istore {j : Nat} {x : Int32} {L' : List Value} (hd : decode (mC M) pc = .ok (.istore j, 2)) (hj : j < mL M) (hv : zs1 L j (.int x) = L') (kk : Z l G M d Q k n (pc + 2) L' S h) : Z l G M d Q k n pc L (.int x :: S) h :=
  fun p e R s m args below meth c Qs H locs cells slots ls C hR hS hL hc hn => lv_istore C.1 C.2.1 hd (zL_has hL) hj rfl fun ls' h' => kk p e R s m args below meth c Qs H locs cells slots ls' C hR hS (hv ▸ zs1_of h') hc hn
theorem z_lstoren {i : Fin 4} {j : Nat} {x : Int64} {L' : List Value} (hd : decode (mC M) pc = .ok (.lstore_n i, 1)) (hi : (i : Nat) = j) (hj : j + 1 < mL M) (hv : zs2 L j (.long x) = L') (kk : Z l G M d Q k n (pc + 1) L' S h) : Z l G M d Q k n pc L (.long x :: S) h :=
  fun p e R s m args below meth c Qs H locs cells slots ls C hR hS hL hc hn => lv_lstore_n C.1 C.2.1 hd hi (zL_has hL) hj rfl fun ls' h' => kk p e R s m args below meth c Qs H locs cells slots ls' C hR hS (hv ▸ zs2_of h') hc hn
theorem z_lstore {j : Nat} {x : Int64} {L' : List Value} (hd : decode (mC M) pc = .ok (.lstore j, 2)) (hj : j + 1 < mL M) (hv : zs2 L j (.long x) = L') (kk : Z l G M d Q k n (pc + 2) L' S h) : Z l G M d Q k n pc L (.long x :: S) h :=
  fun p e R s m args below meth c Qs H locs cells slots ls C hR hS hL hc hn => lv_lstore C.1 C.2.1 hd (zL_has hL) hj rfl fun ls' h' => kk p e R s m args below meth c Qs H locs cells slots ls' C hR hS (hv ▸ zs2_of h') hc hn
theorem z_astoren {i : Fin 4} {j : Nat} {x : Option Nat} {L' : List Value} (hd : decode (mC M) pc = .ok (.astore_n i, 1)) (hi : (i : Nat) = j) (hj : j < mL M) (hv : zs1 L j (va_rf x) = L') (kk : Z l G M d Q k n (pc + 1) L' S h) : Z l G M d Q k n pc L (va_rf x :: S) h := by
  intro p e R s m args below meth c Qs H locs cells slots ls C hR hS hL hc hn
  cases x with
  | none => exact lv_astore_nN C.1 C.2.1 hd hi (zL_has hL) hj rfl fun ls' h' => kk p e R s m args below meth c Qs H locs cells slots ls' C hR hS (hv ▸ zs1_of h') hc hn
  | some q => exact lv_astore_n C.1 C.2.1 hd hi (zL_has hL) hj rfl fun ls' h' => kk p e R s m args below meth c Qs H locs cells slots ls' C hR hS (hv ▸ zs1_of h') hc hn
theorem z_astore {j : Nat} {x : Option Nat} {L' : List Value} (hd : decode (mC M) pc = .ok (.astore j, 2)) (hj : j < mL M) (hv : zs1 L j (va_rf x) = L') (kk : Z l G M d Q k n (pc + 2) L' S h) : Z l G M d Q k n pc L (va_rf x :: S) h := by
  intro p e R s m args below meth c Qs H locs cells slots ls C hR hS hL hc hn
  cases x with
  | none => exact lv_astoreN C.1 C.2.1 hd (zL_has hL) hj rfl fun ls' h' => kk p e R s m args below meth c Qs H locs cells slots ls' C hR hS (hv ▸ zs1_of h') hc hn
  | some q => exact lv_astore C.1 C.2.1 hd (zL_has hL) hj rfl fun ls' h' => kk p e R s m args below meth c Qs H locs cells slots ls' C hR hS (hv ▸ zs1_of h') hc hn
theorem z_iinc {j : Nat} {z : Int} {x v : Int32} {L' : List Value} (hd : decode (mC M) pc = .ok (.iinc j z, 3)) (hj : j < mL M) (hx : L[j]? = some (.int x)) (he : x + Int32.ofInt z = v) (hv : zs1 L j (.int v) = L') (kk : Z l G M d Q k n (pc + 3) L' S h) : Z l G M d Q k n pc L S h := by
  intro p e R s m args below meth c Qs H locs cells slots ls C hR hS hL hc hn
  obtain ⟨q, hq⟩ := List.getElem?_of_mem (zps_mem (G := G) hx rfl)
  exact lv_iinc C.1 C.2.1 hd (zL_has hL) (k := q) hq he hj rfl fun ls' h' => kk p e R s m args below meth c Qs H locs cells slots ls' C hR hS (hv ▸ zs1_of (v := .int v) h') hc hn
theorem z_iadd {x y : Int32} (hd : decode (mC M) pc = .ok (.iadd, 1)) (kk : Z l G M d Q k n (pc + 1) L (.int (x + y) :: S) h) : Z l G M d Q k n pc L (.int y :: .int x :: S) h :=
  fun p e R s m args below meth c Qs H locs cells slots ls C hR hS hL hc hn => lv_iadd C.1 C.2.1 hd (kk p e R s m args below meth c Qs H locs cells slots ls C hR hS hL hc hn)
theorem z_isub {x y : Int32} (hd : decode (mC M) pc = .ok (.isub, 1)) (kk : Z l G M d Q k n (pc + 1) L (.int (x - y) :: S) h) : Z l G M d Q k n pc L (.int y :: .int x :: S) h :=
  fun p e R s m args below meth c Qs H locs cells slots ls C hR hS hL hc hn => lv_isub C.1 C.2.1 hd (kk p e R s m args below meth c Qs H locs cells slots ls C hR hS hL hc hn)
theorem z_imul {x y : Int32} (hd : decode (mC M) pc = .ok (.imul, 1)) (kk : Z l G M d Q k n (pc + 1) L (.int (x * y) :: S) h) : Z l G M d Q k n pc L (.int y :: .int x :: S) h :=
  fun p e R s m args below meth c Qs H locs cells slots ls C hR hS hL hc hn => lv_imul C.1 C.2.1 hd (kk p e R s m args below meth c Qs H locs cells slots ls C hR hS hL hc hn)
theorem z_iand {x y : Int32} (hd : decode (mC M) pc = .ok (.iand, 1)) (kk : Z l G M d Q k n (pc + 1) L (.int (x &&& y) :: S) h) : Z l G M d Q k n pc L (.int y :: .int x :: S) h :=
  fun p e R s m args below meth c Qs H locs cells slots ls C hR hS hL hc hn => lv_iand C.1 C.2.1 hd (kk p e R s m args below meth c Qs H locs cells slots ls C hR hS hL hc hn)
theorem z_ior {x y : Int32} (hd : decode (mC M) pc = .ok (.ior, 1)) (kk : Z l G M d Q k n (pc + 1) L (.int (x ||| y) :: S) h) : Z l G M d Q k n pc L (.int y :: .int x :: S) h :=
  fun p e R s m args below meth c Qs H locs cells slots ls C hR hS hL hc hn => lv_ior C.1 C.2.1 hd (kk p e R s m args below meth c Qs H locs cells slots ls C hR hS hL hc hn)
theorem z_ixor {x y : Int32} (hd : decode (mC M) pc = .ok (.ixor, 1)) (kk : Z l G M d Q k n (pc + 1) L (.int (x ^^^ y) :: S) h) : Z l G M d Q k n pc L (.int y :: .int x :: S) h :=
  fun p e R s m args below meth c Qs H locs cells slots ls C hR hS hL hc hn => lv_ixor C.1 C.2.1 hd (kk p e R s m args below meth c Qs H locs cells slots ls C hR hS hL hc hn)
theorem z_ishl {x y : Int32} (hd : decode (mC M) pc = .ok (.ishl, 1)) (kk : Z l G M d Q k n (pc + 1) L (.int (x <<< (y &&& 31)) :: S) h) : Z l G M d Q k n pc L (.int y :: .int x :: S) h :=
  fun p e R s m args below meth c Qs H locs cells slots ls C hR hS hL hc hn => lv_ishl C.1 C.2.1 hd (kk p e R s m args below meth c Qs H locs cells slots ls C hR hS hL hc hn)
theorem z_ishr {x y : Int32} (hd : decode (mC M) pc = .ok (.ishr, 1)) (kk : Z l G M d Q k n (pc + 1) L (.int (x >>> (y &&& 31)) :: S) h) : Z l G M d Q k n pc L (.int y :: .int x :: S) h :=
  fun p e R s m args below meth c Qs H locs cells slots ls C hR hS hL hc hn => lv_ishr C.1 C.2.1 hd (kk p e R s m args below meth c Qs H locs cells slots ls C hR hS hL hc hn)
theorem z_ladd {x y : Int64} (hd : decode (mC M) pc = .ok (.ladd, 1)) (kk : Z l G M d Q k n (pc + 1) L (.long (x + y) :: S) h) : Z l G M d Q k n pc L (.long y :: .long x :: S) h :=
  fun p e R s m args below meth c Qs H locs cells slots ls C hR hS hL hc hn => lv_ladd C.1 C.2.1 hd (kk p e R s m args below meth c Qs H locs cells slots ls C hR hS hL hc hn)
theorem z_lsub {x y : Int64} (hd : decode (mC M) pc = .ok (.lsub, 1)) (kk : Z l G M d Q k n (pc + 1) L (.long (x - y) :: S) h) : Z l G M d Q k n pc L (.long y :: .long x :: S) h :=
  fun p e R s m args below meth c Qs H locs cells slots ls C hR hS hL hc hn => lv_lsub C.1 C.2.1 hd (kk p e R s m args below meth c Qs H locs cells slots ls C hR hS hL hc hn)
theorem z_lmul {x y : Int64} (hd : decode (mC M) pc = .ok (.lmul, 1)) (kk : Z l G M d Q k n (pc + 1) L (.long (x * y) :: S) h) : Z l G M d Q k n pc L (.long y :: .long x :: S) h :=
  fun p e R s m args below meth c Qs H locs cells slots ls C hR hS hL hc hn => lv_lmul C.1 C.2.1 hd (kk p e R s m args below meth c Qs H locs cells slots ls C hR hS hL hc hn)
theorem z_idiv {x y : Int32} (hd : decode (mC M) pc = .ok (.idiv, 1)) (hne : ¬ y = 0) (kk : Z l G M d Q k n (pc + 1) L (.int (x / y) :: S) h) : Z l G M d Q k n pc L (.int y :: .int x :: S) h :=
  fun p e R s m args below meth c Qs H locs cells slots ls C hR hS hL hc hn => lv_idiv C.1 C.2.1 hd hne (kk p e R s m args below meth c Qs H locs cells slots ls C hR hS hL hc hn)
theorem z_irem {x y : Int32} (hd : decode (mC M) pc = .ok (.irem, 1)) (hne : ¬ y = 0) (kk : Z l G M d Q k n (pc + 1) L (.int (x - x / y * y) :: S) h) : Z l G M d Q k n pc L (.int y :: .int x :: S) h :=
  fun p e R s m args below meth c Qs H locs cells slots ls C hR hS hL hc hn => lv_irem C.1 C.2.1 hd hne (kk p e R s m args below meth c Qs H locs cells slots ls C hR hS hL hc hn)
theorem z_ldiv {x y : Int64} (hd : decode (mC M) pc = .ok (.ldiv, 1)) (hne : ¬ y = 0) (kk : Z l G M d Q k n (pc + 1) L (.long (x / y) :: S) h) : Z l G M d Q k n pc L (.long y :: .long x :: S) h :=
  fun p e R s m args below meth c Qs H locs cells slots ls C hR hS hL hc hn => lv_ldiv C.1 C.2.1 hd hne (kk p e R s m args below meth c Qs H locs cells slots ls C hR hS hL hc hn)
theorem z_lrem {x y : Int64} (hd : decode (mC M) pc = .ok (.lrem, 1)) (hne : ¬ y = 0) (kk : Z l G M d Q k n (pc + 1) L (.long (x - x / y * y) :: S) h) : Z l G M d Q k n pc L (.long y :: .long x :: S) h :=
  fun p e R s m args below meth c Qs H locs cells slots ls C hR hS hL hc hn => lv_lrem C.1 C.2.1 hd hne (kk p e R s m args below meth c Qs H locs cells slots ls C hR hS hL hc hn)
theorem z_iushr {x y v : Int32} (hd : decode (mC M) pc = .ok (.iushr, 1)) (hv : (x.toUInt32 >>> (y.toUInt32 &&& Int32.toUInt32 31)).toInt32 = v) (kk : Z l G M d Q k n (pc + 1) L (.int v :: S) h) : Z l G M d Q k n pc L (.int y :: .int x :: S) h :=
  fun p e R s m args below meth c Qs H locs cells slots ls C hR hS hL hc hn => lv_iushr C.1 C.2.1 hd hv (kk p e R s m args below meth c Qs H locs cells slots ls C hR hS hL hc hn)
theorem z_ineg {x : Int32} (hd : decode (mC M) pc = .ok (.ineg, 1)) (kk : Z l G M d Q k n (pc + 1) L (.int (-x) :: S) h) : Z l G M d Q k n pc L (.int x :: S) h :=
  fun p e R s m args below meth c Qs H locs cells slots ls C hR hS hL hc hn => lv_ineg C.1 C.2.1 hd (kk p e R s m args below meth c Qs H locs cells slots ls C hR hS hL hc hn)
theorem z_i2l {x : Int32} {v : Int64} (hd : decode (mC M) pc = .ok (.i2l, 1)) (hv : x.toInt64 = v) (kk : Z l G M d Q k n (pc + 1) L (.long v :: S) h) : Z l G M d Q k n pc L (.int x :: S) h :=
  fun p e R s m args below meth c Qs H locs cells slots ls C hR hS hL hc hn => lv_i2l C.1 C.2.1 hd hv (kk p e R s m args below meth c Qs H locs cells slots ls C hR hS hL hc hn)
theorem z_lcmp {x y : Int64} (hd : decode (mC M) pc = .ok (.lcmp, 1)) (kk : Z l G M d Q k n (pc + 1) L (.int (lg_cmp x y) :: S) h) : Z l G M d Q k n pc L (.long y :: .long x :: S) h :=
  fun p e R s m args below meth c Qs H locs cells slots ls C hR hS hL hc hn => W.lcmp C.1 C.2.1 hd (kk p e R s m args below meth c Qs H locs cells slots ls C hR hS hL hc hn)
theorem z_dup {v : Value} (hd : decode (mC M) pc = .ok (.dup, 1)) (hv : v.category = 1) (kk : Z l G M d Q k n (pc + 1) L (v :: v :: S) h) : Z l G M d Q k n pc L (v :: S) h :=
  fun p e R s m args below meth c Qs H locs cells slots ls C hR hS hL hc hn => lv_dup C.1 C.2.1 hd (by rw [zt_cat]; exact hv) (kk p e R s m args below meth c Qs H locs cells slots ls C hR hS hL hc hn)
theorem z_dup2 {v w : Value} (hd : decode (mC M) pc = .ok (.dup2, 1)) (hv : v.category = 1) (hw : w.category = 1) (kk : Z l G M d Q k n (pc + 1) L (v :: w :: v :: w :: S) h) : Z l G M d Q k n pc L (v :: w :: S) h :=
  fun p e R s m args below meth c Qs H locs cells slots ls C hR hS hL hc hn => lv_dup2_11 C.1 C.2.1 hd (by rw [zt_cat]; exact hv) (by rw [zt_cat]; exact hw) (kk p e R s m args below meth c Qs H locs cells slots ls C hR hS hL hc hn)
theorem z_goto {o : Int} {t : Nat} (hd : decode (mC M) pc = .ok (.goto o, 3)) (ht : (pc : Int) + o = (t : Int)) (kk : Z l G M d Q k n t L S h) : Z l G M d Q k n pc L S h :=
  fun p e R s m args below meth c Qs H locs cells slots ls C hR hS hL hc hn => lv_goto C.1 C.2.1 hd ht (kk p e R s m args below meth c Qs H locs cells slots ls C hR hS hL hc hn)
theorem z_if_eq {x : Int32} {o : Int} {t : Nat} (hd : decode (mC M) pc = .ok (.ifCond .eq o, 3)) (ht : (pc : Int) + o = (t : Int)) (kt : x = 0 → Z l G M d Q k n t L S h) (kf : ¬ x = 0 → Z l G M d Q k n (pc + 3) L S h) : Z l G M d Q k n pc L (.int x :: S) h :=
  fun p e R s m args below meth c Qs H locs cells slots ls C hR hS hL hc hn => lv_if_eq C.1 C.2.1 hd ht (fun q => kt q p e R s m args below meth c Qs H locs cells slots ls C hR hS hL hc hn) (fun q => kf q p e R s m args below meth c Qs H locs cells slots ls C hR hS hL hc hn)
theorem z_icmp_eq {x y : Int32} {o : Int} {t : Nat} (hd : decode (mC M) pc = .ok (.if_icmp .eq o, 3)) (ht : (pc : Int) + o = (t : Int)) (kt : x = y → Z l G M d Q k n t L S h) (kf : ¬ x = y → Z l G M d Q k n (pc + 3) L S h) : Z l G M d Q k n pc L (.int y :: .int x :: S) h :=
  fun p e R s m args below meth c Qs H locs cells slots ls C hR hS hL hc hn => lv_icmp_eq C.1 C.2.1 hd ht (fun q => kt q p e R s m args below meth c Qs H locs cells slots ls C hR hS hL hc hn) (fun q => kf q p e R s m args below meth c Qs H locs cells slots ls C hR hS hL hc hn)
theorem z_if_ne {x : Int32} {o : Int} {t : Nat} (hd : decode (mC M) pc = .ok (.ifCond .ne o, 3)) (ht : (pc : Int) + o = (t : Int)) (kt : ¬ x = 0 → Z l G M d Q k n t L S h) (kf : x = 0 → Z l G M d Q k n (pc + 3) L S h) : Z l G M d Q k n pc L (.int x :: S) h :=
  fun p e R s m args below meth c Qs H locs cells slots ls C hR hS hL hc hn => lv_if_ne C.1 C.2.1 hd ht (fun q => kt q p e R s m args below meth c Qs H locs cells slots ls C hR hS hL hc hn) (fun q => kf q p e R s m args below meth c Qs H locs cells slots ls C hR hS hL hc hn)
theorem z_icmp_ne {x y : Int32} {o : Int} {t : Nat} (hd : decode (mC M) pc = .ok (.if_icmp .ne o, 3)) (ht : (pc : Int) + o = (t : Int)) (kt : ¬ x = y → Z l G M d Q k n t L S h) (kf : x = y → Z l G M d Q k n (pc + 3) L S h) : Z l G M d Q k n pc L (.int y :: .int x :: S) h :=
  fun p e R s m args below meth c Qs H locs cells slots ls C hR hS hL hc hn => lv_icmp_ne C.1 C.2.1 hd ht (fun q => kt q p e R s m args below meth c Qs H locs cells slots ls C hR hS hL hc hn) (fun q => kf q p e R s m args below meth c Qs H locs cells slots ls C hR hS hL hc hn)
theorem z_if_lt {x : Int32} {o : Int} {t : Nat} (hd : decode (mC M) pc = .ok (.ifCond .lt o, 3)) (ht : (pc : Int) + o = (t : Int)) (kt : x.toInt < 0 → Z l G M d Q k n t L S h) (kf : 0 ≤ x.toInt → Z l G M d Q k n (pc + 3) L S h) : Z l G M d Q k n pc L (.int x :: S) h := by
  intro p e R s m args below meth c Qs H locs cells slots ls C hR hS hL hc hn
  have iff : x < (0 : Int32) ↔ x.toInt < (0 : Int32).toInt := Int32.lt_iff_toInt_lt
  exact lv_if_lt C.1 C.2.1 hd ht (fun q => kt (iff.mp q) p e R s m args below meth c Qs H locs cells slots ls C hR hS hL hc hn) (fun q => kf (Int.not_lt.mp (fun z => q (iff.mpr z))) p e R s m args below meth c Qs H locs cells slots ls C hR hS hL hc hn)
theorem z_icmp_lt {x y : Int32} {o : Int} {t : Nat} (hd : decode (mC M) pc = .ok (.if_icmp .lt o, 3)) (ht : (pc : Int) + o = (t : Int)) (kt : x.toInt < y.toInt → Z l G M d Q k n t L S h) (kf : y.toInt ≤ x.toInt → Z l G M d Q k n (pc + 3) L S h) : Z l G M d Q k n pc L (.int y :: .int x :: S) h := by
  intro p e R s m args below meth c Qs H locs cells slots ls C hR hS hL hc hn
  have iff : x < y ↔ x.toInt < y.toInt := Int32.lt_iff_toInt_lt
  exact lv_icmp_lt C.1 C.2.1 hd ht (fun q => kt (iff.mp q) p e R s m args below meth c Qs H locs cells slots ls C hR hS hL hc hn) (fun q => kf (Int.not_lt.mp (fun z => q (iff.mpr z))) p e R s m args below meth c Qs H locs cells slots ls C hR hS hL hc hn)
theorem z_if_ge {x : Int32} {o : Int} {t : Nat} (hd : decode (mC M) pc = .ok (.ifCond .ge o, 3)) (ht : (pc : Int) + o = (t : Int)) (kt : 0 ≤ x.toInt → Z l G M d Q k n t L S h) (kf : x.toInt < 0 → Z l G M d Q k n (pc + 3) L S h) : Z l G M d Q k n pc L (.int x :: S) h := by
  intro p e R s m args below meth c Qs H locs cells slots ls C hR hS hL hc hn
  have iff : (0 : Int32) ≤ x ↔ (0 : Int32).toInt ≤ x.toInt := Int32.le_iff_toInt_le
  exact lv_if_ge C.1 C.2.1 hd ht (fun q => kt (iff.mp q) p e R s m args below meth c Qs H locs cells slots ls C hR hS hL hc hn) (fun q => kf (Int.not_le.mp (fun z => q (iff.mpr z))) p e R s m args below meth c Qs H locs cells slots ls C hR hS hL hc hn)
theorem z_icmp_ge {x y : Int32} {o : Int} {t : Nat} (hd : decode (mC M) pc = .ok (.if_icmp .ge o, 3)) (ht : (pc : Int) + o = (t : Int)) (kt : y.toInt ≤ x.toInt → Z l G M d Q k n t L S h) (kf : x.toInt < y.toInt → Z l G M d Q k n (pc + 3) L S h) : Z l G M d Q k n pc L (.int y :: .int x :: S) h := by
  intro p e R s m args below meth c Qs H locs cells slots ls C hR hS hL hc hn
  have iff : y ≤ x ↔ y.toInt ≤ x.toInt := Int32.le_iff_toInt_le
  exact lv_icmp_ge C.1 C.2.1 hd ht (fun q => kt (iff.mp q) p e R s m args below meth c Qs H locs cells slots ls C hR hS hL hc hn) (fun q => kf (Int.not_le.mp (fun z => q (iff.mpr z))) p e R s m args below meth c Qs H locs cells slots ls C hR hS hL hc hn)
theorem z_if_gt {x : Int32} {o : Int} {t : Nat} (hd : decode (mC M) pc = .ok (.ifCond .gt o, 3)) (ht : (pc : Int) + o = (t : Int)) (kt : 0 < x.toInt → Z l G M d Q k n t L S h) (kf : x.toInt ≤ 0 → Z l G M d Q k n (pc + 3) L S h) : Z l G M d Q k n pc L (.int x :: S) h := by
  intro p e R s m args below meth c Qs H locs cells slots ls C hR hS hL hc hn
  have iff : (0 : Int32) < x ↔ (0 : Int32).toInt < x.toInt := Int32.lt_iff_toInt_lt
  exact lv_if_gt C.1 C.2.1 hd ht (fun q => kt (iff.mp q) p e R s m args below meth c Qs H locs cells slots ls C hR hS hL hc hn) (fun q => kf (Int.not_lt.mp (fun z => q (iff.mpr z))) p e R s m args below meth c Qs H locs cells slots ls C hR hS hL hc hn)
theorem z_icmp_gt {x y : Int32} {o : Int} {t : Nat} (hd : decode (mC M) pc = .ok (.if_icmp .gt o, 3)) (ht : (pc : Int) + o = (t : Int)) (kt : y.toInt < x.toInt → Z l G M d Q k n t L S h) (kf : x.toInt ≤ y.toInt → Z l G M d Q k n (pc + 3) L S h) : Z l G M d Q k n pc L (.int y :: .int x :: S) h := by
  intro p e R s m args below meth c Qs H locs cells slots ls C hR hS hL hc hn
  have iff : y < x ↔ y.toInt < x.toInt := Int32.lt_iff_toInt_lt
  exact lv_icmp_gt C.1 C.2.1 hd ht (fun q => kt (iff.mp q) p e R s m args below meth c Qs H locs cells slots ls C hR hS hL hc hn) (fun q => kf (Int.not_lt.mp (fun z => q (iff.mpr z))) p e R s m args below meth c Qs H locs cells slots ls C hR hS hL hc hn)
theorem z_if_le {x : Int32} {o : Int} {t : Nat} (hd : decode (mC M) pc = .ok (.ifCond .le o, 3)) (ht : (pc : Int) + o = (t : Int)) (kt : x.toInt ≤ 0 → Z l G M d Q k n t L S h) (kf : 0 < x.toInt → Z l G M d Q k n (pc + 3) L S h) : Z l G M d Q k n pc L (.int x :: S) h := by
  intro p e R s m args below meth c Qs H locs cells slots ls C hR hS hL hc hn
  have iff : x ≤ (0 : Int32) ↔ x.toInt ≤ (0 : Int32).toInt := Int32.le_iff_toInt_le
  exact lv_if_le C.1 C.2.1 hd ht (fun q => kt (iff.mp q) p e R s m args below meth c Qs H locs cells slots ls C hR hS hL hc hn) (fun q => kf (Int.not_le.mp (fun z => q (iff.mpr z))) p e R s m args below meth c Qs H locs cells slots ls C hR hS hL hc hn)
theorem z_icmp_le {x y : Int32} {o : Int} {t : Nat} (hd : decode (mC M) pc = .ok (.if_icmp .le o, 3)) (ht : (pc : Int) + o = (t : Int)) (kt : x.toInt ≤ y.toInt → Z l G M d Q k n t L S h) (kf : y.toInt < x.toInt → Z l G M d Q k n (pc + 3) L S h) : Z l G M d Q k n pc L (.int y :: .int x :: S) h := by
  intro p e R s m args below meth c Qs H locs cells slots ls C hR hS hL hc hn
  have iff : x ≤ y ↔ x.toInt ≤ y.toInt := Int32.le_iff_toInt_le
  exact lv_icmp_le C.1 C.2.1 hd ht (fun q => kt (iff.mp q) p e R s m args below meth c Qs H locs cells slots ls C hR hS hL hc hn) (fun q => kf (Int.not_le.mp (fun z => q (iff.mpr z))) p e R s m args below meth c Qs H locs cells slots ls C hR hS hL hc hn)
theorem z_ifnull {x : Option Nat} {o : Int} {t : Nat} (hd : decode (mC M) pc = .ok (.ifnull o, 3)) (ht : (pc : Int) + o = (t : Int)) (kt : x = none → Z l G M d Q k n t L S h) (kf : ∀ q, x = some q → Z l G M d Q k n (pc + 3) L S h) : Z l G M d Q k n pc L (va_rf x :: S) h := by
  intro p e R s m args below meth c Qs H locs cells slots ls C hR hS hL hc hn
  cases x with
  | none => exact lv_ifnullN C.1 C.2.1 hd ht (kt rfl p e R s m args below meth c Qs H locs cells slots ls C hR hS hL hc hn)
  | some q => exact lv_ifnull C.1 C.2.1 hd (kf q rfl p e R s m args below meth c Qs H locs cells slots ls C hR hS hL hc hn)
theorem z_ifnonnull {x : Option Nat} {o : Int} {t : Nat} (hd : decode (mC M) pc = .ok (.ifnonnull o, 3)) (ht : (pc : Int) + o = (t : Int)) (kt : ∀ q, x = some q → Z l G M d Q k n t L S h) (kf : x = none → Z l G M d Q k n (pc + 3) L S h) : Z l G M d Q k n pc L (va_rf x :: S) h := by
  intro p e R s m args below meth c Qs H locs cells slots ls C hR hS hL hc hn
  cases x with
  | none => exact lv_ifnonnullN C.1 C.2.1 hd (kf rfl p e R s m args below meth c Qs H locs cells slots ls C hR hS hL hc hn)
  | some q => exact lv_ifnonnull C.1 C.2.1 hd ht (kt q rfl p e R s m args below meth c Qs H locs cells slots ls C hR hS hL hc hn)
theorem z_tsw {df lo hi : Int} {offs : Array Int} {len : Nat} {x : Int32} {td : Nat} {ts : List Nat} (hd : decode (mC M) pc = .ok (.tableswitch df lo hi offs, len)) (htd : (pc : Int) + df = (td : Int)) (hts : offs.toList.map (fun o => (pc : Int) + o) = ts.map (fun t : Nat => (t : Int))) (hhi : hi + 1 = lo + (ts.length : Int))
    (kd : (x.toInt < lo ∨ hi < x.toInt) → Z l G M d Q k n td L S h) (kk : ∀ (i t : Nat), ts[i]? = some t → x.toInt = lo + (i : Int) → Z l G M d Q k n t L S h) : Z l G M d Q k n pc L (.int x :: S) h := by
  intro p e R s m args below meth c Qs H locs cells slots ls C hR hS hL hc hn
  by_cases h1 : x.toInt < lo
  · exact lv_tableOut C.1 C.2.1 hd (Or.inl h1) htd (kd (Or.inl h1) p e R s m args below meth c Qs H locs cells slots ls C hR hS hL hc hn)
  by_cases h2 : hi < x.toInt
  · exact lv_tableOut C.1 C.2.1 hd (Or.inr h2) htd (kd (Or.inr h2) p e R s m args below meth c Qs H locs cells slots ls C hR hS hL hc hn)
  have hi9 : (x.toInt - lo).toNat < ts.length := by omega
  have ht : ts[(x.toInt - lo).toNat]? = some ts[(x.toInt - lo).toNat] := List.getElem?_eq_getElem hi9
  have ho : (offs.toList.map (fun o => (pc : Int) + o))[(x.toInt - lo).toNat]? = some ((ts[(x.toInt - lo).toNat] : Nat) : Int) := by rw [hts, List.getElem?_map, ht]; rfl
  rw [List.getElem?_map] at ho
  cases hof : offs.toList[(x.toInt - lo).toNat]? with
  | none => rw [hof] at ho; cases ho
  | some o =>
    rw [hof] at ho
    rw [Array.getElem?_toList] at hof
    exact lv_tableIn C.1 C.2.1 hd h1 h2 hof (Option.some.inj ho) (kk _ _ ht (by omega) p e R s m args below meth c Qs H locs cells slots ls C hR hS hL hc hn)
theorem z_lsw {df : Int} {ps : Array (Int × Int)} {len : Nat} {x : Int32} {t : Nat} {o : Int} (hd : decode (mC M) pc = .ok (.lookupswitch df ps, len)) (hp : (ps.toList.zip (ps.toList.drop 1)).all (fun (a, next) => a.1 < next.1) = true) (ho : Op.lookupswitch.offset ps.toList df x.toInt = o) (ht : (pc : Int) + o = (t : Int)) (kk : Z l G M d Q k n t L S h) : Z l G M d Q k n pc L (.int x :: S) h :=
  fun p e R s m args below meth c Qs H locs cells slots ls C hR hS hL hc hn => lv_lookup C.1 C.2.1 hd hp ho ht (kk p e R s m args below meth c Qs H locs cells slots ls C hR hS hL hc hn)
/-- the method's end -/
theorem z_ret {v : Option Value} (hd : decode (mC M) pc = .ok (zretI (mR M), 1)) (hf : zfits (mR M) v) (hv : v.toList = S) (hQ : Q v h) : Z l G M d Q k n pc L S h := by
  intro p e R s m args below meth c Qs H locs cells slots ls C hR hS hL hc hn
  subst hv
  have := C.2.2.2.2.2.2.2.2.2 v h H locs cells slots pc ls hQ hf hR hS (by omega) (by omega) hd
  cases v <;> exact this
theorem z_mono {k' n' : Nat} (hk : k ≤ k') (hn : n ≤ n') (kk : Z l G M d Q k n pc L S h) : Z l G M d Q k' n' pc L S h :=
  fun p e R s m args below meth c Qs H locs cells slots ls C hR hS hL hc hs => kk p e R s m args below meth c Qs H locs cells slots ls C hR hS hL (by omega) (by omega)
end ZR
/-! ===== the rows of Z: heap ===== -/
theorem va_one {D : va_G} {a : Nat} {e : va_E} {H : Heap} (h : va_at D zcl (a, e) H) : va_P D zcl [(a, e)] H := by
  intro k q hq
  match k, hq with
  | 0, hq => cases hq; exact h
theorem zV_get {n j : Nat} {f : Nat → Value} (h : j < n) : vp_V ((List.range n).map f) j = f j := by
  unfold vp_V
  rw [List.getD_eq_getElem?_getD, List.getElem?_map, List.getElem?_range h]
  rfl
theorem zfs_at {n j : Nat} {f : Nat → Value} (h : j < n) : ((List.range n).map f)[j]? = some (f j) := by
  rw [List.getElem?_map, List.getElem?_range h]; rfl
theorem zat_in {kd : Nat} {ty : FieldType} (i : Nat) (h : zat[i]? = some (kd, ty)) (G : zG) : (zat.map fun q => (gy G q.1, q.2))[i]? = some (gy G kd, ty) := by
  rw [List.getElem?_map, h]; rfl
/-- an array of ints: the class's own, or one of the read-only ones -/
def zAr (h : zH) (a n : Nat) : Prop := (zK h a).2 = n ∧ ((zK h a).1 = 1 ∧ a < zN h ∨ 1000000 ≤ a ∧ a < 1000004)
def zAw (h : zH) (a n : Nat) : Prop := zK h a = (1, n) ∧ a < zN h
theorem zAw.r {h : zH} {a n : Nat} (q : zAw h a n) : zAr h a n := ⟨by rw [q.1], Or.inl ⟨by rw [q.1], q.2⟩⟩
/-- an object of class ci -/
def zOb (h : zH) (a ci : Nat) : Prop := (∃ r, zcl[ci]? = some r ∧ zK h a = (200 + ci, r.2.2)) ∧ a < zN h
def zni (c : Int32 × Nat) : Prop := 0 ≤ c.1.toInt ∧ c.1.toInt < c.2
theorem zin_of {i : Int32} {n : Nat} (h0 : 0 ≤ i.toInt) (h1 : i.toInt < n) : vp_in i n := vp_in_iff.mpr ⟨h0, h1⟩
def zix (i : Int32) : Nat := i.toInt.toNat
theorem zix_eq (i : Int32) : i.toNatClampNeg = zix i := rfl
theorem zRel.at {G : zG} {h : zH} {H : Heap} (hR : zRel G h H) {a : Nat} (ha : a < zN h) : va_at (gD G) zcl (gB G + a, zE G h a) H := hR.2.2.1 a ha
theorem zE_arr {G : zG} {h : zH} {a : Nat} (hk : (zK h a).1 < 50) : zE G h a = .inl (gy G (zK h a).1, (zK h a).2, .inl (zI h a)) := if_pos hk
theorem zE_ref {G : zG} {h : zH} {a : Nat} (h1 : ¬ (zK h a).1 < 50) (h2 : (zK h a).1 < 200) : zE G h a = .inl (gy G (zK h a).1, (zK h a).2, .inr (.inr (.inr (.inr (fun j => (zR h a j).map (zf G)))))) := by
  unfold zE
  rw [if_neg h1, if_pos h2]
theorem zE_ob {G : zG} {h : zH} {a ci n : Nat} (hk : zK h a = (200 + ci, n)) : zE G h a = .inr (ci, (List.range n).map (zfv G h ci a)) := by
  unfold zE
  rw [hk]
  dsimp only
  rw [if_neg (by omega), if_neg (by omega), show 200 + ci - 200 = ci by omega]
theorem zRel.ro {G : zG} {h : zH} {H : Heap} (hR : zRel G h H) {a n : Nat} (h1 : 1000000 ≤ a) (h2 : a < 1000004) (hn : (zK h a).2 = n) : n = (gO G (a - 1000000)).1 ∧ ∀ j, zI h a j = (gO G (a - 1000000)).2 j := by
  have := hR.2.2.2 (a - 1000000) (by omega)
  rw [show 1000000 + (a - 1000000) = a by omega] at this
  rw [this.1] at hn
  exact ⟨hn.symm, this.2⟩
section ZH
variable {l : Launch} {G : zG} {M : zM} {d : Nat} {Q : Option Value → zH → Prop} {k n pc : Nat} {L S : List Value} {h : zH}
theorem z_iald {a N : Nat} {i : Int32} (hd : decode (mC M) pc = .ok (.iaload, 1)) (ha : zAr h a N) (h0 : 0 ≤ i.toInt) (h1 : i.toInt < N) (kk : Z l G M d Q k n (pc + 1) L (.int (zI h a (zix i)) :: S) h) : Z l G M d Q k n pc L (.int i :: va_rf (some a) :: S) h := by
  intro p e R s m args below meth c Qs H locs cells slots ls C hR hS hL hc hn
  have k2 := kk p e R s m args below meth c Qs H locs cells slots ls C hR hS hL hc hn
  obtain ⟨hN, ⟨hk, hl⟩ | ⟨h5, h6⟩⟩ := ha
  · have hat := hR.at hl
    rw [zE_arr (by omega)] at hat
    show W p l e R s m args below meth c H locs cells slots Qs (F0 m pc ls (.int i :: .ref (zf G a) :: S.map (zt G)))
    have hl9 := hR.2.1
    rw [zf_lt (by omega)]
    rw [hk, hN] at hat
    exact va_iald C.1 C.2.1 C.2.2.2.2.2.1.1.1 (va_one hat) 0 0 rfl (zat_in 0 rfl G) (zin_of h0 h1) hd k2
  · obtain ⟨e1, e2⟩ := hR.ro h5 h6 hN
    obtain ⟨cell, c1, c2, c3, c4, c5, c6, c7⟩ := ((C.2.2.2.2.2.1.2.1.1 (a - 1000000) (by omega)).kept hS.2.1)
    show W p l e R s m args below meth c H locs cells slots Qs (F0 m pc ls (.int i :: .ref (zf G a) :: S.map (zt G)))
    have ef : zf G a = gX G (a - 1000000) := if_neg (by omega)
    rw [ef]
    have hv := zin_of h0 h1
    have hlt : i.toNatClampNeg < N := Nat.not_le.mp fun q => hv (Or.inr q)
    refine W.iald C.1 C.2.1 c1 c2 c3 (fun q => hv (q.elim Or.inl (fun q => Or.inr (by omega)))) (c6 _ (by omega)) rfl rfl hd ?_
    have e3 := e2 (zix i)
    have k3 : W p l e R s m args below meth c H locs cells slots Qs (F0 m (pc + 1) ls (.int (zI h a (zix i)) :: S.map (zt G))) := k2
    rw [e3] at k3
    exact k3
theorem z_alen {a N : Nat} {v : Int32} (hd : decode (mC M) pc = .ok (.arraylength, 1)) (ha : zAr h a N) (hv : Int32.ofNat N = v) (kk : Z l G M d Q k n (pc + 1) L (.int v :: S) h) : Z l G M d Q k n pc L (va_rf (some a) :: S) h := by
  intro p e R s m args below meth c Qs H locs cells slots ls C hR hS hL hc hn
  have k2 := kk p e R s m args below meth c Qs H locs cells slots ls C hR hS hL hc hn
  obtain ⟨hN, ⟨hk, hl⟩ | ⟨h5, h6⟩⟩ := ha
  · have hat := hR.at hl
    rw [zE_arr (by omega)] at hat
    show W p l e R s m args below meth c H locs cells slots Qs (F0 m pc ls (.ref (zf G a) :: S.map (zt G)))
    have hl9 := hR.2.1
    rw [zf_lt (by omega)]
    rw [hk, hN] at hat
    exact va_alen C.1 C.2.1 C.2.2.2.2.2.1.1.1 (va_one hat) 0 0 rfl (zat_in 0 rfl G) hv hd k2
  · obtain ⟨e1, e2⟩ := hR.ro h5 h6 hN
    obtain ⟨cell, c1, c2, c3, c4, c5, c6, c7⟩ := ((C.2.2.2.2.2.1.2.1.1 (a - 1000000) (by omega)).kept hS.2.1)
    show W p l e R s m args below meth c H locs cells slots Qs (F0 m pc ls (.ref (zf G a) :: S.map (zt G)))
    have ef : zf G a = gX G (a - 1000000) := if_neg (by omega)
    rw [ef]
    exact W.alen C.1 C.2.1 c1 c2 (c5.trans (by rw [← e1]; exact hv)) rfl rfl hd k2
/-- the length of an array of another kind, by its place in zat -/
theorem z_alenk {a kd N : Nat} {ty : FieldType} {v : Int32} (t : Nat) (ht : zat[t]? = some (kd, ty)) (hkd : kd < 200) (hd : decode (mC M) pc = .ok (.arraylength, 1)) (hk : zK h a = (kd, N)) (hl : a < zN h) (hv : Int32.ofNat N = v) (kk : Z l G M d Q k n (pc + 1) L (.int v :: S) h) : Z l G M d Q k n pc L (va_rf (some a) :: S) h := by
  intro p e R s m args below meth c Qs H locs cells slots ls C hR hS hL hc hn
  have k2 := kk p e R s m args below meth c Qs H locs cells slots ls C hR hS hL hc hn
  have hat := hR.at hl
  show W p l e R s m args below meth c H locs cells slots Qs (F0 m pc ls (.ref (zf G a) :: S.map (zt G)))
  have hl9 := hR.2.1
  rw [zf_lt (by omega)]
  by_cases h5 : kd < 50
  · rw [zE_arr (by rw [hk]; exact h5), hk] at hat
    exact va_alen C.1 C.2.1 C.2.2.2.2.2.1.1.1 (va_one hat) 0 t rfl (zat_in t ht G) hv hd k2
  · rw [zE_ref (by rw [hk]; exact h5) (by rw [hk]; exact hkd), hk] at hat
    exact va_alen C.1 C.2.1 C.2.2.2.2.2.1.1.1 (va_one hat) 0 t rfl (zat_in t ht G) hv hd k2
theorem z_bald {a N : Nat} {i : Int32} (hd : decode (mC M) pc = .ok (.baload, 1)) (hk : zK h a = (2, N)) (hl : a < zN h) (h0 : 0 ≤ i.toInt) (h1 : i.toInt < N) (kk : Z l G M d Q k n (pc + 1) L (.int (zI h a (zix i)) :: S) h) : Z l G M d Q k n pc L (.int i :: va_rf (some a) :: S) h := by
  intro p e R s m args below meth c Qs H locs cells slots ls C hR hS hL hc hn
  have k2 := kk p e R s m args below meth c Qs H locs cells slots ls C hR hS hL hc hn
  have hat := hR.at hl
  rw [zE_arr (by rw [hk]; omega), hk] at hat
  show W p l e R s m args below meth c H locs cells slots Qs (F0 m pc ls (.int i :: .ref (zf G a) :: S.map (zt G)))
  have hl9 := hR.2.1
  rw [zf_lt (by omega)]
  exact va_zald C.1 C.2.1 C.2.2.2.2.2.1.1.1 (va_one hat) 0 1 rfl (zat_in 1 rfl G) (zin_of h0 h1) hd k2
theorem z_aald {a kd N : Nat} {Cn : String} {i : Int32} (t : Nat) (ht : zat[t]? = some (kd, .object Cn)) (hkd : 50 ≤ kd ∧ kd < 200) (hd : decode (mC M) pc = .ok (.aaload, 1)) (hk : zK h a = (kd, N)) (hl : a < zN h) (h0 : 0 ≤ i.toInt) (h1 : i.toInt < N) (kk : Z l G M d Q k n (pc + 1) L (va_rf (zR h a (zix i)) :: S) h) : Z l G M d Q k n pc L (.int i :: va_rf (some a) :: S) h := by
  intro p e R s m args below meth c Qs H locs cells slots ls C hR hS hL hc hn
  have k2 := kk p e R s m args below meth c Qs H locs cells slots ls C hR hS hL hc hn
  have hat := hR.at hl
  rw [zE_ref (by rw [hk]; dsimp only; omega) (by rw [hk]; exact hkd.2), hk] at hat
  show W p l e R s m args below meth c H locs cells slots Qs (F0 m pc ls (.int i :: .ref (zf G a) :: S.map (zt G)))
  have hl9 := hR.2.1
  rw [zf_lt (by omega)]
  refine va_aldq C.1 C.2.1 C.2.2.2.2.2.1.1.1 (va_one hat) 0 t rfl (zat_in t ht G) (zin_of h0 h1) hd ?_
  have k3 : W p l e R s m args below meth c H locs cells slots Qs (F0 m (pc + 1) ls (zt G (va_rf (zR h a (zix i))) :: S.map (zt G))) := k2
  rw [zix_eq]
  cases hz : zR h a (zix i) with
  | none => rw [hz] at k3; exact k3
  | some q => rw [hz] at k3; exact k3
theorem zfv_t {G : zG} {h : zH} {ci a j : Nat} (hr : zrf ci j = true) : zfv G h ci a j = zt G (va_rf (zR h a j)) := by
  unfold zfv
  rw [if_pos hr]
  cases zR h a j <;> rfl
theorem zfv_i {G : zG} {h : zH} {ci a j : Nat} (hr : zrf ci j = false) : zfv G h ci a j = .int (zI h a j) := by
  unfold zfv
  rw [if_neg (by rw [hr]; decide)]
end ZH
