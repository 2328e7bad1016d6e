set_option maxRecDepth 4000
/-! ===== an array of rows of ints, all new (multianewarray with two lengths) ===== -/
def nmI (cy : ClassId) (K : Nat) : Cell := arrV cy K (fun _ => .int 0)
def nmO (cA : ClassId) (N b i : Nat) : Cell := arrV cA N (fun j => va_rf (if j < i then some (b + 1 + j) else none))
theorem nmO_s (cA : ClassId) (N b i : Nat) : (nmO cA N b i).setSlot i (.ref (b + 1 + i)) = nmO cA N b (i + 1) := by
  unfold nmO
  rw [arrV_store]
  refine congrArg (arrV cA N) (funext fun j => ?_)
  by_cases e : j = i
  · subst e; simp [updV, va_rf]
  · by_cases q : j < i
    · simp [updV, e, q, Nat.lt_succ_of_lt q]
    · simp [updV, e, q, show ¬ j < i + 1 by omega]
theorem nmO_0 (cA : ClassId) (N b : Nat) : ({ cls := cA, slots := Array.replicate N .null, vm := .none } : Cell) = nmO cA N b 0 := by
  rw [arrV_new]
  refine congrArg (arrV cA N) (funext fun j => ?_)
  rw [if_neg (by omega)]
  rfl
def nmF (s : State) (cA cy : ClassId) (N K : Nat) : Nat → State
  | 0 => s.pushCell (nmO cA N s.heap.size 0)
  | i + 1 => ((nmF s cA cy N K i).pushCell (nmI cy K)).setCell s.heap.size ((nmO cA N s.heap.size i).setSlot i (.ref (s.heap.size + 1 + i)))
theorem nmF_f (s : State) (cA cy : ClassId) (N K : Nat) : ∀ i, (nmF s cA cy N K i).heap.size = s.heap.size + 1 + i ∧ (nmF s cA cy N K i).heap[s.heap.size]? = some (nmO cA N s.heap.size i) ∧ (nmF s cA cy N K i).vm = s.vm ∧ (nmF s cA cy N K i).slotsUsed = s.slotsUsed + N + i * K
  | 0 => ⟨by simp [nmF], by simp [nmF], rfl, by simp [nmF, nmO, arrV]⟩
  | i + 1 => by
    obtain ⟨a, b, d, u⟩ := nmF_f s cA cy N K i
    have hlt : s.heap.size < (nmF s cA cy N K i).heap.size := by omega
    have hb : ((nmF s cA cy N K i).pushCell (nmI cy K)).heap[s.heap.size]? = some (nmO cA N s.heap.size i) := by rw [State.heap_pushCell_of_lt (h := hlt)]; exact b
    refine ⟨?_, ?_, by simp [nmF, d], ?_⟩
    · simp [nmF, State.setCell, a]; omega
    · rw [← nmO_s]
      exact State.heap_setCell_self hb
    · simp [nmF, u, nmI, arrV, Nat.succ_mul]; omega
theorem nmF_setTop (s : State) (f : JFrame) (cA cy : ClassId) (N K : Nat) : ∀ i, nmF (s.setTop f) cA cy N K i = (nmF s cA cy N K i).setTop f
  | 0 => rfl
  | i + 1 => by simp only [nmF, nmF_setTop s f cA cy N K i, State.heap_setTop, State.pushCell_setTop, State.setCell_setTop]
section NMW
variable {E : CtlPost} {e : Env} {d : Bool} {acts : List Action} {s : State}
theorem nm_new {c comp : ClassId} {k : Class} {type : FieldType} {len : Nat} {init : Value} (hk : s.vm.classes[c]? = some k) (hkind : k.kind = .array comp type) (hlimit : ¬ len > e.platform.arrayLengthLimit) (hheap : ¬ len * componentBytes type > e.platform.maxHeapBytes) (hfit : fits type init = true) (hdef : init.isDefault = true) {Q : Addr → Pre}
    (h1 : s.heap.size < e.platform.maxCells) (h2 : s.slotsUsed + len ≤ e.platform.maxSlots) (hq : Q s.heap.size d acts (s.pushCell { cls := c, slots := Array.replicate len init, vm := .none })) : wp (Jvm.newArray c len init) Q E e d acts s := by
  have hall : ((Array.replicate len init).all (·.isDefault)) = true := by rw [Array.all_replicate]; split <;> simp [hdef]
  have hda : allocActs (Array.replicate len init) s.heap.size acts = acts := by unfold allocActs; rw [if_pos hall]
  simp only [Jvm.newArray, Jvm.arrayFits, wp_bind', W.ask, W.ite, hlimit, if_false, wp_pure', W.theClass, hk, hkind, hheap, W.alloc, W.stop, Option.some.injEq, exists_eq_left', Array.size_replicate, hda]
  rw [if_neg (by omega)]
  refine ⟨h1, h2, fun i v hv => ?_, hq⟩
  simp only [Array.getElem?_replicate] at hv
  split at hv
  · cases hv; simp [State.fitsSlot, State.slotType?, hk, hkind, hfit]
  · cases hv
theorem nm_make1 {comp cc : ClassId} {kc : Class} {m : Int32} {K : Nat} (hkc : s.vm.classes[comp]? = some kc) (hkindc : kc.kind = .array cc .int) (hm : ¬ m < 0) (hK : m.toNatClampNeg = K) (hl2 : ¬ K > e.platform.arrayLengthLimit) (hh2 : ¬ K * 4 > e.platform.maxHeapBytes)
    (h1 : s.heap.size < e.platform.maxCells) (h2 : s.slotsUsed + K ≤ e.platform.maxSlots) {Q : Addr → Pre} (hq : Q s.heap.size d acts (s.pushCell (nmI comp K))) : wp (multianewarray.make comp [m]) Q E e d acts s := by
  subst hK
  rw [multianewarray.make]
  simp only [wp_bind', W.ite, hm, if_false, wp_pure', W.theClass, hkc, hkindc, Option.some.injEq, exists_eq_left']
  refine nm_new hkc hkindc hl2 hh2 rfl rfl h1 h2 ?_
  rw [arrV_new]
  exact hq
theorem nm_make {c comp cc : ClassId} {k kc : Class} {n m : Int32} {N K : Nat} (hk : s.vm.classes[c]? = some k) (hkind : k.kind = .array comp (.array .int)) (hkc : s.vm.classes[comp]? = some kc) (hkindc : kc.kind = .array cc .int) (hn : ¬ n < 0) (hm : ¬ m < 0) (hN : n.toNatClampNeg = N) (hK : m.toNatClampNeg = K)
    (hl1 : ¬ N > e.platform.arrayLengthLimit) (hh1 : ¬ N * 4 > e.platform.maxHeapBytes) (hl2 : ¬ K > e.platform.arrayLengthLimit) (hh2 : ¬ K * 4 > e.platform.maxHeapBytes)
    (hc : s.heap.size + 1 + N ≤ e.platform.maxCells) (hs : s.slotsUsed + N + N * K ≤ e.platform.maxSlots) {Q : Addr → Pre} (hq : ∀ d' acts', Q s.heap.size d' acts' (nmF s c comp N K N)) : wp (multianewarray.make c [n, m]) Q E e d acts s := by
  subst hN; subst hK
  have hfind : ([m].find? (· < 0)) = none := by simp [hm]
  rw [multianewarray.make]
  simp only [wp_bind', W.ite, hn, if_false, wp_pure', W.theClass, hk, hkind, Option.some.injEq, exists_eq_left']
  refine nm_new hk hkind hl1 hh1 rfl rfl (by omega) (by have := Nat.zero_le (n.toNatClampNeg * m.toNatClampNeg); omega) ?_
  rw [nmO_0 c n.toNatClampNeg s.heap.size]
  simp only [hfind]
  rw [ite_self, wp_bind', Std.Legacy.Range.forIn_eq_forIn_range']
  rw [show ([:n.toNatClampNeg] : Std.Legacy.Range).size = n.toNatClampNeg by simp [Std.Legacy.Range.size]]
  show wp (forIn (List.range' 0 n.toNatClampNeg 1) PUnit.unit _) _ E e d acts _
  refine wp_forIn_inv (fun rest s' => ∃ i, i ≤ n.toNatClampNeg ∧ rest = List.range' i (n.toNatClampNeg - i) ∧ s' = nmF s c comp n.toNatClampNeg m.toNatClampNeg i) _ _ ⟨0, Nat.zero_le _, rfl, rfl⟩ ?_ ?_
  · rintro x rest s' d' acts' Q' ⟨i, hi, hl, rfl⟩ hnext
    have hlt : i < n.toNatClampNeg := by
      rcases Nat.lt_or_ge i n.toNatClampNeg with h | h
      · exact h
      · rw [show n.toNatClampNeg - i = 0 from by omega] at hl; simp at hl
    rw [show n.toNatClampNeg - i = (n.toNatClampNeg - (i + 1)) + 1 from by omega, List.range'_succ] at hl
    obtain ⟨rfl, hrest⟩ := List.cons.inj hl
    obtain ⟨f1, f2, f3, f4⟩ := nmF_f s c comp n.toNatClampNeg m.toNatClampNeg x
    have hmul : x * m.toNatClampNeg + m.toNatClampNeg ≤ n.toNatClampNeg * m.toNatClampNeg := by
      have := Nat.mul_le_mul_right m.toNatClampNeg (show x + 1 ≤ n.toNatClampNeg from hlt)
      rw [Nat.succ_mul] at this; exact this
    have hlt0 : s.heap.size < (nmF s c comp n.toNatClampNeg m.toNatClampNeg x).heap.size := by rw [f1]; omega
    simp only [wp_bind']
    refine nm_make1 (by rw [f3]; exact hkc) hkindc hm rfl hl2 hh2 (by rw [f1]; omega) (by rw [f4]; omega) ?_
    simp only [wp_bind', W.writeLoc, wp_pure']
    refine ⟨nmO c n.toNatClampNeg s.heap.size x, by rw [State.heap_pushCell_of_lt (h := hlt0)]; exact f2, by simp [nmO, arrV], by simp only [nmO, arrV_size]; exact hlt, ?_, hnext _ _ _ ⟨x + 1, hlt, hrest, ?_⟩⟩
    · simp [nmO, arrV, State.fitsSlot, State.slotType?, f3, hk, hkind, fits]
    · rw [f1]; rfl
  · rintro s' d' acts' ⟨i, hi, hl, rfl⟩
    have hiN : i = n.toNatClampNeg := by
      rcases Nat.lt_or_ge i n.toNatClampNeg with h | h
      · rw [show n.toNatClampNeg - i = (n.toNatClampNeg - (i + 1)) + 1 from by omega, List.range'_succ] at hl; cases hl
      · omega
    subst hiN
    simp only [wp_pure']
    exact hq _ _
end NMW
section NMS
variable {p : Program} {l : Launch} {e : Env} {R : Room} {s : State} {m : MethodId} {args : Array Value} {below : List Frame} {meth : Method} {c : Code} {T : State} {locs : List Loc} {cells slots : Nat}
theorem nm_stand (X : Stand p l e R s m args below meth c T locs cells slots) (cA cy : ClassId) (N K : Nat) : ∀ i, Stand p l e R s m args below meth c (nmF T cA cy N K i) (locs ++ (List.range i).map fun j => ⟨T.heap.size, j⟩) (cells + 1 + i) (slots + N + i * K)
  | 0 => by
    have h := X.pushed (nmO cA N T.heap.size 0)
    rw [show (nmO cA N T.heap.size 0).slots.size = N by simp [nmO, arrV]] at h
    simpa [nmF] using h
  | i + 1 => by
    have Xi := nm_stand X cA cy N K i
    obtain ⟨f1, f2, f3, f4⟩ := nmF_f T cA cy N K i
    have hlt0 : T.heap.size < (nmF T cA cy N K i).heap.size := by rw [f1]; omega
    have hcell : ((nmF T cA cy N K i).pushCell (nmI cy K)).heap[T.heap.size]? = some (nmO cA N T.heap.size i) := by rw [State.heap_pushCell_of_lt (h := hlt0)]; exact f2
    have h := (Xi.pushed (nmI cy K)).stored hcell i (.ref (T.heap.size + 1 + i))
    rw [show (nmI cy K).slots.size = K by simp [nmI, arrV]] at h
    rw [show (locs ++ (List.range (i + 1)).map fun j => (⟨T.heap.size, j⟩ : Loc)) = (locs ++ (List.range i).map fun j => (⟨T.heap.size, j⟩ : Loc)) ++ [⟨T.heap.size, i⟩] by simp [List.range_succ, List.append_assoc], show slots + N + (i + 1) * K = slots + N + i * K + K by rw [Nat.succ_mul]; omega]
    exact h
end NMS
/-- the same among the abstract heaps -/
def zmf (h : zH) (N K : Nat) : Nat → zH
  | 0 => zal h 99 N
  | i + 1 => zwR (zal (zmf h N K i) 1 K) (zN h) i (some (zN h + 1 + i))
theorem zmf_N (h : zH) (N K : Nat) : ∀ i, zN (zmf h N K i) = zN h + 1 + i ∧ zK (zmf h N K i) (zN h) = (99, N) ∧ ∀ j, zR (zmf h N K i) (zN h) j = if j < i then some (zN h + 1 + j) else none
  | 0 => ⟨rfl, zK_al, fun j => by rw [if_neg (by omega)]; exact if_pos rfl⟩
  | i + 1 => by
    obtain ⟨a, b, c⟩ := zmf_N h N K i
    refine ⟨by show zN (zmf h N K i) + 1 = _; omega, ?_, fun j => ?_⟩
    · show zK (zal (zmf h N K i) 1 K) (zN h) = _
      rw [zK_alo (by omega)]; exact b
    · show zR (zwR (zal (zmf h N K i) 1 K) (zN h) i (some (zN h + 1 + i))) (zN h) j = _
      rw [zR_w]
      by_cases e : j = i
      · subst e; rw [if_pos ⟨rfl, rfl⟩, if_pos (by omega)]
      · rw [if_neg (fun z => e z.2), zR_alo (by omega), c]
        by_cases q : j < i
        · rw [if_pos q, if_pos (by omega)]
        · rw [if_neg q, if_neg (by omega)]
theorem zmf_rel {G : zG} {h : zH} {T : State} {cA cy : ClassId} {N K : Nat} (hR : zRel G h T.heap) (e1 : gy G 99 = cA) (e2 : gy G 1 = cy) (h6 : zN h + 1 + N ≤ 1000000) : ∀ i, i ≤ N → zRel G (zmf h N K i) (nmF T cA cy N K i).heap
  | 0, _ => by
    refine zRel_al hR (by omega) ?_ (by simp [nmF]) (fun q hq => State.heap_pushCell_of_lt _ _ hq)
    rw [zE_ref (by rw [zK_al]; show ¬ (99 : Nat) < 50; decide) (by rw [zK_al]; show (99 : Nat) < 200; decide), zK_al]
    show (T.heap.push _)[gB G + zN h]? = some (vp_cell _ _)
    rw [← hR.1, Array.getElem?_push_size, vp_cell_q]
    refine congrArg some ?_
    unfold nmO
    rw [e1]
    refine congrArg (arrV cA N) (funext fun j => ?_)
    rw [if_neg (by omega), show zR (zal h 99 N) (zN h) j = none from if_pos rfl]
    rfl
  | i + 1, hi => by
    have ih := zmf_rel (K := K) hR e1 e2 h6 i (by omega)
    obtain ⟨f1, f2, f3, f4⟩ := nmF_f T cA cy N K i
    obtain ⟨n1, n2, n3⟩ := zmf_N h N K i
    have a1 : zRel G (zal (zmf h N K i) 1 K) ((nmF T cA cy N K i).pushCell (nmI cy K)).heap := by
      refine zRel_al ih (by omega) ?_ (by simp) (fun q hq => State.heap_pushCell_of_lt _ _ hq)
      rw [zE_arr (by rw [zK_al]; show (1 : Nat) < 50; decide), zK_al, show zI (zal (zmf h N K i) 1 K) (zN (zmf h N K i)) = (fun _ => 0) from funext fun j => if_pos rfl]
      show ((nmF T cA cy N K i).heap.push _)[gB G + zN (zmf h N K i)]? = some (vp_cell _ _)
      rw [← ih.1, Array.getElem?_push_size]
      refine congrArg some ?_
      show nmI cy K = vp_cell (gy G 1) _
      rw [e2]
      rfl
    have hb : ((nmF T cA cy N K i).pushCell (nmI cy K)).heap[T.heap.size]? = some (nmO cA N T.heap.size i) := by
      have hlt9 : T.heap.size < (nmF T cA cy N K i).heap.size := by rw [f1]; omega
      exact (State.heap_pushCell_of_lt _ _ hlt9).trans f2
    have m1 := zmf_N h N K (i + 1)
    refine zRel_put (a := zN h) a1 (by show zN h < zN (zmf h N K i) + 1; omega) ?_ (by simp [nmF, State.setCell]) (fun q hq => ?_) (fun b => rfl) rfl (fun b hb j => rfl) (fun b hb j => by show zR (zwR _ _ _ _) b j = _; rw [zR_w, if_neg (fun z => hb z.1)])
    · rw [zE_ref (by rw [m1.2.1]; show ¬ (99 : Nat) < 50; decide) (by rw [m1.2.1]; show (99 : Nat) < 200; decide), m1.2.1]
      show (((nmF T cA cy N K i).pushCell (nmI cy K)).setCell T.heap.size ((nmO cA N T.heap.size i).setSlot i (.ref (T.heap.size + 1 + i)))).heap[gB G + zN h]? = some (vp_cell _ _)
      rw [← hR.1, State.heap_setCell_self hb, nmO_s, vp_cell_q]
      refine congrArg some ?_
      unfold nmO
      rw [e1]
      refine congrArg (arrV cA N) (funext fun j => ?_)
      rw [m1.2.2]
      by_cases q : j < i + 1
      · rw [if_pos q, if_pos q]
        show va_rf (some (T.heap.size + 1 + j)) = va_rf (some (zf G (zN h + 1 + j)))
        rw [zf_lt (by omega), hR.1]
        exact congrArg (fun x => va_rf (some x)) (by omega)
      · rw [if_neg q, if_neg q]; rfl
    · exact State.heap_setCell_other (fun z => hq (by rw [← z, hR.1]))
theorem nmF_old (s : State) (cA cy : ClassId) (N K : Nat) {a : Nat} (ha : a < s.heap.size) : ∀ i, (nmF s cA cy N K i).heap[a]? = s.heap[a]?
  | 0 => State.heap_pushCell_of_lt _ _ ha
  | i + 1 => by
    have f1 := (nmF_f s cA cy N K i).1
    show (((nmF s cA cy N K i).pushCell (nmI cy K)).setCell s.heap.size _).heap[a]? = _
    rw [State.heap_setCell_other (Nat.ne_of_gt ha)]
    have hlt9 : a < (nmF s cA cy N K i).heap.size := by rw [f1]; omega
    refine (State.heap_pushCell_of_lt _ _ hlt9).trans ?_
    exact nmF_old s cA cy N K ha i
theorem z_mna {l : Launch} {G : zG} {M : zM} {d : Nat} {Q : Option Value → zH → Prop} {k n pc : Nat} {L S : List Value} {h : zH} {ix N K : Nat} {xn xk : Int32} (hd : decode (mC M) pc = .ok (.multianewarray ix 2, 4)) (hw : Cond.classLink (mO M) ix "[[I" ∈ zTs) (ha1 : Cond.arrayClass .int ∈ zTs) (hxn : xn.toInt = (N : Int)) (hxk : xk.toInt = (K : Int)) (hN : N ≤ 1000) (hK : K ≤ 1000) (h6 : zN h + 1 + N ≤ 1000000)
    (kk : Z l G M d Q k n (pc + 4) L (va_rf (some (zN h)) :: S) (zmf h N K N)) : Z l G M d Q (k + (1 + N)) (n + (N + N * K)) pc L (.int xk :: .int xn :: S) h := by
  intro p e R s m args below meth c Qs H locs cells slots ls X hR hS hL hc hn
  have hts := X.2.2.2.2.1
  have hcn : xn.toNatClampNeg = N := by rw [zix_eq]; unfold zix; omega
  have hck : xk.toNatClampNeg = K := by rw [zix_eq]; unfold zix; omega
  have hn0 : ¬ xn < 0 := fun q => by
    have : xn.toInt < (0 : Int32).toInt := Int32.lt_iff_toInt_lt.mp q
    rw [show (0 : Int32).toInt = 0 from rfl] at this
    omega
  have hk0 : ¬ xk < 0 := fun q => by
    have : xk.toInt < (0 : Int32).toInt := Int32.lt_iff_toInt_lt.mp q
    rw [show (0 : Int32).toInt = 0 from rfl] at this
    omega
  have hover : (Cond.arrayOver (.array .int)).before args s = true := X.2.2.2.2.2.1.1.2.2.2.2
  have r4 : s.vm.findClass ("[" ++ (FieldType.array .int).toString) = some (gy G 99) := (X.2.2.2.2.2.1.1.1.2 2 _ (zat_in 2 rfl G)).2
  have s4 : s.vm.findClass ("[" ++ FieldType.int.toString) = some (gy G 1) := (X.2.2.2.2.2.1.1.1.2 0 _ (zat_in 0 rfl G)).2
  show W p l e R s m args below meth c H locs cells slots Qs (F0 m pc ls (.int xk :: .int xn :: S.map (zt G)))
  intro T hT XS
  subst hT
  have hpl : e.platform.magicAccessors = ({} : Platform).magicAccessors := by rw [XS.admits.platform]
  obtain ⟨comp, cA, kA, hcomp, hfi, hkA, hkindA, hnameA⟩ := arrayOverA_spec hover
  obtain ⟨comp', kC, cc, hcomp', hkC, hkindC⟩ := Cond.arrayClass_spec (hts _ ha1)
  have ecomp : comp' = comp := Option.some.inj (hcomp'.symm.trans hcomp)
  subst ecomp
  obtain ⟨c0, hfc0, hcl⟩ := Cond.classLink_spec X.2.2.2.1 (hts _ hw) e.platform hpl
  have ec0 : c0 = cA := Option.some.inj (hfc0.symm.trans hnameA)
  subst ec0
  have eA : gy G 99 = c0 := Option.some.inj (r4.symm.trans hnameA)
  have eC : gy G 1 = comp' := Option.some.inj (s4.symm.trans hcomp)
  obtain ⟨hg1, hwarm1, hready1⟩ := State.classEntry (e := e) XS.warmed hcl
  have em : m = (F0 m pc ls (.int xk :: .int xn :: S.map (zt G))).method := rfl
  generalize T.vm.noted m.cls ix (.cls c0) = vm1 at hg1 hwarm1 hready1
  have hal : s.vm.Alike vm1 := hwarm1.alike
  obtain ⟨kA1', hkA1, heA⟩ := hal.2.2 _ _ hkA
  obtain ⟨kC1', hkC1, heC⟩ := hal.2.2 _ _ hkC
  have hkindA1 : kA1'.kind = .array comp' (.array .int) := by rw [heA]; exact hkindA
  have hkindC1 : kC1'.kind = .array cc .int := by rw [heC]; exact hkindC
  have X1 := XS.noted hwarm1
  obtain ⟨hr1, hr2⟩ := XS.roomAbove (a := 1 + N) (b := N + N * K) (by omega) (by omega)
  have XF0 := nm_stand X1 c0 comp' N K N
  have XF := XF0.dropFresh (fun x hx => by
    obtain ⟨j, -, rfl⟩ := List.mem_map.mp hx
    exact XS.heapGrown)
  have z1 := (nmF_f (T.setVm vm1) c0 comp' N K N).1
  have o1 : ∀ q : Nat, q < T.heap.size → (nmF (T.setVm vm1) c0 comp' N K N).heap[q]? = T.heap[q]? := fun q hq => nmF_old (T.setVm vm1) c0 comp' N K (by exact hq) N
  have hrel := zmf_rel (T := T.setVm vm1) (K := K) hR eA eC h6 N (Nat.le_refl _)
  have hS2 : va_S (zA G) _ (nmF (T.setVm vm1) c0 comp' N K N).heap locs := ⟨Nat.le_trans hS.1 (by rw [z1]; show T.heap.size ≤ T.heap.size + 1 + N; omega), fun x h1 h2 => (o1 x (Nat.lt_of_lt_of_le h1 hS.1)).trans (hS.2.1 x h1 h2), hS.2.2⟩
  have k2 := kk p e R s m args below meth c Qs _ locs (cells + 1 + N) (slots + N + N * K) ls X hrel hS2 hL (by omega) (by omega)
  have k3 : W p l e R s m args below meth c _ locs (cells + 1 + N) (slots + N + N * K) Qs (F0 m (pc + 4) ls (.ref (zf G (zN h)) :: S.map (zt G))) := k2
  rw [zf_lt (by omega), ← hR.1] at k3
  obtain ⟨t, a1, b1⟩ := k3 _ rfl XF
  refine ⟨t, ?_, b1⟩
  have hb : c.code = mC M := X.2.1
  have hl1 : ¬ N > e.platform.arrayLengthLimit := by rw [Launch.admits_arrayLengthLimit XS.admits]; omega
  have hh1 : ¬ N * 4 > e.platform.maxHeapBytes := by rw [Launch.admits_maxHeapBytes XS.admits]; omega
  have hl2 : ¬ K > e.platform.arrayLengthLimit := by rw [Launch.admits_arrayLengthLimit XS.admits]; omega
  have hh2 : ¬ K * 4 > e.platform.maxHeapBytes := by rw [Launch.admits_maxHeapBytes XS.admits]; omega
  have hdc : decode c.code pc = .ok (.multianewarray ix 2, 4) := by rw [hb]; exact hd
  have hex := X.1
  jvm_step XS.here [hex, hdc]
  simp only [multianewarray.sem, wp_bind', W.resolveClassAt_links (State.method?_setTop (F0 m pc ls (.int xk :: .int xn :: S.map (zt G))) XS.here.top) hg1]
  rw [W.popN, if_neg (by decide)]
  refine ⟨F0 m pc ls (.int xk :: .int xn :: S.map (zt G)), State.topJava?_setTop' (s := T.setVm vm1) _ XS.here.top, [.int xn, .int xk], S.map (zt G), rfl, rfl, ?_⟩
  simp only [List.mapM_cons, List.mapM_nil, wp_bind', wp_pure']
  refine nm_make (k := kA1') (kc := kC1') (comp := comp') (cc := cc) hkA1 hkindA1 hkC1 hkindC1 hn0 hk0 hcn hck hl1 hh1 hl2 hh2 (by show T.heap.size + 1 + _ ≤ _; omega) (by show T.slotsUsed + _ + _ ≤ _; omega) (fun d' acts' => ?_)
  have eS : ((T.setTop (F0 m pc ls (.int xk :: .int xn :: S.map (zt G)))).setVm vm1).setTop { F0 m pc ls (.int xk :: .int xn :: S.map (zt G)) with stack := S.map (zt G) } = (T.setVm vm1).setTop { F0 m pc ls (.int xk :: .int xn :: S.map (zt G)) with stack := S.map (zt G) } := by
    show ((T.setVm vm1).setTop _).setTop _ = _
    rw [State.setTop_setTop]
  rw [eS, nmF_setTop]
  simp only [wp_bind', W.mark, W.pushRef, State.topJava?_setTop' _ XF.here.top, Option.some.injEq, exists_eq_left', State.setTop_setTop, State.heap_setTop]
  intro acts
  simp [jvm, XF.here.top]
  exact a1
