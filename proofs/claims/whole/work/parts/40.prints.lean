set_option maxRecDepth 4000
/-! ===== prints, as a machine without a heap ===== -/
/-- a print: 0 square, 1 sole, 2 foot, 3 side, 4 depth, 5 minute, 6 maker, 7 users -/
abbrev PR := Nat → Int32
abbrev PS := Nat × (Nat → PR) × (Nat → Nat → Int32)
abbrev PS.n (st : PS) : Nat := st.1
abbrev PS.P (st : PS) : Nat → PR := st.2.1
abbrev PS.g (st : PS) : Nat → Nat → Int32 := st.2.2
def mkR (c s f d w m k u : Int32) : PR := fun j => if j = 0 then c else if j = 1 then s else if j = 2 then f else if j = 3 then d else if j = 4 then w else if j = 5 then m else if j = 6 then k else u
def upR (r : PR) (w u : Int32) : PR := fun j => if j = 4 then w else if j = 7 then u else r j
def ps0 : PS := (0, fun _ _ => 0, fun _ _ => 0)
def topo (P : Nat → PR) (c : Int32) : Nat → Option Nat
  | 0 => none
  | k + 1 => if P k 0 = c then some k else topo P c k
def topI : Option Nat → Int32
  | none => -1
  | some t => Int32.ofNat t
theorem topo_some {P : Nat → PR} {c : Int32} {t : Nat} : ∀ n, topo P c n = some t → t < n ∧ P t 0 = c
  | 0, h => by cases h
  | n + 1, h => by
    unfold topo at h
    split at h
    · rename_i q; cases h; exact ⟨Nat.lt_succ_self _, q⟩
    · have := topo_some n h; exact ⟨by omega, this.2⟩
theorem topo_last {P : Nat → PR} {c : Int32} {t : Nat} : ∀ n, topo P c n = some t → ∀ k, t < k → k < n → P k 0 ≠ c
  | 0, h, k, h1, h2 => by omega
  | n + 1, h, k, h1, h2 => by
    unfold topo at h
    split at h
    · cases h; omega
    · rename_i q
      by_cases e : k = n
      · rw [e]; exact q
      · exact topo_last n h k h1 (by omega)
theorem topo_none {P : Nat → PR} {c : Int32} : ∀ n, topo P c n = none → ∀ k, k < n → P k 0 ≠ c
  | 0, _, k, h2 => by omega
  | n + 1, h, k, h2 => by
    unfold topo at h
    split at h
    · cases h
    · rename_i q
      by_cases e : k = n
      · rw [e]; exact q
      · exact topo_none n h k (by omega)
theorem topo_cg {P P' : Nat → PR} {c : Int32} : ∀ n, (∀ k, k < n → P' k 0 = P k 0) → topo P' c n = topo P c n
  | 0, _ => rfl
  | n + 1, h => by
    unfold topo
    rw [h n (Nat.lt_succ_self n), topo_cg n (fun k hk => h k (by omega))]
theorem topI_some {P : Nat → PR} {c : Int32} {n : Nat} (hn : n < 1000) {t : Nat} (h : topo P c n = some t) : (topI (topo P c n)).toInt = (t : Int) := by
  have := (topo_some n h).1
  rw [h]; exact i_ofNat (by omega)
theorem topI_none {P : Nat → PR} {c : Int32} {n : Nat} (h : topo P c n = none) : topI (topo P c n) = -1 := by rw [h]; rfl
theorem topI_m1 {P : Nat → PR} {c : Int32} {n : Nat} (hn : n < 1000) : topI (topo P c n) = -1 ↔ topo P c n = none := by
  cases h : topo P c n with
  | none => exact ⟨fun _ => rfl, fun _ => rfl⟩
  | some t =>
    have := (topo_some n h).1
    exact ⟨fun z => absurd z (ofn_m1 (by omega)), fun z => by cases z⟩
/-- what a foot counts for its gait -/
def gup (g : Nat → Nat → Int32) (p : Nat) (a1 a2 a3 : Int32) : Nat → Nat → Int32 := fun q j => if q = p then (if j = 0 then g q j + 1 else if j = 1 then g q j + a1 else if j = 2 then g q j + a2 else g q j + a3) else g q j
def pressS (st : PS) (p m : Nat) (c s f d w : Int32) : PS := (st.n + 1, fun k => if k = st.n then mkR c s f d w (Int32.ofNat m) (Int32.ofNat p) (bit1 p) else st.P k, gup st.g p 1 0 0)
def stepS (st : PS) (p t : Nat) (w : Int32) : PS := (st.n, fun k => if k = t then upR (st.P k) (imax (st.P k 4) w) (st.P k 7 ||| bit1 p) else st.P k, gup st.g p 0 1 (if st.P t 6 = Int32.ofNat p then 0 else 1))
def setD (st : PS) (p m : Nat) (c s f d w : Int32) : PS :=
  match topo st.P c st.n with
  | none => pressS st p m c s f d w
  | some t => if st.P t 1 = s ∧ st.P t 2 = f ∧ st.P t 3 = d then stepS st p t w else pressS st p m c s f d w
def walkV (V : Nat → Int) (al : Int) (p : Nat) : Bool := decide ((pF V p 5 = -1 ∧ pF V p 4 ≠ 2 ∧ pF V p 6 ≠ -1) ∧ (al = -1 ∨ al = p))
/-- the foot that one sets down in a minute: how many steps were made before -/
def isFt (V : Nat → Int) (al : Int) (p m : Nat) : Bool := walkV V al p && decide (pF V p 7 ≤ m ∧ m - (pF V p 7).toNat ≤ mdc V p (pF V p 8).toNat)
def lds (V : Nat → Int) (p : Nat) : Nat → Int
  | 0 => 0
  | q + 1 => lds V p q + (if q = p ∨ pF V q 5 = p then pF V q 2 else 0)
def loadV (V : Nat → Int) (p : Nat) : Int := V 2 + lds V p (V 3).toNat
def depV (V : Nat → Int) (p : Nat) (f : Int) : Int := if pF V p 3 = f + 1 then (if loadV V p < 4 then 1 else loadV V p / 2) else loadV V p
def soleV (V : Nat → Int) (p : Nat) : Int := if pF V p 4 = 1 then 6 else pF V p 0
def goS (V : Nat → Int) (al : Int) (st : PS) (p m : Nat) : PS :=
  if isFt V al p m = true then setD st p m (Int32.ofInt (gow V p (m - (pF V p 7).toNat)).1) (Int32.ofInt (soleV V p)) (Int32.ofNat ((m - (pF V p 7).toNat) % 2)) (Int32.ofInt (sdV V p (m - (pF V p 7).toNat - 1))) (Int32.ofInt (depV V p ((m - (pF V p 7).toNat) % 2 : Nat)))
  else st
def washS (st : PS) : PS := (0, st.P, st.g)
def stP (V : Nat → Int) (al : Int) (m : Nat) (st : PS) : Nat → PS
  | 0 => st
  | j + 1 => goS V al (stP V al m st j) j m
def stW (V : Nat → Int) (m : Nat) (st : PS) : PS := if V (5 + m) = 1 then washS st else st
def stM (V : Nat → Int) (al : Int) : Nat → PS
  | 0 => ps0
  | m + 1 => stP V al m (stW V m (stM V al m)) (V 3).toNat
/-! bounds -/
def bsum (V : Nat → Int) (m j : Nat) : Nat → Nat
  | 0 => 0
  | p + 1 => bsum V m j p + (if pF V p 6 ≠ -1 then min ((if p < j then m + 1 else m) - (pF V p 7).toNat) ((pF V p 8).toNat + 1) else 0)
theorem bsum_le {V : Nat → Int} (w : WFN V) {m j : Nat} : ∀ k : Nat, (k : Int) ≤ V 3 → bsum V m j k ≤ 25 * k
  | 0, _ => Nat.le_refl _
  | k + 1, h => by
    have ih := bsum_le w (m := m) (j := j) k (by omega)
    have w8 := (per_w w (P := k) (by omega)).2.2.2.2.2.2.2.1
    unfold bsum
    split
    · rename_i q
      have := w8.resolve_left (fun z => q z.1)
      omega
    · omega
theorem bsum_up {V : Nat → Int} {m j : Nat} : ∀ k, bsum V m j k ≤ bsum V m (j + 1) k
  | 0 => Nat.le_refl _
  | k + 1 => by
    have ih := bsum_up (V := V) (m := m) (j := j) k
    unfold bsum
    (repeat' split) <;> omega
theorem bsum_ft {V : Nat → Int} {m j : Nat} (hs : pF V j 6 ≠ -1) (hb : (pF V j 7).toNat ≤ m) (h8 : m - (pF V j 7).toNat ≤ (pF V j 8).toNat) : ∀ k, j < k → bsum V m j k + 1 ≤ bsum V m (j + 1) k
  | 0, h => by omega
  | k + 1, h => by
    unfold bsum
    by_cases e : j = k
    · subst e
      have up := bsum_up (V := V) (m := m) (j := j) j
      rw [if_pos hs, if_pos hs, if_neg (Nat.lt_irrefl j), if_pos (Nat.lt_succ_self j)]
      omega
    · have ih := bsum_ft hs hb h8 k (by omega)
      (repeat' split) <;> omega
theorem bsum_next {V : Nat → Int} {m K : Nat} : ∀ k, k ≤ K → bsum V (m + 1) 0 k = bsum V m K k
  | 0, _ => rfl
  | k + 1, h => by
    unfold bsum
    rw [bsum_next (K := K) k (by omega), if_neg (Nat.not_lt_zero k), if_pos (show k < K by omega)]
theorem setD_n {st : PS} {p m : Nat} {c s f d w : Int32} : (setD st p m c s f d w).n ≤ st.n + 1 := by
  unfold setD
  split
  · exact Nat.le_refl _
  · split
    · exact Nat.le_succ _
    · exact Nat.le_refl _
theorem isFt_t {V : Nat → Int} {al : Int} {p m : Nat} (w : WFN V) (hp : (p : Int) < V 3) : isFt V al p m = true ↔ ((pF V p 5 = -1 ∧ pF V p 4 ≠ 2 ∧ pF V p 6 ≠ -1) ∧ (al = -1 ∨ al = p)) ∧ (pF V p 7).toNat ≤ m ∧ m - (pF V p 7).toNat ≤ (pF V p 8).toNat ∧ (gow V p (m - (pF V p 7).toNat)).2 = true := by
  have w8 := (per_w w hp).2.2.2.2.2.2.2.1
  have le := mdc_le (V := V) (p := p) (pF V p 8).toNat
  unfold isFt walkV
  rw [Bool.and_eq_true, decide_eq_true_iff, decide_eq_true_iff]
  refine ⟨fun z => ⟨z.1, ?_, by have := z.2; omega, (mdc_on _ _ (by have := z.2; omega)).mpr z.2.2⟩, fun z => ⟨z.1, ?_, (mdc_on _ _ z.2.2.1).mp z.2.2.2⟩⟩
  · have := w8.resolve_left (fun y => z.1.1.2.2 y.1)
    have := z.2
    omega
  · have := w8.resolve_left (fun y => z.1.1.2.2 y.1)
    have := z.2
    omega
theorem stP_n {V : Nat → Int} (w : WFN V) {al : Int} {m : Nat} {st : PS} (h : st.n ≤ bsum V m 0 (V 3).toNat) : ∀ j : Nat, (j : Int) ≤ V 3 → (stP V al m st j).n ≤ bsum V m j (V 3).toNat
  | 0, _ => h
  | j + 1, hj => by
    have ih := stP_n w (al := al) h j (by omega)
    show (goS V al (stP V al m st j) j m).n ≤ _
    unfold goS
    split
    · rename_i q
      have z := (isFt_t w (by omega)).mp q
      have b := bsum_ft z.1.1.2.2 z.2.1 z.2.2.1 (V 3).toNat (by omega)
      exact Nat.le_trans setD_n (by omega)
    · exact Nat.le_trans ih (bsum_up _)
theorem stW_n {V : Nat → Int} {m : Nat} {st : PS} : (stW V m st).n ≤ st.n := by
  unfold stW
  split
  · exact Nat.zero_le _
  · exact Nat.le_refl _
theorem stM_n {V : Nat → Int} (w : WFN V) {al : Int} (m : Nat) : (stM V al m).n ≤ bsum V m 0 (V 3).toNat ∧ (stW V m (stM V al m)).n ≤ bsum V m 0 (V 3).toNat := by
  suffices h : (stM V al m).n ≤ bsum V m 0 (V 3).toNat from ⟨h, Nat.le_trans stW_n h⟩
  induction m with
  | zero => exact Nat.zero_le _
  | succ m ih =>
    have := w.2.2.2.1
    rw [bsum_next (K := (V 3).toNat) _ (Nat.le_refl _)]
    exact stP_n w (Nat.le_trans stW_n ih) _ (by omega)
/-- never more than 150, and room for one more where a foot comes -/
theorem stP_150 {V : Nat → Int} (w : WFN V) {al : Int} {m j : Nat} (hj : (j : Int) ≤ V 3) : (stP V al m (stW V m (stM V al m)) j).n ≤ 150 ∧ ((j : Int) < V 3 → isFt V al j m = true → (stP V al m (stW V m (stM V al m)) j).n < 150) := by
  have h := stP_n w (al := al) (stM_n w (al := al) m).2 j hj
  have w3 := w.2.2.2.1
  have b := bsum_le w (m := m) (j := j) (V 3).toNat (by omega)
  refine ⟨by omega, fun hj2 q => ?_⟩
  have z := (isFt_t w hj2).mp q
  have b2 := bsum_ft z.1.1.2.2 z.2.1 z.2.2.1 (V 3).toNat (by omega)
  have b3 := bsum_le w (m := m) (j := j + 1) (V 3).toNat (by omega)
  omega
/-- what can stand in a print -/
def okR (V : Nat → Int) (r : PR) : Prop := (0 ≤ (r 0).toInt ∧ (r 0).toInt < V 0 * V 1) ∧ (0 ≤ (r 1).toInt ∧ (r 1).toInt ≤ 6) ∧ (0 ≤ (r 2).toInt ∧ (r 2).toInt ≤ 1) ∧ (0 ≤ (r 3).toInt ∧ (r 3).toInt ≤ 3) ∧ (0 ≤ (r 4).toInt ∧ (r 4).toInt ≤ 100) ∧ (0 ≤ (r 6).toInt ∧ (r 6).toInt < V 3) ∧ (0 ≤ (r 7).toInt ∧ (r 7).toInt < 64)
def okS (V : Nat → Int) (st : PS) : Prop := ∀ k, k < st.n → okR V (st.P k)
theorem lds_rng {V : Nat → Int} (w : WFN V) {p : Nat} : ∀ k : Nat, (k : Int) ≤ V 3 → 0 ≤ lds V p k ∧ lds V p k ≤ 9 * k ∧ (p < k → 1 ≤ lds V p k)
  | 0, _ => ⟨Int.le_refl _, Int.le_refl _, fun h => by omega⟩
  | k + 1, h => by
    have ih := lds_rng w (p := p) k (by omega)
    have w2 := (per_w w (P := k) (by omega)).2.2.1
    unfold lds
    by_cases c : k = p ∨ pF V k 5 = p
    · rw [if_pos c]; omega
    · rw [if_neg c]; omega
theorem load_rng {V : Nat → Int} (w : WFN V) {p : Nat} (hp : (p : Int) < V 3) : 1 ≤ loadV V p ∧ loadV V p ≤ 63 := by
  have w3 := w.2.2.2.1
  have w2 := w.2.2.1
  have := lds_rng w (p := p) (V 3).toNat (by omega)
  unfold loadV
  omega
theorem dep_rng {V : Nat → Int} (w : WFN V) {p : Nat} (hp : (p : Int) < V 3) (f : Int) : 1 ≤ depV V p f ∧ depV V p f ≤ 63 := by
  have := load_rng w hp
  unfold depV
  (repeat' split) <;> omega
theorem sole_rng {V : Nat → Int} (w : WFN V) {p : Nat} (hp : (p : Int) < V 3) : 0 ≤ soleV V p ∧ soleV V p ≤ 6 := by
  have := (per_w w hp).1
  unfold soleV
  split <;> omega
theorem bit_or : ∀ x : Nat, x < 64 → ∀ p, p < 6 → 0 ≤ (Int32.ofNat x ||| bit1 p).toInt ∧ (Int32.ofNat x ||| bit1 p).toInt < 64 := by decide +kernel
theorem bit_or' {x : Int32} {p : Nat} (hx : 0 ≤ x.toInt ∧ x.toInt < 64) (hp : p < 6) : 0 ≤ (x ||| bit1 p).toInt ∧ (x ||| bit1 p).toInt < 64 := by
  obtain ⟨k, hk⟩ : ∃ k : Nat, x.toInt = (k : Int) := ⟨x.toInt.toNat, by omega⟩
  rw [n_ofn hk]
  exact bit_or k (by omega) p hp
theorem bit_rng : ∀ p, p < 6 → 0 ≤ (bit1 p).toInt ∧ (bit1 p).toInt < 64 := by decide +kernel
theorem imax_t {x y : Int32} : (imax x y).toInt = max x.toInt y.toInt := by
  unfold imax
  by_cases c : x < y
  · rw [if_pos c]
    have := Int32.lt_iff_toInt_lt.mp c
    omega
  · rw [if_neg c]
    have : ¬ x.toInt < y.toInt := fun z => c (Int32.lt_iff_toInt_lt.mpr z)
    omega
theorem setD_ok {V : Nat → Int} {st : PS} {p m : Nat} {c s f d w : Int32} (w3 : V 3 ≤ 6) (hp : (p : Int) < V 3) (h : okS V st) (hc : 0 ≤ c.toInt ∧ c.toInt < V 0 * V 1) (hs : 0 ≤ s.toInt ∧ s.toInt ≤ 6) (hf : 0 ≤ f.toInt ∧ f.toInt ≤ 1) (hd : 0 ≤ d.toInt ∧ d.toInt ≤ 3) (hw : 0 ≤ w.toInt ∧ w.toInt ≤ 100) : okS V (setD st p m c s f d w) := by
  have pr : okS V (pressS st p m c s f d w) := fun k hk => by
    show okR V (if k = st.n then _ else _)
    by_cases e : k = st.n
    · rw [if_pos e]
      have e2 : (Int32.ofNat p).toInt = (p : Int) := i_ofNat (by omega)
      have := bit_rng p (by omega)
      exact ⟨hc, hs, hf, hd, hw, by show 0 ≤ (Int32.ofNat p).toInt ∧ (Int32.ofNat p).toInt < _; omega, this⟩
    · rw [if_neg e]
      have : k < st.n + 1 := hk
      exact h k (by omega)
  unfold setD
  split
  · exact pr
  · rename_i t ht
    split
    · intro k hk
      show okR V (if k = t then _ else _)
      by_cases e : k = t
      · rw [if_pos e]
        obtain ⟨a1, a2, a3, a4, a5, a6, a7⟩ := h k hk
        refine ⟨a1, a2, a3, a4, ?_, a6, bit_or' a7 (by omega)⟩
        show 0 ≤ (imax _ _).toInt ∧ (imax _ _).toInt ≤ 100
        rw [imax_t]; omega
      · rw [if_neg e]; exact h k hk
    · exact pr
theorem goS_ok {V : Nat → Int} (w : WFN V) {al : Int} {st : PS} {p m : Nat} (hp : (p : Int) < V 3) (h : okS V st) : okS V (goS V al st p m) := by
  unfold goS
  split
  · rename_i q
    have z := (isFt_t w hp).mp q
    have w8 := (per_w w hp).2.2.2.2.2.2.2.1.resolve_left (fun y => z.1.1.2.2 y.1)
    have cr := gow_rng w8.1 (m - (pF V p 7).toNat)
    have wb := wh_rng w.1 w.2.1
    have sr := sole_rng w hp
    have dr := dep_rng w hp (((m - (pF V p 7).toNat) % 2 : Nat) : Int)
    have sd := (per_w w hp).2.2.2.2.2.2.2.2 (m - (pF V p 7).toNat - 1) (by omega)
    refine setD_ok w.2.2.2.1.2 hp h ?_ ?_ ?_ ?_ ?_
    · rw [n_toi (by omega) (by omega)]; exact cr
    · rw [n_toi (by omega) (by omega)]; exact sr
    · rw [i_ofNat (by omega)]; omega
    · rw [n_toi (by omega) (by omega)]; exact sd
    · rw [n_toi (by omega) (by omega)]; omega
  · exact h
theorem stP_ok {V : Nat → Int} (w : WFN V) {al : Int} {m : Nat} {st : PS} (h : okS V st) : ∀ j : Nat, (j : Int) ≤ V 3 → okS V (stP V al m st j)
  | 0, _ => h
  | j + 1, hj => goS_ok w (by omega) (stP_ok w h j (by omega))
theorem stW_ok {V : Nat → Int} {m : Nat} {st : PS} (h : okS V st) : okS V (stW V m st) := by
  unfold stW
  split
  · exact fun k hk => absurd hk (Nat.not_lt_zero k)
  · exact h
theorem stM_ok {V : Nat → Int} (w : WFN V) {al : Int} (m : Nat) : okS V (stM V al m) ∧ okS V (stW V m (stM V al m)) := by
  suffices h : okS V (stM V al m) from ⟨h, stW_ok h⟩
  induction m with
  | zero => exact fun k hk => absurd hk (Nat.not_lt_zero k)
  | succ m ih =>
    have w3 := w.2.2.2.1
    exact stP_ok w (stW_ok ih) _ (by omega)
