set_option maxRecDepth 4000
def OnlyT (h : zH) (J : Nat → Nat → Int32) : Prop := (∀ b, b ≠ 313 → (b < 318 ∨ 329 ≤ b) → J b = h.1 b) ∧ ∀ k, k ≠ 23 → J 313 k = h.1 313 k
theorem OnlyP.t {h : zH} {I J : Nat → Nat → Int32} (a : OnlyT h I) (b : OnlyP (I, h.2) J) : OnlyT h J := ⟨fun k h1 h2 => (b.1 k h1 (by omega)).trans (a.1 k h1 h2), fun k hk => (b.2 k hk).trans (a.2 k hk)⟩
theorem OnlyT.mn {h : zH} {J : Nat → Nat → Int32} {n : Nat} {V : Nat → Int} (a : OnlyT h J) (m : MN h n V) : MN (J, h.2) n V := m.cg (fun k hk => a.2 k (by omega)) (a.1 314 (by decide) (by decide)) (fun k _ => by rw [a.1 317 (by decide) (by decide)])
theorem OnlyT.same {h : zH} {J : Nat → Nat → Int32} (a : OnlyT h J) : SameC h J := fun b hb j => by
  unfold IC at hb
  rw [a.1 b (by omega) (by omega)]
theorem c_till (l : Launch) (G : zG) (h : zH) (n : Nat) (V : Nat → Int) (al : Int) (u : Nat) (x1 : Int32) (hl : lo11 h 313) (w : WFN V) (mn : MN h n V) (hal : (zI h 313 13).toInt = al) (hx : x1.toInt = (u : Int)) (hu : u < 100) :
    CTv l G YX11_till 5 [va_rf (some 313), .int x1] h (fun I => OnlyT h I ∧ MPr (I, h.2) (stM V al (u + 1)) ∧ MGt (I, h.2) (stM V al (u + 1)).g ∧ ∀ P : Nat, (P : Int) < V 3 → gdP V I P) := by
  have w3 := w.2.2.2.1
  have minute : ∀ (f m : Nat) (x2 : Int32) (u3 u4 : Value) (I : Nat → Nat → Int32), m ≤ u + 1 → u + 1 - m < f → x2.toInt = (m : Int) → OnlyT h I → MPr (I, h.2) (stM V al m) → MGt (I, h.2) (stM V al m).g → (∀ P : Nat, (P : Int) < V 3 → gdP V I P) →
      Z l G mX11_till 5 (fun v h1 => ∃ J, v = none ∧ h1 = (J, h.2) ∧ (OnlyT h J ∧ MPr (J, h.2) (stM V al (u + 1)) ∧ MGt (J, h.2) (stM V al (u + 1)).g ∧ ∀ P : Nat, (P : Int) < V 3 → gdP V J P)) 0 0 32 [va_rf (some 313), .int x1, .int x2, u3, u4] [] (I, h.2) := by
    intro f
    induction f with
    | zero => intro m x2 u3 u4 I h1 h2; omega
    | succ f ih =>
      intro m x2 u3 u4 I h1 h2 hm s1 s2 s3 s4
      have people : ∀ (f2 j : Nat) (x3 : Int32) (u4 : Value) (J : Nat → Nat → Int32), m ≤ u → (j : Int) ≤ V 3 → V 3 - j < (f2 : Int) → x3.toInt = (j : Int) → OnlyT h J → MPr (J, h.2) (stP V al m (stW V m (stM V al m)) j) → MGt (J, h.2) (stP V al m (stW V m (stM V al m)) j).g → (∀ P : Nat, (P : Int) < V 3 → gdP V J P) →
          Z l G mX11_till 5 (fun v h1 => ∃ J, v = none ∧ h1 = (J, h.2) ∧ (OnlyT h J ∧ MPr (J, h.2) (stM V al (u + 1)) ∧ MGt (J, h.2) (stM V al (u + 1)).g ∧ ∀ P : Nat, (P : Int) < V 3 → gdP V J P)) 0 0 64 [va_rf (some 313), .int x1, .int x2, .int x3, u4] [] (J, h.2) := by
        intro f2
        induction f2 with
        | zero => intro j x3 u4 J mu h3 h4; omega
        | succ f2 ih2 =>
          intro j x3 u4 J mu h3 h4 hj t1 t2 t3 t4
          have mJ := t1.mn mn
          obtain ⟨k3, v3⟩ := mJ.of (w := 3) (W := 3) rfl (by decide)
          refine sX11_till_64 313 x1 x2 x3 u4 hl (Nat.le_refl _) ⟨k3, fun c1 => ?_, fun c2 => ?_⟩
          · have ej : (V 3).toNat = j := by omega
            have es : stP V al m (stW V m (stM V al m)) j = stM V al (m + 1) := by rw [← ej]; rfl
            rw [es] at t2 t3
            exact ih (m + 1) (x2 + 1) _ _ J (by omega) (by omega) (i_1 hm (by omega)) t1 t2 t3 t4
          · have hP : (j : Int) < V 3 := by omega
            have h6 : j < 6 := by omega
            obtain ⟨ct, cv⟩ := mJ.car hj h6
            have ck := mJ.isK hj h6
            obtain ⟨t_4, f4⟩ := mJ.f (w := 4) (f := 4) hj h6 rfl (by decide)
            obtain ⟨t_6, f6⟩ := mJ.f (w := 6) (f := 6) hj h6 rfl (by decide)
            obtain ⟨kt, kv⟩ := mJ.min hj h6
            have okJ := stP_ok w (al := al) (m := m) (stM_ok w (al := al) m).2 j h3
            have n1 := stP_150 w (al := al) (m := m) h3
            have pw := per_w w hP
            have a13 : (zI (J, h.2) 313 13).toInt = al := by
              rw [show zI (J, h.2) 313 13 = zI h 313 13 from t1.2 13 (by decide)]; exact hal
            have stay : ∀ (v : Value), isFt V al j m = false → Z l G mX11_till 5 (fun v h1 => ∃ J, v = none ∧ h1 = (J, h.2) ∧ (OnlyT h J ∧ MPr (J, h.2) (stM V al (u + 1)) ∧ MGt (J, h.2) (stM V al (u + 1)).g ∧ ∀ P : Nat, (P : Int) < V 3 → gdP V J P)) 0 0 64 [va_rf (some 313), .int x1, .int x2, .int (x3 + 1), v] [] (J, h.2) := fun v q => by
              have e : stP V al m (stW V m (stM V al m)) (j + 1) = stP V al m (stW V m (stM V al m)) j := by
                show goS V al _ j m = _
                unfold goS
                rw [if_neg (by rw [q]; decide)]
              exact ih2 (j + 1) (x3 + 1) v J mu (by omega) (by omega) (i_1 hj (by omega)) t1 (by rw [e]; exact t2) (by rw [e]; exact t3) t4
            have noW : ¬ ((pF V j 5 = -1 ∧ pF V j 4 ≠ 2 ∧ pF V j 6 ≠ -1) ∧ (al = -1 ∨ al = j)) → isFt V al j m = false := fun q => Bool.eq_false_iff.mpr (fun y => q ((isFt_t w hP).mp y).1)
            -- he walks
            have goes : ((pF V j 5 = -1 ∧ pF V j 4 ≠ 2 ∧ pF V j 6 ≠ -1) ∧ (al = -1 ∨ al = j)) →
                (ztok (J, h.2) 313 x3 7 ∧ 0 ≤ x3.toInt ∧ x3.toInt < ((6 : Nat) : Int) ∧ ((zin3 (x2 - (if x3 = zI (J, h.2) 313 16 then zI (J, h.2) 313 17 else ztold (J, h.2) 313 x3 7)) (0 : Int32) (zI (J, h.2) (313 + 6) (zix x3))) = false → Z l G mX11_till 5 (fun v h1 => ∃ J, v = none ∧ h1 = (J, h.2) ∧ (OnlyT h J ∧ MPr (J, h.2) (stM V al (u + 1)) ∧ MGt (J, h.2) (stM V al (u + 1)).g ∧ ∀ P : Nat, (P : Int) < V 3 → gdP V J P)) 0 0 64 [va_rf (some 313), .int x1, .int x2, .int (x3 + 1), .int 1] [] (J, h.2)) ∧
                  ((zin3 (x2 - (if x3 = zI (J, h.2) 313 16 then zI (J, h.2) 313 17 else ztold (J, h.2) 313 x3 7)) (0 : Int32) (zI (J, h.2) (313 + 6) (zix x3))) = true → ∃ P53, CTv l G YX11_foot 4 [va_rf (some 313), .int x3, .int x2] (J, h.2) P53 ∧ ∀ (I56 : Nat → Nat → Int32), P53 I56 → Z l G mX11_till 5 (fun v h1 => ∃ J, v = none ∧ h1 = (J, h.2) ∧ (OnlyT h J ∧ MPr (J, h.2) (stM V al (u + 1)) ∧ MGt (J, h.2) (stM V al (u + 1)).g ∧ ∀ P : Nat, (P : Int) < V 3 → gdP V J P)) 0 0 64 [va_rf (some 313), .int x1, .int x2, .int (x3 + 1), .int 1] [] (I56, h.2))) := by
              intro wk
              have w8 := pw.2.2.2.2.2.2.2.1.resolve_left (fun y => wk.1.2.2 y.1)
              have dK : (x2 - (if x3 = zI (J, h.2) 313 16 then zI (J, h.2) 313 17 else ztold (J, h.2) 313 x3 7)).toInt = (m : Int) - pF V j 7 := by
                rw [i_sub (by rw [kv]; omega) (by rw [kv]; omega), kv, hm]
              have le := mdc_le (V := V) (p := j) (pF V j 8).toNat
              have md : (zI (J, h.2) (313 + 6) (zix x3)).toInt = (mdc V j (pF V j 8).toNat : Int) := by
                rw [zix_of hj]
                have := (t4 j hP).1
                unfold stepsV madeV at this
                rw [if_pos wk.1.1, if_neg wk.1.2.2] at this
                exact this
              have q := n3r (x := x2 - (if x3 = zI (J, h.2) 313 16 then zI (J, h.2) 313 17 else ztold (J, h.2) 313 x3 7)) (u := 0) (a := 0) rfl md
              rw [dK] at q
              refine ⟨kt, by omega, by show _ < (6 : Int); omega, fun c => stay _ ?_, fun c => ?_⟩
              · have := q.2.mp c
                unfold isFt
                rw [Bool.and_eq_false_iff]
                exact Or.inr (decide_eq_false (by omega))
              · have z := q.1.mp c
                have ft : isFt V al j m = true := by
                  unfold isFt walkV
                  rw [Bool.and_eq_true, decide_eq_true_iff, decide_eq_true_iff]
                  exact ⟨wk, by omega, by omega⟩
                refine ⟨_, c_foot l G (J, h.2) n V al _ j m x3 x2 hl w mJ hP hj hm (by omega) t2 t3 okJ (n1.2 hP ft) ft ((t4 j hP).2 m (by omega)), fun I56 ⟨g1, g2, g3⟩ => ?_⟩
                have e : stP V al m (stW V m (stM V al m)) (j + 1) = goS V al (stP V al m (stW V m (stM V al m)) j) j m := rfl
                refine ih2 (j + 1) (x3 + 1) _ I56 mu (by omega) (by omega) (i_1 hj (by omega)) (OnlyP.t t1 g1) (by rw [e]; exact g2) (by rw [e]; exact g3) (fun P hP2 => ?_)
                obtain ⟨d1, d2⟩ := t4 P hP2
                have z8 : I56 318 = J 318 := g1.1 318 (by decide) (by decide)
                have z9 : I56 319 = J 319 := g1.1 319 (by decide) (by decide)
                exact ⟨by rw [z9]; exact d1, fun j' hj' => by rw [z8]; exact d2 j' hj'⟩
            refine ⟨ct, fun c3 => stay _ (noW (fun y => ck.mp c3 y.1.1)), fun c4 => ⟨t_4, fun c5 => stay _ (noW (fun y => y.1.2.1 (f4.symm.trans (congrArg Int32.toInt c5)))), fun c6 => ⟨t_6, fun c7 => stay _ (noW (fun y => y.1.2.2 (f6.symm.trans (n_m1.mp c7)))), fun c8 => ?_⟩⟩⟩
            have n5 : pF V j 5 = -1 := Decidable.byContradiction fun z => by
              have := ck.mpr z
              rw [c4] at this
              exact Bool.false_ne_true this
            have n4 : pF V j 4 ≠ 2 := fun y => c6 (i_ext (f4.trans y))
            have n6 : pF V j 6 ≠ -1 := fun y => c8 (n_m1.mpr (f6.trans y))
            refine ⟨fun c9 => goes ⟨⟨n5, n4, n6⟩, Or.inl (a13.symm.trans (n_m1.mp c9))⟩, fun c13 => ⟨fun c14 => stay _ (noW (fun y => ?_)), fun c15 => goes ⟨⟨n5, n4, n6⟩, Or.inr ?_⟩⟩⟩
            · exact y.2.elim (fun e => c13 (n_m1.mpr (a13.trans e))) (fun e => c14 (i_ext (by rw [a13, hj, e])))
            · rw [← a13, c15, hj]
      have mI := s1.mn mn
      refine sX11_till_32 313 x1 x2 u3 u4 hl (Nat.le_refl _) ⟨fun c1 => ⟨I, rfl, rfl, s1, ?_⟩, fun c2 => ?_⟩
      · have e : m = u + 1 := by omega
        rw [e] at s2 s3
        exact ⟨s2, s3, s4⟩
      · have e5 : (5 + x2).toInt = ((5 + m : Nat) : Int) := by
          rw [i_add (by show _ ≤ (5 : Int) + _; omega) (by show (5 : Int) + _ < _; omega)]; show (5 : Int) + _ = _; omega
        obtain ⟨kr, vr⟩ := mI.w e5 (by omega)
        have rain := mI.2.2.2.1 m (by omega)
        -- it rains
        have wash : ∀ I13 : Nat → Nat → Int32, V (5 + m) = 1 → I13 = (zwI (I, h.2) 313 23 (0 : Int32)).1 → Z l G mX11_till 5 (fun v h1 => ∃ J, v = none ∧ h1 = (J, h.2) ∧ (OnlyT h J ∧ MPr (J, h.2) (stM V al (u + 1)) ∧ MGt (J, h.2) (stM V al (u + 1)).g ∧ ∀ P : Nat, (P : Int) < V 3 → gdP V J P)) 0 0 64 [va_rf (some 313), .int x1, .int x2, .int 0, u4] [] (I13, h.2) := by
          intro I13 r1 c4
          obtain ⟨e1, e2, e3⟩ := zwI_eff c4
          have es : stW V m (stM V al m) = washS (stM V al m) := by unfold stW; rw [if_pos r1]
          refine people 7 0 0 u4 I13 (by omega) (by omega) (by omega) rfl ⟨fun b z1 z2 => (e1 b z1).trans (s1.1 b z1 z2), fun k hk => (e2 k hk).trans (s1.2 k hk)⟩ ?_ ?_ (fun P hP => ?_)
          · show MPr (I13, h.2) (stW V m (stM V al m))
            rw [es]
            refine ⟨?_, fun k hk => absurd hk (Nat.not_lt_zero k)⟩
            show (I13 313 23).toInt = 0
            rw [e3]; rfl
          · show MGt (I13, h.2) (stW V m (stM V al m)).g
            rw [es]
            exact MGt.cg (h := (I, h.2)) s3 (e1 328 (by decide))
          · obtain ⟨d1, d2⟩ := s4 P hP
            have z8 : I13 318 = I 318 := e1 318 (by decide)
            have z9 : I13 319 = I 319 := e1 319 (by decide)
            exact ⟨by rw [z9]; exact d1, fun j' hj' => by rw [z8]; exact d2 j' hj'⟩
        refine ⟨kr, fun c3 I13 c4 => wash I13 (rain.mpr (Or.inl ?_)) c4, fun c5 => ⟨by omega, by show _ < (100 : Int); omega, fun c6 => ?_, fun c7 I21 c8 => wash I21 (rain.mpr (Or.inr ?_)) c8⟩⟩
        · rw [← vr, c3]; rfl
        · have nr : ¬ V (5 + m) = 1 := fun y => (rain.mp y).elim (fun e => c5 (i_ext (by rw [vr]; exact e))) (fun e => e (by rw [zix_of hm] at c6; exact c6))
          have es : stW V m (stM V al m) = stM V al m := by unfold stW; rw [if_neg nr]
          refine people 7 0 0 u4 I (by omega) (by omega) (by omega) rfl s1 ?_ ?_ s4
          · show MPr (I, h.2) (stW V m (stM V al m)); rw [es]; exact s2
          · show MGt (I, h.2) (stW V m (stM V al m)).g; rw [es]; exact s3
        · rw [zix_of hm] at c7; exact c7
  have zero : ∀ (f i : Nat) (x2 : Int32) (u3 u4 : Value) (I : Nat → Nat → Int32), i ≤ 24 → 24 - i < f → x2.toInt = (i : Int) → OnlyT h I → (I 313 23 = 0) → (∀ k, k < i → I 328 k = 0) → (∀ P : Nat, (P : Int) < V 3 → gdP V I P) →
      Z l G mX11_till 5 (fun v h1 => ∃ J, v = none ∧ h1 = (J, h.2) ∧ (OnlyT h J ∧ MPr (J, h.2) (stM V al (u + 1)) ∧ MGt (J, h.2) (stM V al (u + 1)).g ∧ ∀ P : Nat, (P : Int) < V 3 → gdP V J P)) 0 0 11 [va_rf (some 313), .int x1, .int x2, u3, u4] [] (I, h.2) := by
    intro f
    induction f with
    | zero => intro i x2 u3 u4 I h1 h2; omega
    | succ f ih =>
      intro i x2 u3 u4 I h1 h2 hi s1 s2 s3 s4
      refine sX11_till_11 313 x1 x2 u3 u4 hl (Nat.le_refl _) ⟨fun c1 => ?_, fun c2 => ⟨by omega, by show _ < (24 : Int); omega, fun I6 c3 => ?_⟩⟩
      · refine minute (u + 2) 0 0 u3 u4 I (by omega) (by omega) rfl s1 ⟨?_, fun k hk => absurd hk (Nat.not_lt_zero k)⟩ (fun p hp j hj => ?_) s4
        · show (I 313 23).toInt = 0
          rw [s2]; rfl
        · exact s3 _ (by omega)
      · rw [zix_of hi] at c3
        obtain ⟨e1, e2, e3⟩ := zwI_eff c3
        refine ih (i + 1) (x2 + 1) u3 u4 I6 (by omega) (by omega) (i_1 hi (by omega)) ⟨fun b z1 z2 => (e1 b (by omega)).trans (s1.1 b z1 z2), fun k hk => (congrFun (e1 313 (by decide)) k).trans (s1.2 k hk)⟩ ((congrFun (e1 313 (by decide)) 23).trans s2) (fun k hk => ?_) (fun P hP => ?_)
        · by_cases z : k = i
          · rw [z]; exact e3
          · exact (e2 k z).trans (s3 k (by omega))
        · obtain ⟨d1, d2⟩ := s4 P hP
          have z8 : I6 318 = I 318 := e1 318 (by decide)
          have z9 : I6 319 = I 319 := e1 319 (by decide)
          exact ⟨by rw [z9]; exact d1, fun j' hj' => by rw [z8]; exact d2 j' hj'⟩
  refine kX11_till 313 x1 (sX11_till_0 313 x1 hl (Nat.le_refl _) ⟨_, c_places l G h n V hl w mn, fun I4 ⟨g1, g2⟩ I10 c2 => ?_⟩)
  obtain ⟨e1, e2, e3⟩ := zwI_eff c2
  refine zero 25 0 0 zU zU I10 (by omega) (by omega) rfl ⟨fun b z1 z2 => (e1 b z1).trans (g1 b (by omega) (by omega)), fun k hk => (e2 k hk).trans (congrFun (g1 313 (by decide) (by decide)) k)⟩ e3 (fun k hk => absurd hk (Nat.not_lt_zero k)) (fun P hP => ?_)
  obtain ⟨d1, d2⟩ := g2 P hP
  have z8 : I10 318 = I4 318 := e1 318 (by decide)
  have z9 : I10 319 = I4 319 := e1 319 (by decide)
  exact ⟨by rw [z9]; exact d1, fun j' hj' => by rw [z8]; exact d2 j' hj'⟩
