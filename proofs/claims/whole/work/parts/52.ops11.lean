/-! tells -/
def othS (S : KS) (z : Nat) (l : List Int32) : Nat → Nat → Int32
  | 0, _ => -1
  | m + 1, j => if l[j]? = some (at3 (stN (j + 1) S).1 z) then othS S z l m (j + 1) else nI j
theorem oth_or (S : KS) (z : Nat) (l : List Int32) : ∀ m j, othS S z l m j = -1 ∨ ∃ i, i < j + m ∧ othS S z l m j = nI i := by
  intro m
  induction m with
  | zero => intro j; exact Or.inl rfl
  | succ m ih =>
    intro j
    rw [othS]
    split
    · rcases ih (j + 1) with h | ⟨i, h1, h2⟩
      · exact Or.inl h
      · exact Or.inr ⟨i, by omega, h2⟩
    · exact Or.inr ⟨j, by omega, rfl⟩
theorem t_ot {r z : Nat} {S : KS} {s x : Int32} {l : List Int32} (hr : r < 4) (hz : z < 3) (hS : okK S) (h40 : l.length ≤ 40) : ∀ (m j : Nat) (σ : Mem), j + m = l.length → repK 15 (waN j S) σ → repSc r (some (s, l)) σ → ∃ σ', am_go CX9_firstOtherwise 24 [.ref 0, .ref (152 + 2 * r), .int (nI z), .int x, .int (nI j)] [] σ = some (some (.int (othS S z l m j)), σ') ∧ ∀ a, (a < 15 ∨ 15 + 14 ≤ a) → σ' a = σ a := by
  intro m
  induction m with
  | zero =>
    intro j σ hj h hs
    have : j = l.length := by omega
    subst this
    rw [blX9_firstOtherwise_24, oc (ses hr), hs.2.1, if_pos (Int32.le_refl _)]
    exact ⟨σ, rfl, fun _ _ => rfl⟩
  | succ m ih =>
    intro j σ hj h hs
    obtain ⟨σ1, e1, r1, f1⟩ := t_warm k15 (hS.waN (n := j)).1 h
    have hv : σ1 (15 + 1) z = at3 (stN (j + 1) S).1 z := by
      rw [r1.1 z hz, waN_succ]; rfl
    rw [waN_succ] at r1
    have hs1 : repSc r (some (s, l)) σ1 := by
      unfold repSc at hs ⊢
      rw [f1 _ (by omega), f1 _ (by omega)]
      exact hs
    obtain ⟨w, hw⟩ : ∃ a, l[j]? = some a := ⟨l[j], List.getElem?_eq_getElem (by omega)⟩
    rw [blX9_firstOtherwise_24, oc (ses hr), hs.2.1, if_neg (nI_ge (by omega) (by omega)), oc c8, rf0_1, oc k15, e1, rV, oc c8, oc k15, kr0 k15, x3 (ks1 k15) hz, oc (ses hr), sir hr, xi (show j < 40 by omega) (sis hr), cl z (by omega), cl j (by omega), hv, hs1.2.2 j w hw, nI_1, othS, hw]
    by_cases he : at3 (stN (j + 1) S).1 z = w
    · rw [if_pos he, if_pos (by rw [he])]
      obtain ⟨σ2, e2, f2⟩ := ih (j + 1) σ1 (by omega) r1 hs1
      exact ⟨σ2, e2, fun a ha => (f2 a ha).trans (f1 a ha)⟩
    · rw [if_neg he, if_neg (fun e => he (Option.some.inj e).symm)]
      exact ⟨σ1, rfl, f1⟩
theorem c_first {Z : ZS} {r z i : Nat} {s : Int32} {l : List Int32} {σ : Mem} (hr : r < 4) (hz : z < 3) (hi : i < 4) (hZ : okZ Z) (hC : RC Z σ) (ho : Z.2.2.2.1 r = some (s, l)) : ∃ σ', FX9_firstOtherwise [.ref 0, .ref (152 + 2 * r), .int (nI z), .int (nI i)] σ = some (some (.int (othS (withT Z.1 z (nI i)) z l l.length 0)), σ') ∧ ∀ a, (a < 15 ∨ 15 + 14 ≤ a) → σ' a = σ a := by
  have rc := hC.2.2.2.1 r hr
  rw [ho] at rc
  have h40 := (hZ.2.2.2.1 r hr s l ho).2
  obtain ⟨σ1, e1, r1, f1⟩ := t_become k15 k1 (by decide) hZ.1.1 hC.1
  have hs1 : repSc r (some (s, l)) (setM σ1 17 z (nI i)) := by
    unfold repSc at rc ⊢
    rw [sM_a (by omega), sM_a (by omega), f1 _ (by omega), f1 _ (by omega)]
    exact rc
  obtain ⟨σ2, e2, f2⟩ := t_ot (x := nI i) hr hz (hZ.1.withT hz hi) h40 l.length 0 (setM σ1 17 z (nI i)) (by omega) (r1.setT (v := nI i) hz) hs1
  rw [enX9_firstOtherwise, oc c8, oc c8, rf0_0, rf0_1, oc k15, e1, rV, oc c8, oc k15, kr1 k15, x3 (ks2 k15) hz, cl z (by omega), show am_go CX9_firstOtherwise 24 [.ref 0, .ref (152 + 2 * r), .int (nI z), .int (nI i), .int 0] [] (setM σ1 (15 + 2) z (nI i)) = _ from e2]
  exact ⟨σ2, rfl, fun a ha => by rw [f2 a ha, sM_a (by omega), f1 a ha]⟩
theorem m_ot {r z : Nat} {S0 S : KS} {s : Int32} {l : List Int32} (hr : r < 4) (hz : z < 3) (hS : okK S) (h40 : l.length ≤ 40) : ∀ (m j : Nat) (v4 : Value) (σ : Mem), j + m = l.length → inT S0 (stN j S) σ → repSm r (some (s, l)) σ → ∃ σ', am_go CX10_otherBy 2 [.ref 160, .int (nI r), .int (nI z), .int (nI j), v4] [] σ = some (some (.int (othS S z l m j)), σ') ∧ (∃ S', inT S0 S' σ') ∧ frM σ σ' := by
  intro m
  induction m with
  | zero =>
    intro j v4 σ hj h hs
    have : j = l.length := by omega
    subst this
    rw [blX10_otherBy_2, oc m9, rf160_16, xi hr sh173, cl r (by omega), hs.2.1, if_pos (Int32.le_refl _)]
    exact ⟨σ, rfl, ⟨_, h⟩, frM.rf σ⟩
  | succ m ih =>
    intro j v4 σ hj h hs
    obtain ⟨σ1, e1, r1, f1⟩ := th_go (hS.stN (n := j)) h
    rw [← stN_succ] at r1
    have hv : σ1 161 z = at3 (stN (j + 1) S).1 z := r1.1.1 z hz
    have hs1 : repSm r (some (s, l)) σ1 := by
      unfold repSm at hs ⊢
      rw [f1.1 172 (by omega), f1.1 173 (by omega), f1.1 174 (by omega)]
      exact hs
    obtain ⟨w, hw⟩ : ∃ a, l[j]? = some a := ⟨l[j], List.getElem?_eq_getElem (by omega)⟩
    rw [blX10_otherBy_2, oc m9, rf160_16, xi hr sh173, cl r (by omega), hs.2.1, if_neg (nI_ge (by omega) (by omega)), oc m9, e1, rI, oc m9, rf160_17, nIx, xi (show 40 * r + j < 160 by omega) sh174, oc m9, rf160_0, xi hz sh161, cl z (by omega), cl (40 * r + j) (by omega), hv, hs1.2.2 j w hw, nI_1, othS, hw]
    by_cases he : w = at3 (stN (j + 1) S).1 z
    · rw [if_pos he, if_pos (by rw [he])]
      obtain ⟨σ2, e2, q2, f2⟩ := ih (j + 1) (.int (stepS (stN j S)).2) σ1 (by omega) r1 hs1
      exact ⟨σ2, e2, q2, f1.tr f2⟩
    · rw [if_neg he, if_neg (fun e => he (Option.some.inj e))]
      exact ⟨σ1, rfl, ⟨_, r1⟩, f1⟩
def telS (S : KS) (z : Nat) (l : List Int32) (s : Nat) (b : Int32) : Int32 := if othS (withT S z (nI s)) z l l.length 0 = -1 then b ||| ((1 : Int32) <<< (nI s &&& 31)) else b
theorem t_te {Z : ZS} {r z i : Nat} {s b : Int32} {l : List Int32} {σ : Mem} (hr : r < 4) (hz : z < 3) (hi : i < 4) (hZ : okZ Z) (hC : RC Z σ) (ho : Z.2.2.2.1 r = some (s, l)) : ∃ σ', am_go CX9_tells 89 [.ref 0, .int (nI r), .int (nI z), .int 1, .int b, .int (nI i)] [] σ = am_go CX9_tells 89 [.ref 0, .int (nI r), .int (nI z), .int 1, .int (telS Z.1 z l i b), .int (nI (i + 1))] [] σ' ∧ RC Z σ' ∧ ∀ a, (a < 15 ∨ 15 + 14 ≤ a) → σ' a = σ a := by
  obtain ⟨σ1, e1, f1⟩ := c_first hr hz hi hZ hC ho
  rw [blX9_tells_89, if_neg (show ¬ (4 : Int32) ≤ nI i from nI_ge (b := 4) hi (by decide)), oc c8, rf0_11, x104 hr, oc c8, cl r (by omega), ser hr, e1, rI, nI_1]
  refine ⟨σ1, ?_, hC.th hZ f1, f1⟩
  unfold telS
  split <;> rfl
theorem m_te {Z : ZS} {r z i : Nat} {s b : Int32} {l : List Int32} {σ : Mem} (hr : r < 4) (hz : z < 3) (hi : i < 4) (hZ : okZ Z) (h : inT Z.1 Z.1 σ) (ho : Z.2.2.2.1 r = some (s, l)) (hs : repSm r (some (s, l)) σ) : ∃ σ', am_go CX10_tells 81 [.ref 160, .int (nI r), .int (nI z), .int 1, .int b, .int (nI i)] [] σ = am_go CX10_tells 81 [.ref 160, .int (nI r), .int (nI z), .int 1, .int (telS Z.1 z l i b), .int (nI (i + 1))] [] σ' ∧ inT Z.1 Z.1 σ' ∧ repSm r (some (s, l)) σ' ∧ frM σ σ' := by
  have h40 := (hZ.2.2.2.1 r hr s l ho).2
  have hs1 : repSm r (some (s, l)) (setM σ 162 z (nI i)) := by
    unfold repSm at hs ⊢
    rw [sM_a (by omega), sM_a (by omega), sM_a (by omega)]
    exact hs
  obtain ⟨σ1, e1, ⟨S', q1⟩, f1⟩ := m_ot hr hz (hZ.1.withT hz hi) h40 l.length 0 .null (setM σ 162 z (nI i)) (by omega) (th_setT (v := nI i) hz h) hs1
  obtain ⟨σ2, e2, r2, f2⟩ := th_end hZ.1.1 q1
  have fA : frM σ σ2 := frM.s162.tr (f1.tr f2)
  refine ⟨σ2, ?_, r2, ?_, fA⟩
  · rw [blX10_tells_81, if_neg (show ¬ (4 : Int32) ≤ nI i from nI_ge (b := 4) hi (by decide)), oc m9, rf160_1, xi hz sh162, oc m9, cl z (by omega), enX10_otherBy, show am_go CX10_otherBy 2 [.ref 160, .int (nI r), .int (nI z), .int 0, .null] [] (setM σ 162 z (nI i)) = _ from e1, rI, or0, nI_1, oc m9, oc m9, e2, rV, rV]
    unfold telS
    rcases oth_or (withT Z.1 z (nI i)) z l l.length 0 with h | ⟨q, hq, h⟩
    · rw [h, if_neg (by decide), if_pos rfl]
    · rw [h, if_pos (nI_pos' (by omega)), if_neg (fun e => by have := nI_pos' (n := q) (by omega); rw [e] at this; exact absurd this (by decide))]
  · unfold repSm at hs ⊢
    rw [fA.1 172 (by omega), fA.1 173 (by omega), fA.1 174 (by omega)]
    exact hs
theorem op_tells {σ : Mem} (h : Rel σ) (x1 x2 x3 : Int32) : OpOK (FX9_tells [.ref 0, .int x1, .int x2, .int x3]) (FX10_tells [.ref 160, .int x1, .int x2, .int x3]) σ := by
  by_cases h1 : 0 ≤ x1 ∧ x1 ≤ 3
  · by_cases h2 : 0 ≤ x2 ∧ x2 ≤ 2
    · by_cases h3 : 0 ≤ x3 ∧ x3 ≤ 1
      · have h0 := h
        obtain ⟨Z, hZ, hC, hM⟩ := h
        obtain ⟨r, hr, rfl⟩ := n3 h1
        obtain ⟨z, hz, rfl⟩ := n2 h2
        have okr := hZ.2.2.2.1 r hr
        have rc := hC.2.2.2.1 r hr
        have rm := hM.2.2.2.1 r hr
        cases ho : Z.2.2.2.1 r with
        | none =>
          rw [ho] at okr rc rm
          have rm' : σ 172 r = -1 := rm
          exact op_same (r := -11) h0 (by rw [enX9_tells, t_isSheet, rI, ifb, if_pos h1, t_isZone, rI, ifb, if_pos h2, t_isWithin, rI, ifb, if_pos h3, oc c8, rf0_11, x104 hr, cl r (by omega), ser hr, oc (ses hr), t_missing hr rc okr, rI, ifb, if_pos rfl]) (by rw [enX10_tells, t_mSheet, rI, ifb, if_pos h1, t_mZone, rI, ifb, if_pos h2, t_isIn, rI, ifb, if_pos h3, oc m9, rf160_15, xi hr sh172, cl r (by omega), rm', if_neg (by decide)])
        | some q =>
          obtain ⟨s, l⟩ := q
          rw [ho] at okr rc rm
          obtain ⟨hs, h40⟩ := okr s l rfl
          obtain ⟨rc0, rc1, rc2⟩ := rc
          have rc : repSc r (some (s, l)) σ := ⟨rc0, rc1, rc2⟩
          by_cases hl : nI l.length ≤ 12
          · rcases (so2 x3).mp h3 with rfl | rfl
            · obtain ⟨i, hi, ei⟩ := hZ.1.2 z hz
              refine op_of (Z' := Z) (r := othS Z.1 z l l.length 0) hZ hM hZ ?_ (fun σ1 hM1 => ?_)
              · obtain ⟨σ1, e1, f1⟩ := c_first hr hz hi hZ hC ho
                have ew : withT Z.1 z (nI i) = Z.1 := by unfold withT; rw [← ei, set3_at hz]
                rw [ew] at e1
                rw [enX9_tells, t_isSheet, rI, ifb, if_pos h1, t_isZone, rI, ifb, if_pos h2, t_isWithin, rI, ifb, if_pos h3, oc c8, rf0_11, x104 hr, cl r (by omega), ser hr, oc (ses hr), t_missing hr rc okr, rI, ifb, if_neg (fun e => by cases e), oc c8, x104 hr, oc (ses hr), rc1, if_pos hl, if_pos rfl, oc c8, x104 hr, oc c8, rf0_0, oc k1, kr1 k1, x3 (ks2 k1) hz, oc c8, cl z (by omega), hC.1.2.1 z hz, ei, e1, rI]
                exact ⟨σ1, rfl, hC.th hZ f1, fun a ha => f1 a (by omega)⟩
              · have rm1 := hM1.2.2.2.1 r hr
                rw [ho] at rm1
                obtain ⟨σ2, e2, r2, f2⟩ := th_begin hZ.1.1 hM1.1
                have rm2 : repSm r (some (s, l)) σ2 := by
                  unfold repSm at rm1 ⊢
                  rw [f2.1 172 (by omega), f2.1 173 (by omega), f2.1 174 (by omega)]
                  exact rm1
                obtain ⟨σ3, e3, ⟨S', q3⟩, f3⟩ := m_ot hr hz hZ.1 h40 l.length 0 .null σ2 (by omega) r2 rm2
                obtain ⟨σ4, e4, r4, f4⟩ := th_end hZ.1.1 q3
                rw [enX10_tells, t_mSheet, rI, ifb, if_pos h1, t_mZone, rI, ifb, if_pos h2, t_isIn, rI, ifb, if_pos h3, oc m9, rf160_15, xi hr sh172, cl r (by omega), rm1.1, if_pos (sz_neg hs).1, oc m9, rf160_16, xi hr sh173, rm1.2.1, if_pos hl, oc m9, e2, rV, if_pos rfl, oc m9, enX10_otherBy, show am_go CX10_otherBy 2 [.ref 160, .int (nI r), .int (nI z), .int 0, .null] [] σ2 = _ from e3, rI, oc m9, e4, rV]
                exact ⟨σ4, rfl, hM1.th r4.1 ((f2.tr f3).tr f4), ((f2.tr f3).tr f4).lo⟩
            · refine op_of (Z' := Z) (r := telS Z.1 z l 3 (telS Z.1 z l 2 (telS Z.1 z l 1 (telS Z.1 z l 0 0)))) hZ hM hZ ?_ (fun σ1 hM1 => ?_)
              · obtain ⟨s1, e1, c1, f1⟩ := t_te (b := 0) hr hz (i := 0) (by decide) hZ hC ho
                obtain ⟨s2, e2, c2, f2⟩ := t_te (b := telS Z.1 z l 0 0) hr hz (i := 1) (by decide) hZ c1 ho
                obtain ⟨s3, e3, c3, f3⟩ := t_te (b := telS Z.1 z l 1 (telS Z.1 z l 0 0)) hr hz (i := 2) (by decide) hZ c2 ho
                obtain ⟨s4, e4, c4, f4⟩ := t_te (b := telS Z.1 z l 2 (telS Z.1 z l 1 (telS Z.1 z l 0 0))) hr hz (i := 3) (by decide) hZ c3 ho
                rw [enX9_tells, t_isSheet, rI, ifb, if_pos h1, t_isZone, rI, ifb, if_pos h2, t_isWithin, rI, ifb, if_pos h3, oc c8, rf0_11, x104 hr, cl r (by omega), ser hr, oc (ses hr), t_missing hr rc okr, rI, ifb, if_neg (fun e => by cases e), oc c8, x104 hr, oc (ses hr), rc1, if_pos hl, if_neg (by decide), show am_go CX9_tells 89 [.ref 0, .int (nI r), .int (nI z), .int 1, .int 0, .int 0] [] σ = _ from e1, e2, e3, e4, blX9_tells_89, if_pos (by decide)]
                exact ⟨s4, rfl, c4, fun a ha => by rw [f4 a (by omega), f3 a (by omega), f2 a (by omega), f1 a (by omega)]⟩
              · have rm1 := hM1.2.2.2.1 r hr
                rw [ho] at rm1
                obtain ⟨σ2, b2, r2, g2⟩ := th_begin hZ.1.1 hM1.1
                have rm2 : repSm r (some (s, l)) σ2 := by
                  unfold repSm at rm1 ⊢
                  rw [g2.1 172 (by omega), g2.1 173 (by omega), g2.1 174 (by omega)]
                  exact rm1
                obtain ⟨s1, e1, c1, d1, f1⟩ := m_te (b := 0) hr hz (i := 0) (by decide) hZ r2 ho rm2
                obtain ⟨s2, e2, c2, d2, f2⟩ := m_te (b := telS Z.1 z l 0 0) hr hz (i := 1) (by decide) hZ c1 ho d1
                obtain ⟨s3, e3, c3, d3, f3⟩ := m_te (b := telS Z.1 z l 1 (telS Z.1 z l 0 0)) hr hz (i := 2) (by decide) hZ c2 ho d2
                obtain ⟨s4, e4, c4, d4, f4⟩ := m_te (b := telS Z.1 z l 2 (telS Z.1 z l 1 (telS Z.1 z l 0 0))) hr hz (i := 3) (by decide) hZ c3 ho d3
                rw [enX10_tells, t_mSheet, rI, ifb, if_pos h1, t_mZone, rI, ifb, if_pos h2, t_isIn, rI, ifb, if_pos h3, oc m9, rf160_15, xi hr sh172, cl r (by omega), rm1.1, if_pos (sz_neg hs).1, oc m9, rf160_16, xi hr sh173, rm1.2.1, if_pos hl, oc m9, b2, rV, if_neg (by decide), show am_go CX10_tells 81 [.ref 160, .int (nI r), .int (nI z), .int 1, .int 0, .int 0] [] σ2 = _ from e1, e2, e3, e4, blX10_tells_81, if_pos (by decide)]
                have fA := (((g2.tr f1).tr f2).tr f3).tr f4
                exact ⟨s4, rfl, hM1.th c4.1 fA, fA.lo⟩
          · exact op_same (r := -2) h0 (by rw [enX9_tells, t_isSheet, rI, ifb, if_pos h1, t_isZone, rI, ifb, if_pos h2, t_isWithin, rI, ifb, if_pos h3, oc c8, rf0_11, x104 hr, cl r (by omega), ser hr, oc (ses hr), t_missing hr rc okr, rI, ifb, if_neg (fun e => by cases e), oc c8, x104 hr, oc (ses hr), rc1, if_neg hl]) (by rw [enX10_tells, t_mSheet, rI, ifb, if_pos h1, t_mZone, rI, ifb, if_pos h2, t_isIn, rI, ifb, if_pos h3, oc m9, rf160_15, xi hr sh172, cl r (by omega), rm.1, if_pos (sz_neg hs).1, oc m9, rf160_16, xi hr sh173, rm.2.1, if_neg hl])
      · exact op_same (r := -2) h (by rw [enX9_tells, t_isSheet, rI, ifb, if_pos h1, t_isZone, rI, ifb, if_pos h2, t_isWithin, rI, ifb, if_neg h3]) (by rw [enX10_tells, t_mSheet, rI, ifb, if_pos h1, t_mZone, rI, ifb, if_pos h2, t_isIn, rI, ifb, if_neg h3])
    · exact op_same (r := -2) h (by rw [enX9_tells, t_isSheet, rI, ifb, if_pos h1, t_isZone, rI, ifb, if_neg h2]) (by rw [enX10_tells, t_mSheet, rI, ifb, if_pos h1, t_mZone, rI, ifb, if_neg h2])
  · exact op_same (r := -2) h (by rw [enX9_tells, t_isSheet, rI, ifb, if_neg h1]) (by rw [enX10_tells, t_mSheet, rI, ifb, if_neg h1])
