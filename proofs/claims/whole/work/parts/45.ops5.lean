/-! may, weakest, until, cool -/
theorem set3_set {T : H3} {z : Nat} {a b : Int32} : set3 (set3 T z a) z b = set3 T z b := by
  match z with
  | 0 => rfl
  | 1 => rfl
  | _ + 2 => rfl
theorem set3_at {T : H3} {z : Nat} (hz : z < 3) : set3 T z (at3 T z) = T := by
  match z, hz with
  | 0, _ => rfl
  | 1, _ => rfl
  | 2, _ => rfl
def withT (S : KS) (z : Nat) (v : Int32) : KS := (S.1, set3 S.2.1 z v, S.2.2)
theorem okK.withT {S : KS} {z j : Nat} (h : okK S) (hz : z < 3) (hj : j < 4) : okK (withT S z (nI j)) := ⟨h.1, h.2.set hz hj⟩
def mayS (S : KS) (z s : Nat) (b : Int32) : Int32 := if (stepS (withT S z (nI s))).2 = 0 then b ||| ((1 : Int32) <<< (nI s &&& 31)) else b
theorem t_may {Z : ZS} {z s : Nat} {σ : Mem} {b : Int32} (hZ : okZ Z) (hC : RC Z σ) (hz : z < 3) (hs : s < 4) : ∃ σ', am_go CX9_may 14 [.ref 0, .int (nI z), .int b, .int (nI s)] [] σ = am_go CX9_may 14 [.ref 0, .int (nI z), .int (mayS Z.1 z s b), .int (nI (s + 1))] [] σ' ∧ RC Z σ' ∧ ∀ a, (a < 15 ∨ 15 + 14 ≤ a) → σ' a = σ a := by
  obtain ⟨σ1, e1, r1, f1⟩ := t_become k15 k1 (by decide) hZ.1.1 hC.1
  obtain ⟨σ2, e2, r2, f2⟩ := t_goStep k15 (hZ.1.withT hz hs).1 (r1.setT (v := nI s) hz)
  have g : ∀ a, (a < 15 ∨ 15 + 14 ≤ a) → σ2 a = σ a := fun a ha => by rw [f2 a ha, sM_a (by omega), f1 a ha]
  rw [blX9_may_14, if_neg (show ¬ (4 : Int32) ≤ nI s from nI_ge (b := 4) hs (by decide)), oc c8, oc c8, rf0_0, rf0_1, oc k15, e1, rV, oc c8, oc k15, kr1 k15, x3 (ks2 k15) hz, oc c8, oc k15, cl z (by omega), e2, rI, nI_1]
  refine ⟨σ2, ?_, hC.th hZ g, g⟩
  unfold mayS withT
  split <;> rfl
theorem m_may {S : KS} {z s : Nat} {σ : Mem} {b w : Int32} {T0 : Int32} (hS : okK S) (hM : repM (withT S z T0) σ) (hz : z < 3) (hs : s < 4) : ∃ σ', am_go CX10_may 22 [.ref 160, .int (nI z), .int w, .int b, .int (nI s)] [] σ = am_go CX10_may 22 [.ref 160, .int (nI z), .int w, .int (mayS S z s b), .int (nI (s + 1))] [] σ' ∧ repM (withT S z (nI s)) σ' ∧ frM σ σ' := by
  have hM1 : repM (withT S z (nI s)) (setM σ 162 z (nI s)) := by
    have := hM.setT (z := z) (v := nI s) hz
    unfold withT at this ⊢
    rw [set3_set] at this
    exact this
  obtain ⟨σ2, e2, b2, f2⟩ := m_troubles (hS.withT hz hs).1 hM1
  rw [blX10_may_22, if_neg (show ¬ (4 : Int32) ≤ nI s from nI_ge (b := 4) hs (by decide)), oc m9, rf160_1, xi hz sh162, oc m9, cl z (by omega), e2, rI, or0, nI_1]
  refine ⟨σ2, ?_, ?_, ⟨fun a ha => by rw [f2 a (by omega), sM_a (by omega)], fun j _ _ _ _ => by rw [f2 160 (by decide), sM_a (by decide)]⟩⟩
  · unfold mayS
    split <;> rfl
  · unfold repM repN at hM1 ⊢
    rw [f2 160 (by decide), f2 161 (by decide), f2 162 (by decide), f2 163 (by decide), f2 164 (by decide), f2 165 (by decide), f2 166 (by decide), f2 167 (by decide)]
    exact hM1
theorem op_may {σ : Mem} (h : Rel σ) (x1 : Int32) : OpOK (FX9_may [.ref 0, .int x1]) (FX10_may [.ref 160, .int x1]) σ := by
  have h0 := h
  obtain ⟨Z, hZ, hC, hM⟩ := h
  by_cases hx : 0 ≤ x1 ∧ x1 ≤ 2
  · obtain ⟨z, hz, rfl⟩ := n2 hx
    refine op_of (Z' := Z) (r := mayS Z.1 z 3 (mayS Z.1 z 2 (mayS Z.1 z 1 (mayS Z.1 z 0 0)))) hZ hM hZ ?_ (fun σ1 hM1 => ?_)
    · obtain ⟨s1, e1, c1, f1⟩ := t_may (b := 0) hZ hC hz (s := 0) (by decide)
      obtain ⟨s2, e2, c2, f2⟩ := t_may (b := mayS Z.1 z 0 0) hZ c1 hz (s := 1) (by decide)
      obtain ⟨s3, e3, c3, f3⟩ := t_may (b := mayS Z.1 z 1 (mayS Z.1 z 0 0)) hZ c2 hz (s := 2) (by decide)
      obtain ⟨s4, e4, c4, f4⟩ := t_may (b := mayS Z.1 z 2 (mayS Z.1 z 1 (mayS Z.1 z 0 0))) hZ c3 hz (s := 3) (by decide)
      rw [enX9_may, t_isZone, rI, ifb, if_pos hx, show am_go CX9_may 14 [.ref 0, .int (nI z), .int 0, .int 0] [] σ = _ from e1, e2, e3, e4, blX9_may_14, if_pos (by decide)]
      exact ⟨s4, rfl, c4, fun a ha => by rw [f4 a (by omega), f3 a (by omega), f2 a (by omega), f1 a (by omega)]⟩
    · have hM0 : repM (withT Z.1 z (at3 Z.1.2.1 z)) σ1 := by unfold withT; rw [set3_at hz]; exact hM1.1
      obtain ⟨s1, e1, c1, f1⟩ := m_may (b := 0) (w := at3 Z.1.2.1 z) hZ.1 hM0 hz (s := 0) (by decide)
      obtain ⟨s2, e2, c2, f2⟩ := m_may (b := mayS Z.1 z 0 0) (w := at3 Z.1.2.1 z) hZ.1 c1 hz (s := 1) (by decide)
      obtain ⟨s3, e3, c3, f3⟩ := m_may (b := mayS Z.1 z 1 (mayS Z.1 z 0 0)) (w := at3 Z.1.2.1 z) hZ.1 c2 hz (s := 2) (by decide)
      obtain ⟨s4, e4, c4, f4⟩ := m_may (b := mayS Z.1 z 2 (mayS Z.1 z 1 (mayS Z.1 z 0 0))) (w := at3 Z.1.2.1 z) hZ.1 c3 hz (s := 3) (by decide)
      have e1' : am_go CX10_may 22 [.ref 160, .int (nI z), .int (at3 Z.1.2.1 z), .int 0, .int 0] [] σ1 = _ := e1
      rw [enX10_may, t_mZone, rI, ifb, if_pos hx, oc m9, rf160_1, xi hz sh162, cl z (by omega), hM1.1.2.1 z hz, e1', e2, e3, e4, blX10_may_22, if_pos (by decide), oc m9, rf160_1, xi hz sh162, cl z (by omega)]
      have fr := (((f1.tr f2).tr f3).tr f4).tr (frM.s162 (σ := s4) (z := z) (v := at3 Z.1.2.1 z))
      have hf : repM Z.1 (setM s4 162 z (at3 Z.1.2.1 z)) := by
        have := c4.setT (z := z) (v := at3 Z.1.2.1 z) hz
        unfold withT at this
        rw [set3_set, set3_at hz] at this
        exact this
      exact ⟨_, rfl, hM1.th hf fr, fr.lo⟩
  · exact op_same (r := -2) h0 (by rw [enX9_may, t_isZone, rI, ifb, if_neg hx]) (by rw [enX10_may, t_mZone, rI, ifb, if_neg hx])
/-! weakest -/
def wkM (i : Nat) (v : Int32) (b : Option (Nat × Int32)) : Option (Nat × Int32) := match b with
  | none => some (i, v)
  | some (j, r) => if r ≤ v then some (j, r) else some (i, v)
def wkS (z : Nat) (h : Int32) : List Ld → Nat → Option (Nat × Int32) → Option (Nat × Int32)
  | [], _, b => b
  | d :: L, i, b => wkS z h L (i + 1) (if d.2.2.1 = nI z ∧ spS d = false then wkM i (riseS d.1 d.2.1 h) b else b)
theorem wkS_cons (z : Nat) (h : Int32) (d : Ld) (L : List Ld) (i : Nat) (b : Option (Nat × Int32)) : wkS z h (d :: L) i b = wkS z h L (i + 1) (if d.2.2.1 = nI z ∧ spS d = false then wkM i (riseS d.1 d.2.1 h) b else b) := rfl
def wkE (b : Option (Nat × Int32)) : Int32 := match b with
  | none => -1
  | some (j, _) => nI j
theorem wkE_cases (b : Option (Nat × Int32)) : (b = none ∧ wkE b = -1) ∨ ∃ j r, b = some (j, r) ∧ wkE b = nI j := by
  cases b with
  | none => exact Or.inl ⟨rfl, rfl⟩
  | some q => exact Or.inr ⟨q.1, q.2, rfl, rfl⟩
theorem t_wk {z : Nat} {σ : Mem} {H : H3} (hz : z < 3) (h1 : ∀ z, z < 3 → σ (1 + 1) z = at3 H z) : ∀ (L2 L1 : List Ld) (b : Option (Nat × Int32)) (x3 : Int32) (v5 v6 : Value), (L1 ++ L2).length ≤ 8 → σ 1 4 = nI (L1 ++ L2).length → (∀ i d, (L1 ++ L2)[i]? = some d → repL (σ (1 + 6 + i)) d) → (∀ j r, b = some (j, r) → x3 = r ∧ j < 8) → am_go CX9_weakest 17 [.ref 0, .int (nI z), .int (wkE b), .int x3, .int (nI L1.length), v5, v6] [] σ = some (some (.int (wkE (wkS z (at3 H z) L2 L1.length b))), σ) := by
  intro L2
  induction L2 with
  | nil =>
    intro L1 b x3 v5 v6 h8 hc hr hb
    rw [List.append_nil] at hc
    rw [blX9_weakest_17, oc c8, rf0_0, oc k1, hc, if_pos (Int32.le_refl _)]
    rfl
  | cons d L2 ih =>
    intro L1 b x3' v5 v6 h8 hc hr hb
    have hlen : (L1 ++ d :: L2).length = L1.length + L2.length + 1 := by simp; omega
    have hi : L1.length < 8 := by omega
    have hd := hr L1.length d (by simp)
    have hl1 : (L1 ++ [d]).length = L1.length + 1 := by simp
    have hap : L1 ++ [d] ++ L2 = L1 ++ d :: L2 := by simp
    have ih' := fun b' y v5 v6 hb' => ih (L1 ++ [d]) b' y v5 v6 (by rw [hap]; exact h8) (by rw [hap]; exact hc) (by rw [hap]; exact hr) hb'
    rw [hl1] at ih'
    rw [blX9_weakest_17, oc c8, rf0_0, oc k1, hc, if_neg (nI_ge (by omega) (by omega)), oc c8, oc k1, kr3 k1, x8 (ks4 k1) hi, cl _ (by omega), klr k1 hi, oc (kls k1 hi), hd.2.2.1, oc (kls k1 hi), t_spoiled (kls k1 hi) hd, rI, ifb, oc c8, oc k1, kr0 k1, x3 (ks1 k1) hz, oc (kls k1 hi), cl z (by omega), h1 z hz, t_rise (kls k1 hi) hd, rI, nI_1, wkS_cons]
    by_cases hzd : d.2.2.1 = nI z
    · rw [if_pos hzd]
      cases hs : spS d with
      | true =>
        rw [if_pos (show true = true from rfl), if_neg (show ¬ (d.2.2.1 = nI z ∧ true = false) by simp)]
        exact ih' b x3' _ _ hb
      | false =>
        rw [if_neg (show ¬ false = true by decide), if_pos (show d.2.2.1 = nI z ∧ false = false from ⟨hzd, rfl⟩)]
        cases b with
        | none =>
          rw [if_pos (show wkE none = -1 from rfl)]
          exact ih' (some (L1.length, riseS d.1 d.2.1 (at3 H z))) _ _ _ (fun j r e => by cases e; exact ⟨rfl, hi⟩)
        | some q =>
          obtain ⟨j, r⟩ := q
          obtain ⟨e3, hj⟩ := hb j r rfl
          have hne : ¬ wkE (some (j, r)) = -1 := by
            show ¬ nI j = -1
            intro e
            exact nI_pos (n := j) (by omega) (by rw [e]; decide)
          rw [if_neg hne, e3]
          by_cases hr' : r ≤ riseS d.1 d.2.1 (at3 H z)
          · rw [if_pos hr']
            have := ih' (some (j, r)) r (.ref (1 + 6 + L1.length)) (.int (riseS d.1 d.2.1 (at3 H z))) (fun j' r' e => by cases e; exact ⟨rfl, hj⟩)
            rw [this]
            simp [wkM, hr']
          · rw [if_neg hr']
            have := ih' (some (L1.length, riseS d.1 d.2.1 (at3 H z))) (riseS d.1 d.2.1 (at3 H z)) (.ref (1 + 6 + L1.length)) (.int (riseS d.1 d.2.1 (at3 H z))) (fun j' r' e => by cases e; exact ⟨rfl, hi⟩)
            rw [show (wkE (some (L1.length, riseS d.1 d.2.1 (at3 H z)))) = nI L1.length from rfl] at this
            rw [this]
            simp [wkM, hr']
    · rw [if_neg hzd, if_neg (fun e => hzd e.1)]
      exact ih' b x3' _ _ hb
theorem m_wk {z : Nat} {σ : Mem} {H : H3} (hz : z < 3) (h1 : ∀ z, z < 3 → σ 161 z = at3 H z) : ∀ (L2 L1 : List Ld) (b : Option (Nat × Int32)), (L1 ++ L2).length ≤ 8 → (∀ d ∈ L2, okL d) → σ 160 2 = nI (L1 ++ L2).length → (∀ i d, (L1 ++ L2)[i]? = some d → repN i d σ) → (∀ j r, b = some (j, r) → ∃ d, (L1 ++ L2)[j]? = some d ∧ r = riseS d.1 d.2.1 (at3 H z)) → am_go CX10_weakest 14 [.ref 160, .int (nI z), .int (wkE b), .int (nI L1.length)] [] σ = some (some (.int (wkE (wkS z (at3 H z) L2 L1.length b))), σ) := by
  intro L2
  induction L2 with
  | nil =>
    intro L1 b h8 hok hc hr hb
    rw [List.append_nil] at hc
    rw [blX10_weakest_14, oc m9, hc, if_pos (Int32.le_refl _)]
    rfl
  | cons d L2 ih =>
    intro L1 b h8 hok hc hr hb
    have hlen : (L1 ++ d :: L2).length = L1.length + L2.length + 1 := by simp; omega
    have hi : L1.length < 8 := by omega
    have hd := hr L1.length d (by simp)
    have okd := hok d List.mem_cons_self
    have hl1 : (L1 ++ [d]).length = L1.length + 1 := by simp
    have hap : L1 ++ [d] ++ L2 = L1 ++ d :: L2 := by simp
    have ih' := fun b' hb' => ih (L1 ++ [d]) b' (by rw [hap]; exact h8) (fun d hd => hok d (List.mem_cons_of_mem _ hd)) (by rw [hap]; exact hc) (by rw [hap]; exact hr) (by rw [hap]; exact hb')
    rw [hl1] at ih'
    rw [blX10_weakest_14, oc m9, hc, if_neg (nI_ge (by omega) (by omega)), oc m9, rf160_5, xi hi sh165, cl _ (by omega), hd.2.2.1, oc m9, m_spoiled hi hd okd, rI, ifb, oc m9, rf160_0, xi hz sh161, oc m9, cl z (by omega), h1 z hz, m_rise hi hd, rI, oc m9, xi hz sh161, oc m9, h1 z hz, nI_1, wkS_cons]
    have hnew : ∀ j r, some (L1.length, riseS d.1 d.2.1 (at3 H z)) = some (j, r) → ∃ d', (L1 ++ d :: L2)[j]? = some d' ∧ r = riseS d'.1 d'.2.1 (at3 H z) := fun j r e => by cases e; exact ⟨d, by simp, rfl⟩
    by_cases hzd : d.2.2.1 = nI z
    · rw [if_pos hzd]
      cases hs : spS d with
      | true =>
        rw [if_pos (show true = true from rfl), if_neg (show ¬ (d.2.2.1 = nI z ∧ true = false) by simp)]
        exact ih' b hb
      | false =>
        rw [if_neg (show ¬ false = true by decide), if_pos (show d.2.2.1 = nI z ∧ false = false from ⟨hzd, rfl⟩)]
        cases b with
        | none =>
          rw [if_pos (show wkE none < 0 by decide)]
          exact ih' (some (L1.length, riseS d.1 d.2.1 (at3 H z))) hnew
        | some q =>
          obtain ⟨j, r⟩ := q
          obtain ⟨dj, hj, hrj⟩ := hb j r rfl
          have hj8 := (List.getElem?_eq_some_iff.mp hj).1
          have hneg : ¬ wkE (some (j, r)) < 0 := nI_pos (n := j) (by omega)
          rw [if_neg hneg, show wkE (some (j, r)) = nI j from rfl, m_rise (show j < 8 by omega) (hr j dj hj), rI, ← hrj]
          by_cases hr' : r ≤ riseS d.1 d.2.1 (at3 H z)
          · rw [if_pos hr']
            have := ih' (some (j, r)) hb
            rw [show wkE (some (j, r)) = nI j from rfl] at this
            rw [this]
            simp [wkM, hr']
          · rw [if_neg hr']
            have := ih' (some (L1.length, riseS d.1 d.2.1 (at3 H z))) hnew
            rw [show wkE (some (L1.length, riseS d.1 d.2.1 (at3 H z))) = nI L1.length from rfl] at this
            rw [this]
            simp [wkM, hr']
    · rw [if_neg hzd, if_neg (fun e => hzd e.1)]
      exact ih' b hb
theorem op_weakest {σ : Mem} (h : Rel σ) (x1 : Int32) : OpOK (FX9_weakest [.ref 0, .int x1]) (FX10_weakest [.ref 160, .int x1]) σ := by
  have h0 := h
  obtain ⟨Z, hZ, hC, hM⟩ := h
  by_cases hx : 0 ≤ x1 ∧ x1 ≤ 2
  · obtain ⟨z, hz, rfl⟩ := n2 hx
    refine op_same (r := wkE (wkS z (at3 Z.1.1 z) Z.1.2.2.1 0 none)) h0 ?_ ?_
    · rw [enX9_weakest, t_isZone, rI, ifb, if_pos hx]
      exact t_wk hz hC.1.1 Z.1.2.2.1 [] none 0 .null .null hZ.1.1.1 hC.1.2.2.2.1 hC.1.2.2.2.2.2.2 (fun j r e => by cases e)
    · rw [enX10_weakest, t_mZone, rI, ifb, if_pos hx]
      exact m_wk hz hM.1.1 Z.1.2.2.1 [] none hZ.1.1.1 hZ.1.1.2 hM.1.2.2.1 hM.1.2.2.2.2.2 (fun j r e => by cases e)
  · exact op_same (r := -2) h0 (by rw [enX9_weakest, t_isZone, rI, ifb, if_neg hx]) (by rw [enX10_weakest, t_mZone, rI, ifb, if_neg hx])
