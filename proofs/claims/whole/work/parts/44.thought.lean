/-! steps in thought -/
theorem under_ok {d : Ld} {h t : Int32} (hd : okL d) : okL (underS d h t).1 := by
  obtain ⟨e1, e2, e3⟩ := under_zone d h t
  refine ⟨by rw [e1]; exact hd.1, by rw [e2]; exact hd.2.1, by rw [e3]; exact hd.2.2.1, ?_⟩
  cases hs : spS d with
  | true => rw [under_sp hs]; exact hd.2.2.2
  | false =>
    by_cases hh : harmS d h t = 0
    · by_cases ht : t < topS d.1
      · rw [under_cold hs hh ht]; exact hd.2.2.2
      · by_cases hn : soakS d < needS d.1 d.2.1
        · rw [under_soak hs hh ht hn]; exact hd.2.2.2
        · rw [under_done hs hh ht hn]; exact Or.inr (Or.inl rfl)
    · rw [under_harm hs hh]
      rcases harm_cases d h t with e | e | e
      · exact absurd e hh
      · exact Or.inr (Or.inr (Or.inl e))
      · exact Or.inr (Or.inr (Or.inr e))
theorem goLs_ok (H B : H3) : ∀ (L : List Ld) (i : Nat) (b : Int32), (∀ d ∈ L, okL d) → ∀ d ∈ (goLs H B L i b).1, okL d := by
  intro L
  induction L with
  | nil => intro i b _ d hd; cases hd
  | cons a L ih =>
    intro i b h d hd
    rw [goLs] at hd
    rcases List.mem_cons.mp hd with h1 | h1
    · rw [h1]; exact under_ok (h a List.mem_cons_self)
    · exact ih _ _ (fun d hd => h d (List.mem_cons_of_mem _ hd)) d h1
theorem okS.step {S : KS} (h : okS S) : okS (stepS S).1 := ⟨by show (goLs _ _ _ _ _).1.length ≤ 8; rw [goLs_len]; exact h.1, goLs_ok _ _ _ _ _ h.2⟩
theorem okK.step {S : KS} (h : okK S) : okK (stepS S).1 := ⟨h.1.step, h.2⟩
theorem RC.th {Z : ZS} {σ σ' : Mem} (hZ : okZ Z) (h : RC Z σ) (f : ∀ a, (a < 15 ∨ 15 + 14 ≤ a) → σ' a = σ a) : RC Z σ' := ⟨h.1.fr hZ.1.1.1 (fun a ha => f a (by omega)), h.2.fr hZ.2 ⟨fun a ha => f a (by omega), by rw [f 0 (by omega)]⟩⟩
/-- in thought: from S on, S' now -/
def inT (S S' : KS) (σ : Mem) : Prop := repM S' σ ∧ keptM S σ ∧ repB S σ
theorem th_begin {S : KS} {σ : Mem} (hS : okS S) (h : repM S σ) : ∃ σ', FX10_keepsNow [.ref 160] σ = some (none, σ') ∧ inT S S σ' ∧ frM σ σ' := by
  obtain ⟨σ', e, r, k, f⟩ := m_keeps hS h
  exact ⟨σ', e, ⟨r, k, r.base⟩, f⟩
theorem th_go {S S' : KS} {σ : Mem} (hS : okK S') (h : inT S S' σ) : ∃ σ', FX10_goes [.ref 160] σ = some (some (.int (stepS S').2), σ') ∧ inT S (stepS S').1 σ' ∧ frM σ σ' := by
  obtain ⟨σ', e, r, f, f1, f2, f3⟩ := m_goes hS.1 hS.2 h.1
  exact ⟨σ', e, ⟨r, h.2.1.go f1 f2 f3, h.2.2.fr f⟩, f⟩
theorem th_end {S S' : KS} {σ : Mem} (hS : okS S) (h : inT S S' σ) : ∃ σ', FX10_laysBack [.ref 160] σ = some (none, σ') ∧ inT S S σ' ∧ frM σ σ' := by
  obtain ⟨σ', e, r, k, f⟩ := m_lays hS h.2.2 h.2.1
  exact ⟨σ', e, ⟨r, k, r.base⟩, f⟩
theorem frM.s162 {σ : Mem} {z : Nat} {v : Int32} : frM σ (setM σ 162 z v) := ⟨fun a ha => sM_a (by omega), fun j _ _ _ _ => by rw [sM_a (by decide)]⟩
theorem th_setT {S S' : KS} {σ : Mem} {z : Nat} {v : Int32} (hz : z < 3) (h : inT S S' σ) : inT S (S'.1, set3 S'.2.1 z v, S'.2.2) (setM σ 162 z v) := by
  refine ⟨h.1.setT hz, h.2.1.go (fun a ha hb => sM_a (by omega)) (by rw [sM_a (by decide)]) (by rw [sM_a (by decide)]), h.2.2.fr frM.s162⟩
theorem RM.of {Z : ZS} {S : KS} {σ σ' : Mem} (h : RM Z σ) (r : repM S σ') (f : frM σ σ') : RM (S, Z.2) σ' := ⟨r, h.2.fr f.kp⟩
theorem RM.th {Z : ZS} {σ σ' : Mem} (h : RM Z σ) (r : repM Z.1 σ') (f : frM σ σ') : RM Z σ' := ⟨r, h.2.fr f.kp⟩
theorem frM.lo {σ σ' : Mem} (h : frM σ σ') : ∀ a, a < 160 → σ' a = σ a := fun a ha => h.1 a (by omega)
/-! step -/
def runS : Nat → KS → Int32 → KS × Int32
  | 0, S, b => (S, b)
  | m + 1, S, b => runS m (stepS S).1 (b ||| (stepS S).2)
theorem okK.run : ∀ {m : Nat} {S : KS} {b : Int32}, okK S → okK (runS m S b).1 := by
  intro m
  induction m with
  | zero => exact fun h => h
  | succ m ih => exact fun h => ih h.step
theorem t_st {n : Nat} (hn : n ≤ 60) : ∀ (m j : Nat) (S : KS) (σ : Mem) (b : Int32), j + m = n → okK S → repK 1 S σ → ∃ σ', am_go CX9_step 35 [.ref 0, .int (nI n), .int b, .int (nI j)] [] σ = some (some (.int (runS m S b).2), σ') ∧ repK 1 (runS m S b).1 σ' ∧ ∀ a, (a < 1 ∨ 1 + 14 ≤ a) → σ' a = σ a := by
  intro m
  induction m with
  | zero =>
    intro j S σ b hj hS h
    have : j = n := by omega
    subst this
    rw [blX9_step_35, if_pos (Int32.le_refl _)]
    exact ⟨σ, rfl, h, fun _ _ => rfl⟩
  | succ m ih =>
    intro j S σ b hj hS h
    obtain ⟨σ1, e1, r1, f1⟩ := t_goStep k1 hS.1 h
    rw [blX9_step_35, if_neg (nI_ge (by omega) (by omega)), oc c8, rf0_0, oc k1, e1, rI, nI_1]
    obtain ⟨σ2, e2, r2, f2⟩ := ih (j + 1) (stepS S).1 σ1 (b ||| (stepS S).2) (by omega) hS.step r1
    exact ⟨σ2, e2, r2, fun a ha => (f2 a ha).trans (f1 a ha)⟩
theorem m_st {n : Nat} (hn : n ≤ 60) : ∀ (m j : Nat) (S : KS) (σ : Mem) (b : Int32), j + m = n → okK S → repM S σ → ∃ σ', am_go CX10_step 32 [.ref 160, .int (nI n), .int b, .int (nI j)] [] σ = some (some (.int (runS m S b).2), σ') ∧ repM (runS m S b).1 σ' ∧ frM σ σ' := by
  intro m
  induction m with
  | zero =>
    intro j S σ b hj hS h
    have : j = n := by omega
    subst this
    rw [blX10_step_32, if_pos (Int32.le_refl _)]
    exact ⟨σ, rfl, h, frM.rf σ⟩
  | succ m ih =>
    intro j S σ b hj hS h
    obtain ⟨σ1, e1, r1, f1, -⟩ := m_goes hS.1 hS.2 h
    rw [blX10_step_32, if_neg (nI_ge (by omega) (by omega)), oc m9, e1, rI, nI_1]
    obtain ⟨σ2, e2, r2, f2⟩ := ih (j + 1) (stepS S).1 σ1 (b ||| (stepS S).2) (by omega) hS.step r1
    exact ⟨σ2, e2, r2, f1.tr f2⟩
theorem op_step {σ : Mem} (h : Rel σ) (x1 : Int32) : OpOK (FX9_step [.ref 0, .int x1]) (FX10_step [.ref 160, .int x1]) σ := by
  have h0 := h
  obtain ⟨Z, hZ, hC, hM⟩ := h
  by_cases hx : 1 ≤ x1 ∧ x1 ≤ 60
  · by_cases hs : Z.1.2.2.2.2 + x1 ≤ 9999
    · obtain ⟨n, n1, n60, rfl⟩ := n_of (n := 1) (m := 60) rfl rfl (by decide) (by decide) hx
      refine op_of (Z' := ((runS n Z.1 0).1, Z.2)) (r := (runS n Z.1 0).2) hZ hM ⟨hZ.1.run, hZ.2⟩ ?_ (fun σ1 hM1 => ?_)
      · obtain ⟨σ1, e1, r1, f1⟩ := t_st n60 n 0 Z.1 σ 0 (by omega) hZ.1 hC.1
        rw [enX9_step, t_isWithin, rI, ifb, if_pos hx, oc c8, rf0_0, oc k1, hC.1.2.2.2.2.2.1, if_pos hs]
        exact ⟨σ1, e1, ⟨r1, hC.2.fr hZ.2 (kp_blk f1)⟩, fun a ha => f1 a (by omega)⟩
      · obtain ⟨σ2, e2, r2, f2⟩ := m_st n60 n 0 Z.1 σ1 0 (by omega) hZ.1 hM1.1
        rw [enX10_step, t_isIn, rI, ifb, if_pos hx, oc m9, hM1.1.2.2.2.2.1, if_pos hs]
        exact ⟨σ2, e2, hM1.of r2 f2, f2.lo⟩
    · exact op_same (r := -3) h0 (by rw [enX9_step, t_isWithin, rI, ifb, if_pos hx, oc c8, rf0_0, oc k1, hC.1.2.2.2.2.2.1, if_neg hs]) (by rw [enX10_step, t_isIn, rI, ifb, if_pos hx, oc m9, hM.1.2.2.2.2.1, if_neg hs])
  · exact op_same (r := -2) h0 (by rw [enX9_step, t_isWithin, rI, ifb, if_neg hx]) (by rw [enX10_step, t_isIn, rI, ifb, if_neg hx])
/-! next -/
theorem op_next {σ : Mem} (h : Rel σ) (x1 : Int32) : OpOK (FX9_next [.ref 0, .int x1]) (FX10_next [.ref 160, .int x1]) σ := by
  have h0 := h
  obtain ⟨Z, hZ, hC, hM⟩ := h
  by_cases hx : 0 ≤ x1 ∧ x1 ≤ 4
  · obtain ⟨j, -, hj4, rfl⟩ := n_of (n := 0) (m := 4) rfl rfl (by decide) (by decide) hx
    have key : ∀ r, (∀ σ', repK 15 (stepS Z.1).1 σ' → (if (3 : Int32) ≤ nI j then (if nI j = (3 : Int32) then some (some (.int (stepS Z.1).2), σ') else o_cls 0 8 (o_cls 15 2 (o_rI (FX3_bitsOfDone [.ref 15] σ') (fun r7 m6 => some (some (.int r7), m6))))) else o_cls 0 8 (o_cls 15 2 (o_ix 100 (rf 15 0) (nI j) (some (some (.int (σ' (rf 15 0) (nI j).toNatClampNeg)), σ'))))) = some (some (.int r), σ')) → (∀ σ', inT Z.1 (stepS Z.1).1 σ' → ∃ σ'', (if (3 : Int32) ≤ nI j then (if nI j = (3 : Int32) then o_cls 160 9 (o_rV (FX10_laysBack [.ref 160] σ') (fun m6 => some (some (.int (stepS Z.1).2), m6))) else o_cls 160 9 (o_rI (FX10_doneBits [.ref 160] σ') (fun r8 m7 => o_cls 160 9 (o_rV (FX10_laysBack [.ref 160] m7) (fun m9 => some (some (.int r8), m9)))))) else o_cls 160 9 (o_ix 100 (rf 160 0) (nI j) (o_cls 160 9 (o_rV (FX10_laysBack [.ref 160] σ') (fun m10 => some (some (.int (σ' (rf 160 0) (nI j).toNatClampNeg)), m10)))))) = some (some (.int r), σ'') ∧ inT Z.1 Z.1 σ'' ∧ frM σ' σ'') → OpOK (FX9_next [.ref 0, .int (nI j)]) (FX10_next [.ref 160, .int (nI j)]) σ := by
      intro r hc hm
      refine op_of (Z' := Z) (r := r) hZ hM hZ ?_ (fun σ1 hM1 => ?_)
      · obtain ⟨σ1, e1, r1, f1⟩ := t_become k15 k1 (by decide) hZ.1.1 hC.1
        obtain ⟨σ2, e2, r2, f2⟩ := t_goStep k15 hZ.1.1 r1
        rw [enX9_next, t_isWithin, rI, ifb, if_pos hx, oc c8, oc c8, rf0_0, rf0_1, oc k15, e1, rV, oc c8, oc k15, e2, rI, hc σ2 r2]
        exact ⟨σ2, rfl, hC.th hZ (fun a ha => (f2 a ha).trans (f1 a ha)), fun a ha => (f2 a (by omega)).trans (f1 a (by omega))⟩
      · obtain ⟨σ2, e2, r2, f2⟩ := th_begin hZ.1.1 hM1.1
        obtain ⟨σ3, e3, r3, f3⟩ := th_go hZ.1 r2
        obtain ⟨σ4, e4, r4, f4⟩ := hm σ3 r3
        rw [enX10_next, t_isIn, rI, ifb, if_pos hx, oc m9, e2, rV, oc m9, e3, rI, e4]
        exact ⟨σ4, rfl, hM1.th r4.1 ((f2.tr f3).tr f4), ((f2.tr f3).tr f4).lo⟩
    by_cases h3 : j < 3
    · refine key (at3 (stepS Z.1).1.1 j) (fun σ' r => ?_) (fun σ' r => ?_)
      · rw [if_neg (show ¬ (3 : Int32) ≤ nI j from nI_ge (b := 3) h3 (by decide)), oc c8, oc k15, kr0 k15, x3 (ks1 k15) h3, cl j (by omega), r.1 j h3]
      · obtain ⟨σ4, e4, r4, f4⟩ := th_end hZ.1.1 r
        rw [if_neg (show ¬ (3 : Int32) ≤ nI j from nI_ge (b := 3) h3 (by decide)), oc m9, rf160_0, xi h3 sh161, oc m9, e4, rV, cl j (by omega), r.1.1 j h3]
        exact ⟨σ4, rfl, r4, f4⟩
    · by_cases h4 : j = 3
      · subst h4
        refine key (stepS Z.1).2 (fun σ' r => ?_) (fun σ' r => ?_)
        · rw [if_pos (by decide), if_pos (by decide)]
        · obtain ⟨σ4, e4, r4, f4⟩ := th_end hZ.1.1 r
          rw [if_pos (by decide), if_pos (by decide), oc m9, e4, rV]
          exact ⟨σ4, rfl, r4, f4⟩
      · have : j = 4 := by omega
        subst this
        refine key (doneS (stepS Z.1).1) (fun σ' r => ?_) (fun σ' r => ?_)
        · rw [if_pos (by decide), if_neg (by decide), oc c8, oc k15, t_done k15 hZ.1.1.step r, rI]
        · obtain ⟨σ4, e4, r4, f4⟩ := th_end hZ.1.1 r
          rw [if_pos (by decide), if_neg (by decide), oc m9, m_done hZ.1.1.step r.1, rI, oc m9, e4, rV]
          exact ⟨σ4, rfl, r4, f4⟩
  · exact op_same (r := -2) h0 (by rw [enX9_next, t_isWithin, rI, ifb, if_neg hx]) (by rw [enX10_next, t_isIn, rI, ifb, if_neg hx])
