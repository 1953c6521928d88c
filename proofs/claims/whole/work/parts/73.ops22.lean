theorem inT.war {S0 S : KS} {σ σ' : Mem} (h : inT S0 S σ) (r : repM S σ') (f : frW σ σ') : inT S0 S σ' := by
  refine ⟨r, h.2.1.go (fun a h1 h2 => f a (by omega) (by omega)) (by rw [f 160 (by decide) (by decide)]) (by rw [f 160 (by decide) (by decide)]), ?_⟩
  have := h.2.2
  unfold repB at this ⊢
  rw [f 160 (by decide) (by decide), f 163 (by decide) (by decide), f 164 (by decide) (by decide), f 165 (by decide) (by decide)]
  exact this
theorem frW.m {σ σ' : Mem} (h : frW σ σ') : frM σ σ' := ⟨fun a ha => h a (by omega) (by omega), fun j _ _ _ _ => by rw [h 160 (by decide) (by decide)]⟩
theorem m_ca {S0 : KS} {n : Nat} {w : Int32} (hn : n ≤ 30) (hw : 0 ≤ w ∧ w ≤ 6) (h0 : okK S0) : ∀ (m j : Nat) (v4 : Value) (S : KS) (σ : Mem), j + m = n → okK S → inT S0 S σ → ∃ σ', am_go CX10_careful 29 [.ref 160, .int (nI n), .int w, .int (nI j), v4] [] σ = some (some (.int (cauR S0 (cauS m S) w)), σ') ∧ inT S0 S0 σ' ∧ frM σ σ' := by
  intro m
  induction m with
  | zero =>
    intro j v4 S σ hj hS h
    have : j = n := by omega
    subst this
    obtain ⟨σ1, e1, r1, f1⟩ := th_end h0.1 h
    refine ⟨σ1, ?_, r1, f1⟩
    have hend : ∀ x : Int32, am_go CX10_careful 146 [.ref 160, .int (nI j), .int w, .int x, v4] [] σ = some (some (.int x), σ1) := fun x => by rw [blX10_careful_146, oc m9, e1, rV]
    rw [blX10_careful_29, if_pos (Int32.le_refl _), cauS]
    unfold cauR
    by_cases w0 : w = 0
    · rw [if_pos w0, if_pos w0, oc m9, oc m9, hend, h.1.2.2.2.1, h.2.1.2.2.2.1]
    rw [if_neg w0, if_neg w0]
    by_cases w1 : w = 1
    · rw [if_pos w1, if_pos w1, oc m9, m_done hS.1 h.1, rI, hend]
    rw [if_neg w1, if_neg w1]
    by_cases w2 : w = 2
    · rw [if_pos w2, if_pos w2, oc m9, m_spd hS.1 h.1, rI, hend]
    rw [if_neg w2, if_neg w2]
    by_cases w6 : w = 6
    · rw [if_neg (show ¬ w = 3 by rw [w6]; decide), if_neg (show ¬ w = 4 by rw [w6]; decide), if_neg (show ¬ w = 5 by rw [w6]; decide), if_pos w6, if_pos w6, oc m9, m_codeNow h.1, rI, hend]
    · rw [if_neg w6, if_neg w6]
      obtain ⟨hc, z, hz, ez⟩ := rest6 hw w0 w1 w2 w6
      rw [ez, oc m9, rf160_0, xi hz sh161, cl z (by omega), h.1.1 z hz, hend]
      split
      · rfl
      · split
        · rfl
        · split <;> rfl
  | succ m ih =>
    intro j v4 S σ hj hS h
    obtain ⟨hcu, ecu⟩ := cu_in S
    obtain ⟨σ1, e1, r1, f1⟩ := m_war hS h.1
    have h1 := h.war r1 f1
    obtain ⟨e2, r2⟩ := m_setC hcu r1
    have h2 : inT S0 (atC S (cuS S)) (setM (setM (setM σ1 162 0 (nI (cuS S / 16))) 162 1 (nI (cuS S / 4 % 4))) 162 2 (nI (cuS S % 4))) := th_setT (z := 2) (by decide) (th_setT (z := 1) (by decide) (th_setT (z := 0) (by decide) h1))
    obtain ⟨σ3, e3, r3, f3⟩ := th_go (hS.atC hcu) h2
    obtain ⟨σ4, e4, r4, f4⟩ := ih (j + 1) (.int (stepS (atC S (cuS S))).2) (stepS (atC S (cuS S))).1 σ3 (by omega) (hS.atC hcu).step r3
    refine ⟨σ4, ?_, r4, (f1.m.tr ((frM.s162.tr frM.s162).tr frM.s162)).tr (f3.tr f4)⟩
    rw [blX10_careful_29, if_neg (nI_ge (by omega) (by omega)), oc m9, e1, rI, oc m9, ecu, e2, rV, oc m9, e3, rI, nI_1, e4, cauS]
theorem op_careful {σ : Mem} (h : Rel σ) (x1 x2 : Int32) : OpOK (FX9_careful [.ref 0, .int x1, .int x2]) (FX10_careful [.ref 160, .int x1, .int x2]) σ := by
  by_cases h1 : 0 ≤ x1 ∧ x1 ≤ 30
  · by_cases h2 : 0 ≤ x2 ∧ x2 ≤ 6
    · obtain ⟨Z, hZ, hC, hM⟩ := h
      obtain ⟨n, -, hn, rfl⟩ := n_of (n := 0) (m := 30) rfl rfl (by decide) (by decide) h1
      refine op_of (Z' := Z) (r := cauR Z.1 (cauS n Z.1) x2) hZ hM hZ ?_ (fun σ1 hM1 => ?_)
      · obtain ⟨σ1, e1, r1, f1⟩ := t_become k15 k1 (by decide) hZ.1.1 hC.1
        obtain ⟨σ2, e2, f2⟩ := t_ca hn h2 hZ.1 n 0 Z.1 σ1 (by omega) hZ.1 r1 (hC.1.fr hZ.1.1.1 (fun a ha => f1 a (by omega)))
        rw [enX9_careful, t_isWithin, rI, ifb, if_pos h1, t_isWithin, rI, ifb, if_pos h2, oc c8, oc c8, rf0_0, rf0_1, oc k15, e1, rV, show am_go CX9_careful 36 [.ref 0, .int (nI n), .int x2, .int 0] [] σ1 = _ from e2]
        exact ⟨σ2, rfl, hC.th hZ (fun a ha => (f2 a ha).trans (f1 a ha)), fun a ha => (f2 a (by omega)).trans (f1 a (by omega))⟩
      · obtain ⟨σ2, e2, r2, f2⟩ := th_begin hZ.1.1 hM1.1
        obtain ⟨σ3, e3, r3, f3⟩ := m_ca hn h2 hZ.1 n 0 .null Z.1 σ2 (by omega) hZ.1 r2
        rw [enX10_careful, t_isIn, rI, ifb, if_pos h1, t_isIn, rI, ifb, if_pos h2, oc m9, e2, rV, show am_go CX10_careful 29 [.ref 160, .int (nI n), .int x2, .int 0, .null] [] σ2 = _ from e3]
        exact ⟨σ3, rfl, hM1.th r3.1 (f2.tr f3), (f2.tr f3).lo⟩
    · exact op_same (r := -2) h (by rw [enX9_careful, t_isWithin, rI, ifb, if_pos h1, t_isWithin, rI, ifb, if_neg h2]) (by rw [enX10_careful, t_isIn, rI, ifb, if_pos h1, t_isIn, rI, ifb, if_neg h2])
  · exact op_same (r := -2) h (by rw [enX9_careful, t_isWithin, rI, ifb, if_neg h1]) (by rw [enX10_careful, t_isIn, rI, ifb, if_neg h1])
