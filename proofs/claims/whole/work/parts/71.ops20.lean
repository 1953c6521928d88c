theorem code_of {T : H3} (h : okT T) : ∃ c, c < 64 ∧ digT c = T ∧ (16 : Int32) * at3 T 0 + (4 : Int32) * at3 T 1 + at3 T 2 = nI c := by
  obtain ⟨a, ha, ea⟩ := h 0 (by decide)
  obtain ⟨b, hb, eb⟩ := h 1 (by decide)
  obtain ⟨c, hc, ec⟩ := h 2 (by decide)
  refine ⟨16 * a + 4 * b + c, by omega, ?_, ?_⟩
  · unfold digT
    rw [show (16 * a + 4 * b + c) / 16 = a by omega, show (16 * a + 4 * b + c) / 4 % 4 = b by omega, show (16 * a + 4 * b + c) % 4 = c by omega, ← ea, ← eb, ← ec]
    rfl
  · rw [ea, eb, ec, show (16 : Int32) = nI 16 from rfl, show (4 : Int32) = nI 4 from rfl, pk_mul, pk_mul, nI_add, nI_add]
theorem m_codeNow {S : KS} {σ : Mem} (h : repM S σ) : FX10_codeNow [.ref 160] σ = some (some (.int ((16 : Int32) * at3 S.2.1 0 + (4 : Int32) * at3 S.2.1 1 + at3 S.2.1 2)), σ) := by
  rw [enX10_codeNow, rf160_1, li0, li1, li2, oc m9, xi (show 0 < 3 by decide) sh162, oc m9, xi (show 1 < 3 by decide) sh162, oc m9, xi (show 2 < 3 by decide) sh162, cl 0 (by decide), cl 1 (by decide), cl 2 (by decide), h.2.1 0 (by decide), h.2.1 1 (by decide), h.2.1 2 (by decide)]
theorem m_war {S : KS} {σ : Mem} (hS : okK S) (h : repM S σ) : ∃ σ', FX10_waryCode [.ref 160] σ = some (some (.int (warS S)), σ') ∧ repM S σ' ∧ frW σ σ' := by
  obtain ⟨c, hc, ed, en⟩ := code_of hS.2
  obtain ⟨σ1, T1, e1, r1, f1⟩ := m_wa (x1 := nI c) hS.1 64 0 (-1) 0 0 .null S.2.1 σ rfl h
  obtain ⟨e2, r2⟩ := m_setC hc r1
  rw [enX10_waryCode, oc m9, m_codeNow h, rI, en, show am_go CX10_waryCode 15 [.ref 160, .int (nI c), .int (-1), .int 0, .int 0, .int 0, .null] [] σ = _ from e1, e2, rV, war_eq hS.1]
  refine ⟨_, rfl, ?_, fun a ha hb => by rw [sM_a ha, sM_a ha, sM_a ha, f1 a ha hb]⟩
  have : atC (S.1, T1, S.2.2) c = S := by unfold atC; rw [ed]
  rw [this] at r2
  exact r2
theorem frW.kp {σ σ' : Mem} (h : frW σ σ') : kpM σ σ' := ⟨fun a ha => h a (by omega) (by omega), by rw [h 160 (by decide) (by decide)], by rw [h 160 (by decide) (by decide)]⟩
theorem op_wary {σ : Mem} (h : Rel σ) : OpOK (FX9_wary [.ref 0]) (FX10_wary [.ref 160]) σ := by
  obtain ⟨Z, hZ, hC, hM⟩ := h
  refine op_of (Z' := Z) (r := warS Z.1) hZ hM hZ ?_ (fun σ1 hM1 => ?_)
  · rw [enX9_wary, oc c8, rf0_0, oc k1, t_war k1 hZ.1.1 hC.1, rI]
    exact ⟨σ, rfl, hC, fun _ _ => rfl⟩
  · obtain ⟨σ2, e2, r2, f2⟩ := m_war hZ.1 hM1.1
    rw [enX10_wary, oc m9, e2, rI]
    exact ⟨σ2, rfl, ⟨r2, hM1.2.fr f2.kp⟩, fun a ha => f2 a (by omega) (by omega)⟩
