/-! a course fired: the reference -/
def frG (σ σ' : Mem) : Prop := (∀ a, (a < 160 ∨ a = 163 ∨ a = 164 ∨ a = 165 ∨ (168 ≤ a ∧ a < 176) ∨ 177 ≤ a) → σ' a = σ a) ∧ ∀ j, j ≠ 8 → j ≠ 9 → j ≠ 36 → j ≠ 37 → σ' 160 j = σ 160 j
theorem frG.rf (σ : Mem) : frG σ σ := ⟨fun _ _ => rfl, fun _ _ _ _ _ => rfl⟩
theorem frG.tr {σ1 σ2 σ3 : Mem} (h : frG σ1 σ2) (h' : frG σ2 σ3) : frG σ1 σ3 := ⟨fun a ha => (h'.1 a ha).trans (h.1 a ha), fun j a b c d => (h'.2 j a b c d).trans (h.2 j a b c d)⟩
theorem frG.s162 {σ : Mem} {z : Nat} {v : Int32} : frG σ (setM σ 162 z v) := ⟨fun a ha => sM_a (by omega), fun j _ _ _ _ => by rw [sM_a (by decide)]⟩
theorem frG.s36 {σ : Mem} {i : Nat} {v : Int32} (h : i = 36 ∨ i = 37) : frG σ (setM σ 160 i v) := ⟨fun a ha => sM_a (by omega), fun j _ _ _ _ => by rw [sM_i (by omega)]⟩
theorem frG.kp {σ σ' : Mem} (h : frG σ σ') : kpM σ σ' := ⟨fun a ha => h.1 a (by omega), h.2 14 (by decide) (by decide) (by decide) (by decide), h.2 40 (by decide) (by decide) (by decide) (by decide)⟩
theorem repM.s160 {S : KS} {σ : Mem} {i : Nat} {v : Int32} (h : repM S σ) (hi : i = 36 ∨ i = 37) : repM S (setM σ 160 i v) := by
  unfold repM repN at h ⊢
  rw [sM_i (by omega), sM_i (by omega), sM_i (by omega), sM_a (by decide), sM_a (by decide), sM_a (by decide), sM_a (by decide), sM_a (by decide), sM_a (by decide), sM_a (by decide)]
  exact h
theorem m_goG {S : KS} {σ : Mem} (hS : okK S) (h : repM S σ) : ∃ σ', FX10_goes [.ref 160] σ = some (some (.int (stepS S).2), σ') ∧ repM (stepS S).1 σ' ∧ frG σ σ' ∧ σ' 160 36 = σ 160 36 ∧ σ' 160 37 = σ 160 37 := by
  obtain ⟨σ', e, r, f, f1, f2, f3⟩ := m_goes hS.1 hS.2 h
  refine ⟨σ', e, r, ⟨fun a ha => ?_, fun j a b c d => ?_⟩, f.2 36 (by decide) (by decide) (by decide) (by decide), f.2 37 (by decide) (by decide) (by decide) (by decide)⟩
  · by_cases hq : 177 ≤ a ∧ a ≤ 180
    · exact f1 a hq.1 hq.2
    · exact f.1 a (by omega)
  · by_cases h24 : j = 24
    · subst h24; exact f2
    · by_cases h25 : j = 25
      · subst h25; exact f3
      · exact f.2 j a b h24 h25
theorem m_r68 {c j n : Nat} {w : Int32} (hc : c < 4) (hj : j < 6) (hn : n ≤ 9) : ∀ (m i : Nat) (s : FS) (v6 : Value) (σ : Mem), i + m = n → okF s → (w ≠ 0 → s.2.2.1 = 0) → s.2.1 + m ≤ 800 → repM s.1 σ → repG s σ → σ 169 (6 * c + j) = nI n → ∃ σ' v6', am_go CX10_fires 68 [.ref 160, .int (nI c), .int w, .int (nI s.2.1), .int (nI j), .int (nI i), v6] [] σ = (if (frun (w ≠ 0) m s).2 = true then some (some (.int (nI (frun (w ≠ 0) m s).1.2.1)), σ') else am_go CX10_fires 15 [.ref 160, .int (nI c), .int w, .int (nI (frun (w ≠ 0) m s).1.2.1), .int (nI (j + 1)), .int (nI n), v6'] [] σ') ∧ repM (frun (w ≠ 0) m s).1.1 σ' ∧ repG (frun (w ≠ 0) m s).1 σ' ∧ frG σ σ' ∧ ((frun (w ≠ 0) m s).2 = false → w ≠ 0 → (frun (w ≠ 0) m s).1.2.2.1 = 0) := by
  intro m
  induction m with
  | zero =>
    intro i s v6 σ hi hs hw hg h hG h69
    have : i = n := by omega
    subst this
    refine ⟨σ, v6, ?_, h, hG, frG.rf σ, fun _ e => hw e⟩
    rw [blX10_fires_68, oc m9, rf160_11, i6, xi (show 6 * c + j < 24 by omega) sh169, cl (6 * c + j) (by omega), h69, if_pos (Int32.le_refl _), nI_1, frun, if_neg (fun e => by cases e)]
  | succ m ih =>
    intro i s v6 σ hi hs hw hg h hG h69
    obtain ⟨σ1, e1, r1, f1, g36, g37⟩ := m_goG hs.1 h
    obtain ⟨bm, hbm, ebm⟩ := step_bits hs.1.1
    have h8 : 2 ^ s.1.2.2.1.length ≤ 2 ^ 8 := Nat.pow_le_pow_right (by decide) hs.1.1.1
    have hle := hs.2.2.2.1
    have hP : ∀ X, am_go CX10_fires 68 [.ref 160, .int (nI c), .int w, .int (nI s.2.1), .int (nI j), .int (nI i), v6] [] σ = X ↔ (if (stepS s.1).2 = 0 then (if (stepS s.1).2 = 0 then am_go CX10_fires 68 [.ref 160, .int (nI c), .int w, .int (nI (s.2.1 + 1)), .int (nI j), .int (nI (i + 1)), .int (stepS s.1).2] [] σ1 else (if w = 0 then am_go CX10_fires 68 [.ref 160, .int (nI c), .int w, .int (nI (s.2.1 + 1)), .int (nI j), .int (nI (i + 1)), .int (stepS s.1).2] [] σ1 else some (some (.int (nI (s.2.1 + 1))), σ1))) else (if 0 ≤ atI s then (if (stepS s.1).2 = 0 then am_go CX10_fires 68 [.ref 160, .int (nI c), .int w, .int (nI (s.2.1 + 1)), .int (nI j), .int (nI (i + 1)), .int (stepS s.1).2] [] σ1 else (if w = 0 then am_go CX10_fires 68 [.ref 160, .int (nI c), .int w, .int (nI (s.2.1 + 1)), .int (nI j), .int (nI (i + 1)), .int (stepS s.1).2] [] σ1 else some (some (.int (nI (s.2.1 + 1))), σ1))) else (if (stepS s.1).2 = 0 then am_go CX10_fires 68 [.ref 160, .int (nI c), .int w, .int (nI (s.2.1 + 1)), .int (nI j), .int (nI (i + 1)), .int (stepS s.1).2] [] (setM (setM σ1 160 36 (nI (s.2.1 + 1))) 160 37 (stepS s.1).2) else (if w = 0 then am_go CX10_fires 68 [.ref 160, .int (nI c), .int w, .int (nI (s.2.1 + 1)), .int (nI j), .int (nI (i + 1)), .int (stepS s.1).2] [] (setM (setM σ1 160 36 (nI (s.2.1 + 1))) 160 37 (stepS s.1).2) else some (some (.int (nI (s.2.1 + 1))), (setM (setM σ1 160 36 (nI (s.2.1 + 1))) 160 37 (stepS s.1).2)))))) = X := by
      intro X
      rw [blX10_fires_68, oc m9, rf160_11, i6, xi (show 6 * c + j < 24 by omega) sh169, cl (6 * c + j) (by omega), h69, if_neg (nI_ge (by omega) (by omega)), oc m9, e1, rI, oc m9, oc m9, oc m9, g36, hG.1, nI_1, nI_1]
    have h69' : σ1 169 (6 * c + j) = nI n := by rw [f1.1 169 (by omega)]; exact h69
    by_cases hz : (stepS s.1).2 = 0
    · have e : fst1 s = ((stepS s.1).1, s.2.1 + 1, s.2.2) := by unfold fst1; rw [if_pos (Or.inl hz)]
      have hns : ¬ (w ≠ 0 ∧ (fst1 s).2.2.1 ≠ 0) := fun q => q.2 (by rw [e]; exact hw q.1)
      have hG1 : repG (fst1 s) σ1 := by rw [e]; exact ⟨by rw [g36]; exact hG.1, by rw [g37]; exact hG.2⟩
      have r1' : repM (fst1 s).1 σ1 := by rw [e]; exact r1
      obtain ⟨σ2, v2, e2, a2, b2, f2, k2⟩ := ih (i + 1) (fst1 s) (.int (stepS s.1).2) σ1 (by omega) hs.step (fun q => by rw [e]; exact hw q) (by rw [e]; show s.2.1 + 1 + m ≤ 800; omega) r1' hG1 h69'
      refine ⟨σ2, v2, ?_, ?_⟩
      · rw [hP, if_pos hz, if_pos hz, frun, if_neg hns]
        exact e2
      · rw [frun, if_neg hns]
        exact ⟨a2, b2, f1.tr f2, k2⟩
    · by_cases ha : s.2.2.1 = 0
      · have e : fst1 s = ((stepS s.1).1, s.2.1 + 1, s.2.1 + 1, bm) := by
          unfold fst1
          rw [if_neg (fun hc => by rcases hc with hc | hc; exact hz hc; exact hc ha), ebm, cl bm (by omega)]
        have hat : ¬ (0 : Int32) ≤ atI s := by unfold atI; rw [if_pos ha]; decide
        have hG1 : repG (fst1 s) (setM (setM σ1 160 36 (nI (s.2.1 + 1))) 160 37 (stepS s.1).2) := by
          rw [e]
          refine ⟨?_, ?_⟩
          · rw [sM_i (by decide), sM_eq]
            show _ = if s.2.1 + 1 = 0 then _ else _
            rw [if_neg (by omega)]
          · rw [sM_eq, ebm]
        have r1' : repM (fst1 s).1 (setM (setM σ1 160 36 (nI (s.2.1 + 1))) 160 37 (stepS s.1).2) := by rw [e]; exact (r1.s160 (Or.inl rfl)).s160 (Or.inr rfl)
        have fr : frG σ (setM (setM σ1 160 36 (nI (s.2.1 + 1))) 160 37 (stepS s.1).2) := f1.tr ((frG.s36 (Or.inl rfl)).tr (frG.s36 (Or.inr rfl)))
        by_cases hw0 : w = 0
        · have hns : ¬ (w ≠ 0 ∧ (fst1 s).2.2.1 ≠ 0) := fun q => q.1 hw0
          obtain ⟨σ2, v2, e2, a2, b2, f2, k2⟩ := ih (i + 1) (fst1 s) (.int (stepS s.1).2) _ (by omega) hs.step (fun q => absurd hw0 q) (by rw [e]; show s.2.1 + 1 + m ≤ 800; omega) r1' hG1 (by rw [fr.1 169 (by omega)]; exact h69)
          refine ⟨σ2, v2, ?_, ?_⟩
          · rw [hP, if_neg hz, if_neg hat, if_neg hz, if_pos hw0, frun, if_neg hns]
            exact e2
          · rw [frun, if_neg hns]
            exact ⟨a2, b2, fr.tr f2, k2⟩
        · have hns : w ≠ 0 ∧ (fst1 s).2.2.1 ≠ 0 := ⟨hw0, by rw [e]; show s.2.1 + 1 ≠ 0; omega⟩
          refine ⟨setM (setM σ1 160 36 (nI (s.2.1 + 1))) 160 37 (stepS s.1).2, v6, ?_, ?_⟩
          · rw [hP, if_neg hz, if_neg hat, if_neg hz, if_neg hw0, frun, if_pos hns]
            exact (if_pos rfl).symm
          · rw [frun, if_pos hns]
            exact ⟨r1', hG1, fr, fun q => by cases q⟩
      · have hw0 : w = 0 := Classical.byContradiction (fun q => ha (hw q))
        have e : fst1 s = ((stepS s.1).1, s.2.1 + 1, s.2.2) := by unfold fst1; rw [if_pos (Or.inr ha)]
        have hat : (0 : Int32) ≤ atI s := by unfold atI; rw [if_neg ha]; exact nI_pos' (by omega)
        have hns : ¬ (w ≠ 0 ∧ (fst1 s).2.2.1 ≠ 0) := fun q => q.1 hw0
        have hG1 : repG (fst1 s) σ1 := by rw [e]; exact ⟨by rw [g36]; exact hG.1, by rw [g37]; exact hG.2⟩
        have r1' : repM (fst1 s).1 σ1 := by rw [e]; exact r1
        obtain ⟨σ2, v2, e2, a2, b2, f2, k2⟩ := ih (i + 1) (fst1 s) (.int (stepS s.1).2) σ1 (by omega) hs.step (fun q => absurd hw0 q) (by rw [e]; show s.2.1 + 1 + m ≤ 800; omega) r1' hG1 h69'
        refine ⟨σ2, v2, ?_, ?_⟩
        · rw [hP, if_neg hz, if_pos hat, if_neg hz, if_pos hw0, frun, if_neg hns]
          exact e2
        · rw [frun, if_neg hns]
          exact ⟨a2, b2, f1.tr f2, k2⟩
