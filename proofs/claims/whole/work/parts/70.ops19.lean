/-! wary, careful -/
theorem m_setC {S : KS} {σ : Mem} {c : Nat} (hc : c < 64) (h : repM S σ) : FX10_setCode [.ref 160, .int (nI c)] σ = some (none, setM (setM (setM σ 162 0 (nI (c / 16))) 162 1 (nI (c / 4 % 4))) 162 2 (nI (c % 4))) ∧ repM (atC S c) (setM (setM (setM σ 162 0 (nI (c / 16))) 162 1 (nI (c / 4 % 4))) 162 2 (nI (c % 4))) := by
  refine ⟨?_, rep3m h⟩
  obtain ⟨h1, h2, h3, h4⟩ := dig_c c hc
  rw [enX10_setCode, rf160_1, h1, h2, h4, li0, li1, li2, oc m9, xi (show 0 < 3 by decide) sh162, oc m9, xi (show 1 < 3 by decide) sh162, oc m9, xi (show 2 < 3 by decide) sh162, cl 0 (by decide), cl 1 (by decide), cl 2 (by decide)]
theorem okT.or {T : H3} (h : okT T) {z : Nat} (hz : z < 3) : at3 T z = 0 ∨ at3 T z = 1 ∨ at3 T z = 2 ∨ at3 T z = 3 := by
  obtain ⟨j, hj, e⟩ := h z hz
  rw [e]
  match j, hj with
  | 0, _ => exact Or.inl rfl
  | 1, _ => exact Or.inr (Or.inl rfl)
  | 2, _ => exact Or.inr (Or.inr (Or.inl rfl))
  | 3, _ => exact Or.inr (Or.inr (Or.inr rfl))
theorem m_burn {S : KS} {σ : Mem} (hT : okT S.2.1) (h : repM S σ) : FX10_burning [.ref 160] σ = some (some (.int (burn3 S.2.1)), σ) := by
  rw [enX10_burning, rf160_1, li0, li1, li2, oc m9, xi (show 0 < 3 by decide) sh162, cl 0 (by decide), h.2.1 0 (by decide), t_mburns (hT.or (by decide)), rI, oc m9, xi (show 1 < 3 by decide) sh162, cl 1 (by decide), h.2.1 1 (by decide), t_mburns (hT.or (by decide)), rI, oc m9, xi (show 2 < 3 by decide) sh162, cl 2 (by decide), h.2.1 2 (by decide), t_mburns (hT.or (by decide)), rI]
  rfl
/-- of the reference, where all but the settings and what is behind holds -/
def frW (σ σ' : Mem) : Prop := ∀ a, a ≠ 162 → a ≠ 176 → σ' a = σ a
theorem m_wa {S : KS} {x1 : Int32} (hS : okS S) : ∀ (m c : Nat) (b x y : Int32) (v6 : Value) (T : H3) (σ : Mem), c + m = 64 → repM (S.1, T, S.2.2) σ → ∃ σ' T', am_go CX10_waryCode 15 [.ref 160, .int x1, .int b, .int x, .int y, .int (nI c), v6] [] σ = o_rV (FX10_setCode [.ref 160, .int x1] σ') (fun m1 => some (some (.int (mG (okCd S) (suC S) buC m c b x y)), m1)) ∧ repM (S.1, T', S.2.2) σ' ∧ frW σ σ' := by
  intro m
  induction m with
  | zero =>
    intro c b x y v6 T σ hc h
    have : c = 64 := by omega
    subst this
    rw [blX10_waryCode_15, if_pos (by decide), oc m9]
    exact ⟨σ, T, rfl, h, fun _ _ _ => rfl⟩
  | succ m ih =>
    intro c b x y v6 T σ hc h
    obtain ⟨e1, r1⟩ := m_setC (c := c) (by omega) h
    have r1' : repM (atC S c) _ := r1
    obtain ⟨τ, hτ⟩ : ∃ τ, τ = setM (setM (setM σ 162 0 (nI (c / 16))) 162 1 (nI (c / 4 % 4))) 162 2 (nI (c % 4)) := ⟨_, rfl⟩
    rw [← hτ] at e1 r1'
    obtain ⟨σ2, e2, h2, f2⟩ := m_troubles (S := atC S c) hS r1'
    have fr : frW σ σ2 := fun a ha hb => by rw [f2 a hb, hτ, sM_a ha, sM_a ha, sM_a ha]
    have r2 : repM (atC S c) σ2 := by
      unfold repM repN at r1' ⊢
      rw [f2 160 (by decide), f2 161 (by decide), f2 162 (by decide), f2 163 (by decide), f2 164 (by decide), f2 165 (by decide), f2 166 (by decide), f2 167 (by decide)]
      exact r1'
    have eB : FX10_burning [.ref 160] σ2 = some (some (.int (buC c)), σ2) := by
      have := m_burn (S := atC S c) (digT_ok (by omega)) r2
      rw [this]
      rfl
    have go : ∀ (b x y : Int32) (v : Value), ∃ σ' T', am_go CX10_waryCode 15 [.ref 160, .int x1, .int b, .int x, .int y, .int (nI (c + 1)), v] [] σ2 = o_rV (FX10_setCode [.ref 160, .int x1] σ') (fun m1 => some (some (.int (mG (okCd S) (suC S) buC m (c + 1) b x y)), m1)) ∧ repM (S.1, T', S.2.2) σ' ∧ frW σ σ' := by
      intro b x y v
      obtain ⟨σ3, T3, e3, r3, f3⟩ := ih (c + 1) b x y v (digT c) σ2 (by omega) r2
      exact ⟨σ3, T3, e3, r3, fun a ha hb => by rw [f3 a ha hb, fr a ha hb]⟩
    rw [blX10_waryCode_15, if_neg (show ¬ (64 : Int32) ≤ nI c from nI_ge (b := 64) (by omega) (by decide)), oc m9, e1, rV, oc m9, e2, rI, rf160_19, li0, li1, li2, oc m9, xi (show 0 < 3 by decide) sh176, oc m9, xi (show 1 < 3 by decide) sh176, oc m9, xi (show 2 < 3 by decide) sh176, cl 0 (by decide), cl 1 (by decide), cl 2 (by decide), h2 0 (by decide), h2 1 (by decide), h2 2 (by decide), mG]
    have es : at3 (behH (atC S c)) 0 + at3 (behH (atC S c)) 1 + at3 (behH (atC S c)) 2 = suC S c := rfl
    rw [es, nI_add]
    simp only [oc m9, eB, rI]
    by_cases hz : (stepS (atC S c)).2 = 0
    · rw [if_pos (show okCd S c = true from decide_eq_true hz), if_pos (show (stepS (atC S c)).2 = nI 0 from hz)]
      by_cases hb : b < 0
      · rw [if_pos (show b < nI 0 from hb), if_pos hb]; exact go _ _ _ _
      · rw [if_neg (show ¬ b < nI 0 from hb), if_neg hb]
        by_cases hx : x < suC S c
        · rw [if_pos hx, if_pos hx]; exact go _ _ _ _
        · rw [if_neg hx, if_neg hx]
          by_cases hq : suC S c = x
          · rw [if_pos hq, if_pos hq]
            by_cases hy : y ≤ buC c
            · rw [if_pos hy, if_pos hy]; exact go _ _ _ _
            · rw [if_neg hy, if_neg hy]; exact go _ _ _ _
          · rw [if_neg hq, if_neg hq]; exact go _ _ _ _
    · rw [if_neg (show ¬ okCd S c = true from fun e => hz (of_decide_eq_true e)), if_neg (show ¬ (stepS (atC S c)).2 = nI 0 from hz)]
      exact go _ _ _ _
