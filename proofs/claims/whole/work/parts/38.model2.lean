/-! the reference: a step goes, troubles, bits, what is kept -/
theorem harm_cases (d : Ld) (h t : Int32) : harmS d h t = 0 ∨ harmS d h t = 2 ∨ harmS d h t = 3 := by
  unfold harmS
  split
  · exact Or.inr (Or.inl rfl)
  · split
    · split
      · exact Or.inl rfl
      · exact Or.inr (Or.inr rfl)
    · exact Or.inr (Or.inl rfl)
theorem harm_le {d : Ld} {h t : Int32} : (harmS d h t ≤ 0) ↔ harmS d h t = 0 := by
  rcases harm_cases d h t with e | e | e <;> rw [e] <;> decide
theorem under_sp {d : Ld} {h t : Int32} (hs : spS d = true) : underS d h t = (d, false) := by unfold underS; rw [hs]; rfl
theorem under_harm {d : Ld} {h t : Int32} (hs : spS d = false) (hh : ¬ harmS d h t = 0) : underS d h t = ((d.1, d.2.1, d.2.2.1, d.2.2.2.1, harmS d h t), true) := by unfold underS; rw [hs]; simp [hh]
theorem under_cold {d : Ld} {h t : Int32} (hs : spS d = false) (hh : harmS d h t = 0) (ht : t < topS d.1) : underS d h t = (d, false) := by unfold underS; rw [hs, hh]; simp [ht]
theorem under_soak {d : Ld} {h t : Int32} (hs : spS d = false) (hh : harmS d h t = 0) (ht : ¬ t < topS d.1) (hn : soakS d < needS d.1 d.2.1) : underS d h t = ((d.1, d.2.1, d.2.2.1, soakS d, d.2.2.2.2), false) := by unfold underS; rw [hs, hh]; simp [ht, hn]
theorem under_done {d : Ld} {h t : Int32} (hs : spS d = false) (hh : harmS d h t = 0) (ht : ¬ t < topS d.1) (hn : ¬ soakS d < needS d.1 d.2.1) : underS d h t = ((d.1, d.2.1, d.2.2.1, soakS d, 1), false) := by unfold underS; rw [hs, hh]; simp [ht, hn]
theorem m_g1 {i : Nat} {d : Ld} {σ : Mem} {H B : H3} {b : Int32} {v : Value} {n : Nat} (hi : i < n) (hn : n ≤ 8) (hc : σ 160 2 = nI n) (hr : repN i d σ) (hok : okL d) (h1 : ∀ z, z < 3 → σ 161 z = at3 H z) (h2 : ∀ z, z < 3 → σ 176 z = at3 B z) :
    ∃ σ1 v1, am_go CX10_goes 8 [.ref 160, .int b, .int (nI i), v] [] σ = am_go CX10_goes 8 [.ref 160, .int (if (underS d (at3 H d.2.2.1.toNatClampNeg) (at3 B d.2.2.1.toNatClampNeg)).2 = true then b ||| ((1 : Int32) <<< (nI i &&& 31)) else b), .int (nI (i + 1)), v1] [] σ1 ∧ repN i (underS d (at3 H d.2.2.1.toNatClampNeg) (at3 B d.2.2.1.toNatClampNeg)).1 σ1 ∧ (∀ a, a ≠ 166 → a ≠ 167 → σ1 a = σ a) ∧ ∀ j, j ≠ i → σ1 166 j = σ 166 j ∧ σ1 167 j = σ 167 j := by
  have hi8 : i < 8 := by omega
  obtain ⟨z, hz, hzd⟩ := hok.2.2.1
  have hcz : d.2.2.1.toNatClampNeg = z := by rw [hzd]; exact cl z (by omega)
  have hharm := m_harm hi8 hr hok h1 h2
  rw [hcz] at hharm ⊢
  obtain ⟨r0, r1, r2, r3, r4⟩ := hr
  have hr : repN i d σ := ⟨r0, r1, r2, r3, r4⟩
  rw [blX10_goes_8, oc m9, hc, if_neg (nI_ge hi (by omega)), oc m9, m_spoiled hi8 hr hok, rI, ifb]
  cases hsp : spS d with
  | true =>
    rw [if_pos rfl, under_sp hsp, nI_1]
    exact ⟨σ, v, rfl, hr, fun _ _ _ => rfl, fun _ _ => ⟨rfl, rfl⟩⟩
  | false =>
    rw [if_neg (by decide), oc m9, hharm, rI]
    by_cases hh : harmS d (at3 H z) (at3 B z) = 0
    · rw [if_pos (harm_le.mpr hh), oc m9, oc m9, rf160_5, xi hi8 sh165, cl i (by omega), r2, hzd, rf160_19, xi hz sh176, oc m9, m_top hi8 hr hok, rI, cl z (by omega), h2 z hz, nI_1]
      by_cases ht : at3 B z < topS d.1
      · rw [if_pos ht, under_cold hsp hh ht]
        exact ⟨σ, _, rfl, hr, fun _ _ _ => rfl, fun _ _ => ⟨rfl, rfl⟩⟩
      · rw [if_neg ht, oc m9, oc m9, rf160_6, xi hi8 sh166, xi hi8 sh166, oc m9, oc m9, xi hi8 sh166, oc m9, r3]
        have hr' : repN i (d.1, d.2.1, d.2.2.1, soakS d, d.2.2.2.2) (setM σ 166 i (if d.2.2.2.1 + 1 < 99 then d.2.2.2.1 + 1 else 99)) := by
          unfold repN
          rw [sM_a (by decide), sM_a (by decide), sM_a (by decide), sM_eq, sM_a (by decide)]
          exact ⟨r0, r1, r2, rfl, r4⟩
        rw [m_need hi8 hr' (show okL (d.1, d.2.1, d.2.2.1, soakS d, d.2.2.2.2) from hok), rI, sM_eq]
        by_cases hn : soakS d < needS d.1 d.2.1
        · rw [if_pos (show (if d.2.2.2.1 + 1 < 99 then d.2.2.2.1 + 1 else 99) < needS d.1 d.2.1 from hn), under_soak hsp hh ht hn, oc m9, rf160_7, xi hi8 sh167, xi hi8 sh167]
          refine ⟨_, _, rfl, ?_, fun a h1 h2 => by rw [sM_a h2, sM_a h1], fun j hj => ?_⟩
          · unfold repN
            rw [sM_a (by decide), sM_a (by decide), sM_a (by decide), sM_a (by decide), sM_eq]
            exact ⟨hr'.1, hr'.2.1, hr'.2.2.1, hr'.2.2.2.1, hr'.2.2.2.2⟩
          · rw [sM_a (by decide), sM_i hj, sM_i hj, sM_a (by decide)]
            exact ⟨rfl, rfl⟩
        · rw [if_neg (show ¬ (if d.2.2.2.1 + 1 < 99 then d.2.2.2.1 + 1 else 99) < needS d.1 d.2.1 from hn), under_done hsp hh ht hn, rf160_7, xi hi8 sh167]
          refine ⟨_, _, rfl, ?_, fun a h1 h2 => by rw [sM_a h2, sM_a h1], fun j hj => ?_⟩
          · unfold repN
            rw [sM_a (by decide), sM_a (by decide), sM_a (by decide), sM_a (by decide), sM_eq]
            exact ⟨hr'.1, hr'.2.1, hr'.2.2.1, hr'.2.2.2.1, rfl⟩
          · rw [sM_a (by decide), sM_i hj, sM_i hj, sM_a (by decide)]
            exact ⟨rfl, rfl⟩
    · rw [if_neg (fun e => hh (harm_le.mp e)), under_harm hsp hh, oc m9, rf160_7, xi hi8 sh167, cl i (by omega), nI_1]
      refine ⟨_, _, rfl, ?_, fun a h1 h2 => by rw [sM_a h2], fun j hj => ?_⟩
      · unfold repN
        rw [sM_a (by decide), sM_a (by decide), sM_a (by decide), sM_a (by decide), sM_eq]
        exact ⟨r0, r1, r2, r3, rfl⟩
      · rw [sM_a (by decide), sM_i hj]
        exact ⟨rfl, rfl⟩
theorem repN.keep {i : Nat} {d : Ld} {σ σ1 : Mem} (h : repN i d σ) (h1 : ∀ a, a ≠ 166 → a ≠ 167 → σ1 a = σ a) (h2 : σ1 166 i = σ 166 i ∧ σ1 167 i = σ 167 i) : repN i d σ1 := by
  unfold repN
  rw [h1 163 (by decide) (by decide), h1 164 (by decide) (by decide), h1 165 (by decide) (by decide), h2.1, h2.2]
  exact h
theorem m_g2 (H B : H3) : ∀ (L2 L1 : List Ld) (σ : Mem) (b : Int32) (v : Value), (L1 ++ L2).length ≤ 8 → (∀ d ∈ L2, okL d) → σ 160 2 = nI (L1 ++ L2).length → (∀ z, z < 3 → σ 161 z = at3 H z) → (∀ z, z < 3 → σ 176 z = at3 B z) → (∀ i d, (L1 ++ L2)[i]? = some d → repN i d σ) →
    ∃ σ' v', am_go CX10_goes 8 [.ref 160, .int b, .int (nI L1.length), v] [] σ = am_go CX10_goes 129 [.ref 160, .int (goLs H B L2 L1.length b).2, .int 0, v'] [] σ' ∧ (∀ i d, (L1 ++ (goLs H B L2 L1.length b).1)[i]? = some d → repN i d σ') ∧ ∀ a, a ≠ 166 → a ≠ 167 → σ' a = σ a := by
  intro L2
  induction L2 with
  | nil =>
    intro L1 σ b v h8 hok hc h1 h2 hr
    rw [List.append_nil] at hc
    rw [blX10_goes_8, oc m9, hc, if_pos (Int32.le_refl _)]
    exact ⟨σ, v, rfl, hr, fun _ _ _ => rfl⟩
  | cons d L2 ih =>
    intro L1 σ b v h8 hok hc h1 h2 hr
    have hlen : (L1 ++ d :: L2).length = L1.length + L2.length + 1 := by simp; omega
    have hd := hr L1.length d (by simp)
    obtain ⟨σ1, v1, e1, n1, c1, c2⟩ := m_g1 (b := b) (v := v) (show L1.length < (L1 ++ d :: L2).length by omega) h8 hc hd (hok d List.mem_cons_self) h1 h2
    rw [e1, goLs]
    generalize hu : underS d (at3 H d.2.2.1.toNatClampNeg) (at3 B d.2.2.1.toNatClampNeg) = u at n1 ⊢
    have hl1 : (L1 ++ [u.1]).length = L1.length + 1 := by simp
    have hl2 : (L1 ++ [u.1] ++ L2).length = (L1 ++ d :: L2).length := by simp
    obtain ⟨σ2, v2, e2, r2, f2⟩ := ih (L1 ++ [u.1]) σ1 (if u.2 = true then b ||| ((1 : Int32) <<< (nI L1.length &&& 31)) else b) v1 (by rw [hl2]; exact h8) (fun d hd => hok d (List.mem_cons_of_mem _ hd)) (by rw [c1 160 (by decide) (by decide), hc, hl2]) (fun z hz => by rw [c1 161 (by decide) (by decide)]; exact h1 z hz) (fun z hz => by rw [c1 176 (by decide) (by decide)]; exact h2 z hz) (by
      intro i d' hd'
      by_cases hil : i = L1.length
      · subst hil
        have : d' = u.1 := by simpa using hd'.symm
        rw [this]
        exact n1
      · refine repN.keep (hr i d' ?_) c1 (c2 i hil)
        rw [List.append_assoc] at hd'
        by_cases hlt : i < L1.length
        · rw [List.getElem?_append_left hlt] at hd' ⊢
          exact hd'
        · rw [List.getElem?_append_right (by omega)] at hd' ⊢
          obtain ⟨q, hq⟩ : ∃ q, i - L1.length = q + 1 := ⟨i - L1.length - 1, by omega⟩
          rw [hq] at hd' ⊢
          exact hd')
    rw [hl1] at e2 r2
    refine ⟨σ2, v2, e2, ?_, fun a ha hb => (f2 a ha hb).trans (c1 a ha hb)⟩
    intro i d' hd'
    refine r2 i d' ?_
    rw [List.append_assoc]
    exact hd'
theorem t4 {j : Nat} (h : j < 4) : nI j = 0 ∨ nI j = 1 ∨ nI j = 2 ∨ nI j = 3 := by
  match j, h with
  | 0, _ => exact Or.inl rfl
  | 1, _ => exact Or.inr (Or.inl rfl)
  | 2, _ => exact Or.inr (Or.inr (Or.inl rfl))
  | 3, _ => exact Or.inr (Or.inr (Or.inr rfl))
theorem okT.four {T : H3} (h : okT T) {z : Nat} (hz : z < 3) : at3 T z = 0 ∨ at3 T z = 1 ∨ at3 T z = 2 ∨ at3 T z = 3 := by
  obtain ⟨j, hj, e⟩ := h z hz
  rw [e]
  exact t4 hj
theorem m_burning {T : H3} {σ : Mem} (hT : okT T) (h : ∀ z, z < 3 → σ 162 z = at3 T z) : FX10_burning [.ref 160] σ = some (some (.int (burn3 T)), σ) := by
  rw [enX10_burning, oc m9, rf160_1, li0, li1, li2, xi (by decide) sh162, cl 0 (by decide), h 0 (by decide), t_mburns (hT.four (by decide)), rI, oc m9, xi (by decide) sh162, cl 1 (by decide), h 1 (by decide), t_mburns (hT.four (by decide)), rI, oc m9, xi (by decide) sh162, cl 2 (by decide), h 2 (by decide), t_mburns (hT.four (by decide)), rI]
  rfl
theorem m_goes {S : KS} {σ : Mem} (hS : okS S) (hT : okT S.2.1) (h : repM S σ) : ∃ σ', FX10_goes [.ref 160] σ = some (some (.int (stepS S).2), σ') ∧ repM (stepS S).1 σ' ∧ frM σ σ' ∧ (∀ a, 177 ≤ a → a ≤ 180 → σ' a = σ a) ∧ σ' 160 24 = σ 160 24 ∧ σ' 160 25 = σ 160 25 := by
  obtain ⟨σ1, e1, b1, f1⟩ := m_reckons hS h
  obtain ⟨h1, h2, h3, h4, h5, h6⟩ := h
  rw [enX10_goes, oc m9, e1, rV]
  obtain ⟨σ2, v2, e2, r2, f2⟩ := m_g2 S.1 (behH S) S.2.2.1 [] σ1 0 .null hS.1 hS.2 (by rw [f1 160 (by decide), h3]; rfl) (fun z hz => by rw [f1 161 (by decide)]; exact h1 z hz) b1 (by
    intro i d hd
    obtain ⟨a, b, c, e, f⟩ := h6 i d hd
    unfold repN
    rw [f1 163 (by decide), f1 164 (by decide), f1 165 (by decide), f1 166 (by decide), f1 167 (by decide)]
    exact ⟨a, b, c, e, f⟩)
  rw [show am_go CX10_goes 8 [.ref 160, .int 0, .int 0, .null] [] σ1 = _ from e2]
  have g : ∀ a, a ≠ 166 → a ≠ 167 → a ≠ 176 → σ2 a = σ a := fun a ha hb hc => (f2 a ha hb).trans (f1 a hc)
  have g176 : ∀ z, z < 3 → σ2 176 z = at3 (behH S) z := fun z hz => by rw [f2 176 (by decide) (by decide)]; exact b1 z hz
  rw [show (0 : Int32) = nI 0 from rfl, blX10_goes_129, if_neg (by decide), oc m9, oc m9, rf160_0, rf160_19, xi (by decide) sh176, xi (by decide) sh161, show (nI 0 + 1 : Int32) = nI 1 from rfl, blX10_goes_129, if_neg (by decide), oc m9, oc m9, rf160_0, rf160_19, xi (by decide) sh176, xi (by decide) sh161, show (nI 1 + 1 : Int32) = nI 2 from rfl, blX10_goes_129, if_neg (by decide), oc m9, oc m9, rf160_0, rf160_19, xi (by decide) sh176, xi (by decide) sh161, show (nI 2 + 1 : Int32) = nI 3 from rfl, blX10_goes_129, if_pos (by decide), oc m9, oc m9, cl 0 (by decide), cl 1 (by decide), cl 2 (by decide)]
  simp only [sM_a (show (176 : Nat) ≠ 161 by decide)]
  rw [m_burning (T := S.2.1) hT (fun z hz => by rw [sM_a (by decide), sM_a (by decide), sM_a (by decide), g 162 (by decide) (by decide) (by decide)]; exact h2 z hz), rI, oc m9, oc m9, oc m9]
  refine ⟨_, rfl, ⟨?_, ?_, ?_, ?_, ?_, ?_⟩, ⟨?_, ?_⟩, ?_, ?_, ?_⟩
  · intro z hz
    rw [sM_a (by decide), sM_a (by decide)]
    show _ = at3 (behH S) z
    rw [← g176 z hz]
    match z, hz with
    | 0, _ => simp [sM]
    | 1, _ => simp [sM]
    | 2, _ => simp [sM]
  · intro z hz
    rw [sM_a (by decide), sM_a (by decide), sM_a (by decide), sM_a (by decide), sM_a (by decide), g 162 (by decide) (by decide) (by decide)]
    exact h2 z hz
  · rw [sM_i (by decide), sM_i (by decide), sM_a (by decide), sM_a (by decide), sM_a (by decide), g 160 (by decide) (by decide) (by decide), h3]
    exact congrArg nI (goLs_len _ _ _ _ _).symm
  · rw [sM_i (by decide), sM_eq, sM_a (by decide), sM_a (by decide), sM_a (by decide), g 160 (by decide) (by decide) (by decide), h4]
    rfl
  · rw [sM_eq, sM_i (by decide), sM_a (by decide), sM_a (by decide), sM_a (by decide), g 160 (by decide) (by decide) (by decide), h5]
    rfl
  · intro i d hd
    have := r2 i d (by rw [List.nil_append]; exact hd)
    unfold repN at this ⊢
    rw [sM_a (by decide), sM_a (by decide), sM_a (by decide), sM_a (by decide), sM_a (by decide), sM_a (by decide), sM_a (by decide), sM_a (by decide), sM_a (by decide), sM_a (by decide), sM_a (by decide), sM_a (by decide), sM_a (by decide), sM_a (by decide), sM_a (by decide), sM_a (by decide), sM_a (by decide), sM_a (by decide), sM_a (by decide), sM_a (by decide), sM_a (by decide), sM_a (by decide), sM_a (by decide), sM_a (by decide), sM_a (by decide)]
    exact this
  · intro a ha
    rw [sM_a (by omega), sM_a (by omega), sM_a (by omega), sM_a (by omega), sM_a (by omega)]
    exact g a (by omega) (by omega) (by omega)
  · intro j a b c d
    rw [sM_i b, sM_i a, sM_a (by decide), sM_a (by decide), sM_a (by decide), g 160 (by decide) (by decide) (by decide)]
  · intro a ha hb
    rw [sM_a (by omega), sM_a (by omega), sM_a (by omega), sM_a (by omega), sM_a (by omega)]
    exact g a (by omega) (by omega) (by omega)
  · rw [sM_i (by decide), sM_i (by decide), sM_a (by decide), sM_a (by decide), sM_a (by decide), g 160 (by decide) (by decide) (by decide)]
  · rw [sM_i (by decide), sM_i (by decide), sM_a (by decide), sM_a (by decide), sM_a (by decide), g 160 (by decide) (by decide) (by decide)]
