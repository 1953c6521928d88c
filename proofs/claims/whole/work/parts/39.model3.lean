/-! the reference: troubles, bits, what is kept and laid back -/
theorem or0 (b : Int32) : b ||| 0 = b := Int32.or_zero
theorem under_bit (d : Ld) (h t : Int32) : (underS d h t).2 = (!spS d && !decide (harmS d h t = 0)) := by
  cases hs : spS d with
  | true => rw [under_sp hs]; rfl
  | false =>
    by_cases hh : harmS d h t = 0
    · by_cases ht : t < topS d.1
      · rw [under_cold hs hh ht]; simp [hh]
      · by_cases hn : soakS d < needS d.1 d.2.1
        · rw [under_soak hs hh ht hn]; simp [hh]
        · rw [under_done hs hh ht hn]; simp [hh]
    · rw [under_harm hs hh]; simp [hh]
theorem m_t2 {σ : Mem} (H B : H3) : ∀ (L2 L1 : List Ld) (b : Int32), (L1 ++ L2).length ≤ 8 → (∀ d ∈ L2, okL d) → σ 160 2 = nI (L1 ++ L2).length → (∀ z, z < 3 → σ 161 z = at3 H z) → (∀ z, z < 3 → σ 176 z = at3 B z) → (∀ i d, (L1 ++ L2)[i]? = some d → repN i d σ) → am_go CX10_troubles 8 [.ref 160, .int b, .int (nI L1.length)] [] σ = some (some (.int (goLs H B L2 L1.length b).2), σ) := by
  intro L2
  induction L2 with
  | nil =>
    intro L1 b h8 hok hc h1 h2 hr
    rw [List.append_nil] at hc
    rw [blX10_troubles_8, oc m9, hc, if_pos (Int32.le_refl _)]
    rfl
  | cons d L2 ih =>
    intro L1 b h8 hok hc h1 h2 hr
    have hlen : (L1 ++ d :: L2).length = L1.length + L2.length + 1 := by simp; omega
    have hi : L1.length < 8 := by omega
    have hd := hr L1.length d (by simp)
    have hl1 : (L1 ++ [d]).length = L1.length + 1 := by simp
    have hap : L1 ++ [d] ++ L2 = L1 ++ d :: L2 := by simp
    have ih' := fun b' => ih (L1 ++ [d]) b' (by rw [hap]; exact h8) (fun d hd => hok d (List.mem_cons_of_mem _ hd)) (by rw [hap]; exact hc) h1 h2 (by rw [hap]; exact hr)
    rw [hl1] at ih'
    have okd := hok d List.mem_cons_self
    rw [blX10_troubles_8, oc m9, hc, if_neg (nI_ge (by omega) (by omega)), oc m9, m_spoiled hi hd okd, rI, ifb, oc m9, m_harm hi hd okd h1 h2, rI, or0, nI_1, ih', ih', goLs, under_bit]
    cases hs : spS d with
    | true => simp
    | false =>
      simp only [harm_le]
      by_cases hh : harmS d (at3 H d.2.2.1.toNatClampNeg) (at3 B d.2.2.1.toNatClampNeg) = 0
      · simp [hh]
      · simp [hh]
theorem m_troubles {S : KS} {σ : Mem} (hS : okS S) (h : repM S σ) : ∃ σ', FX10_troubles [.ref 160] σ = some (some (.int (stepS S).2), σ') ∧ (∀ z, z < 3 → σ' 176 z = at3 (behH S) z) ∧ ∀ a, a ≠ 176 → σ' a = σ a := by
  obtain ⟨σ1, e1, b1, f1⟩ := m_reckons hS h
  obtain ⟨h1, h2, h3, h4, h5, h6⟩ := h
  rw [enX10_troubles, oc m9, e1, rV]
  refine ⟨σ1, ?_, b1, f1⟩
  exact m_t2 S.1 (behH S) S.2.2.1 [] 0 hS.1 hS.2 (by rw [f1 160 (by decide), h3]; rfl) (fun z hz => by rw [f1 161 (by decide)]; exact h1 z hz) b1 (by
    intro i d hd
    obtain ⟨a, b, c, e, f⟩ := h6 i d hd
    unfold repN
    rw [f1 163 (by decide), f1 164 (by decide), f1 165 (by decide), f1 166 (by decide), f1 167 (by decide)]
    exact ⟨a, b, c, e, f⟩)
theorem m_bd {σ : Mem} : ∀ (L2 L1 : List Ld) (b : Int32), (L1 ++ L2).length ≤ 8 → σ 160 2 = nI (L1 ++ L2).length → (∀ i d, (L1 ++ L2)[i]? = some d → repN i d σ) → am_go CX10_doneBits 4 [.ref 160, .int b, .int (nI L1.length)] [] σ = some (some (.int (bitS (fun d => decide (d.2.2.2.2 = 1)) L2 L1.length b)), σ) := by
  intro L2
  induction L2 with
  | nil =>
    intro L1 b h8 hc hr
    rw [List.append_nil] at hc
    rw [blX10_doneBits_4, oc m9, hc, if_pos (Int32.le_refl _)]
    rfl
  | cons d L2 ih =>
    intro L1 b h8 hc hr
    have hlen : (L1 ++ d :: L2).length = L1.length + L2.length + 1 := by simp; omega
    have hi : L1.length < 8 := by omega
    have hd := hr L1.length d (by simp)
    have hl1 : (L1 ++ [d]).length = L1.length + 1 := by simp
    have hap : L1 ++ [d] ++ L2 = L1 ++ d :: L2 := by simp
    have ih' := fun b' => ih (L1 ++ [d]) b' (by rw [hap]; exact h8) (by rw [hap]; exact hc) (by rw [hap]; exact hr)
    rw [hl1] at ih'
    rw [blX10_doneBits_4, oc m9, hc, if_neg (nI_ge (by omega) (by omega)), oc m9, rf160_7, xi hi sh167, cl _ (by omega), hd.2.2.2.2, or0, nI_1, ih', ih', bitS]
    by_cases h1 : d.2.2.2.2 = 1 <;> simp [h1]
theorem m_done {S : KS} {σ : Mem} (hS : okS S) (h : repM S σ) : FX10_doneBits [.ref 160] σ = some (some (.int (doneS S)), σ) := by
  rw [enX10_doneBits]
  exact m_bd S.2.2.1 [] 0 hS.1 h.2.2.1 h.2.2.2.2.2
theorem m_bs {σ : Mem} : ∀ (L2 L1 : List Ld) (b : Int32), (L1 ++ L2).length ≤ 8 → (∀ d ∈ L2, okL d) → σ 160 2 = nI (L1 ++ L2).length → (∀ i d, (L1 ++ L2)[i]? = some d → repN i d σ) → am_go CX10_spoiledBits 4 [.ref 160, .int b, .int (nI L1.length)] [] σ = some (some (.int (bitS spS L2 L1.length b)), σ) := by
  intro L2
  induction L2 with
  | nil =>
    intro L1 b h8 hok hc hr
    rw [List.append_nil] at hc
    rw [blX10_spoiledBits_4, oc m9, hc, if_pos (Int32.le_refl _)]
    rfl
  | cons d L2 ih =>
    intro L1 b h8 hok hc hr
    have hlen : (L1 ++ d :: L2).length = L1.length + L2.length + 1 := by simp; omega
    have hi : L1.length < 8 := by omega
    have hd := hr L1.length d (by simp)
    have hl1 : (L1 ++ [d]).length = L1.length + 1 := by simp
    have hap : L1 ++ [d] ++ L2 = L1 ++ d :: L2 := by simp
    have ih' := fun b' => ih (L1 ++ [d]) b' (by rw [hap]; exact h8) (fun d hd => hok d (List.mem_cons_of_mem _ hd)) (by rw [hap]; exact hc) (by rw [hap]; exact hr)
    rw [hl1] at ih'
    rw [blX10_spoiledBits_4, oc m9, hc, if_neg (nI_ge (by omega) (by omega)), oc m9, m_spoiled hi hd (hok d List.mem_cons_self), rI, ifb, or0, nI_1, ih', ih', bitS]
    by_cases h1 : spS d = true <;> simp [h1]
theorem m_spd {S : KS} {σ : Mem} (hS : okS S) (h : repM S σ) : FX10_spoiledBits [.ref 160] σ = some (some (.int (spdS S)), σ) := by
  rw [enX10_spoiledBits]
  exact m_bs S.2.2.1 [] 0 hS.1 hS.2 h.2.2.1 h.2.2.2.2.2
theorem m_alldone {S : KS} {σ : Mem} (hS : okS S) (h : repM S σ) : FX10_areDone [.ref 160] σ = some (some (.int (if doneS S = ((1 : Int32) <<< (nI S.2.2.1.length &&& 31)) - 1 then 1 else 0)), σ) := by
  rw [enX10_areDone, oc m9, m_done hS h, rI, oc m9, h.2.2.1, zr0, zr1]
  split <;> rfl
/-! what is kept -/
def keptM (S : KS) (σ : Mem) : Prop := (∀ z, z < 3 → σ 177 z = at3 S.1 z) ∧ (∀ z, z < 3 → σ 178 z = at3 S.2.1 z) ∧ (∀ i d, S.2.2.1[i]? = some d → σ 179 i = d.2.2.2.1 ∧ σ 180 i = d.2.2.2.2) ∧ σ 160 24 = S.2.2.2.1 ∧ σ 160 25 = S.2.2.2.2
def repB (S : KS) (σ : Mem) : Prop := σ 160 2 = nI S.2.2.1.length ∧ ∀ i d, S.2.2.1[i]? = some d → σ 163 i = d.1 ∧ σ 164 i = d.2.1 ∧ σ 165 i = d.2.2.1
theorem repM.base {S : KS} {σ : Mem} (h : repM S σ) : repB S σ := ⟨h.2.2.1, fun i d hd => ⟨(h.2.2.2.2.2 i d hd).1, (h.2.2.2.2.2 i d hd).2.1, (h.2.2.2.2.2 i d hd).2.2.1⟩⟩
theorem repB.fr {S : KS} {σ σ' : Mem} (h : repB S σ) (f : frM σ σ') : repB S σ' := by
  refine ⟨by rw [f.2 2 (by decide) (by decide) (by decide) (by decide)]; exact h.1, fun i d hd => ?_⟩
  rw [f.1 163 (by omega), f.1 164 (by omega), f.1 165 (by omega)]
  exact h.2 i d hd
theorem keptM.go {S : KS} {σ σ' : Mem} (h : keptM S σ) (f : ∀ a, 177 ≤ a → a ≤ 180 → σ' a = σ a) (f1 : σ' 160 24 = σ 160 24) (f2 : σ' 160 25 = σ 160 25) : keptM S σ' := by
  obtain ⟨h1, h2, h3, h4, h5⟩ := h
  refine ⟨fun z hz => ?_, fun z hz => ?_, fun i d hd => ?_, f1.trans h4, f2.trans h5⟩
  · rw [f 177 (by decide) (by decide)]; exact h1 z hz
  · rw [f 178 (by decide) (by decide)]; exact h2 z hz
  · rw [f 179 (by decide) (by decide), f 180 (by decide) (by decide)]; exact h3 i d hd
theorem m_k2 : ∀ (n j : Nat) (σ : Mem), j + n = 8 → ∃ σ', am_go CX10_keepsNow 39 [.ref 160, .int (nI j)] [] σ = some (none, σ') ∧ (∀ i, j ≤ i → i < 8 → σ' 179 i = σ 166 i ∧ σ' 180 i = σ 167 i) ∧ (∀ i, i < j → σ' 179 i = σ 179 i ∧ σ' 180 i = σ 180 i) ∧ (∀ a, a ≠ 160 → a ≠ 179 → a ≠ 180 → σ' a = σ a) ∧ σ' 160 24 = σ 160 8 ∧ σ' 160 25 = σ 160 9 ∧ ∀ i, i ≠ 24 → i ≠ 25 → σ' 160 i = σ 160 i := by
  intro n
  induction n with
  | zero =>
    intro j σ hj
    have : j = 8 := by omega
    subst this
    rw [blX10_keepsNow_39, if_pos (by decide), oc m9, oc m9, oc m9, oc m9]
    refine ⟨_, rfl, fun i h1 h2 => by omega, fun i hi => ?_, fun a h1 h2 h3 => by rw [sM_a h1, sM_a h1], ?_, ?_, fun i h1 h2 => by rw [sM_i h2, sM_i h1]⟩
    · rw [sM_a (by decide), sM_a (by decide), sM_a (by decide), sM_a (by decide)]; exact ⟨rfl, rfl⟩
    · rw [sM_i (by decide), sM_eq]
    · rw [sM_eq, sM_i (by decide)]
  | succ n ih =>
    intro j σ hj
    have hj8 : j < 8 := by omega
    rw [blX10_keepsNow_39, if_neg (show ¬ (8 : Int32) ≤ nI j from nI_ge (b := 8) hj8 (by decide)), oc m9, oc m9, rf160_6, rf160_22, rf160_7, rf160_23, xi hj8 sh166, xi hj8 sh179, oc m9, oc m9, xi hj8 sh167, xi hj8 sh180, cl j (by omega), nI_1, sM_a (b := 167) (by decide)]
    obtain ⟨σ', e, c1, c2, c3, c4, c5, c6⟩ := ih (j + 1) (setM (setM σ 179 j (σ 166 j)) 180 j (σ 167 j)) (by omega)
    refine ⟨σ', e, fun i h1 h2 => ?_, fun i hi => ?_, fun a h1 h2 h3 => ?_, ?_, ?_, fun i h1 h2 => ?_⟩
    · by_cases hij : i = j
      · subst hij
        have := c2 i (by omega)
        rw [sM_a (by decide), sM_eq, sM_eq] at this
        exact this
      · have := c1 i (by omega) h2
        rw [sM_a (by decide), sM_a (by decide), sM_a (by decide), sM_a (by decide)] at this
        exact this
    · have := c2 i (by omega)
      rw [sM_a (by decide), sM_i (by omega), sM_i (by omega), sM_a (by decide)] at this
      exact this
    · rw [c3 a h1 h2 h3, sM_a h3, sM_a h2]
    · rw [c4, sM_a (by decide), sM_a (by decide)]
    · rw [c5, sM_a (by decide), sM_a (by decide)]
    · rw [c6 i h1 h2, sM_a (by decide), sM_a (by decide)]
theorem m_k1 {z : Nat} {σ : Mem} (hz : z < 3) : am_go CX10_keepsNow 2 [.ref 160, .int (nI z)] [] σ = am_go CX10_keepsNow 2 [.ref 160, .int (nI (z + 1))] [] (setM (setM σ 177 z (σ 161 z)) 178 z (σ 162 z)) := by
  rw [blX10_keepsNow_2, if_neg (show ¬ (3 : Int32) ≤ nI z from nI_ge (b := 3) hz (by decide)), oc m9, oc m9, rf160_0, rf160_20, rf160_1, rf160_21, xi hz sh161, xi hz sh177, oc m9, oc m9, xi hz sh162, xi hz sh178, cl z (by omega), nI_1, sM_a (b := 162) (by decide)]
theorem m_keeps {S : KS} {σ : Mem} (hS : okS S) (h : repM S σ) : ∃ σ', FX10_keepsNow [.ref 160] σ = some (none, σ') ∧ repM S σ' ∧ keptM S σ' ∧ frM σ σ' := by
  obtain ⟨h1, h2, h3, h4, h5, h6⟩ := h
  rw [enX10_keepsNow, show (0 : Int32) = nI 0 from rfl, m_k1 (by decide), m_k1 (by decide), m_k1 (by decide), blX10_keepsNow_2, if_pos (by decide), show (0 : Int32) = nI 0 from rfl]
  generalize hσ1 : setM (setM (setM (setM (setM (setM σ 177 0 _) 178 0 _) 177 _ _) 178 _ _) 177 _ _) 178 _ _ = σ1
  have pa : ∀ a, a ≠ 177 → a ≠ 178 → σ1 a = σ a := fun a ha hb => by rw [← hσ1]; simp [setM, ha, hb]
  have p1 : ∀ z, z < 3 → σ1 177 z = σ 161 z ∧ σ1 178 z = σ 162 z := by
    intro z hz
    rw [← hσ1]
    match z, hz with
    | 0, _ => simp [sM]
    | 1, _ => simp [sM]
    | 2, _ => simp [sM]
  obtain ⟨σ', e, c1, c2, c3, c4, c5, c6⟩ := m_k2 8 0 σ1 rfl
  have g : ∀ a, a ≠ 160 → a ≠ 177 → a ≠ 178 → a ≠ 179 → a ≠ 180 → σ' a = σ a := fun a a1 a2 a3 a4 a5 => (c3 a a1 a4 a5).trans (pa a a2 a3)
  have g0 : ∀ i, i ≠ 24 → i ≠ 25 → σ' 160 i = σ 160 i := fun i i1 i2 => by rw [c6 i i1 i2, pa 160 (by decide) (by decide)]
  refine ⟨σ', e, ⟨?_, ?_, ?_, ?_, ?_, ?_⟩, ⟨?_, ?_, ?_, ?_, ?_⟩, ?_, ?_⟩
  · intro z hz; rw [g 161 (by decide) (by decide) (by decide) (by decide) (by decide)]; exact h1 z hz
  · intro z hz; rw [g 162 (by decide) (by decide) (by decide) (by decide) (by decide)]; exact h2 z hz
  · rw [g0 2 (by decide) (by decide)]; exact h3
  · rw [g0 8 (by decide) (by decide)]; exact h4
  · rw [g0 9 (by decide) (by decide)]; exact h5
  · intro i d hd
    have := h6 i d hd
    unfold repN at this ⊢
    rw [g 163 (by decide) (by decide) (by decide) (by decide) (by decide), g 164 (by decide) (by decide) (by decide) (by decide) (by decide), g 165 (by decide) (by decide) (by decide) (by decide) (by decide), g 166 (by decide) (by decide) (by decide) (by decide) (by decide), g 167 (by decide) (by decide) (by decide) (by decide) (by decide)]
    exact this
  · intro z hz
    rw [c3 177 (by decide) (by decide) (by decide), (p1 z hz).1]
    exact h1 z hz
  · intro z hz
    rw [c3 178 (by decide) (by decide) (by decide), (p1 z hz).2]
    exact h2 z hz
  · intro i d hd
    have hi := (List.getElem?_eq_some_iff.mp hd).1
    have h8 := hS.1
    obtain ⟨q1, q2⟩ := c1 i (by omega) (by omega)
    rw [q1, q2, pa 166 (by decide) (by decide), pa 167 (by decide) (by decide)]
    exact ⟨(h6 i d hd).2.2.2.1, (h6 i d hd).2.2.2.2⟩
  · rw [c4, pa 160 (by decide) (by decide)]; exact h4
  · rw [c5, pa 160 (by decide) (by decide)]; exact h5
  · intro a ha; exact g a (by omega) (by omega) (by omega) (by omega) (by omega)
  · intro j _ _ j1 j2; exact g0 j j1 j2
theorem m_l2 : ∀ (n j : Nat) (σ : Mem), j + n = 8 → ∃ σ', am_go CX10_laysBack 39 [.ref 160, .int (nI j)] [] σ = some (none, σ') ∧ (∀ i, j ≤ i → i < 8 → σ' 166 i = σ 179 i ∧ σ' 167 i = σ 180 i) ∧ (∀ i, i < j → σ' 166 i = σ 166 i ∧ σ' 167 i = σ 167 i) ∧ (∀ a, a ≠ 160 → a ≠ 166 → a ≠ 167 → σ' a = σ a) ∧ σ' 160 8 = σ 160 24 ∧ σ' 160 9 = σ 160 25 ∧ ∀ i, i ≠ 8 → i ≠ 9 → σ' 160 i = σ 160 i := by
  intro n
  induction n with
  | zero =>
    intro j σ hj
    have : j = 8 := by omega
    subst this
    rw [blX10_laysBack_39, if_pos (by decide), oc m9, oc m9, oc m9, oc m9]
    refine ⟨_, rfl, fun i h1 h2 => by omega, fun i hi => ?_, fun a h1 h2 h3 => by rw [sM_a h1, sM_a h1], ?_, ?_, fun i h1 h2 => by rw [sM_i h2, sM_i h1]⟩
    · rw [sM_a (by decide), sM_a (by decide), sM_a (by decide), sM_a (by decide)]; exact ⟨rfl, rfl⟩
    · rw [sM_i (by decide), sM_eq]
    · rw [sM_eq, sM_i (by decide)]
  | succ n ih =>
    intro j σ hj
    have hj8 : j < 8 := by omega
    rw [blX10_laysBack_39, if_neg (show ¬ (8 : Int32) ≤ nI j from nI_ge (b := 8) hj8 (by decide)), oc m9, oc m9, rf160_6, rf160_22, rf160_7, rf160_23, xi hj8 sh179, xi hj8 sh166, oc m9, oc m9, xi hj8 sh180, xi hj8 sh167, cl j (by omega), nI_1, sM_a (b := 180) (by decide)]
    obtain ⟨σ', e, c1, c2, c3, c4, c5, c6⟩ := ih (j + 1) (setM (setM σ 166 j (σ 179 j)) 167 j (σ 180 j)) (by omega)
    refine ⟨σ', e, fun i h1 h2 => ?_, fun i hi => ?_, fun a h1 h2 h3 => ?_, ?_, ?_, fun i h1 h2 => ?_⟩
    · by_cases hij : i = j
      · subst hij
        have := c2 i (by omega)
        rw [sM_a (by decide), sM_eq, sM_eq] at this
        exact this
      · have := c1 i (by omega) h2
        rw [sM_a (by decide), sM_a (by decide), sM_a (by decide), sM_a (by decide)] at this
        exact this
    · have := c2 i (by omega)
      rw [sM_a (by decide), sM_i (by omega), sM_i (by omega), sM_a (by decide)] at this
      exact this
    · rw [c3 a h1 h2 h3, sM_a h3, sM_a h2]
    · rw [c4, sM_a (by decide), sM_a (by decide)]
    · rw [c5, sM_a (by decide), sM_a (by decide)]
    · rw [c6 i h1 h2, sM_a (by decide), sM_a (by decide)]
theorem m_l1 {z : Nat} {σ : Mem} (hz : z < 3) : am_go CX10_laysBack 2 [.ref 160, .int (nI z)] [] σ = am_go CX10_laysBack 2 [.ref 160, .int (nI (z + 1))] [] (setM (setM σ 161 z (σ 177 z)) 162 z (σ 178 z)) := by
  rw [blX10_laysBack_2, if_neg (show ¬ (3 : Int32) ≤ nI z from nI_ge (b := 3) hz (by decide)), oc m9, oc m9, rf160_0, rf160_20, rf160_1, rf160_21, xi hz sh177, xi hz sh161, oc m9, oc m9, xi hz sh178, xi hz sh162, cl z (by omega), nI_1, sM_a (b := 178) (by decide)]
theorem m_lays {S : KS} {σ : Mem} (hS : okS S) (hb : repB S σ) (hk : keptM S σ) : ∃ σ', FX10_laysBack [.ref 160] σ = some (none, σ') ∧ repM S σ' ∧ keptM S σ' ∧ frM σ σ' := by
  obtain ⟨k1, k2, k3, k4, k5⟩ := hk
  rw [enX10_laysBack, show (0 : Int32) = nI 0 from rfl, m_l1 (by decide), m_l1 (by decide), m_l1 (by decide), blX10_laysBack_2, if_pos (by decide), show (0 : Int32) = nI 0 from rfl]
  generalize hσ1 : setM (setM (setM (setM (setM (setM σ 161 0 _) 162 0 _) 161 _ _) 162 _ _) 161 _ _) 162 _ _ = σ1
  have pa : ∀ a, a ≠ 161 → a ≠ 162 → σ1 a = σ a := fun a ha hb => by rw [← hσ1]; simp [setM, ha, hb]
  have p1 : ∀ z, z < 3 → σ1 161 z = σ 177 z ∧ σ1 162 z = σ 178 z := by
    intro z hz
    rw [← hσ1]
    match z, hz with
    | 0, _ => simp [sM]
    | 1, _ => simp [sM]
    | 2, _ => simp [sM]
  obtain ⟨σ', e, c1, c2, c3, c4, c5, c6⟩ := m_l2 8 0 σ1 rfl
  have g : ∀ a, a ≠ 160 → a ≠ 161 → a ≠ 162 → a ≠ 166 → a ≠ 167 → σ' a = σ a := fun a a1 a2 a3 a4 a5 => (c3 a a1 a4 a5).trans (pa a a2 a3)
  have g0 : ∀ i, i ≠ 8 → i ≠ 9 → σ' 160 i = σ 160 i := fun i i1 i2 => by rw [c6 i i1 i2, pa 160 (by decide) (by decide)]
  refine ⟨σ', e, ⟨?_, ?_, ?_, ?_, ?_, ?_⟩, ⟨?_, ?_, ?_, ?_, ?_⟩, ?_, ?_⟩
  · intro z hz
    rw [c3 161 (by decide) (by decide) (by decide), (p1 z hz).1]
    exact k1 z hz
  · intro z hz
    rw [c3 162 (by decide) (by decide) (by decide), (p1 z hz).2]
    exact k2 z hz
  · rw [g0 2 (by decide) (by decide)]; exact hb.1
  · rw [c4, pa 160 (by decide) (by decide)]; exact k4
  · rw [c5, pa 160 (by decide) (by decide)]; exact k5
  · intro i d hd
    have hi := (List.getElem?_eq_some_iff.mp hd).1
    have h8 := hS.1
    obtain ⟨q1, q2⟩ := c1 i (by omega) (by omega)
    unfold repN
    rw [q1, q2, pa 179 (by decide) (by decide), pa 180 (by decide) (by decide), g 163 (by decide) (by decide) (by decide) (by decide) (by decide), g 164 (by decide) (by decide) (by decide) (by decide) (by decide), g 165 (by decide) (by decide) (by decide) (by decide) (by decide)]
    exact ⟨(hb.2 i d hd).1, (hb.2 i d hd).2.1, (hb.2 i d hd).2.2, (k3 i d hd).1, (k3 i d hd).2⟩
  · intro z hz; rw [g 177 (by decide) (by decide) (by decide) (by decide) (by decide)]; exact k1 z hz
  · intro z hz; rw [g 178 (by decide) (by decide) (by decide) (by decide) (by decide)]; exact k2 z hz
  · intro i d hd
    rw [g 179 (by decide) (by decide) (by decide) (by decide) (by decide), g 180 (by decide) (by decide) (by decide) (by decide) (by decide)]
    exact k3 i d hd
  · rw [g0 24 (by decide) (by decide)]; exact k4
  · rw [g0 25 (by decide) (by decide)]; exact k5
  · intro a ha; exact g a (by omega) (by omega) (by omega) (by omega) (by omega)
  · intro j j1 j2 _ _; exact g0 j j1 j2
theorem m_setAll {S : KS} {σ : Mem} {s : Int32} (h : repM S σ) : ∃ σ', FX10_setAll [.ref 160, .int s] σ = some (none, σ') ∧ repM (S.1, (s, s, s), S.2.2) σ' ∧ frM σ σ' ∧ (∀ a, a ≠ 162 → σ' a = σ a) := by
  obtain ⟨h1, h2, h3, h4, h5, h6⟩ := h
  rw [enX10_setAll, show (0 : Int32) = nI 0 from rfl, blX10_setAll_2, if_neg (by decide), oc m9, rf160_1, xi (by decide) sh162, show (nI 0 + 1 : Int32) = nI 1 from rfl, blX10_setAll_2, if_neg (by decide), oc m9, rf160_1, xi (by decide) sh162, show (nI 1 + 1 : Int32) = nI 2 from rfl, blX10_setAll_2, if_neg (by decide), oc m9, rf160_1, xi (by decide) sh162, show (nI 2 + 1 : Int32) = nI 3 from rfl, blX10_setAll_2, if_pos (by decide), cl 0 (by decide), cl 1 (by decide), cl 2 (by decide)]
  have g : ∀ a, a ≠ 162 → setM (setM (setM σ 162 0 s) 162 1 s) 162 2 s a = σ a := fun a ha => by rw [sM_a ha, sM_a ha, sM_a ha]
  refine ⟨_, rfl, ⟨?_, ?_, ?_, ?_, ?_, ?_⟩, ⟨fun a ha => g a (by omega), fun j _ _ _ _ => by rw [g 160 (by decide)]⟩, g⟩
  · intro z hz; rw [g 161 (by decide)]; exact h1 z hz
  · intro z hz
    match z, hz with
    | 0, _ => simp [sM, at3]
    | 1, _ => simp [sM, at3]
    | 2, _ => simp [sM, at3]
  · rw [g 160 (by decide)]; exact h3
  · rw [g 160 (by decide)]; exact h4
  · rw [g 160 (by decide)]; exact h5
  · intro i d hd
    have := h6 i d hd
    unfold repN at this ⊢
    rw [g 163 (by decide), g 164 (by decide), g 165 (by decide), g 166 (by decide), g 167 (by decide)]
    exact this
