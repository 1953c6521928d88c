/-! the reference: loads, a step -/
def okT (T : H3) : Prop := ∀ z, z < 3 → ∃ j : Nat, j < 4 ∧ at3 T z = nI j
def repN (i : Nat) (d : Ld) (σ : Mem) : Prop := σ 163 i = d.1 ∧ σ 164 i = d.2.1 ∧ σ 165 i = d.2.2.1 ∧ σ 166 i = d.2.2.2.1 ∧ σ 167 i = d.2.2.2.2
def repM (S : KS) (σ : Mem) : Prop := (∀ z, z < 3 → σ 161 z = at3 S.1 z) ∧ (∀ z, z < 3 → σ 162 z = at3 S.2.1 z) ∧ σ 160 2 = nI S.2.2.1.length ∧ σ 160 8 = S.2.2.2.1 ∧ σ 160 9 = S.2.2.2.2 ∧ ∀ i d, S.2.2.1[i]? = some d → repN i d σ
/-- what the reference's steps leave as it is -/
def frM (σ σ' : Mem) : Prop := (∀ a, (a < 160 ∨ a = 163 ∨ a = 164 ∨ a = 165 ∨ (168 ≤ a ∧ a < 176) ∨ 181 ≤ a) → σ' a = σ a) ∧ ∀ j, j ≠ 8 → j ≠ 9 → j ≠ 24 → j ≠ 25 → σ' 160 j = σ 160 j
theorem frM.rf (σ : Mem) : frM σ σ := ⟨fun _ _ => rfl, fun _ _ _ _ _ => rfl⟩
theorem frM.tr {σ1 σ2 σ3 : Mem} (h : frM σ1 σ2) (h' : frM σ2 σ3) : frM σ1 σ3 := ⟨fun a ha => (h'.1 a ha).trans (h.1 a ha), fun j a b c d => (h'.2 j a b c d).trans (h.2 j a b c d)⟩
theorem m9 : (sh 160).1 = 9 := by rw [sh160]
theorem xi {i n : Nat} (hi : i < n) {α : Type} {a : Nat} {k : Option α} (h : sh a = (100, n)) : o_ix 100 a (nI i) k = k := ox (by rw [h]) (by rw [h]; exact hi)
theorem m_rise {i : Nat} {d : Ld} {σ : Mem} (hi : i < 8) (hr : repN i d σ) (h : Int32) : FX10_risesFrom [.ref 160, .int (nI i), .int h] σ = some (some (.int (riseS d.1 d.2.1 h)), σ) := by
  simp only [enX10_risesFrom, oc m9, rf160_3, rf160_4, xi hi sh163, xi hi sh164, cl i (by omega), hr.1, hr.2.1]
  unfold riseS
  have e0 : (120 : Int32) - 8 * d.2.1 - 0 = 120 - 8 * d.2.1 := Int32.sub_zero _
  by_cases h1 : d.1 = 1
  · simp [h1]
  · by_cases h2 : d.1 = 2
    · simp [h2]
    · by_cases h3 : d.1 = 3
      · simp [h3]; split <;> rfl
      · by_cases h4 : d.1 = 4
        · simp [h4]; split <;> rfl
        · by_cases h5 : d.1 = 5
          · simp [h5]; split <;> rfl
          · simp [h1, h2, h3, h4, h5]
theorem m_falls {i : Nat} {d : Ld} {σ : Mem} (hi : i < 8) (hr : repN i d σ) (hok : okL d) : FX10_fallsOf [.ref 160, .int (nI i)] σ = some (some (.int (fallS d.1)), σ) := by
  simp only [enX10_fallsOf, oc m9, rf160_3, xi hi sh163, cl i (by omega), hr.1]
  rcases hok.1 with h | h | h | h | h | h <;> rw [h] <;> rfl
theorem m_top {i : Nat} {d : Ld} {σ : Mem} (hi : i < 8) (hr : repN i d σ) (hok : okL d) : FX10_topOf [.ref 160, .int (nI i)] σ = some (some (.int (topS d.1)), σ) := by
  simp only [enX10_topOf, oc m9, rf160_3, xi hi sh163, cl i (by omega), hr.1]
  rcases hok.1 with h | h | h | h | h | h <;> rw [h] <;> rfl
theorem m_need {i : Nat} {d : Ld} {σ : Mem} (hi : i < 8) (hr : repN i d σ) (hok : okL d) : FX10_needOf [.ref 160, .int (nI i)] σ = some (some (.int (needS d.1 d.2.1)), σ) := by
  simp only [enX10_needOf, oc m9, rf160_3, rf160_4, xi hi sh163, xi hi sh164, cl i (by omega), hr.1, hr.2.1]
  rcases hok.1 with h | h | h | h | h | h <;> rw [h] <;> rfl
theorem m_melts {i : Nat} {d : Ld} {σ : Mem} (hi : i < 8) (hr : repN i d σ) (hok : okL d) : FX10_meltsOf [.ref 160, .int (nI i)] σ = some (some (.int (meltsS d.1)), σ) := by
  simp only [enX10_meltsOf, oc m9, m_top hi hr hok, rI, rf160_3, xi hi sh163, cl i (by omega), hr.1]
  rcases hok.1 with h | h | h | h | h | h <;> rw [h] <;> rfl
theorem m_mass {i : Nat} {d : Ld} {σ : Mem} (hi : i < 8) (hr : repN i d σ) (hok : okL d) : FX10_massOf [.ref 160, .int (nI i)] σ = some (some (.int (massS d.1 d.2.1)), σ) := by
  simp only [enX10_massOf, oc m9, rf160_3, rf160_4, xi hi sh163, xi hi sh164, cl i (by omega), hr.1, hr.2.1]
  rcases hok.1 with h | h | h | h | h | h <;> rw [h] <;> rfl
theorem m_spoiled {i : Nat} {d : Ld} {σ : Mem} (hi : i < 8) (hr : repN i d σ) (hok : okL d) : FX10_isSpoiled [.ref 160, .int (nI i)] σ = some (some (.int (if spS d = true then 1 else 0)), σ) := by
  simp only [enX10_isSpoiled, oc m9, rf160_7, xi hi sh167, cl i (by omega), hr.2.2.2.2]
  unfold spS
  rcases hok.2.2.2 with h | h | h | h <;> rw [h] <;> rfl
theorem m_harm {i : Nat} {d : Ld} {σ : Mem} {H B : H3} (hi : i < 8) (hr : repN i d σ) (hok : okL d) (h1 : ∀ z, z < 3 → σ 161 z = at3 H z) (h2 : ∀ z, z < 3 → σ 176 z = at3 B z) : FX10_harm [.ref 160, .int (nI i)] σ = some (some (.int (harmS d (at3 H d.2.2.1.toNatClampNeg) (at3 B d.2.2.1.toNatClampNeg))), σ) := by
  obtain ⟨z, hz, hzd⟩ := hok.2.2.1
  simp only [enX10_harm, oc m9, rf160_0, rf160_5, rf160_19, xi hi sh165, cl i (by omega), hr.2.2.1, hzd, xi hz sh161, xi hz sh176, cl z (by omega), h1 z hz, h2 z hz, m_rise hi hr, rI, m_falls hi hr hok, m_melts hi hr hok]
  unfold harmS
  split
  · rfl
  · split
    · split <;> rfl
    · rfl
theorem m_mi {z : Nat} {σ : Mem} : ∀ (L2 L1 : List Ld) (acc : Int32), (L1 ++ L2).length ≤ 8 → (∀ d ∈ L2, okL d) → σ 160 2 = nI (L1 ++ L2).length → (∀ i d, (L1 ++ L2)[i]? = some d → repN i d σ) → am_go CX10_massIn 4 [.ref 160, .int (nI z), .int acc, .int (nI L1.length)] [] σ = some (some (.int (L2.foldl (fun m d => m + (if d.2.2.1 = nI z then massS d.1 d.2.1 else 0)) acc)), σ) := by
  intro L2
  induction L2 with
  | nil =>
    intro L1 acc h8 hok hc hr
    rw [List.append_nil] at hc
    rw [blX10_massIn_4, oc m9, hc, if_pos (Int32.le_refl _)]
    rfl
  | cons d L2 ih =>
    intro L1 acc h8 hok hc hr
    have hlen : (L1 ++ d :: L2).length = L1.length + L2.length + 1 := by simp; omega
    have hi : L1.length < 8 := by omega
    have hd := hr L1.length d (by simp)
    have hl1 : (L1 ++ [d]).length = L1.length + 1 := by simp
    have hap : L1 ++ [d] ++ L2 = L1 ++ d :: L2 := by simp
    have ih' := fun b' => ih (L1 ++ [d]) b' (by rw [hap]; exact h8) (fun d hd => hok d (List.mem_cons_of_mem _ hd)) (by rw [hap]; exact hc) (by rw [hap]; exact hr)
    rw [hl1] at ih'
    rw [blX10_massIn_4, oc m9, hc, if_neg (nI_ge (by omega) (by omega)), oc m9, rf160_5, xi hi sh165, cl _ (by omega), hd.2.2.1, oc m9, m_mass hi hd (hok d List.mem_cons_self), rI, nI_1, ih', ih', List.foldl_cons]
    split <;> rfl
theorem m_massIn {z : Nat} {S : KS} {σ : Mem} (hS : okS S) (h : repM S σ) : FX10_massIn [.ref 160, .int (nI z)] σ = some (some (.int (massIn z S.2.2.1)), σ) := by
  rw [enX10_massIn]
  exact m_mi S.2.2.1 [] 0 hS.1 hS.2 h.2.2.1 h.2.2.2.2.2
theorem repM.set176 {S : KS} {σ : Mem} {z : Nat} {v : Int32} (h : repM S σ) : repM S (setM σ 176 z v) := by
  obtain ⟨h1, h2, h3, h4, h5, h6⟩ := h
  refine ⟨fun z hz => ?_, fun z hz => ?_, ?_, ?_, ?_, fun i d hd => ?_⟩
  · rw [sM_a (by decide)]; exact h1 z hz
  · rw [sM_a (by decide)]; exact h2 z hz
  · rw [sM_a (by decide)]; exact h3
  · rw [sM_a (by decide)]; exact h4
  · rw [sM_a (by decide)]; exact h5
  · obtain ⟨a, b, c, e, f⟩ := h6 i d hd
    unfold repN
    rw [sM_a (by decide), sM_a (by decide), sM_a (by decide), sM_a (by decide), sM_a (by decide)]
    exact ⟨a, b, c, e, f⟩
theorem m_rk {z : Nat} {S : KS} {σ : Mem} {v2 v3 : Value} (hS : okS S) (h : repM S σ) (hz : z < 3) : ∃ v2' v3', am_go CX10_reckons 2 [.ref 160, .int (nI z), v2, v3] [] σ = am_go CX10_reckons 2 [.ref 160, .int (nI (z + 1)), v2', v3'] [] (setM σ 176 z (at3 (behH S) z)) := by
  obtain ⟨m, hm, em⟩ := massIn_in hS z
  have ew : (10 : Int32) + nI m = nI (10 + m) := nI_add 10 m
  rw [behH_at S hz]
  have cm : ∀ a b c : Int32, a + b - c = a - c + b := fun a b c => by
    rw [Int32.sub_eq_add_neg, Int32.sub_eq_add_neg, Int32.add_assoc, Int32.add_comm b, ← Int32.add_assoc]
  rw [blX10_reckons_2, if_neg (show ¬ (3 : Int32) ≤ nI z from nI_ge (b := 3) hz (by decide)), oc m9, rf160_0, xi hz sh161, oc m9, rf160_1, xi hz sh162, t_mgives, rI, oc m9, m_massIn hS h, rI, em, nz (show ¬ (10 : Int32) + nI m = 0 by rw [ew]; exact nI_ne0 (by omega) (by omega)), nz (by decide), cl z (by omega), h.1 z hz, h.2.1 z hz, oc m9, blX10_reckons_67, blX10_reckons_67]
  match z, hz with
  | 0, _ =>
    rw [if_pos (by decide), if_neg (by decide), oc m9, rf160_0, show (nI 0 + 1 : Int32) = nI 1 from rfl, xi (by decide) sh161, nz (by decide), oc m9, rf160_19, xi (by decide) sh176, cl 1 (by decide), cl 0 (by decide), h.1 1 (by decide), cm]
    exact ⟨_, _, rfl⟩
  | 1, _ =>
    rw [if_neg (by decide), if_neg (by decide), show (nI 1 - 1 : Int32) = nI 0 from rfl, oc m9, rf160_0, xi (by decide) sh161, nz (by decide), show (nI 1 + 1 : Int32) = nI 2 from rfl, xi (by decide) sh161, oc m9, rf160_19, xi (by decide) sh176, cl 0 (by decide), cl 1 (by decide), cl 2 (by decide), h.1 0 (by decide), h.1 2 (by decide), cm]
    exact ⟨_, _, rfl⟩
  | 2, _ =>
    rw [if_neg (by decide), if_pos (by decide), show (nI 2 - 1 : Int32) = nI 1 from rfl, xi (by decide) sh161, nz (by decide), oc m9, rf160_19, xi (by decide) sh176, show (nI 2 + 1 : Int32) = nI 3 from rfl, cl 1 (by decide), cl 2 (by decide), h.1 1 (by decide), cm]
    exact ⟨_, _, rfl⟩
theorem m_reckons {S : KS} {σ : Mem} (hS : okS S) (h : repM S σ) : ∃ σ', FX10_reckons [.ref 160] σ = some (none, σ') ∧ (∀ z, z < 3 → σ' 176 z = at3 (behH S) z) ∧ ∀ a, a ≠ 176 → σ' a = σ a := by
  rw [enX10_reckons, show (0 : Int32) = nI 0 from rfl]
  obtain ⟨u1, u2, e1⟩ := m_rk (z := 0) (v2 := .null) (v3 := .null) hS h (by decide)
  rw [e1]
  obtain ⟨u3, u4, e2⟩ := m_rk (z := 1) (v2 := u1) (v3 := u2) hS h.set176 (by decide)
  rw [e2]
  obtain ⟨u5, u6, e3⟩ := m_rk (z := 2) (v2 := u3) (v3 := u4) hS h.set176.set176 (by decide)
  rw [e3, blX10_reckons_2, if_pos (by decide)]
  refine ⟨_, rfl, fun z hz => ?_, fun a ha => ?_⟩
  · match z, hz with
    | 0, _ => simp [sM]
    | 1, _ => simp [sM]
    | 2, _ => simp [sM]
  · rw [sM_a ha, sM_a ha, sM_a ha]
