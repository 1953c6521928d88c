/-! the class's kiln: become, bring, bits, codes -/
theorem t_lbecome {a b : Nat} {σ : Mem} {d : Ld} (ha : (sh a).1 = 3) (hb : (sh b).1 = 3) (hab : a ≠ b) (hr : repL (σ b) d) : ∃ σ', FX4_become [.ref a, .ref b] σ = some (none, σ') ∧ repL (σ' a) d ∧ ∀ c, c ≠ a → σ' c = σ c := by
  have hba : b ≠ a := Ne.symm hab
  rw [enX4_become, oc hb, oc ha, oc hb, oc ha, blX4_become_16, oc hb, oc ha, oc hb, oc ha, blX4_become_32, oc hb, oc ha, oc hb, oc ha, blX4_become_48, oc hb, oc ha, oc hb, oc ha, blX4_become_64, oc hb, oc ha, oc hb, oc ha]
  simp only [sM_a hba]
  obtain ⟨r0, r1, r2, r3, r4, r5, r6, r7, r8, r9⟩ := hr
  refine ⟨_, rfl, ?_, fun c hc => by simp only [sM_a hc]⟩
  simp [repL, sM, r0, r1, r2, r3, r4, r5, r6, r7, r8, r9]
theorem kn_dis : ∀ k, k < NC → (sh k).1 = 2 → ∀ k', k' < NC → (sh k').1 = 2 → k ≠ k' → k + 14 ≤ k' ∨ k' + 14 ≤ k := by
  have h : ((List.range NC).filter (fun k => decide ((sh k).1 = 2))) = [1, 15, 29, 57, 71, 85, 99, 113] := by decide +kernel
  intro k hk h1 k' hk' h1' hne
  have m1 : k ∈ ((List.range NC).filter (fun k => decide ((sh k).1 = 2))) := List.mem_filter.mpr ⟨List.mem_range.mpr hk, by simp [h1]⟩
  have m2 : k' ∈ ((List.range NC).filter (fun k => decide ((sh k).1 = 2))) := List.mem_filter.mpr ⟨List.mem_range.mpr hk', by simp [h1']⟩
  rw [h] at m1 m2
  simp only [List.mem_cons, List.mem_nil_iff, or_false] at m1 m2
  omega
theorem t_bc1 {a b z : Nat} {σ : Mem} (ha : (sh a).1 = 2) (hb : (sh b).1 = 2) (hd : a + 14 ≤ b ∨ b + 14 ≤ a) (hz : z < 3) : am_go CX3_become 2 [.ref a, .ref b, .int (nI z)] [] σ = am_go CX3_become 2 [.ref a, .ref b, .int (nI (z + 1))] [] (setM (setM (setM σ (a + 1) z (σ (b + 1) z)) (a + 2) z (σ (b + 2) z)) (a + 3) z (σ (b + 3) z)) := by
  rw [blX3_become_2, if_neg (show ¬ (3 : Int32) ≤ nI z from nI_ge (b := 3) hz (by decide)), oc ha, oc hb, kr0 ha, kr0 hb, x3 (ks1 hb) hz, x3 (ks1 ha) hz, oc ha, oc hb, kr1 ha, kr1 hb, x3 (ks2 hb) hz, x3 (ks2 ha) hz, oc ha, oc hb, kr2 ha, kr2 hb, x3 (ks3 hb) hz, x3 (ks3 ha) hz, cl z (by omega), nI_1, sM_a (b := b + 2) (by omega), sM_a (b := b + 3) (by omega), sM_a (b := b + 3) (by omega)]
theorem t_bc2 {a b : Nat} (ha : (sh a).1 = 2) (hb : (sh b).1 = 2) (hd : a + 14 ≤ b ∨ b + 14 ≤ a) : ∀ (L2 L1 : List Ld) (σ : Mem), (L1 ++ L2).length ≤ 8 → σ b 4 = nI (L1 ++ L2).length → (∀ i d, (L1 ++ L2)[i]? = some d → repL (σ (b + 6 + i)) d) → (∀ i d, L1[i]? = some d → repL (σ (a + 6 + i)) d) →
    ∃ σ', am_go CX3_become 51 [.ref a, .ref b, .int (nI L1.length)] [] σ = some (none, setM (setM (setM σ' a 4 (σ b 4)) a 5 (σ b 5)) a 6 (σ b 6)) ∧ (∀ i d, (L1 ++ L2)[i]? = some d → repL (σ' (a + 6 + i)) d) ∧ ∀ c, (c < a + 6 ∨ a + 14 ≤ c) → σ' c = σ c := by
  intro L2
  induction L2 with
  | nil =>
    intro L1 σ h8 hc hr h1
    rw [List.append_nil] at hc hr ⊢
    rw [blX3_become_51, oc hb, hc, if_pos (Int32.le_refl _), oc hb, oc ha, oc hb, oc ha, oc hb, oc ha, sM_a (b := b) (by omega), sM_a (b := b) (by omega), sM_a (b := b) (by omega), ← hc]
    exact ⟨σ, rfl, h1, fun _ _ => rfl⟩
  | cons d L2 ih =>
    intro L1 σ h8 hc hr h1
    have hlen : (L1 ++ d :: L2).length = L1.length + L2.length + 1 := by simp; omega
    have hi : L1.length < 8 := by omega
    have hdd := hr L1.length d (by simp)
    obtain ⟨σ1, e1, r1, f1⟩ := t_lbecome (σ := σ) (kls ha hi) (kls hb hi) (by omega) hdd
    rw [blX3_become_51, oc hb, hc, if_neg (nI_ge (by omega) (by omega)), oc ha, kr3 ha, x8 (ks4 ha) hi, oc hb, kr3 hb, x8 (ks4 hb) hi, cl _ (by omega), klr ha hi, klr hb hi, oc (kls ha hi), e1, rV, nI_1]
    have hl1 : (L1 ++ [d]).length = L1.length + 1 := by simp
    have hap : L1 ++ [d] ++ L2 = L1 ++ d :: L2 := by simp
    obtain ⟨σ2, e2, r2, f2⟩ := ih (L1 ++ [d]) σ1 (by rw [hap]; exact h8) (by rw [f1 b (by omega), hap]; exact hc) (by
      intro i d' hd'
      rw [hap] at hd'
      have := (List.getElem?_eq_some_iff.mp hd').1
      rw [f1 _ (by omega)]
      exact hr i d' hd') (by
      intro i d' hd'
      by_cases hil : i = L1.length
      · subst hil
        have : d' = d := by simpa using hd'.symm
        rw [this]
        exact r1
      · rw [f1 _ (by omega)]
        have := (List.getElem?_eq_some_iff.mp hd').1
        rw [List.getElem?_append_left (by simp at this; omega)] at hd'
        exact h1 i d' hd')
    rw [hl1, f1 b (by omega)] at e2
    rw [hap] at r2
    rw [hc] at e2
    exact ⟨σ2, e2, r2, fun c hc => (f2 c hc).trans (f1 c (by omega))⟩
theorem t_become {a b : Nat} {σ : Mem} {S : KS} (ha : (sh a).1 = 2) (hb : (sh b).1 = 2) (hab : a ≠ b) (hS : okS S) (h : repK b S σ) : ∃ σ', FX3_become [.ref a, .ref b] σ = some (none, σ') ∧ repK a S σ' ∧ ∀ c, (c < a ∨ a + 14 ≤ c) → σ' c = σ c := by
  have hd := kn_dis a (k_lt ha) ha b (k_lt hb) hb hab
  obtain ⟨h1, h2, h3, h4, h5, h6, h7⟩ := h
  rw [enX3_become, show (0 : Int32) = nI 0 from rfl, t_bc1 ha hb hd (by decide), t_bc1 ha hb hd (by decide), t_bc1 ha hb hd (by decide), blX3_become_2, if_pos (by decide)]
  generalize hσ1 : setM (setM (setM _ _ _ _) _ _ _) (a + 3) 2 _ = σ1
  have pa : ∀ c, c ≠ a + 1 → c ≠ a + 2 → c ≠ a + 3 → σ1 c = σ c := by
    intro c c1 c2 c3
    rw [← hσ1]
    simp [setM, c1, c2, c3]
  have p1 : ∀ z, z < 3 → σ1 (a + 1) z = at3 S.1 z := by
    intro z hz
    rw [← h1 z hz, ← hσ1]
    match z, hz with
    | 0, _ => simp [sM]
    | 1, _ => simp [sM]
    | 2, _ => simp [sM]
  have p2 : ∀ z, z < 3 → σ1 (a + 2) z = at3 S.2.1 z := by
    intro z hz
    rw [← h2 z hz, ← hσ1]
    match z, hz with
    | 0, _ => simp [sM]
    | 1, _ => simp [sM]
    | 2, _ => simp [sM]
  have p3 : ∀ z, z < 3 → σ1 (a + 3) z = massIn z S.2.2.1 := by
    intro z hz
    rw [← h3 z hz, ← hσ1]
    match z, hz with
    | 0, _ => simp [sM]
    | 1, _ => simp [sM]
    | 2, _ => simp [sM]
  obtain ⟨σ2, e2, r2, f2⟩ := t_bc2 ha hb hd S.2.2.1 [] σ1 hS.1 (by rw [pa b (by omega) (by omega) (by omega), h4]; rfl) (by
    intro i d hd'
    have := (List.getElem?_eq_some_iff.mp hd').1
    have h8 := hS.1
    rw [List.nil_append] at this
    rw [pa _ (by omega) (by omega) (by omega)]
    exact h7 i d hd') (fun i d hd' => by cases hd')
  rw [show am_go CX3_become 51 [.ref a, .ref b, .int 0] [] σ1 = _ from e2, pa b (by omega) (by omega) (by omega)]
  refine ⟨_, rfl, ⟨?_, ?_, ?_, ?_, ?_, ?_, ?_⟩, ?_⟩
  · intro z hz
    rw [sM_a (by omega), sM_a (by omega), sM_a (by omega), f2 _ (by omega)]
    exact p1 z hz
  · intro z hz
    rw [sM_a (by omega), sM_a (by omega), sM_a (by omega), f2 _ (by omega)]
    exact p2 z hz
  · intro z hz
    rw [sM_a (by omega), sM_a (by omega), sM_a (by omega), f2 _ (by omega)]
    exact p3 z hz
  · rw [sM_i (by decide), sM_i (by decide), sM_eq]
    exact h4
  · rw [sM_i (by decide), sM_eq]
    exact h5
  · rw [sM_eq]
    exact h6
  · intro i d hd'
    rw [sM_a (by omega), sM_a (by omega), sM_a (by omega)]
    exact r2 i d hd'
  · intro c hc
    rw [sM_a (by omega), sM_a (by omega), sM_a (by omega), f2 _ (by omega), pa _ (by omega) (by omega) (by omega)]
/-! bits of loads -/
def bitS (p : Ld → Bool) : List Ld → Nat → Int32 → Int32
  | [], _, b => b
  | d :: L, i, b => bitS p L (i + 1) (if p d = true then b ||| ((1 : Int32) <<< (nI i &&& 31)) else b)
def doneS (S : KS) : Int32 := bitS (fun d => decide (d.2.2.2.2 = 1)) S.2.2.1 0 0
def spdS (S : KS) : Int32 := bitS spS S.2.2.1 0 0
theorem t_bd {k : Nat} {σ : Mem} (hk : (sh k).1 = 2) : ∀ (L2 L1 : List Ld) (b : Int32), (L1 ++ L2).length ≤ 8 → σ k 4 = nI (L1 ++ L2).length → (∀ i d, (L1 ++ L2)[i]? = some d → repL (σ (k + 6 + i)) d) → am_go CX3_bitsOfDone 4 [.ref k, .int b, .int (nI L1.length)] [] σ = some (some (.int (bitS (fun d => decide (d.2.2.2.2 = 1)) L2 L1.length b)), σ) := by
  intro L2
  induction L2 with
  | nil =>
    intro L1 b h8 hc hr
    rw [List.append_nil] at hc
    rw [blX3_bitsOfDone_4, oc hk, hc, if_pos (Int32.le_refl _)]
    rfl
  | cons d L2 ih =>
    intro L1 b h8 hc hr
    have hlen : (L1 ++ d :: L2).length = L1.length + L2.length + 1 := by simp; omega
    have hi : L1.length < 8 := by omega
    have hd := hr L1.length d (by simp)
    have hl1 : (L1 ++ [d]).length = L1.length + 1 := by simp
    have hap : L1 ++ [d] ++ L2 = L1 ++ d :: L2 := by simp
    have ih' := fun b' => ih (L1 ++ [d]) b' (by rw [hap]; exact h8) (by rw [hap]; exact hc) (by rw [hap]; exact hr)
    rw [hl1] at ih'
    rw [blX3_bitsOfDone_4, oc hk, hc, if_neg (nI_ge (by omega) (by omega)), oc hk, kr3 hk, x8 (ks4 hk) hi, cl _ (by omega), klr hk hi, oc (kls hk hi), hd.2.2.2.2.1, nI_1, ih', ih']
    rw [bitS]
    by_cases h1 : d.2.2.2.2 = 1 <;> simp [h1]
theorem t_bs {k : Nat} {σ : Mem} (hk : (sh k).1 = 2) : ∀ (L2 L1 : List Ld) (b : Int32), (L1 ++ L2).length ≤ 8 → σ k 4 = nI (L1 ++ L2).length → (∀ i d, (L1 ++ L2)[i]? = some d → repL (σ (k + 6 + i)) d) → am_go CX3_bitsOfSpoiled 4 [.ref k, .int b, .int (nI L1.length)] [] σ = some (some (.int (bitS spS L2 L1.length b)), σ) := by
  intro L2
  induction L2 with
  | nil =>
    intro L1 b h8 hc hr
    rw [List.append_nil] at hc
    rw [blX3_bitsOfSpoiled_4, oc hk, hc, if_pos (Int32.le_refl _)]
    rfl
  | cons d L2 ih =>
    intro L1 b h8 hc hr
    have hlen : (L1 ++ d :: L2).length = L1.length + L2.length + 1 := by simp; omega
    have hi : L1.length < 8 := by omega
    have hd := hr L1.length d (by simp)
    have hl1 : (L1 ++ [d]).length = L1.length + 1 := by simp
    have hap : L1 ++ [d] ++ L2 = L1 ++ d :: L2 := by simp
    have ih' := fun b' => ih (L1 ++ [d]) b' (by rw [hap]; exact h8) (by rw [hap]; exact hc) (by rw [hap]; exact hr)
    rw [hl1] at ih'
    rw [blX3_bitsOfSpoiled_4, oc hk, hc, if_neg (nI_ge (by omega) (by omega)), oc hk, kr3 hk, x8 (ks4 hk) hi, cl _ (by omega), klr hk hi, oc (kls hk hi), t_spoiled (kls hk hi) hd, rI, ifb, nI_1, ih', ih']
    rw [bitS]
    by_cases h1 : spS d = true <;> simp [h1]
theorem t_bz {k : Nat} {σ : Mem} {x : Int32} (hk : (sh k).1 = 2) : ∀ (L2 L1 : List Ld) (b : Int32), (L1 ++ L2).length ≤ 8 → σ k 4 = nI (L1 ++ L2).length → (∀ i d, (L1 ++ L2)[i]? = some d → repL (σ (k + 6 + i)) d) → am_go CX3_bitsInZone 4 [.ref k, .int x, .int b, .int (nI L1.length)] [] σ = some (some (.int (bitS (fun d => decide (d.2.2.1 = x)) L2 L1.length b)), σ) := by
  intro L2
  induction L2 with
  | nil =>
    intro L1 b h8 hc hr
    rw [List.append_nil] at hc
    rw [blX3_bitsInZone_4, oc hk, hc, if_pos (Int32.le_refl _)]
    rfl
  | cons d L2 ih =>
    intro L1 b h8 hc hr
    have hlen : (L1 ++ d :: L2).length = L1.length + L2.length + 1 := by simp; omega
    have hi : L1.length < 8 := by omega
    have hd := hr L1.length d (by simp)
    have hl1 : (L1 ++ [d]).length = L1.length + 1 := by simp
    have hap : L1 ++ [d] ++ L2 = L1 ++ d :: L2 := by simp
    have ih' := fun b' => ih (L1 ++ [d]) b' (by rw [hap]; exact h8) (by rw [hap]; exact hc) (by rw [hap]; exact hr)
    rw [hl1] at ih'
    rw [blX3_bitsInZone_4, oc hk, hc, if_neg (nI_ge (by omega) (by omega)), oc hk, kr3 hk, x8 (ks4 hk) hi, cl _ (by omega), klr hk hi, oc (kls hk hi), hd.2.2.1, nI_1, ih', ih']
    rw [bitS]
    by_cases h1 : d.2.2.1 = x <;> simp [h1]
theorem t_done {k : Nat} {σ : Mem} {S : KS} (hk : (sh k).1 = 2) (hS : okS S) (h : repK k S σ) : FX3_bitsOfDone [.ref k] σ = some (some (.int (doneS S)), σ) := by
  rw [enX3_bitsOfDone]
  exact t_bd hk S.2.2.1 [] 0 hS.1 h.2.2.2.1 h.2.2.2.2.2.2
theorem t_spd {k : Nat} {σ : Mem} {S : KS} (hk : (sh k).1 = 2) (hS : okS S) (h : repK k S σ) : FX3_bitsOfSpoiled [.ref k] σ = some (some (.int (spdS S)), σ) := by
  rw [enX3_bitsOfSpoiled]
  exact t_bs hk S.2.2.1 [] 0 hS.1 h.2.2.2.1 h.2.2.2.2.2.2
theorem t_inz {k : Nat} {σ : Mem} {S : KS} {x : Int32} (hk : (sh k).1 = 2) (hS : okS S) (h : repK k S σ) : FX3_bitsInZone [.ref k, .int x] σ = some (some (.int (bitS (fun d => decide (d.2.2.1 = x)) S.2.2.1 0 0)), σ) := by
  rw [enX3_bitsInZone]
  exact t_bz hk S.2.2.1 [] 0 hS.1 h.2.2.2.1 h.2.2.2.2.2.2
theorem t_alldone {k : Nat} {σ : Mem} {S : KS} (hk : (sh k).1 = 2) (hS : okS S) (h : repK k S σ) : FX3_isAllDone [.ref k] σ = some (some (.int (if doneS S = ((1 : Int32) <<< (nI S.2.2.1.length &&& 31)) - 1 then 1 else 0)), σ) := by
  rw [enX3_isAllDone, oc hk, t_done hk hS h, rI, oc hk, h.2.2.2.1, zr0, zr1]
  split <;> rfl
