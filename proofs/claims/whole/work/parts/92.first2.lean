/-! the first state is one that both hold -/
theorem run_ex : ∃ h1 h2 : AMem, FX9_init 160 [.ref 0] h0A = some (none, h1) ∧ h1.2.2 = 160 ∧ FX10_init 185 [.ref 160] (h1A h1) = some (none, h2) ∧ chkA h2 = true := by
  have h := run_ok
  cases hr : runA with
  | none => rw [hr] at h; cases h
  | some h2 =>
    rw [hr] at h
    unfold runA at hr
    split at hr
    · next h1 e1 =>
      cases hb : Nat.beq h1.2.2 160 with
      | false => rw [hb] at hr; cases hr
      | true =>
        rw [hb] at hr
        simp only [cond_true] at hr
        split at hr
        · next h2' e2 =>
          cases hr
          exact ⟨h1, h2, e1, Nat.eq_of_beq_eq_true hb, e2, h⟩
        · cases hr
    · cases hr
theorem chk_of {h : AMem} (c : chkA h = true) : h.2.2 = NC ∧ (∀ a, a < NC → ∀ j, j < (sh a).2 → needR a j = true → h.2.1 a j = true) ∧ ∀ q ∈ iniL, h.1 q.1 q.2.1 = q.2.2 := by
  unfold chkA at c
  rw [Bool.and_eq_true, Bool.and_eq_true] at c
  obtain ⟨⟨c1, c2⟩, c3⟩ := c
  refine ⟨Nat.eq_of_beq_eq_true c1, fun a ha j hj hn => ?_, fun q hq => ?_⟩
  · have h1 := List.all_eq_true.mp c2 a (List.mem_range.mpr ha)
    have h2 := List.all_eq_true.mp h1 j (List.mem_range.mpr hj)
    rw [hn] at h2
    exact h2
  · exact of_decide_eq_true (List.all_eq_true.mp c3 q hq)
theorem vwA_vw {S : am_S} {h : AMem} (hn : h.2.2 = NC) (hm : ∀ a, a < NC → ∀ j, j < (sh a).2 → needR a j = true → h.2.1 a j = true) : vwA S h = vw S h.1 := by
  unfold vwA vw
  rw [hn]
  apply List.map_congr_left
  intro a ha
  have ha := List.mem_range.mp ha
  congr 1
  unfold ceA ce
  by_cases h1 : (sh a).1 < 10
  · rw [if_pos h1, if_pos h1]
    congr 2
    apply List.map_congr_left
    intro j hj
    unfold ceAV ceV
    cases hf : fr (sh a).1 j with
    | false => rfl
    | true =>
      have hnd : needR a j = true := by
        unfold needR
        rw [show Nat.blt (sh a).1 10 = true from Nat.ble_eq_true_of_le h1]
        exact hf
      rw [hm a ha j (List.mem_range.mp hj) hnd]
      rfl
  · rw [if_neg h1, if_neg h1]
    by_cases h2 : (sh a).1 < 102
    · rw [if_pos h2, if_pos h2]
    · rw [if_neg h2, if_neg h2]
      have hrf : rfA S h.2.1 a = fun i => some (S.1 + rf a i) := by
        funext i
        unfold rfA
        by_cases hi : i < (sh a).2
        · have hnd : needR a i = true := by
            unfold needR
            cases hb : Nat.blt (sh a).1 10 with
            | true => exact absurd (Nat.le_of_ble_eq_true hb) h1
            | false => exact Nat.ble_eq_true_of_le (by omega)
          rw [hm a ha i hi hnd]
          rfl
        · rw [show Nat.ble (sh a).2 i = true from Nat.ble_eq_true_of_le (by omega), Bool.or_true]
          rfl
      rw [hrf]
def Z0 : ZS := (((20, 20, 20), (0, 0, 0), [], 0, 0), (fun _ => []), [], (fun _ => none), none)
theorem Z0_ok : okZ Z0 := by
  refine ⟨⟨⟨Nat.zero_le _, fun d hd => by cases hd⟩, fun z hz => ⟨0, by decide, ?_⟩⟩, fun c hc => ⟨Nat.zero_le _, fun g hg => by cases hg⟩, ⟨Nat.zero_le _, fun b hb => by cases hb⟩, fun r hr s l e => (by cases e), fun S C e => (by cases e)⟩
  match z, hz with
  | 0, _ => rfl
  | 1, _ => rfl
  | 2, _ => rfl
theorem first_rel {σ : Mem} (h : ∀ q ∈ iniL, σ q.1 q.2.1 = q.2.2) : Rel σ := by
  have e : ∀ (a j : Nat) (v : Int32), (a, j, v) ∈ iniL → σ a j = v := fun a j v hq => h (a, j, v) hq
  refine ⟨Z0, Z0_ok, ⟨⟨?_, ?_, ?_, ?_, ?_, ?_, fun i d hd => by cases hd⟩, ?_, ⟨?_, fun i b hb => by cases hb⟩, ?_, ?_⟩, ⟨⟨?_, ?_, ?_, ?_, ?_, fun i d hd => by cases hd⟩, ?_, ⟨?_, fun i b hb => by cases hb⟩, ?_, ?_⟩⟩
  · intro z hz
    match z, hz with
    | 0, _ => exact e 2 0 20 (by decide +kernel)
    | 1, _ => exact e 2 1 20 (by decide +kernel)
    | 2, _ => exact e 2 2 20 (by decide +kernel)
  · intro z hz
    match z, hz with
    | 0, _ => exact e 3 0 0 (by decide +kernel)
    | 1, _ => exact e 3 1 0 (by decide +kernel)
    | 2, _ => exact e 3 2 0 (by decide +kernel)
  · intro z hz
    match z, hz with
    | 0, _ => exact e 4 0 0 (by decide +kernel)
    | 1, _ => exact e 4 1 0 (by decide +kernel)
    | 2, _ => exact e 4 2 0 (by decide +kernel)
  · exact e 1 4 0 (by decide +kernel)
  · exact e 1 5 0 (by decide +kernel)
  · exact e 1 6 0 (by decide +kernel)
  · intro c hc
    refine ⟨?_, fun i g hg => by cases hg⟩
    match c, hc with
    | 0, _ => exact e 128 2 0 (by decide +kernel)
    | 1, _ => exact e 134 2 0 (by decide +kernel)
    | 2, _ => exact e 140 2 0 (by decide +kernel)
    | 3, _ => exact e 146 2 0 (by decide +kernel)
  · exact e 45 1 0 (by decide +kernel)
  · intro c hc
    match c, hc with
    | 0, _ => exact e 152 0 (-1) (by decide +kernel)
    | 1, _ => exact e 154 0 (-1) (by decide +kernel)
    | 2, _ => exact e 156 0 (-1) (by decide +kernel)
    | 3, _ => exact e 158 0 (-1) (by decide +kernel)
  · exact e 0 5 0 (by decide +kernel)
  · intro z hz
    match z, hz with
    | 0, _ => exact e 161 0 20 (by decide +kernel)
    | 1, _ => exact e 161 1 20 (by decide +kernel)
    | 2, _ => exact e 161 2 20 (by decide +kernel)
  · intro z hz
    match z, hz with
    | 0, _ => exact e 162 0 0 (by decide +kernel)
    | 1, _ => exact e 162 1 0 (by decide +kernel)
    | 2, _ => exact e 162 2 0 (by decide +kernel)
  · exact e 160 2 0 (by decide +kernel)
  · exact e 160 8 0 (by decide +kernel)
  · exact e 160 9 0 (by decide +kernel)
  · intro c hc
    refine ⟨?_, fun i g hg => by cases hg⟩
    match c, hc with
    | 0, _ => exact e 168 0 0 (by decide +kernel)
    | 1, _ => exact e 168 1 0 (by decide +kernel)
    | 2, _ => exact e 168 2 0 (by decide +kernel)
    | 3, _ => exact e 168 3 0 (by decide +kernel)
  · exact e 160 14 0 (by decide +kernel)
  · intro c hc
    match c, hc with
    | 0, _ => exact e 172 0 (-1) (by decide +kernel)
    | 1, _ => exact e 172 1 (-1) (by decide +kernel)
    | 2, _ => exact e 172 2 (-1) (by decide +kernel)
    | 3, _ => exact e 172 3 (-1) (by decide +kernel)
  · exact e 160 40 0 (by decide +kernel)
