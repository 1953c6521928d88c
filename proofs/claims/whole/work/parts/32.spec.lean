/-! what the document says, in functions of numbers -/
abbrev H3 : Type := Int32 × Int32 × Int32
abbrev Ld : Type := Int32 × Int32 × Int32 × Int32 × Int32
abbrev KS : Type := H3 × H3 × List Ld × Int32 × Int32
def h3 (f : Nat → Int32) : H3 := (f 0, f 1, f 2)
def at3 (t : H3) (i : Nat) : Int32 := match i with
  | 0 => t.1
  | 1 => t.2.1
  | _ => t.2.2
def mx0 (v : Int32) : Int32 := if 0 < v then v else 0
def giveS (s h : Int32) : Int32 := if s = 1 then mx0 (60 - h / 20) else if s = 2 then mx0 (120 - h / 15) else if s = 3 then mx0 (200 - h / 10) else 0
def burnS (s : Int32) : Int32 := if s = 1 then 1 else if s = 2 then 3 else if s = 3 then 6 else 0
def riseS (k z h : Int32) : Int32 := if k = 1 then 120 - 8 * z else if k = 3 ∨ k = 5 then (if h < 600 then 120 - 8 * z else 120 - 8 * z - 30) else if k = 4 then (if 200 ≤ h then 120 else 40) else 120
def fallS (k : Int32) : Int32 := if k = 2 ∨ k = 4 then 40 else if k = 3 then 60 else 80
def topS (k : Int32) : Int32 := if k = 2 ∨ k = 4 then 900 else if k = 3 ∨ k = 5 then 1000 else 800
def needS (k z : Int32) : Int32 := if k = 2 then 2 + z / 2 else if k = 4 then 1 + z / 2 else 2
def meltsS (k : Int32) : Int32 := if k = 5 then 1500 else topS k + 300
def massS (k z : Int32) : Int32 := if k = 0 then z else if k = 2 ∨ k = 4 then 2 * z else z / 2
def okL (d : Ld) : Prop := (d.1 = 0 ∨ d.1 = 1 ∨ d.1 = 2 ∨ d.1 = 3 ∨ d.1 = 4 ∨ d.1 = 5) ∧ (∃ j : Nat, 1 ≤ j ∧ j ≤ 9 ∧ d.2.1 = nI j) ∧ (∃ j : Nat, j < 3 ∧ d.2.2.1 = nI j) ∧ (d.2.2.2.2 = 0 ∨ d.2.2.2.2 = 1 ∨ d.2.2.2.2 = 2 ∨ d.2.2.2.2 = 3)
def spS (d : Ld) : Bool := decide (d.2.2.2.2 = 2) || decide (d.2.2.2.2 = 3)
def harmS (d : Ld) (h t : Int32) : Int32 := if riseS d.1 d.2.1 h < t - h then 2 else if h - t ≤ fallS d.1 then (if t ≤ meltsS d.1 then 0 else 3) else 2
def soakS (d : Ld) : Int32 := if d.2.2.2.1 + 1 < 99 then d.2.2.2.1 + 1 else 99
/-- a load behind a step from h to t; and whether it became spoiled by it -/
def underS (d : Ld) (h t : Int32) : Ld × Bool := bif spS d then (d, false) else
  if harmS d h t = 0 then (if t < topS d.1 then (d, false) else if soakS d < needS d.1 d.2.1 then ((d.1, d.2.1, d.2.2.1, soakS d, d.2.2.2.2), false) else ((d.1, d.2.1, d.2.2.1, soakS d, 1), false))
  else ((d.1, d.2.1, d.2.2.1, d.2.2.2.1, harmS d h t), true)
def repL (f : Nat → Int32) (d : Ld) : Prop := f 0 = d.1 ∧ f 1 = d.2.1 ∧ f 2 = d.2.2.1 ∧ f 3 = d.2.2.2.1 ∧ f 4 = d.2.2.2.2 ∧ f 5 = fallS d.1 ∧ f 6 = topS d.1 ∧ f 7 = needS d.1 d.2.1 ∧ f 8 = meltsS d.1 ∧ f 9 = massS d.1 d.2.1
/-! the class's loads -/
theorem t_given (s h : Int32) (σ : Mem) : FX0_given [.int s, .int h] σ = some (some (.int (giveS s h)), σ) := by
  rw [enX0_given, nz (by decide), nz (by decide), nz (by decide)]
  unfold giveS mx0
  split
  · rfl
  · split
    · rfl
    · split <;> rfl
theorem t_mgives (s h : Int32) (σ : Mem) : FX10_givesAt [.int s, .int h] σ = some (some (.int (giveS s h)), σ) := by
  rw [enX10_givesAt, nz (by decide), nz (by decide), nz (by decide)]
  unfold giveS mx0
  split
  · rfl
  · split
    · rfl
    · split <;> rfl
theorem t_burnt (s : Int32) (σ : Mem) : FX0_burnt [.int s] σ = some (some (.int (burnS s)), σ) := by
  rw [enX0_burnt]
  unfold burnS
  split
  · rfl
  · split
    · rfl
    · split <;> rfl
theorem t_mburns {s : Int32} (h : s = 0 ∨ s = 1 ∨ s = 2 ∨ s = 3) (σ : Mem) : FX10_burns [.int s] σ = some (some (.int (burnS s)), σ) := by
  rw [enX10_burns]
  rcases h with rfl | rfl | rfl | rfl <;> rfl
theorem t_rise {a : Nat} {σ : Mem} {d : Ld} (hs : (sh a).1 = 3) (hr : repL (σ a) d) (h : Int32) : FX4_riseFrom [.ref a, .int h] σ = some (some (.int (riseS d.1 d.2.1 h)), σ) := by
  rw [enX4_riseFrom, oc hs, oc hs, hr.1, hr.2.1]
  unfold riseS
  by_cases h1 : d.1 = 1
  · simp [h1]
  · by_cases h2 : d.1 = 2
    · simp [h2]
    · by_cases h3 : d.1 = 3
      · simp [h3]; split <;> rfl
      · by_cases h4 : d.1 = 4
        · simp [h4]; split <;> rfl
        · by_cases h5 : d.1 = 5
          · simp [h5]; split <;> rfl
          · simp [h1, h2, h3, h4, h5]
theorem t_harm {a : Nat} {σ : Mem} {d : Ld} (hs : (sh a).1 = 3) (hr : repL (σ a) d) (h t : Int32) : FX4_harm [.ref a, .int h, .int t] σ = some (some (.int (harmS d h t)), σ) := by
  rw [enX4_harm, oc hs, t_rise hs hr, rI, oc hs, oc hs, hr.2.2.2.2.2.1, hr.2.2.2.2.2.2.2.2.1]
  unfold harmS
  split
  · rfl
  · split
    · split <;> rfl
    · rfl
theorem t_spoiled {a : Nat} {σ : Mem} {d : Ld} (hs : (sh a).1 = 3) (hr : repL (σ a) d) : FX4_isSpoiled [.ref a] σ = some (some (.int (if spS d = true then 1 else 0)), σ) := by
  rw [enX4_isSpoiled, oc hs, oc hs, hr.2.2.2.2.1, zr0, zr1]
  unfold spS
  by_cases h1 : d.2.2.2.2 = 2
  · simp [h1]
  · by_cases h2 : d.2.2.2.2 = 3
    · simp [h2]
    · simp [h1, h2]
theorem t_under {a : Nat} {σ : Mem} {d : Ld} (hs : (sh a).1 = 3) (hr : repL (σ a) d) (h t : Int32) : ∃ σ', FX4_undergo [.ref a, .int h, .int t] σ = some (some (.int (if (underS d h t).2 = true then 1 else 0)), σ') ∧ repL (σ' a) (underS d h t).1 ∧ ∀ b, b ≠ a → σ' b = σ b := by
  rw [enX4_undergo, oc hs, t_spoiled hs hr, rI, ifb]
  obtain ⟨r0, r1, r2, r3, r4, r5, r6, r7, r8, r9⟩ := hr
  have hr : repL (σ a) d := ⟨r0, r1, r2, r3, r4, r5, r6, r7, r8, r9⟩
  cases hsp : spS d with
  | true =>
    have e : underS d h t = (d, false) := by unfold underS; rw [hsp]; rfl
    rw [e]
    exact ⟨σ, rfl, hr, fun _ _ => rfl⟩
  | false =>
    rw [if_neg (by decide), oc hs, t_harm hs hr, rI]
    by_cases hh : harmS d h t = 0
    · rw [if_pos hh, oc hs, r6]
      by_cases ht : t < topS d.1
      · have e : underS d h t = (d, false) := by unfold underS; rw [hsp, hh]; simp [ht]
        rw [e, if_pos ht]
        exact ⟨σ, rfl, hr, fun _ _ => rfl⟩
      · rw [if_neg ht, oc hs, oc hs, oc hs, oc hs, sM_eq, sM_i (by decide), r3, r7]
        by_cases hn : soakS d < needS d.1 d.2.1
        · have e : underS d h t = ((d.1, d.2.1, d.2.2.1, soakS d, d.2.2.2.2), false) := by unfold underS; rw [hsp, hh]; simp [ht, hn]
          rw [e, if_pos (show (if d.2.2.2.1 + 1 < 99 then d.2.2.2.1 + 1 else 99) < _ from hn)]
          refine ⟨_, rfl, ?_, fun b hb => sM_a hb⟩
          simp only [repL, sM, true_and]
          simp [r0, r1, r2, r3, r4, r5, r6, r7, r8, r9, soakS]
        · have e : underS d h t = ((d.1, d.2.1, d.2.2.1, soakS d, 1), false) := by unfold underS; rw [hsp, hh]; simp [ht, hn]
          rw [e, if_neg (show ¬ (if d.2.2.2.1 + 1 < 99 then d.2.2.2.1 + 1 else 99) < _ from hn), oc hs]
          refine ⟨_, rfl, ?_, fun b hb => by rw [sM_a hb, sM_a hb]⟩
          simp only [repL, sM, true_and]
          simp [r0, r1, r2, r3, r4, r5, r6, r7, r8, r9, soakS]
    · have e : underS d h t = ((d.1, d.2.1, d.2.2.1, d.2.2.2.1, harmS d h t), true) := by unfold underS; rw [hsp]; simp [hh]
      rw [e, if_neg hh, oc hs]
      refine ⟨_, rfl, ?_, fun b hb => sM_a hb⟩
      simp only [repL, sM, true_and]
      simp [r0, r1, r2, r3, r4, r5, r6, r7, r8, r9]
