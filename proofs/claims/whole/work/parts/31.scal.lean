/-! the small questions -/
theorem bi0 {p : Prop} [Decidable p] : ((if p then (1 : Int32) else 0) = 0) = ¬ p := by by_cases h : p <;> simp [h]
theorem ifb {p : Prop} [Decidable p] {α : Type} {A B : α} : (if (if p then (1 : Int32) else 0) = 0 then A else B) = if p then B else A := by by_cases h : p <;> simp [h]
theorem wi_if {v a b : Int32} {α : Type} (x y : α) : (if v < a then y else if b < v then y else x) = if a ≤ v ∧ v ≤ b then x else y := by
  by_cases h1 : v < a
  · rw [if_pos h1, if_neg (fun z => absurd z.1 (Int32.not_le.mpr h1))]
  · rw [if_neg h1]
    by_cases h2 : b < v
    · rw [if_pos h2, if_neg (fun z => absurd z.2 (Int32.not_le.mpr h2))]
    · rw [if_neg h2, if_pos ⟨Int32.not_lt.mp h1, Int32.not_lt.mp h2⟩]
theorem some_if {α β : Type} {p : Prop} [Decidable p] (x y : α) (f : α → β) : (if p then f x else f y) = f (if p then x else y) := by split <;> rfl
theorem t_isWithin (v a b : Int32) (σ : Mem) : FX9_isWithin [.int v, .int a, .int b] σ = some (some (.int (if a ≤ v ∧ v ≤ b then 1 else 0)), σ) := by
  rw [enX9_isWithin, zr0, zr1, wi_if]
  split <;> rfl
theorem t_isIn (v a b : Int32) (σ : Mem) : FX10_isIn [.int v, .int a, .int b] σ = some (some (.int (if a ≤ v ∧ v ≤ b then 1 else 0)), σ) := by
  rw [enX10_isIn, zr0, zr1, wi_if]
  split <;> rfl
theorem t_isZone (v : Int32) (σ : Mem) : FX9_isZone [.int v] σ = some (some (.int (if 0 ≤ v ∧ v ≤ 2 then 1 else 0)), σ) := by rw [enX9_isZone, t_isWithin, rI, zrb]
theorem t_isHeat (v : Int32) (σ : Mem) : FX9_isHeat [.int v] σ = some (some (.int (if 0 ≤ v ∧ v ≤ 1300 then 1 else 0)), σ) := by rw [enX9_isHeat, t_isWithin, rI, zrb]
theorem t_isSetting (v : Int32) (σ : Mem) : FX9_isSetting [.int v] σ = some (some (.int (if 0 ≤ v ∧ v ≤ 3 then 1 else 0)), σ) := by rw [enX9_isSetting, t_isWithin, rI, zrb]
theorem t_isKind (v : Int32) (σ : Mem) : FX9_isKind [.int v] σ = some (some (.int (if 0 ≤ v ∧ v ≤ 5 then 1 else 0)), σ) := by rw [enX9_isKind, t_isWithin, rI, zrb]
theorem t_isCourse (v : Int32) (σ : Mem) : FX9_isCourse [.int v] σ = some (some (.int (if 0 ≤ v ∧ v ≤ 3 then 1 else 0)), σ) := by rw [enX9_isCourse, t_isWithin, rI, zrb]
theorem t_isSheet (v : Int32) (σ : Mem) : FX9_isSheet [.int v] σ = some (some (.int (if 0 ≤ v ∧ v ≤ 3 then 1 else 0)), σ) := by rw [enX9_isSheet, t_isWithin, rI, zrb]
theorem t_isSort (v : Int32) (σ : Mem) : FX9_isSort [.int v] σ = some (some (.int (if v = 0 ∨ v = 1 then 1 else 0)), σ) := by
  rw [enX9_isSort, zr0, zr1]
  by_cases h1 : v = 0
  · subst h1; rfl
  · by_cases h2 : v = 1
    · subst h2; rfl
    · simp [h1, h2]
theorem t_isPlan (k n : Int32) (σ : Mem) : FX9_isPlan [.int k, .int n] σ = some (some (.int (if (1 ≤ k ∧ k ≤ 4) ∧ (1 ≤ n ∧ n ≤ 6) then 1 else 0)), σ) := by
  rw [enX9_isPlan, t_isWithin, rI, ifb]
  by_cases h1 : 1 ≤ k ∧ k ≤ 4
  · rw [if_pos h1, t_isWithin, rI, ifb]
    by_cases h2 : 1 ≤ n ∧ n ≤ 6
    · rw [if_pos h2, zr1, if_pos ⟨h1, h2⟩]
    · rw [if_neg h2, zr0, if_neg (fun z => h2 z.2)]
  · rw [if_neg h1, zr0, if_neg (fun z => h1 z.1)]
theorem t_mZone (v : Int32) (σ : Mem) : FX10_isZone [.int v] σ = some (some (.int (if 0 ≤ v ∧ v ≤ 2 then 1 else 0)), σ) := by rw [enX10_isZone, t_isIn, rI, zrb]
theorem t_mHeat (v : Int32) (σ : Mem) : FX10_isHeat [.int v] σ = some (some (.int (if 0 ≤ v ∧ v ≤ 1300 then 1 else 0)), σ) := by rw [enX10_isHeat, t_isIn, rI, zrb]
theorem t_mSetting (v : Int32) (σ : Mem) : FX10_isSetting [.int v] σ = some (some (.int (if 0 ≤ v ∧ v ≤ 3 then 1 else 0)), σ) := by rw [enX10_isSetting, t_isIn, rI, zrb]
theorem t_mCourse (v : Int32) (σ : Mem) : FX10_isCourse [.int v] σ = some (some (.int (if 0 ≤ v ∧ v ≤ 3 then 1 else 0)), σ) := by rw [enX10_isCourse, t_isIn, rI, zrb]
theorem t_mSheet (v : Int32) (σ : Mem) : FX10_isSheet [.int v] σ = some (some (.int (if 0 ≤ v ∧ v ≤ 3 then 1 else 0)), σ) := by rw [enX10_isSheet, t_isIn, rI, zrb]
theorem t_isLoad (v : Int32) (σ : Mem) : FX9_isLoad [.ref 0, .int v] σ = some (some (.int (if 0 ≤ v ∧ v ≤ σ 1 4 - 1 then 1 else 0)), σ) := by
  rw [enX9_isLoad, oc (by rw [sh0]), rf0_0, oc (by rw [sh1]), t_isWithin, rI, zrb]
theorem t_mLoad (v : Int32) (σ : Mem) : FX10_isLoad [.ref 160, .int v] σ = some (some (.int (if 0 ≤ v ∧ v ≤ σ 160 2 - 1 then 1 else 0)), σ) := by
  rw [enX10_isLoad, oc (by rw [sh160]), t_isIn, rI, zrb]
theorem t_byteOf (b : Int64) (i : Int32) (σ : Mem) : FX9_byteOf [.long b, .int i] σ = some (some (.int ((b.toUInt64 >>> (((8 : Int32) * i).toInt64.toUInt64 &&& Int64.toUInt64 63)).toInt64 &&& (255 : Int64)).toInt32), σ) := by
  rw [enX9_byteOf]
/-! numbers: a small one is a natural's -/
theorem n_of {v : Int32} {a b : Int32} {n m : Nat} (ha : a = nI n) (hb : b = nI m) (hm : m < 1000) (hn : n < 1000) (h : a ≤ v ∧ v ≤ b) : ∃ j : Nat, n ≤ j ∧ j ≤ m ∧ v = nI j := by
  obtain ⟨h1, h2⟩ := h
  subst ha; subst hb
  have h0 : ¬ v < 0 := by
    have := nI_pos' (n := n) (by omega)
    rw [Int32.not_lt]
    exact Int32.le_trans this h1
  obtain ⟨j, hj, rfl⟩ := nI_of h0
  exact ⟨j, (nI_leI (by omega) hj).mp h1, (nI_leI hj (by omega)).mp h2, rfl⟩
theorem n2 {v : Int32} (h : 0 ≤ v ∧ v ≤ 2) : ∃ j : Nat, j < 3 ∧ v = nI j := by
  obtain ⟨j, -, h2, h3⟩ := n_of (n := 0) (m := 2) rfl rfl (by decide) (by decide) h
  exact ⟨j, by omega, h3⟩
theorem n3 {v : Int32} (h : 0 ≤ v ∧ v ≤ 3) : ∃ j : Nat, j < 4 ∧ v = nI j := by
  obtain ⟨j, -, h2, h3⟩ := n_of (n := 0) (m := 3) rfl rfl (by decide) (by decide) h
  exact ⟨j, by omega, h3⟩
theorem n5 {v : Int32} (h : 0 ≤ v ∧ v ≤ 5) : ∃ j : Nat, j < 6 ∧ v = nI j := by
  obtain ⟨j, -, h2, h3⟩ := n_of (n := 0) (m := 5) rfl rfl (by decide) (by decide) h
  exact ⟨j, by omega, h3⟩
