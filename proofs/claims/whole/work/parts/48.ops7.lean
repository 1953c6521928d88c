/-! sheet, put -/
theorem so3 (x : Int32) : (-1 ≤ x ∧ x ≤ 1) ↔ (x = -1 ∨ x = 0 ∨ x = 1) := by
  simp only [Int32.le_iff_toInt_le, ← Int32.toInt_inj]
  have e1 : (-1 : Int32).toInt = -1 := rfl
  have e2 : (1 : Int32).toInt = 1 := rfl
  have e3 : (0 : Int32).toInt = 0 := rfl
  rw [e1, e2, e3]
  omega
theorem so2 (x : Int32) : (0 ≤ x ∧ x ≤ 1) ↔ (x = 0 ∨ x = 1) := by
  simp only [Int32.le_iff_toInt_le, ← Int32.toInt_inj]
  have e2 : (1 : Int32).toInt = 1 := rfl
  have e3 : (0 : Int32).toInt = 0 := rfl
  rw [e2, e3]
  omega
theorem t_sb {r : Nat} {s x : Int32} (hr : r < 4) : ∀ (m j : Nat) (σ : Mem), j + m = 40 → ∃ σ', am_go CX7_begin 12 [.ref (152 + 2 * r), .int s, .int x, .int (nI j)] [] σ = some (none, σ') ∧ (∀ i, j ≤ i → i < 40 → σ' (153 + 2 * r) i = 0) ∧ (∀ i, i < j → σ' (153 + 2 * r) i = σ (153 + 2 * r) i) ∧ ∀ a, a ≠ 153 + 2 * r → σ' a = σ a := by
  intro m
  induction m with
  | zero =>
    intro j σ hj
    have : j = 40 := by omega
    subst this
    rw [blX7_begin_12, if_pos (by decide)]
    exact ⟨σ, rfl, fun i h1 h2 => by omega, fun _ _ => rfl, fun _ _ => rfl⟩
  | succ m ih =>
    intro j σ hj
    rw [blX7_begin_12, if_neg (show ¬ (40 : Int32) ≤ nI j from nI_ge (b := 40) (by omega) (by decide)), oc (ses hr), sir hr, ox (by rw [sis hr]) (by rw [sis hr]; show j < 40; omega), cl j (by omega), nI_1]
    obtain ⟨σ', e, c1, c2, c3⟩ := ih (j + 1) (setM σ (153 + 2 * r) j 0) (by omega)
    refine ⟨σ', e, fun i h1 h2 => ?_, fun i hi => ?_, fun a ha => (c3 a ha).trans (sM_a ha)⟩
    · by_cases hij : i = j
      · subst hij
        rw [c2 i (by omega), sM_eq]
      · exact c1 i (by omega) h2
    · rw [c2 i (by omega), sM_i (by omega)]
theorem t_sbegin {r : Nat} {s x : Int32} {σ : Mem} (hr : r < 4) : ∃ σ', FX7_begin [.ref (152 + 2 * r), .int s, .int x] σ = some (none, σ') ∧ σ' (152 + 2 * r) 0 = s ∧ σ' (152 + 2 * r) 1 = x ∧ (∀ i, i < 40 → σ' (153 + 2 * r) i = 0) ∧ ∀ a, a ≠ 152 + 2 * r → a ≠ 153 + 2 * r → σ' a = σ a := by
  obtain ⟨σ', e, c1, c2, c3⟩ := t_sb (s := s) (x := x) hr 40 0 (setM (setM σ (152 + 2 * r) 0 s) (152 + 2 * r) 1 x) rfl
  rw [enX7_begin, oc (ses hr), oc (ses hr)]
  refine ⟨σ', e, ?_, ?_, fun i hi => c1 i (by omega) hi, fun a ha hb => by rw [c3 a hb, sM_a ha, sM_a ha]⟩
  · rw [c3 _ (by omega), sM_i (by decide), sM_eq]
  · rw [c3 _ (by omega), sM_eq]
theorem nIx (r i : Nat) : (40 : Int32) * nI r + nI i = nI (40 * r + i) := by
  rw [show (40 : Int32) = nI 40 from rfl, pk_mul, nI_add]
theorem m_sb {r n : Nat} {s : Int32} (hr : r < 4) (hn : n ≤ 40) : ∀ (m j : Nat) (σ : Mem), j + m = n → ∃ σ', am_go CX10_sheet 66 [.ref 160, .int (nI r), .int s, .int (nI n), .int (nI j)] [] σ = some (some (.int 1), σ') ∧ (∀ i, j ≤ i → i < n → σ' 174 (40 * r + i) = 0) ∧ (∀ q, (q < 40 * r + j ∨ 40 * r + n ≤ q) → σ' 174 q = σ 174 q) ∧ ∀ a, a ≠ 174 → σ' a = σ a := by
  intro m
  induction m with
  | zero =>
    intro j σ hj
    have : j = n := by omega
    subst this
    rw [blX10_sheet_66, if_pos (Int32.le_refl _)]
    exact ⟨σ, rfl, fun i h1 h2 => by omega, fun _ _ => rfl, fun _ _ => rfl⟩
  | succ m ih =>
    intro j σ hj
    rw [blX10_sheet_66, if_neg (nI_ge (by omega) (by omega)), oc m9, rf160_17, nIx, xi (show 40 * r + j < 160 by omega) sh174, cl _ (by omega), nI_1]
    obtain ⟨σ', e, c1, c2, c3⟩ := ih (j + 1) (setM σ 174 (40 * r + j) 0) (by omega)
    refine ⟨σ', e, fun i h1 h2 => ?_, fun q hq => ?_, fun a ha => (c3 a ha).trans (sM_a ha)⟩
    · by_cases hij : i = j
      · subst hij
        rw [c2 _ (by omega), sM_eq]
      · exact c1 i (by omega) h2
    · rw [c2 q (by omega), sM_i (by omega)]
theorem rep_get {n i : Nat} {v : Int32} (h : (List.replicate n (0 : Int32))[i]? = some v) : i < n ∧ v = 0 := by
  have h1 := (List.getElem?_eq_some_iff.mp h).1
  rw [List.length_replicate] at h1
  rw [List.getElem?_replicate, if_pos h1] at h
  exact ⟨h1, (Option.some.inj h).symm⟩
theorem op_sheet {σ : Mem} (h : Rel σ) (x1 x2 x3 : Int32) : OpOK (FX9_sheet [.ref 0, .int x1, .int x2, .int x3]) (FX10_sheet [.ref 160, .int x1, .int x2, .int x3]) σ := by
  by_cases h1 : 0 ≤ x1 ∧ x1 ≤ 3
  · by_cases h2 : x2 = -1
    · obtain ⟨Z, hZ, hC, hM⟩ := h
      obtain ⟨r, hr, rfl⟩ := n3 h1
      refine op_of (Z' := zSh Z r none) (r := 1) hZ hM (hZ.sheet (fun s l e => by cases e)) ?_ (fun σ1 hM1 => ?_)
      · obtain ⟨σ1, e1, q0, q1, q2, f⟩ := t_sbegin (s := -1) (x := 0) (σ := σ) hr
        rw [enX9_sheet, t_isSheet, rI, ifb, if_pos h1, if_pos h2, if_pos h2, oc c8, rf0_11, x104 hr, cl r (by omega), ser hr, oc (ses hr), e1, rV]
        exact ⟨σ1, rfl, hC.sheet hZ hr q0 (fun a ha hb _ => f a ha hb), fun a ha => f a (by omega) (by omega)⟩
      · rw [enX10_sheet, t_mSheet, rI, ifb, if_pos h1, t_isIn, rI, ifb, if_pos ((so3 x2).mpr (Or.inl h2)), if_pos h2, oc m9, rf160_15, xi hr sh172, cl r (by omega)]
        refine ⟨_, rfl, hM1.sheet hr (sM_eq _ _ _ _) (fun q hq hqr => ⟨sM_i hqr, by rw [sM_a (by decide)], fun i hi => by rw [sM_a (by decide)]⟩) hZ (fun a ha _ _ _ => sM_a ha), fun a ha => sM_a (by omega)⟩
    · by_cases h3 : x2 = 0 ∨ x2 = 1
      · have hin : -1 ≤ x2 ∧ x2 ≤ 1 := (so3 x2).mpr (Or.inr h3)
        by_cases h4 : x3 ≤ 40
        · by_cases h5 : 0 ≤ x3
          · obtain ⟨Z, hZ, hC, hM⟩ := h
            obtain ⟨r, hr, rfl⟩ := n3 h1
            obtain ⟨n, -, hn, rfl⟩ := n_of (n := 0) (m := 40) rfl rfl (by decide) (by decide) ⟨h5, h4⟩
            refine op_of (Z' := zSh Z r (some (x2, List.replicate n 0))) (r := 1) hZ hM (hZ.sheet (fun s l e => by cases e; exact ⟨h3, by rw [List.length_replicate]; exact hn⟩)) ?_ (fun σ1 hM1 => ?_)
            · obtain ⟨σ1, e1, q0, q1, q2, f⟩ := t_sbegin (s := x2) (x := nI n) (σ := σ) hr
              rw [enX9_sheet, t_isSheet, rI, ifb, if_pos h1, if_neg h2, t_isSort, rI, ifb, if_pos h3, if_neg h2, if_pos h4, if_pos h5, oc c8, rf0_11, x104 hr, cl r (by omega), ser hr, oc (ses hr), e1, rV]
              exact ⟨σ1, rfl, hC.sheet hZ hr ⟨q0, by rw [q1, List.length_replicate], fun i v hv => by rw [q2 i (by have := (rep_get hv).1; omega), (rep_get hv).2]⟩ (fun a ha hb _ => f a ha hb), fun a ha => f a (by omega) (by omega)⟩
            · rw [enX10_sheet, t_mSheet, rI, ifb, if_pos h1, t_isIn, rI, ifb, if_pos hin, if_neg h2, if_pos h4, if_pos h5, oc m9, rf160_15, xi hr sh172, oc m9, rf160_16, xi hr sh173, cl r (by omega)]
              obtain ⟨σ2, e2, c1, c2, c3⟩ := m_sb (s := x2) hr hn n 0 (setM (setM σ1 172 r x2) 173 r (nI n)) (by omega)
              refine ⟨σ2, e2, hM1.sheet hr ⟨?_, ?_, fun i v hv => ?_⟩ (fun q hq hqr => ⟨?_, ?_, fun i hi => ?_⟩) hZ (fun a ha hb hc _ => by rw [c3 a hc, sM_a hb, sM_a ha]), fun a ha => by rw [c3 a (by omega), sM_a (by omega), sM_a (by omega)]⟩
              · rw [c3 172 (by decide), sM_a (by decide), sM_eq]
              · rw [c3 173 (by decide), sM_eq, List.length_replicate]
              · obtain ⟨hi, rfl⟩ := rep_get hv
                exact c1 i (by omega) hi
              · rw [c3 172 (by decide), sM_a (by decide), sM_i hqr]
              · rw [c3 173 (by decide), sM_i hqr, sM_a (by decide)]
              · rw [c2 _ (by omega), sM_a (by decide), sM_a (by decide)]
          · obtain ⟨r, hr, rfl⟩ := n3 h1
            exact op_same (r := -14) h (by rw [enX9_sheet, t_isSheet, rI, ifb, if_pos h1, if_neg h2, t_isSort, rI, ifb, if_pos h3, if_neg h2, if_pos h4, if_neg h5]) (by rw [enX10_sheet, t_mSheet, rI, ifb, if_pos h1, t_isIn, rI, ifb, if_pos hin, if_neg h2, if_pos h4, if_neg h5])
        · exact op_same (r := -2) h (by rw [enX9_sheet, t_isSheet, rI, ifb, if_pos h1, if_neg h2, t_isSort, rI, ifb, if_pos h3, if_neg h2, if_neg h4]) (by rw [enX10_sheet, t_mSheet, rI, ifb, if_pos h1, t_isIn, rI, ifb, if_pos hin, if_neg h2, if_neg h4])
      · have hin : ¬ (-1 ≤ x2 ∧ x2 ≤ 1) := fun e => by
          rcases (so3 x2).mp e with e | e
          · exact h2 e
          · exact h3 e
        exact op_same (r := -2) h (by rw [enX9_sheet, t_isSheet, rI, ifb, if_pos h1, if_neg h2, t_isSort, rI, ifb, if_neg h3]) (by rw [enX10_sheet, t_mSheet, rI, ifb, if_pos h1, t_isIn, rI, ifb, if_neg hin])
  · exact op_same (r := -2) h (by rw [enX9_sheet, t_isSheet, rI, ifb, if_neg h1]) (by rw [enX10_sheet, t_mSheet, rI, ifb, if_neg h1])
theorem t_missing {r : Nat} {o : Option (Int32 × List Int32)} {σ : Mem} (hr : r < 4) (h : repSc r o σ) (ho : ∀ s l, o = some (s, l) → (s = 0 ∨ s = 1) ∧ l.length ≤ 40) : FX7_isMissing [.ref (152 + 2 * r)] σ = some (some (.int (if o = none then 1 else 0)), σ) := by
  rw [enX7_isMissing, oc (ses hr), zr0, zr1]
  cases o with
  | none => rw [if_pos (show σ (152 + 2 * r) 0 = -1 from h), if_pos rfl]
  | some q =>
    obtain ⟨s, l⟩ := q
    rw [h.1, if_neg (by rcases (ho s l rfl).1 with e | e <;> rw [e] <;> decide), if_neg (fun e => by cases e)]
/-- a run of y items from x on, in a row of n -/
def runP (n : Nat) (x y : Int32) : Prop := 0 ≤ x.toInt ∧ 0 ≤ y.toInt ∧ x.toInt + y.toInt ≤ n
theorem runP_of {n : Nat} {x y : Int32} (hn : n ≤ 40) (h : runP n x y) : ∃ i m : Nat, x = nI i ∧ y = nI m ∧ i + m ≤ n := by
  obtain ⟨h1, h2, h3⟩ := h
  refine ⟨x.toInt.toNat, y.toInt.toNat, Int32.toInt_inj.mp ?_, Int32.toInt_inj.mp ?_, by omega⟩
  · rw [nI_toInt (by omega)]; omega
  · rw [nI_toInt (by omega)]; omega
theorem t_hasRun {a n : Nat} {x y : Int32} {σ : Mem} [Decidable (runP n x y)] (hs : (sh a).1 = 6) (h : σ a 1 = nI n) (hn : n ≤ 40) : FX7_hasRun [.ref a, .int x, .int y] σ = some (some (.int (if runP n x y then 1 else 0)), σ) := by
  rw [enX7_hasRun, oc hs, oc hs, h, zr0, zr1]
  have z0 : (0 : Int32).toInt = 0 := rfl
  by_cases h1 : x < 0
  · rw [if_pos h1, if_neg (fun e => by have := e.1; rw [Int32.lt_iff_toInt_lt, z0] at h1; omega)]
  · rw [if_neg h1]
    by_cases h2 : y < 0
    · rw [if_pos h2, if_neg (fun e => by have := e.2.1; rw [Int32.lt_iff_toInt_lt, z0] at h2; omega)]
    · rw [if_neg h2]
      rw [Int32.lt_iff_toInt_lt, z0] at h1 h2
      by_cases h3 : nI n < x
      · rw [if_pos h3, if_neg (fun e => by have := e.2.2; rw [Int32.lt_iff_toInt_lt, nI_toInt (by omega)] at h3; omega)]
      · rw [if_neg h3]
        rw [Int32.lt_iff_toInt_lt, nI_toInt (by omega)] at h3
        obtain ⟨i, hi⟩ : ∃ i : Nat, x = nI i ∧ i ≤ n := ⟨x.toInt.toNat, Int32.toInt_inj.mp (by rw [nI_toInt (by omega)]; omega), by omega⟩
        obtain ⟨rfl, hin⟩ := hi
        have hti : (nI i).toInt = i := nI_toInt (by omega)
        rw [pk_sub hin]
        by_cases h4 : nI (n - i) < y
        · rw [if_pos h4, if_neg (fun e => by have := e.2.2; rw [Int32.lt_iff_toInt_lt, nI_toInt (by omega)] at h4; omega)]
        · rw [if_neg h4, if_pos]
          rw [Int32.lt_iff_toInt_lt, nI_toInt (by omega)] at h4
          exact ⟨by omega, by omega, by omega⟩
theorem ix_in {n : Nat} (hn : n ≤ 40) {x : Int32} (h : 0 ≤ x ∧ x ≤ nI n - 1) : ∃ i : Nat, i < n ∧ x = nI i := by
  cases n with
  | zero => exact absurd (Int32.le_trans h.1 h.2) (by decide)
  | succ n =>
    rw [nI_pred] at h
    obtain ⟨j, -, h2, h3⟩ := n_of (n := 0) (m := n) rfl rfl (by omega) (by decide) h
    exact ⟨j, by omega, h3⟩
theorem run1 {n : Nat} (hn : n ≤ 40) (x : Int32) : runP n x 1 ↔ (0 ≤ x ∧ x ≤ nI n - 1) := by
  constructor
  · intro h
    obtain ⟨i, m, rfl, e, hle⟩ := runP_of hn h
    have : m = 1 := by
      have := congrArg Int32.toInt e
      rw [nI_toInt (by omega)] at this
      have e1 : (1 : Int32).toInt = 1 := rfl
      omega
    subst this
    obtain ⟨k, hk⟩ : ∃ k, n = k + 1 := ⟨n - 1, by omega⟩
    subst hk
    rw [nI_pred]
    exact ⟨nI_pos' (by omega), nI_le (by omega) (by omega)⟩
  · intro h
    obtain ⟨i, hi, rfl⟩ := ix_in hn h
    have e1 : (1 : Int32).toInt = 1 := rfl
    have e2 : (nI i).toInt = i := nI_toInt (by omega)
    exact ⟨by omega, by omega, by omega⟩
