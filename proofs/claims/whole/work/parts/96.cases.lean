/-! the law's cases: each call -/
theorem inbL {L i : Nat} (hL : L ≤ 3072) (hi : i < L) : am_inb (nI i) L = true := am_inb_of (vp_in_nI hi (by omega))
theorem sc_at {α : Type} {k : Option α} : o_sc 3000 k = k := rfl
theorem sl_at {α : Type} {L i p : Nat} {v : Int32} {k : Option α} (hv : v = nI p) (hL : L ≤ 3072) (hi : i + 6 ≤ L) (hp : p < 6) : o_sl L 3000 (nI i + v) k = k := by
  unfold o_sl
  rw [hv, nI_add, inbL hL (by omega)]
  rfl
theorem sl_ix {L i p : Nat} {v : Int32} (hv : v = nI p) (hL : L ≤ 3072) (hi : i + 6 ≤ L) (hp : p < 6) : (nI i + v).toNatClampNeg = i + p := by
  rw [hv, nI_add, nI_clamp (by omega)]
theorem sl_0 {α : Type} {L i : Nat} {k : Option α} (hL : L ≤ 3072) (hi : i + 6 ≤ L) : o_sl L 3000 (nI i) k = k := by
  unfold o_sl
  rw [inbL hL (by omega)]
  rfl
theorem cl_3 {L i : Nat} (hL : L ≤ 3072) (hi : i + 6 ≤ L) : (nI i).toNatClampNeg = i := nI_clamp (by omega)
theorem lw_cmp {L i : Nat} (hL : L ≤ 3072) (hi : i ≤ L) : Int32.ofNat L - 6 < nI i ↔ L < i + 6 := by
  rw [Int32.lt_iff_toInt_lt, show Int32.ofNat L - 6 = nI L - nI 6 from rfl, pk_sub_toInt (by omega) (by decide), nI_toInt (by omega)]
  omega
theorem lw_more {L i : Nat} (hL : L ≤ 3072) (hi : i + 6 ≤ L) : ¬ Int32.ofNat L - 6 < nI i := fun z => by
  have := (lw_cmp hL (by omega)).mp z
  omega
theorem lc_0 {L i : Nat} {xs : Nat → Int32} {σ : Mem} (hL : L ≤ 3072) (hi : i + 6 ≤ L) (h : Rel σ) : ∃ σ2, am_go (CL_law L xs) 208 [.ref 3000, .ref 0, .ref 160, .int (nI i)] [] σ = am_go (CL_law L xs) 1534 [.ref 3000, .ref 0, .ref 160, .int (nI i)] [] σ2 ∧ Rel σ2 := by
  obtain ⟨r, σ1, σ2, e1, e2, hr⟩ := op_heat h (xs (i + 1)) (xs (i + 2))
  refine ⟨σ2, ?_, hr⟩
  rw [blL_208]
  simp only [sl_at (v := 1) (p := 1) rfl hL hi (by decide), sl_at (v := 2) (p := 2) rfl hL hi (by decide), sl_ix (v := 1) (p := 1) rfl hL hi (by decide), sl_ix (v := 2) (p := 2) rfl hL hi (by decide)]
  simp only [oc c8, oc m9, e1, e2, rI, if_true]
theorem lc_1 {L i : Nat} {xs : Nat → Int32} {σ : Mem} (hL : L ≤ 3072) (hi : i + 6 ≤ L) (h : Rel σ) : ∃ σ2, am_go (CL_law L xs) 241 [.ref 3000, .ref 0, .ref 160, .int (nI i)] [] σ = am_go (CL_law L xs) 1534 [.ref 3000, .ref 0, .ref 160, .int (nI i)] [] σ2 ∧ Rel σ2 := by
  obtain ⟨r, σ1, σ2, e1, e2, hr⟩ := op_setting h (xs (i + 1)) (xs (i + 2))
  refine ⟨σ2, ?_, hr⟩
  rw [blL_241]
  simp only [sl_at (v := 1) (p := 1) rfl hL hi (by decide), sl_at (v := 2) (p := 2) rfl hL hi (by decide), sl_ix (v := 1) (p := 1) rfl hL hi (by decide), sl_ix (v := 2) (p := 2) rfl hL hi (by decide)]
  simp only [oc c8, oc m9, e1, e2, rI, if_true]
theorem lc_2 {L i : Nat} {xs : Nat → Int32} {σ : Mem} (hL : L ≤ 3072) (hi : i + 6 ≤ L) (h : Rel σ) : ∃ σ2, am_go (CL_law L xs) 274 [.ref 3000, .ref 0, .ref 160, .int (nI i)] [] σ = am_go (CL_law L xs) 1534 [.ref 3000, .ref 0, .ref 160, .int (nI i)] [] σ2 ∧ Rel σ2 := by
  obtain ⟨r, σ1, σ2, e1, e2, hr⟩ := op_zone h (xs (i + 1)) (xs (i + 2))
  refine ⟨σ2, ?_, hr⟩
  rw [blL_274]
  simp only [sl_at (v := 1) (p := 1) rfl hL hi (by decide), sl_at (v := 2) (p := 2) rfl hL hi (by decide), sl_ix (v := 1) (p := 1) rfl hL hi (by decide), sl_ix (v := 2) (p := 2) rfl hL hi (by decide)]
  simp only [oc c8, oc m9, e1, e2, rI, if_true]
theorem lc_3 {L i : Nat} {xs : Nat → Int32} {σ : Mem} (hL : L ≤ 3072) (hi : i + 6 ≤ L) (h : Rel σ) : ∃ σ2, am_go (CL_law L xs) 307 [.ref 3000, .ref 0, .ref 160, .int (nI i)] [] σ = am_go (CL_law L xs) 1534 [.ref 3000, .ref 0, .ref 160, .int (nI i)] [] σ2 ∧ Rel σ2 := by
  obtain ⟨r, σ1, σ2, e1, e2, hr⟩ := op_gives h (xs (i + 1)) (xs (i + 2))
  refine ⟨σ2, ?_, hr⟩
  rw [blL_307]
  simp only [sl_at (v := 1) (p := 1) rfl hL hi (by decide), sl_at (v := 2) (p := 2) rfl hL hi (by decide), sl_ix (v := 1) (p := 1) rfl hL hi (by decide), sl_ix (v := 2) (p := 2) rfl hL hi (by decide)]
  simp only [oc c8, oc m9, e1, e2, rI, if_true]
theorem lc_4 {L i : Nat} {xs : Nat → Int32} {σ : Mem} (hL : L ≤ 3072) (hi : i + 6 ≤ L) (h : Rel σ) : ∃ σ2, am_go (CL_law L xs) 340 [.ref 3000, .ref 0, .ref 160, .int (nI i)] [] σ = am_go (CL_law L xs) 1534 [.ref 3000, .ref 0, .ref 160, .int (nI i)] [] σ2 ∧ Rel σ2 := by
  obtain ⟨r, σ1, σ2, e1, e2, hr⟩ := op_load h (xs (i + 1)) (xs (i + 2)) (xs (i + 3))
  refine ⟨σ2, ?_, hr⟩
  rw [blL_340]
  simp only [sl_at (v := 1) (p := 1) rfl hL hi (by decide), sl_at (v := 2) (p := 2) rfl hL hi (by decide), sl_at (v := 3) (p := 3) rfl hL hi (by decide), sl_ix (v := 1) (p := 1) rfl hL hi (by decide), sl_ix (v := 2) (p := 2) rfl hL hi (by decide), sl_ix (v := 3) (p := 3) rfl hL hi (by decide)]
  simp only [oc c8, oc m9, e1, e2, rI, if_true]
theorem lc_5 {L i : Nat} {xs : Nat → Int32} {σ : Mem} (hL : L ≤ 3072) (hi : i + 6 ≤ L) (h : Rel σ) : ∃ σ2, am_go (CL_law L xs) 383 [.ref 3000, .ref 0, .ref 160, .int (nI i)] [] σ = am_go (CL_law L xs) 1534 [.ref 3000, .ref 0, .ref 160, .int (nI i)] [] σ2 ∧ Rel σ2 := by
  obtain ⟨r, σ1, σ2, e1, e2, hr⟩ := op_of_ h (xs (i + 1)) (xs (i + 2))
  refine ⟨σ2, ?_, hr⟩
  rw [blL_383]
  simp only [sl_at (v := 1) (p := 1) rfl hL hi (by decide), sl_at (v := 2) (p := 2) rfl hL hi (by decide), sl_ix (v := 1) (p := 1) rfl hL hi (by decide), sl_ix (v := 2) (p := 2) rfl hL hi (by decide)]
  simp only [oc c8, oc m9, e1, e2, rI, if_true]
theorem lc_6 {L i : Nat} {xs : Nat → Int32} {σ : Mem} (hL : L ≤ 3072) (hi : i + 6 ≤ L) (h : Rel σ) : ∃ σ2, am_go (CL_law L xs) 416 [.ref 3000, .ref 0, .ref 160, .int (nI i)] [] σ = am_go (CL_law L xs) 1534 [.ref 3000, .ref 0, .ref 160, .int (nI i)] [] σ2 ∧ Rel σ2 := by
  obtain ⟨r, σ1, σ2, e1, e2, hr⟩ := op_rises h (xs (i + 1)) (xs (i + 2))
  refine ⟨σ2, ?_, hr⟩
  rw [blL_416]
  simp only [sl_at (v := 1) (p := 1) rfl hL hi (by decide), sl_at (v := 2) (p := 2) rfl hL hi (by decide), sl_ix (v := 1) (p := 1) rfl hL hi (by decide), sl_ix (v := 2) (p := 2) rfl hL hi (by decide)]
  simp only [oc c8, oc m9, e1, e2, rI, if_true]
theorem lc_7 {L i : Nat} {xs : Nat → Int32} {σ : Mem} (hL : L ≤ 3072) (hi : i + 6 ≤ L) (h : Rel σ) : ∃ σ2, am_go (CL_law L xs) 449 [.ref 3000, .ref 0, .ref 160, .int (nI i)] [] σ = am_go (CL_law L xs) 1534 [.ref 3000, .ref 0, .ref 160, .int (nI i)] [] σ2 ∧ Rel σ2 := by
  obtain ⟨r, σ1, σ2, e1, e2, hr⟩ := op_move h (xs (i + 1)) (xs (i + 2))
  refine ⟨σ2, ?_, hr⟩
  rw [blL_449]
  simp only [sl_at (v := 1) (p := 1) rfl hL hi (by decide), sl_at (v := 2) (p := 2) rfl hL hi (by decide), sl_ix (v := 1) (p := 1) rfl hL hi (by decide), sl_ix (v := 2) (p := 2) rfl hL hi (by decide)]
  simp only [oc c8, oc m9, e1, e2, rI, if_true]
theorem lc_8 {L i : Nat} {xs : Nat → Int32} {σ : Mem} (hL : L ≤ 3072) (hi : i + 6 ≤ L) (h : Rel σ) : ∃ σ2, am_go (CL_law L xs) 482 [.ref 3000, .ref 0, .ref 160, .int (nI i)] [] σ = am_go (CL_law L xs) 1534 [.ref 3000, .ref 0, .ref 160, .int (nI i)] [] σ2 ∧ Rel σ2 := by
  obtain ⟨r, σ1, σ2, e1, e2, hr⟩ := op_anew h (xs (i + 1))
  refine ⟨σ2, ?_, hr⟩
  rw [blL_482]
  simp only [sl_at (v := 1) (p := 1) rfl hL hi (by decide), sl_ix (v := 1) (p := 1) rfl hL hi (by decide)]
  simp only [oc c8, oc m9, e1, e2, rI, if_true]
theorem lc_9 {L i : Nat} {xs : Nat → Int32} {σ : Mem} (hL : L ≤ 3072) (hi : i + 6 ≤ L) (h : Rel σ) : ∃ σ2, am_go (CL_law L xs) 505 [.ref 3000, .ref 0, .ref 160, .int (nI i)] [] σ = am_go (CL_law L xs) 1534 [.ref 3000, .ref 0, .ref 160, .int (nI i)] [] σ2 ∧ Rel σ2 := by
  obtain ⟨r, σ1, σ2, e1, e2, hr⟩ := op_take h 
  refine ⟨σ2, ?_, hr⟩
  rw [blL_505]
  simp only [oc c8, oc m9, e1, e2, rI, if_true]
theorem lc_10 {L i : Nat} {xs : Nat → Int32} {σ : Mem} (hL : L ≤ 3072) (hi : i + 6 ≤ L) (h : Rel σ) : ∃ σ2, am_go (CL_law L xs) 518 [.ref 3000, .ref 0, .ref 160, .int (nI i)] [] σ = am_go (CL_law L xs) 1534 [.ref 3000, .ref 0, .ref 160, .int (nI i)] [] σ2 ∧ Rel σ2 := by
  obtain ⟨r, σ1, σ2, e1, e2, hr⟩ := op_taken h (xs (i + 1)) (xs (i + 2))
  refine ⟨σ2, ?_, hr⟩
  rw [blL_518]
  simp only [sl_at (v := 1) (p := 1) rfl hL hi (by decide), sl_at (v := 2) (p := 2) rfl hL hi (by decide), sl_ix (v := 1) (p := 1) rfl hL hi (by decide), sl_ix (v := 2) (p := 2) rfl hL hi (by decide)]
  simp only [oc c8, oc m9, e1, e2, rI, if_true]
theorem lc_11 {L i : Nat} {xs : Nat → Int32} {σ : Mem} (hL : L ≤ 3072) (hi : i + 6 ≤ L) (h : Rel σ) : ∃ σ2, am_go (CL_law L xs) 551 [.ref 3000, .ref 0, .ref 160, .int (nI i)] [] σ = am_go (CL_law L xs) 1534 [.ref 3000, .ref 0, .ref 160, .int (nI i)] [] σ2 ∧ Rel σ2 := by
  obtain ⟨r, σ1, σ2, e1, e2, hr⟩ := op_step h (xs (i + 1))
  refine ⟨σ2, ?_, hr⟩
  rw [blL_551]
  simp only [sl_at (v := 1) (p := 1) rfl hL hi (by decide), sl_ix (v := 1) (p := 1) rfl hL hi (by decide)]
  simp only [oc c8, oc m9, e1, e2, rI, if_true]
theorem lc_12 {L i : Nat} {xs : Nat → Int32} {σ : Mem} (hL : L ≤ 3072) (hi : i + 6 ≤ L) (h : Rel σ) : ∃ σ2, am_go (CL_law L xs) 574 [.ref 3000, .ref 0, .ref 160, .int (nI i)] [] σ = am_go (CL_law L xs) 1534 [.ref 3000, .ref 0, .ref 160, .int (nI i)] [] σ2 ∧ Rel σ2 := by
  obtain ⟨r, σ1, σ2, e1, e2, hr⟩ := op_next h (xs (i + 1))
  refine ⟨σ2, ?_, hr⟩
  rw [blL_574]
  simp only [sl_at (v := 1) (p := 1) rfl hL hi (by decide), sl_ix (v := 1) (p := 1) rfl hL hi (by decide)]
  simp only [oc c8, oc m9, e1, e2, rI, if_true]
theorem lc_13 {L i : Nat} {xs : Nat → Int32} {σ : Mem} (hL : L ≤ 3072) (hi : i + 6 ≤ L) (h : Rel σ) : ∃ σ2, am_go (CL_law L xs) 597 [.ref 3000, .ref 0, .ref 160, .int (nI i)] [] σ = am_go (CL_law L xs) 1534 [.ref 3000, .ref 0, .ref 160, .int (nI i)] [] σ2 ∧ Rel σ2 := by
  obtain ⟨r, σ1, σ2, e1, e2, hr⟩ := op_may h (xs (i + 1))
  refine ⟨σ2, ?_, hr⟩
  rw [blL_597]
  simp only [sl_at (v := 1) (p := 1) rfl hL hi (by decide), sl_ix (v := 1) (p := 1) rfl hL hi (by decide)]
  simp only [oc c8, oc m9, e1, e2, rI, if_true]
theorem lc_14 {L i : Nat} {xs : Nat → Int32} {σ : Mem} (hL : L ≤ 3072) (hi : i + 6 ≤ L) (h : Rel σ) : ∃ σ2, am_go (CL_law L xs) 620 [.ref 3000, .ref 0, .ref 160, .int (nI i)] [] σ = am_go (CL_law L xs) 1534 [.ref 3000, .ref 0, .ref 160, .int (nI i)] [] σ2 ∧ Rel σ2 := by
  obtain ⟨r, σ1, σ2, e1, e2, hr⟩ := op_weakest h (xs (i + 1))
  refine ⟨σ2, ?_, hr⟩
  rw [blL_620]
  simp only [sl_at (v := 1) (p := 1) rfl hL hi (by decide), sl_ix (v := 1) (p := 1) rfl hL hi (by decide)]
  simp only [oc c8, oc m9, e1, e2, rI, if_true]
theorem lc_15 {L i : Nat} {xs : Nat → Int32} {σ : Mem} (hL : L ≤ 3072) (hi : i + 6 ≤ L) (h : Rel σ) : ∃ σ2, am_go (CL_law L xs) 643 [.ref 3000, .ref 0, .ref 160, .int (nI i)] [] σ = am_go (CL_law L xs) 1534 [.ref 3000, .ref 0, .ref 160, .int (nI i)] [] σ2 ∧ Rel σ2 := by
  obtain ⟨r, σ1, σ2, e1, e2, hr⟩ := op_until h (xs (i + 1)) (xs (i + 2))
  refine ⟨σ2, ?_, hr⟩
  rw [blL_643]
  simp only [sl_at (v := 1) (p := 1) rfl hL hi (by decide), sl_at (v := 2) (p := 2) rfl hL hi (by decide), sl_ix (v := 1) (p := 1) rfl hL hi (by decide), sl_ix (v := 2) (p := 2) rfl hL hi (by decide)]
  simp only [oc c8, oc m9, e1, e2, rI, if_true]
theorem lc_16 {L i : Nat} {xs : Nat → Int32} {σ : Mem} (hL : L ≤ 3072) (hi : i + 6 ≤ L) (h : Rel σ) : ∃ σ2, am_go (CL_law L xs) 676 [.ref 3000, .ref 0, .ref 160, .int (nI i)] [] σ = am_go (CL_law L xs) 1534 [.ref 3000, .ref 0, .ref 160, .int (nI i)] [] σ2 ∧ Rel σ2 := by
  obtain ⟨r, σ1, σ2, e1, e2, hr⟩ := op_cool h (xs (i + 1))
  refine ⟨σ2, ?_, hr⟩
  rw [blL_676]
  simp only [sl_at (v := 1) (p := 1) rfl hL hi (by decide), sl_ix (v := 1) (p := 1) rfl hL hi (by decide)]
  simp only [oc c8, oc m9, e1, e2, rI, if_true]
theorem lc_17 {L i : Nat} {xs : Nat → Int32} {σ : Mem} (hL : L ≤ 3072) (hi : i + 6 ≤ L) (h : Rel σ) : ∃ σ2, am_go (CL_law L xs) 699 [.ref 3000, .ref 0, .ref 160, .int (nI i)] [] σ = am_go (CL_law L xs) 1534 [.ref 3000, .ref 0, .ref 160, .int (nI i)] [] σ2 ∧ Rel σ2 := by
  obtain ⟨r, σ1, σ2, e1, e2, hr⟩ := op_feed h (xs (i + 1)) (((xs (i + 2)).toInt64 <<< ((32 : Int32).toInt64 &&& 63)) ||| ((xs (i + 3)).toInt64 &&& (4294967295 : Int64)))
  refine ⟨σ2, ?_, hr⟩
  rw [blL_699]
  simp only [sl_at (v := 1) (p := 1) rfl hL hi (by decide), sl_at (v := 2) (p := 2) rfl hL hi (by decide), sl_at (v := 3) (p := 3) rfl hL hi (by decide), sl_ix (v := 1) (p := 1) rfl hL hi (by decide), sl_ix (v := 2) (p := 2) rfl hL hi (by decide), sl_ix (v := 3) (p := 3) rfl hL hi (by decide)]
  simp only [oc c8, oc m9, e1, e2, rI, if_true]
theorem lc_18 {L i : Nat} {xs : Nat → Int32} {σ : Mem} (hL : L ≤ 3072) (hi : i + 6 ≤ L) (h : Rel σ) : ∃ σ2, am_go (CL_law L xs) 762 [.ref 3000, .ref 0, .ref 160, .int (nI i)] [] σ = am_go (CL_law L xs) 1534 [.ref 3000, .ref 0, .ref 160, .int (nI i)] [] σ2 ∧ Rel σ2 := by
  obtain ⟨r, σ1, σ2, e1, e2, hr⟩ := op_course h (xs (i + 1))
  refine ⟨σ2, ?_, hr⟩
  rw [blL_762]
  simp only [sl_at (v := 1) (p := 1) rfl hL hi (by decide), sl_ix (v := 1) (p := 1) rfl hL hi (by decide)]
  simp only [oc c8, oc m9, e1, e2, rI, if_true]
theorem lc_19 {L i : Nat} {xs : Nat → Int32} {σ : Mem} (hL : L ≤ 3072) (hi : i + 6 ≤ L) (h : Rel σ) : ∃ σ2, am_go (CL_law L xs) 785 [.ref 3000, .ref 0, .ref 160, .int (nI i)] [] σ = am_go (CL_law L xs) 1534 [.ref 3000, .ref 0, .ref 160, .int (nI i)] [] σ2 ∧ Rel σ2 := by
  obtain ⟨r, σ1, σ2, e1, e2, hr⟩ := op_leg h (xs (i + 1)) (xs (i + 2)) (xs (i + 3))
  refine ⟨σ2, ?_, hr⟩
  rw [blL_785]
  simp only [sl_at (v := 1) (p := 1) rfl hL hi (by decide), sl_at (v := 2) (p := 2) rfl hL hi (by decide), sl_at (v := 3) (p := 3) rfl hL hi (by decide), sl_ix (v := 1) (p := 1) rfl hL hi (by decide), sl_ix (v := 2) (p := 2) rfl hL hi (by decide), sl_ix (v := 3) (p := 3) rfl hL hi (by decide)]
  simp only [oc c8, oc m9, e1, e2, rI, if_true]
theorem lc_20 {L i : Nat} {xs : Nat → Int32} {σ : Mem} (hL : L ≤ 3072) (hi : i + 6 ≤ L) (h : Rel σ) : ∃ σ2, am_go (CL_law L xs) 828 [.ref 3000, .ref 0, .ref 160, .int (nI i)] [] σ = am_go (CL_law L xs) 1534 [.ref 3000, .ref 0, .ref 160, .int (nI i)] [] σ2 ∧ Rel σ2 := by
  obtain ⟨r, σ1, σ2, e1, e2, hr⟩ := op_print h (xs (i + 1)) (xs (i + 2))
  refine ⟨σ2, ?_, hr⟩
  rw [blL_828]
  simp only [sl_at (v := 1) (p := 1) rfl hL hi (by decide), sl_at (v := 2) (p := 2) rfl hL hi (by decide), sl_ix (v := 1) (p := 1) rfl hL hi (by decide), sl_ix (v := 2) (p := 2) rfl hL hi (by decide)]
  simp only [oc c8, oc m9, e1, e2, rI, if_true]
theorem lc_21 {L i : Nat} {xs : Nat → Int32} {σ : Mem} (hL : L ≤ 3072) (hi : i + 6 ≤ L) (h : Rel σ) : ∃ σ2, am_go (CL_law L xs) 861 [.ref 3000, .ref 0, .ref 160, .int (nI i)] [] σ = am_go (CL_law L xs) 1534 [.ref 3000, .ref 0, .ref 160, .int (nI i)] [] σ2 ∧ Rel σ2 := by
  obtain ⟨r, σ1, σ2, e1, e2, hr⟩ := op_spelled h (xs (i + 1))
  refine ⟨σ2, ?_, hr⟩
  rw [blL_861]
  simp only [sl_at (v := 1) (p := 1) rfl hL hi (by decide), sl_ix (v := 1) (p := 1) rfl hL hi (by decide)]
  simp only [oc c8, oc m9, e1, e2, rI, if_true]
theorem lc_22 {L i : Nat} {xs : Nat → Int32} {σ : Mem} (hL : L ≤ 3072) (hi : i + 6 ≤ L) (h : Rel σ) : ∃ σ2, am_go (CL_law L xs) 884 [.ref 3000, .ref 0, .ref 160, .int (nI i)] [] σ = am_go (CL_law L xs) 1534 [.ref 3000, .ref 0, .ref 160, .int (nI i)] [] σ2 ∧ Rel σ2 := by
  obtain ⟨r, σ1, σ2, e1, e2, hr⟩ := op_join h (xs (i + 1)) (xs (i + 2))
  refine ⟨σ2, ?_, hr⟩
  rw [blL_884]
  simp only [sl_at (v := 1) (p := 1) rfl hL hi (by decide), sl_at (v := 2) (p := 2) rfl hL hi (by decide), sl_ix (v := 1) (p := 1) rfl hL hi (by decide), sl_ix (v := 2) (p := 2) rfl hL hi (by decide)]
  simp only [oc c8, oc m9, e1, e2, rI, if_true]
theorem lc_23 {L i : Nat} {xs : Nat → Int32} {σ : Mem} (hL : L ≤ 3072) (hi : i + 6 ≤ L) (h : Rel σ) : ∃ σ2, am_go (CL_law L xs) 917 [.ref 3000, .ref 0, .ref 160, .int (nI i)] [] σ = am_go (CL_law L xs) 1534 [.ref 3000, .ref 0, .ref 160, .int (nI i)] [] σ2 ∧ Rel σ2 := by
  obtain ⟨r, σ1, σ2, e1, e2, hr⟩ := op_clear h (xs (i + 1))
  refine ⟨σ2, ?_, hr⟩
  rw [blL_917]
  simp only [sl_at (v := 1) (p := 1) rfl hL hi (by decide), sl_ix (v := 1) (p := 1) rfl hL hi (by decide)]
  simp only [oc c8, oc m9, e1, e2, rI, if_true]
theorem lc_24 {L i : Nat} {xs : Nat → Int32} {σ : Mem} (hL : L ≤ 3072) (hi : i + 6 ≤ L) (h : Rel σ) : ∃ σ2, am_go (CL_law L xs) 940 [.ref 3000, .ref 0, .ref 160, .int (nI i)] [] σ = am_go (CL_law L xs) 1534 [.ref 3000, .ref 0, .ref 160, .int (nI i)] [] σ2 ∧ Rel σ2 := by
  by_cases hz : xs (i + 2) = 0
  · obtain ⟨r, σ1, σ2, e1, e2, hr⟩ := op_fire h (xs (i + 1)) 0
    refine ⟨σ2, ?_, hr⟩
    rw [blL_940]
    simp only [sl_at (v := 1) (p := 1) rfl hL hi (by decide), sl_at (v := 2) (p := 2) rfl hL hi (by decide), sl_ix (v := 1) (p := 1) rfl hL hi (by decide), sl_ix (v := 2) (p := 2) rfl hL hi (by decide)]
    simp only [if_pos hz, oc c8, oc m9, e1, e2, rI, if_true]
  · obtain ⟨r, σ1, σ2, e1, e2, hr⟩ := op_fire h (xs (i + 1)) 1
    refine ⟨σ2, ?_, hr⟩
    rw [blL_940]
    simp only [sl_at (v := 1) (p := 1) rfl hL hi (by decide), sl_at (v := 2) (p := 2) rfl hL hi (by decide), sl_ix (v := 1) (p := 1) rfl hL hi (by decide), sl_ix (v := 2) (p := 2) rfl hL hi (by decide)]
    simp only [if_neg hz, oc c8, oc m9, e1, e2, rI, if_true]
theorem lc_25 {L i : Nat} {xs : Nat → Int32} {σ : Mem} (hL : L ≤ 3072) (hi : i + 6 ≤ L) (h : Rel σ) : ∃ σ2, am_go (CL_law L xs) 989 [.ref 3000, .ref 0, .ref 160, .int (nI i)] [] σ = am_go (CL_law L xs) 1534 [.ref 3000, .ref 0, .ref 160, .int (nI i)] [] σ2 ∧ Rel σ2 := by
  obtain ⟨r, σ1, σ2, e1, e2, hr⟩ := op_tries h (xs (i + 1)) (xs (i + 2))
  refine ⟨σ2, ?_, hr⟩
  rw [blL_989]
  simp only [sl_at (v := 1) (p := 1) rfl hL hi (by decide), sl_at (v := 2) (p := 2) rfl hL hi (by decide), sl_ix (v := 1) (p := 1) rfl hL hi (by decide), sl_ix (v := 2) (p := 2) rfl hL hi (by decide)]
  simp only [oc c8, oc m9, e1, e2, rI, if_true]
theorem lc_26 {L i : Nat} {xs : Nat → Int32} {σ : Mem} (hL : L ≤ 3072) (hi : i + 6 ≤ L) (h : Rel σ) : ∃ σ2, am_go (CL_law L xs) 1022 [.ref 3000, .ref 0, .ref 160, .int (nI i)] [] σ = am_go (CL_law L xs) 1534 [.ref 3000, .ref 0, .ref 160, .int (nI i)] [] σ2 ∧ Rel σ2 := by
  obtain ⟨r, σ1, σ2, e1, e2, hr⟩ := op_plan h (xs (i + 1)) (xs (i + 2)) (xs (i + 3))
  refine ⟨σ2, ?_, hr⟩
  rw [blL_1022]
  simp only [sl_at (v := 1) (p := 1) rfl hL hi (by decide), sl_at (v := 2) (p := 2) rfl hL hi (by decide), sl_at (v := 3) (p := 3) rfl hL hi (by decide), sl_ix (v := 1) (p := 1) rfl hL hi (by decide), sl_ix (v := 2) (p := 2) rfl hL hi (by decide), sl_ix (v := 3) (p := 3) rfl hL hi (by decide)]
  simp only [oc c8, oc m9, e1, e2, rI, if_true]
theorem lc_27 {L i : Nat} {xs : Nat → Int32} {σ : Mem} (hL : L ≤ 3072) (hi : i + 6 ≤ L) (h : Rel σ) : ∃ σ2, am_go (CL_law L xs) 1065 [.ref 3000, .ref 0, .ref 160, .int (nI i)] [] σ = am_go (CL_law L xs) 1534 [.ref 3000, .ref 0, .ref 160, .int (nI i)] [] σ2 ∧ Rel σ2 := by
  obtain ⟨r, σ1, σ2, e1, e2, hr⟩ := op_lay h (xs (i + 1)) (xs (i + 2)) (xs (i + 3))
  refine ⟨σ2, ?_, hr⟩
  rw [blL_1065]
  simp only [sl_at (v := 1) (p := 1) rfl hL hi (by decide), sl_at (v := 2) (p := 2) rfl hL hi (by decide), sl_at (v := 3) (p := 3) rfl hL hi (by decide), sl_ix (v := 1) (p := 1) rfl hL hi (by decide), sl_ix (v := 2) (p := 2) rfl hL hi (by decide), sl_ix (v := 3) (p := 3) rfl hL hi (by decide)]
  simp only [oc c8, oc m9, e1, e2, rI, if_true]
theorem lc_28 {L i : Nat} {xs : Nat → Int32} {σ : Mem} (hL : L ≤ 3072) (hi : i + 6 ≤ L) (h : Rel σ) : ∃ σ2, am_go (CL_law L xs) 1108 [.ref 3000, .ref 0, .ref 160, .int (nI i)] [] σ = am_go (CL_law L xs) 1534 [.ref 3000, .ref 0, .ref 160, .int (nI i)] [] σ2 ∧ Rel σ2 := by
  obtain ⟨r, σ1, σ2, e1, e2, hr⟩ := op_wary h 
  refine ⟨σ2, ?_, hr⟩
  rw [blL_1108]
  simp only [oc c8, oc m9, e1, e2, rI, if_true]
theorem lc_29 {L i : Nat} {xs : Nat → Int32} {σ : Mem} (hL : L ≤ 3072) (hi : i + 6 ≤ L) (h : Rel σ) : ∃ σ2, am_go (CL_law L xs) 1121 [.ref 3000, .ref 0, .ref 160, .int (nI i)] [] σ = am_go (CL_law L xs) 1534 [.ref 3000, .ref 0, .ref 160, .int (nI i)] [] σ2 ∧ Rel σ2 := by
  obtain ⟨r, σ1, σ2, e1, e2, hr⟩ := op_careful h (xs (i + 1)) (xs (i + 2))
  refine ⟨σ2, ?_, hr⟩
  rw [blL_1121]
  simp only [sl_at (v := 1) (p := 1) rfl hL hi (by decide), sl_at (v := 2) (p := 2) rfl hL hi (by decide), sl_ix (v := 1) (p := 1) rfl hL hi (by decide), sl_ix (v := 2) (p := 2) rfl hL hi (by decide)]
  simp only [oc c8, oc m9, e1, e2, rI, if_true]
theorem lc_30 {L i : Nat} {xs : Nat → Int32} {σ : Mem} (hL : L ≤ 3072) (hi : i + 6 ≤ L) (h : Rel σ) : ∃ σ2, am_go (CL_law L xs) 1154 [.ref 3000, .ref 0, .ref 160, .int (nI i)] [] σ = am_go (CL_law L xs) 1534 [.ref 3000, .ref 0, .ref 160, .int (nI i)] [] σ2 ∧ Rel σ2 := by
  obtain ⟨r, σ1, σ2, e1, e2, hr⟩ := op_tells h (xs (i + 1)) (xs (i + 2)) (xs (i + 3))
  refine ⟨σ2, ?_, hr⟩
  rw [blL_1154]
  simp only [sl_at (v := 1) (p := 1) rfl hL hi (by decide), sl_at (v := 2) (p := 2) rfl hL hi (by decide), sl_at (v := 3) (p := 3) rfl hL hi (by decide), sl_ix (v := 1) (p := 1) rfl hL hi (by decide), sl_ix (v := 2) (p := 2) rfl hL hi (by decide), sl_ix (v := 3) (p := 3) rfl hL hi (by decide)]
  simp only [oc c8, oc m9, e1, e2, rI, if_true]
theorem lc_31 {L i : Nat} {xs : Nat → Int32} {σ : Mem} (hL : L ≤ 3072) (hi : i + 6 ≤ L) (h : Rel σ) : ∃ σ2, am_go (CL_law L xs) 1197 [.ref 3000, .ref 0, .ref 160, .int (nI i)] [] σ = am_go (CL_law L xs) 1534 [.ref 3000, .ref 0, .ref 160, .int (nI i)] [] σ2 ∧ Rel σ2 := by
  obtain ⟨r, σ1, σ2, e1, e2, hr⟩ := op_film h (xs (i + 1)) (xs (i + 2)) (xs (i + 3))
  refine ⟨σ2, ?_, hr⟩
  rw [blL_1197]
  simp only [sl_at (v := 1) (p := 1) rfl hL hi (by decide), sl_at (v := 2) (p := 2) rfl hL hi (by decide), sl_at (v := 3) (p := 3) rfl hL hi (by decide), sl_ix (v := 1) (p := 1) rfl hL hi (by decide), sl_ix (v := 2) (p := 2) rfl hL hi (by decide), sl_ix (v := 3) (p := 3) rfl hL hi (by decide)]
  simp only [oc c8, oc m9, e1, e2, rI, if_true]
theorem lc_32 {L i : Nat} {xs : Nat → Int32} {σ : Mem} (hL : L ≤ 3072) (hi : i + 6 ≤ L) (h : Rel σ) : ∃ σ2, am_go (CL_law L xs) 1240 [.ref 3000, .ref 0, .ref 160, .int (nI i)] [] σ = am_go (CL_law L xs) 1534 [.ref 3000, .ref 0, .ref 160, .int (nI i)] [] σ2 ∧ Rel σ2 := by
  obtain ⟨r, σ1, σ2, e1, e2, hr⟩ := op_drawn h (xs (i + 1)) (xs (i + 2)) (xs (i + 3))
  refine ⟨σ2, ?_, hr⟩
  rw [blL_1240]
  simp only [sl_at (v := 1) (p := 1) rfl hL hi (by decide), sl_at (v := 2) (p := 2) rfl hL hi (by decide), sl_at (v := 3) (p := 3) rfl hL hi (by decide), sl_ix (v := 1) (p := 1) rfl hL hi (by decide), sl_ix (v := 2) (p := 2) rfl hL hi (by decide), sl_ix (v := 3) (p := 3) rfl hL hi (by decide)]
  simp only [oc c8, oc m9, e1, e2, rI, if_true]
theorem lc_33 {L i : Nat} {xs : Nat → Int32} {σ : Mem} (hL : L ≤ 3072) (hi : i + 6 ≤ L) (h : Rel σ) : ∃ σ2, am_go (CL_law L xs) 1283 [.ref 3000, .ref 0, .ref 160, .int (nI i)] [] σ = am_go (CL_law L xs) 1534 [.ref 3000, .ref 0, .ref 160, .int (nI i)] [] σ2 ∧ Rel σ2 := by
  obtain ⟨r, σ1, σ2, e1, e2, hr⟩ := op_image h 
  refine ⟨σ2, ?_, hr⟩
  rw [blL_1283]
  simp only [oc c8, oc m9, e1, e2, rI, if_true]
theorem lc_34 {L i : Nat} {xs : Nat → Int32} {σ : Mem} (hL : L ≤ 3072) (hi : i + 6 ≤ L) (h : Rel σ) : ∃ σ2, am_go (CL_law L xs) 1296 [.ref 3000, .ref 0, .ref 160, .int (nI i)] [] σ = am_go (CL_law L xs) 1534 [.ref 3000, .ref 0, .ref 160, .int (nI i)] [] σ2 ∧ Rel σ2 := by
  obtain ⟨r, σ1, σ2, e1, e2, hr⟩ := op_back h 
  refine ⟨σ2, ?_, hr⟩
  rw [blL_1296]
  simp only [oc c8, oc m9, e1, e2, rI, if_true]
theorem lc_35 {L i : Nat} {xs : Nat → Int32} {σ : Mem} (hL : L ≤ 3072) (hi : i + 6 ≤ L) (h : Rel σ) : ∃ σ2, am_go (CL_law L xs) 1309 [.ref 3000, .ref 0, .ref 160, .int (nI i)] [] σ = am_go (CL_law L xs) 1534 [.ref 3000, .ref 0, .ref 160, .int (nI i)] [] σ2 ∧ Rel σ2 := by
  obtain ⟨r, σ1, σ2, e1, e2, hr⟩ := op_loads h (xs (i + 1)) (xs (i + 2)) (xs (i + 3)) (xs (i + 4))
  refine ⟨σ2, ?_, hr⟩
  rw [blL_1309]
  simp only [sl_at (v := 1) (p := 1) rfl hL hi (by decide), sl_at (v := 2) (p := 2) rfl hL hi (by decide), sl_at (v := 3) (p := 3) rfl hL hi (by decide), sl_at (v := 4) (p := 4) rfl hL hi (by decide), sl_ix (v := 1) (p := 1) rfl hL hi (by decide), sl_ix (v := 2) (p := 2) rfl hL hi (by decide), sl_ix (v := 3) (p := 3) rfl hL hi (by decide), sl_ix (v := 4) (p := 4) rfl hL hi (by decide)]
  simp only [oc c8, oc m9, e1, e2, rI, if_true]
theorem lc_36 {L i : Nat} {xs : Nat → Int32} {σ : Mem} (hL : L ≤ 3072) (hi : i + 6 ≤ L) (h : Rel σ) : ∃ σ2, am_go (CL_law L xs) 1362 [.ref 3000, .ref 0, .ref 160, .int (nI i)] [] σ = am_go (CL_law L xs) 1534 [.ref 3000, .ref 0, .ref 160, .int (nI i)] [] σ2 ∧ Rel σ2 := by
  obtain ⟨r, σ1, σ2, e1, e2, hr⟩ := op_count h (xs (i + 1))
  refine ⟨σ2, ?_, hr⟩
  rw [blL_1362]
  simp only [sl_at (v := 1) (p := 1) rfl hL hi (by decide), sl_ix (v := 1) (p := 1) rfl hL hi (by decide)]
  simp only [oc c8, oc m9, e1, e2, rI, if_true]
theorem lc_37 {L i : Nat} {xs : Nat → Int32} {σ : Mem} (hL : L ≤ 3072) (hi : i + 6 ≤ L) (h : Rel σ) : ∃ σ2, am_go (CL_law L xs) 1385 [.ref 3000, .ref 0, .ref 160, .int (nI i)] [] σ = am_go (CL_law L xs) 1534 [.ref 3000, .ref 0, .ref 160, .int (nI i)] [] σ2 ∧ Rel σ2 := by
  obtain ⟨r, σ1, σ2, e1, e2, hr⟩ := op_sheet h (xs (i + 1)) (xs (i + 2)) (xs (i + 3))
  refine ⟨σ2, ?_, hr⟩
  rw [blL_1385]
  simp only [sl_at (v := 1) (p := 1) rfl hL hi (by decide), sl_at (v := 2) (p := 2) rfl hL hi (by decide), sl_at (v := 3) (p := 3) rfl hL hi (by decide), sl_ix (v := 1) (p := 1) rfl hL hi (by decide), sl_ix (v := 2) (p := 2) rfl hL hi (by decide), sl_ix (v := 3) (p := 3) rfl hL hi (by decide)]
  simp only [oc c8, oc m9, e1, e2, rI, if_true]
theorem lc_38 {L i : Nat} {xs : Nat → Int32} {σ : Mem} (hL : L ≤ 3072) (hi : i + 6 ≤ L) (h : Rel σ) : ∃ σ2, am_go (CL_law L xs) 1428 [.ref 3000, .ref 0, .ref 160, .int (nI i)] [] σ = am_go (CL_law L xs) 1534 [.ref 3000, .ref 0, .ref 160, .int (nI i)] [] σ2 ∧ Rel σ2 := by
  obtain ⟨r, σ1, σ2, e1, e2, hr⟩ := op_put h (xs (i + 1)) (xs (i + 2)) (xs (i + 3))
  refine ⟨σ2, ?_, hr⟩
  rw [blL_1428]
  simp only [sl_at (v := 1) (p := 1) rfl hL hi (by decide), sl_at (v := 2) (p := 2) rfl hL hi (by decide), sl_at (v := 3) (p := 3) rfl hL hi (by decide), sl_ix (v := 1) (p := 1) rfl hL hi (by decide), sl_ix (v := 2) (p := 2) rfl hL hi (by decide), sl_ix (v := 3) (p := 3) rfl hL hi (by decide)]
  simp only [oc c8, oc m9, e1, e2, rI, if_true]
theorem lc_39 {L i : Nat} {xs : Nat → Int32} {σ : Mem} (hL : L ≤ 3072) (hi : i + 6 ≤ L) (h : Rel σ) : ∃ σ2, am_go (CL_law L xs) 1471 [.ref 3000, .ref 0, .ref 160, .int (nI i)] [] σ = am_go (CL_law L xs) 1534 [.ref 3000, .ref 0, .ref 160, .int (nI i)] [] σ2 ∧ Rel σ2 := by
  obtain ⟨r, σ1, σ2, e1, e2, hr⟩ := op_copy h (xs (i + 1)) (xs (i + 2)) (xs (i + 3)) (xs (i + 4)) (xs (i + 5))
  refine ⟨σ2, ?_, hr⟩
  rw [blL_1471]
  simp only [sl_at (v := 1) (p := 1) rfl hL hi (by decide), sl_at (v := 2) (p := 2) rfl hL hi (by decide), sl_at (v := 3) (p := 3) rfl hL hi (by decide), sl_at (v := 4) (p := 4) rfl hL hi (by decide), sl_at (v := 5) (p := 5) rfl hL hi (by decide), sl_ix (v := 1) (p := 1) rfl hL hi (by decide), sl_ix (v := 2) (p := 2) rfl hL hi (by decide), sl_ix (v := 3) (p := 3) rfl hL hi (by decide), sl_ix (v := 4) (p := 4) rfl hL hi (by decide), sl_ix (v := 5) (p := 5) rfl hL hi (by decide)]
  simp only [oc c8, oc m9, e1, e2, rI, if_true]
theorem law_sw {L i : Nat} {xs : Nat → Int32} {σ : Mem} (hL : L ≤ 3072) (hi : i + 6 ≤ L) (h : Rel σ) : ∃ σ2, am_go (CL_law L xs) 18 [.ref 3000, .ref 0, .ref 160, .int (nI i)] [] σ = am_go (CL_law L xs) 1534 [.ref 3000, .ref 0, .ref 160, .int (nI i)] [] σ2 ∧ Rel σ2 := by
  rw [blL_18, sc_at, if_neg (lw_more hL hi), sl_0 hL hi, cl_3 hL hi]
  generalize xs i &&& 63 = v
  by_cases h0 : v = 0
  · rw [if_pos h0]; exact lc_0 hL hi h
  rw [if_neg h0]
  by_cases h1 : v = 1
  · rw [if_pos h1]; exact lc_1 hL hi h
  rw [if_neg h1]
  by_cases h2 : v = 2
  · rw [if_pos h2]; exact lc_2 hL hi h
  rw [if_neg h2]
  by_cases h3 : v = 3
  · rw [if_pos h3]; exact lc_3 hL hi h
  rw [if_neg h3]
  by_cases h4 : v = 4
  · rw [if_pos h4]; exact lc_4 hL hi h
  rw [if_neg h4]
  by_cases h5 : v = 5
  · rw [if_pos h5]; exact lc_5 hL hi h
  rw [if_neg h5]
  by_cases h6 : v = 6
  · rw [if_pos h6]; exact lc_6 hL hi h
  rw [if_neg h6]
  by_cases h7 : v = 7
  · rw [if_pos h7]; exact lc_7 hL hi h
  rw [if_neg h7]
  by_cases h8 : v = 8
  · rw [if_pos h8]; exact lc_8 hL hi h
  rw [if_neg h8]
  by_cases h9 : v = 9
  · rw [if_pos h9]; exact lc_9 hL hi h
  rw [if_neg h9]
  by_cases h10 : v = 10
  · rw [if_pos h10]; exact lc_10 hL hi h
  rw [if_neg h10]
  by_cases h11 : v = 11
  · rw [if_pos h11]; exact lc_11 hL hi h
  rw [if_neg h11]
  by_cases h12 : v = 12
  · rw [if_pos h12]; exact lc_12 hL hi h
  rw [if_neg h12]
  by_cases h13 : v = 13
  · rw [if_pos h13]; exact lc_13 hL hi h
  rw [if_neg h13]
  by_cases h14 : v = 14
  · rw [if_pos h14]; exact lc_14 hL hi h
  rw [if_neg h14]
  by_cases h15 : v = 15
  · rw [if_pos h15]; exact lc_15 hL hi h
  rw [if_neg h15]
  by_cases h16 : v = 16
  · rw [if_pos h16]; exact lc_16 hL hi h
  rw [if_neg h16]
  by_cases h17 : v = 17
  · rw [if_pos h17]; exact lc_17 hL hi h
  rw [if_neg h17]
  by_cases h18 : v = 18
  · rw [if_pos h18]; exact lc_18 hL hi h
  rw [if_neg h18]
  by_cases h19 : v = 19
  · rw [if_pos h19]; exact lc_19 hL hi h
  rw [if_neg h19]
  by_cases h20 : v = 20
  · rw [if_pos h20]; exact lc_20 hL hi h
  rw [if_neg h20]
  by_cases h21 : v = 21
  · rw [if_pos h21]; exact lc_21 hL hi h
  rw [if_neg h21]
  by_cases h22 : v = 22
  · rw [if_pos h22]; exact lc_22 hL hi h
  rw [if_neg h22]
  by_cases h23 : v = 23
  · rw [if_pos h23]; exact lc_23 hL hi h
  rw [if_neg h23]
  by_cases h24 : v = 24
  · rw [if_pos h24]; exact lc_24 hL hi h
  rw [if_neg h24]
  by_cases h25 : v = 25
  · rw [if_pos h25]; exact lc_25 hL hi h
  rw [if_neg h25]
  by_cases h26 : v = 26
  · rw [if_pos h26]; exact lc_26 hL hi h
  rw [if_neg h26]
  by_cases h27 : v = 27
  · rw [if_pos h27]; exact lc_27 hL hi h
  rw [if_neg h27]
  by_cases h28 : v = 28
  · rw [if_pos h28]; exact lc_28 hL hi h
  rw [if_neg h28]
  by_cases h29 : v = 29
  · rw [if_pos h29]; exact lc_29 hL hi h
  rw [if_neg h29]
  by_cases h30 : v = 30
  · rw [if_pos h30]; exact lc_30 hL hi h
  rw [if_neg h30]
  by_cases h31 : v = 31
  · rw [if_pos h31]; exact lc_31 hL hi h
  rw [if_neg h31]
  by_cases h32 : v = 32
  · rw [if_pos h32]; exact lc_32 hL hi h
  rw [if_neg h32]
  by_cases h33 : v = 33
  · rw [if_pos h33]; exact lc_33 hL hi h
  rw [if_neg h33]
  by_cases h34 : v = 34
  · rw [if_pos h34]; exact lc_34 hL hi h
  rw [if_neg h34]
  by_cases h35 : v = 35
  · rw [if_pos h35]; exact lc_35 hL hi h
  rw [if_neg h35]
  by_cases h36 : v = 36
  · rw [if_pos h36]; exact lc_36 hL hi h
  rw [if_neg h36]
  by_cases h37 : v = 37
  · rw [if_pos h37]; exact lc_37 hL hi h
  rw [if_neg h37]
  by_cases h38 : v = 38
  · rw [if_pos h38]; exact lc_38 hL hi h
  rw [if_neg h38]
  by_cases h39 : v = 39
  · rw [if_pos h39]; exact lc_39 hL hi h
  rw [if_neg h39]
  exact ⟨σ, rfl, h⟩
theorem law_go {L : Nat} {xs : Nat → Int32} (hL : L ≤ 3072) : ∀ (n i : Nat) (σ : Mem), L < i + 6 * n + 6 → i ≤ L → Rel σ → ∃ σ', am_go (CL_law L xs) 18 [.ref 3000, .ref 0, .ref 160, .int (nI i)] [] σ = some (some (.int 1), σ') := by
  have fin : ∀ (i : Nat) (σ : Mem), L < i + 6 → i ≤ L → ∃ σ', am_go (CL_law L xs) 18 [.ref 3000, .ref 0, .ref 160, .int (nI i)] [] σ = some (some (.int 1), σ') := by
    intro i σ h1 h2
    rw [blL_18, sc_at, if_pos ((lw_cmp hL h2).mpr h1), zr1]
    exact ⟨σ, rfl⟩
  intro n
  induction n with
  | zero => intro i σ h1 h2 _; exact fin i σ (by omega) h2
  | succ n ih =>
    intro i σ h1 h2 h
    by_cases hi : i + 6 ≤ L
    · obtain ⟨σ2, e2, h2'⟩ := law_sw (xs := xs) hL hi h
      obtain ⟨σ3, e3⟩ := ih (i + 6) σ2 (by omega) hi h2'
      rw [e2, blL_1534, show (nI i + 6 : Int32) = nI (i + 6) from nI_add i 6]
      exact ⟨σ3, e3⟩
    · exact fin i σ (by omega) h2
