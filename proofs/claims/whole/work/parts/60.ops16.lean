/-! feed -/
def byV (y : Int64) (x : Int32) : Int64 := (y.toUInt64 >>> (((8 : Int32) * x).toInt64.toUInt64 &&& Int64.toUInt64 63)).toInt64 &&& (255 : Int64)
theorem and255 (w : Int64) : ∃ j : Nat, j ≤ 255 ∧ (w &&& 255).toInt = j := by
  have h : (w &&& 255).toBitVec.toNat ≤ 255 := by
    show (w.toBitVec &&& (255 : Int64).toBitVec).toNat ≤ 255
    rw [BitVec.toNat_and]
    exact Nat.and_le_right
  refine ⟨(w &&& 255).toBitVec.toNat, h, ?_⟩
  show (w &&& 255).toBitVec.toInt = _
  exact BitVec.toInt_eq_toNat_of_lt (by omega)
theorem byV_in (y : Int64) (x : Int32) : ∃ j : Nat, j ≤ 255 ∧ (byV y x).toInt = j ∧ (byV y x).toInt32 = nI j := by
  obtain ⟨j, hj, e⟩ := and255 (y.toUInt64 >>> (((8 : Int32) * x).toInt64.toUInt64 &&& Int64.toUInt64 63)).toInt64
  refine ⟨j, hj, e, Int32.toInt_inj.mp ?_⟩
  rw [Int64.toInt_toInt32, show (byV y x).toInt = j from e, nI_toInt (by omega)]
  exact Int.bmod_eq_of_le (by omega) (by omega)
theorem by8 {j : Nat} (h : j < 128) : (nI j).toInt8.toInt32.toInt8.toInt32 = nI j := by
  have : (nI j).toInt8.toInt32 = nI j := by
    apply Int32.toInt_inj.mp
    rw [Int8.toInt_toInt32, Int32.toInt_toInt8, nI_toInt (by omega)]
    exact Int.bmod_eq_of_le (by omega) (by omega)
  rw [this, this]
def okB (y : Int64) : Nat → Nat → Bool
  | 0, _ => true
  | m + 1, j => decide ((byV y (nI j)).toInt ≤ 127) && okB y m (j + 1)
def blB (y : Int64) : Nat → Nat → List Int32
  | 0, _ => []
  | m + 1, j => (byV y (nI j)).toInt32 :: blB y m (j + 1)
theorem blB_len (y : Int64) : ∀ m j, (blB y m j).length = m := by
  intro m
  induction m with
  | zero => intro j; rfl
  | succ m ih => intro j; rw [blB, List.length_cons, ih]
theorem blB_ok (y : Int64) : ∀ m j, okB y m j = true → ∀ b ∈ blB y m j, ∃ i : Nat, i < 128 ∧ b = nI i := by
  intro m
  induction m with
  | zero => intro j _ b hb; cases hb
  | succ m ih =>
    intro j h b hb
    rw [okB, Bool.and_eq_true] at h
    rw [blB] at hb
    rcases List.mem_cons.mp hb with rfl | hb
    · obtain ⟨i, hi, e1, e2⟩ := byV_in y (nI j)
      have := of_decide_eq_true h.1
      exact ⟨i, by omega, e2⟩
    · exact ih (j + 1) h.2 b hb
theorem t_f16 {y : Int64} {n : Nat} {σ : Mem} (hn : n ≤ 8) : ∀ m j, j + m = n → am_go CX9_feed 16 [.ref 0, .int (nI n), .long y, .null, .int (nI j)] [] σ = if okB y m j = true then am_go CX9_feed 16 [.ref 0, .int (nI n), .long y, .null, .int (nI n)] [] σ else some (some (.int (-2)), σ) := by
  intro m
  induction m with
  | zero => intro j hj; have : j = n := by omega
            subst this; rw [okB, if_pos rfl]
  | succ m ih =>
    intro j hj
    rw [blX9_feed_16, if_neg (nI_ge (by omega) (by omega)), enX9_byteOf, rI, nI_1]
    obtain ⟨i, hi, e1, e2⟩ := byV_in y (nI j)
    show (if (byV y (nI j)).toInt32 ≤ 127 then _ else _) = _
    rw [e2, okB]
    by_cases hb : i ≤ 127
    · rw [if_pos (show nI i ≤ 127 from nI_le (b := 127) hb (by decide)), ih (j + 1) (by omega), decide_eq_true (show (byV y (nI j)).toInt ≤ 127 by omega), Bool.true_and]
    · rw [if_neg (show ¬ nI i ≤ 127 from nI_ge (a := 127) (by omega) (by omega)), decide_eq_false (show ¬ (byV y (nI j)).toInt ≤ 127 by omega), Bool.false_and, if_neg (by decide)]
theorem m_f16 {y : Int64} {n : Nat} {σ : Mem} (hn : n ≤ 8) : ∀ m j, j + m = n → am_go CX10_feed 16 [.ref 160, .int (nI n), .long y, .null, .int (nI j)] [] σ = if okB y m j = true then am_go CX10_feed 16 [.ref 160, .int (nI n), .long y, .null, .int (nI n)] [] σ else some (some (.int (-2)), σ) := by
  intro m
  induction m with
  | zero => intro j hj; have : j = n := by omega
            subst this; rw [okB, if_pos rfl]
  | succ m ih =>
    intro j hj
    rw [blX10_feed_16, if_neg (nI_ge (by omega) (by omega)), nI_1]
    obtain ⟨i, hi, e1, e2⟩ := byV_in y (nI j)
    show (if lg_cmp (byV y (nI j)) 127 ≤ 0 then _ else _) = _
    rw [okB]
    by_cases hb : i ≤ 127
    · rw [if_pos ((lg_cmp_le _ _).mpr (by rw [Int64.le_iff_toInt_le, show (127 : Int64).toInt = 127 from rfl]; omega)), ih (j + 1) (by omega), decide_eq_true (show (byV y (nI j)).toInt ≤ 127 by omega), Bool.true_and]
    · rw [if_neg (fun e => by have := (lg_cmp_le _ _).mp e; rw [Int64.le_iff_toInt_le, show (127 : Int64).toInt = 127 from rfl] at this; omega), decide_eq_false (show ¬ (byV y (nI j)).toInt ≤ 127 by omega), Bool.false_and, if_neg (by decide)]
def tpC (t : List Int32) (σ : Mem) : Prop := σ 45 1 = nI t.length ∧ ∀ i b, t[i]? = some b → σ 46 i = b
def tpM (t : List Int32) (σ : Mem) : Prop := σ 160 14 = nI t.length ∧ ∀ i b, t[i]? = some b → σ 171 i = b
theorem t_f62 {y : Int64} {n : Nat} (hn : n ≤ 8) : ∀ (m j : Nat) (t : List Int32) (σ : Mem), j + m = n → okB y m j = true → t.length + m ≤ 120 → tpC t σ → ∃ σ', am_go CX9_feed 62 [.ref 0, .int (nI n), .long y, .null, .int (nI j)] [] σ = some (some (.int (nI (t.length + m))), σ') ∧ tpC (t ++ blB y m j) σ' ∧ ∀ a, a ≠ 45 → a ≠ 46 → σ' a = σ a := by
  intro m
  induction m with
  | zero =>
    intro j t σ hj hb hl h
    have : j = n := by omega
    subst this
    rw [blX9_feed_62, if_pos (Int32.le_refl _), oc c8, rf0_6, oc (by rw [sh45]), h.1, blB, List.append_nil]
    exact ⟨σ, rfl, h, fun _ _ _ => rfl⟩
  | succ m ih =>
    intro j t σ hj hb hl h
    rw [okB, Bool.and_eq_true] at hb
    obtain ⟨i, hi, e1, e2⟩ := byV_in y (nI j)
    have hi' : i < 128 := by have := of_decide_eq_true hb.1; omega
    have hq : tpC (t ++ [nI i]) (setM (setM σ 46 t.length (nI i)) 45 1 (nI (t.length + 1))) := by
      refine ⟨by rw [sM_eq, List.length_append]; rfl, fun q b hq => ?_⟩
      rw [sM_a (by decide)]
      rcases snoc_get hq with ⟨h1, h2⟩ | ⟨rfl, rfl⟩
      · rw [sM_i (by omega)]; exact h.2 q b h2
      · rw [sM_eq]
    have hl' : (t ++ [nI i]).length = t.length + 1 := by rw [List.length_append]; rfl
    obtain ⟨σ', e, r, f⟩ := ih (j + 1) (t ++ [nI i]) _ (by omega) hb.2 (by rw [hl']; omega) hq
    rw [hl'] at e
    rw [List.append_assoc, List.singleton_append] at r
    refine ⟨σ', ?_, by rw [blB, e2]; exact r, fun a ha hb => by rw [f a ha hb, sM_a ha, sM_a hb]⟩
    rw [blX9_feed_62, if_neg (nI_ge (by omega) (by omega)), oc c8, enX9_byteOf, rI]
    show o_cls (rf 0 6) 7 (o_rV (FX8_add [.ref (rf 0 6), .int (byV y (nI j)).toInt32] σ) _) = _
    rw [e2, rf0_6, oc (by rw [sh45]), enX8_add, oc (by rw [sh45]), h.1, if_neg (show ¬ (120 : Int32) ≤ nI t.length from nI_ge (b := 120) (by omega) (by decide)), rf45_0, oc (by rw [sh45]), oc (by rw [sh45]), ox (by rw [sh46]) (by rw [sh46]; show t.length < 120; omega), oc (by rw [sh45]), oc (by rw [sh45]), rV, cl t.length (by omega), by8 hi', sM_a (show 45 ≠ 46 by decide), h.1, nI_1, nI_1, e, show t.length + 1 + m = t.length + (m + 1) by omega]
theorem m_f66 {y : Int64} {n : Nat} (hn : n ≤ 8) : ∀ (m j : Nat) (t : List Int32) (σ : Mem), j + m = n → okB y m j = true → t.length + m ≤ 120 → tpM t σ → ∃ σ', am_go CX10_feed 66 [.ref 160, .int (nI n), .long y, .null, .int (nI j)] [] σ = some (some (.int (nI (t.length + m))), σ') ∧ tpM (t ++ blB y m j) σ' ∧ (∀ a, a ≠ 160 → a ≠ 171 → σ' a = σ a) ∧ ∀ i, i ≠ 14 → σ' 160 i = σ 160 i := by
  intro m
  induction m with
  | zero =>
    intro j t σ hj hb hl h
    have : j = n := by omega
    subst this
    rw [blX10_feed_66, if_pos (Int32.le_refl _), oc m9, h.1, blB, List.append_nil]
    exact ⟨σ, rfl, h, fun _ _ _ => rfl, fun _ _ => rfl⟩
  | succ m ih =>
    intro j t σ hj hb hl h
    rw [okB, Bool.and_eq_true] at hb
    obtain ⟨i, hi, e1, e2⟩ := byV_in y (nI j)
    have hq : tpM (t ++ [nI i]) (setM (setM σ 171 t.length (nI i)) 160 14 (nI (t.length + 1))) := by
      refine ⟨by rw [sM_eq, List.length_append]; rfl, fun q b hq => ?_⟩
      rw [sM_a (by decide)]
      rcases snoc_get hq with ⟨h1, h2⟩ | ⟨rfl, rfl⟩
      · rw [sM_i (by omega)]; exact h.2 q b h2
      · rw [sM_eq]
    have hl' : (t ++ [nI i]).length = t.length + 1 := by rw [List.length_append]; rfl
    obtain ⟨σ', e, r, f, f'⟩ := ih (j + 1) (t ++ [nI i]) _ (by omega) hb.2 (by rw [hl']; omega) hq
    rw [hl'] at e
    rw [List.append_assoc, List.singleton_append] at r
    refine ⟨σ', ?_, by rw [blB, e2]; exact r, fun a ha hb => by rw [f a ha hb, sM_a ha, sM_a hb], fun q hq => by rw [f' q hq, sM_i hq, sM_a (by decide)]⟩
    rw [blX10_feed_66, if_neg (nI_ge (by omega) (by omega))]
    show o_cls 160 9 (o_cls 160 9 (o_ix 100 (rf 160 13) (σ 160 14) (o_cls 160 9 (o_cls 160 9 (am_go CX10_feed 66 [.ref 160, .int (nI n), .long y, .null, .int (nI j + 1)] [] (setM (setM σ (rf 160 13) (σ 160 14).toNatClampNeg (byV y (nI j)).toInt32) 160 14 (setM σ (rf 160 13) (σ 160 14).toNatClampNeg (byV y (nI j)).toInt32 160 14 + 1))))))) = _
    rw [e2, h.1, rf160_13, oc m9, oc m9, xi (show t.length < 120 by omega) sh171, oc m9, oc m9, cl t.length (by omega), sM_a (show 160 ≠ 171 by decide), h.1, nI_1, nI_1, e, show t.length + 1 + m = t.length + (m + 1) by omega]
theorem op_feed {σ : Mem} (h : Rel σ) (x1 : Int32) (y : Int64) : OpOK (FX9_feed [.ref 0, .int x1, .long y]) (FX10_feed [.ref 160, .int x1, .long y]) σ := by
  by_cases h1 : 1 ≤ x1 ∧ x1 ≤ 8
  · have h0 := h
    obtain ⟨Z, hZ, hC, hM⟩ := h
    obtain ⟨n, hn1, hn, rfl⟩ := n_of (n := 1) (m := 8) rfl rfl (by decide) (by decide) h1
    have P9 := t_f16 (y := y) (σ := σ) hn n 0 (by omega)
    have P10 := fun σ1 => m_f16 (y := y) (σ := σ1) hn n 0 (by omega)
    by_cases hb : okB y n 0 = true
    · rw [if_pos hb] at P9
      have ht := hZ.2.2.1.1
      by_cases hl : Z.2.2.1.length + n ≤ 120
      · have hl' : nI Z.2.2.1.length + nI n ≤ 120 := by rw [nI_add]; exact nI_le (b := 120) hl (by decide)
        have hok : okTp (Z.2.2.1 ++ blB y n 0) := ⟨by rw [List.length_append, blB_len]; exact hl, fun b hb' => by
          rcases List.mem_append.mp hb' with hq | hq
          · exact hZ.2.2.1.2 b hq
          · exact blB_ok y n 0 hb b hq⟩
        refine op_of (Z' := zCo Z 0 (Z.2.1 0) (Z.2.2.1 ++ blB y n 0)) (r := nI (Z.2.2.1.length + n)) hZ hM (hZ.co (hZ.2.1 0 (by decide)) hok) ?_ (fun σ1 hM1 => ?_)
        · obtain ⟨σ2, e2, r2, f2⟩ := t_f62 (y := y) hn n 0 Z.2.2.1 σ (by omega) hb hl hC.2.2.1
          refine ⟨σ2, ?_, hC.co hZ (by decide) ((hC.2.1 0 (by decide)).fr (fun a ha => f2 a (by omega) (by omega))) r2.1 r2.2 (fun a ha => f2 a (by omega) (by omega)) (by rw [f2 0 (by decide) (by decide)]), fun a ha => f2 a (by omega) (by omega)⟩
          rw [enX9_feed, t_isWithin, rI, ifb, if_pos h1, show am_go CX9_feed 16 [.ref 0, .int (nI n), .long y, .null, .int 0] [] σ = _ from P9, blX9_feed_16, if_pos (Int32.le_refl _), oc c8, rf0_6, oc (by rw [sh45]), hC.2.2.1.1, if_pos hl']
          exact e2
        · obtain ⟨σ2, e2, r2, f2, f3⟩ := m_f66 (y := y) hn n 0 Z.2.2.1 σ1 (by omega) hb hl hM1.2.2.1
          have hc0 := hM1.2.1 0 (by decide)
          refine ⟨σ2, ?_, hM1.co hZ (by decide) ?_ (fun q hq hqc => ⟨?_, fun i hi => ?_, fun i hi => ?_⟩) r2.1 r2.2 (fun a ha => f2 a (by omega) (by omega)) (fun j hj => f3 j (by omega)), fun a ha => f2 a (by omega) (by omega)⟩
          · have p := P10 σ1
            rw [if_pos hb] at p
            rw [enX10_feed, t_isIn, rI, ifb, if_pos h1, show am_go CX10_feed 16 [.ref 160, .int (nI n), .long y, .null, .int 0] [] σ1 = _ from p, blX10_feed_16, if_pos (Int32.le_refl _), oc m9, hM1.2.2.1.1, if_pos hl']
            exact e2
          · unfold repCm at hc0 ⊢
            rw [f2 168 (by decide) (by decide), f2 169 (by decide) (by decide), f2 170 (by decide) (by decide)]
            exact hc0
          · rw [f2 168 (by decide) (by decide)]
          · rw [f2 170 (by decide) (by decide)]
          · rw [f2 169 (by decide) (by decide)]
      · have hl' : ¬ nI Z.2.2.1.length + nI n ≤ 120 := by rw [nI_add]; exact nI_ge (a := 120) (by omega) (by omega)
        have p := P10 σ
        rw [if_pos hb] at p
        exact op_same (r := -4) h0 (by rw [enX9_feed, t_isWithin, rI, ifb, if_pos h1, show am_go CX9_feed 16 [.ref 0, .int (nI n), .long y, .null, .int 0] [] σ = _ from P9, blX9_feed_16, if_pos (Int32.le_refl _), oc c8, rf0_6, oc (by rw [sh45]), hC.2.2.1.1, if_neg hl']) (by rw [enX10_feed, t_isIn, rI, ifb, if_pos h1, show am_go CX10_feed 16 [.ref 160, .int (nI n), .long y, .null, .int 0] [] σ = _ from p, blX10_feed_16, if_pos (Int32.le_refl _), oc m9, hM.2.2.1.1, if_neg hl'])
    · rw [if_neg hb] at P9
      have p := P10 σ
      rw [if_neg hb] at p
      exact op_same (r := -2) h0 (by rw [enX9_feed, t_isWithin, rI, ifb, if_pos h1, show am_go CX9_feed 16 [.ref 0, .int (nI n), .long y, .null, .int 0] [] σ = _ from P9]) (by rw [enX10_feed, t_isIn, rI, ifb, if_pos h1, show am_go CX10_feed 16 [.ref 160, .int (nI n), .long y, .null, .int 0] [] σ = _ from p])
  · exact op_same (r := -2) h (by rw [enX9_feed, t_isWithin, rI, ifb, if_neg h1]) (by rw [enX10_feed, t_isIn, rI, ifb, if_neg h1])
