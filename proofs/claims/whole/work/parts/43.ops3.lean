/-! loads: of, rises, move, anew, take, taken -/
theorem t_isLoad' {σ : Mem} {n : Nat} (h : σ 1 4 = nI n) (v : Int32) : FX9_isLoad [.ref 0, .int v] σ = some (some (.int (if 0 ≤ v ∧ v ≤ nI n - 1 then 1 else 0)), σ) := by rw [t_isLoad, h]
theorem t_mLoad' {σ : Mem} {n : Nat} (h : σ 160 2 = nI n) (v : Int32) : FX10_isLoad [.ref 160, .int v] σ = some (some (.int (if 0 ≤ v ∧ v ≤ nI n - 1 then 1 else 0)), σ) := by rw [t_mLoad, h]
theorem op_of_ {σ : Mem} (h : Rel σ) (x1 x2 : Int32) : OpOK (FX9_of [.ref 0, .int x1, .int x2]) (FX10_of [.ref 160, .int x1, .int x2]) σ := by
  have h0 := h
  obtain ⟨Z, hZ, hC, hM⟩ := h
  have c4 := hC.1.2.2.2.1
  have n4 := hM.1.2.2.1
  have h8 := hZ.1.1.1
  by_cases hx : 0 ≤ x1 ∧ x1 ≤ nI Z.1.2.2.1.length - 1
  · obtain ⟨i, hi, rfl⟩ := ld_in h8 hx
    have hi8 : i < 8 := by omega
    obtain ⟨d, hd⟩ : ∃ d, Z.1.2.2.1[i]? = some d := ⟨_, List.getElem?_eq_getElem hi⟩
    have hok := hZ.1.1.2 d (List.mem_of_getElem? hd)
    have r := hC.1.2.2.2.2.2.2 i d hd
    have m := hM.1.2.2.2.2.2 i d hd
    obtain ⟨z, hz, hzd⟩ := hok.2.2.1
    by_cases a0 : x2 = 0
    · exact op_same (r := d.1) h0 (by rw [enX9_of, oc c8, t_isLoad' c4, rI, ifb, if_pos hx, oc c8, rf0_0, oc k1, kr3 k1, x8 (ks4 k1) hi8, cl i (by omega), klr k1 hi8, if_pos a0, oc (kls k1 hi8), r.1]) (by rw [enX10_of, oc m9, t_mLoad' n4, rI, ifb, if_pos hx, if_pos a0, oc m9, rf160_3, xi hi8 sh163, cl i (by omega), m.1])
    by_cases a1 : x2 = 1
    · exact op_same (r := d.2.1) h0 (by rw [enX9_of, oc c8, t_isLoad' c4, rI, ifb, if_pos hx, oc c8, rf0_0, oc k1, kr3 k1, x8 (ks4 k1) hi8, cl i (by omega), klr k1 hi8, if_neg a0, if_pos a1, oc (kls k1 hi8), r.2.1]) (by rw [enX10_of, oc m9, t_mLoad' n4, rI, ifb, if_pos hx, if_neg a0, if_pos a1, oc m9, rf160_4, xi hi8 sh164, cl i (by omega), m.2.1])
    by_cases a2 : x2 = 2
    · exact op_same (r := d.2.2.1) h0 (by rw [enX9_of, oc c8, t_isLoad' c4, rI, ifb, if_pos hx, oc c8, rf0_0, oc k1, kr3 k1, x8 (ks4 k1) hi8, cl i (by omega), klr k1 hi8, if_neg a0, if_neg a1, if_pos a2, oc (kls k1 hi8), r.2.2.1]) (by rw [enX10_of, oc m9, t_mLoad' n4, rI, ifb, if_pos hx, if_neg a0, if_neg a1, if_pos a2, oc m9, rf160_5, xi hi8 sh165, cl i (by omega), m.2.2.1])
    by_cases a3 : x2 = 3
    · exact op_same (r := d.2.2.2.1) h0 (by rw [enX9_of, oc c8, t_isLoad' c4, rI, ifb, if_pos hx, oc c8, rf0_0, oc k1, kr3 k1, x8 (ks4 k1) hi8, cl i (by omega), klr k1 hi8, if_neg a0, if_neg a1, if_neg a2, if_pos a3, oc (kls k1 hi8), r.2.2.2.1]) (by rw [enX10_of, oc m9, t_mLoad' n4, rI, ifb, if_pos hx, if_neg a0, if_neg a1, if_neg a2, if_pos a3, oc m9, rf160_6, xi hi8 sh166, cl i (by omega), m.2.2.2.1])
    by_cases a4 : x2 = 4
    · exact op_same (r := d.2.2.2.2) h0 (by rw [enX9_of, oc c8, t_isLoad' c4, rI, ifb, if_pos hx, oc c8, rf0_0, oc k1, kr3 k1, x8 (ks4 k1) hi8, cl i (by omega), klr k1 hi8, if_neg a0, if_neg a1, if_neg a2, if_neg a3, if_pos a4, oc (kls k1 hi8), r.2.2.2.2.1]) (by rw [enX10_of, oc m9, t_mLoad' n4, rI, ifb, if_pos hx, if_neg a0, if_neg a1, if_neg a2, if_neg a3, if_pos a4, oc m9, rf160_7, xi hi8 sh167, cl i (by omega), m.2.2.2.2])
    by_cases a5 : x2 = 5
    · exact op_same (r := riseS d.1 d.2.1 (at3 Z.1.1 z)) h0 (by rw [enX9_of, oc c8, t_isLoad' c4, rI, ifb, if_pos hx, oc c8, rf0_0, oc k1, kr3 k1, x8 (ks4 k1) hi8, cl i (by omega), klr k1 hi8, if_neg a0, if_neg a1, if_neg a2, if_neg a3, if_neg a4, if_pos a5, oc c8, oc k1, oc (kls k1 hi8), kr0 k1, r.2.2.1, hzd, x3 (ks1 k1) hz, oc (kls k1 hi8), cl z (by omega), hC.1.1 z hz, t_rise (kls k1 hi8) r, rI]) (by rw [enX10_of, oc m9, t_mLoad' n4, rI, ifb, if_pos hx, if_neg a0, if_neg a1, if_neg a2, if_neg a3, if_neg a4, if_pos a5, oc m9, oc m9, rf160_5, xi hi8 sh165, cl i (by omega), m.2.2.1, hzd, rf160_0, xi hz sh161, oc m9, cl z (by omega), hM.1.1 z hz, m_rise hi8 m, rI])
    by_cases a6 : x2 = 6
    · exact op_same (r := fallS d.1) h0 (by rw [enX9_of, oc c8, t_isLoad' c4, rI, ifb, if_pos hx, oc c8, rf0_0, oc k1, kr3 k1, x8 (ks4 k1) hi8, cl i (by omega), klr k1 hi8, if_neg a0, if_neg a1, if_neg a2, if_neg a3, if_neg a4, if_neg a5, if_pos a6, oc (kls k1 hi8), r.2.2.2.2.2.1]) (by rw [enX10_of, oc m9, t_mLoad' n4, rI, ifb, if_pos hx, if_neg a0, if_neg a1, if_neg a2, if_neg a3, if_neg a4, if_neg a5, if_pos a6, oc m9, m_falls hi8 m hok, rI])
    by_cases a7 : x2 = 7
    · exact op_same (r := topS d.1) h0 (by rw [enX9_of, oc c8, t_isLoad' c4, rI, ifb, if_pos hx, oc c8, rf0_0, oc k1, kr3 k1, x8 (ks4 k1) hi8, cl i (by omega), klr k1 hi8, if_neg a0, if_neg a1, if_neg a2, if_neg a3, if_neg a4, if_neg a5, if_neg a6, if_pos a7, oc (kls k1 hi8), r.2.2.2.2.2.2.1]) (by rw [enX10_of, oc m9, t_mLoad' n4, rI, ifb, if_pos hx, if_neg a0, if_neg a1, if_neg a2, if_neg a3, if_neg a4, if_neg a5, if_neg a6, if_pos a7, oc m9, m_top hi8 m hok, rI])
    by_cases a8 : x2 = 8
    · exact op_same (r := needS d.1 d.2.1) h0 (by rw [enX9_of, oc c8, t_isLoad' c4, rI, ifb, if_pos hx, oc c8, rf0_0, oc k1, kr3 k1, x8 (ks4 k1) hi8, cl i (by omega), klr k1 hi8, if_neg a0, if_neg a1, if_neg a2, if_neg a3, if_neg a4, if_neg a5, if_neg a6, if_neg a7, if_pos a8, oc (kls k1 hi8), r.2.2.2.2.2.2.2.1]) (by rw [enX10_of, oc m9, t_mLoad' n4, rI, ifb, if_pos hx, if_neg a0, if_neg a1, if_neg a2, if_neg a3, if_neg a4, if_neg a5, if_neg a6, if_neg a7, if_pos a8, oc m9, m_need hi8 m hok, rI])
    by_cases a9 : x2 = 9
    · exact op_same (r := meltsS d.1) h0 (by rw [enX9_of, oc c8, t_isLoad' c4, rI, ifb, if_pos hx, oc c8, rf0_0, oc k1, kr3 k1, x8 (ks4 k1) hi8, cl i (by omega), klr k1 hi8, if_neg a0, if_neg a1, if_neg a2, if_neg a3, if_neg a4, if_neg a5, if_neg a6, if_neg a7, if_neg a8, if_pos a9, oc (kls k1 hi8), r.2.2.2.2.2.2.2.2.1]) (by rw [enX10_of, oc m9, t_mLoad' n4, rI, ifb, if_pos hx, if_neg a0, if_neg a1, if_neg a2, if_neg a3, if_neg a4, if_neg a5, if_neg a6, if_neg a7, if_neg a8, if_pos a9, oc m9, m_melts hi8 m hok, rI])
    by_cases a10 : x2 = 10
    · exact op_same (r := massS d.1 d.2.1) h0 (by rw [enX9_of, oc c8, t_isLoad' c4, rI, ifb, if_pos hx, oc c8, rf0_0, oc k1, kr3 k1, x8 (ks4 k1) hi8, cl i (by omega), klr k1 hi8, if_neg a0, if_neg a1, if_neg a2, if_neg a3, if_neg a4, if_neg a5, if_neg a6, if_neg a7, if_neg a8, if_neg a9, if_pos a10, oc (kls k1 hi8), r.2.2.2.2.2.2.2.2.2]) (by rw [enX10_of, oc m9, t_mLoad' n4, rI, ifb, if_pos hx, if_neg a0, if_neg a1, if_neg a2, if_neg a3, if_neg a4, if_neg a5, if_neg a6, if_neg a7, if_neg a8, if_neg a9, if_pos a10, oc m9, m_mass hi8 m hok, rI])
    exact op_same (r := -2) h0 (by rw [enX9_of, oc c8, t_isLoad' c4, rI, ifb, if_pos hx, oc c8, rf0_0, oc k1, kr3 k1, x8 (ks4 k1) hi8, cl i (by omega), klr k1 hi8, if_neg a0, if_neg a1, if_neg a2, if_neg a3, if_neg a4, if_neg a5, if_neg a6, if_neg a7, if_neg a8, if_neg a9, if_neg a10]) (by rw [enX10_of, oc m9, t_mLoad' n4, rI, ifb, if_pos hx, if_neg a0, if_neg a1, if_neg a2, if_neg a3, if_neg a4, if_neg a5, if_neg a6, if_neg a7, if_neg a8, if_neg a9, if_neg a10])
  · exact op_same (r := -2) h0 (by rw [enX9_of, oc c8, t_isLoad' c4, rI, ifb, if_neg hx]) (by rw [enX10_of, oc m9, t_mLoad' n4, rI, ifb, if_neg hx])
theorem op_rises {σ : Mem} (h : Rel σ) (x1 x2 : Int32) : OpOK (FX9_rises [.ref 0, .int x1, .int x2]) (FX10_rises [.ref 160, .int x1, .int x2]) σ := by
  have h0 := h
  obtain ⟨Z, hZ, hC, hM⟩ := h
  have c4 := hC.1.2.2.2.1
  have n4 := hM.1.2.2.1
  have h8 := hZ.1.1.1
  by_cases hx : 0 ≤ x1 ∧ x1 ≤ nI Z.1.2.2.1.length - 1
  · by_cases hh : 0 ≤ x2 ∧ x2 ≤ 1300
    · obtain ⟨i, hi, rfl⟩ := ld_in h8 hx
      have hi8 : i < 8 := by omega
      obtain ⟨d, hd⟩ : ∃ d, Z.1.2.2.1[i]? = some d := ⟨_, List.getElem?_eq_getElem hi⟩
      have r := hC.1.2.2.2.2.2.2 i d hd
      have m := hM.1.2.2.2.2.2 i d hd
      exact op_same (r := riseS d.1 d.2.1 x2) h0 (by rw [enX9_rises, oc c8, t_isLoad' c4, rI, ifb, if_pos hx, t_isHeat, rI, ifb, if_pos hh, oc c8, rf0_0, oc k1, kr3 k1, x8 (ks4 k1) hi8, cl i (by omega), klr k1 hi8, oc (kls k1 hi8), t_rise (kls k1 hi8) r, rI]) (by rw [enX10_rises, oc m9, t_mLoad' n4, rI, ifb, if_pos hx, t_mHeat, rI, ifb, if_pos hh, oc m9, m_rise hi8 m, rI])
    · exact op_same (r := -2) h0 (by rw [enX9_rises, oc c8, t_isLoad' c4, rI, ifb, if_pos hx, t_isHeat, rI, ifb, if_neg hh]) (by rw [enX10_rises, oc m9, t_mLoad' n4, rI, ifb, if_pos hx, t_mHeat, rI, ifb, if_neg hh])
  · exact op_same (r := -2) h0 (by rw [enX9_rises, oc c8, t_isLoad' c4, rI, ifb, if_neg hx]) (by rw [enX10_rises, oc m9, t_mLoad' n4, rI, ifb, if_neg hx])
def setL (S : KS) (i : Nat) (d : Ld) : KS := (S.1, S.2.1, S.2.2.1.set i d, S.2.2.2)
theorem okS.set {S : KS} {i : Nat} {d : Ld} (h : okS S) (hd : okL d) : okS (setL S i d) := by
  refine ⟨by show (S.2.2.1.set i d).length ≤ 8; rw [List.length_set]; exact h.1, fun e he => ?_⟩
  rcases List.mem_or_eq_of_mem_set he with h1 | h1
  · exact h.2 e h1
  · rw [h1]; exact hd
theorem set_get {L : List Ld} {i j : Nat} {d e : Ld} (h : (L.set i d)[j]? = some e) : (j = i ∧ e = d) ∨ (j ≠ i ∧ L[j]? = some e) := by
  by_cases hj : j = i
  · subst hj
    rw [List.getElem?_set_self'] at h
    cases hl : L[j]? with
    | none => rw [hl] at h; cases h
    | some w => rw [hl] at h; cases h; exact Or.inl ⟨rfl, rfl⟩
  · rw [List.getElem?_set_ne (Ne.symm hj)] at h
    exact Or.inr ⟨hj, h⟩
theorem massF_set (z : Nat) : ∀ (L : List Ld) (i : Nat) (d e : Ld) (acc : Int32), L[i]? = some d → e.1 = d.1 → e.2.1 = d.2.1 → e.2.2.1 = d.2.2.1 → (L.set i e).foldl (fun m d => m + (if d.2.2.1 = nI z then massS d.1 d.2.1 else 0)) acc = L.foldl (fun m d => m + (if d.2.2.1 = nI z then massS d.1 d.2.1 else 0)) acc := by
  intro L
  induction L with
  | nil => intro i d e acc h; cases h
  | cons a L ih =>
    intro i d e acc h h1 h2 h3
    cases i with
    | zero =>
      cases h
      show List.foldl _ acc (e :: L) = _
      rw [List.foldl_cons, List.foldl_cons, h1, h2, h3]
    | succ i =>
      show List.foldl _ acc (a :: L.set i e) = _
      rw [List.foldl_cons, List.foldl_cons]
      exact ih i d e _ h h1 h2 h3
theorem op_anew {σ : Mem} (h : Rel σ) (x1 : Int32) : OpOK (FX9_anew [.ref 0, .int x1]) (FX10_anew [.ref 160, .int x1]) σ := by
  have h0 := h
  obtain ⟨Z, hZ, hC, hM⟩ := h
  have c4 := hC.1.2.2.2.1
  have n4 := hM.1.2.2.1
  have h8 := hZ.1.1.1
  by_cases hx : 0 ≤ x1 ∧ x1 ≤ nI Z.1.2.2.1.length - 1
  · obtain ⟨i, hi, rfl⟩ := ld_in h8 hx
    have hi8 : i < 8 := by omega
    obtain ⟨d, hd⟩ : ∃ d, Z.1.2.2.1[i]? = some d := ⟨_, List.getElem?_eq_getElem hi⟩
    have hok := hZ.1.1.2 d (List.mem_of_getElem? hd)
    have r := hC.1.2.2.2.2.2.2 i d hd
    have ok' : okL (d.1, d.2.1, d.2.2.1, 0, 0) := ⟨hok.1, hok.2.1, hok.2.2.1, Or.inl rfl⟩
    refine op_of (Z' := (setL Z.1 i (d.1, d.2.1, d.2.2.1, 0, 0), Z.2)) (r := d.2.2.2.2) hZ hM ⟨⟨hZ.1.1.set ok', hZ.1.2⟩, hZ.2⟩ ?_ (fun σ1 hM1 => ?_)
    · rw [enX9_anew, oc c8, t_isLoad' c4, rI, ifb, if_pos hx, oc c8, rf0_0, oc k1, kr3 k1, x8 (ks4 k1) hi8, cl i (by omega), klr k1 hi8, oc (kls k1 hi8), oc c8, oc k1, x8 (ks4 k1) hi8, oc (kls k1 hi8), enX4_makeRaw, oc (kls k1 hi8), oc (kls k1 hi8), rV, r.2.2.2.2.1]
      have g : ∀ a, a ≠ 1 + 6 + i → setM (setM σ (1 + 6 + i) 3 0) (1 + 6 + i) 4 0 a = σ a := fun a ha => by rw [sM_a ha, sM_a ha]
      refine ⟨_, rfl, ⟨?_, hC.2.fr hZ.2 (kp_blk (fun a ha => g a (by omega)))⟩, fun a ha => g a (by omega)⟩
      obtain ⟨h1, h2, h3, h4, h5, h6, h7⟩ := hC.1
      refine ⟨fun z hz => ?_, fun z hz => ?_, fun z hz => ?_, ?_, ?_, ?_, fun j e he => ?_⟩
      · rw [g _ (by omega)]; exact h1 z hz
      · rw [g _ (by omega)]; exact h2 z hz
      · rw [g _ (by omega), h3 z hz]; exact (massF_set z Z.1.2.2.1 i d (d.1, d.2.1, d.2.2.1, 0, 0) 0 hd rfl rfl rfl).symm
      · rw [g _ (by omega), h4]; show _ = nI (Z.1.2.2.1.set i _).length; rw [List.length_set]
      · rw [g _ (by omega)]; exact h5
      · rw [g _ (by omega)]; exact h6
      · rcases set_get he with ⟨rfl, rfl⟩ | ⟨hj, hj2⟩
        · obtain ⟨r0, r1, r2, r3, r4, r5, r6, r7, r8, r9⟩ := r
          simp [repL, sM, r0, r1, r2, r5, r6, r7, r8, r9]
        · rw [g _ (by omega)]; exact h7 j e hj2
    · obtain ⟨h1, h2, h3, h4, h5, h6⟩ := hM1.1
      have m := h6 i d hd
      rw [enX10_anew, oc m9, t_mLoad' h3, rI, ifb, if_pos hx, oc m9, rf160_7, xi hi8 sh167, oc m9, xi hi8 sh167, oc m9, rf160_6, xi hi8 sh166, cl i (by omega), m.2.2.2.2]
      have g : ∀ a, a ≠ 166 → a ≠ 167 → setM (setM σ1 167 i 0) 166 i 0 a = σ1 a := fun a ha hb => by rw [sM_a ha, sM_a hb]
      refine ⟨_, rfl, ⟨⟨fun z hz => ?_, fun z hz => ?_, ?_, ?_, ?_, fun j e he => ?_⟩, hM1.2.fr ⟨fun a ha => g a (by omega) (by omega), by rw [g 160 (by decide) (by decide)], by rw [g 160 (by decide) (by decide)]⟩⟩, fun a ha => g a (by omega) (by omega)⟩
      · rw [g 161 (by decide) (by decide)]; exact h1 z hz
      · rw [g 162 (by decide) (by decide)]; exact h2 z hz
      · rw [g 160 (by decide) (by decide), h3]; show _ = nI (Z.1.2.2.1.set i _).length; rw [List.length_set]
      · rw [g 160 (by decide) (by decide)]; exact h4
      · rw [g 160 (by decide) (by decide)]; exact h5
      · rcases set_get he with ⟨rfl, rfl⟩ | ⟨hj, hj2⟩
        · obtain ⟨m0, m1, m2, m3, m4⟩ := m
          simp [repN, sM, m0, m1, m2]
        · have := h6 j e hj2
          unfold repN at this ⊢
          simp [sM, hj]
          exact this
  · exact op_same (r := -2) h0 (by rw [enX9_anew, oc c8, t_isLoad' c4, rI, ifb, if_neg hx]) (by rw [enX10_anew, oc m9, t_mLoad' n4, rI, ifb, if_neg hx])
theorem op_move {σ : Mem} (h : Rel σ) (x1 x2 : Int32) : OpOK (FX9_move [.ref 0, .int x1, .int x2]) (FX10_move [.ref 160, .int x1, .int x2]) σ := by
  have h0 := h
  obtain ⟨Z, hZ, hC, hM⟩ := h
  have c4 := hC.1.2.2.2.1
  have n4 := hM.1.2.2.1
  have h8 := hZ.1.1.1
  by_cases hx : 0 ≤ x1 ∧ x1 ≤ nI Z.1.2.2.1.length - 1
  · by_cases hy : 0 ≤ x2 ∧ x2 ≤ 2
    · obtain ⟨i, hi, rfl⟩ := ld_in h8 hx
      have hi8 : i < 8 := by omega
      obtain ⟨d, hd⟩ : ∃ d, Z.1.2.2.1[i]? = some d := ⟨_, List.getElem?_eq_getElem hi⟩
      have hok := hZ.1.1.2 d (List.mem_of_getElem? hd)
      have r := hC.1.2.2.2.2.2.2 i d hd
      have ok' : okL (d.1, d.2.1, x2, d.2.2.2.1, d.2.2.2.2) := by
        obtain ⟨z, hz, e⟩ := n2 hy
        exact ⟨hok.1, hok.2.1, ⟨z, hz, e⟩, hok.2.2.2⟩
      refine op_of (Z' := (setL Z.1 i (d.1, d.2.1, x2, d.2.2.2.1, d.2.2.2.2), Z.2)) (r := d.2.2.1) hZ hM ⟨⟨hZ.1.1.set ok', hZ.1.2⟩, hZ.2⟩ ?_ (fun σ1 hM1 => ?_)
      · obtain ⟨h1, h2, h3, h4, h5, h6, h7⟩ := hC.1
        have hS' := hZ.1.1.set (i := i) ok'
        obtain ⟨σ2, e2, m2, f2⟩ := t_weigh (σ := setM σ (1 + 6 + i) 2 x2) (L := Z.1.2.2.1.set i (d.1, d.2.1, x2, d.2.2.2.1, d.2.2.2.2)) k1 hS'.1 hS'.2 (by rw [sM_a (by omega), h4, List.length_set]) (by
          intro j e he
          rcases set_get he with ⟨rfl, rfl⟩ | ⟨hj, hj2⟩
          · obtain ⟨r0, r1, r2, r3, r4, r5, r6, r7, r8, r9⟩ := r
            simp [repL, sM, r0, r1, r3, r4, r5, r6, r7, r8, r9]
          · rw [sM_a (by omega)]; exact h7 j e hj2)
        rw [enX9_move, oc c8, t_isLoad' c4, rI, ifb, if_pos hx, t_isZone, rI, ifb, if_pos hy, oc c8, rf0_0, oc k1, kr3 k1, x8 (ks4 k1) hi8, cl i (by omega), klr k1 hi8, oc (kls k1 hi8), oc c8, oc k1, x8 (ks4 k1) hi8, oc (kls k1 hi8), oc c8, oc k1, e2, rV, r.2.2.1]
        have g : ∀ a, a ≠ 1 + 6 + i → a ≠ 1 + 3 → σ2 a = σ a := fun a ha hb => by rw [f2 a hb, sM_a ha]
        refine ⟨_, rfl, ⟨⟨fun z hz => ?_, fun z hz => ?_, m2, ?_, ?_, ?_, fun j e he => ?_⟩, hC.2.fr hZ.2 (kp_blk (fun a ha => g a (by omega) (by omega)))⟩, fun a ha => g a (by omega) (by omega)⟩
        · rw [g _ (by omega) (by omega)]; exact h1 z hz
        · rw [g _ (by omega) (by omega)]; exact h2 z hz
        · rw [g _ (by omega) (by omega), h4]; show _ = nI (Z.1.2.2.1.set i _).length; rw [List.length_set]
        · rw [g _ (by omega) (by omega)]; exact h5
        · rw [g _ (by omega) (by omega)]; exact h6
        · rcases set_get he with ⟨rfl, rfl⟩ | ⟨hj, hj2⟩
          · rw [f2 _ (by omega)]
            obtain ⟨r0, r1, r2, r3, r4, r5, r6, r7, r8, r9⟩ := r
            simp [repL, sM, r0, r1, r3, r4, r5, r6, r7, r8, r9]
          · rw [g _ (by omega) (by omega)]; exact h7 j e hj2
      · obtain ⟨h1, h2, h3, h4, h5, h6⟩ := hM1.1
        have m := h6 i d hd
        rw [enX10_move, oc m9, t_mLoad' h3, rI, ifb, if_pos hx, t_mZone, rI, ifb, if_pos hy, oc m9, rf160_5, xi hi8 sh165, oc m9, xi hi8 sh165, cl i (by omega), m.2.2.1]
        have g : ∀ a, a ≠ 165 → setM σ1 165 i x2 a = σ1 a := fun a ha => sM_a ha
        refine ⟨_, rfl, ⟨⟨fun z hz => ?_, fun z hz => ?_, ?_, ?_, ?_, fun j e he => ?_⟩, hM1.2.fr ⟨fun a ha => g a (by omega), by rw [g 160 (by decide)], by rw [g 160 (by decide)]⟩⟩, fun a ha => g a (by omega)⟩
        · rw [g 161 (by decide)]; exact h1 z hz
        · rw [g 162 (by decide)]; exact h2 z hz
        · rw [g 160 (by decide), h3]; show _ = nI (Z.1.2.2.1.set i _).length; rw [List.length_set]
        · rw [g 160 (by decide)]; exact h4
        · rw [g 160 (by decide)]; exact h5
        · rcases set_get he with ⟨rfl, rfl⟩ | ⟨hj, hj2⟩
          · obtain ⟨m0, m1, m2, m3, m4⟩ := m
            simp [repN, sM, m0, m1, m3, m4]
          · have := h6 j e hj2
            unfold repN at this ⊢
            simp [sM, hj]
            exact this
    · exact op_same (r := -2) h0 (by rw [enX9_move, oc c8, t_isLoad' c4, rI, ifb, if_pos hx, t_isZone, rI, ifb, if_neg hy]) (by rw [enX10_move, oc m9, t_mLoad' n4, rI, ifb, if_pos hx, t_mZone, rI, ifb, if_neg hy])
  · exact op_same (r := -2) h0 (by rw [enX9_move, oc c8, t_isLoad' c4, rI, ifb, if_neg hx]) (by rw [enX10_move, oc m9, t_mLoad' n4, rI, ifb, if_neg hx])
def popL (S : KS) : KS := (S.1, S.2.1, S.2.2.1.take (S.2.2.1.length - 1), S.2.2.2)
theorem take_get {L : List Ld} {n j : Nat} {e : Ld} (h : (L.take n)[j]? = some e) : L[j]? = some e := by
  rw [List.getElem?_take] at h
  split at h
  · exact h
  · cases h
theorem op_take {σ : Mem} (h : Rel σ) : OpOK (FX9_take [.ref 0]) (FX10_take [.ref 160]) σ := by
  have h0 := h
  obtain ⟨Z, hZ, hC, hM⟩ := h
  have c4 := hC.1.2.2.2.1
  have n4 := hM.1.2.2.1
  have h8 := hZ.1.1.1
  by_cases hl : Z.1.2.2.1.length = 0
  · exact op_same (r := -3) h0 (by rw [enX9_take, oc c8, rf0_0, oc k1, c4, hl, if_neg (by decide)]) (by rw [enX10_take, oc m9, n4, hl, if_pos (by decide)])
  · obtain ⟨n, hn⟩ : ∃ n, Z.1.2.2.1.length = n + 1 := ⟨Z.1.2.2.1.length - 1, by omega⟩
    have hlen : (Z.1.2.2.1.take (Z.1.2.2.1.length - 1)).length = n := by rw [List.length_take]; omega
    have hS' : okS (popL Z.1) := ⟨by show (List.take _ _).length ≤ 8; rw [hlen]; omega, fun d hd => hZ.1.1.2 d (List.mem_of_mem_take hd)⟩
    refine op_of (Z' := (popL Z.1, Z.2)) (r := nI n) hZ hM ⟨⟨hS', hZ.1.2⟩, hZ.2⟩ ?_ (fun σ1 hM1 => ?_)
    · obtain ⟨h1, h2, h3, h4, h5, h6, h7⟩ := hC.1
      obtain ⟨σ2, e2, m2, f2⟩ := t_weigh (σ := setM σ 1 4 (nI n)) (L := Z.1.2.2.1.take (Z.1.2.2.1.length - 1)) k1 hS'.1 hS'.2 (by rw [sM_eq, hlen]) (by
        intro j e he
        rw [sM_a (by omega)]; exact h7 j e (take_get he))
      rw [enX9_take, oc c8, rf0_0, oc k1, c4, hn, if_pos (show (0 : Int32) < nI (n + 1) from nI_lt (a := 0) (by omega) (by omega)), oc c8, oc k1, oc k1, oc c8, oc k1, nI_pred, e2, rV, oc c8, oc k1, f2 1 (by decide), sM_eq]
      have g : ∀ a, a ≠ 1 → a ≠ 1 + 3 → σ2 a = σ a := fun a ha hb => by rw [f2 a hb, sM_a ha]
      refine ⟨_, rfl, ⟨⟨fun z hz => ?_, fun z hz => ?_, m2, ?_, ?_, ?_, fun j e he => ?_⟩, hC.2.fr hZ.2 (kp_blk (fun a ha => g a (by omega) (by omega)))⟩, fun a ha => g a (by omega) (by omega)⟩
      · rw [g _ (by omega) (by omega)]; exact h1 z hz
      · rw [g _ (by omega) (by omega)]; exact h2 z hz
      · rw [f2 1 (by decide), sM_eq]; exact congrArg nI hlen.symm
      · rw [f2 1 (by decide), sM_i (by decide)]; exact h5
      · rw [f2 1 (by decide), sM_i (by decide)]; exact h6
      · rw [g _ (by omega) (by omega)]; exact h7 j e (take_get he)
    · obtain ⟨h1, h2, h3, h4, h5, h6⟩ := hM1.1
      rw [enX10_take, oc m9, h3, hn, if_neg (nI_ne0 (by omega) (by omega)), oc m9, oc m9, oc m9, nI_pred, sM_eq]
      refine ⟨_, rfl, ⟨⟨fun z hz => ?_, fun z hz => ?_, ?_, ?_, ?_, fun j e he => ?_⟩, hM1.2.fr ⟨fun a ha => sM_a (by omega), sM_i (by decide), sM_i (by decide)⟩⟩, fun a ha => sM_a (by omega)⟩
      · rw [sM_a (by decide)]; exact h1 z hz
      · rw [sM_a (by decide)]; exact h2 z hz
      · rw [sM_eq]; exact congrArg nI hlen.symm
      · rw [sM_i (by decide)]; exact h4
      · rw [sM_i (by decide)]; exact h5
      · exact (h6 j e (take_get he)).fr (fun a _ _ => sM_a (by omega))
def undT (k a : Nat) : Bool := a == 0 || k == a || (a == 1 && (k == 3 || k == 5)) || (a == 2 && k == 4) || (a == 3 && k == 5)
theorem u_hit {a : Nat} {x1 x2 x3 : Int32} {σ : Mem} (h3 : ¬ (6 : Int32) ≤ x3) (h0 : ¬ x2 < 0) (h6 : ¬ (6 : Int32) ≤ x2) (e : x2 = x1) : am_go CX4_isUnder 7 [.ref a, .int x1, .int x2, .int x3] [] σ = some (some (.int 1), σ) := by
  rw [blX4_isUnder_7, if_neg h3, if_neg h0, if_neg h6, if_pos e, zr1]
theorem u_miss {a : Nat} {x1 x2 x3 y2 y3 : Int32} {σ : Mem} (h3 : ¬ (6 : Int32) ≤ x3) (h0 : ¬ x2 < 0) (h6 : ¬ (6 : Int32) ≤ x2) (e : ¬ x2 = x1) (hb : am_inb x2 6 = true) (hy : kaL.getD x2.toNatClampNeg 0 = y2) (h1 : x3 + 1 = y3) : am_go CX4_isUnder 7 [.ref a, .int x1, .int x2, .int x3] [] σ = am_go CX4_isUnder 7 [.ref a, .int x1, .int y2, .int y3] [] σ := by
  rw [blX4_isUnder_7, if_neg h3, if_neg h0, if_neg h6, if_neg e, hb, hy, h1]
  rfl
theorem u_end {a : Nat} {x1 x2 x3 : Int32} {σ : Mem} (h3 : ¬ (6 : Int32) ≤ x3) (h0 : x2 < 0) : am_go CX4_isUnder 7 [.ref a, .int x1, .int x2, .int x3] [] σ = some (some (.int 0), σ) := by
  rw [blX4_isUnder_7, if_neg h3, if_pos h0, zr0]
theorem t_under2 {a q j : Nat} {σ : Mem} (hs : (sh a).1 = 3) (hq : q < 6) (hj : j < 6) (h : σ a 0 = nI q) : FX4_isUnder [.ref a, .int (nI j)] σ = some (some (.int (if undT q j = true then 1 else 0)), σ) := by
  rw [enX4_isUnder, oc hs, h]
  match q, hq, j, hj with
  | 0, _, 0, _ => rw [u_hit (by decide) (by decide) (by decide) rfl]; rfl
  | 0, _, 1, _ => rw [u_miss (y2 := (-1)) (y3 := (nI 1)) (by decide) (by decide) (by decide) (by decide) (by decide +kernel) (by decide +kernel) (by decide +kernel), u_end (by decide) (by decide)]; rfl
  | 0, _, 2, _ => rw [u_miss (y2 := (-1)) (y3 := (nI 1)) (by decide) (by decide) (by decide) (by decide) (by decide +kernel) (by decide +kernel) (by decide +kernel), u_end (by decide) (by decide)]; rfl
  | 0, _, 3, _ => rw [u_miss (y2 := (-1)) (y3 := (nI 1)) (by decide) (by decide) (by decide) (by decide) (by decide +kernel) (by decide +kernel) (by decide +kernel), u_end (by decide) (by decide)]; rfl
  | 0, _, 4, _ => rw [u_miss (y2 := (-1)) (y3 := (nI 1)) (by decide) (by decide) (by decide) (by decide) (by decide +kernel) (by decide +kernel) (by decide +kernel), u_end (by decide) (by decide)]; rfl
  | 0, _, 5, _ => rw [u_miss (y2 := (-1)) (y3 := (nI 1)) (by decide) (by decide) (by decide) (by decide) (by decide +kernel) (by decide +kernel) (by decide +kernel), u_end (by decide) (by decide)]; rfl
  | 1, _, 0, _ => rw [u_miss (y2 := (nI 0)) (y3 := (nI 1)) (by decide) (by decide) (by decide) (by decide) (by decide +kernel) (by decide +kernel) (by decide +kernel), u_hit (by decide) (by decide) (by decide) rfl]; rfl
  | 1, _, 1, _ => rw [u_hit (by decide) (by decide) (by decide) rfl]; rfl
  | 1, _, 2, _ => rw [u_miss (y2 := (nI 0)) (y3 := (nI 1)) (by decide) (by decide) (by decide) (by decide) (by decide +kernel) (by decide +kernel) (by decide +kernel), u_miss (y2 := (-1)) (y3 := (nI 2)) (by decide) (by decide) (by decide) (by decide) (by decide +kernel) (by decide +kernel) (by decide +kernel), u_end (by decide) (by decide)]; rfl
  | 1, _, 3, _ => rw [u_miss (y2 := (nI 0)) (y3 := (nI 1)) (by decide) (by decide) (by decide) (by decide) (by decide +kernel) (by decide +kernel) (by decide +kernel), u_miss (y2 := (-1)) (y3 := (nI 2)) (by decide) (by decide) (by decide) (by decide) (by decide +kernel) (by decide +kernel) (by decide +kernel), u_end (by decide) (by decide)]; rfl
  | 1, _, 4, _ => rw [u_miss (y2 := (nI 0)) (y3 := (nI 1)) (by decide) (by decide) (by decide) (by decide) (by decide +kernel) (by decide +kernel) (by decide +kernel), u_miss (y2 := (-1)) (y3 := (nI 2)) (by decide) (by decide) (by decide) (by decide) (by decide +kernel) (by decide +kernel) (by decide +kernel), u_end (by decide) (by decide)]; rfl
  | 1, _, 5, _ => rw [u_miss (y2 := (nI 0)) (y3 := (nI 1)) (by decide) (by decide) (by decide) (by decide) (by decide +kernel) (by decide +kernel) (by decide +kernel), u_miss (y2 := (-1)) (y3 := (nI 2)) (by decide) (by decide) (by decide) (by decide) (by decide +kernel) (by decide +kernel) (by decide +kernel), u_end (by decide) (by decide)]; rfl
  | 2, _, 0, _ => rw [u_miss (y2 := (nI 0)) (y3 := (nI 1)) (by decide) (by decide) (by decide) (by decide) (by decide +kernel) (by decide +kernel) (by decide +kernel), u_hit (by decide) (by decide) (by decide) rfl]; rfl
  | 2, _, 1, _ => rw [u_miss (y2 := (nI 0)) (y3 := (nI 1)) (by decide) (by decide) (by decide) (by decide) (by decide +kernel) (by decide +kernel) (by decide +kernel), u_miss (y2 := (-1)) (y3 := (nI 2)) (by decide) (by decide) (by decide) (by decide) (by decide +kernel) (by decide +kernel) (by decide +kernel), u_end (by decide) (by decide)]; rfl
  | 2, _, 2, _ => rw [u_hit (by decide) (by decide) (by decide) rfl]; rfl
  | 2, _, 3, _ => rw [u_miss (y2 := (nI 0)) (y3 := (nI 1)) (by decide) (by decide) (by decide) (by decide) (by decide +kernel) (by decide +kernel) (by decide +kernel), u_miss (y2 := (-1)) (y3 := (nI 2)) (by decide) (by decide) (by decide) (by decide) (by decide +kernel) (by decide +kernel) (by decide +kernel), u_end (by decide) (by decide)]; rfl
  | 2, _, 4, _ => rw [u_miss (y2 := (nI 0)) (y3 := (nI 1)) (by decide) (by decide) (by decide) (by decide) (by decide +kernel) (by decide +kernel) (by decide +kernel), u_miss (y2 := (-1)) (y3 := (nI 2)) (by decide) (by decide) (by decide) (by decide) (by decide +kernel) (by decide +kernel) (by decide +kernel), u_end (by decide) (by decide)]; rfl
  | 2, _, 5, _ => rw [u_miss (y2 := (nI 0)) (y3 := (nI 1)) (by decide) (by decide) (by decide) (by decide) (by decide +kernel) (by decide +kernel) (by decide +kernel), u_miss (y2 := (-1)) (y3 := (nI 2)) (by decide) (by decide) (by decide) (by decide) (by decide +kernel) (by decide +kernel) (by decide +kernel), u_end (by decide) (by decide)]; rfl
  | 3, _, 0, _ => rw [u_miss (y2 := (nI 1)) (y3 := (nI 1)) (by decide) (by decide) (by decide) (by decide) (by decide +kernel) (by decide +kernel) (by decide +kernel), u_miss (y2 := (nI 0)) (y3 := (nI 2)) (by decide) (by decide) (by decide) (by decide) (by decide +kernel) (by decide +kernel) (by decide +kernel), u_hit (by decide) (by decide) (by decide) rfl]; rfl
  | 3, _, 1, _ => rw [u_miss (y2 := (nI 1)) (y3 := (nI 1)) (by decide) (by decide) (by decide) (by decide) (by decide +kernel) (by decide +kernel) (by decide +kernel), u_hit (by decide) (by decide) (by decide) rfl]; rfl
  | 3, _, 2, _ => rw [u_miss (y2 := (nI 1)) (y3 := (nI 1)) (by decide) (by decide) (by decide) (by decide) (by decide +kernel) (by decide +kernel) (by decide +kernel), u_miss (y2 := (nI 0)) (y3 := (nI 2)) (by decide) (by decide) (by decide) (by decide) (by decide +kernel) (by decide +kernel) (by decide +kernel), u_miss (y2 := (-1)) (y3 := (nI 3)) (by decide) (by decide) (by decide) (by decide) (by decide +kernel) (by decide +kernel) (by decide +kernel), u_end (by decide) (by decide)]; rfl
  | 3, _, 3, _ => rw [u_hit (by decide) (by decide) (by decide) rfl]; rfl
  | 3, _, 4, _ => rw [u_miss (y2 := (nI 1)) (y3 := (nI 1)) (by decide) (by decide) (by decide) (by decide) (by decide +kernel) (by decide +kernel) (by decide +kernel), u_miss (y2 := (nI 0)) (y3 := (nI 2)) (by decide) (by decide) (by decide) (by decide) (by decide +kernel) (by decide +kernel) (by decide +kernel), u_miss (y2 := (-1)) (y3 := (nI 3)) (by decide) (by decide) (by decide) (by decide) (by decide +kernel) (by decide +kernel) (by decide +kernel), u_end (by decide) (by decide)]; rfl
  | 3, _, 5, _ => rw [u_miss (y2 := (nI 1)) (y3 := (nI 1)) (by decide) (by decide) (by decide) (by decide) (by decide +kernel) (by decide +kernel) (by decide +kernel), u_miss (y2 := (nI 0)) (y3 := (nI 2)) (by decide) (by decide) (by decide) (by decide) (by decide +kernel) (by decide +kernel) (by decide +kernel), u_miss (y2 := (-1)) (y3 := (nI 3)) (by decide) (by decide) (by decide) (by decide) (by decide +kernel) (by decide +kernel) (by decide +kernel), u_end (by decide) (by decide)]; rfl
  | 4, _, 0, _ => rw [u_miss (y2 := (nI 2)) (y3 := (nI 1)) (by decide) (by decide) (by decide) (by decide) (by decide +kernel) (by decide +kernel) (by decide +kernel), u_miss (y2 := (nI 0)) (y3 := (nI 2)) (by decide) (by decide) (by decide) (by decide) (by decide +kernel) (by decide +kernel) (by decide +kernel), u_hit (by decide) (by decide) (by decide) rfl]; rfl
  | 4, _, 1, _ => rw [u_miss (y2 := (nI 2)) (y3 := (nI 1)) (by decide) (by decide) (by decide) (by decide) (by decide +kernel) (by decide +kernel) (by decide +kernel), u_miss (y2 := (nI 0)) (y3 := (nI 2)) (by decide) (by decide) (by decide) (by decide) (by decide +kernel) (by decide +kernel) (by decide +kernel), u_miss (y2 := (-1)) (y3 := (nI 3)) (by decide) (by decide) (by decide) (by decide) (by decide +kernel) (by decide +kernel) (by decide +kernel), u_end (by decide) (by decide)]; rfl
  | 4, _, 2, _ => rw [u_miss (y2 := (nI 2)) (y3 := (nI 1)) (by decide) (by decide) (by decide) (by decide) (by decide +kernel) (by decide +kernel) (by decide +kernel), u_hit (by decide) (by decide) (by decide) rfl]; rfl
  | 4, _, 3, _ => rw [u_miss (y2 := (nI 2)) (y3 := (nI 1)) (by decide) (by decide) (by decide) (by decide) (by decide +kernel) (by decide +kernel) (by decide +kernel), u_miss (y2 := (nI 0)) (y3 := (nI 2)) (by decide) (by decide) (by decide) (by decide) (by decide +kernel) (by decide +kernel) (by decide +kernel), u_miss (y2 := (-1)) (y3 := (nI 3)) (by decide) (by decide) (by decide) (by decide) (by decide +kernel) (by decide +kernel) (by decide +kernel), u_end (by decide) (by decide)]; rfl
  | 4, _, 4, _ => rw [u_hit (by decide) (by decide) (by decide) rfl]; rfl
  | 4, _, 5, _ => rw [u_miss (y2 := (nI 2)) (y3 := (nI 1)) (by decide) (by decide) (by decide) (by decide) (by decide +kernel) (by decide +kernel) (by decide +kernel), u_miss (y2 := (nI 0)) (y3 := (nI 2)) (by decide) (by decide) (by decide) (by decide) (by decide +kernel) (by decide +kernel) (by decide +kernel), u_miss (y2 := (-1)) (y3 := (nI 3)) (by decide) (by decide) (by decide) (by decide) (by decide +kernel) (by decide +kernel) (by decide +kernel), u_end (by decide) (by decide)]; rfl
  | 5, _, 0, _ => rw [u_miss (y2 := (nI 3)) (y3 := (nI 1)) (by decide) (by decide) (by decide) (by decide) (by decide +kernel) (by decide +kernel) (by decide +kernel), u_miss (y2 := (nI 1)) (y3 := (nI 2)) (by decide) (by decide) (by decide) (by decide) (by decide +kernel) (by decide +kernel) (by decide +kernel), u_miss (y2 := (nI 0)) (y3 := (nI 3)) (by decide) (by decide) (by decide) (by decide) (by decide +kernel) (by decide +kernel) (by decide +kernel), u_hit (by decide) (by decide) (by decide) rfl]; rfl
  | 5, _, 1, _ => rw [u_miss (y2 := (nI 3)) (y3 := (nI 1)) (by decide) (by decide) (by decide) (by decide) (by decide +kernel) (by decide +kernel) (by decide +kernel), u_miss (y2 := (nI 1)) (y3 := (nI 2)) (by decide) (by decide) (by decide) (by decide) (by decide +kernel) (by decide +kernel) (by decide +kernel), u_hit (by decide) (by decide) (by decide) rfl]; rfl
  | 5, _, 2, _ => rw [u_miss (y2 := (nI 3)) (y3 := (nI 1)) (by decide) (by decide) (by decide) (by decide) (by decide +kernel) (by decide +kernel) (by decide +kernel), u_miss (y2 := (nI 1)) (y3 := (nI 2)) (by decide) (by decide) (by decide) (by decide) (by decide +kernel) (by decide +kernel) (by decide +kernel), u_miss (y2 := (nI 0)) (y3 := (nI 3)) (by decide) (by decide) (by decide) (by decide) (by decide +kernel) (by decide +kernel) (by decide +kernel), u_miss (y2 := (-1)) (y3 := (nI 4)) (by decide) (by decide) (by decide) (by decide) (by decide +kernel) (by decide +kernel) (by decide +kernel), u_end (by decide) (by decide)]; rfl
  | 5, _, 3, _ => rw [u_miss (y2 := (nI 3)) (y3 := (nI 1)) (by decide) (by decide) (by decide) (by decide) (by decide +kernel) (by decide +kernel) (by decide +kernel), u_hit (by decide) (by decide) (by decide) rfl]; rfl
  | 5, _, 4, _ => rw [u_miss (y2 := (nI 3)) (y3 := (nI 1)) (by decide) (by decide) (by decide) (by decide) (by decide +kernel) (by decide +kernel) (by decide +kernel), u_miss (y2 := (nI 1)) (y3 := (nI 2)) (by decide) (by decide) (by decide) (by decide) (by decide +kernel) (by decide +kernel) (by decide +kernel), u_miss (y2 := (nI 0)) (y3 := (nI 3)) (by decide) (by decide) (by decide) (by decide) (by decide +kernel) (by decide +kernel) (by decide +kernel), u_miss (y2 := (-1)) (y3 := (nI 4)) (by decide) (by decide) (by decide) (by decide) (by decide +kernel) (by decide +kernel) (by decide +kernel), u_end (by decide) (by decide)]; rfl
  | 5, _, 5, _ => rw [u_hit (by decide) (by decide) (by decide) rfl]; rfl
theorem op_taken {σ : Mem} (h : Rel σ) (x1 x2 : Int32) : OpOK (FX9_taken [.ref 0, .int x1, .int x2]) (FX10_taken [.ref 160, .int x1, .int x2]) σ := by
  have h0 := h
  obtain ⟨Z, hZ, hC, hM⟩ := h
  have c4 := hC.1.2.2.2.1
  have n4 := hM.1.2.2.1
  have h8 := hZ.1.1.1
  by_cases hx : 0 ≤ x1 ∧ x1 ≤ nI Z.1.2.2.1.length - 1
  · by_cases hy : 0 ≤ x2 ∧ x2 ≤ 5
    · obtain ⟨i, hi, rfl⟩ := ld_in h8 hx
      have hi8 : i < 8 := by omega
      obtain ⟨d, hd⟩ : ∃ d, Z.1.2.2.1[i]? = some d := ⟨_, List.getElem?_eq_getElem hi⟩
      have hok := hZ.1.1.2 d (List.mem_of_getElem? hd)
      have r := hC.1.2.2.2.2.2.2 i d hd
      have m := hM.1.2.2.2.2.2 i d hd
      obtain ⟨q, hq, hqd⟩ : ∃ q, q < 6 ∧ d.1 = nI q := by
        rcases hok.1 with e | e | e | e | e | e
        · exact ⟨0, by decide, e⟩
        · exact ⟨1, by decide, e⟩
        · exact ⟨2, by decide, e⟩
        · exact ⟨3, by decide, e⟩
        · exact ⟨4, by decide, e⟩
        · exact ⟨5, by decide, e⟩
      obtain ⟨j, hj, rfl⟩ := n5 hy
      refine op_same (r := if undT q j = true then d.2.1 else -13) h0 ?_ ?_
      · rw [enX9_taken, oc c8, t_isLoad' c4, rI, ifb, if_pos hx, t_isKind, rI, ifb, if_pos hy, oc c8, rf0_0, oc k1, kr3 k1, x8 (ks4 k1) hi8, cl i (by omega), klr k1 hi8, oc (kls k1 hi8), t_under2 (kls k1 hi8) hq hj (r.1.trans hqd), rI, ifb, oc c8, oc k1, x8 (ks4 k1) hi8, oc (kls k1 hi8), r.2.1]
        split <;> rfl
      · rw [enX10_taken, oc m9, t_mLoad' n4, rI, ifb, if_pos hx, t_isIn, rI, ifb, if_pos hy, oc m9, rf160_3, xi hi8 sh163, cl i (by omega), m.1, hqd, oc m9, rf160_4, xi hi8 sh164, m.2.1, blX10_taken_51, blX10_taken_61, oc m9, rf160_4, xi hi8 sh164, cl i (by omega), m.2.1]
        match q, hq, j, hj with
        | 0, _, 0, _ => rfl
        | 0, _, 1, _ => rfl
        | 0, _, 2, _ => rfl
        | 0, _, 3, _ => rfl
        | 0, _, 4, _ => rfl
        | 0, _, 5, _ => rfl
        | 1, _, 0, _ => rfl
        | 1, _, 1, _ => rfl
        | 1, _, 2, _ => rfl
        | 1, _, 3, _ => rfl
        | 1, _, 4, _ => rfl
        | 1, _, 5, _ => rfl
        | 2, _, 0, _ => rfl
        | 2, _, 1, _ => rfl
        | 2, _, 2, _ => rfl
        | 2, _, 3, _ => rfl
        | 2, _, 4, _ => rfl
        | 2, _, 5, _ => rfl
        | 3, _, 0, _ => rfl
        | 3, _, 1, _ => rfl
        | 3, _, 2, _ => rfl
        | 3, _, 3, _ => rfl
        | 3, _, 4, _ => rfl
        | 3, _, 5, _ => rfl
        | 4, _, 0, _ => rfl
        | 4, _, 1, _ => rfl
        | 4, _, 2, _ => rfl
        | 4, _, 3, _ => rfl
        | 4, _, 4, _ => rfl
        | 4, _, 5, _ => rfl
        | 5, _, 0, _ => rfl
        | 5, _, 1, _ => rfl
        | 5, _, 2, _ => rfl
        | 5, _, 3, _ => rfl
        | 5, _, 4, _ => rfl
        | 5, _, 5, _ => rfl
    · exact op_same (r := -2) h0 (by rw [enX9_taken, oc c8, t_isLoad' c4, rI, ifb, if_pos hx, t_isKind, rI, ifb, if_neg hy]) (by rw [enX10_taken, oc m9, t_mLoad' n4, rI, ifb, if_pos hx, t_isIn, rI, ifb, if_neg hy, blX10_taken_17])
  · exact op_same (r := -2) h0 (by rw [enX9_taken, oc c8, t_isLoad' c4, rI, ifb, if_neg hx]) (by rw [enX10_taken, oc m9, t_mLoad' n4, rI, ifb, if_neg hx, blX10_taken_17])
