/-! loads -/
theorem ld_in {n : Nat} (hn : n ≤ 8) {x : Int32} (h : 0 ≤ x ∧ x ≤ nI n - 1) : ∃ i : Nat, i < n ∧ x = nI i := by
  cases n with
  | zero => exact absurd (Int32.le_trans h.1 h.2) (by decide)
  | succ n =>
    rw [nI_pred] at h
    obtain ⟨j, -, h2, h3⟩ := n_of (n := 0) (m := n) rfl rfl (by omega) (by decide) h
    exact ⟨j, by omega, h3⟩
theorem kd6 {j : Nat} (h : j < 6) : nI j = 0 ∨ nI j = 1 ∨ nI j = 2 ∨ nI j = 3 ∨ nI j = 4 ∨ nI j = 5 := by
  match j, h with
  | 0, _ => exact Or.inl rfl
  | 1, _ => exact Or.inr (Or.inl rfl)
  | 2, _ => exact Or.inr (Or.inr (Or.inl rfl))
  | 3, _ => exact Or.inr (Or.inr (Or.inr (Or.inl rfl)))
  | 4, _ => exact Or.inr (Or.inr (Or.inr (Or.inr (Or.inl rfl))))
  | 5, _ => exact Or.inr (Or.inr (Or.inr (Or.inr (Or.inr rfl))))
def addL (S : KS) (d : Ld) : KS := (S.1, S.2.1, S.2.2.1 ++ [d], S.2.2.2)
theorem okL_new {kd sz zn : Int32} (h1 : 0 ≤ kd ∧ kd ≤ 5) (h2 : 1 ≤ sz ∧ sz ≤ 9) (h3 : 0 ≤ zn ∧ zn ≤ 2) : okL (kd, sz, zn, 0, 0) := by
  obtain ⟨j, hj, rfl⟩ := n5 h1
  obtain ⟨i, i1, i2, rfl⟩ := n_of (n := 1) (m := 9) rfl rfl (by decide) (by decide) h2
  obtain ⟨z, hz, rfl⟩ := n2 h3
  exact ⟨kd6 hj, ⟨i, i1, i2, rfl⟩, ⟨z, hz, rfl⟩, Or.inl rfl⟩
theorem okS.add {S : KS} {d : Ld} (h : okS S) (hd : okL d) (hl : S.2.2.1.length < 8) : okS (addL S d) := by
  refine ⟨by show (S.2.2.1 ++ [d]).length ≤ 8; simp; omega, fun e he => ?_⟩
  rcases List.mem_append.mp he with h1 | h1
  · exact h.2 e h1
  · simp at h1; subst h1; exact hd
theorem t_bring {k : Nat} {σ : Mem} {S : KS} {kd sz zn : Int32} (hk : (sh k).1 = 2) (hS : okS S) (h : repK k S σ) (hd : okL (kd, sz, zn, 0, 0)) (hl : S.2.2.1.length < 8) : ∃ σ', FX3_bring [.ref k, .int kd, .int sz, .int zn] σ = some (some (.int (nI S.2.2.1.length)), σ') ∧ repK k (addL S (kd, sz, zn, 0, 0)) σ' ∧ ∀ a, (a < k ∨ k + 14 ≤ a) → σ' a = σ a := by
  obtain ⟨h1, h2, h3, h4, h5, h6, h7⟩ := h
  obtain ⟨σ1, e1, r1, f1⟩ := t_begin (a := k + 6 + S.2.2.1.length) (σ := σ) (kd := kd) (sz := sz) (zn := zn) (kls hk hl) hd.1
  have hok := hS.add hd hl
  obtain ⟨σ2, e2, m2, f2⟩ := t_weigh (σ := setM σ1 k 4 (nI S.2.2.1.length + 1)) (L := S.2.2.1 ++ [(kd, sz, zn, 0, 0)]) hk hok.1 hok.2 (by rw [sM_eq, nI_1]; simp) (by
    intro i d hd'
    rw [sM_a (by omega)]
    by_cases hi : i = S.2.2.1.length
    · subst hi
      have : d = (kd, sz, zn, 0, 0) := by simpa using hd'.symm
      rw [this]; exact r1
    · have := (List.getElem?_eq_some_iff.mp hd').1
      rw [List.getElem?_append_left (by simp at this; omega)] at hd'
      rw [f1 _ (by omega)]
      exact h7 i d hd')
  rw [enX3_bring, oc hk, h4, if_pos (show nI S.2.2.1.length < 8 from nI_lt (b := 8) hl (by decide)), oc hk, kr3 hk, x8 (ks4 hk) hl, cl _ (by omega), klr hk hl, oc (kls hk hl), e1, rV, oc hk, oc hk, oc hk, f1 k (by omega), h4, e2, rV]
  refine ⟨σ2, rfl, ⟨?_, ?_, m2, ?_, ?_, ?_, ?_⟩, ?_⟩
  · intro z hz; rw [f2 _ (by omega), sM_a (by omega), f1 _ (by omega)]; exact h1 z hz
  · intro z hz; rw [f2 _ (by omega), sM_a (by omega), f1 _ (by omega)]; exact h2 z hz
  · rw [f2 _ (by omega), sM_eq, nI_1]; show _ = nI (S.2.2.1 ++ [_]).length; simp
  · rw [f2 _ (by omega), sM_i (by decide), f1 _ (by omega)]; exact h5
  · rw [f2 _ (by omega), sM_i (by decide), f1 _ (by omega)]; exact h6
  · intro i d hd'
    rw [f2 _ (by omega), sM_a (by omega)]
    change (S.2.2.1 ++ [(kd, sz, zn, 0, 0)])[i]? = some d at hd'
    by_cases hi : i = S.2.2.1.length
    · subst hi
      have : d = (kd, sz, zn, 0, 0) := by simpa using hd'.symm
      rw [this]; exact r1
    · have := (List.getElem?_eq_some_iff.mp hd').1
      rw [List.getElem?_append_left (by simp at this; omega)] at hd'
      rw [f1 _ (by omega)]
      exact h7 i d hd'
  · intro a ha; rw [f2 _ (by omega), sM_a (by omega), f1 _ (by omega)]
theorem kp_blk {σ σ' : Mem} (f : ∀ a, (a < 1 ∨ 1 + 14 ≤ a) → σ' a = σ a) : kpC σ σ' := ⟨fun a ha => f a (by omega), by rw [f 0 (by omega)]⟩
/-- the reference's load -/
theorem m_load {σ : Mem} {S : KS} {kd sz zn : Int32} (h : repM S σ) (h1 : 0 ≤ kd ∧ kd ≤ 5) (h2 : 1 ≤ sz ∧ sz ≤ 9) (h3 : 0 ≤ zn ∧ zn ≤ 2) (hl : S.2.2.1.length < 8) : ∃ σ', FX10_load [.ref 160, .int kd, .int sz, .int zn] σ = some (some (.int (nI S.2.2.1.length)), σ') ∧ repM (addL S (kd, sz, zn, 0, 0)) σ' ∧ kpM σ σ' := by
  obtain ⟨q1, q2, q3, q4, q5, q6⟩ := h
  rw [enX10_load, t_isIn, rI, ifb, if_pos h1, t_isIn, rI, ifb, if_pos h2, t_mZone, rI, ifb, if_pos h3, oc m9, q3, if_neg (show ¬ nI S.2.2.1.length = 8 from fun e => by have := (nI_eq (b := 8) (by omega) (by decide)).mp e; omega)]
  simp only [oc m9, rf160_3, rf160_4, rf160_5, rf160_6, rf160_7, sM_a (show (160 : Nat) ≠ 163 by decide), sM_a (show (160 : Nat) ≠ 164 by decide), sM_a (show (160 : Nat) ≠ 165 by decide), sM_a (show (160 : Nat) ≠ 166 by decide), sM_a (show (160 : Nat) ≠ 167 by decide), q3, xi hl sh163, xi hl sh164, xi hl sh165, xi hl sh166, xi hl sh167, cl S.2.2.1.length (by omega), sM_eq, nI_1, nI_pred]
  refine ⟨_, rfl, ⟨?_, ?_, ?_, ?_, ?_, ?_⟩, ⟨?_, ?_, ?_⟩⟩
  · intro z hz; simp only [sM]; simp; exact q1 z hz
  · intro z hz; simp only [sM]; simp; exact q2 z hz
  · simp only [sM]; simp [addL]
  · simp only [sM]; simp; exact q4
  · simp only [sM]; simp; exact q5
  · intro i d hd
    change (S.2.2.1 ++ [(kd, sz, zn, 0, 0)])[i]? = some d at hd
    by_cases hi : i = S.2.2.1.length
    · subst hi
      have : d = (kd, sz, zn, 0, 0) := by simpa using hd.symm
      rw [this]
      simp [repN, sM]
    · have := (List.getElem?_eq_some_iff.mp hd).1
      rw [List.getElem?_append_left (by simp at this; omega)] at hd
      have := q6 i d hd
      unfold repN at this ⊢
      simp [sM, hi]
      exact this
  · intro a ha
    rw [sM_a (by omega), sM_a (by omega), sM_a (by omega), sM_a (by omega), sM_a (by omega), sM_a (by omega)]
  · rw [sM_i (by decide), sM_a (by decide), sM_a (by decide), sM_a (by decide), sM_a (by decide), sM_a (by decide)]
  · rw [sM_i (by decide), sM_a (by decide), sM_a (by decide), sM_a (by decide), sM_a (by decide), sM_a (by decide)]
theorem op_load {σ : Mem} (h : Rel σ) (x1 x2 x3 : Int32) : OpOK (FX9_load [.ref 0, .int x1, .int x2, .int x3]) (FX10_load [.ref 160, .int x1, .int x2, .int x3]) σ := by
  by_cases h1 : 0 ≤ x1 ∧ x1 ≤ 5
  · by_cases h2 : 1 ≤ x2 ∧ x2 ≤ 9
    · by_cases h3 : 0 ≤ x3 ∧ x3 ≤ 2
      · have h0 := h
        obtain ⟨Z, hZ, hC, hM⟩ := h
        by_cases hl : Z.1.2.2.1.length < 8
        · have hd := okL_new h1 h2 h3
          refine op_of (Z' := (addL Z.1 (x1, x2, x3, 0, 0), Z.2)) (r := nI Z.1.2.2.1.length) hZ hM ⟨⟨hZ.1.1.add hd hl, hZ.1.2⟩, hZ.2⟩ ?_ (fun σ1 hM1 => ?_)
          · obtain ⟨σ1, e1, r1, f1⟩ := t_bring k1 hZ.1.1 hC.1 hd hl
            rw [enX9_load, t_isKind, rI, ifb, if_pos h1, t_isWithin, rI, ifb, if_pos h2, t_isZone, rI, ifb, if_pos h3, oc c8, rf0_0, oc k1, e1, rI]
            exact ⟨σ1, rfl, ⟨r1, hC.2.fr hZ.2 (kp_blk f1)⟩, fun a ha => f1 a (by omega)⟩
          · obtain ⟨σ2, e2, r2, f2⟩ := m_load hM1.1 h1 h2 h3 hl
            exact ⟨σ2, e2, ⟨r2, hM1.2.fr f2⟩, fun a ha => f2.1 a (by omega)⟩
        · have h8 : Z.1.2.2.1.length = 8 := by have := hZ.1.1.1; omega
          exact op_same (r := -4) h0 (by rw [enX9_load, t_isKind, rI, ifb, if_pos h1, t_isWithin, rI, ifb, if_pos h2, t_isZone, rI, ifb, if_pos h3, oc c8, rf0_0, oc k1, enX3_bring, oc k1, hC.1.2.2.2.1, h8, if_neg (by decide), rI]) (by rw [enX10_load, t_isIn, rI, ifb, if_pos h1, t_isIn, rI, ifb, if_pos h2, t_mZone, rI, ifb, if_pos h3, oc m9, hM.1.2.2.1, h8, if_pos (by decide)])
      · exact op_same (r := -2) h (by rw [enX9_load, t_isKind, rI, ifb, if_pos h1, t_isWithin, rI, ifb, if_pos h2, t_isZone, rI, ifb, if_neg h3]) (by rw [enX10_load, t_isIn, rI, ifb, if_pos h1, t_isIn, rI, ifb, if_pos h2, t_mZone, rI, ifb, if_neg h3])
    · exact op_same (r := -2) h (by rw [enX9_load, t_isKind, rI, ifb, if_pos h1, t_isWithin, rI, ifb, if_neg h2]) (by rw [enX10_load, t_isIn, rI, ifb, if_pos h1, t_isIn, rI, ifb, if_neg h2])
  · exact op_same (r := -2) h (by rw [enX9_load, t_isKind, rI, ifb, if_neg h1]) (by rw [enX10_load, t_isIn, rI, ifb, if_neg h1])
