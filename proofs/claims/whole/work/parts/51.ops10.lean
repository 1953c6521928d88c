/-! film, drawn -/
def frS (σ σ' : Mem) : Prop := (∀ a, (a < 160 ∨ a = 163 ∨ a = 164 ∨ a = 165 ∨ (168 ≤ a ∧ a < 172) ∨ 181 ≤ a) → σ' a = σ a) ∧ ∀ j, j ≠ 8 → j ≠ 9 → j ≠ 24 → j ≠ 25 → σ' 160 j = σ 160 j
theorem frS.rf (σ : Mem) : frS σ σ := ⟨fun _ _ => rfl, fun _ _ _ _ _ => rfl⟩
theorem frS.tr {σ1 σ2 σ3 : Mem} (h : frS σ1 σ2) (h' : frS σ2 σ3) : frS σ1 σ3 := ⟨fun a ha => (h'.1 a ha).trans (h.1 a ha), fun j a b c d => (h'.2 j a b c d).trans (h.2 j a b c d)⟩
theorem frM.s {σ σ' : Mem} (h : frM σ σ') : frS σ σ' := ⟨fun a ha => h.1 a (by omega), h.2⟩
theorem frS.set {σ : Mem} {a i : Nat} {v : Int32} (ha : 172 ≤ a) (hb : a ≤ 174) : frS σ (setM σ a i v) := ⟨fun b hb => sM_a (by omega), fun j _ _ _ _ => by rw [sM_a (by omega)]⟩
theorem inT.set {S S' : KS} {σ : Mem} {a i : Nat} {v : Int32} (h : inT S S' σ) (ha : 172 ≤ a) (hb : a ≤ 174) : inT S S' (setM σ a i v) := by
  unfold inT repM repN keptM repB at h ⊢
  rw [sM_a (show 160 ≠ a by omega), sM_a (show 161 ≠ a by omega), sM_a (show 162 ≠ a by omega), sM_a (show 163 ≠ a by omega), sM_a (show 164 ≠ a by omega), sM_a (show 165 ≠ a by omega), sM_a (show 166 ≠ a by omega), sM_a (show 167 ≠ a by omega), sM_a (show 177 ≠ a by omega), sM_a (show 178 ≠ a by omega), sM_a (show 179 ≠ a by omega), sM_a (show 180 ≠ a by omega)]
  exact h
theorem RM.sheet' {Z : ZS} {σ σ' : Mem} {r : Nat} {o : Option (Int32 × List Int32)} (h : RM Z σ) (hr : r < 4) (k : repM Z.1 σ') (f : frS σ σ') (ho : repSm r o σ') (hq : ∀ q, q < 4 → q ≠ r → σ' 172 q = σ 172 q ∧ σ' 173 q = σ 173 q ∧ ∀ i, i < 40 → σ' 174 (40 * q + i) = σ 174 (40 * q + i)) (hok : okZ Z) : RM (zSh Z r o) σ' := by
  have hτ : ∃ τ : Mem, τ = fun a => if 172 ≤ a ∧ a < 176 then σ a else σ' a := ⟨_, rfl⟩
  obtain ⟨τ, hτ⟩ := hτ
  have t1 : ∀ a, 172 ≤ a → a < 176 → τ a = σ a := fun a h1 h2 => by rw [hτ]; show (if _ then _ else _) = _; rw [if_pos ⟨h1, h2⟩]
  have t2 : ∀ a, (a < 172 ∨ 176 ≤ a) → τ a = σ' a := fun a h1 => by rw [hτ]; show (if _ then _ else _) = _; rw [if_neg (by omega)]
  have hk : repM Z.1 τ := by
    unfold repM repN at k ⊢
    rw [t2 160 (by omega), t2 161 (by omega), t2 162 (by omega), t2 163 (by omega), t2 164 (by omega), t2 165 (by omega), t2 166 (by omega), t2 167 (by omega)]
    exact k
  have hf : frM σ τ := by
    refine ⟨fun a ha => ?_, fun j a b c d => ?_⟩
    · by_cases hb : 172 ≤ a ∧ a < 176
      · exact t1 a hb.1 hb.2
      · rw [t2 a (by omega)]; exact f.1 a (by omega)
    · rw [t2 160 (by omega)]; exact f.2 j a b c d
  refine (h.th hk hf).sheet hr ho (fun q h1 h2 => ?_) hok (fun a h1 h2 h3 h4 => (t2 a (by omega)).symm)
  rw [t1 172 (by omega) (by omega), t1 173 (by omega) (by omega), t1 174 (by omega) (by omega)]
  exact hq q h1 h2
theorem cl_in (v : Int32) : ∃ j : Nat, j ≤ 1300 ∧ clS v = nI j := by
  have z0 : (0 : Int32).toInt = 0 := rfl
  have z1 : (1300 : Int32).toInt = 1300 := rfl
  have key : ∀ w : Int32, 0 < w.toInt → w.toInt ≤ 1300 → ∃ j : Nat, j ≤ 1300 ∧ w = nI j := fun w h1 h2 => ⟨w.toInt.toNat, by omega, Int32.toInt_inj.mp (by rw [nI_toInt (by omega)]; omega)⟩
  unfold clS
  by_cases h1 : v < 1300
  · rw [if_pos h1]
    by_cases h2 : 0 < v
    · rw [if_pos h2]
      rw [Int32.lt_iff_toInt_lt] at h1 h2
      exact key v (by omega) (by omega)
    · rw [if_neg h2]; exact ⟨0, by decide, rfl⟩
  · rw [if_neg h1, if_pos (by decide)]; exact ⟨1300, by decide, rfl⟩
theorem sho {j : Nat} (h : j ≤ 1300) : (nI j).toInt16.toInt32 = nI j := by
  apply Int32.toInt_inj.mp
  rw [Int16.toInt_toInt32, Int32.toInt_toInt16, nI_toInt (by omega)]
  exact Int.bmod_eq_of_le (by omega) (by omega)
theorem beh_sho (S : KS) {z : Nat} (hz : z < 3) : putV 0 (at3 (behH S) z) = at3 (behH S) z := by
  unfold putV
  rw [if_pos rfl]
  have : ∃ v, at3 (behH S) z = clS v := by
    match z, hz with
    | 0, _ => exact ⟨_, rfl⟩
    | 1, _ => exact ⟨_, rfl⟩
    | 2, _ => exact ⟨_, rfl⟩
  obtain ⟨v, hv⟩ := this
  obtain ⟨j, hj, e⟩ := cl_in v
  rw [hv, e, sho hj]
def filmL (S : KS) (z n : Nat) : List Int32 := (List.range n).map (fun i => at3 (stN (i + 1) S).1 z)
theorem filmL_get {S : KS} {z n i : Nat} {v : Int32} (h : (filmL S z n)[i]? = some v) : i < n ∧ v = at3 (stN (i + 1) S).1 z := by
  unfold filmL at h
  rw [List.getElem?_map] at h
  by_cases hi : i < n
  · rw [List.getElem?_range hi] at h
    cases h
    exact ⟨hi, rfl⟩
  · rw [List.getElem?_eq_none (by rw [List.length_range]; omega)] at h
    cases h
theorem filmL_len (S : KS) (z n : Nat) : (filmL S z n).length = n := by unfold filmL; rw [List.length_map, List.length_range]
theorem t_fi {r z n : Nat} {S : KS} (hr : r < 4) (hz : z < 3) (hn : n ≤ 12) (hS : okK S) : ∀ (m j : Nat) (σ : Mem), j + m = n → repK 15 (waN j S) σ → σ (152 + 2 * r) 0 = 0 → ∃ σ', am_go CX9_film 52 [.ref 0, .int (nI r), .int (nI z), .int (nI n), .int (nI j)] [] σ = some (some (.int (nI n)), σ') ∧ (∀ i, j ≤ i → i < n → σ' (153 + 2 * r) i = at3 (stN (i + 1) S).1 z) ∧ (∀ i, i < j → σ' (153 + 2 * r) i = σ (153 + 2 * r) i) ∧ ∀ a, (a < 15 ∨ 15 + 14 ≤ a) → a ≠ 153 + 2 * r → σ' a = σ a := by
  intro m
  induction m with
  | zero =>
    intro j σ hj h h0
    have : j = n := by omega
    subst this
    rw [blX9_film_52, if_pos (Int32.le_refl _)]
    exact ⟨σ, rfl, fun i h1 h2 => by omega, fun _ _ => rfl, fun _ _ _ => rfl⟩
  | succ m ih =>
    intro j σ hj h h0
    obtain ⟨σ1, e1, r1, f1⟩ := t_warm k15 (hS.waN (n := j)).1 h
    have hv : σ1 (15 + 1) z = at3 (stN (j + 1) S).1 z := by
      rw [r1.1 z hz, waN_succ]; rfl
    have hw : putV 0 (σ1 (15 + 1) z) = at3 (stN (j + 1) S).1 z := by
      rw [hv, stN_succ]
      exact beh_sho (stN j S) hz
    rw [waN_succ] at r1
    have h1 : σ1 (152 + 2 * r) 0 = 0 := by rw [f1 _ (by omega)]; exact h0
    have r2 : repK 15 (waN (j + 1) S) (setM σ1 (153 + 2 * r) j (at3 (stN (j + 1) S).1 z)) := r1.fr (hS.waN (n := j + 1)).1.1 (fun a ha => sM_a (by omega))
    obtain ⟨σ', e, c1, c2, c3⟩ := ih (j + 1) (setM σ1 (153 + 2 * r) j (at3 (stN (j + 1) S).1 z)) (by omega) r2 (by rw [sM_a (by omega)]; exact h1)
    refine ⟨σ', ?_, fun i h1 h2 => ?_, fun i hi => ?_, fun a ha hb => ?_⟩
    · rw [blX9_film_52, if_neg (nI_ge (by omega) (by omega)), oc c8, rf0_1, oc k15, e1, rV, oc c8, rf0_11, x104 hr, oc c8, oc k15, kr0 k15, x3 (ks1 k15) hz, cl r (by omega), ser hr, oc (ses hr), cl z (by omega), t_write hr h1 (by omega), hw, rV, nI_1]
      exact e
    · by_cases hij : i = j
      · subst hij
        rw [c2 i (by omega), sM_eq]
      · exact c1 i (by omega) h2
    · rw [c2 i (by omega), sM_i (by omega), f1 _ (by omega)]
    · rw [c3 a ha hb, sM_a hb, f1 a ha]
theorem m_fi {r z n : Nat} {S : KS} (hr : r < 4) (hz : z < 3) (hn : n ≤ 12) (hS : okK S) : ∀ (m j : Nat) (v5 : Value) (σ : Mem), j + m = n → inT S (stN j S) σ → ∃ σ', am_go CX10_film 48 [.ref 160, .int (nI r), .int (nI z), .int (nI n), .int (nI j), v5] [] σ = some (some (.int (nI n)), σ') ∧ inT S S σ' ∧ frS σ σ' ∧ (∀ i, j ≤ i → i < n → σ' 174 (40 * r + i) = at3 (stN (i + 1) S).1 z) ∧ (∀ q, (q < 40 * r + j ∨ 40 * r + n ≤ q) → σ' 174 q = σ 174 q) ∧ σ' 172 = σ 172 ∧ σ' 173 = σ 173 := by
  intro m
  induction m with
  | zero =>
    intro j v5 σ hj h
    have : j = n := by omega
    subst this
    obtain ⟨σ1, e1, r1, f1⟩ := th_end hS.1 h
    rw [blX10_film_48, if_pos (Int32.le_refl _), oc m9, e1, rV]
    exact ⟨σ1, rfl, r1, f1.s, fun i h1 h2 => by omega, fun _ _ => by rw [f1.1 174 (by omega)], f1.1 172 (by omega), f1.1 173 (by omega)⟩
  | succ m ih =>
    intro j v5 σ hj h
    obtain ⟨σ1, e1, r1, f1⟩ := th_go (hS.stN (n := j)) h
    rw [← stN_succ] at r1
    have hv : σ1 161 z = at3 (stN (j + 1) S).1 z := r1.1.1 z hz
    obtain ⟨σ', e, c1, c2, c3, c4, c5, c6⟩ := ih (j + 1) (.int (stepS (stN j S)).2) (setM σ1 174 (40 * r + j) (at3 (stN (j + 1) S).1 z)) (by omega) (r1.set (by decide) (by decide))
    refine ⟨σ', ?_, c1, f1.s.tr ((frS.set (by decide) (by decide)).tr c2), fun i h1 h2 => ?_, fun q hq => ?_, ?_, ?_⟩
    · rw [blX10_film_48, if_neg (nI_ge (by omega) (by omega)), oc m9, e1, rI, oc m9, oc m9, rf160_0, xi hz sh161, rf160_17, nIx, xi (show 40 * r + j < 160 by omega) sh174, cl z (by omega), cl (40 * r + j) (by omega), hv, nI_1]
      exact e
    · by_cases hij : i = j
      · subst hij
        rw [c4 _ (by omega), sM_eq]
      · exact c3 i (by omega) h2
    · rw [c4 q (by omega), sM_i (by omega), f1.1 174 (by omega)]
    · rw [c5, sM_a (by decide), f1.1 172 (by omega)]
    · rw [c6, sM_a (by decide), f1.1 173 (by omega)]
theorem op_film {σ : Mem} (h : Rel σ) (x1 x2 x3 : Int32) : OpOK (FX9_film [.ref 0, .int x1, .int x2, .int x3]) (FX10_film [.ref 160, .int x1, .int x2, .int x3]) σ := by
  by_cases h1 : 0 ≤ x1 ∧ x1 ≤ 3
  · by_cases h2 : 0 ≤ x2 ∧ x2 ≤ 2
    · by_cases h3 : 0 ≤ x3 ∧ x3 ≤ 12
      · obtain ⟨Z, hZ, hC, hM⟩ := h
        obtain ⟨r, hr, rfl⟩ := n3 h1
        obtain ⟨z, hz, rfl⟩ := n2 h2
        obtain ⟨n, -, hn, rfl⟩ := n_of (n := 0) (m := 12) rfl rfl (by decide) (by decide) h3
        refine op_of (Z' := zSh Z r (some (0, filmL Z.1 z n))) (r := nI n) hZ hM (hZ.sheet (fun s l e => by cases e; exact ⟨Or.inl rfl, by rw [filmL_len]; omega⟩)) ?_ (fun σ1 hM1 => ?_)
        · obtain ⟨σ1, e1, q0, q1, q2, f⟩ := t_sbegin (s := 0) (x := nI n) (σ := σ) hr
          obtain ⟨σ2, e2, r2, f2⟩ := t_become k15 k1 (by decide) hZ.1.1 (hC.1.fr hZ.1.1.1 (fun a ha => f a (by omega) (by omega)))
          obtain ⟨σ3, e3, c1, c2, c3⟩ := t_fi hr hz hn hZ.1 n 0 σ2 (by omega) r2 (by rw [f2 _ (by omega)]; exact q0)
          rw [enX9_film, t_isSheet, rI, ifb, if_pos h1, t_isZone, rI, ifb, if_pos h2, t_isWithin, rI, ifb, if_pos h3, oc c8, rf0_11, x104 hr, cl r (by omega), ser hr, oc (ses hr), e1, rV, oc c8, oc c8, rf0_0, rf0_1, oc k15, e2, rV, show am_go CX9_film 52 [.ref 0, .int (nI r), .int (nI z), .int (nI n), .int 0] [] σ2 = _ from e3]
          refine ⟨σ3, rfl, hC.sheet hZ hr ⟨?_, ?_, fun i v hv => ?_⟩ (fun a ha hb hc => ?_), fun a ha => ?_⟩
          · rw [c3 _ (by omega) (by omega), f2 _ (by omega)]; exact q0
          · rw [c3 _ (by omega) (by omega), f2 _ (by omega), filmL_len]; exact q1
          · obtain ⟨hi, rfl⟩ := filmL_get hv
            exact c1 i (by omega) hi
          · rw [c3 a (by omega) hb, f2 a (by omega), f a ha hb]
          · rw [c3 a (by omega) (by omega), f2 a (by omega), f a (by omega) (by omega)]
        · obtain ⟨σ2, e2, r2, f2⟩ := th_begin hZ.1.1 hM1.1
          obtain ⟨σ3, e3, c1, c2, c3, c4, c5, c6⟩ := m_fi hr hz hn hZ.1 n 0 .null (setM (setM σ2 172 r 0) 173 r (nI n)) (by omega) ((r2.set (by decide) (by decide)).set (by decide) (by decide))
          rw [enX10_film, t_mSheet, rI, ifb, if_pos h1, t_mZone, rI, ifb, if_pos h2, t_isIn, rI, ifb, if_pos h3, oc m9, e2, rV, oc m9, rf160_15, xi hr sh172, oc m9, rf160_16, xi hr sh173, cl r (by omega), show am_go CX10_film 48 [.ref 160, .int (nI r), .int (nI z), .int (nI n), .int 0, .null] [] (setM (setM σ2 172 r 0) 173 r (nI n)) = _ from e3]
          have fA : frS σ1 σ3 := f2.s.tr ((frS.set (by decide) (by decide)).tr ((frS.set (by decide) (by decide)).tr c2))
          refine ⟨σ3, rfl, hM1.sheet' hr c1.1 fA ⟨?_, ?_, fun i v hv => ?_⟩ (fun q hq hqr => ⟨?_, ?_, fun i hi => ?_⟩) hZ, fun a ha => fA.1 a (by omega)⟩
          · rw [c5, sM_a (by decide), sM_eq]
          · rw [c6, sM_eq, filmL_len]
          · obtain ⟨hi, rfl⟩ := filmL_get hv
            exact c3 i (by omega) hi
          · rw [c5, sM_a (by decide), sM_i hqr, f2.1 172 (by omega)]
          · rw [c6, sM_i hqr, sM_a (by decide), f2.1 173 (by omega)]
          · rw [c4 _ (by omega), sM_a (by decide), sM_a (by decide), f2.1 174 (by omega)]
      · exact op_same (r := -2) h (by rw [enX9_film, t_isSheet, rI, ifb, if_pos h1, t_isZone, rI, ifb, if_pos h2, t_isWithin, rI, ifb, if_neg h3]) (by rw [enX10_film, t_mSheet, rI, ifb, if_pos h1, t_mZone, rI, ifb, if_pos h2, t_isIn, rI, ifb, if_neg h3])
    · exact op_same (r := -2) h (by rw [enX9_film, t_isSheet, rI, ifb, if_pos h1, t_isZone, rI, ifb, if_neg h2]) (by rw [enX10_film, t_mSheet, rI, ifb, if_pos h1, t_mZone, rI, ifb, if_neg h2])
  · exact op_same (r := -2) h (by rw [enX9_film, t_isSheet, rI, ifb, if_neg h1]) (by rw [enX10_film, t_mSheet, rI, ifb, if_neg h1])
