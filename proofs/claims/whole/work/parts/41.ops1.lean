/-! zones -/
theorem c8 : (sh 0).1 = 8 := by rw [sh0]
theorem k1 : (sh 1).1 = 2 := by rw [sh1]
theorem k15 : (sh 15).1 = 2 := by rw [sh15]
theorem k29 : (sh 29).1 = 2 := by rw [sh29]
def set3 (t : H3) (z : Nat) (v : Int32) : H3 := match z with
  | 0 => (v, t.2.1, t.2.2)
  | 1 => (t.1, v, t.2.2)
  | _ => (t.1, t.2.1, v)
theorem at3_set {t : H3} {z y : Nat} {v : Int32} (hz : z < 3) (hy : y < 3) : at3 (set3 t z v) y = if y = z then v else at3 t y := by
  match z, hz, y, hy with
  | 0, _, 0, _ => rfl
  | 0, _, 1, _ => rfl
  | 0, _, 2, _ => rfl
  | 1, _, 0, _ => rfl
  | 1, _, 1, _ => rfl
  | 1, _, 2, _ => rfl
  | 2, _, 0, _ => rfl
  | 2, _, 1, _ => rfl
  | 2, _, 2, _ => rfl
theorem repK.setH {k z : Nat} {S : KS} {σ : Mem} {v : Int32} (hz : z < 3) (h : repK k S σ) : repK k (set3 S.1 z v, S.2) (setM σ (k + 1) z v) := by
  obtain ⟨h1, h2, h3, h4, h5, h6, h7⟩ := h
  refine ⟨fun y hy => ?_, fun y hy => ?_, fun y hy => ?_, ?_, ?_, ?_, fun i d hd => ?_⟩
  · rw [at3_set hz hy]
    by_cases e : y = z
    · subst e; rw [sM_eq, if_pos rfl]
    · rw [sM_i e, if_neg e]; exact h1 y hy
  · rw [sM_a (by omega)]; exact h2 y hy
  · rw [sM_a (by omega)]; exact h3 y hy
  · rw [sM_a (by omega)]; exact h4
  · rw [sM_a (by omega)]; exact h5
  · rw [sM_a (by omega)]; exact h6
  · rw [sM_a (by omega)]; exact h7 i d hd
theorem repK.setT {k z : Nat} {S : KS} {σ : Mem} {v : Int32} (hz : z < 3) (h : repK k S σ) : repK k (S.1, set3 S.2.1 z v, S.2.2) (setM σ (k + 2) z v) := by
  obtain ⟨h1, h2, h3, h4, h5, h6, h7⟩ := h
  refine ⟨fun y hy => ?_, fun y hy => ?_, fun y hy => ?_, ?_, ?_, ?_, fun i d hd => ?_⟩
  · rw [sM_a (by omega)]; exact h1 y hy
  · show _ = at3 (set3 S.2.1 z v) y
    rw [at3_set hz hy]
    by_cases e : y = z
    · subst e; rw [sM_eq, if_pos rfl]
    · rw [sM_i e, if_neg e]; exact h2 y hy
  · rw [sM_a (by omega)]; exact h3 y hy
  · rw [sM_a (by omega)]; exact h4
  · rw [sM_a (by omega)]; exact h5
  · rw [sM_a (by omega)]; exact h6
  · rw [sM_a (by omega)]; exact h7 i d hd
theorem repN.fr {i : Nat} {d : Ld} {σ σ' : Mem} (h : repN i d σ) (f : ∀ a, 163 ≤ a → a ≤ 167 → σ' a = σ a) : repN i d σ' := by
  unfold repN at h ⊢
  rw [f 163 (by decide) (by decide), f 164 (by decide) (by decide), f 165 (by decide) (by decide), f 166 (by decide) (by decide), f 167 (by decide) (by decide)]
  exact h
theorem repM.setH {z : Nat} {S : KS} {σ : Mem} {v : Int32} (hz : z < 3) (h : repM S σ) : repM (set3 S.1 z v, S.2) (setM σ 161 z v) := by
  obtain ⟨h1, h2, h3, h4, h5, h6⟩ := h
  refine ⟨fun y hy => ?_, fun y hy => ?_, ?_, ?_, ?_, fun i d hd => (h6 i d hd).fr (fun a _ _ => sM_a (by omega))⟩
  · rw [at3_set hz hy]
    by_cases e : y = z
    · subst e; rw [sM_eq, if_pos rfl]
    · rw [sM_i e, if_neg e]; exact h1 y hy
  · rw [sM_a (by decide)]; exact h2 y hy
  · rw [sM_a (by decide)]; exact h3
  · rw [sM_a (by decide)]; exact h4
  · rw [sM_a (by decide)]; exact h5
theorem repM.setT {z : Nat} {S : KS} {σ : Mem} {v : Int32} (hz : z < 3) (h : repM S σ) : repM (S.1, set3 S.2.1 z v, S.2.2) (setM σ 162 z v) := by
  obtain ⟨h1, h2, h3, h4, h5, h6⟩ := h
  refine ⟨fun y hy => ?_, fun y hy => ?_, ?_, ?_, ?_, fun i d hd => (h6 i d hd).fr (fun a _ _ => sM_a (by omega))⟩
  · rw [sM_a (by decide)]; exact h1 y hy
  · show _ = at3 (set3 S.2.1 z v) y
    rw [at3_set hz hy]
    by_cases e : y = z
    · subst e; rw [sM_eq, if_pos rfl]
    · rw [sM_i e, if_neg e]; exact h2 y hy
  · rw [sM_a (by decide)]; exact h3
  · rw [sM_a (by decide)]; exact h4
  · rw [sM_a (by decide)]; exact h5
theorem kpC.set {σ : Mem} {a i : Nat} {v : Int32} (h : 0 < a) (h2 : a < 29) : kpC σ (setM σ a i v) := ⟨fun b hb => sM_a (by omega), by rw [sM_a (by omega)]⟩
theorem kpM.set {σ : Mem} {a i : Nat} {v : Int32} (h : 161 ≤ a) (h2 : a < 168) : kpM σ (setM σ a i v) := ⟨fun b hb => sM_a (by omega), by rw [sM_a (by omega)], by rw [sM_a (by omega)]⟩
theorem okT.set {T : H3} {z j : Nat} (h : okT T) (hz : z < 3) (hj : j < 4) : okT (set3 T z (nI j)) := fun y hy => by
  rw [at3_set hz hy]
  by_cases e : y = z
  · rw [if_pos e]; exact ⟨j, hj, rfl⟩
  · rw [if_neg e]; exact h y hy
theorem op_heat {σ : Mem} (h : Rel σ) (x1 x2 : Int32) : OpOK (FX9_heat [.ref 0, .int x1, .int x2]) (FX10_heat [.ref 160, .int x1, .int x2]) σ := by
  by_cases hz : 0 ≤ x1 ∧ x1 ≤ 2
  · by_cases hh : 0 ≤ x2 ∧ x2 ≤ 1300
    · obtain ⟨Z, hZ, hC, hM⟩ := h
      obtain ⟨z, hz3, rfl⟩ := n2 hz
      refine op_of (Z' := ((set3 Z.1.1 z x2, Z.1.2), Z.2)) (r := at3 Z.1.1 z) hZ hM ⟨hZ.1, hZ.2⟩ ?_ (fun σ1 hM1 => ?_)
      · rw [enX9_heat, t_isZone, rI, ifb, if_pos hz, t_isHeat, rI, ifb, if_pos hh, oc c8, rf0_0, oc k1, kr0 k1, x3 (ks1 k1) hz3, oc c8, oc k1, x3 (ks1 k1) hz3, cl z (by omega), hC.1.1 z hz3]
        exact ⟨_, rfl, ⟨hC.1.setH hz3, hC.2.fr hZ.2 (kpC.set (by decide) (by decide))⟩, fun a ha => sM_a (by omega)⟩
      · rw [enX10_heat, t_mZone, rI, ifb, if_pos hz, t_mHeat, rI, ifb, if_pos hh, oc m9, rf160_0, xi hz3 sh161, oc m9, xi hz3 sh161, cl z (by omega), hM1.1.1 z hz3]
        exact ⟨_, rfl, ⟨hM1.1.setH hz3, hM1.2.fr (kpM.set (by decide) (by decide))⟩, fun a ha => sM_a (by omega)⟩
    · exact op_same (r := -2) h (by rw [enX9_heat, t_isZone, rI, ifb, if_pos hz, t_isHeat, rI, ifb, if_neg hh]) (by rw [enX10_heat, t_mZone, rI, ifb, if_pos hz, t_mHeat, rI, ifb, if_neg hh])
  · exact op_same (r := -2) h (by rw [enX9_heat, t_isZone, rI, ifb, if_neg hz]) (by rw [enX10_heat, t_mZone, rI, ifb, if_neg hz])
theorem op_setting {σ : Mem} (h : Rel σ) (x1 x2 : Int32) : OpOK (FX9_setting [.ref 0, .int x1, .int x2]) (FX10_setting [.ref 160, .int x1, .int x2]) σ := by
  by_cases hz : 0 ≤ x1 ∧ x1 ≤ 2
  · by_cases hh : 0 ≤ x2 ∧ x2 ≤ 3
    · obtain ⟨Z, hZ, hC, hM⟩ := h
      obtain ⟨z, hz3, rfl⟩ := n2 hz
      obtain ⟨j, hj, e⟩ := n3 hh
      refine op_of (Z' := ((Z.1.1, set3 Z.1.2.1 z x2, Z.1.2.2), Z.2)) (r := at3 Z.1.2.1 z) hZ hM ⟨⟨hZ.1.1, by rw [e]; exact hZ.1.2.set hz3 hj⟩, hZ.2⟩ ?_ (fun σ1 hM1 => ?_)
      · rw [enX9_setting, t_isZone, rI, ifb, if_pos hz, t_isSetting, rI, ifb, if_pos hh, oc c8, rf0_0, oc k1, kr1 k1, x3 (ks2 k1) hz3, oc c8, oc k1, x3 (ks2 k1) hz3, cl z (by omega), hC.1.2.1 z hz3]
        exact ⟨_, rfl, ⟨hC.1.setT hz3, hC.2.fr hZ.2 (kpC.set (by decide) (by decide))⟩, fun a ha => sM_a (by omega)⟩
      · rw [enX10_setting, t_mZone, rI, ifb, if_pos hz, t_mSetting, rI, ifb, if_pos hh, oc m9, rf160_1, xi hz3 sh162, oc m9, xi hz3 sh162, cl z (by omega), hM1.1.2.1 z hz3]
        exact ⟨_, rfl, ⟨hM1.1.setT hz3, hM1.2.fr (kpM.set (by decide) (by decide))⟩, fun a ha => sM_a (by omega)⟩
    · exact op_same (r := -2) h (by rw [enX9_setting, t_isZone, rI, ifb, if_pos hz, t_isSetting, rI, ifb, if_neg hh]) (by rw [enX10_setting, t_mZone, rI, ifb, if_pos hz, t_mSetting, rI, ifb, if_neg hh])
  · exact op_same (r := -2) h (by rw [enX9_setting, t_isZone, rI, ifb, if_neg hz]) (by rw [enX10_setting, t_mZone, rI, ifb, if_neg hz])
theorem m_bz {σ : Mem} {x x2 : Int32} : ∀ (L2 L1 : List Ld) (b : Int32), (L1 ++ L2).length ≤ 8 → σ 160 2 = nI (L1 ++ L2).length → (∀ i d, (L1 ++ L2)[i]? = some d → repN i d σ) → am_go CX10_zone 85 [.ref 160, .int x, .int x2, .int b, .int (nI L1.length)] [] σ = some (some (.int (bitS (fun d => decide (d.2.2.1 = x)) L2 L1.length b)), σ) := by
  intro L2
  induction L2 with
  | nil =>
    intro L1 b h8 hc hr
    rw [List.append_nil] at hc
    rw [blX10_zone_85, oc m9, hc, if_pos (Int32.le_refl _)]
    rfl
  | cons d L2 ih =>
    intro L1 b h8 hc hr
    have hlen : (L1 ++ d :: L2).length = L1.length + L2.length + 1 := by simp; omega
    have hi : L1.length < 8 := by omega
    have hd := hr L1.length d (by simp)
    have hl1 : (L1 ++ [d]).length = L1.length + 1 := by simp
    have hap : L1 ++ [d] ++ L2 = L1 ++ d :: L2 := by simp
    have ih' := fun b' => ih (L1 ++ [d]) b' (by rw [hap]; exact h8) (by rw [hap]; exact hc) (by rw [hap]; exact hr)
    rw [hl1] at ih'
    rw [blX10_zone_85, oc m9, hc, if_neg (nI_ge (by omega) (by omega)), oc m9, rf160_5, xi hi sh165, cl _ (by omega), hd.2.2.1, or0, nI_1, ih', ih', bitS]
    by_cases h1 : d.2.2.1 = x <;> simp [h1]
theorem op_zone {σ : Mem} (h : Rel σ) (x1 x2 : Int32) : OpOK (FX9_zone [.ref 0, .int x1, .int x2]) (FX10_zone [.ref 160, .int x1, .int x2]) σ := by
  by_cases hz : 0 ≤ x1 ∧ x1 ≤ 2
  · have h0 := h
    obtain ⟨Z, hZ, hC, hM⟩ := h
    obtain ⟨z, hz3, rfl⟩ := n2 hz
    rw [show OpOK _ _ σ = OpOK (FX9_zone [.ref 0, .int (nI z), .int x2]) (FX10_zone [.ref 160, .int (nI z), .int x2]) σ from rfl]
    by_cases a0 : x2 = 0
    · exact op_same (r := at3 Z.1.1 z) h0 (by rw [enX9_zone, t_isZone, rI, ifb, if_pos hz, if_pos a0, oc c8, rf0_0, oc k1, kr0 k1, x3 (ks1 k1) hz3, cl z (by omega), hC.1.1 z hz3]) (by rw [enX10_zone, t_mZone, rI, ifb, if_pos hz, if_pos a0, oc m9, rf160_0, xi hz3 sh161, cl z (by omega), hM.1.1 z hz3])
    by_cases a1 : x2 = 1
    · exact op_same (r := at3 Z.1.2.1 z) h0 (by rw [enX9_zone, t_isZone, rI, ifb, if_pos hz, if_neg a0, if_pos a1, oc c8, rf0_0, oc k1, kr1 k1, x3 (ks2 k1) hz3, cl z (by omega), hC.1.2.1 z hz3]) (by rw [enX10_zone, t_mZone, rI, ifb, if_pos hz, if_neg a0, if_pos a1, oc m9, rf160_1, xi hz3 sh162, cl z (by omega), hM.1.2.1 z hz3])
    by_cases a2 : x2 = 2
    · exact op_same (r := massIn z Z.1.2.2.1) h0 (by rw [enX9_zone, t_isZone, rI, ifb, if_pos hz, if_neg a0, if_neg a1, if_pos a2, oc c8, rf0_0, oc k1, kr2 k1, x3 (ks3 k1) hz3, cl z (by omega), hC.1.2.2.1 z hz3]) (by rw [enX10_zone, t_mZone, rI, ifb, if_pos hz, if_neg a0, if_neg a1, if_pos a2, oc m9, m_massIn hZ.1.1 hM.1, rI])
    by_cases a3 : x2 = 3
    · exact op_same (r := giveS (at3 Z.1.2.1 z) (at3 Z.1.1 z)) h0 (by rw [enX9_zone, t_isZone, rI, ifb, if_pos hz, if_neg a0, if_neg a1, if_neg a2, if_pos a3, oc c8, rf0_0, oc k1, kr1 k1, x3 (ks2 k1) hz3, oc c8, oc k1, kr0 k1, x3 (ks1 k1) hz3, cl z (by omega), hC.1.1 z hz3, hC.1.2.1 z hz3, t_given, rI]) (by rw [enX10_zone, t_mZone, rI, ifb, if_pos hz, if_neg a0, if_neg a1, if_neg a2, if_pos a3, oc m9, rf160_1, xi hz3 sh162, oc m9, rf160_0, xi hz3 sh161, cl z (by omega), hM.1.1 z hz3, hM.1.2.1 z hz3, t_mgives, rI])
    by_cases a4 : x2 = 4
    · exact op_same (r := bitS (fun d => decide (d.2.2.1 = nI z)) Z.1.2.2.1 0 0) h0 (by rw [enX9_zone, t_isZone, rI, ifb, if_pos hz, if_neg a0, if_neg a1, if_neg a2, if_neg a3, if_pos a4, oc c8, rf0_0, oc k1, t_inz k1 hZ.1.1 hC.1, rI]) (by rw [enX10_zone, t_mZone, rI, ifb, if_pos hz, if_neg a0, if_neg a1, if_neg a2, if_neg a3, if_pos a4]; exact m_bz Z.1.2.2.1 [] 0 hZ.1.1.1 hM.1.2.2.1 hM.1.2.2.2.2.2)
    exact op_same (r := -2) h0 (by rw [enX9_zone, t_isZone, rI, ifb, if_pos hz, if_neg a0, if_neg a1, if_neg a2, if_neg a3, if_neg a4]) (by rw [enX10_zone, t_mZone, rI, ifb, if_pos hz, if_neg a0, if_neg a1, if_neg a2, if_neg a3, if_neg a4])
  · exact op_same (r := -2) h (by rw [enX9_zone, t_isZone, rI, ifb, if_neg hz]) (by rw [enX10_zone, t_mZone, rI, ifb, if_neg hz])
theorem op_gives {σ : Mem} (h : Rel σ) (x1 x2 : Int32) : OpOK (FX9_gives [.ref 0, .int x1, .int x2]) (FX10_gives [.ref 160, .int x1, .int x2]) σ := by
  by_cases hz : 0 ≤ x1 ∧ x1 ≤ 3
  · by_cases hh : 0 ≤ x2 ∧ x2 ≤ 1300
    · exact op_same (r := giveS x1 x2) h (by rw [enX9_gives, t_isSetting, rI, ifb, if_pos hz, t_isHeat, rI, ifb, if_pos hh, t_given, rI]) (by rw [enX10_gives, t_mSetting, rI, ifb, if_pos hz, t_mHeat, rI, ifb, if_pos hh, t_mgives, rI])
    · exact op_same (r := -2) h (by rw [enX9_gives, t_isSetting, rI, ifb, if_pos hz, t_isHeat, rI, ifb, if_neg hh]) (by rw [enX10_gives, t_mSetting, rI, ifb, if_pos hz, t_mHeat, rI, ifb, if_neg hh])
  · exact op_same (r := -2) h (by rw [enX9_gives, t_isSetting, rI, ifb, if_neg hz]) (by rw [enX10_gives, t_mSetting, rI, ifb, if_neg hz])
