/-! until, cool -/
theorem behH_eq {S S' : KS} (h1 : S'.1 = S.1) (h2 : S'.2.1 = S.2.1) (h3 : ∀ z, massIn z S'.2.2.1 = massIn z S.2.2.1) : behH S' = behH S := by
  unfold behH
  rw [h1, h2, h3, h3, h3]
/-- n steps -/
def stN : Nat → KS → KS
  | 0, S => S
  | n + 1, S => stN n (stepS S).1
theorem stN_mass : ∀ (n : Nat) (S : KS) (z : Nat), massIn z (stN n S).2.2.1 = massIn z S.2.2.1 := by
  intro n
  induction n with
  | zero => intros; rfl
  | succ n ih => intro S z; rw [stN, ih]; exact goLs_mass z _ _ _ _ _
theorem stN_T : ∀ (n : Nat) (S : KS), (stN n S).2.1 = S.2.1 := by
  intro n
  induction n with
  | zero => intros; rfl
  | succ n ih => intro S; rw [stN, ih]; rfl
theorem stN_succ : ∀ (n : Nat) (S : KS), stN (n + 1) S = (stepS (stN n S)).1 := by
  intro n
  induction n with
  | zero => intros; rfl
  | succ n ih => intro S; rw [stN, ih]; rfl
theorem okK.stN : ∀ {n : Nat} {S : KS}, okK S → okK (stN n S) := by
  intro n
  induction n with
  | zero => exact fun h => h
  | succ n ih => exact fun h => ih h.step
/-- what warming n times leaves -/
def waN (n : Nat) (S : KS) : KS := ((stN n S).1, S.2)
theorem waN_succ (n : Nat) (S : KS) : warmS (waN n S) = waN (n + 1) S := by
  unfold warmS waN
  rw [stN_succ]
  have : behH ((stN n S).1, S.2) = behH (stN n S) := behH_eq rfl (stN_T n S).symm (fun z => (stN_mass n S z).symm)
  rw [this]
  rfl
theorem okK.waN {n : Nat} {S : KS} (h : okK S) : okK (waN n S) := h
def untS (S : KS) (z : Nat) (v : Int32) : Nat → Nat → Int32
  | 0, _ => -1
  | m + 1, j => if at3 (stN j S).1 z < v then untS S z v m (j + 1) else nI j
theorem t_un {S : KS} {z : Nat} {v : Int32} (hS : okK S) (hz : z < 3) : ∀ (m j : Nat) (σ : Mem), j + m = 61 → repK 15 (waN j S) σ → ∃ σ', am_go CX9_until 30 [.ref 0, .int (nI z), .int v, .int (nI j)] [] σ = some (some (.int (untS S z v m j)), σ') ∧ ∀ a, (a < 15 ∨ 15 + 14 ≤ a) → σ' a = σ a := by
  intro m
  induction m with
  | zero =>
    intro j σ hj h
    have : j = 61 := by omega
    subst this
    rw [blX9_until_30, if_pos (by decide)]
    exact ⟨σ, rfl, fun _ _ => rfl⟩
  | succ m ih =>
    intro j σ hj h
    have e0 := h.1 z hz
    rw [blX9_until_30, if_neg (show ¬ (60 : Int32) < nI j from nI_nlt (b := j) (a := 60) (by omega) (by decide)), oc c8, rf0_1, oc k15, kr0 k15, x3 (ks1 k15) hz, cl z (by omega), e0, untS]
    by_cases hv : at3 (stN j S).1 z < v
    · obtain ⟨σ1, e1, r1, f1⟩ := t_warm k15 (hS.waN (n := j)).1 h
      rw [waN_succ] at r1
      obtain ⟨σ2, e2, f2⟩ := ih (j + 1) σ1 (by omega) r1
      rw [if_pos (show at3 (waN j S).1 z < v from hv), if_pos hv, oc c8, oc k15, e1, rV, nI_1]
      exact ⟨σ2, e2, fun a ha => (f2 a ha).trans (f1 a ha)⟩
    · rw [if_neg (show ¬ at3 (waN j S).1 z < v from hv), if_neg hv]
      exact ⟨σ, rfl, fun _ _ => rfl⟩
theorem m_un {S : KS} {z : Nat} {v : Int32} (hS : okK S) (hz : z < 3) : ∀ (m j : Nat) (σ : Mem) (v4 : Value), j + m = 61 → inT S (stN j S) σ → ∃ σ', am_go CX10_until 23 [.ref 160, .int (nI z), .int v, .int (nI j), v4] [] σ = some (some (.int (untS S z v m j)), σ') ∧ inT S S σ' ∧ frM σ σ' := by
  intro m
  induction m with
  | zero =>
    intro j σ v4 hj h
    have : j = 61 := by omega
    subst this
    obtain ⟨σ1, e1, r1, f1⟩ := th_end hS.1 h
    rw [blX10_until_23, if_pos (by decide), oc m9, e1, rV, if_neg (by decide)]
    exact ⟨σ1, rfl, r1, f1⟩
  | succ m ih =>
    intro j σ v4 hj h
    rw [blX10_until_23, if_neg (show ¬ (60 : Int32) < nI j from nI_nlt (b := j) (a := 60) (by omega) (by decide)), oc m9, rf160_0, xi hz sh161, cl z (by omega), h.1.1 z hz, untS]
    by_cases hv : at3 (stN j S).1 z < v
    · obtain ⟨σ1, e1, r1, f1⟩ := th_go (hS.stN (n := j)) h
      rw [← stN_succ] at r1
      obtain ⟨σ2, e2, r2, f2⟩ := ih (j + 1) σ1 (.int (stepS (stN j S)).2) (by omega) r1
      rw [if_neg (Int32.not_le.mpr hv), if_pos hv, oc m9, e1, rI, nI_1]
      exact ⟨σ2, e2, r2, f1.tr f2⟩
    · obtain ⟨σ1, e1, r1, f1⟩ := th_end hS.1 h
      rw [if_pos (Int32.not_lt.mp hv), if_neg hv, oc m9, e1, rV, if_pos (show nI j ≤ 60 from nI_le (b := 60) (by omega) (by decide))]
      exact ⟨σ1, rfl, r1, f1⟩
theorem op_until {σ : Mem} (h : Rel σ) (x1 x2 : Int32) : OpOK (FX9_until [.ref 0, .int x1, .int x2]) (FX10_until [.ref 160, .int x1, .int x2]) σ := by
  have h0 := h
  obtain ⟨Z, hZ, hC, hM⟩ := h
  by_cases hx : 0 ≤ x1 ∧ x1 ≤ 2
  · by_cases hy : 0 ≤ x2 ∧ x2 ≤ 1300
    · obtain ⟨z, hz, rfl⟩ := n2 hx
      refine op_of (Z' := Z) (r := untS Z.1 z x2 61 0) hZ hM hZ ?_ (fun σ1 hM1 => ?_)
      · obtain ⟨σ1, e1, r1, f1⟩ := t_become k15 k1 (by decide) hZ.1.1 hC.1
        obtain ⟨σ2, e2, f2⟩ := t_un (v := x2) hZ.1 hz 61 0 σ1 rfl r1
        rw [enX9_until, t_isZone, rI, ifb, if_pos hx, t_isHeat, rI, ifb, if_pos hy, oc c8, oc c8, rf0_0, rf0_1, oc k15, e1, rV, show am_go CX9_until 30 [.ref 0, .int (nI z), .int x2, .int 0] [] σ1 = _ from e2]
        exact ⟨σ2, rfl, hC.th hZ (fun a ha => (f2 a ha).trans (f1 a ha)), fun a ha => (f2 a (by omega)).trans (f1 a (by omega))⟩
      · obtain ⟨σ2, e2, r2, f2⟩ := th_begin hZ.1.1 hM1.1
        obtain ⟨σ3, e3, r3, f3⟩ := m_un (v := x2) hZ.1 hz 61 0 σ2 .null rfl r2
        rw [enX10_until, t_mZone, rI, ifb, if_pos hx, t_mHeat, rI, ifb, if_pos hy, oc m9, e2, rV, show am_go CX10_until 23 [.ref 160, .int (nI z), .int x2, .int 0, .null] [] σ2 = _ from e3]
        exact ⟨σ3, rfl, hM1.th r3.1 (f2.tr f3), (f2.tr f3).lo⟩
    · exact op_same (r := -2) h0 (by rw [enX9_until, t_isZone, rI, ifb, if_pos hx, t_isHeat, rI, ifb, if_neg hy]) (by rw [enX10_until, t_mZone, rI, ifb, if_pos hx, t_mHeat, rI, ifb, if_neg hy])
  · exact op_same (r := -2) h0 (by rw [enX9_until, t_isZone, rI, ifb, if_neg hx]) (by rw [enX10_until, t_mZone, rI, ifb, if_neg hx])
/-! the hottest zone -/
def hotZ (H : H3) : Nat := if H.2.2 ≤ (if H.2.1 ≤ H.1 then H.1 else H.2.1) then (if H.2.1 ≤ H.1 then 0 else 1) else 2
def hotV (H : H3) : Int32 := if H.1 < (if H.2.1 < H.2.2 then H.2.2 else H.2.1) then (if H.2.1 < H.2.2 then H.2.2 else H.2.1) else H.1
theorem hot_eq (H : H3) : at3 H (hotZ H) = hotV H := by
  obtain ⟨a, b, c⟩ := H
  unfold hotZ hotV
  dsimp only
  by_cases h1 : b ≤ a
  · rw [if_pos h1, if_pos h1]
    by_cases h2 : c ≤ a
    · rw [if_pos h2]
      show a = _
      by_cases h3 : b < c
      · rw [if_pos h3, if_neg (Int32.not_lt.mpr h2)]
      · rw [if_neg h3, if_neg (Int32.not_lt.mpr h1)]
    · rw [if_neg h2]
      show c = _
      have h2' := Int32.not_le.mp h2
      have h3 : b < c := Int32.lt_of_le_of_lt h1 h2'
      rw [if_pos h3, if_pos h2']
  · rw [if_neg h1, if_neg h1]
    have h1' := Int32.not_le.mp h1
    by_cases h2 : c ≤ b
    · rw [if_pos h2]
      show b = _
      rw [if_neg (Int32.not_lt.mpr h2), if_pos h1']
    · rw [if_neg h2]
      show c = _
      have h2' := Int32.not_le.mp h2
      rw [if_pos h2', if_pos (Int32.lt_trans h1' h2')]
theorem hotZ_lt (H : H3) : hotZ H < 3 := by
  unfold hotZ
  by_cases h1 : H.2.1 ≤ H.1
  · rw [if_pos h1, if_pos h1]; split <;> decide
  · rw [if_neg h1, if_neg h1]; split <;> decide
theorem t_hot {k : Nat} {σ : Mem} {H : H3} (hk : (sh k).1 = 2) (h1 : ∀ z, z < 3 → σ (k + 1) z = at3 H z) : FX3_hottestZone [.ref k] σ = some (some (.int (nI (hotZ H))), σ) := by
  rw [enX3_hottestZone, li0, li1, blX3_hottestZone_4, if_neg (by decide), oc hk, kr0 hk, x3 (ks1 hk) (by decide), oc hk, x3 (ks1 hk) (by decide), show (nI 1 + 1 : Int32) = nI 2 from rfl, cl 1 (by decide), cl 0 (by decide), h1 0 (by decide), h1 1 (by decide)]
  have st : ∀ i, i < 2 → am_go CX3_hottestZone 4 [.ref k, .int (nI i), .int (nI 2)] [] σ = some (some (.int (if at3 H 2 ≤ at3 H i then nI i else nI 2)), σ) := by
    intro i hi
    rw [blX3_hottestZone_4, if_neg (by decide), oc hk, kr0 hk, x3 (ks1 hk) (by decide), oc hk, x3 (ks1 hk) (by omega), show (nI 2 + 1 : Int32) = nI 3 from rfl, cl 2 (by decide), cl i (by omega), h1 2 (by decide), h1 i (by omega), blX3_hottestZone_4, if_pos (show (3 : Int32) ≤ nI 3 by decide), blX3_hottestZone_4, if_pos (show (3 : Int32) ≤ nI 3 by decide)]
    split <;> rfl
  rw [st 0 (by decide), st 1 (by decide)]
  obtain ⟨a, b, c⟩ := H
  unfold hotZ
  show (if b ≤ a then some (some (Value.int (if c ≤ a then nI 0 else nI 2)), σ) else some (some (Value.int (if c ≤ b then nI 1 else nI 2)), σ)) = _
  dsimp only
  by_cases h2 : b ≤ a
  · rw [if_pos h2, if_pos h2]
    split <;> rfl
  · rw [if_neg h2, if_neg h2]
    split <;> rfl
theorem m_hot {σ : Mem} {H : H3} (h1 : ∀ z, z < 3 → σ 161 z = at3 H z) : FX10_hottest [.ref 160] σ = some (some (.int (hotV H)), σ) := by
  rw [enX10_hottest, oc m9, rf160_0, li0, li1, li2, xi (by decide) sh161, oc m9, xi (by decide) sh161, oc m9, xi (by decide) sh161, cl 0 (by decide), cl 1 (by decide), cl 2 (by decide), h1 0 (by decide), h1 1 (by decide), h1 2 (by decide)]
  rfl
/-! codes -/
def digT (c : Nat) : H3 := (nI (c / 16), nI (c / 4 % 4), nI (c % 4))
theorem digT_ok {c : Nat} (h : c < 64) : okT (digT c) := by
  intro z hz
  match z, hz with
  | 0, _ => exact ⟨c / 16, by omega, rfl⟩
  | 1, _ => exact ⟨c / 4 % 4, by omega, rfl⟩
  | 2, _ => exact ⟨c % 4, by omega, rfl⟩
theorem dig_c : ∀ c, c < 64 → nI c &&& 3 = nI (c % 4) ∧ (nI c >>> ((2 : Int32) &&& 31)) &&& 3 = nI (c / 4 % 4) ∧ ((nI c >>> ((2 : Int32) &&& 31)) >>> ((2 : Int32) &&& 31)) &&& 3 = nI (c / 16) ∧ nI c >>> ((4 : Int32) &&& 31) = nI (c / 16) := by decide +kernel
theorem t_setCode {k c : Nat} {σ : Mem} {S : KS} (hk : (sh k).1 = 2) (hc : c < 64) (h : repK k S σ) : ∃ σ', FX3_setByCode [.ref k, .int (nI c)] σ = some (none, σ') ∧ repK k (S.1, digT c, S.2.2) σ' ∧ ∀ a, (a < k ∨ k + 14 ≤ a) → σ' a = σ a := by
  obtain ⟨e1, e2, e3, -⟩ := dig_c c hc
  rw [enX3_setByCode, li2, blX3_setByCode_4, if_neg (by decide), oc hk, kr1 hk, x3 (ks2 hk) (by decide), show (nI 2 + -1 : Int32) = nI 1 from rfl, ← li2, blX3_setByCode_4, if_neg (by decide), oc hk, kr1 hk, x3 (ks2 hk) (by decide), show (nI 1 + -1 : Int32) = nI 0 from rfl, blX3_setByCode_4, if_neg (by decide), oc hk, kr1 hk, x3 (ks2 hk) (by decide), show (nI 0 + -1 : Int32) = -1 from rfl, blX3_setByCode_4, if_pos (by decide), tn2, cl 1 (by decide), cl 0 (by decide), e1, e2, e3]
  obtain ⟨h1, h2, h3, h4, h5, h6, h7⟩ := h
  have g : ∀ a, a ≠ k + 2 → setM (setM (setM σ (k + 2) 2 (nI (c % 4))) (k + 2) 1 (nI (c / 4 % 4))) (k + 2) 0 (nI (c / 16)) a = σ a := fun a ha => by rw [sM_a ha, sM_a ha, sM_a ha]
  refine ⟨_, rfl, ⟨fun z hz => ?_, fun z hz => ?_, fun z hz => ?_, ?_, ?_, ?_, fun i d hd => ?_⟩, fun a ha => g a (by omega)⟩
  · rw [g _ (by omega)]; exact h1 z hz
  · match z, hz with
    | 0, _ => simp [sM, at3, digT]
    | 1, _ => simp [sM, at3, digT]
    | 2, _ => simp [sM, at3, digT]
  · rw [g _ (by omega)]; exact h3 z hz
  · rw [g _ (by omega)]; exact h4
  · rw [g _ (by omega)]; exact h5
  · rw [g _ (by omega)]; exact h6
  · rw [g _ (by omega)]; exact h7 i d hd
/-! cool -/
def colS (S : KS) (v : Int32) : Nat → Nat → Int32
  | 0, _ => -1
  | m + 1, j => if v < hotV (stN j S).1 then colS S v m (j + 1) else nI j
theorem t_co {S : KS} {v : Int32} (hS : okK S) : ∀ (m j : Nat) (σ : Mem), j + m = 61 → repK 15 (waN j S) σ → ∃ σ', am_go CX9_cool 31 [.ref 0, .int v, .int (nI j)] [] σ = some (some (.int (colS S v m j)), σ') ∧ ∀ a, (a < 15 ∨ 15 + 14 ≤ a) → σ' a = σ a := by
  intro m
  induction m with
  | zero =>
    intro j σ hj h
    have : j = 61 := by omega
    subst this
    rw [blX9_cool_31, if_pos (by decide)]
    exact ⟨σ, rfl, fun _ _ => rfl⟩
  | succ m ih =>
    intro j σ hj h
    have hh := hotZ_lt (waN j S).1
    rw [blX9_cool_31, if_neg (show ¬ (60 : Int32) < nI j from nI_nlt (b := j) (a := 60) (by omega) (by decide)), oc c8, rf0_1, oc k15, oc c8, oc k15, t_hot k15 h.1, rI, kr0 k15, x3 (ks1 k15) hh, cl _ (by omega), h.1 _ hh, hot_eq, colS]
    by_cases hv : v < hotV (stN j S).1
    · obtain ⟨σ1, e1, r1, f1⟩ := t_warm k15 (hS.waN (n := j)).1 h
      rw [waN_succ] at r1
      obtain ⟨σ2, e2, f2⟩ := ih (j + 1) σ1 (by omega) r1
      rw [if_pos (show v < hotV (waN j S).1 from hv), if_pos hv, oc c8, oc k15, e1, rV, nI_1]
      exact ⟨σ2, e2, fun a ha => (f2 a ha).trans (f1 a ha)⟩
    · rw [if_neg (show ¬ v < hotV (waN j S).1 from hv), if_neg hv]
      exact ⟨σ, rfl, fun _ _ => rfl⟩
theorem m_co {S0 S : KS} {v : Int32} (hS0 : okK S0) (hS : okK S) : ∀ (m j : Nat) (σ : Mem) (v3 : Value), j + m = 61 → inT S0 (stN j S) σ → ∃ σ', am_go CX10_cool 21 [.ref 160, .int v, .int (nI j), v3] [] σ = some (some (.int (colS S v m j)), σ') ∧ inT S0 S0 σ' ∧ frM σ σ' := by
  intro m
  induction m with
  | zero =>
    intro j σ v4 hj h
    have : j = 61 := by omega
    subst this
    obtain ⟨σ1, e1, r1, f1⟩ := th_end hS0.1 h
    rw [blX10_cool_21, if_pos (by decide), oc m9, e1, rV, if_neg (by decide)]
    exact ⟨σ1, rfl, r1, f1⟩
  | succ m ih =>
    intro j σ v4 hj h
    rw [blX10_cool_21, if_neg (show ¬ (60 : Int32) < nI j from nI_nlt (b := j) (a := 60) (by omega) (by decide)), oc m9, m_hot h.1.1, rI, colS]
    by_cases hv : v < hotV (stN j S).1
    · obtain ⟨σ1, e1, r1, f1⟩ := th_go (hS.stN (n := j)) h
      rw [← stN_succ] at r1
      obtain ⟨σ2, e2, r2, f2⟩ := ih (j + 1) σ1 (.int (stepS (stN j S)).2) (by omega) r1
      rw [if_neg (Int32.not_le.mpr hv), if_pos hv, oc m9, e1, rI, nI_1]
      exact ⟨σ2, e2, r2, f1.tr f2⟩
    · obtain ⟨σ1, e1, r1, f1⟩ := th_end hS0.1 h
      rw [if_pos (Int32.not_lt.mp hv), if_neg hv, oc m9, e1, rV, if_pos (show nI j ≤ 60 from nI_le (b := 60) (by omega) (by decide))]
      exact ⟨σ1, rfl, r1, f1⟩
theorem th_setAll {S S' : KS} {σ : Mem} {s : Int32} (h : inT S S' σ) : ∃ σ', FX10_setAll [.ref 160, .int s] σ = some (none, σ') ∧ inT S (S'.1, (s, s, s), S'.2.2) σ' ∧ frM σ σ' := by
  obtain ⟨σ', e, r, f, g⟩ := m_setAll (s := s) h.1
  exact ⟨σ', e, ⟨r, h.2.1.go (fun a ha hb => g a (by omega)) (by rw [g 160 (by decide)]) (by rw [g 160 (by decide)]), h.2.2.fr f⟩, f⟩
theorem op_cool {σ : Mem} (h : Rel σ) (x1 : Int32) : OpOK (FX9_cool [.ref 0, .int x1]) (FX10_cool [.ref 160, .int x1]) σ := by
  have h0 := h
  obtain ⟨Z, hZ, hC, hM⟩ := h
  by_cases hy : 0 ≤ x1 ∧ x1 ≤ 1300
  · have ok0 : okK (Z.1.1, digT 0, Z.1.2.2) := ⟨hZ.1.1, digT_ok (by decide)⟩
    refine op_of (Z' := Z) (r := colS (Z.1.1, digT 0, Z.1.2.2) x1 61 0) hZ hM hZ ?_ (fun σ1 hM1 => ?_)
    · obtain ⟨σ1, e1, r1, f1⟩ := t_become k15 k1 (by decide) hZ.1.1 hC.1
      obtain ⟨σ2, e2, r2, f2⟩ := t_setCode (c := 0) k15 (by decide) r1
      obtain ⟨σ3, e3, f3⟩ := t_co (v := x1) ok0 61 0 σ2 rfl r2
      rw [enX9_cool, t_isHeat, rI, ifb, if_pos hy, oc c8, oc c8, rf0_0, rf0_1, oc k15, e1, rV, oc c8, oc k15, show FX3_setByCode [.ref 15, .int 0] σ1 = _ from e2, rV, show am_go CX9_cool 31 [.ref 0, .int x1, .int 0] [] σ2 = _ from e3]
      exact ⟨σ3, rfl, hC.th hZ (fun a ha => by rw [f3 a ha, f2 a ha, f1 a ha]), fun a ha => by rw [f3 a (by omega), f2 a (by omega), f1 a (by omega)]⟩
    · obtain ⟨σ2, e2, r2, f2⟩ := th_begin hZ.1.1 hM1.1
      obtain ⟨σ3, e3, r3, f3⟩ := th_setAll (s := 0) r2
      obtain ⟨σ4, e4, r4, f4⟩ := m_co (v := x1) hZ.1 ok0 61 0 σ3 .null rfl r3
      rw [enX10_cool, t_mHeat, rI, ifb, if_pos hy, oc m9, e2, rV, oc m9, e3, rV, show am_go CX10_cool 21 [.ref 160, .int x1, .int 0, .null] [] σ3 = _ from e4]
      exact ⟨σ4, rfl, hM1.th r4.1 ((f2.tr f3).tr f4), ((f2.tr f3).tr f4).lo⟩
  · exact op_same (r := -2) h0 (by rw [enX9_cool, t_isHeat, rI, ifb, if_neg hy]) (by rw [enX10_cool, t_mHeat, rI, ifb, if_neg hy])
