/-! plan, lay -/
def digC (q : Nat) : Nat → Int32 → Int32
  | 0, x => x
  | m + 1, x => digC q m (x * 10 + nI (q / 4 ^ m % 4))
theorem t_digits {k q : Nat} {σ : Mem} (hk : k ≤ 4) (h4 : σ 53 4 = nI k) (h6 : ∀ i, i < k → σ 56 i = nI (q / 4 ^ (k - 1 - i) % 4)) : ∀ (m i : Nat) (x : Int32), i + m = k → am_go CX5_digits 4 [.ref 53, .int x, .int (nI i)] [] σ = some (some (.int (digC q m x)), σ) := by
  intro m
  induction m with
  | zero =>
    intro i x hi
    have : i = k := by omega
    subst this
    rw [blX5_digits_4, oc o53, h4, if_pos (Int32.le_refl _), digC]
  | succ m ih =>
    intro i x hi
    rw [blX5_digits_4, oc o53, h4, if_neg (nI_ge (by omega) (by omega)), oc o53, rf53_2, xi (show i < 4 by omega) sh56, cl i (by omega), h6 i (by omega), nI_1, ih (i + 1) _ (by omega), digC, show k - 1 - i = m by omega]
theorem m_digits {q : Nat} {x1 x2 x3 : Int32} {σ : Mem} (h : σ 160 39 = nI q) (hq : q < 256) : ∀ (m : Nat) (x : Int32), m ≤ 4 → am_go CX10_plan 72 [.ref 160, .int x1, .int x2, .int x3, .int x, .int (nI m - 1)] [] σ = some (some (.int (digC q m x)), σ) := by
  intro m
  induction m with
  | zero => intro x _; rw [blX10_plan_72, if_pos (by decide), digC]
  | succ m ih =>
    intro x hm
    rw [nI_pred, blX10_plan_72, if_neg (nI_pos (by omega)), oc m9, h, dig4 ⟨m, by omega⟩ ⟨q, hq⟩, ← Int32.sub_eq_add_neg, Int32.mul_comm, ih _ (by omega), digC]
def plnR (b : Bst) (k : Nat) (w : Int32) : Int32 := match b with
  | none => -1
  | some (g, q) => if w = 0 then nI g else digC q k 0
theorem rcP {Z : ZS} {σ σ' : Mem} (hZ : okZ Z) (h : RC Z σ) (f : ∀ a, (a < 53 ∨ 127 ≤ a) → σ' a = σ a) : RC Z σ' := ⟨h.1.fr hZ.1.1.1 (fun a ha => f a (by omega)), h.2.fr hZ.2 ⟨fun a ha => f a (by omega), by rw [f 0 (by omega)]⟩⟩
theorem op_plan {σ : Mem} (h : Rel σ) (x1 x2 x3 : Int32) : OpOK (FX9_plan [.ref 0, .int x1, .int x2, .int x3]) (FX10_plan [.ref 160, .int x1, .int x2, .int x3]) σ := by
  by_cases h1 : 1 ≤ x1 ∧ x1 ≤ 4
  · by_cases h2 : 1 ≤ x2 ∧ x2 ≤ 6
    · by_cases h3 : 0 ≤ x3 ∧ x3 ≤ 1
      · obtain ⟨Z, hZ, hC, hM⟩ := h
        have h1' := h1
        have h2' := h2
        obtain ⟨k, k1', k4, rfl⟩ := n_of (n := 1) (m := 4) rfl rfl (by decide) (by decide) h1
        obtain ⟨n, n1', n6, rfl⟩ := n_of (n := 1) (m := 6) rfl rfl (by decide) (by decide) h2
        refine op_of (Z' := Z) (r := plnR (plnS k n Z.1) k x3) hZ hM hZ ?_ (fun σ1 hM1 => ?_)
        · obtain ⟨σ1, e1, b1, q1, f1⟩ := t_seek k4 n6 hZ.1 hC.1
          refine ⟨σ1, ?_, rcP hZ hC f1, fun a ha => f1 a (by omega)⟩
          rw [enX9_plan, t_isPlan, rI, ifb, if_pos ⟨h1', h2'⟩, t_isWithin, rI, ifb, if_pos h3, oc c8, oc c8, rf0_0, rf0_10, oc o53, e1, rV, oc c8, oc o53]
          cases hb : plnS k n Z.1 with
          | none =>
            rw [hb] at b1
            rw [if_pos (show σ1 53 3 = -1 from b1)]
            rfl
          | some gq =>
            obtain ⟨g, q⟩ := gq
            rw [hb] at b1
            obtain ⟨c1, c2, c3⟩ := b1
            rw [c1, if_neg (nI_m1 (by omega))]
            unfold plnR
            dsimp only
            by_cases w : x3 = 0
            · rw [if_pos w, if_pos w, oc c8, oc o53]
            · rw [if_neg w, if_neg w, oc c8, oc o53, enX5_digits, show am_go CX5_digits 4 [.ref 53, .int 0, .int 0] [] σ1 = _ from t_digits k4 q1 c3 k 0 0 (by omega), rI]
        · obtain ⟨σ2, e2, r2, b2, f2⟩ := m_plans k4 n6 hZ.1 hM1.1
          refine ⟨σ2, ?_, ⟨r2, hM1.2.fr f2.kp⟩, f2.lo⟩
          rw [enX10_plan, t_isIn, rI, ifb, if_pos h1', t_isIn, rI, ifb, if_pos h2', t_isIn, rI, ifb, if_pos h3, oc m9, e2, rV, oc m9]
          cases hb : plnS k n Z.1 with
          | none =>
            rw [hb] at b2
            have e39 : σ2 160 39 = -1 := b2
            rw [e39, if_pos (by decide), oc m9, if_neg (by decide)]
            rfl
          | some gq =>
            obtain ⟨g, q⟩ := gq
            rw [hb] at b2
            obtain ⟨c1, c2, c3, c4⟩ := b2
            unfold plnR
            dsimp only
            rw [c1, if_neg (nI_pos (by omega)), oc m9, if_pos (nI_pos' (by omega)), oc m9, c2, m_digits c1 c4 k _ k4]
            by_cases w : x3 = 0
            · rw [if_pos w, if_pos w]
            · rw [if_neg w, if_neg w]
      · exact op_same (r := -2) h (by rw [enX9_plan, t_isPlan, rI, ifb, if_pos ⟨h1, h2⟩, t_isWithin, rI, ifb, if_neg h3]) (by rw [enX10_plan, t_isIn, rI, ifb, if_pos h1, t_isIn, rI, ifb, if_pos h2, t_isIn, rI, ifb, if_neg h3])
    · exact op_same (r := -2) h (by rw [enX9_plan, t_isPlan, rI, ifb, if_neg (fun z => h2 z.2)]) (by rw [enX10_plan, t_isIn, rI, ifb, if_pos h1, t_isIn, rI, ifb, if_neg h2])
  · exact op_same (r := -2) h (by rw [enX9_plan, t_isPlan, rI, ifb, if_neg (fun z => h1 z.1)]) (by rw [enX10_plan, t_isIn, rI, ifb, if_neg h1])
/-! lay -/
def rwG (k n q i : Nat) : Lg := (nI (q / 4 ^ (k - 1 - i) % 4), nI (q / 4 ^ (k - 1 - i) % 4), nI (q / 4 ^ (k - 1 - i) % 4), nI n)
def rwL (k n q m : Nat) : List Lg := (List.range m).map (rwG k n q)
theorem rwL_len (k n q m : Nat) : (rwL k n q m).length = m := by unfold rwL; rw [List.length_map, List.length_range]
theorem rwL_succ (k n q m : Nat) : rwL k n q (m + 1) = rwL k n q m ++ [rwG k n q m] := by
  unfold rwL
  rw [List.range_succ, List.map_append]
  rfl
theorem rwL_get {k n q m i : Nat} {g : Lg} (h : (rwL k n q m)[i]? = some g) : i < m ∧ g = rwG k n q i := by
  have hi : i < m := by
    have := (List.getElem?_eq_some_iff.mp h).1
    rw [rwL_len] at this
    exact this
  unfold rwL at h
  rw [List.getElem?_map, List.getElem?_range hi] at h
  exact ⟨hi, (Option.some.inj h).symm⟩
theorem rwL_ok {k n q : Nat} (hk : k ≤ 4) (n1 : 1 ≤ n) (n6 : n ≤ 6) : okC (rwL k n q k) := by
  refine ⟨by rw [rwL_len]; omega, fun g hg => ?_⟩
  obtain ⟨i, -, rfl⟩ := List.mem_map.mp hg
  exact ⟨⟨_, Nat.mod_lt _ (by decide), rfl⟩, ⟨_, Nat.mod_lt _ (by decide), rfl⟩, ⟨_, Nat.mod_lt _ (by decide), rfl⟩, ⟨n, n1, by omega, rfl⟩⟩
theorem t_layC {c k n q : Nat} {g : Int32} (hc : c < 4) (hk : k ≤ 4) : ∀ (m i : Nat) (v5 : Value) (σ : Mem), i + m = k → repCo (128 + 6 * c) (rwL k n q i) σ → σ 53 3 = g → (∀ i, i < k → σ 56 i = nI (q / 4 ^ (k - 1 - i) % 4)) → ∃ σ', am_go CX9_lay 58 [.ref 0, .int (nI c), .int (nI k), .int (nI n), .int (nI i), v5] [] σ = some (some (.int g), σ') ∧ repCo (128 + 6 * c) (rwL k n q k) σ' ∧ ∀ a, ¬ (128 + 6 * c ≤ a ∧ a < 128 + 6 * c + 3) → σ' a = σ a := by
  intro m
  induction m with
  | zero =>
    intro i v5 σ hi h hg h6
    have : i = k := by omega
    subst this
    rw [blX9_lay_58, if_pos (Int32.le_refl _), oc c8, rf0_10, oc o53, hg]
    exact ⟨σ, rfl, h, fun _ _ => rfl⟩
  | succ m ih =>
    intro i v5 σ hi h hg h6
    have h2 : σ (128 + 6 * c) 2 = nI i := by rw [h.1, rwL_len]
    have h' := addM_rep (g := rwG k n q i) h
    rw [rwL_len, ← rwL_succ] at h'
    obtain ⟨σ', e, r, f⟩ := ih (i + 1) (.int (nI (q / 4 ^ (k - 1 - i) % 4))) (addM (128 + 6 * c) i (rwG k n q i) σ) (by omega) h' (by rw [addM_fr (by omega)]; exact hg) (fun j hj => by rw [addM_fr (by omega)]; exact h6 j hj)
    refine ⟨σ', ?_, r, fun a ha => by rw [f a ha, addM_fr ha]⟩
    rw [blX9_lay_58, if_neg (nI_ge (by omega) (by omega)), oc c8, rf0_10, oc o53, rf53_2, xi (show i < 4 by omega) sh56, oc c8, rf0_3, x103 hc, cl c (by omega), cor hc, oc (cos hc), cl i (by omega), h6 i (by omega), show FX1_addLeg [.ref (128 + 6 * c), .int (nI (q / 4 ^ (k - 1 - i) % 4)), .int (nI (q / 4 ^ (k - 1 - i) % 4)), .int (nI (q / 4 ^ (k - 1 - i) % 4)), .int (nI n)] σ = _ from t_addLeg (g := rwG k n q i) (cos hc) h2 (by omega), rV, nI_1]
    exact e
theorem m_lay {c k n q : Nat} {g : Int32} (hc : c < 4) (hk : k ≤ 4) (hq : q < 256) : ∀ (m i : Nat) (v5 : Value) (σ : Mem), i + m = k → σ 160 39 = nI q → σ 160 38 = g → (∀ j, j < i → legM c j (rwG k n q j) σ) → ∃ σ', am_go CX10_lay 55 [.ref 160, .int (nI c), .int (nI k), .int (nI n), .int (nI i), v5] [] σ = some (some (.int g), σ') ∧ (∀ j, j < k → legM c j (rwG k n q j) σ') ∧ (∀ a, a ≠ 169 → a ≠ 170 → σ' a = σ a) ∧ (∀ x, (x < 18 * c ∨ 18 * c + 18 ≤ x) → σ' 170 x = σ 170 x) ∧ ∀ x, (x < 6 * c ∨ 6 * c + 6 ≤ x) → σ' 169 x = σ 169 x := by
  intro m
  induction m with
  | zero =>
    intro i v5 σ hi h39 h38 hl
    have : i = k := by omega
    subst this
    rw [blX10_lay_55, if_pos (Int32.le_refl _), oc m9, h38]
    exact ⟨σ, rfl, hl, fun _ _ _ => rfl, fun _ _ => rfl, fun _ _ => rfl⟩
  | succ m ih =>
    intro i v5 σ hi h39 h38 hl
    obtain ⟨dg, hdg⟩ : ∃ dg, dg = nI (q / 4 ^ (k - 1 - i) % 4) := ⟨_, rfl⟩
    have es : nI k - 1 - nI i = nI (k - 1 - i) := by
      rw [show (1 : Int32) = nI 1 from rfl, pk_sub (by omega), pk_sub (by omega)]
    have st : ∀ (z : Nat) (τ : Mem), z < 3 → τ 160 39 = nI q → am_go CX10_lay 77 [.ref 160, .int (nI c), .int (nI k), .int (nI n), .int (nI i), .int (nI z)] [] τ = am_go CX10_lay 77 [.ref 160, .int (nI c), .int (nI k), .int (nI n), .int (nI i), .int (nI (z + 1))] [] (setM τ 170 (18 * c + 3 * i + z) dg) := by
      intro z τ hz ht
      rw [blX10_lay_77, if_neg (show ¬ (3 : Int32) ≤ nI z from nI_ge (b := 3) hz (by decide)), oc m9, oc m9, rf160_12, i18, xi (show 18 * c + 3 * i + z < 72 by omega) sh170, cl _ (by omega), ht, es, dig4 ⟨k - 1 - i, by omega⟩ ⟨q, hq⟩, nI_1, hdg]
    obtain ⟨σ1, h1⟩ : ∃ σ1, σ1 = setM (setM (setM (setM σ 169 (6 * c + i) (nI n)) 170 (18 * c + 3 * i + 0) dg) 170 (18 * c + 3 * i + 1) dg) 170 (18 * c + 3 * i + 2) dg := ⟨_, rfl⟩
    have fa : ∀ a, a ≠ 169 → a ≠ 170 → σ1 a = σ a := fun a a1 a2 => by rw [h1, sM_a a2, sM_a a2, sM_a a2, sM_a a1]
    have f170 : ∀ x, (x < 18 * c + 3 * i ∨ 18 * c + 3 * i + 3 ≤ x) → σ1 170 x = σ 170 x := fun x hx => by rw [h1, sM_i (by omega), sM_i (by omega), sM_i (by omega), sM_a (by decide)]
    have f169 : ∀ x, x ≠ 6 * c + i → σ1 169 x = σ 169 x := fun x hx => by rw [h1, sM_a (by decide), sM_a (by decide), sM_a (by decide), sM_i hx]
    have hl1 : ∀ j, j < i + 1 → legM c j (rwG k n q j) σ1 := by
      intro j hj
      by_cases hji : j = i
      · subst hji
        refine ⟨?_, ?_, ?_, ?_⟩
        · rw [h1, sM_i (by omega), sM_i (by omega)]
          show setM _ 170 (18 * c + 3 * j + 0) dg 170 (18 * c + 3 * j + 0) = _
          rw [sM_eq, hdg]; rfl
        · rw [h1, sM_i (by omega), sM_eq, hdg]; rfl
        · rw [h1, sM_eq, hdg]; rfl
        · rw [h1, sM_a (by decide), sM_a (by decide), sM_a (by decide), sM_eq]; rfl
      · have := hl j (by omega)
        unfold legM at this ⊢
        rw [f170 _ (by omega), f170 _ (by omega), f170 _ (by omega), f169 _ (by omega)]
        exact this
    obtain ⟨σ', e, r, g1, g2, g3⟩ := ih (i + 1) (.int (nI 3)) σ1 (by omega) (by rw [fa 160 (by decide) (by decide)]; exact h39) (by rw [fa 160 (by decide) (by decide)]; exact h38) hl1
    refine ⟨σ', ?_, r, fun a a1 a2 => by rw [g1 a a1 a2, fa a a1 a2], fun x hx => by rw [g2 x hx, f170 x (by omega)], fun x hx => by rw [g3 x hx, f169 x (by omega)]⟩
    rw [blX10_lay_55, if_neg (nI_ge (by omega) (by omega)), oc m9, rf160_11, i6, xi (show 6 * c + i < 24 by omega) sh169, cl (6 * c + i) (by omega), show (0 : Int32) = nI 0 from rfl, st 0 _ (by decide) (by rw [sM_a (by decide)]; exact h39), st 1 _ (by decide) (by rw [sM_a (by decide), sM_a (by decide)]; exact h39), st 2 _ (by decide) (by rw [sM_a (by decide), sM_a (by decide), sM_a (by decide)]; exact h39), ← h1, blX10_lay_77, if_pos (by decide), nI_1]
    exact e
theorem op_lay {σ : Mem} (h : Rel σ) (x1 x2 x3 : Int32) : OpOK (FX9_lay [.ref 0, .int x1, .int x2, .int x3]) (FX10_lay [.ref 160, .int x1, .int x2, .int x3]) σ := by
  by_cases h0 : 0 ≤ x1 ∧ x1 ≤ 3
  · by_cases h1 : 1 ≤ x2 ∧ x2 ≤ 4
    · by_cases h2 : 1 ≤ x3 ∧ x3 ≤ 6
      · obtain ⟨Z, hZ, hC, hM⟩ := h
        have h0' := h0
        have h1' := h1
        have h2' := h2
        obtain ⟨c, hc, rfl⟩ := n3 h0
        obtain ⟨k, k1', k4, rfl⟩ := n_of (n := 1) (m := 4) rfl rfl (by decide) (by decide) h1
        obtain ⟨n, n1', n6, rfl⟩ := n_of (n := 1) (m := 6) rfl rfl (by decide) (by decide) h2
        obtain ⟨σa, ea, ba, qa, fa⟩ := t_seek k4 n6 hZ.1 hC.1
        cases hb : plnS k n Z.1 with
        | none =>
          rw [hb] at ba
          refine op_of (Z' := Z) (r := -3) hZ hM hZ ⟨σa, ?_, rcP hZ hC fa, fun a ha => fa a (by omega)⟩ (fun σ1 hM1 => ?_)
          · rw [enX9_lay, t_isCourse, rI, ifb, if_pos h0', t_isPlan, rI, ifb, if_pos ⟨h1', h2'⟩, oc c8, oc c8, rf0_0, rf0_10, oc o53, ea, rV, oc c8, oc o53, if_pos (show σa 53 3 = -1 from ba)]
          · obtain ⟨σ2, e2, r2, b2, f2⟩ := m_plans k4 n6 hZ.1 hM1.1
            rw [hb] at b2
            have e39 : σ2 160 39 = -1 := b2
            refine ⟨σ2, ?_, ⟨r2, hM1.2.fr f2.kp⟩, f2.lo⟩
            rw [enX10_lay, t_mCourse, rI, ifb, if_pos h0', t_isIn, rI, ifb, if_pos h1', t_isIn, rI, ifb, if_pos h2', oc m9, e2, rV, oc m9, e39, if_neg (by decide)]
        | some gq =>
          obtain ⟨g, q⟩ := gq
          rw [hb] at ba
          obtain ⟨c1, c2, c3⟩ := ba
          refine op_of (Z' := zCo Z c (rwL k n q k) Z.2.2.1) (r := nI g) hZ hM (hZ.co (rwL_ok k4 n1' n6) hZ.2.2.1) ?_ (fun σ1 hM1 => ?_)
          · obtain ⟨σ3, e3, r3, f3⟩ := t_layC (n := n) (q := q) (g := nI g) hc k4 k 0 .null (setM σa (128 + 6 * c) 2 0) (by omega) ⟨by rw [sM_eq]; rfl, fun i g hg => by cases hg⟩ (by rw [sM_a (by omega)]; exact c1) (fun i hi => by rw [sM_a (by omega)]; exact c3 i hi)
            have fA : ∀ a, (a < 53 ∨ 127 ≤ a) → ¬ (128 + 6 * c ≤ a ∧ a < 128 + 6 * c + 3) → σ3 a = σ a := fun a a1 a2 => by rw [f3 a a2, sM_a (by omega), fa a a1]
            refine ⟨σ3, ?_, hC.co hZ hc r3 ?_ (fun i b hb => ?_) (fun a ha => fA a (by omega) (by omega)) (by rw [fA 0 (by omega) (by omega)]), fun a ha => fA a (by omega) (by omega)⟩
            · rw [enX9_lay, t_isCourse, rI, ifb, if_pos h0', t_isPlan, rI, ifb, if_pos ⟨h1', h2'⟩, oc c8, oc c8, rf0_0, rf0_10, oc o53, ea, rV, oc c8, oc o53, c1, if_neg (nI_m1 (by omega)), oc c8, rf0_3, x103 hc, cl c (by omega), cor hc, oc (cos hc)]
              exact e3
            · rw [fA 45 (by omega) (by omega)]; exact hC.2.2.1.1
            · rw [fA 46 (by omega) (by omega)]; exact hC.2.2.1.2 i b hb
          · obtain ⟨σ2, e2, r2, b2, f2⟩ := m_plans k4 n6 hZ.1 hM1.1
            rw [hb] at b2
            obtain ⟨d1, d2, d3, d4⟩ := b2
            obtain ⟨σ3, e3, r3, g1, g2, g3⟩ := m_lay (n := n) (g := nI g) hc k4 d4 k 0 .null (setM σ2 168 c (nI k)) (by omega) (by rw [sM_a (by decide)]; exact d1) (by rw [sM_a (by decide)]; exact d2) (fun j hj => by omega)
            have hM2 : RM Z σ2 := ⟨r2, hM1.2.fr f2.kp⟩
            have fA : ∀ a, a ≠ 168 → a ≠ 169 → a ≠ 170 → σ3 a = σ2 a := fun a a1 a2 a3 => by rw [g1 a a2 a3, sM_a a1]
            refine ⟨σ3, ?_, hM2.co hZ hc ⟨?_, fun i g hg => ?_⟩ (fun p hp hpc => ⟨?_, fun i hi => ?_, fun i hi => ?_⟩) ?_ (fun i b hb => ?_) (fun a ha => fA a (by omega) (by omega) (by omega)) (fun j hj => by rw [fA 160 (by decide) (by decide) (by decide)]), fun a ha => by rw [fA a (by omega) (by omega) (by omega), f2.lo a ha]⟩
            · rw [enX10_lay, t_mCourse, rI, ifb, if_pos h0', t_isIn, rI, ifb, if_pos h1', t_isIn, rI, ifb, if_pos h2', oc m9, e2, rV, oc m9, d1, if_pos (nI_pos' (by omega)), oc m9, rf160_10, xi hc sh168, cl c (by omega)]
              exact e3
            · rw [g1 168 (by decide) (by decide), sM_eq, rwL_len]
            · obtain ⟨hi, rfl⟩ := rwL_get hg
              exact r3 i hi
            · rw [g1 168 (by decide) (by decide), sM_i hpc]
            · rw [g2 _ (by omega), sM_a (by decide)]
            · rw [g3 _ (by omega), sM_a (by decide)]
            · rw [fA 160 (by decide) (by decide) (by decide)]; exact hM2.2.2.1.1
            · rw [fA 171 (by decide) (by decide) (by decide)]; exact hM2.2.2.1.2 i b hb
      · exact op_same (r := -2) h (by rw [enX9_lay, t_isCourse, rI, ifb, if_pos h0, t_isPlan, rI, ifb, if_neg (fun z => h2 z.2)]) (by rw [enX10_lay, t_mCourse, rI, ifb, if_pos h0, t_isIn, rI, ifb, if_pos h1, t_isIn, rI, ifb, if_neg h2])
    · exact op_same (r := -2) h (by rw [enX9_lay, t_isCourse, rI, ifb, if_pos h0, t_isPlan, rI, ifb, if_neg (fun z => h1 z.1)]) (by rw [enX10_lay, t_mCourse, rI, ifb, if_pos h0, t_isIn, rI, ifb, if_neg h1])
  · exact op_same (r := -2) h (by rw [enX9_lay, t_isCourse, rI, ifb, if_neg h0]) (by rw [enX10_lay, t_mCourse, rI, ifb, if_neg h0])
