/-! a course becomes another: leg, clear, join -/
def fuC (f : Cs) (c : Nat) (l : List Lg) : Cs := fun q => if q = c then l else f q
theorem fuC_eq (f : Cs) (c : Nat) (l : List Lg) : fuC f c l c = l := by unfold fuC; rw [if_pos rfl]
theorem fuC_ne {f : Cs} {c q : Nat} {l : List Lg} (h : q ≠ c) : fuC f c l q = f q := by unfold fuC; rw [if_neg h]
def zCo (Z : ZS) (c : Nat) (l : List Lg) (t : List Int32) : ZS := (Z.1, fuC Z.2.1 c l, t, Z.2.2.2.1, Z.2.2.2.2)
def okTp (t : List Int32) : Prop := t.length ≤ 120 ∧ ∀ b ∈ t, ∃ j : Nat, j < 128 ∧ b = nI j
theorem okZ.co {Z : ZS} {c : Nat} {l : List Lg} {t : List Int32} (h : okZ Z) (hl : okC l) (ht : okTp t) : okZ (zCo Z c l t) := by
  refine ⟨h.1, fun q hq => ?_, ht, h.2.2.2.1, h.2.2.2.2⟩
  show okC (fuC Z.2.1 c l q)
  by_cases hqc : q = c
  · subst hqc; rw [fuC_eq]; exact hl
  · rw [fuC_ne hqc]; exact h.2.1 q hq
theorem RC.co {Z : ZS} {σ σ' : Mem} {c : Nat} {l : List Lg} {t : List Int32} (hZ : okZ Z) (h : RC Z σ) (hc : c < 4) (hl : repCo (128 + 6 * c) l σ') (ht : σ' 45 1 = nI t.length) (hb : ∀ i b, t[i]? = some b → σ' 46 i = b) (f : ∀ a, ((1 ≤ a ∧ a < 15) ∨ (29 ≤ a ∧ a < 43) ∨ (128 ≤ a ∧ a < 160 ∧ ¬ (128 + 6 * c ≤ a ∧ a < 128 + 6 * c + 3))) → σ' a = σ a) (f0 : σ' 0 5 = σ 0 5) : RC (zCo Z c l t) σ' := by
  obtain ⟨g0, g1, g2, g3, g4⟩ := h
  refine ⟨g0.fr hZ.1.1.1 (fun a ha => f a (by omega)), fun q hq => ?_, ⟨ht, hb⟩, fun q hq => ?_, ?_⟩
  · show repCo (128 + 6 * q) (fuC Z.2.1 c l q) σ'
    by_cases hqc : q = c
    · subst hqc; rw [fuC_eq]; exact hl
    · rw [fuC_ne hqc]; exact (g1 q hq).fr (fun b hb => f b (by omega))
  · have := g3 q hq
    unfold repSc at this ⊢
    rw [f (152 + 2 * q) (by omega), f (153 + 2 * q) (by omega)]
    exact this
  · show match Z.2.2.2.2 with
      | none => σ' 0 5 = 0
      | some (S, C) => σ' 0 5 = 1 ∧ repK 29 S σ' ∧ ∀ c, c < 4 → repCo (131 + 6 * c) (C c) σ'
    cases hi : Z.2.2.2.2 with
    | none => rw [hi] at g4; show σ' 0 5 = 0; rw [f0]; exact g4
    | some q =>
      obtain ⟨S, C⟩ := q
      rw [hi] at g4
      have ok := hZ.2.2.2.2 S C hi
      exact ⟨by rw [f0]; exact g4.1, g4.2.1.fr ok.1.1.1 (fun a ha => f a (by omega)), fun q hq => (g4.2.2 q hq).fr (fun b hb => f b (by omega))⟩
theorem RM.co {Z : ZS} {σ σ' : Mem} {c : Nat} {l : List Lg} {t : List Int32} (hZ : okZ Z) (h : RM Z σ) (hc : c < 4) (hl : repCm c l σ') (hq : ∀ q, q < 4 → q ≠ c → σ' 168 q = σ 168 q ∧ (∀ i, i < 18 → σ' 170 (18 * q + i) = σ 170 (18 * q + i)) ∧ ∀ i, i < 6 → σ' 169 (6 * q + i) = σ 169 (6 * q + i)) (ht : σ' 160 14 = nI t.length) (hb : ∀ i b, t[i]? = some b → σ' 171 i = b) (f : ∀ a, ((161 ≤ a ∧ a < 168) ∨ (172 ≤ a ∧ a < 175) ∨ a = 184) → σ' a = σ a) (f0 : ∀ j, (j = 2 ∨ j = 8 ∨ j = 9 ∨ j = 40) → σ' 160 j = σ 160 j) : RM (zCo Z c l t) σ' := by
  obtain ⟨g0, g1, g2, g3, g4⟩ := h
  refine ⟨?_, fun q hq4 => ?_, ⟨ht, hb⟩, fun q hq4 => ?_, ?_⟩
  · show repM Z.1 σ'
    unfold repM repN at g0 ⊢
    rw [f0 2 (by omega), f0 8 (by omega), f0 9 (by omega), f 161 (by omega), f 162 (by omega), f 163 (by omega), f 164 (by omega), f 165 (by omega), f 166 (by omega), f 167 (by omega)]
    exact g0
  · show repCm q (fuC Z.2.1 c l q) σ'
    by_cases hqc : q = c
    · subst hqc; rw [fuC_eq]; exact hl
    · rw [fuC_ne hqc]
      obtain ⟨e1, e2, e3⟩ := hq q hq4 hqc
      obtain ⟨k1, k2⟩ := g1 q hq4
      refine ⟨by rw [e1]; exact k1, fun i g hg => ?_⟩
      have hl6 := (hZ.2.1 q hq4).1
      have hi : i < 6 := by have : i < (Z.2.1 q).length := (List.getElem?_eq_some_iff.mp hg).1; omega
      have := k2 i g hg
      rw [show 18 * q + 3 * i + 1 = 18 * q + (3 * i + 1) by omega, show 18 * q + 3 * i + 2 = 18 * q + (3 * i + 2) by omega] at this ⊢
      rw [e2 _ (by omega), e2 _ (by omega), e2 _ (by omega), e3 i hi]
      exact this
  · have := g3 q hq4
    unfold repSm at this ⊢
    rw [f 172 (by omega), f 173 (by omega), f 174 (by omega)]
    exact this
  · show match Z.2.2.2.2 with
      | none => σ' 160 40 = 0
      | some (S, C) => σ' 160 40 = 1 ∧ repI S C σ'
    cases hi : Z.2.2.2.2 with
    | none => rw [hi] at g4; show σ' 160 40 = 0; rw [f0 40 (by omega)]; exact g4
    | some q =>
      obtain ⟨S, C⟩ := q
      rw [hi] at g4
      refine ⟨by rw [f0 40 (by omega)]; exact g4.1, ?_⟩
      have := g4.2
      unfold repI at this ⊢
      rw [f 184 (by omega)]
      exact this
theorem c_none {R : ZR} {σ : Mem} {c : Nat} (hR : okR R) (h : RCr R σ) (hc : c < 4) : FX1_isNone [.ref (128 + 6 * c)] σ = some (some (.int (if (R.1 c).length = 0 then 1 else 0)), σ) := t_isNone (cos hc) (h.1 c hc).1 (hR.1 c hc).1
theorem nI_z {n : Nat} (h : n < 1000) : nI n = 0 ↔ n = 0 := nI_eq (b := 0) (by omega) (by omega)
theorem op_clear {σ : Mem} (h : Rel σ) (x1 : Int32) : OpOK (FX9_clear [.ref 0, .int x1]) (FX10_clear [.ref 160, .int x1]) σ := by
  by_cases h1 : 0 ≤ x1 ∧ x1 ≤ 3
  · have h0 := h
    obtain ⟨Z, hZ, hC, hM⟩ := h
    obtain ⟨c, hc, rfl⟩ := n3 h1
    have hl6 := (hZ.2.1 c hc).1
    by_cases hn : (Z.2.1 c).length = 0
    · exact op_same (r := -3) h0 (by rw [enX9_clear, t_isCourse, rI, ifb, if_pos h1, oc c8, rf0_3, x103 hc, cl c (by omega), cor hc, oc (cos hc), c_none hZ.2 hC.2 hc, rI, ifb, if_pos hn]) (by rw [enX10_clear, t_mCourse, rI, ifb, if_pos h1, oc m9, rf160_10, xi hc sh168, cl c (by omega), (hM.2.1 c hc).1, hn, if_pos (show nI 0 = 0 from rfl)])
    · refine op_of (Z' := zCo Z c [] Z.2.2.1) (r := nI (Z.2.1 c).length) hZ hM (hZ.co ⟨by decide, fun g hg => by cases hg⟩ hZ.2.2.1) ?_ (fun σ1 hM1 => ?_)
      · rw [enX9_clear, t_isCourse, rI, ifb, if_pos h1, oc c8, rf0_3, x103 hc, cl c (by omega), cor hc, oc (cos hc), c_none hZ.2 hC.2 hc, rI, ifb, if_neg hn, oc c8, x103 hc, oc (cos hc), oc c8, x103 hc, oc (cos hc), (hC.2.1 c hc).1]
        refine ⟨setM σ (128 + 6 * c) 2 0, rfl, hC.co hZ hc ⟨by rw [sM_eq]; rfl, fun i g hg => by cases hg⟩ ?_ (fun i b hb => ?_) (fun a ha => sM_a (by omega)) (by rw [sM_a (by omega)]), fun a ha => sM_a (by omega)⟩
        · rw [sM_a (by omega)]; exact hC.2.2.1.1
        · rw [sM_a (by omega)]; exact hC.2.2.1.2 i b hb
      · rw [enX10_clear, t_mCourse, rI, ifb, if_pos h1, oc m9, rf160_10, xi hc sh168, cl c (by omega), (hM1.2.1 c hc).1, if_neg (fun e => hn ((nI_z (by omega)).mp e)), oc m9, xi hc sh168, oc m9, xi hc sh168]
        refine ⟨setM σ1 168 c 0, rfl, hM1.co hZ hc ⟨by rw [sM_eq]; rfl, fun i g hg => by cases hg⟩ (fun q hq hqc => ⟨sM_i hqc, fun i hi => by rw [sM_a (by decide)], fun i hi => by rw [sM_a (by decide)]⟩) ?_ (fun i b hb => ?_) (fun a ha => sM_a (by omega)) (fun j hj => by rw [sM_a (by decide)]), fun a ha => sM_a (by omega)⟩
        · rw [sM_a (by decide)]; exact hM1.2.2.1.1
        · rw [sM_a (by decide)]; exact hM1.2.2.1.2 i b hb
  · exact op_same (r := -2) h (by rw [enX9_clear, t_isCourse, rI, ifb, if_neg h1]) (by rw [enX10_clear, t_mCourse, rI, ifb, if_neg h1])
theorem i18 (c k w : Nat) : (18 : Int32) * nI c + (3 : Int32) * nI k + nI w = nI (18 * c + 3 * k + w) := by
  rw [show (18 : Int32) = nI 18 from rfl, show (3 : Int32) = nI 3 from rfl, pk_mul, pk_mul, nI_add, nI_add]
theorem i6 (c k : Nat) : (6 : Int32) * nI c + nI k = nI (6 * c + k) := by
  rw [show (6 : Int32) = nI 6 from rfl, pk_mul, nI_add]
theorem op_leg {σ : Mem} (h : Rel σ) (x1 x2 x3 : Int32) : OpOK (FX9_leg [.ref 0, .int x1, .int x2, .int x3]) (FX10_leg [.ref 160, .int x1, .int x2, .int x3]) σ := by
  by_cases h1 : 0 ≤ x1 ∧ x1 ≤ 3
  · by_cases h3 : 0 ≤ x3 ∧ x3 ≤ 3
    · have h0 := h
      obtain ⟨Z, hZ, hC, hM⟩ := h
      obtain ⟨c, hc, rfl⟩ := n3 h1
      obtain ⟨w, hw, rfl⟩ := n3 h3
      have hl6 := (hZ.2.1 c hc).1
      by_cases hn : (Z.2.1 c).length = 0
      · exact op_same (r := -3) h0 (by rw [enX9_leg, t_isCourse, rI, ifb, if_pos h1, t_isWithin, rI, ifb, if_pos h3, oc c8, rf0_3, x103 hc, cl c (by omega), cor hc, oc (cos hc), c_none hZ.2 hC.2 hc, rI, ifb, if_pos hn]) (by rw [enX10_leg, t_mCourse, rI, ifb, if_pos h1, t_isIn, rI, ifb, if_pos h3, oc m9, rf160_10, xi hc sh168, cl c (by omega), (hM.2.1 c hc).1, hn, if_pos (show nI 0 = 0 from rfl)])
      · have P9 : ∀ X, FX9_leg [.ref 0, .int (nI c), .int x2, .int (nI w)] σ = X ↔ o_rI (FX9_isWithin [.int x2, .int 0, .int (nI (Z.2.1 c).length - 1)] σ) (fun r8 m7 => (if r8 = 0 then some (some (.int (-12 : Int32)), m7) else (if nI w = (3 : Int32) then o_cls 0 8 (o_ix 103 43 (nI c) (o_cls (128 + 6 * c) 0 (o_ix 100 (rf (128 + 6 * c) 1) x2 (some (some (.int (m7 (rf (128 + 6 * c) 1) x2.toNatClampNeg)), m7))))) else o_cls 0 8 (o_ix 103 43 (nI c) (o_cls (128 + 6 * c) 0 (o_rI (FX1_settingOf [.ref (128 + 6 * c), .int x2, .int (nI w)] m7) (fun r10 m9 => some (some (.int r10), m9)))))))) = X := by
          intro X
          rw [enX9_leg, t_isCourse, rI, ifb, if_pos h1, t_isWithin, rI, ifb, if_pos h3, oc c8, rf0_3, x103 hc, cl c (by omega), cor hc, oc (cos hc), c_none hZ.2 hC.2 hc, rI, ifb, if_neg hn, oc c8, x103 hc, oc (cos hc), (hC.2.1 c hc).1]
        have P10 : ∀ X, FX10_leg [.ref 160, .int (nI c), .int x2, .int (nI w)] σ = X ↔ o_rI (FX10_isIn [.int x2, .int 0, .int (nI (Z.2.1 c).length - 1)] σ) (fun r6 m5 => (if r6 = 0 then some (some (.int (-12 : Int32)), m5) else (if nI w = (3 : Int32) then o_cls 160 9 (o_ix 100 169 (((6 : Int32) * nI c) + x2) (some (some (.int (m5 169 (((6 : Int32) * nI c) + x2).toNatClampNeg)), m5))) else o_cls 160 9 (o_ix 100 170 ((((18 : Int32) * nI c) + ((3 : Int32) * x2)) + nI w) (some (some (.int (m5 170 ((((18 : Int32) * nI c) + ((3 : Int32) * x2)) + nI w).toNatClampNeg)), m5)))))) = X := by
          intro X
          rw [enX10_leg, t_mCourse, rI, ifb, if_pos h1, t_isIn, rI, ifb, if_pos h3, oc m9, rf160_10, xi hc sh168, cl c (by omega), (hM.2.1 c hc).1, if_neg (fun e => hn ((nI_z (by omega)).mp e)), oc m9, xi hc sh168, rf160_11, rf160_12]
        by_cases h2 : 0 ≤ x2 ∧ x2 ≤ nI (Z.2.1 c).length - 1
        · obtain ⟨k, hk, rfl⟩ := ix_in (by omega) h2
          obtain ⟨g, hg⟩ : ∃ g, (Z.2.1 c)[k]? = some g := ⟨(Z.2.1 c)[k], List.getElem?_eq_getElem (by omega)⟩
          have lc := (hC.2.1 c hc).2 k g hg
          have lm := (hM.2.1 c hc).2 k g hg
          by_cases hw3 : w = 3
          · subst hw3
            exact op_same (r := g.2.2.2) h0 (by rw [P9, t_isWithin, rI, ifb, if_pos h2, if_pos (show nI 3 = 3 from rfl), oc c8, x103 hc, oc (cos hc), c_r1 (cos hc), ox (by rw [c_s1 (cos hc)]) (by rw [c_s1 (cos hc)]; show k < 6; omega), cl k (by omega), lc.2.2.2]) (by rw [P10, t_isIn, rI, ifb, if_pos h2, if_pos (show nI 3 = 3 from rfl), oc m9, i6, xi (show 6 * c + k < 24 by omega) sh169, cl _ (by omega), lm.2.2.2])
          · have hw' : w < 3 := by omega
            have hwn : ¬ nI w = 3 := fun e => hw3 ((nI_eq (b := 3) (by omega) (by omega)).mp e)
            have key : σ (128 + 6 * c + 1) (3 * k + w) = σ 170 (18 * c + 3 * k + w) := by
              match w, hw' with
              | 0, _ => rw [show 3 * k + 0 = 3 * k from rfl, show 18 * c + 3 * k + 0 = 18 * c + 3 * k from rfl, lc.1, lm.1]
              | 1, _ => rw [lc.2.1, lm.2.1]
              | 2, _ => rw [lc.2.2.1, lm.2.2.1]
            exact op_same (r := σ 170 (18 * c + 3 * k + w)) h0 (by rw [P9, t_isWithin, rI, ifb, if_pos h2, if_neg hwn, oc c8, x103 hc, oc (cos hc), t_settingOf (cos hc) (by omega) hw', rI, key]) (by rw [P10, t_isIn, rI, ifb, if_pos h2, if_neg hwn, oc m9, i18, xi (show 18 * c + 3 * k + w < 72 by omega) sh170, cl _ (by omega)])
        · exact op_same (r := -12) h0 (by rw [P9, t_isWithin, rI, ifb, if_neg h2]) (by rw [P10, t_isIn, rI, ifb, if_neg h2])
    · exact op_same (r := -2) h (by rw [enX9_leg, t_isCourse, rI, ifb, if_pos h1, t_isWithin, rI, ifb, if_neg h3]) (by rw [enX10_leg, t_mCourse, rI, ifb, if_pos h1, t_isIn, rI, ifb, if_neg h3])
  · exact op_same (r := -2) h (by rw [enX9_leg, t_isCourse, rI, ifb, if_neg h1]) (by rw [enX10_leg, t_mCourse, rI, ifb, if_neg h1])
