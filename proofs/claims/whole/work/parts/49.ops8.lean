/-! put, copy -/
theorem t_hasP {a n : Nat} {x y : Int32} {σ : Mem} (hs : (sh a).1 = 6) (h : σ a 1 = nI n) (hn : n ≤ 40) (hp : runP n x y) : FX7_hasRun [.ref a, .int x, .int y] σ = some (some (.int 1), σ) := by
  have := @t_hasRun a n x y σ (Classical.propDecidable _) hs h hn
  rw [this, if_pos hp]
theorem t_hasN {a n : Nat} {x y : Int32} {σ : Mem} (hs : (sh a).1 = 6) (h : σ a 1 = nI n) (hn : n ≤ 40) (hp : ¬ runP n x y) : FX7_hasRun [.ref a, .int x, .int y] σ = some (some (.int 0), σ) := by
  have := @t_hasRun a n x y σ (Classical.propDecidable _) hs h hn
  rw [this, if_neg hp]
def putV (s v : Int32) : Int32 := if s = 0 then v.toInt16.toInt32 else v
theorem t_write {r i : Nat} {s v : Int32} {σ : Mem} (hr : r < 4) (h : σ (152 + 2 * r) 0 = s) (hi : i < 40) : FX7_write [.ref (152 + 2 * r), .int (nI i), .int v] σ = some (none, setM σ (153 + 2 * r) i (putV s v)) := by
  rw [enX7_write, oc (ses hr), oc (ses hr), h, sir hr, ox (by rw [sis hr]) (by rw [sis hr]; exact hi), ox (by rw [sis hr]) (by rw [sis hr]; exact hi), cl i (by omega)]
  unfold putV
  split <;> rfl
theorem seti_get {l : List Int32} {i j : Nat} {d e : Int32} (h : (l.set i d)[j]? = some e) : (j = i ∧ e = d) ∨ (j ≠ i ∧ l[j]? = some e) := by
  by_cases hj : j = i
  · subst hj
    rw [List.getElem?_set_self'] at h
    cases hl : l[j]? with
    | none => rw [hl] at h; cases h
    | some w => rw [hl] at h; cases h; exact Or.inl ⟨rfl, rfl⟩
  · rw [List.getElem?_set_ne (Ne.symm hj)] at h
    exact Or.inr ⟨hj, h⟩
theorem sz_neg {s : Int32} (h : s = 0 ∨ s = 1) : 0 ≤ s ∧ ¬ s < 0 ∧ ¬ s = -1 := by rcases h with rfl | rfl <;> decide
theorem op_put {σ : Mem} (h : Rel σ) (x1 x2 x3 : Int32) : OpOK (FX9_put [.ref 0, .int x1, .int x2, .int x3]) (FX10_put [.ref 160, .int x1, .int x2, .int x3]) σ := by
  by_cases h1 : 0 ≤ x1 ∧ x1 ≤ 3
  · have h0 := h
    obtain ⟨Z, hZ, hC, hM⟩ := h
    obtain ⟨r, hr, rfl⟩ := n3 h1
    have okr := hZ.2.2.2.1 r hr
    have rc := hC.2.2.2.1 r hr
    have rm := hM.2.2.2.1 r hr
    cases ho : Z.2.2.2.1 r with
    | none =>
      rw [ho] at okr rc rm
      have rm' : σ 172 r = -1 := rm
      exact op_same (r := -11) h0 (by rw [enX9_put, t_isSheet, rI, ifb, if_pos h1, oc c8, rf0_11, x104 hr, cl r (by omega), ser hr, oc (ses hr), t_missing hr rc okr, rI, ifb, if_pos rfl]) (by rw [enX10_put, t_mSheet, rI, ifb, if_pos h1, oc m9, rf160_15, xi hr sh172, cl r (by omega), rm', if_neg (by decide)])
    | some q =>
      obtain ⟨s, l⟩ := q
      rw [ho] at okr rc rm
      obtain ⟨hs, h40⟩ := okr s l rfl
      obtain ⟨rc0, rc1, rc2⟩ := rc
      have rc : repSc r (some (s, l)) σ := ⟨rc0, rc1, rc2⟩
      by_cases h2 : 0 ≤ x2 ∧ x2 ≤ nI l.length - 1
      · obtain ⟨i, hi, rfl⟩ := ix_in h40 h2
        refine op_of (Z' := zSh Z r (some (s, l.set i (putV s x3)))) (r := 1) hZ hM (hZ.sheet (fun s' l' e => by cases e; exact ⟨hs, by rw [List.length_set]; exact h40⟩)) ?_ (fun σ1 hM1 => ?_)
        · rw [enX9_put, t_isSheet, rI, ifb, if_pos h1, oc c8, rf0_11, x104 hr, cl r (by omega), ser hr, oc (ses hr), t_missing hr rc okr, rI, ifb, if_neg (fun e => by cases e), oc c8, x104 hr, oc (ses hr), t_hasP (ses hr) rc1 h40 ((run1 h40 _).mpr h2), rI, if_neg (by decide), oc c8, x104 hr, oc (ses hr), t_write hr rc0 (by omega), rV]
          refine ⟨_, rfl, hC.sheet hZ hr ⟨by rw [sM_a (by omega)]; exact rc0, by rw [sM_a (by omega), List.length_set]; exact rc1, fun j v hv => ?_⟩ (fun a ha hb _ => sM_a hb), fun a ha => sM_a (by omega)⟩
          rcases seti_get hv with ⟨rfl, rfl⟩ | ⟨hj, hj2⟩
          · rw [sM_eq]
          · rw [sM_i hj]; exact rc2 j v hj2
        · have rm1 := hM1.2.2.2.1 r hr
          rw [ho] at rm1
          obtain ⟨m0, m1, m2⟩ := rm1
          rw [enX10_put, t_mSheet, rI, ifb, if_pos h1, oc m9, rf160_15, xi hr sh172, cl r (by omega), m0, if_pos (sz_neg hs).1, oc m9, rf160_16, xi hr sh173, m1, t_isIn, rI, ifb, if_pos h2, oc m9, oc m9, xi hr sh172, m0, rf160_17, nIx, xi (show 40 * r + i < 160 by omega) sh174, cl (40 * r + i) (by omega)]
          have hfin : ∀ v, RM (zSh Z r (some (s, l.set i v))) (setM σ1 174 (40 * r + i) v) := by
            intro v
            refine hM1.sheet hr ⟨by rw [sM_a (by decide)]; exact m0, by rw [sM_a (by decide), List.length_set]; exact m1, fun j w hw => ?_⟩ (fun q hq hqr => ⟨by rw [sM_a (by decide)], by rw [sM_a (by decide)], fun j hj => sM_i (by omega)⟩) hZ (fun a _ _ hc _ => sM_a hc)
            rcases seti_get hw with ⟨rfl, rfl⟩ | ⟨hj, hj2⟩
            · rw [sM_eq]
            · rw [sM_i (by omega)]; exact m2 j w hj2
          by_cases hs0 : s = 0
          · rw [if_pos hs0]
            refine ⟨setM σ1 174 (40 * r + i) x3.toInt16.toInt32, rfl, ?_, fun a ha => sM_a (by omega)⟩
            have e : putV s x3 = x3.toInt16.toInt32 := by unfold putV; rw [if_pos hs0]
            rw [e]
            exact hfin _
          · rw [if_neg hs0, xi (show 40 * r + i < 160 by omega) sh174]
            refine ⟨setM σ1 174 (40 * r + i) x3, rfl, ?_, fun a ha => sM_a (by omega)⟩
            have e : putV s x3 = x3 := by unfold putV; rw [if_neg hs0]
            rw [e]
            exact hfin _
      · exact op_same (r := -12) h0 (by rw [enX9_put, t_isSheet, rI, ifb, if_pos h1, oc c8, rf0_11, x104 hr, cl r (by omega), ser hr, oc (ses hr), t_missing hr rc okr, rI, ifb, if_neg (fun e => by cases e), oc c8, x104 hr, oc (ses hr), t_hasN (ses hr) rc1 h40 (fun e => h2 ((run1 h40 _).mp e)), rI, if_pos rfl]) (by rw [enX10_put, t_mSheet, rI, ifb, if_pos h1, oc m9, rf160_15, xi hr sh172, cl r (by omega), rm.1, if_pos (sz_neg hs).1, oc m9, rf160_16, xi hr sh173, rm.2.1, t_isIn, rI, ifb, if_neg h2])
  · exact op_same (r := -2) h (by rw [enX9_put, t_isSheet, rI, ifb, if_neg h1]) (by rw [enX10_put, t_mSheet, rI, ifb, if_neg h1])
/-! copy -/
theorem lgc {x y : Int32} {n : Nat} (hx : ¬ x < 0) (hy : ¬ y < 0) (hn : n ≤ 40) : (nI n).toInt64 < x.toInt64 + y.toInt64 ↔ ¬ runP n x y := by
  have z0 : (0 : Int32).toInt = 0 := rfl
  rw [Int32.lt_iff_toInt_lt, z0] at hx hy
  have e1 : (x.toInt64 + y.toInt64).toInt = x.toInt + y.toInt := by
    have b1 := Int32.toInt_lt x
    have b2 := Int32.toInt_lt y
    rw [Int64.toInt_add, Int32.toInt_toInt64, Int32.toInt_toInt64]
    apply Int.bmod_eq_of_le <;> omega
  rw [Int64.lt_iff_toInt_lt, e1, Int32.toInt_toInt64, nI_toInt (by omega)]
  unfold runP
  omega
def cpL (l l2 : List Int32) (i j m : Nat) : List Int32 := l2.take j ++ (l.drop i).take m ++ l2.drop (j + m)
theorem cpL_len {l l2 : List Int32} {i j m : Nat} (h1 : i + m ≤ l.length) (h2 : j + m ≤ l2.length) : (cpL l l2 i j m).length = l2.length := by
  unfold cpL
  simp
  omega
theorem cpL_get {l l2 : List Int32} {i j m q : Nat} {v : Int32} (h1 : i + m ≤ l.length) (h2 : j + m ≤ l2.length) (h : (cpL l l2 i j m)[q]? = some v) : (j ≤ q ∧ q < j + m ∧ l[i + (q - j)]? = some v) ∨ ((q < j ∨ j + m ≤ q) ∧ l2[q]? = some v) := by
  unfold cpL at h
  have ht : (l2.take j).length = j := by rw [List.length_take]; omega
  have hm : ((l.drop i).take m).length = m := by rw [List.length_take, List.length_drop]; omega
  by_cases hq : q < j
  · right
    rw [List.append_assoc, List.getElem?_append_left (by omega), List.getElem?_take, if_pos hq] at h
    exact ⟨Or.inl hq, h⟩
  · rw [List.append_assoc, List.getElem?_append_right (by omega), ht] at h
    by_cases hq2 : q < j + m
    · left
      rw [List.getElem?_append_left (by omega), List.getElem?_take, if_pos (by omega), List.getElem?_drop] at h
      exact ⟨by omega, hq2, h⟩
    · right
      rw [List.getElem?_append_right (by omega), hm, List.getElem?_drop] at h
      rw [show j + m + (q - j - m) = q by omega] at h
      exact ⟨Or.inr (by omega), h⟩
theorem m_c1 {r r2 i j n : Nat} (hr : r < 4) (hi : i + n ≤ 40) : ∀ (m k : Nat) (σ : Mem), k + m = n → ∃ σ', am_go CX10_copy 111 [.ref 160, .int (nI r), .int (nI i), .int (nI r2), .int (nI j), .int (nI n), .int (nI k)] [] σ = am_go CX10_copy 148 [.ref 160, .int (nI r), .int (nI i), .int (nI r2), .int (nI j), .int (nI n), .int (nI 0)] [] σ' ∧ (∀ q, k ≤ q → q < n → σ' 175 q = σ 174 (40 * r + i + q)) ∧ (∀ q, q < k → σ' 175 q = σ 175 q) ∧ ∀ a, a ≠ 175 → σ' a = σ a := by
  intro m
  induction m with
  | zero =>
    intro k σ hk
    have : k = n := by omega
    subst this
    rw [blX10_copy_111, if_pos (Int32.le_refl _)]
    exact ⟨σ, rfl, fun q h1 h2 => by omega, fun _ _ => rfl, fun _ _ => rfl⟩
  | succ m ih =>
    intro k σ hk
    rw [blX10_copy_111, if_neg (nI_ge (by omega) (by omega)), oc m9, oc m9, rf160_17, rf160_18, nIx, nI_add, xi (show 40 * r + i + k < 160 by omega) sh174, xi (show k < 40 by omega) sh175, cl (40 * r + i + k) (by omega), cl k (by omega), nI_1]
    obtain ⟨σ', e, c1, c2, c3⟩ := ih (k + 1) (setM σ 175 k (σ 174 (40 * r + i + k))) (by omega)
    refine ⟨σ', e, fun q h1 h2 => ?_, fun q hq => ?_, fun a ha => (c3 a ha).trans (sM_a ha)⟩
    · by_cases hqk : q = k
      · subst hqk
        rw [c2 q (by omega), sM_eq]
      · rw [c1 q (by omega) h2, sM_a (by decide)]
    · rw [c2 q (by omega), sM_i (by omega)]
theorem m_c2 {r r2 i j n : Nat} (hr : r2 < 4) (hj : j + n ≤ 40) : ∀ (m k : Nat) (σ : Mem), k + m = n → ∃ σ', am_go CX10_copy 148 [.ref 160, .int (nI r), .int (nI i), .int (nI r2), .int (nI j), .int (nI n), .int (nI k)] [] σ = some (some (.int (nI n)), σ') ∧ (∀ q, k ≤ q → q < n → σ' 174 (40 * r2 + j + q) = σ 175 q) ∧ (∀ q, (q < 40 * r2 + j + k ∨ 40 * r2 + j + n ≤ q) → σ' 174 q = σ 174 q) ∧ ∀ a, a ≠ 174 → σ' a = σ a := by
  intro m
  induction m with
  | zero =>
    intro k σ hk
    have : k = n := by omega
    subst this
    rw [blX10_copy_148, if_pos (Int32.le_refl _)]
    exact ⟨σ, rfl, fun q h1 h2 => by omega, fun _ _ => rfl, fun _ _ => rfl⟩
  | succ m ih =>
    intro k σ hk
    rw [blX10_copy_148, if_neg (nI_ge (by omega) (by omega)), oc m9, oc m9, rf160_17, rf160_18, nIx, nI_add, xi (show k < 40 by omega) sh175, xi (show 40 * r2 + j + k < 160 by omega) sh174, cl (40 * r2 + j + k) (by omega), cl k (by omega), nI_1]
    obtain ⟨σ', e, c1, c2, c3⟩ := ih (k + 1) (setM σ 174 (40 * r2 + j + k) (σ 175 k)) (by omega)
    refine ⟨σ', e, fun q h1 h2 => ?_, fun q hq => ?_, fun a ha => (c3 a ha).trans (sM_a ha)⟩
    · by_cases hqk : q = k
      · subst hqk
        rw [c2 _ (by omega), sM_eq]
      · rw [c1 q (by omega) h2, sM_a (by decide)]
    · rw [c2 q (by omega), sM_i (by omega)]
theorem op_copy {σ : Mem} (h : Rel σ) (x1 x2 x3 x4 x5 : Int32) : OpOK (FX9_copy [.ref 0, .int x1, .int x2, .int x3, .int x4, .int x5]) (FX10_copy [.ref 160, .int x1, .int x2, .int x3, .int x4, .int x5]) σ := by
  by_cases h1 : 0 ≤ x1 ∧ x1 ≤ 3
  · by_cases h3 : 0 ≤ x3 ∧ x3 ≤ 3
    · have h0 := h
      obtain ⟨Z, hZ, hC, hM⟩ := h
      obtain ⟨r, hr, rfl⟩ := n3 h1
      obtain ⟨r2, hr2, rfl⟩ := n3 h3
      have okr := hZ.2.2.2.1 r hr
      have okr2 := hZ.2.2.2.1 r2 hr2
      have rc := hC.2.2.2.1 r hr
      have rm := hM.2.2.2.1 r hr
      have rc2 := hC.2.2.2.1 r2 hr2
      have rm2 := hM.2.2.2.1 r2 hr2
      cases ho : Z.2.2.2.1 r with
      | none =>
        rw [ho] at okr rc rm
        have rm' : σ 172 r = -1 := rm
        exact op_same (r := -11) h0 (by rw [enX9_copy, t_isSheet, rI, ifb, if_pos h1, t_isSheet, rI, ifb, if_pos h3, oc c8, rf0_11, x104 hr, oc c8, x104 hr2, cl r (by omega), ser hr, oc (ses hr), t_missing hr rc okr, rI, ifb, if_pos rfl]) (by rw [enX10_copy, t_mSheet, rI, ifb, if_pos h1, t_mSheet, rI, ifb, if_pos h3, oc m9, rf160_15, xi hr sh172, cl r (by omega), rm', if_pos (by decide)])
      | some q =>
        obtain ⟨s, l⟩ := q
        rw [ho] at okr rc rm
        obtain ⟨hs, h40⟩ := okr s l rfl
        obtain ⟨rcA, rcB, rcC⟩ := rc
        have rc : repSc r (some (s, l)) σ := ⟨rcA, rcB, rcC⟩
        cases ho2 : Z.2.2.2.1 r2 with
        | none =>
          rw [ho2] at okr2 rc2 rm2
          have rm' : σ 172 r2 = -1 := rm2
          exact op_same (r := -11) h0 (by rw [enX9_copy, t_isSheet, rI, ifb, if_pos h1, t_isSheet, rI, ifb, if_pos h3, oc c8, rf0_11, x104 hr, oc c8, x104 hr2, cl r (by omega), cl r2 (by omega), ser hr, ser hr2, oc (ses hr), t_missing hr rc okr, rI, ifb, if_neg (fun e => by cases e), oc (ses hr2), t_missing hr2 rc2 okr2, rI, ifb, if_pos rfl]) (by rw [enX10_copy, t_mSheet, rI, ifb, if_pos h1, t_mSheet, rI, ifb, if_pos h3, oc m9, rf160_15, xi hr sh172, cl r (by omega), rm.1, if_neg (sz_neg hs).2.1, oc m9, xi hr2 sh172, cl r2 (by omega), rm', if_neg (by decide)])
        | some q2 =>
          obtain ⟨s2, l2⟩ := q2
          rw [ho2] at okr2 rc2 rm2
          obtain ⟨hs2, h402⟩ := okr2 s2 l2 rfl
          obtain ⟨rcA2, rcB2, rcC2⟩ := rc2
          have rc2 : repSc r2 (some (s2, l2)) σ := ⟨rcA2, rcB2, rcC2⟩
          have P9 : ∀ X, (FX9_copy [.ref 0, .int (nI r), .int x2, .int (nI r2), .int x4, .int x5] σ = X) = ((if s = s2 then o_rI (FX7_hasRun [.ref (152 + 2 * r), .int x2, .int x5] σ) (fun r10 m9 => (if r10 = 0 then some (some (.int (-12 : Int32)), m9) else o_cls (152 + 2 * r2) 6 (o_rI (FX7_hasRun [.ref (152 + 2 * r2), .int x4, .int x5] m9) (fun r12 m11 => (if r12 = 0 then some (some (.int (-12 : Int32)), m11) else o_cls (152 + 2 * r) 6 (o_cls (152 + 2 * r2) 6 (o_cp (153 + 2 * r) (153 + 2 * r2) x2 x4 x5 (some (some (.int x5), (cpyM m11 (153 + 2 * r) (153 + 2 * r2) x2.toNatClampNeg x4.toNatClampNeg x5.toNatClampNeg)))))))))) else some (some (.int (-13 : Int32)), σ)) = X) := by
            intro X
            rw [enX9_copy, t_isSheet, rI, ifb, if_pos h1, t_isSheet, rI, ifb, if_pos h3, oc c8, rf0_11, x104 hr, oc c8, x104 hr2, cl r (by omega), cl r2 (by omega), ser hr, ser hr2, oc (ses hr), t_missing hr rc okr, rI, ifb, if_neg (fun e => by cases e), oc (ses hr2), t_missing hr2 rc2 okr2, rI, ifb, if_neg (fun e => by cases e), oc (ses hr), oc (ses hr2), rcA, rcA2, oc (ses hr), sir hr, sir hr2]
          have P10 : ∀ (σ1 : Mem) (X : Option (am_R Mem)), repSm r (some (s, l)) σ1 → repSm r2 (some (s2, l2)) σ1 → (FX10_copy [.ref 160, .int (nI r), .int x2, .int (nI r2), .int x4, .int x5] σ1 = X) = ((if s = s2 then (if x5 < 0 then some (some (.int (-12 : Int32)), σ1) else (if x2 < 0 then some (some (.int (-12 : Int32)), σ1) else (if x4 < 0 then some (some (.int (-12 : Int32)), σ1) else (if 0 < (lg_cmp (x2.toInt64 + x5.toInt64) ((nI l.length).toInt64)) then some (some (.int (-12 : Int32)), σ1) else (if (lg_cmp (x4.toInt64 + x5.toInt64) ((nI l2.length).toInt64)) ≤ 0 then am_go CX10_copy 111 [.ref 160, .int (nI r), .int x2, .int (nI r2), .int x4, .int x5, .int (0 : Int32)] [] σ1 else some (some (.int (-12 : Int32)), σ1)))))) else some (some (.int (-13 : Int32)), σ1)) = X) := by
            intro σ1 X m1 m2
            rw [enX10_copy, t_mSheet, rI, ifb, if_pos h1, t_mSheet, rI, ifb, if_pos h3, oc m9, rf160_15, xi hr sh172, cl r (by omega), m1.1, if_neg (sz_neg hs).2.1, oc m9, xi hr2 sh172, cl r2 (by omega), m2.1, if_pos (sz_neg hs2).1, oc m9, xi hr sh172, oc m9, xi hr2 sh172, oc m9, rf160_16, xi hr sh173, m1.2.1, oc m9, xi hr2 sh173, m2.2.1]
          by_cases hss : s = s2
          · by_cases hp1 : runP l.length x2 x5
            · by_cases hp2 : runP l2.length x4 x5
              · obtain ⟨i, n, rfl, rfl, hin⟩ := runP_of h40 hp1
                obtain ⟨j, n', rfl, en, hjn⟩ := runP_of h402 hp2
                have : n' = n := by have h1 := (hp2.2.2); have h2 := hp2.1; have := (nI_eq (a := n) (b := n') (by omega) (by omega)).mp en; omega
                subst this
                clear en
                refine op_of (Z' := zSh Z r2 (some (s2, cpL l l2 i j n'))) (r := nI n') hZ hM (hZ.sheet (fun s' l' e => by cases e; exact ⟨hs2, by rw [cpL_len hin hjn]; exact h402⟩)) ?_ (fun σ1 hM1 => ?_)
                · refine ⟨cpyM σ (153 + 2 * r) (153 + 2 * r2) i j n', ?_, hC.sheet hZ hr2 ⟨?_, ?_, fun q v hv => ?_⟩ (fun a ha hb _ => ?_), fun a ha => ?_⟩
                  · rw [P9, if_pos hss, t_hasP (ses hr) rcB h40 hp1, rI, if_neg (by decide), oc (ses hr2), t_hasP (ses hr2) rcB2 h402 hp2, rI, if_neg (by decide), oc (ses hr), oc (ses hr2), cl i (by omega), cl j (by omega), cl n' (by omega)]
                    have hok : am_cpok (153 + 2 * r) (153 + 2 * r2) (nI i) (nI j) (nI n') = true := by
                      unfold am_cpok
                      rw [sis hr, sis hr2, cl i (by omega), cl j (by omega), cl n' (by omega)]
                      have a1 := nI_pos (n := i) (by omega)
                      have a2 := nI_pos (n := j) (by omega)
                      have a3 := nI_pos (n := n') (by omega)
                      have b1 : Nat.ble (i + n') 40 = true := Nat.ble_eq_true_of_le (by omega)
                      have b2 : Nat.ble (j + n') 40 = true := Nat.ble_eq_true_of_le (by omega)
                      simp [a1, a2, a3, b1, b2]
                    unfold o_cp
                    rw [hok]
                    rfl
                  · unfold cpyM; rw [if_neg (by omega)]; exact rcA2
                  · unfold cpyM; rw [if_neg (by omega), cpL_len hin hjn]; exact rcB2
                  · unfold cpyM
                    rw [if_pos rfl]
                    unfold va_cpy
                    rcases cpL_get hin hjn hv with ⟨q1, q2, q3⟩ | ⟨q1, q2⟩
                    · rw [if_pos ⟨q1, q2⟩]; exact rcC _ v q3
                    · rw [if_neg (by omega)]; exact rcC2 q v q2
                  · unfold cpyM; rw [if_neg hb]
                  · unfold cpyM; rw [if_neg (by omega)]
                · have m1 := hM1.2.2.2.1 r hr
                  have m2 := hM1.2.2.2.1 r2 hr2
                  rw [ho] at m1
                  rw [ho2] at m2
                  obtain ⟨σ2, e2, c1, c2, c3⟩ := m_c1 (r := r) (r2 := r2) (i := i) (j := j) (n := n') hr (by omega) n' 0 σ1 (by omega)
                  obtain ⟨σ3, e3, d1, d2, d3⟩ := m_c2 (r := r) (r2 := r2) (i := i) (j := j) (n := n') hr2 (by omega) n' 0 σ2 (by omega)
                  refine ⟨σ3, ?_, hM1.sheet hr2 ⟨?_, ?_, fun q v hv => ?_⟩ (fun q hq hqr => ⟨?_, ?_, fun t ht => ?_⟩) hZ (fun a a1 a2 a3 a4 => ?_), fun a ha => ?_⟩
                  · rw [P10 σ1 _ m1 m2, if_pos hss, if_neg (nI_pos (by omega)), if_neg (nI_pos (by omega)), if_neg (nI_pos (by omega)), if_neg (fun e => (lgc (nI_pos (by omega)) (nI_pos (by omega)) h40).mp ((lg_cmp_gt _ _).mp e) hp1), if_pos ((lg_cmp_le _ _).mpr (Int64.not_lt.mp (fun e => (lgc (nI_pos (by omega)) (nI_pos (by omega)) h402).mp e hp2))), show (0 : Int32) = nI 0 from rfl, e2, e3]
                  · rw [d3 172 (by decide), c3 172 (by decide)]; exact m2.1
                  · rw [d3 173 (by decide), c3 173 (by decide), cpL_len hin hjn]; exact m2.2.1
                  · have hq := (List.getElem?_eq_some_iff.mp hv).1
                    rw [cpL_len hin hjn] at hq
                    rcases cpL_get hin hjn hv with ⟨q1, q2, q3⟩ | ⟨q1, q2⟩
                    · have := d1 (q - j) (by omega) (by omega)
                      rw [show 40 * r2 + j + (q - j) = 40 * r2 + q by omega] at this
                      rw [this, c1 (q - j) (by omega) (by omega), show 40 * r + i + (q - j) = 40 * r + (i + (q - j)) by omega]
                      exact m1.2.2 _ v q3
                    · rw [d2 _ (by omega), c3 174 (by decide)]
                      exact m2.2.2 q v q2
                  · rw [d3 172 (by decide), c3 172 (by decide)]
                  · rw [d3 173 (by decide), c3 173 (by decide)]
                  · rw [d2 _ (by omega), c3 174 (by decide)]
                  · rw [d3 a a3, c3 a a4]
                  · rw [d3 a (by omega), c3 a (by omega)]
              · refine op_same (r := -12) h0 (by rw [P9, if_pos hss, t_hasP (ses hr) rcB h40 hp1, rI, if_neg (by decide), oc (ses hr2), t_hasN (ses hr2) rcB2 h402 hp2, rI, if_pos rfl]) ?_
                rw [P10 σ _ rm rm2, if_pos hss]
                by_cases y5 : x5 < 0
                · rw [if_pos y5]
                · rw [if_neg y5]
                  by_cases y2 : x2 < 0
                  · rw [if_pos y2]
                  · rw [if_neg y2]
                    by_cases y4 : x4 < 0
                    · rw [if_pos y4]
                    · rw [if_neg y4, if_neg (fun e => (lgc y2 y5 h40).mp ((lg_cmp_gt _ _).mp e) hp1), if_neg (fun e => absurd ((lgc y4 y5 h402).mpr hp2) (Int64.not_lt.mpr ((lg_cmp_le _ _).mp e)))]
            · refine op_same (r := -12) h0 (by rw [P9, if_pos hss, t_hasN (ses hr) rcB h40 hp1, rI, if_pos rfl]) ?_
              rw [P10 σ _ rm rm2, if_pos hss]
              by_cases y5 : x5 < 0
              · rw [if_pos y5]
              · rw [if_neg y5]
                by_cases y2 : x2 < 0
                · rw [if_pos y2]
                · rw [if_neg y2]
                  by_cases y4 : x4 < 0
                  · rw [if_pos y4]
                  · rw [if_neg y4, if_pos ((lg_cmp_gt _ _).mpr ((lgc y2 y5 h40).mpr hp1))]
          · exact op_same (r := -13) h0 (by rw [P9, if_neg hss]) (by rw [P10 σ _ rm rm2, if_neg hss])
    · exact op_same (r := -2) h (by rw [enX9_copy, t_isSheet, rI, ifb, if_pos h1, t_isSheet, rI, ifb, if_neg h3]) (by rw [enX10_copy, t_mSheet, rI, ifb, if_pos h1, t_mSheet, rI, ifb, if_neg h3])
  · exact op_same (r := -2) h (by rw [enX9_copy, t_isSheet, rI, ifb, if_neg h1]) (by rw [enX10_copy, t_mSheet, rI, ifb, if_neg h1])
