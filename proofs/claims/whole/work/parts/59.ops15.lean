/-! join -/
def legM (c n : Nat) (g : Lg) (σ : Mem) : Prop := σ 170 (18 * c + 3 * n) = g.1 ∧ σ 170 (18 * c + 3 * n + 1) = g.2.1 ∧ σ 170 (18 * c + 3 * n + 2) = g.2.2.1 ∧ σ 169 (6 * c + n) = g.2.2.2
def addN (c n : Nat) (g : Lg) (σ : Mem) : Mem := setM (setM (setM (setM σ 169 (6 * c + n) g.2.2.2) 170 (18 * c + 3 * n) g.1) 170 (18 * c + 3 * n + 1) g.2.1) 170 (18 * c + 3 * n + 2) g.2.2.1
theorem addN_fr {c n a : Nat} {g : Lg} {σ : Mem} (h : a ≠ 169) (h' : a ≠ 170) : addN c n g σ a = σ a := by
  unfold addN
  rw [sM_a h', sM_a h', sM_a h', sM_a h]
theorem addN_hit (c n : Nat) (g : Lg) (σ : Mem) : legM c n g (addN c n g σ) := by
  unfold addN
  refine ⟨?_, ?_, ?_, ?_⟩
  · rw [sM_i (by omega), sM_i (by omega), sM_eq]
  · rw [sM_i (by omega), sM_eq]
  · rw [sM_eq]
  · rw [sM_a (by decide), sM_a (by decide), sM_a (by decide), sM_eq]
theorem addN_170 {c n q : Nat} {g : Lg} {σ : Mem} (h : q < 18 * c + 3 * n ∨ 18 * c + 3 * n + 3 ≤ q) : addN c n g σ 170 q = σ 170 q := by
  unfold addN
  rw [sM_i (by omega), sM_i (by omega), sM_i (by omega), sM_a (by decide)]
theorem addN_169 {c n q : Nat} {g : Lg} {σ : Mem} (h : q ≠ 6 * c + n) : addN c n g σ 169 q = σ 169 q := by
  unfold addN
  rw [sM_a (by decide), sM_a (by decide), sM_a (by decide), sM_i h]
theorem addN_old {c n c' n' : Nat} {g g' : Lg} {σ : Mem} (hn : n < 6) (hn' : n' < 6) (h : c ≠ c' ∨ n ≠ n') (hl : legM c' n' g' σ) : legM c' n' g' (addN c n g σ) := by
  unfold legM
  rw [addN_170 (by omega), addN_170 (by omega), addN_170 (by omega), addN_169 (by omega)]
  exact hl
theorem m_jstep {c1 c2 n1 n2 k : Nat} {v6 : Value} {g : Lg} {σ : Mem} (h1 : c1 < 4) (h2 : c2 < 4) (hn : 1 ≤ n1) (hk : k < n2) (hs : n1 + n2 ≤ 6) (hg : legM c2 k g σ) : am_go CX10_join 77 [.ref 160, .int (nI c1), .int (nI c2), .int (nI n1), .int (nI n2), .int (nI k), v6] [] σ = am_go CX10_join 77 [.ref 160, .int (nI c1), .int (nI c2), .int (nI n1), .int (nI n2), .int (nI (k + 1)), .int 3] [] (addN c1 (n1 + k) g σ) := by
  obtain ⟨g1, g2, g3, g4⟩ := hg
  have x72 : ∀ {α : Type} {i : Nat} {q : Option α}, i < 72 → o_ix 100 170 (nI i) q = q := fun hi => xi hi sh170
  have in3 : ∀ (w : Nat) (τ : Mem), w < 3 → am_go CX10_join 113 [.ref 160, .int (nI c1), .int (nI c2), .int (nI n1), .int (nI n2), .int (nI k), .int (nI w)] [] τ = am_go CX10_join 113 [.ref 160, .int (nI c1), .int (nI c2), .int (nI n1), .int (nI n2), .int (nI k), .int (nI (w + 1))] [] (setM τ 170 (18 * c1 + 3 * (n1 + k) + w) (τ 170 (18 * c2 + 3 * k + w))) := by
    intro w τ hw
    rw [blX10_join_113, if_neg (show ¬ (3 : Int32) ≤ nI w from nI_ge (b := 3) hw (by decide)), rf160_12, nI_add, i18, i18, oc m9, oc m9, x72 (by omega), x72 (by omega), cl (18 * c2 + 3 * k + w) (by omega), cl (18 * c1 + 3 * (n1 + k) + w) (by omega), nI_1]
  rw [blX10_join_77, if_neg (nI_ge hk (by omega)), rf160_11, i6, i6, nI_add, oc m9, oc m9, xi (show 6 * c2 + k < 24 by omega) sh169, xi (show 6 * c1 + n1 + k < 24 by omega) sh169, cl (6 * c2 + k) (by omega), cl (6 * c1 + n1 + k) (by omega), g4, li0, in3 0 _ (by decide), in3 1 _ (by decide), in3 2 _ (by decide), blX10_join_113, if_pos (by decide), nI_1]
  have e0 : setM σ 169 (6 * c1 + n1 + k) g.2.2.2 170 (18 * c2 + 3 * k + 0) = g.1 := by rw [sM_a (by decide)]; exact g1
  rw [e0]
  have e1 : setM (setM σ 169 (6 * c1 + n1 + k) g.2.2.2) 170 (18 * c1 + 3 * (n1 + k) + 0) g.1 170 (18 * c2 + 3 * k + 1) = g.2.1 := by rw [sM_i (by omega), sM_a (by decide)]; exact g2
  rw [e1]
  have e2 : setM (setM (setM σ 169 (6 * c1 + n1 + k) g.2.2.2) 170 (18 * c1 + 3 * (n1 + k) + 0) g.1) 170 (18 * c1 + 3 * (n1 + k) + 1) g.2.1 170 (18 * c2 + 3 * k + 2) = g.2.2.1 := by rw [sM_i (by omega), sM_i (by omega), sM_a (by decide)]; exact g3
  rw [e2]
  unfold addN
  rw [show 6 * c1 + n1 + k = 6 * c1 + (n1 + k) by omega]
  rfl
theorem m_join {c1 c2 : Nat} {l1 l2 : List Lg} (h1 : c1 < 4) (h2 : c2 < 4) (hn : 1 ≤ l1.length) (hs : l1.length + l2.length ≤ 6) (hcc : c1 = c2 → l2.length ≤ l1.length) : ∀ (m k : Nat) (v6 : Value) (σ : Mem), k + m = l2.length → (∀ i g, (l1 ++ l2.take k)[i]? = some g → legM c1 i g σ) → (∀ i g, l2[i]? = some g → legM c2 i g σ) → ∃ σ', am_go CX10_join 77 [.ref 160, .int (nI c1), .int (nI c2), .int (nI l1.length), .int (nI l2.length), .int (nI k), v6] [] σ = some (some (.int (nI (l1.length + l2.length))), setM σ' 168 c1 (nI (l1.length + l2.length))) ∧ (∀ i g, (l1 ++ l2)[i]? = some g → legM c1 i g σ') ∧ (∀ a, a ≠ 169 → a ≠ 170 → σ' a = σ a) ∧ (∀ q, (q < 18 * c1 ∨ 18 * c1 + 18 ≤ q) → σ' 170 q = σ 170 q) ∧ ∀ q, (q < 6 * c1 ∨ 6 * c1 + 6 ≤ q) → σ' 169 q = σ 169 q := by
  intro m
  induction m with
  | zero =>
    intro k v6 σ hk hl hl2
    have : k = l2.length := by omega
    subst this
    rw [List.take_length] at hl
    rw [blX10_join_77, if_pos (Int32.le_refl _), rf160_10, oc m9, xi h1 sh168, oc m9, xi h1 sh168, cl c1 (by omega), nI_add, sM_eq]
    exact ⟨σ, rfl, hl, fun _ _ _ => rfl, fun _ _ => rfl, fun _ _ => rfl⟩
  | succ m ih =>
    intro k v6 σ hk hl hl2
    obtain ⟨g, hg⟩ : ∃ g, l2[k]? = some g := ⟨l2[k], List.getElem?_eq_getElem (by omega)⟩
    have hlen : (l1 ++ l2.take k).length = l1.length + k := by rw [List.length_append, List.length_take]; omega
    have hsum : l1 ++ l2.take (k + 1) = (l1 ++ l2.take k) ++ [g] := by
      rw [List.take_succ, hg, List.append_assoc]; rfl
    obtain ⟨σ', e, r, f1, f2, f3⟩ := ih (k + 1) (.int 3) (addN c1 (l1.length + k) g σ) (by omega) (fun i g' hg' => by
        rw [hsum] at hg'
        rcases snoc_get hg' with ⟨hi, hq⟩ | ⟨hi, rfl⟩
        · rw [hlen] at hi
          exact addN_old (by omega) (by omega) (Or.inr (by omega)) (hl i g' hq)
        · rw [hlen] at hi
          subst hi
          exact addN_hit c1 (l1.length + k) g' σ) (fun i g' hg' => by
        have hi : i < l2.length := (List.getElem?_eq_some_iff.mp hg').1
        refine addN_old (by omega) (by omega) ?_ (hl2 i g' hg')
        by_cases hc : c1 = c2
        · have := hcc hc; exact Or.inr (by omega)
        · exact Or.inl hc)
    rw [m_jstep h1 h2 hn (by omega) hs (hl2 k g hg)]
    refine ⟨σ', e, r, fun a ha hb => by rw [f1 a ha hb, addN_fr ha hb], fun q hq => by rw [f2 q hq, addN_170 (by omega)], fun q hq => by rw [f3 q hq, addN_169 (by omega)]⟩
theorem op_join {σ : Mem} (h : Rel σ) (x1 x2 : Int32) : OpOK (FX9_join [.ref 0, .int x1, .int x2]) (FX10_join [.ref 160, .int x1, .int x2]) σ := by
  by_cases h1 : 0 ≤ x1 ∧ x1 ≤ 3
  · by_cases h2 : 0 ≤ x2 ∧ x2 ≤ 3
    · have h0 := h
      obtain ⟨Z, hZ, hC, hM⟩ := h
      obtain ⟨c, hc, rfl⟩ := n3 h1
      obtain ⟨d, hd, rfl⟩ := n3 h2
      have hl6 := (hZ.2.1 c hc).1
      have hd6 := (hZ.2.1 d hd).1
      by_cases hn : (Z.2.1 c).length = 0
      · exact op_same (r := -3) h0 (by rw [enX9_join, t_isCourse, rI, ifb, if_pos h1, t_isCourse, rI, ifb, if_pos h2, oc c8, rf0_3, x103 hc, cl c (by omega), cor hc, oc (cos hc), c_none hZ.2 hC.2 hc, rI, ifb, if_pos hn]) (by rw [enX10_join, t_mCourse, rI, ifb, if_pos h1, t_mCourse, rI, ifb, if_pos h2, oc m9, rf160_10, xi hc sh168, cl c (by omega), (hM.2.1 c hc).1, hn, if_pos (show nI 0 = 0 from rfl)])
      · by_cases hm : (Z.2.1 d).length = 0
        · exact op_same (r := -3) h0 (by rw [enX9_join, t_isCourse, rI, ifb, if_pos h1, t_isCourse, rI, ifb, if_pos h2, oc c8, rf0_3, x103 hc, cl c (by omega), cor hc, oc (cos hc), c_none hZ.2 hC.2 hc, rI, ifb, if_neg hn, oc c8, x103 hd, cl d (by omega), cor hd, oc (cos hd), c_none hZ.2 hC.2 hd, rI, ifb, if_pos hm]) (by rw [enX10_join, t_mCourse, rI, ifb, if_pos h1, t_mCourse, rI, ifb, if_pos h2, oc m9, rf160_10, xi hc sh168, cl c (by omega), (hM.2.1 c hc).1, if_neg (fun e => hn ((nI_z (by omega)).mp e)), oc m9, xi hd sh168, cl d (by omega), (hM.2.1 d hd).1, hm, if_pos (show nI 0 = 0 from rfl)])
        · have P9 : ∀ X, FX9_join [.ref 0, .int (nI c), .int (nI d)] σ = X ↔ (if nI (Z.2.1 c).length + nI (Z.2.1 d).length ≤ 6 then o_cls 0 8 (o_ix 103 43 (nI c) (o_cls 0 8 (o_ix 103 43 (nI d) (o_cls (128 + 6 * c) 0 (o_rV (FX1_append [.ref (128 + 6 * c), .ref (128 + 6 * d)] σ) (fun m9 => o_cls 0 8 (o_ix 103 43 (nI c) (o_cls (128 + 6 * c) 0 (some (some (.int (m9 (128 + 6 * c) 2)), m9)))))))))) else some (some (.int (-4 : Int32)), σ)) = X := by
            intro X
            rw [enX9_join, t_isCourse, rI, ifb, if_pos h1, t_isCourse, rI, ifb, if_pos h2, oc c8, rf0_3, x103 hc, cl c (by omega), cor hc, oc (cos hc), c_none hZ.2 hC.2 hc, rI, ifb, if_neg hn, oc c8, x103 hd, cl d (by omega), cor hd, oc (cos hd), c_none hZ.2 hC.2 hd, rI, ifb, if_neg hm, oc c8, x103 hc, oc (cos hc), oc c8, x103 hd, oc (cos hd), (hC.2.1 c hc).1, (hC.2.1 d hd).1]
          have P10 : ∀ σ1, RM Z σ1 → ∀ X, FX10_join [.ref 160, .int (nI c), .int (nI d)] σ1 = X ↔ (if nI (Z.2.1 c).length + nI (Z.2.1 d).length ≤ 6 then am_go CX10_join 77 [.ref 160, .int (nI c), .int (nI d), .int (nI (Z.2.1 c).length), .int (nI (Z.2.1 d).length), .int 0, .null] [] σ1 else some (some (.int (-4 : Int32)), σ1)) = X := by
            intro σ1 hM1 X
            rw [enX10_join, t_mCourse, rI, ifb, if_pos h1, t_mCourse, rI, ifb, if_pos h2, oc m9, rf160_10, xi hc sh168, cl c (by omega), (hM1.2.1 c hc).1, if_neg (fun e => hn ((nI_z (by omega)).mp e)), oc m9, xi hd sh168, cl d (by omega), (hM1.2.1 d hd).1, if_neg (fun e => hm ((nI_z (by omega)).mp e)), oc m9, xi hc sh168, oc m9, xi hd sh168, oc m9, xi hc sh168, oc m9, xi hd sh168]
          by_cases hs : (Z.2.1 c).length + (Z.2.1 d).length ≤ 6
          · have hs' : nI (Z.2.1 c).length + nI (Z.2.1 d).length ≤ 6 := by rw [nI_add]; exact nI_le (b := 6) hs (by decide)
            have hok : okC (Z.2.1 c ++ Z.2.1 d) := ⟨by rw [List.length_append]; exact hs, fun g hg => by
              rcases List.mem_append.mp hg with hg | hg
              · exact (hZ.2.1 c hc).2 g hg
              · exact (hZ.2.1 d hd).2 g hg⟩
            refine op_of (Z' := zCo Z c (Z.2.1 c ++ Z.2.1 d) Z.2.2.1) (r := nI ((Z.2.1 c).length + (Z.2.1 d).length)) hZ hM (hZ.co hok hZ.2.2.1) ?_ (fun σ1 hM1 => ?_)
            · have hdis : 128 + 6 * c + 3 ≤ 128 + 6 * d ∨ 128 + 6 * d + 3 ≤ 128 + 6 * c ∨ (128 + 6 * c = 128 + 6 * d ∧ (Z.2.1 d).length ≤ (Z.2.1 c).length) := by
                by_cases hcd : c = d
                · subst hcd; exact Or.inr (Or.inr ⟨rfl, Nat.le_refl _⟩)
                · omega
              obtain ⟨σ2, e2, r2, f2⟩ := t_append (cos hc) (cos hd) hdis hs (hC.2.1 c hc) (hC.2.1 d hd)
              refine ⟨σ2, ?_, hC.co hZ hc r2 ?_ (fun i b hb => ?_) (fun a ha => f2 a (by omega)) (by rw [f2 0 (by omega)]), fun a ha => f2 a (by omega)⟩
              · rw [P9, if_pos hs', oc c8, x103 hc, oc c8, x103 hd, oc (cos hc), e2, rV, oc c8, x103 hc, oc (cos hc), r2.1, List.length_append]
              · rw [f2 45 (by omega)]; exact hC.2.2.1.1
              · rw [f2 46 (by omega)]; exact hC.2.2.1.2 i b hb
            · obtain ⟨σ2, e2, r2, f1, f2, f3⟩ := m_join hc hd (by omega) hs (fun e => by subst e; exact Nat.le_refl _) (Z.2.1 d).length 0 .null σ1 (by omega) (by rw [List.take_zero, List.append_nil]; exact (hM1.2.1 c hc).2) (hM1.2.1 d hd).2
              refine ⟨setM σ2 168 c (nI ((Z.2.1 c).length + (Z.2.1 d).length)), ?_, hM1.co hZ hc ⟨?_, fun i g hg => ?_⟩ (fun q hq hqc => ⟨?_, fun i hi => ?_, fun i hi => ?_⟩) ?_ (fun i b hb => ?_) (fun a ha => ?_) (fun j hj => ?_), fun a ha => ?_⟩
              · rw [P10 σ1 hM1, if_pos hs']; exact e2
              · rw [sM_eq, List.length_append]
              · rw [sM_a (by decide), sM_a (by decide)]; exact r2 i g hg
              · rw [sM_i hqc, f1 168 (by decide) (by decide)]
              · rw [sM_a (by decide), f2 _ (by omega)]
              · rw [sM_a (by decide), f3 _ (by omega)]
              · rw [sM_a (by decide), f1 160 (by decide) (by decide)]; exact hM1.2.2.1.1
              · rw [sM_a (by decide), f1 171 (by decide) (by decide)]; exact hM1.2.2.1.2 i b hb
              · rw [sM_a (by omega), f1 a (by omega) (by omega)]
              · rw [sM_a (by decide), f1 160 (by decide) (by decide)]
              · rw [sM_a (by omega), f1 a (by omega) (by omega)]
          · have hs' : ¬ nI (Z.2.1 c).length + nI (Z.2.1 d).length ≤ 6 := by rw [nI_add]; exact nI_ge (a := 6) (by omega) (by omega)
            exact op_same (r := -4) h0 (by rw [P9, if_neg hs']) (by rw [P10 σ hM, if_neg hs'])
    · exact op_same (r := -2) h (by rw [enX9_join, t_isCourse, rI, ifb, if_pos h1, t_isCourse, rI, ifb, if_neg h2]) (by rw [enX10_join, t_mCourse, rI, ifb, if_pos h1, t_mCourse, rI, ifb, if_neg h2])
  · exact op_same (r := -2) h (by rw [enX9_join, t_isCourse, rI, ifb, if_neg h1]) (by rw [enX10_join, t_mCourse, rI, ifb, if_neg h1])
