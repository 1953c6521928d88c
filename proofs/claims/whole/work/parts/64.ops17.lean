/-! fire, tries -/
theorem m_r29 {c j : Nat} {w x : Int32} {v6 : Value} {g : Lg} {σ : Mem} (hc : c < 4) (hj : j < 6) (hg : legM c j g σ) : am_go CX10_fires 29 [.ref 160, .int (nI c), .int w, .int x, .int (nI j), .int 0, v6] [] σ = am_go CX10_fires 68 [.ref 160, .int (nI c), .int w, .int x, .int (nI j), .int 0, v6] [] (setM (setM (setM σ 162 0 g.1) 162 1 g.2.1) 162 2 g.2.2.1) := by
  have st : ∀ (z : Nat) (τ : Mem), z < 3 → am_go CX10_fires 29 [.ref 160, .int (nI c), .int w, .int x, .int (nI j), .int (nI z), v6] [] τ = am_go CX10_fires 29 [.ref 160, .int (nI c), .int w, .int x, .int (nI j), .int (nI (z + 1)), v6] [] (setM τ 162 z (τ 170 (18 * c + 3 * j + z))) := by
    intro z τ hz
    rw [blX10_fires_29, if_neg (show ¬ (3 : Int32) ≤ nI z from nI_ge (b := 3) hz (by decide)), rf160_12, rf160_1, i18, oc m9, oc m9, xi (show 18 * c + 3 * j + z < 72 by omega) sh170, xi hz sh162, cl z (by omega), cl (18 * c + 3 * j + z) (by omega), nI_1]
  rw [show (0 : Int32) = nI 0 from rfl, st 0 σ (by decide), st 1 _ (by decide), st 2 _ (by decide), blX10_fires_29, if_pos (by decide), sM_a (show 170 ≠ 162 by decide), sM_a (show 170 ≠ 162 by decide), sM_a (show 170 ≠ 162 by decide), show σ 170 (18 * c + 3 * j + 0) = g.1 from hg.1, hg.2.1, hg.2.2.1]
  rfl
theorem rep3m {S : KS} {σ : Mem} {a b c : Int32} (h : repM S σ) : repM (S.1, (a, b, c), S.2.2) (setM (setM (setM σ 162 0 a) 162 1 b) 162 2 c) := ((h.setT (z := 0) (v := a) (by decide)).setT (z := 1) (v := b) (by decide)).setT (z := 2) (v := c) (by decide)
theorem m_run {c : Nat} {w : Int32} {L : List Lg} (hc : c < 4) (hL : okC L) : ∀ (l2 l1 : List Lg) (s : FS) (v5 v6 : Value) (σ : Mem), l1 ++ l2 = L → okF s → (w ≠ 0 → s.2.2.1 = 0) → s.2.1 ≤ 9 * l1.length → repM s.1 σ → repG s σ → repCm c L σ → ∃ σ', am_go CX10_fires 15 [.ref 160, .int (nI c), .int w, .int (nI s.2.1), .int (nI l1.length), v5, v6] [] σ = some (some (.int (nI (flegs (w ≠ 0) l2 s).2.1)), σ') ∧ repM (flegs (w ≠ 0) l2 s).1 σ' ∧ repG (flegs (w ≠ 0) l2 s) σ' ∧ frG σ σ' := by
  intro l2
  induction l2 with
  | nil =>
    intro l1 s v5 v6 σ e hs hw hg h hf hcm
    have : l1 = L := by rw [← e, List.append_nil]
    subst this
    rw [blX10_fires_15, oc m9, rf160_10, xi hc sh168, cl c (by omega), hcm.1, if_pos (Int32.le_refl _)]
    exact ⟨σ, rfl, h, hf, frG.rf σ⟩
  | cons g l2 ih =>
    intro l1 s v5 v6 σ e hs hw hg h hf hcm
    have hlen : l1.length + (l2.length + 1) = L.length := by rw [← e, List.length_append, List.length_cons]
    have h6 := hL.1
    have hgm : g ∈ L := by rw [← e]; exact List.mem_append_right _ (List.mem_cons_self ..)
    have okg := hL.2 g hgm
    have hat : L[l1.length]? = some g := by rw [← e, List.getElem?_append_right (Nat.le_refl _), Nat.sub_self]; rfl
    have hleg := hcm.2 l1.length g hat
    obtain ⟨n, hn1, hn9, en⟩ := okg.2.2.2
    have hK := rep3m (a := g.1) (b := g.2.1) (c := g.2.2.1) h
    obtain ⟨τ, hτ⟩ : ∃ τ, τ = setM (setM (setM σ 162 0 g.1) 162 1 g.2.1) 162 2 g.2.2.1 := ⟨_, rfl⟩
    have fτ : frG σ τ := by rw [hτ]; exact frG.s162.tr (frG.s162.tr frG.s162)
    rw [← hτ] at hK
    have hF : repG (setG g s) τ := by
      unfold repG
      rw [hτ, sM_a (show 160 ≠ 162 by decide), sM_a (show 160 ≠ 162 by decide), sM_a (show 160 ≠ 162 by decide)]
      exact hf
    have hst : τ 169 (6 * c + l1.length) = nI n := by rw [fτ.1 169 (by omega), hleg.2.2.2, en]
    have enn : g.2.2.2.toNatClampNeg = n := by rw [en, cl n (by omega)]
    obtain ⟨σ1, v6', e1, r1, q1, f1, k1⟩ := m_r68 (w := w) (j := l1.length) hc (by omega) hn9 n 0 (setG g s) v6 τ (by omega) (hs.setG okg) hw (by show s.2.1 + n ≤ 800; omega) hK hF hst
    have fA : frG σ σ1 := fτ.tr f1
    have hpre : am_go CX10_fires 15 [.ref 160, .int (nI c), .int w, .int (nI s.2.1), .int (nI l1.length), v5, v6] [] σ = am_go CX10_fires 68 [.ref 160, .int (nI c), .int w, .int (nI (setG g s).2.1), .int (nI l1.length), .int (nI 0), v6] [] τ := by
      rw [blX10_fires_15, oc m9, rf160_10, xi hc sh168, cl c (by omega), hcm.1, if_neg (nI_ge (by omega) (by omega)), m_r29 hc (by omega) hleg, hτ]
      rfl
    rw [hpre, e1, flegs, enn]
    by_cases hstop : (frun (w ≠ 0) n (setG g s)).2 = true
    · rw [if_pos hstop, if_pos hstop]
      exact ⟨σ1, rfl, r1, q1, fA⟩
    · rw [if_neg hstop, if_neg hstop]
      have hg' := frun_gone (w ≠ 0) n (setG g s)
      have hg0 : (setG g s).2.1 = s.2.1 := rfl
      have hcm' : repCm c L σ1 := by
        unfold repCm at hcm ⊢
        rw [fA.1 168 (by omega), fA.1 169 (by omega), fA.1 170 (by omega)]
        exact hcm
      obtain ⟨σ2, e2, r2, q2, f2⟩ := ih (l1 ++ [g]) (frun (w ≠ 0) n (setG g s)).1 (.int (nI n)) v6' σ1 (by rw [List.append_assoc]; exact e) (frun_ok _ _ _ (hs.setG okg)) (k1 (by revert hstop; cases (frun (w ≠ 0) n (setG g s)).2 <;> simp)) (by rw [List.length_append]; show _ ≤ 9 * (l1.length + 1); omega) r1 q1 hcm'
      rw [show (l1 ++ [g]).length = l1.length + 1 by rw [List.length_append]; rfl] at e2
      exact ⟨σ2, e2, r2, q2, fA.tr f2⟩
theorem t_fire {k c : Nat} {w : Int32} {S : KS} {L : List Lg} {σ : Mem} (hk : (sh k).1 = 2) (hk14 : k + 14 ≤ 43) (hc : c < 4) (hL : okC L) (hS : okK S) (h : repK k S σ) (hcm : repCo (128 + 6 * c) L σ) : ∃ σ', FX2_run [.ref 52, .ref k, .ref (128 + 6 * c), .int w] σ = some (none, σ') ∧ repK k (flegs (w ≠ 0) L (beginF S)).1 σ' ∧ repF (flegs (w ≠ 0) L (beginF S)) σ' ∧ ∀ a, ¬ (k ≤ a ∧ a < k + 14) → a ≠ 52 → σ' a = σ a := by
  have o52 : (sh 52).1 = 1 := by rw [sh52]
  obtain ⟨τ, hτ⟩ : ∃ τ, τ = setM (setM (setM σ 52 0 0) 52 1 (-1)) 52 2 (-1) := ⟨_, rfl⟩
  have fτ : ∀ a, a ≠ 52 → τ a = σ a := fun a ha => by rw [hτ, sM_a ha, sM_a ha, sM_a ha]
  have hF : repF (beginF S) τ := by
    rw [hτ]
    refine ⟨?_, ?_, ?_⟩
    · rw [sM_i (by decide), sM_i (by decide), sM_eq]; rfl
    · rw [sM_i (by decide), sM_eq]; rfl
    · rw [sM_eq]; rfl
  obtain ⟨σ', e, r, q, f⟩ := t_run (w := w) hk hk14 (cos hc) (by omega) hL L [] (beginF S) .null τ rfl (okF_begin hS) (Nat.zero_le _) (h.fr hS.1.1 (fun a ha => fτ a (by omega))) hF (hcm.fr (fun a ha => fτ a (by omega)))
  refine ⟨σ', ?_, r, q, fun a ha hb => by rw [f a ha hb, fτ a hb]⟩
  rw [enX2_run, oc o52, oc o52, oc o52, ← hτ]
  exact e
theorem m_fire {c : Nat} {w : Int32} {S : KS} {L : List Lg} {σ : Mem} (hc : c < 4) (hL : okC L) (hS : okK S) (h : repM S σ) (hcm : repCm c L σ) : ∃ σ', FX10_fires [.ref 160, .int (nI c), .int w] σ = some (some (.int (nI (flegs (w ≠ 0) L (beginF S)).2.1)), σ') ∧ repM (flegs (w ≠ 0) L (beginF S)).1 σ' ∧ repG (flegs (w ≠ 0) L (beginF S)) σ' ∧ frG σ σ' := by
  obtain ⟨τ, hτ⟩ : ∃ τ, τ = setM (setM σ 160 36 (-1)) 160 37 0 := ⟨_, rfl⟩
  have fτ : frG σ τ := by rw [hτ]; exact (frG.s36 (Or.inl rfl)).tr (frG.s36 (Or.inr rfl))
  have hF : repG (beginF S) τ := by
    rw [hτ]
    refine ⟨?_, ?_⟩
    · rw [sM_i (by decide), sM_eq]; rfl
    · rw [sM_eq]; rfl
  have hcm' : repCm c L τ := by
    unfold repCm at hcm ⊢
    rw [fτ.1 168 (by omega), fτ.1 169 (by omega), fτ.1 170 (by omega)]
    exact hcm
  obtain ⟨σ', e, r, q, f⟩ := m_run (w := w) hc hL L [] (beginF S) .null .null τ rfl (okF_begin hS) (fun _ => rfl) (Nat.zero_le _) (by rw [hτ]; exact (h.s160 (Or.inl rfl)).s160 (Or.inr rfl)) hF hcm'
  refine ⟨σ', ?_, r, q, fτ.tr f⟩
  rw [enX10_fires, oc m9, oc m9, ← hτ]
  exact e
theorem t_all {b : Nat} {L : List Lg} {σ : Mem} (hb : (sh b).1 = 0) (hl : L.length ≤ 6) (h : repCo b L σ) : ∀ (l2 l1 : List Lg) (x : Int32), l1 ++ l2 = L → am_go CX1_allSteps 4 [.ref b, .int x, .int (nI l1.length)] [] σ = some (some (.int (l2.foldl (fun a g => a + g.2.2.2) x)), σ) := by
  intro l2
  induction l2 with
  | nil =>
    intro l1 x e
    have : l1 = L := by rw [← e, List.append_nil]
    subst this
    rw [blX1_allSteps_4, oc hb, h.1, if_pos (Int32.le_refl _)]
    rfl
  | cons g l2 ih =>
    intro l1 x e
    have hlen : l1.length + (l2.length + 1) = L.length := by rw [← e, List.length_append, List.length_cons]
    have hat : L[l1.length]? = some g := by rw [← e, List.getElem?_append_right (Nat.le_refl _), Nat.sub_self]; rfl
    have := ih (l1 ++ [g]) (x + g.2.2.2) (by rw [List.append_assoc]; exact e)
    rw [show (l1 ++ [g]).length = l1.length + 1 by rw [List.length_append]; rfl] at this
    rw [blX1_allSteps_4, oc hb, h.1, if_neg (nI_ge (by omega) (by omega)), oc hb, c_r1 hb, ox (by rw [c_s1 hb]) (by rw [c_s1 hb]; show l1.length < 6; omega), cl l1.length (by omega), (h.2 l1.length g hat).2.2.2, nI_1, this]
    rfl
theorem m_all {c : Nat} {L : List Lg} {σ : Mem} (hc : c < 4) (hl : L.length ≤ 6) (h : repCm c L σ) : ∀ (l2 l1 : List Lg) (x : Int32), l1 ++ l2 = L → am_go CX10_stepsOf 4 [.ref 160, .int (nI c), .int x, .int (nI l1.length)] [] σ = some (some (.int (l2.foldl (fun a g => a + g.2.2.2) x)), σ) := by
  intro l2
  induction l2 with
  | nil =>
    intro l1 x e
    have : l1 = L := by rw [← e, List.append_nil]
    subst this
    rw [blX10_stepsOf_4, oc m9, rf160_10, xi hc sh168, cl c (by omega), h.1, if_pos (Int32.le_refl _)]
    rfl
  | cons g l2 ih =>
    intro l1 x e
    have hlen : l1.length + (l2.length + 1) = L.length := by rw [← e, List.length_append, List.length_cons]
    have hat : L[l1.length]? = some g := by rw [← e, List.getElem?_append_right (Nat.le_refl _), Nat.sub_self]; rfl
    have := ih (l1 ++ [g]) (x + g.2.2.2) (by rw [List.append_assoc]; exact e)
    rw [show (l1 ++ [g]).length = l1.length + 1 by rw [List.length_append]; rfl] at this
    rw [blX10_stepsOf_4, oc m9, rf160_10, xi hc sh168, cl c (by omega), h.1, if_neg (nI_ge (by omega) (by omega)), oc m9, rf160_11, i6, xi (show 6 * c + l1.length < 24 by omega) sh169, cl (6 * c + l1.length) (by omega), (h.2 l1.length g hat).2.2.2, nI_1, this]
    rfl
theorem op_fire {σ : Mem} (h : Rel σ) (x1 w : Int32) : OpOK (FX9_fire [.ref 0, .int x1, .int w]) (FX10_fire [.ref 160, .int x1, .int w]) σ := by
  by_cases h1 : 0 ≤ x1 ∧ x1 ≤ 3
  · have h0 := h
    obtain ⟨Z, hZ, hC, hM⟩ := h
    obtain ⟨c, hc, rfl⟩ := n3 h1
    have hl6 := (hZ.2.1 c hc).1
    by_cases hn : (Z.2.1 c).length = 0
    · exact op_same (r := -3) h0 (by rw [enX9_fire, t_isCourse, rI, ifb, if_pos h1, oc c8, rf0_3, x103 hc, cl c (by omega), cor hc, oc (cos hc), c_none hZ.2 hC.2 hc, rI, ifb, if_pos hn]) (by rw [enX10_fire, t_mCourse, rI, ifb, if_pos h1, oc m9, rf160_10, xi hc sh168, cl c (by omega), (hM.2.1 c hc).1, hn, if_pos (show nI 0 = 0 from rfl)])
    · have o52 : (sh 52).1 = 1 := by rw [sh52]
      have P9 : ∀ X, FX9_fire [.ref 0, .int (nI c), .int w] σ = X ↔ (if Z.1.2.2.2.2 + (Z.2.1 c).foldl (fun a g => a + g.2.2.2) 0 ≤ 9999 then o_rV (FX2_run [.ref 52, .ref 1, .ref (128 + 6 * c), .int w] σ) (fun m7 => some (some (.int (m7 52 0)), m7)) else some (some (.int (-3 : Int32)), σ)) = X := by
        intro X
        have ta := t_all (cos hc) hl6 (hC.2.1 c hc) (Z.2.1 c) [] 0 rfl
        rw [enX9_fire, t_isCourse, rI, ifb, if_pos h1, oc c8, rf0_3, x103 hc, cl c (by omega), cor hc, oc (cos hc), c_none hZ.2 hC.2 hc, rI, ifb, if_neg hn, oc c8, rf0_0, oc k1, oc c8, x103 hc, oc (cos hc), enX1_allSteps, show am_go CX1_allSteps 4 [.ref (128 + 6 * c), .int 0, .int 0] [] σ = _ from ta, rI, hC.1.2.2.2.2.2.1, oc c8, oc c8, oc c8, x103 hc, rf0_9, oc o52]
        have : ∀ m7 : Mem, o_cls 0 8 (o_cls 52 1 (some (some (.int (m7 52 0)), m7))) = (some (some (.int (m7 52 0)), m7) : Option (am_R Mem)) := fun m7 => by rw [oc c8, oc o52]
        simp only [this]
      have P10 : ∀ σ1, RM Z σ1 → ∀ X, FX10_fire [.ref 160, .int (nI c), .int w] σ1 = X ↔ (if Z.1.2.2.2.2 + (Z.2.1 c).foldl (fun a g => a + g.2.2.2) 0 ≤ 9999 then o_rI (FX10_fires [.ref 160, .int (nI c), .int w] σ1) (fun r6 m5 => some (some (.int r6), m5)) else some (some (.int (-3 : Int32)), σ1)) = X := by
        intro σ1 hM1 X
        have ta := m_all hc hl6 (hM1.2.1 c hc) (Z.2.1 c) [] 0 rfl
        rw [enX10_fire, t_mCourse, rI, ifb, if_pos h1, oc m9, rf160_10, xi hc sh168, cl c (by omega), (hM1.2.1 c hc).1, if_neg (fun e => hn ((nI_z (by omega)).mp e)), oc m9, oc m9, enX10_stepsOf, show am_go CX10_stepsOf 4 [.ref 160, .int (nI c), .int 0, .int 0] [] σ1 = _ from ta, rI, hM1.1.2.2.2.2.1, oc m9]
      by_cases hlim : Z.1.2.2.2.2 + (Z.2.1 c).foldl (fun a g => a + g.2.2.2) 0 ≤ 9999
      · have okf := flegs_ok (w ≠ 0) (Z.2.1 c) (beginF Z.1) (hZ.2.1 c hc).2 (okF_begin hZ.1)
        refine op_of (Z' := ((flegs (w ≠ 0) (Z.2.1 c) (beginF Z.1)).1, Z.2)) (r := nI (flegs (w ≠ 0) (Z.2.1 c) (beginF Z.1)).2.1) hZ hM ⟨okf.1, hZ.2⟩ ?_ (fun σ1 hM1 => ?_)
        · obtain ⟨σ1, e1, r1, q1, f1⟩ := t_fire (w := w) k1 (by decide) hc (hZ.2.1 c hc) hZ.1 hC.1 (hC.2.1 c hc)
          refine ⟨σ1, by rw [P9, if_pos hlim, e1, rV, q1.1], ⟨r1, hC.2.fr hZ.2 ⟨fun a ha => f1 a (by omega) (by omega), by rw [f1 0 (by omega) (by decide)]⟩⟩, fun a ha => f1 a (by omega) (by omega)⟩
        · obtain ⟨σ2, e2, r2, q2, f2⟩ := m_fire (w := w) hc (hZ.2.1 c hc) hZ.1 hM1.1 (hM1.2.1 c hc)
          exact ⟨σ2, by rw [P10 σ1 hM1, if_pos hlim, e2, rI], ⟨r2, hM1.2.fr f2.kp⟩, fun a ha => f2.1 a (by omega)⟩
      · exact op_same (r := -3) h0 (by rw [P9, if_neg hlim]) (by rw [P10 σ hM, if_neg hlim])
  · exact op_same (r := -2) h (by rw [enX9_fire, t_isCourse, rI, ifb, if_neg h1]) (by rw [enX10_fire, t_mCourse, rI, ifb, if_neg h1])
