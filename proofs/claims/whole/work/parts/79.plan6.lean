/-! plans: the reference's loop over all rows -/
def frQ (σ σ' : Mem) : Prop := (∀ a, (a < 160 ∨ a = 163 ∨ a = 164 ∨ a = 165 ∨ (168 ≤ a ∧ a < 176) ∨ 181 ≤ a) → σ' a = σ a) ∧ ∀ j, j ≠ 8 → j ≠ 9 → j ≠ 24 → j ≠ 25 → j ≠ 38 → j ≠ 39 → σ' 160 j = σ 160 j
theorem frQ.rf (σ : Mem) : frQ σ σ := ⟨fun _ _ => rfl, fun _ _ _ _ _ _ _ => rfl⟩
theorem frQ.tr {σ1 σ2 σ3 : Mem} (h : frQ σ1 σ2) (h' : frQ σ2 σ3) : frQ σ1 σ3 := ⟨fun a ha => (h'.1 a ha).trans (h.1 a ha), fun j a b c d e f => (h'.2 j a b c d e f).trans (h.2 j a b c d e f)⟩
theorem frM.q {σ σ' : Mem} (h : frM σ σ') : frQ σ σ' := ⟨h.1, fun j a b c d _ _ => h.2 j a b c d⟩
theorem frQ.kp {σ σ' : Mem} (h : frQ σ σ') : kpM σ σ' := ⟨fun a ha => h.1 a (by omega), h.2 14 (by decide) (by decide) (by decide) (by decide) (by decide) (by decide), h.2 40 (by decide) (by decide) (by decide) (by decide) (by decide) (by decide)⟩
theorem frQ.lo {σ σ' : Mem} (h : frQ σ σ') : ∀ a, a < 160 → σ' a = σ a := fun a ha => h.1 a (by omega)
theorem frQ.s {σ : Mem} {i : Nat} {v : Int32} (h : i = 38 ∨ i = 39) : frQ σ (setM σ 160 i v) := ⟨fun a ha => sM_a (by omega), fun j _ _ _ _ _ _ => sM_i (by omega)⟩
theorem repM.s38 {S : KS} {σ : Mem} {i : Nat} {v : Int32} (h : repM S σ) (hi : i = 38 ∨ i = 39) : repM S (setM σ 160 i v) := by
  unfold repM repN at h ⊢
  rw [sM_i (by omega), sM_i (by omega), sM_i (by omega), sM_a (by decide), sM_a (by decide), sM_a (by decide), sM_a (by decide), sM_a (by decide), sM_a (by decide), sM_a (by decide)]
  exact h
theorem dig4 : ∀ m : Fin 4, ∀ r : Fin 256, ((nI r.val >>> (((2 : Int32) * nI m.val) &&& 31)) &&& (3 : Int32)) = nI (r.val / 4 ^ m.val % 4) := by decide +kernel
theorem m_g25 {S0 : KS} {n : Nat} {x1 x2 x4 : Int32} (hn : n ≤ 6) : ∀ (m j : Nat) (S : KS) (σ : Mem), j + m = n → okK S → inT S0 S σ → ∃ σ', (∀ S', lgP m S = some S' → am_go CX10_goesWell 25 [.ref 160, .int x1, .int x2, .int (nI n), .int x4, .int (nI j)] [] σ = am_go CX10_goesWell 5 [.ref 160, .int x1, .int x2, .int (nI n), .int (x4 + (-1 : Int32)), .int (nI n)] [] σ' ∧ okK S' ∧ inT S0 S' σ') ∧ (lgP m S = none → am_go CX10_goesWell 25 [.ref 160, .int x1, .int x2, .int (nI n), .int x4, .int (nI j)] [] σ = some (some (.int 0), σ') ∧ ∃ S', inT S0 S' σ') ∧ frM σ σ' := by
  intro m
  induction m with
  | zero =>
    intro j S σ hj hS h
    have : j = n := by omega
    subst this
    rw [blX10_goesWell_25, if_pos (Int32.le_refl _)]
    exact ⟨σ, fun S' e => by cases e; exact ⟨rfl, hS, h⟩, fun e => (by cases e), frM.rf σ⟩
  | succ m ih =>
    intro j S σ hj hS h
    obtain ⟨σ1, e1, r1, f1⟩ := th_go hS h
    rw [blX10_goesWell_25, if_neg (nI_ge (by omega) (by omega)), oc m9, e1, rI, nI_1, lgP]
    by_cases hz : (stepS S).2 = 0
    · rw [if_pos hz, if_pos hz]
      obtain ⟨σ2, a2, b2, f2⟩ := ih (j + 1) (stepS S).1 σ1 (by omega) hS.step r1
      exact ⟨σ2, a2, b2, f1.tr f2⟩
    · rw [if_neg hz, if_neg hz, zr0]
      exact ⟨σ1, fun S' e => (by cases e), fun _ => ⟨rfl, _, r1⟩, f1⟩
theorem m_gw {S0 : KS} {n r : Nat} {x2 F : Int32} (hn : n ≤ 6) (hr : r < 256) : ∀ (m : Nat) (S : KS) (f : Nat) (v5 : Value) (σ : Mem), m ≤ 4 → okK S → inT S0 S σ → S.2.2.2.1 = F + nI f → ∃ σ', am_go CX10_goesWell 5 [.ref 160, .int (nI r), .int x2, .int (nI n), .int (nI m - 1), v5] [] σ = some (some (.int (if (evD (goP n) dnP (bnP n) m S f r).isSome = true then 1 else 0)), σ') ∧ (∀ f', evD (goP n) dnP (bnP n) m S f r = some f' → σ' 160 8 = F + nI f' ∧ f' ≤ f + 108 * m) ∧ (∃ S', inT S0 S' σ') ∧ frM σ σ' := by
  intro m
  induction m with
  | zero =>
    intro S f v5 σ _ hS h hf
    rw [blX10_goesWell_5, if_pos (by decide), oc m9, m_alldone hS.1 h.1, rI, zrb, evD]
    by_cases hdn : doneS S = ((1 : Int32) <<< (nI S.2.2.1.length &&& 31)) - 1
    · have e0 : dnP S = true := decide_eq_true hdn
      rw [if_pos hdn, if_pos e0]
      exact ⟨σ, rfl, fun f' e => by cases e; exact ⟨by rw [h.1.2.2.2.1]; exact hf, by omega⟩, ⟨S, h⟩, frM.rf σ⟩
    · have e0 : ¬ dnP S = true := fun e => hdn (of_decide_eq_true e)
      rw [if_neg hdn, if_neg e0]
      exact ⟨σ, rfl, fun f' e => (by cases e), ⟨S, h⟩, frM.rf σ⟩
  | succ m ih =>
    intro S f v5 σ hm hS h hf
    have hs4 : r / 4 ^ m % 4 < 4 := Nat.mod_lt _ (by decide)
    rw [nI_pred, blX10_goesWell_5, if_neg (nI_pos (by omega)), oc m9, dig4 ⟨m, by omega⟩ ⟨r, hr⟩, evD]
    dsimp only
    generalize hs : r / 4 ^ m % 4 = s at hs4 ⊢
    obtain ⟨σ1, e1, r1, f1, g1⟩ := m_setAll (s := nI s) h.1
    have h1 : inT S0 (S.1, (nI s, nI s, nI s), S.2.2) σ1 := ⟨r1, h.2.1.go (fun a ha hb => g1 a (by omega)) (by rw [g1 160 (by decide)]) (by rw [g1 160 (by decide)]), h.2.2.fr f1⟩
    obtain ⟨σ2, a2, b2, f2⟩ := m_g25 (x1 := nI r) (x2 := x2) (x4 := nI m) hn n 0 (S.1, (nI s, nI s, nI s), S.2.2) σ1 (by omega) ⟨hS.1, okT3 hs4⟩ h1
    rw [e1, rV]
    have hbn := bn_le hn s
    cases hg : goP n S s with
    | none =>
      obtain ⟨e2, S2, i2⟩ := b2 hg
      rw [show am_go CX10_goesWell 25 [.ref 160, .int (nI r), .int x2, .int (nI n), .int (nI m), .int 0] [] σ1 = _ from e2]
      exact ⟨σ2, rfl, fun f' e => (by cases e), ⟨S2, i2⟩, f1.tr f2⟩
    | some S' =>
      obtain ⟨e2, ok2, i2⟩ := a2 S' hg
      obtain ⟨σ3, e3, c3, i3, f3⟩ := ih S' (f + bnP n s) (.int (nI n)) σ2 (by omega) ok2 i2 (go_fuel hs4 hf hg)
      rw [show am_go CX10_goesWell 25 [.ref 160, .int (nI r), .int x2, .int (nI n), .int (nI m), .int 0] [] σ1 = _ from e2, ← Int32.sub_eq_add_neg, e3]
      refine ⟨σ3, rfl, fun f' e => ?_, i3, (f1.tr f2).tr f3⟩
      obtain ⟨c1, c2⟩ := c3 f' e
      exact ⟨c1, by omega⟩
/-- the best row so far, as the reference holds it -/
def plR (b : Bst) (σ : Mem) : Prop := match b with
  | none => σ 160 39 = -1
  | some (g, q) => σ 160 39 = nI q ∧ σ 160 38 = nI g ∧ g ≤ 432 ∧ q < 256
theorem plR.fr {b : Bst} {σ σ' : Mem} (h : plR b σ) (f1 : σ' 160 38 = σ 160 38) (f2 : σ' 160 39 = σ 160 39) : plR b σ' := by
  cases b with
  | none => exact f2.trans h
  | some gq =>
    obtain ⟨g, q⟩ := gq
    obtain ⟨h1, h2, h3, h4⟩ := h
    exact ⟨f2.trans h1, f1.trans h2, h3, h4⟩
theorem pow4 : ∀ k : Fin 5, ((1 : Int32) <<< (((2 : Int32) * nI k.val) &&& 31)) = nI (4 ^ k.val) := by decide +kernel
theorem m_pl {S0 : KS} {k n : Nat} (hk : k ≤ 4) (hn : n ≤ 6) (hS : okK S0) : ∀ (j r : Nat) (b : Bst) (v4 v5 : Value) (σ : Mem), r + j = 4 ^ k → repM S0 σ → plR b σ → ∃ σ', am_go CX10_plans 7 [.ref 160, .int (nI k), .int (nI n), .int (nI r), v4, v5] [] σ = some (none, σ') ∧ repM S0 σ' ∧ plR ((List.range' r j).foldl (stF (evD (goP n) dnP (bnP n) k S0 0)) b) σ' ∧ frQ σ σ' := by
  have hk4 : 4 ^ k ≤ 4 ^ 4 := Nat.pow_le_pow_right (by decide) hk
  intro j
  induction j with
  | zero =>
    intro r b v4 v5 σ hr h hb
    have : r = 4 ^ k := by omega
    subst this
    rw [blX10_plans_7, pow4 ⟨k, by omega⟩, if_pos (Int32.le_refl _)]
    exact ⟨σ, rfl, h, hb, frQ.rf σ⟩
  | succ j ih =>
    intro r b v4 v5 σ hr h hb
    obtain ⟨σ1, e1, r1, f1⟩ := th_begin hS.1 h
    obtain ⟨σ2, e2, c2, ⟨S2, i2⟩, f2⟩ := m_gw (S0 := S0) (n := n) (r := r) (x2 := nI k) (F := S0.2.2.2.1) hn (by omega) k S0 0 .null σ1 hk hS r1 (Int32.add_zero _).symm
    obtain ⟨σ3, e3, r3, f3⟩ := th_end hS.1 i2
    have f : frM σ σ3 := (f1.tr f2).tr f3
    have hb3 : plR b σ3 := hb.fr (f.2 38 (by decide) (by decide) (by decide) (by decide)) (f.2 39 (by decide) (by decide) (by decide) (by decide))
    rw [blX10_plans_7, pow4 ⟨k, by omega⟩, if_neg (show ¬ nI (4 ^ k) ≤ nI r from nI_ge (by omega) (by omega)), oc m9, e1, rV, oc m9, enX10_goesWell, e2, rI, oc m9, oc m9, oc m9, e3, rV, nI_1, List.range'_succ, List.foldl_cons]
    cases hev : evD (goP n) dnP (bnP n) k S0 0 r with
    | none =>
      have es : stF (evD (goP n) dnP (bnP n) k S0 0) b r = b := by unfold stF; rw [hev]
      rw [if_pos (by rfl), es]
      obtain ⟨σ4, e4, r4, b4, f4⟩ := ih (r + 1) b _ _ σ3 (by omega) r3.1 hb3
      exact ⟨σ4, e4, r4, b4, f.q.tr f4⟩
    | some g' =>
      obtain ⟨q1, q2⟩ := c2 g' hev
      have es : stF (evD (goP n) dnP (bnP n) k S0 0) b r = impP b g' r := by unfold stF; rw [hev]
      have hg' : g' ≤ 432 := by omega
      have eb : σ2 160 8 - σ2 160 24 = nI g' := by rw [q1, i2.2.1.2.2.2.1, Int32.add_comm, Int32.add_sub_cancel]
      have take : ∀ (v4 v5 : Value), ∃ σ', am_go CX10_plans 7 [.ref 160, .int (nI k), .int (nI n), .int (nI (r + 1)), v4, v5] [] (setM (setM σ3 160 39 (nI r)) 160 38 (nI g')) = some (none, σ') ∧ repM S0 σ' ∧ plR ((List.range' (r + 1) j).foldl (stF (evD (goP n) dnP (bnP n) k S0 0)) (some (g', r))) σ' ∧ frQ σ σ' := by
        intro v4 v5
        obtain ⟨σ4, e4, r4, b4, f4⟩ := ih (r + 1) (some (g', r)) v4 v5 (setM (setM σ3 160 39 (nI r)) 160 38 (nI g')) (by omega) ((r3.1.s38 (Or.inr rfl)).s38 (Or.inl rfl)) ⟨by rw [sM_i (by decide), sM_eq], by rw [sM_eq], hg', by omega⟩
        exact ⟨σ4, e4, r4, b4, f.q.tr (((frQ.s (Or.inr rfl)).tr (frQ.s (Or.inl rfl))).tr f4)⟩
      rw [if_neg (by rw [Option.isSome_some, if_pos rfl]; decide), oc m9, eb, es]
      cases b with
      | none =>
        rw [if_pos (show σ3 160 39 < 0 by rw [show σ3 160 39 = -1 from hb3]; decide), oc m9, oc m9]
        exact take _ _
      | some gq =>
        obtain ⟨g, q⟩ := gq
        obtain ⟨b1, b2, b3, b4⟩ := hb3
        rw [if_neg (show ¬ σ3 160 39 < 0 by rw [b1]; exact nI_pos (by omega)), oc m9, b2]
        unfold impP
        dsimp only
        by_cases hlt : g' < g
        · rw [if_neg (nI_ge hlt (by omega)), oc m9, oc m9, if_pos hlt]
          exact take _ _
        · rw [if_pos (nI_le (by omega) (by omega)), if_neg hlt]
          obtain ⟨σ4, e4, r4, c4, f4⟩ := ih (r + 1) (some (g, q)) _ _ σ3 (by omega) r3.1 ⟨b1, b2, b3, b4⟩
          exact ⟨σ4, e4, r4, c4, f.q.tr f4⟩
theorem m_plans {k n : Nat} {S0 : KS} {σ : Mem} (hk : k ≤ 4) (hn : n ≤ 6) (hS : okK S0) (h : repM S0 σ) : ∃ σ', FX10_plans [.ref 160, .int (nI k), .int (nI n)] σ = some (none, σ') ∧ repM S0 σ' ∧ plR (plnS k n S0) σ' ∧ frQ σ σ' := by
  obtain ⟨σ1, e1, r1, b1, f1⟩ := m_pl hk hn hS (4 ^ k) 0 none .null .null (setM σ 160 39 (-1)) (by omega) (h.s38 (Or.inr rfl)) (show setM σ 160 39 (-1) 160 39 = -1 from sM_eq _ _ _ _)
  have e0 := flat_eq (goP n) dnP (bnP n) k S0 0 0 none
  rw [Nat.zero_mul] at e0
  rw [e0] at b1
  rw [enX10_plans, oc m9]
  exact ⟨σ1, e1, r1, b1, (frQ.s (Or.inr rfl)).tr f1⟩
