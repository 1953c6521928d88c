/-! image, back -/
theorem c_kept {l : Nat → List Lg} {σ : Mem} {j : Nat} (hj : j < 4) (hl : (l j).length ≤ 6) (h : ∀ c, c < 4 → repCo (128 + 6 * c) (l c) σ) : ∃ σ', am_go CX9_image 13 [.ref 0, .int (nI j)] [] σ = am_go CX9_image 13 [.ref 0, .int (nI (j + 1))] [] σ' ∧ repCo (131 + 6 * j) (l j) σ' ∧ ∀ c, ¬ (131 + 6 * j ≤ c ∧ c < 131 + 6 * j + 3) → σ' c = σ c := by
  obtain ⟨σ', e, r, f⟩ := t_cbecome (cos' hj) (cos hj) (by omega) hl (h j hj)
  rw [blX9_image_13, if_neg (show ¬ (4 : Int32) ≤ nI j from nI_ge (b := 4) hj (by decide)), oc c8, rf0_4, x103' hj, oc c8, rf0_3, x103 hj, cl j (by omega), cor hj, cor' hj, oc (cos' hj), e, rV, nI_1]
  exact ⟨σ', rfl, r, f⟩
theorem c_given {l : Nat → List Lg} {σ : Mem} {j : Nat} (hj : j < 4) (hl : (l j).length ≤ 6) (h : ∀ c, c < 4 → repCo (131 + 6 * c) (l c) σ) : ∃ σ', am_go CX9_back 23 [.ref 0, .int (nI j)] [] σ = am_go CX9_back 23 [.ref 0, .int (nI (j + 1))] [] σ' ∧ repCo (128 + 6 * j) (l j) σ' ∧ ∀ c, ¬ (128 + 6 * j ≤ c ∧ c < 128 + 6 * j + 3) → σ' c = σ c := by
  obtain ⟨σ', e, r, f⟩ := t_cbecome (cos hj) (cos' hj) (by omega) hl (h j hj)
  rw [blX9_back_23, if_neg (show ¬ (4 : Int32) ≤ nI j from nI_ge (b := 4) hj (by decide)), oc c8, rf0_3, x103 hj, oc c8, rf0_4, x103' hj, cl j (by omega), cor hj, cor' hj, oc (cos hj), e, rV, nI_1]
  exact ⟨σ', rfl, r, f⟩
theorem c_image {Z : ZS} {σ : Mem} (hZ : okZ Z) (hC : RC Z σ) : ∃ σ', FX9_image [.ref 0] σ = some (some (.int (nI Z.1.2.2.1.length)), σ') ∧ RC (Z.1, Z.2.1, Z.2.2.1, Z.2.2.2.1, some (Z.1, Z.2.1)) σ' ∧ ∀ a, 160 ≤ a → σ' a = σ a := by
  obtain ⟨σ0, e0, r0, f0⟩ := t_become k29 k1 (by decide) hZ.1.1 hC.1
  have g0 : ∀ c, c < 4 → repCo (128 + 6 * c) (Z.2.1 c) σ0 := fun c hc => (hC.2.1 c hc).fr (fun b hb => f0 b (by omega))
  obtain ⟨σ1, e1, r1, f1⟩ := c_kept (j := 0) (by decide) (hZ.2.1 0 (by decide)).1 g0
  have g1 : ∀ c, c < 4 → repCo (128 + 6 * c) (Z.2.1 c) σ1 := fun c hc => (g0 c hc).fr (fun b hb => f1 b (by omega))
  obtain ⟨σ2, e2, r2, f2⟩ := c_kept (j := 1) (by decide) (hZ.2.1 1 (by decide)).1 g1
  have g2 : ∀ c, c < 4 → repCo (128 + 6 * c) (Z.2.1 c) σ2 := fun c hc => (g1 c hc).fr (fun b hb => f2 b (by omega))
  obtain ⟨σ3, e3, r3, f3⟩ := c_kept (j := 2) (by decide) (hZ.2.1 2 (by decide)).1 g2
  have g3 : ∀ c, c < 4 → repCo (128 + 6 * c) (Z.2.1 c) σ3 := fun c hc => (g2 c hc).fr (fun b hb => f3 b (by omega))
  obtain ⟨σ4, e4, r4, f4⟩ := c_kept (j := 3) (by decide) (hZ.2.1 3 (by decide)).1 g3
  have fA : ∀ a, (a < 29 ∨ (43 ≤ a ∧ a < 131) ∨ 152 ≤ a ∨ (134 ≤ a ∧ a < 137) ∨ (140 ≤ a ∧ a < 143) ∨ (146 ≤ a ∧ a < 149)) → σ4 a = σ a := fun a ha => by rw [f4 a (by omega), f3 a (by omega), f2 a (by omega), f1 a (by omega), f0 a (by omega)]
  refine ⟨setM σ4 0 5 1, ?_, ⟨?_, fun c hc => ?_, ⟨?_, fun i b hb => ?_⟩, fun r hr => ?_, ?_, ?_, fun c hc => ?_⟩, fun a ha => by rw [sM_a (by omega), fA a (by omega)]⟩
  · rw [enX9_image, oc c8, oc c8, rf0_0, rf0_2, oc k29, e0, rV, show am_go CX9_image 13 [.ref 0, .int 0] [] σ0 = _ from e1, e2, e3, e4, blX9_image_13, if_pos (by decide), zr1, oc c8, oc c8, rf0_0, oc k1, sM_a (by decide), fA 1 (by omega), hC.1.2.2.2.1]
  · exact hC.1.fr hZ.1.1.1 (fun a ha => by rw [sM_a (by omega), fA a (by omega)])
  · exact (hC.2.1 c hc).fr (fun a ha => by rw [sM_a (by omega), fA a (by omega)])
  · rw [sM_a (by decide), fA 45 (by omega)]; exact hC.2.2.1.1
  · rw [sM_a (by decide), fA 46 (by omega)]; exact hC.2.2.1.2 i b hb
  · have := hC.2.2.2.1 r hr
    unfold repSc at this ⊢
    rw [sM_a (by omega), sM_a (by omega), fA _ (by omega), fA _ (by omega)]
    exact this
  · exact sM_eq _ _ _ _
  · exact r0.fr hZ.1.1.1 (fun a ha => by rw [sM_a (by omega), f4 a (by omega), f3 a (by omega), f2 a (by omega), f1 a (by omega)])
  · match c, hc with
    | 0, _ => exact r1.fr (fun a ha => by rw [sM_a (by omega), f4 a (by omega), f3 a (by omega), f2 a (by omega)])
    | 1, _ => exact r2.fr (fun a ha => by rw [sM_a (by omega), f4 a (by omega), f3 a (by omega)])
    | 2, _ => exact r3.fr (fun a ha => by rw [sM_a (by omega), f4 a (by omega)])
    | 3, _ => exact r4.fr (fun a ha => by rw [sM_a (by omega)])
theorem c_back {Z : ZS} {S : KS} {C : Cs} {σ : Mem} (hZ : okZ Z) (hC : RC Z σ) (hI : Z.2.2.2.2 = some (S, C)) : ∃ σ', FX9_back [.ref 0] σ = some (some (.int (nI S.2.2.1.length)), σ') ∧ RC (S, C, Z.2.2.1, Z.2.2.2.1, some (S, C)) σ' ∧ ∀ a, 160 ≤ a → σ' a = σ a := by
  have hi := hC.2.2.2.2
  rw [hI] at hi
  obtain ⟨hb, hk, hc4⟩ := hi
  obtain ⟨okS', okC'⟩ := hZ.2.2.2.2 S C hI
  obtain ⟨σ0, e0, r0, f0⟩ := t_become k1 k29 (by decide) okS'.1 hk
  have g0 : ∀ c, c < 4 → repCo (131 + 6 * c) (C c) σ0 := fun c hc => (hc4 c hc).fr (fun b hb => f0 b (by omega))
  obtain ⟨σ1, e1, r1, f1⟩ := c_given (j := 0) (by decide) (okC' 0 (by decide)).1 g0
  have g1 : ∀ c, c < 4 → repCo (131 + 6 * c) (C c) σ1 := fun c hc => (g0 c hc).fr (fun b hb => f1 b (by omega))
  obtain ⟨σ2, e2, r2, f2⟩ := c_given (j := 1) (by decide) (okC' 1 (by decide)).1 g1
  have g2 : ∀ c, c < 4 → repCo (131 + 6 * c) (C c) σ2 := fun c hc => (g1 c hc).fr (fun b hb => f2 b (by omega))
  obtain ⟨σ3, e3, r3, f3⟩ := c_given (j := 2) (by decide) (okC' 2 (by decide)).1 g2
  have g3 : ∀ c, c < 4 → repCo (131 + 6 * c) (C c) σ3 := fun c hc => (g2 c hc).fr (fun b hb => f3 b (by omega))
  obtain ⟨σ4, e4, r4, f4⟩ := c_given (j := 3) (by decide) (okC' 3 (by decide)).1 g3
  have fA : ∀ a, (a < 1 ∨ (15 ≤ a ∧ a < 128) ∨ 149 ≤ a ∨ (131 ≤ a ∧ a < 134) ∨ (137 ≤ a ∧ a < 140) ∨ (143 ≤ a ∧ a < 146)) → σ4 a = σ a := fun a ha => by rw [f4 a (by omega), f3 a (by omega), f2 a (by omega), f1 a (by omega), f0 a (by omega)]
  have rk : repK 1 S σ4 := r0.fr okS'.1.1 (fun a ha => by rw [f4 a (by omega), f3 a (by omega), f2 a (by omega), f1 a (by omega)])
  refine ⟨σ4, ?_, ⟨rk, fun c hc => ?_, ⟨?_, fun i b hb => ?_⟩, fun r hr => ?_, ?_, ?_, fun c hc => ?_⟩, fun a ha => fA a (by omega)⟩
  · rw [enX9_back, oc c8, hb, if_neg (by decide), oc c8, oc c8, rf0_0, rf0_2, oc k1, e0, rV, show am_go CX9_back 23 [.ref 0, .int 0] [] σ0 = _ from e1, e2, e3, e4, blX9_back_23, if_pos (by decide), oc c8, rf0_0, oc k1, rk.2.2.2.1]
  · match c, hc with
    | 0, _ => exact r1.fr (fun a ha => by rw [f4 a (by omega), f3 a (by omega), f2 a (by omega)])
    | 1, _ => exact r2.fr (fun a ha => by rw [f4 a (by omega), f3 a (by omega)])
    | 2, _ => exact r3.fr (fun a ha => by rw [f4 a (by omega)])
    | 3, _ => exact r4
  · rw [fA 45 (by omega)]; exact hC.2.2.1.1
  · rw [fA 46 (by omega)]; exact hC.2.2.1.2 i b hb
  · have := hC.2.2.2.1 r hr
    unfold repSc at this ⊢
    rw [fA _ (by omega), fA _ (by omega)]
    exact this
  · show σ4 0 5 = 1
    rw [fA 0 (by omega)]; exact hb
  · exact hk.fr okS'.1.1 (fun a ha => fA a (by omega))
  · exact (hc4 c hc).fr (fun a ha => fA a (by omega))
