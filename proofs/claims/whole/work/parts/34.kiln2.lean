/-! a whole step of the class's kiln -/
theorem t_gs1s {k z : Nat} {σ : Mem} {H : H3} {m : Nat} (hk : (sh k).1 = 2) (hz : z < 3) (hm : m ≤ 144) (h1 : ∀ z, z < 3 → σ (k + 1) z = at3 H z) (h2 : σ (k + 3) z = nI m) : am_go CX3_goStep 2 [.ref k, .int (nI z), .null, .null] [] σ = am_go CX3_goStep 2 [.ref k, .int (nI (z + 1)), .null, .null] [] (setM (setM σ (k + 5) z (behS H (nI m) (σ (k + 2) z) z)) k 5 (σ k 5 + burnS (σ (k + 2) z))) := by
  rw [blX3_goStep_2, if_neg (show ¬ (3 : Int32) ≤ nI z from nI_ge (b := 3) hz (by decide)), oc hk, oc hk, kr1 hk, x3 (ks2 hk) hz, oc hk, cl z (by omega), t_behind hk hz hm h1 h2, rI, kr7 hk, x3 (ks5 hk) hz, oc hk, oc hk, x3 (ks2 hk) hz, t_burnt, rI, oc hk, sM_a (by omega), sM_a (by omega), nI_1]
theorem t_goStep {k : Nat} {σ : Mem} {S : KS} (hk : (sh k).1 = 2) (hS : okS S) (h : repK k S σ) : ∃ σ', FX3_goStep [.ref k] σ = some (some (.int (stepS S).2), σ') ∧ repK k (stepS S).1 σ' ∧ ∀ a, (a < k ∨ k + 14 ≤ a) → σ' a = σ a := by
  obtain ⟨h1, h2, h3, h4, h5, h6, h7⟩ := h
  obtain ⟨m0, hm0, e0⟩ := massIn_in hS 0
  obtain ⟨m1, hm1, e1⟩ := massIn_in hS 1
  obtain ⟨m2, hm2, e2⟩ := massIn_in hS 2
  rw [enX3_goStep, show (0 : Int32) = nI 0 from rfl, t_gs1s hk (by decide) hm0 h1 ((h3 0 (by decide)).trans e0)]
  rw [t_gs1s hk (by decide) hm1 (H := S.1) (fun z hz => by rw [sM_a (by omega), sM_a (by omega)]; exact h1 z hz) (by rw [sM_a (by omega), sM_a (by omega)]; exact (h3 1 (by decide)).trans e1)]
  rw [t_gs1s hk (by decide) hm2 (H := S.1) (fun z hz => by rw [sM_a (by omega), sM_a (by omega), sM_a (by omega), sM_a (by omega)]; exact h1 z hz) (by rw [sM_a (by omega), sM_a (by omega), sM_a (by omega), sM_a (by omega)]; exact (h3 2 (by decide)).trans e2)]
  rw [← e0, ← e1, ← e2]
  generalize hσ1 : setM (setM (setM (setM (setM (setM σ (k + 5) 0 _) k 5 _) (k + 5) 1 _) k 5 _) (k + 5) 2 _) k 5 _ = σ1
  have q2 : ∀ z, z < 3 → σ (k + 2) z = at3 S.2.1 z := h2
  have p5 : ∀ z, z < 3 → σ1 (k + 5) z = at3 (behH S) z := by
    intro z hz
    rw [behH_at S hz, ← hσ1]
    match z, hz with
    | 0, _ => simp [sM, h2 0 (by decide)]
    | 1, _ => simp [sM, h2 1 (by decide)]
    | 2, _ => simp [sM, h2 2 (by decide)]
  have pk5 : σ1 k 5 = S.2.2.2.1 + burn3 S.2.1 := by
    rw [← hσ1]
    simp [sM, h2 0 (by decide), h2 1 (by decide), h2 2 (by decide), h5, burn3, at3, Int32.add_assoc]
  have pk : ∀ j, j ≠ 5 → σ1 k j = σ k j := by
    intro j hj
    rw [← hσ1]
    simp [sM, hj]
  have pa : ∀ a, a ≠ k → a ≠ k + 5 → σ1 a = σ a := by
    intro a ha hb
    rw [← hσ1]
    simp [setM, ha, hb]
  rw [blX3_goStep_2, if_pos (by decide)]
  obtain ⟨σ2, v2, g1, g2, g3⟩ := t_gs2 hk S.1 (behH S) S.2.2.1 [] σ1 0 .null hS.1 hS.2 (by rw [pk 4 (by decide), h4]; rfl) (fun z hz => by rw [pa _ (by omega) (by omega)]; exact h1 z hz) p5 (fun i d hd => by
    have hi := (List.getElem?_eq_some_iff.mp hd).1
    rw [pa _ (by omega) (by omega)]; exact h7 i d hd)
  rw [List.nil_append] at g1
  rw [show am_go CX3_goStep 52 [.ref k, .int 0, .int 0, .null] [] σ1 = _ from g1]
  obtain ⟨σ3, t1, t2, t3⟩ := t_takeHeats (k := k) (σ := σ2) hk
  rw [blX3_goStep_52, oc hk, g3 k (by omega), pk 4 (by decide), h4, if_pos (Int32.le_refl _), oc hk, t1, rV, oc hk, oc hk]
  refine ⟨_, rfl, ⟨?_, ?_, ?_, ?_, ?_, ?_, ?_⟩, ?_⟩
  · intro z hz
    rw [sM_a (by omega), t2 z hz, g3 _ (by omega)]
    exact p5 z hz
  · intro z hz
    rw [sM_a (by omega), t3 _ (by omega), g3 _ (by omega), pa _ (by omega) (by omega)]
    exact h2 z hz
  · intro z hz
    rw [sM_a (by omega), t3 _ (by omega), g3 _ (by omega), pa _ (by omega) (by omega), h3 z hz]
    exact (goLs_mass z S.1 (behH S) S.2.2.1 0 0).symm
  · rw [sM_i (by decide), t3 _ (by omega), g3 _ (by omega), pk 4 (by decide), h4]
    exact congrArg nI (goLs_len _ _ _ _ _).symm
  · rw [sM_i (by decide), t3 _ (by omega), g3 _ (by omega)]
    exact pk5
  · rw [sM_eq, t3 _ (by omega), g3 _ (by omega), pk 6 (by decide), h6]
    rfl
  · intro i d hd
    have hi := (List.getElem?_eq_some_iff.mp hd).1
    rw [sM_a (by omega), t3 _ (by omega)]
    exact g2 i d (by rw [List.nil_append]; exact hd)
  · intro a ha
    rw [sM_a (by omega), t3 _ (by omega), g3 _ (by omega), pa _ (by omega) (by omega)]
