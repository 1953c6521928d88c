/-! a leg of a plan: the class -/
def lgP : Nat → KS → Option KS
  | 0, S => some S
  | m + 1, S => if (stepS S).2 = 0 then lgP m (stepS S).1 else none
def goP (n : Nat) (S : KS) (s : Nat) : Option KS := lgP n (S.1, (nI s, nI s, nI s), S.2.2)
theorem okT3 {s : Nat} (hs : s < 4) : okT (nI s, nI s, nI s) := fun z hz => by
  match z, hz with
  | 0, _ => exact ⟨s, hs, rfl⟩
  | 1, _ => exact ⟨s, hs, rfl⟩
  | 2, _ => exact ⟨s, hs, rfl⟩
theorem t_g45 {b n : Nat} {x1 x2 : Int32} (hb : (sh b).1 = 2) (hb' : 53 < b) (hn : n ≤ 6) : ∀ (m i : Nat) (S : KS) (σ : Mem), i + m = n → okK S → repK b S σ → σ 53 5 = nI n → ∃ σ', am_go CX5_goLeg 45 [.ref 53, .int x1, .int x2, .ref b, .int (nI i)] [] σ = some (some (.int (if (lgP m S).isSome = true then 1 else 0)), σ') ∧ (∀ S', lgP m S = some S' → okK S' ∧ repK b S' σ') ∧ ∀ a, (a < b ∨ b + 14 ≤ a) → σ' a = σ a := by
  intro m
  have o53 : (sh 53).1 = 4 := by rw [sh53]
  induction m with
  | zero =>
    intro i S σ hi hS h h5
    have : i = n := by omega
    subst this
    rw [blX5_goLeg_45, oc o53, h5, if_pos (Int32.le_refl _), zr1]
    exact ⟨σ, rfl, fun S' e => by cases e; exact ⟨hS, h⟩, fun _ _ => rfl⟩
  | succ m ih =>
    intro i S σ hi hS h h5
    obtain ⟨σ1, e1, r1, f1⟩ := t_goStep hb hS.1 h
    rw [blX5_goLeg_45, oc o53, h5, if_neg (nI_ge (by omega) (by omega)), oc hb, e1, rI, nI_1, lgP]
    by_cases hz : (stepS S).2 = 0
    · rw [if_pos hz, if_pos hz]
      obtain ⟨σ2, e2, r2, f2⟩ := ih (i + 1) (stepS S).1 σ1 (by omega) hS.step r1 (by rw [f1 53 (by omega)]; exact h5)
      exact ⟨σ2, e2, r2, fun a ha => by rw [f2 a ha, f1 a ha]⟩
    · rw [if_neg hz, if_neg hz, zr0]
      exact ⟨σ1, rfl, fun S' e => (by cases e), f1⟩
theorem pkr {d : Nat} (hd : d < 5) : rf 54 d = 57 + 14 * d := (pk_all d hd).1
theorem pks {d : Nat} (hd : d < 5) : (sh (57 + 14 * d)).1 = 2 := (pk_all d hd).2
theorem x105 {α : Type} {d : Nat} {k : Option α} (hd : d < 5) : o_ix 105 54 (nI d) k = k := ox (by rw [sh54]) (by rw [sh54]; exact hd)
theorem t_goLeg {d n s : Nat} {S : KS} {σ : Mem} (hd : d < 4) (hs : s < 4) (hn : n ≤ 6) (hS : okK S) (h : repK (57 + 14 * d) S σ) (h5 : σ 53 5 = nI n) : ∃ σ', FX5_goLeg [.ref 53, .int (nI d), .int (nI s)] σ = some (some (.int (if (goP n S s).isSome = true then 1 else 0)), σ') ∧ (∀ S', goP n S s = some S' → okK S' ∧ repK (57 + 14 * (d + 1)) S' σ') ∧ ∀ a, (a < 57 + 14 * (d + 1) ∨ 57 + 14 * (d + 1) + 14 ≤ a) → σ' a = σ a := by
  have o53 : (sh 53).1 = 4 := by rw [sh53]
  have hk := pks (d := d + 1) (by omega)
  obtain ⟨σ1, e1, r1, f1⟩ := t_become hk (pks (d := d) (by omega)) (by omega) hS.1 h
  have st : ∀ (z : Nat) (τ : Mem), z < 3 → am_go CX5_goLeg 22 [.ref 53, .int (nI d), .int (nI s), .ref (57 + 14 * (d + 1)), .int (nI z)] [] τ = am_go CX5_goLeg 22 [.ref 53, .int (nI d), .int (nI s), .ref (57 + 14 * (d + 1)), .int (nI (z + 1))] [] (setM τ (57 + 14 * (d + 1) + 2) z (nI s)) := by
    intro z τ hz
    rw [blX5_goLeg_22, if_neg (show ¬ (3 : Int32) ≤ nI z from nI_ge (b := 3) hz (by decide)), oc hk, kr1 hk, x3 (ks2 hk) hz, cl z (by omega), nI_1]
  have r2 := rep3 (a := nI s) (b := nI s) (c := nI s) r1
  obtain ⟨σ3, e3, r3, f3⟩ := t_g45 (x1 := nI d) (x2 := nI s) hk (by omega) hn n 0 (S.1, (nI s, nI s, nI s), S.2.2) _ (by omega) ⟨hS.1, okT3 hs⟩ r2 (by rw [sM_a (by omega), sM_a (by omega), sM_a (by omega), f1 53 (by omega)]; exact h5)
  refine ⟨σ3, ?_, r3, fun a ha => by rw [f3 a ha, sM_a (by omega), sM_a (by omega), sM_a (by omega), f1 a ha]⟩
  rw [enX5_goLeg, nI_1, oc o53, rf53_0, x105 (by omega), oc o53, x105 (by omega), cl (d + 1) (by omega), cl d (by omega), pkr (by omega), pkr (by omega), oc hk, e1, rV, show am_go CX5_goLeg 22 [.ref 53, .int (nI d), .int (nI s), .ref (57 + 14 * (d + 1)), .int 0] [] σ1 = _ from st 0 σ1 (by decide), st 1 _ (by decide), st 2 _ (by decide), blX5_goLeg_22, if_pos (by decide)]
  exact e3
