/-! a leg of a plan: the class -/
def lgP : Nat → KS → Option KS
  | 0, S => some S
  | m + 1, S => if (stepS S).2 = 0 then lgP m (stepS S).1 else none
def goP (n : Nat) (S : KS) (s : Nat) : Option KS := lgP n (S.1, (nI s, nI s, nI s), S.2.2)
theorem okT3 {s : Nat} (hs : s < 4) : okT (nI s, nI s, nI s) := fun z hz => by
  match z, hz with
  | 0, _ => exact ⟨s, hs, rfl⟩
  | 1, _ => exact ⟨s, hs, rfl⟩
  | 2, _ => exact ⟨s, hs, rfl⟩
theorem t_g45 {b n : Nat} {x1 x2 : Int32} (hb : (sh b).1 = 2) (hb' : 53 < b) (hn : n ≤ 6) : ∀ (m i : Nat) (S : KS) (σ : Mem), i + m = n → okK S → repK b S σ → σ 53 5 = nI n → ∃ σ', am_go CX5_goLeg 45 [.ref 53, .int x1, .int x2, .ref b, .int (nI i)] [] σ = some (some (.int (if (lgP m S).isSome = true then 1 else 0)), σ') ∧ (∀ S', lgP m S = some S' → okK S' ∧ repK b S' σ') ∧ ∀ a, (a < b ∨ b + 14 ≤ a) → σ' a = σ a := by
  intro m
  have o53 : (sh 53).1 = 4 := by rw [sh53]
  induction m with
  | zero =>
    intro i S σ hi hS h h5
    have : i = n := by omega
    subst this
    rw [blX5_goLeg_45, oc o53, h5, if_pos (Int32.le_refl _), zr1]
    exact ⟨σ, rfl, fun S' e => by cases e; exact ⟨hS, h⟩, fun _ _ => rfl⟩
  | succ m ih =>
    intro i S σ hi hS h h5
    obtain ⟨σ1, e1, r1, f1⟩ := t_goStep hb hS.1 h
    rw [blX5_goLeg_45, oc o53, h5, if_neg (nI_ge (by omega) (by omega)), oc hb, e1, rI, nI_1, lgP]
    by_cases hz : (stepS S).2 = 0
    · rw [if_pos hz, if_pos hz]
      obtain ⟨σ2, e2, r2, f2⟩ := ih (i + 1) (stepS S).1 σ1 (by omega) hS.step r1 (by rw [f1 53 (by omega)]; exact h5)
      exact ⟨σ2, e2, r2, fun a ha => by rw [f2 a ha, f1 a ha]⟩
    · rw [if_neg hz, if_neg hz, zr0]
      exact ⟨σ1, rfl, fun S' e => by cases e, f1⟩
