/-! careful -/
theorem war_in (S : KS) : warS S = -1 ∨ ∃ c, c < 64 ∧ warS S = nI c := by
  unfold warS
  rcases car_best S 0 with ⟨h0, -⟩ | ⟨s0, e0, b0⟩
  · rw [if_pos h0]; exact Or.inl rfl
  have l0 : s0 < 4 := b0.1
  rw [e0, if_neg (nI_m1 (by omega))]
  rcases car_best S 1 with ⟨h1, -⟩ | ⟨s1, e1, b1⟩
  · rw [if_pos h1]; exact Or.inl rfl
  have l1 : s1 < 4 := b1.1
  rw [e1, if_neg (nI_m1 (by omega))]
  rcases car_best S 2 with ⟨h2, -⟩ | ⟨s2, e2, b2⟩
  · rw [if_pos h2]; exact Or.inl rfl
  have l2 : s2 < 4 := b2.1
  rw [e2, if_neg (nI_m1 (by omega))]
  have : ∀ a : Fin 4, ∀ b : Fin 4, ∀ c : Fin 4, ((0 * 4 + nI a.val) * 4 + nI b.val) * 4 + nI c.val = nI (16 * a.val + 4 * b.val + c.val) := by decide +kernel
  exact Or.inr ⟨16 * s0 + 4 * s1 + s2, by omega, this ⟨s0, l0⟩ ⟨s1, l1⟩ ⟨s2, l2⟩⟩
def cuS (S : KS) : Nat := (if (0 : Int32) < warS S then warS S else 0).toNatClampNeg
theorem cu_in (S : KS) : cuS S < 64 ∧ (if (0 : Int32) < warS S then warS S else 0) = nI (cuS S) := by
  have key : ∃ c, c < 64 ∧ (if (0 : Int32) < warS S then warS S else 0) = nI c := by
    rcases war_in S with h | ⟨c, hc, h⟩
    · rw [h, if_neg (by decide)]; exact ⟨0, by decide, rfl⟩
    · rw [h]
      by_cases hp : (0 : Int32) < nI c
      · rw [if_pos hp]; exact ⟨c, hc, rfl⟩
      · rw [if_neg hp]; exact ⟨0, by decide, rfl⟩
  obtain ⟨c, hc, e⟩ := key
  unfold cuS
  rw [e, cl c (by omega)]
  exact ⟨hc, rfl⟩
def cauS : Nat → KS → KS
  | 0, S => S
  | m + 1, S => cauS m (stepS (atC S (cuS S))).1
theorem okK.atC {S : KS} {c : Nat} (h : okK S) (hc : c < 64) : okK (atC S c) := ⟨h.1, digT_ok hc⟩
def cauR (S0 S : KS) (w : Int32) : Int32 := if w = 0 then S.2.2.2.1 - S0.2.2.2.1 else if w = 1 then doneS S else if w = 2 then spdS S else if w = 6 then (16 : Int32) * at3 S.2.1 0 + (4 : Int32) * at3 S.2.1 1 + at3 S.2.1 2 else at3 S.1 (w - 3).toNatClampNeg
theorem t_code {k : Nat} {S : KS} {σ : Mem} (hk : (sh k).1 = 2) (hS : okT S.2.1) (h : repK k S σ) : FX3_code [.ref k] σ = some (some (.int ((16 : Int32) * at3 S.2.1 0 + (4 : Int32) * at3 S.2.1 1 + at3 S.2.1 2)), σ) := by
  obtain ⟨a, ha, ea⟩ := hS 0 (by decide)
  obtain ⟨b, hb, eb⟩ := hS 1 (by decide)
  obtain ⟨c, hc, ec⟩ := hS 2 (by decide)
  have st : ∀ (z : Nat) (x : Int32), z < 3 → am_go CX3_code 4 [.ref k, .int x, .int (nI z)] [] σ = am_go CX3_code 4 [.ref k, .int (x * 4 + at3 S.2.1 z), .int (nI (z + 1))] [] σ := by
    intro z x hz
    rw [blX3_code_4, if_neg (show ¬ (3 : Int32) ≤ nI z from nI_ge (b := 3) hz (by decide)), oc hk, kr1 hk, x3 (ks2 hk) hz, cl z (by omega), h.2.1 z hz, nI_1]
  rw [enX3_code, show am_go CX3_code 4 [.ref k, .int 0, .int 0] [] σ = am_go CX3_code 4 [.ref k, .int 0, .int (nI 0)] [] σ from rfl, st 0 _ (by decide), st 1 _ (by decide), st 2 _ (by decide), blX3_code_4, if_pos (by decide), ea, eb, ec]
  have : ∀ a : Fin 4, ∀ b : Fin 4, ∀ c : Fin 4, ((0 * 4 + nI a.val) * 4 + nI b.val) * 4 + nI c.val = (16 : Int32) * nI a.val + (4 : Int32) * nI b.val + nI c.val := by decide +kernel
  rw [this ⟨a, ha⟩ ⟨b, hb⟩ ⟨c, hc⟩]
theorem rest6 {w : Int32} (h : 0 ≤ w ∧ w ≤ 6) (h0 : w ≠ 0) (h1 : w ≠ 1) (h2 : w ≠ 2) (h6 : w ≠ 6) : (w = 3 ∨ w = 4 ∨ w = 5) ∧ ∃ z, z < 3 ∧ w - 3 = nI z := by
  obtain ⟨n, -, hn, rfl⟩ := n_of (n := 0) (m := 6) rfl rfl (by decide) (by decide) h
  have q : n ≠ 0 ∧ n ≠ 1 ∧ n ≠ 2 ∧ n ≠ 6 := ⟨fun e => h0 (by rw [e]; rfl), fun e => h1 (by rw [e]; rfl), fun e => h2 (by rw [e]; rfl), fun e => h6 (by rw [e]; rfl)⟩
  refine ⟨?_, n - 3, by omega, pk_sub (a := n) (b := 3) (by omega)⟩
  have : n = 3 ∨ n = 4 ∨ n = 5 := by omega
  rcases this with e | e | e
  · exact Or.inl (by rw [e]; rfl)
  · exact Or.inr (Or.inl (by rw [e]; rfl))
  · exact Or.inr (Or.inr (by rw [e]; rfl))
theorem t_ca {S0 : KS} {n : Nat} {w : Int32} (hn : n ≤ 30) (hw : 0 ≤ w ∧ w ≤ 6) (h0 : okK S0) : ∀ (m j : Nat) (S : KS) (σ : Mem), j + m = n → okK S → repK 15 S σ → repK 1 S0 σ → ∃ σ', am_go CX9_careful 36 [.ref 0, .int (nI n), .int w, .int (nI j)] [] σ = some (some (.int (cauR S0 (cauS m S) w)), σ') ∧ ∀ a, (a < 15 ∨ 15 + 14 ≤ a) → σ' a = σ a := by
  intro m
  induction m with
  | zero =>
    intro j S σ hj hS h hk
    have : j = n := by omega
    subst this
    refine ⟨σ, ?_, fun _ _ => rfl⟩
    rw [blX9_careful_36, if_pos (Int32.le_refl _), cauS]
    unfold cauR
    by_cases w0 : w = 0
    · rw [if_pos w0, if_pos w0, oc c8, rf0_1, oc k15, oc c8, rf0_0, oc k1, h.2.2.2.2.1, hk.2.2.2.2.1]
    rw [if_neg w0, if_neg w0]
    by_cases w1 : w = 1
    · rw [if_pos w1, if_pos w1, oc c8, rf0_1, oc k15, t_done k15 hS.1 h, rI]
    rw [if_neg w1, if_neg w1]
    by_cases w2 : w = 2
    · rw [if_pos w2, if_pos w2, oc c8, rf0_1, oc k15, t_spd k15 hS.1 h, rI]
    rw [if_neg w2, if_neg w2]
    by_cases w6 : w = 6
    · rw [if_neg (show ¬ w = 3 by rw [w6]; decide), if_neg (show ¬ w = 4 by rw [w6]; decide), if_neg (show ¬ w = 5 by rw [w6]; decide), if_pos w6, if_pos w6, oc c8, rf0_1, oc k15, t_code k15 hS.2 h, rI]
    · rw [if_neg w6, if_neg w6]
      obtain ⟨hc, z, hz, ez⟩ := rest6 hw w0 w1 w2 w6
      rw [ez, oc c8, rf0_1, oc k15, kr0 k15, x3 (ks1 k15) hz, cl z (by omega), h.1 z hz]
      split
      · rfl
      · split
        · rfl
        · split <;> rfl
  | succ m ih =>
    intro j S σ hj hS h hk
    obtain ⟨hcu, ecu⟩ := cu_in S
    obtain ⟨σ1, e1, r1, f1⟩ := t_setCode k15 hcu h
    obtain ⟨σ2, e2, r2, f2⟩ := t_goStep k15 (hS.atC hcu).1 r1
    have fA : ∀ a, (a < 15 ∨ 15 + 14 ≤ a) → σ2 a = σ a := fun a ha => by rw [f2 a ha, f1 a ha]
    obtain ⟨σ3, e3, f3⟩ := ih (j + 1) (stepS (atC S (cuS S))).1 σ2 (by omega) (hS.atC hcu).step r2 (hk.fr h0.1.1 (fun a ha => fA a (by omega)))
    refine ⟨σ3, ?_, fun a ha => by rw [f3 a ha, fA a ha]⟩
    rw [blX9_careful_36, if_neg (nI_ge (by omega) (by omega)), oc c8, rf0_1, oc k15, enX3_goCarefulStep, oc k15, t_war k15 hS.1 h, rI, oc k15, ecu, e1, rV, oc k15, e2, rI, rV, nI_1, e3, cauS]
