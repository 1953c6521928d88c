theorem bh_in (S : KS) (z s : Nat) : ∃ j : Nat, j ≤ 1300 ∧ bhS S z s = nI j := by
  unfold bhS behS
  match z with
  | 0 => exact cl_in _
  | 1 => exact cl_in _
  | _ + 2 => exact cl_in _
def okZS (S : KS) (z s : Nat) : Prop := bearS S z (bhS S z s) = true
def bestS (S : KS) (z n s : Nat) : Prop := s < n ∧ okZS S z s ∧ ∀ q, q < n → okZS S z q → bhS S z q < bhS S z s ∨ (bhS S z q = bhS S z s ∧ s ≤ q)
theorem car_inv (S : KS) (z : Nat) : ∀ (m s : Nat) (b x : Int32), s + m = 4 → ((b = -1 ∧ x = -1 ∧ ∀ q, q < s → ¬ okZS S z q) ∨ ∃ w, b = nI w ∧ x = bhS S z w ∧ bestS S z s w) → (carG S z m s b x = -1 ∧ ∀ q, q < 4 → ¬ okZS S z q) ∨ ∃ w, carG S z m s b x = nI w ∧ bestS S z 4 w := by
  intro m
  induction m with
  | zero =>
    intro s b x hs hi
    have : s = 4 := by omega
    subst this
    rcases hi with ⟨h1, -, h3⟩ | ⟨w, h1, -, h3⟩
    · exact Or.inl ⟨h1, h3⟩
    · exact Or.inr ⟨w, h1, h3⟩
  | succ m ih =>
    intro s b x hs hi
    obtain ⟨j, hj, ej⟩ := bh_in S z s
    rw [carG]
    by_cases h1 : bhS S z s ≤ x
    · rw [if_pos h1]
      refine ih (s + 1) b x (by omega) ?_
      rcases hi with ⟨a1, a2, a3⟩ | ⟨w, a1, a2, a3, a4, a5⟩
      · rw [a2, ej] at h1
        exact absurd (Int32.le_trans (nI_pos' (n := j) (by omega)) h1) (by decide)
      · refine Or.inr ⟨w, a1, a2, by omega, a4, fun q hq hoq => ?_⟩
        by_cases hqs : q = s
        · subst hqs
          rw [a2] at h1
          by_cases he : bhS S z q = bhS S z w
          · exact Or.inr ⟨he, by omega⟩
          · exact Or.inl (Int32.lt_of_le_of_ne h1 he)
        · exact a5 q (by omega) hoq
    · rw [if_neg h1]
      by_cases h2 : bearS S z (bhS S z s) = true
      · rw [if_pos h2]
        refine ih (s + 1) (nI s) (bhS S z s) (by omega) (Or.inr ⟨s, rfl, rfl, by omega, h2, fun q hq hoq => ?_⟩)
        by_cases hqs : q = s
        · subst hqs; exact Or.inr ⟨rfl, Nat.le_refl _⟩
        · rcases hi with ⟨a1, a2, a3⟩ | ⟨w, a1, a2, a3, a4, a5⟩
          · exact absurd hoq (a3 q (by omega))
          · have hlt : bhS S z w < bhS S z s := by rw [← a2]; exact Int32.not_le.mp h1
            rcases a5 q (by omega) hoq with hw | ⟨hw, -⟩
            · exact Or.inl (Int32.lt_trans hw hlt)
            · exact Or.inl (by rw [hw]; exact hlt)
      · rw [if_neg h2]
        refine ih (s + 1) b x (by omega) ?_
        rcases hi with ⟨a1, a2, a3⟩ | ⟨w, a1, a2, a3, a4, a5⟩
        · refine Or.inl ⟨a1, a2, fun q hq => ?_⟩
          by_cases hqs : q = s
          · subst hqs; exact h2
          · exact a3 q (by omega)
        · refine Or.inr ⟨w, a1, a2, by omega, a4, fun q hq hoq => ?_⟩
          by_cases hqs : q = s
          · subst hqs; exact absurd hoq h2
          · exact a5 q (by omega) hoq
theorem car_best (S : KS) (z : Nat) : (carS S z = -1 ∧ ∀ q, q < 4 → ¬ okZS S z q) ∨ ∃ w, carS S z = nI w ∧ bestS S z 4 w := car_inv S z 4 0 (-1) (-1) rfl (Or.inl ⟨rfl, rfl, fun q hq => absurd hq (Nat.not_lt_zero q)⟩)
/-! a step by a code has no trouble where all zones bear -/
def atC (S : KS) (c : Nat) : KS := (S.1, digT c, S.2.2)
def dgt (c z : Nat) : Nat := if z = 0 then c / 16 else if z = 1 then c / 4 % 4 else c % 4
theorem dgt_lt {c z : Nat} (hc : c < 64) : dgt c z < 4 := by
  unfold dgt
  split
  · omega
  · split <;> omega
theorem at_dig {c z : Nat} (hz : z < 3) : at3 (digT c) z = nI (dgt c z) := by
  match z, hz with
  | 0, _ => rfl
  | 1, _ => rfl
  | 2, _ => rfl
theorem beh_c {S : KS} {c z : Nat} (hz : z < 3) : at3 (behH (atC S c)) z = bhS S z (dgt c z) := by
  rw [behH_at _ hz]
  unfold bhS
  rw [← at_dig hz]
  rfl
theorem goLs_zero (H B : H3) : ∀ (L : List Ld) (i m : Nat), i + L.length ≤ 8 → m < 2 ^ i → ((goLs H B L i (nI m)).2 = 0 ↔ (m = 0 ∧ ∀ d ∈ L, (underS d (at3 H d.2.2.1.toNatClampNeg) (at3 B d.2.2.1.toNatClampNeg)).2 = false)) := by
  intro L
  induction L with
  | nil =>
    intro i m hl hm
    have h8 : 2 ^ i ≤ 2 ^ 8 := Nat.pow_le_pow_right (by decide) (by simpa using hl)
    show nI m = 0 ↔ _
    rw [nI_z (by omega)]
    exact ⟨fun h => ⟨h, fun d hd => by cases hd⟩, fun h => h.1⟩
  | cons d L ih =>
    intro i m hl hm
    rw [List.length_cons] at hl
    have h8 : 2 ^ i ≤ 2 ^ 8 := Nat.pow_le_pow_right (by decide) (by omega)
    have hup : 2 ^ i < 2 ^ (i + 1) := Nat.pow_lt_pow_right (by decide) (by omega)
    rw [goLs]
    by_cases hu : (underS d (at3 H d.2.2.1.toNatClampNeg) (at3 B d.2.2.1.toNatClampNeg)).2 = true
    · rw [if_pos hu, bit_or ⟨i, by omega⟩ ⟨m, by omega⟩]
      show (goLs H B L (i + 1) (nI (m ||| 2 ^ i))).2 = 0 ↔ _
      rw [ih (i + 1) (m ||| 2 ^ i) (by omega) (Nat.or_lt_two_pow (by omega) hup)]
      constructor
      · intro h
        have h1 : 2 ^ i ≤ m ||| 2 ^ i := Nat.right_le_or
        have h2 : 0 < 2 ^ i := Nat.pow_pos (by decide)
        omega
      · intro h
        have := h.2 d (List.mem_cons_self ..)
        rw [hu] at this
        cases this
    · rw [if_neg hu]
      show (goLs H B L (i + 1) (nI m)).2 = 0 ↔ _
      rw [ih (i + 1) m (by omega) (by omega)]
      have huf : (underS d (at3 H d.2.2.1.toNatClampNeg) (at3 B d.2.2.1.toNatClampNeg)).2 = false := by
        cases hq : (underS d (at3 H d.2.2.1.toNatClampNeg) (at3 B d.2.2.1.toNatClampNeg)).2 with
        | true => exact absurd hq hu
        | false => rfl
      constructor
      · intro h
        exact ⟨h.1, fun q hq => by
          rcases List.mem_cons.mp hq with rfl | hq
          · exact huf
          · exact h.2 q hq⟩
      · intro h
        exact ⟨h.1, fun q hq => h.2 q (List.mem_cons_of_mem _ hq)⟩
