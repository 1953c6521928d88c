/-! which loads became spoiled: a number below 2 ^ count; the lowest bit -/
theorem bit_or : ∀ i : Fin 8, ∀ m : Fin 256, nI m.val ||| ((1 : Int32) <<< (nI i.val &&& 31)) = nI (m.val ||| 2 ^ i.val) := by decide +kernel
theorem bit_at : ∀ i : Fin 8, ∀ m : Fin 256, ((nI m.val >>> (nI i.val &&& 31)) &&& (1 : Int32)) = if m.val.testBit i.val = true then 1 else 0 := by decide +kernel
theorem goLs_bits (H B : H3) : ∀ (L : List Ld) (i m : Nat), i + L.length ≤ 8 → m < 2 ^ i → ∃ m', m' < 2 ^ (i + L.length) ∧ (goLs H B L i (nI m)).2 = nI m' := by
  intro L
  induction L with
  | nil => intro i m _ hm; exact ⟨m, hm, rfl⟩
  | cons d L ih =>
    intro i m hl hm
    rw [List.length_cons] at hl
    have h8 : 2 ^ i ≤ 2 ^ 8 := Nat.pow_le_pow_right (by decide) (by omega)
    have hup : 2 ^ i < 2 ^ (i + 1) := Nat.pow_lt_pow_right (by decide) (by omega)
    rw [goLs]
    by_cases hu : (underS d (at3 H d.2.2.1.toNatClampNeg) (at3 B d.2.2.1.toNatClampNeg)).2 = true
    · rw [if_pos hu, bit_or ⟨i, by omega⟩ ⟨m, by omega⟩]
      obtain ⟨m', h1, h2⟩ := ih (i + 1) (m ||| 2 ^ i) (by omega) (Nat.or_lt_two_pow (by omega) hup)
      exact ⟨m', by rw [List.length_cons, show i + (L.length + 1) = i + 1 + L.length by omega]; exact h1, h2⟩
    · rw [if_neg hu]
      obtain ⟨m', h1, h2⟩ := ih (i + 1) m (by omega) (by omega)
      exact ⟨m', by rw [List.length_cons, show i + (L.length + 1) = i + 1 + L.length by omega]; exact h1, h2⟩
theorem step_bits {S : KS} (hS : okS S) : ∃ m, m < 2 ^ S.2.2.1.length ∧ (stepS S).2 = nI m := by
  obtain ⟨m, h1, h2⟩ := goLs_bits S.1 (behH S) S.2.2.1 0 0 (by have := hS.1; omega) (by decide)
  rw [Nat.zero_add] at h1
  exact ⟨m, h1, h2⟩
def lowF (m : Nat) : Nat → Nat → Int32
  | 0, _ => -1
  | f + 1, i => if m.testBit i = true then nI i else lowF m f (i + 1)
theorem t_low {m : Nat} {σ : Mem} (hm : m < 256) : ∀ f i, i + f = 8 → am_go CX2_lowestBit 2 [.int (nI m), .int (nI i)] [] σ = some (some (.int (lowF m f i)), σ) := by
  intro f
  induction f with
  | zero => intro i hi; have : i = 8 := by omega
            subst this; rw [blX2_lowestBit_2, if_pos (by decide), lowF]
  | succ f ih =>
    intro i hi
    rw [blX2_lowestBit_2, if_neg (show ¬ (8 : Int32) ≤ nI i from nI_ge (b := 8) (by omega) (by decide)), bit_at ⟨i, by omega⟩ ⟨m, hm⟩, lowF, nI_1]
    by_cases hb : m.testBit i = true
    · rw [if_pos hb, if_neg (by decide), if_pos hb]
    · rw [if_neg hb, if_pos rfl, if_neg hb]; exact ih (i + 1) (by omega)
theorem m_low {m n : Nat} {σ : Mem} (hm : m < 256) (hn : n ≤ 8) (h2 : σ 160 2 = nI n) (h37 : σ 160 37 = nI m) : ∀ f i, i + f = n → am_go CX10_firstLoad 2 [.ref 160, .int (nI i)] [] σ = some (some (.int (lowF m f i)), σ) := by
  intro f
  induction f with
  | zero => intro i hi; have : i = n := by omega
            subst this; rw [blX10_firstLoad_2, oc m9, h2, if_pos (Int32.le_refl _), lowF]
  | succ f ih =>
    intro i hi
    rw [blX10_firstLoad_2, oc m9, h2, if_neg (nI_ge (by omega) (by omega)), oc m9, h37, bit_at ⟨i, by omega⟩ ⟨m, hm⟩, lowF, nI_1]
    by_cases hb : m.testBit i = true
    · rw [if_pos hb, if_pos rfl, if_pos hb]
    · rw [if_neg hb, if_neg (by decide), if_neg hb]; exact ih (i + 1) (by omega)
theorem low_none {m : Nat} : ∀ f i, m < 2 ^ i → lowF m f i = -1 := by
  intro f
  induction f with
  | zero => intro i _; rfl
  | succ f ih =>
    intro i hi
    rw [lowF, if_neg (by rw [Nat.testBit_lt_two_pow hi]; decide)]
    exact ih (i + 1) (Nat.lt_trans hi (Nat.pow_lt_pow_right (by decide) (by omega)))
theorem low_ext {m : Nat} : ∀ f g i, m < 2 ^ (i + f) → lowF m (f + g) i = lowF m f i := by
  intro f
  induction f with
  | zero => intro g i hi; rw [Nat.zero_add, low_none g i hi]; rfl
  | succ f ih =>
    intro g i hi
    rw [show f + 1 + g = (f + g) + 1 by omega, lowF, lowF]
    by_cases hb : m.testBit i = true
    · rw [if_pos hb, if_pos hb]
    · rw [if_neg hb, if_neg hb]
      exact ih g (i + 1) (by rw [show i + 1 + f = i + (f + 1) by omega]; exact hi)
theorem low_in {m n : Nat} (hm : m < 2 ^ n) (h0 : m ≠ 0) : ∃ i, i < n ∧ lowF m n 0 = nI i := by
  have key : ∀ f i, (∃ j, i ≤ j ∧ j < i + f ∧ m.testBit j = true) → ∃ k, k < i + f ∧ lowF m f i = nI k := by
    intro f
    induction f with
    | zero => intro i ⟨j, h1, h2, _⟩; omega
    | succ f ih =>
      intro i ⟨j, h1, h2, h3⟩
      rw [lowF]
      by_cases hb : m.testBit i = true
      · rw [if_pos hb]; exact ⟨i, by omega, rfl⟩
      · rw [if_neg hb]
        have : j ≠ i := fun e => hb (by rw [← e]; exact h3)
        obtain ⟨k, hk, e⟩ := ih (i + 1) ⟨j, by omega, by omega, h3⟩
        exact ⟨k, by omega, e⟩
  obtain ⟨j, hj⟩ := Nat.exists_testBit_of_ne_zero h0
  have hjn : j < n := by
    apply Classical.byContradiction
    intro hn
    have : m < 2 ^ j := Nat.lt_of_lt_of_le hm (Nat.pow_le_pow_right (by decide) (by omega))
    rw [Nat.testBit_lt_two_pow this] at hj
    cases hj
  obtain ⟨k, hk, e⟩ := key n 0 ⟨j, by omega, by omega, hj⟩
  exact ⟨k, by omega, e⟩
