def itM (f : Nat → Mem → Mem) : Nat → Nat → Mem → Mem
  | 0, _, σ => σ
  | m + 1, j, σ => itM f m (j + 1) (f j σ)
theorem it_lp {C : Nat → am_I Mem} {pc n : Nat} {L : Nat → List Value} {f : Nat → Mem → Mem} (st : ∀ j σ, j < n → am_go C pc (L j) [] σ = am_go C pc (L (j + 1)) [] (f j σ)) : ∀ (m j : Nat) (σ : Mem), j + m = n → am_go C pc (L j) [] σ = am_go C pc (L n) [] (itM f m j σ) := by
  intro m
  induction m with
  | zero => intro j σ hj; have : j = n := by omega
            subst this; rfl
  | succ m ih => intro j σ hj; rw [st j σ (by omega), ih (j + 1) (f j σ) (by omega)]; rfl
def cp1 (a o b p : Nat) (j : Nat) (σ : Mem) : Mem := setM σ a (o + j) (σ b (p + j))
theorem cp1_it {a o b p : Nat} (hab : b ≠ a) : ∀ (m j : Nat) (σ : Mem), (∀ i, j ≤ i → i < j + m → itM (cp1 a o b p) m j σ a (o + i) = σ b (p + i)) ∧ (∀ i, (i < o + j ∨ o + j + m ≤ i) → itM (cp1 a o b p) m j σ a i = σ a i) ∧ ∀ c, c ≠ a → itM (cp1 a o b p) m j σ c = σ c := by
  intro m
  induction m with
  | zero => intro j σ; exact ⟨fun i h1 h2 => by omega, fun _ _ => rfl, fun _ _ => rfl⟩
  | succ m ih =>
    intro j σ
    obtain ⟨h1, h2, h3⟩ := ih (j + 1) (cp1 a o b p j σ)
    refine ⟨fun i h4 h5 => ?_, fun i hi => ?_, fun c hc => ?_⟩
    · show itM (cp1 a o b p) m (j + 1) (cp1 a o b p j σ) a (o + i) = _
      by_cases hij : i = j
      · subst hij
        rw [h2 (o + i) (by omega)]
        exact sM_eq _ _ _ _
      · rw [h1 i (by omega) (by omega)]
        unfold cp1
        rw [sM_a hab]
    · show itM (cp1 a o b p) m (j + 1) (cp1 a o b p j σ) a i = _
      rw [h2 i (by omega)]
      unfold cp1
      rw [sM_i (by omega)]
    · show itM (cp1 a o b p) m (j + 1) (cp1 a o b p j σ) c = _
      rw [h3 c hc]
      unfold cp1
      rw [sM_a hc]
def im2 (j : Nat) (σ : Mem) : Mem := setM (setM σ 184 j (σ 161 j)) 184 (3 + j) (σ 162 j)
def im5 (j : Nat) (σ : Mem) : Mem := setM (setM (setM (setM (setM σ 184 (6 + j) (σ 163 j)) 184 (14 + j) (σ 164 j)) 184 (22 + j) (σ 165 j)) 184 (30 + j) (σ 166 j)) 184 (38 + j) (σ 167 j)
theorem im2_it : ∀ (m j : Nat) (σ : Mem), j + m = 3 → (∀ i, j ≤ i → i < 3 → itM im2 m j σ 184 i = σ 161 i ∧ itM im2 m j σ 184 (3 + i) = σ 162 i) ∧ (∀ i, i < j → itM im2 m j σ 184 i = σ 184 i ∧ itM im2 m j σ 184 (3 + i) = σ 184 (3 + i)) ∧ (∀ q, 6 ≤ q → itM im2 m j σ 184 q = σ 184 q) ∧ ∀ c, c ≠ 184 → itM im2 m j σ c = σ c := by
  intro m
  induction m with
  | zero => intro j σ hj; exact ⟨fun i h1 h2 => by omega, fun _ _ => ⟨rfl, rfl⟩, fun _ _ => rfl, fun _ _ => rfl⟩
  | succ m ih =>
    intro j σ hj
    obtain ⟨h1, h2, h3, h4⟩ := ih (j + 1) (im2 j σ) (by omega)
    have e : itM im2 (m + 1) j σ = itM im2 m (j + 1) (im2 j σ) := rfl
    rw [e]
    refine ⟨fun i h5 h6 => ?_, fun i hi => ?_, fun q hq => ?_, fun c hc => ?_⟩
    · by_cases hij : i = j
      · subst hij
        rw [(h2 i (by omega)).1, (h2 i (by omega)).2]
        unfold im2
        rw [sM_i (by omega), sM_eq, sM_eq]
        exact ⟨rfl, rfl⟩
      · rw [(h1 i (by omega) h6).1, (h1 i (by omega) h6).2]
        unfold im2
        rw [sM_a (by decide), sM_a (by decide), sM_a (by decide), sM_a (by decide)]
        exact ⟨rfl, rfl⟩
    · rw [(h2 i (by omega)).1, (h2 i (by omega)).2]
      unfold im2
      rw [sM_i (by omega), sM_i (by omega), sM_i (by omega), sM_i (by omega)]
      exact ⟨rfl, rfl⟩
    · rw [h3 q hq]
      unfold im2
      rw [sM_i (by omega), sM_i (by omega)]
    · rw [h4 c hc]
      unfold im2
      rw [sM_a hc, sM_a hc]
theorem im5_hit (j : Nat) (σ : Mem) (hj : j < 8) : im5 j σ 184 (6 + j) = σ 163 j ∧ im5 j σ 184 (14 + j) = σ 164 j ∧ im5 j σ 184 (22 + j) = σ 165 j ∧ im5 j σ 184 (30 + j) = σ 166 j ∧ im5 j σ 184 (38 + j) = σ 167 j := by
  unfold im5
  refine ⟨?_, ?_, ?_, ?_, ?_⟩
  · rw [sM_i (by omega), sM_i (by omega), sM_i (by omega), sM_i (by omega), sM_eq]
  · rw [sM_i (by omega), sM_i (by omega), sM_i (by omega), sM_eq]
  · rw [sM_i (by omega), sM_i (by omega), sM_eq]
  · rw [sM_i (by omega), sM_eq]
  · rw [sM_eq]
theorem im5_miss {j q : Nat} {σ : Mem} (h : q ≠ 6 + j ∧ q ≠ 14 + j ∧ q ≠ 22 + j ∧ q ≠ 30 + j ∧ q ≠ 38 + j) : im5 j σ 184 q = σ 184 q := by
  unfold im5
  rw [sM_i h.2.2.2.2, sM_i h.2.2.2.1, sM_i h.2.2.1, sM_i h.2.1, sM_i h.1]
theorem im5_fr {j c : Nat} {σ : Mem} (h : c ≠ 184) : im5 j σ c = σ c := by
  unfold im5
  rw [sM_a h, sM_a h, sM_a h, sM_a h, sM_a h]
theorem im5_it : ∀ (m j : Nat) (σ : Mem), j + m = 8 → (∀ i, j ≤ i → i < 8 → itM im5 m j σ 184 (6 + i) = σ 163 i ∧ itM im5 m j σ 184 (14 + i) = σ 164 i ∧ itM im5 m j σ 184 (22 + i) = σ 165 i ∧ itM im5 m j σ 184 (30 + i) = σ 166 i ∧ itM im5 m j σ 184 (38 + i) = σ 167 i) ∧ (∀ i, i < j → itM im5 m j σ 184 (6 + i) = σ 184 (6 + i) ∧ itM im5 m j σ 184 (14 + i) = σ 184 (14 + i) ∧ itM im5 m j σ 184 (22 + i) = σ 184 (22 + i) ∧ itM im5 m j σ 184 (30 + i) = σ 184 (30 + i) ∧ itM im5 m j σ 184 (38 + i) = σ 184 (38 + i)) ∧ (∀ q, (q < 6 ∨ 46 ≤ q) → itM im5 m j σ 184 q = σ 184 q) ∧ ∀ c, c ≠ 184 → itM im5 m j σ c = σ c := by
  intro m
  induction m with
  | zero => intro j σ hj; exact ⟨fun i h1 h2 => by omega, fun _ _ => ⟨rfl, rfl, rfl, rfl, rfl⟩, fun _ _ => rfl, fun _ _ => rfl⟩
  | succ m ih =>
    intro j σ hj
    obtain ⟨h1, h2, h3, h4⟩ := ih (j + 1) (im5 j σ) (by omega)
    have e : itM im5 (m + 1) j σ = itM im5 m (j + 1) (im5 j σ) := rfl
    rw [e]
    refine ⟨fun i h5 h6 => ?_, fun i hi => ?_, fun q hq => ?_, fun c hc => ?_⟩
    · by_cases hij : i = j
      · subst hij
        obtain ⟨a1, a2, a3, a4, a5⟩ := h2 i (by omega)
        rw [a1, a2, a3, a4, a5]
        exact im5_hit i σ (by omega)
      · obtain ⟨a1, a2, a3, a4, a5⟩ := h1 i (by omega) h6
        rw [a1, a2, a3, a4, a5, im5_fr (by decide), im5_fr (by decide), im5_fr (by decide), im5_fr (by decide), im5_fr (by decide)]
        exact ⟨rfl, rfl, rfl, rfl, rfl⟩
    · obtain ⟨a1, a2, a3, a4, a5⟩ := h2 i (by omega)
      rw [a1, a2, a3, a4, a5, im5_miss (by omega), im5_miss (by omega), im5_miss (by omega), im5_miss (by omega), im5_miss (by omega)]
      exact ⟨rfl, rfl, rfl, rfl, rfl⟩
    · rw [h3 q hq, im5_miss (by omega)]
    · rw [h4 c hc, im5_fr hc]
def bk2 (j : Nat) (σ : Mem) : Mem := setM (setM σ 161 j (σ 184 j)) 162 j (σ 184 (3 + j))
def bk5 (j : Nat) (σ : Mem) : Mem := setM (setM (setM (setM (setM σ 163 j (σ 184 (6 + j))) 164 j (σ 184 (14 + j))) 165 j (σ 184 (22 + j))) 166 j (σ 184 (30 + j))) 167 j (σ 184 (38 + j))
theorem bk2_it : ∀ (m j : Nat) (σ : Mem), j + m = 3 → (∀ i, j ≤ i → i < 3 → itM bk2 m j σ 161 i = σ 184 i ∧ itM bk2 m j σ 162 i = σ 184 (3 + i)) ∧ (∀ i, i < j → itM bk2 m j σ 161 i = σ 161 i ∧ itM bk2 m j σ 162 i = σ 162 i) ∧ ∀ c, c ≠ 161 → c ≠ 162 → itM bk2 m j σ c = σ c := by
  intro m
  induction m with
  | zero => intro j σ hj; exact ⟨fun i h1 h2 => by omega, fun _ _ => ⟨rfl, rfl⟩, fun _ _ _ => rfl⟩
  | succ m ih =>
    intro j σ hj
    obtain ⟨h1, h2, h4⟩ := ih (j + 1) (bk2 j σ) (by omega)
    have e : itM bk2 (m + 1) j σ = itM bk2 m (j + 1) (bk2 j σ) := rfl
    rw [e]
    refine ⟨fun i h5 h6 => ?_, fun i hi => ?_, fun c hc hd => ?_⟩
    · by_cases hij : i = j
      · subst hij
        rw [(h2 i (by omega)).1, (h2 i (by omega)).2]
        unfold bk2
        rw [sM_a (by decide), sM_eq, sM_eq]
        exact ⟨rfl, rfl⟩
      · rw [(h1 i (by omega) h6).1, (h1 i (by omega) h6).2]
        unfold bk2
        rw [sM_a (by decide), sM_a (by decide)]
        exact ⟨rfl, rfl⟩
    · rw [(h2 i (by omega)).1, (h2 i (by omega)).2]
      unfold bk2
      rw [sM_a (by decide), sM_i (by omega), sM_i (by omega), sM_a (by decide)]
      exact ⟨rfl, rfl⟩
    · rw [h4 c hc hd]
      unfold bk2
      rw [sM_a hd, sM_a hc]
theorem bk5_hit (j : Nat) (σ : Mem) : bk5 j σ 163 j = σ 184 (6 + j) ∧ bk5 j σ 164 j = σ 184 (14 + j) ∧ bk5 j σ 165 j = σ 184 (22 + j) ∧ bk5 j σ 166 j = σ 184 (30 + j) ∧ bk5 j σ 167 j = σ 184 (38 + j) := by
  unfold bk5
  refine ⟨?_, ?_, ?_, ?_, ?_⟩
  · rw [sM_a (by decide), sM_a (by decide), sM_a (by decide), sM_a (by decide), sM_eq]
  · rw [sM_a (by decide), sM_a (by decide), sM_a (by decide), sM_eq]
  · rw [sM_a (by decide), sM_a (by decide), sM_eq]
  · rw [sM_a (by decide), sM_eq]
  · rw [sM_eq]
theorem bk5_miss {i j : Nat} {σ : Mem} (h : i ≠ j) : bk5 j σ 163 i = σ 163 i ∧ bk5 j σ 164 i = σ 164 i ∧ bk5 j σ 165 i = σ 165 i ∧ bk5 j σ 166 i = σ 166 i ∧ bk5 j σ 167 i = σ 167 i := by
  unfold bk5
  refine ⟨?_, ?_, ?_, ?_, ?_⟩
  · rw [sM_a (by decide), sM_a (by decide), sM_a (by decide), sM_a (by decide), sM_i h]
  · rw [sM_a (by decide), sM_a (by decide), sM_a (by decide), sM_i h, sM_a (by decide)]
  · rw [sM_a (by decide), sM_a (by decide), sM_i h, sM_a (by decide), sM_a (by decide)]
  · rw [sM_a (by decide), sM_i h, sM_a (by decide), sM_a (by decide), sM_a (by decide)]
  · rw [sM_i h, sM_a (by decide), sM_a (by decide), sM_a (by decide), sM_a (by decide)]
theorem bk5_fr {j c : Nat} {σ : Mem} (h : c < 163 ∨ 167 < c) : bk5 j σ c = σ c := by
  unfold bk5
  rw [sM_a (by omega), sM_a (by omega), sM_a (by omega), sM_a (by omega), sM_a (by omega)]
theorem bk5_it : ∀ (m j : Nat) (σ : Mem), j + m = 8 → (∀ i, j ≤ i → i < 8 → itM bk5 m j σ 163 i = σ 184 (6 + i) ∧ itM bk5 m j σ 164 i = σ 184 (14 + i) ∧ itM bk5 m j σ 165 i = σ 184 (22 + i) ∧ itM bk5 m j σ 166 i = σ 184 (30 + i) ∧ itM bk5 m j σ 167 i = σ 184 (38 + i)) ∧ (∀ i, i < j → itM bk5 m j σ 163 i = σ 163 i ∧ itM bk5 m j σ 164 i = σ 164 i ∧ itM bk5 m j σ 165 i = σ 165 i ∧ itM bk5 m j σ 166 i = σ 166 i ∧ itM bk5 m j σ 167 i = σ 167 i) ∧ ∀ c, (c < 163 ∨ 167 < c) → itM bk5 m j σ c = σ c := by
  intro m
  induction m with
  | zero => intro j σ hj; exact ⟨fun i h1 h2 => by omega, fun _ _ => ⟨rfl, rfl, rfl, rfl, rfl⟩, fun _ _ => rfl⟩
  | succ m ih =>
    intro j σ hj
    obtain ⟨h1, h2, h4⟩ := ih (j + 1) (bk5 j σ) (by omega)
    have e : itM bk5 (m + 1) j σ = itM bk5 m (j + 1) (bk5 j σ) := rfl
    rw [e]
    refine ⟨fun i h5 h6 => ?_, fun i hi => ?_, fun c hc => ?_⟩
    · by_cases hij : i = j
      · subst hij
        obtain ⟨a1, a2, a3, a4, a5⟩ := h2 i (by omega)
        rw [a1, a2, a3, a4, a5]
        exact bk5_hit i σ
      · obtain ⟨a1, a2, a3, a4, a5⟩ := h1 i (by omega) h6
        rw [a1, a2, a3, a4, a5, bk5_fr (by decide)]
        exact ⟨rfl, rfl, rfl, rfl, rfl⟩
    · obtain ⟨a1, a2, a3, a4, a5⟩ := h2 i (by omega)
      rw [a1, a2, a3, a4, a5]
      exact bk5_miss (by omega)
    · rw [h4 c hc, bk5_fr hc]
