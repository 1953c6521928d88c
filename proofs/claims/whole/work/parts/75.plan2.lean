def evD {X : Type} (go : X → Nat → Option X) (dn : X → Bool) (bn : Nat → Nat) : Nat → X → Nat → Nat → Option Nat
  | 0, x, f, _ => if dn x = true then some f else none
  | m + 1, x, f, r => match go x (r / 4 ^ m % 4) with
    | none => none
    | some y => evD go dn bn m y (f + bn (r / 4 ^ m % 4)) r
def impP (b : Bst) (f r : Nat) : Bst := match b with
  | none => some (f, r)
  | some (g, q) => if f < g then some (f, r) else some (g, q)
def stF (ev : Nat → Option Nat) (b : Bst) (r : Nat) : Bst := match ev r with
  | none => b
  | some f => impP b f r
theorem fold_ext {ev ev' : Nat → Option Nat} : ∀ (n a : Nat) (b : Bst), (∀ r, a ≤ r → r < a + n → ev r = ev' r) → (List.range' a n).foldl (stF ev) b = (List.range' a n).foldl (stF ev') b := by
  intro n
  induction n with
  | zero => intro a b _; rfl
  | succ n ih =>
    intro a b h
    rw [List.range'_succ, List.foldl_cons, List.foldl_cons]
    have : stF ev b a = stF ev' b a := by unfold stF; rw [h a (Nat.le_refl _) (by omega)]
    rw [this]
    exact ih (a + 1) _ (fun r h1 h2 => h r (by omega) (by omega))
theorem fold_none {ev : Nat → Option Nat} : ∀ (n a : Nat) (b : Bst), (∀ r, a ≤ r → r < a + n → ev r = none) → (List.range' a n).foldl (stF ev) b = b := by
  intro n
  induction n with
  | zero => intro a b _; rfl
  | succ n ih =>
    intro a b h
    rw [List.range'_succ, List.foldl_cons]
    have : stF ev b a = b := by unfold stF; rw [h a (Nat.le_refl _) (by omega)]
    rw [this]
    exact ih (a + 1) _ (fun r h1 h2 => h r (by omega) (by omega))
theorem flat_eq {X : Type} (go : X → Nat → Option X) (dn : X → Bool) (bn : Nat → Nat) : ∀ (m : Nat) (x : X) (f p : Nat) (b : Bst), (List.range' (p * 4 ^ m) (4 ^ m)).foldl (stF (evD go dn bn m x f)) b = enP go dn bn m x f p b := by
  intro m
  induction m with
  | zero =>
    intro x f p b
    rw [Nat.pow_zero, Nat.mul_one]
    show stF (evD go dn bn 0 x f) b p = _
    unfold stF
    rw [evD]
    cases b with
    | none =>
      rw [enP]
      by_cases hd : dn x = true
      · rw [if_pos hd, if_pos hd]; rfl
      · rw [if_neg hd, if_neg hd]
    | some gq =>
      obtain ⟨g, q⟩ := gq
      rw [enP]
      by_cases hd : dn x = true
      · rw [if_pos hd, if_pos hd]; rfl
      · rw [if_neg hd, if_neg hd]
  | succ m ih =>
    intro x f p b
    have hpos : 0 < 4 ^ m := Nat.pow_pos (by decide)
    have blk : ∀ (s : Nat) (b : Bst), s < 4 → (List.range' ((4 * p + s) * 4 ^ m) (4 ^ m)).foldl (stF (evD go dn bn (m + 1) x f)) b = (match go x s with
      | none => b
      | some y => enP go dn bn m y (f + bn s) (4 * p + s) b) := by
      intro s b hs
      have dg : ∀ r, (4 * p + s) * 4 ^ m ≤ r → r < (4 * p + s) * 4 ^ m + 4 ^ m → r / 4 ^ m % 4 = s := by
        intro r h1 h2
        have : r / 4 ^ m = 4 * p + s := by
          apply Nat.div_eq_of_lt_le
          · exact h1
          · rw [Nat.add_mul, Nat.one_mul]; exact h2
        rw [this]
        omega
      cases hg : go x s with
      | none =>
        exact fold_none _ _ _ (fun r h1 h2 => by rw [evD, dg r h1 h2, hg])
      | some y =>
        rw [fold_ext (ev' := evD go dn bn m y (f + bn s)) _ _ _ (fun r h1 h2 => by rw [evD, dg r h1 h2, hg])]
        exact ih y (f + bn s) (4 * p + s) b
    have sp : List.range' (p * 4 ^ (m + 1)) (4 ^ (m + 1)) = List.range' ((4 * p + 0) * 4 ^ m) (4 ^ m) ++ (List.range' ((4 * p + 1) * 4 ^ m) (4 ^ m) ++ (List.range' ((4 * p + 2) * 4 ^ m) (4 ^ m) ++ List.range' ((4 * p + 3) * 4 ^ m) (4 ^ m))) := by
      have e : ∀ s, (4 * p + s) * 4 ^ m = p * 4 ^ (m + 1) + s * 4 ^ m := by
        intro s
        rw [Nat.pow_succ, Nat.add_mul, Nat.mul_comm 4 p, Nat.mul_assoc, Nat.mul_comm 4 (4 ^ m)]
      rw [e 0, e 1, e 2, e 3, Nat.pow_succ]
      generalize 4 ^ m = w
      generalize p * (w * 4) = a
      have ap : ∀ (c u v : Nat), List.range' c u ++ List.range' (c + u) v = List.range' c (u + v) := by
        intro c u v
        have := List.range'_append (s := c) (m := u) (n := v) (step := 1)
        rw [Nat.one_mul] at this
        exact this
      rw [show a + 3 * w = (a + 2 * w) + w by omega, ap, show a + 2 * w = (a + 1 * w) + w by omega, ap, show a + 1 * w = (a + 0 * w) + w by omega, ap, show a + 0 * w = a by omega]
      congr 1
      omega
    rw [sp, List.foldl_append, List.foldl_append, List.foldl_append, blk 0 _ (by decide), blk 1 _ (by decide), blk 2 _ (by decide), blk 3 _ (by decide), enP]
    rfl
