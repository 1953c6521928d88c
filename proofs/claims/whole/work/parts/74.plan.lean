/-! plans: rows of settings, those that begin alike sharing what is alike -/
abbrev Bst : Type := Option (Nat × Nat)
/-- all rows of m more legs behind the node x (its fuel f), its code p; go: a leg by a setting; dn: all done -/
def enP {X : Type} (go : X → Nat → Option X) (dn : X → Bool) (bn : Nat → Nat) : Nat → X → Nat → Nat → Bst → Bst
  | 0, x, f, p, b => if dn x = true then (match b with
    | none => some (f, p)
    | some (g, q) => if f < g then some (f, p) else some (g, q)) else b
  | m + 1, x, f, p, b => [0, 1, 2, 3].foldl (fun b s => match go x s with
    | none => b
    | some y => enP go dn bn m y (f + bn s) (4 * p + s) b) b
theorem en_keep {X : Type} (go : X → Nat → Option X) (dn : X → Bool) (bn : Nat → Nat) : ∀ (m : Nat) (x : X) (f p g q : Nat), g ≤ f → enP go dn bn m x f p (some (g, q)) = some (g, q) := by
  intro m
  induction m with
  | zero =>
    intro x f p g q h
    rw [enP]
    split
    · show (if f < g then _ else _) = _
      rw [if_neg (by omega)]
    · rfl
  | succ m ih =>
    intro x f p g q h
    have st : ∀ s, (match go x s with
      | none => some (g, q)
      | some y => enP go dn bn m y (f + bn s) (4 * p + s) (some (g, q))) = some (g, q) := by
      intro s
      cases go x s with
      | none => rfl
      | some y => exact ih y (f + bn s) (4 * p + s) g q (by omega)
    rw [enP, List.foldl_cons, st 0, List.foldl_cons, st 1, List.foldl_cons, st 2, List.foldl_cons, st 3]
    rfl
