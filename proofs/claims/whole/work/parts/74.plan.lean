/-! plans: rows of settings, those that begin alike sharing what is alike -/
abbrev Bst : Type := Option (Nat × Nat)
/-- all rows of m more legs behind the node x (its fuel f), its code p; go: a leg by a setting; dn: all done -/
def enP {X : Type} (go : X → Nat → Option X) (dn : X → Bool) (bn : Nat → Nat) : Nat → X → Nat → Nat → Bst → Bst
  | 0, x, f, p, b => if dn x = true then (match b with
    | none => some (f, p)
    | some (g, q) => if f < g then some (f, p) else some (g, q)) else b
  | m + 1, x, f, p, b => [0, 1, 2, 3].foldl (fun b s => match go x s with
    | none => b
    | some y => enP go dn bn m y (f + bn s) (4 * p + s) b) b
theorem en_keep {X : Type} (go : X → Nat → Option X) (dn : X → Bool) (bn : Nat → Nat) : ∀ (m : Nat) (x : X) (f p g q : Nat), g ≤ f → enP go dn bn m x f p (some (g, q)) = some (g, q) := by
  intro m
  induction m with
  | zero =>
    intro x f p g q h
    rw [enP]
    split
    · show (if f < g then _ else _) = _
      rw [if_neg (by omega)]
    · rfl
  | succ m ih =>
    intro x f p g q h
    have st : ∀ s, (match go x s with
      | none => some (g, q)
      | some y => enP go dn bn m y (f + bn s) (4 * p + s) (some (g, q))) = some (g, q) := by
      intro s
      cases go x s with
      | none => rfl
      | some y => exact ih y (f + bn s) (4 * p + s) g q (by omega)
    rw [enP, List.foldl_cons, st 0, List.foldl_cons, st 1, List.foldl_cons, st 2, List.foldl_cons, st 3]
    rfl
def lpP (stp : Nat → Bst → Bst) (cut : Nat → Bst → Bool) : Nat → Nat → Bst → Bst
  | 0, _, b => b
  | n + 1, s, b => if cut s b = true then b else lpP stp cut n (s + 1) (stp s b)
def cutP (f : Nat) (bn : Nat → Nat) (s : Nat) (b : Bst) : Bool := match b with
  | none => false
  | some (g, _) => decide (g ≤ f + bn s)
/-- the same, but where it can't be better it goes no farther -/
def dfP {X : Type} (go : X → Nat → Option X) (dn : X → Bool) (bn : Nat → Nat) : Nat → X → Nat → Nat → Bst → Bst
  | 0, x, f, p, b => if dn x = true then some (f, p) else b
  | m + 1, x, f, p, b => lpP (fun s b => match go x s with
    | none => b
    | some y => dfP go dn bn m y (f + bn s) (4 * p + s) b) (cutP f bn) 4 0 b
def preP (f : Nat) (b : Bst) : Prop := ∀ g q, b = some (g, q) → f < g
theorem df_eq {X : Type} (go : X → Nat → Option X) (dn : X → Bool) (bn : Nat → Nat) (mono : ∀ s t, s ≤ t → t < 4 → bn s ≤ bn t) : ∀ (m : Nat) (x : X) (f p : Nat) (b : Bst), preP f b → dfP go dn bn m x f p b = enP go dn bn m x f p b := by
  intro m
  induction m with
  | zero =>
    intro x f p b hb
    cases b with
    | none => rw [dfP, enP]
    | some gq =>
      obtain ⟨g, q⟩ := gq
      rw [dfP, enP, if_pos (hb g q rfl)]
  | succ m ih =>
    intro x f p b hb
    have key : ∀ (n s : Nat) (b : Bst), s + n = 4 → lpP (fun s b => match go x s with
        | none => b
        | some y => dfP go dn bn m y (f + bn s) (4 * p + s) b) (cutP f bn) n s b = (List.range' s n).foldl (fun b s => match go x s with
        | none => b
        | some y => enP go dn bn m y (f + bn s) (4 * p + s) b) b := by
      intro n
      induction n with
      | zero => intro s b _; rfl
      | succ n ihn =>
        intro s b hs
        rw [lpP, List.range'_succ, List.foldl_cons]
        by_cases hc : cutP f bn s b = true
        · rw [if_pos hc]
          cases b with
          | none => cases hc
          | some gq =>
            obtain ⟨g, q⟩ := gq
            have hg : g ≤ f + bn s := of_decide_eq_true hc
            have st : ∀ t, s ≤ t → t < 4 → (match go x t with
              | none => some (g, q)
              | some y => enP go dn bn m y (f + bn t) (4 * p + t) (some (g, q))) = some (g, q) := by
              intro t h1 h2
              cases go x t with
              | none => rfl
              | some y =>
                have := mono s t h1 h2
                exact en_keep go dn bn m y (f + bn t) (4 * p + t) g q (by omega)
            rw [st s (Nat.le_refl _) (by omega)]
            have all : ∀ (n' t : Nat), s ≤ t → t + n' ≤ 4 → (List.range' t n').foldl (fun b s => match go x s with
              | none => b
              | some y => enP go dn bn m y (f + bn s) (4 * p + s) b) (some (g, q)) = some (g, q) := by
              intro n'
              induction n' with
              | zero => intro t _ _; rfl
              | succ n' ihn' =>
                intro t h1 h2
                rw [List.range'_succ, List.foldl_cons, st t h1 (by omega)]
                exact ihn' (t + 1) (by omega) (by omega)
            exact (all n (s + 1) (by omega) (by omega)).symm
        · rw [if_neg hc, ihn (s + 1) _ (by omega)]
          congr 1
          show (match go x s with
            | none => b
            | some y => dfP go dn bn m y (f + bn s) (4 * p + s) b) = _
          cases go x s with
          | none => rfl
          | some y =>
            refine ih y (f + bn s) (4 * p + s) b (fun g q e => ?_)
            subst e
            have : ¬ g ≤ f + bn s := fun h => hc (decide_eq_true h)
            omega
    rw [dfP, key 4 0 b rfl, enP]
    rfl
