/-! the best of the 64 codes -/
def mG (ok : Nat → Bool) (su bu : Nat → Int32) : Nat → Nat → Int32 → Int32 → Int32 → Int32
  | 0, _, b, _, _ => b
  | m + 1, c, b, x, y => if ok c = true then (if b < 0 then mG ok su bu m (c + 1) (nI c) (su c) (bu c) else if x < su c then mG ok su bu m (c + 1) (nI c) (su c) (bu c) else if su c = x then (if y ≤ bu c then mG ok su bu m (c + 1) b x y else mG ok su bu m (c + 1) (nI c) (su c) (bu c)) else mG ok su bu m (c + 1) b x y) else mG ok su bu m (c + 1) b x y
theorem mG_none {ok : Nat → Bool} {su bu : Nat → Int32} (h : ∀ d, d < 64 → ok d ≠ true) : ∀ m c b x y, c + m = 64 → mG ok su bu m c b x y = b := by
  intro m
  induction m with
  | zero => intro c b x y _; rfl
  | succ m ih => intro c b x y hc; rw [mG, if_neg (h c (by omega)), ih (c + 1) b x y (by omega)]
theorem mG_star {ok : Nat → Bool} {su bu : Nat → Int32} {cs : Nat} (hcs : cs < 64) (hok : ok cs = true) (hb : ∀ d, d < 64 → ok d = true → d ≠ cs → su d < su cs ∨ (su d = su cs ∧ bu cs < bu d)) : ∀ m c b x y, c + m = 64 → ((b = -1 ∧ ∀ d, d < c → ok d ≠ true) ∨ ∃ d, d < c ∧ b = nI d ∧ ok d = true ∧ x = su d ∧ y = bu d ∧ (cs < c → d = cs)) → mG ok su bu m c b x y = nI cs := by
  intro m
  induction m with
  | zero =>
    intro c b x y hc hi
    have : c = 64 := by omega
    subst this
    rcases hi with ⟨h1, h2⟩ | ⟨d, h1, h2, h3, h4, h5, h6⟩
    · exact absurd hok (h2 cs hcs)
    · rw [mG, h2, h6 hcs]
  | succ m ih =>
    intro c b x y hc hi
    have take : (cs < c → False) → mG ok su bu m (c + 1) (nI c) (su c) (bu c) = nI cs ∨ ok c ≠ true := by
      intro hlt
      by_cases hoc : ok c = true
      · exact Or.inl (ih (c + 1) (nI c) (su c) (bu c) (by omega) (Or.inr ⟨c, by omega, rfl, hoc, rfl, rfl, fun h => by
          by_cases he : c = cs
          · exact he
          · exact absurd (show cs < c by omega) hlt⟩))
      · exact Or.inr hoc
    rw [mG]
    by_cases hoc : ok c = true
    · rw [if_pos hoc]
      rcases hi with ⟨h1, h2⟩ | ⟨d, h1, h2, h3, h4, h5, h6⟩
      · rw [if_pos (show b < 0 by rw [h1]; decide)]
        rcases take (fun hlt => h2 cs hlt hok) with h | h
        · exact h
        · exact absurd hoc h
      · have hd64 : d < 64 := by omega
        rw [if_neg (show ¬ b < 0 by rw [h2]; exact nI_pos (by omega))]
        by_cases hlt : cs < c
        · have hdc := h6 hlt
          subst hdc
          have keep : mG ok su bu m (c + 1) b x y = nI d := ih (c + 1) b x y (by omega) (Or.inr ⟨d, by omega, h2, h3, h4, h5, fun _ => rfl⟩)
          rcases hb c (by omega) hoc (by omega) with hw | ⟨hw, hv⟩
          · rw [if_neg (show ¬ x < su c by rw [h4]; exact Int32.lt_asymm hw), if_neg (show ¬ su c = x by rw [h4]; exact Int32.ne_of_lt hw)]
            exact keep
          · rw [if_neg (show ¬ x < su c by rw [h4, hw]; exact Int32.lt_irrefl), if_pos (show su c = x by rw [h4]; exact hw), if_pos (show y ≤ bu c by rw [h5]; exact Int32.le_of_lt hv)]
            exact keep
        · have tk : mG ok su bu m (c + 1) (nI c) (su c) (bu c) = nI cs := by
            rcases take (fun h => hlt h) with h | h
            · exact h
            · exact absurd hoc h
          by_cases hcc : c = cs
          · subst hcc
            rcases hb d hd64 h3 (by omega) with hw | ⟨hw, hv⟩
            · rw [if_pos (show x < su c by rw [h4]; exact hw)]; exact tk
            · rw [if_neg (show ¬ x < su c by rw [h4, hw]; exact Int32.lt_irrefl), if_pos (show su c = x by rw [h4, hw]), if_neg (show ¬ y ≤ bu c by rw [h5]; exact Int32.not_le.mpr hv)]
              exact tk
          · have keep : mG ok su bu m (c + 1) b x y = nI cs := ih (c + 1) b x y (by omega) (Or.inr ⟨d, by omega, h2, h3, h4, h5, fun h => absurd h (by omega)⟩)
            by_cases q1 : x < su c
            · rw [if_pos q1]; exact tk
            · rw [if_neg q1]
              by_cases q2 : su c = x
              · rw [if_pos q2]
                by_cases q3 : y ≤ bu c
                · rw [if_pos q3]; exact keep
                · rw [if_neg q3]; exact tk
              · rw [if_neg q2]; exact keep
    · rw [if_neg hoc]
      refine ih (c + 1) b x y (by omega) ?_
      rcases hi with ⟨h1, h2⟩ | ⟨d, h1, h2, h3, h4, h5, h6⟩
      · refine Or.inl ⟨h1, fun d hd => ?_⟩
        by_cases he : d = c
        · rw [he]; exact hoc
        · exact h2 d (by omega)
      · refine Or.inr ⟨d, by omega, h2, h3, h4, h5, fun h => ?_⟩
        by_cases he : cs = c
        · exact absurd (he ▸ hok) hoc
        · exact h6 (by omega)
