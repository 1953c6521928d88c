/-! courses of the class: legs added, appended -/
theorem co_lt {a : Nat} (h : (sh a).1 = 0) : a < NC := sh_lt (by omega)
theorem c_r0 {a : Nat} (h : (sh a).1 = 0) : rf a 0 = a + 1 := (co_all a (co_lt h) h).1
theorem c_r1 {a : Nat} (h : (sh a).1 = 0) : rf a 1 = a + 2 := (co_all a (co_lt h) h).2.1
theorem c_s0 {a : Nat} (h : (sh a).1 = 0) : sh (a + 1) = (100, 18) := (co_all a (co_lt h) h).2.2.1
theorem c_s1 {a : Nat} (h : (sh a).1 = 0) : sh (a + 2) = (100, 6) := (co_all a (co_lt h) h).2.2.2.1
theorem c_up {a : Nat} (h : (sh a).1 = 0) : a + 3 ≤ 152 := (co_all a (co_lt h) h).2.2.2.2
theorem nI_m3 (n : Nat) : nI n * 3 = nI (3 * n) := by
  rw [show (3 : Int32) = nI 3 from rfl, pk_mul, Nat.mul_comm]
def legC (a n : Nat) (g : Lg) (σ : Mem) : Prop := σ (a + 1) (3 * n) = g.1 ∧ σ (a + 1) (3 * n + 1) = g.2.1 ∧ σ (a + 1) (3 * n + 2) = g.2.2.1 ∧ σ (a + 2) n = g.2.2.2
def addM (a n : Nat) (g : Lg) (σ : Mem) : Mem := setM (setM (setM (setM (setM σ (a + 1) (3 * n) g.1) (a + 1) (3 * n + 1) g.2.1) (a + 1) (3 * n + 2) g.2.2.1) (a + 2) n g.2.2.2) a 2 (nI (n + 1))
theorem addM_n (a n : Nat) (g : Lg) (σ : Mem) : addM a n g σ a 2 = nI (n + 1) := sM_eq _ _ _ _
theorem addM_fr {a n : Nat} {g : Lg} {σ : Mem} {b : Nat} (h : ¬ (a ≤ b ∧ b < a + 3)) : addM a n g σ b = σ b := by
  unfold addM
  rw [sM_a (by omega), sM_a (by omega), sM_a (by omega), sM_a (by omega), sM_a (by omega)]
theorem addM_leg (a n : Nat) (g : Lg) (σ : Mem) : legC a n g (addM a n g σ) := by
  unfold addM
  refine ⟨?_, ?_, ?_, ?_⟩
  · rw [sM_a (by omega), sM_a (by omega), sM_i (by omega), sM_i (by omega), sM_eq]
  · rw [sM_a (by omega), sM_a (by omega), sM_i (by omega), sM_eq]
  · rw [sM_a (by omega), sM_a (by omega), sM_eq]
  · rw [sM_a (by omega), sM_eq]
theorem addM_old {a n i : Nat} {g g' : Lg} {σ : Mem} (hi : i < n) (h : legC a i g' σ) : legC a i g' (addM a n g σ) := by
  unfold addM
  refine ⟨?_, ?_, ?_, ?_⟩
  · rw [sM_a (by omega), sM_a (by omega), sM_i (by omega), sM_i (by omega), sM_i (by omega)]; exact h.1
  · rw [sM_a (by omega), sM_a (by omega), sM_i (by omega), sM_i (by omega), sM_i (by omega)]; exact h.2.1
  · rw [sM_a (by omega), sM_a (by omega), sM_i (by omega), sM_i (by omega), sM_i (by omega)]; exact h.2.2.1
  · rw [sM_a (by omega), sM_i (by omega), sM_a (by omega), sM_a (by omega), sM_a (by omega)]; exact h.2.2.2
theorem snoc_get {α : Type} {l : List α} {g g' : α} {i : Nat} (h : (l ++ [g])[i]? = some g') : (i < l.length ∧ l[i]? = some g') ∨ (i = l.length ∧ g' = g) := by
  by_cases hi : i < l.length
  · rw [List.getElem?_append_left hi] at h; exact Or.inl ⟨hi, h⟩
  · rw [List.getElem?_append_right (by omega)] at h
    obtain ⟨h1, h2⟩ := List.getElem?_eq_some_iff.mp h
    have : i - l.length = 0 := by simp at h1; omega
    refine Or.inr ⟨by omega, ?_⟩
    rw [this] at h
    exact (Option.some.inj h).symm
theorem addM_rep {a : Nat} {l : List Lg} {g : Lg} {σ : Mem} (h : repCo a l σ) : repCo a (l ++ [g]) (addM a l.length g σ) := by
  refine ⟨by rw [addM_n, List.length_append]; rfl, fun i g' hg => ?_⟩
  rcases snoc_get hg with ⟨hi, h1⟩ | ⟨rfl, rfl⟩
  · exact addM_old hi (h.2 i g' h1)
  · exact addM_leg a l.length g' σ
theorem t_addLeg {a n : Nat} {g : Lg} {σ : Mem} (hs : (sh a).1 = 0) (h : σ a 2 = nI n) (hl : n < 6) : FX1_addLeg [.ref a, .int g.1, .int g.2.1, .int g.2.2.1, .int g.2.2.2] σ = some (none, addM a n g σ) := by
  have x18 : ∀ {α : Type} {i : Nat} {k : Option α}, i < 18 → o_ix 100 (a + 1) (nI i) k = k := fun hi => ox (by rw [c_s0 hs]) (by rw [c_s0 hs]; exact hi)
  have x6 : ∀ {α : Type} {i : Nat} {k : Option α}, i < 6 → o_ix 100 (a + 2) (nI i) k = k := fun hi => ox (by rw [c_s1 hs]) (by rw [c_s1 hs]; exact hi)
  rw [enX1_addLeg, c_r0 hs, c_r1 hs]
  simp only [sM_a (show a ≠ a + 1 by omega), sM_a (show a ≠ a + 2 by omega), h, nI_m3, nI_1]
  rw [show (nI (3 * n) + 2 : Int32) = nI (3 * n + 2) from nI_add _ 2, oc hs, if_pos (show nI n < 6 from nI_lt (b := 6) hl (by decide)), oc hs, oc hs, x18 (by omega), oc hs, oc hs, x18 (by omega), oc hs, oc hs, x18 (by omega), oc hs, oc hs, x6 hl, oc hs, oc hs, cl (3 * n) (by omega), cl (3 * n + 1) (by omega), cl (3 * n + 2) (by omega), cl n (by omega)]
  rfl
theorem t_addFull {a n : Nat} {x1 x2 x3 x4 : Int32} {σ : Mem} (hs : (sh a).1 = 0) (h : σ a 2 = nI n) (hl : n = 6) : FX1_addLeg [.ref a, .int x1, .int x2, .int x3, .int x4] σ = some (none, σ) := by
  rw [enX1_addLeg, oc hs, h, hl, if_neg (by decide)]
theorem t_settingOf {a i z : Nat} {σ : Mem} (hs : (sh a).1 = 0) (hi : i < 6) (hz : z < 3) : FX1_settingOf [.ref a, .int (nI i), .int (nI z)] σ = some (some (.int (σ (a + 1) (3 * i + z))), σ) := by
  rw [enX1_settingOf, c_r0 hs, nI_m3, nI_add, oc hs, ox (by rw [c_s0 hs]) (by rw [c_s0 hs]; show 3 * i + z < 18; omega), cl _ (by omega)]
/-- the legs l2 of b come behind the legs l1 of a -/
theorem t_app {a b : Nat} {l1 l2 : List Lg} (hs : (sh a).1 = 0) (hb : (sh b).1 = 0) (hd : a + 3 ≤ b ∨ b + 3 ≤ a ∨ (a = b ∧ l2.length ≤ l1.length)) (hle : l1.length + l2.length ≤ 6) : ∀ (m k : Nat) (σ : Mem), k + m = l2.length → repCo a (l1 ++ l2.take k) σ → (∀ i g, l2[i]? = some g → legC b i g σ) → ∃ σ', am_go CX1_append 7 [.ref a, .ref b, .int (nI l2.length), .int (nI k)] [] σ = some (none, σ') ∧ repCo a (l1 ++ l2) σ' ∧ ∀ c, ¬ (a ≤ c ∧ c < a + 3) → σ' c = σ c := by
  intro m
  induction m with
  | zero =>
    intro k σ hk h hl
    have : k = l2.length := by omega
    subst this
    rw [List.take_length] at h
    rw [blX1_append_7, if_pos (Int32.le_refl _)]
    exact ⟨σ, rfl, h, fun _ _ => rfl⟩
  | succ m ih =>
    intro k σ hk h hl
    obtain ⟨g, hg⟩ : ∃ g, l2[k]? = some g := ⟨l2[k], List.getElem?_eq_getElem (by omega)⟩
    have hlk := hl k g hg
    have hlen : (l1 ++ l2.take k).length = l1.length + k := by rw [List.length_append, List.length_take]; omega
    have hsum : l1 ++ l2.take (k + 1) = (l1 ++ l2.take k) ++ [g] := by
      rw [List.take_succ, hg, List.append_assoc]; rfl
    have e2 : σ a 2 = nI (l1.length + k) := by rw [h.1, hlen]
    have h' := addM_rep (g := g) h
    rw [hlen, ← hsum] at h'
    obtain ⟨σ', e, r, f⟩ := ih (k + 1) (addM a (l1.length + k) g σ) (by omega) h' (fun i g' hg' => by
      have hi : i < l2.length := (List.getElem?_eq_some_iff.mp hg').1
      have ho := hl i g' hg'
      rcases hd with hd | hd | ⟨rfl, hd⟩
      · unfold legC; rw [addM_fr (by omega), addM_fr (by omega)]; exact ho
      · unfold legC; rw [addM_fr (by omega), addM_fr (by omega)]; exact ho
      · exact addM_old (by omega) ho)
    refine ⟨σ', ?_, r, fun c hc => by rw [f c hc, addM_fr hc]⟩
    have t0 := t_settingOf (σ := σ) hb (show k < 6 by omega) (show 0 < 3 by decide)
    have t1 := t_settingOf (σ := σ) hb (show k < 6 by omega) (show 1 < 3 by decide)
    have t2 := t_settingOf (σ := σ) hb (show k < 6 by omega) (show 2 < 3 by decide)
    rw [show σ (b + 1) (3 * k + 0) = g.1 from hlk.1] at t0
    rw [hlk.2.1] at t1
    rw [hlk.2.2.1] at t2
    rw [blX1_append_7, if_neg (nI_ge (by omega) (by omega)), oc hb, show FX1_settingOf [.ref b, .int (nI k), .int 0] σ = _ from t0, rI, oc hb, show FX1_settingOf [.ref b, .int (nI k), .int 1] σ = _ from t1, rI, oc hb, show FX1_settingOf [.ref b, .int (nI k), .int 2] σ = _ from t2, rI, oc hb, c_r1 hb, ox (by rw [c_s1 hb]) (by rw [c_s1 hb]; show k < 6; omega), oc hs, cl k (by omega), hlk.2.2.2, t_addLeg hs e2 (by omega), rV, nI_1]
    exact e
theorem t_append {a b : Nat} {l1 l2 : List Lg} {σ : Mem} (hs : (sh a).1 = 0) (hb : (sh b).1 = 0) (hd : a + 3 ≤ b ∨ b + 3 ≤ a ∨ (a = b ∧ l2.length ≤ l1.length)) (hle : l1.length + l2.length ≤ 6) (h1 : repCo a l1 σ) (h2 : repCo b l2 σ) : ∃ σ', FX1_append [.ref a, .ref b] σ = some (none, σ') ∧ repCo a (l1 ++ l2) σ' ∧ ∀ c, ¬ (a ≤ c ∧ c < a + 3) → σ' c = σ c := by
  obtain ⟨σ', e, r, f⟩ := t_app hs hb hd hle l2.length 0 σ (by omega) (by rw [List.take_zero, List.append_nil]; exact h1) h2.2
  rw [enX1_append, oc hb, h2.1]
  exact ⟨σ', e, r, f⟩
theorem t_cbecome {a b : Nat} {l : List Lg} {σ : Mem} (hs : (sh a).1 = 0) (hb : (sh b).1 = 0) (hd : a + 3 ≤ b ∨ b + 3 ≤ a) (hl : l.length ≤ 6) (h : repCo b l σ) : ∃ σ', FX1_become [.ref a, .ref b] σ = some (none, σ') ∧ repCo a l σ' ∧ ∀ c, ¬ (a ≤ c ∧ c < a + 3) → σ' c = σ c := by
  have h1 : repCo a [] (setM σ a 2 0) := ⟨by rw [sM_eq]; rfl, fun i g hg => by cases hg⟩
  have h2 : repCo b l (setM σ a 2 0) := h.fr (fun c hc => sM_a (by omega))
  obtain ⟨σ', e, r, f⟩ := t_append (l1 := []) hs hb (by omega) (by simpa using hl) h1 h2
  rw [enX1_become, oc hs, oc hs, e, rV]
  exact ⟨σ', rfl, r, fun c hc => by rw [f c hc, sM_a (by omega)]⟩
