/-! a text read: legs, a course -/
def nxT (t : List Int32) (k : TK) : TK := tkS t k.2.2.2
def fiS (t : List Int32) (k : TK) (v0 v1 v2 : Int32) : TK × Option Lg := if k.1 = 3 then (if (nxT t k).1 = 4 then (nxT t (nxT t k), some (v0, v1, v2, (nxT t k).2.1)) else (nxT t k, none)) else (k, some (v0, v1, v2, 1))
def rlS (t : List Int32) (k : TK) : TK × Option Lg := if k.1 = 2 then (if (nxT t k).1 = 5 then (if (nxT t (nxT t k)).1 = 2 then (if (nxT t (nxT t (nxT t k))).1 = 5 then (if (nxT t (nxT t (nxT t (nxT t k)))).1 = 2 then fiS t (nxT t (nxT t (nxT t (nxT t (nxT t k))))) k.2.1 (nxT t (nxT t k)).2.1 (nxT t (nxT t (nxT t (nxT t k)))).2.1 else (nxT t (nxT t (nxT t (nxT t k))), none)) else (nxT t (nxT t (nxT t k)), none)) else (nxT t (nxT t k), none)) else fiS t (nxT t k) k.2.1 k.2.1 k.2.1) else (k, none)
def rcS (t : List Int32) : Nat → TK → List Lg → Option (List Lg) × Nat
  | 0, k, _ => (none, k.2.2.1)
  | m + 1, k, l => match (rlS t k).2 with
    | none => (none, (rlS t k).1.2.2.1)
    | some g => if (rlS t k).1.1 = 0 then (some (l ++ [g]), 0) else if (rlS t k).1.1 = 6 then rcS t m (nxT t (rlS t k).1) (l ++ [g]) else (none, (rlS t k).1.2.2.1)
theorem rc_none {t : List Int32} {m : Nat} {k : TK} {l : List Lg} (h : (rlS t k).2 = none) : rcS t (m + 1) k l = (none, (rlS t k).1.2.2.1) := by rw [rcS, h]
theorem rc_end {t : List Int32} {m : Nat} {k : TK} {l : List Lg} {g : Lg} (h : (rlS t k).2 = some g) (c : (rlS t k).1.1 = 0) : rcS t (m + 1) k l = (some (l ++ [g]), 0) := by rw [rcS, h]; exact if_pos c
theorem rc_go {t : List Int32} {m : Nat} {k : TK} {l : List Lg} {g : Lg} (h : (rlS t k).2 = some g) (c : ¬ (rlS t k).1.1 = 0) (c' : (rlS t k).1.1 = 6) : rcS t (m + 1) k l = rcS t m (nxT t (rlS t k).1) (l ++ [g]) := by rw [rcS, h]; exact (if_neg c).trans (if_pos c')
theorem rc_bad {t : List Int32} {m : Nat} {k : TK} {l : List Lg} {g : Lg} (h : (rlS t k).2 = some g) (c : ¬ (rlS t k).1.1 = 0) (c' : ¬ (rlS t k).1.1 = 6) : rcS t (m + 1) k l = (none, (rlS t k).1.2.2.1) := by rw [rcS, h]; exact (if_neg c).trans (if_neg c')
theorem nx_ok {t : List Int32} {k : TK} (h : okK4 t k) : okK4 t (nxT t k) := tk_ok h.2.2.1
theorem fi_ok {t : List Int32} {k : TK} {v0 v1 v2 : Int32} (h : okK4 t k) (h0 : ∃ j : Nat, j < 4 ∧ v0 = nI j) (h1 : ∃ j : Nat, j < 4 ∧ v1 = nI j) (h2 : ∃ j : Nat, j < 4 ∧ v2 = nI j) : okK4 t (fiS t k v0 v1 v2).1 ∧ ∀ g, (fiS t k v0 v1 v2).2 = some g → okG g := by
  unfold fiS
  by_cases c1 : k.1 = 3
  · rw [if_pos c1]
    by_cases c2 : (nxT t k).1 = 4
    · rw [if_pos c2]
      refine ⟨nx_ok (nx_ok h), fun g e => ?_⟩
      rw [← Option.some.inj e]
      obtain ⟨n, n1, n9, en⟩ := (nx_ok h).2.2.2.2 c2
      exact ⟨h0, h1, h2, n, n1, n9, en⟩
    · rw [if_neg c2]
      exact ⟨nx_ok h, fun g e => by cases e⟩
  · rw [if_neg c1]
    refine ⟨h, fun g e => ?_⟩
    rw [← Option.some.inj e]
    exact ⟨h0, h1, h2, 1, by decide, by decide, rfl⟩
theorem rl_ok {t : List Int32} {k : TK} (h : okK4 t k) : okK4 t (rlS t k).1 ∧ ∀ g, (rlS t k).2 = some g → okG g := by
  unfold rlS
  have o1 := nx_ok h
  have o2 := nx_ok o1
  have o3 := nx_ok o2
  have o4 := nx_ok o3
  by_cases c0 : k.1 = 2
  · rw [if_pos c0]
    by_cases c1 : (nxT t k).1 = 5
    · rw [if_pos c1]
      by_cases c2 : (nxT t (nxT t k)).1 = 2
      · rw [if_pos c2]
        by_cases c3 : (nxT t (nxT t (nxT t k))).1 = 5
        · rw [if_pos c3]
          by_cases c4 : (nxT t (nxT t (nxT t (nxT t k)))).1 = 2
          · rw [if_pos c4]
            exact fi_ok (nx_ok o4) (h.2.2.2.1 c0) (o2.2.2.2.1 c2) (o4.2.2.2.1 c4)
          · rw [if_neg c4]; exact ⟨o4, fun g e => by cases e⟩
        · rw [if_neg c3]; exact ⟨o3, fun g e => by cases e⟩
      · rw [if_neg c2]; exact ⟨o2, fun g e => by cases e⟩
    · rw [if_neg c1]
      exact fi_ok o1 (h.2.2.2.1 c0) (h.2.2.2.1 c0) (h.2.2.2.1 c0)
  · rw [if_neg c0]; exact ⟨h, fun g e => by cases e⟩
theorem rc_ok {t : List Int32} : ∀ (m : Nat) (k : TK) (l : List Lg), okK4 t k → l.length + m ≤ 6 → (∀ g ∈ l, okG g) → (rcS t m k l).2 ≤ t.length ∧ ∀ l', (rcS t m k l).1 = some l' → okC l' := by
  intro m
  induction m with
  | zero =>
    intro k l hk hl hg
    rw [rcS]
    exact ⟨hk.2.1, fun l' e => by cases e⟩
  | succ m ih =>
    intro k l hk hl hg
    obtain ⟨o1, o2⟩ := rl_ok hk
    rw [rcS]
    cases hr : (rlS t k).2 with
    | none => exact ⟨o1.2.1, fun l' e => by cases e⟩
    | some g =>
      have hg' : ∀ g' ∈ l ++ [g], okG g' := fun g' hm => by
        rcases List.mem_append.mp hm with hm | hm
        · exact hg g' hm
        · rw [List.mem_singleton.mp hm]; exact o2 g hr
      have hlen : (l ++ [g]).length = l.length + 1 := by rw [List.length_append]; rfl
      dsimp only
      by_cases c0 : (rlS t k).1.1 = 0
      · rw [if_pos c0]
        refine ⟨Nat.zero_le _, fun l' e => ?_⟩
        rw [← Option.some.inj e]
        exact ⟨by omega, hg'⟩
      · rw [if_neg c0]
        by_cases c6 : (rlS t k).1.1 = 6
        · rw [if_pos c6]
          exact ih (nxT t (rlS t k).1) (l ++ [g]) (nx_ok o1) (by omega) hg'
        · rw [if_neg c6]
          exact ⟨o1.2.1, fun l' e => by cases e⟩
theorem kne {a b : Nat} (ha : a ≤ 6) (hb : b ≤ 6) (h : a ≠ b) : ¬ nI a = nI b := fun e => h ((nI_eq (by omega) (by omega)).mp e)
/-! the class -/
def frTL (σ σ' : Mem) : Prop := ∀ a, a ≠ 45 → a ≠ 49 → a ≠ 50 → a ≠ 51 → σ' a = σ a
theorem frT.l {σ σ' : Mem} (h : frT σ σ') : frTL σ σ' := fun a h1 _ _ _ => h.1 a h1
theorem frTL.tr {a b c : Mem} (h : frTL a b) (h' : frTL b c) : frTL a c := fun x h1 h2 h3 h4 => (h' x h1 h2 h3 h4).trans (h x h1 h2 h3 h4)
theorem t_nx {t : List Int32} {k : TK} {σ : Mem} (ht : t.length ≤ 120) (hk : okK4 t k) (hp : tpC t σ) (h : tokC k σ) : ∃ σ', FX8_nextToken [.ref 45] σ = some (none, σ') ∧ tokC (nxT t k) σ' ∧ frT σ σ' := t_next ht hk.2.2.1 hp h.2.2.2
theorem o49 : (sh 49).1 = 0 := by rw [sh49]
theorem repCo.t {l : List Lg} {σ σ' : Mem} (h : repCo 49 l σ) (f : frT σ σ') : repCo 49 l σ' := h.fr (fun b hb => f.1 b (by omega))
theorem t_rsb {t : List Int32} {k : TK} {σ : Mem} (ht : t.length ≤ 120) (hk : okK4 t k) (hp : tpC t σ) (h : tokC k σ) : ∃ σ', FX8_readSettingBehindSlash [.ref 45] σ = some (some (.int (if k.1 = 5 ∧ (nxT t k).1 = 2 then 1 else 0)), σ') ∧ tokC (if k.1 = 5 then nxT t k else k) σ' ∧ frT σ σ' := by
  rw [enX8_readSettingBehindSlash, oc o45, h.1]
  by_cases c : k.1 = 5
  · rw [if_pos (show nI k.1 = 5 by rw [c]; rfl), if_pos c, oc o45]
    obtain ⟨σ1, e1, k1, f1⟩ := t_nx ht hk hp h
    rw [e1, rV, oc o45, k1.1, zr0, zr1]
    refine ⟨σ1, ?_, k1, f1⟩
    by_cases c2 : (nxT t k).1 = 2
    · rw [if_pos (show nI (nxT t k).1 = 2 by rw [c2]; rfl), if_pos ⟨c, c2⟩]
    · rw [if_neg (show ¬ nI (nxT t k).1 = 2 from kne (b := 2) (nx_ok hk).1 (by decide) c2), if_neg (fun z => c2 z.2)]
  · rw [if_neg (show ¬ nI k.1 = 5 from kne (b := 5) hk.1 (by decide) c), if_neg c, if_neg (fun z => c z.1), zr0]
    exact ⟨σ, rfl, h, frT.rf σ⟩
theorem addM_tok {k : TK} {n : Nat} {g : Lg} {σ : Mem} (h : tokC k σ) : tokC k (addM 49 n g σ) := by
  unfold tokC at h ⊢
  rw [addM_fr (by omega)]
  exact h
theorem addM_tp {t : List Int32} {n : Nat} {g : Lg} {σ : Mem} (h : tpC t σ) : tpC t (addM 49 n g σ) := by
  unfold tpC at h ⊢
  rw [addM_fr (by omega), addM_fr (by omega)]
  exact h
theorem addM_frL {n : Nat} {g : Lg} {σ : Mem} : frTL σ (addM 49 n g σ) := fun a h1 h2 h3 h4 => addM_fr (by omega)
theorem t_fiL {t : List Int32} {k : TK} {l : List Lg} {v0 v1 v2 : Int32} {σ : Mem} (ht : t.length ≤ 120) (hk : okK4 t k) (hl : l.length < 6) (hp : tpC t σ) (h : tokC k σ) (hr : repCo 49 l σ) : ∃ σ', am_go CX8_readLeg 75 [.ref 45, .ref 49, .int v0, .int v1, .int v2, .null] [] σ = some (some (.int (if (fiS t k v0 v1 v2).2.isSome = true then 1 else 0)), σ') ∧ tokC (fiS t k v0 v1 v2).1 σ' ∧ tpC t σ' ∧ (∀ g, (fiS t k v0 v1 v2).2 = some g → repCo 49 (l ++ [g]) σ') ∧ frTL σ σ' := by
  rw [blX8_readLeg_75, oc o45, h.1]
  unfold fiS
  by_cases c : k.1 = 3
  · rw [if_pos (show nI k.1 = 3 by rw [c]; rfl), if_pos c, oc o45]
    obtain ⟨σ1, e1, k1, f1⟩ := t_nx ht hk hp h
    have o1 := nx_ok hk
    rw [e1, rV, oc o45, k1.1]
    by_cases c2 : (nxT t k).1 = 4
    · rw [if_pos (show nI (nxT t k).1 = 4 by rw [c2]; rfl), if_pos c2, oc o45, oc o45]
      obtain ⟨σ2, e2, k2, f2⟩ := t_nx ht o1 (hp.fr f1) k1
      have r2 := (hr.t f1).t f2
      rw [e2, rV, oc o49, k1.2.1 (Or.inr c2), show FX1_addLeg [.ref 49, .int v0, .int v1, .int v2, .int (nxT t k).2.1] σ2 = _ from t_addLeg (g := (v0, v1, v2, (nxT t k).2.1)) o49 r2.1 hl, rV, zr1]
      refine ⟨_, rfl, addM_tok k2, addM_tp ((hp.fr f1).fr f2), fun g e => ?_, (f1.tr f2).l.tr addM_frL⟩
      rw [← Option.some.inj e]
      exact addM_rep r2
    · rw [if_neg (show ¬ nI (nxT t k).1 = 4 from kne (b := 4) o1.1 (by decide) c2), if_neg c2, zr0]
      exact ⟨σ1, rfl, k1, hp.fr f1, fun g e => (by cases e), f1.l⟩
  · rw [if_neg (show ¬ nI k.1 = 3 from kne (b := 3) hk.1 (by decide) c), if_neg c, oc o49, show FX1_addLeg [.ref 49, .int v0, .int v1, .int v2, .int 1] σ = _ from t_addLeg (g := (v0, v1, v2, 1)) o49 hr.1 hl, rV, zr1]
    refine ⟨_, rfl, addM_tok h, addM_tp hp, fun g e => ?_, addM_frL⟩
    rw [← Option.some.inj e]
    exact addM_rep hr
theorem t_readLeg {t : List Int32} {k : TK} {l : List Lg} {σ : Mem} (ht : t.length ≤ 120) (hk : okK4 t k) (hl : l.length < 6) (hp : tpC t σ) (h : tokC k σ) (hr : repCo 49 l σ) : ∃ σ', FX8_readLeg [.ref 45, .ref 49] σ = some (some (.int (if (rlS t k).2.isSome = true then 1 else 0)), σ') ∧ tokC (rlS t k).1 σ' ∧ tpC t σ' ∧ (∀ g, (rlS t k).2 = some g → repCo 49 (l ++ [g]) σ') ∧ frTL σ σ' := by
  have o1 := nx_ok hk
  have o2 := nx_ok o1
  have o3 := nx_ok o2
  have o4 := nx_ok o3
  rw [enX8_readLeg, oc o45, h.1]
  unfold rlS
  by_cases c0 : k.1 = 2
  · rw [if_pos (show nI k.1 = 2 by rw [c0]; rfl), if_pos c0, oc o45, oc o45, oc o45, oc o45, h.2.1 (Or.inl c0)]
    obtain ⟨σ1, e1, k1, f1⟩ := t_nx ht hk hp h
    have p1 := hp.fr f1
    rw [e1, rV, oc o45, k1.1]
    by_cases c1 : (nxT t k).1 = 5
    · rw [if_pos (show nI (nxT t k).1 = 5 by rw [c1]; rfl), if_pos c1, oc o45]
      obtain ⟨σ2, e2, k2, f2⟩ := t_rsb ht o1 p1 k1
      have p2 := p1.fr f2
      rw [if_pos c1] at k2
      rw [e2, rI, ifb]
      by_cases c2 : (nxT t (nxT t k)).1 = 2
      · rw [if_pos ⟨c1, c2⟩, if_pos c2, oc o45, oc o45, k2.2.1 (Or.inl c2)]
        obtain ⟨σ3, e3, k3, f3⟩ := t_nx ht o2 p2 k2
        have p3 := p2.fr f3
        rw [e3, rV, oc o45]
        obtain ⟨σ4, e4, k4, f4⟩ := t_rsb ht o3 p3 k3
        have p4 := p3.fr f4
        rw [e4, rI, ifb]
        by_cases c3 : (nxT t (nxT t (nxT t k))).1 = 5
        · rw [if_pos c3] at k4 ⊢
          by_cases c4 : (nxT t (nxT t (nxT t (nxT t k)))).1 = 2
          · rw [if_pos ⟨c3, c4⟩, if_pos c4, oc o45, oc o45, k4.2.1 (Or.inl c4)]
            obtain ⟨σ5, e5, k5, f5⟩ := t_nx ht o4 p4 k4
            rw [e5, rV]
            have fA := (((f1.tr f2).tr f3).tr f4).tr f5
            obtain ⟨σ6, e6, q1, q2, q3, q4⟩ := t_fiL (v0 := k.2.1) (v1 := (nxT t (nxT t k)).2.1) (v2 := (nxT t (nxT t (nxT t (nxT t k)))).2.1) ht (nx_ok o4) hl (p4.fr f5) k5 (hr.t fA)
            exact ⟨σ6, e6, q1, q2, q3, fA.l.tr q4⟩
          · rw [if_neg (fun z => c4 z.2), if_neg c4, zr0]
            exact ⟨σ4, rfl, k4, p4, fun g e => (by cases e), (((f1.tr f2).tr f3).tr f4).l⟩
        · rw [if_neg c3] at k4 ⊢
          rw [if_neg (fun z => c3 z.1), zr0]
          exact ⟨σ4, rfl, k4, p4, fun g e => (by cases e), (((f1.tr f2).tr f3).tr f4).l⟩
      · rw [if_neg (fun z => c2 z.2), if_neg c2, zr0]
        exact ⟨σ2, rfl, k2, p2, fun g e => (by cases e), (f1.tr f2).l⟩
    · rw [if_neg (show ¬ nI (nxT t k).1 = 5 from kne (b := 5) o1.1 (by decide) c1), if_neg c1]
      obtain ⟨σ6, e6, q1, q2, q3, q4⟩ := t_fiL (v0 := k.2.1) (v1 := k.2.1) (v2 := k.2.1) ht o1 hl p1 k1 (hr.t f1)
      exact ⟨σ6, e6, q1, q2, q3, f1.l.tr q4⟩
  · rw [if_neg (show ¬ nI k.1 = 2 from kne (b := 2) hk.1 (by decide) c0), if_neg c0, zr0]
    exact ⟨σ, rfl, h, hp, fun g e => (by cases e), fun _ _ _ _ _ => rfl⟩
theorem t_rc16 {t : List Int32} (ht : t.length ≤ 120) : ∀ (m : Nat) (k : TK) (l : List Lg) (σ : Mem), l.length + m = 6 → okK4 t k → tpC t σ → tokC k σ → repCo 49 l σ → ∃ σ', am_go CX8_readCourse 16 [.ref 45, .ref 49, .int (nI l.length)] [] σ = some (some (.int (if (rcS t m k l).1.isSome = true then -1 else nI (rcS t m k l).2)), σ') ∧ (∀ l', (rcS t m k l).1 = some l' → repCo 49 l' σ') ∧ frTL σ σ' := by
  intro m
  induction m with
  | zero =>
    intro k l σ hl hk hp h hr
    have : l.length = 6 := by omega
    rw [blX8_readCourse_16, this, if_pos (by decide), oc o45, h.2.2.1, rcS]
    exact ⟨σ, rfl, fun l' e => (by cases e), fun _ _ _ _ _ => rfl⟩
  | succ m ih =>
    intro k l σ hl hk hp h hr
    obtain ⟨σ1, e1, k1, p1, r1, f1⟩ := t_readLeg ht hk (by omega) hp h hr
    have o1 := (rl_ok hk).1
    rw [blX8_readCourse_16, if_neg (show ¬ (6 : Int32) ≤ nI l.length from nI_ge (b := 6) (by omega) (by decide)), oc o45, e1, rI, ifb]
    cases hq : (rlS t k).2 with
    | none =>
      rw [rc_none hq, if_neg (by decide), oc o45, k1.2.2.1]
      exact ⟨σ1, rfl, fun l' e => (by cases e), f1⟩
    | some g =>
      have r1' := r1 g hq
      rw [if_pos (by rfl), oc o45, k1.1]
      by_cases c0 : (rlS t k).1.1 = 0
      · rw [if_pos (show nI (rlS t k).1.1 = 0 by rw [c0]; rfl), rc_end hq c0]
        refine ⟨σ1, rfl, fun l' e => ?_, f1⟩
        rw [← Option.some.inj e]
        exact r1'
      · rw [if_neg (show ¬ nI (rlS t k).1.1 = 0 from kne (b := 0) o1.1 (by decide) c0), oc o45]
        by_cases c6 : (rlS t k).1.1 = 6
        · rw [if_pos (show nI (rlS t k).1.1 = 6 by rw [c6]; rfl), rc_go hq c0 c6, oc o45]
          obtain ⟨σ2, e2, k2, f2⟩ := t_nx ht o1 p1 k1
          have hlen : (l ++ [g]).length = l.length + 1 := by rw [List.length_append]; rfl
          obtain ⟨σ3, e3, q3, f3⟩ := ih (nxT t (rlS t k).1) (l ++ [g]) σ2 (by omega) (nx_ok o1) (p1.fr f2) k2 (r1'.t f2)
          rw [hlen] at e3
          rw [e2, rV, nI_1, e3]
          exact ⟨σ3, rfl, q3, (f1.tr f2.l).tr f3⟩
        · rw [if_neg (show ¬ nI (rlS t k).1.1 = 6 from kne (b := 6) o1.1 (by decide) c6), rc_bad hq c0 c6, oc o45, k1.2.2.1]
          exact ⟨σ1, rfl, fun l' e => (by cases e), f1⟩
/-- a text read -/
def prsS (t : List Int32) : Option (List Lg) × Nat := rcS t 6 (tkS t 0) []
theorem prs_ok (t : List Int32) : (prsS t).2 ≤ t.length ∧ ∀ l', (prsS t).1 = some l' → okC l' := rc_ok 6 (tkS t 0) [] (tk_ok (Nat.zero_le _)) (by decide) (fun g hg => by cases hg)
theorem t_readCourse {t : List Int32} {σ : Mem} (ht : t.length ≤ 120) (hp : tpC t σ) : ∃ σ', FX8_readCourse [.ref 45, .ref 49] σ = some (some (.int (if (prsS t).1.isSome = true then -1 else nI (prsS t).2)), σ') ∧ (∀ l', (prsS t).1 = some l' → repCo 49 l' σ') ∧ frTL σ σ' := by
  have p0 : tpC t (setM (setM σ 49 2 0) 45 5 0) := by
    unfold tpC at hp ⊢
    rw [sM_i (by decide), sM_a (by decide), sM_a (by decide), sM_a (by decide)]
    exact hp
  obtain ⟨σ1, e1, k1, f1⟩ := t_next (i := 0) ht (Nat.zero_le _) p0 (by rw [sM_eq]; rfl)
  have r0 : repCo 49 [] (setM (setM σ 49 2 0) 45 5 0) := ⟨by rw [sM_a (by decide), sM_eq]; rfl, fun i g hg => by cases hg⟩
  obtain ⟨σ2, e2, q2, f2⟩ := t_rc16 ht 6 (tkS t 0) [] σ1 rfl (tk_ok (Nat.zero_le _)) (p0.fr f1) k1 (r0.t f1)
  rw [enX8_readCourse, oc o49, oc o45, oc o45, e1, rV, show am_go CX8_readCourse 16 [.ref 45, .ref 49, .int 0] [] σ1 = _ from e2]
  exact ⟨σ2, rfl, q2, fun a h1 h2 h3 h4 => by rw [f2 a h1 h2 h3 h4, f1.1 a h1, sM_a h1, sM_a h2]⟩
/-! the reference -/
theorem rc_inj {a b : Nat} (ha : a ≤ 6) (hb : b ≤ 6) (h : a ≠ b) : ¬ nI (rcN a) = nI (rcN b) := by
  have key : ∀ a : Fin 7, ∀ b : Fin 7, a.val ≠ b.val → rcN a.val ≠ rcN b.val ∧ rcN a.val ≤ 6 ∧ rcN b.val ≤ 6 := by decide +kernel
  obtain ⟨k1, k2, k3⟩ := key ⟨a, by omega⟩ ⟨b, by omega⟩ h
  exact kne k2 k3 k1
theorem m_nx {t : List Int32} {k : TK} {σ : Mem} (ht : t.length ≤ 120) (hk : okK4 t k) (hp : tpM t σ) (h : tokM k σ) : ∃ σ', FX10_nextToken [.ref 160] σ = some (none, σ') ∧ tokM (nxT t k) σ' ∧ frU σ σ' := m_next ht hk.2.2.1 hp h.2.2.2
theorem m_is1 {k : TK} {q : Nat} {σ : Mem} (h : tokM k σ) (e : k.1 = q) : FX10_is [.ref 160, .int (nI (rcN q))] σ = some (some (.int 1), σ) := by
  rw [enX10_is, oc m9, h.1, e, if_pos rfl, zr1]
theorem m_is0 {t : List Int32} {k : TK} {q : Nat} {σ : Mem} (hk : okK4 t k) (hq : q ≤ 6) (h : tokM k σ) (e : k.1 ≠ q) : FX10_is [.ref 160, .int (nI (rcN q))] σ = some (some (.int 0), setM σ 160 30 (nI k.2.2.1)) := by
  rw [enX10_is, oc m9, h.1, if_neg (rc_inj hk.1 hq e), oc m9, oc m9, zr0, h.2.2.1]
def frV (n : Nat) (σ σ' : Mem) : Prop := (∀ a, a ≠ 160 → a ≠ 181 → a ≠ 182 → σ' a = σ a) ∧ (∀ j, (j < 26 ∨ 32 ≤ j) → σ' 160 j = σ 160 j) ∧ (∀ i, i < 3 * n → σ' 182 i = σ 182 i) ∧ ∀ i, i < n → σ' 181 i = σ 181 i
theorem frV.rf (n : Nat) (σ : Mem) : frV n σ σ := ⟨fun _ _ _ _ => rfl, fun _ _ => rfl, fun _ _ => rfl, fun _ _ => rfl⟩
theorem frV.tr {n : Nat} {a b c : Mem} (h : frV n a b) (h' : frV n b c) : frV n a c := ⟨fun x h1 h2 h3 => (h'.1 x h1 h2 h3).trans (h.1 x h1 h2 h3), fun j hj => (h'.2.1 j hj).trans (h.2.1 j hj), fun i hi => (h'.2.2.1 i hi).trans (h.2.2.1 i hi), fun i hi => (h'.2.2.2 i hi).trans (h.2.2.2 i hi)⟩
theorem frV.dn {n m : Nat} {σ σ' : Mem} (h : frV n σ σ') (hm : m ≤ n) : frV m σ σ' := ⟨h.1, h.2.1, fun i hi => h.2.2.1 i (by omega), fun i hi => h.2.2.2 i (by omega)⟩
theorem frU.v {n : Nat} {σ σ' : Mem} (h : frU σ σ') : frV n σ σ' := ⟨fun a h1 _ _ => h.1 a h1, fun j hj => h.2 j (by omega), fun i _ => by rw [h.1 182 (by decide)], fun i _ => by rw [h.1 181 (by decide)]⟩
theorem frV.s30 {n i : Nat} {σ : Mem} {v : Int32} (h : i = 30 ∨ i = 31) : frV n σ (setM σ 160 i v) := ⟨fun a h1 _ _ => sM_a h1, fun j hj => sM_i (by omega), fun i _ => by rw [sM_a (by decide)], fun i _ => by rw [sM_a (by decide)]⟩
theorem frV.s181 {n : Nat} {σ : Mem} {v : Int32} : frV n σ (setM σ 181 n v) := ⟨fun a _ h1 _ => sM_a h1, fun j hj => by rw [sM_a (by decide)], fun i _ => by rw [sM_a (by decide)], fun i hi => sM_i (by omega)⟩
theorem frV.s182 {n z : Nat} {σ : Mem} {v : Int32} : frV n σ (setM σ 182 (3 * n + z) v) := ⟨fun a _ _ h1 => sM_a h1, fun j hj => by rw [sM_a (by decide)], fun i hi => sM_i (by omega), fun i hi => by rw [sM_a (by decide)]⟩
theorem tok30 {k : TK} {σ : Mem} {i : Nat} {v : Int32} (h : tokM k σ) (hi : i = 30 ∨ i = 31) : tokM k (setM σ 160 i v) := by
  unfold tokM at h ⊢
  rw [sM_i (by omega), sM_i (by omega), sM_i (by omega), sM_i (by omega)]
  exact h
theorem tokO {k : TK} {σ : Mem} {a i : Nat} {v : Int32} (h : tokM k σ) (ha : 160 ≠ a) : tokM k (setM σ a i v) := by
  unfold tokM at h ⊢
  rw [sM_a ha]
  exact h
theorem tpM.s30 {t : List Int32} {σ : Mem} {i : Nat} {v : Int32} (h : tpM t σ) (hi : i = 30 ∨ i = 31) : tpM t (setM σ 160 i v) := by
  unfold tpM at h ⊢
  rw [sM_i (by omega), sM_a (by decide)]
  exact h
theorem tpM.o {t : List Int32} {σ : Mem} {a i : Nat} {v : Int32} (h : tpM t σ) (ha : 160 ≠ a) (ha' : 171 ≠ a) : tpM t (setM σ a i v) := by
  unfold tpM at h ⊢
  rw [sM_a ha, sM_a ha']
  exact h
def lgR (n : Nat) (g : Lg) (σ : Mem) : Prop := σ 182 (3 * n) = g.1 ∧ σ 182 (3 * n + 1) = g.2.1 ∧ σ 182 (3 * n + 2) = g.2.2.1 ∧ σ 181 n = g.2.2.2
theorem m_fiL {t : List Int32} {n : Nat} {k : TK} {v0 v1 v2 : Int32} {σ : Mem} (ht : t.length ≤ 120) (hn : n < 6) (hk : okK4 t k) (hp : tpM t σ) (h : tokM k σ) (h31 : σ 160 31 = nI n) (hv : σ 182 (3 * n) = v0 ∧ σ 182 (3 * n + 1) = v1 ∧ σ 182 (3 * n + 2) = v2) : ∃ σ', o_cls 160 9 (o_ix 100 (rf 160 32) (nI n) (o_cls 160 9 ((if ((setM σ (rf 160 32) (nI n).toNatClampNeg (1 : Int32)) 160 27) = (2 : Int32) then o_cls 160 9 (o_rV (FX10_nextToken [.ref 160] (setM σ (rf 160 32) (nI n).toNatClampNeg (1 : Int32))) (fun m1 => o_cls 160 9 (o_rI (FX10_is [.ref 160, .int (3 : Int32)] m1) (fun r3 m2 => (if r3 = 0 then o_zr (0 : Int32) (some (some (.int (0 : Int32)), m2)) else o_cls 160 9 (o_cls 160 9 (o_ix 100 (rf 160 32) (nI n) (o_cls 160 9 (o_rV (FX10_nextToken [.ref 160] (setM m2 (rf 160 32) (nI n).toNatClampNeg (m2 160 29))) (fun m4 => o_cls 160 9 (o_cls 160 9 (o_zr (1 : Int32) (some (some (.int (1 : Int32)), (setM m4 160 31 ((m4 160 31) + (1 : Int32))))))))))))))))) else o_cls 160 9 (o_cls 160 9 (o_zr (1 : Int32) (some (some (.int (1 : Int32)), (setM (setM σ (rf 160 32) (nI n).toNatClampNeg (1 : Int32)) 160 31 (((setM σ (rf 160 32) (nI n).toNatClampNeg (1 : Int32)) 160 31) + (1 : Int32))))))))))) = some (some (.int (if (fiS t k v0 v1 v2).2.isSome = true then 1 else 0)), σ') ∧ tokM (fiS t k v0 v1 v2).1 σ' ∧ tpM t σ' ∧ ((fiS t k v0 v1 v2).2 = none → σ' 160 30 = nI (fiS t k v0 v1 v2).1.2.2.1) ∧ (∀ g, (fiS t k v0 v1 v2).2 = some g → σ' 160 31 = nI (n + 1) ∧ lgR n g σ') ∧ frV n σ σ' := by
  obtain ⟨τ, h1⟩ : ∃ τ, τ = setM σ 181 n 1 := ⟨_, rfl⟩
  have kt : tokM k τ := by rw [h1]; exact tokO h (by decide)
  have pt : tpM t τ := by rw [h1]; exact hp.o (by decide) (by decide)
  have vt : τ 182 = σ 182 := by rw [h1, sM_a (by decide)]
  have t31 : τ 160 31 = nI n := by rw [h1, sM_a (by decide)]; exact h31
  have t181 : τ 181 n = 1 := by rw [h1, sM_eq]
  have ft : frV n σ τ := by rw [h1]; exact frV.s181
  rw [rf160_32, cl n (by omega), ← h1, oc m9, xi hn sh181, oc m9, kt.1]
  unfold fiS
  by_cases c : k.1 = 3
  · rw [if_pos (show nI (rcN k.1) = 2 by rw [c]; rfl), if_pos c, oc m9]
    obtain ⟨σ1, e1, k1, f1⟩ := m_nx ht hk pt kt
    have o1 := nx_ok hk
    rw [e1, rV, oc m9]
    by_cases c2 : (nxT t k).1 = 4
    · rw [show FX10_is [.ref 160, .int 3] σ1 = _ from m_is1 k1 c2, rI, if_neg (by decide), if_pos c2, oc m9, oc m9, xi hn sh181, oc m9, k1.2.1 (Or.inr c2)]
      obtain ⟨σ2, h2⟩ : ∃ σ2, σ2 = setM σ1 181 n (nxT t k).2.1 := ⟨_, rfl⟩
      have p2 : tpM t σ2 := by rw [h2]; exact (pt.fr f1).o (by decide) (by decide)
      have k2 : tokM (nxT t k) σ2 := by rw [h2]; exact tokO k1 (by decide)
      obtain ⟨σ3, e3, k3, f3⟩ := m_nx ht o1 p2 k2
      have q31 : σ3 160 31 = nI n := by rw [f3.2 31 (by omega), h2, sM_a (by decide), f1.2 31 (by omega)]; exact t31
      rw [← h2, e3, rV, oc m9, oc m9, zr1, q31, nI_1]
      have v3 : σ3 182 = σ 182 := by rw [f3.1 182 (by decide), h2, sM_a (by decide), f1.1 182 (by decide), vt]
      refine ⟨_, rfl, tok30 k3 (Or.inr rfl), (p2.fr f3).s30 (Or.inr rfl), fun e => (by cases e), fun g e => ?_, ?_⟩
      · rw [← Option.some.inj e]
        refine ⟨by rw [sM_eq], ?_, ?_, ?_, ?_⟩
        · rw [sM_a (by decide), v3]; exact hv.1
        · rw [sM_a (by decide), v3]; exact hv.2.1
        · rw [sM_a (by decide), v3]; exact hv.2.2
        · rw [sM_a (by decide), f3.1 181 (by decide), h2, sM_eq]
      · have g2 : frV n σ1 σ2 := by rw [h2]; exact frV.s181
        exact (((ft.tr f1.v).tr g2).tr f3.v).tr (frV.s30 (Or.inr rfl))
    · rw [show FX10_is [.ref 160, .int 3] σ1 = _ from m_is0 (q := 4) o1 (by decide) k1 c2, rI, if_pos rfl, zr0, if_neg c2]
      exact ⟨_, rfl, tok30 k1 (Or.inl rfl), (pt.fr f1).s30 (Or.inl rfl), fun _ => (by rw [sM_eq]), fun g e => (by cases e), (ft.tr f1.v).tr (frV.s30 (Or.inl rfl))⟩
  · rw [if_neg (show ¬ nI (rcN k.1) = 2 from rc_inj (b := 3) hk.1 (by decide) c), if_neg c, oc m9, oc m9, zr1, t31, nI_1]
    refine ⟨_, rfl, tok30 kt (Or.inr rfl), pt.s30 (Or.inr rfl), fun e => (by cases e), fun g e => ?_, ft.tr (frV.s30 (Or.inr rfl))⟩
    rw [← Option.some.inj e]
    refine ⟨by rw [sM_eq], ?_, ?_, ?_, ?_⟩
    · rw [sM_a (by decide), vt]; exact hv.1
    · rw [sM_a (by decide), vt]; exact hv.2.1
    · rw [sM_a (by decide), vt]; exact hv.2.2
    · rw [sM_a (by decide)]; exact t181
