/-! a course fired -/
abbrev FS : Type := KS × Nat × Nat × Nat
def fst1 (s : FS) : FS := ((stepS s.1).1, s.2.1 + 1, if (stepS s.1).2 = 0 ∨ s.2.2.1 ≠ 0 then s.2.2 else (s.2.1 + 1, (stepS s.1).2.toNatClampNeg))
def okF (s : FS) : Prop := okK s.1 ∧ (s.2.2.1 = 0 → s.2.2.2 = 0) ∧ (s.2.2.1 ≠ 0 → s.2.2.2 ≠ 0) ∧ s.2.2.1 ≤ s.2.1 ∧ s.2.2.2 < 2 ^ s.1.2.2.1.length
def atI (s : FS) : Int32 := if s.2.2.1 = 0 then -1 else nI s.2.2.1
def loI (s : FS) : Int32 := if s.2.2.1 = 0 then -1 else lowF s.2.2.2 8 0
def repF (s : FS) (σ : Mem) : Prop := σ 52 0 = nI s.2.1 ∧ σ 52 1 = atI s ∧ σ 52 2 = loI s
def repG (s : FS) (σ : Mem) : Prop := σ 160 36 = atI s ∧ σ 160 37 = nI s.2.2.2
theorem step_len (S : KS) : (stepS S).1.2.2.1.length = S.2.2.1.length := goLs_len _ _ _ _ _
theorem okF.step {s : FS} (h : okF s) : okF (fst1 s) := by
  obtain ⟨h1, h2, h3, h4, h5⟩ := h
  refine ⟨h1.step, ?_⟩
  unfold fst1
  show (_ → _) ∧ (_ → _) ∧ _ ∧ _ < 2 ^ (stepS s.1).1.2.2.1.length
  rw [step_len]
  by_cases hc : (stepS s.1).2 = 0 ∨ s.2.2.1 ≠ 0
  · rw [if_pos hc]
    exact ⟨h2, h3, by show s.2.2.1 ≤ s.2.1 + 1; omega, h5⟩
  · rw [if_neg hc]
    obtain ⟨m, hm, e⟩ := step_bits h1.1
    have h8 : 2 ^ s.1.2.2.1.length ≤ 2 ^ 8 := Nat.pow_le_pow_right (by decide) h1.1.1
    have e' : (stepS s.1).2.toNatClampNeg = m := by rw [e, cl m (by omega)]
    have hm0 : m ≠ 0 := fun e0 => hc (Or.inl (by rw [e, e0]; rfl))
    refine ⟨fun e0 => ?_, fun _ => ?_, Nat.le_refl _, ?_⟩
    · exact absurd (show s.2.1 + 1 = 0 from e0) (by omega)
    · show (stepS s.1).2.toNatClampNeg ≠ 0
      rw [e']; exact hm0
    · show (stepS s.1).2.toNatClampNeg < _
      rw [e']; exact hm
theorem nI_m1 {n : Nat} (h : n < 1000) : ¬ nI n = -1 := fun e => by
  have := nI_pos' (n := n) (by omega)
  rw [e] at this
  exact absurd this (by decide)
theorem t_note {s : FS} {σ : Mem} (hs : okF s) (hg : s.2.1 < 900) (h : repF s σ) : ∃ σ', FX2_note [.ref 52, .int (stepS s.1).2] σ = some (none, σ') ∧ repF (fst1 s) σ' ∧ ∀ a, a ≠ 52 → σ' a = σ a := by
  obtain ⟨h1, h2, h3, h4, h5⟩ := hs
  obtain ⟨g0, g1, g2⟩ := h
  have o52 : (sh 52).1 = 1 := by rw [sh52]
  by_cases hz : (stepS s.1).2 = 0
  · refine ⟨setM σ 52 0 (nI (s.2.1 + 1)), by rw [enX2_note, oc o52, oc o52, if_pos hz, g0, nI_1], ?_, fun a ha => sM_a ha⟩
    have e : fst1 s = ((stepS s.1).1, s.2.1 + 1, s.2.2) := by unfold fst1; rw [if_pos (Or.inl hz)]
    rw [e]
    exact ⟨sM_eq _ _ _ _, by rw [sM_i (by decide)]; exact g1, by rw [sM_i (by decide)]; exact g2⟩
  · by_cases ha : s.2.2.1 = 0
    · obtain ⟨m, hm, em⟩ := step_bits h1.1
      have h8 : 2 ^ s.1.2.2.1.length ≤ 2 ^ 8 := Nat.pow_le_pow_right (by decide) h1.1.1
      have g1' : σ 52 1 = -1 := by rw [g1]; unfold atI; rw [if_pos ha]
      have e : fst1 s = ((stepS s.1).1, s.2.1 + 1, s.2.1 + 1, m) := by
        unfold fst1
        rw [if_neg (fun hc => by rcases hc with hc | hc; exact hz hc; exact hc ha), em, cl m (by omega)]
      refine ⟨setM (setM (setM σ 52 0 (nI (s.2.1 + 1))) 52 1 (nI (s.2.1 + 1))) 52 2 (lowF m 8 0), ?_, ?_, fun a ha => by rw [sM_a ha, sM_a ha, sM_a ha]⟩
      · rw [enX2_note, oc o52, oc o52, if_neg hz, oc o52, g0, nI_1, sM_i (show 1 ≠ 0 by decide), g1', if_pos rfl, oc o52, oc o52, sM_eq, enX2_lowestBit, em, show am_go CX2_lowestBit 2 [.int (nI m), .int 0] [] (setM (setM σ 52 0 (nI (s.2.1 + 1))) 52 1 (nI (s.2.1 + 1))) = _ from t_low (by omega) 8 0 rfl, rI, oc o52]
      · rw [e]
        refine ⟨?_, ?_, ?_⟩
        · rw [sM_i (by decide), sM_i (by decide), sM_eq]
        · rw [sM_i (by decide), sM_eq]
          show _ = if s.2.1 + 1 = 0 then _ else _
          rw [if_neg (by omega)]
        · rw [sM_eq]
          show _ = if s.2.1 + 1 = 0 then _ else _
          rw [if_neg (by omega)]
    · have g1' : σ 52 1 = nI s.2.2.1 := by rw [g1]; unfold atI; rw [if_neg ha]
      have e : fst1 s = ((stepS s.1).1, s.2.1 + 1, s.2.2) := by unfold fst1; rw [if_pos (Or.inr ha)]
      refine ⟨setM σ 52 0 (nI (s.2.1 + 1)), by rw [enX2_note, oc o52, oc o52, if_neg hz, oc o52, g0, nI_1, sM_i (show 1 ≠ 0 by decide), g1', if_neg (nI_m1 (by omega))], ?_, fun a ha => sM_a ha⟩
      rw [e]
      exact ⟨sM_eq _ _ _ _, by rw [sM_i (by decide)]; exact g1, by rw [sM_i (by decide)]; exact g2⟩
def frun (st : Prop) [Decidable st] : Nat → FS → FS × Bool
  | 0, s => (s, false)
  | m + 1, s => if st ∧ (fst1 s).2.2.1 ≠ 0 then (fst1 s, true) else frun st m (fst1 s)
theorem frun_gone (st : Prop) [Decidable st] : ∀ m s, (frun st m s).1.2.1 ≤ s.2.1 + m := by
  intro m
  induction m with
  | zero => intro s; exact Nat.le_refl _
  | succ m ih =>
    intro s
    rw [frun]
    split
    · show s.2.1 + 1 ≤ _; omega
    · have := ih (fst1 s)
      have e : (fst1 s).2.1 = s.2.1 + 1 := rfl
      omega
theorem frun_ok (st : Prop) [Decidable st] : ∀ m s, okF s → okF (frun st m s).1 := by
  intro m
  induction m with
  | zero => intro s h; exact h
  | succ m ih =>
    intro s h
    rw [frun]
    split
    · exact h.step
    · exact ih _ h.step
theorem t_r60 {k b j n : Nat} {x3 : Int32} (hk : (sh k).1 = 2) (hk14 : k + 14 ≤ 43) (hb : (sh b).1 = 0) (hb' : 52 < b) (hj : j < 6) (hn : n ≤ 9) : ∀ (m i : Nat) (s : FS) (σ : Mem), i + m = n → okF s → s.2.1 + m ≤ 800 → repK k s.1 σ → repF s σ → σ (b + 2) j = nI n → ∃ σ', am_go CX2_run 60 [.ref 52, .ref k, .ref b, .int x3, .int (nI j), .int (nI i)] [] σ = (if (frun (x3 ≠ 0) m s).2 = true then some (none, σ') else am_go CX2_run 18 [.ref 52, .ref k, .ref b, .int x3, .int (nI (j + 1)), .int (nI n)] [] σ') ∧ repK k (frun (x3 ≠ 0) m s).1.1 σ' ∧ repF (frun (x3 ≠ 0) m s).1 σ' ∧ ∀ a, ¬ (k ≤ a ∧ a < k + 14) → a ≠ 52 → σ' a = σ a := by
  intro m
  have o52 : (sh 52).1 = 1 := by rw [sh52]
  induction m with
  | zero =>
    intro i s σ hi hs hg h hf hc
    have : i = n := by omega
    subst this
    refine ⟨σ, ?_, h, hf, fun _ _ _ => rfl⟩
    rw [blX2_run_60, oc hb, c_r1 hb, ox (by rw [c_s1 hb]) (by rw [c_s1 hb]; exact hj), cl j (by omega), hc, if_pos (Int32.le_refl _), nI_1, frun, if_neg (fun e => by cases e)]
  | succ m ih =>
    intro i s σ hi hs hg h hf hc
    obtain ⟨σ1, e1, r1, f1⟩ := t_goStep hk hs.1.1 h
    have hf1 : repF s σ1 := by unfold repF at hf ⊢; rw [f1 52 (by omega)]; exact hf
    obtain ⟨σ2, e2, r2, f2⟩ := t_note hs (by omega) hf1
    have hk2 : repK k (fst1 s).1 σ2 := r1.fr hs.1.step.1.1 (fun a ha => f2 a (by omega))
    have hc2 : σ2 (b + 2) j = nI n := by rw [f2 _ (by omega), f1 _ (by omega)]; exact hc
    have hpre : am_go CX2_run 60 [.ref 52, .ref k, .ref b, .int x3, .int (nI j), .int (nI i)] [] σ = (if x3 = 0 then am_go CX2_run 60 [.ref 52, .ref k, .ref b, .int x3, .int (nI j), .int (nI (i + 1))] [] σ2 else if atI (fst1 s) = -1 then am_go CX2_run 60 [.ref 52, .ref k, .ref b, .int x3, .int (nI j), .int (nI (i + 1))] [] σ2 else some (none, σ2)) := by
      rw [blX2_run_60, oc hb, c_r1 hb, ox (by rw [c_s1 hb]) (by rw [c_s1 hb]; exact hj), cl j (by omega), hc, if_neg (nI_ge (by omega) (by omega)), oc hk, e1, rI, oc o52, e2, rV, oc o52, r2.2.1, nI_1]
    have hle := hs.step.2.2.2.1
    have hg1 : (fst1 s).2.1 = s.2.1 + 1 := rfl
    rw [hpre, frun]
    by_cases hx : x3 = 0
    · rw [if_pos hx, if_neg (show ¬ (x3 ≠ 0 ∧ (fst1 s).2.2.1 ≠ 0) from fun e => e.1 hx)]
      obtain ⟨σ3, e3, a3, b3, f3⟩ := ih (i + 1) (fst1 s) σ2 (by omega) hs.step (by omega) hk2 r2 hc2
      exact ⟨σ3, e3, a3, b3, fun a ha hb => by rw [f3 a ha hb, f2 a hb, f1 a (by omega)]⟩
    · rw [if_neg hx]
      by_cases ha : (fst1 s).2.2.1 = 0
      · rw [if_pos (show atI (fst1 s) = -1 by unfold atI; rw [if_pos ha]), if_neg (show ¬ (x3 ≠ 0 ∧ (fst1 s).2.2.1 ≠ 0) from fun e => e.2 ha)]
        obtain ⟨σ3, e3, a3, b3, f3⟩ := ih (i + 1) (fst1 s) σ2 (by omega) hs.step (by omega) hk2 r2 hc2
        exact ⟨σ3, e3, a3, b3, fun a ha hb => by rw [f3 a ha hb, f2 a hb, f1 a (by omega)]⟩
      · rw [if_neg (show ¬ atI (fst1 s) = -1 by unfold atI; rw [if_neg ha]; exact nI_m1 (by omega)), if_pos (show x3 ≠ 0 ∧ (fst1 s).2.2.1 ≠ 0 from ⟨hx, ha⟩)]
        exact ⟨σ2, (if_pos rfl).symm, hk2, r2, fun a ha hb => by rw [f2 a hb, f1 a (by omega)]⟩
def setG (g : Lg) (s : FS) : FS := ((s.1.1, (g.1, g.2.1, g.2.2.1), s.1.2.2), s.2)
theorem okF.setG {g : Lg} {s : FS} (h : okF s) (hg : okG g) : okF (setG g s) := by
  refine ⟨⟨h.1.1, fun z hz => ?_⟩, h.2⟩
  match z, hz with
  | 0, _ => exact hg.1
  | 1, _ => exact hg.2.1
  | 2, _ => exact hg.2.2.1
def flegs (st : Prop) [Decidable st] : List Lg → FS → FS
  | [], s => s
  | g :: l, s => if (frun st g.2.2.2.toNatClampNeg (setG g s)).2 = true then (frun st g.2.2.2.toNatClampNeg (setG g s)).1 else flegs st l (frun st g.2.2.2.toNatClampNeg (setG g s)).1
theorem flegs_ok (st : Prop) [Decidable st] : ∀ (l : List Lg) (s : FS), (∀ g ∈ l, okG g) → okF s → okF (flegs st l s) := by
  intro l
  induction l with
  | nil => intro s _ h; exact h
  | cons g l ih =>
    intro s hl h
    have h1 := frun_ok st g.2.2.2.toNatClampNeg _ (h.setG (hl g (List.mem_cons_self ..)))
    rw [flegs]
    split
    · exact h1
    · exact ih _ (fun g' hg' => hl g' (List.mem_cons_of_mem _ hg')) h1
theorem rep3 {k : Nat} {S : KS} {σ : Mem} {a b c : Int32} (h : repK k S σ) : repK k (S.1, (a, b, c), S.2.2) (setM (setM (setM σ (k + 2) 0 a) (k + 2) 1 b) (k + 2) 2 c) := ((h.setT (z := 0) (v := a) (by decide)).setT (z := 1) (v := b) (by decide)).setT (z := 2) (v := c) (by decide)
theorem t_r30 {k b j : Nat} {w : Int32} {g : Lg} {σ : Mem} (hk : (sh k).1 = 2) (hk14 : k + 14 ≤ 43) (hb : (sh b).1 = 0) (hb' : 52 < b) (hj : j < 6) (hg : legC b j g σ) : am_go CX2_run 30 [.ref 52, .ref k, .ref b, .int w, .int (nI j), .int 0] [] σ = am_go CX2_run 60 [.ref 52, .ref k, .ref b, .int w, .int (nI j), .int 0] [] (setM (setM (setM σ (k + 2) 0 g.1) (k + 2) 1 g.2.1) (k + 2) 2 g.2.2.1) := by
  have st : ∀ (z : Nat) (τ : Mem), z < 3 → am_go CX2_run 30 [.ref 52, .ref k, .ref b, .int w, .int (nI j), .int (nI z)] [] τ = am_go CX2_run 30 [.ref 52, .ref k, .ref b, .int w, .int (nI j), .int (nI (z + 1))] [] (setM τ (k + 2) z (τ (b + 1) (3 * j + z))) := by
    intro z τ hz
    rw [blX2_run_30, if_neg (show ¬ (3 : Int32) ≤ nI z from nI_ge (b := 3) hz (by decide)), oc hk, oc hb, t_settingOf hb hj hz, rI, kr1 hk, x3 (ks2 hk) hz, cl z (by omega), nI_1]
  rw [show (0 : Int32) = nI 0 from rfl, st 0 σ (by decide), st 1 _ (by decide), st 2 _ (by decide), blX2_run_30, if_pos (by decide), sM_a (show b + 1 ≠ k + 2 by omega), sM_a (show b + 1 ≠ k + 2 by omega), sM_a (show b + 1 ≠ k + 2 by omega), show σ (b + 1) (3 * j + 0) = g.1 from hg.1, hg.2.1, hg.2.2.1]
  rfl
theorem t_run {k b : Nat} {w : Int32} {L : List Lg} (hk : (sh k).1 = 2) (hk14 : k + 14 ≤ 43) (hb : (sh b).1 = 0) (hb' : 52 < b) (hL : okC L) : ∀ (l2 l1 : List Lg) (s : FS) (v5 : Value) (σ : Mem), l1 ++ l2 = L → okF s → s.2.1 ≤ 9 * l1.length → repK k s.1 σ → repF s σ → repCo b L σ → ∃ σ', am_go CX2_run 18 [.ref 52, .ref k, .ref b, .int w, .int (nI l1.length), v5] [] σ = some (none, σ') ∧ repK k (flegs (w ≠ 0) l2 s).1 σ' ∧ repF (flegs (w ≠ 0) l2 s) σ' ∧ ∀ a, ¬ (k ≤ a ∧ a < k + 14) → a ≠ 52 → σ' a = σ a := by
  intro l2
  induction l2 with
  | nil =>
    intro l1 s v5 σ e hs hg h hf hc
    have : l1 = L := by rw [← e, List.append_nil]
    subst this
    rw [blX2_run_18, oc hb, hc.1, if_pos (Int32.le_refl _)]
    exact ⟨σ, rfl, h, hf, fun _ _ _ => rfl⟩
  | cons g l2 ih =>
    intro l1 s v5 σ e hs hg h hf hc
    have hlen : l1.length + (l2.length + 1) = L.length := by rw [← e, List.length_append, List.length_cons]
    have h6 := hL.1
    have hgm : g ∈ L := by rw [← e]; exact List.mem_append_right _ (List.mem_cons_self ..)
    have okg := hL.2 g hgm
    have hat : L[l1.length]? = some g := by rw [← e, List.getElem?_append_right (Nat.le_refl _), Nat.sub_self]; rfl
    have hleg := hc.2 l1.length g hat
    obtain ⟨n, hn1, hn9, en⟩ := okg.2.2.2
    have hK := rep3 (a := g.1) (b := g.2.1) (c := g.2.2.1) h
    obtain ⟨τ, hτ⟩ : ∃ τ, τ = setM (setM (setM σ (k + 2) 0 g.1) (k + 2) 1 g.2.1) (k + 2) 2 g.2.2.1 := ⟨_, rfl⟩
    have fτ : ∀ a, a ≠ k + 2 → τ a = σ a := fun a ha => by rw [hτ, sM_a ha, sM_a ha, sM_a ha]
    rw [← hτ] at hK
    have hF : repF (setG g s) τ := by unfold repF; rw [fτ 52 (by omega)]; exact hf
    have hst : τ (b + 2) l1.length = nI n := by rw [fτ _ (by omega), hleg.2.2.2, en]
    have enn : g.2.2.2.toNatClampNeg = n := by rw [en, cl n (by omega)]
    obtain ⟨σ1, e1, r1, q1, f1⟩ := t_r60 (x3 := w) (j := l1.length) hk hk14 hb hb' (by omega) hn9 n 0 (setG g s) τ (by omega) (hs.setG okg) (by show s.2.1 + n ≤ 800; omega) hK hF hst
    have fA : ∀ a, ¬ (k ≤ a ∧ a < k + 14) → a ≠ 52 → σ1 a = σ a := fun a ha hb => by rw [f1 a ha hb, fτ a (by omega)]
    have hpre : am_go CX2_run 18 [.ref 52, .ref k, .ref b, .int w, .int (nI l1.length), v5] [] σ = am_go CX2_run 60 [.ref 52, .ref k, .ref b, .int w, .int (nI l1.length), .int (nI 0)] [] τ := by
      rw [blX2_run_18, oc hb, hc.1, if_neg (nI_ge (by omega) (by omega)), t_r30 hk hk14 hb hb' (by omega) hleg, hτ]
      rfl
    rw [hpre, e1, flegs, enn]
    by_cases hstop : (frun (w ≠ 0) n (setG g s)).2 = true
    · rw [if_pos hstop, if_pos hstop]
      exact ⟨σ1, rfl, r1, q1, fA⟩
    · rw [if_neg hstop, if_neg hstop]
      have hg' := frun_gone (w ≠ 0) n (setG g s)
      have hg0 : (setG g s).2.1 = s.2.1 := rfl
      obtain ⟨σ2, e2, r2, q2, f2⟩ := ih (l1 ++ [g]) (frun (w ≠ 0) n (setG g s)).1 (.int (nI n)) σ1 (by rw [List.append_assoc]; exact e) (frun_ok _ _ _ (hs.setG okg)) (by rw [List.length_append]; show _ ≤ 9 * (l1.length + 1); omega) r1 q1 (hc.fr (fun a ha => fA a (by omega) (by omega)))
      rw [show (l1 ++ [g]).length = l1.length + 1 by rw [List.length_append]; rfl] at e2
      exact ⟨σ2, e2, r2, q2, fun a ha hb => by rw [f2 a ha hb, fA a ha hb]⟩
def beginF (S : KS) : FS := (S, 0, 0, 0)
theorem okF_begin {S : KS} (h : okK S) : okF (beginF S) := ⟨h, fun _ => rfl, fun e => absurd rfl e, Nat.le_refl _, Nat.pow_pos (by decide)⟩
