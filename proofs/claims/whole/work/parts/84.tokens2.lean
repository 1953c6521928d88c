/-! the reference's tokens -/
def rcN (k : Nat) : Nat := match k with
  | 0 => 0
  | 1 => 6
  | 2 => 1
  | 3 => 2
  | 4 => 3
  | 5 => 4
  | _ => 5
def tokM (k : TK) (σ : Mem) : Prop := σ 160 27 = nI (rcN k.1) ∧ (k.1 = 2 ∨ k.1 = 4 → σ 160 29 = k.2.1) ∧ σ 160 28 = nI k.2.2.1 ∧ σ 160 26 = nI k.2.2.2
def frU (σ σ' : Mem) : Prop := (∀ a, a ≠ 160 → σ' a = σ a) ∧ ∀ j, (j < 26 ∨ 30 ≤ j) → σ' 160 j = σ 160 j
theorem frU.rf (σ : Mem) : frU σ σ := ⟨fun _ _ => rfl, fun _ _ => rfl⟩
theorem frU.tr {a b c : Mem} (h : frU a b) (h' : frU b c) : frU a c := ⟨fun x hx => (h'.1 x hx).trans (h.1 x hx), fun j hj => (h'.2 j hj).trans (h.2 j hj)⟩
theorem frU.s {σ : Mem} {j : Nat} {v : Int32} (h : 26 ≤ j ∧ j < 30) : frU σ (setM σ 160 j v) := ⟨fun a ha => sM_a ha, fun i hi => sM_i (by omega)⟩
theorem tpM.fr {t : List Int32} {σ σ' : Mem} (h : tpM t σ) (f : frU σ σ') : tpM t σ' := ⟨by rw [f.2 14 (by omega)]; exact h.1, fun i b hb => by rw [f.1 171 (by decide)]; exact h.2 i b hb⟩
theorem tm_at {t : List Int32} {σ : Mem} {i : Nat} (h : tpM t σ) (hi : i < t.length) : σ 171 i = t.getD i 0 := h.2 i _ (getD_at hi)
theorem if01 {p : Prop} [Decidable p] {σ : Mem} : (if (if p then (1 : Int32) else 0) = 0 then o_zr (0 : Int32) (some (some (.int (0 : Int32)), σ)) else o_zr (1 : Int32) (some (some (.int (1 : Int32)), σ))) = (some (some (.int (if p then 1 else 0)), σ) : Option (am_R Mem)) := by
  by_cases h : p
  · rw [if_pos h, if_neg (by decide), zr1]
  · rw [if_neg h, if_pos rfl, zr0]
theorem m_letHere {t : List Int32} {i : Nat} {σ : Mem} (ht : t.length ≤ 120) (hi : i ≤ t.length) (hp : tpM t σ) (h26 : σ 160 26 = nI i) : FX10_isLetterHere [.ref 160] σ = some (some (.int (if i < t.length ∧ letB (t.getD i 0) = true then 1 else 0)), σ) := by
  rw [enX10_isLetterHere, oc m9, oc m9, hp.1, h26]
  by_cases hl : i < t.length
  · rw [if_neg (nI_ge hl (by omega)), oc m9, oc m9, rf160_13, xi (show i < 120 by omega) sh171, cl i (by omega), tm_at hp hl, t_isIn, rI, if01]
    unfold letB
    by_cases h : 97 ≤ t.getD i 0 ∧ t.getD i 0 ≤ 122
    · rw [if_pos h, if_pos ⟨hl, decide_eq_true h⟩]
    · rw [if_neg h, if_neg (fun z => h (of_decide_eq_true z.2))]
  · rw [if_pos (nI_le (by omega) (by omega)), zr0, if_neg (fun z => hl z.1)]
theorem m_digHere {t : List Int32} {i : Nat} {σ : Mem} (ht : t.length ≤ 120) (hi : i ≤ t.length) (hp : tpM t σ) (h26 : σ 160 26 = nI i) : FX10_isDigitHere [.ref 160] σ = some (some (.int (if i < t.length ∧ digB (t.getD i 0) = true then 1 else 0)), σ) := by
  rw [enX10_isDigitHere, oc m9, oc m9, hp.1, h26]
  by_cases hl : i < t.length
  · rw [if_neg (nI_ge hl (by omega)), oc m9, oc m9, rf160_13, xi (show i < 120 by omega) sh171, cl i (by omega), tm_at hp hl, t_isIn, rI, if01]
    unfold digB
    by_cases h : 48 ≤ t.getD i 0 ∧ t.getD i 0 ≤ 57
    · rw [if_pos h, if_pos ⟨hl, decide_eq_true h⟩]
    · rw [if_neg h, if_neg (fun z => h (of_decide_eq_true z.2))]
  · rw [if_pos (nI_le (by omega) (by omega)), zr0, if_neg (fun z => hl z.1)]
theorem m_tk0 {t : List Int32} (ht : t.length ≤ 120) : ∀ (m i : Nat) (σ : Mem), i + m = t.length → tpM t σ → σ 160 26 = nI i → ∃ σ', am_go CX10_nextToken 0 [.ref 160, .null] [] σ = am_go CX10_nextToken 52 [.ref 160, .null] [] σ' ∧ σ' 160 26 = nI (skP blkB t m i) ∧ frU σ σ' := by
  intro m
  induction m with
  | zero =>
    intro i σ hi hp h4
    have : i = t.length := by omega
    subst this
    rw [blX10_nextToken_0, oc m9, oc m9, hp.1, h4, if_pos (Int32.le_refl _)]
    exact ⟨σ, rfl, h4, frU.rf σ⟩
  | succ m ih =>
    intro i σ hi hp h4
    have hx : ∀ {α : Type} {k : Option α}, o_ix 100 171 (nI i) k = k := fun {α k} => xi (show i < 120 by omega) sh171
    have h39 : ∃ σ', am_go CX10_nextToken 39 [.ref 160, .null] [] σ = am_go CX10_nextToken 52 [.ref 160, .null] [] σ' ∧ σ' 160 26 = nI (skP blkB t m (i + 1)) ∧ frU σ σ' := by
      rw [blX10_nextToken_39, oc m9, oc m9, h4, nI_1]
      obtain ⟨σ1, e1, q1, f1⟩ := ih (i + 1) (setM σ 160 26 (nI (i + 1))) (by omega) (hp.fr (frU.s (by decide))) (by rw [sM_eq])
      exact ⟨σ1, e1, q1, (frU.s (by decide)).tr f1⟩
    rw [blX10_nextToken_0, oc m9, oc m9, hp.1, h4, if_neg (nI_ge (by omega) (by omega)), oc m9, oc m9, rf160_13, hx, cl i (by omega), tm_at hp (by omega), skP]
    unfold blkB
    by_cases h1 : t.getD i 0 = 32
    · rw [if_pos h1, if_pos (decide_eq_true (Or.inl h1))]
      exact h39
    · rw [if_neg h1, oc m9, oc m9, hx]
      by_cases h2 : t.getD i 0 = 10
      · rw [if_pos h2, if_pos (decide_eq_true (Or.inr h2))]
        exact h39
      · rw [if_neg h2, if_neg (fun e => by
          rcases of_decide_eq_true e with e | e
          · exact h1 e
          · exact h2 e)]
        exact ⟨σ, rfl, h4, frU.rf σ⟩
theorem m_isW20 {t : List Int32} {b e s : Nat} {σ : Mem} (hs : s < 6) (ht : t.length ≤ 120) (he : e ≤ t.length) (hw : b + (wdS s).length = e) (hp : tpM t σ) (h4 : σ 160 28 = nI b) : ∀ (m i : Nat), i + m = (wdS s).length → am_go CX10_isWord 20 [.ref 160, .ref (1000 + s), .int (nI i)] [] σ = some (some (.int (if eqW t b (wdS s) m i = true then 1 else 0)), σ) := by
  have l4 := wdS_le hs
  intro m
  induction m with
  | zero =>
    intro i hi
    have : i = (wdS s).length := by omega
    subst this
    rw [blX10_isWord_20, wd_isS hs, j_len hs]
    simp only [cond_true]
    rw [rI, if_pos (Int32.le_refl _), zr1, eqW, if_pos rfl]
  | succ m ih =>
    intro i hi
    have hil : i < (wdS s).length := by omega
    rw [blX10_isWord_20, wd_isS hs, j_len hs]
    simp only [cond_true]
    rw [rI, if_neg (nI_ge hil (by omega)), oc m9, oc m9, h4, nI_add, rf160_13, xi (show b + i < 120 by omega) sh171, j_at hs hil, rI, cl (b + i) (by omega), tm_at hp (by omega), nI_1, eqW, zr0]
    by_cases hq : t.getD (b + i) 0 = (wdS s).getD i 0
    · rw [if_pos hq, if_pos hq]
      exact ih (i + 1) (by omega)
    · rw [if_neg hq, if_neg hq, if_neg (by decide)]
theorem m_isWord {t : List Int32} {b e s : Nat} {σ : Mem} (hs : s < 6) (ht : t.length ≤ 120) (hb : b ≤ e) (he : e ≤ t.length) (hp : tpM t σ) (h4 : σ 160 28 = nI b) (h5 : σ 160 26 = nI e) : FX10_isWord [.ref 160, .ref (1000 + s)] σ = some (some (.int (if isW t b e s = true then 1 else 0)), σ) := by
  have l4 := wdS_le hs
  rw [enX10_isWord, oc m9, oc m9, wd_isS hs, j_len hs]
  simp only [cond_true]
  rw [rI, h4, h5, pk_sub hb]
  unfold isW
  by_cases hw : e - b = (wdS s).length
  · rw [if_pos hw, if_pos (by rw [hw])]
    exact m_isW20 hs ht he (by omega) hp h4 (wdS s).length 0 (by omega)
  · rw [if_neg hw, if_neg (fun q => hw ((nI_eq (by omega) (by omega)).mp q)), zr0, if_neg (by decide)]
theorem m_rw {t : List Int32} {b e : Nat} (ht : t.length ≤ 120) (hb : b ≤ e) (he : e ≤ t.length) : ∀ (m s : Nat) (r : Nat × Int32) (σ : Mem), s + m = 4 → tpM t σ → σ 160 28 = nI b → σ 160 26 = nI e → σ 160 27 = nI (rcN r.1) → (r.1 = 2 → σ 160 29 = r.2) → ∃ σ', am_go CX10_nextToken 127 [.ref 160, .int (nI s)] [] σ = some (none, σ') ∧ σ' 160 27 = nI (rcN (wfS t b e m s r).1) ∧ ((wfS t b e m s r).1 = 2 → σ' 160 29 = (wfS t b e m s r).2) ∧ σ' 160 28 = nI b ∧ σ' 160 26 = nI e ∧ frU σ σ' := by
  intro m
  induction m with
  | zero =>
    intro s r σ hs hp h4 h5 h2 h3
    have : s = 4 := by omega
    subst this
    rw [blX10_nextToken_127, if_pos (by decide)]
    exact ⟨σ, rfl, h2, h3, h4, h5, frU.rf σ⟩
  | succ m ih =>
    intro s r σ hs hp h4 h5 h2 h3
    rw [blX10_nextToken_127, if_neg (show ¬ (4 : Int32) ≤ nI s from nI_ge (b := 4) (by omega) (by decide)), m_word (by omega), rA, oc m9, m_isWord (by omega) ht hb he hp h4 h5, rI, ifb, nI_1, wfS]
    by_cases hw : isW t b e s = true
    · rw [if_pos hw, if_pos hw, oc m9, oc m9]
      obtain ⟨σ1, e1, q1⟩ := ih (s + 1) (2, nI s) (setM (setM σ 160 27 1) 160 29 (nI s)) (by omega) (hp.fr ((frU.s (by decide)).tr (frU.s (by decide)))) (by rw [sM_i (by decide), sM_i (by decide)]; exact h4) (by rw [sM_i (by decide), sM_i (by decide)]; exact h5) (by rw [sM_i (by decide), sM_eq]; rfl) (fun _ => by rw [sM_eq])
      exact ⟨σ1, e1, q1.1, q1.2.1, q1.2.2.1, q1.2.2.2.1, ((frU.s (by decide)).tr (frU.s (by decide))).tr q1.2.2.2.2⟩
    · rw [if_neg hw, if_neg hw]
      exact ih (s + 1) r σ (by omega) hp h4 h5 h2 h3
theorem m_w86 {t : List Int32} {b : Nat} (ht : t.length ≤ 120) : ∀ (m i : Nat) (σ : Mem), i + m = t.length → b ≤ i → tpM t σ → σ 160 28 = nI b → σ 160 26 = nI i → ∃ σ', am_go CX10_nextToken 86 [.ref 160, .null] [] σ = some (none, σ') ∧ σ' 160 27 = nI (rcN (wdK t b (skP letB t m i)).1) ∧ ((wdK t b (skP letB t m i)).1 = 2 → σ' 160 29 = (wdK t b (skP letB t m i)).2) ∧ σ' 160 28 = nI b ∧ σ' 160 26 = nI (skP letB t m i) ∧ frU σ σ' := by
  have fin : ∀ (i : Nat) (σ : Mem), b ≤ i → i ≤ t.length → tpM t σ → σ 160 28 = nI b → σ 160 26 = nI i → ∃ σ', o_cls 160 9 (o_rI (FX10_isWord [.ref 160, .ref 1004] σ) (fun r4 m3 => (if r4 = 0 then o_cls 160 9 (am_go CX10_nextToken 127 [.ref 160, .int (0 : Int32)] [] (setM m3 160 27 (6 : Int32))) else o_cls 160 9 (am_go CX10_nextToken 127 [.ref 160, .int (0 : Int32)] [] (setM m3 160 27 (2 : Int32)))))) = some (none, σ') ∧ σ' 160 27 = nI (rcN (wdK t b i).1) ∧ ((wdK t b i).1 = 2 → σ' 160 29 = (wdK t b i).2) ∧ σ' 160 28 = nI b ∧ σ' 160 26 = nI i ∧ frU σ σ' := by
    intro i σ hb hi hp h4 h5
    have go : ∀ (q : Nat) (v : Int32), v = nI (rcN q) → q ≠ 2 → ∃ σ', am_go CX10_nextToken 127 [.ref 160, .int (0 : Int32)] [] (setM σ 160 27 v) = some (none, σ') ∧ σ' 160 27 = nI (rcN (wfS t b i 4 0 (q, 0)).1) ∧ ((wfS t b i 4 0 (q, 0)).1 = 2 → σ' 160 29 = (wfS t b i 4 0 (q, 0)).2) ∧ σ' 160 28 = nI b ∧ σ' 160 26 = nI i ∧ frU σ σ' := by
      intro q v hv hq
      obtain ⟨σ1, e1, q1⟩ := m_rw ht hb hi 4 0 (q, 0) (setM σ 160 27 v) rfl (hp.fr (frU.s (by decide))) (by rw [sM_i (by decide)]; exact h4) (by rw [sM_i (by decide)]; exact h5) (by rw [sM_eq]; exact hv) (fun e => absurd e hq)
      exact ⟨σ1, e1, q1.1, q1.2.1, q1.2.2.1, q1.2.2.2.1, (frU.s (by decide)).tr q1.2.2.2.2⟩
    rw [oc m9, show FX10_isWord [.ref 160, .ref 1004] σ = _ from m_isWord (s := 4) (by decide) ht hb hi hp h4 h5, rI, ifb]
    unfold wdK
    by_cases hw : isW t b i 4 = true
    · rw [if_pos hw, if_pos hw, oc m9]
      exact go 3 2 rfl (by decide)
    · rw [if_neg hw, if_neg hw, oc m9]
      exact go 1 6 rfl (by decide)
  intro m
  induction m with
  | zero =>
    intro i σ hi hb hp h4 h5
    have : i = t.length := by omega
    subst this
    rw [blX10_nextToken_86, oc m9, m_letHere ht (Nat.le_refl _) hp h5, rI, ifb, if_neg (fun z => absurd z.1 (Nat.lt_irrefl _))]
    exact fin t.length σ hb (Nat.le_refl _) hp h4 h5
  | succ m ih =>
    intro i σ hi hb hp h4 h5
    rw [blX10_nextToken_86, oc m9, m_letHere ht (by omega) hp h5, rI, ifb, skP]
    by_cases hl : letB (t.getD i 0) = true
    · rw [if_pos ⟨by omega, hl⟩, if_pos hl, oc m9, oc m9, h5, nI_1]
      obtain ⟨σ1, e1, q1⟩ := ih (i + 1) (setM σ 160 26 (nI (i + 1))) (by omega) (by omega) (hp.fr (frU.s (by decide))) (by rw [sM_i (by decide)]; exact h4) (by rw [sM_eq])
      exact ⟨σ1, e1, q1.1, q1.2.1, q1.2.2.1, q1.2.2.2.1, (frU.s (by decide)).tr q1.2.2.2.2⟩
    · rw [if_neg (fun z => hl z.2), if_neg hl]
      exact fin i σ hb (by omega) hp h4 h5
theorem le0_lt1 {v : Int32} : v ≤ 0 ↔ v < 1 := by
  rw [Int32.le_iff_toInt_le, Int32.lt_iff_toInt_lt, show (0 : Int32).toInt = 0 by decide, show (1 : Int32).toInt = 1 by decide]
  omega
theorem m_n169 {t : List Int32} {b : Nat} (ht : t.length ≤ 120) (hb0 : b < t.length) : ∀ (m i : Nat) (σ : Mem), i + m = t.length → b ≤ i → tpM t σ → σ 160 28 = nI b → σ 160 26 = nI i → ∃ σ', am_go CX10_nextToken 169 [.ref 160, .null] [] σ = some (none, σ') ∧ σ' 160 27 = nI (rcN (if skP digB t m i - b = 1 ∧ ¬ t.getD b 0 - 48 < 1 then 4 else 1)) ∧ σ' 160 29 = t.getD b 0 - 48 ∧ σ' 160 28 = nI b ∧ σ' 160 26 = nI (skP digB t m i) ∧ frU σ σ' := by
  have fin : ∀ (i : Nat) (σ : Mem), b ≤ i → i ≤ t.length → tpM t σ → σ 160 28 = nI b → σ 160 26 = nI i → ∃ σ', o_cls 160 9 (o_cls 160 9 (o_ix 100 171 (nI b) (o_cls 160 9 (o_cls 160 9 (o_cls 160 9 ((if (((setM σ 160 29 ((σ 171 (nI b).toNatClampNeg) - (48 : Int32))) 160 26) - ((setM σ 160 29 ((σ 171 (nI b).toNatClampNeg) - (48 : Int32))) 160 28)) = (1 : Int32) then o_cls 160 9 ((if ((setM σ 160 29 ((σ 171 (nI b).toNatClampNeg) - (48 : Int32))) 160 29) ≤ 0 then o_cls 160 9 (some (none, (setM (setM σ 160 29 ((σ 171 (nI b).toNatClampNeg) - (48 : Int32))) 160 27 (6 : Int32)))) else o_cls 160 9 (some (none, (setM (setM σ 160 29 ((σ 171 (nI b).toNatClampNeg) - (48 : Int32))) 160 27 (3 : Int32)))))) else o_cls 160 9 (some (none, (setM (setM σ 160 29 ((σ 171 (nI b).toNatClampNeg) - (48 : Int32))) 160 27 (6 : Int32))))))))))) = some ((none : Option Value), σ') ∧ σ' 160 27 = nI (rcN (if i - b = 1 ∧ ¬ t.getD b 0 - 48 < 1 then 4 else 1)) ∧ σ' 160 29 = t.getD b 0 - 48 ∧ σ' 160 28 = nI b ∧ σ' 160 26 = nI i ∧ frU σ σ' := by
    intro i σ hb hi hp h4 h5
    rw [cl b (by omega), tm_at hp hb0, oc m9, oc m9, xi (show b < 120 by omega) sh171, oc m9, oc m9, oc m9, sM_eq, sM_i (show 26 ≠ 29 by decide), sM_i (show 28 ≠ 29 by decide), h4, h5, pk_sub hb]
    have go : ∀ (q : Nat) (v : Int32), v = nI (rcN q) → ∃ σ', (some ((none : Option Value), setM (setM σ 160 29 (t.getD b 0 - 48)) 160 27 v) : Option (am_R Mem)) = some (none, σ') ∧ σ' 160 27 = nI (rcN q) ∧ σ' 160 29 = t.getD b 0 - 48 ∧ σ' 160 28 = nI b ∧ σ' 160 26 = nI i ∧ frU σ σ' := by
      intro q v hv
      refine ⟨_, rfl, by rw [sM_eq]; exact hv, by rw [sM_i (by decide), sM_eq], by rw [sM_i (by decide), sM_i (by decide)]; exact h4, by rw [sM_i (by decide), sM_i (by decide)]; exact h5, (frU.s (by decide)).tr (frU.s (by decide))⟩
    by_cases h1 : i - b = 1
    · rw [if_pos (show nI (i - b) = 1 by rw [h1]; rfl), oc m9]
      by_cases h2 : t.getD b 0 - 48 < 1
      · rw [if_pos (le0_lt1.mpr h2), oc m9, if_neg (fun z => z.2 h2)]
        exact go 1 6 rfl
      · rw [if_neg (fun z => h2 (le0_lt1.mp z)), oc m9, if_pos ⟨h1, h2⟩]
        exact go 4 3 rfl
    · rw [if_neg (show ¬ nI (i - b) = 1 from fun q => h1 ((nI_eq (b := 1) (by omega) (by decide)).mp q)), oc m9, if_neg (fun z => h1 z.1)]
      exact go 1 6 rfl
  intro m
  induction m with
  | zero =>
    intro i σ hi hb hp h4 h5
    have : i = t.length := by omega
    subst this
    rw [blX10_nextToken_169, rf160_13, oc m9, m_digHere ht (Nat.le_refl _) hp h5, rI, ifb, if_neg (fun z => absurd z.1 (Nat.lt_irrefl _)), h4]
    exact fin t.length σ hb (Nat.le_refl _) hp h4 h5
  | succ m ih =>
    intro i σ hi hb hp h4 h5
    rw [blX10_nextToken_169, rf160_13, oc m9, m_digHere ht (by omega) hp h5, rI, ifb, skP]
    by_cases hl : digB (t.getD i 0) = true
    · rw [if_pos ⟨by omega, hl⟩, if_pos hl, oc m9, oc m9, h5, nI_1]
      obtain ⟨σ1, e1, q1⟩ := ih (i + 1) (setM σ 160 26 (nI (i + 1))) (by omega) (by omega) (hp.fr (frU.s (by decide))) (by rw [sM_i (by decide)]; exact h4) (by rw [sM_eq])
      exact ⟨σ1, e1, q1.1, q1.2.1, q1.2.2.1, q1.2.2.2.1, (frU.s (by decide)).tr q1.2.2.2.2⟩
    · rw [if_neg (fun z => hl z.2), if_neg hl, h4]
      exact fin i σ hb (by omega) hp h4 h5
theorem m_tk52 {t : List Int32} {b : Nat} {σ : Mem} (ht : t.length ≤ 120) (hb : b ≤ t.length) (hp : tpM t σ) (h4 : σ 160 26 = nI b) : ∃ σ', am_go CX10_nextToken 52 [.ref 160, .null] [] σ = some (none, σ') ∧ tokM (tkB t b) σ' ∧ frU σ σ' := by
  obtain ⟨σ1, h1⟩ : ∃ σ1, σ1 = setM σ 160 28 (σ 160 26) := ⟨_, rfl⟩
  have f1 : frU σ σ1 := by rw [h1]; exact frU.s (by decide)
  have p1 := hp.fr f1
  have q5 : σ1 160 26 = nI b := by rw [h1, sM_i (by decide)]; exact h4
  have q4 : σ1 160 28 = nI b := by rw [h1, sM_eq]; exact h4
  rw [blX10_nextToken_52, ← h1, rf160_13, oc m9, oc m9, oc m9, oc m9, q5, p1.1]
  unfold tkB
  by_cases hle : t.length ≤ b
  · have : b = t.length := by omega
    rw [if_pos (by rw [this]), oc m9, if_pos hle]
    refine ⟨_, rfl, ⟨by rw [sM_eq]; rfl, fun e => ?_, by rw [sM_i (by decide)]; exact q4, by rw [sM_i (by decide)]; exact q5⟩, f1.tr (frU.s (by decide))⟩
    rcases e with e | e <;> cases e
  · rw [if_neg (fun q => hle (by have := (nI_eq (by omega) (by omega)).mp q; omega)), oc m9, m_letHere ht hb p1 q5, rI, ifb, if_neg hle]
    by_cases hl : letB (t.getD b 0) = true
    · rw [if_pos ⟨by omega, hl⟩, if_pos hl]
      obtain ⟨σ2, e2, a1, a2, a3, a4, a5⟩ := m_w86 (b := b) ht (t.length - b) b σ1 (by omega) (Nat.le_refl _) p1 q4 q5
      rw [e2]
      refine ⟨σ2, rfl, ⟨a1, fun e => ?_, a3, a4⟩, f1.tr a5⟩
      rcases e with e | e
      · exact a2 e
      · have := (wk_ok t b (spn letB t b)).1
        have e' : (wdK t b (spn letB t b)).1 = 4 := e
        omega
    · rw [if_neg (fun z => hl z.2), if_neg hl, oc m9, m_digHere ht hb p1 q5, rI, ifb]
      by_cases hd : digB (t.getD b 0) = true
      · rw [if_pos ⟨by omega, hd⟩, if_pos hd]
        obtain ⟨σ2, e2, a1, a2, a3, a4, a5⟩ := m_n169 (b := b) ht (by omega) (t.length - b) b σ1 (by omega) (Nat.le_refl _) p1 q4 q5
        rw [e2]
        exact ⟨σ2, rfl, ⟨a1, fun _ => a2, a3, a4⟩, f1.tr a5⟩
      · rw [if_neg (fun z => hd z.2), if_neg hd]
        have hx : ∀ {α : Type} {k : Option α}, o_ix 100 171 (nI b) k = k := fun {α k} => xi (show b < 120 by omega) sh171
        have go : ∀ (q : Nat) (v : Int32), v = nI (rcN q) → q ≠ 2 → q ≠ 4 → ∃ σ', (some ((none : Option Value), setM (setM σ1 160 27 v) 160 26 ((setM σ1 160 27 v) 160 26 + 1)) : Option (am_R Mem)) = some (none, σ') ∧ tokM (q, 0, b, b + 1) σ' ∧ frU σ σ' := by
          intro q v hv n2 n4
          refine ⟨_, rfl, ⟨by rw [sM_i (by decide), sM_eq]; exact hv, fun e => ?_, by rw [sM_i (by decide), sM_i (by decide)]; exact q4, by rw [sM_eq, sM_i (by decide), q5, nI_1]⟩, f1.tr ((frU.s (by decide)).tr (frU.s (by decide)))⟩
          rcases e with e | e
          · exact absurd e n2
          · exact absurd e n4
        rw [oc m9, oc m9, q5, hx, cl b (by omega), tm_at p1 (by omega)]
        by_cases s1 : t.getD b 0 = 47
        · rw [if_pos s1, if_pos s1, oc m9, oc m9, oc m9]
          exact go 5 4 rfl (by decide) (by decide)
        · rw [if_neg s1, if_neg s1, oc m9, oc m9, hx]
          by_cases s2 : t.getD b 0 = 59
          · rw [if_pos s2, if_pos s2, oc m9, oc m9, oc m9]
            exact go 6 5 rfl (by decide) (by decide)
          · rw [if_neg s2, if_neg s2, oc m9, oc m9, oc m9]
            exact go 1 6 rfl (by decide) (by decide)
theorem m_next {t : List Int32} {i : Nat} {σ : Mem} (ht : t.length ≤ 120) (hi : i ≤ t.length) (hp : tpM t σ) (h5 : σ 160 26 = nI i) : ∃ σ', FX10_nextToken [.ref 160] σ = some (none, σ') ∧ tokM (tkS t i) σ' ∧ frU σ σ' := by
  obtain ⟨σ1, e1, q1, f1⟩ := m_tk0 ht (t.length - i) i σ (by omega) hp h5
  obtain ⟨σ2, e2, k2, f2⟩ := m_tk52 ht (spn_in blkB hi).2 (hp.fr f1) q1
  exact ⟨σ2, show am_go CX10_nextToken 0 [.ref 160, .null] [] σ = _ by rw [e1, e2], k2, f1.tr f2⟩
