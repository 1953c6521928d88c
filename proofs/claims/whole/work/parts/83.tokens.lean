/-! the tape's tokens -/
def letB (b : Int32) : Bool := decide (97 ≤ b ∧ b ≤ 122)
def digB (b : Int32) : Bool := decide (48 ≤ b ∧ b ≤ 57)
def blkB (b : Int32) : Bool := decide (b = 32 ∨ b = 10)
def skP (p : Int32 → Bool) (t : List Int32) : Nat → Nat → Nat
  | 0, i => i
  | m + 1, i => if p (t.getD i 0) = true then skP p t m (i + 1) else i
theorem skP_in (p : Int32 → Bool) (t : List Int32) : ∀ m i, i ≤ skP p t m i ∧ skP p t m i ≤ i + m := by
  intro m
  induction m with
  | zero => intro i; exact ⟨Nat.le_refl _, Nat.le_refl _⟩
  | succ m ih =>
    intro i
    rw [skP]
    split
    · have := ih (i + 1); omega
    · omega
def spn (p : Int32 → Bool) (t : List Int32) (i : Nat) : Nat := skP p t (t.length - i) i
theorem spn_in (p : Int32 → Bool) {t : List Int32} {i : Nat} (h : i ≤ t.length) : i ≤ spn p t i ∧ spn p t i ≤ t.length := by
  have := skP_in p t (t.length - i) i
  unfold spn
  omega
def eqW (t : List Int32) (b : Nat) (w : List Int32) : Nat → Nat → Bool
  | 0, _ => true
  | m + 1, i => if t.getD (b + i) 0 = w.getD i 0 then eqW t b w m (i + 1) else false
def isW (t : List Int32) (b e s : Nat) : Bool := if e - b = (wdS s).length then eqW t b (wdS s) (wdS s).length 0 else false
def wfS (t : List Int32) (b e : Nat) : Nat → Nat → Nat × Int32 → Nat × Int32
  | 0, _, r => r
  | m + 1, s, r => wfS t b e m (s + 1) (if isW t b e s = true then (2, nI s) else r)
abbrev TK : Type := Nat × Int32 × Nat × Nat
def wdK (t : List Int32) (b e : Nat) : Nat × Int32 := wfS t b e 4 0 (if isW t b e 4 = true then 3 else 1, 0)
def tkB (t : List Int32) (b : Nat) : TK := if t.length ≤ b then (0, 0, b, b)
  else if letB (t.getD b 0) = true then ((wdK t b (spn letB t b)).1, (wdK t b (spn letB t b)).2, b, spn letB t b)
  else if digB (t.getD b 0) = true then (if spn digB t b - b = 1 ∧ ¬ t.getD b 0 - 48 < 1 then 4 else 1, t.getD b 0 - 48, b, spn digB t b)
  else (if t.getD b 0 = 47 then 5 else if t.getD b 0 = 59 then 6 else 1, 0, b, b + 1)
def tkS (t : List Int32) (i : Nat) : TK := tkB t (spn blkB t i)
def okK4 (t : List Int32) (k : TK) : Prop := k.1 ≤ 6 ∧ k.2.2.1 ≤ t.length ∧ k.2.2.2 ≤ t.length ∧ (k.1 = 2 → ∃ s : Nat, s < 4 ∧ k.2.1 = nI s) ∧ (k.1 = 4 → ∃ n : Nat, 1 ≤ n ∧ n ≤ 9 ∧ k.2.1 = nI n)
theorem wf_ok (t : List Int32) (b e : Nat) : ∀ m s r, s + m = 4 → r.1 ≤ 3 → (r.1 = 2 → ∃ q : Nat, q < 4 ∧ r.2 = nI q) → (wfS t b e m s r).1 ≤ 3 ∧ ((wfS t b e m s r).1 = 2 → ∃ q : Nat, q < 4 ∧ (wfS t b e m s r).2 = nI q) := by
  intro m
  induction m with
  | zero => intro s r _ h1 h2; exact ⟨h1, h2⟩
  | succ m ih =>
    intro s r hs h1 h2
    rw [wfS]
    refine ih (s + 1) _ (by omega) ?_ ?_
    · split
      · exact Nat.le_succ 2
      · exact h1
    · split
      · exact fun _ => ⟨s, by omega, rfl⟩
      · exact h2
theorem wk_ok (t : List Int32) (b e : Nat) : (wdK t b e).1 ≤ 3 ∧ ((wdK t b e).1 = 2 → ∃ s : Nat, s < 4 ∧ (wdK t b e).2 = nI s) := by
  refine wf_ok t b e 4 0 _ rfl ?_ ?_
  · show (if _ then _ else _) ≤ 3
    split <;> decide
  · intro h
    exfalso
    revert h
    show (if _ then _ else _) = 2 → False
    split <;> decide
theorem tkB_ok {t : List Int32} {b : Nat} (hb : b ≤ t.length) : okK4 t (tkB t b) := by
  unfold tkB
  by_cases h1 : t.length ≤ b
  · rw [if_pos h1]
    exact ⟨Nat.zero_le _, hb, hb, fun e => (by cases e), fun e => (by cases e)⟩
  · rw [if_neg h1]
    by_cases h2 : letB (t.getD b 0) = true
    · rw [if_pos h2]
      obtain ⟨w1, w2⟩ := wk_ok t b (spn letB t b)
      exact ⟨by show _ ≤ 6; omega, hb, (spn_in letB hb).2, w2, fun e => by
        have e' : (wdK t b (spn letB t b)).1 = 4 := e
        omega⟩
    · rw [if_neg h2]
      by_cases h3 : digB (t.getD b 0) = true
      · rw [if_pos h3]
        refine ⟨?_, hb, (spn_in digB hb).2, fun e => ?_, fun e => ?_⟩
        · show (if _ then _ else _) ≤ 6
          split <;> decide
        · exfalso
          revert e
          show (if _ then _ else _) = 2 → False
          split <;> decide
        · have e' : (if spn digB t b - b = 1 ∧ ¬ t.getD b 0 - 48 < 1 then 4 else 1) = 4 := e
          by_cases hq : spn digB t b - b = 1 ∧ ¬ t.getD b 0 - 48 < 1
          · obtain ⟨j, j1, j2, ej⟩ := n_of (n := 48) (m := 57) rfl rfl (by decide) (by decide) (of_decide_eq_true h3)
            have ev : t.getD b 0 - 48 = nI (j - 48) := by rw [ej]; exact pk_sub (b := 48) j1
            refine ⟨j - 48, ?_, by omega, ev⟩
            apply Classical.byContradiction
            intro hlt
            refine hq.2 ?_
            rw [ev, show j - 48 = 0 by omega]
            decide
          · rw [if_neg hq] at e'
            cases e'
      · rw [if_neg h3]
        refine ⟨?_, hb, by show b + 1 ≤ _; omega, fun e => ?_, fun e => ?_⟩
        · show (if _ then _ else if _ then _ else _) ≤ 6
          split
          · decide
          · split <;> decide
        · exfalso
          revert e
          show (if _ then _ else if _ then _ else _) = 2 → False
          split
          · decide
          · split <;> decide
        · exfalso
          revert e
          show (if _ then _ else if _ then _ else _) = 4 → False
          split
          · decide
          · split <;> decide
theorem tk_ok {t : List Int32} {i : Nat} (hi : i ≤ t.length) : okK4 t (tkS t i) := tkB_ok (spn_in blkB hi).2
/-! the class's tokens -/
def tokC (k : TK) (σ : Mem) : Prop := σ 45 2 = nI k.1 ∧ (k.1 = 2 ∨ k.1 = 4 → σ 45 3 = k.2.1) ∧ σ 45 4 = nI k.2.2.1 ∧ σ 45 5 = nI k.2.2.2
def frT (σ σ' : Mem) : Prop := (∀ a, a ≠ 45 → σ' a = σ a) ∧ σ' 45 1 = σ 45 1
theorem frT.rf (σ : Mem) : frT σ σ := ⟨fun _ _ => rfl, rfl⟩
theorem frT.tr {a b c : Mem} (h : frT a b) (h' : frT b c) : frT a c := ⟨fun x hx => (h'.1 x hx).trans (h.1 x hx), h'.2.trans h.2⟩
theorem frT.s {σ : Mem} {j : Nat} {v : Int32} (h : j ≠ 1) : frT σ (setM σ 45 j v) := ⟨fun a ha => sM_a ha, sM_i (Ne.symm h)⟩
theorem tpC.fr {t : List Int32} {σ σ' : Mem} (h : tpC t σ) (f : frT σ σ') : tpC t σ' := ⟨by rw [f.2]; exact h.1, fun i b hb => by rw [f.1 46 (by decide)]; exact h.2 i b hb⟩
theorem tp_at {t : List Int32} {σ : Mem} {i : Nat} (h : tpC t σ) (hi : i < t.length) : σ 46 i = t.getD i 0 := h.2 i _ (getD_at hi)
theorem t_isBlank (b : Int32) (σ : Mem) : FX8_isBlank [.int b] σ = some (some (.int (if blkB b = true then 1 else 0)), σ) := by
  rw [enX8_isBlank, zr0, zr1]
  unfold blkB
  by_cases h1 : b = 32
  · simp [h1]
  · by_cases h2 : b = 10
    · simp [h2]
    · simp [h1, h2]
theorem t_isLetter (b : Int32) (σ : Mem) : FX8_isLetter [.int b] σ = some (some (.int (if letB b = true then 1 else 0)), σ) := by
  rw [enX8_isLetter, zr0, zr1, wi_if]
  unfold letB
  by_cases h : 97 ≤ b ∧ b ≤ 122
  · rw [if_pos h, decide_eq_true h, if_pos rfl]
  · rw [if_neg h, decide_eq_false h, if_neg (by decide)]
theorem t_isDigit (b : Int32) (σ : Mem) : FX8_isDigit [.int b] σ = some (some (.int (if digB b = true then 1 else 0)), σ) := by
  rw [enX8_isDigit, zr0, zr1, wi_if]
  unfold digB
  by_cases h : 48 ≤ b ∧ b ≤ 57
  · rw [if_pos h, decide_eq_true h, if_pos rfl]
  · rw [if_neg h, decide_eq_false h, if_neg (by decide)]
theorem t_tk8 {t : List Int32} (ht : t.length ≤ 120) : ∀ (m i : Nat) (σ : Mem), i + m = t.length → tpC t σ → σ 45 4 = nI i → ∃ σ', am_go CX8_nextToken 8 [.ref 45] [] σ = am_go CX8_nextToken 47 [.ref 45] [] σ' ∧ σ' 45 4 = nI (skP blkB t m i) ∧ frT σ σ' := by
  intro m
  induction m with
  | zero =>
    intro i σ hi hp h4
    have : i = t.length := by omega
    subst this
    rw [blX8_nextToken_8, oc o45, oc o45, hp.1, h4, if_pos (Int32.le_refl _)]
    exact ⟨σ, rfl, h4, frT.rf σ⟩
  | succ m ih =>
    intro i σ hi hp h4
    rw [blX8_nextToken_8, oc o45, oc o45, hp.1, h4, if_neg (nI_ge (by omega) (by omega)), oc o45, oc o45, rf45_0, x46 (by omega), cl i (by omega), tp_at hp (by omega), t_isBlank, rI, ifb, skP]
    by_cases hb : blkB (t.getD i 0) = true
    · rw [if_pos hb, if_pos hb, oc o45, oc o45, h4, nI_1]
      obtain ⟨σ1, e1, q1, f1⟩ := ih (i + 1) (setM σ 45 4 (nI (i + 1))) (by omega) (hp.fr (frT.s (by decide))) (by rw [sM_eq])
      exact ⟨σ1, e1, q1, (frT.s (by decide)).tr f1⟩
    · rw [if_neg hb, if_neg hb]
      exact ⟨σ, rfl, h4, frT.rf σ⟩
theorem t_isW20 {t : List Int32} {b e s : Nat} {σ : Mem} (hs : s < 6) (ht : t.length ≤ 120) (he : e ≤ t.length) (hw : b + (wdS s).length = e) (hp : tpC t σ) (h4 : σ 45 4 = nI b) : ∀ (m i : Nat), i + m = (wdS s).length → am_go CX8_isWord 20 [.ref 45, .ref (1000 + s), .int (nI i)] [] σ = some (some (.int (if eqW t b (wdS s) m i = true then 1 else 0)), σ) := by
  have l4 := wdS_le hs
  intro m
  induction m with
  | zero =>
    intro i hi
    have : i = (wdS s).length := by omega
    subst this
    rw [blX8_isWord_20, wd_isS hs, j_len hs]
    simp only [cond_true]
    rw [rI, if_pos (Int32.le_refl _), zr1, eqW, if_pos rfl]
  | succ m ih =>
    intro i hi
    have hil : i < (wdS s).length := by omega
    rw [blX8_isWord_20, wd_isS hs, j_len hs]
    simp only [cond_true]
    rw [rI, if_neg (nI_ge hil (by omega)), oc o45, oc o45, h4, nI_add, rf45_0, x46 (by omega), j_at hs hil, rI, cl (b + i) (by omega), tp_at hp (by omega), nI_1, eqW, zr0]
    by_cases hq : t.getD (b + i) 0 = (wdS s).getD i 0
    · rw [if_pos hq, if_pos hq]
      exact ih (i + 1) (by omega)
    · rw [if_neg hq, if_neg hq, if_neg (by decide)]
theorem t_isWord {t : List Int32} {b e s : Nat} {σ : Mem} (hs : s < 6) (ht : t.length ≤ 120) (hb : b ≤ e) (he : e ≤ t.length) (hp : tpC t σ) (h4 : σ 45 4 = nI b) (h5 : σ 45 5 = nI e) : FX8_isWord [.ref 45, .ref (1000 + s)] σ = some (some (.int (if isW t b e s = true then 1 else 0)), σ) := by
  have l4 := wdS_le hs
  rw [enX8_isWord, oc o45, oc o45, wd_isS hs, j_len hs]
  simp only [cond_true]
  rw [rI, h4, h5, pk_sub hb]
  unfold isW
  by_cases hw : e - b = (wdS s).length
  · rw [if_pos hw, if_pos (by rw [hw])]
    exact t_isW20 hs ht he (by omega) hp h4 (wdS s).length 0 (by omega)
  · rw [if_neg hw, if_neg (fun q => hw ((nI_eq (by omega) (by omega)).mp q)), zr0, if_neg (by decide)]
/-- the end of a word: its kind -/
theorem t_rw59 {t : List Int32} {b e : Nat} (ht : t.length ≤ 120) (hb : b ≤ e) (he : e ≤ t.length) : ∀ (m s : Nat) (r : Nat × Int32) (σ : Mem), s + m = 4 → tpC t σ → σ 45 4 = nI b → σ 45 5 = nI e → σ 45 2 = nI r.1 → (r.1 = 2 → σ 45 3 = r.2) → ∃ σ', am_go CX8_readWord 59 [.ref 45, .int (nI s)] [] σ = some (none, σ') ∧ σ' 45 2 = nI (wfS t b e m s r).1 ∧ ((wfS t b e m s r).1 = 2 → σ' 45 3 = (wfS t b e m s r).2) ∧ σ' 45 4 = nI b ∧ σ' 45 5 = nI e ∧ frT σ σ' := by
  intro m
  induction m with
  | zero =>
    intro s r σ hs hp h4 h5 h2 h3
    have : s = 4 := by omega
    subst this
    rw [blX8_readWord_59, if_pos (by decide)]
    exact ⟨σ, rfl, h2, h3, h4, h5, frT.rf σ⟩
  | succ m ih =>
    intro s r σ hs hp h4 h5 h2 h3
    rw [blX8_readWord_59, if_neg (show ¬ (4 : Int32) ≤ nI s from nI_ge (b := 4) (by omega) (by decide)), t_word (by omega), rA, oc o45, t_isWord (by omega) ht hb he hp h4 h5, rI, ifb, nI_1, wfS]
    by_cases hw : isW t b e s = true
    · rw [if_pos hw, if_pos hw, oc o45, oc o45]
      obtain ⟨σ1, e1, q1⟩ := ih (s + 1) (2, nI s) (setM (setM σ 45 2 2) 45 3 (nI s)) (by omega) (hp.fr ((frT.s (by decide)).tr (frT.s (by decide)))) (by rw [sM_i (by decide), sM_i (by decide)]; exact h4) (by rw [sM_i (by decide), sM_i (by decide)]; exact h5) (by rw [sM_i (by decide), sM_eq]; rfl) (fun _ => by rw [sM_eq])
      exact ⟨σ1, e1, q1.1, q1.2.1, q1.2.2.1, q1.2.2.2.1, ((frT.s (by decide)).tr (frT.s (by decide))).tr q1.2.2.2.2⟩
    · rw [if_neg hw, if_neg hw]
      exact ih (s + 1) r σ (by omega) hp h4 h5 h2 h3
theorem t_rw0 {t : List Int32} {b : Nat} (ht : t.length ≤ 120) : ∀ (m i : Nat) (σ : Mem), i + m = t.length → b ≤ i → tpC t σ → σ 45 4 = nI b → σ 45 5 = nI i → ∃ σ', am_go CX8_readWord 0 [.ref 45, .null] [] σ = some (none, σ') ∧ σ' 45 2 = nI (wdK t b (skP letB t m i)).1 ∧ ((wdK t b (skP letB t m i)).1 = 2 → σ' 45 3 = (wdK t b (skP letB t m i)).2) ∧ σ' 45 4 = nI b ∧ σ' 45 5 = nI (skP letB t m i) ∧ frT σ σ' := by
  have fin : ∀ (i : Nat) (σ : Mem), b ≤ i → i ≤ t.length → tpC t σ → σ 45 4 = nI b → σ 45 5 = nI i → ∃ σ', o_cls 45 7 (o_rI (FX8_isWord [.ref 45, .ref 1004] σ) (fun r2 m1 => (if r2 = 0 then o_cls 45 7 (am_go CX8_readWord 59 [.ref 45, .int (0 : Int32)] [] (setM m1 45 2 (1 : Int32))) else o_cls 45 7 (am_go CX8_readWord 59 [.ref 45, .int (0 : Int32)] [] (setM m1 45 2 (3 : Int32)))))) = some (none, σ') ∧ σ' 45 2 = nI (wdK t b i).1 ∧ ((wdK t b i).1 = 2 → σ' 45 3 = (wdK t b i).2) ∧ σ' 45 4 = nI b ∧ σ' 45 5 = nI i ∧ frT σ σ' := by
    intro i σ hb hi hp h4 h5
    have go : ∀ (q : Nat) (v : Int32), v = nI q → q ≠ 2 → ∃ σ', am_go CX8_readWord 59 [.ref 45, .int (0 : Int32)] [] (setM σ 45 2 v) = some (none, σ') ∧ σ' 45 2 = nI (wfS t b i 4 0 (q, 0)).1 ∧ ((wfS t b i 4 0 (q, 0)).1 = 2 → σ' 45 3 = (wfS t b i 4 0 (q, 0)).2) ∧ σ' 45 4 = nI b ∧ σ' 45 5 = nI i ∧ frT σ σ' := by
      intro q v hv hq
      obtain ⟨σ1, e1, q1⟩ := t_rw59 ht hb hi 4 0 (q, 0) (setM σ 45 2 v) rfl (hp.fr (frT.s (by decide))) (by rw [sM_i (by decide)]; exact h4) (by rw [sM_i (by decide)]; exact h5) (by rw [sM_eq]; exact hv) (fun e => absurd e hq)
      exact ⟨σ1, e1, q1.1, q1.2.1, q1.2.2.1, q1.2.2.2.1, (frT.s (by decide)).tr q1.2.2.2.2⟩
    rw [oc o45, show FX8_isWord [.ref 45, .ref 1004] σ = _ from t_isWord (s := 4) (by decide) ht hb hi hp h4 h5, rI, ifb]
    unfold wdK
    by_cases hw : isW t b i 4 = true
    · rw [if_pos hw, if_pos hw, oc o45]
      exact go 3 3 rfl (by decide)
    · rw [if_neg hw, if_neg hw, oc o45]
      exact go 1 1 rfl (by decide)
  intro m
  induction m with
  | zero =>
    intro i σ hi hb hp h4 h5
    have : i = t.length := by omega
    subst this
    rw [blX8_readWord_0, oc o45, oc o45, hp.1, h5, if_pos (Int32.le_refl _)]
    exact fin t.length σ hb (Nat.le_refl _) hp h4 h5
  | succ m ih =>
    intro i σ hi hb hp h4 h5
    rw [blX8_readWord_0, oc o45, oc o45, hp.1, h5, if_neg (nI_ge (by omega) (by omega)), oc o45, oc o45, rf45_0, x46 (by omega), cl i (by omega), tp_at hp (by omega), t_isLetter, rI, ifb, skP]
    by_cases hl : letB (t.getD i 0) = true
    · rw [if_pos hl, if_pos hl, oc o45, oc o45, h5, nI_1]
      obtain ⟨σ1, e1, q1⟩ := ih (i + 1) (setM σ 45 5 (nI (i + 1))) (by omega) (by omega) (hp.fr (frT.s (by decide))) (by rw [sM_i (by decide)]; exact h4) (by rw [sM_eq])
      exact ⟨σ1, e1, q1.1, q1.2.1, q1.2.2.1, q1.2.2.2.1, (frT.s (by decide)).tr q1.2.2.2.2⟩
    · rw [if_neg hl, if_neg hl]
      exact fin i σ hb (by omega) hp h4 h5
theorem t_rn0 {t : List Int32} {b : Nat} (ht : t.length ≤ 120) (hb0 : b < t.length) : ∀ (m i : Nat) (σ : Mem), i + m = t.length → b ≤ i → tpC t σ → σ 45 4 = nI b → σ 45 5 = nI i → ∃ σ', am_go CX8_readNumber 0 [.ref 45] [] σ = some (none, σ') ∧ σ' 45 2 = nI (if skP digB t m i - b = 1 ∧ ¬ t.getD b 0 - 48 < 1 then 4 else 1) ∧ σ' 45 3 = t.getD b 0 - 48 ∧ σ' 45 4 = nI b ∧ σ' 45 5 = nI (skP digB t m i) ∧ frT σ σ' := by
  have fin : ∀ (i : Nat) (σ : Mem), b ≤ i → i ≤ t.length → tpC t σ → σ 45 4 = nI b → σ 45 5 = nI i → ∃ σ', o_cls 45 7 (o_cls 45 7 (o_ix 101 46 (nI b) (o_cls 45 7 (o_cls 45 7 (o_cls 45 7 ((if (((setM σ 45 3 ((σ 46 (nI b).toNatClampNeg) - (48 : Int32))) 45 5) - ((setM σ 45 3 ((σ 46 (nI b).toNatClampNeg) - (48 : Int32))) 45 4)) = (1 : Int32) then o_cls 45 7 ((if ((setM σ 45 3 ((σ 46 (nI b).toNatClampNeg) - (48 : Int32))) 45 3) < (1 : Int32) then o_cls 45 7 (some (none, (setM (setM σ 45 3 ((σ 46 (nI b).toNatClampNeg) - (48 : Int32))) 45 2 (1 : Int32)))) else o_cls 45 7 (some (none, (setM (setM σ 45 3 ((σ 46 (nI b).toNatClampNeg) - (48 : Int32))) 45 2 (4 : Int32)))))) else o_cls 45 7 (some (none, (setM (setM σ 45 3 ((σ 46 (nI b).toNatClampNeg) - (48 : Int32))) 45 2 (1 : Int32))))))))))) = some ((none : Option Value), σ') ∧ σ' 45 2 = nI (if i - b = 1 ∧ ¬ t.getD b 0 - 48 < 1 then 4 else 1) ∧ σ' 45 3 = t.getD b 0 - 48 ∧ σ' 45 4 = nI b ∧ σ' 45 5 = nI i ∧ frT σ σ' := by
    intro i σ hb hi hp h4 h5
    rw [cl b (by omega), tp_at hp hb0, oc o45, oc o45, x46 (by omega), oc o45, oc o45, oc o45, sM_eq, sM_i (show 5 ≠ 3 by decide), sM_i (show 4 ≠ 3 by decide), h4, h5, pk_sub hb]
    have go : ∀ (q : Nat) (v : Int32), v = nI q → ∃ σ', (some ((none : Option Value), setM (setM σ 45 3 (t.getD b 0 - 48)) 45 2 v) : Option (am_R Mem)) = some (none, σ') ∧ σ' 45 2 = nI q ∧ σ' 45 3 = t.getD b 0 - 48 ∧ σ' 45 4 = nI b ∧ σ' 45 5 = nI i ∧ frT σ σ' := by
      intro q v hv
      refine ⟨_, rfl, by rw [sM_eq]; exact hv, by rw [sM_i (by decide), sM_eq], by rw [sM_i (by decide), sM_i (by decide)]; exact h4, by rw [sM_i (by decide), sM_i (by decide)]; exact h5, (frT.s (by decide)).tr (frT.s (by decide))⟩
    by_cases h1 : i - b = 1
    · rw [if_pos (show nI (i - b) = 1 by rw [h1]; rfl), oc o45]
      by_cases h2 : t.getD b 0 - 48 < 1
      · rw [if_pos h2, oc o45, if_neg (fun z => z.2 h2)]
        exact go 1 1 rfl
      · rw [if_neg h2, oc o45, if_pos ⟨h1, h2⟩]
        exact go 4 4 rfl
    · rw [if_neg (show ¬ nI (i - b) = 1 from fun q => h1 ((nI_eq (b := 1) (by omega) (by decide)).mp q)), oc o45, if_neg (fun z => h1 z.1)]
      exact go 1 1 rfl
  intro m
  induction m with
  | zero =>
    intro i σ hi hb hp h4 h5
    have : i = t.length := by omega
    subst this
    rw [blX8_readNumber_0, rf45_0, oc o45, oc o45, hp.1, h5, if_pos (Int32.le_refl _), h4]
    exact fin t.length σ hb (Nat.le_refl _) hp h4 h5
  | succ m ih =>
    intro i σ hi hb hp h4 h5
    rw [blX8_readNumber_0, rf45_0, oc o45, oc o45, hp.1, h5, if_neg (nI_ge (by omega) (by omega)), oc o45, oc o45, x46 (by omega), cl i (by omega), tp_at hp (by omega), t_isDigit, rI, ifb, skP]
    by_cases hl : digB (t.getD i 0) = true
    · rw [if_pos hl, if_pos hl, oc o45, oc o45, h5, nI_1]
      obtain ⟨σ1, e1, q1⟩ := ih (i + 1) (setM σ 45 5 (nI (i + 1))) (by omega) (by omega) (hp.fr (frT.s (by decide))) (by rw [sM_i (by decide)]; exact h4) (by rw [sM_eq])
      exact ⟨σ1, e1, q1.1, q1.2.1, q1.2.2.1, q1.2.2.2.1, (frT.s (by decide)).tr q1.2.2.2.2⟩
    · rw [if_neg hl, if_neg hl, h4]
      exact fin i σ hb (by omega) hp h4 h5
theorem t_tk47 {t : List Int32} {b : Nat} {σ : Mem} (ht : t.length ≤ 120) (hb : b ≤ t.length) (hp : tpC t σ) (h4 : σ 45 4 = nI b) : ∃ σ', am_go CX8_nextToken 47 [.ref 45] [] σ = some (none, σ') ∧ tokC (tkB t b) σ' ∧ frT σ σ' := by
  obtain ⟨σ1, h1⟩ : ∃ σ1, σ1 = setM σ 45 5 (σ 45 4) := ⟨_, rfl⟩
  have f1 : frT σ σ1 := by rw [h1]; exact frT.s (by decide)
  have p1 := hp.fr f1
  have q4 : σ1 45 4 = nI b := by rw [h1, sM_i (by decide)]; exact h4
  have q5 : σ1 45 5 = nI b := by rw [h1, sM_eq]; exact h4
  rw [blX8_nextToken_47, ← h1, rf45_0, oc o45, oc o45, oc o45, oc o45, q4, p1.1]
  unfold tkB
  by_cases hle : t.length ≤ b
  · rw [if_neg (nI_nlt hle (by omega)), oc o45, if_pos hle]
    refine ⟨_, rfl, ⟨by rw [sM_eq]; rfl, fun e => ?_, by rw [sM_i (by decide)]; exact q4, by rw [sM_i (by decide)]; exact q5⟩, f1.tr (frT.s (by decide))⟩
    rcases e with e | e <;> cases e
  · rw [if_pos (nI_lt (by omega) (by omega)), oc o45, oc o45, x46 (by omega), cl b (by omega), tp_at p1 (by omega), t_isLetter, rI, ifb, if_neg hle]
    by_cases hl : letB (t.getD b 0) = true
    · rw [if_pos hl, if_pos hl, oc o45]
      obtain ⟨σ2, e2, a1, a2, a3, a4, a5⟩ := t_rw0 (b := b) ht (t.length - b) b σ1 (by omega) (Nat.le_refl _) p1 q4 q5
      rw [show FX8_readWord [.ref 45] σ1 = _ from e2, rV]
      refine ⟨σ2, rfl, ⟨a1, fun e => ?_, a3, a4⟩, f1.tr a5⟩
      rcases e with e | e
      · exact a2 e
      · have := (wk_ok t b (spn letB t b)).1
        have e' : (wdK t b (spn letB t b)).1 = 4 := e
        omega
    · rw [if_neg hl, if_neg hl, oc o45, oc o45, q4, x46 (by omega), cl b (by omega), tp_at p1 (by omega), t_isDigit, rI, ifb]
      by_cases hd : digB (t.getD b 0) = true
      · rw [if_pos hd, if_pos hd, oc o45]
        obtain ⟨σ2, e2, a1, a2, a3, a4, a5⟩ := t_rn0 (b := b) ht (by omega) (t.length - b) b σ1 (by omega) (Nat.le_refl _) p1 q4 q5
        rw [show FX8_readNumber [.ref 45] σ1 = _ from e2, rV]
        exact ⟨σ2, rfl, ⟨a1, fun _ => a2, a3, a4⟩, f1.tr a5⟩
      · rw [if_neg hd, if_neg hd, q4, nI_1]
        obtain ⟨σ2, h2⟩ : ∃ σ2, σ2 = setM σ1 45 5 (nI (b + 1)) := ⟨_, rfl⟩
        have f2 : frT σ σ2 := by rw [h2]; exact f1.tr (frT.s (by decide))
        have p2 := hp.fr f2
        have r4 : σ2 45 4 = nI b := by rw [h2, sM_i (by decide)]; exact q4
        have r5 : σ2 45 5 = nI (b + 1) := by rw [h2, sM_eq]
        have go : ∀ (q : Nat) (v : Int32), v = nI q → q ≠ 2 → q ≠ 4 → ∃ σ', (some ((none : Option Value), setM σ2 45 2 v) : Option (am_R Mem)) = some (none, σ') ∧ tokC (q, 0, b, b + 1) σ' ∧ frT σ σ' := by
          intro q v hv n2 n4
          refine ⟨_, rfl, ⟨by rw [sM_eq]; exact hv, fun e => ?_, by rw [sM_i (by decide)]; exact r4, by rw [sM_i (by decide)]; exact r5⟩, f2.tr (frT.s (by decide))⟩
          rcases e with e | e
          · exact absurd e n2
          · exact absurd e n4
        rw [← h2, oc o45, oc o45, oc o45, oc o45, r4, x46 (by omega), cl b (by omega), tp_at p2 (by omega)]
        by_cases s1 : t.getD b 0 = 47
        · rw [if_pos s1, if_pos s1, oc o45]
          exact go 5 5 rfl (by decide) (by decide)
        · rw [if_neg s1, if_neg s1, oc o45, oc o45, x46 (by omega)]
          by_cases s2 : t.getD b 0 = 59
          · rw [if_pos s2, if_pos s2, oc o45]
            exact go 6 6 rfl (by decide) (by decide)
          · rw [if_neg s2, if_neg s2, oc o45]
            exact go 1 1 rfl (by decide) (by decide)
theorem t_next {t : List Int32} {i : Nat} {σ : Mem} (ht : t.length ≤ 120) (hi : i ≤ t.length) (hp : tpC t σ) (h5 : σ 45 5 = nI i) : ∃ σ', FX8_nextToken [.ref 45] σ = some (none, σ') ∧ tokC (tkS t i) σ' ∧ frT σ σ' := by
  have f0 : frT σ (setM σ 45 4 (σ 45 5)) := frT.s (by decide)
  obtain ⟨σ1, e1, q1, f1⟩ := t_tk8 ht (t.length - i) i (setM σ 45 4 (σ 45 5)) (by omega) (hp.fr f0) (by rw [sM_eq]; exact h5)
  obtain ⟨σ2, e2, k2, f2⟩ := t_tk47 ht (spn_in blkB hi).2 (hp.fr (f0.tr f1)) q1
  rw [enX8_nextToken, oc o45, oc o45, e1, e2]
  exact ⟨σ2, rfl, k2, (f0.tr f1).tr f2⟩
