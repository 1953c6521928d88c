/-! plans: fuel doesn't matter to which is best; with one spoiled there is none -/
def eqF (S S' : KS) : Prop := S'.1 = S.1 ∧ S'.2.1 = S.2.1 ∧ S'.2.2.1 = S.2.2.1 ∧ S'.2.2.2.2 = S.2.2.2.2
theorem eqF.step {S S' : KS} (h : eqF S S') : (stepS S').2 = (stepS S).2 ∧ eqF (stepS S).1 (stepS S').1 := by
  obtain ⟨H, T, L, f, t⟩ := S
  obtain ⟨H', T', L', f', t'⟩ := S'
  obtain ⟨h1, h2, h3, h4⟩ := h
  dsimp only at h1 h2 h3 h4
  subst h1; subst h2; subst h3; subst h4
  exact ⟨rfl, rfl, rfl, rfl, rfl⟩
theorem eqF.lg : ∀ (m : Nat) (S S' : KS), eqF S S' → (lgP m S = none ∧ lgP m S' = none) ∨ ∃ y y', lgP m S = some y ∧ lgP m S' = some y' ∧ eqF y y' := by
  intro m
  induction m with
  | zero => intro S S' h; exact Or.inr ⟨S, S', rfl, rfl, h⟩
  | succ m ih =>
    intro S S' h
    obtain ⟨e, h'⟩ := h.step
    rw [lgP, lgP, e]
    by_cases hz : (stepS S).2 = 0
    · rw [if_pos hz, if_pos hz]; exact ih _ _ h'
    · rw [if_neg hz, if_neg hz]; exact Or.inl ⟨rfl, rfl⟩
theorem eqF.go {n s : Nat} {S S' : KS} (h : eqF S S') : (goP n S s = none ∧ goP n S' s = none) ∨ ∃ y y', goP n S s = some y ∧ goP n S' s = some y' ∧ eqF y y' := eqF.lg n _ _ ⟨h.1, rfl, h.2.2.1, h.2.2.2⟩
theorem eqF.dn {S S' : KS} (h : eqF S S') : dnP S' = dnP S := by
  unfold dnP doneS
  rw [h.2.2.1]
theorem en_z {X : Type} (go : X → Nat → Option X) (dn : X → Bool) (bn : Nat → Nat) (x : X) (f p : Nat) (b : Bst) : enP go dn bn 0 x f p b = if dn x = true then impP b f p else b := by cases b <;> rfl
def stnP {X : Type} (go : X → Nat → Option X) (dn : X → Bool) (bn : Nat → Nat) (m : Nat) (x : X) (f p : Nat) (b : Bst) (s : Nat) : Bst := match go x s with
  | none => b
  | some y => enP go dn bn m y (f + bn s) (4 * p + s) b
theorem en_s {X : Type} (go : X → Nat → Option X) (dn : X → Bool) (bn : Nat → Nat) (m : Nat) (x : X) (f p : Nat) (b : Bst) : enP go dn bn (m + 1) x f p b = [0, 1, 2, 3].foldl (stnP go dn bn m x f p) b := rfl
theorem stn_none {X : Type} {go : X → Nat → Option X} {dn : X → Bool} {bn : Nat → Nat} {m : Nat} {x : X} {f p s : Nat} {b : Bst} (h : go x s = none) : stnP go dn bn m x f p b s = b := by unfold stnP; rw [h]
theorem stn_some {X : Type} {go : X → Nat → Option X} {dn : X → Bool} {bn : Nat → Nat} {m : Nat} {x y : X} {f p s : Nat} {b : Bst} (h : go x s = some y) : stnP go dn bn m x f p b s = enP go dn bn m y (f + bn s) (4 * p + s) b := by unfold stnP; rw [h]
theorem en_sim {n : Nat} {bn : Nat → Nat} : ∀ (m : Nat) (S S' : KS) (f p : Nat) (b : Bst), eqF S S' → enP (goP n) dnP bn m S' f p b = enP (goP n) dnP bn m S f p b := by
  intro m
  induction m with
  | zero => intro S S' f p b h; rw [en_z, en_z, h.dn]
  | succ m ih =>
    intro S S' f p b h
    have st : stnP (goP n) dnP bn m S' f p = stnP (goP n) dnP bn m S f p := by
      funext b s
      rcases h.go (n := n) (s := s) with ⟨h1, h2⟩ | ⟨y, y', h1, h2, h3⟩
      · rw [stn_none h1, stn_none h2]
      · rw [stn_some h1, stn_some h2]; exact ih y y' _ _ b h3
    rw [en_s, en_s, st]
/-! bits -/
theorem bit_test (p : Ld → Bool) : ∀ (L : List Ld) (i m : Nat), i + L.length ≤ 8 → m < 2 ^ i → ∃ m', m' < 2 ^ (i + L.length) ∧ bitS p L i (nI m) = nI m' ∧ (∀ j, j < i → m'.testBit j = m.testBit j) ∧ ∀ j d, L[j]? = some d → m'.testBit (i + j) = p d := by
  intro L
  induction L with
  | nil => intro i m _ hm; exact ⟨m, hm, rfl, fun _ _ => rfl, fun j d h => by cases h⟩
  | cons d L ih =>
    intro i m hl hm
    rw [List.length_cons] at hl
    have h8 : 2 ^ i ≤ 2 ^ 8 := Nat.pow_le_pow_right (by decide) (by omega)
    have hup : 2 ^ i < 2 ^ (i + 1) := Nat.pow_lt_pow_right (by decide) (by omega)
    rw [bitS]
    have fin : ∀ m1, m1 < 2 ^ (i + 1) → (∀ j, j < i → m1.testBit j = m.testBit j) → m1.testBit i = p d → ∃ m', m' < 2 ^ (i + (d :: L).length) ∧ bitS p L (i + 1) (nI m1) = nI m' ∧ (∀ j, j < i → m'.testBit j = m.testBit j) ∧ ∀ j d', (d :: L)[j]? = some d' → m'.testBit (i + j) = p d' := by
      intro m1 h1 h2 h3
      obtain ⟨m', a1, a2, a3, a4⟩ := ih (i + 1) m1 (by omega) h1
      refine ⟨m', by rw [List.length_cons, show i + (L.length + 1) = i + 1 + L.length by omega]; exact a1, a2, fun j hj => by rw [a3 j (by omega), h2 j hj], fun j d' hd => ?_⟩
      cases j with
      | zero =>
        have : d = d' := Option.some.inj hd
        rw [← this, Nat.add_zero, a3 i (by omega), h3]
      | succ j =>
        rw [show i + (j + 1) = i + 1 + j by omega]
        exact a4 j d' hd
    by_cases hp : p d = true
    · rw [if_pos hp, bit_or ⟨i, by omega⟩ ⟨m, by omega⟩]
      refine fin (m ||| 2 ^ i) (Nat.or_lt_two_pow (by omega) hup) (fun j hj => ?_) ?_
      · rw [Nat.testBit_or, Nat.testBit_two_pow_of_ne (by omega), Bool.or_false]
      · rw [Nat.testBit_or, Nat.testBit_two_pow_self, Bool.or_true, hp]
    · rw [if_neg hp]
      refine fin m (by omega) (fun _ _ => rfl) ?_
      rw [Nat.testBit_lt_two_pow hm]
      cases hq : p d with
      | true => exact absurd hq hp
      | false => rfl
theorem ones : ∀ n : Fin 9, ((1 : Int32) <<< (nI n.val &&& 31)) - 1 = nI (2 ^ n.val - 1) := by decide +kernel
theorem dn_all {S : KS} (hS : okS S) (h : dnP S = true) : ∀ d ∈ S.2.2.1, d.2.2.2.2 = 1 := by
  have h8 := hS.1
  obtain ⟨m, h1, h2, -, h4⟩ := bit_test (fun d => decide (d.2.2.2.2 = 1)) S.2.2.1 0 0 (by omega) (by decide)
  have e : doneS S = ((1 : Int32) <<< (nI S.2.2.1.length &&& 31)) - 1 := of_decide_eq_true h
  have e2 : doneS S = nI m := h2
  rw [ones ⟨S.2.2.1.length, by omega⟩, e2] at e
  rw [Nat.zero_add] at h1
  have h256 : 2 ^ S.2.2.1.length ≤ 2 ^ 8 := Nat.pow_le_pow_right (by decide) (by omega)
  have em : m = 2 ^ S.2.2.1.length - 1 := (nI_eq (by omega) (by omega)).mp e
  intro d hd
  obtain ⟨j, hj, ej⟩ := List.mem_iff_getElem.mp hd
  have hj' : S.2.2.1[j]? = some d := by rw [List.getElem?_eq_getElem hj, ej]
  have ht := h4 j d hj'
  rw [Nat.zero_add, em, Nat.testBit_two_pow_sub_one, decide_eq_true hj] at ht
  exact of_decide_eq_true ht.symm
def hasSp (S : KS) : Prop := ∃ d ∈ S.2.2.1, spS d = true
theorem sp_bits : ∀ (L : List Ld) (i : Nat) (b : Int32), (∀ d ∈ L, ¬ spS d = true) → bitS spS L i b = b := by
  intro L
  induction L with
  | nil => intros; rfl
  | cons d L ih =>
    intro i b h
    rw [bitS, if_neg (h d List.mem_cons_self)]
    exact ih _ _ (fun d hd => h d (List.mem_cons_of_mem _ hd))
theorem has_sp {S : KS} (h : ¬ spdS S = 0) : hasSp S := by
  apply Classical.byContradiction
  intro hn
  exact h (sp_bits S.2.2.1 0 0 (fun d hd e => hn ⟨d, hd, e⟩))
theorem sp_goLs (H B : H3) : ∀ (L : List Ld) (i : Nat) (b : Int32), (∃ d ∈ L, spS d = true) → ∃ d ∈ (goLs H B L i b).1, spS d = true := by
  intro L
  induction L with
  | nil => intro i b ⟨d, hd, _⟩; cases hd
  | cons a L ih =>
    intro i b ⟨d, hd, hs⟩
    rw [goLs]
    rcases List.mem_cons.mp hd with h1 | h1
    · subst h1
      refine ⟨_, List.mem_cons_self, ?_⟩
      rw [under_sp hs]
      exact hs
    · obtain ⟨d', h2, h3⟩ := ih (i + 1) (if (underS a (at3 H a.2.2.1.toNatClampNeg) (at3 B a.2.2.1.toNatClampNeg)).2 = true then b ||| ((1 : Int32) <<< (nI i &&& 31)) else b) ⟨d, h1, hs⟩
      exact ⟨d', List.mem_cons_of_mem _ h2, h3⟩
theorem hasSp.step {S : KS} (h : hasSp S) : hasSp (stepS S).1 := sp_goLs _ _ _ _ _ h
theorem hasSp.lg : ∀ (m : Nat) (S S' : KS), hasSp S → okS S → lgP m S = some S' → hasSp S' ∧ okS S' := by
  intro m
  induction m with
  | zero => intro S S' h ok e; rw [lgP] at e; rw [← Option.some.inj e]; exact ⟨h, ok⟩
  | succ m ih =>
    intro S S' h ok e
    rw [lgP] at e
    by_cases hz : (stepS S).2 = 0
    · rw [if_pos hz] at e; exact ih _ S' h.step ok.step e
    · rw [if_neg hz] at e; cases e
theorem hasSp.dn {S : KS} (h : hasSp S) (ok : okS S) : ¬ dnP S = true := by
  intro e
  obtain ⟨d, hd, hs⟩ := h
  have := dn_all ok e d hd
  unfold spS at hs
  rw [this] at hs
  revert hs
  decide
theorem en_none {n : Nat} {bn : Nat → Nat} : ∀ (m : Nat) (S : KS) (f p : Nat), hasSp S → okS S → enP (goP n) dnP bn m S f p none = none := by
  intro m
  induction m with
  | zero => intro S f p h ok; rw [en_z, if_neg (h.dn ok)]
  | succ m ih =>
    intro S f p h ok
    have st : ∀ s, stnP (goP n) dnP bn m S f p none s = none := by
      intro s
      cases hg : goP n S s with
      | none => exact stn_none hg
      | some y =>
        have := hasSp.lg n (S.1, (nI s, nI s, nI s), S.2.2) y h ok hg
        rw [stn_some hg]
        exact ih y _ _ this.1 this.2
    rw [en_s, List.foldl_cons, st 0, List.foldl_cons, st 1, List.foldl_cons, st 2, List.foldl_cons, st 3]
    rfl
/-- the plan of k legs of n steps from S on: what it burns, its row -/
def plnS (k n : Nat) (S : KS) : Bst := enP (goP n) dnP (bnP n) k S 0 0 none
theorem t_seek {k n : Nat} {S : KS} {σ : Mem} (hk : k ≤ 4) (hn : n ≤ 6) (hS : okK S) (h : repK 1 S σ) : ∃ σ', FX5_seek [.ref 53, .ref 1, .int (nI k), .int (nI n)] σ = some (none, σ') ∧ bsR k (plnS k n S) σ' ∧ σ' 53 4 = nI k ∧ ∀ a, (a < 53 ∨ 127 ≤ a) → σ' a = σ a := by
  have ek : (if (4 : Int32) < nI k then (4 : Int32) else nI k) = nI k := if_neg (show ¬ (4 : Int32) < nI k from nI_nlt (a := 4) hk (by decide))
  have p57 := pks (d := 0) (by decide)
  obtain ⟨σ0, h0⟩ : ∃ σ0, σ0 = setM (setM (setM σ 53 3 (-1)) 53 4 (nI k)) 53 5 (nI n) := ⟨_, rfl⟩
  have f0 : ∀ a, a ≠ 53 → σ0 a = σ a := fun a ha => by rw [h0, sM_a ha, sM_a ha, sM_a ha]
  have r0 : repK 1 S σ0 := h.fr hS.1.1 (fun a ha => f0 a (by omega))
  have q3 : σ0 53 3 = -1 := by rw [h0, sM_i (by decide), sM_i (by decide), sM_eq]
  have q4 : σ0 53 4 = nI k := by rw [h0, sM_i (by decide), sM_eq]
  have q5 : σ0 53 5 = nI n := by rw [h0, sM_eq]
  rw [enX5_seek, ek, ← h0, oc o53, oc o53, oc o53, oc k1, t_spd k1 hS.1 r0, rI]
  by_cases hz : spdS S = 0
  · obtain ⟨σ1, e1, r1, f1⟩ := t_become (a := 57) (b := 1) p57 k1 (by decide) hS.1 r0
    have r2 : repK (57 + 14 * 0) (S.1, S.2.1, S.2.2.1, 0, S.2.2.2.2) (setM σ1 57 5 0) := by
      obtain ⟨a1, a2, a3, a4, a5, a6, a7⟩ := r1
      refine ⟨fun z hz => ?_, fun z hz => ?_, fun z hz => ?_, ?_, ?_, ?_, fun i d hd => ?_⟩
      · rw [sM_a (by omega)]; exact a1 z hz
      · rw [sM_a (by omega)]; exact a2 z hz
      · rw [sM_a (by omega)]; exact a3 z hz
      · rw [sM_i (by decide)]; exact a4
      · rw [sM_eq]
      · rw [sM_i (by decide)]; exact a6
      · rw [sM_a (by omega)]; exact a7 i d hd
    have g53 : setM σ1 57 5 0 53 = σ0 53 := by rw [sM_a (by decide), f1 53 (by decide)]
    obtain ⟨σ2, e2, b2, f2⟩ := t_alb hk hn k 4 0 (S.1, S.2.1, S.2.2.1, 0, S.2.2.2.2) 0 0 none (setM σ1 57 5 0) hk (by omega) hS r2 (show (0 : Int32) = 0 + nI 0 from by decide) (by omega) (by rw [g53]; exact q4) (by rw [g53]; exact q5) (show setM σ1 57 5 0 53 3 = -1 by rw [g53]; exact q3) (fun i hi => by omega)
    rw [if_pos hz, oc o53, rf53_0, show (0 : Int32) = nI 0 from rfl, x105 (by decide), cl 0 (by decide), pkr (by decide), oc p57, show FX3_become [.ref (57 + 14 * 0), .ref 1] σ0 = _ from e1, rV, oc o53, x105 (by decide), oc p57, oc o53, show FX5_addLegBehind [.ref 53, .int (nI 0)] (setM σ1 (57 + 14 * 0) 5 (nI 0)) = _ from e2, rV]
    refine ⟨σ2, rfl, ?_, by rw [f2.2.1, g53]; exact q4, fun a ha => ?_⟩
    · rw [df_eq (goP n) dnP (bnP n) (bn_mono n) k _ 0 0 none (fun g q e => by cases e), en_sim k S (S.1, S.2.1, S.2.2.1, 0, S.2.2.2.2) 0 0 none ⟨rfl, rfl, rfl, rfl⟩] at b2
      exact b2
    · rw [f2.1 a (by omega), sM_a (by omega), f1 a (by omega), f0 a (by omega)]
  · rw [if_neg hz]
    refine ⟨σ0, rfl, ?_, q4, fun a ha => f0 a (by omega)⟩
    unfold plnS
    rw [en_none k S 0 0 (has_sp hz) hS.1]
    exact q3
