/-! plans: what a leg burns; the class's search -/
def stpP {X : Type} (go : X → Nat → Option X) (dn : X → Bool) (bn : Nat → Nat) (m : Nat) (x : X) (f p s : Nat) (b : Bst) : Bst := match go x s with
  | none => b
  | some y => dfP go dn bn m y (f + bn s) (4 * p + s) b
theorem df_s {X : Type} (go : X → Nat → Option X) (dn : X → Bool) (bn : Nat → Nat) (m : Nat) (x : X) (f p : Nat) (b : Bst) : dfP go dn bn (m + 1) x f p b = lpP (stpP go dn bn m x f p) (cutP f bn) 4 0 b := rfl
theorem stp_none {X : Type} {go : X → Nat → Option X} {dn : X → Bool} {bn : Nat → Nat} {m : Nat} {x : X} {f p s : Nat} {b : Bst} (h : go x s = none) : stpP go dn bn m x f p s b = b := by unfold stpP; rw [h]
theorem stp_some {X : Type} {go : X → Nat → Option X} {dn : X → Bool} {bn : Nat → Nat} {m : Nat} {x y : X} {f p s : Nat} {b : Bst} (h : go x s = some y) : stpP go dn bn m x f p s b = dfP go dn bn m y (f + bn s) (4 * p + s) b := by unfold stpP; rw [h]
def brN (s : Nat) : Nat := match s with
  | 0 => 0
  | 1 => 1
  | 2 => 3
  | _ => 6
theorem br_eq {s : Nat} (hs : s < 4) : burnS (nI s) = nI (brN s) := by
  match s, hs with
  | 0, _ => decide +kernel
  | 1, _ => decide +kernel
  | 2, _ => decide +kernel
  | 3, _ => decide +kernel
theorem br_le (s : Nat) : brN s ≤ 6 := by
  unfold brN
  split <;> omega
def bnP (n s : Nat) : Nat := 3 * brN s * n
theorem bn_mono (n : Nat) : ∀ s t, s ≤ t → t < 4 → bnP n s ≤ bnP n t := by
  intro s t h1 h2
  have key : ∀ t : Fin 4, ∀ s : Fin 4, s.val ≤ t.val → brN s.val ≤ brN t.val := by decide +kernel
  exact Nat.mul_le_mul_right n (Nat.mul_le_mul_left 3 (key ⟨t, h2⟩ ⟨s, by omega⟩ h1))
theorem bn_le {n : Nat} (hn : n ≤ 6) (s : Nat) : bnP n s ≤ 108 := Nat.mul_le_mul (Nat.mul_le_mul_left 3 (br_le s)) hn
theorem lg_fuel {F : Int32} {c : Nat} : ∀ (m : Nat) (S S' : KS) (f : Nat), S.2.2.2.1 = F + nI f → burn3 S.2.1 = nI c → lgP m S = some S' → S'.2.2.2.1 = F + nI (f + c * m) := by
  intro m
  induction m with
  | zero =>
    intro S S' f h1 h2 e
    rw [lgP] at e
    rw [← Option.some.inj e, Nat.mul_zero, Nat.add_zero]
    exact h1
  | succ m ih =>
    intro S S' f h1 h2 e
    rw [lgP] at e
    by_cases hz : (stepS S).2 = 0
    · rw [if_pos hz] at e
      have := ih (stepS S).1 S' (f + c) (by
        show S.2.2.2.1 + burn3 S.2.1 = _
        rw [h1, h2, Int32.add_assoc, nI_add]) h2 e
      rw [this, Nat.mul_succ, show f + c + c * m = f + (c * m + c) by omega]
    · rw [if_neg hz] at e
      cases e
theorem go_fuel {n s f : Nat} {F : Int32} {S S' : KS} (hs : s < 4) (h : S.2.2.2.1 = F + nI f) (e : goP n S s = some S') : S'.2.2.2.1 = F + nI (f + bnP n s) := by
  refine lg_fuel (c := 3 * brN s) n (S.1, (nI s, nI s, nI s), S.2.2) S' f h ?_ e
  show burnS (nI s) + burnS (nI s) + burnS (nI s) = _
  rw [br_eq hs, nI_add, nI_add, show brN s + brN s + brN s = 3 * brN s by omega]
def dnP (S : KS) : Bool := decide (doneS S = ((1 : Int32) <<< (nI S.2.2.1.length &&& 31)) - 1)
/-- the best row so far, as the class holds it -/
def bsR (k : Nat) (b : Bst) (σ : Mem) : Prop := match b with
  | none => σ 53 3 = -1
  | some (g, q) => σ 53 3 = nI g ∧ g ≤ 432 ∧ ∀ i, i < k → σ 56 i = nI (q / 4 ^ (k - 1 - i) % 4)
theorem bsR.fr {k : Nat} {b : Bst} {σ σ' : Mem} (h : bsR k b σ) (f1 : σ' 53 3 = σ 53 3) (f2 : σ' 56 = σ 56) : bsR k b σ' := by
  cases b with
  | none => exact f1.trans h
  | some gq =>
    obtain ⟨g, q⟩ := gq
    obtain ⟨h1, h2, h3⟩ := h
    exact ⟨f1.trans h1, h2, fun i hi => by rw [f2]; exact h3 i hi⟩
theorem o53 : (sh 53).1 = 4 := by rw [sh53]
theorem t_keepRow {k : Nat} {x : Int32} (hk : k ≤ 4) : ∀ (m i : Nat) (σ : Mem), i + m = k → σ 53 4 = nI k → ∃ σ', am_go CX5_keepRow 7 [.ref 53, .int x, .int (nI i)] [] σ = some (none, σ') ∧ (∀ j, i ≤ j → j < k → σ' 56 j = σ 55 j) ∧ (∀ j, j < i → σ' 56 j = σ 56 j) ∧ ∀ a, a ≠ 56 → σ' a = σ a := by
  intro m
  induction m with
  | zero =>
    intro i σ hi h4
    have : i = k := by omega
    subst this
    rw [blX5_keepRow_7, oc o53, h4, if_pos (Int32.le_refl _)]
    exact ⟨σ, rfl, fun j h1 h2 => by omega, fun _ _ => rfl, fun _ _ => rfl⟩
  | succ m ih =>
    intro i σ hi h4
    rw [blX5_keepRow_7, oc o53, h4, if_neg (nI_ge (by omega) (by omega)), oc o53, oc o53, rf53_1, rf53_2, xi (show i < 4 by omega) sh55, xi (show i < 4 by omega) sh56, cl i (by omega), nI_1]
    obtain ⟨σ', e, c1, c2, c3⟩ := ih (i + 1) (setM σ 56 i (σ 55 i)) (by omega) (by rw [sM_a (by decide)]; exact h4)
    refine ⟨σ', e, fun j h1 h2 => ?_, fun j hj => ?_, fun a ha => by rw [c3 a ha, sM_a ha]⟩
    · by_cases hij : j = i
      · subst hij
        rw [c2 j (by omega), sM_eq]
      · rw [c1 j (by omega) h2, sM_a (by decide)]
    · rw [c2 j (by omega), sM_i (by omega)]
/-- what the search below depth d leaves as it is -/
def frP (d : Nat) (σ σ' : Mem) : Prop := (∀ a, (a < 53 ∨ a = 54 ∨ (57 ≤ a ∧ a < 57 + 14 * (d + 1)) ∨ 127 ≤ a) → σ' a = σ a) ∧ σ' 53 4 = σ 53 4 ∧ σ' 53 5 = σ 53 5 ∧ ∀ i, i < d → σ' 55 i = σ 55 i
theorem frP.rf (d : Nat) (σ : Mem) : frP d σ σ := ⟨fun _ _ => rfl, rfl, rfl, fun _ _ => rfl⟩
theorem frP.tr {d : Nat} {σ1 σ2 σ3 : Mem} (h : frP d σ1 σ2) (h' : frP d σ2 σ3) : frP d σ1 σ3 := ⟨fun a ha => (h'.1 a ha).trans (h.1 a ha), h'.2.1.trans h.2.1, h'.2.2.1.trans h.2.2.1, fun i hi => (h'.2.2.2 i hi).trans (h.2.2.2 i hi)⟩
theorem frP.up {d : Nat} {σ σ' : Mem} (h : frP (d + 1) σ σ') : frP d σ σ' := ⟨fun a ha => h.1 a (by omega), h.2.1, h.2.2.1, fun i hi => h.2.2.2 i (by omega)⟩
theorem dig_up {p s d i : Nat} (hs : s < 4) (hi : i < d) : (4 * p + s) / 4 ^ (d + 1 - 1 - i) % 4 = p / 4 ^ (d - 1 - i) % 4 := by
  rw [show d + 1 - 1 - i = (d - 1 - i) + 1 by omega, Nat.pow_succ, Nat.mul_comm (4 ^ _) 4, ← Nat.div_div_eq_div_mul, show (4 * p + s) / 4 = p by omega]
theorem dig_top {p s d : Nat} (hs : s < 4) : (4 * p + s) / 4 ^ (d + 1 - 1 - d) % 4 = s := by
  rw [show d + 1 - 1 - d = 0 by omega, Nat.pow_zero, Nat.div_one]
  omega
theorem t_alb {k n : Nat} (hk : k ≤ 4) (hn : n ≤ 6) : ∀ (m N d : Nat) (S : KS) (f p : Nat) (b : Bst) (σ : Mem), m ≤ N → d + m = k → okK S → repK (57 + 14 * d) S σ → S.2.2.2.1 = 0 + nI f → f + 108 * m ≤ 432 → σ 53 4 = nI k → σ 53 5 = nI n → bsR k b σ → (∀ i, i < d → σ 55 i = nI (p / 4 ^ (d - 1 - i) % 4)) → ∃ σ', FR (N + 1) [.ref 53, .int (nI d)] σ = some (none, σ') ∧ bsR k (dfP (goP n) dnP (bnP n) m S f p b) σ' ∧ frP d σ σ' := by
  intro m
  induction m with
  | zero =>
    intro N d S f p b σ hN hd hS h hf hle h4 h5 hb hr
    have : d = k := by omega
    subst this
    show ∃ σ', am_go (CX5_addLegBehind (FR N)) 0 [.ref 53, .int (nI d), .null, .null] [] σ = some (none, σ') ∧ _
    have hpk := pks (d := d) (by omega)
    rw [blX5_addLegBehind_0, oc o53, h4, if_neg (nI_nlt (Nat.le_refl _) (by omega)), oc o53, rf53_0, x105 (by omega), cl d (by omega), pkr (by omega), oc hpk, t_alldone hpk hS.1 h, rI, ifb, dfP]
    by_cases hdn : doneS S = ((1 : Int32) <<< (nI S.2.2.1.length &&& 31)) - 1
    · have e0 : dnP S = true := decide_eq_true hdn
      rw [if_pos hdn, if_pos e0, oc o53, x105 (by omega), oc hpk, oc o53, h.2.2.2.2.1, hf, Int32.zero_add, enX5_keepRow, oc o53]
      obtain ⟨σ', e, c1, c2, c3⟩ := t_keepRow (x := nI f) hk d 0 (setM σ 53 3 (nI f)) (by omega) (by rw [sM_i (by decide)]; exact h4)
      rw [show am_go CX5_keepRow 7 [.ref 53, .int (nI f), .int 0] [] (setM σ 53 3 (nI f)) = _ from e, rV]
      refine ⟨σ', rfl, ⟨?_, by omega, fun i hi => ?_⟩, fun a ha => ?_, ?_, ?_, fun i hi => ?_⟩
      · rw [c3 53 (by decide), sM_eq]
      · rw [c1 i (by omega) hi, sM_a (by decide)]
        exact hr i hi
      · rw [c3 a (by omega), sM_a (by omega)]
      · rw [c3 53 (by decide), sM_i (by decide)]
      · rw [c3 53 (by decide), sM_i (by decide)]
      · rw [c3 55 (by decide), sM_a (by decide)]
    · have e0 : ¬ dnP S = true := fun e => hdn (of_decide_eq_true e)
      rw [if_neg hdn, if_neg e0]
      exact ⟨σ, rfl, hb, frP.rf d σ⟩
  | succ m ih =>
    intro N d S f p b σ hN hd hS h hf hle h4 h5 hb hr
    obtain ⟨N', rfl⟩ : ∃ N', N = N' + 1 := ⟨N - 1, by omega⟩
    show ∃ σ', am_go (CX5_addLegBehind (FR (N' + 1))) 0 [.ref 53, .int (nI d), .null, .null] [] σ = some (none, σ') ∧ _
    have hpk := pks (d := d) (by omega)
    have loop : ∀ (r s : Nat) (b : Bst) (v3 : Value) (σ : Mem), s + r = 4 → repK (57 + 14 * d) S σ → σ 53 4 = nI k → σ 53 5 = nI n → bsR k b σ → (∀ i, i < d → σ 55 i = nI (p / 4 ^ (d - 1 - i) % 4)) → ∃ σ', am_go (CX5_addLegBehind (FR (N' + 1))) 36 [.ref 53, .int (nI d), .int (nI s), v3] [] σ = some (none, σ') ∧ bsR k (lpP (stpP (goP n) dnP (bnP n) m S f p) (cutP f (bnP n)) r s b) σ' ∧ frP d σ σ' := by
      intro r
      induction r with
      | zero =>
        intro s b v3 σ hs h h4 h5 hb hr
        have : s = 4 := by omega
        subst this
        rw [blX5_addLegBehind_36, if_pos (by decide), lpP]
        exact ⟨σ, rfl, hb, frP.rf d σ⟩
      | succ r ihr =>
        intro s b v3 σ hs h h4 h5 hb hr
        have hs4 : s < 4 := by omega
        have hA : ∀ FU : Int32, ∃ σ', o_cls 53 4 (o_ix 100 55 (nI d) (o_cls 53 4 (o_rI (FX5_goLeg [.ref 53, .int (nI d), .int (nI s)] (setM σ 55 d (nI s))) (fun r4 m3 => (if r4 = 0 then am_go (CX5_addLegBehind (FR (N' + 1))) 36 [.ref 53, .int (nI d), .int (nI s + (1 : Int32)), .int FU] [] m3 else o_cls 53 4 (o_rV (FR (N' + 1) [.ref 53, .int (nI d + (1 : Int32))] m3) (fun m5 => am_go (CX5_addLegBehind (FR (N' + 1))) 36 [.ref 53, .int (nI d), .int (nI s + (1 : Int32)), .int FU] [] m5))))))) = some (none, σ') ∧ bsR k (lpP (stpP (goP n) dnP (bnP n) m S f p) (cutP f (bnP n)) r (s + 1) (stpP (goP n) dnP (bnP n) m S f p s b)) σ' ∧ frP d σ σ' := by
          intro FU
          have hA1 : repK (57 + 14 * d) S (setM σ 55 d (nI s)) := h.fr hS.1.1 (fun a ha => sM_a (by omega))
          obtain ⟨σ1, e1, r1, f1⟩ := t_goLeg (d := d) (n := n) (s := s) (by omega) hs4 hn hS hA1 (by rw [sM_a (by decide)]; exact h5)
          have fA : ∀ a, a ≠ 55 → (a < 57 + 14 * (d + 1) ∨ 57 + 14 * (d + 1) + 14 ≤ a) → σ1 a = σ a := fun a h1 h2 => by rw [f1 a h2, sM_a h1]
          have f55 : ∀ i, i ≠ d → σ1 55 i = σ 55 i := fun i hi => by rw [f1 55 (by omega), sM_i hi]
          have f55d : σ1 55 d = nI s := by rw [f1 55 (by omega), sM_eq]
          have fP1 : frP d σ σ1 := ⟨fun a ha => fA a (by omega) (by omega), by rw [fA 53 (by decide) (by omega)], by rw [fA 53 (by decide) (by omega)], fun i hi => f55 i (by omega)⟩
          have hb1 : bsR k b σ1 := hb.fr (by rw [fA 53 (by decide) (by omega)]) (fA 56 (by decide) (by omega))
          rw [oc o53, xi (show d < 4 by omega) sh55, oc o53, e1, rI, nI_1, nI_1]
          cases hg : goP n S s with
          | none =>
            rw [if_pos (by rfl), stp_none hg]
            obtain ⟨σ2, e2, b2, f2⟩ := ihr (s + 1) b (.int FU) σ1 (by omega) (h.fr hS.1.1 (fun a ha => fA a (by omega) (by omega))) (by rw [fP1.2.1]; exact h4) (by rw [fP1.2.2.1]; exact h5) hb1 (fun i hi => by rw [fP1.2.2.2 i hi]; exact hr i hi)
            exact ⟨σ2, e2, b2, fP1.tr f2⟩
          | some S' =>
            obtain ⟨okS', rS'⟩ := r1 S' hg
            have hbn := bn_le hn s
            obtain ⟨σ2, e2, b2, f2⟩ := ih N' (d + 1) S' (f + bnP n s) (4 * p + s) b σ1 (by omega) (by omega) okS' rS' (go_fuel hs4 hf hg) (by omega) (by rw [fP1.2.1]; exact h4) (by rw [fP1.2.2.1]; exact h5) hb1 (fun i hi => by
              by_cases hid : i = d
              · subst hid
                rw [f55d, dig_top hs4]
              · rw [f55 i hid, dig_up hs4 (by omega)]
                exact hr i (by omega))
            have fP2 := fP1.tr f2.up
            rw [if_neg (by rw [Option.isSome_some, if_pos rfl]; decide), oc o53, e2, rV, stp_some hg]
            obtain ⟨σ3, e3, b3, f3⟩ := ihr (s + 1) (dfP (goP n) dnP (bnP n) m S' (f + bnP n s) (4 * p + s) b) (.int FU) σ2 (by omega) (h.fr hS.1.1 (fun a ha => fP2.1 a (by omega))) (by rw [fP2.2.1]; exact h4) (by rw [fP2.2.2.1]; exact h5) b2 (fun i hi => by rw [fP2.2.2.2 i hi]; exact hr i hi)
            exact ⟨σ3, e3, b3, fP2.tr f3⟩
        have eF : σ (57 + 14 * d) 5 + (3 : Int32) * burnS (nI s) * σ 53 5 = nI (f + bnP n s) := by
          rw [h.2.2.2.2.1, hf, h5, br_eq hs4, Int32.zero_add, show (3 : Int32) = nI 3 from rfl, pk_mul, pk_mul, nI_add]
          rfl
        rw [blX5_addLegBehind_36, if_neg (show ¬ (4 : Int32) ≤ nI s from nI_ge (b := 4) hs4 (by decide)), oc o53, rf53_0, rf53_1, x105 (by omega), cl d (by omega), pkr (by omega), oc hpk, t_burnt, rI, oc o53, oc o53, eF, lpP]
        have hbn := bn_le hn s
        cases b with
        | none =>
          rw [if_pos (show σ 53 3 = -1 from hb), if_neg (show ¬ cutP f (bnP n) s none = true from fun e => by cases e)]
          exact hA _
        | some gq =>
          obtain ⟨g, q⟩ := gq
          obtain ⟨b1, b2, b3⟩ := hb
          rw [b1, if_neg (nI_m1 (by omega)), oc o53]
          by_cases hc : g ≤ f + bnP n s
          · rw [if_neg (nI_nlt hc (by omega)), if_pos (show cutP f (bnP n) s (some (g, q)) = true from decide_eq_true hc)]
            exact ⟨σ, rfl, ⟨b1, b2, b3⟩, frP.rf d σ⟩
          · rw [if_pos (nI_lt (by omega) (by omega)), if_neg (show ¬ cutP f (bnP n) s (some (g, q)) = true from fun e => hc (of_decide_eq_true e))]
            exact hA _
    rw [blX5_addLegBehind_0, oc o53, h4, if_pos (nI_lt (by omega) (by omega)), df_s]
    rw [li0]
    exact loop 4 0 b .null σ rfl h h4 h5 hb hr
