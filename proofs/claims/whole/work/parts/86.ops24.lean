/-! course -/
theorem i3 (n z : Nat) : (3 : Int32) * nI n + nI z = nI (3 * n + z) := by
  rw [show (3 : Int32) = nI 3 from rfl, pk_mul, nI_add]
theorem m_56 {t : List Int32} {n z : Nat} {k : TK} {σ : Mem} (ht : t.length ≤ 120) (hn : n < 6) (hz : z < 3) (hk : okK4 t k) (hp : tpM t σ) (h : tokM k σ) :
    (k.1 ≠ 5 → ∃ σ', am_go CX10_readLeg 56 [.ref 160, .int (nI n), .int (nI z)] [] σ = some (some (.int 0), σ') ∧ tokM k σ' ∧ tpM t σ' ∧ σ' 160 30 = nI k.2.2.1 ∧ frV n σ σ') ∧
    (k.1 = 5 → (nxT t k).1 ≠ 2 → ∃ σ', am_go CX10_readLeg 56 [.ref 160, .int (nI n), .int (nI z)] [] σ = some (some (.int 0), σ') ∧ tokM (nxT t k) σ' ∧ tpM t σ' ∧ σ' 160 30 = nI (nxT t k).2.2.1 ∧ frV n σ σ') ∧
    (k.1 = 5 → (nxT t k).1 = 2 → ∃ σ', am_go CX10_readLeg 56 [.ref 160, .int (nI n), .int (nI z)] [] σ = am_go CX10_readLeg 56 [.ref 160, .int (nI n), .int (nI (z + 1))] [] σ' ∧ tokM (nxT t (nxT t k)) σ' ∧ tpM t σ' ∧ σ' 182 (3 * n + z) = (nxT t k).2.1 ∧ (∀ i, i ≠ 3 * n + z → σ' 182 i = σ 182 i) ∧ σ' 160 31 = σ 160 31 ∧ frV n σ σ') := by
  have o1 := nx_ok hk
  obtain ⟨σ1, e1, k1, f1⟩ := m_nx ht hk hp h
  have p1 := hp.fr f1
  have hP : ¬ (3 : Int32) ≤ nI z := nI_ge (b := 3) hz (by decide)
  refine ⟨fun c => ?_, fun c c2 => ?_, fun c c2 => ?_⟩
  · rw [blX10_readLeg_56, if_neg hP, oc m9, show FX10_is [.ref 160, .int 4] σ = _ from m_is0 (q := 5) hk (by decide) h c, rI, if_pos rfl, zr0]
    exact ⟨_, rfl, tok30 h (Or.inl rfl), hp.s30 (Or.inl rfl), by rw [sM_eq], frV.s30 (Or.inl rfl)⟩
  · rw [blX10_readLeg_56, if_neg hP, oc m9, show FX10_is [.ref 160, .int 4] σ = _ from m_is1 h c, rI, if_neg (by decide), oc m9, e1, rV, oc m9, show FX10_is [.ref 160, .int 1] σ1 = _ from m_is0 (q := 2) o1 (by decide) k1 c2, rI, if_pos rfl, zr0]
    exact ⟨_, rfl, tok30 k1 (Or.inl rfl), p1.s30 (Or.inl rfl), by rw [sM_eq], f1.v.tr (frV.s30 (Or.inl rfl))⟩
  · obtain ⟨σ2, h2⟩ : ∃ σ2, σ2 = setM σ1 182 (3 * n + z) (nxT t k).2.1 := ⟨_, rfl⟩
    have p2 : tpM t σ2 := by rw [h2]; exact p1.o (by decide) (by decide)
    have k2 : tokM (nxT t k) σ2 := by rw [h2]; exact tokO k1 (by decide)
    have g2 : frV n σ1 σ2 := by rw [h2]; exact frV.s182
    obtain ⟨σ3, e3, k3, f3⟩ := m_nx ht o1 p2 k2
    rw [blX10_readLeg_56, if_neg hP, oc m9, show FX10_is [.ref 160, .int 4] σ = _ from m_is1 h c, rI, if_neg (by decide), oc m9, e1, rV, oc m9, show FX10_is [.ref 160, .int 1] σ1 = _ from m_is1 k1 c2, rI, if_neg (by decide), oc m9, oc m9, rf160_33, i3, xi (show 3 * n + z < 18 by omega) sh182, oc m9, cl (3 * n + z) (by omega), k1.2.1 (Or.inl c2), ← h2, e3, rV, nI_1]
    refine ⟨σ3, rfl, k3, p2.fr f3, ?_, fun i hi => ?_, ?_, (f1.v.tr g2).tr f3.v⟩
    · rw [f3.1 182 (by decide), h2, sM_eq]
    · rw [f3.1 182 (by decide), h2, sM_i hi, f1.1 182 (by decide)]
    · rw [f3.2 31 (by omega), h2, sM_a (by decide), f1.2 31 (by omega)]
theorem m_readLeg {t : List Int32} {n : Nat} {k : TK} {σ : Mem} (ht : t.length ≤ 120) (hn : n < 6) (hk : okK4 t k) (hp : tpM t σ) (h : tokM k σ) (h31 : σ 160 31 = nI n) : ∃ σ', FX10_readLeg [.ref 160] σ = some (some (.int (if (rlS t k).2.isSome = true then 1 else 0)), σ') ∧ tokM (rlS t k).1 σ' ∧ tpM t σ' ∧ ((rlS t k).2 = none → σ' 160 30 = nI (rlS t k).1.2.2.1) ∧ (∀ g, (rlS t k).2 = some g → σ' 160 31 = nI (n + 1) ∧ lgR n g σ') ∧ frV n σ σ' := by
  have o1 := nx_ok hk
  have o2 := nx_ok o1
  have o3 := nx_ok o2
  have o4 := nx_ok o3
  rw [enX10_readLeg, oc m9, oc m9, h31]
  by_cases c0 : k.1 = 2
  · obtain ⟨v0, hv0⟩ : ∃ v0, v0 = k.2.1 := ⟨_, rfl⟩
    have st : ∀ (z : Nat) (τ : Mem), z < 3 → τ 160 29 = v0 → am_go CX10_readLeg 17 [.ref 160, .int (nI n), .int (nI z)] [] τ = am_go CX10_readLeg 17 [.ref 160, .int (nI n), .int (nI (z + 1))] [] (setM τ 182 (3 * n + z) v0) := by
      intro z τ hz hq
      rw [blX10_readLeg_17, if_neg (show ¬ (3 : Int32) ≤ nI z from nI_ge (b := 3) hz (by decide)), oc m9, oc m9, rf160_33, i3, xi (show 3 * n + z < 18 by omega) sh182, cl (3 * n + z) (by omega), hq, nI_1]
    have q29 : σ 160 29 = v0 := by rw [hv0]; exact h.2.1 (Or.inl c0)
    obtain ⟨τ, h1⟩ : ∃ τ, τ = setM (setM (setM σ 182 (3 * n + 0) v0) 182 (3 * n + 1) v0) 182 (3 * n + 2) v0 := ⟨_, rfl⟩
    have kt : tokM k τ := by rw [h1]; exact tokO (tokO (tokO h (by decide)) (by decide)) (by decide)
    have pt : tpM t τ := by rw [h1]; exact ((hp.o (by decide) (by decide)).o (by decide) (by decide)).o (by decide) (by decide)
    have ft : frV n σ τ := by rw [h1]; exact (frV.s182.tr frV.s182).tr frV.s182
    have u0 : τ 182 (3 * n) = v0 := by
      rw [h1, sM_i (by omega), sM_i (by omega)]
      show setM σ 182 (3 * n + 0) v0 182 (3 * n + 0) = _
      rw [sM_eq]
    have u1 : τ 182 (3 * n + 1) = v0 := by rw [h1, sM_i (by omega), sM_eq]
    have u2 : τ 182 (3 * n + 2) = v0 := by rw [h1, sM_eq]
    have t31 : τ 160 31 = nI n := by rw [h1, sM_a (by decide), sM_a (by decide), sM_a (by decide)]; exact h31
    obtain ⟨σ1, e1, k1, f1⟩ := m_nx ht hk pt kt
    have p1 := pt.fr f1
    have s31 : σ1 160 31 = nI n := by rw [f1.2 31 (by omega)]; exact t31
    have s182 : σ1 182 = τ 182 := f1.1 182 (by decide)
    have fr1 : frV n σ σ1 := ft.tr f1.v
    rw [show FX10_is [.ref 160, .int 1] σ = _ from m_is1 h c0, rI, if_neg (by decide), show (0 : Int32) = nI 0 from rfl, st 0 σ (by decide) q29, st 1 _ (by decide) (by rw [sM_a (by decide)]; exact q29), st 2 _ (by decide) (by rw [sM_a (by decide), sM_a (by decide)]; exact q29), ← h1, blX10_readLeg_17, if_pos (by decide), oc m9, e1, rV, oc m9, k1.1]
    unfold rlS
    rw [if_pos c0]
    by_cases c1 : (nxT t k).1 = 5
    · rw [if_pos (show nI (rcN (nxT t k).1) = 4 by rw [c1]; rfl), if_pos c1]
      obtain ⟨-, B1, C1⟩ := m_56 (z := 1) ht hn (by decide) o1 p1 k1
      by_cases c2 : (nxT t (nxT t k)).1 = 2
      · rw [if_pos c2]
        obtain ⟨σ2, e2, k2, p2, w2, x2, y2, f2⟩ := C1 c1 c2
        obtain ⟨A2, B2, C2⟩ := m_56 (z := 2) ht hn (by decide) o3 p2 k2
        rw [show am_go CX10_readLeg 56 [.ref 160, .int (nI n), .int 1] [] σ1 = _ from e2]
        by_cases c3 : (nxT t (nxT t (nxT t k))).1 = 5
        · rw [if_pos c3]
          by_cases c4 : (nxT t (nxT t (nxT t (nxT t k)))).1 = 2
          · rw [if_pos c4]
            obtain ⟨σ3, e3, k3, p3, w3, x3, y3, f3⟩ := C2 c3 c4
            obtain ⟨σ4, e4, a4, b4, d4, g4, f4⟩ := m_fiL (v0 := k.2.1) (v1 := (nxT t (nxT t k)).2.1) (v2 := (nxT t (nxT t (nxT t (nxT t k)))).2.1) ht hn (nx_ok o4) p3 k3 (by rw [y3, y2]; exact s31) ⟨by rw [x3 _ (by omega), x2 _ (by omega), s182, u0, hv0], by rw [x3 _ (by omega)]; exact w2, w3⟩
            rw [e3, blX10_readLeg_56, if_pos (show (3 : Int32) ≤ nI (2 + 1) by decide), e4]
            exact ⟨σ4, rfl, a4, b4, d4, g4, ((fr1.tr f2).tr f3).tr f4⟩
          · rw [if_neg c4]
            obtain ⟨σ3, e3, k3, p3, w3, f3⟩ := B2 c3 c4
            rw [e3]
            exact ⟨σ3, rfl, k3, p3, fun _ => w3, fun g e => (by cases e), (fr1.tr f2).tr f3⟩
        · rw [if_neg c3]
          obtain ⟨σ3, e3, k3, p3, w3, f3⟩ := A2 c3
          rw [e3]
          exact ⟨σ3, rfl, k3, p3, fun _ => w3, fun g e => (by cases e), (fr1.tr f2).tr f3⟩
      · rw [if_neg c2]
        obtain ⟨σ2, e2, k2, p2, w2, f2⟩ := B1 c1 c2
        rw [show am_go CX10_readLeg 56 [.ref 160, .int (nI n), .int 1] [] σ1 = _ from e2]
        exact ⟨σ2, rfl, k2, p2, fun _ => w2, fun g e => (by cases e), fr1.tr f2⟩
    · rw [if_neg (show ¬ nI (rcN (nxT t k).1) = 4 from rc_inj (b := 5) o1.1 (by decide) c1), if_neg c1]
      obtain ⟨σ4, e4, a4, b4, d4, g4, f4⟩ := m_fiL (v0 := k.2.1) (v1 := k.2.1) (v2 := k.2.1) ht hn o1 p1 k1 s31 ⟨by rw [s182, u0, hv0], by rw [s182, u1, hv0], by rw [s182, u2, hv0]⟩
      exact ⟨σ4, e4, a4, b4, d4, g4, fr1.tr f4⟩
  · unfold rlS
    rw [if_neg c0, show FX10_is [.ref 160, .int 1] σ = _ from m_is0 (q := 2) hk (by decide) h c0, rI, if_pos rfl, zr0]
    exact ⟨_, rfl, tok30 h (Or.inl rfl), hp.s30 (Or.inl rfl), fun _ => (by rw [sM_eq]), fun g e => (by cases e), frV.s30 (Or.inl rfl)⟩
def rdR (l : List Lg) (σ : Mem) : Prop := σ 160 31 = nI l.length ∧ ∀ i g, l[i]? = some g → lgR i g σ
theorem lgR.fr {n i : Nat} {g : Lg} {σ σ' : Mem} (h : lgR i g σ) (hi : i < n) (f : frV n σ σ') : lgR i g σ' := by
  unfold lgR at h ⊢
  rw [f.2.2.1 _ (by omega), f.2.2.1 _ (by omega), f.2.2.1 _ (by omega), f.2.2.2 _ hi]
  exact h
theorem lgR.u {i : Nat} {g : Lg} {σ σ' : Mem} (h : lgR i g σ) (f : frU σ σ') : lgR i g σ' := by
  unfold lgR at h ⊢
  rw [f.1 181 (by decide), f.1 182 (by decide)]
  exact h
theorem m_rc14 {t : List Int32} (ht : t.length ≤ 120) : ∀ (m : Nat) (k : TK) (l : List Lg) (σ : Mem), l.length + m = 6 → okK4 t k → tpM t σ → tokM k σ → rdR l σ → ∃ σ', am_go CX10_readAll 14 [.ref 160] [] σ = some (some (.int (if (rcS t m k l).1.isSome = true then 1 else 0)), σ') ∧ ((rcS t m k l).1 = none → σ' 160 30 = nI (rcS t m k l).2) ∧ (∀ l', (rcS t m k l).1 = some l' → rdR l' σ') ∧ frV 0 σ σ' := by
  intro m
  induction m with
  | zero =>
    intro k l σ hl hk hp h hr
    have : l.length = 6 := by omega
    rw [blX10_readAll_14, oc m9, hr.1, this, if_pos (by rfl), oc m9, oc m9, zr0, h.2.2.1, rcS]
    exact ⟨_, rfl, fun _ => (by rw [sM_eq]), fun l' e => (by cases e), frV.s30 (Or.inl rfl)⟩
  | succ m ih =>
    intro k l σ hl hk hp h hr
    obtain ⟨σ1, e1, k1, p1, d1, r1, f1⟩ := m_readLeg ht (by omega) hk hp h hr.1
    have o1 := (rl_ok hk).1
    rw [blX10_readAll_14, oc m9, hr.1, if_neg (show ¬ nI l.length = 6 from kne (b := 6) (by omega) (by decide) (by omega)), oc m9, e1, rI, ifb]
    cases hq : (rlS t k).2 with
    | none =>
      rw [rc_none hq, if_neg (by decide), zr0]
      exact ⟨σ1, rfl, fun _ => d1 hq, fun l' e => (by cases e), f1.dn (Nat.zero_le _)⟩
    | some g =>
      obtain ⟨r31, rg⟩ := r1 g hq
      have hlen : (l ++ [g]).length = l.length + 1 := by rw [List.length_append]; rfl
      have hrd : rdR (l ++ [g]) σ1 := by
        refine ⟨by rw [hlen]; exact r31, fun i g' hg => ?_⟩
        rcases snoc_get hg with ⟨hi, h1⟩ | ⟨rfl, rfl⟩
        · exact (hr.2 i g' h1).fr hi f1
        · exact rg
      rw [if_pos (by rfl), oc m9, k1.1]
      by_cases c0 : (rlS t k).1.1 = 0
      · rw [if_pos (show nI (rcN (rlS t k).1.1) = 0 by rw [c0]; rfl), rc_end hq c0, zr1]
        refine ⟨σ1, rfl, fun e => (by cases e), fun l' e => ?_, f1.dn (Nat.zero_le _)⟩
        rw [← Option.some.inj e]
        exact hrd
      · rw [if_neg (show ¬ nI (rcN (rlS t k).1.1) = 0 from rc_inj (b := 0) o1.1 (by decide) c0), oc m9]
        by_cases c6 : (rlS t k).1.1 = 6
        · rw [show FX10_is [.ref 160, .int 5] σ1 = _ from m_is1 k1 c6, rI, if_neg (by decide), rc_go hq c0 c6, oc m9]
          obtain ⟨σ2, e2, k2, f2⟩ := m_nx ht o1 p1 k1
          have hrd2 : rdR (l ++ [g]) σ2 := ⟨by rw [f2.2 31 (by omega)]; exact hrd.1, fun i g' hg => (hrd.2 i g' hg).u f2⟩
          obtain ⟨σ3, e3, d3, q3, f3⟩ := ih (nxT t (rlS t k).1) (l ++ [g]) σ2 (by omega) (nx_ok o1) (p1.fr f2) k2 hrd2
          rw [e2, rV, e3]
          exact ⟨σ3, rfl, d3, q3, ((f1.dn (Nat.zero_le _)).tr f2.v).tr f3⟩
        · rw [show FX10_is [.ref 160, .int 5] σ1 = _ from m_is0 (q := 6) o1 (by decide) k1 c6, rI, if_pos rfl, zr0, rc_bad hq c0 c6]
          exact ⟨_, rfl, fun _ => (by rw [sM_eq]), fun l' e => (by cases e), (f1.dn (Nat.zero_le _)).tr (frV.s30 (Or.inl rfl))⟩
theorem m_readAll {t : List Int32} {σ : Mem} (ht : t.length ≤ 120) (hp : tpM t σ) : ∃ σ', FX10_readAll [.ref 160] σ = some (some (.int (if (prsS t).1.isSome = true then 1 else 0)), σ') ∧ ((prsS t).1 = none → σ' 160 30 = nI (prsS t).2) ∧ (∀ l', (prsS t).1 = some l' → rdR l' σ') ∧ frV 0 σ σ' := by
  have p0 : tpM t (setM (setM σ 160 26 0) 160 31 0) := (hp.fr (frU.s (by decide))).s30 (Or.inr rfl)
  have f0 : frV 0 σ (setM (setM σ 160 26 0) 160 31 0) := (frU.s (by decide)).v.tr (frV.s30 (Or.inr rfl))
  obtain ⟨σ1, e1, k1, f1⟩ := m_next (i := 0) ht (Nat.zero_le _) p0 (by rw [sM_i (by decide), sM_eq]; rfl)
  have r1 : rdR [] σ1 := ⟨by rw [f1.2 31 (by omega), sM_eq]; rfl, fun i g hg => by cases hg⟩
  obtain ⟨σ2, e2, d2, q2, f2⟩ := m_rc14 ht 6 (tkS t 0) [] σ1 rfl (tk_ok (Nat.zero_le _)) (p0.fr f1) k1 r1
  rw [enX10_readAll, oc m9, oc m9, oc m9, e1, rV, e2]
  exact ⟨σ2, rfl, d2, q2, (f0.tr f1.v).tr f2⟩
theorem m_takes {c i : Nat} {g : Lg} {σ : Mem} (hc : c < 4) (hi : i < 6) (h : lgR i g σ) : FX10_takesLeg [.ref 160, .int (nI c), .int (nI i)] σ = some (none, addN c i g σ) := by
  have st : ∀ (z : Nat) (τ : Mem), z < 3 → am_go CX10_takesLeg 19 [.ref 160, .int (nI c), .int (nI i), .int (nI z)] [] τ = am_go CX10_takesLeg 19 [.ref 160, .int (nI c), .int (nI i), .int (nI (z + 1))] [] (setM τ 170 (18 * c + 3 * i + z) (τ 182 (3 * i + z))) := by
    intro z τ hz
    rw [blX10_takesLeg_19, if_neg (show ¬ (3 : Int32) ≤ nI z from nI_ge (b := 3) hz (by decide)), oc m9, oc m9, rf160_33, i3, xi (show 3 * i + z < 18 by omega) sh182, rf160_12, i18, xi (show 18 * c + 3 * i + z < 72 by omega) sh170, cl (3 * i + z) (by omega), cl (18 * c + 3 * i + z) (by omega), nI_1]
  rw [enX10_takesLeg, oc m9, oc m9, rf160_32, xi hi sh181, rf160_11, i6, xi (show 6 * c + i < 24 by omega) sh169, cl i (by omega), cl (6 * c + i) (by omega), h.2.2.2, show (0 : Int32) = nI 0 from rfl, st 0 _ (by decide), st 1 _ (by decide), st 2 _ (by decide), blX10_takesLeg_19, if_pos (by decide)]
  simp only [sM_a (show 182 ≠ 170 by decide), sM_a (show 182 ≠ 169 by decide), h.2.1, h.2.2.1, show σ 182 (3 * i + 0) = g.1 from h.1]
  rfl
theorem m_c44 {c : Nat} {l : List Lg} {x2 : Int32} (hc : c < 4) (hl : l.length ≤ 6) : ∀ (m i : Nat) (σ : Mem), i + m = l.length → rdR l σ → (∀ j g, j < i → l[j]? = some g → legM c j g σ) → ∃ σ', am_go CX10_course 44 [.ref 160, .int (nI c), .int x2, .int (nI i)] [] σ = some (some (.int (nI l.length)), σ') ∧ (∀ j g, l[j]? = some g → legM c j g σ') ∧ (∀ a, a ≠ 169 → a ≠ 170 → σ' a = σ a) ∧ (∀ x, (x < 18 * c ∨ 18 * c + 18 ≤ x) → σ' 170 x = σ 170 x) ∧ ∀ x, (x < 6 * c ∨ 6 * c + 6 ≤ x) → σ' 169 x = σ 169 x := by
  intro m
  induction m with
  | zero =>
    intro i σ hi h hd
    have : i = l.length := by omega
    subst this
    rw [blX10_course_44, oc m9, h.1, if_pos (Int32.le_refl _), oc m9]
    exact ⟨σ, rfl, fun j g hj => hd j g (List.getElem?_eq_some_iff.mp hj).1 hj, fun _ _ _ => rfl, fun _ _ => rfl, fun _ _ => rfl⟩
  | succ m ih =>
    intro i σ hi h hd
    have hil : i < l.length := by omega
    have hg : l[i]? = some l[i] := List.getElem?_eq_getElem hil
    have hr := h.2 i _ hg
    have h' : rdR l (addN c i l[i] σ) := by
      refine ⟨by rw [addN_fr (by decide) (by decide)]; exact h.1, fun j g hj => ?_⟩
      unfold lgR
      rw [addN_fr (by decide) (by decide), addN_fr (by decide) (by decide)]
      exact h.2 j g hj
    obtain ⟨σ', e, r, g1, g2, g3⟩ := ih (i + 1) (addN c i l[i] σ) (by omega) h' (fun j g hj hjg => by
      by_cases hji : j = i
      · subst hji
        rw [hg] at hjg
        rw [← Option.some.inj hjg]
        exact addN_hit c j _ σ
      · exact addN_old (by omega) (by omega) (Or.inr (by omega)) (hd j g (by omega) hjg))
    rw [blX10_course_44, oc m9, h.1, if_neg (nI_ge (by omega) (by omega)), oc m9, m_takes hc (by omega) hr, rV, nI_1]
    refine ⟨σ', e, r, fun a a1 a2 => by rw [g1 a a1 a2, addN_fr a1 a2], fun x hx => by rw [g2 x hx, addN_170 (by omega)], fun x hx => by rw [g3 x hx, addN_169 (by omega)]⟩
theorem op_course {σ : Mem} (h : Rel σ) (x1 : Int32) : OpOK (FX9_course [.ref 0, .int x1]) (FX10_course [.ref 160, .int x1]) σ := by
  by_cases h1 : 0 ≤ x1 ∧ x1 ≤ 3
  · obtain ⟨Z, hZ, hC, hM⟩ := h
    have h1' := h1
    obtain ⟨c, hc, rfl⟩ := n3 h1
    have ht : Z.2.2.1.length ≤ 120 := hZ.2.2.1.1
    obtain ⟨σa, ea, qa, fa⟩ := t_readCourse ht hC.2.2.1
    obtain ⟨ok1, ok2⟩ := prs_ok Z.2.2.1
    have okN : okTp [] := ⟨Nat.zero_le _, fun b hb => by cases hb⟩
    cases hq : (prsS Z.2.2.1).1 with
    | none =>
      rw [hq] at ea
      refine op_of (Z' := zCo Z c (Z.2.1 c) []) (r := -100 - nI (prsS Z.2.2.1).2) hZ hM (hZ.co (hZ.2.1 c hc) okN) ⟨setM σa 45 1 0, ?_, ?_, fun a ha => by rw [sM_a (by omega), fa a (by omega) (by omega) (by omega) (by omega)]⟩ (fun σ1 hM1 => ?_)
      · rw [enX9_course, t_isCourse, rI, ifb, if_pos h1', oc c8, oc c8, rf0_6, rf0_8, oc o45, ea, rI, oc c8, oc o45, if_neg (show ¬ (none : Option (List Lg)).isSome = true by decide), if_neg (nI_m1 (by omega))]
      · refine hC.co hZ hc ((hC.2.1 c hc).fr (fun b hb => ?_)) (by rw [sM_eq]; rfl) (fun i b hb => by cases hb) (fun a ha => ?_) ?_
        · rw [sM_a (by omega), fa b (by omega) (by omega) (by omega) (by omega)]
        · rw [sM_a (by omega), fa a (by omega) (by omega) (by omega) (by omega)]
        · rw [sM_a (by decide), fa 0 (by decide) (by decide) (by decide) (by decide)]
      · obtain ⟨σ2, e2, d2, q2, f2⟩ := m_readAll ht hM1.2.2.1
        rw [hq] at e2
        have F : ∀ a, a ≠ 160 → a ≠ 181 → a ≠ 182 → setM σ2 160 14 0 a = σ1 a := fun a a1 a2 a3 => by rw [sM_a a1, f2.1 a a1 a2 a3]
        refine ⟨setM σ2 160 14 0, ?_, ?_, fun a ha => F a (by omega) (by omega) (by omega)⟩
        · rw [enX10_course, t_mCourse, rI, ifb, if_pos h1', oc m9, e2, rI, oc m9, if_pos (by rfl), oc m9, sM_i (by decide), d2 hq]
        · refine hM1.co hZ hc ?_ (fun q hq4 hqc => ⟨?_, fun i hi => ?_, fun i hi => ?_⟩) (by rw [sM_eq]; rfl) (fun i b hb => by cases hb) (fun a ha => F a (by omega) (by omega) (by omega)) (fun j hj => ?_)
          · have := hM1.2.1 c hc
            unfold repCm at this ⊢
            rw [F 168 (by decide) (by decide) (by decide), F 169 (by decide) (by decide) (by decide), F 170 (by decide) (by decide) (by decide)]
            exact this
          · rw [F 168 (by decide) (by decide) (by decide)]
          · rw [F 170 (by decide) (by decide) (by decide)]
          · rw [F 169 (by decide) (by decide) (by decide)]
          · rw [sM_i (by omega), f2.2.1 j (by omega)]
    | some l =>
      rw [hq] at ea
      have hl := ok2 l hq
      refine op_of (Z' := zCo Z c l []) (r := nI l.length) hZ hM (hZ.co hl okN) ?_ (fun σ1 hM1 => ?_)
      · have ra : repCo 49 l (setM σa 45 1 0) := (qa l hq).fr (fun b hb => sM_a (by omega))
        obtain ⟨σb, eb, rb, fb⟩ := t_cbecome (cos hc) o49 (by omega) hl.1 ra
        have F : ∀ a, a ≠ 45 → a ≠ 49 → a ≠ 50 → a ≠ 51 → ¬ (128 + 6 * c ≤ a ∧ a < 128 + 6 * c + 3) → σb a = σ a := fun a a1 a2 a3 a4 a5 => by rw [fb a a5, sM_a a1, fa a a1 a2 a3 a4]
        refine ⟨σb, ?_, hC.co hZ hc rb (by rw [fb 45 (by omega), sM_eq]; rfl) (fun i b hb => by cases hb) (fun a ha => F a (by omega) (by omega) (by omega) (by omega) (by omega)) (by rw [F 0 (by decide) (by decide) (by decide) (by decide) (by omega)]), fun a ha => F a (by omega) (by omega) (by omega) (by omega) (by omega)⟩
        rw [enX9_course, t_isCourse, rI, ifb, if_pos h1', oc c8, oc c8, rf0_6, rf0_8, oc o45, ea, rI, oc c8, oc o45, if_pos (show (some l).isSome = true by rfl), if_pos rfl, oc c8, rf0_3, x103 hc, oc c8, cl c (by omega), cor hc, oc (cos hc), eb, rV, oc c8, x103 hc, oc (cos hc), rb.1]
      · obtain ⟨σ2, e2, d2, q2, f2⟩ := m_readAll ht hM1.2.2.1
        rw [hq] at e2
        have r2 := q2 l hq
        obtain ⟨σ3, h3⟩ : ∃ σ3, σ3 = setM (setM σ2 160 14 0) 168 c (nI l.length) := ⟨_, rfl⟩
        have F3 : ∀ a, a ≠ 160 → a ≠ 168 → a ≠ 181 → a ≠ 182 → σ3 a = σ1 a := fun a a1 a2 a3 a4 => by rw [h3, sM_a a2, sM_a a1, f2.1 a a1 a3 a4]
        have r3 : rdR l σ3 := by
          refine ⟨by rw [h3, sM_a (by decide), sM_i (by decide)]; exact r2.1, fun i g hg => ?_⟩
          have := r2.2 i g hg
          unfold lgR at this ⊢
          rw [h3, sM_a (by decide), sM_a (by decide), sM_a (by decide), sM_a (by decide)]
          exact this
        obtain ⟨σ4, e4, r4, g1, g2, g3⟩ := m_c44 (x2 := 1) hc hl.1 l.length 0 σ3 (by omega) r3 (fun j g hj => absurd hj (Nat.not_lt_zero _))
        refine ⟨σ4, ?_, ?_, fun a ha => by rw [g1 a (by omega) (by omega), F3 a (by omega) (by omega) (by omega) (by omega)]⟩
        · rw [enX10_course, t_mCourse, rI, ifb, if_pos h1', oc m9, e2, rI, oc m9, if_neg (show ¬ (if (some l).isSome = true then (1 : Int32) else 0) = 0 by rw [Option.isSome_some, if_pos rfl]; decide), oc m9, oc m9, rf160_10, xi hc sh168, cl c (by omega), sM_i (show 31 ≠ 14 by decide), r2.1, ← h3]
          exact e4
        · refine hM1.co hZ hc ⟨?_, r4⟩ (fun q hq4 hqc => ⟨?_, fun i hi => ?_, fun i hi => ?_⟩) ?_ (fun i b hb => by cases hb) (fun a ha => ?_) (fun j hj => ?_)
          · rw [g1 168 (by decide) (by decide), h3, sM_eq]
          · rw [g1 168 (by decide) (by decide), h3, sM_i hqc, sM_a (by decide), f2.1 168 (by decide) (by decide) (by decide)]
          · rw [g2 _ (by omega), F3 170 (by decide) (by decide) (by decide) (by decide)]
          · rw [g3 _ (by omega), F3 169 (by decide) (by decide) (by decide) (by decide)]
          · rw [g1 160 (by decide) (by decide), h3, sM_a (by decide), sM_eq]; rfl
          · rw [g1 a (by omega) (by omega), F3 a (by omega) (by omega) (by omega) (by omega)]
          · rw [g1 160 (by decide) (by decide), h3, sM_a (by decide), sM_i (by omega), f2.2.1 j (by omega)]
  · exact op_same (r := -2) h (by rw [enX9_course, t_isCourse, rI, ifb, if_neg h1]) (by rw [enX10_course, t_mCourse, rI, ifb, if_neg h1])
