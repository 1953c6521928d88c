/-! count, sheets -/
theorem x103 {α : Type} {c : Nat} {k : Option α} (hc : c < 4) : o_ix 103 43 (nI c) k = k := ox (by rw [sh43]) (by rw [sh43]; exact hc)
theorem x103' {α : Type} {c : Nat} {k : Option α} (hc : c < 4) : o_ix 103 44 (nI c) k = k := ox (by rw [sh44]) (by rw [sh44]; exact hc)
theorem x104 {α : Type} {c : Nat} {k : Option α} (hc : c < 4) : o_ix 104 127 (nI c) k = k := ox (by rw [sh127]) (by rw [sh127]; exact hc)
theorem cor {c : Nat} (hc : c < 4) : rf 43 c = 128 + 6 * c := (cr_all c hc).1
theorem cos {c : Nat} (hc : c < 4) : (sh (128 + 6 * c)).1 = 0 := (cr_all c hc).2.1
theorem cor' {c : Nat} (hc : c < 4) : rf 44 c = 131 + 6 * c := (cr_all c hc).2.2.1
theorem cos' {c : Nat} (hc : c < 4) : (sh (131 + 6 * c)).1 = 0 := (cr_all c hc).2.2.2
theorem ser {c : Nat} (hc : c < 4) : rf 127 c = 152 + 2 * c := (sr_all c hc).1
theorem ses {c : Nat} (hc : c < 4) : (sh (152 + 2 * c)).1 = 6 := (sr_all c hc).2
theorem si_all : ∀ c, c < 4 → rf (152 + 2 * c) 2 = 153 + 2 * c ∧ sh (153 + 2 * c) = (100, 40) := by decide +kernel
theorem sir {c : Nat} (hc : c < 4) : rf (152 + 2 * c) 2 = 153 + 2 * c := (si_all c hc).1
theorem sis {c : Nat} (hc : c < 4) : sh (153 + 2 * c) = (100, 40) := (si_all c hc).2
theorem t_isNone {a n : Nat} {σ : Mem} (hs : (sh a).1 = 0) (h : σ a 2 = nI n) (hn : n ≤ 6) : FX1_isNone [.ref a] σ = some (some (.int (if n = 0 then 1 else 0)), σ) := by
  rw [enX1_isNone, oc hs, h, zr0, zr1]
  by_cases h0 : n = 0
  · subst h0; rfl
  · rw [if_neg (nI_ne0 (by omega) (by omega)), if_neg h0]
def cbS (C : Cs) (c : Nat) (b : Int32) : Int32 := if (C c).length = 0 then b else b ||| ((1 : Int32) <<< (nI c &&& 31))
theorem t_cb {R : ZR} {σ : Mem} {c : Nat} {b : Int32} (hR : okR R) (h : RCr R σ) (hc : c < 4) : am_go CX9_bitsOfCourses 4 [.ref 0, .int b, .int (nI c)] [] σ = am_go CX9_bitsOfCourses 4 [.ref 0, .int (cbS R.1 c b), .int (nI (c + 1))] [] σ := by
  rw [blX9_bitsOfCourses_4, if_neg (show ¬ (4 : Int32) ≤ nI c from nI_ge (b := 4) hc (by decide)), oc c8, rf0_3, x103 hc, cl c (by omega), cor hc, oc (cos hc), t_isNone (cos hc) (h.1 c hc).1 (hR.1 c hc).1, rI, ifb, nI_1]
  unfold cbS
  split <;> rfl
theorem m_cb {R : ZR} {σ : Mem} {c : Nat} {b x : Int32} (hR : okR R) (h : RMr R σ) (hc : c < 4) : am_go CX10_count 78 [.ref 160, .int x, .int b, .int (nI c)] [] σ = am_go CX10_count 78 [.ref 160, .int x, .int (cbS R.1 c b), .int (nI (c + 1))] [] σ := by
  have h6 := (hR.1 c hc).1
  rw [blX10_count_78, if_neg (show ¬ (4 : Int32) ≤ nI c from nI_ge (b := 4) hc (by decide)), oc m9, rf160_10, xi hc sh168, cl c (by omega), (h.1 c hc).1, or0, nI_1]
  unfold cbS
  by_cases h0 : (R.1 c).length = 0
  · rw [if_pos (by rw [h0]; decide), if_pos h0]
  · rw [if_neg (nI_nle (by omega) (by omega)), if_neg h0]
theorem op_count {σ : Mem} (h : Rel σ) (x1 : Int32) : OpOK (FX9_count [.ref 0, .int x1]) (FX10_count [.ref 160, .int x1]) σ := by
  have h0 := h
  obtain ⟨Z, hZ, hC, hM⟩ := h
  by_cases a0 : x1 = 0
  · exact op_same (r := nI Z.1.2.2.1.length) h0 (by rw [enX9_count, if_pos a0, oc c8, rf0_0, oc k1, hC.1.2.2.2.1]) (by rw [enX10_count, if_pos a0, oc m9, hM.1.2.2.1])
  by_cases a1 : x1 = 1
  · exact op_same (r := Z.1.2.2.2.1) h0 (by rw [enX9_count, if_neg a0, if_pos a1, oc c8, rf0_0, oc k1, hC.1.2.2.2.2.1]) (by rw [enX10_count, if_neg a0, if_pos a1, oc m9, hM.1.2.2.2.1])
  by_cases a2 : x1 = 2
  · exact op_same (r := Z.1.2.2.2.2) h0 (by rw [enX9_count, if_neg a0, if_neg a1, if_pos a2, oc c8, rf0_0, oc k1, hC.1.2.2.2.2.2.1]) (by rw [enX10_count, if_neg a0, if_neg a1, if_pos a2, oc m9, hM.1.2.2.2.2.1])
  by_cases a3 : x1 = 3
  · exact op_same (r := nI Z.2.2.1.length) h0 (by rw [enX9_count, if_neg a0, if_neg a1, if_neg a2, if_pos a3, oc c8, rf0_6, oc (by rw [sh45]), hC.2.2.1.1]) (by rw [enX10_count, if_neg a0, if_neg a1, if_neg a2, if_pos a3, oc m9, hM.2.2.1.1])
  by_cases a4 : x1 = 4
  · exact op_same (r := doneS Z.1) h0 (by rw [enX9_count, if_neg a0, if_neg a1, if_neg a2, if_neg a3, if_pos a4, oc c8, rf0_0, oc k1, t_done k1 hZ.1.1 hC.1, rI]) (by rw [enX10_count, if_neg a0, if_neg a1, if_neg a2, if_neg a3, if_pos a4, oc m9, m_done hZ.1.1 hM.1, rI])
  by_cases a5 : x1 = 5
  · exact op_same (r := spdS Z.1) h0 (by rw [enX9_count, if_neg a0, if_neg a1, if_neg a2, if_neg a3, if_neg a4, if_pos a5, oc c8, rf0_0, oc k1, t_spd k1 hZ.1.1 hC.1, rI]) (by rw [enX10_count, if_neg a0, if_neg a1, if_neg a2, if_neg a3, if_neg a4, if_pos a5, oc m9, m_spd hZ.1.1 hM.1, rI])
  by_cases a6 : x1 = 6
  · exact op_same (r := cbS Z.2.1 3 (cbS Z.2.1 2 (cbS Z.2.1 1 (cbS Z.2.1 0 0)))) h0 (by rw [enX9_count, if_neg a0, if_neg a1, if_neg a2, if_neg a3, if_neg a4, if_neg a5, if_pos a6, oc c8, enX9_bitsOfCourses, show am_go CX9_bitsOfCourses 4 [.ref 0, .int 0, .int 0] [] σ = _ from t_cb (c := 0) (b := 0) hZ.2 hC.2 (by decide), t_cb hZ.2 hC.2 (by decide), t_cb hZ.2 hC.2 (by decide), t_cb hZ.2 hC.2 (by decide), blX9_bitsOfCourses_4, if_pos (by decide), rI]) (by rw [enX10_count, if_neg a0, if_neg a1, if_neg a2, if_neg a3, if_neg a4, if_neg a5, if_pos a6, show am_go CX10_count 78 [.ref 160, .int x1, .int 0, .int 0] [] σ = _ from m_cb (c := 0) (b := 0) (x := x1) hZ.2 hM.2 (by decide), m_cb hZ.2 hM.2 (by decide), m_cb hZ.2 hM.2 (by decide), m_cb hZ.2 hM.2 (by decide), blX10_count_78, if_pos (by decide)])
  exact op_same (r := -2) h0 (by rw [enX9_count, if_neg a0, if_neg a1, if_neg a2, if_neg a3, if_neg a4, if_neg a5, if_neg a6]) (by rw [enX10_count, if_neg a0, if_neg a1, if_neg a2, if_neg a3, if_neg a4, if_neg a5, if_neg a6])
/-! a sheet becomes another -/
def fuS (f : Sh) (r : Nat) (o : Option (Int32 × List Int32)) : Sh := fun q => if q = r then o else f q
theorem fuS_eq (f : Sh) (r : Nat) (o : Option (Int32 × List Int32)) : fuS f r o r = o := by unfold fuS; rw [if_pos rfl]
theorem fuS_ne {f : Sh} {r q : Nat} {o : Option (Int32 × List Int32)} (h : q ≠ r) : fuS f r o q = f q := by unfold fuS; rw [if_neg h]
def zSh (Z : ZS) (r : Nat) (o : Option (Int32 × List Int32)) : ZS := (Z.1, Z.2.1, Z.2.2.1, fuS Z.2.2.2.1 r o, Z.2.2.2.2)
theorem okZ.sheet {Z : ZS} {r : Nat} {o : Option (Int32 × List Int32)} (h : okZ Z) (ho : ∀ s l, o = some (s, l) → (s = 0 ∨ s = 1) ∧ l.length ≤ 40) : okZ (zSh Z r o) := by
  refine ⟨h.1, h.2.1, h.2.2.1, fun q hq s l e => ?_, h.2.2.2.2⟩
  by_cases hqr : q = r
  · subst hqr
    exact ho s l (by rw [← fuS_eq Z.2.2.2.1 q o]; exact e)
  · exact h.2.2.2.1 q hq s l (by rw [← fuS_ne (f := Z.2.2.2.1) (o := o) hqr]; exact e)
theorem RC.sheet {Z : ZS} {σ σ' : Mem} {r : Nat} {o : Option (Int32 × List Int32)} (hZ : okZ Z) (h : RC Z σ) (hr : r < 4) (ho : repSc r o σ') (f : ∀ a, a ≠ 152 + 2 * r → a ≠ 153 + 2 * r → (a < 15 ∨ 29 ≤ a) → σ' a = σ a) : RC (zSh Z r o) σ' := by
  obtain ⟨g0, g1, g2, g3, g4⟩ := h
  refine ⟨g0.fr hZ.1.1.1 (fun a ha => f a (by omega) (by omega) (by omega)), fun c hc => (g1 c hc).fr (fun b hb => f b (by omega) (by omega) (by omega)), ⟨?_, fun i b hb => ?_⟩, fun q hq => ?_, ?_⟩
  · rw [f 45 (by omega) (by omega) (by omega)]; exact g2.1
  · rw [f 46 (by omega) (by omega) (by omega)]; exact g2.2 i b hb
  · by_cases hqr : q = r
    · subst hqr
      show repSc q (fuS Z.2.2.2.1 q o q) σ'
      rw [fuS_eq]; exact ho
    · show repSc q (fuS Z.2.2.2.1 r o q) σ'
      rw [fuS_ne hqr]
      have := g3 q hq
      unfold repSc at this ⊢
      rw [f (152 + 2 * q) (by omega) (by omega) (by omega), f (153 + 2 * q) (by omega) (by omega) (by omega)]
      exact this
  · show match Z.2.2.2.2 with
      | none => σ' 0 5 = 0
      | some (S, C) => σ' 0 5 = 1 ∧ repK 29 S σ' ∧ ∀ c, c < 4 → repCo (131 + 6 * c) (C c) σ'
    cases hi : Z.2.2.2.2 with
    | none => rw [hi] at g4; show σ' 0 5 = 0; rw [f 0 (by omega) (by omega) (by omega)]; exact g4
    | some q =>
      obtain ⟨S, C⟩ := q
      rw [hi] at g4
      have ok := hZ.2.2.2.2 S C hi
      exact ⟨by rw [f 0 (by omega) (by omega) (by omega)]; exact g4.1, g4.2.1.fr ok.1.1.1 (fun a ha => f a (by omega) (by omega) (by omega)), fun c hc => (g4.2.2 c hc).fr (fun b hb => f b (by omega) (by omega) (by omega))⟩
theorem RM.sheet {Z : ZS} {σ σ' : Mem} {r : Nat} {o : Option (Int32 × List Int32)} (h : RM Z σ) (hr : r < 4) (ho : repSm r o σ') (hq : ∀ q, q < 4 → q ≠ r → σ' 172 q = σ 172 q ∧ σ' 173 q = σ 173 q ∧ ∀ i, i < 40 → σ' 174 (40 * q + i) = σ 174 (40 * q + i)) (hok : okZ Z) (f : ∀ a, a ≠ 172 → a ≠ 173 → a ≠ 174 → a ≠ 175 → σ' a = σ a) : RM (zSh Z r o) σ' := by
  obtain ⟨g0, g1, g2, g3, g4⟩ := h
  refine ⟨?_, fun c hc => ?_, ⟨?_, fun i b hb => ?_⟩, fun q hq4 => ?_, ?_⟩
  · show repM Z.1 σ'
    unfold repM repN at g0 ⊢
    rw [f 160 (by decide) (by decide) (by decide) (by decide), f 161 (by decide) (by decide) (by decide) (by decide), f 162 (by decide) (by decide) (by decide) (by decide), f 163 (by decide) (by decide) (by decide) (by decide), f 164 (by decide) (by decide) (by decide) (by decide), f 165 (by decide) (by decide) (by decide) (by decide), f 166 (by decide) (by decide) (by decide) (by decide), f 167 (by decide) (by decide) (by decide) (by decide)]
    exact g0
  · have := g1 c hc
    show repCm c (Z.2.1 c) σ'
    unfold repCm at this ⊢
    rw [f 168 (by decide) (by decide) (by decide) (by decide), f 169 (by decide) (by decide) (by decide) (by decide), f 170 (by decide) (by decide) (by decide) (by decide)]
    exact this
  · rw [f 160 (by decide) (by decide) (by decide) (by decide)]; exact g2.1
  · rw [f 171 (by decide) (by decide) (by decide) (by decide)]; exact g2.2 i b hb
  · by_cases hqr : q = r
    · subst hqr
      show repSm q (fuS Z.2.2.2.1 q o q) σ'
      rw [fuS_eq]; exact ho
    · show repSm q (fuS Z.2.2.2.1 r o q) σ'
      rw [fuS_ne hqr]
      have := g3 q hq4
      obtain ⟨e1, e2, e3⟩ := hq q hq4 hqr
      cases hs : Z.2.2.2.1 q with
      | none => rw [hs] at this; exact e1.trans this
      | some sl =>
        obtain ⟨s, l⟩ := sl
        rw [hs] at this
        have h40 := (hok.2.2.2.1 q hq4 s l hs).2
        refine ⟨e1.trans this.1, e2.trans this.2.1, fun i v hv => ?_⟩
        have hl := (List.getElem?_eq_some_iff.mp hv).1
        rw [e3 i (by omega)]
        exact this.2.2 i v hv
  · show match Z.2.2.2.2 with
      | none => σ' 160 40 = 0
      | some (S, C) => σ' 160 40 = 1 ∧ repI S C σ'
    cases hi : Z.2.2.2.2 with
    | none => rw [hi] at g4; show σ' 160 40 = 0; rw [f 160 (by decide) (by decide) (by decide) (by decide)]; exact g4
    | some q =>
      obtain ⟨S, C⟩ := q
      rw [hi] at g4
      refine ⟨by rw [f 160 (by decide) (by decide) (by decide) (by decide)]; exact g4.1, ?_⟩
      have := g4.2
      unfold repI at this ⊢
      rw [f 184 (by decide) (by decide) (by decide) (by decide)]
      exact this
