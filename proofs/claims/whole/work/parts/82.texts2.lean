/-! the reference's paper -/
def paR (t : List Int32) (σ : Mem) : Prop := σ 160 35 = nI t.length ∧ ∀ i b, t[i]? = some b → σ 183 i = b
def frA (σ σ' : Mem) : Prop := (∀ a, a ≠ 160 → a ≠ 183 → σ' a = σ a) ∧ ∀ j, j ≠ 35 → σ' 160 j = σ 160 j
theorem frA.rf (σ : Mem) : frA σ σ := ⟨fun _ _ _ => rfl, fun _ _ => rfl⟩
theorem frA.tr {a b c : Mem} (h : frA a b) (h' : frA b c) : frA a c := ⟨fun x h1 h2 => (h'.1 x h1 h2).trans (h.1 x h1 h2), fun j hj => (h'.2 j hj).trans (h.2 j hj)⟩
theorem m_padd {t : List Int32} {b : Int32} {σ : Mem} (hp : paR t σ) (ht : t.length < 120) : ∃ σ', FX10_writes [.ref 160, .int b] σ = some (none, σ') ∧ paR (t ++ [b]) σ' ∧ frA σ σ' := by
  rw [enX10_writes, oc m9, oc m9, hp.1, rf160_34, xi ht sh183, oc m9, oc m9, cl t.length (by omega), sM_a (show 160 ≠ 183 by decide), hp.1, nI_1]
  refine ⟨_, rfl, ⟨by rw [sM_eq, List.length_append]; rfl, fun i b' hb => ?_⟩, fun a h1 h2 => by rw [sM_a h1, sM_a h2], fun j hj => by rw [sM_i hj, sM_a (by decide)]⟩
  rw [sM_a (by decide)]
  rcases snoc_get hb with ⟨hi, h1⟩ | ⟨rfl, rfl⟩
  · rw [sM_i (by omega)]; exact hp.2 i b' h1
  · rw [sM_eq]
theorem m_pword {s : Nat} {t : List Int32} (hs : s < 4) (ht : t.length + (wdS s).length ≤ 120) : ∀ (m i : Nat) (σ : Mem), i + m = (wdS s).length → paR (t ++ (wdS s).take i) σ → ∃ σ', am_go CX10_writesWord 2 [.ref 160, .int (nI s), .int (nI i)] [] σ = some (none, σ') ∧ paR (t ++ wdS s) σ' ∧ frA σ σ' := by
  have hs6 : s < 6 := by omega
  have l4 := wdS_le hs6
  intro m
  induction m with
  | zero =>
    intro i σ hi hp
    have : i = (wdS s).length := by omega
    subst this
    rw [List.take_length] at hp
    rw [blX10_writesWord_2, m_word hs, rA, wd_isS hs6, j_len hs6]
    simp only [cond_true]
    rw [rI, if_pos (Int32.le_refl _)]
    exact ⟨σ, rfl, hp, frA.rf σ⟩
  | succ m ih =>
    intro i σ hi hp
    have hil : i < (wdS s).length := by omega
    obtain ⟨b, hb⟩ : ∃ b, (wdS s)[i]? = some b := ⟨(wdS s)[i], List.getElem?_eq_getElem hil⟩
    have eg : (wdS s).getD i 0 = b := by rw [List.getD_eq_getElem?_getD, hb]; rfl
    have hlen : (t ++ (wdS s).take i).length = t.length + i := by rw [List.length_append, List.length_take]; omega
    obtain ⟨σ1, e1, p1, f1⟩ := m_padd (b := b) hp (by omega)
    have hsum : t ++ (wdS s).take i ++ [b] = t ++ (wdS s).take (i + 1) := by
      rw [List.take_succ, hb, List.append_assoc]; rfl
    rw [hsum] at p1
    obtain ⟨σ2, e2, p2, f2⟩ := ih (i + 1) σ1 (by omega) p1
    refine ⟨σ2, ?_, p2, f1.tr f2⟩
    rw [blX10_writesWord_2, m_word hs, rA, wd_isS hs6, j_len hs6]
    simp only [cond_true]
    rw [rI, if_neg (nI_ge hil (by omega)), m_word hs, rA, wd_isS hs6, j_at hs6 hil]
    simp only [cond_true]
    rw [rI, oc m9, eg, e1, rV, nI_1, e2]
theorem m_writesWord {s : Nat} {t : List Int32} {σ : Mem} (hs : s < 4) (ht : t.length + 4 ≤ 120) (hp : paR t σ) : ∃ σ', FX10_writesWord [.ref 160, .int (nI s)] σ = some (none, σ') ∧ paR (t ++ wdS s) σ' ∧ frA σ σ' := by
  have l4 := wdS_le (s := s) (by omega)
  rw [enX10_writesWord]
  exact m_pword hs (by omega) (wdS s).length 0 σ (by omega) (by rw [List.take_zero, List.append_nil]; exact hp)
theorem legM.fr {c i : Nat} {g : Lg} {σ σ' : Mem} (h : legM c i g σ) (f : frA σ σ') : legM c i g σ' := by
  unfold legM at h ⊢
  rw [f.1 169 (by decide) (by decide), f.1 170 (by decide) (by decide)]
  exact h
theorem i18' (c k : Nat) : (18 : Int32) * nI c + (3 : Int32) * nI k = nI (18 * c + 3 * k) := by
  rw [show (18 : Int32) = nI 18 from rfl, show (3 : Int32) = nI 3 from rfl, pk_mul, pk_mul, nI_add]
theorem m_showLeg {c i : Nat} {g : Lg} {t : List Int32} {σ : Mem} (hc : c < 4) (hi : i < 6) (hg : legM c i g σ) (ok : okG g) (hp : paR t σ) (ht : t.length + 17 ≤ 120) : ∃ σ', am_go CX10_prints 36 [.ref 160, .int (nI c), .int (nI i), .int (nI (18 * c + 3 * i))] [] σ = am_go CX10_prints 7 [.ref 160, .int (nI c), .int (nI (i + 1)), .int (nI (18 * c + 3 * i))] [] σ' ∧ paR (t ++ legT g) σ' ∧ frA σ σ' := by
  obtain ⟨s0, h0, e0⟩ := ok.1
  obtain ⟨s1, h1, e1⟩ := ok.2.1
  obtain ⟨s2, h2, e2⟩ := ok.2.2.1
  obtain ⟨n, n1, n9, en⟩ := ok.2.2.2
  have l0 := wdS_le (s := s0) (by omega)
  have l1 := wdS_le (s := s1) (by omega)
  have l2 := wdS_le (s := s2) (by omega)
  have n0' : ∀ τ, legM c i g τ → τ 170 (18 * c + 3 * i) = nI s0 := fun τ hq => by rw [hq.1, e0]
  have n1' : ∀ τ, legM c i g τ → τ 170 (18 * c + 3 * i + 1) = nI s1 := fun τ hq => by rw [hq.2.1, e1]
  have n2' : ∀ τ, legM c i g τ → τ 170 (18 * c + 3 * i + 2) = nI s2 := fun τ hq => by rw [hq.2.2.1, e2]
  have n3' : ∀ τ, legM c i g τ → τ 169 (6 * c + i) = nI n := fun τ hq => by rw [hq.2.2.2, en]
  have x0 : ∀ {α : Type} {k : Option α}, o_ix 100 170 (nI (18 * c + 3 * i)) k = k := fun {α k} => xi (show 18 * c + 3 * i < 72 by omega) sh170
  have x1 : ∀ {α : Type} {k : Option α}, o_ix 100 170 (nI (18 * c + 3 * i + 1)) k = k := fun {α k} => xi (show 18 * c + 3 * i + 1 < 72 by omega) sh170
  have x2 : ∀ {α : Type} {k : Option α}, o_ix 100 170 (nI (18 * c + 3 * i + 2)) k = k := fun {α k} => xi (show 18 * c + 3 * i + 2 < 72 by omega) sh170
  have x6 : ∀ {α : Type} {k : Option α}, o_ix 100 169 (nI (6 * c + i)) k = k := fun {α k} => xi (show 6 * c + i < 24 by omega) sh169
  have a2 : nI (18 * c + 3 * i) + 2 = nI (18 * c + 3 * i + 2) := nI_add _ 2
  have tail : ∀ (τ : Mem) (u : List Int32), legM c i g τ → paR u τ → u.length + 3 ≤ 120 → ∃ σ', o_cls 160 9 (o_ix 100 (rf 160 11) (((6 : Int32) * nI c) + nI i) ((if (τ (rf 160 11) (((6 : Int32) * nI c) + nI i).toNatClampNeg) ≤ (1 : Int32) then am_go CX10_prints 7 [.ref 160, .int (nI c), .int (nI i + (1 : Int32)), .int (nI (18 * c + 3 * i))] [] τ else o_cls 160 9 (o_rV (FX10_writes [.ref 160, .int (32 : Int32)] τ) (fun m2 => o_cls 160 9 (o_rV (FX10_writes [.ref 160, .int (120 : Int32)] m2) (fun m3 => o_cls 160 9 (o_ix 100 (rf 160 11) (((6 : Int32) * nI c) + nI i) (o_cls 160 9 (o_rV (FX10_writes [.ref 160, .int ((48 : Int32) + (m3 (rf 160 11) (((6 : Int32) * nI c) + nI i).toNatClampNeg))] m3) (fun m4 => am_go CX10_prints 7 [.ref 160, .int (nI c), .int (nI i + (1 : Int32)), .int (nI (18 * c + 3 * i))] [] m4))))))))))) = am_go CX10_prints 7 [.ref 160, .int (nI c), .int (nI (i + 1)), .int (nI (18 * c + 3 * i))] [] σ' ∧ paR (u ++ tlT (nI n)) σ' ∧ frA τ σ' := by
    intro τ u hq hu hul
    rw [oc m9, rf160_11, i6, x6, cl (6 * c + i) (by omega), n3' τ hq, nI_1]
    unfold tlT
    by_cases hn : nI n ≤ 1
    · rw [if_pos hn, if_pos hn, List.append_nil]
      exact ⟨τ, rfl, hu, frA.rf τ⟩
    · rw [if_neg hn, if_neg hn]
      obtain ⟨τ1, b1, p1, f1⟩ := m_padd (b := 32) hu (by omega)
      have hl1 : (u ++ [(32 : Int32)]).length = u.length + 1 := by rw [List.length_append]; rfl
      obtain ⟨τ2, b2, p2, f2⟩ := m_padd (b := 120) p1 (by omega)
      have hl2 : (u ++ [(32 : Int32)] ++ [120]).length = u.length + 2 := by rw [List.length_append, hl1]; rfl
      obtain ⟨τ3, b3, p3, f3⟩ := m_padd (b := 48 + nI n) p2 (by omega)
      have hq2 := hq.fr (f1.tr f2)
      rw [oc m9, b1, rV, oc m9, b2, rV, oc m9, x6, oc m9, n3' τ2 hq2, b3, rV]
      refine ⟨τ3, rfl, ?_, (f1.tr f2).tr f3⟩
      rw [List.append_assoc, List.append_assoc] at p3
      exact p3
  obtain ⟨τ1, b1, p1, f1⟩ := m_writesWord (s := s0) (by omega) (by omega) hp
  have q1 := hg.fr f1
  have m1 : (t ++ wdS s0).length ≤ t.length + 4 := by rw [List.length_append]; omega
  have slash : ¬ (nI s0 = nI s1 ∧ nI s0 = nI s2) → ∃ σ', am_go CX10_prints 80 [.ref 160, .int (nI c), .int (nI i), .int (nI (18 * c + 3 * i))] [] τ1 = am_go CX10_prints 7 [.ref 160, .int (nI c), .int (nI (i + 1)), .int (nI (18 * c + 3 * i))] [] σ' ∧ paR (t ++ legT g) σ' ∧ frA σ σ' := by
    intro he
    obtain ⟨τ2, b2, p2, f2⟩ := m_padd (b := 47) p1 (by omega)
    have q2 := q1.fr f2
    have m2 : (t ++ wdS s0 ++ [(47 : Int32)]).length ≤ t.length + 5 := by rw [List.length_append]; show _ + 1 ≤ _; omega
    obtain ⟨τ3, b3, p3, f3⟩ := m_writesWord (s := s1) (by omega) (by omega) p2
    have q3 := q2.fr f3
    have m3 : (t ++ wdS s0 ++ [(47 : Int32)] ++ wdS s1).length ≤ t.length + 9 := by rw [List.length_append]; omega
    obtain ⟨τ4, b4, p4, f4⟩ := m_padd (b := 47) p3 (by omega)
    have q4 := q3.fr f4
    have m4 : (t ++ wdS s0 ++ [(47 : Int32)] ++ wdS s1 ++ [47]).length ≤ t.length + 10 := by rw [List.length_append]; show _ + 1 ≤ _; omega
    obtain ⟨τ5, b5, p5, f5⟩ := m_writesWord (s := s2) (by omega) (by omega) p4
    have q5 := q4.fr f5
    have m5 : (t ++ wdS s0 ++ [(47 : Int32)] ++ wdS s1 ++ [47] ++ wdS s2).length ≤ t.length + 14 := by rw [List.length_append]; omega
    obtain ⟨τ6, b6, p6, f6⟩ := tail τ5 _ q5 p5 (by omega)
    rw [blX10_prints_80, oc m9, b2, rV, nI_1 (18 * c + 3 * i), a2, oc m9, rf160_12, x1, oc m9, cl (18 * c + 3 * i + 1) (by omega), n1' τ2 q2, b3, rV, oc m9, b4, rV, oc m9, x2, oc m9, cl (18 * c + 3 * i + 2) (by omega), n2' τ4 q4, b5, rV]
    refine ⟨τ6, b6, ?_, (((((f1.tr f2).tr f3).tr f4).tr f5).tr f6)⟩
    have el : t ++ wdS s0 ++ [(47 : Int32)] ++ wdS s1 ++ [47] ++ wdS s2 ++ tlT (nI n) = t ++ legT g := by
      unfold legT
      rw [e0, e1, e2, en, wdT_nI h0, wdT_nI h1, wdT_nI h2, if_neg he]
      simp only [List.append_assoc]
    rw [el] at p6
    exact p6
  rw [blX10_prints_36, oc m9, rf160_12, x0, oc m9, cl (18 * c + 3 * i) (by omega), n0' σ hg, b1, rV, oc m9, nI_1 (18 * c + 3 * i), x1, oc m9, x0, cl (18 * c + 3 * i + 1) (by omega), n1' τ1 q1, n0' τ1 q1]
  by_cases hA : nI s1 = nI s0
  · rw [if_pos hA, oc m9, a2, x2, oc m9, x0, cl (18 * c + 3 * i + 2) (by omega), n2' τ1 q1]
    by_cases hB : nI s2 = nI s0
    · rw [if_pos hB]
      obtain ⟨τ2, b2, p2, f2⟩ := tail τ1 _ q1 p1 (by omega)
      refine ⟨τ2, b2, ?_, f1.tr f2⟩
      unfold legT
      rw [e0, e1, e2, en, wdT_nI h0, if_pos ⟨hA.symm, hB.symm⟩, List.append_nil, ← List.append_assoc]
      exact p2
    · rw [if_neg hB]
      exact slash (fun z => hB z.2.symm)
  · rw [if_neg hA]
    exact slash (fun z => hA z.1.symm)
theorem m_sh {c : Nat} {L : List Lg} (hc : c < 4) (hL : okC L) : ∀ (l2 l1 : List Lg) (t : List Int32) (v3 : Value) (σ : Mem), l1 ++ l2 = L → t.length + 18 * l2.length ≤ 120 → paR t σ → repCm c L σ → ∃ σ', am_go CX10_prints 7 [.ref 160, .int (nI c), .int (nI l1.length), v3] [] σ = some (none, σ') ∧ paR (t ++ txtL l1.length l2) σ' ∧ frA σ σ' := by
  intro l2
  induction l2 with
  | nil =>
    intro l1 t v3 σ hl ht hp h
    rw [List.append_nil] at hl
    subst hl
    rw [blX10_prints_7, oc m9, rf160_10, xi hc sh168, cl c (by omega), h.1, if_pos (Int32.le_refl _), txtL, List.append_nil]
    exact ⟨σ, rfl, hp, frA.rf σ⟩
  | cons g l2 ih =>
    intro l1 t v3 σ hl ht hp h
    have hlen : L.length = l1.length + l2.length + 1 := by rw [← hl]; simp; omega
    have h6 := hL.1
    have hgl : L[l1.length]? = some g := by rw [← hl]; simp
    have hok := hL.2 g (List.mem_of_getElem? hgl)
    rw [List.length_cons] at ht
    have frC : ∀ {τ τ' : Mem}, repCm c L τ → frA τ τ' → repCm c L τ' := by
      intro τ τ' hr f
      unfold repCm at hr ⊢
      rw [f.1 168 (by decide) (by decide), f.1 169 (by decide) (by decide), f.1 170 (by decide) (by decide)]
      exact hr
    have step : ∀ (u : List Int32) (τ : Mem), u.length ≤ t.length + 1 → paR u τ → frA σ τ → ∃ σ', am_go CX10_prints 36 [.ref 160, .int (nI c), .int (nI l1.length), .int (nI (18 * c + 3 * l1.length))] [] τ = some (none, σ') ∧ paR (u ++ legT g ++ txtL (l1.length + 1) l2) σ' ∧ frA σ σ' := by
      intro u τ hu hq hf
      have hr : repCm c L τ := frC h hf
      obtain ⟨τ1, a1, p1, f1⟩ := m_showLeg hc (by omega) (hr.2 l1.length g hgl) hok hq (by omega)
      have hll := legT_len hok
      have hl1 : (l1 ++ [g]).length = l1.length + 1 := by simp
      obtain ⟨τ2, a2, p2, f2⟩ := ih (l1 ++ [g]) (u ++ legT g) (.int (nI (18 * c + 3 * l1.length))) τ1 (by rw [← hl]; simp) (by rw [List.length_append]; omega) p1 (frC hr f1)
      rw [hl1] at a2 p2
      rw [a1]
      exact ⟨τ2, a2, p2, (hf.tr f1).tr f2⟩
    rw [blX10_prints_7, oc m9, rf160_10, xi hc sh168, cl c (by omega), h.1, if_neg (nI_ge (by omega) (by omega)), txtL, i18']
    by_cases hz : l1.length = 0
    · rw [if_pos (show nI l1.length ≤ 0 by rw [hz]; decide), if_pos hz, List.nil_append, ← List.append_assoc]
      exact step t σ (by omega) hp (frA.rf σ)
    · rw [if_neg (nI_nle (by omega) (by omega)), if_neg hz]
      obtain ⟨τ1, a1, p1, f1⟩ := m_padd (b := 59) hp (by omega)
      obtain ⟨τ2, a2, p2, f2⟩ := step (t ++ [59]) τ1 (by rw [List.length_append]; exact Nat.le_refl _) p1 f1
      rw [oc m9, a1, rV]
      refine ⟨τ2, a2, ?_, f2⟩
      have el : t ++ [(59 : Int32)] ++ legT g ++ txtL (l1.length + 1) l2 = t ++ ([59] ++ legT g ++ txtL (l1.length + 1) l2) := by
        simp only [List.append_assoc]
      rw [el] at p2
      exact p2
theorem m_prints {c : Nat} {L : List Lg} {σ : Mem} (hc : c < 4) (hL : okC L) (h : repCm c L σ) : ∃ σ', FX10_prints [.ref 160, .int (nI c)] σ = some (none, σ') ∧ paR (txtL 0 L) σ' ∧ frA σ σ' := by
  have h6 := hL.1
  have h' : repCm c L (setM σ 160 35 0) := by
    unfold repCm at h ⊢
    rw [sM_a (by decide), sM_a (by decide), sM_a (by decide)]
    exact h
  obtain ⟨σ1, e1, p1, f1⟩ := m_sh hc hL L [] [] .null (setM σ 160 35 0) rfl (by show 0 + 18 * L.length ≤ 120; omega) ⟨by rw [sM_eq]; rfl, fun i b hb => by cases hb⟩ h'
  rw [enX10_prints, oc m9]
  exact ⟨σ1, e1, p1, fun a h1 h2 => by rw [f1.1 a h1 h2, sM_a h1], fun j hj => by rw [f1.2 j hj, sM_i hj]⟩
/-! print, spelled -/
def prnR (t : List Int32) (x : Int32) : Int32 := if x = -1 then nI t.length else if nI t.length ≤ x then -12 else t.getD x.toNatClampNeg 0
theorem m1_le {x : Int32} (h : -1 ≤ x) (h' : ¬ x = -1) : 0 ≤ x := by
  rw [Int32.le_iff_toInt_le] at h ⊢
  have h1 : (-1 : Int32).toInt = -1 := by decide
  have h0 : (0 : Int32).toInt = 0 := by decide
  rw [h1] at h
  rw [h0]
  apply Classical.byContradiction
  intro hn
  have : x.toInt = (-1 : Int32).toInt := by rw [h1]; omega
  exact h' (Int32.toInt_inj.mp this)
theorem getD_at {t : List Int32} {i : Nat} (hi : i < t.length) : t[i]? = some (t.getD i 0) := by
  rw [List.getD_eq_getElem?_getD, List.getElem?_eq_getElem hi]; rfl
theorem op_print {σ : Mem} (h : Rel σ) (x1 x2 : Int32) : OpOK (FX9_print [.ref 0, .int x1, .int x2]) (FX10_print [.ref 160, .int x1, .int x2]) σ := by
  by_cases h1 : 0 ≤ x1 ∧ x1 ≤ 3
  · by_cases h2 : -1 ≤ x2
    · have h0 := h
      obtain ⟨Z, hZ, hC, hM⟩ := h
      have h1' := h1
      obtain ⟨c, hc, rfl⟩ := n3 h1
      have hl6 := (hZ.2.1 c hc).1
      by_cases hn : (Z.2.1 c).length = 0
      · exact op_same (r := -3) h0 (by rw [enX9_print, t_isCourse, rI, ifb, if_pos h1', if_pos h2, oc c8, rf0_3, x103 hc, cl c (by omega), cor hc, oc (cos hc), c_none hZ.2 hC.2 hc, rI, ifb, if_pos hn]) (by rw [enX10_print, t_mCourse, rI, ifb, if_pos h1', if_pos h2, oc m9, rf160_10, xi hc sh168, cl c (by omega), (hM.2.1 c hc).1, hn, if_pos (show nI 0 = 0 from rfl)])
      · have htl : (txtL 0 (Z.2.1 c)).length ≤ 120 := by have := txtL_len (Z.2.1 c) 0 (hZ.2.1 c hc).2; omega
        refine op_of (Z' := Z) (r := prnR (txtL 0 (Z.2.1 c)) x2) hZ hM hZ ?_ (fun σ1 hM1 => ?_)
        · obtain ⟨σ1, e1, p1, f1⟩ := t_show (cos hc) (by omega) (hZ.2.1 c hc) (hC.2.1 c hc)
          refine ⟨σ1, ?_, ⟨hC.1.fr hZ.1.1.1 (fun a ha => f1 a (by omega) (by omega)), hC.2.fr hZ.2 ⟨fun a ha => f1 a (by omega) (by omega), by rw [f1 0 (by decide) (by decide)]⟩⟩, fun a ha => f1 a (by omega) (by omega)⟩
          rw [enX9_print, t_isCourse, rI, ifb, if_pos h1', if_pos h2, oc c8, rf0_3, x103 hc, cl c (by omega), cor hc, oc (cos hc), c_none hZ.2 hC.2 hc, rI, ifb, if_neg hn, oc c8, oc c8, x103 hc, rf0_7, oc o47, e1, rV]
          unfold prnR
          by_cases hm : x2 = -1
          · rw [if_pos hm, if_pos hm, oc c8, oc o47, p1.1]
          · rw [if_neg hm, if_neg hm, oc c8, oc o47, p1.1]
            by_cases hle : nI (txtL 0 (Z.2.1 c)).length ≤ x2
            · rw [if_pos hle, if_pos hle]
            · obtain ⟨j, hj, rfl⟩ := nI_of (Int32.not_lt.mpr (m1_le h2 hm))
              have hjl : j < (txtL 0 (Z.2.1 c)).length := by
                apply Classical.byContradiction
                intro q
                exact hle (nI_le (by omega) hj)
              rw [if_neg hle, if_neg hle, oc c8, oc o47, rf47_0, x48 (by omega), cl j (by omega), p1.2 j _ (getD_at hjl)]
        · obtain ⟨σ2, e2, p2, f2⟩ := m_prints hc (hZ.2.1 c hc) (hM1.2.1 c hc)
          have kp : kpM σ1 σ2 := ⟨fun a ha => f2.1 a (by omega) (by omega), f2.2 14 (by decide), f2.2 40 (by decide)⟩
          have r2 : repM Z.1 σ2 := by
            have := hM1.1
            unfold repM repN at this ⊢
            rw [f2.2 2 (by decide), f2.2 8 (by decide), f2.2 9 (by decide), f2.1 161 (by decide) (by decide), f2.1 162 (by decide) (by decide), f2.1 163 (by decide) (by decide), f2.1 164 (by decide) (by decide), f2.1 165 (by decide) (by decide), f2.1 166 (by decide) (by decide), f2.1 167 (by decide) (by decide)]
            exact this
          refine ⟨σ2, ?_, ⟨r2, hM1.2.fr kp⟩, fun a ha => f2.1 a (by omega) (by omega)⟩
          rw [enX10_print, t_mCourse, rI, ifb, if_pos h1', if_pos h2, oc m9, rf160_10, xi hc sh168, cl c (by omega), (hM1.2.1 c hc).1, if_neg (fun e => hn ((nI_z (by omega)).mp e)), oc m9, e2, rV]
          unfold prnR
          by_cases hm : x2 = -1
          · rw [if_pos hm, if_neg (by rw [hm]; decide), oc m9, p2.1]
          · rw [if_neg hm, if_pos (m1_le h2 hm), oc m9, p2.1]
            by_cases hle : nI (txtL 0 (Z.2.1 c)).length ≤ x2
            · rw [if_pos hle, if_pos hle]
            · obtain ⟨j, hj, rfl⟩ := nI_of (Int32.not_lt.mpr (m1_le h2 hm))
              have hjl : j < (txtL 0 (Z.2.1 c)).length := by
                apply Classical.byContradiction
                intro q
                exact hle (nI_le (by omega) hj)
              rw [if_neg hle, if_neg hle, oc m9, rf160_34, xi (show j < 120 by omega) sh183, cl j (by omega), p2.2 j _ (getD_at hjl)]
    · exact op_same (r := -2) h (by rw [enX9_print, t_isCourse, rI, ifb, if_pos h1, if_neg h2]) (by rw [enX10_print, t_mCourse, rI, ifb, if_pos h1, if_neg h2])
  · exact op_same (r := -2) h (by rw [enX9_print, t_isCourse, rI, ifb, if_neg h1]) (by rw [enX10_print, t_mCourse, rI, ifb, if_neg h1])
def cmpI (t u : List Int32) : Nat → Nat → Int32
  | 0, _ => 1
  | m + 1, i => if t.getD i 0 = u.getD i 0 then cmpI t u m (i + 1) else 0
theorem cmpI_01 (t u : List Int32) : ∀ m i, cmpI t u m i = 0 ∨ cmpI t u m i = 1 := by
  intro m
  induction m with
  | zero => intro i; exact Or.inr rfl
  | succ m ih =>
    intro i
    rw [cmpI]
    split
    · exact ih (i + 1)
    · exact Or.inl rfl
theorem o45 : (sh 45).1 = 7 := by rw [sh45]
theorem x46 {α : Type} {i : Nat} {k : Option α} (hi : i < 120) : o_ix 101 46 (nI i) k = k := ox (by rw [sh46]) (by rw [sh46]; exact hi)
theorem t_cmp {t u : List Int32} {σ : Mem} (ht : t.length ≤ 120) (hu : u.length = t.length) (h1 : prR t σ) (h2 : ∀ i b, u[i]? = some b → σ 46 i = b) : ∀ m i, i + m = t.length → am_go CX6_isSameAs 15 [.ref 47, .ref 45, .int (nI i)] [] σ = some (some (.int (cmpI t u m i)), σ) := by
  intro m
  induction m with
  | zero =>
    intro i hi
    have : i = t.length := by omega
    subst this
    rw [blX6_isSameAs_15, oc o47, h1.1, if_pos (Int32.le_refl _), zr1, cmpI]
  | succ m ih =>
    intro i hi
    rw [blX6_isSameAs_15, oc o47, h1.1, if_neg (nI_ge (by omega) (by omega)), oc o47, rf47_0, x48 (by omega), oc o45, rf45_0, x46 (by omega), cl i (by omega), h1.2 i _ (getD_at (by omega)), h2 i _ (getD_at (by omega)), nI_1, zr0, cmpI, ih (i + 1) (by omega)]
    split <;> rfl
theorem m_cmp {c t u : List Int32} {x1 : Int32} {σ : Mem} (ht : t.length ≤ 120) (hu : u.length = t.length) (h1 : paR t σ) (h2 : ∀ i b, u[i]? = some b → σ 171 i = b) : ∀ m i, i + m = t.length → am_go CX10_spelled 42 [.ref 160, .int x1, .int (nI i)] [] σ = some (some (.int (cmpI t u m i)), σ) := by
  intro m
  induction m with
  | zero =>
    intro i hi
    have : i = t.length := by omega
    subst this
    rw [blX10_spelled_42, oc m9, h1.1, if_pos (Int32.le_refl _), cmpI]
  | succ m ih =>
    intro i hi
    rw [blX10_spelled_42, oc m9, h1.1, if_neg (nI_ge (by omega) (by omega)), oc m9, rf160_34, xi (show i < 120 by omega) sh183, oc m9, rf160_13, xi (show i < 120 by omega) sh171, cl i (by omega), h1.2 i _ (getD_at (by omega)), h2 i _ (getD_at (by omega)), nI_1, cmpI, ih (i + 1) (by omega)]
    split <;> rfl
def splR (t u : List Int32) : Int32 := if t.length = u.length then cmpI t u t.length 0 else 0
theorem op_spelled {σ : Mem} (h : Rel σ) (x1 : Int32) : OpOK (FX9_spelled [.ref 0, .int x1]) (FX10_spelled [.ref 160, .int x1]) σ := by
  by_cases h1 : 0 ≤ x1 ∧ x1 ≤ 3
  · have h0 := h
    obtain ⟨Z, hZ, hC, hM⟩ := h
    have h1' := h1
    obtain ⟨c, hc, rfl⟩ := n3 h1
    have hl6 := (hZ.2.1 c hc).1
    by_cases hn : (Z.2.1 c).length = 0
    · exact op_same (r := -3) h0 (by rw [enX9_spelled, t_isCourse, rI, ifb, if_pos h1', oc c8, rf0_3, x103 hc, cl c (by omega), cor hc, oc (cos hc), c_none hZ.2 hC.2 hc, rI, ifb, if_pos hn]) (by rw [enX10_spelled, t_mCourse, rI, ifb, if_pos h1', oc m9, rf160_10, xi hc sh168, cl c (by omega), (hM.2.1 c hc).1, hn, if_pos (show nI 0 = 0 from rfl)])
    · have htl : (txtL 0 (Z.2.1 c)).length ≤ 120 := by have := txtL_len (Z.2.1 c) 0 (hZ.2.1 c hc).2; omega
      have hul : Z.2.2.1.length ≤ 120 := hZ.2.2.1.1
      refine op_of (Z' := Z) (r := splR (txtL 0 (Z.2.1 c)) Z.2.2.1) hZ hM hZ ?_ (fun σ1 hM1 => ?_)
      · obtain ⟨σ1, e1, p1, f1⟩ := t_show (cos hc) (by omega) (hZ.2.1 c hc) (hC.2.1 c hc)
        refine ⟨σ1, ?_, ⟨hC.1.fr hZ.1.1.1 (fun a ha => f1 a (by omega) (by omega)), hC.2.fr hZ.2 ⟨fun a ha => f1 a (by omega) (by omega), by rw [f1 0 (by decide) (by decide)]⟩⟩, fun a ha => f1 a (by omega) (by omega)⟩
        have t1 : σ1 45 1 = nI Z.2.2.1.length := by rw [f1 45 (by decide) (by decide)]; exact hC.2.2.1.1
        have t2 : ∀ i b, Z.2.2.1[i]? = some b → σ1 46 i = b := fun i b hb => by rw [f1 46 (by decide) (by decide)]; exact hC.2.2.1.2 i b hb
        rw [enX9_spelled, t_isCourse, rI, ifb, if_pos h1', oc c8, rf0_3, x103 hc, cl c (by omega), cor hc, oc (cos hc), c_none hZ.2 hC.2 hc, rI, ifb, if_neg hn, oc c8, oc c8, x103 hc, rf0_7, oc o47, e1, rV, oc c8, oc c8, rf0_6, oc o47, enX6_isSameAs, oc o47, oc o45, p1.1, t1]
        unfold splR
        by_cases hq : (txtL 0 (Z.2.1 c)).length = Z.2.2.1.length
        · rw [if_pos hq, if_pos (by rw [hq]), show am_go CX6_isSameAs 15 [.ref 47, .ref 45, .int 0] [] σ1 = _ from t_cmp htl hq.symm p1 t2 (txtL 0 (Z.2.1 c)).length 0 (by omega), rI]
          rcases cmpI_01 (txtL 0 (Z.2.1 c)) Z.2.2.1 (txtL 0 (Z.2.1 c)).length 0 with e | e
          · rw [e, if_pos rfl]
          · rw [e, if_neg (by decide)]
        · rw [if_neg hq, if_neg (fun e => hq ((nI_eq (by omega) (by omega)).mp e)), zr0, rI, if_pos rfl]
      · obtain ⟨σ2, e2, p2, f2⟩ := m_prints hc (hZ.2.1 c hc) (hM1.2.1 c hc)
        have kp : kpM σ1 σ2 := ⟨fun a ha => f2.1 a (by omega) (by omega), f2.2 14 (by decide), f2.2 40 (by decide)⟩
        have r2 : repM Z.1 σ2 := by
          have := hM1.1
          unfold repM repN at this ⊢
          rw [f2.2 2 (by decide), f2.2 8 (by decide), f2.2 9 (by decide), f2.1 161 (by decide) (by decide), f2.1 162 (by decide) (by decide), f2.1 163 (by decide) (by decide), f2.1 164 (by decide) (by decide), f2.1 165 (by decide) (by decide), f2.1 166 (by decide) (by decide), f2.1 167 (by decide) (by decide)]
          exact this
        refine ⟨σ2, ?_, ⟨r2, hM1.2.fr kp⟩, fun a ha => f2.1 a (by omega) (by omega)⟩
        have t1 : σ2 160 14 = nI Z.2.2.1.length := by rw [f2.2 14 (by decide)]; exact hM1.2.2.1.1
        have t2 : ∀ i b, Z.2.2.1[i]? = some b → σ2 171 i = b := fun i b hb => by rw [f2.1 171 (by decide) (by decide)]; exact hM1.2.2.1.2 i b hb
        rw [enX10_spelled, t_mCourse, rI, ifb, if_pos h1', oc m9, rf160_10, xi hc sh168, cl c (by omega), (hM1.2.1 c hc).1, if_neg (fun e => hn ((nI_z (by omega)).mp e)), oc m9, e2, rV, oc m9, oc m9, p2.1, t1]
        unfold splR
        by_cases hq : (txtL 0 (Z.2.1 c)).length = Z.2.2.1.length
        · rw [if_pos hq, if_pos (by rw [hq])]
          exact m_cmp (c := []) htl hq.symm p2 t2 (txtL 0 (Z.2.1 c)).length 0 (by omega)
        · rw [if_neg hq, if_neg (fun e => hq ((nI_eq (by omega) (by omega)).mp e))]
  · exact op_same (r := -2) h (by rw [enX9_spelled, t_isCourse, rI, ifb, if_neg h1]) (by rw [enX10_spelled, t_mCourse, rI, ifb, if_neg h1])
