/-! tries -/
theorem frun_len (st : Prop) [Decidable st] : ∀ m s, (frun st m s).1.1.2.2.1.length = s.1.2.2.1.length := by
  intro m
  induction m with
  | zero => intro s; rfl
  | succ m ih =>
    intro s
    rw [frun]
    split
    · exact step_len s.1
    · rw [ih]; exact step_len s.1
theorem flegs_len (st : Prop) [Decidable st] : ∀ (l : List Lg) (s : FS), (flegs st l s).1.2.2.1.length = s.1.2.2.1.length := by
  intro l
  induction l with
  | nil => intro s; rfl
  | cons g l ih =>
    intro s
    rw [flegs]
    split
    · rw [frun_len]; rfl
    · rw [ih, frun_len]; rfl
theorem loI_eq {s : FS} (h : okF s) : loI s = lowF s.2.2.2 s.1.2.2.1.length 0 := by
  obtain ⟨h1, h2, h3, h4, h5⟩ := h
  unfold loI
  by_cases ha : s.2.2.1 = 0
  · rw [if_pos ha, h2 ha]
    exact (low_none _ 0 (by decide)).symm
  · rw [if_neg ha]
    have h8 := h1.1.1
    have := low_ext (m := s.2.2.2) s.1.2.2.1.length (8 - s.1.2.2.1.length) 0 (by rw [Nat.zero_add]; exact h5)
    rw [show s.1.2.2.1.length + (8 - s.1.2.2.1.length) = 8 by omega] at this
    exact this
def howS (s : FS) : Int32 := if s.2.2.1 = 0 then 0 else match s.1.2.2.1[(lowF s.2.2.2 s.1.2.2.1.length 0).toNatClampNeg]? with
  | some d => d.2.2.2.2
  | none => 0
def triR (S0 : KS) (s : FS) (w : Int32) : Int32 := if w = 0 then s.1.2.2.2.1 - S0.2.2.2.1 else if w = 1 then atI s else if w = 2 then loI s else if w = 3 then howS s else if w = 4 then spdS s.1 else if w = 5 then doneS s.1 else at3 s.1.1 (w - 6).toNatClampNeg
theorem how_at {s : FS} (h : okF s) (ha : s.2.2.1 ≠ 0) : ∃ i d, i < s.1.2.2.1.length ∧ lowF s.2.2.2 s.1.2.2.1.length 0 = nI i ∧ s.1.2.2.1[i]? = some d ∧ howS s = d.2.2.2.2 := by
  obtain ⟨i, hi, e⟩ := low_in h.2.2.2.2 (h.2.2.1 ha)
  have h8 := h.1.1.1
  refine ⟨i, s.1.2.2.1[i], hi, e, List.getElem?_eq_getElem hi, ?_⟩
  unfold howS
  rw [if_neg ha, e, cl i (by omega), List.getElem?_eq_getElem hi]
theorem rest3 {w : Int32} (h : 0 ≤ w ∧ w ≤ 8) (h0 : w ≠ 0) (h1 : w ≠ 1) (h2 : w ≠ 2) (h3 : w ≠ 3) (h4 : w ≠ 4) (h5 : w ≠ 5) : ∃ z, z < 3 ∧ w - 6 = nI z := by
  obtain ⟨n, -, hn, rfl⟩ := n_of (n := 0) (m := 8) rfl rfl (by decide) (by decide) h
  have q : n ≠ 0 ∧ n ≠ 1 ∧ n ≠ 2 ∧ n ≠ 3 ∧ n ≠ 4 ∧ n ≠ 5 := ⟨fun e => h0 (by rw [e]; rfl), fun e => h1 (by rw [e]; rfl), fun e => h2 (by rw [e]; rfl), fun e => h3 (by rw [e]; rfl), fun e => h4 (by rw [e]; rfl), fun e => h5 (by rw [e]; rfl)⟩
  refine ⟨n - 6, by omega, ?_⟩
  exact pk_sub (a := n) (b := 6) (by omega)
theorem op_tries {σ : Mem} (h : Rel σ) (x1 w : Int32) : OpOK (FX9_tries [.ref 0, .int x1, .int w]) (FX10_tries [.ref 160, .int x1, .int w]) σ := by
  by_cases h1 : 0 ≤ x1 ∧ x1 ≤ 3
  · by_cases h2 : 0 ≤ w ∧ w ≤ 8
    · have h0 := h
      obtain ⟨Z, hZ, hC, hM⟩ := h
      obtain ⟨c, hc, rfl⟩ := n3 h1
      have hl6 := (hZ.2.1 c hc).1
      by_cases hn : (Z.2.1 c).length = 0
      · exact op_same (r := -3) h0 (by rw [enX9_tries, t_isCourse, rI, ifb, if_pos h1, t_isWithin, rI, ifb, if_pos h2, oc c8, rf0_3, x103 hc, cl c (by omega), cor hc, oc (cos hc), c_none hZ.2 hC.2 hc, rI, ifb, if_pos hn]) (by rw [enX10_tries, t_mCourse, rI, ifb, if_pos h1, t_isIn, rI, ifb, if_pos h2, oc m9, rf160_10, xi hc sh168, cl c (by omega), (hM.2.1 c hc).1, hn, if_pos (show nI 0 = 0 from rfl)])
      · have o52 : (sh 52).1 = 1 := by rw [sh52]
        obtain ⟨s, hs⟩ : ∃ s, s = flegs ((0 : Int32) ≠ 0) (Z.2.1 c) (beginF Z.1) := ⟨_, rfl⟩
        have okf : okF s := by rw [hs]; exact flegs_ok _ (Z.2.1 c) (beginF Z.1) (hZ.2.1 c hc).2 (okF_begin hZ.1)
        have hlen : s.1.2.2.1.length = Z.1.2.2.1.length := by rw [hs]; exact flegs_len _ _ _
        have h8 := hZ.1.1.1
        refine op_of (Z' := Z) (r := triR Z.1 s w) hZ hM hZ ?_ (fun σ1 hM1 => ?_)
        · obtain ⟨σ1, e1, r1, f1⟩ := t_become k15 k1 (by decide) hZ.1.1 hC.1
          obtain ⟨σ2, e2, r2, q2, f2⟩ := t_fire (w := 0) k15 (by decide) hc (hZ.2.1 c hc) hZ.1 r1 ((hC.2.1 c hc).fr (fun a ha => f1 a (by omega)))
          rw [← hs] at r2 q2
          have fA : ∀ a, (a < 15 ∨ 15 + 14 ≤ a) → a ≠ 52 → σ2 a = σ a := fun a ha hb => by rw [f2 a (by omega) hb, f1 a ha]
          have rk : repK 1 Z.1 σ2 := hC.1.fr hZ.1.1.1 (fun a ha => fA a (by omega) (by omega))
          refine ⟨σ2, ?_, ⟨rk, hC.2.fr hZ.2 ⟨fun a ha => fA a (by omega) (by omega), by rw [fA 0 (by omega) (by decide)]⟩⟩, fun a ha => fA a (by omega) (by omega)⟩
          rw [enX9_tries, t_isCourse, rI, ifb, if_pos h1, t_isWithin, rI, ifb, if_pos h2, oc c8, rf0_3, x103 hc, cl c (by omega), cor hc, oc (cos hc), c_none hZ.2 hC.2 hc, rI, ifb, if_neg hn, oc c8, oc c8, rf0_0, rf0_1, oc k15, e1, rV, oc c8, oc c8, oc c8, x103 hc, rf0_9, oc o52, e2, rV]
          unfold triR
          by_cases w0 : w = 0
          · rw [if_pos w0, if_pos w0, oc c8, oc k15, oc c8, oc k1, r2.2.2.2.2.1, rk.2.2.2.2.1]
          rw [if_neg w0, if_neg w0]
          by_cases w1 : w = 1
          · rw [if_pos w1, if_pos w1, oc c8, oc o52, q2.2.1]
          rw [if_neg w1, if_neg w1]
          by_cases w2 : w = 2
          · rw [if_pos w2, if_pos w2, oc c8, oc o52, q2.2.2]
          rw [if_neg w2, if_neg w2]
          by_cases w3 : w = 3
          · rw [if_pos w3, if_pos w3, oc c8, oc o52, oc c8, q2.2.2, t_isLoad' rk.2.2.2.1, rI, ifb]
            by_cases ha : s.2.2.1 = 0
            · have : loI s = -1 := by unfold loI; rw [if_pos ha]
              rw [this, if_neg (fun e => absurd e.1 (by decide))]
              unfold howS
              rw [if_pos ha]
            · obtain ⟨i, d, hi, ei, hd, eh⟩ := how_at okf ha
              rw [loI_eq okf, ei, eh]
              have hin : 0 ≤ nI i ∧ nI i ≤ nI Z.1.2.2.1.length - 1 := by
                obtain ⟨q, hq⟩ : ∃ q, Z.1.2.2.1.length = q + 1 := ⟨Z.1.2.2.1.length - 1, by omega⟩
                rw [hq, nI_pred]
                exact ⟨nI_pos' (by omega), nI_le (by omega) (by omega)⟩
              rw [if_pos hin, oc c8, oc k15, oc c8, oc o52, q2.2.2, loI_eq okf, ei, kr3 k15, x8 (ks4 k15) (by omega), cl i (by omega), klr k15 (by omega), oc (kls k15 (by omega)), (r2.2.2.2.2.2.2 i d hd).2.2.2.2.1]
          rw [if_neg w3, if_neg w3]
          by_cases w4 : w = 4
          · rw [if_pos w4, if_pos w4, oc c8, oc k15, t_spd k15 okf.1.1 r2, rI]
          rw [if_neg w4, if_neg w4]
          by_cases w5 : w = 5
          · rw [if_pos w5, if_pos w5, oc c8, oc k15, t_done k15 okf.1.1 r2, rI]
          rw [if_neg w5, if_neg w5]
          obtain ⟨z, hz, ez⟩ := rest3 h2 w0 w1 w2 w3 w4 w5
          rw [ez, oc c8, oc k15, kr0 k15, x3 (ks1 k15) hz, cl z (by omega), r2.1 z hz]
        · obtain ⟨σ2, e2, r2, f2⟩ := th_begin hZ.1.1 hM1.1
          have hcm : repCm c (Z.2.1 c) σ2 := by
            have := hM1.2.1 c hc
            unfold repCm at this ⊢
            rw [f2.1 168 (by omega), f2.1 169 (by omega), f2.1 170 (by omega)]
            exact this
          obtain ⟨σ3, e3, r3, q3, f3⟩ := m_fire (w := 0) hc (hZ.2.1 c hc) hZ.1 r2.1 hcm
          rw [← hs] at r3 q3 e3
          have hin : inT Z.1 s.1 σ3 := by
            refine ⟨r3, r2.2.1.go (fun a h1 h2 => f3.1 a (by omega)) (f3.2 24 (by decide) (by decide) (by decide) (by decide)) (f3.2 25 (by decide) (by decide) (by decide) (by decide)), ?_⟩
            have := r2.2.2
            unfold repB at this ⊢
            rw [f3.2 2 (by decide) (by decide) (by decide) (by decide), f3.1 163 (by omega), f3.1 164 (by omega), f3.1 165 (by omega)]
            exact this
          obtain ⟨σ4, e4, r4, f4⟩ := th_end hZ.1.1 hin
          have hm256 : s.2.2.2 < 256 := Nat.lt_of_lt_of_le okf.2.2.2.2 (show 2 ^ s.1.2.2.1.length ≤ 2 ^ 8 from Nat.pow_le_pow_right (by decide) (by omega))
          have hlow : FX10_firstLoad [.ref 160] σ3 = some (some (.int (lowF s.2.2.2 s.1.2.2.1.length 0)), σ3) := by
            rw [enX10_firstLoad]
            exact m_low hm256 (by omega) r3.2.2.1 q3.2 s.1.2.2.1.length 0 (by omega)
          have htri : FX10_tried [.ref 160, .int w] σ3 = some (some (.int (triR Z.1 s w)), σ3) := by
            rw [enX10_tried]
            unfold triR
            by_cases w0 : w = 0
            · rw [if_pos w0, if_pos w0, oc m9, oc m9, r3.2.2.2.1, hin.2.1.2.2.2.1]
            rw [if_neg w0, if_neg w0]
            by_cases w1 : w = 1
            · rw [if_pos w1, if_pos w1, oc m9, q3.1]
            rw [if_neg w1, if_neg w1]
            by_cases w2 : w = 2
            · rw [if_pos w2, if_pos w2, oc m9, hlow, rI, loI_eq okf]
            rw [if_neg w2, if_neg w2]
            by_cases w3 : w = 3
            · rw [if_pos w3, if_pos w3, oc m9, q3.2]
              by_cases ha : s.2.2.1 = 0
              · rw [okf.2.1 ha, if_pos (show nI 0 = 0 from rfl)]
                unfold howS
                rw [if_pos ha]
              · obtain ⟨i, d, hi, ei, hd, eh⟩ := how_at okf ha
                rw [if_neg (fun e => okf.2.2.1 ha ((nI_z (by omega)).mp e)), oc m9, oc m9, hlow, rI, ei, rf160_7, xi (show i < 8 by omega) sh167, cl i (by omega), eh, (r3.2.2.2.2.2 i d hd).2.2.2.2]
            rw [if_neg w3, if_neg w3]
            by_cases w4 : w = 4
            · rw [if_pos w4, if_pos w4, oc m9, m_spd okf.1.1 r3, rI]
            rw [if_neg w4, if_neg w4]
            by_cases w5 : w = 5
            · rw [if_pos w5, if_pos w5, oc m9, m_done okf.1.1 r3, rI]
            rw [if_neg w5, if_neg w5]
            obtain ⟨z, hz, ez⟩ := rest3 h2 w0 w1 w2 w3 w4 w5
            rw [ez, oc m9, rf160_0, xi hz sh161, cl z (by omega), r3.1 z hz]
          refine ⟨σ4, ?_, ⟨r4.1, hM1.2.fr ((f2.kp.tr f3.kp).tr f4.kp)⟩, fun a ha => by rw [f4.lo a ha, f3.1 a (by omega), f2.lo a ha]⟩
          rw [enX10_tries, t_mCourse, rI, ifb, if_pos h1, t_isIn, rI, ifb, if_pos h2, oc m9, rf160_10, xi hc sh168, cl c (by omega), (hM1.2.1 c hc).1, if_neg (fun e => hn ((nI_z (by omega)).mp e)), oc m9, e2, rV, oc m9, e3, rI, oc m9, htri, rI, oc m9, e4, rV]
    · exact op_same (r := -2) h (by rw [enX9_tries, t_isCourse, rI, ifb, if_pos h1, t_isWithin, rI, ifb, if_neg h2]) (by rw [enX10_tries, t_mCourse, rI, ifb, if_pos h1, t_isIn, rI, ifb, if_neg h2])
  · exact op_same (r := -2) h (by rw [enX9_tries, t_isCourse, rI, ifb, if_neg h1]) (by rw [enX10_tries, t_mCourse, rI, ifb, if_neg h1])
