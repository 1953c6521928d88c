/-! drawn -/
theorem shr_pos (u k : UInt32) (hk : 1 ≤ k.toNat % 32) : 0 ≤ (u >>> k).toInt32.toInt := by
  have h : (u >>> k).toNat < 2 ^ 31 := by
    rw [UInt32.toNat_shiftRight, Nat.shiftRight_eq_div_pow]
    have h1 := u.toNat_lt
    have h2 : u.toNat / 2 ^ (k.toNat % 32) ≤ u.toNat / 2 ^ 1 := Nat.div_le_div_left (Nat.pow_le_pow_right (by decide) hk) (by decide)
    omega
  show 0 ≤ (u >>> k).toBitVec.toInt
  have h' : (u >>> k).toBitVec.toNat < 2 ^ 31 := h
  rw [BitVec.toInt_eq_toNat_of_lt (by omega)]
  omega
theorem rem_n {v : Int32} {n : Nat} (hv : 0 ≤ v.toInt) (h1 : 0 < n) (h2 : n < 100) : ∃ j : Nat, j < n ∧ v - v / nI n * nI n = nI j := by
  have b1 := Int32.toInt_lt v
  have en : (nI n).toInt = n := nI_toInt (by omega)
  have hd : (v / nI n).toInt = v.toInt / n := by
    rw [Int32.toInt_div, en, Int.tdiv_eq_ediv_of_nonneg hv]
    have d1 : 0 ≤ v.toInt / n := Int.ediv_nonneg hv (by omega)
    have d2 : v.toInt / n ≤ v.toInt := Int.ediv_le_self _ hv
    exact Int.bmod_eq_of_le (by omega) (by omega)
  have hm : (v / nI n * nI n).toInt = v.toInt / n * n := by
    rw [Int32.toInt_mul, hd, en]
    have d1 : 0 ≤ v.toInt / n * n := Int.mul_nonneg (Int.ediv_nonneg hv (by omega)) (by omega)
    have d2 : v.toInt / n * n ≤ v.toInt := Int.ediv_mul_le _ (by omega)
    exact Int.bmod_eq_of_le (by omega) (by omega)
  have e1 := Int.mul_ediv_add_emod v.toInt n
  have e2 := Int.emod_nonneg v.toInt (show (n : Int) ≠ 0 by omega)
  have e3 := Int.emod_lt_of_pos v.toInt (show (0 : Int) < n by omega)
  have e4 : v.toInt / n * n = n * (v.toInt / n) := Int.mul_comm _ _
  refine ⟨(v.toInt % n).toNat, by omega, Int32.toInt_inj.mp ?_⟩
  rw [Int32.toInt_sub, hm, nI_toInt (by omega)]
  have : v.toInt - v.toInt / n * n = v.toInt % n := by omega
  rw [this, Int.bmod_eq_of_le (by omega) (by omega)]
  omega
def dz (x : Int32) : Int32 := x * (1103515245 : Int32) + (12345 : Int32)
def d9 (x : Int32) : Int32 := ((dz x).toUInt32 >>> ((9 : Int32).toUInt32 &&& Int32.toUInt32 31)).toInt32 - ((dz x).toUInt32 >>> ((9 : Int32).toUInt32 &&& Int32.toUInt32 31)).toInt32 / (3 : Int32) * (3 : Int32)
def d20 (x : Int32) : Int32 := ((dz x).toUInt32 >>> ((20 : Int32).toUInt32 &&& Int32.toUInt32 31)).toInt32 - ((dz x).toUInt32 >>> ((20 : Int32).toUInt32 &&& Int32.toUInt32 31)).toInt32 / (4 : Int32) * (4 : Int32)
theorem d9_in (x : Int32) : ∃ j : Nat, j < 3 ∧ d9 x = nI j := rem_n (n := 3) (shr_pos _ _ (by decide)) (by decide) (by decide)
theorem d20_in (x : Int32) : ∃ j : Nat, j < 4 ∧ d20 x = nI j := rem_n (n := 4) (shr_pos _ _ (by decide)) (by decide) (by decide)
def drG (nx : Int32 → Int32) (st : Int32 → KS → KS) : Nat → Int32 → KS → KS
  | 0, _, S => S
  | m + 1, x, S => drG nx st m (nx x) (st x S)
def drT (x : Int32) (S : KS) : KS := (stepS (withT S (d9 x).toNatClampNeg (d20 x))).1
def drS (m : Nat) (x : Int32) (S : KS) : KS := drG dz drT m x S
theorem drS0 (x : Int32) (S : KS) : drS 0 x S = S := by unfold drS; rw [drG]
theorem drSs (m : Nat) (x : Int32) (S : KS) : drS (m + 1) x S = drS m (dz x) (stepS (withT S (d9 x).toNatClampNeg (d20 x))).1 := by unfold drS; rw [drG, drT]
def drR (S0 S : KS) (w : Int32) : Int32 := if w = 0 then S.2.2.2.1 - S0.2.2.2.1 else if w = 1 then doneS S else if w = 2 then spdS S else nI (hotZ S.1)
theorem t_dr {S0 : KS} {n : Nat} {x1 w : Int32} (hn : n ≤ 40) (h0 : okK S0) : ∀ (m j : Nat) (x : Int32) (S : KS) (σ : Mem), j + m = n → okK S → repK 15 S σ → repK 1 S0 σ → ∃ σ', am_go CX9_drawn 39 [.ref 0, .int x1, .int (nI n), .int w, .int x, .int (nI j)] [] σ = some (some (.int (drR S0 (drS m x S) w)), σ') ∧ ∀ a, (a < 15 ∨ 15 + 14 ≤ a) → σ' a = σ a := by
  intro m
  induction m with
  | zero =>
    intro j x S σ hj hS h hk
    have : j = n := by omega
    subst this
    refine ⟨σ, ?_, fun _ _ => rfl⟩
    rw [blX9_drawn_39, if_pos (Int32.le_refl _), drS0]
    unfold drR
    by_cases w0 : w = 0
    · rw [if_pos w0, if_pos w0, oc c8, rf0_1, oc k15, oc c8, rf0_0, oc k1, h.2.2.2.2.1, hk.2.2.2.2.1]
    · rw [if_neg w0, if_neg w0]
      by_cases w1 : w = 1
      · rw [if_pos w1, if_pos w1, oc c8, rf0_1, oc k15, t_done k15 hS.1 h, rI]
      · rw [if_neg w1, if_neg w1]
        by_cases w2 : w = 2
        · rw [if_pos w2, if_pos w2, oc c8, rf0_1, oc k15, t_spd k15 hS.1 h, rI]
        · rw [if_neg w2, if_neg w2, oc c8, rf0_1, oc k15, t_hot k15 h.1, rI]
  | succ m ih =>
    intro j x S σ hj hS h hk
    obtain ⟨z, hz, ez⟩ := d9_in x
    obtain ⟨s, hs, es⟩ := d20_in x
    obtain ⟨σ2, e2, r2, f2⟩ := t_goStep k15 (hS.withT hz hs).1 (h.setT (v := nI s) hz)
    obtain ⟨σ3, e3, f3⟩ := ih (j + 1) (dz x) (stepS (withT S z (nI s))).1 σ2 (by omega) (hS.withT hz hs).step r2 (hk.fr h0.1.1 (fun a ha => by rw [f2 a (by omega), sM_a (by omega)]))
    refine ⟨σ3, ?_, fun a ha => by rw [f3 a ha, f2 a ha, sM_a (by omega)]⟩
    rw [blX9_drawn_39, if_neg (nI_ge (by omega) (by omega)), oc c8, rf0_1, oc k15, nz (by decide), nz (by decide)]
    show o_ix 100 (rf 15 1) (d9 x) (o_cls 0 8 (o_cls 15 2 (o_rI (FX3_goStep [.ref 15] (setM σ (rf 15 1) (d9 x).toNatClampNeg (d20 x))) (fun r8 m7 => am_go CX9_drawn 39 [.ref 0, .int x1, .int (nI n), .int w, .int (dz x), .int (nI j + 1)] [] m7)))) = _
    rw [drSs, ez, es, kr1 k15, x3 (ks2 k15) hz, oc c8, oc k15, cl z (by omega), e2, rI, nI_1, e3]
theorem m_dr {S0 : KS} {n : Nat} {x1 w : Int32} (hn : n ≤ 40) (h0 : okK S0) : ∀ (m j : Nat) (x : Int32) (v6 : Value) (S : KS) (σ : Mem), j + m = n → okK S → inT S0 S σ → ∃ σ', am_go CX10_drawn 32 [.ref 160, .int x1, .int (nI n), .int w, .int x, .int (nI j), v6] [] σ = some (some (.int (drR S0 (drS m x S) w)), σ') ∧ inT S0 S0 σ' ∧ frM σ σ' := by
  intro m
  induction m with
  | zero =>
    intro j x v6 S σ hj hS h
    have : j = n := by omega
    subst this
    obtain ⟨σ1, e1, r1, f1⟩ := th_end h0.1 h
    refine ⟨σ1, ?_, r1, f1⟩
    have hend : ∀ (q : Nat) (y : Int32), q = hotZ S.1 → am_go CX10_drawn 125 [.ref 160, .int x1, .int (nI j), .int w, .int x, .int y, v6] [.int (nI q)] σ = some (some (.int (drR S0 S w)), σ1) := by
      intro q y hq
      rw [blX10_drawn_125]
      unfold drR
      by_cases w0 : w = 0
      · rw [if_pos w0, if_pos w0, oc m9, oc m9, oc m9, e1, rV, h.1.2.2.2.1, h.2.1.2.2.2.1]
      · rw [if_neg w0, if_neg w0]
        by_cases w1 : w = 1
        · rw [if_pos w1, if_pos w1, oc m9, m_done hS.1 h.1, rI, oc m9, e1, rV]
        · rw [if_neg w1, if_neg w1]
          by_cases w2 : w = 2
          · rw [if_pos w2, if_pos w2, oc m9, m_spd hS.1 h.1, rI, oc m9, e1, rV]
          · rw [if_neg w2, if_neg w2, oc m9, e1, rV, hq]
    have hmid : ∀ (q : Nat) (y : Int32), q < 2 → (if S.1.2.1 ≤ S.1.1 then 0 else 1) = q → am_go CX10_drawn 101 [.ref 160, .int x1, .int (nI j), .int w, .int x, .int y, v6] [.int (nI q)] σ = some (some (.int (drR S0 S w)), σ1) := by
      intro q y hq hqe
      rw [blX10_drawn_101, oc m9, rf160_0, li2, xi (show 2 < 3 by decide) sh161, oc m9, xi (show q < 3 by omega) sh161, cl 2 (by decide), cl q (by omega), h.1.1 2 (by decide), h.1.1 q (by omega)]
      have ea : at3 S.1 q = if S.1.2.1 ≤ S.1.1 then S.1.1 else S.1.2.1 := by
        rw [← hqe]
        split <;> rfl
      rw [ea]
      have eb : at3 S.1 2 = S.1.2.2 := rfl
      rw [eb]
      by_cases hc : S.1.2.2 ≤ (if S.1.2.1 ≤ S.1.1 then S.1.1 else S.1.2.1)
      · rw [if_pos hc]
        exact hend q _ (by unfold hotZ; rw [if_pos hc, hqe])
      · rw [if_neg hc]
        exact hend 2 _ (by unfold hotZ; rw [if_neg hc])
    rw [blX10_drawn_32, if_pos (Int32.le_refl _), oc m9, rf160_0, li1, li0, xi (show 1 < 3 by decide) sh161, oc m9, xi (show 0 < 3 by decide) sh161, cl 1 (by decide), cl 0 (by decide), h.1.1 1 (by decide), h.1.1 0 (by decide), drS0]
    by_cases hc : at3 S.1 1 ≤ at3 S.1 0
    · rw [if_pos hc]; exact hmid 0 _ (by decide) (if_pos hc)
    · rw [if_neg hc]; exact hmid 1 _ (by decide) (if_neg hc)
  | succ m ih =>
    intro j x v6 S σ hj hS h
    obtain ⟨z, hz, ez⟩ := d9_in x
    obtain ⟨s, hs, es⟩ := d20_in x
    obtain ⟨σ2, e2, r2, f2⟩ := th_go (hS.withT hz hs) (th_setT (v := nI s) hz h)
    obtain ⟨σ3, e3, r3, f3⟩ := ih (j + 1) (dz x) (.int (stepS (withT S z (nI s))).2) (stepS (withT S z (nI s))).1 σ2 (by omega) (hS.withT hz hs).step r2
    refine ⟨σ3, ?_, r3, (frM.s162.tr f2).tr f3⟩
    rw [blX10_drawn_32, if_neg (nI_ge (by omega) (by omega)), oc m9, nz (by decide), nz (by decide)]
    show o_ix 100 (rf 160 1) (d9 x) (o_cls 160 9 (o_rI (FX10_goes [.ref 160] (setM σ (rf 160 1) (d9 x).toNatClampNeg (d20 x))) (fun r2 m1 => am_go CX10_drawn 32 [.ref 160, .int x1, .int (nI n), .int w, .int (dz x), .int (nI j + 1), .int r2] [] m1))) = _
    rw [drSs, ez, es, rf160_1, xi hz sh162, oc m9, cl z (by omega), e2, rI, nI_1, e3]
theorem op_drawn {σ : Mem} (h : Rel σ) (x1 x2 x3 : Int32) : OpOK (FX9_drawn [.ref 0, .int x1, .int x2, .int x3]) (FX10_drawn [.ref 160, .int x1, .int x2, .int x3]) σ := by
  by_cases h2 : 0 ≤ x2 ∧ x2 ≤ 40
  · by_cases h3 : 0 ≤ x3 ∧ x3 ≤ 3
    · obtain ⟨Z, hZ, hC, hM⟩ := h
      obtain ⟨n, -, hn, rfl⟩ := n_of (n := 0) (m := 40) rfl rfl (by decide) (by decide) h2
      refine op_of (Z' := Z) (r := drR Z.1 (drS n x1 Z.1) x3) hZ hM hZ ?_ (fun σ1 hM1 => ?_)
      · obtain ⟨σ1, e1, r1, f1⟩ := t_become k15 k1 (by decide) hZ.1.1 hC.1
        obtain ⟨σ2, e2, f2⟩ := t_dr (x1 := x1) (w := x3) hn hZ.1 n 0 x1 Z.1 σ1 (by omega) hZ.1 r1 (hC.1.fr hZ.1.1.1 (fun a ha => f1 a (by omega)))
        rw [enX9_drawn, t_isWithin, rI, ifb, if_pos h2, t_isWithin, rI, ifb, if_pos h3, oc c8, oc c8, rf0_0, rf0_1, oc k15, e1, rV, show am_go CX9_drawn 39 [.ref 0, .int x1, .int (nI n), .int x3, .int x1, .int 0] [] σ1 = _ from e2]
        exact ⟨σ2, rfl, hC.th hZ (fun a ha => (f2 a ha).trans (f1 a ha)), fun a ha => (f2 a (by omega)).trans (f1 a (by omega))⟩
      · obtain ⟨σ2, e2, r2, f2⟩ := th_begin hZ.1.1 hM1.1
        obtain ⟨σ3, e3, r3, f3⟩ := m_dr (x1 := x1) (w := x3) hn hZ.1 n 0 x1 .null Z.1 σ2 (by omega) hZ.1 r2
        rw [enX10_drawn, t_isIn, rI, ifb, if_pos h2, t_isIn, rI, ifb, if_pos h3, oc m9, e2, rV, show am_go CX10_drawn 32 [.ref 160, .int x1, .int (nI n), .int x3, .int x1, .int 0, .null] [] σ2 = _ from e3]
        exact ⟨σ3, rfl, hM1.th r3.1 (f2.tr f3), (f2.tr f3).lo⟩
    · exact op_same (r := -2) h (by rw [enX9_drawn, t_isWithin, rI, ifb, if_pos h2, t_isWithin, rI, ifb, if_neg h3]) (by rw [enX10_drawn, t_isIn, rI, ifb, if_pos h2, t_isIn, rI, ifb, if_neg h3])
  · exact op_same (r := -2) h (by rw [enX9_drawn, t_isWithin, rI, ifb, if_neg h2]) (by rw [enX10_drawn, t_isIn, rI, ifb, if_neg h2])
