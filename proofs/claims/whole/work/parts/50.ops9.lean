/-! loads -/
def inL (a b c : Int32) : Prop := (0 ≤ a ∧ a ≤ 5) ∧ (1 ≤ b ∧ b ≤ 9) ∧ (0 ≤ c ∧ c ≤ 2)
theorem c_load {Z : ZS} {σ : Mem} (hZ : okZ Z) (hC : RC Z σ) (a b c : Int32) : ∃ (S : KS) (r : Int32), okZ (S, Z.2) ∧ (∃ σ', FX9_load [.ref 0, .int a, .int b, .int c] σ = some (some (.int r), σ') ∧ RC (S, Z.2) σ' ∧ ∀ x, 160 ≤ x → σ' x = σ x) ∧ ∀ σ1, RM Z σ1 → ∃ σ', FX10_load [.ref 160, .int a, .int b, .int c] σ1 = some (some (.int r), σ') ∧ RM (S, Z.2) σ' ∧ ∀ x, x < 160 → σ' x = σ1 x := by
  by_cases h1 : 0 ≤ a ∧ a ≤ 5
  · by_cases h2 : 1 ≤ b ∧ b ≤ 9
    · by_cases h3 : 0 ≤ c ∧ c ≤ 2
      · by_cases hl : Z.1.2.2.1.length < 8
        · have hd := okL_new h1 h2 h3
          refine ⟨addL Z.1 (a, b, c, 0, 0), nI Z.1.2.2.1.length, ⟨⟨hZ.1.1.add hd hl, hZ.1.2⟩, hZ.2⟩, ?_, fun σ1 hM1 => ?_⟩
          · obtain ⟨σ1, e1, r1, f1⟩ := t_bring k1 hZ.1.1 hC.1 hd hl
            rw [enX9_load, t_isKind, rI, ifb, if_pos h1, t_isWithin, rI, ifb, if_pos h2, t_isZone, rI, ifb, if_pos h3, oc c8, rf0_0, oc k1, e1, rI]
            exact ⟨σ1, rfl, ⟨r1, hC.2.fr hZ.2 (kp_blk f1)⟩, fun a ha => f1 a (by omega)⟩
          · obtain ⟨σ2, e2, r2, f2⟩ := m_load hM1.1 h1 h2 h3 hl
            exact ⟨σ2, e2, ⟨r2, hM1.2.fr f2⟩, fun a ha => f2.1 a (by omega)⟩
        · have h8 : Z.1.2.2.1.length = 8 := by have := hZ.1.1.1; omega
          exact ⟨Z.1, -4, hZ, ⟨σ, by rw [enX9_load, t_isKind, rI, ifb, if_pos h1, t_isWithin, rI, ifb, if_pos h2, t_isZone, rI, ifb, if_pos h3, oc c8, rf0_0, oc k1, enX3_bring, oc k1, hC.1.2.2.2.1, h8, if_neg (by decide), rI], hC, fun _ _ => rfl⟩, fun σ1 hM => ⟨σ1, by rw [enX10_load, t_isIn, rI, ifb, if_pos h1, t_isIn, rI, ifb, if_pos h2, t_mZone, rI, ifb, if_pos h3, oc m9, hM.1.2.2.1, h8, if_pos (by decide)], hM, fun _ _ => rfl⟩⟩
      · exact ⟨Z.1, -2, hZ, ⟨σ, by rw [enX9_load, t_isKind, rI, ifb, if_pos h1, t_isWithin, rI, ifb, if_pos h2, t_isZone, rI, ifb, if_neg h3], hC, fun _ _ => rfl⟩, fun σ1 hM => ⟨σ1, by rw [enX10_load, t_isIn, rI, ifb, if_pos h1, t_isIn, rI, ifb, if_pos h2, t_mZone, rI, ifb, if_neg h3], hM, fun _ _ => rfl⟩⟩
    · exact ⟨Z.1, -2, hZ, ⟨σ, by rw [enX9_load, t_isKind, rI, ifb, if_pos h1, t_isWithin, rI, ifb, if_neg h2], hC, fun _ _ => rfl⟩, fun σ1 hM => ⟨σ1, by rw [enX10_load, t_isIn, rI, ifb, if_pos h1, t_isIn, rI, ifb, if_neg h2], hM, fun _ _ => rfl⟩⟩
  · exact ⟨Z.1, -2, hZ, ⟨σ, by rw [enX9_load, t_isKind, rI, ifb, if_neg h1], hC, fun _ _ => rfl⟩, fun σ1 hM => ⟨σ1, by rw [enX10_load, t_isIn, rI, ifb, if_neg h1], hM, fun _ _ => rfl⟩⟩
theorem lg3 {a b : Nat} (ha : a < 1000) (hb : b < 1000) : (nI a).toInt64 + (3 : Int64) * (nI b).toInt64 = (nI (a + 3 * b)).toInt64 := by
  apply Int64.toInt_inj.mp
  rw [Int64.toInt_add, Int64.toInt_mul, Int32.toInt_toInt64, Int32.toInt_toInt64, Int32.toInt_toInt64, nI_toInt (by omega), nI_toInt (by omega), nI_toInt (by omega), show (3 : Int64).toInt = 3 from rfl]
  rw [show ((3 : Int) * (b : Int)).bmod (2 ^ 64) = 3 * (b : Int) from Int.bmod_eq_of_le (by omega) (by omega)]
  rw [Int.bmod_eq_of_le (by omega) (by omega)]
  omega
theorem lg2 {a : Nat} (ha : a < 1000) : ((nI a).toInt64 + (2 : Int64)).toInt = a + 2 := by
  rw [Int64.toInt_add, Int32.toInt_toInt64, nI_toInt (by omega), show (2 : Int64).toInt = 2 from rfl]
  exact Int.bmod_eq_of_le (by omega) (by omega)
theorem t_ld {r : Nat} {s : Int32} {l : List Int32} {n i0 : Nat} (hr : r < 4) (hn : n ≤ 8) (h40 : l.length ≤ 40) (hi0 : i0 ≤ 40) : ∀ (m j : Nat) (cn : Int32) (Z : ZS) (σ : Mem), j + m = n → i0 + 3 * j ≤ 40 → okZ Z → RC Z σ → Z.2.2.2.1 r = some (s, l) → ∃ (S : KS) (q : Int32), okZ (S, Z.2) ∧ (∃ σ', am_go CX9_loads 68 [.ref 0, .int (nI r), .int s, .int (nI i0), .int (nI n), .ref (152 + 2 * r), .int cn, .int (nI (i0 + 3 * j)), .int (nI j)] [] σ = some (some (.int q), σ') ∧ RC (S, Z.2) σ' ∧ ∀ x, 160 ≤ x → σ' x = σ x) ∧ ∀ (v7 v9 : Value) (σ1 : Mem), RM Z σ1 → ∃ σ', am_go CX10_loads 70 [.ref 160, .int (nI r), .int s, .int (nI i0), .int (nI n), .int cn, .int (nI j), v7, .null, v9] [] σ1 = some (some (.int q), σ') ∧ RM (S, Z.2) σ' ∧ ∀ x, x < 160 → σ' x = σ1 x := by
  intro m
  induction m with
  | zero =>
    intro j cn Z σ hj hb hZ hC ho
    have : j = n := by omega
    subst this
    exact ⟨Z.1, cn, hZ, ⟨σ, by rw [blX9_loads_68, if_pos (Int32.le_refl _)], hC, fun _ _ => rfl⟩, fun v7 v9 σ1 hM => ⟨σ1, by rw [blX10_loads_70, if_pos (Int32.le_refl _)], hM, fun _ _ => rfl⟩⟩
  | succ m ih =>
    intro j cn Z σ hj hb hZ hC ho
    have rc := hC.2.2.2.1 r hr
    rw [ho] at rc
    obtain ⟨rc0, rc1, rc2⟩ := rc
    have e3 : (3 : Int32).toInt = 3 := rfl
    have ep : (nI (i0 + 3 * j)).toInt = (i0 + 3 * j : Nat) := nI_toInt (by omega)
    by_cases hp : i0 + 3 * j + 3 ≤ l.length
    · have hrun : runP l.length (nI (i0 + 3 * j)) 3 := ⟨by omega, by omega, by omega⟩
      obtain ⟨a, ha⟩ : ∃ a, l[i0 + 3 * j]? = some a := ⟨l[i0 + 3 * j], List.getElem?_eq_getElem (by omega)⟩
      obtain ⟨b, hb'⟩ : ∃ a, l[i0 + 3 * j + 1]? = some a := ⟨l[i0 + 3 * j + 1], List.getElem?_eq_getElem (by omega)⟩
      obtain ⟨c, hc⟩ : ∃ a, l[i0 + 3 * j + 2]? = some a := ⟨l[i0 + 3 * j + 2], List.getElem?_eq_getElem (by omega)⟩
      obtain ⟨S, q, hS, ⟨σ2, e2, r2, f2⟩, hM2⟩ := c_load hZ hC a b c
      have hcn : ∃ cn' : Int32, cn' = if q < 0 then cn else cn + 1 := ⟨_, rfl⟩
      obtain ⟨cn', hcn⟩ := hcn
      obtain ⟨S', q', hS', ⟨σ3, e3', r3, f3⟩, hM3⟩ := ih (j + 1) cn' (S, Z.2) σ2 (by omega) (by omega) hS r2 ho
      refine ⟨S', q', hS', ⟨σ3, ?_, r3, fun x hx => (f3 x hx).trans (f2 x hx)⟩, fun v7 v9 σ1 hM => ?_⟩
      · rw [blX9_loads_68, if_neg (nI_ge (by omega) (by omega)), oc (ses hr), t_hasP (ses hr) rc1 h40 hrun, rI, if_neg (by decide), oc (ses hr), sir hr, nI_1, show (nI (i0 + 3 * j) + 2 : Int32) = nI (i0 + 3 * j + 2) from nI_add _ 2, xi (show i0 + 3 * j < 40 by omega) (sis hr), oc (ses hr), xi (show i0 + 3 * j + 1 < 40 by omega) (sis hr), oc (ses hr), xi (show i0 + 3 * j + 2 < 40 by omega) (sis hr), oc c8, cl (i0 + 3 * j) (by omega), cl (i0 + 3 * j + 1) (by omega), cl (i0 + 3 * j + 2) (by omega), rc2 _ a ha, rc2 _ b hb', rc2 _ c hc, e2, rI, nI_1, show (nI (i0 + 3 * j) + 3 : Int32) = nI (i0 + 3 * (j + 1)) from nI_add _ 3]
        by_cases hq : q < 0
        · rw [if_pos hq]; rw [if_pos hq] at hcn; rw [← hcn]; exact e3'
        · rw [if_neg hq]; rw [if_neg hq] at hcn; rw [← hcn]; exact e3'
      · have rm := hM.2.2.2.1 r hr
        rw [ho] at rm
        obtain ⟨m0, m1, m2⟩ := rm
        obtain ⟨σ4, e4, r4, f4⟩ := hM2 σ1 hM
        have w1 : ¬ lg_cmp (nI (i0 + 3 * j)).toInt64 0 < 0 := fun e => by
          have := (lg_cmp_lt _ _).mp e
          rw [Int64.lt_iff_toInt_lt, Int32.toInt_toInt64, ep, show (0 : Int64).toInt = 0 from rfl] at this
          omega
        have w2 : lg_cmp ((nI (i0 + 3 * j)).toInt64 + 2) (nI l.length).toInt64 < 0 := by
          rw [lg_cmp_lt, Int64.lt_iff_toInt_lt, lg2 (by omega), Int32.toInt_toInt64, nI_toInt (by omega)]
          omega
        obtain ⟨σ5, e5, r5, f5⟩ := hM3 (.long (nI (i0 + 3 * j)).toInt64) (.int (nI (40 * r + (i0 + 3 * j)))) σ4 r4
        refine ⟨σ5, ?_, r5, fun x hx => (f5 x hx).trans (f4 x hx)⟩
        rw [blX10_loads_70, if_neg (nI_ge (by omega) (by omega)), lg3 (by omega) (by omega), if_neg w1, oc m9, rf160_16, xi hr sh173, cl r (by omega), m1, if_pos w2, oc m9, rf160_17, Int32.toInt32_toInt64, nIx, nI_1, show (nI (40 * r + (i0 + 3 * j)) + 2 : Int32) = nI (40 * r + (i0 + 3 * j) + 2) from nI_add _ 2, xi (show 40 * r + (i0 + 3 * j) < 160 by omega) sh174, oc m9, xi (show 40 * r + (i0 + 3 * j) + 1 < 160 by omega) sh174, oc m9, xi (show 40 * r + (i0 + 3 * j) + 2 < 160 by omega) sh174, oc m9, cl (40 * r + (i0 + 3 * j)) (by omega), cl (40 * r + (i0 + 3 * j) + 1) (by omega), cl (40 * r + (i0 + 3 * j) + 2) (by omega), m2 _ a ha, show σ1 174 (40 * r + (i0 + 3 * j) + 1) = b from m2 _ b hb', show σ1 174 (40 * r + (i0 + 3 * j) + 2) = c from m2 _ c hc, e4, rI, nI_1]
        by_cases hq : q < 0
        · rw [if_pos hq, show cn + (0 : Int32) = cn from Int32.add_zero cn]; rw [if_pos hq] at hcn; rw [← hcn]; exact e5
        · rw [if_neg hq]; rw [if_neg hq] at hcn; rw [← hcn]; exact e5
    · have hrun : ¬ runP l.length (nI (i0 + 3 * j)) 3 := fun e => by have := e.2.2; omega
      refine ⟨Z.1, -12, hZ, ⟨σ, by rw [blX9_loads_68, if_neg (nI_ge (by omega) (by omega)), oc (ses hr), t_hasN (ses hr) rc1 h40 hrun, rI, if_pos rfl], hC, fun _ _ => rfl⟩, fun v7 v9 σ1 hM => ⟨σ1, ?_, hM, fun _ _ => rfl⟩⟩
      have rm := hM.2.2.2.1 r hr
      rw [ho] at rm
      have w1 : ¬ lg_cmp (nI (i0 + 3 * j)).toInt64 0 < 0 := fun e => by
        have := (lg_cmp_lt _ _).mp e
        rw [Int64.lt_iff_toInt_lt, Int32.toInt_toInt64, ep, show (0 : Int64).toInt = 0 from rfl] at this
        omega
      have w2 : ¬ lg_cmp ((nI (i0 + 3 * j)).toInt64 + 2) (nI l.length).toInt64 < 0 := by
        rw [lg_cmp_lt, Int64.lt_iff_toInt_lt, lg2 (by omega), Int32.toInt_toInt64, nI_toInt (by omega)]
        omega
      rw [blX10_loads_70, if_neg (nI_ge (by omega) (by omega)), lg3 (by omega) (by omega), if_neg w1, oc m9, rf160_16, xi hr sh173, cl r (by omega), rm.2.1, if_neg w2]
theorem op_loads {σ : Mem} (h : Rel σ) (x1 x2 x3 x4 : Int32) : OpOK (FX9_loads [.ref 0, .int x1, .int x2, .int x3, .int x4]) (FX10_loads [.ref 160, .int x1, .int x2, .int x3, .int x4]) σ := by
  by_cases h1 : 0 ≤ x1 ∧ x1 ≤ 3
  · by_cases h2 : 0 ≤ x2 ∧ x2 ≤ 1
    · have h2' := (so2 x2).mp h2
      by_cases h4 : 0 ≤ x4 ∧ x4 ≤ 8
      · have h0 := h
        obtain ⟨Z, hZ, hC, hM⟩ := h
        obtain ⟨r, hr, rfl⟩ := n3 h1
        obtain ⟨n, -, hn, rfl⟩ := n_of (n := 0) (m := 8) rfl rfl (by decide) (by decide) h4
        have okr := hZ.2.2.2.1 r hr
        have rc := hC.2.2.2.1 r hr
        have rm := hM.2.2.2.1 r hr
        cases ho : Z.2.2.2.1 r with
        | none =>
          rw [ho] at okr rc rm
          have rm' : σ 172 r = -1 := rm
          exact op_same (r := -11) h0 (by rw [enX9_loads, t_isSheet, rI, ifb, if_pos h1, t_isSort, rI, ifb, if_pos h2', t_isWithin, rI, ifb, if_pos h4, oc c8, rf0_11, x104 hr, cl r (by omega), ser hr, oc (ses hr), t_missing hr rc okr, rI, ifb, if_pos rfl]) (by rw [enX10_loads, t_mSheet, rI, ifb, if_pos h1, t_isIn, rI, ifb, if_pos h2, t_isIn, rI, ifb, if_pos h4, oc m9, rf160_15, xi hr sh172, cl r (by omega), rm', if_pos (by decide), oc m9, xi hr sh172, if_neg (by decide)])
        | some q =>
          obtain ⟨s, l⟩ := q
          rw [ho] at okr rc rm
          obtain ⟨hs, h40⟩ := okr s l rfl
          obtain ⟨rc0, rc1, rc2⟩ := rc
          have rc : repSc r (some (s, l)) σ := ⟨rc0, rc1, rc2⟩
          by_cases hss : s = x2
          · subst hss
            have P9 : FX9_loads [.ref 0, .int (nI r), .int s, .int x3, .int (nI n)] σ = am_go CX9_loads 68 [.ref 0, .int (nI r), .int s, .int x3, .int (nI n), .ref (152 + 2 * r), .int 0, .int x3, .int 0] [] σ := by
              rw [enX9_loads, t_isSheet, rI, ifb, if_pos h1, t_isSort, rI, ifb, if_pos h2', t_isWithin, rI, ifb, if_pos h4, oc c8, rf0_11, x104 hr, cl r (by omega), ser hr, oc (ses hr), t_missing hr rc okr, rI, ifb, if_neg (fun e => by cases e), oc (ses hr), rc0, if_pos rfl]
            have P10 : ∀ σ1, repSm r (some (s, l)) σ1 → FX10_loads [.ref 160, .int (nI r), .int s, .int x3, .int (nI n)] σ1 = am_go CX10_loads 70 [.ref 160, .int (nI r), .int s, .int x3, .int (nI n), .int 0, .int 0, .null, .null, .null] [] σ1 := by
              intro σ1 m
              rw [enX10_loads, t_mSheet, rI, ifb, if_pos h1, t_isIn, rI, ifb, if_pos h2, t_isIn, rI, ifb, if_pos h4, oc m9, rf160_15, xi hr sh172, cl r (by omega), m.1, if_neg (sz_neg hs).2.1, oc m9, xi hr sh172, if_pos rfl, oc m9, xi hr sh172, if_pos (sz_neg hs).1]
            by_cases hx : 0 ≤ x3 ∧ x3 ≤ 40
            · obtain ⟨i0, -, hi0, rfl⟩ := n_of (n := 0) (m := 40) rfl rfl (by decide) (by decide) hx
              obtain ⟨S, q, hS, c1, c2⟩ := t_ld (n := n) (i0 := i0) (s := s) hr hn h40 hi0 n 0 0 Z σ (by omega) (by omega) hZ hC ho
              refine op_of (Z' := (S, Z.2)) (r := q) hZ hM hS ?_ (fun σ1 hM1 => ?_)
              · rw [P9]; exact c1
              · have m1 := hM1.2.2.2.1 r hr
                rw [ho] at m1
                rw [P10 σ1 m1]; exact c2 .null .null σ1 hM1
            · cases n with
              | zero => exact op_same (r := 0) h0 (by rw [P9, blX9_loads_68, if_pos (by decide)]) (by rw [P10 σ rm, blX10_loads_70, if_pos (by decide)])
              | succ n =>
                have z0 : (0 : Int32).toInt = 0 := rfl
                have z3 : (3 : Int32).toInt = 3 := rfl
                have z40 : (40 : Int32).toInt = 40 := rfl
                have hx' : x3.toInt < 0 ∨ 40 < x3.toInt := by
                  rw [Int32.le_iff_toInt_le, Int32.le_iff_toInt_le, z0, z40] at hx
                  omega
                have hrun : ¬ runP l.length x3 3 := fun e => by have h1 := e.1; have h2 := e.2.2; omega
                refine op_same (r := -12) h0 (by rw [P9, blX9_loads_68, if_neg (show ¬ nI (n + 1) ≤ 0 from nI_ge (a := 0) (by omega) (by omega)), oc (ses hr), t_hasN (ses hr) rc1 h40 hrun, rI, if_pos rfl]) ?_
                have e0 : x3.toInt64 + (3 : Int64) * (0 : Int32).toInt64 = x3.toInt64 := by
                  rw [show (3 : Int64) * (0 : Int32).toInt64 = 0 from rfl, Int64.add_zero]
                rw [P10 σ rm, blX10_loads_70, if_neg (show ¬ nI (n + 1) ≤ 0 from nI_ge (a := 0) (by omega) (by omega)), e0]
                by_cases hneg : x3.toInt < 0
                · rw [if_pos ((lg_cmp_lt _ _).mpr (by rw [Int64.lt_iff_toInt_lt, Int32.toInt_toInt64]; exact hneg))]
                · have b1 := Int32.toInt_lt x3
                  have e2 : (x3.toInt64 + (2 : Int64)).toInt = x3.toInt + 2 := by
                    rw [Int64.toInt_add, Int32.toInt_toInt64, show (2 : Int64).toInt = 2 from rfl]
                    exact Int.bmod_eq_of_le (by omega) (by omega)
                  rw [if_neg (fun e => hneg (by have := (lg_cmp_lt _ _).mp e; rw [Int64.lt_iff_toInt_lt, Int32.toInt_toInt64] at this; exact this)), oc m9, rf160_16, xi hr sh173, cl r (by omega), rm.2.1, if_neg (fun e => by have := (lg_cmp_lt _ _).mp e; rw [Int64.lt_iff_toInt_lt, e2, Int32.toInt_toInt64, nI_toInt (by omega)] at this; omega)]
          · exact op_same (r := -13) h0 (by rw [enX9_loads, t_isSheet, rI, ifb, if_pos h1, t_isSort, rI, ifb, if_pos h2', t_isWithin, rI, ifb, if_pos h4, oc c8, rf0_11, x104 hr, cl r (by omega), ser hr, oc (ses hr), t_missing hr rc okr, rI, ifb, if_neg (fun e => by cases e), oc (ses hr), rc0, if_neg hss]) (by rw [enX10_loads, t_mSheet, rI, ifb, if_pos h1, t_isIn, rI, ifb, if_pos h2, t_isIn, rI, ifb, if_pos h4, oc m9, rf160_15, xi hr sh172, cl r (by omega), rm.1, if_neg (sz_neg hs).2.1, oc m9, xi hr sh172, if_neg hss])
      · have h4' := h4
        exact op_same (r := -2) h (by rw [enX9_loads, t_isSheet, rI, ifb, if_pos h1, t_isSort, rI, ifb, if_pos h2', t_isWithin, rI, ifb, if_neg h4]) (by rw [enX10_loads, t_mSheet, rI, ifb, if_pos h1, t_isIn, rI, ifb, if_pos h2, t_isIn, rI, ifb, if_neg h4])
    · exact op_same (r := -2) h (by rw [enX9_loads, t_isSheet, rI, ifb, if_pos h1, t_isSort, rI, ifb, if_neg (fun e => h2 ((so2 x2).mpr e))]) (by rw [enX10_loads, t_mSheet, rI, ifb, if_pos h1, t_isIn, rI, ifb, if_neg h2])
  · exact op_same (r := -2) h (by rw [enX9_loads, t_isSheet, rI, ifb, if_neg h1]) (by rw [enX10_loads, t_mSheet, rI, ifb, if_neg h1])
