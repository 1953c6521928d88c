/-! the class's kiln: warm, weigh, become, bring, bits, codes -/
def warmS (S : KS) : KS := (behH S, S.2.1, S.2.2.1, S.2.2.2.1, S.2.2.2.2)
theorem t_w1s {k z : Nat} {σ : Mem} {H : H3} {m : Nat} (hk : (sh k).1 = 2) (hz : z < 3) (hm : m ≤ 144) (h1 : ∀ z, z < 3 → σ (k + 1) z = at3 H z) (h2 : σ (k + 3) z = nI m) : am_go CX3_warm 2 [.ref k, .int (nI z)] [] σ = am_go CX3_warm 2 [.ref k, .int (nI (z + 1))] [] (setM σ (k + 5) z (behS H (nI m) (σ (k + 2) z) z)) := by
  rw [blX3_warm_2, if_neg (show ¬ (3 : Int32) ≤ nI z from nI_ge (b := 3) hz (by decide)), oc hk, oc hk, kr1 hk, x3 (ks2 hk) hz, oc hk, cl z (by omega), t_behind hk hz hm h1 h2, rI, kr7 hk, x3 (ks5 hk) hz, nI_1]
theorem t_warm {k : Nat} {σ : Mem} {S : KS} (hk : (sh k).1 = 2) (hS : okS S) (h : repK k S σ) : ∃ σ', FX3_warm [.ref k] σ = some (none, σ') ∧ repK k (warmS S) σ' ∧ ∀ a, (a < k ∨ k + 14 ≤ a) → σ' a = σ a := by
  obtain ⟨h1, h2, h3, h4, h5, h6, h7⟩ := h
  obtain ⟨m0, hm0, e0⟩ := massIn_in hS 0
  obtain ⟨m1, hm1, e1⟩ := massIn_in hS 1
  obtain ⟨m2, hm2, e2⟩ := massIn_in hS 2
  rw [enX3_warm, show (0 : Int32) = nI 0 from rfl, t_w1s hk (by decide) hm0 h1 ((h3 0 (by decide)).trans e0)]
  rw [t_w1s hk (by decide) hm1 (H := S.1) (fun z hz => by rw [sM_a (by omega)]; exact h1 z hz) (by rw [sM_a (by omega)]; exact (h3 1 (by decide)).trans e1)]
  rw [t_w1s hk (by decide) hm2 (H := S.1) (fun z hz => by rw [sM_a (by omega), sM_a (by omega)]; exact h1 z hz) (by rw [sM_a (by omega), sM_a (by omega)]; exact (h3 2 (by decide)).trans e2)]
  rw [← e0, ← e1, ← e2]
  generalize hσ1 : setM (setM (setM σ (k + 5) 0 _) (k + 5) 1 _) (k + 5) 2 _ = σ1
  have p5 : ∀ z, z < 3 → σ1 (k + 5) z = at3 (behH S) z := by
    intro z hz
    rw [behH_at S hz, ← hσ1]
    match z, hz with
    | 0, _ => simp [sM, h2 0 (by decide)]
    | 1, _ => simp [sM, h2 1 (by decide)]
    | 2, _ => simp [sM, h2 2 (by decide)]
  have pa : ∀ a, a ≠ k + 5 → σ1 a = σ a := by
    intro a hb
    rw [← hσ1]
    simp [setM, hb]
  obtain ⟨σ3, t1, t2, t3⟩ := t_takeHeats (k := k) (σ := σ1) hk
  rw [blX3_warm_2, if_pos (by decide), oc hk, t1, rV]
  refine ⟨_, rfl, ⟨?_, ?_, ?_, ?_, ?_, ?_, ?_⟩, ?_⟩
  · intro z hz
    rw [t2 z hz]
    exact p5 z hz
  · intro z hz
    rw [t3 _ (by omega), pa _ (by omega)]
    exact h2 z hz
  · intro z hz
    rw [t3 _ (by omega), pa _ (by omega)]
    exact h3 z hz
  · rw [t3 _ (by omega), pa _ (by omega)]
    exact h4
  · rw [t3 _ (by omega), pa _ (by omega)]
    exact h5
  · rw [t3 _ (by omega), pa _ (by omega)]
    exact h6
  · intro i d hd
    rw [t3 _ (by omega), pa _ (by omega)]
    exact h7 i d hd
  · intro a ha
    rw [t3 _ (by omega), pa _ (by omega)]
theorem massIn_snoc (z : Nat) (L : List Ld) (d : Ld) : massIn z (L ++ [d]) = massIn z L + (if d.2.2.1 = nI z then massS d.1 d.2.1 else 0) := by
  unfold massIn
  rw [List.foldl_append]
  rfl
theorem nI_inj3 {a b : Nat} (ha : a < 3) (hb : b < 3) : nI a = nI b ↔ a = b := nI_eq (by omega) (by omega)
theorem t_wg2 {k : Nat} (hk : (sh k).1 = 2) : ∀ (L2 L1 : List Ld) (σ : Mem), (L1 ++ L2).length ≤ 8 → (∀ d ∈ L2, okL d) → σ k 4 = nI (L1 ++ L2).length → (∀ z, z < 3 → σ (k + 3) z = massIn z L1) → (∀ i d, (L1 ++ L2)[i]? = some d → repL (σ (k + 6 + i)) d) →
    ∃ σ', am_go CX3_weigh 22 [.ref k, .int (nI L1.length)] [] σ = some (none, σ') ∧ (∀ z, z < 3 → σ' (k + 3) z = massIn z (L1 ++ L2)) ∧ ∀ a, a ≠ k + 3 → σ' a = σ a := by
  intro L2
  induction L2 with
  | nil =>
    intro L1 σ h8 hok hc hm hr
    rw [List.append_nil] at hc ⊢
    rw [blX3_weigh_22, oc hk, hc, if_pos (Int32.le_refl _)]
    exact ⟨σ, rfl, hm, fun _ _ => rfl⟩
  | cons d L2 ih =>
    intro L1 σ h8 hok hc hm hr
    have hlen : (L1 ++ d :: L2).length = L1.length + L2.length + 1 := by simp; omega
    have hi : L1.length < 8 := by omega
    obtain ⟨z, hz, hzd⟩ := (hok d List.mem_cons_self).2.2.1
    have hd := hr L1.length d (by simp)
    rw [blX3_weigh_22, oc hk, hc, if_neg (nI_ge (by omega) (by omega)), oc hk, oc hk, kr3 hk, x8 (ks4 hk) hi, cl _ (by omega), klr hk hi, oc (kls hk hi), kr2 hk, hd.2.2.1, hzd, x3 (ks3 hk) hz, oc hk, x8 (ks4 hk) hi, oc (kls hk hi), x3 (ks3 hk) hz, cl z (by omega), hm z hz, hd.2.2.2.2.2.2.2.2.2, nI_1]
    have hl1 : (L1 ++ [d]).length = L1.length + 1 := by simp
    have hap : L1 ++ [d] ++ L2 = L1 ++ d :: L2 := by simp
    obtain ⟨σ2, e2, m2, f2⟩ := ih (L1 ++ [d]) (setM σ (k + 3) z (massIn z L1 + massS d.1 d.2.1)) (by rw [hap]; exact h8) (fun d hd => hok d (List.mem_cons_of_mem _ hd)) (by rw [sM_a (by omega), hap]; exact hc) (by
      intro y hy
      rw [massIn_snoc, hzd]
      by_cases hyz : y = z
      · subst hyz
        rw [sM_eq, if_pos rfl]
      · rw [sM_i hyz, if_neg (fun e => hyz ((nI_inj3 hz hy).mp e).symm), Int32.add_zero]
        exact hm y hy) (by
      intro i d' hd'
      rw [hap] at hd'
      rw [sM_a (by omega)]
      exact hr i d' hd')
    rw [hl1] at e2
    rw [hap] at m2
    exact ⟨σ2, e2, m2, fun a ha => (f2 a ha).trans (sM_a ha)⟩
theorem t_weigh {k : Nat} {σ : Mem} {L : List Ld} (hk : (sh k).1 = 2) (h8 : L.length ≤ 8) (hok : ∀ d ∈ L, okL d) (hc : σ k 4 = nI L.length) (hr : ∀ i d, L[i]? = some d → repL (σ (k + 6 + i)) d) : ∃ σ', FX3_weigh [.ref k] σ = some (none, σ') ∧ (∀ z, z < 3 → σ' (k + 3) z = massIn z L) ∧ ∀ a, a ≠ k + 3 → σ' a = σ a := by
  rw [enX3_weigh, blX3_weigh_2, if_neg (by decide), oc hk, kr2 hk, show (0 : Int32) = nI 0 from rfl, x3 (ks3 hk) (by decide), show (nI 0 + 1 : Int32) = nI 1 from rfl, blX3_weigh_2, if_neg (by decide), oc hk, kr2 hk, x3 (ks3 hk) (by decide), show (nI 1 + 1 : Int32) = nI 2 from rfl, blX3_weigh_2, if_neg (by decide), oc hk, kr2 hk, x3 (ks3 hk) (by decide), show (nI 2 + 1 : Int32) = nI 3 from rfl, blX3_weigh_2, if_pos (by decide), cl 0 (by decide), cl 1 (by decide), cl 2 (by decide)]
  obtain ⟨σ', e, m, f⟩ := t_wg2 hk L [] (setM (setM (setM σ (k + 3) 0 (nI 0)) (k + 3) 1 (nI 0)) (k + 3) 2 (nI 0)) h8 hok (by rw [sM_a (by omega), sM_a (by omega), sM_a (by omega)]; exact hc) (by
    intro z hz
    match z, hz with
    | 0, _ => simp [sM]; rfl
    | 1, _ => simp [sM]; rfl
    | 2, _ => simp [sM]; rfl) (by
    intro i d hd
    rw [sM_a (by omega), sM_a (by omega), sM_a (by omega)]
    exact hr i d hd)
  exact ⟨σ', e, m, fun a ha => by rw [f a ha, sM_a ha, sM_a ha, sM_a ha]⟩
theorem t_begin {a : Nat} {σ : Mem} {kd sz zn : Int32} (hs : (sh a).1 = 3) (hk : kd = 0 ∨ kd = 1 ∨ kd = 2 ∨ kd = 3 ∨ kd = 4 ∨ kd = 5) : ∃ σ', FX4_begin [.ref a, .int kd, .int sz, .int zn] σ = some (none, σ') ∧ repL (σ' a) (kd, sz, zn, 0, 0) ∧ ∀ b, b ≠ a → σ' b = σ b := by
  have e0 : ∀ (σ : Mem), FX4_makeRaw [.ref a] σ = some (none, setM (setM σ a 3 0) a 4 0) := fun σ => by rw [enX4_makeRaw, oc hs, oc hs]
  have f0 : ∀ (σ : Mem), FX4_fallOf [.int kd] σ = some (some (.int (fallS kd)), σ) := fun σ => by rw [enX4_fallOf]; rcases hk with rfl | rfl | rfl | rfl | rfl | rfl <;> rfl
  have t0 : ∀ (σ : Mem), FX4_topOf [.int kd] σ = some (some (.int (topS kd)), σ) := fun σ => by rw [enX4_topOf]; rcases hk with rfl | rfl | rfl | rfl | rfl | rfl <;> rfl
  have n0 : ∀ (σ : Mem), FX4_needOf [.int kd, .int sz] σ = some (some (.int (needS kd sz)), σ) := fun σ => by
    rw [enX4_needOf, nz (by decide), nz (by decide)]
    have er : (2 : Int32) + sz / 2 - 1 = 1 + sz / 2 := by
      generalize sz / 2 = q
      rw [Int32.sub_eq_add_neg, Int32.add_comm 2 q, Int32.add_assoc, Int32.add_comm 1 q]
      rfl
    rw [er]
    rcases hk with rfl | rfl | rfl | rfl | rfl | rfl <;> rfl
  have m0 : ∀ (σ : Mem), FX4_massOf [.int kd, .int sz] σ = some (some (.int (massS kd sz)), σ) := fun σ => by
    rw [enX4_massOf, nz (by decide)]
    rcases hk with rfl | rfl | rfl | rfl | rfl | rfl <;> rfl
  have c1 : ∀ (σ : Mem), (setM (setM (setM σ a 0 kd) a 1 sz) a 2 zn) a 0 = kd := fun σ => by simp [sM]
  rw [enX4_begin, oc hs, oc hs, oc hs, oc hs, c1, f0, rI, oc hs, oc hs]
  rw [sM_i (by decide), c1, t0, rI, oc hs, oc hs, oc hs, sM_i (by decide), sM_i (by decide), c1, sM_i (by decide), sM_i (by decide), sM_i (by decide), sM_eq, n0, rI, oc hs, oc hs]
  rw [sM_i (j := 0) (by decide), sM_i (j := 0) (by decide), sM_i (j := 0) (by decide), c1]
  generalize hσ : setM (setM (setM (setM (setM (setM σ a 0 kd) a 1 sz) a 2 zn) a 5 (fallS kd)) a 6 (topS kd)) a 7 (needS kd sz) = σ1
  have q : σ1 a 0 = kd ∧ σ1 a 1 = sz ∧ σ1 a 2 = zn ∧ σ1 a 5 = fallS kd ∧ σ1 a 6 = topS kd ∧ σ1 a 7 = needS kd sz := by rw [← hσ]; simp [sM]
  have qa : ∀ b, b ≠ a → σ1 b = σ b := fun b hb => by rw [← hσ]; simp [setM, hb]
  obtain ⟨q0, q1, q2, q5, q6, q7⟩ := q
  have fin : ∀ v, v = meltsS kd → ∃ σ', (o_cls a 3 (o_cls a 3 (o_cls a 3 (o_cls a 3 (o_rI (FX4_massOf [.int ((setM σ1 a 8 v) a 0), .int ((setM σ1 a 8 v) a 1)] (setM σ1 a 8 v)) (fun r8 m7 => o_cls a 3 (o_cls a 3 (o_rV (FX4_makeRaw [.ref a] (setM m7 a 9 r8)) (fun m9 => some (none, m9)))))))))) = some (none, σ') ∧ repL (σ' a) (kd, sz, zn, 0, 0) ∧ ∀ b, b ≠ a → σ' b = σ b := by
    intro v hv
    rw [oc hs, oc hs, oc hs, oc hs, sM_i (by decide), sM_i (by decide), q0, q1, m0, rI, oc hs, oc hs, e0, rV]
    refine ⟨_, rfl, ?_, fun b hb => by rw [sM_a hb, sM_a hb, sM_a hb, sM_a hb]; exact qa b hb⟩
    simp [repL, sM, q0, q1, q2, q5, q6, q7, hv]
  rcases hk with rfl | rfl | rfl | rfl | rfl | rfl
  · rw [if_neg (by decide)]; exact fin _ (by rw [q6]; rfl)
  · rw [if_neg (by decide)]; exact fin _ (by rw [q6]; rfl)
  · rw [if_neg (by decide)]; exact fin _ (by rw [q6]; rfl)
  · rw [if_neg (by decide)]; exact fin _ (by rw [q6]; rfl)
  · rw [if_neg (by decide)]; exact fin _ (by rw [q6]; rfl)
  · rw [if_pos (by decide)]; exact fin _ (by rw [q6]; rfl)
