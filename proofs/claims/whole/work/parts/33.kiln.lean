/-! kilns: what they hold, and a step -/
theorem k_lt {k : Nat} (h : (sh k).1 = 2) : k < NC := sh_lt (by omega)
theorem kr0 {k : Nat} (h : (sh k).1 = 2) : rf k 0 = k + 1 := (kn_all k (k_lt h) h).1.1
theorem kr1 {k : Nat} (h : (sh k).1 = 2) : rf k 1 = k + 2 := (kn_all k (k_lt h) h).1.2.1
theorem kr2 {k : Nat} (h : (sh k).1 = 2) : rf k 2 = k + 3 := (kn_all k (k_lt h) h).1.2.2.1
theorem kr3 {k : Nat} (h : (sh k).1 = 2) : rf k 3 = k + 4 := (kn_all k (k_lt h) h).1.2.2.2.1
theorem kr7 {k : Nat} (h : (sh k).1 = 2) : rf k 7 = k + 5 := (kn_all k (k_lt h) h).1.2.2.2.2
theorem ks1 {k : Nat} (h : (sh k).1 = 2) : sh (k + 1) = (100, 3) := (kn_all k (k_lt h) h).2.1.1
theorem ks2 {k : Nat} (h : (sh k).1 = 2) : sh (k + 2) = (100, 3) := (kn_all k (k_lt h) h).2.1.2.1
theorem ks3 {k : Nat} (h : (sh k).1 = 2) : sh (k + 3) = (100, 3) := (kn_all k (k_lt h) h).2.1.2.2.1
theorem ks4 {k : Nat} (h : (sh k).1 = 2) : sh (k + 4) = (102, 8) := (kn_all k (k_lt h) h).2.1.2.2.2.1
theorem ks5 {k : Nat} (h : (sh k).1 = 2) : sh (k + 5) = (100, 3) := (kn_all k (k_lt h) h).2.1.2.2.2.2
theorem klr {k i : Nat} (h : (sh k).1 = 2) (hi : i < 8) : rf (k + 4) i = k + 6 + i := ((kn_all k (k_lt h) h).2.2.1 i hi).1
theorem kls {k i : Nat} (h : (sh k).1 = 2) (hi : i < 8) : (sh (k + 6 + i)).1 = 3 := by rw [((kn_all k (k_lt h) h).2.2.1 i hi).2]
theorem x3 {α : Type} {a z : Nat} {k : Option α} (h : sh a = (100, 3)) (hz : z < 3) : o_ix 100 a (nI z) k = k := ox (by rw [h]) (by rw [h]; exact hz)
theorem x8 {α : Type} {a z : Nat} {k : Option α} (h : sh a = (102, 8)) (hz : z < 8) : o_ix 102 a (nI z) k = k := ox (by rw [h]) (by rw [h]; exact hz)
def clS (v : Int32) : Int32 := if 0 < (if v < 1300 then v else 1300) then (if v < 1300 then v else 1300) else 0
/-- the heat of zone z behind a step: heats, its mass, its setting -/
def behS (H : H3) (m s : Int32) (z : Nat) : Int32 := match z with
  | 0 => clS (at3 H 0 - (at3 H 0 - 20) / 40 + giveS s (at3 H 0) * 10 / (10 + m) + (at3 H 1 - at3 H 0) / 8)
  | 1 => clS (at3 H 1 - (at3 H 1 - 20) / 40 + giveS s (at3 H 1) * 10 / (10 + m) + (at3 H 0 - at3 H 1) / 8 + (at3 H 2 - at3 H 1) / 8)
  | _ => clS (at3 H 2 - (at3 H 2 - 20) / 40 + giveS s (at3 H 2) * 10 / (10 + m) + (at3 H 1 - at3 H 2) / 8)
def massIn (z : Nat) (L : List Ld) : Int32 := L.foldl (fun m d => m + (if d.2.2.1 = nI z then massS d.1 d.2.1 else 0)) 0
def okS (S : KS) : Prop := S.2.2.1.length ≤ 8 ∧ ∀ d ∈ S.2.2.1, okL d
def repK (k : Nat) (S : KS) (σ : Mem) : Prop := (∀ z, z < 3 → σ (k + 1) z = at3 S.1 z) ∧ (∀ z, z < 3 → σ (k + 2) z = at3 S.2.1 z) ∧ (∀ z, z < 3 → σ (k + 3) z = massIn z S.2.2.1) ∧ σ k 4 = nI S.2.2.1.length ∧ σ k 5 = S.2.2.2.1 ∧ σ k 6 = S.2.2.2.2 ∧ ∀ i d, S.2.2.1[i]? = some d → repL (σ (k + 6 + i)) d
theorem massS_in {d : Ld} (h : okL d) : ∃ m : Nat, m ≤ 18 ∧ massS d.1 d.2.1 = nI m := by
  obtain ⟨h1, ⟨j, j1, j2, hj⟩, -⟩ := h
  rw [hj]
  have key : ∀ q : Fin 6, ∀ i : Fin 10, ∃ m : Nat, m ≤ 18 ∧ massS (nI q.val) (nI i.val) = nI m := by
    intro q i
    have hd : ∀ q : Fin 6, ∀ i : Fin 10, ∃ m : Fin 19, massS (nI q.val) (nI i.val) = nI m.val := by decide +kernel
    obtain ⟨m, hm⟩ := hd q i
    exact ⟨m.val, by omega, hm⟩
  rcases h1 with h | h | h | h | h | h <;> rw [h]
  · exact key 0 ⟨j, by omega⟩
  · exact key 1 ⟨j, by omega⟩
  · exact key 2 ⟨j, by omega⟩
  · exact key 3 ⟨j, by omega⟩
  · exact key 4 ⟨j, by omega⟩
  · exact key 5 ⟨j, by omega⟩
theorem massIn_acc (z : Nat) : ∀ (L : List Ld) (a : Nat), (∀ d ∈ L, okL d) → ∃ m : Nat, m ≤ a + 18 * L.length ∧ L.foldl (fun m d => m + (if d.2.2.1 = nI z then massS d.1 d.2.1 else 0)) (nI a) = nI m := by
  intro L
  induction L with
  | nil => exact fun a _ => ⟨a, by simp, rfl⟩
  | cons d L ih =>
    intro a h
    obtain ⟨m, hm, e⟩ := massS_in (h d List.mem_cons_self)
    rw [List.foldl_cons]
    by_cases hz : d.2.2.1 = nI z
    · rw [if_pos hz, e, nI_add]
      obtain ⟨m', h1, h2⟩ := ih (a + m) (fun d hd => h d (List.mem_cons_of_mem _ hd))
      exact ⟨m', by rw [List.length_cons]; omega, h2⟩
    · rw [if_neg hz, show nI a + 0 = nI a from Int32.add_zero _]
      obtain ⟨m', h1, h2⟩ := ih a (fun d hd => h d (List.mem_cons_of_mem _ hd))
      exact ⟨m', by rw [List.length_cons]; omega, h2⟩
theorem massIn_in {S : KS} (h : okS S) (z : Nat) : ∃ m : Nat, m ≤ 144 ∧ massIn z S.2.2.1 = nI m := by
  obtain ⟨m, h1, h2⟩ := massIn_acc z S.2.2.1 0 h.2
  exact ⟨m, by have := h.1; omega, h2⟩
theorem t_behind {k z : Nat} {σ : Mem} {H : H3} {m : Nat} {s : Int32} (hk : (sh k).1 = 2) (hz : z < 3) (hm : m ≤ 144) (h1 : ∀ z, z < 3 → σ (k + 1) z = at3 H z) (h2 : σ (k + 3) z = nI m) : FX3_heatBehind [.ref k, .int (nI z), .int s] σ = some (some (.int (behS H (nI m) s z)), σ) := by
  have ew : (10 : Int32) + nI m = nI (10 + m) := nI_add 10 m
  rw [enX3_heatBehind, oc hk, kr0 hk, x3 (ks1 hk) hz, oc hk, kr2 hk, x3 (ks3 hk) hz, nz (by decide), cl z (by omega), h2, h1 z hz, ew, if_neg (nI_nle (by omega) (by omega)), t_given, rI, nz (nI_ne0 (by omega) (by omega)), blX3_heatBehind_50, oc hk, oc hk, kr0 hk]
  match z, hz with
  | 0, _ =>
    rw [if_pos (by decide), if_neg (by decide), show (nI 0 + 1 : Int32) = nI 1 from rfl, x3 (ks1 hk) (by decide), nz (by decide), cl 1 (by decide), h1 1 (by decide)]
    rw [← ew]
    rfl
  | 1, _ =>
    rw [if_neg (by decide), show (nI 1 - 1 : Int32) = nI 0 from rfl, x3 (ks1 hk) (by decide), nz (by decide), if_neg (by decide), show (nI 1 + 1 : Int32) = nI 2 from rfl, oc hk, x3 (ks1 hk) (by decide), nz (by decide), cl 0 (by decide), cl 2 (by decide), h1 0 (by decide), h1 2 (by decide)]
    rw [← ew]
    rfl
  | 2, _ =>
    rw [if_neg (by decide), show (nI 2 - 1 : Int32) = nI 1 from rfl, x3 (ks1 hk) (by decide), nz (by decide), if_pos (by decide), cl 1 (by decide), h1 1 (by decide)]
    rw [← ew]
    rfl
theorem t_takeHeats {k : Nat} {σ : Mem} (hk : (sh k).1 = 2) : ∃ σ', FX3_takeHeats [.ref k] σ = some (none, σ') ∧ (∀ z, z < 3 → σ' (k + 1) z = σ (k + 5) z) ∧ ∀ a, a ≠ k + 1 → σ' a = σ a := by
  rw [enX3_takeHeats, blX3_takeHeats_2, if_neg (by decide), oc hk, oc hk, kr7 hk, kr0 hk, show (0 : Int32) = nI 0 from rfl, x3 (ks5 hk) (by decide), x3 (ks1 hk) (by decide), show (nI 0 + 1 : Int32) = nI 1 from rfl, blX3_takeHeats_2, if_neg (by decide), oc hk, oc hk, kr7 hk, kr0 hk, x3 (ks5 hk) (by decide), x3 (ks1 hk) (by decide), show (nI 1 + 1 : Int32) = nI 2 from rfl, blX3_takeHeats_2, if_neg (by decide), oc hk, oc hk, kr7 hk, kr0 hk, x3 (ks5 hk) (by decide), x3 (ks1 hk) (by decide), show (nI 2 + 1 : Int32) = nI 3 from rfl, blX3_takeHeats_2, if_pos (by decide), cl 0 (by decide), cl 1 (by decide), cl 2 (by decide)]
  refine ⟨_, rfl, fun z hz => ?_, fun a ha => ?_⟩
  · match z, hz with
    | 0, _ => simp [sM]
    | 1, _ => simp [sM]
    | 2, _ => simp [sM]
  · rw [sM_a ha, sM_a ha, sM_a ha]
/-- heats behind a step -/
def behH (S : KS) : H3 := (behS S.1 (massIn 0 S.2.2.1) (at3 S.2.1 0) 0, behS S.1 (massIn 1 S.2.2.1) (at3 S.2.1 1) 1, behS S.1 (massIn 2 S.2.2.1) (at3 S.2.1 2) 2)
theorem behH_at (S : KS) {z : Nat} (hz : z < 3) : at3 (behH S) z = behS S.1 (massIn z S.2.2.1) (at3 S.2.1 z) z := by
  match z, hz with
  | 0, _ => rfl
  | 1, _ => rfl
  | 2, _ => rfl
def burn3 (T : H3) : Int32 := burnS T.1 + burnS T.2.1 + burnS T.2.2
def goLs (H B : H3) : List Ld → Nat → Int32 → List Ld × Int32
  | [], _, b => ([], b)
  | d :: L, i, b =>
    ((underS d (at3 H d.2.2.1.toNatClampNeg) (at3 B d.2.2.1.toNatClampNeg)).1 :: (goLs H B L (i + 1) (if (underS d (at3 H d.2.2.1.toNatClampNeg) (at3 B d.2.2.1.toNatClampNeg)).2 = true then b ||| ((1 : Int32) <<< (nI i &&& 31)) else b)).1,
      (goLs H B L (i + 1) (if (underS d (at3 H d.2.2.1.toNatClampNeg) (at3 B d.2.2.1.toNatClampNeg)).2 = true then b ||| ((1 : Int32) <<< (nI i &&& 31)) else b)).2)
/-- a step: the kiln behind it, and who became spoiled -/
def stepS (S : KS) : KS × Int32 := ((behH S, S.2.1, (goLs S.1 (behH S) S.2.2.1 0 0).1, S.2.2.2.1 + burn3 S.2.1, S.2.2.2.2 + 1), (goLs S.1 (behH S) S.2.2.1 0 0).2)
theorem goLs_len (H B : H3) : ∀ (L : List Ld) (i : Nat) (b : Int32), (goLs H B L i b).1.length = L.length := by
  intro L
  induction L with
  | nil => intros; rfl
  | cons d L ih => intro i b; show (_ :: _).length = _; rw [List.length_cons, ih, List.length_cons]
theorem t_gs2 {k : Nat} (hk : (sh k).1 = 2) (H B : H3) : ∀ (L2 L1 : List Ld) (σ : Mem) (b : Int32) (v : Value), (L1 ++ L2).length ≤ 8 → (∀ d ∈ L2, okL d) → σ k 4 = nI (L1 ++ L2).length → (∀ z, z < 3 → σ (k + 1) z = at3 H z) → (∀ z, z < 3 → σ (k + 5) z = at3 B z) → (∀ i d, (L1 ++ L2)[i]? = some d → repL (σ (k + 6 + i)) d) →
    ∃ σ' v', am_go CX3_goStep 52 [.ref k, .int b, .int (nI L1.length), v] [] σ = am_go CX3_goStep 52 [.ref k, .int (goLs H B L2 L1.length b).2, .int (nI (L1 ++ L2).length), v'] [] σ' ∧ (∀ i d, (L1 ++ (goLs H B L2 L1.length b).1)[i]? = some d → repL (σ' (k + 6 + i)) d) ∧ ∀ a, (a < k + 6 ∨ k + 14 ≤ a) → σ' a = σ a := by
  intro L2
  induction L2 with
  | nil =>
    intro L1 σ b v h8 hok hc h1 h5 hr
    exact ⟨σ, v, by rw [List.append_nil]; rfl, hr, fun _ _ => rfl⟩
  | cons d L2 ih =>
    intro L1 σ b v h8 hok hc h1 h5 hr
    have hlen : (L1 ++ d :: L2).length = L1.length + L2.length + 1 := by simp; omega
    have hi : L1.length < 8 := by omega
    obtain ⟨z, hz, hzd⟩ := (hok d List.mem_cons_self).2.2.1
    have hd := hr L1.length d (by simp)
    obtain ⟨σ1, e1, r1, f1⟩ := t_under (kls hk hi) hd (at3 H z) (at3 B z)
    have hcz : d.2.2.1.toNatClampNeg = z := by rw [hzd]; exact cl z (by omega)
    rw [blX3_goStep_52, oc hk, hc, if_neg (nI_ge (by omega) (by omega)), oc hk, kr3 hk, x8 (ks4 hk) hi, cl _ (by omega), klr hk hi, oc (kls hk hi), oc hk, x8 (ks4 hk) hi, oc hk, kr0 hk, kr7 hk, hd.2.2.1, hzd, x3 (ks1 hk) hz, oc hk, x3 (ks5 hk) hz, oc (kls hk hi), cl z (by omega), h1 z hz, h5 z hz, e1, rI, ifb, nI_1]
    have hne : ∀ a, (a < k + 6 ∨ k + 14 ≤ a) → σ1 a = σ a := fun a ha => f1 a (by omega)
    have step : ∀ b', ∃ σ' v', am_go CX3_goStep 52 [.ref k, .int b', .int (nI (L1.length + 1)), .int (nI z)] [] σ1 = am_go CX3_goStep 52 [.ref k, .int (goLs H B L2 (L1.length + 1) b').2, .int (nI (L1 ++ d :: L2).length), v'] [] σ' ∧ (∀ i d', (L1 ++ (underS d (at3 H z) (at3 B z)).1 :: (goLs H B L2 (L1.length + 1) b').1)[i]? = some d' → repL (σ' (k + 6 + i)) d') ∧ ∀ a, (a < k + 6 ∨ k + 14 ≤ a) → σ' a = σ a := by
      intro b'
      have hl1 : (L1 ++ [(underS d (at3 H z) (at3 B z)).1]).length = L1.length + 1 := by simp
      have hl2 : (L1 ++ [(underS d (at3 H z) (at3 B z)).1] ++ L2).length = (L1 ++ d :: L2).length := by simp
      obtain ⟨σ2, v2, e2, r2, f2⟩ := ih (L1 ++ [(underS d (at3 H z) (at3 B z)).1]) σ1 b' (.int (nI z)) (by rw [hl2]; exact h8) (fun d hd => hok d (List.mem_cons_of_mem _ hd)) (by rw [hne k (by omega), hc, hl2]) (fun z hz => by rw [hne _ (by omega)]; exact h1 z hz) (fun z hz => by rw [hne _ (by omega)]; exact h5 z hz) (by
        intro i d' hd'
        by_cases hil : i = L1.length
        · subst hil
          have : d' = (underS d (at3 H z) (at3 B z)).1 := by simpa using hd'.symm
          rw [this]
          exact r1
        · rw [f1 _ (by omega)]
          refine hr i d' ?_
          rw [List.append_assoc] at hd'
          by_cases hlt : i < L1.length
          · rw [List.getElem?_append_left hlt] at hd' ⊢
            exact hd'
          · rw [List.getElem?_append_right (by omega)] at hd' ⊢
            obtain ⟨q, hq⟩ : ∃ q, i - L1.length = q + 1 := ⟨i - L1.length - 1, by omega⟩
            rw [hq] at hd' ⊢
            exact hd')
      rw [hl1, hl2] at e2
      rw [hl1] at r2
      refine ⟨σ2, v2, e2, ?_, fun a ha => (f2 a ha).trans (hne a ha)⟩
      intro i d' hd'
      refine r2 i d' ?_
      rw [List.append_assoc]
      exact hd'
    have eg : ∀ b0, goLs H B (d :: L2) L1.length b0 = ((underS d (at3 H z) (at3 B z)).1 :: (goLs H B L2 (L1.length + 1) (if (underS d (at3 H z) (at3 B z)).2 = true then b0 ||| ((1 : Int32) <<< (nI L1.length &&& 31)) else b0)).1, (goLs H B L2 (L1.length + 1) (if (underS d (at3 H z) (at3 B z)).2 = true then b0 ||| ((1 : Int32) <<< (nI L1.length &&& 31)) else b0)).2) := by
      intro b0
      rw [goLs, hcz]
    rw [eg b]
    by_cases hu : (underS d (at3 H z) (at3 B z)).2 = true
    · rw [if_pos hu, if_pos hu]
      exact step _
    · rw [if_neg hu, if_neg hu]
      exact step _
theorem under_zone (d : Ld) (h t : Int32) : (underS d h t).1.1 = d.1 ∧ (underS d h t).1.2.1 = d.2.1 ∧ (underS d h t).1.2.2.1 = d.2.2.1 := by
  unfold underS
  cases spS d
  · simp only [cond_false]
    split
    · split
      · exact ⟨rfl, rfl, rfl⟩
      · split <;> exact ⟨rfl, rfl, rfl⟩
    · exact ⟨rfl, rfl, rfl⟩
  · exact ⟨rfl, rfl, rfl⟩
theorem goLs_massA (z : Nat) (H B : H3) : ∀ (L : List Ld) (i : Nat) (b acc : Int32), (goLs H B L i b).1.foldl (fun m d => m + (if d.2.2.1 = nI z then massS d.1 d.2.1 else 0)) acc = L.foldl (fun m d => m + (if d.2.2.1 = nI z then massS d.1 d.2.1 else 0)) acc := by
  intro L
  induction L with
  | nil => intros; rfl
  | cons d L ih =>
    intro i b acc
    show List.foldl _ acc (_ :: _) = _
    rw [List.foldl_cons, List.foldl_cons, ih]
    obtain ⟨e1, e2, e3⟩ := under_zone d (at3 H d.2.2.1.toNatClampNeg) (at3 B d.2.2.1.toNatClampNeg)
    rw [e1, e2, e3]
theorem goLs_mass (z : Nat) (H B : H3) (L : List Ld) (i : Nat) (b : Int32) : massIn z (goLs H B L i b).1 = massIn z L := goLs_massA z H B L i b 0
