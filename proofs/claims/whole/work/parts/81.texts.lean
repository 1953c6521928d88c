/-! texts: the words, as the JDK tells them -/
def wdS (s : Nat) : List Int32 := bytS.getD s []
theorem wd_len : ∀ s : Fin 6, (wdS s.val).length ≤ 4 ∧ lenS.getD s.val 0 = (wdS s.val).length := by decide +kernel
theorem wd_ok : ∀ s : Fin 6, ∀ b ∈ wdS s.val, ∃ j : Fin 128, b = nI j.val := by decide +kernel
theorem wd_is : ∀ s : Fin 6, am_isS (1000 + s.val) = true ∧ am_isB (1000 + s.val + 100) = true ∧ 1000 + s.val + 100 - 1100 = s.val := by decide +kernel
theorem nr_byte0 {α : Type} {k : Option α} : o_nr .byte (0 : Int32) k = k := if_pos rfl
theorem wd_sh : ∀ n : Fin 5, (Int32.ofNat n.val) >>> ((0 : Int32) &&& 31) = nI n.val := by decide +kernel
theorem j_len {s : Nat} {σ : Mem} (hs : s < 6) : FJ0_length_8abf5 [.ref (1000 + s)] σ = some (some (.int (nI (wdS s).length)), σ) := by
  obtain ⟨h1, h2, h3⟩ := wd_is ⟨s, hs⟩
  obtain ⟨l1, l2⟩ := wd_len ⟨s, hs⟩
  dsimp only at h1 h2 h3 l1 l2
  rw [enJ0_length_8abf5, enJ0_coder_7d493, h1, h2, h3, if_neg (by decide)]
  simp only [cond_true]
  rw [nr_byte0, rI, l2, wd_sh ⟨(wdS s).length, by omega⟩]
theorem wd_ch : ∀ s : Fin 6, ∀ i : Fin 4, i.val < (wdS s.val).length → ((((bytS.getD s.val []).getD i.val 0) &&& (255 : Int32)).toUInt32 % 65536).toInt32 = (wdS s.val).getD i.val 0 ∧ narrow .char (.int ((wdS s.val).getD i.val 0)) = .int ((wdS s.val).getD i.val 0) := by decide +kernel
theorem j_at {s i : Nat} {σ : Mem} (hs : s < 6) (hi : i < (wdS s).length) : FJ0_charAt_5068e [.ref (1000 + s), .int (nI i)] σ = some (some (.int ((wdS s).getD i 0)), σ) := by
  obtain ⟨h1, h2, h3⟩ := wd_is ⟨s, hs⟩
  obtain ⟨l1, l2⟩ := wd_len ⟨s, hs⟩
  dsimp only at h1 h2 h3 l1 l2
  obtain ⟨c1, c2⟩ := wd_ch ⟨s, hs⟩ ⟨i, by omega⟩ hi
  dsimp only at c1 c2
  have hin : am_inb (nI i) (wdS s).length = true := inb hi (by omega)
  have hnr : ∀ {α : Type} {k : Option α}, o_nr .char ((wdS s).getD i 0) k = k := fun {α k} => if_pos c2
  rw [enJ0_charAt_5068e, enJ0_isLatin1_aae02, h1, if_neg (show ¬ (1 : Int32) = 0 by decide), if_pos (show (0 : Int32) = 0 from rfl)]
  simp only [cond_true]
  rw [zr1, rI, if_neg (by decide), enJ1_charAt_3b067, h2, h3, l2]
  simp only [cond_true, Bool.true_and]
  rw [enJ0_checkIndex_df160, enJ3_checkIndex_8e157, if_neg (nI_pos (by omega)), if_pos (show nI i < Int32.ofNat (wdS s).length from nI_lt hi (by omega)), rI, rV, hin]
  simp only [cond_true]
  rw [cl i (by omega), c1, hnr, rI, hnr]
theorem t_word {s : Nat} {σ : Mem} (hs : s < 4) : FX0_word [.int (nI s)] σ = some (some (.ref (1000 + s)), σ) := by
  rw [enX0_word]
  match s, hs with
  | 0, _ => rfl
  | 1, _ => rfl
  | 2, _ => rfl
  | 3, _ => rfl
theorem m_word {s : Nat} {σ : Mem} (hs : s < 4) : FX10_word [.int (nI s)] σ = some (some (.ref (1000 + s)), σ) := by
  rw [enX10_word]
  match s, hs with
  | 0, _ => rfl
  | 1, _ => rfl
  | 2, _ => rfl
  | 3, _ => rfl
theorem wd_isS {s : Nat} (hs : s < 6) : am_isS (1000 + s) = true := (wd_is ⟨s, hs⟩).1
/-! a course printed -/
def tlT (n : Int32) : List Int32 := if n ≤ 1 then [] else [32, 120, 48 + n]
def wdT (v : Int32) : List Int32 := wdS v.toNatClampNeg
def legT (g : Lg) : List Int32 := (wdT g.1 ++ (if g.1 = g.2.1 ∧ g.1 = g.2.2.1 then [] else [47] ++ wdT g.2.1 ++ [47] ++ wdT g.2.2.1)) ++ tlT g.2.2.2
def txtL : Nat → List Lg → List Int32
  | _, [] => []
  | k, g :: l => ((if k = 0 then [] else [59]) ++ legT g) ++ txtL (k + 1) l
theorem wdT_nI {s : Nat} (hs : s < 4) : wdT (nI s) = wdS s := by
  unfold wdT
  rw [cl s (by omega)]
theorem wdS_le {s : Nat} (hs : s < 6) : (wdS s).length ≤ 4 := (wd_len ⟨s, hs⟩).1
theorem legT_len {g : Lg} (h : okG g) : (legT g).length ≤ 17 := by
  obtain ⟨⟨s0, h0, e0⟩, ⟨s1, h1, e1⟩, ⟨s2, h2, e2⟩, -⟩ := h
  unfold legT tlT
  rw [e0, e1, e2, wdT_nI h0, wdT_nI h1, wdT_nI h2]
  have l0 := wdS_le (s := s0) (by omega)
  have l1 := wdS_le (s := s1) (by omega)
  have l2 := wdS_le (s := s2) (by omega)
  split <;> split <;> simp <;> omega
theorem txtL_len : ∀ (l : List Lg) (k : Nat), (∀ g ∈ l, okG g) → (txtL k l).length ≤ 18 * l.length := by
  intro l
  induction l with
  | nil => intro k _; exact Nat.zero_le _
  | cons g l ih =>
    intro k h
    have h1 := legT_len (h g List.mem_cons_self)
    have h2 := ih (k + 1) (fun g hg => h g (List.mem_cons_of_mem _ hg))
    rw [txtL]
    simp only [List.length_append, List.length_cons]
    have : (if k = 0 then ([] : List Int32) else [59]).length ≤ 1 := by split <;> simp
    omega
/-! the class's paper -/
def prR (t : List Int32) (σ : Mem) : Prop := σ 47 1 = nI t.length ∧ ∀ i b, t[i]? = some b → σ 48 i = b
def fr47 (σ σ' : Mem) : Prop := ∀ a, a ≠ 47 → a ≠ 48 → σ' a = σ a
theorem fr47.rf (σ : Mem) : fr47 σ σ := fun _ _ _ => rfl
theorem fr47.tr {a b c : Mem} (h : fr47 a b) (h' : fr47 b c) : fr47 a c := fun x h1 h2 => (h' x h1 h2).trans (h x h1 h2)
theorem o47 : (sh 47).1 = 5 := by rw [sh47]
theorem x48 {α : Type} {i : Nat} {k : Option α} (hi : i < 120) : o_ix 101 48 (nI i) k = k := ox (by rw [sh48]) (by rw [sh48]; exact hi)
theorem t_padd {t : List Int32} {j : Nat} {σ : Mem} (hp : prR t σ) (ht : t.length < 120) (hj : j < 128) : ∃ σ', FX6_add [.ref 47, .int (nI j)] σ = some (none, σ') ∧ prR (t ++ [nI j]) σ' ∧ fr47 σ σ' := by
  rw [enX6_add, oc o47, hp.1, if_neg (show ¬ (120 : Int32) ≤ nI t.length from nI_ge (b := 120) ht (by decide)), oc o47, oc o47, rf47_0, x48 ht, oc o47, oc o47, cl t.length (by omega), by8 hj, sM_a (show 47 ≠ 48 by decide), hp.1, nI_1]
  refine ⟨_, rfl, ⟨by rw [sM_eq, List.length_append]; rfl, fun i b hb => ?_⟩, fun a h1 h2 => by rw [sM_a h1, sM_a h2]⟩
  rw [sM_a (by decide)]
  rcases snoc_get hb with ⟨hi, h1⟩ | ⟨rfl, rfl⟩
  · rw [sM_i (by omega)]; exact hp.2 i b h1
  · rw [sM_eq]
theorem t_pword {s : Nat} {t : List Int32} (hs : s < 6) (ht : t.length + (wdS s).length ≤ 120) : ∀ (m i : Nat) (σ : Mem), i + m = (wdS s).length → prR (t ++ (wdS s).take i) σ → ∃ σ', am_go CX6_addWord 2 [.ref 47, .ref (1000 + s), .int (nI i)] [] σ = some (none, σ') ∧ prR (t ++ wdS s) σ' ∧ fr47 σ σ' := by
  have l4 := wdS_le hs
  intro m
  induction m with
  | zero =>
    intro i σ hi hp
    have : i = (wdS s).length := by omega
    subst this
    rw [List.take_length] at hp
    rw [blX6_addWord_2, wd_isS hs, j_len hs]
    simp only [cond_true]
    rw [rI, if_pos (Int32.le_refl _)]
    exact ⟨σ, rfl, hp, fr47.rf σ⟩
  | succ m ih =>
    intro i σ hi hp
    have hil : i < (wdS s).length := by omega
    obtain ⟨b, hb⟩ : ∃ b, (wdS s)[i]? = some b := ⟨(wdS s)[i], List.getElem?_eq_getElem hil⟩
    obtain ⟨j, ej⟩ := wd_ok ⟨s, hs⟩ b (List.mem_of_getElem? hb)
    have eg : (wdS s).getD i 0 = nI j.val := by rw [List.getD_eq_getElem?_getD, hb, ← ej]; rfl
    have hlen : (t ++ (wdS s).take i).length = t.length + i := by rw [List.length_append, List.length_take]; omega
    obtain ⟨σ1, e1, p1, f1⟩ := t_padd (j := j.val) hp (by omega) j.isLt
    have hsum : t ++ (wdS s).take i ++ [nI j.val] = t ++ (wdS s).take (i + 1) := by
      rw [List.take_succ, hb, List.append_assoc, ej]; rfl
    rw [hsum] at p1
    obtain ⟨σ2, e2, p2, f2⟩ := ih (i + 1) σ1 (by omega) p1
    refine ⟨σ2, ?_, p2, f1.tr f2⟩
    rw [blX6_addWord_2, wd_isS hs, j_len hs]
    simp only [cond_true]
    rw [rI, if_neg (nI_ge hil (by omega)), j_at hs hil, rI, oc o47, eg, e1, rV, nI_1, e2]
theorem t_addWord {s : Nat} {t : List Int32} {σ : Mem} (hs : s < 6) (ht : t.length + 4 ≤ 120) (hp : prR t σ) : ∃ σ', FX6_addWord [.ref 47, .ref (1000 + s)] σ = some (none, σ') ∧ prR (t ++ wdS s) σ' ∧ fr47 σ σ' := by
  have l4 := wdS_le hs
  rw [enX6_addWord]
  exact t_pword hs (by omega) (wdS s).length 0 σ (by omega) (by rw [List.take_zero, List.append_nil]; exact hp)
theorem t_isEven {a i : Nat} {g : Lg} {σ : Mem} (ha : (sh a).1 = 0) (hi : i < 6) (hg : legC a i g σ) : FX1_isEven [.ref a, .int (nI i)] σ = some (some (.int (if g.1 = g.2.1 ∧ g.1 = g.2.2.1 then 1 else 0)), σ) := by
  have t0 := t_settingOf (σ := σ) ha hi (show 0 < 3 by decide)
  have t1 := t_settingOf (σ := σ) ha hi (show 1 < 3 by decide)
  have t2 := t_settingOf (σ := σ) ha hi (show 2 < 3 by decide)
  rw [show σ (a + 1) (3 * i + 0) = g.1 from hg.1] at t0
  rw [hg.2.1] at t1
  rw [hg.2.2.1] at t2
  rw [enX1_isEven, oc ha, show FX1_settingOf [.ref a, .int (nI i), .int 0] σ = _ from t0, rI, oc ha, show FX1_settingOf [.ref a, .int (nI i), .int 1] σ = _ from t1, rI]
  by_cases h1 : g.1 = g.2.1
  · rw [if_pos h1, oc ha, show FX1_settingOf [.ref a, .int (nI i), .int 2] σ = _ from t2, rI]
    by_cases h2 : g.1 = g.2.2.1
    · rw [if_pos h2, zr1, if_pos ⟨h1, h2⟩]
    · rw [if_neg h2, zr0, if_neg (fun z => h2 z.2)]
  · rw [if_neg h1, zr0, if_neg (fun z => h1 z.1)]
theorem legC.fr {a i : Nat} {g : Lg} {σ σ' : Mem} (h : legC a i g σ) (ha : 48 < a) (f : fr47 σ σ') : legC a i g σ' := by
  unfold legC at h ⊢
  rw [f (a + 1) (by omega) (by omega), f (a + 2) (by omega) (by omega)]
  exact h
theorem t_showLeg {a i : Nat} {g : Lg} {t : List Int32} {σ : Mem} (ha : (sh a).1 = 0) (ha' : 48 < a) (hi : i < 6) (hg : legC a i g σ) (ok : okG g) (hp : prR t σ) (ht : t.length + 17 ≤ 120) : ∃ σ', FX6_showLeg [.ref 47, .ref a, .int (nI i)] σ = some (none, σ') ∧ prR (t ++ legT g) σ' ∧ fr47 σ σ' := by
  obtain ⟨s0, h0, e0⟩ := ok.1
  obtain ⟨s1, h1, e1⟩ := ok.2.1
  obtain ⟨s2, h2, e2⟩ := ok.2.2.1
  obtain ⟨n, n1, n9, en⟩ := ok.2.2.2
  have l0 := wdS_le (s := s0) (by omega)
  have l1 := wdS_le (s := s1) (by omega)
  have l2 := wdS_le (s := s2) (by omega)
  have t0 : ∀ τ, legC a i g τ → FX1_settingOf [.ref a, .int (nI i), .int 0] τ = some (some (.int (nI s0)), τ) := fun τ hq => by
    rw [← e0, ← hq.1]; exact t_settingOf ha hi (show 0 < 3 by decide)
  have t1 : ∀ τ, legC a i g τ → FX1_settingOf [.ref a, .int (nI i), .int 1] τ = some (some (.int (nI s1)), τ) := fun τ hq => by
    rw [← e1, ← hq.2.1]; exact t_settingOf ha hi (show 1 < 3 by decide)
  have t2 : ∀ τ, legC a i g τ → FX1_settingOf [.ref a, .int (nI i), .int 2] τ = some (some (.int (nI s2)), τ) := fun τ hq => by
    rw [← e2, ← hq.2.2.1]; exact t_settingOf ha hi (show 2 < 3 by decide)
  have x6 : ∀ {α : Type} {k : Option α}, o_ix 100 (a + 2) (nI i) k = k := fun {α k} => ox (by rw [c_s1 ha]) (by rw [c_s1 ha]; exact hi)
  have tail : ∀ (τ : Mem) (u : List Int32), legC a i g τ → prR u τ → u.length + 3 ≤ 120 → ∃ σ', o_cls a 0 (o_ix 100 (rf a 1) (nI i) ((if (τ (rf a 1) (nI i).toNatClampNeg) ≤ (1 : Int32) then some (none, τ) else o_cls 47 5 (o_rV (FX6_addWord [.ref 47, .ref 1005] τ) (fun m20 => o_cls a 0 (o_ix 100 (rf a 1) (nI i) (o_cls 47 5 (o_rV (FX6_add [.ref 47, .int ((48 : Int32) + (m20 (rf a 1) (nI i).toNatClampNeg))] m20) (fun m21 => some (none, m21)))))))))) = some (none, σ') ∧ prR (u ++ tlT (nI n)) σ' ∧ fr47 τ σ' := by
    intro τ u hq hu hul
    rw [oc ha, c_r1 ha, x6, cl i (by omega), hq.2.2.2, en]
    unfold tlT
    by_cases hn : nI n ≤ 1
    · rw [if_pos hn, if_pos hn, List.append_nil]
      exact ⟨τ, rfl, hu, fr47.rf τ⟩
    · rw [if_neg hn, if_neg hn]
      obtain ⟨τ1, a1, p1, f1⟩ := t_pword (s := 5) (t := u) (by decide) (show u.length + 2 ≤ 120 by omega) 2 0 τ rfl (by rw [List.take_zero, List.append_nil]; exact hu)
      have hq1 := hq.fr ha' f1
      have l5 : (u ++ wdS 5).length = u.length + 2 := by rw [List.length_append]; rfl
      obtain ⟨τ2, a2, p2, f2⟩ := t_padd (j := 48 + n) p1 (by omega) (by omega)
      rw [oc o47, enX6_addWord, show am_go CX6_addWord 2 [.ref 47, .ref 1005, .int 0] [] τ = _ from a1, rV, oc ha, x6, oc o47, hq1.2.2.2, en, show (48 : Int32) + nI n = nI (48 + n) from nI_add 48 n, a2, rV]
      refine ⟨τ2, rfl, ?_, f1.tr f2⟩
      rw [List.append_assoc] at p2
      exact p2
  obtain ⟨τ1, a1, p1, f1⟩ := t_addWord (s := s0) (by omega) (by omega) hp
  have q1 := hg.fr ha' f1
  have m1 : (t ++ wdS s0).length ≤ t.length + 4 := by rw [List.length_append]; omega
  rw [enX6_showLeg, oc ha, t0 σ hg, rI, t_word h0, rA, oc o47, a1, rV, oc ha, t_isEven ha hi q1, rI, ifb]
  unfold legT
  rw [e0, e1, e2, en, wdT_nI h0, wdT_nI h1, wdT_nI h2]
  by_cases he : nI s0 = nI s1 ∧ nI s0 = nI s2
  · rw [if_pos he, if_pos he, List.append_nil]
    obtain ⟨τ2, a2, p2, f2⟩ := tail τ1 _ q1 p1 (by omega)
    rw [List.append_assoc] at p2
    exact ⟨τ2, a2, p2, f1.tr f2⟩
  · rw [if_neg he, if_neg he]
    obtain ⟨τ2, a2, p2, f2⟩ := t_padd (j := 47) p1 (by omega) (by decide)
    have q2 := q1.fr ha' f2
    have m2 : (t ++ wdS s0 ++ [nI 47]).length ≤ t.length + 5 := by rw [List.length_append]; show _ + 1 ≤ _; omega
    obtain ⟨τ3, a3, p3, f3⟩ := t_addWord (s := s1) (by omega) (by omega) p2
    have q3 := q2.fr ha' f3
    have m3 : (t ++ wdS s0 ++ [nI 47] ++ wdS s1).length ≤ t.length + 9 := by rw [List.length_append]; omega
    obtain ⟨τ4, a4, p4, f4⟩ := t_padd (j := 47) p3 (by omega) (by decide)
    have q4 := q3.fr ha' f4
    have m4 : (t ++ wdS s0 ++ [nI 47] ++ wdS s1 ++ [nI 47]).length ≤ t.length + 10 := by rw [List.length_append]; show _ + 1 ≤ _; omega
    obtain ⟨τ5, a5, p5, f5⟩ := t_addWord (s := s2) (by omega) (by omega) p4
    have q5 := q4.fr ha' f5
    have m5 : (t ++ wdS s0 ++ [nI 47] ++ wdS s1 ++ [nI 47] ++ wdS s2).length ≤ t.length + 14 := by rw [List.length_append]; omega
    obtain ⟨τ6, a6, p6, f6⟩ := tail τ5 _ q5 p5 (by omega)
    rw [oc o47, show FX6_add [.ref 47, .int 47] τ1 = _ from a2, rV, oc ha, t1 τ2 q2, rI, t_word h1, rA, oc o47, a3, rV, oc o47, show FX6_add [.ref 47, .int 47] τ3 = _ from a4, rV, oc ha, t2 τ4 q4, rI, t_word h2, rA, oc o47, a5, rV]
    refine ⟨τ6, a6, ?_, (((((f1.tr f2).tr f3).tr f4).tr f5).tr f6)⟩
    have el : t ++ wdS s0 ++ [nI 47] ++ wdS s1 ++ [nI 47] ++ wdS s2 ++ tlT (nI n) = t ++ (wdS s0 ++ ([47] ++ wdS s1 ++ [47] ++ wdS s2) ++ tlT (nI n)) := by
      simp only [List.append_assoc]
      rfl
    rw [el] at p6
    exact p6
theorem t_sh {a : Nat} {L : List Lg} (ha : (sh a).1 = 0) (ha' : 48 < a) (hL : okC L) : ∀ (l2 l1 : List Lg) (t : List Int32) (σ : Mem), l1 ++ l2 = L → t.length + 18 * l2.length ≤ 120 → prR t σ → repCo a L σ → ∃ σ', am_go CX6_show 7 [.ref 47, .ref a, .int (nI l1.length)] [] σ = some (none, σ') ∧ prR (t ++ txtL l1.length l2) σ' ∧ fr47 σ σ' := by
  intro l2
  induction l2 with
  | nil =>
    intro l1 t σ hl ht hp h
    rw [List.append_nil] at hl
    subst hl
    rw [blX6_show_7, oc ha, h.1, if_pos (Int32.le_refl _), txtL, List.append_nil]
    exact ⟨σ, rfl, hp, fr47.rf σ⟩
  | cons g l2 ih =>
    intro l1 t σ hl ht hp h
    have hlen : L.length = l1.length + l2.length + 1 := by rw [← hl]; simp; omega
    have h6 := hL.1
    have hgl : L[l1.length]? = some g := by rw [← hl]; simp
    have hok := hL.2 g (List.mem_of_getElem? hgl)
    rw [List.length_cons] at ht
    have step : ∀ (u : List Int32) (τ : Mem), u.length ≤ t.length + 1 → prR u τ → fr47 σ τ → ∃ σ', o_cls 47 5 (o_rV (FX6_showLeg [.ref 47, .ref a, .int (nI l1.length)] τ) (fun m3 => am_go CX6_show 7 [.ref 47, .ref a, .int (nI l1.length + (1 : Int32))] [] m3)) = some (none, σ') ∧ prR (u ++ legT g ++ txtL (l1.length + 1) l2) σ' ∧ fr47 σ σ' := by
      intro u τ hu hq hf
      have hr : repCo a L τ := h.fr (fun b hb => hf b (by omega) (by omega))
      obtain ⟨τ1, a1, p1, f1⟩ := t_showLeg ha ha' (by omega) (hr.2 l1.length g hgl) hok hq (by omega)
      have hll := legT_len hok
      have hl1 : (l1 ++ [g]).length = l1.length + 1 := by simp
      obtain ⟨τ2, a2, p2, f2⟩ := ih (l1 ++ [g]) (u ++ legT g) τ1 (by rw [← hl]; simp) (by rw [List.length_append]; omega) p1 (hr.fr (fun b hb => f1 b (by omega) (by omega)))
      rw [hl1] at a2 p2
      rw [oc o47, a1, rV, nI_1]
      exact ⟨τ2, a2, p2, (hf.tr f1).tr f2⟩
    rw [blX6_show_7, oc ha, h.1, if_neg (nI_ge (by omega) (by omega)), txtL]
    by_cases hz : l1.length = 0
    · rw [if_pos (show nI l1.length ≤ 0 by rw [hz]; decide), if_pos hz, List.nil_append, ← List.append_assoc]
      exact step t σ (by omega) hp (fr47.rf σ)
    · rw [if_neg (nI_nle (by omega) (by omega)), if_neg hz]
      obtain ⟨τ1, a1, p1, f1⟩ := t_padd (j := 59) hp (by omega) (by decide)
      obtain ⟨τ2, a2, p2, f2⟩ := step (t ++ [nI 59]) τ1 (by rw [List.length_append]; exact Nat.le_refl _) p1 f1
      rw [oc o47, show FX6_add [.ref 47, .int 59] σ = _ from a1, rV]
      refine ⟨τ2, a2, ?_, f2⟩
      have el : t ++ [nI 59] ++ legT g ++ txtL (l1.length + 1) l2 = t ++ ([59] ++ legT g ++ txtL (l1.length + 1) l2) := by
        simp only [List.append_assoc]
        rfl
      rw [el] at p2
      exact p2
theorem t_show {a : Nat} {L : List Lg} {σ : Mem} (ha : (sh a).1 = 0) (ha' : 48 < a) (hL : okC L) (h : repCo a L σ) : ∃ σ', FX6_show [.ref 47, .ref a] σ = some (none, σ') ∧ prR (txtL 0 L) σ' ∧ fr47 σ σ' := by
  have h6 := hL.1
  obtain ⟨σ1, e1, p1, f1⟩ := t_sh ha ha' hL L [] [] (setM σ 47 1 0) rfl (by show 0 + 18 * L.length ≤ 120; omega) ⟨by rw [sM_eq]; rfl, fun i b hb => by cases hb⟩ (h.fr (fun b hb => sM_a (by omega)))
  rw [enX6_show, oc o47]
  exact ⟨σ1, e1, p1, fun a h1 h2 => by rw [f1 a h1 h2, sM_a h1]⟩
