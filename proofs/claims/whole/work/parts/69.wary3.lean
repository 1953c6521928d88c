theorem under_no {d : Ld} {h t : Int32} : (underS d h t).2 = false ↔ (spS d = true ∨ harmS d h t = 0) := by
  unfold underS
  cases hs : spS d with
  | true => exact ⟨fun _ => Or.inl rfl, fun _ => rfl⟩
  | false =>
    show (if harmS d h t = 0 then _ else _ : Ld × Bool).2 = false ↔ _
    by_cases hh : harmS d h t = 0
    · rw [if_pos hh]
      refine ⟨fun _ => Or.inr hh, fun _ => ?_⟩
      split
      · rfl
      · split <;> rfl
    · rw [if_neg hh]
      constructor
      · intro e
        cases e
      · intro e
        rcases e with e | e
        · cases e
        · exact absurd e hh
theorem bear_iff {S : KS} {z : Nat} {t : Int32} : bearS S z t = true ↔ ∀ d ∈ S.2.2.1, d.2.2.1 = nI z → (spS d = true ∨ harmS d (at3 S.1 z) t = 0) := by
  unfold bearS
  rw [List.all_eq_true]
  constructor
  · intro h d hd hz
    have := h d hd
    unfold bear1 at this
    rw [decide_eq_true hz] at this
    have t2 : (spS d || decide (harmS d (at3 S.1 z) t = 0)) = true := this
    rcases (Bool.or_eq_true _ _).mp t2 with q | q
    · exact Or.inl q
    · exact Or.inr (of_decide_eq_true q)
  · intro h d hd
    unfold bear1
    by_cases hz : d.2.2.1 = nI z
    · rcases h d hd hz with q | q
      · rw [q, Bool.true_or, Bool.or_true]
      · rw [decide_eq_true q, Bool.or_true, Bool.or_true]
    · rw [decide_eq_false hz]; rfl
theorem step_zero {S : KS} {c : Nat} (hS : okS S) : (stepS (atC S c)).2 = 0 ↔ ∀ z, z < 3 → okZS S z (dgt c z) := by
  show (goLs S.1 (behH (atC S c)) S.2.2.1 0 (nI 0)).2 = 0 ↔ _
  rw [goLs_zero S.1 (behH (atC S c)) S.2.2.1 0 0 (by have := hS.1; omega) (by decide)]
  constructor
  · intro h z hz
    refine bear_iff.mpr (fun d hd hdz => ?_)
    have := under_no.mp (h.2 d hd)
    rw [hdz, cl z (by omega), beh_c hz] at this
    exact this
  · intro h
    refine ⟨rfl, fun d hd => under_no.mpr ?_⟩
    obtain ⟨z, hz, ez⟩ := (hS.2 d hd).2.2.1
    have := bear_iff.mp (h z hz) d hd ez
    rw [ez, cl z (by omega), beh_c hz]
    exact this
def okCd (S : KS) (c : Nat) : Bool := decide ((stepS (atC S c)).2 = 0)
def suC (S : KS) (c : Nat) : Int32 := at3 (behH (atC S c)) 0 + at3 (behH (atC S c)) 1 + at3 (behH (atC S c)) 2
def buC (c : Nat) : Int32 := burn3 (digT c)
theorem su_nat (S : KS) (c : Nat) : ∃ a b d : Nat, a ≤ 1300 ∧ b ≤ 1300 ∧ d ≤ 1300 ∧ bhS S 0 (dgt c 0) = nI a ∧ bhS S 1 (dgt c 1) = nI b ∧ bhS S 2 (dgt c 2) = nI d ∧ suC S c = nI (a + b + d) := by
  obtain ⟨a, ha, ea⟩ := bh_in S 0 (dgt c 0)
  obtain ⟨b, hb, eb⟩ := bh_in S 1 (dgt c 1)
  obtain ⟨d, hd, ed⟩ := bh_in S 2 (dgt c 2)
  refine ⟨a, b, d, ha, hb, hd, ea, eb, ed, ?_⟩
  unfold suC
  rw [beh_c (by decide), beh_c (by decide), beh_c (by decide), ea, eb, ed, nI_add, nI_add]
def brn (s : Nat) : Nat := if s = 0 then 0 else if s = 1 then 1 else if s = 2 then 3 else 6
theorem bu_nat : ∀ c, c < 64 → buC c = nI (brn (dgt c 0) + brn (dgt c 1) + brn (dgt c 2)) := by decide +kernel
theorem brn_mono : ∀ s, s < 4 → ∀ q, q < 4 → s ≤ q → brn s ≤ brn q ∧ (brn s = brn q → s = q) := by decide +kernel
theorem dgt_inj : ∀ c, c < 64 → ∀ d, d < 64 → dgt c 0 = dgt d 0 → dgt c 1 = dgt d 1 → dgt c 2 = dgt d 2 → c = d := by
  intro c hc d hd h0 h1 h2
  unfold dgt at h0 h1 h2
  simp at h0 h1 h2
  omega
theorem nI_ltb {a b : Nat} (ha : a ≤ 5000) (hb : b ≤ 5000) : nI a < nI b ↔ a < b := by
  rw [Int32.lt_iff_toInt_lt, nI_toInt (by omega), nI_toInt (by omega)]
  omega
theorem nI_eqb {a b : Nat} (ha : a ≤ 5000) (hb : b ≤ 5000) : nI a = nI b ↔ a = b := by
  rw [← Int32.toInt_inj, nI_toInt (by omega), nI_toInt (by omega)]
  omega
theorem war_eq {S : KS} (hS : okS S) : mG (okCd S) (suC S) buC 64 0 (-1) 0 0 = warS S := by
  have none_of : ∀ z, z < 3 → (∀ q, q < 4 → ¬ okZS S z q) → mG (okCd S) (suC S) buC 64 0 (-1) 0 0 = -1 := by
    intro z hz h
    refine mG_none (fun d hd hok => ?_) 64 0 (-1) 0 0 rfl
    have := (step_zero hS).mp (of_decide_eq_true hok) z hz
    exact h _ (dgt_lt hd) this
  unfold warS
  rcases car_best S 0 with ⟨h0, n0⟩ | ⟨s0, e0, b0⟩
  · rw [if_pos h0, none_of 0 (by decide) n0]
  have l0 : s0 < 4 := b0.1
  rw [e0, if_neg (nI_m1 (by omega))]
  rcases car_best S 1 with ⟨h1, n1⟩ | ⟨s1, e1, b1⟩
  · rw [if_pos h1, none_of 1 (by decide) n1]
  have l1 : s1 < 4 := b1.1
  rw [e1, if_neg (nI_m1 (by omega))]
  rcases car_best S 2 with ⟨h2, n2⟩ | ⟨s2, e2, b2⟩
  · rw [if_pos h2, none_of 2 (by decide) n2]
  have l2 : s2 < 4 := b2.1
  rw [e2, if_neg (nI_m1 (by omega))]
  obtain ⟨cs, hcs⟩ : ∃ cs, cs = 16 * s0 + 4 * s1 + s2 := ⟨_, rfl⟩
  have ecs : ((0 * 4 + nI s0) * 4 + nI s1) * 4 + nI s2 = nI cs := by
    have : ∀ a : Fin 4, ∀ b : Fin 4, ∀ c : Fin 4, ((0 * 4 + nI a.val) * 4 + nI b.val) * 4 + nI c.val = nI (16 * a.val + 4 * b.val + c.val) := by decide +kernel
    rw [hcs]; exact this ⟨s0, l0⟩ ⟨s1, l1⟩ ⟨s2, l2⟩
  have d0 : dgt cs 0 = s0 := by unfold dgt; simp; omega
  have d1 : dgt cs 1 = s1 := by unfold dgt; simp; omega
  have d2 : dgt cs 2 = s2 := by unfold dgt; simp; omega
  have c64 : cs < 64 := by omega
  rw [ecs]
  refine mG_star c64 ?_ (fun d hd hok hne => ?_) 64 0 (-1) 0 0 rfl (Or.inl ⟨rfl, fun d hd => absurd hd (Nat.not_lt_zero d)⟩)
  · refine decide_eq_true ((step_zero hS).mpr (fun z hz => ?_))
    match z, hz with
    | 0, _ => rw [d0]; exact b0.2.1
    | 1, _ => rw [d1]; exact b1.2.1
    | 2, _ => rw [d2]; exact b2.2.1
  · have ho := (step_zero hS).mp (of_decide_eq_true hok)
    have q0 := b0.2.2 (dgt d 0) (dgt_lt hd) (ho 0 (by decide))
    have q1 := b1.2.2 (dgt d 1) (dgt_lt hd) (ho 1 (by decide))
    have q2 := b2.2.2 (dgt d 2) (dgt_lt hd) (ho 2 (by decide))
    obtain ⟨a, b, e, ha, hb, he, ea, eb, ee, es⟩ := su_nat S d
    obtain ⟨a', b', e', ha', hb', he', ea', eb', ee', es'⟩ := su_nat S cs
    rw [d0] at ea'
    rw [d1] at eb'
    rw [d2] at ee'
    rw [ea, ea', nI_ltb (by omega) (by omega), nI_eqb (by omega) (by omega)] at q0
    rw [eb, eb', nI_ltb (by omega) (by omega), nI_eqb (by omega) (by omega)] at q1
    rw [ee, ee', nI_ltb (by omega) (by omega), nI_eqb (by omega) (by omega)] at q2
    rw [es, es', nI_ltb (by omega) (by omega), nI_eqb (by omega) (by omega), bu_nat d hd, bu_nat cs c64, d0, d1, d2]
    by_cases hlt : a + b + e < a' + b' + e'
    · exact Or.inl hlt
    · have x0 : a = a' ∧ s0 ≤ dgt d 0 := by omega
      have x1 : b = b' ∧ s1 ≤ dgt d 1 := by omega
      have x2 : e = e' ∧ s2 ≤ dgt d 2 := by omega
      have m0 := brn_mono s0 l0 (dgt d 0) (dgt_lt hd) x0.2
      have m1 := brn_mono s1 l1 (dgt d 1) (dgt_lt hd) x1.2
      have m2 := brn_mono s2 l2 (dgt d 2) (dgt_lt hd) x2.2
      have le6 : ∀ s, brn s ≤ 6 := fun s => by unfold brn; split; omega; split; omega; split <;> omega
      have a0 := le6 s0
      have a1 := le6 s1
      have a2 := le6 s2
      have c0 := le6 (dgt d 0)
      have c1 := le6 (dgt d 1)
      have c2 := le6 (dgt d 2)
      refine Or.inr ⟨by omega, (nI_ltb (by omega) (by omega)).mpr ?_⟩
      apply Classical.byContradiction
      intro hn
      have y0 := m0.2 (by omega)
      have y1 := m1.2 (by omega)
      have y2 := m2.2 (by omega)
      exact hne (dgt_inj d hd cs c64 (by rw [d0, y0]) (by rw [d1, y1]) (by rw [d2, y2]))
