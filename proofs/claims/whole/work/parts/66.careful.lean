/-! careful settings: the class, zone by zone -/
def bear1 (z : Nat) (h t : Int32) (d : Ld) : Bool := !(decide (d.2.2.1 = nI z)) || (spS d || decide (harmS d h t = 0))
def bearS (S : KS) (z : Nat) (t : Int32) : Bool := S.2.2.1.all (bear1 z (at3 S.1 z) t)
theorem t_ab {k z : Nat} {t : Int32} {S : KS} {σ : Mem} (hk : (sh k).1 = 2) (hz : z < 3) (hS : okS S) (h : repK k S σ) : ∀ (l2 l1 : List Ld) (v4 : Value), l1 ++ l2 = S.2.2.1 → am_go CX3_allBear 2 [.ref k, .int (nI z), .int t, .int (nI l1.length), v4] [] σ = some (some (.int (if l2.all (bear1 z (at3 S.1 z) t) = true then 1 else 0)), σ) := by
  intro l2
  induction l2 with
  | nil =>
    intro l1 v4 e
    have e' : l1.length = S.2.2.1.length := by rw [← e, List.append_nil]
    rw [blX3_allBear_2, oc hk, h.2.2.2.1, e', if_pos (Int32.le_refl _), zr1]
    rfl
  | cons d l2 ih =>
    intro l1 v4 e
    have hlen : l1.length + (l2.length + 1) = S.2.2.1.length := by rw [← e, List.length_append, List.length_cons]
    have h8 := hS.1
    have hat : S.2.2.1[l1.length]? = some d := by rw [← e, List.getElem?_append_right (Nat.le_refl _), Nat.sub_self]; rfl
    have hr := h.2.2.2.2.2.2 l1.length d hat
    have hi : l1.length < 8 := by omega
    have go : ∀ v, am_go CX3_allBear 2 [.ref k, .int (nI z), .int t, .int (nI (l1.length + 1)), v] [] σ = some (some (.int (if l2.all (bear1 z (at3 S.1 z) t) = true then 1 else 0)), σ) := by
      intro v
      have := ih (l1 ++ [d]) v (by rw [List.append_assoc]; exact e)
      rw [show (l1 ++ [d]).length = l1.length + 1 by rw [List.length_append]; rfl] at this
      exact this
    rw [blX3_allBear_2, oc hk, h.2.2.2.1, if_neg (nI_ge (by omega) (by omega)), oc hk, kr3 hk, x8 (ks4 hk) hi, cl l1.length (by omega), klr hk hi, oc (kls hk hi), hr.2.2.1, List.all_cons]
    by_cases hzn : d.2.2.1 = nI z
    · rw [if_pos hzn, oc (kls hk hi), t_spoiled (kls hk hi) hr, rI, ifb]
      by_cases hsp : spS d = true
      · rw [if_pos hsp, nI_1, go]
        have : bear1 z (at3 S.1 z) t d = true := by unfold bear1; rw [hsp, Bool.true_or, Bool.or_true]
        rw [this, Bool.true_and]
      · rw [if_neg hsp, oc hk, kr0 hk, x3 (ks1 hk) hz, oc (kls hk hi), cl z (by omega), h.1 z hz, t_harm (kls hk hi) hr, rI]
        have hsf : spS d = false := by cases hq : spS d with
          | true => exact absurd hq hsp
          | false => rfl
        by_cases hh : harmS d (at3 S.1 z) t = 0
        · rw [if_pos hh, nI_1, go]
          have : bear1 z (at3 S.1 z) t d = true := by unfold bear1; rw [decide_eq_true hh, Bool.or_true, Bool.or_true]
          rw [this, Bool.true_and]
        · rw [if_neg hh, zr0]
          have : bear1 z (at3 S.1 z) t d = false := by unfold bear1; rw [decide_eq_true hzn, hsf, decide_eq_false hh]; rfl
          rw [this, Bool.false_and, if_neg (by decide)]
    · rw [if_neg hzn, nI_1, go]
      have : bear1 z (at3 S.1 z) t d = true := by unfold bear1; rw [decide_eq_false hzn]; rfl
      rw [this, Bool.true_and]
theorem t_allBear {k z : Nat} {t : Int32} {S : KS} {σ : Mem} (hk : (sh k).1 = 2) (hz : z < 3) (hS : okS S) (h : repK k S σ) : FX3_allBear [.ref k, .int (nI z), .int t] σ = some (some (.int (if bearS S z t = true then 1 else 0)), σ) := by
  rw [enX3_allBear]
  exact t_ab hk hz hS h S.2.2.1 [] .null rfl
/-- the heat of zone z behind a step by the setting s -/
def bhS (S : KS) (z s : Nat) : Int32 := behS S.1 (massIn z S.2.2.1) (nI s) z
def carG (S : KS) (z : Nat) : Nat → Nat → Int32 → Int32 → Int32
  | 0, _, b, _ => b
  | m + 1, s, b, x => if bhS S z s ≤ x then carG S z m (s + 1) b x else if bearS S z (bhS S z s) = true then carG S z m (s + 1) (nI s) (bhS S z s) else carG S z m (s + 1) b x
theorem t_carG {k z : Nat} {S : KS} {σ : Mem} (hk : (sh k).1 = 2) (hz : z < 3) (hS : okS S) (h : repK k S σ) : ∀ (m s : Nat) (b x : Int32) (v5 : Value), s + m = 4 → am_go CX3_carefulSetting 7 [.ref k, .int (nI z), .int b, .int x, .int (nI s), v5] [] σ = some (some (.int (carG S z m s b x)), σ) := by
  intro m
  induction m with
  | zero =>
    intro s b x v5 hs
    have : s = 4 := by omega
    subst this
    rw [blX3_carefulSetting_7, if_pos (by decide), carG]
  | succ m ih =>
    intro s b x v5 hs
    obtain ⟨q, hq, eq⟩ := massIn_in hS z
    have hb := t_behind (s := nI s) hk hz hq h.1 (by rw [h.2.2.1 z hz, eq])
    have hb' : FX3_heatBehind [.ref k, .int (nI z), .int (nI s)] σ = some (some (.int (bhS S z s)), σ) := by rw [hb]; unfold bhS; rw [eq]
    rw [blX3_carefulSetting_7, if_neg (show ¬ (4 : Int32) ≤ nI s from nI_ge (b := 4) (by omega) (by decide)), oc hk, hb', rI, oc hk, t_allBear hk hz hS h, rI, ifb, nI_1, carG]
    by_cases h1 : bhS S z s ≤ x
    · rw [if_pos h1, if_pos h1, ih (s + 1) b x _ (by omega)]
    · rw [if_neg h1, if_neg h1]
      by_cases h2 : bearS S z (bhS S z s) = true
      · rw [if_pos h2, if_pos h2, ih (s + 1) (nI s) (bhS S z s) _ (by omega)]
      · rw [if_neg h2, if_neg h2, ih (s + 1) b x _ (by omega)]
def carS (S : KS) (z : Nat) : Int32 := carG S z 4 0 (-1) (-1)
theorem t_carS {k z : Nat} {S : KS} {σ : Mem} (hk : (sh k).1 = 2) (hz : z < 3) (hS : okS S) (h : repK k S σ) : FX3_carefulSetting [.ref k, .int (nI z)] σ = some (some (.int (carS S z)), σ) := by
  rw [enX3_carefulSetting]
  exact t_carG hk hz hS h 4 0 (-1) (-1) .null rfl
def warS (S : KS) : Int32 := if carS S 0 = -1 then -1 else if carS S 1 = -1 then -1 else if carS S 2 = -1 then -1 else ((0 * 4 + carS S 0) * 4 + carS S 1) * 4 + carS S 2
theorem t_war {k : Nat} {S : KS} {σ : Mem} (hk : (sh k).1 = 2) (hS : okS S) (h : repK k S σ) : FX3_carefulCode [.ref k] σ = some (some (.int (warS S)), σ) := by
  rw [enX3_carefulCode, show am_go CX3_carefulCode 4 [.ref k, .int 0, .int 0, .null] [] σ = am_go CX3_carefulCode 4 [.ref k, .int 0, .int (nI 0), .null] [] σ from rfl, blX3_carefulCode_4, if_neg (by decide), oc hk, t_carS hk (by decide) hS h, rI, nI_1]
  unfold warS
  by_cases h0 : carS S 0 = -1
  · rw [if_pos h0, if_pos h0]
  rw [if_neg h0, if_neg h0, blX3_carefulCode_4, if_neg (by decide), oc hk, t_carS hk (by decide) hS h, rI, nI_1]
  by_cases h1 : carS S 1 = -1
  · rw [if_pos h1, if_pos h1]
  rw [if_neg h1, if_neg h1, blX3_carefulCode_4, if_neg (by decide), oc hk, t_carS hk (by decide) hS h, rI, nI_1]
  by_cases h2 : carS S 2 = -1
  · rw [if_pos h2, if_pos h2]
  rw [if_neg h2, if_neg h2, blX3_carefulCode_4, if_pos (by decide)]
