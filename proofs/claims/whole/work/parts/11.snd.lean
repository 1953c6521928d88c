/-- the tables' words that hold in every method -/
def am_tbl : List Cond := lw_tbl.filter goodWord
theorem am_good : ∀ w ∈ am_tbl, goodWord w = true := fun w h => (List.mem_filter.mp h).2
theorem am_in {w : Cond} (i : Nat) (h : lw_tbl[i]? = some w) (hg : goodWord w = true) : w ∈ am_tbl := List.mem_filter.mpr ⟨List.mem_of_getElem? h, hg⟩
/-! what an instruction's function has to do with the machine -/
abbrev am_G : Type := Program × Launch × Env × Room × State × MethodId × Array Value × List Frame × Method × Code × (State → Prop)
abbrev am_P (M : Type) : Type := M → Heap → List Loc → Nat → Nat → Prop
def am_wp (g : am_G) (H : Heap) (locs : List Loc) (cells slots : Nat) (pc : Nat) (ls : Array Slot) (st : List Value) : Prop := match g with
  | (p, l, e, R, s, m, args, below, meth, c, Q) => W p l e R s m args below meth c H locs cells slots Q (F0 m pc ls st)
/-- the activation: the machine's, its code, its class, the tables' words -/
def am_X (g : am_G) (own : String) (cc : ByteArray) (nL : Nat) : Prop := match g with
  | (p, _, _, _, s, m, args, _, _, c, _) => p.tables.exec = Jvm.exec ∧ c.code = cc ∧ c.maxLocals = nL ∧ s.vm.findClass own = some m.cls ∧ ∀ w ∈ am_tbl, w.before args s = true
/-- where an abstract cell is, and what the one static of the JDK's is that may be null -/
abbrev am_AD : Type := (Nat → Nat) × Option Nat
def am_cv (ad : am_AD) (v : Value) : Value := match v with
  | .ref a => .ref (ad.1 a)
  | .retAddr _ => va_rf ad.2
  | v => v
def am_L (ad : am_AD) (nL : Nat) (ls : List Value) (lsC : Array Slot) : Prop := ls.length = nL ∧ lsC.size = nL ∧ lv_wf lsC ∧ ∀ (i : Nat) (v : Value), ls[i]? = some v → v ≠ .null → lsC[i]? = some (.val (am_cv ad v))
section AmSnd
variable {M : Type}
def am_at (g : am_G) (ad : am_AD) (RM : am_P M) (nL : Nat) (pc : Nat) (ls st : List Value) (h : M) : Prop :=
  ∀ (H : Heap) (locs : List Loc) (cells slots : Nat) (lsC : Array Slot), RM h H locs cells slots → am_L ad nL ls lsC → am_wp g H locs cells slots pc lsC (st.map (am_cv ad))
def am_snd (g : am_G) (ad : am_AD) (RM : am_P M) (nL : Nat) (r : am_R M) (pc : Nat) (f : am_I M) : Prop :=
  ∀ (ls st : List Value) (h : M) (k : am_K M), f ls st h k = some r → (∀ pc' ls' st' h', k pc' ls' st' h' = some r → am_at g ad RM nL pc' ls' st' h') → am_at g ad RM nL pc ls st h
theorem am_run_snd {g : am_G} {ad : am_AD} {RM : am_P M} {nL : Nat} {r : am_R M} {C : Nat → am_I M} (hC : ∀ pc, am_snd g ad RM nL r pc (C pc)) : ∀ (n pc : Nat) (ls st : List Value) (h : M), am_run C n pc ls st h = some r → am_at g ad RM nL pc ls st h := by
  intro n
  induction n with
  | zero => intro pc ls st h e; cases e
  | succ n ih => exact fun pc ls st h e => hC pc ls st h (am_run C n) e (fun pc' ls' st' h' e' => ih pc' ls' st' h' e')
variable {g : am_G} {ad : am_AD} {RM : am_P M} {nL : Nat} {r : am_R M} {own : String} {cc : ByteArray} {pc nx : Nat}
theorem am_cv_cat (ad : am_AD) (v : Value) : (am_cv ad v).category = v.category := by
  cases v with
  | retAddr x =>
    show (va_rf ad.2).category = 1
    cases ad.2 <;> rfl
  | _ => rfl
theorem sd_bad : am_snd g ad RM nL r pc i_bad := fun ls st h k e => by cases e
theorem am_L.at {ls : List Value} {lsC : Array Slot} (h : am_L ad nL ls lsC) {i : Nat} {v : Value} (hv : ls.getD i .null = v) (hn : v ≠ .null) : lsC[i]? = some (.val (am_cv ad v)) := by
  refine h.2.2.2 i v ?_ hn
  rw [List.getD_eq_getElem?_getD] at hv
  cases hh : ls[i]? with
  | none => rw [hh] at hv; exact absurd hv.symm hn
  | some w => rw [hh] at hv; exact congrArg some hv
/-- the concrete listing of the locals -/
def am_ps (ad : am_AD) (ls : List Value) : List (Nat × Value) := (List.range ls.length).filterMap (fun j => match (ls[j]? : Option Value) with
  | some Value.null => none
  | some v => some (j, am_cv ad v)
  | none => none)
theorem am_ps_mem {ls : List Value} {q : Nat × Value} : q ∈ am_ps ad ls ↔ ∃ v, ls[q.1]? = some v ∧ v ≠ .null ∧ q.2 = am_cv ad v := by
  unfold am_ps
  rw [List.mem_filterMap]
  constructor
  · rintro ⟨j, hj, e⟩
    split at e
    · cases e
    · next v hne hv => cases e; exact ⟨v, hv, fun z => hne z, rfl⟩
    · cases e
  · rintro ⟨v, h1, h2, h3⟩
    obtain ⟨j, w⟩ := q
    refine ⟨j, List.mem_range.mpr (List.getElem?_eq_some_iff.mp h1).1, ?_⟩
    dsimp only at h1 h3 ⊢
    rw [h1, h3]
    cases v <;> first | rfl | exact absurd rfl h2
theorem am_L.has {ls : List Value} {lsC : Array Slot} (h : am_L ad nL ls lsC) : lv_has lsC nL (am_ps ad ls) := ⟨h.2.1, h.2.2.1, fun q hq => by
  obtain ⟨v, h1, h2, h3⟩ := am_ps_mem.mp hq
  rw [h3]
  exact h.2.2.2 _ _ h1 h2⟩
def am_np (ls : List Value) (i : Nat) : Prop := (am_prev ls i).category ≠ 2
theorem am_L.store1 {ls : List Value} {lsC ls' : Array Slot} {i : Nat} {v : Value} (h : am_L ad nL ls lsC) (hp : am_np ls i) (h' : lv_has ls' nL ((i, am_cv ad v) :: (am_ps ad ls).filter (fun q => !(q.1 == i) && !(q.1 + 1 == i && q.2.category == 2)))) : am_L ad nL (ls.set i v) ls' := by
  refine ⟨by rw [List.length_set]; exact h.1, h'.1, h'.2.1, fun j w hw hn => ?_⟩
  by_cases hji : j = i
  · subst hji
    rw [List.getElem?_set_self'] at hw
    cases hl : ls[j]? with
    | none => rw [hl] at hw; cases hw
    | some z => rw [hl] at hw; cases hw; exact h'.2.2 (j, _) List.mem_cons_self
  · rw [List.getElem?_set_ne (Ne.symm hji)] at hw
    refine h'.2.2 (j, am_cv ad w) (List.mem_cons_of_mem _ (List.mem_filter.mpr ⟨am_ps_mem.mpr ⟨w, hw, hn, rfl⟩, ?_⟩))
    by_cases h1 : j + 1 = i
    · subst h1
      have e : am_prev ls (j + 1) = w := by
        show ls.getD j .null = w
        rw [List.getD_eq_getElem?_getD, hw]; rfl
      unfold am_np at hp
      rw [e] at hp
      simp [am_cv_cat, hp]
    · simp [hji, h1]
theorem am_L.store2 {ls : List Value} {lsC ls' : Array Slot} {i : Nat} {v : Value} (h : am_L ad nL ls lsC) (hp : am_np ls i) (h' : lv_has ls' nL ((i, am_cv ad v) :: (am_ps ad ls).filter (fun q => !(q.1 == i) && (!(q.1 == i + 1) && !(q.1 + 1 == i && q.2.category == 2))))) : am_L ad nL ((ls.set i v).set (i + 1) .null) ls' := by
  refine ⟨by rw [List.length_set, List.length_set]; exact h.1, h'.1, h'.2.1, fun j w hw hn => ?_⟩
  by_cases hj1 : j = i + 1
  · subst hj1
    rw [List.getElem?_set_self'] at hw
    cases hl : (ls.set i v)[i + 1]? with
    | none => rw [hl] at hw; cases hw
    | some z => rw [hl] at hw; cases hw; exact absurd rfl hn
  rw [List.getElem?_set_ne (Ne.symm hj1)] at hw
  by_cases hji : j = i
  · subst hji
    rw [List.getElem?_set_self'] at hw
    cases hl : ls[j]? with
    | none => rw [hl] at hw; cases hw
    | some z => rw [hl] at hw; cases hw; exact h'.2.2 (j, _) List.mem_cons_self
  · rw [List.getElem?_set_ne (Ne.symm hji)] at hw
    refine h'.2.2 (j, am_cv ad w) (List.mem_cons_of_mem _ (List.mem_filter.mpr ⟨am_ps_mem.mpr ⟨w, hw, hn, rfl⟩, ?_⟩))
    by_cases h1 : j + 1 = i
    · subst h1
      have e : am_prev ls (j + 1) = w := by
        show ls.getD j .null = w
        rw [List.getD_eq_getElem?_getD, hw]; rfl
      unfold am_np at hp
      rw [e] at hp
      simp [am_cv_cat, hp, hj1]
    · simp [hji, h1, hj1]
theorem am_np_of {ls : List Value} {i : Nat} (h1 : ∀ x, am_prev ls i ≠ .long x) (h2 : ∀ x, am_prev ls i ≠ .double x) : am_np ls i := by
  unfold am_np
  cases hh : am_prev ls i with
  | long x => exact absurd hh (h1 x)
  | double x => exact absurd hh (h2 x)
  | _ => intro z; cases z
end AmSnd
