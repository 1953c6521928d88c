/-! the memory of the two objects: what their cells hold, by numbers; where they stand is S's -/
abbrev Mem : Type := Nat → Nat → Int32
def setM (σ : Mem) (a i : Nat) (v : Int32) : Mem := fun b => if b = a then upd (σ a) i v else σ b
abbrev am_S : Type := Nat × va_G × (Nat → ClassId) × (Nat → Nat) × (Nat → Nat) × Nat × Nat × Option Nat
def am_adf (S : am_S) (a : Nat) : Nat := if a < 1000 then S.1 + a else if a < 1100 then S.2.2.2.1 (a - 1000) else if a < 1200 then S.2.2.2.2.1 (a - 1100) else if a = 2000 then S.2.2.2.2.2.1 else S.2.2.2.2.2.2.1
def am_ad (S : am_S) : am_AD := (am_adf S, S.2.2.2.2.2.2.2)
def am_A (S : am_S) : Nat → Prop := fun q => S.1 ≤ q ∧ q < S.1 + NC
def ceV (S : am_S) (σ : Mem) (ci a : Nat) (j : Nat) : Value := bif fr ci j then .ref (S.1 + rf a j) else .int (σ a j)
def ce (S : am_S) (σ : Mem) (a : Nat) : va_E :=
  if (sh a).1 < 10 then .inr ((sh a).1, (List.range (sh a).2).map (ceV S σ (sh a).1 a))
  else if (sh a).1 < 102 then .inl (S.2.2.1 ((sh a).1 - 100), (sh a).2, .inl (σ a))
  else .inl (S.2.2.1 ((sh a).1 - 100), (sh a).2, .inr (.inr (.inr (.inr (fun i => some (S.1 + rf a i))))))
def vw (S : am_S) (σ : Mem) : va_W := (List.range NC).map (fun a => (S.1 + a, ce S σ a))
def am_tys (S : am_S) : List (ClassId × FieldType) := [(S.2.2.1 0, .int), (S.2.2.1 1, .byte), (S.2.2.1 2, .object RX4), (S.2.2.1 3, .object RX1), (S.2.2.1 4, .object RX7), (S.2.2.1 5, .object RX3)]
theorem vw_at {S : am_S} {σ : Mem} {a : Nat} (h : a < NC) : (vw S σ)[a]? = some (S.1 + a, ce S σ a) := by
  unfold vw
  rw [List.getElem?_map, List.getElem?_range h]
  rfl
theorem vw_of {S : am_S} {σ : Mem} {a : Nat} {q : Nat × va_E} (h : (vw S σ)[a]? = some q) : a < NC ∧ q = (S.1 + a, ce S σ a) := by
  have hl : a < NC := by
    have := (List.getElem?_eq_some_iff.mp h).1
    simpa [vw] using this
  rw [vw_at hl] at h
  exact ⟨hl, (Option.some.inj h).symm⟩
theorem vw_D (S : am_S) (σ : Mem) : va_D (am_A S) (vw S σ) := by
  refine ⟨fun i j p q hi hj e => ?_, fun k q hk => ?_⟩
  · obtain ⟨h1, rfl⟩ := vw_of hi
    obtain ⟨h2, rfl⟩ := vw_of hj
    dsimp only at e
    omega
  · obtain ⟨h1, rfl⟩ := vw_of hk
    unfold am_A
    dsimp only
    omega
theorem vw_set {S : am_S} {σ σ' : Mem} {a : Nat} {e : va_E} (h : a < NC) (h1 : ce S σ' a = e) (h2 : ∀ b, b ≠ a → ce S σ' b = ce S σ b) : (vw S σ).set a (S.1 + a, e) = vw S σ' := by
  apply List.ext_getElem?
  intro b
  by_cases hb : b = a
  · subst hb
    rw [vw_at h, h1, List.getElem?_set_self (by simpa [vw] using h)]
  · rw [List.getElem?_set_ne (Ne.symm hb)]
    by_cases hbn : b < NC
    · rw [vw_at hbn, vw_at hbn, h2 b hb]
    · rw [List.getElem?_eq_none (by simp [vw]; omega), List.getElem?_eq_none (by simp [vw]; omega)]
theorem ce_ne {S : am_S} {σ : Mem} {a i : Nat} {v : Int32} {b : Nat} (h : b ≠ a) : ce S (setM σ a i v) b = ce S σ b := by
  have e : setM σ a i v b = σ b := by unfold setM; rw [if_neg h]
  unfold ce
  rw [e]
  have e2 : ceV S (setM σ a i v) (sh b).1 b = ceV S σ (sh b).1 b := by
    funext j
    unfold ceV
    rw [e]
  rw [e2]
theorem setM_self (σ : Mem) (a i : Nat) (v : Int32) : setM σ a i v a = upd (σ a) i v := by unfold setM; rw [if_pos rfl]
theorem ce_obj {S : am_S} {σ : Mem} {a ci : Nat} (h : (sh a).1 = ci) (hc : ci < 10) : ce S σ a = .inr (ci, (List.range (sh a).2).map (ceV S σ ci a)) := by
  subst h
  unfold ce
  rw [if_pos hc]
theorem ce_arr {S : am_S} {σ : Mem} {a t : Nat} (h : (sh a).1 = t) (h1 : 100 ≤ t) (h2 : t < 102) : ce S σ a = .inl (S.2.2.1 (t - 100), (sh a).2, .inl (σ a)) := by
  subst h
  unfold ce
  rw [if_neg (by omega), if_pos h2]
theorem ce_ref {S : am_S} {σ : Mem} {a t : Nat} (h : (sh a).1 = t) (h1 : 102 ≤ t) : ce S σ a = .inl (S.2.2.1 (t - 100), (sh a).2, .inr (.inr (.inr (.inr (fun i => some (S.1 + rf a i)))))) := by
  subst h
  unfold ce
  rw [if_neg (by omega), if_neg (by omega)]
theorem vw_putI {S : am_S} {σ : Mem} {a ci j : Nat} {v : Int32} (h : (sh a).1 = ci) (hc : ci < 10) (hl : a < NC) (hf : fr ci j = false) : (vw S σ).set a (S.1 + a, .inr (ci, ((List.range (sh a).2).map (ceV S σ ci a)).set j (.int v))) = vw S (setM σ a j v) := by
  refine vw_set hl ?_ (fun b hb => ce_ne hb)
  rw [ce_obj h hc]
  congr 2
  apply List.ext_getElem?
  intro i
  by_cases hi : i = j
  · subst hi
    rw [List.getElem?_set_self', List.getElem?_map, List.getElem?_map]
    by_cases hn : i < (sh a).2
    · rw [List.getElem?_range hn]
      show some (ceV S (setM σ a i v) ci a i) = some (.int v)
      unfold ceV
      rw [hf, setM_self]
      simp [upd]
    · rw [List.getElem?_eq_none (by simpa using hn)]
      rfl
  · rw [List.getElem?_set_ne (Ne.symm hi), List.getElem?_map, List.getElem?_map]
    by_cases hn : i < (sh a).2
    · rw [List.getElem?_range hn]
      show some (ceV S (setM σ a j v) ci a i) = some (ceV S σ ci a i)
      unfold ceV
      rw [setM_self]
      simp [upd, hi]
    · rw [List.getElem?_eq_none (by simpa using hn)]
      rfl
/-! what stays: the classes, the constants -/
def lenS : List Nat := [3, 3, 3, 4, 1, 2]
def bytS : List (List Int32) := [[111, 102, 102], [108, 111, 119], [109, 105, 100], [102, 117, 108, 108], [120], [32, 120]]
def scL : List (String × Nat × String × Nat) := [("KilnCourses$Tape", 67, "x", 4), ("KilnCourses$Burner", 13, "low", 1), ("KilnCourses$Burner", 15, "mid", 2), ("KilnCourses$Burner", 17, "full", 3), ("KilnCourses$Burner", 19, "off", 0), ("KilnCourses$Printed", 54, " x", 5), ("KilnCoursesModel", 223, "x", 4), ("KilnCoursesModel", 194, "off", 0), ("KilnCoursesModel", 196, "low", 1), ("KilnCoursesModel", 198, "mid", 2), ("KilnCoursesModel", 200, "full", 3)]
def kaL : List Int32 := [-1, 0, 0, 1, 2, 3]
def am_St (S : am_S) (U : State) (H : Heap) : Prop := va_K S.2.1 am_cl (am_tys S) U ∧ vk_S 6 lenS bytS S.2.2.2.1 S.2.2.2.2.1 (am_A S) U H ∧ (∀ q ∈ scL, vk_R q.1 q.2.1 q.2.2.1 (S.2.2.2.1 q.2.2.2) U) ∧
  va_Z "KilnCourses$Load" "KIND_ABOVE" "[I" (.ref S.2.2.2.2.2.1) (am_A S) U H ∧ va_T .int S.2.2.2.2.2.1 6 (fun j => .int (kaL.getD j 0)) (am_A S) U H ∧
  va_Z "java/lang/String" "COMPACT_STRINGS" "Z" (.int 1) (am_A S) U H ∧ va_Z "jdk/internal/util/Preconditions" "SIOOBE_FORMATTER" "Ljava/util/function/BiFunction;" (va_rf S.2.2.2.2.2.2.2) (am_A S) U H
theorem am_St.go {S : am_S} {s U : State} {H : Heap} {locs : List Loc} (h : am_St S s s.heap) (hS : va_S (am_A S) s.heap H locs) (hW : s.WarmedH U.vm) : am_St S U H := by
  obtain ⟨h1, h2, h3, h4, h5, h6, h7⟩ := h
  exact ⟨h1.moved hW.alike, (h2.moved hW.alike).kept hS.2.1, fun q hq => (h3 q hq).warm hW, (h4.moved hW.alike).kept hS.2.1, (h5.moved hW.alike).kept hS.2.1, (h6.moved hW.alike).kept hS.2.1, (h7.moved hW.alike).kept hS.2.1⟩
theorem am_St.blind {S : am_S} {U U' : State} (hv : U'.vm = U.vm) (hh : U'.heap = U.heap) (h : am_St S U U.heap) : am_St S U' U'.heap := by
  obtain ⟨h1, h2, h3, h4, h5, h6, h7⟩ := h
  have ha : U.vm.Alike U'.vm := by rw [hv]; exact Vm.Alike.refl U.vm
  rw [hh]
  exact ⟨h1.moved ha, h2.moved ha, fun q hq => (h3 q hq).same hv, h4.moved ha, h5.moved ha, h6.moved ha, h7.moved ha⟩
/-- the room of a method of height n -/
def am_rm (n : Nat) : Room := { frames := n, cells := 0, slots := 0, locals := 40 * n }
def am_Wd (S : am_S) (σ : Mem) (U : State) : Prop := va_P S.2.1 am_cl (vw S σ) U.heap ∧ am_St S U U.heap
def am_Qc (S : am_S) (r : am_R Mem) : Array Value → State → Outcome → State → Prop := fun _ st o t => o = .returned (r.1.map (am_cv (am_ad S))) ∧ va_P S.2.1 am_cl (vw S r.2) t.heap ∧ va_F (am_A S) st t
/-- the contract of a method that is the function F on memories -/
def am_Met (n : Nat) (y : MethodName) (cc : ByteArray) (maxL : Nat) (ret : Option FieldType) (F : List Value → Mem → Option (am_R Mem)) : Prop :=
  ∀ (l : Launch) (S : am_S) (avs : List Value) (σ : Mem) (r : am_R Mem), F avs σ = some r → Met l y (.code y cc maxL ret :: am_tbl) (am_rm n) (va_Pc (avs.map (am_cv (am_ad S))) (am_Wd S σ)) (am_Qc S r) 0 0 (am_A S)
/-- of an activation: its height, its cells so far, what stays -/
def am_V (S : am_S) (n c0 s0 : Nat) (g : am_G) : Prop := match g with
  | (_, _, _, R, s, _, _, _, _, _, _) => am_St S s s.heap ∧ n ≤ R.frames ∧ 40 * n ≤ R.locals ∧ c0 ≤ R.cells ∧ s0 ≤ R.slots
def rm2 (S : am_S) (c0 s0 : Nat) (g : am_G) : am_P Mem := fun σ H locs cells slots => match g with
  | (_, _, _, _, s, _, _, _, _, _, _) => va_P S.2.1 am_cl (vw S σ) H ∧ va_S (am_A S) s.heap H locs ∧ cells = c0 ∧ slots = s0
