/-! the law's start: what the Statement gives -/
def tmS : Nat → Term := fun i => match i with
  | 0 => .string "KilnCourses$Burner" 19
  | 1 => .string "KilnCourses$Burner" 13
  | 2 => .string "KilnCourses$Burner" 15
  | 3 => .string "KilnCourses$Burner" 17
  | 4 => .string "KilnCourses$Tape" 67
  | _ => .string "KilnCourses$Printed" 54
abbrev flN : List Cond := flatC (Jvm.Cond.and given_1 narrow_1)
theorem tm_ex : ∀ i : Nat, i < 6 → Cond.exactly (tmS i) "java/lang/String" ∈ flN := by
  intro i hi
  match i, hi with
  | 0, _ => exact (by decide +kernel)
  | 1, _ => exact (by decide +kernel)
  | 2, _ => exact (by decide +kernel)
  | 3, _ => exact (by decide +kernel)
  | 4, _ => exact (by decide +kernel)
  | 5, _ => exact (by decide +kernel)
theorem tm_co : ∀ i : Nat, i < 6 → Cond.eq (.field (tmS i) "java/lang/String" "coder" "B") (.int 0) ∈ flN := by
  intro i hi
  match i, hi with
  | 0, _ => exact (by decide +kernel)
  | 1, _ => exact (by decide +kernel)
  | 2, _ => exact (by decide +kernel)
  | 3, _ => exact (by decide +kernel)
  | 4, _ => exact (by decide +kernel)
  | 5, _ => exact (by decide +kernel)
theorem tm_ar : ∀ i : Nat, i < 6 → Cond.arrayOf (.field (tmS i) "java/lang/String" "value" "[B") .byte ∈ flN := by
  intro i hi
  match i, hi with
  | 0, _ => exact (by decide +kernel)
  | 1, _ => exact (by decide +kernel)
  | 2, _ => exact (by decide +kernel)
  | 3, _ => exact (by decide +kernel)
  | 4, _ => exact (by decide +kernel)
  | 5, _ => exact (by decide +kernel)
theorem tm_le : ∀ i : Nat, i < 6 → Cond.eq (.length (.field (tmS i) "java/lang/String" "value" "[B")) (.int (Int32.ofNat (lenS.getD i 0))) ∈ flN := by
  intro i hi
  match i, hi with
  | 0, _ => exact (by decide +kernel)
  | 1, _ => exact (by decide +kernel)
  | 2, _ => exact (by decide +kernel)
  | 3, _ => exact (by decide +kernel)
  | 4, _ => exact (by decide +kernel)
  | 5, _ => exact (by decide +kernel)
theorem tm_el : ∀ i : Nat, i < 6 → ∀ j : Nat, j < lenS.getD i 0 → Cond.eq (.elem (.field (tmS i) "java/lang/String" "value" "[B") (.int (Int32.ofNat j))) (.int ((bytS.getD i []).getD j 0)) ∈ flN := by
  intro i hi
  match i, hi with
  | 0, _ => exact (by decide +kernel)
  | 1, _ => exact (by decide +kernel)
  | 2, _ => exact (by decide +kernel)
  | 3, _ => exact (by decide +kernel)
  | 4, _ => exact (by decide +kernel)
  | 5, _ => exact (by decide +kernel)
theorem tm_ne : ∀ i j : Nat, i < 6 → j < 6 → i ≠ j → Cond.not (Cond.eq (tmS i) (tmS j)) ∈ flN ∨ Cond.not (Cond.eq (tmS j) (tmS i)) ∈ flN := by
  intro i j hi hj hne
  match i, hi, j, hj, hne with
  | 0, _, 0, _, hne => exact absurd rfl hne
  | 0, _, 1, _, _ => exact Or.inr (by decide +kernel)
  | 0, _, 2, _, _ => exact Or.inr (by decide +kernel)
  | 0, _, 3, _, _ => exact Or.inr (by decide +kernel)
  | 0, _, 4, _, _ => exact Or.inr (by decide +kernel)
  | 0, _, 5, _, _ => exact Or.inl (by decide +kernel)
  | 1, _, 0, _, _ => exact Or.inl (by decide +kernel)
  | 1, _, 1, _, hne => exact absurd rfl hne
  | 1, _, 2, _, _ => exact Or.inl (by decide +kernel)
  | 1, _, 3, _, _ => exact Or.inl (by decide +kernel)
  | 1, _, 4, _, _ => exact Or.inr (by decide +kernel)
  | 1, _, 5, _, _ => exact Or.inl (by decide +kernel)
  | 2, _, 0, _, _ => exact Or.inl (by decide +kernel)
  | 2, _, 1, _, _ => exact Or.inr (by decide +kernel)
  | 2, _, 2, _, hne => exact absurd rfl hne
  | 2, _, 3, _, _ => exact Or.inl (by decide +kernel)
  | 2, _, 4, _, _ => exact Or.inr (by decide +kernel)
  | 2, _, 5, _, _ => exact Or.inl (by decide +kernel)
  | 3, _, 0, _, _ => exact Or.inl (by decide +kernel)
  | 3, _, 1, _, _ => exact Or.inr (by decide +kernel)
  | 3, _, 2, _, _ => exact Or.inr (by decide +kernel)
  | 3, _, 3, _, hne => exact absurd rfl hne
  | 3, _, 4, _, _ => exact Or.inr (by decide +kernel)
  | 3, _, 5, _, _ => exact Or.inl (by decide +kernel)
  | 4, _, 0, _, _ => exact Or.inl (by decide +kernel)
  | 4, _, 1, _, _ => exact Or.inl (by decide +kernel)
  | 4, _, 2, _, _ => exact Or.inl (by decide +kernel)
  | 4, _, 3, _, _ => exact Or.inl (by decide +kernel)
  | 4, _, 4, _, hne => exact absurd rfl hne
  | 4, _, 5, _, _ => exact Or.inl (by decide +kernel)
  | 5, _, 0, _, _ => exact Or.inr (by decide +kernel)
  | 5, _, 1, _, _ => exact Or.inr (by decide +kernel)
  | 5, _, 2, _, _ => exact Or.inr (by decide +kernel)
  | 5, _, 3, _, _ => exact Or.inr (by decide +kernel)
  | 5, _, 4, _, _ => exact Or.inr (by decide +kernel)
  | 5, _, 5, _, hne => exact absurd rfl hne
theorem cl_inst {s : State} {args : Array Value} (hts : ∀ w ∈ am_tbl, w.before args s = true) : ∃ D : va_G, ∀ (k : Nat) (q : vw_C), am_cl[k]? = some q → u_Kn s q.1 q.2.1 q.2.2 (D.1 k) (D.2 k) := by
  have h : ∀ k : Nat, ∃ d : ClassId × (Nat → Nat), ∀ q : vw_C, am_cl[k]? = some q → u_Kn s q.1 q.2.1 q.2.2 d.1 d.2 := by
    intro k
    have one : ∀ {C : String} {T : u_T} {N : Nat}, (∀ w ∈ u_ws C T N, w ∈ am_tbl) → Cond.instantiable C N ∈ am_tbl → am_cl[k]? = some (C, T, N) → ∃ d : ClassId × (Nat → Nat), ∀ q : vw_C, am_cl[k]? = some q → u_Kn s q.1 q.2.1 q.2.2 d.1 d.2 := by
      intro C T N h1 h2 h3
      obtain ⟨cC, iS, hK⟩ := u_known (C := C) (T := T) (N := N) (n := N) hts h1 (hts _ h2)
      refine ⟨(cC, iS), fun q hq => ?_⟩
      rw [h3] at hq
      cases hq
      exact hK
    match k with
    | 0 => exact one inX1 wd_165 rfl
    | 1 => exact one inX2 wd_188 rfl
    | 2 => exact one inX3 wd_27 rfl
    | 3 => exact one inX4 wd_34 rfl
    | 4 => exact one inX5 wd_207 rfl
    | 5 => exact one inX6 wd_151 rfl
    | 6 => exact one inX7 wd_238 rfl
    | 7 => exact one inX8 wd_122 rfl
    | 8 => exact one inX9 wd_19 rfl
    | 9 => exact one inX10 wd_853 rfl
    | k + 10 => exact ⟨(0, fun _ => 0), fun q hq => by simp [am_cl] at hq⟩
  obtain ⟨f, hf⟩ := Classical.axiomOfChoice h
  exact ⟨(fun k => (f k).1, fun k => (f k).2), fun k q hq => hf k q hq⟩
theorem ty_prim {s : State} {args : Array Value} {ty : FieldType} (h : (Cond.arrayClass ty).before args s = true) (hRA : ∀ c : ClassId, s.vm.findClass ("[" ++ ty.toString) = some c → va_RA s c ty) : ∃ c : ClassId, ArrOfT s c ty ∧ va_RA s c ty := by
  obtain ⟨c, k, comp, h1, h2, h3⟩ := Cond.arrayClass_spec (args := args) (first := s) (o := none) (s := s) (idx := []) h
  exact ⟨c, fun n z => ⟨fun k h => (by cases h), k, h2, comp, h3⟩, hRA c h1⟩
theorem ty_obj {s : State} {C : String} (h : va_AO C s) : ∃ c : ClassId, ArrOfT s c (.object C) ∧ va_RA s c (.object C) := by
  obtain ⟨comp, c, k, h1, h2, h3, h4, h5⟩ := Cond.arrayOver_spec h
  exact ⟨c, fun n z => ⟨fun k h => (by cases h), k, h3, comp, h4⟩, k, comp, h3, h4, h1, h5⟩
theorem start_S {s : State} {b : Nat} (hts : ∀ w ∈ lw_tbl, w.before #[Value.ref b] s = true) (hgv : (Jvm.Cond.and given_1 narrow_1).before #[Value.ref b] s = true) : ∃ S : am_S, S.1 = s.heap.size ∧ S.2.2.2.2.2.2.1 = b ∧ am_St S s s.heap ∧ am_StA S s := by
  have htm : ∀ w ∈ am_tbl, w.before #[Value.ref b] s = true := fun w hw => hts w (List.mem_filter.mp hw).1
  have hs := flat_of_before _ hgv
  obtain ⟨D, hD⟩ := cl_inst htm
  have hAO : ∀ C ∈ aoL, va_AO C s := by
    have h : ∀ C ∈ aoL, Cond.arrayOver (.object C) ∈ lw_tbl := List.forall_mem_cons.mpr ⟨List.mem_of_getElem? (i := 94) (by decide +kernel), List.forall_mem_cons.mpr ⟨List.mem_of_getElem? (i := 181) (by decide +kernel), List.forall_mem_cons.mpr ⟨List.mem_of_getElem? (i := 274) (by decide +kernel), List.forall_mem_cons.mpr ⟨List.mem_of_getElem? (i := 298) (by decide +kernel), fun _ h => absurd h List.not_mem_nil⟩⟩⟩⟩
    exact fun C hC => va_AO.of (hts _ (h C hC))
  have hNS : ∀ q ∈ nsL, va_Nw (.methodLinkNest q.1 q.2.1 q.2.2 RX9) s := by
    have h : ∀ q ∈ nsL, Cond.methodLinkNest q.1 q.2.1 q.2.2 RX9 ∈ lw_tbl := List.forall_mem_cons.mpr ⟨List.mem_of_getElem? (i := 96) (by decide +kernel), List.forall_mem_cons.mpr ⟨List.mem_of_getElem? (i := 184) (by decide +kernel), List.forall_mem_cons.mpr ⟨List.mem_of_getElem? (i := 213) (by decide +kernel), List.forall_mem_cons.mpr ⟨List.mem_of_getElem? (i := 227) (by decide +kernel), List.forall_mem_cons.mpr ⟨List.mem_of_getElem? (i := 250) (by decide +kernel), List.forall_mem_cons.mpr ⟨List.mem_of_getElem? (i := 300) (by decide +kernel), fun _ h => absurd h List.not_mem_nil⟩⟩⟩⟩⟩⟩
    exact fun q hq => va_Nw.of rfl (hts _ (h q hq))
  have mAO : ∀ C, C = RX4 ∨ C = RX1 ∨ C = RX3 ∨ C = RX7 → C ∈ aoL := fun C h => by
    rcases h with rfl | rfl | rfl | rfl
    · exact List.mem_cons_self
    · exact List.mem_cons_of_mem _ List.mem_cons_self
    · exact List.mem_cons_of_mem _ (List.mem_cons_of_mem _ List.mem_cons_self)
    · exact List.mem_cons_of_mem _ (List.mem_cons_of_mem _ (List.mem_cons_of_mem _ List.mem_cons_self))
  obtain ⟨cI, hI⟩ := ty_prim (htm _ wd_83) (fun c h => h)
  obtain ⟨cB, hB⟩ := ty_prim (htm _ wd_149) (fun c h => h)
  obtain ⟨cL, hL⟩ := ty_obj (hAO RX4 (mAO _ (Or.inl rfl)))
  obtain ⟨cC, hC⟩ := ty_obj (hAO RX1 (mAO _ (Or.inr (Or.inl rfl))))
  obtain ⟨cK, hK⟩ := ty_obj (hAO RX3 (mAO _ (Or.inr (Or.inr (Or.inl rfl)))))
  obtain ⟨cS, hSh⟩ := ty_obj (hAO RX7 (mAO _ (Or.inr (Or.inr (Or.inr rfl)))))
  have hA : ∀ a : Nat, a < s.heap.size → ¬ (fun q => s.heap.size ≤ q ∧ q < s.heap.size + NC) a := fun a ha z => Nat.not_le.mpr ha z.1
  obtain ⟨adK, adV, hVS, hev⟩ := vk_Sof (s := s) (args := #[Value.ref b]) (N := 6) (tm := tmS) (len := lenS) (byt := bytS) (A := fun q => s.heap.size ≤ q ∧ q < s.heap.size + NC) (by decide) (fun i hi => hs _ (tm_ex i hi)) (fun i hi => hs _ (tm_co i hi)) (fun i hi => hs _ (tm_ar i hi)) (fun i hi => hs _ (tm_le i hi)) (fun i hi j hj => hs _ (tm_el i hi j hj)) (fun i j hi hj hne => by
    rcases tm_ne i j hi hj hne with h | h
    · exact Or.inl (hs _ h)
    · exact Or.inr (hs _ h)) hA
  obtain ⟨ka, hka, hkT⟩ := va_Tof (s := s) (args := #[Value.ref b]) (tm := .static "KilnCourses$Load" "KIND_ABOVE" "[I") (ty := .int) (N := 6) (f := fun j => .int (kaL.getD j 0)) (A := fun q => s.heap.size ≤ q ∧ q < s.heap.size + NC) (by decide) (hs _ (by decide +kernel)) (va_eqt (hs _ (by decide +kernel))) (fun j hj => by
    match j, hj with
    | 0, _ => exact va_eqt (hs _ (by decide +kernel))
    | 1, _ => exact va_eqt (hs _ (by decide +kernel))
    | 2, _ => exact va_eqt (hs _ (by decide +kernel))
    | 3, _ => exact va_eqt (hs _ (by decide +kernel))
    | 4, _ => exact va_eqt (hs _ (by decide +kernel))
    | 5, _ => exact va_eqt (hs _ (by decide +kernel))) hA
  have hkZ := va_Zof (A := fun q => s.heap.size ≤ q ∧ q < s.heap.size + NC) (hts (.laysStatic "KilnCourses$Load" "KIND_ABOVE" "[I") (List.mem_of_getElem? (i := 466) (by decide +kernel))) (htm _ wd_3) hka hA
  have hcs := va_Zof (A := fun q => s.heap.size ≤ q ∧ q < s.heap.size + NC) (hts (.laysStatic "java/lang/String" "COMPACT_STRINGS" "Z") (List.mem_of_getElem? (i := 601) (by decide +kernel))) (htm _ wd_13) (va_eqi (hs (.eq (.static "java/lang/String" "COMPACT_STRINGS" "Z") (.int 1)) (by decide +kernel))) hA
  obtain ⟨fo, hfo⟩ : ∃ fo : Option Nat, va_Z "jdk/internal/util/Preconditions" "SIOOBE_FORMATTER" "Ljava/util/function/BiFunction;" (va_rf fo) (fun q => s.heap.size ≤ q ∧ q < s.heap.size + NC) s s.heap := by
    rcases va_Zqof (A := fun q => s.heap.size ≤ q ∧ q < s.heap.size + NC) (hts (.laysStatic "jdk/internal/util/Preconditions" "SIOOBE_FORMATTER" "Ljava/util/function/BiFunction;") (List.mem_of_getElem? (i := 617) (by decide +kernel))) (htm _ wd_15) (hs _ (by decide +kernel)) hA with h | ⟨t, h⟩
    · exact ⟨none, h⟩
    · exact ⟨some t, h⟩
  refine ⟨(s.heap.size, D, (fun k => match k with
    | 0 => cI
    | 1 => cB
    | 2 => cL
    | 3 => cC
    | 4 => cS
    | _ => cK), adK, adV, ka, b, fo), rfl, rfl, ⟨⟨hD, ?_⟩, hVS, ?_, hkZ, hkT, hcs, hfo⟩, ⟨hD, ?_⟩, hAO, hNS⟩
  · intro k q hq
    match k, hq with
    | 0, hq => cases hq; exact hI
    | 1, hq => cases hq; exact hB
    | 2, hq => cases hq; exact hL
    | 3, hq => cases hq; exact hC
    | 4, hq => cases hq; exact hSh
    | 5, hq => cases hq; exact hK
    | k + 6, hq => simp [am_tys] at hq
  · have m0 := hev 0 (by decide)
    have m1 := hev 1 (by decide)
    have m2 := hev 2 (by decide)
    have m3 := hev 3 (by decide)
    have m4 := hev 4 (by decide)
    have m5 := hev 5 (by decide)
    unfold scL
    refine List.forall_mem_cons.mpr ⟨vk_R.of (hts _ (List.mem_of_getElem? (i := 587) (by decide +kernel))) m4, ?_⟩
    refine List.forall_mem_cons.mpr ⟨vk_R.of (hts _ (List.mem_of_getElem? (i := 643) (by decide +kernel))) m1, ?_⟩
    refine List.forall_mem_cons.mpr ⟨vk_R.of (hts _ (List.mem_of_getElem? (i := 644) (by decide +kernel))) m2, ?_⟩
    refine List.forall_mem_cons.mpr ⟨vk_R.of (hts _ (List.mem_of_getElem? (i := 645) (by decide +kernel))) m3, ?_⟩
    refine List.forall_mem_cons.mpr ⟨vk_R.of (hts _ (List.mem_of_getElem? (i := 646) (by decide +kernel))) m0, ?_⟩
    refine List.forall_mem_cons.mpr ⟨vk_R.of (hts _ (List.mem_of_getElem? (i := 716) (by decide +kernel))) m5, ?_⟩
    refine List.forall_mem_cons.mpr ⟨vk_R.of (hts _ (List.mem_of_getElem? (i := 1235) (by decide +kernel))) (va_eqR (t := tmS 4) (hs (.eq (tmS 4) (.string "KilnCoursesModel" 223)) (by decide +kernel)) m4), ?_⟩
    refine List.forall_mem_cons.mpr ⟨vk_R.of (hts _ (List.mem_of_getElem? (i := 1245) (by decide +kernel))) (va_eqR (t := tmS 0) (hs (.eq (tmS 0) (.string "KilnCoursesModel" 194)) (by decide +kernel)) m0), ?_⟩
    refine List.forall_mem_cons.mpr ⟨vk_R.of (hts _ (List.mem_of_getElem? (i := 1246) (by decide +kernel))) (va_eqR (t := tmS 1) (hs (.eq (tmS 1) (.string "KilnCoursesModel" 196)) (by decide +kernel)) m1), ?_⟩
    refine List.forall_mem_cons.mpr ⟨vk_R.of (hts _ (List.mem_of_getElem? (i := 1247) (by decide +kernel))) (va_eqR (t := tmS 2) (hs (.eq (tmS 2) (.string "KilnCoursesModel" 198)) (by decide +kernel)) m2), ?_⟩
    refine List.forall_mem_cons.mpr ⟨vk_R.of (hts _ (List.mem_of_getElem? (i := 1248) (by decide +kernel))) (va_eqR (t := tmS 3) (hs (.eq (tmS 3) (.string "KilnCoursesModel" 200)) (by decide +kernel)) m3), fun _ h => absurd h List.not_mem_nil⟩
  · intro k q hq
    match k, hq with
    | 0, hq => cases hq; exact hI
    | 1, hq => cases hq; exact hB
    | 2, hq => cases hq; exact hL
    | 3, hq => cases hq; exact hC
    | 4, hq => cases hq; exact hSh
    | 5, hq => cases hq; exact hK
    | k + 6, hq => simp [am_tys] at hq
