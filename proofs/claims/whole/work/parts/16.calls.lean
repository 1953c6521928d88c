/-! calls -/
def am_args : Nat → List Value → List Value → Option (List Value × List Value)
  | 0, acc, st => some (acc, st)
  | n + 1, acc, v :: st => am_args n (v :: acc) st
  | _ + 1, _, [] => none
theorem am_args_eq : ∀ {n : Nat} {acc st as st' : List Value}, am_args n acc st = some (as, st') → ∃ bs : List Value, as = bs ++ acc ∧ st = bs.reverse ++ st' ∧ bs.length = n := by
  intro n
  induction n with
  | zero =>
    intro acc st as st' h
    cases h
    exact ⟨[], rfl, rfl, rfl⟩
  | succ n ih =>
    intro acc st as st' h
    cases st with
    | nil => cases h
    | cons v st =>
      obtain ⟨bs, h1, h2, h3⟩ := ih (show am_args n (v :: acc) st = _ from h)
      exact ⟨bs ++ [v], by rw [h1, List.append_assoc]; rfl, by rw [h2, List.reverse_append]; rfl, by rw [List.length_append, h3]; rfl⟩
theorem am_args_eq' {n : Nat} {st as st' : List Value} (h : am_args n [] st = some (as, st')) : st = as.reverse ++ st' ∧ as.length = n := by
  obtain ⟨bs, h1, h2, h3⟩ := am_args_eq h
  rw [List.append_nil] at h1
  subst h1
  exact ⟨h2, h3⟩
def am_low (st : List Value) : Bool := Nat.ble ((st.map fun v => v.category).sum) 8
theorem am_low_sum {ad : am_AD} {st : List Value} (h : am_low st = true) : ((st.map (am_cv ad)).map fun v => v.category).sum ≤ 8 := by
  have e : (st.map (am_cv ad)).map (fun v => v.category) = st.map fun v => v.category := by
    rw [List.map_map]
    apply List.map_congr_left
    intro v _
    exact am_cv_cat ad v
  rw [e]
  exact Nat.le_of_ble_eq_true h
section AmCallDefs
variable {M : Type}
def o_rI (x : Option (am_R M)) (k : Int32 → M → Option (am_R M)) : Option (am_R M) := match x with
  | some (some (.int v), h) => k v h
  | _ => none
def o_rV (x : Option (am_R M)) (k : M → Option (am_R M)) : Option (am_R M) := match x with
  | some (none, h) => k h
  | _ => none
def o_rA (x : Option (am_R M)) (k : Nat → M → Option (am_R M)) : Option (am_R M) := match x with
  | some (some (.ref v), h) => k v h
  | _ => none
end AmCallDefs
def i_sI (F : List Value → Mem → Option (am_R Mem)) (n nx : Nat) : am_I Mem := fun ls st h k => match am_args n [] st with
  | some (as, st') => bif am_low st' then o_rI (F as h) (fun v h' => k nx ls (.int v :: st') h') else none
  | none => none
def i_sV (F : List Value → Mem → Option (am_R Mem)) (n nx : Nat) : am_I Mem := fun ls st h k => match am_args n [] st with
  | some (as, st') => bif am_low st' then o_rV (F as h) (fun h' => k nx ls st' h') else none
  | none => none
def i_sA (F : List Value → Mem → Option (am_R Mem)) (n nx : Nat) : am_I Mem := fun ls st h k => match am_args n [] st with
  | some (as, st') => bif am_low st' then o_rA (F as h) (fun v h' => k nx ls (.ref v :: st') h') else none
  | none => none
def i_vI (ci : Nat) (F : List Value → Mem → Option (am_R Mem)) (n nx : Nat) : am_I Mem := fun ls st h k => match am_args n [] st with
  | some (as, .ref a :: st') => bif am_low st' then o_cls a ci (o_rI (F (.ref a :: as) h) (fun v h' => k nx ls (.int v :: st') h')) else none
  | _ => none
def i_vV (ci : Nat) (F : List Value → Mem → Option (am_R Mem)) (n nx : Nat) : am_I Mem := fun ls st h k => match am_args n [] st with
  | some (as, .ref a :: st') => bif am_low st' then o_cls a ci (o_rV (F (.ref a :: as) h) (fun h' => k nx ls st' h')) else none
  | _ => none
theorem ct_rI {M : Type} (x : Option (am_R M)) (nx : Nat) (ls st' : List Value) : ∃ d : am_D M, ∀ k : am_K M, o_rI x (fun v h' => k nx ls (.int v :: st') h') = am_fold d k := by
  unfold o_rI
  split <;> first | exact ⟨some (.inl (_, _, _, _)), fun _ => rfl⟩ | exact ⟨none, fun _ => rfl⟩
theorem ct_rV {M : Type} (x : Option (am_R M)) (nx : Nat) (ls st' : List Value) : ∃ d : am_D M, ∀ k : am_K M, o_rV x (fun h' => k nx ls st' h') = am_fold d k := by
  unfold o_rV
  split <;> first | exact ⟨some (.inl (_, _, _, _)), fun _ => rfl⟩ | exact ⟨none, fun _ => rfl⟩
theorem ct_rA {M : Type} (x : Option (am_R M)) (nx : Nat) (ls st' : List Value) : ∃ d : am_D M, ∀ k : am_K M, o_rA x (fun v h' => k nx ls (.ref v :: st') h') = am_fold d k := by
  unfold o_rA
  split <;> first | exact ⟨some (.inl (_, _, _, _)), fun _ => rfl⟩ | exact ⟨none, fun _ => rfl⟩
theorem ct_sI (F : List Value → Mem → Option (am_R Mem)) (n nx : Nat) : am_cont (i_sI F n nx) := fun ls st h => by
  unfold i_sI
  split
  · next as st' _ =>
    cases am_low st' with
    | false => exact ⟨none, fun _ => rfl⟩
    | true => exact ct_rI _ _ _ _
  · exact ⟨none, fun _ => rfl⟩
theorem ct_sV (F : List Value → Mem → Option (am_R Mem)) (n nx : Nat) : am_cont (i_sV F n nx) := fun ls st h => by
  unfold i_sV
  split
  · next as st' _ =>
    cases am_low st' with
    | false => exact ⟨none, fun _ => rfl⟩
    | true => exact ct_rV _ _ _ _
  · exact ⟨none, fun _ => rfl⟩
theorem ct_sA (F : List Value → Mem → Option (am_R Mem)) (n nx : Nat) : am_cont (i_sA F n nx) := fun ls st h => by
  unfold i_sA
  split
  · next as st' _ =>
    cases am_low st' with
    | false => exact ⟨none, fun _ => rfl⟩
    | true => exact ct_rA _ _ _ _
  · exact ⟨none, fun _ => rfl⟩
theorem ct_vI (ci : Nat) (F : List Value → Mem → Option (am_R Mem)) (n nx : Nat) : am_cont (i_vI ci F n nx) := fun ls st h => by
  unfold i_vI
  split
  · next as a st' _ =>
    cases am_low st' with
    | false => exact ⟨none, fun _ => rfl⟩
    | true =>
      by_cases hc : (sh a).1 = ci
      · obtain ⟨d, hd⟩ := ct_rI (F (.ref a :: as) h) nx ls st'
        refine ⟨d, fun k => ?_⟩
        show o_cls a ci _ = _
        unfold o_cls
        rw [if_pos hc]
        exact hd k
      · refine ⟨none, fun k => ?_⟩
        show o_cls a ci _ = _
        unfold o_cls
        rw [if_neg hc]
        rfl
  · exact ⟨none, fun _ => rfl⟩
theorem ct_vV (ci : Nat) (F : List Value → Mem → Option (am_R Mem)) (n nx : Nat) : am_cont (i_vV ci F n nx) := fun ls st h => by
  unfold i_vV
  split
  · next as a st' _ =>
    cases am_low st' with
    | false => exact ⟨none, fun _ => rfl⟩
    | true =>
      by_cases hc : (sh a).1 = ci
      · obtain ⟨d, hd⟩ := ct_rV (F (.ref a :: as) h) nx ls st'
        refine ⟨d, fun k => ?_⟩
        show o_cls a ci _ = _
        unfold o_cls
        rw [if_pos hc]
        exact hd k
      · refine ⟨none, fun k => ?_⟩
        show o_cls a ci _ = _
        unfold o_cls
        rw [if_neg hc]
        rfl
  · exact ⟨none, fun _ => rfl⟩
section AmCalls
variable {p : Program} {l : Launch} {e : Env} {R : Room} {s : State} {m : MethodId} {args : Array Value} {below : List Frame} {meth : Method} {c : Code} {H : Heap} {locs : List Loc} {cells slots : Nat} {Q : State → Prop}
theorem am_call {S : am_S} {r : am_R Mem} {pc : Nat} {ls : Array Slot} {st0 rest : List Value} {a : Array Value} (hr : va_Run p l e R s m args below meth c H locs cells slots 0 0 (F0 m pc ls st0) rest (am_Qc S r a) (am_A S)) (hS : va_S (am_A S) s.heap H locs)
    (kk : ∀ (H1 : Heap) (locs1 : List Loc), va_P S.2.1 am_cl (vw S r.2) H1 → va_S (am_A S) s.heap H1 locs1 → W p l e R s m args below meth c H1 locs1 cells slots Q (F0 m (pc + 3) ls ((r.1.map (am_cv (am_ad S))).toList ++ rest))) : W p l e R s m args below meth c H locs cells slots Q (F0 m pc ls st0) := by
  intro T hT X
  obtain ⟨v, st₀, t, T', L, h0, X', hL, e1, e2, ⟨hv, hp, hz, hk⟩, st⟩ := hr T hT X
  cases hv
  rw [h0] at hz hk
  obtain ⟨t2, a1, b1⟩ := kk T'.heap (locs ++ L) (by rw [e1]; exact hp)
    ⟨Nat.le_trans hS.1 (by rw [e1]; exact hz), fun q h1 h2 => by rw [e1, hk q (Nat.lt_of_lt_of_le h1 hS.1) h2]; exact hS.2.1 q h1 h2, fun q hq => by
      rcases List.mem_append.mp hq with h | h
      · exact hS.2.2 q h
      · exact hL q h⟩ T' rfl X'
  exact ⟨t2, st t2 a1, b1⟩
theorem am_cb {own : String} {idx n nC na maxL : Nat} {y : MethodName} {cc : ByteArray} {ret : Option FieldType} (hts : ∀ w ∈ am_tbl, w.before args s = true) (hR : n ≤ R.frames ∧ 40 * n ≤ R.locals) (hh : Nat.ble (nC + 1) n = true) (hm : Nat.ble maxL 21 = true) (hc : Cond.code y cc maxL ret ∈ am_tbl) (hi : Cond.initialized y.cls ∈ am_tbl) (hl : Cond.methodLink own idx y ∈ am_tbl) (hy : y.cls ≠ "java/lang/invoke/MethodHandle" ∧ y.cls ≠ "java/lang/invoke/VarHandle") (hd : (parseMethodDescriptor y.desc).map (fun d => d.parameters.length) = some na) : CallB R s args own idx y cc maxL ret (.code y cc maxL ret :: am_tbl) (am_rm nC) 0 0 na := by
  have h1 := Nat.le_of_ble_eq_true hh
  have h2 := Nat.le_of_ble_eq_true hm
  have hg : ∀ w ∈ am_tbl, (w.onTables && w.keeps) = true ∨ ∃ ty, w = .arrayClass ty := fun w hw => good_of_word (am_good w hw)
  refine ⟨rfl, rfl, ?_, ?_, fun w hw a' U hW => ?_, List.mem_cons_self, hts _ hc, hts _ hi, hy, fun sig hs => ?_, hts _ hl⟩
  · show nC + 1 ≤ R.frames
    omega
  · show 8 + (maxL + 11) + 40 * nC ≤ R.locals
    omega
  · rcases List.mem_cons.mp hw with rfl | hw
    · exact word_at hW (hg _ hc) (hts _ hc)
    · exact word_at hW (hg _ hw) (hts _ hw)
  · rw [hs] at hd
    exact (Option.some.inj hd).symm
end AmCalls
section AmCallSnd
variable {g : am_G} {S : am_S} {n c0 s0 nL : Nat} {r : am_R Mem} {own : String} {cc : ByteArray} {pc nx : Nat}
theorem am_blind {S : am_S} {σ : Mem} {vs : List Value} : FrameBlind (va_Pc vs (am_Wd S σ)) := fun a U g mk h => ⟨h.1, h.2.1, h.2.2.blind rfl rfl⟩
theorem am_pre {S : am_S} {σ : Mem} {vs : List Value} {s : State} {H : Heap} {locs : List Loc} (hst : am_St S s s.heap) (hP : va_P S.2.1 am_cl (vw S σ) H) (hS : va_S (am_A S) s.heap H locs) : ∀ U : State, U.heap = H → s.WarmedH U.vm → va_Pc vs (am_Wd S σ) vs.toArray U := fun U hU hW => ⟨rfl, by rw [hU]; exact hP, by rw [hU]; exact hst.go hS hW⟩
theorem sd_s {nC na maxL idx : Nat} {y : MethodName} {cc' : ByteArray} {ret : Option FieldType} {F : List Value → Mem → Option (am_R Mem)} (X : am_X g own cc nL) (V : am_V S n c0 s0 g) (hM : am_Met nC y cc' maxL ret F) (hh : Nat.ble (nC + 1) n = true) (hm : Nat.ble maxL 21 = true) (hc : Cond.code y cc' maxL ret ∈ am_tbl) (hst : Cond.static y ∈ am_tbl) (hi : Cond.initialized y.cls ∈ am_tbl) (hl : Cond.methodLink own idx y ∈ am_tbl) (hy : y.cls ≠ "java/lang/invoke/MethodHandle" ∧ y.cls ≠ "java/lang/invoke/VarHandle") (hds : (parseMethodDescriptor y.desc).map (fun d => d.parameters.length) = some na) (hd : decode cc pc = .ok (.invokestatic idx, 3))
    {ls st as st' : List Value} {h : Mem} {r1 : am_R Mem} (ha : am_args na [] st = some (as, st')) (hlow : am_low st' = true) (hF : F as h = some r1)
    {H : Heap} {locs : List Loc} {cells slots : Nat} {lsC : Array Slot} (hR : rm2 S c0 s0 g h H locs cells slots) (hL : am_L (am_ad S) nL ls lsC)
    (K : ∀ (H1 : Heap) (locs1 : List Loc), rm2 S c0 s0 g r1.2 H1 locs1 cells slots → am_wp g H1 locs1 cells slots (pc + 3) lsC ((r1.1.map (am_cv (am_ad S))).toList ++ st'.map (am_cv (am_ad S)))) : am_wp g H locs cells slots pc lsC (st.map (am_cv (am_ad S))) := by
  obtain ⟨p, l, e, R, s, m, args, below, meth, c, Q⟩ := g
  obtain ⟨hx, hb, hml, ho, hts⟩ := X
  obtain ⟨v1, v2, v3, v4, v5⟩ := V
  obtain ⟨q1, q2, q3, q4⟩ := hR
  obtain ⟨e1, e2⟩ := am_args_eq' ha
  subst q3; subst q4
  have run := va_runS (p := p) (l := l) (e := e) (R := R) (s := s) (m := m) (args := args) (below := below) (meth := meth) (c := c) (H := H) (locs := locs) (cells := cells) (slots := slots) (g := F0 m pc lsC (st.map (am_cv (am_ad S)))) (As := as.map (am_cv (am_ad S))) (rest := st'.map (am_cv (am_ad S))) (Ts := am_tbl) (own := own) (cc := cc) (nL := nL) ⟨hx, hb, hml, ho, hts⟩ (hM l S as h r1 hF) ⟨am_cb hts ⟨v2, v3⟩ hh hm hc hi hl hy hds, hts _ hst⟩ ⟨am_blind, am_pre v1 q1 q2⟩ rfl (by rw [List.length_map]; exact e2) hL.2.1 (by show st.map _ = _; rw [e1, List.map_append, List.map_reverse]) (lv_room (am_low_sum hlow)) hd ⟨v4, v5⟩
  exact am_call run q2 (fun H1 locs1 hP hS => K H1 locs1 ⟨hP, hS, rfl, rfl⟩)
theorem sd_sI {nC na maxL idx : Nat} {y : MethodName} {cc' : ByteArray} {ret : Option FieldType} {F : List Value → Mem → Option (am_R Mem)} (X : am_X g own cc nL) (V : am_V S n c0 s0 g) (hM : am_Met nC y cc' maxL ret F) (hh : Nat.ble (nC + 1) n = true) (hm : Nat.ble maxL 21 = true) (hc : Cond.code y cc' maxL ret ∈ am_tbl) (hst : Cond.static y ∈ am_tbl) (hi : Cond.initialized y.cls ∈ am_tbl) (hl : Cond.methodLink own idx y ∈ am_tbl) (hy : y.cls ≠ "java/lang/invoke/MethodHandle" ∧ y.cls ≠ "java/lang/invoke/VarHandle") (hds : (parseMethodDescriptor y.desc).map (fun d => d.parameters.length) = some na) (hd : decode cc pc = .ok (.invokestatic idx, 3)) (hn : pc + 3 = nx) : am_snd g (am_ad S) (rm2 S c0 s0 g) nL r pc (i_sI F na nx) := by
  subst hn
  intro ls st h k hk K H locs cells slots lsC hR hL
  unfold i_sI at hk
  split at hk
  · next as st' ha =>
    cases hlow : am_low st' with
    | false => rw [hlow] at hk; cases hk
    | true =>
      rw [hlow] at hk
      change o_rI (F as h) _ = some r at hk
      unfold o_rI at hk
      split at hk
      · next v h' hF => exact sd_s X V hM hh hm hc hst hi hl hy hds hd ha hlow hF hR hL (fun H1 locs1 hR1 => K _ _ _ _ hk H1 locs1 cells slots lsC hR1 hL)
      · cases hk
  · cases hk
theorem sd_sV {nC na maxL idx : Nat} {y : MethodName} {cc' : ByteArray} {ret : Option FieldType} {F : List Value → Mem → Option (am_R Mem)} (X : am_X g own cc nL) (V : am_V S n c0 s0 g) (hM : am_Met nC y cc' maxL ret F) (hh : Nat.ble (nC + 1) n = true) (hm : Nat.ble maxL 21 = true) (hc : Cond.code y cc' maxL ret ∈ am_tbl) (hst : Cond.static y ∈ am_tbl) (hi : Cond.initialized y.cls ∈ am_tbl) (hl : Cond.methodLink own idx y ∈ am_tbl) (hy : y.cls ≠ "java/lang/invoke/MethodHandle" ∧ y.cls ≠ "java/lang/invoke/VarHandle") (hds : (parseMethodDescriptor y.desc).map (fun d => d.parameters.length) = some na) (hd : decode cc pc = .ok (.invokestatic idx, 3)) (hn : pc + 3 = nx) : am_snd g (am_ad S) (rm2 S c0 s0 g) nL r pc (i_sV F na nx) := by
  subst hn
  intro ls st h k hk K H locs cells slots lsC hR hL
  unfold i_sV at hk
  split at hk
  · next as st' ha =>
    cases hlow : am_low st' with
    | false => rw [hlow] at hk; cases hk
    | true =>
      rw [hlow] at hk
      change o_rV (F as h) _ = some r at hk
      unfold o_rV at hk
      split at hk
      · next h' hF => exact sd_s X V hM hh hm hc hst hi hl hy hds hd ha hlow hF hR hL (fun H1 locs1 hR1 => K _ _ _ _ hk H1 locs1 cells slots lsC hR1 hL)
      · cases hk
  · cases hk
theorem sd_sA {nC na maxL idx : Nat} {y : MethodName} {cc' : ByteArray} {ret : Option FieldType} {F : List Value → Mem → Option (am_R Mem)} (X : am_X g own cc nL) (V : am_V S n c0 s0 g) (hM : am_Met nC y cc' maxL ret F) (hh : Nat.ble (nC + 1) n = true) (hm : Nat.ble maxL 21 = true) (hc : Cond.code y cc' maxL ret ∈ am_tbl) (hst : Cond.static y ∈ am_tbl) (hi : Cond.initialized y.cls ∈ am_tbl) (hl : Cond.methodLink own idx y ∈ am_tbl) (hy : y.cls ≠ "java/lang/invoke/MethodHandle" ∧ y.cls ≠ "java/lang/invoke/VarHandle") (hds : (parseMethodDescriptor y.desc).map (fun d => d.parameters.length) = some na) (hd : decode cc pc = .ok (.invokestatic idx, 3)) (hn : pc + 3 = nx) : am_snd g (am_ad S) (rm2 S c0 s0 g) nL r pc (i_sA F na nx) := by
  subst hn
  intro ls st h k hk K H locs cells slots lsC hR hL
  unfold i_sA at hk
  split at hk
  · next as st' ha =>
    cases hlow : am_low st' with
    | false => rw [hlow] at hk; cases hk
    | true =>
      rw [hlow] at hk
      change o_rA (F as h) _ = some r at hk
      unfold o_rA at hk
      split at hk
      · next v h' hF => exact sd_s X V hM hh hm hc hst hi hl hy hds hd ha hlow hF hR hL (fun H1 locs1 hR1 => K _ _ _ _ hk H1 locs1 cells slots lsC hR1 hL)
      · cases hk
  · cases hk
/-- a call of an object's method: its class's row of am_cl is named -/
theorem sd_v {nC na maxL idx ci : Nat} {y : MethodName} {cc' : ByteArray} {ret : Option FieldType} {F : List Value → Mem → Option (am_R Mem)} (X : am_X g own cc nL) (V : am_V S n c0 s0 g) (hM : am_Met nC y cc' maxL ret F) (hh : Nat.ble (nC + 1) n = true) (hm : Nat.ble maxL 21 = true) (hc : Cond.code y cc' maxL ret ∈ am_tbl) (hin : Cond.instanceMethod y ∈ am_tbl) (hse : Cond.selects y.cls y y ∈ am_tbl) (hi : Cond.initialized y.cls ∈ am_tbl) (hl : Cond.methodLink own idx y ∈ am_tbl) (hy : y.cls ≠ "java/lang/invoke/MethodHandle" ∧ y.cls ≠ "java/lang/invoke/VarHandle") (hds : (parseMethodDescriptor y.desc).map (fun d => d.parameters.length) = some na) (hcl : (am_cl[ci]?).map (fun q => q.1) = some y.cls) (hci : Nat.ble (ci + 1) 10 = true) (hd : decode cc pc = .ok (.invokevirtual idx, 3))
    {ls st as st' : List Value} {a : Nat} {h : Mem} {r1 : am_R Mem} (ha : am_args na [] st = some (as, .ref a :: st')) (hlow : am_low st' = true) (hsh : (sh a).1 = ci) (hF : F (.ref a :: as) h = some r1)
    {H : Heap} {locs : List Loc} {cells slots : Nat} {lsC : Array Slot} (hR : rm2 S c0 s0 g h H locs cells slots) (hL : am_L (am_ad S) nL ls lsC)
    (K : ∀ (H1 : Heap) (locs1 : List Loc), rm2 S c0 s0 g r1.2 H1 locs1 cells slots → am_wp g H1 locs1 cells slots (pc + 3) lsC ((r1.1.map (am_cv (am_ad S))).toList ++ st'.map (am_cv (am_ad S)))) : am_wp g H locs cells slots pc lsC (st.map (am_cv (am_ad S))) := by
  obtain ⟨p, l, e, R, s, m, args, below, meth, c, Q⟩ := g
  obtain ⟨hx, hb, hml, ho, hts⟩ := X
  obtain ⟨v1, v2, v3, v4, v5⟩ := V
  obtain ⟨q1, q2, q3, q4⟩ := hR
  obtain ⟨e1, e2⟩ := am_args_eq' ha
  subst q3; subst q4
  have hci' : ci < 10 := Nat.le_of_ble_eq_true hci
  have hlt : a < NC := sh_lt (by omega)
  have he := vw_at (S := S) (σ := h) hlt
  rw [ce_obj hsh hci'] at he
  obtain ⟨q, hq, hqc⟩ := Option.map_eq_some_iff.mp hcl
  have run := va_runV (p := p) (l := l) (e := e) (R := R) (s := s) (m := m) (args := args) (below := below) (meth := meth) (c := c) (H := H) (locs := locs) (cells := cells) (slots := slots) (C := y.cls) (b := S.1 + a) (g := F0 m pc lsC (st.map (am_cv (am_ad S)))) (As := as.map (am_cv (am_ad S))) (rest := st'.map (am_cv (am_ad S))) (Ts := am_tbl) (own := own) (cc := cc) (nL := nL) ⟨hx, hb, hml, ho, hts⟩ (hM l S (.ref a :: as) h r1 hF) ⟨am_cb hts ⟨v2, v3⟩ hh hm hc hi hl hy hds, hts _ hin, hts _ hse⟩ ⟨am_blind, (by have := va_recv v1.1 q1 hq he; rw [hqc] at this; exact this), (by have := am_pre (vs := (.ref a :: as).map (am_cv (am_ad S))) v1 q1 q2; rw [List.map_cons] at this; change ∀ U : State, U.heap = H → s.WarmedH U.vm → va_Pc _ _ (Value.ref ((am_ad S).1 a) :: _).toArray U at this; rw [am_ad_lt hlt] at this; exact this)⟩ rfl (by rw [List.length_map]; exact e2) hL.2.1 (by show st.map _ = _; rw [e1, List.map_append, List.map_reverse, List.map_cons]; change _ ++ Value.ref ((am_ad S).1 a) :: _ = _; rw [am_ad_lt hlt]) (lv_room (am_low_sum hlow)) hd ⟨v4, v5⟩
  exact am_call run q2 (fun H1 locs1 hP hS => K H1 locs1 ⟨hP, hS, rfl, rfl⟩)
theorem sd_vI {nC na maxL idx ci : Nat} {y : MethodName} {cc' : ByteArray} {ret : Option FieldType} {F : List Value → Mem → Option (am_R Mem)} (X : am_X g own cc nL) (V : am_V S n c0 s0 g) (hM : am_Met nC y cc' maxL ret F) (hh : Nat.ble (nC + 1) n = true) (hm : Nat.ble maxL 21 = true) (hc : Cond.code y cc' maxL ret ∈ am_tbl) (hin : Cond.instanceMethod y ∈ am_tbl) (hse : Cond.selects y.cls y y ∈ am_tbl) (hi : Cond.initialized y.cls ∈ am_tbl) (hl : Cond.methodLink own idx y ∈ am_tbl) (hy : y.cls ≠ "java/lang/invoke/MethodHandle" ∧ y.cls ≠ "java/lang/invoke/VarHandle") (hds : (parseMethodDescriptor y.desc).map (fun d => d.parameters.length) = some na) (hcl : (am_cl[ci]?).map (fun q => q.1) = some y.cls) (hci : Nat.ble (ci + 1) 10 = true) (hd : decode cc pc = .ok (.invokevirtual idx, 3)) (hn : pc + 3 = nx) : am_snd g (am_ad S) (rm2 S c0 s0 g) nL r pc (i_vI ci F na nx) := by
  subst hn
  intro ls st h k hk K H locs cells slots lsC hR hL
  unfold i_vI at hk
  split at hk
  · next as a st' ha =>
    cases hlow : am_low st' with
    | false => rw [hlow] at hk; cases hk
    | true =>
      rw [hlow] at hk
      change o_cls a ci (o_rI (F (.ref a :: as) h) _) = some r at hk
      unfold o_cls at hk
      split at hk
      · next hsh =>
        unfold o_rI at hk
        split at hk
        · next v h' hF => exact sd_v X V hM hh hm hc hin hse hi hl hy hds hcl hci hd ha hlow hsh hF hR hL (fun H1 locs1 hR1 => K _ _ _ _ hk H1 locs1 cells slots lsC hR1 hL)
        · cases hk
      · cases hk
  · cases hk
theorem sd_vV {nC na maxL idx ci : Nat} {y : MethodName} {cc' : ByteArray} {ret : Option FieldType} {F : List Value → Mem → Option (am_R Mem)} (X : am_X g own cc nL) (V : am_V S n c0 s0 g) (hM : am_Met nC y cc' maxL ret F) (hh : Nat.ble (nC + 1) n = true) (hm : Nat.ble maxL 21 = true) (hc : Cond.code y cc' maxL ret ∈ am_tbl) (hin : Cond.instanceMethod y ∈ am_tbl) (hse : Cond.selects y.cls y y ∈ am_tbl) (hi : Cond.initialized y.cls ∈ am_tbl) (hl : Cond.methodLink own idx y ∈ am_tbl) (hy : y.cls ≠ "java/lang/invoke/MethodHandle" ∧ y.cls ≠ "java/lang/invoke/VarHandle") (hds : (parseMethodDescriptor y.desc).map (fun d => d.parameters.length) = some na) (hcl : (am_cl[ci]?).map (fun q => q.1) = some y.cls) (hci : Nat.ble (ci + 1) 10 = true) (hd : decode cc pc = .ok (.invokevirtual idx, 3)) (hn : pc + 3 = nx) : am_snd g (am_ad S) (rm2 S c0 s0 g) nL r pc (i_vV ci F na nx) := by
  subst hn
  intro ls st h k hk K H locs cells slots lsC hR hL
  unfold i_vV at hk
  split at hk
  · next as a st' ha =>
    cases hlow : am_low st' with
    | false => rw [hlow] at hk; cases hk
    | true =>
      rw [hlow] at hk
      change o_cls a ci (o_rV (F (.ref a :: as) h) _) = some r at hk
      unfold o_cls at hk
      split at hk
      · next hsh =>
        unfold o_rV at hk
        split at hk
        · next h' hF => exact sd_v X V hM hh hm hc hin hse hi hl hy hds hcl hci hd ha hlow hsh hF hR hL (fun H1 locs1 hR1 => K _ _ _ _ hk H1 locs1 cells slots lsC hR1 hL)
        · cases hk
      · cases hk
  · cases hk
end AmCallSnd
