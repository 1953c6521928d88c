/-! ends, and a method's contract out of its instructions' -/
section AmRet
variable {M : Type}
def am_Ret (g : am_G) (ad : am_AD) (RM : am_P M) (cc : ByteArray) (ret : Option FieldType) (r : am_R M) : Prop :=
  ∀ (H : Heap) (locs : List Loc) (cells slots pc : Nat) (lsC : Array Slot), RM r.2 H locs cells slots → (match r.1 with
    | none => decode cc pc = .ok (.return_, 1) ∧ ret = none
    | some (.int x) => decode cc pc = .ok (.ireturn, 1) ∧ ∃ ty, ret = some ty ∧ narrow ty (.int x) = .int x
    | some (.ref _) => decode cc pc = .ok (.areturn, 1) ∧ ∃ nm, ret = some (.object nm)
    | _ => False) → am_wp g H locs cells slots pc lsC (r.1.map (am_cv ad)).toList
variable {g : am_G} {ad : am_AD} {RM : am_P M} {nL : Nat} {r : am_R M} {cc : ByteArray} {pc : Nat} {ret : Option FieldType}
theorem sd_vret (hR : am_Ret g ad RM cc ret r) (hd : decode cc pc = .ok (.return_, 1)) (hr : ret = none) : am_snd g ad RM nL r pc i_vret := by
  intro ls st h k hk K H locs cells slots lsC hRM hL
  unfold i_vret at hk
  split at hk
  · cases hk
    exact hR H locs cells slots pc lsC hRM ⟨hd, hr⟩
  · cases hk
theorem sd_iret (hR : am_Ret g ad RM cc ret r) (hd : decode cc pc = .ok (.ireturn, 1)) (hr : ret = some .int) : am_snd g ad RM nL r pc i_iret := by
  intro ls st h k hk K H locs cells slots lsC hRM hL
  unfold i_iret at hk
  split at hk
  · next x =>
    cases hk
    exact hR H locs cells slots pc lsC hRM ⟨hd, .int, hr, rfl⟩
  · cases hk
theorem sd_zret (hR : am_Ret g ad RM cc ret r) (hd : decode cc pc = .ok (.ireturn, 1)) (hr : ret = some .boolean) : am_snd g ad RM nL r pc i_zret := by
  intro ls st h k hk K H locs cells slots lsC hRM hL
  unfold i_zret o_zr at hk
  split at hk
  · next x =>
    split at hk
    · next hz =>
      cases hk
      exact hR H locs cells slots pc lsC hRM ⟨hd, .boolean, hr, by rcases hz with rfl | rfl <;> rfl⟩
    · cases hk
  · cases hk
theorem sd_nret {ty : FieldType} (hR : am_Ret g ad RM cc ret r) (hd : decode cc pc = .ok (.ireturn, 1)) (hr : ret = some ty) : am_snd g ad RM nL r pc (i_nret ty) := by
  intro ls st h k hk K H locs cells slots lsC hRM hL
  unfold i_nret o_nr at hk
  split at hk
  · next x =>
    split at hk
    · next hz =>
      cases hk
      exact hR H locs cells slots pc lsC hRM ⟨hd, ty, hr, hz⟩
    · cases hk
  · cases hk
theorem sd_aret {nm : String} (hR : am_Ret g ad RM cc ret r) (hd : decode cc pc = .ok (.areturn, 1)) (hr : ret = some (.object nm)) : am_snd g ad RM nL r pc i_aret := by
  intro ls st h k hk K H locs cells slots lsC hRM hL
  unfold i_aret at hk
  split at hk
  · next x =>
    cases hk
    exact hR H locs cells slots pc lsC hRM ⟨hd, nm, hr⟩
  · cases hk
end AmRet
/-! entry -/
def am_exp : List Value → List Value
  | [] => []
  | .long x :: vs => .long x :: .null :: am_exp vs
  | .double x :: vs => .double x :: .null :: am_exp vs
  | v :: vs => v :: am_exp vs
def am_ent (vs : List Value) (n : Nat) : List Value := am_exp vs ++ List.replicate (n - (am_exp vs).length) .null
theorem am_exp_cons (v : Value) (vs : List Value) : am_exp (v :: vs) = if v.category = 2 then v :: .null :: am_exp vs else v :: am_exp vs := by
  cases v <;> rfl
theorem am_exp_len (ad : am_AD) : ∀ vs : List Value, (lg_sl (vs.map (am_cv ad))).length = (am_exp vs).length := by
  intro vs
  induction vs with
  | nil => rfl
  | cons v vs ih =>
    rw [am_exp_cons, List.map_cons]
    show (List.flatMap _ (_ :: _)).length = _
    rw [List.flatMap_cons, List.length_append, am_cv_cat]
    have ih' : (List.flatMap (fun v : Value => if v.category = 2 then [Slot.val v, .second] else [.val v]) (vs.map (am_cv ad))).length = (am_exp vs).length := ih
    rw [ih']
    split <;> simp <;> omega
theorem am_exp_in (ad : am_AD) : ∀ (vs : List Value) (i j : Nat) (v : Value), (am_exp vs)[j]? = some v → v ≠ .null → (i + j, am_cv ad v) ∈ lv_args i (vs.map (am_cv ad)) := by
  intro vs
  induction vs with
  | nil => intro i j v h; cases h
  | cons w vs ih =>
    intro i j v h hn
    rw [am_exp_cons] at h
    rw [List.map_cons]
    show _ ∈ (i, am_cv ad w) :: lv_args (if (am_cv ad w).category = 2 then i + 2 else i + 1) (vs.map (am_cv ad))
    rw [am_cv_cat]
    split at h
    · next hc =>
      rw [if_pos hc]
      match j, h with
      | 0, h => cases h; exact List.mem_cons_self
      | 1, h => cases h; exact absurd rfl hn
      | j + 2, h =>
        have := ih (i + 2) j v h hn
        rw [show i + 2 + j = i + (j + 2) by omega] at this
        exact List.mem_cons_of_mem _ this
    · next hc =>
      rw [if_neg hc]
      match j, h with
      | 0, h => cases h; exact List.mem_cons_self
      | j + 1, h =>
        have := ih (i + 1) j v h hn
        rw [show i + 1 + j = i + (j + 1) by omega] at this
        exact List.mem_cons_of_mem _ this
theorem am_ent_L {ad : am_AD} {vs : List Value} {n : Nat} {lsC : Array Slot} (h : lv_has lsC n (lv_args 0 (vs.map (am_cv ad)))) (hn : (am_exp vs).length ≤ n) : am_L ad n (am_ent vs n) lsC := by
  refine ⟨?_, h.1, h.2.1, fun i v hv hne => ?_⟩
  · unfold am_ent
    rw [List.length_append, List.length_replicate]
    omega
  · unfold am_ent at hv
    by_cases hi : i < (am_exp vs).length
    · rw [List.getElem?_append_left hi] at hv
      have := am_exp_in ad vs 0 i v hv hne
      rw [Nat.zero_add] at this
      exact h.2.2 _ this
    · rw [List.getElem?_append_right (by omega)] at hv
      have := List.mem_replicate.mp (List.mem_of_getElem? hv)
      exact absurd this.2 hne
noncomputable def am_fn (C : Nat → am_I Mem) (maxL : Nat) : List Value → Mem → Option (am_R Mem) := fun avs σ => bif Nat.ble (am_exp avs).length maxL then am_go C 0 (am_ent avs maxL) [] σ else none
theorem am_met {n maxL : Nat} {y : MethodName} {cc : ByteArray} {ret : Option FieldType} {C : Nat → am_I Mem} (hy : plainName y.cls = true) (hC : ∀ pc, am_cont (C pc))
    (hS : ∀ (S : am_S) (g : am_G) (r : am_R Mem), am_X g y.cls cc maxL → am_V S n 0 0 g → am_Ret g (am_ad S) (rm2 S 0 0 g) cc ret r → ∀ pc, am_snd g (am_ad S) (rm2 S 0 0 g) maxL r pc (C pc)) : am_Met n y cc maxL ret (am_fn C maxL) := by
  intro l S avs σ r hF
  unfold am_fn at hF
  cases hlen : Nat.ble (am_exp avs).length maxL with
  | false => rw [hlen] at hF; cases hF
  | true =>
    rw [hlen] at hF
    change am_go C 0 (am_ent avs maxL) [] σ = some r at hF
    obtain ⟨k, hk⟩ := (am_go_some hC).mp hF
    refine Met.ofW (cc := cc) (maxL := maxL) (ret := ret) hy rfl ?_
    intro p e s m args below meth c s₁ B hml hv
    obtain ⟨rfl, hP, hSt⟩ := hv
    have hx := B.exec
    have hb := B.bytes
    have hr := B.returns
    have hts0 := atoms_spec (ws := .code y cc maxL ret :: am_tbl) B.pre
    have hts : ∀ w ∈ am_tbl, w.before (avs.map (am_cv (am_ad S))).toArray s = true := fun w hw => hts0 w (List.mem_cons_of_mem _ hw)
    have hown : s.vm.findClass y.cls = some m.cls := findClass_of_methodNamed B.named
    have hlocks := B.notSynchronized
    have hle := Nat.le_of_ble_eq_true hlen
    have hl := lv_entry (avs.map (am_cv (am_ad S))) (n := maxL) (by rw [am_exp_len]; exact hle)
    rw [lg_entry_eq]
    generalize (lg_sl (avs.map (am_cv (am_ad S))) ++ List.replicate (maxL - (lg_sl (avs.map (am_cv (am_ad S)))).length) Slot.unset).toArray = lsC at hl ⊢
    have X : am_X (p, l, e, (headSpec (Cond.code y cc maxL ret :: am_tbl) (am_rm n)).room, s, m, (avs.map (am_cv (am_ad S))).toArray, below, meth, c, MQ below (am_Qc S r) (avs.map (am_cv (am_ad S))).toArray s 0 0 (am_A S)) y.cls cc maxL := ⟨hx, hb, hml, hown, hts⟩
    have V : am_V S n 0 0 (p, l, e, (headSpec (Cond.code y cc maxL ret :: am_tbl) (am_rm n)).room, s, m, (avs.map (am_cv (am_ad S))).toArray, below, meth, c, MQ below (am_Qc S r) (avs.map (am_cv (am_ad S))).toArray s 0 0 (am_A S)) := ⟨hSt, Nat.le_refl _, Nat.le_refl _, Nat.le_refl _, Nat.le_refl _⟩
    have Rt : am_Ret (p, l, e, (headSpec (Cond.code y cc maxL ret :: am_tbl) (am_rm n)).room, s, m, (avs.map (am_cv (am_ad S))).toArray, below, meth, c, MQ below (am_Qc S r) (avs.map (am_cv (am_ad S))).toArray s 0 0 (am_A S)) (am_ad S) (rm2 S 0 0 (p, l, e, (headSpec (Cond.code y cc maxL ret :: am_tbl) (am_rm n)).room, s, m, (avs.map (am_cv (am_ad S))).toArray, below, meth, c, MQ below (am_Qc S r) (avs.map (am_cv (am_ad S))).toArray s 0 0 (am_A S))) cc ret r := by
      intro H locs cells slots pc ls' hRM hm
      obtain ⟨q1, q2, rfl, rfl⟩ := hRM
      obtain ⟨rv, σ'⟩ := r
      match rv, hm with
      | none, hm =>
        exact W.vret hx hb (hr.trans hm.2) (fun t ht hW => ⟨rfl, by rw [ht]; exact q1, q2.F ht⟩) q2.2.2 hm.1
      | some (.int x), ⟨hm1, ty, hm2, hm3⟩ =>
        exact W.zret (v := x) hx hb (hr.trans hm2) hm3 (fun t ht hW => ⟨rfl, by rw [ht]; exact q1, q2.F ht⟩) q2.2.2 hm1
      | some (.ref a), ⟨hm1, nm, hm2⟩ =>
        exact W.aret (v := .ref ((am_ad S).1 a)) hx hb (hr.trans hm2) (Or.inl ⟨nm, rfl⟩) (Or.inr ⟨_, rfl⟩) (fun t ht hW => ⟨rfl, by rw [ht]; exact q1, q2.F ht⟩) q2.2.2 hm1
    exact am_run_snd (hS S _ r X V Rt) k 0 (am_ent avs maxL) [] σ hk s.heap [] 0 0 lsC ⟨hP, va_S.rf, rfl, rfl⟩ (am_ent_L hl hle)
