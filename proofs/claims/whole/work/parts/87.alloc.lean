/-! the constructors: cells come one by one, in the order of their numbers -/
abbrev AMem : Type := Mem × (Nat → Nat → Bool) × Nat
def mkB (μ : Nat → Nat → Bool) (a j : Nat) : Nat → Nat → Bool := fun b => bif Nat.beq b a then (fun i => bif Nat.beq i j then true else μ a i) else μ b
def clB (μ : Nat → Nat → Bool) (a : Nat) : Nat → Nat → Bool := fun b => bif Nat.beq b a then (fun _ => false) else μ b
def zrM (σ : Mem) (a : Nat) : Mem := fun b => bif Nat.beq b a then (fun _ => 0) else σ b
theorem beq_ne {a b : Nat} (h : a ≠ b) : Nat.beq a b = false := by
  cases hb : Nat.beq a b with
  | false => rfl
  | true => exact absurd (Nat.eq_of_beq_eq_true hb) h
theorem beq_self (a : Nat) : Nat.beq a a = true := Nat.beq_refl a
theorem mkB_ne {μ : Nat → Nat → Bool} {a j b : Nat} (h : b ≠ a) : mkB μ a j b = μ b := by unfold mkB; rw [beq_ne h]; rfl
theorem mkB_at (μ : Nat → Nat → Bool) (a j i : Nat) : mkB μ a j a i = (bif Nat.beq i j then true else μ a i) := by unfold mkB; rw [beq_self]; rfl
theorem clB_ne {μ : Nat → Nat → Bool} {a b : Nat} (h : b ≠ a) : clB μ a b = μ b := by unfold clB; rw [beq_ne h]; rfl
theorem clB_at (μ : Nat → Nat → Bool) (a i : Nat) : clB μ a a i = false := by unfold clB; rw [beq_self]; rfl
theorem zrM_ne {σ : Mem} {a b : Nat} (h : b ≠ a) : zrM σ a b = σ b := by unfold zrM; rw [beq_ne h]; rfl
theorem zrM_at (σ : Mem) (a : Nat) : zrM σ a a = fun _ => 0 := by unfold zrM; rw [beq_self]; rfl
def szS : Nat → Nat
  | 0 => 0
  | n + 1 => szS n + (sh n).2
theorem szS_mono {n m : Nat} (h : n ≤ m) : szS n ≤ szS m := by
  induction h with
  | refl => exact Nat.le_refl _
  | step _ ih => exact Nat.le_trans ih (Nat.le_add_right _ _)
theorem szS_succ (n : Nat) : szS (n + 1) = szS n + (sh n).2 := rfl
def ceAV (S : am_S) (σ : Mem) (μ : Nat → Nat → Bool) (ci a j : Nat) : Value := bif fr ci j then (bif μ a j then .ref (S.1 + rf a j) else .null) else .int (σ a j)
def rfA (S : am_S) (μ : Nat → Nat → Bool) (a i : Nat) : Option Nat := bif μ a i || Nat.ble (sh a).2 i then some (S.1 + rf a i) else none
def ceA (S : am_S) (h : AMem) (a : Nat) : va_E :=
  if (sh a).1 < 10 then .inr ((sh a).1, (List.range (sh a).2).map (ceAV S h.1 h.2.1 (sh a).1 a))
  else if (sh a).1 < 102 then .inl (S.2.2.1 ((sh a).1 - 100), (sh a).2, .inl (h.1 a))
  else .inl (S.2.2.1 ((sh a).1 - 100), (sh a).2, .inr (.inr (.inr (.inr (rfA S h.2.1 a)))))
def vwA (S : am_S) (h : AMem) : va_W := (List.range h.2.2).map (fun a => (S.1 + a, ceA S h a))
theorem vwA_at {S : am_S} {h : AMem} {a : Nat} (hl : a < h.2.2) : (vwA S h)[a]? = some (S.1 + a, ceA S h a) := by
  unfold vwA
  rw [List.getElem?_map, List.getElem?_range hl]
  rfl
theorem vwA_len (S : am_S) (h : AMem) : (vwA S h).length = h.2.2 := by unfold vwA; rw [List.length_map, List.length_range]
theorem vwA_of {S : am_S} {h : AMem} {a : Nat} {q : Nat × va_E} (hq : (vwA S h)[a]? = some q) : a < h.2.2 ∧ q = (S.1 + a, ceA S h a) := by
  have hl : a < h.2.2 := by
    have := (List.getElem?_eq_some_iff.mp hq).1
    rw [vwA_len] at this
    exact this
  rw [vwA_at hl] at hq
  exact ⟨hl, (Option.some.inj hq).symm⟩
def am_AA (S : am_S) : Nat → Prop := fun q => S.1 ≤ q
theorem vwA_D (S : am_S) (h : AMem) : va_D (am_AA S) (vwA S h) := by
  refine ⟨fun i j p q hi hj e => ?_, fun k q hk => ?_⟩
  · obtain ⟨h1, rfl⟩ := vwA_of hi
    obtain ⟨h2, rfl⟩ := vwA_of hj
    dsimp only at e
    omega
  · obtain ⟨h1, rfl⟩ := vwA_of hk
    exact Nat.le_add_right _ _
theorem vwA_set {S : am_S} {h h' : AMem} {a : Nat} {e : va_E} (hl : a < h.2.2) (hn : h'.2.2 = h.2.2) (h1 : ceA S h' a = e) (h2 : ∀ b, b ≠ a → ceA S h' b = ceA S h b) : (vwA S h).set a (S.1 + a, e) = vwA S h' := by
  apply List.ext_getElem?
  intro b
  by_cases hb : b = a
  · subst hb
    rw [vwA_at (by omega), h1, List.getElem?_set_self (by rw [vwA_len]; exact hl)]
  · rw [List.getElem?_set_ne (Ne.symm hb)]
    by_cases hbn : b < h.2.2
    · rw [vwA_at hbn, vwA_at (by omega), h2 b hb]
    · rw [List.getElem?_eq_none (by rw [vwA_len]; omega), List.getElem?_eq_none (by rw [vwA_len]; omega)]
theorem vwA_push {S : am_S} {h h' : AMem} (hn : h'.2.2 = h.2.2 + 1) (h2 : ∀ b, b < h.2.2 → ceA S h' b = ceA S h b) : vwA S h' = vwA S h ++ [(S.1 + h.2.2, ceA S h' h.2.2)] := by
  unfold vwA
  rw [hn, List.range_succ, List.map_append]
  congr 1
  apply List.map_congr_left
  intro b hb
  rw [h2 b (List.mem_range.mp hb)]
theorem ceA_eq {S : am_S} {h h' : AMem} {b : Nat} (e1 : h'.1 b = h.1 b) (e2 : h'.2.1 b = h.2.1 b) : ceA S h' b = ceA S h b := by
  have a1 : ceAV S h'.1 h'.2.1 (sh b).1 b = ceAV S h.1 h.2.1 (sh b).1 b := by
    funext j
    unfold ceAV
    rw [e1, e2]
  have a2 : rfA S h'.2.1 b = rfA S h.2.1 b := by
    funext i
    unfold rfA
    rw [e2]
  unfold ceA
  rw [a1, a2, e1]
theorem ceA_obj {S : am_S} {h : AMem} {a ci : Nat} (e : (sh a).1 = ci) (hc : ci < 10) : ceA S h a = .inr (ci, (List.range (sh a).2).map (ceAV S h.1 h.2.1 ci a)) := by
  subst e
  unfold ceA
  rw [if_pos hc]
theorem ceA_arr {S : am_S} {h : AMem} {a t : Nat} (e : (sh a).1 = t) (h1 : 100 ≤ t) (h2 : t < 102) : ceA S h a = .inl (S.2.2.1 (t - 100), (sh a).2, .inl (h.1 a)) := by
  subst e
  unfold ceA
  rw [if_neg (by omega), if_pos h2]
theorem ceA_ref {S : am_S} {h : AMem} {a t : Nat} (e : (sh a).1 = t) (h1 : 102 ≤ t) : ceA S h a = .inl (S.2.2.1 (t - 100), (sh a).2, .inr (.inr (.inr (.inr (rfA S h.2.1 a))))) := by
  subst e
  unfold ceA
  rw [if_neg (by omega), if_neg (by omega)]
/-! what stays; contracts -/
def aoL : List String := [RX4, RX1, RX3, RX7]
def nsL : List (String × Nat × MethodName) := [(RX3, 40, yX4_init), (RX9, 37, yX8_init), (RX9, 44, yX6_init), (RX9, 49, yX1_init), (RX9, 56, yX2_init), (RX9, 74, yX7_init)]
def am_StA (S : am_S) (U : State) : Prop := va_K S.2.1 am_cl (am_tys S) U ∧ (∀ C ∈ aoL, va_AO C U) ∧ ∀ q ∈ nsL, va_Nw (.methodLinkNest q.1 q.2.1 q.2.2 RX9) U
theorem am_StA.go {S : am_S} {s U : State} (h : am_StA S s) (hW : s.WarmedH U.vm) : am_StA S U := ⟨h.1.moved hW.alike, fun C hC => (h.2.1 C hC).moved hW.alike, fun q hq => (h.2.2 q hq).warmM hW⟩
theorem am_StA.blind {S : am_S} {U U' : State} (hv : U'.vm = U.vm) (h : am_StA S U) : am_StA S U' := by
  have ha : U.vm.Alike U'.vm := by rw [hv]; exact Vm.Alike.refl U.vm
  exact ⟨h.1.moved ha, fun C hC => (h.2.1 C hC).moved ha, fun q hq => (h.2.2 q hq).same rfl hv.symm⟩
def am_rmA (n mc ms : Nat) : Room := { frames := n, cells := mc, slots := ms, locals := 40 * n }
def am_WdA (S : am_S) (h : AMem) (U : State) : Prop := va_P S.2.1 am_cl (vwA S h) U.heap ∧ U.heap.size = S.1 + h.2.2 ∧ am_StA S U
def am_QcA (S : am_S) (r : am_R AMem) : Array Value → State → Outcome → State → Prop := fun _ st o t => o = .returned none ∧ va_P S.2.1 am_cl (vwA S r.2) t.heap ∧ t.heap.size = S.1 + r.2.2.2 ∧ va_F (am_AA S) st t
def am_MetA (n : Nat) (y : MethodName) (cc : ByteArray) (maxL : Nat) (F : Nat → List Value → AMem → Option (am_R AMem)) : Prop :=
  ∀ (l : Launch) (S : am_S) (B : Nat) (avs : List Value) (h : AMem) (r : am_R AMem), h.2.2 ≤ B → B ≤ NC → F B avs h = some r → Met l y (.code y cc maxL none :: am_tbl) (am_rmA n (B - h.2.2) (szS B - szS h.2.2)) (va_Pc (avs.map (am_cv (am_ad S))) (am_WdA S h)) (am_QcA S r) (B - h.2.2) (szS B - szS h.2.2) (am_AA S)
def am_VA (S : am_S) (n n0 B : Nat) (g : am_G) : Prop := match g with
  | (_, _, _, R, s, _, _, _, _, _, _) => am_StA S s ∧ n ≤ R.frames ∧ 40 * n ≤ R.locals ∧ B - n0 ≤ R.cells ∧ szS B - szS n0 ≤ R.slots ∧ S.1 ≤ s.heap.size ∧ B ≤ NC
def am_IN (g : am_G) : Prop := match g with
  | (_, _, _, _, _, _, _, _, meth, _, _) => meth.name = "<init>"
def rmA (S : am_S) (n0 B : Nat) (g : am_G) : am_P AMem := fun h H locs cells slots => match g with
  | (_, _, _, _, s, _, _, _, _, _, _) => va_P S.2.1 am_cl (vwA S h) H ∧ va_S (am_AA S) s.heap H locs ∧ H.size = S.1 + h.2.2 ∧ n0 ≤ h.2.2 ∧ h.2.2 ≤ B ∧ cells = h.2.2 - n0 ∧ slots = szS h.2.2 - szS n0
/-! the instructions -/
def i_anew (ci B nx : Nat) : am_I AMem := fun ls st h k => bif Nat.beq (sh h.2.2).1 ci && Nat.blt h.2.2 B then k nx ls (.ref h.2.2 :: st) (zrM h.1 h.2.2, clB h.2.1 h.2.2, h.2.2 + 1) else none
def am_nw (t B c : Nat) (n : Int32) : Bool := Nat.beq (sh c).1 t && Nat.blt c B && Nat.beq n.toNatClampNeg (sh c).2 && !(decide (n < 0))
def i_anwa (t B nx : Nat) : am_I AMem := fun ls st h k => match st with
  | .int n :: st' => bif am_nw t B h.2.2 n then k nx ls (.ref h.2.2 :: st') (zrM h.1 h.2.2, clB h.2.1 h.2.2, h.2.2 + 1) else none
  | _ => none
def i_agetR (ci j nx : Nat) : am_I AMem := fun ls st h k => match st with
  | .ref a :: st' => bif Nat.beq (sh a).1 ci && Nat.blt a h.2.2 && h.2.1 a j then k nx ls (.ref (rf a j) :: st') h else none
  | _ => none
def i_aputI (ci j nx : Nat) : am_I AMem := fun ls st h k => match st with
  | .int v :: .ref a :: st' => bif Nat.beq (sh a).1 ci && Nat.blt a h.2.2 then k nx ls st' (setM h.1 a j v, h.2.1, h.2.2) else none
  | _ => none
def i_aputZ (ci j nx : Nat) : am_I AMem := fun ls st h k => match st with
  | .int v :: .ref a :: st' => bif Nat.beq (sh a).1 ci && Nat.blt a h.2.2 then o_zr v (k nx ls st' (setM h.1 a j v, h.2.1, h.2.2)) else none
  | _ => none
def i_aputR (ci j nx : Nat) : am_I AMem := fun ls st h k => match st with
  | .ref b :: .ref a :: st' => bif Nat.beq (sh a).1 ci && Nat.blt a h.2.2 && Nat.beq b (rf a j) then k nx ls st' (h.1, mkB h.2.1 a j, h.2.2) else none
  | _ => none
def i_aiast (nx : Nat) : am_I AMem := fun ls st h k => match st with
  | .int v :: .int i :: .ref a :: st' => bif Nat.beq (sh a).1 100 && Nat.blt a h.2.2 && am_inb i (sh a).2 then k nx ls st' (setM h.1 a i.toNatClampNeg v, h.2.1, h.2.2) else none
  | _ => none
def i_aast (t ci nx : Nat) : am_I AMem := fun ls st h k => match st with
  | .ref b :: .int i :: .ref a :: st' => bif Nat.beq (sh a).1 t && Nat.blt a h.2.2 && am_inb i (sh a).2 && Nat.blt b h.2.2 && Nat.beq (sh b).1 ci && Nat.beq b (rf a i.toNatClampNeg) then k nx ls st' (h.1, mkB h.2.1 a i.toNatClampNeg, h.2.2) else none
  | _ => none
def i_obj (nx : Nat) : am_I AMem := fun ls st h k => match st with
  | .ref _ :: st' => bif am_low st' then k nx ls st' h else none
  | _ => none
def o_sp (x : Option (am_R AMem)) (n : Nat) (k : AMem → Option (am_R AMem)) : Option (am_R AMem) := match x with
  | some (none, h) => bif Nat.beq h.2.2 n then k h else none
  | _ => none
def i_sp (F : Nat → List Value → AMem → Option (am_R AMem)) (inc B nx : Nat) : am_I AMem := fun ls st h k => match st with
  | .ref a :: st' => bif am_low st' && Nat.ble (h.2.2 + inc) B then o_sp (F (h.2.2 + inc) [.ref a] h) (h.2.2 + inc) (fun h' => k nx ls st' h') else none
  | _ => none
section AmAlloc
variable {g : am_G} {S : am_S} {n n0 B nL : Nat} {r : am_R AMem} {own : String} {cc : ByteArray} {pc nx : Nat}
theorem sd_anew (X : am_X g own cc nL) (V : am_VA S n n0 B g) {C : String} {T : u_T} {N ci idx : Nat} (ty0 : Nat → FieldType) (hty : ∀ k, k < N → parseFieldDescriptor (T k).2.2.1 = some (ty0 k)) (hdf : ∀ j, j < N → defaultValue (ty0 j) = bif fr ci j then .null else .int 0) (hc : am_cl[ci]? = some (C, T, N)) (hnf : nfL.getD ci 0 = N) (hin : ∀ w ∈ u_ws C T N, w ∈ am_tbl) (hci : Nat.ble (ci + 1) 10 = true) (hlk : Cond.classLink own idx C ∈ am_tbl) (hins : Cond.instantiable C N ∈ am_tbl) (hini : Cond.initialized C ∈ am_tbl) (hd : decode cc pc = .ok (.new idx, 3)) (hn : pc + 3 = nx) : am_snd g (am_ad S) (rmA S n0 B g) nL r pc (i_anew ci B nx) := by
  subst hn
  obtain ⟨p, l, e, R, s, m, args, below, meth, c, Q⟩ := g
  obtain ⟨hx, hb, hml, ho, hts⟩ := X
  obtain ⟨v1, v2, v3, v4, v5, v6, v8⟩ := V
  intro ls st h k hk K H locs cells slots lsC hR hL
  unfold i_anew at hk
  cases hg : (Nat.beq (sh h.2.2).1 ci && Nat.blt h.2.2 B) with
  | false => rw [hg] at hk; cases hk
  | true =>
    rw [hg] at hk
    simp only [Bool.and_eq_true] at hg
    have e1 : (sh h.2.2).1 = ci := Nat.eq_of_beq_eq_true hg.1
    have e2 : h.2.2 < B := Nat.le_of_ble_eq_true hg.2
    obtain ⟨q1, q2, q3, q4, q5, q6, q7⟩ := hR
    have hci' : ci < 10 := Nat.le_of_ble_eq_true hci
    have hlt : h.2.2 < NC := by omega
    have hsz : (sh h.2.2).2 = N := by rw [sh_obj _ hlt (by omega), e1, hnf]
    have hKn := v1.1.1 ci _ hc
    have hz1 : szS (h.2.2 + 1) ≤ szS B := szS_mono e2
    have hz0 : szS n0 ≤ szS h.2.2 := szS_mono q4
    have hzs := szS_succ h.2.2
    rw [hsz] at hzs
    refine W.newcK hx hb ho (hts _ hlk) (hts _ hins) (hts _ hini) rfl hd (by omega) (by omega) hKn.2.1 q3 fun H1 kC hkC b1 z1 o1 => ?_
    have hk1 : ∀ (k : Nat) (x : Nat × va_E), (vwA S h)[k]? = some x → H1[x.1]? = H[x.1]? := fun k x hx => o1 x.1 (by rw [← q3]; exact (q1 k x hx).lt)
    have hkk := K _ _ _ _ hk H1 locs (cells + 1) (slots + N) lsC ⟨?_, ?_, by omega, by show n0 ≤ h.2.2 + 1; omega, e2, by show cells + 1 = h.2.2 + 1 - n0; omega, by show slots + N = szS (h.2.2 + 1) - szS n0; omega⟩ hL
    · have hkk : am_wp (p, l, e, R, s, m, args, below, meth, c, Q) H1 locs (cells + 1) (slots + N) (pc + 3) lsC (.ref ((am_ad S).1 h.2.2) :: st.map (am_cv (am_ad S))) := hkk
      rw [am_ad_lt hlt] at hkk
      exact hkk
    · rw [vwA_push (h := h) rfl (fun b hb => ceA_eq (zrM_ne (by omega)) (clB_ne (by omega)))]
      refine (q1.kept hk1).app (fun k x hx => ?_)
      have hz : k < 1 := (List.getElem?_eq_some_iff.mp hx).1
      rw [show k = 0 by omega] at hx
      cases hx
      rw [ceA_obj e1 hci']
      refine ⟨_, hc, (u_born ty0 hts hin hKn hkC b1 hty).to (fun j hj => ?_)⟩
      rw [hdf j hj]
      unfold vp_V
      rw [List.getD_eq_getElem?_getD, List.getElem?_map, List.getElem?_range (by omega)]
      show _ = ceAV S (zrM h.1 h.2.2) (clB h.2.1 h.2.2) ci h.2.2 j
      unfold ceAV
      rw [clB_at, zrM_at]
      rfl
    · exact ⟨Nat.le_trans q2.1 (by omega), fun x h1 h2 => (o1 x (by rw [← q3]; exact Nat.lt_of_lt_of_le h1 q2.1)).trans (q2.2.1 x h1 h2), q2.2.2⟩
theorem am_nw_of {t B c : Nat} {n : Int32} (h : am_nw t B c n = true) : (sh c).1 = t ∧ c < B ∧ n.toNatClampNeg = (sh c).2 ∧ ¬ n < 0 := by
  unfold am_nw at h
  simp only [Bool.and_eq_true, Bool.not_eq_true', decide_eq_false_iff_not] at h
  exact ⟨Nat.eq_of_beq_eq_true h.1.1.1, Nat.le_of_ble_eq_true h.1.1.2, Nat.eq_of_beq_eq_true h.1.2, h.2⟩
theorem sd_anwI (X : am_X g own cc nL) (V : am_VA S n n0 B g) {t : Nat} {atype : ArrayType} (ht1 : 100 ≤ t) (ht2 : t < 102) (hE : (am_tys S)[t - 100]? = some (S.2.2.1 (t - 100), newarray.typeOf atype)) (hRA : ∀ (U : State) (c : ClassId), va_RA U c (newarray.typeOf atype) → U.vm.findClass ("[" ++ (newarray.typeOf atype).toString) = some c) (harr : Cond.arrayClass (newarray.typeOf atype) ∈ am_tbl) (hdv : defaultValue (newarray.typeOf atype) = .int 0) (hcb : Nat.ble (componentBytes (newarray.typeOf atype)) 4 = true) (hd : decode cc pc = .ok (.newarray atype, 2)) (hn : pc + 2 = nx) : am_snd g (am_ad S) (rmA S n0 B g) nL r pc (i_anwa t B nx) := by
  subst hn
  obtain ⟨p, l, e, R, s, m, args, below, meth, c, Q⟩ := g
  obtain ⟨hx, hb, hml, ho, hts⟩ := X
  obtain ⟨v1, v2, v3, v4, v5, v6, v8⟩ := V
  intro ls st h k hk K H locs cells slots lsC hR hL
  unfold i_anwa at hk
  split at hk
  · next n st' =>
    cases hg : am_nw t B h.2.2 n with
    | false => rw [hg] at hk; cases hk
    | true =>
      rw [hg] at hk
      obtain ⟨e1, e2, e3, e4⟩ := am_nw_of hg
      obtain ⟨q1, q2, q3, q4, q5, q6, q7⟩ := hR
      have hlt : h.2.2 < NC := by omega
      have hz1 : szS (h.2.2 + 1) ≤ szS B := szS_mono e2
      have hz0 : szS n0 ≤ szS h.2.2 := szS_mono q4
      have hzs := szS_succ h.2.2
      have h160 := sh_sz h.2.2
      have hcb' := Nat.le_of_ble_eq_true hcb
      refine va_newaK (N := (sh h.2.2).2) hx hb (hts _ harr) rfl hd rfl e4 e3 (Nat.le_trans (Nat.mul_le_mul h160 hcb') (by decide)) (by omega) (by omega) q3 fun H1 cA b1 z1 o1 hAr hNm => ?_
      have hcA : cA = S.2.2.1 (t - 100) := Option.some.inj (hNm.symm.trans (hRA _ _ (v1.1.2 _ _ hE).2))
      subst hcA
      have hk1 : ∀ (k : Nat) (x : Nat × va_E), (vwA S h)[k]? = some x → H1[x.1]? = H[x.1]? := fun k x hx => o1 x.1 (by rw [← q3]; exact (q1 k x hx).lt)
      have hkk := K _ _ _ _ hk H1 locs (cells + 1) (slots + (sh h.2.2).2) lsC ⟨?_, ?_, by omega, by show n0 ≤ h.2.2 + 1; omega, e2, by show cells + 1 = h.2.2 + 1 - n0; omega, by show slots + (sh h.2.2).2 = szS (h.2.2 + 1) - szS n0; omega⟩ hL
      · have hkk : am_wp (p, l, e, R, s, m, args, below, meth, c, Q) H1 locs (cells + 1) (slots + (sh h.2.2).2) (pc + 2) lsC (.ref ((am_ad S).1 h.2.2) :: st'.map (am_cv (am_ad S))) := hkk
        rw [am_ad_lt hlt] at hkk
        exact hkk
      · rw [vwA_push (h := h) rfl (fun b hb => ceA_eq (zrM_ne (by omega)) (clB_ne (by omega)))]
        refine (q1.kept hk1).app (fun k x hx => ?_)
        have hz : k < 1 := (List.getElem?_eq_some_iff.mp hx).1
        rw [show k = 0 by omega] at hx
        cases hx
        rw [ceA_arr e1 ht1 ht2]
        show H1[S.1 + h.2.2]? = some (vp_cell _ _)
        rw [vp_cell_i, b1, hdv]
        show _ = some (arrV _ _ (fun j => .int (zrM h.1 h.2.2 h.2.2 j)))
        rw [zrM_at]
      · exact ⟨Nat.le_trans q2.1 (by omega), fun x h1 h2 => (o1 x (by rw [← q3]; exact Nat.lt_of_lt_of_le h1 q2.1)).trans (q2.2.1 x h1 h2), q2.2.2⟩
  · cases hk
theorem arrV_ext {cA : ClassId} {N : Nat} {f f' : Nat → Value} (h : ∀ j, j < N → f j = f' j) : arrV cA N f = arrV cA N f' := by
  unfold arrV
  congr 1
  apply Array.ext
  · simp
  · intro i h1 h2
    simp at h1
    simp [h i h1]
theorem sd_anwq (X : am_X g own cc nL) (V : am_VA S n n0 B g) {t idx : Nat} {C : String} (ht1 : 102 ≤ t) (hE : (am_tys S)[t - 100]? = some (S.2.2.1 (t - 100), .object C)) (hAO : C ∈ aoL) (hlk : Cond.classLink own idx C ∈ am_tbl) (hd : decode cc pc = .ok (.anewarray idx, 3)) (hn : pc + 3 = nx) : am_snd g (am_ad S) (rmA S n0 B g) nL r pc (i_anwa t B nx) := by
  subst hn
  obtain ⟨p, l, e, R, s, m, args, below, meth, c, Q⟩ := g
  obtain ⟨hx, hb, hml, ho, hts⟩ := X
  obtain ⟨v1, v2, v3, v4, v5, v6, v8⟩ := V
  intro ls st h k hk K H locs cells slots lsC hR hL
  unfold i_anwa at hk
  split at hk
  · next n st' =>
    cases hg : am_nw t B h.2.2 n with
    | false => rw [hg] at hk; cases hk
    | true =>
      rw [hg] at hk
      obtain ⟨e1, e2, e3, e4⟩ := am_nw_of hg
      obtain ⟨q1, q2, q3, q4, q5, q6, q7⟩ := hR
      have hlt : h.2.2 < NC := by omega
      have hz1 : szS (h.2.2 + 1) ≤ szS B := szS_mono e2
      have hz0 : szS n0 ≤ szS h.2.2 := szS_mono q4
      have hzs := szS_succ h.2.2
      have h160 := sh_sz h.2.2
      refine W.anew hx hb ho (hts _ hlk) (va_AO.use (v1.2.1 C hAO)) rfl hd rfl e4 (by rw [e3]; omega) (by omega) (by rw [e3]; omega) fun cA kA comp f1 f2 f3 f4 => ?_
      obtain ⟨-, -, -, -, -, f5⟩ := (v1.1.2 _ _ hE).2
      have hcA : cA = S.2.2.1 (t - 100) := Option.some.inj (f1.symm.trans f5)
      subst hcA
      rw [e3]
      generalize hH1 : H.push ({ cls := S.2.2.1 (t - 100), slots := Array.replicate (sh h.2.2).2 .null, vm := .none } : Cell) = H1
      have z1 : H1.size = H.size + 1 := by rw [← hH1, Array.size_push]
      have b1 : H1[H.size]? = some (arrV (S.2.2.1 (t - 100)) (sh h.2.2).2 (fun _ => .null)) := by rw [← hH1, Array.getElem?_push_size, ← arrV_new]
      have o1 : ∀ q : Nat, q < H.size → H1[q]? = H[q]? := fun q hq => by rw [← hH1, Array.getElem?_push, if_neg (Nat.ne_of_lt hq)]
      have hk1 : ∀ (k : Nat) (x : Nat × va_E), (vwA S h)[k]? = some x → H1[x.1]? = H[x.1]? := fun k x hx => o1 x.1 ((q1 k x hx).lt)
      have hkk := K _ _ _ _ hk H1 locs (cells + 1) (slots + (sh h.2.2).2) lsC ⟨?_, ?_, by show H1.size = S.1 + (h.2.2 + 1); omega, by show n0 ≤ h.2.2 + 1; omega, e2, by show cells + 1 = h.2.2 + 1 - n0; omega, by show slots + (sh h.2.2).2 = szS (h.2.2 + 1) - szS n0; omega⟩ hL
      · have hkk : am_wp (p, l, e, R, s, m, args, below, meth, c, Q) H1 locs (cells + 1) (slots + (sh h.2.2).2) (pc + 3) lsC (.ref ((am_ad S).1 h.2.2) :: st'.map (am_cv (am_ad S))) := hkk
        rw [am_ad_lt hlt, ← q3] at hkk
        exact hkk
      · rw [vwA_push (h := h) rfl (fun b hb => ceA_eq (zrM_ne (by omega)) (clB_ne (by omega)))]
        refine (q1.kept hk1).app (fun k x hx => ?_)
        have hz : k < 1 := (List.getElem?_eq_some_iff.mp hx).1
        rw [show k = 0 by omega] at hx
        cases hx
        rw [ceA_ref e1 ht1]
        show H1[S.1 + h.2.2]? = some (vp_cell _ _)
        rw [vp_cell_q, ← q3, b1]
        congr 1
        refine arrV_ext (fun j hj => ?_)
        unfold rfA
        have hble : Nat.ble (sh h.2.2).2 j = false := by
          cases hbb : Nat.ble (sh h.2.2).2 j with
          | false => rfl
          | true => exact absurd (Nat.le_of_ble_eq_true hbb) (by omega)
        show _ = va_rf (bif clB h.2.1 h.2.2 h.2.2 j || _ then _ else _)
        rw [clB_at, hble]
        rfl
      · exact ⟨Nat.le_trans q2.1 (by omega), fun x h1 h2 => (o1 x (Nat.lt_of_lt_of_le h1 q2.1)).trans (q2.2.1 x h1 h2), q2.2.2⟩
  · cases hk
end AmAlloc
