/-! the instructions that touch the memory -/
def o_cls {α : Type} (a ci : Nat) (k : Option α) : Option α := if (sh a).1 = ci then k else none
def am_inb (i : Int32) (n : Nat) : Bool := !(decide (i < 0)) && !(Nat.ble n i.toNatClampNeg)
theorem am_inb_in {i : Int32} {n : Nat} (h : am_inb i n = true) : vp_in i n := by
  unfold am_inb at h
  simp only [Bool.and_eq_true, Bool.not_eq_true', decide_eq_false_iff_not] at h
  rintro (h1 | h1)
  · exact h.1 h1
  · have := Nat.ble_eq_true_of_le h1
    rw [h.2] at this
    cases this
theorem am_inb_of {i : Int32} {n : Nat} (h : vp_in i n) : am_inb i n = true := by
  unfold am_inb
  have h1 : ¬ i < 0 := fun z => h (Or.inl z)
  have h2 : ¬ n ≤ i.toNatClampNeg := fun z => h (Or.inr z)
  have h3 : Nat.ble n i.toNatClampNeg = false := by
    cases hb : Nat.ble n i.toNatClampNeg with
    | false => rfl
    | true => exact absurd (Nat.le_of_ble_eq_true hb) h2
  simp [h1, h3]
def o_ix {α : Type} (t a : Nat) (i : Int32) (k : Option α) : Option α := if (sh a).1 = t ∧ am_inb i (sh a).2 = true then k else none
def i_getI (ci j nx : Nat) : am_I Mem := fun ls st σ k => match st with
  | .ref a :: st' => o_cls a ci (k nx ls (.int (σ a j) :: st') σ)
  | _ => none
def i_getR (ci j nx : Nat) : am_I Mem := fun ls st σ k => match st with
  | .ref a :: st' => o_cls a ci (k nx ls (.ref (rf a j) :: st') σ)
  | _ => none
def i_putI (ci j nx : Nat) : am_I Mem := fun ls st σ k => match st with
  | .int v :: .ref a :: st' => o_cls a ci (k nx ls st' (setM σ a j v))
  | _ => none
def i_putZ (ci j nx : Nat) : am_I Mem := fun ls st σ k => match st with
  | .int v :: .ref a :: st' => o_zr v (o_cls a ci (k nx ls st' (setM σ a j v)))
  | _ => none
def i_iald (nx : Nat) : am_I Mem := fun ls st σ k => match st with
  | .int i :: .ref a :: st' => o_ix 100 a i (k nx ls (.int (σ a i.toNatClampNeg) :: st') σ)
  | _ => none
def i_bald (nx : Nat) : am_I Mem := fun ls st σ k => match st with
  | .int i :: .ref a :: st' => o_ix 101 a i (k nx ls (.int (σ a i.toNatClampNeg) :: st') σ)
  | _ => none
def i_rald (t nx : Nat) : am_I Mem := fun ls st σ k => match st with
  | .int i :: .ref a :: st' => o_ix t a i (k nx ls (.ref (rf a i.toNatClampNeg) :: st') σ)
  | _ => none
def i_iast (nx : Nat) : am_I Mem := fun ls st σ k => match st with
  | .int v :: .int i :: .ref a :: st' => o_ix 100 a i (k nx ls st' (setM σ a i.toNatClampNeg v))
  | _ => none
def i_bast (nx : Nat) : am_I Mem := fun ls st σ k => match st with
  | .int v :: .int i :: .ref a :: st' => o_ix 101 a i (k nx ls st' (setM σ a i.toNatClampNeg v.toInt8.toInt32))
  | _ => none
theorem ct_getI (ci j nx : Nat) : am_cont (i_getI ci j nx) := fun ls st h => by
  unfold i_getI o_cls
  split
  · split <;> first | exact ⟨some (.inl (_, _, _, _)), fun _ => rfl⟩ | exact ⟨none, fun _ => rfl⟩
  · exact ⟨none, fun _ => rfl⟩
theorem ct_getR (ci j nx : Nat) : am_cont (i_getR ci j nx) := fun ls st h => by
  unfold i_getR o_cls
  split
  · split <;> first | exact ⟨some (.inl (_, _, _, _)), fun _ => rfl⟩ | exact ⟨none, fun _ => rfl⟩
  · exact ⟨none, fun _ => rfl⟩
theorem ct_putI (ci j nx : Nat) : am_cont (i_putI ci j nx) := fun ls st h => by
  unfold i_putI o_cls
  split
  · split <;> first | exact ⟨some (.inl (_, _, _, _)), fun _ => rfl⟩ | exact ⟨none, fun _ => rfl⟩
  · exact ⟨none, fun _ => rfl⟩
theorem ct_putZ (ci j nx : Nat) : am_cont (i_putZ ci j nx) := fun ls st h => by
  unfold i_putZ o_cls o_zr
  split
  · split
    · split <;> first | exact ⟨some (.inl (_, _, _, _)), fun _ => rfl⟩ | exact ⟨none, fun _ => rfl⟩
    · exact ⟨none, fun _ => rfl⟩
  · exact ⟨none, fun _ => rfl⟩
theorem ct_iald (nx : Nat) : am_cont (i_iald nx) := fun ls st h => by
  unfold i_iald o_ix
  split
  · split <;> first | exact ⟨some (.inl (_, _, _, _)), fun _ => rfl⟩ | exact ⟨none, fun _ => rfl⟩
  · exact ⟨none, fun _ => rfl⟩
theorem ct_bald (nx : Nat) : am_cont (i_bald nx) := fun ls st h => by
  unfold i_bald o_ix
  split
  · split <;> first | exact ⟨some (.inl (_, _, _, _)), fun _ => rfl⟩ | exact ⟨none, fun _ => rfl⟩
  · exact ⟨none, fun _ => rfl⟩
theorem ct_rald (t nx : Nat) : am_cont (i_rald t nx) := fun ls st h => by
  unfold i_rald o_ix
  split
  · split <;> first | exact ⟨some (.inl (_, _, _, _)), fun _ => rfl⟩ | exact ⟨none, fun _ => rfl⟩
  · exact ⟨none, fun _ => rfl⟩
theorem ct_iast (nx : Nat) : am_cont (i_iast nx) := fun ls st h => by
  unfold i_iast o_ix
  split
  · split <;> first | exact ⟨some (.inl (_, _, _, _)), fun _ => rfl⟩ | exact ⟨none, fun _ => rfl⟩
  · exact ⟨none, fun _ => rfl⟩
theorem ct_bast (nx : Nat) : am_cont (i_bast nx) := fun ls st h => by
  unfold i_bast o_ix
  split
  · split <;> first | exact ⟨some (.inl (_, _, _, _)), fun _ => rfl⟩ | exact ⟨none, fun _ => rfl⟩
  · exact ⟨none, fun _ => rfl⟩
theorem am_ad_lt {S : am_S} {a : Nat} (h : a < NC) : (am_ad S).1 a = S.1 + a := by
  show am_adf S a = _
  unfold am_adf
  rw [if_pos (Nat.lt_of_lt_of_le h (Nat.le_of_ble_eq_true rfl))]
section AmHeap
variable {g : am_G} {S : am_S} {n c0 s0 nL : Nat} {r : am_R Mem} {own : String} {cc : ByteArray} {pc nx : Nat}
theorem sd_getI (X : am_X g own cc nL) (V : am_V S n c0 s0 g) {C : String} {T : u_T} {N ci j idx : Nat} (hc : am_cl[ci]? = some (C, T, N)) (hnf : nfL.getD ci 0 = N) (hin : ∀ w ∈ u_ws C T N, w ∈ am_tbl) (hj : Nat.ble (j + 1) N = true) (hci : Nat.ble (ci + 1) 10 = true) (hf : fr ci j = false) (hw : Cond.fieldLink own idx (T j).1 (T j).2.1 (T j).2.2.1 ∈ am_tbl) (hd : decode cc pc = .ok (.getfield idx, 3)) (hn : pc + 3 = nx) : am_snd g (am_ad S) (rm2 S c0 s0 g) nL r pc (i_getI ci j nx) := by
  subst hn
  obtain ⟨p, l, e, R, s, m, args, below, meth, c, Q⟩ := g
  obtain ⟨hx, hb, hml, ho, hts⟩ := X
  intro ls st h k hk K H locs cells slots lsC hR hL
  unfold i_getI o_cls at hk
  split at hk
  · next a st' =>
    split at hk
    · next hcl =>
      have hci' : ci < 10 := Nat.le_of_ble_eq_true hci
      have hlt : a < NC := sh_lt (by omega)
      have hsz : (sh a).2 = N := by rw [sh_obj a hlt (by omega), hcl, hnf]
      have hj' : j < N := Nat.le_of_ble_eq_true hj
      have he := vw_at (S := S) (σ := h) hlt
      rw [ce_obj hcl hci'] at he
      show am_wp _ _ _ _ _ _ _ (.ref ((am_ad S).1 a) :: _)
      rw [am_ad_lt hlt]
      refine va_get (v := .int (h a j)) hx hb hts hin ho V.1.1 hR.1 a he hc j hj' (hts _ hw) (fun _ h9 => h9) ?_ hd (K _ _ _ _ hk H locs cells slots lsC hR hL)
      rw [List.getElem?_map, List.getElem?_range (by omega)]
      show some (ceV S h ci a j) = _
      unfold ceV
      rw [hf]
      rfl
    · cases hk
  · cases hk
theorem sd_getR (X : am_X g own cc nL) (V : am_V S n c0 s0 g) {C : String} {T : u_T} {N ci j idx : Nat} (hc : am_cl[ci]? = some (C, T, N)) (hnf : nfL.getD ci 0 = N) (hin : ∀ w ∈ u_ws C T N, w ∈ am_tbl) (hj : Nat.ble (j + 1) N = true) (hci : Nat.ble (ci + 1) 10 = true) (hf : fr ci j = true) (hw : Cond.fieldLink own idx (T j).1 (T j).2.1 (T j).2.2.1 ∈ am_tbl) (hd : decode cc pc = .ok (.getfield idx, 3)) (hn : pc + 3 = nx) : am_snd g (am_ad S) (rm2 S c0 s0 g) nL r pc (i_getR ci j nx) := by
  subst hn
  obtain ⟨p, l, e, R, s, m, args, below, meth, c, Q⟩ := g
  obtain ⟨hx, hb, hml, ho, hts⟩ := X
  intro ls st h k hk K H locs cells slots lsC hR hL
  unfold i_getR o_cls at hk
  split at hk
  · next a st' =>
    split at hk
    · next hcl =>
      have hci' : ci < 10 := Nat.le_of_ble_eq_true hci
      have hlt : a < NC := sh_lt (by omega)
      have hsz : (sh a).2 = N := by rw [sh_obj a hlt (by omega), hcl, hnf]
      have hj' : j < N := Nat.le_of_ble_eq_true hj
      have he := vw_at (S := S) (σ := h) hlt
      rw [ce_obj hcl hci'] at he
      show am_wp _ _ _ _ _ _ _ (.ref ((am_ad S).1 a) :: _)
      rw [am_ad_lt hlt]
      have hkk := K _ _ _ _ hk H locs cells slots lsC hR hL
      have hkk : am_wp (p, l, e, R, s, m, args, below, meth, c, Q) H locs cells slots (pc + 3) lsC (.ref ((am_ad S).1 (rf a j)) :: st'.map (am_cv (am_ad S))) := hkk
      rw [am_ad_lt (rf_lt a j)] at hkk
      refine va_get (v := .ref (S.1 + rf a j)) hx hb hts hin ho V.1.1 hR.1 a he hc j hj' (hts _ hw) (fun _ h9 => h9) ?_ hd hkk
      rw [List.getElem?_map, List.getElem?_range (by omega)]
      show some (ceV S h ci a j) = _
      unfold ceV
      rw [hf]
      rfl
    · cases hk
  · cases hk
theorem sd_putI (X : am_X g own cc nL) (V : am_V S n c0 s0 g) {C : String} {T : u_T} {N ci j idx : Nat} (ty0 : Nat → FieldType) (hty : ∀ k, k < N → parseFieldDescriptor (T k).2.2.1 = some (ty0 k)) (hnm : ∀ a, a < N → ∀ b, b < N → a ≠ b → (T a).2.1 ≠ (T b).2.1) (hc : am_cl[ci]? = some (C, T, N)) (hnf : nfL.getD ci 0 = N) (hin : ∀ w ∈ u_ws C T N, w ∈ am_tbl) (hj : Nat.ble (j + 1) N = true) (hci : Nat.ble (ci + 1) 10 = true) (hf : fr ci j = false) (hfin : (T j).2.2.2 = false) (hI : parseFieldDescriptor (T j).2.2.1 = some .int) (hw : Cond.fieldLink own idx (T j).1 (T j).2.1 (T j).2.2.1 ∈ am_tbl) (hd : decode cc pc = .ok (.putfield idx, 3)) (hn : pc + 3 = nx) : am_snd g (am_ad S) (rm2 S c0 s0 g) nL r pc (i_putI ci j nx) := by
  subst hn
  obtain ⟨p, l, e, R, s, m, args, below, meth, c, Q⟩ := g
  obtain ⟨hx, hb, hml, ho, hts⟩ := X
  intro ls st h k hk K H locs cells slots lsC hR hL
  unfold i_putI o_cls at hk
  split at hk
  · next v a st' =>
    split at hk
    · next hcl =>
      have hci' : ci < 10 := Nat.le_of_ble_eq_true hci
      have hlt : a < NC := sh_lt (by omega)
      have hsz : (sh a).2 = N := by rw [sh_obj a hlt (by omega), hcl, hnf]
      have hj' : j < N := Nat.le_of_ble_eq_true hj
      have he := vw_at (S := S) (σ := h) hlt
      rw [ce_obj hcl hci'] at he
      show am_wp _ _ _ _ _ _ _ (.int v :: .ref ((am_ad S).1 a) :: _)
      rw [am_ad_lt hlt]
      refine va_put (ty := .int) (v := .int v) hx hb hts hin ty0 hty hnm ho V.1.1 hR.1 (vw_D S h) hR.2.1 a he hc j hj' (hts _ hw) (fun _ h9 => h9) hfin hI rfl rfl (by rw [List.length_map, List.length_range]; omega) hd (fun H1 locs1 hP hD hS => ?_)
      rw [vw_putI hcl hci' hlt hf] at hP
      exact K _ _ _ _ hk H1 locs1 cells slots lsC ⟨hP, hS, hR.2.2⟩ hL
    · cases hk
  · cases hk
theorem sd_putZ (X : am_X g own cc nL) (V : am_V S n c0 s0 g) {C : String} {T : u_T} {N ci j idx : Nat} (ty0 : Nat → FieldType) (hty : ∀ k, k < N → parseFieldDescriptor (T k).2.2.1 = some (ty0 k)) (hnm : ∀ a, a < N → ∀ b, b < N → a ≠ b → (T a).2.1 ≠ (T b).2.1) (hc : am_cl[ci]? = some (C, T, N)) (hnf : nfL.getD ci 0 = N) (hin : ∀ w ∈ u_ws C T N, w ∈ am_tbl) (hj : Nat.ble (j + 1) N = true) (hci : Nat.ble (ci + 1) 10 = true) (hf : fr ci j = false) (hfin : (T j).2.2.2 = false) (hI : parseFieldDescriptor (T j).2.2.1 = some .boolean) (hw : Cond.fieldLink own idx (T j).1 (T j).2.1 (T j).2.2.1 ∈ am_tbl) (hd : decode cc pc = .ok (.putfield idx, 3)) (hn : pc + 3 = nx) : am_snd g (am_ad S) (rm2 S c0 s0 g) nL r pc (i_putZ ci j nx) := by
  subst hn
  obtain ⟨p, l, e, R, s, m, args, below, meth, c, Q⟩ := g
  obtain ⟨hx, hb, hml, ho, hts⟩ := X
  intro ls st h k hk K H locs cells slots lsC hR hL
  unfold i_putZ o_cls o_zr at hk
  split at hk
  · next v a st' =>
    split at hk
    · next hz =>
      split at hk
      · next hcl =>
        have hci' : ci < 10 := Nat.le_of_ble_eq_true hci
        have hlt : a < NC := sh_lt (by omega)
        have hsz : (sh a).2 = N := by rw [sh_obj a hlt (by omega), hcl, hnf]
        have hj' : j < N := Nat.le_of_ble_eq_true hj
        have he := vw_at (S := S) (σ := h) hlt
        rw [ce_obj hcl hci'] at he
        show am_wp _ _ _ _ _ _ _ (.int v :: .ref ((am_ad S).1 a) :: _)
        rw [am_ad_lt hlt]
        refine va_put (ty := .boolean) (v := .int v) hx hb hts hin ty0 hty hnm ho V.1.1 hR.1 (vw_D S h) hR.2.1 a he hc j hj' (hts _ hw) (fun _ h9 => h9) hfin hI (by rcases hz with rfl | rfl <;> rfl) (by rcases hz with rfl | rfl <;> rfl) (by rw [List.length_map, List.length_range]; omega) hd (fun H1 locs1 hP hD hS => ?_)
        rw [vw_putI hcl hci' hlt hf] at hP
        exact K _ _ _ _ hk H1 locs1 cells slots lsC ⟨hP, hS, hR.2.2⟩ hL
      · cases hk
    · cases hk
  · cases hk
theorem sd_iald (X : am_X g own cc nL) (V : am_V S n c0 s0 g) (hd : decode cc pc = .ok (.iaload, 1)) (hn : pc + 1 = nx) : am_snd g (am_ad S) (rm2 S c0 s0 g) nL r pc (i_iald nx) := by
  subst hn
  obtain ⟨p, l, e, R, s, m, args, below, meth, c, Q⟩ := g
  obtain ⟨hx, hb, hml, ho, hts⟩ := X
  intro ls st h k hk K H locs cells slots lsC hR hL
  unfold i_iald o_ix at hk
  split at hk
  · next i a st' =>
    split at hk
    · next hcl =>
      have hlt : a < NC := sh_lt (by omega)
      have he := vw_at (S := S) (σ := h) hlt
      rw [ce_arr hcl.1 (by omega) (by omega)] at he
      show am_wp _ _ _ _ _ _ _ (.int i :: .ref ((am_ad S).1 a) :: _)
      rw [am_ad_lt hlt]
      exact va_iald hx hb V.1.1 hR.1 a 0 he rfl (am_inb_in hcl.2) hd (K _ _ _ _ hk H locs cells slots lsC hR hL)
    · cases hk
  · cases hk
theorem sd_bald (X : am_X g own cc nL) (V : am_V S n c0 s0 g) (hd : decode cc pc = .ok (.baload, 1)) (hn : pc + 1 = nx) : am_snd g (am_ad S) (rm2 S c0 s0 g) nL r pc (i_bald nx) := by
  subst hn
  obtain ⟨p, l, e, R, s, m, args, below, meth, c, Q⟩ := g
  obtain ⟨hx, hb, hml, ho, hts⟩ := X
  intro ls st h k hk K H locs cells slots lsC hR hL
  unfold i_bald o_ix at hk
  split at hk
  · next i a st' =>
    split at hk
    · next hcl =>
      have hlt : a < NC := sh_lt (by omega)
      have he := vw_at (S := S) (σ := h) hlt
      rw [ce_arr hcl.1 (by omega) (by omega)] at he
      show am_wp _ _ _ _ _ _ _ (.int i :: .ref ((am_ad S).1 a) :: _)
      rw [am_ad_lt hlt]
      exact va_bald hx hb V.1.1 hR.1 a 1 he rfl (am_inb_in hcl.2) hd (K _ _ _ _ hk H locs cells slots lsC hR hL)
    · cases hk
  · cases hk
theorem sd_rald (X : am_X g own cc nL) (V : am_V S n c0 s0 g) {t : Nat} {E : String} (ht : 102 ≤ t) (hE : (am_tys S)[t - 100]? = some (S.2.2.1 (t - 100), .object E)) (hd : decode cc pc = .ok (.aaload, 1)) (hn : pc + 1 = nx) : am_snd g (am_ad S) (rm2 S c0 s0 g) nL r pc (i_rald t nx) := by
  subst hn
  obtain ⟨p, l, e, R, s, m, args, below, meth, c, Q⟩ := g
  obtain ⟨hx, hb, hml, ho, hts⟩ := X
  intro ls st h k hk K H locs cells slots lsC hR hL
  unfold i_rald o_ix at hk
  split at hk
  · next i a st' =>
    split at hk
    · next hcl =>
      have hlt : a < NC := sh_lt (by omega)
      have he := vw_at (S := S) (σ := h) hlt
      rw [ce_ref hcl.1 (by omega)] at he
      show am_wp _ _ _ _ _ _ _ (.int i :: .ref ((am_ad S).1 a) :: _)
      rw [am_ad_lt hlt]
      have hkk := K _ _ _ _ hk H locs cells slots lsC hR hL
      have hkk : am_wp (p, l, e, R, s, m, args, below, meth, c, Q) H locs cells slots (pc + 1) lsC (.ref ((am_ad S).1 (rf a i.toNatClampNeg)) :: st'.map (am_cv (am_ad S))) := hkk
      rw [am_ad_lt (rf_lt a _)] at hkk
      exact va_aldq hx hb V.1.1 hR.1 a (t - 100) he hE (am_inb_in hcl.2) hd hkk
    · cases hk
  · cases hk
theorem vw_astI {S : am_S} {σ : Mem} {a t j : Nat} {v : Int32} (h : (sh a).1 = t) (h1 : 100 ≤ t) (h2 : t < 102) (hl : a < NC) : (vw S σ).set a (S.1 + a, .inl (S.2.2.1 (t - 100), (sh a).2, .inl (upd (σ a) j v))) = vw S (setM σ a j v) := by
  refine vw_set hl ?_ (fun b hb => ce_ne hb)
  rw [ce_arr h h1 h2, setM_self]
theorem sd_iast (X : am_X g own cc nL) (V : am_V S n c0 s0 g) (hd : decode cc pc = .ok (.iastore, 1)) (hn : pc + 1 = nx) : am_snd g (am_ad S) (rm2 S c0 s0 g) nL r pc (i_iast nx) := by
  subst hn
  obtain ⟨p, l, e, R, s, m, args, below, meth, c, Q⟩ := g
  obtain ⟨hx, hb, hml, ho, hts⟩ := X
  intro ls st h k hk K H locs cells slots lsC hR hL
  unfold i_iast o_ix at hk
  split at hk
  · next v i a st' =>
    split at hk
    · next hcl =>
      have hlt : a < NC := sh_lt (by omega)
      have he := vw_at (S := S) (σ := h) hlt
      rw [ce_arr hcl.1 (by omega) (by omega)] at he
      show am_wp _ _ _ _ _ _ _ (.int v :: .int i :: .ref ((am_ad S).1 a) :: _)
      rw [am_ad_lt hlt]
      refine va_iast hx hb V.1.1 hR.1 (vw_D S h) hR.2.1 a 0 he rfl (am_inb_in hcl.2) hd (fun H1 locs1 hP hD hS => ?_)
      have hP := (vw_astI (S := S) (σ := h) (j := i.toNatClampNeg) (v := v) hcl.1 (by omega) (by omega) hlt) ▸ hP
      exact K _ _ _ _ hk H1 locs1 cells slots lsC ⟨hP, hS, hR.2.2⟩ hL
    · cases hk
  · cases hk
theorem sd_bast (X : am_X g own cc nL) (V : am_V S n c0 s0 g) (hd : decode cc pc = .ok (.bastore, 1)) (hn : pc + 1 = nx) : am_snd g (am_ad S) (rm2 S c0 s0 g) nL r pc (i_bast nx) := by
  subst hn
  obtain ⟨p, l, e, R, s, m, args, below, meth, c, Q⟩ := g
  obtain ⟨hx, hb, hml, ho, hts⟩ := X
  intro ls st h k hk K H locs cells slots lsC hR hL
  unfold i_bast o_ix at hk
  split at hk
  · next v i a st' =>
    split at hk
    · next hcl =>
      have hlt : a < NC := sh_lt (by omega)
      have he := vw_at (S := S) (σ := h) hlt
      rw [ce_arr hcl.1 (by omega) (by omega)] at he
      show am_wp _ _ _ _ _ _ _ (.int v :: .int i :: .ref ((am_ad S).1 a) :: _)
      rw [am_ad_lt hlt]
      refine va_bast hx hb V.1.1 hR.1 (vw_D S h) hR.2.1 a 1 he rfl (am_inb_in hcl.2) hd (fun H1 locs1 hP hD hS => ?_)
      rw [vp_nar_byte] at hP
      have hP := (vw_astI (S := S) (σ := h) (j := i.toNatClampNeg) (v := v.toInt8.toInt32) hcl.1 (by omega) (by omega) hlt) ▸ hP
      exact K _ _ _ _ hk H1 locs1 cells slots lsC ⟨hP, hS, hR.2.2⟩ hL
    · cases hk
  · cases hk
end AmHeap
