/-! the constructors: fields, rows, calls -/
section AmAlloc2
variable {g : am_G} {S : am_S} {n n0 B nL : Nat} {r : am_R AMem} {own : String} {cc : ByteArray} {pc nx : Nat}
theorem bl2 {a ci n : Nat} (h : (Nat.beq (sh a).1 ci && Nat.blt a n) = true) : (sh a).1 = ci ∧ a < n := by
  simp only [Bool.and_eq_true] at h
  exact ⟨Nat.eq_of_beq_eq_true h.1, Nat.le_of_ble_eq_true h.2⟩
theorem bl3 {a ci n : Nat} {b : Bool} (h : (Nat.beq (sh a).1 ci && Nat.blt a n && b) = true) : (sh a).1 = ci ∧ a < n ∧ b = true := by
  rw [Bool.and_eq_true] at h
  exact ⟨(bl2 h.1).1, (bl2 h.1).2, h.2⟩
theorem sd_agetR (X : am_X g own cc nL) (V : am_VA S n n0 B g) {C : String} {T : u_T} {N ci j idx : Nat} (hc : am_cl[ci]? = some (C, T, N)) (hnf : nfL.getD ci 0 = N) (hin : ∀ w ∈ u_ws C T N, w ∈ am_tbl) (hj : Nat.ble (j + 1) N = true) (hci : Nat.ble (ci + 1) 10 = true) (hf : fr ci j = true) (hw : Cond.fieldLink own idx (T j).1 (T j).2.1 (T j).2.2.1 ∈ am_tbl) (hd : decode cc pc = .ok (.getfield idx, 3)) (hn : pc + 3 = nx) : am_snd g (am_ad S) (rmA S n0 B g) nL r pc (i_agetR ci j nx) := by
  subst hn
  obtain ⟨p, l, e, R, s, m, args, below, meth, c, Q⟩ := g
  obtain ⟨hx, hb, hml, ho, hts⟩ := X
  obtain ⟨v1, v2, v3, v4, v5, v6, v8⟩ := V
  intro ls st h k hk K H locs cells slots lsC hR hL
  unfold i_agetR at hk
  split at hk
  · next a st' =>
    cases hg : (Nat.beq (sh a).1 ci && Nat.blt a h.2.2 && h.2.1 a j) with
    | false => rw [hg] at hk; cases hk
    | true =>
      rw [hg] at hk
      obtain ⟨hcl, ha, hm⟩ := bl3 hg
      have hRR := hR
      obtain ⟨q1, q2, q3, q4, q5, q6, q7⟩ := hR
      have hci' : ci < 10 := Nat.le_of_ble_eq_true hci
      have hlt : a < NC := Nat.lt_of_lt_of_le ha (Nat.le_trans q5 v8)
      have hsz : (sh a).2 = N := by rw [sh_obj a hlt (by omega), hcl, hnf]
      have hj' : j < N := Nat.le_of_ble_eq_true hj
      have he := vwA_at (S := S) ha
      rw [ceA_obj hcl hci'] at he
      show am_wp _ _ _ _ _ _ _ (.ref ((am_ad S).1 a) :: _)
      rw [am_ad_lt hlt]
      have hkk := K _ _ _ _ hk H locs cells slots lsC hRR hL
      have hkk : am_wp (p, l, e, R, s, m, args, below, meth, c, Q) H locs cells slots (pc + 3) lsC (.ref ((am_ad S).1 (rf a j)) :: st'.map (am_cv (am_ad S))) := hkk
      rw [am_ad_lt (rf_lt a j)] at hkk
      refine va_get (v := .ref (S.1 + rf a j)) hx hb hts hin ho v1.1 q1 a he hc j hj' (hts _ hw) (fun _ h9 => h9) ?_ hd hkk
      rw [List.getElem?_map, List.getElem?_range (by omega)]
      show some (ceAV S h.1 h.2.1 ci a j) = _
      unfold ceAV
      rw [hf, hm]
      rfl
  · cases hk
theorem vwA_putI {h : AMem} {a ci j : Nat} {v : Int32} (e : (sh a).1 = ci) (hc : ci < 10) (hl : a < h.2.2) (hf : fr ci j = false) : (vwA S h).set a (S.1 + a, .inr (ci, ((List.range (sh a).2).map (ceAV S h.1 h.2.1 ci a)).set j (.int v))) = vwA S (setM h.1 a j v, h.2.1, h.2.2) := by
  refine vwA_set hl rfl ?_ (fun b hb => ceA_eq (sM_a hb) rfl)
  rw [ceA_obj e hc]
  congr 2
  apply List.ext_getElem?
  intro i
  by_cases hi : i = j
  · subst hi
    rw [List.getElem?_set_self', List.getElem?_map, List.getElem?_map]
    by_cases hn : i < (sh a).2
    · rw [List.getElem?_range hn]
      show some (ceAV S (setM h.1 a i v) h.2.1 ci a i) = some (.int v)
      unfold ceAV
      rw [hf, sM_eq]
      rfl
    · rw [List.getElem?_eq_none (by simpa using hn)]
      rfl
  · rw [List.getElem?_set_ne (Ne.symm hi), List.getElem?_map, List.getElem?_map]
    by_cases hn : i < (sh a).2
    · rw [List.getElem?_range hn]
      show some (ceAV S (setM h.1 a j v) h.2.1 ci a i) = some (ceAV S h.1 h.2.1 ci a i)
      unfold ceAV
      rw [sM_i hi]
    · rw [List.getElem?_eq_none (by simpa using hn)]
      rfl
theorem vwA_putR {h : AMem} {a ci j : Nat} (e : (sh a).1 = ci) (hc : ci < 10) (hl : a < h.2.2) (hf : fr ci j = true) : (vwA S h).set a (S.1 + a, .inr (ci, ((List.range (sh a).2).map (ceAV S h.1 h.2.1 ci a)).set j (.ref (S.1 + rf a j)))) = vwA S (h.1, mkB h.2.1 a j, h.2.2) := by
  refine vwA_set hl rfl ?_ (fun b hb => ceA_eq rfl (mkB_ne hb))
  rw [ceA_obj e hc]
  congr 2
  apply List.ext_getElem?
  intro i
  by_cases hi : i = j
  · subst hi
    rw [List.getElem?_set_self', List.getElem?_map, List.getElem?_map]
    by_cases hn : i < (sh a).2
    · rw [List.getElem?_range hn]
      show some (ceAV S h.1 (mkB h.2.1 a i) ci a i) = some (.ref (S.1 + rf a i))
      unfold ceAV
      rw [hf, mkB_at, beq_self]
      rfl
    · rw [List.getElem?_eq_none (by simpa using hn)]
      rfl
  · rw [List.getElem?_set_ne (Ne.symm hi), List.getElem?_map, List.getElem?_map]
    by_cases hn : i < (sh a).2
    · rw [List.getElem?_range hn]
      show some (ceAV S h.1 (mkB h.2.1 a j) ci a i) = some (ceAV S h.1 h.2.1 ci a i)
      unfold ceAV
      rw [mkB_at, beq_ne hi]
      rfl
    · rw [List.getElem?_eq_none (by simpa using hn)]
      rfl
theorem am_wput {p : Program} {l : Launch} {e : Env} {R : Room} {s : State} {m : MethodId} {args : Array Value} {below : List Frame} {meth : Method} {c : Code} {Q : State → Prop} {H : Heap} {locs : List Loc} {cells slots : Nat} {lsC : Array Slot} {rest : List Value} {h h' : AMem} {C : String} {T : u_T} {N ci j idx a : Nat} {ty : FieldType} {v : Value} (fin : Bool) (hx : p.tables.exec = Jvm.exec) (hb : c.code = cc) (ho : s.vm.findClass own = some m.cls) (hts : ∀ w ∈ am_tbl, w.before args s = true) (v1 : am_StA S s) (v7 : meth.name = "<init>") (ty0 : Nat → FieldType) (hty : ∀ k, k < N → parseFieldDescriptor (T k).2.2.1 = some (ty0 k)) (hnm : ∀ a, a < N → ∀ b, b < N → a ≠ b → (T a).2.1 ≠ (T b).2.1) (hc : am_cl[ci]? = some (C, T, N)) (hin : ∀ w ∈ u_ws C T N, w ∈ am_tbl) (hj : j < N) (hN : (sh a).2 = N) (hcl : (sh a).1 = ci) (hci : ci < 10) (hfin : (T j).2.2.2 = fin) (hdecl : (T j).1 = own) (hI : parseFieldDescriptor (T j).2.2.1 = some ty) (hn : narrow ty v = v) (hfit : fits ty v = true) (hw : Cond.fieldLink own idx (T j).1 (T j).2.1 (T j).2.2.1 ∈ am_tbl) (hd : decode cc pc = .ok (.putfield idx, 3))
    (ha : a < h.2.2) (q1 : va_P S.2.1 am_cl (vwA S h) H) (q2 : va_S (am_AA S) s.heap H locs) (hset : (vwA S h).set a (S.1 + a, .inr (ci, ((List.range (sh a).2).map (ceAV S h.1 h.2.1 ci a)).set j v)) = vwA S h')
    (kk : ∀ (H1 : Heap) (locs1 : List Loc), va_P S.2.1 am_cl (vwA S h') H1 → va_S (am_AA S) s.heap H1 locs1 → H1.size = H.size → W p l e R s m args below meth c H1 locs1 cells slots Q (F0 m (pc + 3) lsC rest)) : W p l e R s m args below meth c H locs cells slots Q (F0 m pc lsC (v :: .ref (S.1 + a) :: rest)) := by
  have he := vwA_at (S := S) ha
  rw [ceA_obj hcl hci] at he
  have hap := va_apart (own := own) hts hin ty0 hty hnm v1.1 hc
  have hl : j < ((List.range (sh a).2).map (ceAV S h.1 h.2.1 ci a)).length := by rw [List.length_map, List.length_range]; omega
  obtain ⟨rr, hr1, cell, c1, c2, c3, c4⟩ := q1 a _ he
  have hr : rr = (C, T, N) := Option.some.inj (hr1.symm.trans hc)
  subst hr
  obtain ⟨hSl, hfc, kC, hkC, hkind⟩ := v1.1.1 ci _ hc
  obtain ⟨cf, kf, fi, f, hi, hsl⟩ := hSl j hj
  have hlay := hts _ (hin _ (u_in_lay hj))
  unfold u_lay at hlay
  have hst := (u_facts hfc hkC (u_lays hts hin hj) hi).1
  have fin' : ∀ H1 : Heap, H1[S.1 + a]? = some (cell.setSlot f.slot v) → H1.size = H.size → (∀ q, q ≠ S.1 + a → H1[q]? = H[q]?) → W p l e R s m args below meth c H1 (locs ++ [⟨S.1 + a, f.slot⟩]) cells slots Q (F0 m (pc + 3) lsC rest) := by
    intro H1 b1 b2 b3
    rw [hsl] at b1
    have hP := q1.set (vwA_D S h) he (e := .inr (ci, ((List.range (sh a).2).map (ceAV S h.1 h.2.1 ci a)).set j v)) ⟨_, hc, t_OB.to (V := updV (vp_V ((List.range (sh a).2).map (ceAV S h.1 h.2.1 ci a))) j v) ⟨_, b1, c2, c3, t_set c4 hap hj v⟩ (fun i _ => vp_updV_set hl v i)⟩ b3
    rw [hset] at hP
    exact kk H1 _ hP (q2.put b2 b3 ((vwA_D S h).2 a _ he)) b2
  cases fin with
  | false =>
    rw [if_neg (by rw [hfin]; decide)] at hlay
    have h6 := u_store hfc hkC hkind hlay hi hI hn hfit
    exact W.putK hx hb (f := f) ⟨ho, hts _ hw, ⟨_, _, _, hi⟩, hst⟩ (by rw [c2]; exact h6) c1 c3 (by rw [hsl]; exact k2_hasslot (c4 j hj)) rfl rfl hd fin'
  | true =>
    rw [if_pos hfin] at hlay
    have hcf : m.cls = cf := by
      obtain ⟨_, _, c', _, _, _, -, -, hf', -, -, -, hown2, -⟩ := Cond.laysFinal_spec hlay
      have e1 : c' = cf := by have := hi.symm.trans hf'; simp at this; exact this.1.symm
      rw [hdecl] at hown2
      rw [← e1]
      exact Option.some.inj (ho.symm.trans hown2)
    have h6 := u_fits hfc hkC hkind (Or.inr hlay) hi hI hn hfit
    exact W.putFinK hx hb ho (hts _ hw) hi hst hcf v7 (by rw [c2]; exact h6) c1 c3 (by rw [hsl]; exact k2_hasslot (c4 j hj)) rfl rfl hd fin'
theorem sd_aputI (X : am_X g own cc nL) (V : am_VA S n n0 B g) (hN : am_IN g) {C : String} {T : u_T} {N ci j idx : Nat} (ty0 : Nat → FieldType) (hty : ∀ k, k < N → parseFieldDescriptor (T k).2.2.1 = some (ty0 k)) (hnm : ∀ a, a < N → ∀ b, b < N → a ≠ b → (T a).2.1 ≠ (T b).2.1) (hc : am_cl[ci]? = some (C, T, N)) (hnf : nfL.getD ci 0 = N) (hin : ∀ w ∈ u_ws C T N, w ∈ am_tbl) (hj : Nat.ble (j + 1) N = true) (hci : Nat.ble (ci + 1) 10 = true) (hf : fr ci j = false) (hfin : (T j).2.2.2 = false) (hdecl : (T j).1 = own) (hI : parseFieldDescriptor (T j).2.2.1 = some .int) (hw : Cond.fieldLink own idx (T j).1 (T j).2.1 (T j).2.2.1 ∈ am_tbl) (hd : decode cc pc = .ok (.putfield idx, 3)) (hn : pc + 3 = nx) : am_snd g (am_ad S) (rmA S n0 B g) nL r pc (i_aputI ci j nx) := by
  subst hn
  obtain ⟨p, l, e, R, s, m, args, below, meth, c, Q⟩ := g
  obtain ⟨hx, hb, hml, ho, hts⟩ := X
  obtain ⟨v1, v2, v3, v4, v5, v6, v8⟩ := V
  intro ls st h k hk K H locs cells slots lsC hR hL
  unfold i_aputI at hk
  split at hk
  · next v a st' =>
    cases hg : (Nat.beq (sh a).1 ci && Nat.blt a h.2.2) with
    | false => rw [hg] at hk; cases hk
    | true =>
      rw [hg] at hk
      obtain ⟨hcl, ha⟩ := bl2 hg
      obtain ⟨q1, q2, q3, q4, q5, q6, q7⟩ := hR
      have hci' : ci < 10 := Nat.le_of_ble_eq_true hci
      have hlt : a < NC := Nat.lt_of_lt_of_le ha (Nat.le_trans q5 v8)
      have hsz : (sh a).2 = N := by rw [sh_obj a hlt (by omega), hcl, hnf]
      show am_wp _ _ _ _ _ _ _ (.int v :: .ref ((am_ad S).1 a) :: _)
      rw [am_ad_lt hlt]
      exact am_wput (v := .int v) false hx hb ho hts v1 hN ty0 hty hnm hc hin (Nat.le_of_ble_eq_true hj) hsz hcl hci' hfin hdecl hI rfl rfl hw hd ha q1 q2 (vwA_putI hcl hci' ha hf) (fun H1 locs1 hP hS hz => K _ _ _ _ hk H1 locs1 cells slots lsC ⟨hP, hS, hz.trans q3, q4, q5, q6, q7⟩ hL)
  · cases hk
theorem sd_aputZ (X : am_X g own cc nL) (V : am_VA S n n0 B g) (hN : am_IN g) {C : String} {T : u_T} {N ci j idx : Nat} (ty0 : Nat → FieldType) (hty : ∀ k, k < N → parseFieldDescriptor (T k).2.2.1 = some (ty0 k)) (hnm : ∀ a, a < N → ∀ b, b < N → a ≠ b → (T a).2.1 ≠ (T b).2.1) (hc : am_cl[ci]? = some (C, T, N)) (hnf : nfL.getD ci 0 = N) (hin : ∀ w ∈ u_ws C T N, w ∈ am_tbl) (hj : Nat.ble (j + 1) N = true) (hci : Nat.ble (ci + 1) 10 = true) (hf : fr ci j = false) (hfin : (T j).2.2.2 = false) (hdecl : (T j).1 = own) (hI : parseFieldDescriptor (T j).2.2.1 = some .boolean) (hw : Cond.fieldLink own idx (T j).1 (T j).2.1 (T j).2.2.1 ∈ am_tbl) (hd : decode cc pc = .ok (.putfield idx, 3)) (hn : pc + 3 = nx) : am_snd g (am_ad S) (rmA S n0 B g) nL r pc (i_aputZ ci j nx) := by
  subst hn
  obtain ⟨p, l, e, R, s, m, args, below, meth, c, Q⟩ := g
  obtain ⟨hx, hb, hml, ho, hts⟩ := X
  obtain ⟨v1, v2, v3, v4, v5, v6, v8⟩ := V
  intro ls st h k hk K H locs cells slots lsC hR hL
  unfold i_aputZ o_zr at hk
  split at hk
  · next v a st' =>
    cases hg : (Nat.beq (sh a).1 ci && Nat.blt a h.2.2) with
    | false => rw [hg] at hk; cases hk
    | true =>
      rw [hg] at hk
      simp only [cond_true] at hk
      split at hk
      · next hz =>
        obtain ⟨hcl, ha⟩ := bl2 hg
        obtain ⟨q1, q2, q3, q4, q5, q6, q7⟩ := hR
        have hci' : ci < 10 := Nat.le_of_ble_eq_true hci
        have hlt : a < NC := Nat.lt_of_lt_of_le ha (Nat.le_trans q5 v8)
        have hsz : (sh a).2 = N := by rw [sh_obj a hlt (by omega), hcl, hnf]
        show am_wp _ _ _ _ _ _ _ (.int v :: .ref ((am_ad S).1 a) :: _)
        rw [am_ad_lt hlt]
        exact am_wput (v := .int v) false hx hb ho hts v1 hN ty0 hty hnm hc hin (Nat.le_of_ble_eq_true hj) hsz hcl hci' hfin hdecl hI (by rcases hz with rfl | rfl <;> rfl) (by rcases hz with rfl | rfl <;> rfl) hw hd ha q1 q2 (vwA_putI hcl hci' ha hf) (fun H1 locs1 hP hS hz => K _ _ _ _ hk H1 locs1 cells slots lsC ⟨hP, hS, hz.trans q3, q4, q5, q6, q7⟩ hL)
      · cases hk
  · cases hk
theorem sd_aputR (X : am_X g own cc nL) (V : am_VA S n n0 B g) (hN : am_IN g) {C : String} {T : u_T} {N ci j idx : Nat} {ty : FieldType} (ty0 : Nat → FieldType) (hty : ∀ k, k < N → parseFieldDescriptor (T k).2.2.1 = some (ty0 k)) (hnm : ∀ a, a < N → ∀ b, b < N → a ≠ b → (T a).2.1 ≠ (T b).2.1) (hc : am_cl[ci]? = some (C, T, N)) (hnf : nfL.getD ci 0 = N) (hin : ∀ w ∈ u_ws C T N, w ∈ am_tbl) (hj : Nat.ble (j + 1) N = true) (hci : Nat.ble (ci + 1) 10 = true) (hf : fr ci j = true) (hfin : (T j).2.2.2 = true) (hdecl : (T j).1 = own) (hI : parseFieldDescriptor (T j).2.2.1 = some ty) (hnr : ∀ x, narrow ty (.ref x) = .ref x) (hft : ∀ x, fits ty (.ref x) = true) (hw : Cond.fieldLink own idx (T j).1 (T j).2.1 (T j).2.2.1 ∈ am_tbl) (hd : decode cc pc = .ok (.putfield idx, 3)) (hn : pc + 3 = nx) : am_snd g (am_ad S) (rmA S n0 B g) nL r pc (i_aputR ci j nx) := by
  subst hn
  obtain ⟨p, l, e, R, s, m, args, below, meth, c, Q⟩ := g
  obtain ⟨hx, hb, hml, ho, hts⟩ := X
  obtain ⟨v1, v2, v3, v4, v5, v6, v8⟩ := V
  intro ls st h k hk K H locs cells slots lsC hR hL
  unfold i_aputR at hk
  split at hk
  · next b a st' =>
    cases hg : (Nat.beq (sh a).1 ci && Nat.blt a h.2.2 && Nat.beq b (rf a j)) with
    | false => rw [hg] at hk; cases hk
    | true =>
      rw [hg] at hk
      obtain ⟨hcl, ha, hbe⟩ := bl3 hg
      have hbe := Nat.eq_of_beq_eq_true hbe
      subst hbe
      obtain ⟨q1, q2, q3, q4, q5, q6, q7⟩ := hR
      have hci' : ci < 10 := Nat.le_of_ble_eq_true hci
      have hlt : a < NC := Nat.lt_of_lt_of_le ha (Nat.le_trans q5 v8)
      have hsz : (sh a).2 = N := by rw [sh_obj a hlt (by omega), hcl, hnf]
      show am_wp _ _ _ _ _ _ _ (.ref ((am_ad S).1 (rf a j)) :: .ref ((am_ad S).1 a) :: _)
      rw [am_ad_lt hlt, am_ad_lt (rf_lt a j)]
      exact am_wput (v := .ref (S.1 + rf a j)) true hx hb ho hts v1 hN ty0 hty hnm hc hin (Nat.le_of_ble_eq_true hj) hsz hcl hci' hfin hdecl hI (hnr _) (hft _) hw hd ha q1 q2 (vwA_putR hcl hci' ha hf) (fun H1 locs1 hP hS hz => K _ _ _ _ hk H1 locs1 cells slots lsC ⟨hP, hS, hz.trans q3, q4, q5, q6, q7⟩ hL)
  · cases hk
theorem sd_aiast (X : am_X g own cc nL) (V : am_VA S n n0 B g) (hd : decode cc pc = .ok (.iastore, 1)) (hn : pc + 1 = nx) : am_snd g (am_ad S) (rmA S n0 B g) nL r pc (i_aiast nx) := by
  subst hn
  obtain ⟨p, l, e, R, s, m, args, below, meth, c, Q⟩ := g
  obtain ⟨hx, hb, hml, ho, hts⟩ := X
  obtain ⟨v1, v2, v3, v4, v5, v6, v8⟩ := V
  intro ls st h k hk K H locs cells slots lsC hR hL
  unfold i_aiast at hk
  split at hk
  · next v i a st' =>
    cases hg : (Nat.beq (sh a).1 100 && Nat.blt a h.2.2 && am_inb i (sh a).2) with
    | false => rw [hg] at hk; cases hk
    | true =>
      rw [hg] at hk
      obtain ⟨hcl, ha, hib⟩ := bl3 hg
      have hib := am_inb_in hib
      obtain ⟨q1, q2, q3, q4, q5, q6, q7⟩ := hR
      have hlt : a < NC := Nat.lt_of_lt_of_le ha (Nat.le_trans q5 v8)
      have he := vwA_at (S := S) ha
      rw [ceA_arr hcl (by decide) (by decide)] at he
      show am_wp _ _ _ _ _ _ _ (.int v :: .int i :: .ref ((am_ad S).1 a) :: _)
      rw [am_ad_lt hlt]
      refine W.iast hx hb (q1 a _ he) ((v1.1.2 0 _ rfl).1 (sh a).2 (fun j => .int (h.1 a j))) (fun q => by cases q) (by show ¬ (i < 0 ∨ (arrV _ _ _).slots.size ≤ _); rw [arrV_size]; exact hib) rfl rfl hd fun H1 b1 b2 b3 => ?_
      have hP := q1.set (vwA_D S h) he (e := .inl (S.2.2.1 (100 - 100), (sh a).2, .inl (upd (h.1 a) i.toNatClampNeg v))) (by
        show H1[S.1 + a]? = some (vp_cell _ _)
        rw [b1, vp_cell_i, vp_cell_i, arrV_store]
        congr 2
        funext q
        by_cases hq : q = i.toNatClampNeg
        · subst hq; simp [updV, upd]
        · simp [updV, upd, hq]) b3
      rw [vwA_set (h' := (setM h.1 a i.toNatClampNeg v, h.2.1, h.2.2)) ha rfl (by rw [ceA_arr hcl (by decide) (by decide)]; congr 3; exact congrArg _ (setM_self h.1 a i.toNatClampNeg v)) (fun b hb => ceA_eq (sM_a hb) rfl)] at hP
      exact K _ _ _ _ hk H1 _ cells slots lsC ⟨hP, q2.put b2 b3 ((vwA_D S h).2 a _ he), b2.trans q3, q4, q5, q6, q7⟩ hL
  · cases hk
end AmAlloc2
