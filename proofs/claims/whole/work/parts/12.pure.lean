/-! the instructions that touch no memory, against the machine -/
section AmPure
variable {M : Type} {g : am_G} {ad : am_AD} {RM : am_P M} {nL : Nat} {r : am_R M} {own : String} {cc : ByteArray} {pc nx : Nat}
theorem sd_iconst (X : am_X g own cc nL) {n : Int} {v : Int32} (hd : decode cc pc = .ok (.iconst n, 1)) (hv : Int32.ofInt n = v) (hn : pc + 1 = nx) : am_snd g ad RM nL r pc (i_const (.int v) nx) := by
  subst hn
  obtain ⟨p, l, e, R, s, m, args, below, meth, c, Q⟩ := g
  obtain ⟨hx, hb, hml, ho, hts⟩ := X
  intro ls st h k hk K H locs cells slots lsC hR hL
  exact lv_iconst hx hb hd hv (K _ _ _ _ hk H locs cells slots lsC hR hL)
theorem sd_bipush (X : am_X g own cc nL) {n : Int} {v : Int32} (hd : decode cc pc = .ok (.bipush n, 2)) (hv : (Int8.ofInt n).toInt32 = v) (hn : pc + 2 = nx) : am_snd g ad RM nL r pc (i_const (.int v) nx) := by
  subst hn
  obtain ⟨p, l, e, R, s, m, args, below, meth, c, Q⟩ := g
  obtain ⟨hx, hb, hml, ho, hts⟩ := X
  intro ls st h k hk K H locs cells slots lsC hR hL
  exact lv_bipush hx hb hd hv (K _ _ _ _ hk H locs cells slots lsC hR hL)
theorem sd_sipush (X : am_X g own cc nL) {n : Int} {v : Int32} (hd : decode cc pc = .ok (.sipush n, 3)) (hv : (Int16.ofInt n).toInt32 = v) (hn : pc + 3 = nx) : am_snd g ad RM nL r pc (i_const (.int v) nx) := by
  subst hn
  obtain ⟨p, l, e, R, s, m, args, below, meth, c, Q⟩ := g
  obtain ⟨hx, hb, hml, ho, hts⟩ := X
  intro ls st h k hk K H locs cells slots lsC hR hL
  exact lv_sipush hx hb hd hv (K _ _ _ _ hk H locs cells slots lsC hR hL)
theorem sd_ldc (X : am_X g own cc nL) {i : Nat} {v : Int32} (hw : Cond.constant own i v ∈ am_tbl) (hd : decode cc pc = .ok (.ldc i, 2)) (hn : pc + 2 = nx) : am_snd g ad RM nL r pc (i_const (.int v) nx) := by
  subst hn
  obtain ⟨p, l, e, R, s, m, args, below, meth, c, Q⟩ := g
  obtain ⟨hx, hb, hml, ho, hts⟩ := X
  intro ls st h k hk K H locs cells slots lsC hR hL
  exact lv_ldc hx hb ho (hts _ hw) hd (K _ _ _ _ hk H locs cells slots lsC hR hL)
theorem sd_ldcw (X : am_X g own cc nL) {i : Nat} {v : Int32} (hw : Cond.constant own i v ∈ am_tbl) (hd : decode cc pc = .ok (.ldc_w i, 3)) (hn : pc + 3 = nx) : am_snd g ad RM nL r pc (i_const (.int v) nx) := by
  subst hn
  obtain ⟨p, l, e, R, s, m, args, below, meth, c, Q⟩ := g
  obtain ⟨hx, hb, hml, ho, hts⟩ := X
  intro ls st h k hk K H locs cells slots lsC hR hL
  exact lv_ldcw hx hb ho (hts _ hw) hd (K _ _ _ _ hk H locs cells slots lsC hR hL)
theorem sd_ldc2 (X : am_X g own cc nL) {i : Nat} {v : Int64} (hw : Cond.constantLong own i v ∈ am_tbl) (hd : decode cc pc = .ok (.ldc2_w i, 3)) (hn : pc + 3 = nx) : am_snd g ad RM nL r pc (i_const (.long v) nx) := by
  subst hn
  obtain ⟨p, l, e, R, s, m, args, below, meth, c, Q⟩ := g
  obtain ⟨hx, hb, hml, ho, hts⟩ := X
  intro ls st h k hk K H locs cells slots lsC hR hL
  exact lv_ldc2 hx hb ho (hts _ hw) hd (K _ _ _ _ hk H locs cells slots lsC hR hL)
theorem sd_lconst (X : am_X g own cc nL) {n : Fin 2} {v : Int64} (hd : decode cc pc = .ok (.lconst n, 1)) (hv : Int64.ofNat (n : Nat) = v) (hn : pc + 1 = nx) : am_snd g ad RM nL r pc (i_const (.long v) nx) := by
  subst hn
  obtain ⟨p, l, e, R, s, m, args, below, meth, c, Q⟩ := g
  obtain ⟨hx, hb, hml, ho, hts⟩ := X
  intro ls st h k hk K H locs cells slots lsC hR hL
  exact lv_lconst hx hb hd hv (K _ _ _ _ hk H locs cells slots lsC hR hL)
theorem sd_iload_n (X : am_X g own cc nL) {j : Fin 4} {i : Nat} (hj : (j : Nat) = i) (hd : decode cc pc = .ok (.iload_n j, 1)) (hn : pc + 1 = nx) : am_snd g ad RM nL r pc (i_iload i nx) := by
  subst hn
  obtain ⟨p, l, e, R, s, m, args, below, meth, c, Q⟩ := g
  obtain ⟨hx, hb, hml, ho, hts⟩ := X
  intro ls st h k hk K H locs cells slots lsC hR hL
  subst hj
  unfold i_iload at hk
  split at hk
  · next x hv => exact lv_iload_n (k := j) (i := (j : Nat)) hx hb hd rfl (hL.at hv (fun z => by cases z)) (K _ _ _ _ hk H locs cells slots lsC hR hL)
  · cases hk
theorem sd_iload (X : am_X g own cc nL) {i : Nat} (hd : decode cc pc = .ok (.iload i, 2)) (hn : pc + 2 = nx) : am_snd g ad RM nL r pc (i_iload i nx) := by
  subst hn
  obtain ⟨p, l, e, R, s, m, args, below, meth, c, Q⟩ := g
  obtain ⟨hx, hb, hml, ho, hts⟩ := X
  intro ls st h k hk K H locs cells slots lsC hR hL
  unfold i_iload at hk
  split at hk
  · next x hv => exact lv_iload hx hb hd (hL.at hv (fun z => by cases z)) (K _ _ _ _ hk H locs cells slots lsC hR hL)
  · cases hk
theorem sd_aload_n (X : am_X g own cc nL) {j : Fin 4} {i : Nat} (hj : (j : Nat) = i) (hd : decode cc pc = .ok (.aload_n j, 1)) (hn : pc + 1 = nx) : am_snd g ad RM nL r pc (i_aload i nx) := by
  subst hn
  obtain ⟨p, l, e, R, s, m, args, below, meth, c, Q⟩ := g
  obtain ⟨hx, hb, hml, ho, hts⟩ := X
  intro ls st h k hk K H locs cells slots lsC hR hL
  subst hj
  unfold i_aload at hk
  split at hk
  · next x hv => exact lv_aload_n (k := j) (i := (j : Nat)) hx hb hd rfl (hL.at hv (fun z => by cases z)) (K _ _ _ _ hk H locs cells slots lsC hR hL)
  · cases hk
theorem sd_aload (X : am_X g own cc nL) {i : Nat} (hd : decode cc pc = .ok (.aload i, 2)) (hn : pc + 2 = nx) : am_snd g ad RM nL r pc (i_aload i nx) := by
  subst hn
  obtain ⟨p, l, e, R, s, m, args, below, meth, c, Q⟩ := g
  obtain ⟨hx, hb, hml, ho, hts⟩ := X
  intro ls st h k hk K H locs cells slots lsC hR hL
  unfold i_aload at hk
  split at hk
  · next x hv => exact lv_aload hx hb hd (hL.at hv (fun z => by cases z)) (K _ _ _ _ hk H locs cells slots lsC hR hL)
  · cases hk
theorem sd_lload_n (X : am_X g own cc nL) {j : Fin 4} {i : Nat} (hj : (j : Nat) = i) (hd : decode cc pc = .ok (.lload_n j, 1)) (hn : pc + 1 = nx) : am_snd g ad RM nL r pc (i_lload i nx) := by
  subst hn
  obtain ⟨p, l, e, R, s, m, args, below, meth, c, Q⟩ := g
  obtain ⟨hx, hb, hml, ho, hts⟩ := X
  intro ls st h k hk K H locs cells slots lsC hR hL
  subst hj
  unfold i_lload at hk
  split at hk
  · next x hv => exact lv_lload_n (k := j) (i := (j : Nat)) hx hb hd rfl (hL.at hv (fun z => by cases z)) (K _ _ _ _ hk H locs cells slots lsC hR hL)
  · cases hk
theorem sd_lload (X : am_X g own cc nL) {i : Nat} (hd : decode cc pc = .ok (.lload i, 2)) (hn : pc + 2 = nx) : am_snd g ad RM nL r pc (i_lload i nx) := by
  subst hn
  obtain ⟨p, l, e, R, s, m, args, below, meth, c, Q⟩ := g
  obtain ⟨hx, hb, hml, ho, hts⟩ := X
  intro ls st h k hk K H locs cells slots lsC hR hL
  unfold i_lload at hk
  split at hk
  · next x hv => exact lv_lload hx hb hd (hL.at hv (fun z => by cases z)) (K _ _ _ _ hk H locs cells slots lsC hR hL)
  · cases hk
theorem sd_istore_n (X : am_X g own cc nL) {j : Fin 4} {i : Nat} (hj : (j : Nat) = i) (hi : Nat.ble (i + 1) nL = true) (hd : decode cc pc = .ok (.istore_n j, 1)) (hn : pc + 1 = nx) : am_snd g ad RM nL r pc (i_istore i nx) := by
  subst hn
  obtain ⟨p, l, e, R, s, m, args, below, meth, c, Q⟩ := g
  obtain ⟨hx, hb, hml, ho, hts⟩ := X
  intro ls st h k hk K H locs cells slots lsC hR hL
  subst hj
  unfold i_istore at hk
  split at hk
  · next x st' =>
    split at hk
    · cases hk
    · cases hk
    · next h1 h2 => exact lv_istore_n (k := j) (i := (j : Nat)) hx hb hd rfl hL.has (Nat.le_of_ble_eq_true hi) rfl (fun ls' hl' => K _ _ _ _ hk H locs cells slots ls' hR (hL.store1 (v := .int x) (am_np_of h1 h2) hl'))
  · cases hk
theorem sd_istore (X : am_X g own cc nL) {i : Nat} (hi : Nat.ble (i + 1) nL = true) (hd : decode cc pc = .ok (.istore i, 2)) (hn : pc + 2 = nx) : am_snd g ad RM nL r pc (i_istore i nx) := by
  subst hn
  obtain ⟨p, l, e, R, s, m, args, below, meth, c, Q⟩ := g
  obtain ⟨hx, hb, hml, ho, hts⟩ := X
  intro ls st h k hk K H locs cells slots lsC hR hL
  unfold i_istore at hk
  split at hk
  · next x st' =>
    split at hk
    · cases hk
    · cases hk
    · next h1 h2 => exact lv_istore hx hb hd hL.has (Nat.le_of_ble_eq_true hi) rfl (fun ls' hl' => K _ _ _ _ hk H locs cells slots ls' hR (hL.store1 (v := .int x) (am_np_of h1 h2) hl'))
  · cases hk
theorem sd_astore_n (X : am_X g own cc nL) {j : Fin 4} {i : Nat} (hj : (j : Nat) = i) (hi : Nat.ble (i + 1) nL = true) (hd : decode cc pc = .ok (.astore_n j, 1)) (hn : pc + 1 = nx) : am_snd g ad RM nL r pc (i_astore i nx) := by
  subst hn
  obtain ⟨p, l, e, R, s, m, args, below, meth, c, Q⟩ := g
  obtain ⟨hx, hb, hml, ho, hts⟩ := X
  intro ls st h k hk K H locs cells slots lsC hR hL
  subst hj
  unfold i_astore at hk
  split at hk
  · next x st' =>
    split at hk
    · cases hk
    · cases hk
    · next h1 h2 => exact lv_astore_n (k := j) (i := (j : Nat)) hx hb hd rfl hL.has (Nat.le_of_ble_eq_true hi) rfl (fun ls' hl' => K _ _ _ _ hk H locs cells slots ls' hR (hL.store1 (v := .ref x) (am_np_of h1 h2) hl'))
  · cases hk
theorem sd_astore (X : am_X g own cc nL) {i : Nat} (hi : Nat.ble (i + 1) nL = true) (hd : decode cc pc = .ok (.astore i, 2)) (hn : pc + 2 = nx) : am_snd g ad RM nL r pc (i_astore i nx) := by
  subst hn
  obtain ⟨p, l, e, R, s, m, args, below, meth, c, Q⟩ := g
  obtain ⟨hx, hb, hml, ho, hts⟩ := X
  intro ls st h k hk K H locs cells slots lsC hR hL
  unfold i_astore at hk
  split at hk
  · next x st' =>
    split at hk
    · cases hk
    · cases hk
    · next h1 h2 => exact lv_astore hx hb hd hL.has (Nat.le_of_ble_eq_true hi) rfl (fun ls' hl' => K _ _ _ _ hk H locs cells slots ls' hR (hL.store1 (v := .ref x) (am_np_of h1 h2) hl'))
  · cases hk
theorem sd_lstore (X : am_X g own cc nL) {i : Nat} (hi : Nat.ble (i + 2) nL = true) (hd : decode cc pc = .ok (.lstore i, 2)) (hn : pc + 2 = nx) : am_snd g ad RM nL r pc (i_lstore i nx) := by
  subst hn
  obtain ⟨p, l, e, R, s, m, args, below, meth, c, Q⟩ := g
  obtain ⟨hx, hb, hml, ho, hts⟩ := X
  intro ls st h k hk K H locs cells slots lsC hR hL
  unfold i_lstore at hk
  split at hk
  · next x st' =>
    split at hk
    · cases hk
    · cases hk
    · next h1 h2 => exact lv_lstore hx hb hd hL.has (Nat.le_of_ble_eq_true hi) rfl (fun ls' hl' => K _ _ _ _ hk H locs cells slots ls' hR (hL.store2 (v := .long x) (am_np_of h1 h2) hl'))
  · cases hk
theorem sd_iinc (X : am_X g own cc nL) {i : Nat} {n : Int} {w : Int32} (hi : Nat.ble (i + 1) nL = true) (hw : Int32.ofInt n = w) (hd : decode cc pc = .ok (.iinc i n, 3)) (hn : pc + 3 = nx) : am_snd g ad RM nL r pc (i_iinc i w nx) := by
  subst hn
  obtain ⟨p, l, e, R, s, m, args, below, meth, c, Q⟩ := g
  obtain ⟨hx, hb, hml, ho, hts⟩ := X
  intro ls st h k hk K H locs cells slots lsC hR hL
  unfold i_iinc at hk
  split at hk
  · next x hv =>
    split at hk
    · cases hk
    · cases hk
    · next h1 h2 =>
      have hmem : (i, Value.int x) ∈ am_ps ad ls := am_ps_mem.mpr ⟨.int x, by
        show ls[i]? = some (.int x)
        rw [List.getD_eq_getElem?_getD] at hv
        cases hh : ls[i]? with
        | none => rw [hh] at hv; cases hv
        | some w => rw [hh] at hv; exact congrArg some hv, (fun z => by cases z), rfl⟩
      obtain ⟨kk, hkk⟩ := List.getElem?_of_mem hmem
      exact lv_iinc hx hb hd hL.has hkk (by rw [hw]) (Nat.le_of_ble_eq_true hi) rfl (fun ls' hl' => K _ _ _ _ hk H locs cells slots ls' hR (hL.store1 (v := .int (x + w)) (am_np_of h1 h2) hl'))
  · cases hk
theorem sd_iadd (X : am_X g own cc nL) (hd : decode cc pc = .ok (.iadd, 1)) (hn : pc + 1 = nx) : am_snd g ad RM nL r pc (i_bin (fun x y => x + y) nx) := by
  subst hn
  obtain ⟨p, l, e, R, s, m, args, below, meth, c, Q⟩ := g
  obtain ⟨hx, hb, hml, ho, hts⟩ := X
  intro ls st h k hk K H locs cells slots lsC hR hL
  unfold i_bin at hk
  split at hk
  · next y x st' => exact lv_iadd hx hb hd (K _ _ _ _ hk H locs cells slots lsC hR hL)
  · cases hk
theorem sd_isub (X : am_X g own cc nL) (hd : decode cc pc = .ok (.isub, 1)) (hn : pc + 1 = nx) : am_snd g ad RM nL r pc (i_bin (fun x y => x - y) nx) := by
  subst hn
  obtain ⟨p, l, e, R, s, m, args, below, meth, c, Q⟩ := g
  obtain ⟨hx, hb, hml, ho, hts⟩ := X
  intro ls st h k hk K H locs cells slots lsC hR hL
  unfold i_bin at hk
  split at hk
  · next y x st' => exact lv_isub hx hb hd (K _ _ _ _ hk H locs cells slots lsC hR hL)
  · cases hk
theorem sd_imul (X : am_X g own cc nL) (hd : decode cc pc = .ok (.imul, 1)) (hn : pc + 1 = nx) : am_snd g ad RM nL r pc (i_bin (fun x y => x * y) nx) := by
  subst hn
  obtain ⟨p, l, e, R, s, m, args, below, meth, c, Q⟩ := g
  obtain ⟨hx, hb, hml, ho, hts⟩ := X
  intro ls st h k hk K H locs cells slots lsC hR hL
  unfold i_bin at hk
  split at hk
  · next y x st' => exact lv_imul hx hb hd (K _ _ _ _ hk H locs cells slots lsC hR hL)
  · cases hk
theorem sd_iand (X : am_X g own cc nL) (hd : decode cc pc = .ok (.iand, 1)) (hn : pc + 1 = nx) : am_snd g ad RM nL r pc (i_bin (fun x y => x &&& y) nx) := by
  subst hn
  obtain ⟨p, l, e, R, s, m, args, below, meth, c, Q⟩ := g
  obtain ⟨hx, hb, hml, ho, hts⟩ := X
  intro ls st h k hk K H locs cells slots lsC hR hL
  unfold i_bin at hk
  split at hk
  · next y x st' => exact lv_iand hx hb hd (K _ _ _ _ hk H locs cells slots lsC hR hL)
  · cases hk
theorem sd_ior (X : am_X g own cc nL) (hd : decode cc pc = .ok (.ior, 1)) (hn : pc + 1 = nx) : am_snd g ad RM nL r pc (i_bin (fun x y => x ||| y) nx) := by
  subst hn
  obtain ⟨p, l, e, R, s, m, args, below, meth, c, Q⟩ := g
  obtain ⟨hx, hb, hml, ho, hts⟩ := X
  intro ls st h k hk K H locs cells slots lsC hR hL
  unfold i_bin at hk
  split at hk
  · next y x st' => exact lv_ior hx hb hd (K _ _ _ _ hk H locs cells slots lsC hR hL)
  · cases hk
theorem sd_ishl (X : am_X g own cc nL) (hd : decode cc pc = .ok (.ishl, 1)) (hn : pc + 1 = nx) : am_snd g ad RM nL r pc (i_bin (fun x y => x <<< (y &&& 31)) nx) := by
  subst hn
  obtain ⟨p, l, e, R, s, m, args, below, meth, c, Q⟩ := g
  obtain ⟨hx, hb, hml, ho, hts⟩ := X
  intro ls st h k hk K H locs cells slots lsC hR hL
  unfold i_bin at hk
  split at hk
  · next y x st' => exact lv_ishl hx hb hd (K _ _ _ _ hk H locs cells slots lsC hR hL)
  · cases hk
theorem sd_ishr (X : am_X g own cc nL) (hd : decode cc pc = .ok (.ishr, 1)) (hn : pc + 1 = nx) : am_snd g ad RM nL r pc (i_bin (fun x y => x >>> (y &&& 31)) nx) := by
  subst hn
  obtain ⟨p, l, e, R, s, m, args, below, meth, c, Q⟩ := g
  obtain ⟨hx, hb, hml, ho, hts⟩ := X
  intro ls st h k hk K H locs cells slots lsC hR hL
  unfold i_bin at hk
  split at hk
  · next y x st' => exact lv_ishr hx hb hd (K _ _ _ _ hk H locs cells slots lsC hR hL)
  · cases hk
theorem sd_iushr (X : am_X g own cc nL) (hd : decode cc pc = .ok (.iushr, 1)) (hn : pc + 1 = nx) : am_snd g ad RM nL r pc (i_bin (fun x y => (x.toUInt32 >>> (y.toUInt32 &&& Int32.toUInt32 31)).toInt32) nx) := by
  subst hn
  obtain ⟨p, l, e, R, s, m, args, below, meth, c, Q⟩ := g
  obtain ⟨hx, hb, hml, ho, hts⟩ := X
  intro ls st h k hk K H locs cells slots lsC hR hL
  unfold i_bin at hk
  split at hk
  · next y x st' => exact lv_iushr hx hb hd rfl (K _ _ _ _ hk H locs cells slots lsC hR hL)
  · cases hk
theorem sd_idiv (X : am_X g own cc nL) (hd : decode cc pc = .ok (.idiv, 1)) (hn : pc + 1 = nx) : am_snd g ad RM nL r pc (i_div (fun x y => x / y) nx) := by
  subst hn
  obtain ⟨p, l, e, R, s, m, args, below, meth, c, Q⟩ := g
  obtain ⟨hx, hb, hml, ho, hts⟩ := X
  intro ls st h k hk K H locs cells slots lsC hR hL
  unfold i_div o_nz at hk
  split at hk
  · next y x st' =>
    split at hk
    · cases hk
    · next hne => exact lv_idiv hx hb hd hne (K _ _ _ _ hk H locs cells slots lsC hR hL)
  · cases hk
theorem sd_irem (X : am_X g own cc nL) (hd : decode cc pc = .ok (.irem, 1)) (hn : pc + 1 = nx) : am_snd g ad RM nL r pc (i_div (fun x y => x - x / y * y) nx) := by
  subst hn
  obtain ⟨p, l, e, R, s, m, args, below, meth, c, Q⟩ := g
  obtain ⟨hx, hb, hml, ho, hts⟩ := X
  intro ls st h k hk K H locs cells slots lsC hR hL
  unfold i_div o_nz at hk
  split at hk
  · next y x st' =>
    split at hk
    · cases hk
    · next hne => exact lv_irem hx hb hd hne (K _ _ _ _ hk H locs cells slots lsC hR hL)
  · cases hk
theorem sd_i2b (X : am_X g own cc nL) (hd : decode cc pc = .ok (.i2b, 1)) (hn : pc + 1 = nx) : am_snd g ad RM nL r pc (i_un (fun x => x.toInt8.toInt32) nx) := by
  subst hn
  obtain ⟨p, l, e, R, s, m, args, below, meth, c, Q⟩ := g
  obtain ⟨hx, hb, hml, ho, hts⟩ := X
  intro ls st h k hk K H locs cells slots lsC hR hL
  unfold i_un at hk
  split at hk
  · next x st' => exact lv_i2b hx hb hd rfl (K _ _ _ _ hk H locs cells slots lsC hR hL)
  · cases hk
theorem sd_i2s (X : am_X g own cc nL) (hd : decode cc pc = .ok (.i2s, 1)) (hn : pc + 1 = nx) : am_snd g ad RM nL r pc (i_un (fun x => x.toInt16.toInt32) nx) := by
  subst hn
  obtain ⟨p, l, e, R, s, m, args, below, meth, c, Q⟩ := g
  obtain ⟨hx, hb, hml, ho, hts⟩ := X
  intro ls st h k hk K H locs cells slots lsC hR hL
  unfold i_un at hk
  split at hk
  · next x st' => exact lv_i2s hx hb hd rfl (K _ _ _ _ hk H locs cells slots lsC hR hL)
  · cases hk
theorem sd_i2c (X : am_X g own cc nL) (hd : decode cc pc = .ok (.i2c, 1)) (hn : pc + 1 = nx) : am_snd g ad RM nL r pc (i_un (fun x => (x.toUInt32 % 65536).toInt32) nx) := by
  subst hn
  obtain ⟨p, l, e, R, s, m, args, below, meth, c, Q⟩ := g
  obtain ⟨hx, hb, hml, ho, hts⟩ := X
  intro ls st h k hk K H locs cells slots lsC hR hL
  unfold i_un at hk
  split at hk
  · next x st' => exact lv_i2c hx hb hd rfl (K _ _ _ _ hk H locs cells slots lsC hR hL)
  · cases hk
theorem sd_i2l (X : am_X g own cc nL) (hd : decode cc pc = .ok (.i2l, 1)) (hn : pc + 1 = nx) : am_snd g ad RM nL r pc (i_i2l nx) := by
  subst hn
  obtain ⟨p, l, e, R, s, m, args, below, meth, c, Q⟩ := g
  obtain ⟨hx, hb, hml, ho, hts⟩ := X
  intro ls st h k hk K H locs cells slots lsC hR hL
  unfold i_i2l at hk
  split at hk
  · next x st' => exact lv_i2l hx hb hd rfl (K _ _ _ _ hk H locs cells slots lsC hR hL)
  · cases hk
theorem sd_l2i (X : am_X g own cc nL) (hd : decode cc pc = .ok (.l2i, 1)) (hn : pc + 1 = nx) : am_snd g ad RM nL r pc (i_l2i nx) := by
  subst hn
  obtain ⟨p, l, e, R, s, m, args, below, meth, c, Q⟩ := g
  obtain ⟨hx, hb, hml, ho, hts⟩ := X
  intro ls st h k hk K H locs cells slots lsC hR hL
  unfold i_l2i at hk
  split at hk
  · next x st' => exact lv_l2i hx hb hd rfl (K _ _ _ _ hk H locs cells slots lsC hR hL)
  · cases hk
theorem sd_ladd (X : am_X g own cc nL) (hd : decode cc pc = .ok (.ladd, 1)) (hn : pc + 1 = nx) : am_snd g ad RM nL r pc (i_lbin (fun x y => x + y) nx) := by
  subst hn
  obtain ⟨p, l, e, R, s, m, args, below, meth, c, Q⟩ := g
  obtain ⟨hx, hb, hml, ho, hts⟩ := X
  intro ls st h k hk K H locs cells slots lsC hR hL
  unfold i_lbin at hk
  split at hk
  · next y x st' => exact lv_ladd hx hb hd (K _ _ _ _ hk H locs cells slots lsC hR hL)
  · cases hk
theorem sd_lmul (X : am_X g own cc nL) (hd : decode cc pc = .ok (.lmul, 1)) (hn : pc + 1 = nx) : am_snd g ad RM nL r pc (i_lbin (fun x y => x * y) nx) := by
  subst hn
  obtain ⟨p, l, e, R, s, m, args, below, meth, c, Q⟩ := g
  obtain ⟨hx, hb, hml, ho, hts⟩ := X
  intro ls st h k hk K H locs cells slots lsC hR hL
  unfold i_lbin at hk
  split at hk
  · next y x st' => exact lv_lmul hx hb hd (K _ _ _ _ hk H locs cells slots lsC hR hL)
  · cases hk
theorem sd_land (X : am_X g own cc nL) (hd : decode cc pc = .ok (.land, 1)) (hn : pc + 1 = nx) : am_snd g ad RM nL r pc (i_lbin (fun x y => x &&& y) nx) := by
  subst hn
  obtain ⟨p, l, e, R, s, m, args, below, meth, c, Q⟩ := g
  obtain ⟨hx, hb, hml, ho, hts⟩ := X
  intro ls st h k hk K H locs cells slots lsC hR hL
  unfold i_lbin at hk
  split at hk
  · next y x st' => exact lv_land hx hb hd (K _ _ _ _ hk H locs cells slots lsC hR hL)
  · cases hk
theorem sd_lor (X : am_X g own cc nL) (hd : decode cc pc = .ok (.lor, 1)) (hn : pc + 1 = nx) : am_snd g ad RM nL r pc (i_lbin (fun x y => x ||| y) nx) := by
  subst hn
  obtain ⟨p, l, e, R, s, m, args, below, meth, c, Q⟩ := g
  obtain ⟨hx, hb, hml, ho, hts⟩ := X
  intro ls st h k hk K H locs cells slots lsC hR hL
  unfold i_lbin at hk
  split at hk
  · next y x st' => exact lv_lor hx hb hd (K _ _ _ _ hk H locs cells slots lsC hR hL)
  · cases hk
theorem sd_lushr (X : am_X g own cc nL) (hd : decode cc pc = .ok (.lushr, 1)) (hn : pc + 1 = nx) : am_snd g ad RM nL r pc (i_lsh (fun x y => (x.toUInt64 >>> (y.toInt64.toUInt64 &&& Int64.toUInt64 63)).toInt64) nx) := by
  subst hn
  obtain ⟨p, l, e, R, s, m, args, below, meth, c, Q⟩ := g
  obtain ⟨hx, hb, hml, ho, hts⟩ := X
  intro ls st h k hk K H locs cells slots lsC hR hL
  unfold i_lsh at hk
  split at hk
  · next y x st' => exact lv_lushr hx hb hd rfl (K _ _ _ _ hk H locs cells slots lsC hR hL)
  · cases hk
theorem sd_lshl (X : am_X g own cc nL) (hd : decode cc pc = .ok (.lshl, 1)) (hn : pc + 1 = nx) : am_snd g ad RM nL r pc (i_lsh (fun x y => x <<< (y.toInt64 &&& 63)) nx) := by
  subst hn
  obtain ⟨p, l, e, R, s, m, args, below, meth, c, Q⟩ := g
  obtain ⟨hx, hb, hml, ho, hts⟩ := X
  intro ls st h k hk K H locs cells slots lsC hR hL
  unfold i_lsh at hk
  split at hk
  · next y x st' => exact lv_lshl hx hb hd rfl (K _ _ _ _ hk H locs cells slots lsC hR hL)
  · cases hk
theorem sd_lcmp (X : am_X g own cc nL) (hd : decode cc pc = .ok (.lcmp, 1)) (hn : pc + 1 = nx) : am_snd g ad RM nL r pc (i_lcmp nx) := by
  subst hn
  obtain ⟨p, l, e, R, s, m, args, below, meth, c, Q⟩ := g
  obtain ⟨hx, hb, hml, ho, hts⟩ := X
  intro ls st h k hk K H locs cells slots lsC hR hL
  unfold i_lcmp at hk
  split at hk
  · next y x st' => exact W.lcmp hx hb hd (K _ _ _ _ hk H locs cells slots lsC hR hL)
  · cases hk
theorem am_c1_cat {ad : am_AD} {v : Value} (h : am_c1 v = true) : (am_cv ad v).category = 1 := by
  cases v <;> first | rfl | cases h
theorem sd_dup (X : am_X g own cc nL) (hd : decode cc pc = .ok (.dup, 1)) (hn : pc + 1 = nx) : am_snd g ad RM nL r pc (i_dup nx) := by
  subst hn
  obtain ⟨p, l, e, R, s, m, args, below, meth, c, Q⟩ := g
  obtain ⟨hx, hb, hml, ho, hts⟩ := X
  intro ls st h k hk K H locs cells slots lsC hR hL
  unfold i_dup at hk
  split at hk
  · next v st' =>
    cases hc : am_c1 v with
    | false => rw [hc] at hk; cases hk
    | true => rw [hc] at hk; exact lv_dup hx hb hd (am_c1_cat hc) (K _ _ _ _ hk H locs cells slots lsC hR hL)
  · cases hk
theorem sd_pop (X : am_X g own cc nL) (hd : decode cc pc = .ok (.pop, 1)) (hn : pc + 1 = nx) : am_snd g ad RM nL r pc (i_pop nx) := by
  subst hn
  obtain ⟨p, l, e, R, s, m, args, below, meth, c, Q⟩ := g
  obtain ⟨hx, hb, hml, ho, hts⟩ := X
  intro ls st h k hk K H locs cells slots lsC hR hL
  unfold i_pop at hk
  split at hk
  · next v st' =>
    cases hc : am_c1 v with
    | false => rw [hc] at hk; cases hk
    | true => rw [hc] at hk; exact lv_pop hx hb hd (am_c1_cat hc) (K _ _ _ _ hk H locs cells slots lsC hR hL)
  · cases hk
theorem sd_dup2 (X : am_X g own cc nL) (hd : decode cc pc = .ok (.dup2, 1)) (hn : pc + 1 = nx) : am_snd g ad RM nL r pc (i_dup2 nx) := by
  subst hn
  obtain ⟨p, l, e, R, s, m, args, below, meth, c, Q⟩ := g
  obtain ⟨hx, hb, hml, ho, hts⟩ := X
  intro ls st h k hk K H locs cells slots lsC hR hL
  unfold i_dup2 at hk
  split at hk
  · next v w st' =>
    cases hc : am_c1 v with
    | false => rw [hc] at hk; cases hk
    | true =>
      cases hc2 : am_c1 w with
      | false => rw [hc, hc2] at hk; cases hk
      | true => rw [hc, hc2] at hk; exact lv_dup2_11 hx hb hd (am_c1_cat hc) (am_c1_cat hc2) (K _ _ _ _ hk H locs cells slots lsC hR hL)
  · cases hk
theorem sd_ifeq (X : am_X g own cc nL) {off : Int} {t : Nat} (ht : (pc : Int) + off = (t : Int)) (hd : decode cc pc = .ok (.ifCond .eq off, 3)) (hn : pc + 3 = nx) : am_snd g ad RM nL r pc (i_if1 (fun x => x = 0) (fun _ => inferInstance) t nx) := by
  subst hn
  obtain ⟨p, l, e, R, s, m, args, below, meth, c, Q⟩ := g
  obtain ⟨hx, hb, hml, ho, hts⟩ := X
  intro ls st h k hk K H locs cells slots lsC hR hL
  unfold i_if1 at hk
  split at hk
  · next x st' => exact lv_if_eq hx hb hd ht (fun hc => K _ _ _ _ (by first | rwa [if_pos hc] at hk | rwa [if_neg hc] at hk) H locs cells slots lsC hR hL) (fun hc => K _ _ _ _ (by first | rwa [if_neg hc] at hk | rwa [if_pos hc] at hk) H locs cells slots lsC hR hL)
  · cases hk
theorem sd_ifne (X : am_X g own cc nL) {off : Int} {t : Nat} (ht : (pc : Int) + off = (t : Int)) (hd : decode cc pc = .ok (.ifCond .ne off, 3)) (hn : pc + 3 = nx) : am_snd g ad RM nL r pc (i_if1 (fun x => x = 0) (fun _ => inferInstance) nx t) := by
  subst hn
  obtain ⟨p, l, e, R, s, m, args, below, meth, c, Q⟩ := g
  obtain ⟨hx, hb, hml, ho, hts⟩ := X
  intro ls st h k hk K H locs cells slots lsC hR hL
  unfold i_if1 at hk
  split at hk
  · next x st' => exact lv_if_ne hx hb hd ht (fun hc => K _ _ _ _ (by first | rwa [if_pos hc] at hk | rwa [if_neg hc] at hk) H locs cells slots lsC hR hL) (fun hc => K _ _ _ _ (by first | rwa [if_neg hc] at hk | rwa [if_pos hc] at hk) H locs cells slots lsC hR hL)
  · cases hk
theorem sd_iflt (X : am_X g own cc nL) {off : Int} {t : Nat} (ht : (pc : Int) + off = (t : Int)) (hd : decode cc pc = .ok (.ifCond .lt off, 3)) (hn : pc + 3 = nx) : am_snd g ad RM nL r pc (i_if1 (fun x => x < 0) (fun _ => inferInstance) t nx) := by
  subst hn
  obtain ⟨p, l, e, R, s, m, args, below, meth, c, Q⟩ := g
  obtain ⟨hx, hb, hml, ho, hts⟩ := X
  intro ls st h k hk K H locs cells slots lsC hR hL
  unfold i_if1 at hk
  split at hk
  · next x st' => exact lv_if_lt hx hb hd ht (fun hc => K _ _ _ _ (by first | rwa [if_pos hc] at hk | rwa [if_neg hc] at hk) H locs cells slots lsC hR hL) (fun hc => K _ _ _ _ (by first | rwa [if_neg hc] at hk | rwa [if_pos hc] at hk) H locs cells slots lsC hR hL)
  · cases hk
theorem sd_ifge (X : am_X g own cc nL) {off : Int} {t : Nat} (ht : (pc : Int) + off = (t : Int)) (hd : decode cc pc = .ok (.ifCond .ge off, 3)) (hn : pc + 3 = nx) : am_snd g ad RM nL r pc (i_if1 (fun x => 0 ≤ x) (fun _ => inferInstance) t nx) := by
  subst hn
  obtain ⟨p, l, e, R, s, m, args, below, meth, c, Q⟩ := g
  obtain ⟨hx, hb, hml, ho, hts⟩ := X
  intro ls st h k hk K H locs cells slots lsC hR hL
  unfold i_if1 at hk
  split at hk
  · next x st' => exact lv_if_ge hx hb hd ht (fun hc => K _ _ _ _ (by first | rwa [if_pos hc] at hk | rwa [if_neg hc] at hk) H locs cells slots lsC hR hL) (fun hc => K _ _ _ _ (by first | rwa [if_neg hc] at hk | rwa [if_pos hc] at hk) H locs cells slots lsC hR hL)
  · cases hk
theorem sd_ifgt (X : am_X g own cc nL) {off : Int} {t : Nat} (ht : (pc : Int) + off = (t : Int)) (hd : decode cc pc = .ok (.ifCond .gt off, 3)) (hn : pc + 3 = nx) : am_snd g ad RM nL r pc (i_if1 (fun x => 0 < x) (fun _ => inferInstance) t nx) := by
  subst hn
  obtain ⟨p, l, e, R, s, m, args, below, meth, c, Q⟩ := g
  obtain ⟨hx, hb, hml, ho, hts⟩ := X
  intro ls st h k hk K H locs cells slots lsC hR hL
  unfold i_if1 at hk
  split at hk
  · next x st' => exact lv_if_gt hx hb hd ht (fun hc => K _ _ _ _ (by first | rwa [if_pos hc] at hk | rwa [if_neg hc] at hk) H locs cells slots lsC hR hL) (fun hc => K _ _ _ _ (by first | rwa [if_neg hc] at hk | rwa [if_pos hc] at hk) H locs cells slots lsC hR hL)
  · cases hk
theorem sd_ifle (X : am_X g own cc nL) {off : Int} {t : Nat} (ht : (pc : Int) + off = (t : Int)) (hd : decode cc pc = .ok (.ifCond .le off, 3)) (hn : pc + 3 = nx) : am_snd g ad RM nL r pc (i_if1 (fun x => x ≤ 0) (fun _ => inferInstance) t nx) := by
  subst hn
  obtain ⟨p, l, e, R, s, m, args, below, meth, c, Q⟩ := g
  obtain ⟨hx, hb, hml, ho, hts⟩ := X
  intro ls st h k hk K H locs cells slots lsC hR hL
  unfold i_if1 at hk
  split at hk
  · next x st' => exact lv_if_le hx hb hd ht (fun hc => K _ _ _ _ (by first | rwa [if_pos hc] at hk | rwa [if_neg hc] at hk) H locs cells slots lsC hR hL) (fun hc => K _ _ _ _ (by first | rwa [if_neg hc] at hk | rwa [if_pos hc] at hk) H locs cells slots lsC hR hL)
  · cases hk
theorem sd_icmpeq (X : am_X g own cc nL) {off : Int} {t : Nat} (ht : (pc : Int) + off = (t : Int)) (hd : decode cc pc = .ok (.if_icmp .eq off, 3)) (hn : pc + 3 = nx) : am_snd g ad RM nL r pc (i_if2 (fun x y => x = y) (fun _ _ => inferInstance) t nx) := by
  subst hn
  obtain ⟨p, l, e, R, s, m, args, below, meth, c, Q⟩ := g
  obtain ⟨hx, hb, hml, ho, hts⟩ := X
  intro ls st h k hk K H locs cells slots lsC hR hL
  unfold i_if2 at hk
  split at hk
  · next y x st' => exact lv_icmp_eq hx hb hd ht (fun hc => K _ _ _ _ (by first | rwa [if_pos hc] at hk | rwa [if_neg hc] at hk) H locs cells slots lsC hR hL) (fun hc => K _ _ _ _ (by first | rwa [if_neg hc] at hk | rwa [if_pos hc] at hk) H locs cells slots lsC hR hL)
  · cases hk
theorem sd_icmpne (X : am_X g own cc nL) {off : Int} {t : Nat} (ht : (pc : Int) + off = (t : Int)) (hd : decode cc pc = .ok (.if_icmp .ne off, 3)) (hn : pc + 3 = nx) : am_snd g ad RM nL r pc (i_if2 (fun x y => x = y) (fun _ _ => inferInstance) nx t) := by
  subst hn
  obtain ⟨p, l, e, R, s, m, args, below, meth, c, Q⟩ := g
  obtain ⟨hx, hb, hml, ho, hts⟩ := X
  intro ls st h k hk K H locs cells slots lsC hR hL
  unfold i_if2 at hk
  split at hk
  · next y x st' => exact lv_icmp_ne hx hb hd ht (fun hc => K _ _ _ _ (by first | rwa [if_pos hc] at hk | rwa [if_neg hc] at hk) H locs cells slots lsC hR hL) (fun hc => K _ _ _ _ (by first | rwa [if_neg hc] at hk | rwa [if_pos hc] at hk) H locs cells slots lsC hR hL)
  · cases hk
theorem sd_icmplt (X : am_X g own cc nL) {off : Int} {t : Nat} (ht : (pc : Int) + off = (t : Int)) (hd : decode cc pc = .ok (.if_icmp .lt off, 3)) (hn : pc + 3 = nx) : am_snd g ad RM nL r pc (i_if2 (fun x y => x < y) (fun _ _ => inferInstance) t nx) := by
  subst hn
  obtain ⟨p, l, e, R, s, m, args, below, meth, c, Q⟩ := g
  obtain ⟨hx, hb, hml, ho, hts⟩ := X
  intro ls st h k hk K H locs cells slots lsC hR hL
  unfold i_if2 at hk
  split at hk
  · next y x st' => exact lv_icmp_lt hx hb hd ht (fun hc => K _ _ _ _ (by first | rwa [if_pos hc] at hk | rwa [if_neg hc] at hk) H locs cells slots lsC hR hL) (fun hc => K _ _ _ _ (by first | rwa [if_neg hc] at hk | rwa [if_pos hc] at hk) H locs cells slots lsC hR hL)
  · cases hk
theorem sd_icmpge (X : am_X g own cc nL) {off : Int} {t : Nat} (ht : (pc : Int) + off = (t : Int)) (hd : decode cc pc = .ok (.if_icmp .ge off, 3)) (hn : pc + 3 = nx) : am_snd g ad RM nL r pc (i_if2 (fun x y => y ≤ x) (fun _ _ => inferInstance) t nx) := by
  subst hn
  obtain ⟨p, l, e, R, s, m, args, below, meth, c, Q⟩ := g
  obtain ⟨hx, hb, hml, ho, hts⟩ := X
  intro ls st h k hk K H locs cells slots lsC hR hL
  unfold i_if2 at hk
  split at hk
  · next y x st' => exact lv_icmp_ge hx hb hd ht (fun hc => K _ _ _ _ (by first | rwa [if_pos hc] at hk | rwa [if_neg hc] at hk) H locs cells slots lsC hR hL) (fun hc => K _ _ _ _ (by first | rwa [if_neg hc] at hk | rwa [if_pos hc] at hk) H locs cells slots lsC hR hL)
  · cases hk
theorem sd_icmpgt (X : am_X g own cc nL) {off : Int} {t : Nat} (ht : (pc : Int) + off = (t : Int)) (hd : decode cc pc = .ok (.if_icmp .gt off, 3)) (hn : pc + 3 = nx) : am_snd g ad RM nL r pc (i_if2 (fun x y => y < x) (fun _ _ => inferInstance) t nx) := by
  subst hn
  obtain ⟨p, l, e, R, s, m, args, below, meth, c, Q⟩ := g
  obtain ⟨hx, hb, hml, ho, hts⟩ := X
  intro ls st h k hk K H locs cells slots lsC hR hL
  unfold i_if2 at hk
  split at hk
  · next y x st' => exact lv_icmp_gt hx hb hd ht (fun hc => K _ _ _ _ (by first | rwa [if_pos hc] at hk | rwa [if_neg hc] at hk) H locs cells slots lsC hR hL) (fun hc => K _ _ _ _ (by first | rwa [if_neg hc] at hk | rwa [if_pos hc] at hk) H locs cells slots lsC hR hL)
  · cases hk
theorem sd_icmple (X : am_X g own cc nL) {off : Int} {t : Nat} (ht : (pc : Int) + off = (t : Int)) (hd : decode cc pc = .ok (.if_icmp .le off, 3)) (hn : pc + 3 = nx) : am_snd g ad RM nL r pc (i_if2 (fun x y => x ≤ y) (fun _ _ => inferInstance) t nx) := by
  subst hn
  obtain ⟨p, l, e, R, s, m, args, below, meth, c, Q⟩ := g
  obtain ⟨hx, hb, hml, ho, hts⟩ := X
  intro ls st h k hk K H locs cells slots lsC hR hL
  unfold i_if2 at hk
  split at hk
  · next y x st' => exact lv_icmp_le hx hb hd ht (fun hc => K _ _ _ _ (by first | rwa [if_pos hc] at hk | rwa [if_neg hc] at hk) H locs cells slots lsC hR hL) (fun hc => K _ _ _ _ (by first | rwa [if_neg hc] at hk | rwa [if_pos hc] at hk) H locs cells slots lsC hR hL)
  · cases hk
theorem sd_goto (X : am_X g own cc nL) {off : Int} {t : Nat} (ht : (pc : Int) + off = (t : Int)) (hd : decode cc pc = .ok (.goto off, 3)) : am_snd g ad RM nL r pc (i_goto t) := by
  obtain ⟨p, l, e, R, s, m, args, below, meth, c, Q⟩ := g
  obtain ⟨hx, hb, hml, ho, hts⟩ := X
  intro ls st h k hk K H locs cells slots lsC hR hL
  exact lv_goto hx hb hd ht (K _ _ _ _ hk H locs cells slots lsC hR hL)
theorem am_sw_cases {x : Int32} {ls st : List Value} {h : M} {k : am_K M} {d : Nat} : ∀ {cs : List (Int32 × Nat)}, am_sw x ls st h k d cs = some r → (∃ q ∈ cs, x = q.1 ∧ k q.2 ls st h = some r) ∨ ((∀ q ∈ cs, x ≠ q.1) ∧ k d ls st h = some r) := by
  intro cs
  induction cs with
  | nil => exact fun e => Or.inr ⟨fun q hq => (by cases hq), e⟩
  | cons q cs ih =>
    obtain ⟨v, t⟩ := q
    intro e
    change (if x = v then k t ls st h else am_sw x ls st h k d cs) = some r at e
    by_cases hx : x = v
    · rw [if_pos hx] at e
      exact Or.inl ⟨(v, t), List.mem_cons_self, hx, e⟩
    · rw [if_neg hx] at e
      rcases ih e with ⟨q, h1, h2⟩ | ⟨h1, h2⟩
      · exact Or.inl ⟨q, List.mem_cons_of_mem _ h1, h2⟩
      · refine Or.inr ⟨fun q hq => ?_, h2⟩
        rcases List.mem_cons.mp hq with h3 | h3
        · rw [h3]; exact hx
        · exact h1 q h3
def am_tabok (pc : Nat) (lo hi : Int) (offs : Array Int) (cs : List (Int32 × Nat)) : Bool :=
  cs.all (fun q => decide (lo ≤ q.1.toInt) && decide (q.1.toInt ≤ hi) && decide (offs[(q.1.toInt - lo).toNat]? = some ((q.2 : Int) - (pc : Int)))) && (List.range (hi - lo + 1).toNat).all (fun i => cs.any (fun q => decide (q.1.toInt = lo + i)))
theorem sd_table (X : am_X g own cc nL) {dflt lo hi : Int} {offs : Array Int} {ln d : Nat} {cs : List (Int32 × Nat)} (hd : decode cc pc = .ok (.tableswitch dflt lo hi offs, ln)) (ht : (pc : Int) + dflt = (d : Int)) (hok : am_tabok pc lo hi offs cs = true) : am_snd g ad RM nL r pc (i_sw cs d) := by
  obtain ⟨p, l, e, R, s, m, args, below, meth, c, Q⟩ := g
  obtain ⟨hx, hb, hml, ho, hts⟩ := X
  intro ls st h k hk K H locs cells slots lsC hR hL
  unfold i_sw at hk
  unfold am_tabok at hok
  simp only [Bool.and_eq_true, List.all_eq_true, decide_eq_true_eq, List.any_eq_true, List.mem_range] at hok
  obtain ⟨h1, h2⟩ := hok
  split at hk
  · next x st' =>
    rcases am_sw_cases hk with ⟨q, hq, hxq, hkq⟩ | ⟨hno, hkd⟩
    · obtain ⟨⟨g1, g2⟩, g3⟩ := h1 q hq
      rw [← hxq] at g1 g2 g3
      exact lv_tableIn hx hb hd (by omega) (by omega) g3 (by omega) (K _ _ _ _ hkq H locs cells slots lsC hR hL)
    · refine lv_tableOut hx hb hd ?_ ht (K _ _ _ _ hkd H locs cells slots lsC hR hL)
      by_cases hl : x.toInt < lo
      · exact Or.inl hl
      by_cases hh : hi < x.toInt
      · exact Or.inr hh
      exfalso
      obtain ⟨q, hq, he⟩ := h2 (x.toInt - lo).toNat (by omega)
      refine hno q hq (Int32.toInt_inj.mp ?_)
      omega
  · cases hk
end AmPure
