/-! Math.max and min, System.arraycopy, the class's one constant row, texts -/
def i_max (nx : Nat) : am_I Mem := fun ls st h k => match st with
  | .int y :: .int x :: st' => bif am_low st' then k nx ls (.int (if x < y then y else x) :: st') h else none
  | _ => none
def i_min (nx : Nat) : am_I Mem := fun ls st h k => match st with
  | .int y :: .int x :: st' => bif am_low st' then k nx ls (.int (if y < x then y else x) :: st') h else none
  | _ => none
def cpyM (σ : Mem) (a b sp dp n : Nat) : Mem := fun c => if c = b then va_cpy (σ a) (σ b) sp dp n else σ c
def am_cpok (a b : Nat) (sp dp n : Int32) : Bool := Nat.beq (sh a).1 100 && Nat.beq (sh b).1 100 && !(decide (sp < 0)) && !(decide (dp < 0)) && !(decide (n < 0)) && Nat.ble (sp.toNatClampNeg + n.toNatClampNeg) (sh a).2 && Nat.ble (dp.toNatClampNeg + n.toNatClampNeg) (sh b).2
def o_cp {α : Type} (a b : Nat) (sp dp n : Int32) (k : Option α) : Option α := bif am_cpok a b sp dp n then k else none
def i_acopy (nx : Nat) : am_I Mem := fun ls st σ k => match st with
  | .int n :: .int dp :: .ref b :: .int sp :: .ref a :: st' => bif am_low st' then o_cp a b sp dp n (k nx ls st' (cpyM σ a b sp.toNatClampNeg dp.toNatClampNeg n.toNatClampNeg)) else none
  | _ => none
def i_ldKA (nx : Nat) : am_I Mem := fun ls st h k => match st with
  | .int i :: .ref a :: st' => bif Nat.beq a 2000 && am_inb i 6 then k nx ls (.int (kaL.getD i.toNatClampNeg 0) :: st') h else none
  | _ => none
def am_isS (a : Nat) : Bool := Nat.ble 1000 a && Nat.ble (a + 1) 1006
def am_isB (a : Nat) : Bool := Nat.ble 1100 a && Nat.ble (a + 1) 1106
def i_sval (nx : Nat) : am_I Mem := fun ls st h k => match st with
  | .ref a :: st' => bif am_isS a then k nx ls (.ref (a + 100) :: st') h else none
  | _ => none
def i_scod (nx : Nat) : am_I Mem := fun ls st h k => match st with
  | .ref a :: st' => bif am_isS a then k nx ls (.int 0 :: st') h else none
  | _ => none
def i_blen (nx : Nat) : am_I Mem := fun ls st h k => match st with
  | .ref a :: st' => bif am_isB a then k nx ls (.int (Int32.ofNat (lenS.getD (a - 1100) 0)) :: st') h else none
  | _ => none
def i_bget (nx : Nat) : am_I Mem := fun ls st h k => match st with
  | .int i :: .ref a :: st' => bif am_isB a && am_inb i (lenS.getD (a - 1100) 0) then k nx ls (.int ((bytS.getD (a - 1100) []).getD i.toNatClampNeg 0) :: st') h else none
  | _ => none
def i_wI (F : List Value → Mem → Option (am_R Mem)) (n nx : Nat) : am_I Mem := fun ls st h k => match am_args n [] st with
  | some (as, .ref a :: st') => bif am_low st' && am_isS a then o_rI (F (.ref a :: as) h) (fun v h' => k nx ls (.int v :: st') h') else none
  | _ => none
theorem ct_max (nx : Nat) : am_cont (i_max nx) := fun ls st h => by
  unfold i_max
  split
  · next y x st' => cases am_low st' <;> first | exact ⟨none, fun _ => rfl⟩ | exact ⟨some (.inl (_, _, _, _)), fun _ => rfl⟩
  · exact ⟨none, fun _ => rfl⟩
theorem ct_min (nx : Nat) : am_cont (i_min nx) := fun ls st h => by
  unfold i_min
  split
  · next y x st' => cases am_low st' <;> first | exact ⟨none, fun _ => rfl⟩ | exact ⟨some (.inl (_, _, _, _)), fun _ => rfl⟩
  · exact ⟨none, fun _ => rfl⟩
theorem ct_acopy (nx : Nat) : am_cont (i_acopy nx) := fun ls st h => by
  unfold i_acopy o_cp
  split
  · next n dp b sp a st' =>
    cases am_low st' with
    | false => exact ⟨none, fun _ => rfl⟩
    | true => cases am_cpok a b sp dp n <;> first | exact ⟨none, fun _ => rfl⟩ | exact ⟨some (.inl (_, _, _, _)), fun _ => rfl⟩
  · exact ⟨none, fun _ => rfl⟩
theorem ct_ldKA (nx : Nat) : am_cont (i_ldKA nx) := fun ls st h => by
  unfold i_ldKA
  split
  · next i a st' => cases (Nat.beq a 2000 && am_inb i 6) <;> first | exact ⟨none, fun _ => rfl⟩ | exact ⟨some (.inl (_, _, _, _)), fun _ => rfl⟩
  · exact ⟨none, fun _ => rfl⟩
theorem ct_sval (nx : Nat) : am_cont (i_sval nx) := fun ls st h => by
  unfold i_sval
  split
  · next a st' => cases am_isS a <;> first | exact ⟨none, fun _ => rfl⟩ | exact ⟨some (.inl (_, _, _, _)), fun _ => rfl⟩
  · exact ⟨none, fun _ => rfl⟩
theorem ct_scod (nx : Nat) : am_cont (i_scod nx) := fun ls st h => by
  unfold i_scod
  split
  · next a st' => cases am_isS a <;> first | exact ⟨none, fun _ => rfl⟩ | exact ⟨some (.inl (_, _, _, _)), fun _ => rfl⟩
  · exact ⟨none, fun _ => rfl⟩
theorem ct_blen (nx : Nat) : am_cont (i_blen nx) := fun ls st h => by
  unfold i_blen
  split
  · next a st' => cases am_isB a <;> first | exact ⟨none, fun _ => rfl⟩ | exact ⟨some (.inl (_, _, _, _)), fun _ => rfl⟩
  · exact ⟨none, fun _ => rfl⟩
theorem ct_bget (nx : Nat) : am_cont (i_bget nx) := fun ls st h => by
  unfold i_bget
  split
  · next i a st' => cases (am_isB a && am_inb i (lenS.getD (a - 1100) 0)) <;> first | exact ⟨none, fun _ => rfl⟩ | exact ⟨some (.inl (_, _, _, _)), fun _ => rfl⟩
  · exact ⟨none, fun _ => rfl⟩
theorem ct_wI (F : List Value → Mem → Option (am_R Mem)) (n nx : Nat) : am_cont (i_wI F n nx) := fun ls st h => by
  unfold i_wI
  split
  · next as a st' _ =>
    cases (am_low st' && am_isS a) with
    | false => exact ⟨none, fun _ => rfl⟩
    | true => exact ct_rI _ _ _ _
  · exact ⟨none, fun _ => rfl⟩
theorem am_isS_of {a : Nat} (h : am_isS a = true) : ∃ i : Nat, i < 6 ∧ a = 1000 + i := by
  unfold am_isS at h
  simp only [Bool.and_eq_true] at h
  have g1 := Nat.le_of_ble_eq_true h.1
  have g2 := Nat.le_of_ble_eq_true h.2
  exact ⟨a - 1000, by omega, by omega⟩
theorem am_isB_of {a : Nat} (h : am_isB a = true) : ∃ i : Nat, i < 6 ∧ a = 1100 + i := by
  unfold am_isB at h
  simp only [Bool.and_eq_true] at h
  have g1 := Nat.le_of_ble_eq_true h.1
  have g2 := Nat.le_of_ble_eq_true h.2
  exact ⟨a - 1100, by omega, by omega⟩
theorem am_n1 (i : Nat) : 1100 + i - 1100 = i := by omega
theorem am_n2 (i : Nat) : 1000 + i + 100 = 1100 + i := by omega
section AmMore
variable {g : am_G} {S : am_S} {n c0 s0 nL : Nat} {r : am_R Mem} {own : String} {cc : ByteArray} {pc nx : Nat}
theorem sd_max (X : am_X g own cc nL) (V : am_V S n c0 s0 g) {idx : Nat} (hn1 : Nat.ble 1 n = true) (hl : Cond.methodLink own idx Lib.Math.max.name ∈ am_tbl) (hs : Cond.static Lib.Math.max.name ∈ am_tbl) (hi : Cond.initialized "java/lang/Math" ∈ am_tbl) (hc : Cond.code Lib.Math.max.name Lib.Math.max.code 2 (some .int) ∈ am_tbl) (hd : decode cc pc = .ok (.invokestatic idx, 3)) (hn : pc + 3 = nx) : am_snd g (am_ad S) (rm2 S c0 s0 g) nL r pc (i_max nx) := by
  subst hn
  obtain ⟨p, l, e, R, s, m, args, below, meth, c, Q⟩ := g
  obtain ⟨hx, hb, hml, ho, hts⟩ := X
  obtain ⟨v1, v2, v3, v4, v5⟩ := V
  have h1 := Nat.le_of_ble_eq_true hn1
  intro ls st h k hk K H locs cells slots lsC hR hL
  unfold i_max at hk
  split at hk
  · next y x st' =>
    cases hlow : am_low st' with
    | false => rw [hlow] at hk; cases hk
    | true =>
      rw [hlow] at hk
      have hsum := am_low_sum (ad := am_ad S) hlow
      obtain ⟨q1, q2, rfl, rfl⟩ := hR
      exact va_mmax hx hb (hml.trans hL.2.1.symm) ho (hts _ hl) (hts _ hs) (hts _ hi) (hts _ hc) (by omega) (by omega) v4 v5 hd (K _ _ _ _ hk H locs _ _ lsC ⟨q1, q2, rfl, rfl⟩ hL)
  · cases hk
theorem sd_min (X : am_X g own cc nL) (V : am_V S n c0 s0 g) {idx : Nat} (hn1 : Nat.ble 1 n = true) (hl : Cond.methodLink own idx Lib.Math.min.name ∈ am_tbl) (hs : Cond.static Lib.Math.min.name ∈ am_tbl) (hi : Cond.initialized "java/lang/Math" ∈ am_tbl) (hc : Cond.code Lib.Math.min.name Lib.Math.min.code 2 (some .int) ∈ am_tbl) (hd : decode cc pc = .ok (.invokestatic idx, 3)) (hn : pc + 3 = nx) : am_snd g (am_ad S) (rm2 S c0 s0 g) nL r pc (i_min nx) := by
  subst hn
  obtain ⟨p, l, e, R, s, m, args, below, meth, c, Q⟩ := g
  obtain ⟨hx, hb, hml, ho, hts⟩ := X
  obtain ⟨v1, v2, v3, v4, v5⟩ := V
  have h1 := Nat.le_of_ble_eq_true hn1
  intro ls st h k hk K H locs cells slots lsC hR hL
  unfold i_min at hk
  split at hk
  · next y x st' =>
    cases hlow : am_low st' with
    | false => rw [hlow] at hk; cases hk
    | true =>
      rw [hlow] at hk
      have hsum := am_low_sum (ad := am_ad S) hlow
      obtain ⟨q1, q2, rfl, rfl⟩ := hR
      exact va_mmin hx hb (hml.trans hL.2.1.symm) ho (hts _ hl) (hts _ hs) (hts _ hi) (hts _ hc) (by omega) (by omega) v4 v5 hd (K _ _ _ _ hk H locs _ _ lsC ⟨q1, q2, rfl, rfl⟩ hL)
  · cases hk
theorem sd_acopy (X : am_X g own cc nL) (V : am_V S n c0 s0 g) {idx : Nat} (hn1 : Nat.ble 1 n = true) (hl : Cond.methodLink own idx arraycopyName ∈ am_tbl) (hs : Cond.static arraycopyName ∈ am_tbl) (hi : Cond.initialized "java/lang/System" ∈ am_tbl) (hc : Cond.native arraycopyName ∈ am_tbl) (hd : decode cc pc = .ok (.invokestatic idx, 3)) (hn : pc + 3 = nx) : am_snd g (am_ad S) (rm2 S c0 s0 g) nL r pc (i_acopy nx) := by
  subst hn
  obtain ⟨p, l, e, R, s, m, args, below, meth, c, Q⟩ := g
  obtain ⟨hx, hb, hml, ho, hts⟩ := X
  obtain ⟨v1, v2, v3, v4, v5⟩ := V
  have h1 := Nat.le_of_ble_eq_true hn1
  intro ls st h k hk K H locs cells slots lsC hR hL
  unfold i_acopy o_cp at hk
  split at hk
  · next cn dp b sp a st' =>
    cases hlow : am_low st' with
    | false => rw [hlow] at hk; cases hk
    | true =>
      rw [hlow] at hk
      cases hok : am_cpok a b sp dp cn with
      | false => rw [hok] at hk; cases hk
      | true =>
        rw [hok] at hk
        have hsum := am_low_sum (ad := am_ad S) hlow
        obtain ⟨q1, q2, rfl, rfl⟩ := hR
        unfold am_cpok at hok
        simp only [Bool.and_eq_true, Bool.not_eq_true', decide_eq_false_iff_not] at hok
        obtain ⟨⟨⟨⟨⟨⟨g1, g2⟩, g3⟩, g4⟩, g5⟩, g6⟩, g7⟩ := hok
        have g1 := Nat.eq_of_beq_eq_true g1
        have g2 := Nat.eq_of_beq_eq_true g2
        have g6 := Nat.le_of_ble_eq_true g6
        have g7 := Nat.le_of_ble_eq_true g7
        have hla : a < NC := sh_lt (by omega)
        have hlb : b < NC := sh_lt (by omega)
        have hea := vw_at (S := S) (σ := h) hla
        have heb := vw_at (S := S) (σ := h) hlb
        rw [ce_arr g1 (by omega) (by omega)] at hea
        rw [ce_arr g2 (by omega) (by omega)] at heb
        show am_wp _ _ _ _ _ _ _ (.int cn :: .int dp :: .ref ((am_ad S).1 b) :: .int sp :: .ref ((am_ad S).1 a) :: _)
        rw [am_ad_lt hla, am_ad_lt hlb]
        have hnw : nativeFrameWords "java/lang/System" "arraycopy" 5 + 11 ≤ 32 := by decide +kernel
        refine va_copyi (ty := .int) hx hb (hml.trans hL.2.1.symm) ho (hts _ hl) (hts _ hc) (hts _ hs) (hts _ hi) v1.1 q1 (vw_D S h) q2 a b 0 0 hea heb rfl rfl rfl g3 g4 g5 g6 g7 (fun _ _ => rfl) (by omega) (by omega) hd (fun H1 locs1 hP hD hS => ?_)
        have e1 : (vw S h).set b (S.1 + b, .inl (S.2.2.1 (100 - 100), (sh b).2, .inl (va_cpy (h a) (h b) sp.toNatClampNeg dp.toNatClampNeg cn.toNatClampNeg))) = vw S (cpyM h a b sp.toNatClampNeg dp.toNatClampNeg cn.toNatClampNeg) := by
          have e2 : cpyM h a b sp.toNatClampNeg dp.toNatClampNeg cn.toNatClampNeg b = va_cpy (h a) (h b) sp.toNatClampNeg dp.toNatClampNeg cn.toNatClampNeg := by unfold cpyM; rw [if_pos rfl]
          refine vw_set hlb ?_ (fun z hz => ?_)
          · rw [ce_arr g2 (by omega) (by omega), e2]
          · have e3 : cpyM h a b sp.toNatClampNeg dp.toNatClampNeg cn.toNatClampNeg z = h z := by unfold cpyM; rw [if_neg hz]
            unfold ce
            rw [e3]
            have e4 : ceV S (cpyM h a b sp.toNatClampNeg dp.toNatClampNeg cn.toNatClampNeg) (sh z).1 z = ceV S h (sh z).1 z := by
              funext j
              unfold ceV
              rw [e3]
            rw [e4]
        have hP := e1 ▸ hP
        exact K _ _ _ _ hk H1 locs1 _ _ lsC ⟨hP, hS, rfl, rfl⟩ hL
  · cases hk
theorem am_ad_KA : (am_ad S).1 2000 = S.2.2.2.2.2.1 := rfl
theorem am_ad_S {i : Nat} (h : i < 100) : (am_ad S).1 (1000 + i) = S.2.2.2.1 i := by
  show am_adf S _ = _
  unfold am_adf
  rw [if_neg (by omega), if_pos (by omega), show 1000 + i - 1000 = i by omega]
theorem am_ad_B {i : Nat} (h : i < 100) : (am_ad S).1 (1100 + i) = S.2.2.2.2.1 i := by
  show am_adf S _ = _
  unfold am_adf
  rw [if_neg (by omega), if_neg (by omega), if_pos (by omega), show 1100 + i - 1100 = i by omega]
theorem sd_gsKA (X : am_X g own cc nL) (V : am_V S n c0 s0 g) {idx : Nat} (hw : Cond.fieldLink own idx "KilnCourses$Load" "KIND_ABOVE" "[I" ∈ am_tbl) (hd : decode cc pc = .ok (.getstatic idx, 3)) (hn : pc + 3 = nx) : am_snd g (am_ad S) (rm2 S c0 s0 g) nL r pc (i_const (.ref 2000) nx) := by
  subst hn
  obtain ⟨p, l, e, R, s, m, args, below, meth, c, Q⟩ := g
  obtain ⟨hx, hb, hml, ho, hts⟩ := X
  intro ls st h k hk K H locs cells slots lsC hR hL
  exact va_gets hx hb V.1.2.2.2.1 hR.2.1 ho (hts _ hw) (fun _ h9 => h9) hd (K _ _ _ _ hk H locs cells slots lsC hR hL)
theorem sd_gsCS (X : am_X g own cc nL) (V : am_V S n c0 s0 g) {idx : Nat} (hw : Cond.fieldLink own idx "java/lang/String" "COMPACT_STRINGS" "Z" ∈ am_tbl) (hd : decode cc pc = .ok (.getstatic idx, 3)) (hn : pc + 3 = nx) : am_snd g (am_ad S) (rm2 S c0 s0 g) nL r pc (i_const (.int 1) nx) := by
  subst hn
  obtain ⟨p, l, e, R, s, m, args, below, meth, c, Q⟩ := g
  obtain ⟨hx, hb, hml, ho, hts⟩ := X
  intro ls st h k hk K H locs cells slots lsC hR hL
  exact va_gets hx hb V.1.2.2.2.2.2.1 hR.2.1 ho (hts _ hw) (fun _ h9 => h9) hd (K _ _ _ _ hk H locs cells slots lsC hR hL)
theorem sd_gsFM (X : am_X g own cc nL) (V : am_V S n c0 s0 g) {idx : Nat} (hw : Cond.fieldLink own idx "jdk/internal/util/Preconditions" "SIOOBE_FORMATTER" "Ljava/util/function/BiFunction;" ∈ am_tbl) (hd : decode cc pc = .ok (.getstatic idx, 3)) (hn : pc + 3 = nx) : am_snd g (am_ad S) (rm2 S c0 s0 g) nL r pc (i_const (.retAddr 0) nx) := by
  subst hn
  obtain ⟨p, l, e, R, s, m, args, below, meth, c, Q⟩ := g
  obtain ⟨hx, hb, hml, ho, hts⟩ := X
  intro ls st h k hk K H locs cells slots lsC hR hL
  exact va_gets hx hb V.1.2.2.2.2.2.2 hR.2.1 ho (hts _ hw) (fun _ h9 => h9) hd (K _ _ _ _ hk H locs cells slots lsC hR hL)
theorem sd_ldKA (X : am_X g own cc nL) (V : am_V S n c0 s0 g) (hd : decode cc pc = .ok (.iaload, 1)) (hn : pc + 1 = nx) : am_snd g (am_ad S) (rm2 S c0 s0 g) nL r pc (i_ldKA nx) := by
  subst hn
  obtain ⟨p, l, e, R, s, m, args, below, meth, c, Q⟩ := g
  obtain ⟨hx, hb, hml, ho, hts⟩ := X
  intro ls st h k hk K H locs cells slots lsC hR hL
  unfold i_ldKA at hk
  split at hk
  · next i a st' =>
    cases hg : (Nat.beq a 2000 && am_inb i 6) with
    | false => rw [hg] at hk; cases hk
    | true =>
      rw [hg] at hk
      simp only [Bool.and_eq_true] at hg
      obtain ⟨g1, g2⟩ := hg
      have g1 := Nat.eq_of_beq_eq_true g1
      subst g1
      exact va_ti hx hb V.1.2.2.2.2.1 hR.2.1 (am_inb_in g2) rfl hd (K _ _ _ _ hk H locs cells slots lsC hR hL)
  · cases hk
theorem sd_ldcS (X : am_X g own cc nL) (V : am_V S n c0 s0 g) {idx i : Nat} {tx : String} (hq : (own, idx, tx, i) ∈ scL) (hi : Nat.ble (i + 1) 100 = true) (hd : decode cc pc = .ok (.ldc idx, 2)) (hn : pc + 2 = nx) : am_snd g (am_ad S) (rm2 S c0 s0 g) nL r pc (i_const (.ref (1000 + i)) nx) := by
  subst hn
  obtain ⟨p, l, e, R, s, m, args, below, meth, c, Q⟩ := g
  obtain ⟨hx, hb, hml, ho, hts⟩ := X
  intro ls st h k hk K H locs cells slots lsC hR hL
  have hkk := K _ _ _ _ hk H locs cells slots lsC hR hL
  change am_wp _ H locs cells slots (pc + 2) lsC (.ref ((am_ad S).1 (1000 + i)) :: st.map (am_cv (am_ad S))) at hkk
  rw [am_ad_S (Nat.le_of_ble_eq_true hi)] at hkk
  exact va_ldcS hx hb ho (V.1.2.2.1 _ hq) hd hkk
theorem sd_sval (X : am_X g own cc nL) (V : am_V S n c0 s0 g) {idx : Nat} (hw : Cond.fieldLink own idx "java/lang/String" "value" "[B" ∈ am_tbl) (hd : decode cc pc = .ok (.getfield idx, 3)) (hn : pc + 3 = nx) : am_snd g (am_ad S) (rm2 S c0 s0 g) nL r pc (i_sval nx) := by
  subst hn
  obtain ⟨p, l, e, R, s, m, args, below, meth, c, Q⟩ := g
  obtain ⟨hx, hb, hml, ho, hts⟩ := X
  intro ls st h k hk K H locs cells slots lsC hR hL
  unfold i_sval at hk
  split at hk
  · next a st' =>
    cases hg : am_isS a with
    | false => rw [hg] at hk; cases hk
    | true =>
      rw [hg] at hk
      obtain ⟨i, hi6, rfl⟩ := am_isS_of hg
      have hkk := K _ _ _ _ hk H locs cells slots lsC hR hL
      change am_wp _ H locs cells slots (pc + 3) lsC (.ref ((am_ad S).1 (1000 + i + 100)) :: st'.map (am_cv (am_ad S))) at hkk
      rw [am_n2, am_ad_B (by omega)] at hkk
      show am_wp _ _ _ _ _ _ _ (.ref ((am_ad S).1 (1000 + i)) :: _)
      rw [am_ad_S (by omega)]
      exact vk_getf hx hb (V.1.2.1.1 i (by omega)).2.2.1 hR.2.1 ho (hts _ hw) (fun _ h9 => h9) hd hkk
  · cases hk
theorem sd_scod (X : am_X g own cc nL) (V : am_V S n c0 s0 g) {idx : Nat} (hw : Cond.fieldLink own idx "java/lang/String" "coder" "B" ∈ am_tbl) (hd : decode cc pc = .ok (.getfield idx, 3)) (hn : pc + 3 = nx) : am_snd g (am_ad S) (rm2 S c0 s0 g) nL r pc (i_scod nx) := by
  subst hn
  obtain ⟨p, l, e, R, s, m, args, below, meth, c, Q⟩ := g
  obtain ⟨hx, hb, hml, ho, hts⟩ := X
  intro ls st h k hk K H locs cells slots lsC hR hL
  unfold i_scod at hk
  split at hk
  · next a st' =>
    cases hg : am_isS a with
    | false => rw [hg] at hk; cases hk
    | true =>
      rw [hg] at hk
      obtain ⟨i, hi6, rfl⟩ := am_isS_of hg
      have hkk := K _ _ _ _ hk H locs cells slots lsC hR hL
      show am_wp _ _ _ _ _ _ _ (.ref ((am_ad S).1 (1000 + i)) :: _)
      rw [am_ad_S (by omega)]
      exact vk_getf hx hb (V.1.2.1.1 i (by omega)).2.1 hR.2.1 ho (hts _ hw) (fun _ h9 => h9) hd hkk
  · cases hk
theorem sd_blen (X : am_X g own cc nL) (V : am_V S n c0 s0 g) (hd : decode cc pc = .ok (.arraylength, 1)) (hn : pc + 1 = nx) : am_snd g (am_ad S) (rm2 S c0 s0 g) nL r pc (i_blen nx) := by
  subst hn
  obtain ⟨p, l, e, R, s, m, args, below, meth, c, Q⟩ := g
  obtain ⟨hx, hb, hml, ho, hts⟩ := X
  intro ls st h k hk K H locs cells slots lsC hR hL
  unfold i_blen at hk
  split at hk
  · next a st' =>
    cases hg : am_isB a with
    | false => rw [hg] at hk; cases hk
    | true =>
      rw [hg] at hk
      obtain ⟨i, hi6, rfl⟩ := am_isB_of hg
      rw [am_n1] at hk
      have hkk := K _ _ _ _ hk H locs cells slots lsC hR hL
      show am_wp _ _ _ _ _ _ _ (.ref ((am_ad S).1 (1100 + i)) :: _)
      rw [am_ad_B (by omega)]
      exact va_tlen hx hb (V.1.2.1.1 i (by omega)).2.2.2 hR.2.1 rfl hd hkk
  · cases hk
theorem sd_bget (X : am_X g own cc nL) (V : am_V S n c0 s0 g) (hd : decode cc pc = .ok (.baload, 1)) (hn : pc + 1 = nx) : am_snd g (am_ad S) (rm2 S c0 s0 g) nL r pc (i_bget nx) := by
  subst hn
  obtain ⟨p, l, e, R, s, m, args, below, meth, c, Q⟩ := g
  obtain ⟨hx, hb, hml, ho, hts⟩ := X
  intro ls st h k hk K H locs cells slots lsC hR hL
  unfold i_bget at hk
  split at hk
  · next j a st' =>
    cases hg : (am_isB a && am_inb j (lenS.getD (a - 1100) 0)) with
    | false => rw [hg] at hk; cases hk
    | true =>
      rw [hg] at hk
      simp only [Bool.and_eq_true] at hg
      have g3 := hg.2
      obtain ⟨i, hi6, rfl⟩ := am_isB_of hg.1
      rw [am_n1] at hk g3
      have hkk := K _ _ _ _ hk H locs cells slots lsC hR hL
      show am_wp _ _ _ _ _ _ _ (.int j :: .ref ((am_ad S).1 (1100 + i)) :: _)
      rw [am_ad_B (by omega)]
      exact va_tb hx hb (V.1.2.1.1 i (by omega)).2.2.2 hR.2.1 (am_inb_in g3) rfl hd hkk
  · cases hk
theorem sd_wI {nC na maxL idx : Nat} {y : MethodName} {cc' : ByteArray} {ret : Option FieldType} {F : List Value → Mem → Option (am_R Mem)} (X : am_X g own cc nL) (V : am_V S n c0 s0 g) (hM : am_Met nC y cc' maxL ret F) (hh : Nat.ble (nC + 1) n = true) (hm : Nat.ble maxL 21 = true) (hc : Cond.code y cc' maxL ret ∈ am_tbl) (hin : Cond.instanceMethod y ∈ am_tbl) (hse : Cond.selects y.cls y y ∈ am_tbl) (hi : Cond.initialized y.cls ∈ am_tbl) (hl : Cond.methodLink own idx y ∈ am_tbl) (hy : y.cls ≠ "java/lang/invoke/MethodHandle" ∧ y.cls ≠ "java/lang/invoke/VarHandle") (hds : (parseMethodDescriptor y.desc).map (fun d => d.parameters.length) = some na) (hcl : y.cls = "java/lang/String") (hd : decode cc pc = .ok (.invokevirtual idx, 3)) (hn : pc + 3 = nx) : am_snd g (am_ad S) (rm2 S c0 s0 g) nL r pc (i_wI F na nx) := by
  subst hn
  obtain ⟨p, l, e, R, s, m, args, below, meth, c, Q⟩ := g
  obtain ⟨hx, hb, hml, ho, hts⟩ := X
  obtain ⟨v1, v2, v3, v4, v5⟩ := V
  intro ls st h k hk K H locs cells slots lsC hR hL
  unfold i_wI at hk
  split at hk
  · next as a st' ha =>
    cases hg : (am_low st' && am_isS a) with
    | false => rw [hg] at hk; cases hk
    | true =>
      rw [hg] at hk
      change o_rI (F (.ref a :: as) h) _ = some r at hk
      simp only [Bool.and_eq_true] at hg
      obtain ⟨hlow, hg1⟩ := hg
      obtain ⟨i, hi6, rfl⟩ := am_isS_of hg1
      unfold o_rI at hk
      split at hk
      · next v h' hF =>
        obtain ⟨q1, q2, rfl, rfl⟩ := hR
        obtain ⟨e1, e2⟩ := am_args_eq' ha
        have run := va_runV (p := p) (l := l) (e := e) (R := R) (s := s) (m := m) (args := args) (below := below) (meth := meth) (c := c) (H := H) (locs := locs) (cells := cells) (slots := slots) (C := y.cls) (b := S.2.2.2.1 i) (g := F0 m pc lsC (st.map (am_cv (am_ad S)))) (As := as.map (am_cv (am_ad S))) (rest := st'.map (am_cv (am_ad S))) (Ts := am_tbl) (own := own) (cc := cc) (nL := nL) ⟨hx, hb, hml, ho, hts⟩ (hM l S (.ref (1000 + i) :: as) h _ hF) ⟨am_cb hts ⟨v2, v3⟩ hh hm hc hi hl hy hds, hts _ hin, hts _ hse⟩ ⟨am_blind, (by have := vk_recv v1.2.1 (i := i) (by omega) q2; rw [hcl]; exact this), (by have := am_pre (vs := (.ref (1000 + i) :: as).map (am_cv (am_ad S))) v1 q1 q2; rw [List.map_cons] at this; change ∀ U : State, U.heap = H → s.WarmedH U.vm → va_Pc _ _ (Value.ref ((am_ad S).1 (1000 + i)) :: _).toArray U at this; rw [am_ad_S (by omega)] at this; exact this)⟩ rfl (by rw [List.length_map]; exact e2) hL.2.1 (by show st.map _ = _; rw [e1, List.map_append, List.map_reverse, List.map_cons]; change _ ++ Value.ref ((am_ad S).1 (1000 + i)) :: _ = _; rw [am_ad_S (by omega)]) (lv_room (am_low_sum hlow)) hd ⟨v4, v5⟩
        exact am_call run q2 (fun H1 locs1 hP hS => K _ _ _ _ hk H1 locs1 _ _ lsC ⟨hP, hS, rfl, rfl⟩ hL)
      · cases hk
  · cases hk
end AmMore
