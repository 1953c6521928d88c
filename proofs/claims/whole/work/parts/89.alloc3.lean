/-! the constructors: references into rows, calls; contracts -/
section AmAlloc3
variable {g : am_G} {S : am_S} {n n0 B nL : Nat} {r : am_R AMem} {own : String} {cc : ByteArray} {pc nx : Nat}
theorem sd_aast (X : am_X g own cc nL) (V : am_VA S n n0 B g) {t ci : Nat} {q : vw_C} (ht : 102 ≤ t) (hci : Nat.ble (ci + 1) 10 = true) (hE : (am_tys S)[t - 100]? = some (S.2.2.1 (t - 100), .object q.1)) (hc : am_cl[ci]? = some q) (hd : decode cc pc = .ok (.aastore, 1)) (hn : pc + 1 = nx) : am_snd g (am_ad S) (rmA S n0 B g) nL r pc (i_aast t ci nx) := by
  subst hn
  obtain ⟨p, l, e, R, s, m, args, below, meth, c, Q⟩ := g
  obtain ⟨hx, hb, hml, ho, hts⟩ := X
  obtain ⟨v1, v2, v3, v4, v5, v6, v8⟩ := V
  intro ls st h k hk K H locs cells slots lsC hR hL
  unfold i_aast at hk
  split at hk
  · next b i a st' =>
    cases hg : (Nat.beq (sh a).1 t && Nat.blt a h.2.2 && am_inb i (sh a).2 && Nat.blt b h.2.2 && Nat.beq (sh b).1 ci && Nat.beq b (rf a i.toNatClampNeg)) with
    | false => rw [hg] at hk; cases hk
    | true =>
      rw [hg] at hk
      simp only [Bool.and_eq_true] at hg
      obtain ⟨⟨⟨⟨⟨g1, g2⟩, g3⟩, g4⟩, g5⟩, g6⟩ := hg
      have hcl : (sh a).1 = t := Nat.eq_of_beq_eq_true g1
      have ha : a < h.2.2 := Nat.le_of_ble_eq_true g2
      have hib := am_inb_in g3
      have hbl : b < h.2.2 := Nat.le_of_ble_eq_true g4
      have hbc : (sh b).1 = ci := Nat.eq_of_beq_eq_true g5
      have hbe := Nat.eq_of_beq_eq_true g6
      obtain ⟨q1, q2, q3, q4, q5, q6, q7⟩ := hR
      have hci' : ci < 10 := Nat.le_of_ble_eq_true hci
      have hlt : a < NC := Nat.lt_of_lt_of_le ha (Nat.le_trans q5 v8)
      have hlb : b < NC := Nat.lt_of_lt_of_le hbl (Nat.le_trans q5 v8)
      have he := vwA_at (S := S) ha
      rw [ceA_ref hcl ht] at he
      have hv := vwA_at (S := S) hbl
      rw [ceA_obj hbc hci'] at hv
      show am_wp _ _ _ _ _ _ _ (.ref ((am_ad S).1 b) :: .int i :: .ref ((am_ad S).1 a) :: _)
      rw [am_ad_lt hlt, am_ad_lt hlb]
      have hil : i.toNatClampNeg < (sh a).2 := Nat.not_le.mp fun z => hib (Or.inr z)
      have hi0 : ¬ i < 0 := fun z => hib (Or.inl z)
      obtain ⟨r', hr', cellV, c1, c2, c3, -⟩ := q1 b _ hv
      have hcls := (v1.1.1 ci q hc).2
      obtain ⟨kA, comp, k1, k2, k3, -⟩ := (v1.1.2 _ _ hE).2
      have hcomp : comp = S.2.1.1 ci := Option.some.inj (k3.symm.trans hcls.1)
      subst hcomp
      obtain ⟨kC, hkC, -⟩ := hcls.2
      refine W.aast hx hb (q1 a _ he) (fun z hz => by cases hz) (fun z => by cases z) k1 k2 rfl hkC ⟨hi0, by show _ < (arrV _ _ _).slots.size; rw [arrV_size]; exact hil⟩ c1 (fun z hz => by rw [c3] at hz; cases hz) (by rw [c2]; exact hkC) (by rw [c2]; exact va_assign hcls) rfl rfl hd fun H1 b1 b2 b3 => ?_
      have hP := q1.set (vwA_D S h) he (e := ceA S (h.1, mkB h.2.1 a i.toNatClampNeg, h.2.2) a) (by
        rw [ceA_ref hcl ht]
        show H1[S.1 + a]? = some (vp_cell _ _)
        rw [b1, vp_cell_q, vp_cell_q, arrV_store]
        congr 1
        refine arrV_ext (fun j hj => ?_)
        unfold updV rfA
        show _ = va_rf (bif mkB h.2.1 a i.toNatClampNeg a j || _ then _ else _)
        rw [mkB_at]
        by_cases hq : j = i.toNatClampNeg
        · subst hq
          rw [if_pos rfl, beq_self, hbe]
          rfl
        · rw [if_neg hq, beq_ne hq]
          rfl) b3
      rw [vwA_set (h' := (h.1, mkB h.2.1 a i.toNatClampNeg, h.2.2)) ha rfl rfl (fun b hb => ceA_eq rfl (mkB_ne hb))] at hP
      exact K _ _ _ _ hk H1 _ cells slots lsC ⟨hP, q2.put b2 b3 ((vwA_D S h).2 a _ he), b2.trans q3, q4, q5, q6, q7⟩ hL
  · cases hk
theorem sd_obj (X : am_X g own cc nL) (V : am_VA S n n0 B g) {idx : Nat} (hn1 : Nat.ble 1 n = true) (hl : Cond.methodLink own idx Lib.objectInit ∈ am_tbl) (hi : Cond.instanceMethod Lib.objectInit ∈ am_tbl) (hc : Cond.code Lib.objectInit ⟨#[0xb1]⟩ 1 none ∈ am_tbl) (hd : decode cc pc = .ok (.invokespecial idx, 3)) (hn : pc + 3 = nx) : am_snd g (am_ad S) (rmA S n0 B g) nL r pc (i_obj nx) := by
  subst hn
  obtain ⟨p, l, e, R, s, m, args, below, meth, c, Q⟩ := g
  obtain ⟨hx, hb, hml, ho, hts⟩ := X
  obtain ⟨v1, v2, v3, v4, v5, v6, v8⟩ := V
  have h1 := Nat.le_of_ble_eq_true hn1
  intro ls st h k hk K H locs cells slots lsC hR hL
  unfold i_obj at hk
  split at hk
  · next a st' =>
    cases hlow : am_low st' with
    | false => rw [hlow] at hk; cases hk
    | true =>
      rw [hlow] at hk
      have hsum := am_low_sum (ad := am_ad S) hlow
      refine W.objInit hx hb ho (hts _ hl) (hts _ hi) (hts _ hc) rfl (hL.2.1.trans hml.symm) rfl hd (by omega) ?_ (K _ _ _ _ hk H locs cells slots lsC hR hL)
      show 2 * 0 + _ + 12 ≤ R.locals
      omega
  · cases hk
theorem am_callA {p : Program} {l : Launch} {e : Env} {R : Room} {s : State} {m : MethodId} {args : Array Value} {below : List Frame} {meth : Method} {c : Code} {H : Heap} {locs : List Loc} {cells slots mc ms : Nat} {Q : State → Prop} {r : am_R AMem} {pc : Nat} {ls : Array Slot} {st0 rest : List Value} {a : Array Value} (hr : va_Run p l e R s m args below meth c H locs cells slots mc ms (F0 m pc ls st0) rest (am_QcA S r a) (am_AA S)) (hS : va_S (am_AA S) s.heap H locs)
    (kk : ∀ (H1 : Heap) (locs1 : List Loc), va_P S.2.1 am_cl (vwA S r.2) H1 → va_S (am_AA S) s.heap H1 locs1 → H1.size = S.1 + r.2.2.2 → W p l e R s m args below meth c H1 locs1 (cells + mc) (slots + ms) Q (F0 m (pc + 3) ls rest)) : W p l e R s m args below meth c H locs cells slots Q (F0 m pc ls st0) := by
  intro T hT X
  obtain ⟨v, st₀, t, T', L, h0, X', hL, e1, e2, ⟨hv, hp, hsz, hz, hk⟩, st⟩ := hr T hT X
  cases hv
  rw [h0] at hz hk
  obtain ⟨t2, a1, b1⟩ := kk T'.heap (locs ++ L) (by rw [e1]; exact hp)
    ⟨Nat.le_trans hS.1 (by rw [e1]; exact hz), fun q h1 h2 => by rw [e1, hk q (Nat.lt_of_lt_of_le h1 hS.1) h2]; exact hS.2.1 q h1 h2, fun q hq => by
      rcases List.mem_append.mp hq with h | h
      · exact hS.2.2 q h
      · exact hL q h⟩ (by rw [e1]; exact hsz) T' rfl X'
  exact ⟨t2, st t2 a1, b1⟩
theorem am_blindA {h : AMem} {vs : List Value} : FrameBlind (va_Pc vs (am_WdA S h)) := fun a U g mk hh => ⟨hh.1, hh.2.1, hh.2.2.1, hh.2.2.2.blind rfl⟩
theorem o_sp_of {x : Option (am_R AMem)} {n : Nat} {k : AMem → Option (am_R AMem)} {r : am_R AMem} (h : o_sp x n k = some r) : ∃ h', x = some (none, h') ∧ h'.2.2 = n ∧ k h' = some r := by
  unfold o_sp at h
  split at h
  · next h' =>
    cases hb : Nat.beq h'.2.2 n with
    | false => rw [hb] at h; cases h
    | true => rw [hb] at h; exact ⟨h', rfl, Nat.eq_of_beq_eq_true hb, h⟩
  · cases h
/-- a call of a constructor, by a link of either kind -/
theorem sd_sp0 {nC maxL idx inc : Nat} {y : MethodName} {cc' : ByteArray} {F : Nat → List Value → AMem → Option (am_R AMem)} (X : am_X g own cc nL) (V : am_VA S n n0 B g) (hM : am_MetA nC y cc' maxL F) (hh : Nat.ble (nC + 1) n = true) (hm : Nat.ble maxL 21 = true) (hc : Cond.code y cc' maxL none ∈ am_tbl) (hin : Cond.instanceMethod y ∈ am_tbl) (hi : Cond.initialized y.cls ∈ am_tbl) (hnm : y.name = "<init>") (hl : Cond.methodLink own idx y ∈ am_tbl ∨ (own, idx, y) ∈ nsL) (hy : y.cls ≠ "java/lang/invoke/MethodHandle" ∧ y.cls ≠ "java/lang/invoke/VarHandle") (hds : (parseMethodDescriptor y.desc).map (fun d => d.parameters.length) = some 0) (hd : decode cc pc = .ok (.invokespecial idx, 3)) (hn : pc + 3 = nx) : am_snd g (am_ad S) (rmA S n0 B g) nL r pc (i_sp F inc B nx) := by
  subst hn
  obtain ⟨p, l, e, R, s, m, args, below, meth, c, Q⟩ := g
  obtain ⟨hx, hb, hml, ho, hts⟩ := X
  obtain ⟨v1, v2, v3, v4, v5, v6, v8⟩ := V
  have h1 := Nat.le_of_ble_eq_true hh
  have h2 := Nat.le_of_ble_eq_true hm
  intro ls st h k hk K H locs cells slots lsC hR hL
  unfold i_sp at hk
  split at hk
  · next a st' =>
    cases hg : (am_low st' && Nat.ble (h.2.2 + inc) B) with
    | false => rw [hg] at hk; cases hk
    | true =>
      rw [hg] at hk
      rw [Bool.and_eq_true] at hg
      have hsum := am_low_sum (ad := am_ad S) hg.1
      have hB := Nat.le_of_ble_eq_true hg.2
      obtain ⟨h', hF, hcnt, hk'⟩ := o_sp_of hk
      obtain ⟨q1, q2, q3, q4, q5, q6, q7⟩ := hR
      have hz1 : szS (h.2.2 + inc) ≤ szS B := szS_mono hB
      have hz0 : szS n0 ≤ szS h.2.2 := szS_mono q4
      have hz2 : szS h.2.2 ≤ szS (h.2.2 + inc) := szS_mono (Nat.le_add_right _ _)
      have hcon := hM l S (h.2.2 + inc) [.ref a] h (none, h') (Nat.le_add_right _ _) (Nat.le_trans hB v8) hF
      have hws : ∀ w ∈ (Cond.code y cc' maxL none :: am_tbl), ∀ (a' : Array Value) (U : State), s.WarmedH U.vm → w.before a' U = true := fun w hw a' U hW => by
        rcases List.mem_cons.mp hw with rfl | hw
        · exact word_at hW (good_of_word (am_good _ hc)) (hts _ hc)
        · exact word_at hW (good_of_word (am_good _ hw)) (hts _ hw)
      have hlen : ∀ sig, parseMethodDescriptor y.desc = some sig → 0 = sig.parameters.length := fun sig hs => by
        rw [hs] at hds
        exact (Option.some.inj hds).symm
      have hpre : PreS s H (va_Pc ([Value.ref a].map (am_cv (am_ad S))) (am_WdA S h)) (.ref ((am_ad S).1 a) :: []) := ⟨am_blindA, fun U hU hW => ⟨rfl, by rw [hU]; exact q1, by rw [hU]; exact q3, v1.go hW⟩⟩
      have hfr : (am_rmA nC (h.2.2 + inc - h.2.2) (szS (h.2.2 + inc) - szS h.2.2)).frames + 1 ≤ R.frames := by show nC + 1 ≤ R.frames; omega
      have hlo : 8 + (maxL + 11) + (am_rmA nC (h.2.2 + inc - h.2.2) (szS (h.2.2 + inc) - szS h.2.2)).locals ≤ R.locals := by show 8 + (maxL + 11) + 40 * nC ≤ R.locals; omega
      have run : va_Run p l e R s m args below meth c H locs cells slots (h.2.2 + inc - h.2.2) (szS (h.2.2 + inc) - szS h.2.2) (F0 m pc lsC ((Value.ref a :: st').map (am_cv (am_ad S)))) (st'.map (am_cv (am_ad S))) (am_QcA S (none, h') (Value.ref ((am_ad S).1 a) :: []).toArray) (am_AA S) := by
        rcases hl with hl | hl
        · exact va_runI (As := []) (Ts := am_tbl) (own := own) (cc := cc) (nL := nL) ⟨hx, hb, hml, ho, hts⟩ hcon ⟨⟨rfl, rfl, hfr, hlo, hws, List.mem_cons_self, hts _ hc, hts _ hi, hy, hlen, hts _ hl⟩, hnm, hts _ hin⟩ hpre rfl rfl hL.2.1 rfl (lv_room hsum) hd ⟨by omega, by omega⟩
        · exact va_runIN (As := []) (Ts := am_tbl) (own := own) (host := RX9) (cc := cc) (nL := nL) ⟨hx, hb, hml, ho, hts⟩ hcon ⟨⟨⟨rfl, rfl, hfr, hlo, hws, List.mem_cons_self⟩, hts _ hc, hts _ hi, hy, hlen, va_Nw.use rfl (v1.2.2 _ hl)⟩, hnm, hts _ hin⟩ hpre rfl rfl hL.2.1 rfl (lv_room hsum) hd ⟨by omega, by omega⟩
      refine am_callA run q2 (fun H1 locs1 hP hS hz => K _ _ _ _ hk' H1 locs1 _ _ lsC ⟨hP, hS, hz, by omega, by omega, by omega, ?_⟩ hL)
      rw [hcnt]
      omega
  · cases hk
end AmAlloc3
def am_fnA (C : Nat → Nat → am_I AMem) (fuel maxL : Nat) : Nat → List Value → AMem → Option (am_R AMem) := fun B avs h => bif Nat.ble (am_exp avs).length maxL then am_run (C B) fuel 0 (am_ent avs maxL) [] h else none
theorem am_metA {n maxL fuel : Nat} {y : MethodName} {cc : ByteArray} {C : Nat → Nat → am_I AMem} (hy : plainName y.cls = true) (hnm : y.name = "<init>")
    (hS : ∀ (S : am_S) (n0 B : Nat) (g : am_G) (r : am_R AMem), am_X g y.cls cc maxL → am_VA S n n0 B g → am_IN g → am_Ret g (am_ad S) (rmA S n0 B g) cc none r → ∀ pc, am_snd g (am_ad S) (rmA S n0 B g) maxL r pc (C B pc)) : am_MetA n y cc maxL (am_fnA C fuel maxL) := by
  intro l S Bd avs h r hle hNC hF
  unfold am_fnA at hF
  cases hlen : Nat.ble (am_exp avs).length maxL with
  | false => rw [hlen] at hF; cases hF
  | true =>
    rw [hlen] at hF
    change am_run (C Bd) fuel 0 (am_ent avs maxL) [] h = some r at hF
    refine Met.ofW (cc := cc) (maxL := maxL) (ret := none) hy rfl ?_
    intro p e s m args below meth c s₁ B hml hv
    obtain ⟨rfl, hP, hsz, hSt⟩ := hv
    have hx := B.exec
    have hb := B.bytes
    have hr := B.returns
    have hts0 := atoms_spec (ws := .code y cc maxL none :: am_tbl) B.pre
    have hts : ∀ w ∈ am_tbl, w.before (avs.map (am_cv (am_ad S))).toArray s = true := fun w hw => hts0 w (List.mem_cons_of_mem _ hw)
    have hown : s.vm.findClass y.cls = some m.cls := findClass_of_methodNamed B.named
    have hmn : meth.name = "<init>" := (name_of_methodNamed B.named B.method).1.trans hnm
    have hlocks := B.notSynchronized
    have hle' := Nat.le_of_ble_eq_true hlen
    have hl := lv_entry (avs.map (am_cv (am_ad S))) (n := maxL) (by rw [am_exp_len]; exact hle')
    rw [lg_entry_eq]
    generalize (lg_sl (avs.map (am_cv (am_ad S))) ++ List.replicate (maxL - (lg_sl (avs.map (am_cv (am_ad S)))).length) Slot.unset).toArray = lsC at hl ⊢
    obtain ⟨G, hG⟩ : ∃ G : am_G, G = (p, l, e, (headSpec (Cond.code y cc maxL none :: am_tbl) (am_rmA n (Bd - h.2.2) (szS Bd - szS h.2.2))).room, s, m, (avs.map (am_cv (am_ad S))).toArray, below, meth, c, MQ below (am_QcA S r) (avs.map (am_cv (am_ad S))).toArray s (Bd - h.2.2) (szS Bd - szS h.2.2) (am_AA S)) := ⟨_, rfl⟩
    have X : am_X G y.cls cc maxL := by rw [hG]; exact ⟨hx, hb, hml, hown, hts⟩
    have V : am_VA S n h.2.2 Bd G := by rw [hG]; exact ⟨hSt, Nat.le_refl _, Nat.le_refl _, Nat.le_refl _, Nat.le_refl _, by omega, hNC⟩
    have IN : am_IN G := by rw [hG]; exact hmn
    have Rt : am_Ret G (am_ad S) (rmA S h.2.2 Bd G) cc none r := by
      rw [hG]
      intro H locs cells slots pc ls' hRM hm
      obtain ⟨q1, q2, q3, q4, q5, q6, q7⟩ := hRM
      obtain ⟨rv, h'⟩ := r
      match rv, hm with
      | none, hm =>
        have hz1 : szS h'.2.2 ≤ szS Bd := szS_mono q5
        refine W.widen (k := Bd - h.2.2) (n := szS Bd - szS h.2.2) (by dsimp only at q5 q6; omega) (by dsimp only at q7; omega) ?_
        exact W.vret hx hb hr (fun t ht hW => ⟨rfl, by rw [ht]; exact q1, by rw [ht]; exact q3, q2.F ht⟩) q2.2.2 hm.1
      | some (.int x), ⟨_, ty, hm2, _⟩ => cases hm2
      | some (.ref a), ⟨_, nm, hm2⟩ => cases hm2
    have fin := am_run_snd (hS S h.2.2 Bd G r X V IN Rt) fuel 0 (am_ent avs maxL) [] h hF s.heap [] 0 0 lsC (by rw [hG]; exact ⟨hP, va_S.rf, hsz, Nat.le_refl _, hle, by omega, by omega⟩) (am_ent_L hl hle')
    rw [hG] at fin
    exact fin
