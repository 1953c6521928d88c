/-! the law, from its entry -/
section AmStep
variable {M : Type} {g : am_G} {ad : am_AD} {RM : am_P M} {nL pc : Nat}
theorem am_step {f : am_I M} {ls st : List Value} {h : M} {pc' : Nat} {ls' st' : List Value} {h' : M} (hs : ∀ r, am_snd g ad RM nL r pc f) (hf : ∀ k, f ls st h k = k pc' ls' st' h') (K : am_at g ad RM nL pc' ls' st' h') : am_at g ad RM nL pc ls st h := by
  refine hs (none, h) ls st h (fun a b c d => @ite _ (a = pc' ∧ b = ls' ∧ c = st' ∧ d = h') (Classical.propDecidable _) (some (none, h)) none) ?_ ?_
  · rw [hf]
    exact if_pos ⟨rfl, rfl, rfl, rfl⟩
  · intro a b c d e
    by_cases hq : a = pc' ∧ b = ls' ∧ c = st' ∧ d = h'
    · obtain ⟨rfl, rfl, rfl, rfl⟩ := hq
      exact K
    · rw [if_neg hq] at e
      cases e
end AmStep
theorem i_sp_eq {F : Nat → List Value → AMem → Option (am_R AMem)} {inc B nx a n : Nat} {ls st' : List Value} {h h' : AMem} {k : am_K AMem} (hn : h.2.2 + inc = n) (h1 : am_low st' = true) (h2 : Nat.ble n B = true) (hF : F n [.ref a] h = some (none, h')) (hc : Nat.beq h'.2.2 n = true) : i_sp F inc B nx ls (.ref a :: st') h k = k nx ls st' h' := by
  show (bif am_low st' && Nat.ble (h.2.2 + inc) B then o_sp (F (h.2.2 + inc) [.ref a] h) (h.2.2 + inc) (fun h' => k nx ls st' h') else none) = _
  rw [hn, h1, h2, hF]
  show (bif Nat.beq h'.2.2 n then k nx ls st' h' else none) = _
  rw [hc]
  rfl
theorem szS_all : szS NC ≤ 7302250 := by decide +kernel
theorem law_loop {p : Program} {l : Launch} {e : Env} {s : State} {m : MethodId} {below : List Frame} {meth : Method} {c : Code} {b L : Nat} {xs : Nat → Int32} {S : am_S} {σ : Mem} {s0 : Nat} (hs0 : s0 ≤ 7302250) (hL : L ≤ 3072) (C0 : lw_At p s m meth c b L xs) (hS1 : S.1 = s.heap.size) (hSb : S.2.2.2.2.2.2.1 = b) (hSt : am_St S s s.heap) (hrel : Rel σ) : am_at (p, l, e, room_1, s, m, #[Value.ref b], below, meth, c, lw_Z below #[Value.ref b] s) (am_ad S) (rm2 S 185 s0 (p, l, e, room_1, s, m, #[Value.ref b], below, meth, c, lw_Z below #[Value.ref b] s)) 4 18 [.ref 3000, .ref 0, .ref 160, .int 0] [] σ := by
  obtain ⟨hx, hb, hr, hml, hown, hts, hX, hbl, hlocks, hgv⟩ := id C0
  have htm : ∀ w ∈ am_tbl, w.before #[Value.ref b] s = true := fun w hw => hts w (List.mem_filter.mp hw).1
  obtain ⟨σ', e1⟩ := law_go (xs := xs) hL (L + 1) 0 σ (by omega) (Nat.zero_le _) hrel
  obtain ⟨n, e2⟩ := (am_go_some (ctL_law L xs)).mp e1
  refine am_run_snd (sdL_law L xs S 185 s0 _ (some (.int 1), σ') ⟨hx, hb, hml, hown, htm⟩ ⟨hSt, show (12 : Nat) ≤ 2048 by decide, show (40 * 12 : Nat) ≤ 84000 by decide, show (185 : Nat) ≤ 600000 from Nat.le_of_ble_eq_true rfl, hs0⟩ ⟨by rw [hSb]; exact hX, by rw [hSb]; exact hbl, hS1⟩ ?_) n 18 [.ref 3000, .ref 0, .ref 160, .int 0] [] σ e2
  intro H locs cells slots pc lsC hRM hm
  obtain ⟨q1, q2, rfl, rfl⟩ := hRM
  obtain ⟨hm1, -⟩ := hm
  refine va_forget (fun q hq => by rw [← hS1]; exact (q2.2.2 q hq).1) ?_
  refine W.widen (k := 600000) (n := 7302250) (Nat.le_of_ble_eq_true rfl) hs0 ?_
  exact lw_ret hx hb hr hlocks hm1
theorem whole_start {p : Program} {e : Env} {s : State} {m : MethodId} {below : List Frame} {meth : Method} {c : Code} (l : Launch) (hflags : l.flags = flags0) {b L : Nat} {xs : Nat → Int32} (hL : L ≤ 3072) (C0 : lw_At p s m meth c b L xs) : W p l e room_1 s m #[Value.ref b] below meth c s.heap [] 0 0 (lw_Z below #[Value.ref b] s) (entryFrame m ([Value.ref b] : List Value).toArray 4) := by
  obtain ⟨hx, hb, hr, hml, hown, hts, hX, hbl, hlocks, hgv⟩ := id C0
  have htm : ∀ w ∈ am_tbl, w.before #[Value.ref b] s = true := fun w hw => hts w (List.mem_filter.mp hw).1
  obtain ⟨S, hS1, hSb, hSt, hStA⟩ := start_S hts hgv
  obtain ⟨h1, h2, f1, n1, f2, ck⟩ := run_ex
  obtain ⟨n2, mk, ini⟩ := chk_of ck
  have hrel : Rel h2.1 := first_rel ini
  obtain ⟨s0, es0⟩ : ∃ s0, s0 = szS h2.2.2 - szS 0 := ⟨_, rfl⟩
  have hs0 : s0 ≤ 7302250 := by rw [es0, n2]; exact Nat.le_trans (Nat.sub_le _ _) szS_all
  have hav : [Value.ref 3000].map (am_cv (am_ad S)) = [Value.ref b] := by
    show [Value.ref ((am_ad S).1 3000)] = _
    rw [ad3000, hSb]
  have hl := lv_entry ([Value.ref b]) (n := 4) (Nat.le_of_ble_eq_true rfl)
  rw [lg_entry_eq]
  generalize (lg_sl ([Value.ref b]) ++ List.replicate (4 - (lg_sl ([Value.ref b])).length) Slot.unset).toArray = lsC at hl ⊢
  have hL0 : am_L (am_ad S) 4 [.ref 3000, .null, .null, .null] lsC := am_ent_L (vs := [.ref 3000]) (by rw [hav]; exact hl) (by decide)
  obtain ⟨G, hG⟩ : ∃ G : am_G, G = (p, l, e, room_1, s, m, #[Value.ref b], below, meth, c, lw_Z below #[Value.ref b] s) := ⟨_, rfl⟩
  have X : am_X G RL cL_law 4 := by rw [hG]; exact ⟨hx, hb, hml, hown, htm⟩
  have V : am_VA S 5 0 185 G := by rw [hG]; exact ⟨hStA, show (5 : Nat) ≤ 2048 by decide, show (40 * 5 : Nat) ≤ 84000 by decide, show (185 - 0 : Nat) ≤ 600000 from Nat.le_of_ble_eq_true rfl, Nat.le_trans (Nat.sub_le _ _) szS_all, Nat.le_of_eq hS1, Nat.le_refl _⟩
  have loop : am_at G (am_ad S) (rm2 S 185 s0 G) 4 16 [.ref 3000, .ref 0, .ref 160, .null] [] h2.1 := by
    refine am_step (f := i_const (.int (0 : Int32)) 17) (fun r => sd_iconst X dL_law_16 rfl rfl) (fun k => rfl) ?_
    refine am_step (f := i_istore 3 18) (fun r => sd_istore_n X rfl rfl dL_law_17 rfl) (fun k => rfl) ?_
    rw [hG]
    exact law_loop hs0 hL C0 hS1 hSb hSt hrel
  have stop : am_at G (am_ad S) (rmA S 0 185 G) 4 16 [.ref 3000, .ref 0, .ref 160, .null] [] h2 := by
    intro H locs cells slots lsC' hR hL'
    rw [hG] at hR loop ⊢
    obtain ⟨q1, q2, q3, q4, q5, q6, q7⟩ := hR
    rw [vwA_vw n2 mk] at q1
    have q6' : cells = 185 := by rw [q6, n2]; rfl
    have q7' : slots = s0 := q7.trans es0.symm
    refine va_forget (fun q hq => by rw [← hS1]; exact q2.2.2 q hq) ?_
    refine loop H [] cells slots lsC' ⟨q1, ⟨q2.1, fun q h1 _ => q2.2.1 q h1 (fun z => ?_), fun q hq => by cases hq⟩, q6', q7'⟩ hL'
    have z' : S.1 ≤ q := z
    omega
  obtain ⟨σ1, μ1, k1⟩ := h1
  dsimp only at n1
  subst n1
  have hn2 : Nat.beq h2.2.2 185 = true := by rw [n2]; rfl
  have fin : am_at G (am_ad S) (rmA S 0 185 G) 4 0 [.ref 3000, .null, .null, .null] [] ((fun _ _ => 0, fun _ _ => false, 0) : AMem) := by
    refine am_step (f := i_anew 8 185 3) (pc' := 3) (ls' := [.ref 3000, .null, .null, .null]) (st' := [.ref 0]) (h' := h0A) (fun r => sd_anew X V (C := RX9) (T := TX9) (N := 12) tyX9 tyX9_ok dfX9 rfl rfl inX9 rfl wd_18 wd_19 wd_1 dL_law_0 rfl) (fun k => rfl) ?_
    refine am_step (f := i_dup 4) (pc' := 4) (ls' := [.ref 3000, .null, .null, .null]) (st' := [.ref 0, .ref 0]) (h' := h0A) (fun r => sd_dup X dL_law_3 rfl) (fun k => rfl) ?_
    refine am_step (f := i_sp FX9_init 159 185 7) (pc' := 7) (ls' := [.ref 3000, .null, .null, .null]) (st' := [.ref 0]) (h' := (σ1, μ1, 160)) (fun r => sd_sp0 X V metX9_init rfl rfl wd_22 wd_21 wd_1 rfl (Or.inl wd_20) (by decide) (by decide +kernel) dL_law_4 rfl) (fun k => i_sp_eq (n := 160) rfl rfl rfl f1 rfl) ?_
    refine am_step (f := i_astore 1 8) (pc' := 8) (ls' := [.ref 3000, .ref 0, .null, .null]) (st' := []) (h' := (σ1, μ1, 160)) (fun r => sd_astore_n X rfl rfl dL_law_7 rfl) (fun k => rfl) ?_
    refine am_step (f := i_anew 9 185 11) (pc' := 11) (ls' := [.ref 3000, .ref 0, .null, .null]) (st' := [.ref 160]) (h' := h1A (σ1, μ1, 160)) (fun r => sd_anew X V (C := RX10) (T := TX10) (N := 42) tyX10 tyX10_ok dfX10 rfl rfl inX10 rfl wd_852 wd_853 wd_10 dL_law_8 rfl) (fun k => rfl) ?_
    refine am_step (f := i_dup 12) (pc' := 12) (ls' := [.ref 3000, .ref 0, .null, .null]) (st' := [.ref 160, .ref 160]) (h' := h1A (σ1, μ1, 160)) (fun r => sd_dup X dL_law_11 rfl) (fun k => rfl) ?_
    refine am_step (f := i_sp FX10_init 24 185 15) (pc' := 15) (ls' := [.ref 3000, .ref 0, .null, .null]) (st' := [.ref 160]) (h' := h2) (fun r => sd_sp0 X V metX10_init rfl rfl wd_856 wd_855 wd_10 rfl (Or.inl wd_854) (by decide) (by decide +kernel) dL_law_12 rfl) (fun k => i_sp_eq (n := 185) rfl rfl rfl f2 hn2) ?_
    refine am_step (f := i_astore 2 16) (pc' := 16) (ls' := [.ref 3000, .ref 0, .ref 160, .null]) (st' := []) (h' := h2) (fun r => sd_astore_n X rfl rfl dL_law_15 rfl) (fun k => rfl) ?_
    exact stop
  have out := fin s.heap [] 0 0 lsC (by
    rw [hG]
    exact ⟨fun k q hq => (by cases hq), va_S.rf, hS1.symm, Nat.le_refl _, Nat.zero_le _, rfl, rfl⟩) hL0
  rw [hG] at out
  exact out
