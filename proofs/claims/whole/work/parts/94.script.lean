/-! the law's script -/
def o_sc {α : Type} (a : Nat) (k : Option α) : Option α := bif Nat.beq a 3000 then k else none
def o_sl {α : Type} (L a : Nat) (i : Int32) (k : Option α) : Option α := bif Nat.beq a 3000 && am_inb i L then k else none
def i_slen (L nx : Nat) : am_I Mem := fun ls st h k => match st with
  | .ref a :: st' => o_sc a (k nx ls (.int (Int32.ofNat L) :: st') h)
  | _ => none
def i_sld (L : Nat) (xs : Nat → Int32) (nx : Nat) : am_I Mem := fun ls st h k => match st with
  | .int i :: .ref a :: st' => o_sl L a i (k nx ls (.int (xs i.toNatClampNeg) :: st') h)
  | _ => none
theorem ct_slen (L nx : Nat) : am_cont (i_slen L nx) := fun ls st h => by
  unfold i_slen o_sc
  split
  · next a st' => cases Nat.beq a 3000 <;> first | exact ⟨none, fun _ => rfl⟩ | exact ⟨some (.inl (_, _, _, _)), fun _ => rfl⟩
  · exact ⟨none, fun _ => rfl⟩
theorem ct_sld (L : Nat) (xs : Nat → Int32) (nx : Nat) : am_cont (i_sld L xs nx) := fun ls st h => by
  unfold i_sld o_sl
  split
  · next i a st' => cases (Nat.beq a 3000 && am_inb i L) <;> first | exact ⟨none, fun _ => rfl⟩ | exact ⟨some (.inl (_, _, _, _)), fun _ => rfl⟩
  · exact ⟨none, fun _ => rfl⟩
def am_SX (S : am_S) (L : Nat) (xs : Nat → Int32) (g : am_G) : Prop := match g with
  | (_, _, _, _, s, _, _, _, _, _, _) => va_X S.2.2.2.2.2.2.1 L xs s s.heap ∧ S.2.2.2.2.2.2.1 < s.heap.size ∧ S.1 = s.heap.size
theorem ad3000 (S : am_S) : (am_ad S).1 3000 = S.2.2.2.2.2.2.1 := rfl
section AmScr
variable {g : am_G} {S : am_S} {c0 s0 nL L : Nat} {xs : Nat → Int32} {r : am_R Mem} {own : String} {cc : ByteArray} {pc nx : Nat}
theorem sd_slen (X : am_X g own cc nL) (SX : am_SX S L xs g) (hd : decode cc pc = .ok (.arraylength, 1)) (hn : pc + 1 = nx) : am_snd g (am_ad S) (rm2 S c0 s0 g) nL r pc (i_slen L nx) := by
  subst hn
  obtain ⟨p, l, e, R, s, m, args, below, meth, c, Q⟩ := g
  obtain ⟨hx, hb, hml, ho, hts⟩ := X
  obtain ⟨x1, x2, x3⟩ := SX
  intro ls st h k hk K H locs cells slots lsC hR hL
  unfold i_slen o_sc at hk
  split at hk
  · next a st' =>
    cases hg : Nat.beq a 3000 with
    | false => rw [hg] at hk; cases hk
    | true =>
      rw [hg] at hk
      have := Nat.eq_of_beq_eq_true hg
      subst this
      show am_wp _ _ _ _ _ _ _ (.ref ((am_ad S).1 3000) :: _)
      rw [ad3000]
      exact va_slen (A := am_A S) hx hb x1 x2 (fun z => Nat.not_le.mpr x2 (by rw [← x3]; exact z.1)) hR.2.1 hd (K _ _ _ _ hk H locs cells slots lsC hR hL)
  · cases hk
theorem sd_sld (X : am_X g own cc nL) (SX : am_SX S L xs g) (hd : decode cc pc = .ok (.iaload, 1)) (hn : pc + 1 = nx) : am_snd g (am_ad S) (rm2 S c0 s0 g) nL r pc (i_sld L xs nx) := by
  subst hn
  obtain ⟨p, l, e, R, s, m, args, below, meth, c, Q⟩ := g
  obtain ⟨hx, hb, hml, ho, hts⟩ := X
  obtain ⟨x1, x2, x3⟩ := SX
  intro ls st h k hk K H locs cells slots lsC hR hL
  unfold i_sld o_sl at hk
  split at hk
  · next i a st' =>
    cases hg : (Nat.beq a 3000 && am_inb i L) with
    | false => rw [hg] at hk; cases hk
    | true =>
      rw [hg] at hk
      rw [Bool.and_eq_true] at hg
      have := Nat.eq_of_beq_eq_true hg.1
      subst this
      show am_wp _ _ _ _ _ _ _ (.int i :: .ref ((am_ad S).1 3000) :: _)
      rw [ad3000]
      exact va_sld (A := am_A S) hx hb x1 x2 (fun z => Nat.not_le.mpr x2 (by rw [← x3]; exact z.1)) hR.2.1 (am_inb_in hg.2) hd (K _ _ _ _ hk H locs cells slots lsC hR hL)
  · cases hk
end AmScr
