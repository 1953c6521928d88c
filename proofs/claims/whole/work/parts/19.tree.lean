/-! lookupswitch; tables of instructions as trees -/
section AmTree
variable {M : Type} {g : am_G} {ad : am_AD} {RM : am_P M} {nL : Nat} {r : am_R M} {own : String} {cc : ByteArray} {pc nx : Nat}
theorem am_lk {x : Int32} {ls st : List Value} {h : M} {k : am_K M} {d : Nat} {dflt : Int} (ht : (pc : Int) + dflt = (d : Int)) : ∀ (ps : List (Int × Int)) (cs : List (Int32 × Nat)), ps.map (fun q => (q.1, (pc : Int) + q.2)) = cs.map (fun q => (q.1.toInt, (q.2 : Int))) → am_sw x ls st h k d cs = some r → ∃ t : Nat, (pc : Int) + Op.lookupswitch.offset ps dflt x.toInt = (t : Int) ∧ k t ls st h = some r := by
  intro ps
  induction ps with
  | nil =>
    intro cs e hk
    cases cs with
    | nil => exact ⟨d, ht, hk⟩
    | cons q cs => cases e
  | cons p ps ih =>
    intro cs e hk
    cases cs with
    | nil => cases e
    | cons q cs =>
      obtain ⟨a, o⟩ := p
      obtain ⟨v, t⟩ := q
      simp only [List.map_cons, List.cons.injEq, Prod.mk.injEq] at e
      obtain ⟨⟨e1, e2⟩, e3⟩ := e
      change (if x = v then k t ls st h else am_sw x ls st h k d cs) = some r at hk
      rw [Op.lookupswitch.offset_cons]
      by_cases hx : x = v
      · rw [if_pos hx] at hk
        subst hx
        rw [if_pos e1]
        exact ⟨t, e2, hk⟩
      · rw [if_neg hx] at hk
        rw [if_neg (fun z => hx (Int32.toInt_inj.mp (z.symm.trans e1)))]
        exact ih cs e3 hk
theorem sd_look (X : am_X g own cc nL) {dflt : Int} {ps : Array (Int × Int)} {ln d : Nat} {cs : List (Int32 × Nat)} (hd : decode cc pc = .ok (.lookupswitch dflt ps, ln)) (ht : (pc : Int) + dflt = (d : Int)) (hp : (ps.toList.zip (ps.toList.drop 1)).all (fun (a, next) => a.1 < next.1) = true) (hok : ps.toList.map (fun q => (q.1, (pc : Int) + q.2)) = cs.map (fun q => (q.1.toInt, (q.2 : Int)))) : am_snd g ad RM nL r pc (i_sw cs d) := by
  obtain ⟨p, l, e, R, s, m, args, below, meth, c, Q⟩ := g
  obtain ⟨hx, hb, hml, ho, hts⟩ := X
  intro ls st h k hk K H locs cells slots lsC hR hL
  unfold i_sw at hk
  split at hk
  · next x st' =>
    obtain ⟨t, h1, h2⟩ := am_lk ht ps.toList cs hok hk
    exact lv_lookup hx hb hd hp rfl h1 (K _ _ _ _ h2 H locs cells slots lsC hR hL)
  · cases hk
theorem am_bs {b : Bool} {f f' : am_I M} (h1 : am_snd g ad RM nL r pc f) (h2 : am_snd g ad RM nL r pc f') : am_snd g ad RM nL r pc (bif b then f else f') := by
  cases b
  · exact h2
  · exact h1
theorem am_ls {q : Nat} {f : am_I M} (h : am_snd g ad RM nL r q f) : am_snd g ad RM nL r pc (bif Nat.beq pc q then f else i_bad) := by
  cases hb : Nat.beq pc q with
  | false => exact sd_bad
  | true =>
    have := Nat.eq_of_beq_eq_true hb
    subst this
    exact h
theorem am_bc {b : Bool} {f f' : am_I M} (h1 : am_cont f) (h2 : am_cont f') : am_cont (bif b then f else f') := by
  cases b
  · exact h2
  · exact h1
theorem am_lc {b : Bool} {f : am_I M} (h : am_cont f) : am_cont (bif b then f else i_bad) := am_bc h ct_bad
end AmTree
def am_stp (l : List Nat) (q : Nat) : Bool := match l with
  | [] => false
  | a :: l => bif Nat.beq a q then true else am_stp l q
