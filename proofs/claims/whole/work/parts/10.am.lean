/-! the abstract machine: instructions as functions, over any kind of memory -/
abbrev am_R (M : Type) : Type := Option Value × M
abbrev am_K (M : Type) : Type := Nat → List Value → List Value → M → Option (am_R M)
abbrev am_I (M : Type) : Type := List Value → List Value → M → am_K M → Option (am_R M)
section AmCore
variable {M : Type}
def am_run (C : Nat → am_I M) : Nat → am_K M
  | 0 => fun _ _ _ _ => none
  | n + 1 => fun pc ls st h => C pc ls st h (am_run C n)
abbrev am_D (M : Type) : Type := Option ((Nat × List Value × List Value × M) ⊕ am_R M)
def am_fold (d : am_D M) (k : am_K M) : Option (am_R M) := match d with
  | none => none
  | some (.inl (pc, ls, st, h)) => k pc ls st h
  | some (.inr r) => some r
def am_cont (f : am_I M) : Prop := ∀ ls st h, ∃ d : am_D M, ∀ k, f ls st h k = am_fold d k
end AmCore
noncomputable def am_lim {α : Type} (g : Nat → Option α) : Option α :=
  @dite _ (∃ n r, g n = some r) (Classical.propDecidable _) (fun h => g h.choose) (fun _ => none)
def am_up {α : Type} (g : Nat → Option α) : Prop := ∀ n r, g n = some r → g (n + 1) = some r
theorem am_up.le {α : Type} {g : Nat → Option α} (h : am_up g) {n m : Nat} {r : α} (hle : n ≤ m) (hg : g n = some r) : g m = some r := by
  induction hle with
  | refl => exact hg
  | step _ ih => exact h _ _ ih
theorem am_lim_some {α : Type} {g : Nat → Option α} (h : am_up g) {r : α} : am_lim g = some r ↔ ∃ n, g n = some r := by
  unfold am_lim
  constructor
  · intro e
    split at e
    · exact ⟨_, e⟩
    · cases e
  · rintro ⟨n, hn⟩
    have hh : ∃ n r, g n = some r := ⟨n, r, hn⟩
    rw [dif_pos hh]
    obtain ⟨r', hr'⟩ := hh.choose_spec
    have h1 := h.le (Nat.le_max_left hh.choose n) hr'
    have h2 := h.le (Nat.le_max_right hh.choose n) hn
    rw [h1] at h2
    rw [hr', h2]
theorem am_lim_ext {α : Type} {g g' : Nat → Option α} (h : am_up g) (h' : am_up g') (he : ∀ r, (∃ n, g n = some r) ↔ ∃ n, g' n = some r) : am_lim g = am_lim g' := by
  apply Option.ext
  intro r
  rw [am_lim_some h, am_lim_some h', he]
section AmFix
variable {M : Type}
theorem am_run_up {C : Nat → am_I M} (hC : ∀ pc, am_cont (C pc)) : ∀ n pc ls st h r, am_run C n pc ls st h = some r → am_run C (n + 1) pc ls st h = some r := by
  intro n
  induction n with
  | zero => intro pc ls st h r e; cases e
  | succ n ih =>
    intro pc ls st h r e
    obtain ⟨d, hd⟩ := hC pc ls st h
    show C pc ls st h (am_run C (n + 1)) = some r
    change C pc ls st h (am_run C n) = some r at e
    rw [hd] at e ⊢
    match d, e with
    | some (.inl (pc', ls', st', h')), e => exact ih _ _ _ _ _ e
    | some (.inr r'), e => exact e
noncomputable def am_go (C : Nat → am_I M) : am_K M := fun pc ls st h => am_lim (fun n => am_run C n pc ls st h)
theorem am_go_some {C : Nat → am_I M} (hC : ∀ pc, am_cont (C pc)) {pc ls st h r} : am_go C pc ls st h = some r ↔ ∃ n, am_run C n pc ls st h = some r :=
  am_lim_some (fun n r e => am_run_up hC n pc ls st h r e)
theorem am_go_fix {C : Nat → am_I M} (hC : ∀ pc, am_cont (C pc)) (pc : Nat) (ls st : List Value) (h : M) : am_go C pc ls st h = C pc ls st h (am_go C) := by
  obtain ⟨d, hd⟩ := hC pc ls st h
  apply Option.ext
  intro r
  rw [am_go_some hC, hd]
  have e1 : ∀ n, am_run C (n + 1) pc ls st h = am_fold d (am_run C n) := fun n => hd _
  constructor
  · rintro ⟨n, hn⟩
    cases n with
    | zero => cases hn
    | succ n =>
      rw [e1] at hn
      match d, hn with
      | some (.inl (pc', ls', st', h')), hn => exact (am_go_some hC).mpr ⟨n, hn⟩
      | some (.inr r'), hn => exact hn
  · intro hn
    match d, hn, e1 with
    | some (.inl (pc', ls', st', h')), hn, e1 =>
      obtain ⟨n, hn⟩ := (am_go_some hC).mp hn
      exact ⟨n + 1, (e1 n).trans hn⟩
    | some (.inr r'), hn, e1 => exact ⟨1, (e1 0).trans hn⟩
/-- n instructions at most, up to the places that S names -/
def am_un (C : Nat → am_I M) (S : Nat → Bool) : Nat → am_K M → am_K M
  | 0, k => k
  | n + 1, k => fun pc ls st h => C pc ls st h (fun pc' ls' st' h' => bif S pc' then k pc' ls' st' h' else am_un C S n k pc' ls' st' h')
theorem am_un_go {C : Nat → am_I M} (hC : ∀ pc, am_cont (C pc)) (S : Nat → Bool) : ∀ (n : Nat), am_un C S n (am_go C) = am_go C := by
  intro n
  induction n with
  | zero => rfl
  | succ n ih =>
    funext pc ls st h
    rw [am_go_fix hC]
    show C pc ls st h _ = _
    congr 1
    funext pc' ls' st' h'
    rw [ih]
    cases S pc' <;> rfl
theorem am_bl {C : Nat → am_I M} (hC : ∀ pc, am_cont (C pc)) (S : Nat → Bool) (n : Nat) {pc : Nat} {ls st : List Value} {h : M} {x : Option (am_R M)} (e : am_un C S n (am_go C) pc ls st h = x) : am_go C pc ls st h = x := by
  rw [am_un_go hC] at e
  exact e
end AmFix
/-! the instructions that touch no memory -/
section AmIns
variable {M : Type}
def i_bad : am_I M := fun _ _ _ _ => none
def i_const (v : Value) (nx : Nat) : am_I M := fun ls st h k => k nx ls (v :: st) h
def i_iload (i nx : Nat) : am_I M := fun ls st h k => match ls.getD i .null with
  | .int x => k nx ls (.int x :: st) h
  | _ => none
def i_aload (i nx : Nat) : am_I M := fun ls st h k => match ls.getD i .null with
  | .ref x => k nx ls (.ref x :: st) h
  | _ => none
def i_lload (i nx : Nat) : am_I M := fun ls st h k => match ls.getD i .null with
  | .long x => k nx ls (.long x :: st) h
  | _ => none
def am_prev (ls : List Value) (i : Nat) : Value := match i with
  | 0 => .null
  | j + 1 => ls.getD j .null
def i_istore (i nx : Nat) : am_I M := fun ls st h k => match st with
  | .int x :: st' => (match am_prev ls i with
    | .long _ => none
    | .double _ => none
    | _ => k nx (ls.set i (.int x)) st' h)
  | _ => none
def i_astore (i nx : Nat) : am_I M := fun ls st h k => match st with
  | .ref x :: st' => (match am_prev ls i with
    | .long _ => none
    | .double _ => none
    | _ => k nx (ls.set i (.ref x)) st' h)
  | _ => none
def i_lstore (i nx : Nat) : am_I M := fun ls st h k => match st with
  | .long x :: st' => (match am_prev ls i with
    | .long _ => none
    | .double _ => none
    | _ => k nx ((ls.set i (.long x)).set (i + 1) .null) st' h)
  | _ => none
def i_iinc (i : Nat) (n : Int32) (nx : Nat) : am_I M := fun ls st h k => match ls.getD i .null with
  | .int x => (match am_prev ls i with
    | .long _ => none
    | .double _ => none
    | _ => k nx (ls.set i (.int (x + n))) st h)
  | _ => none
def i_bin (f : Int32 → Int32 → Int32) (nx : Nat) : am_I M := fun ls st h k => match st with
  | .int y :: .int x :: st' => k nx ls (.int (f x y) :: st') h
  | _ => none
def o_nz {α : Type} (y : Int32) (k : Option α) : Option α := if y = 0 then none else k
def i_div (f : Int32 → Int32 → Int32) (nx : Nat) : am_I M := fun ls st h k => match st with
  | .int y :: .int x :: st' => o_nz y (k nx ls (.int (f x y) :: st') h)
  | _ => none
def i_un (f : Int32 → Int32) (nx : Nat) : am_I M := fun ls st h k => match st with
  | .int x :: st' => k nx ls (.int (f x) :: st') h
  | _ => none
def i_i2l (nx : Nat) : am_I M := fun ls st h k => match st with
  | .int x :: st' => k nx ls (.long x.toInt64 :: st') h
  | _ => none
def i_l2i (nx : Nat) : am_I M := fun ls st h k => match st with
  | .long x :: st' => k nx ls (.int x.toInt32 :: st') h
  | _ => none
def i_lbin (f : Int64 → Int64 → Int64) (nx : Nat) : am_I M := fun ls st h k => match st with
  | .long y :: .long x :: st' => k nx ls (.long (f x y) :: st') h
  | _ => none
def i_lsh (f : Int64 → Int32 → Int64) (nx : Nat) : am_I M := fun ls st h k => match st with
  | .int y :: .long x :: st' => k nx ls (.long (f x y) :: st') h
  | _ => none
def i_lcmp (nx : Nat) : am_I M := fun ls st h k => match st with
  | .long y :: .long x :: st' => k nx ls (.int (lg_cmp x y) :: st') h
  | _ => none
def am_c1 (v : Value) : Bool := match v with
  | .int _ => true
  | .ref _ => true
  | _ => false
def i_dup (nx : Nat) : am_I M := fun ls st h k => match st with
  | v :: st' => bif am_c1 v then k nx ls (v :: v :: st') h else none
  | _ => none
def i_pop (nx : Nat) : am_I M := fun ls st h k => match st with
  | v :: st' => bif am_c1 v then k nx ls st' h else none
  | _ => none
def i_dup2 (nx : Nat) : am_I M := fun ls st h k => match st with
  | v :: w :: st' => bif am_c1 v && am_c1 w then k nx ls (v :: w :: v :: w :: st') h else none
  | _ => none
def i_if1 (c : Int32 → Prop) (dc : ∀ x, Decidable (c x)) (t nx : Nat) : am_I M := fun ls st h k => match st with
  | .int x :: st' => @ite _ (c x) (dc x) (k t ls st' h) (k nx ls st' h)
  | _ => none
def i_if2 (c : Int32 → Int32 → Prop) (dc : ∀ x y, Decidable (c x y)) (t nx : Nat) : am_I M := fun ls st h k => match st with
  | .int y :: .int x :: st' => @ite _ (c x y) (dc x y) (k t ls st' h) (k nx ls st' h)
  | _ => none
def i_goto (t : Nat) : am_I M := fun ls st h k => k t ls st h
def am_sw (x : Int32) (ls st : List Value) (h : M) (k : am_K M) (d : Nat) : List (Int32 × Nat) → Option (am_R M)
  | [] => k d ls st h
  | (v, t) :: cs => if x = v then k t ls st h else am_sw x ls st h k d cs
def i_sw (cs : List (Int32 × Nat)) (d : Nat) : am_I M := fun ls st h k => match st with
  | .int x :: st' => am_sw x ls st' h k d cs
  | _ => none
def i_vret : am_I M := fun _ st h _ => match st with
  | [] => some (none, h)
  | _ => none
def i_iret : am_I M := fun _ st h _ => match st with
  | [.int x] => some (some (.int x), h)
  | _ => none
def o_zr {α : Type} (x : Int32) (k : Option α) : Option α := if x = 0 ∨ x = 1 then k else none
def i_zret : am_I M := fun _ st h _ => match st with
  | [.int x] => o_zr x (some (some (.int x), h))
  | _ => none
def i_aret : am_I M := fun _ st h _ => match st with
  | [.ref x] => some (some (.ref x), h)
  | _ => none
def o_nr {α : Type} (ty : FieldType) (x : Int32) (k : Option α) : Option α := if narrow ty (.int x) = .int x then k else none
def i_nret (ty : FieldType) : am_I M := fun _ st h _ => match st with
  | [.int x] => o_nr ty x (some (some (.int x), h))
  | _ => none
end AmIns
section AmConts
variable {M : Type}
theorem ct_no {f : am_I M} {ls st : List Value} {h : M} (e : ∀ k, f ls st h k = none) : ∃ d : am_D M, ∀ k, f ls st h k = am_fold d k := ⟨none, e⟩
theorem ct_bad : am_cont (i_bad : am_I M) := fun _ _ _ => ⟨none, fun _ => rfl⟩
theorem ct_const (v : Value) (nx : Nat) : am_cont (i_const v nx : am_I M) := fun _ _ _ => ⟨some (.inl (_, _, _, _)), fun _ => rfl⟩
theorem ct_iload (i nx : Nat) : am_cont (i_iload i nx : am_I M) := fun ls st h => by
  unfold i_iload
  split
  · exact ⟨some (.inl (_, _, _, _)), fun _ => rfl⟩
  · exact ⟨none, fun _ => rfl⟩
theorem ct_aload (i nx : Nat) : am_cont (i_aload i nx : am_I M) := fun ls st h => by
  unfold i_aload
  split
  · exact ⟨some (.inl (_, _, _, _)), fun _ => rfl⟩
  · exact ⟨none, fun _ => rfl⟩
theorem ct_lload (i nx : Nat) : am_cont (i_lload i nx : am_I M) := fun ls st h => by
  unfold i_lload
  split
  · exact ⟨some (.inl (_, _, _, _)), fun _ => rfl⟩
  · exact ⟨none, fun _ => rfl⟩
theorem ct_istore (i nx : Nat) : am_cont (i_istore i nx : am_I M) := fun ls st h => by
  unfold i_istore
  split
  · split <;> first | exact ⟨some (.inl (_, _, _, _)), fun _ => rfl⟩ | exact ⟨none, fun _ => rfl⟩
  · exact ⟨none, fun _ => rfl⟩
theorem ct_astore (i nx : Nat) : am_cont (i_astore i nx : am_I M) := fun ls st h => by
  unfold i_astore
  split
  · split <;> first | exact ⟨some (.inl (_, _, _, _)), fun _ => rfl⟩ | exact ⟨none, fun _ => rfl⟩
  · exact ⟨none, fun _ => rfl⟩
theorem ct_lstore (i nx : Nat) : am_cont (i_lstore i nx : am_I M) := fun ls st h => by
  unfold i_lstore
  split
  · split <;> first | exact ⟨some (.inl (_, _, _, _)), fun _ => rfl⟩ | exact ⟨none, fun _ => rfl⟩
  · exact ⟨none, fun _ => rfl⟩
theorem ct_iinc (i : Nat) (n : Int32) (nx : Nat) : am_cont (i_iinc i n nx : am_I M) := fun ls st h => by
  unfold i_iinc
  split
  · split <;> first | exact ⟨some (.inl (_, _, _, _)), fun _ => rfl⟩ | exact ⟨none, fun _ => rfl⟩
  · exact ⟨none, fun _ => rfl⟩
theorem ct_bin (f : Int32 → Int32 → Int32) (nx : Nat) : am_cont (i_bin f nx : am_I M) := fun ls st h => by
  unfold i_bin
  split
  · exact ⟨some (.inl (_, _, _, _)), fun _ => rfl⟩
  · exact ⟨none, fun _ => rfl⟩
theorem ct_div (f : Int32 → Int32 → Int32) (nx : Nat) : am_cont (i_div f nx : am_I M) := fun ls st h => by
  unfold i_div o_nz
  split
  · split
    · exact ⟨none, fun _ => rfl⟩
    · exact ⟨some (.inl (_, _, _, _)), fun _ => rfl⟩
  · exact ⟨none, fun _ => rfl⟩
theorem ct_un (f : Int32 → Int32) (nx : Nat) : am_cont (i_un f nx : am_I M) := fun ls st h => by
  unfold i_un
  split
  · exact ⟨some (.inl (_, _, _, _)), fun _ => rfl⟩
  · exact ⟨none, fun _ => rfl⟩
theorem ct_i2l (nx : Nat) : am_cont (i_i2l nx : am_I M) := fun ls st h => by
  unfold i_i2l
  split
  · exact ⟨some (.inl (_, _, _, _)), fun _ => rfl⟩
  · exact ⟨none, fun _ => rfl⟩
theorem ct_l2i (nx : Nat) : am_cont (i_l2i nx : am_I M) := fun ls st h => by
  unfold i_l2i
  split
  · exact ⟨some (.inl (_, _, _, _)), fun _ => rfl⟩
  · exact ⟨none, fun _ => rfl⟩
theorem ct_lbin (f : Int64 → Int64 → Int64) (nx : Nat) : am_cont (i_lbin f nx : am_I M) := fun ls st h => by
  unfold i_lbin
  split
  · exact ⟨some (.inl (_, _, _, _)), fun _ => rfl⟩
  · exact ⟨none, fun _ => rfl⟩
theorem ct_lsh (f : Int64 → Int32 → Int64) (nx : Nat) : am_cont (i_lsh f nx : am_I M) := fun ls st h => by
  unfold i_lsh
  split
  · exact ⟨some (.inl (_, _, _, _)), fun _ => rfl⟩
  · exact ⟨none, fun _ => rfl⟩
theorem ct_lcmp (nx : Nat) : am_cont (i_lcmp nx : am_I M) := fun ls st h => by
  unfold i_lcmp
  split
  · exact ⟨some (.inl (_, _, _, _)), fun _ => rfl⟩
  · exact ⟨none, fun _ => rfl⟩
theorem ct_dup (nx : Nat) : am_cont (i_dup nx : am_I M) := fun ls st h => by
  unfold i_dup
  split
  · next v st' => cases am_c1 v <;> first | exact ⟨none, fun _ => rfl⟩ | exact ⟨some (.inl (_, _, _, _)), fun _ => rfl⟩
  · exact ⟨none, fun _ => rfl⟩
theorem ct_pop (nx : Nat) : am_cont (i_pop nx : am_I M) := fun ls st h => by
  unfold i_pop
  split
  · next v st' => cases am_c1 v <;> first | exact ⟨none, fun _ => rfl⟩ | exact ⟨some (.inl (_, _, _, _)), fun _ => rfl⟩
  · exact ⟨none, fun _ => rfl⟩
theorem ct_dup2 (nx : Nat) : am_cont (i_dup2 nx : am_I M) := fun ls st h => by
  unfold i_dup2
  split
  · next v w st' => cases am_c1 v && am_c1 w <;> first | exact ⟨none, fun _ => rfl⟩ | exact ⟨some (.inl (_, _, _, _)), fun _ => rfl⟩
  · exact ⟨none, fun _ => rfl⟩
theorem ct_if1 (c : Int32 → Prop) (dc : ∀ x, Decidable (c x)) (t nx : Nat) : am_cont (i_if1 c dc t nx : am_I M) := fun ls st h => by
  unfold i_if1
  split
  · split <;> exact ⟨some (.inl (_, _, _, _)), fun _ => rfl⟩
  · exact ⟨none, fun _ => rfl⟩
theorem ct_if2 (c : Int32 → Int32 → Prop) (dc : ∀ x y, Decidable (c x y)) (t nx : Nat) : am_cont (i_if2 c dc t nx : am_I M) := fun ls st h => by
  unfold i_if2
  split
  · split <;> exact ⟨some (.inl (_, _, _, _)), fun _ => rfl⟩
  · exact ⟨none, fun _ => rfl⟩
theorem ct_goto (t : Nat) : am_cont (i_goto t : am_I M) := fun _ _ _ => ⟨some (.inl (_, _, _, _)), fun _ => rfl⟩
theorem ct_swl (x : Int32) (ls st : List Value) (h : M) (d : Nat) : ∀ cs, ∃ D : am_D M, ∀ k, am_sw x ls st h k d cs = am_fold D k := by
  intro cs
  induction cs with
  | nil => exact ⟨some (.inl (_, _, _, _)), fun _ => rfl⟩
  | cons q cs ih =>
    obtain ⟨v, t⟩ := q
    by_cases hx : x = v
    · exact ⟨some (.inl (t, ls, st, h)), fun k => by show (if x = v then _ else _) = _; rw [if_pos hx]; rfl⟩
    · obtain ⟨D, hD⟩ := ih
      exact ⟨D, fun k => by show (if x = v then _ else _) = _; rw [if_neg hx]; exact hD k⟩
theorem ct_sw (cs : List (Int32 × Nat)) (d : Nat) : am_cont (i_sw cs d : am_I M) := fun ls st h => by
  unfold i_sw
  split
  · exact ct_swl _ _ _ _ _ _
  · exact ⟨none, fun _ => rfl⟩
theorem ct_vret : am_cont (i_vret : am_I M) := fun ls st h => by
  unfold i_vret
  split
  · exact ⟨some (.inr _), fun _ => rfl⟩
  · exact ⟨none, fun _ => rfl⟩
theorem ct_iret : am_cont (i_iret : am_I M) := fun ls st h => by
  unfold i_iret
  split
  · exact ⟨some (.inr _), fun _ => rfl⟩
  · exact ⟨none, fun _ => rfl⟩
theorem ct_zret : am_cont (i_zret : am_I M) := fun ls st h => by
  unfold i_zret o_zr
  split
  · split
    · exact ⟨some (.inr _), fun _ => rfl⟩
    · exact ⟨none, fun _ => rfl⟩
  · exact ⟨none, fun _ => rfl⟩
theorem ct_nret (ty : FieldType) : am_cont (i_nret ty : am_I M) := fun ls st h => by
  unfold i_nret o_nr
  split
  · split
    · exact ⟨some (.inr _), fun _ => rfl⟩
    · exact ⟨none, fun _ => rfl⟩
  · exact ⟨none, fun _ => rfl⟩
theorem ct_aret : am_cont (i_aret : am_I M) := fun ls st h => by
  unfold i_aret
  split
  · exact ⟨some (.inr _), fun _ => rfl⟩
  · exact ⟨none, fun _ => rfl⟩
end AmConts
