/-! the state, and what it is to be held by the class, by the reference -/
abbrev Lg : Type := Int32 × Int32 × Int32 × Int32
abbrev Cs : Type := Nat → List Lg
abbrev Sh : Type := Nat → Option (Int32 × List Int32)
abbrev ZR : Type := Cs × List Int32 × Sh × Option (KS × Cs)
abbrev ZS : Type := KS × ZR
def okG (g : Lg) : Prop := (∃ j : Nat, j < 4 ∧ g.1 = nI j) ∧ (∃ j : Nat, j < 4 ∧ g.2.1 = nI j) ∧ (∃ j : Nat, j < 4 ∧ g.2.2.1 = nI j) ∧ ∃ j : Nat, 1 ≤ j ∧ j ≤ 9 ∧ g.2.2.2 = nI j
def okC (l : List Lg) : Prop := l.length ≤ 6 ∧ ∀ g ∈ l, okG g
def okK (S : KS) : Prop := okS S ∧ okT S.2.1
def okR (R : ZR) : Prop := (∀ c, c < 4 → okC (R.1 c)) ∧ (R.2.1.length ≤ 120 ∧ ∀ b ∈ R.2.1, ∃ j : Nat, j < 128 ∧ b = nI j) ∧ (∀ r, r < 4 → ∀ s l, R.2.2.1 r = some (s, l) → (s = 0 ∨ s = 1) ∧ l.length ≤ 40) ∧ ∀ S C, R.2.2.2 = some (S, C) → okK S ∧ ∀ c, c < 4 → okC (C c)
def okZ (Z : ZS) : Prop := okK Z.1 ∧ okR Z.2
def repCo (a : Nat) (l : List Lg) (σ : Mem) : Prop := σ a 2 = nI l.length ∧ ∀ i g, l[i]? = some g → σ (a + 1) (3 * i) = g.1 ∧ σ (a + 1) (3 * i + 1) = g.2.1 ∧ σ (a + 1) (3 * i + 2) = g.2.2.1 ∧ σ (a + 2) i = g.2.2.2
def repCm (c : Nat) (l : List Lg) (σ : Mem) : Prop := σ 168 c = nI l.length ∧ ∀ i g, l[i]? = some g → σ 170 (18 * c + 3 * i) = g.1 ∧ σ 170 (18 * c + 3 * i + 1) = g.2.1 ∧ σ 170 (18 * c + 3 * i + 2) = g.2.2.1 ∧ σ 169 (6 * c + i) = g.2.2.2
def repSc (r : Nat) (o : Option (Int32 × List Int32)) (σ : Mem) : Prop := match o with
  | none => σ (152 + 2 * r) 0 = -1
  | some (s, l) => σ (152 + 2 * r) 0 = s ∧ σ (152 + 2 * r) 1 = nI l.length ∧ ∀ i v, l[i]? = some v → σ (153 + 2 * r) i = v
def repSm (r : Nat) (o : Option (Int32 × List Int32)) (σ : Mem) : Prop := match o with
  | none => σ 172 r = -1
  | some (s, l) => σ 172 r = s ∧ σ 173 r = nI l.length ∧ ∀ i v, l[i]? = some v → σ 174 (40 * r + i) = v
def repI (S : KS) (C : Cs) (σ : Mem) : Prop := (∀ z, z < 3 → σ 184 z = at3 S.1 z) ∧ (∀ z, z < 3 → σ 184 (3 + z) = at3 S.2.1 z) ∧ (∀ i d, S.2.2.1[i]? = some d → σ 184 (6 + i) = d.1 ∧ σ 184 (14 + i) = d.2.1 ∧ σ 184 (22 + i) = d.2.2.1 ∧ σ 184 (30 + i) = d.2.2.2.1 ∧ σ 184 (38 + i) = d.2.2.2.2) ∧ (∀ c, c < 4 → σ 184 (142 + c) = nI (C c).length ∧ ∀ i g, (C c)[i]? = some g → σ 184 (46 + (18 * c + 3 * i)) = g.1 ∧ σ 184 (46 + (18 * c + 3 * i + 1)) = g.2.1 ∧ σ 184 (46 + (18 * c + 3 * i + 2)) = g.2.2.1 ∧ σ 184 (118 + (6 * c + i)) = g.2.2.2) ∧ σ 184 146 = nI S.2.2.1.length ∧ σ 184 147 = S.2.2.2.1 ∧ σ 184 148 = S.2.2.2.2
def RCr (R : ZR) (σ : Mem) : Prop := (∀ c, c < 4 → repCo (128 + 6 * c) (R.1 c) σ) ∧ (σ 45 1 = nI R.2.1.length ∧ ∀ i b, R.2.1[i]? = some b → σ 46 i = b) ∧ (∀ r, r < 4 → repSc r (R.2.2.1 r) σ) ∧ (match R.2.2.2 with
  | none => σ 0 5 = 0
  | some (S, C) => σ 0 5 = 1 ∧ repK 29 S σ ∧ ∀ c, c < 4 → repCo (131 + 6 * c) (C c) σ)
def RMr (R : ZR) (σ : Mem) : Prop := (∀ c, c < 4 → repCm c (R.1 c) σ) ∧ (σ 160 14 = nI R.2.1.length ∧ ∀ i b, R.2.1[i]? = some b → σ 171 i = b) ∧ (∀ r, r < 4 → repSm r (R.2.2.1 r) σ) ∧ (match R.2.2.2 with
  | none => σ 160 40 = 0
  | some (S, C) => σ 160 40 = 1 ∧ repI S C σ)
def RC (Z : ZS) (σ : Mem) : Prop := repK 1 Z.1 σ ∧ RCr Z.2 σ
def RM (Z : ZS) (σ : Mem) : Prop := repM Z.1 σ ∧ RMr Z.2 σ
def Rel (σ : Mem) : Prop := ∃ Z, okZ Z ∧ RC Z σ ∧ RM Z σ
/-- what holds the rest of the class's state, of the reference's -/
def kpC (σ σ' : Mem) : Prop := (∀ a, ((29 ≤ a ∧ a < 43) ∨ a = 45 ∨ a = 46 ∨ 128 ≤ a) → σ' a = σ a) ∧ σ' 0 5 = σ 0 5
def kpM (σ σ' : Mem) : Prop := (∀ a, (a < 160 ∨ (168 ≤ a ∧ a < 176) ∨ a = 184) → σ' a = σ a) ∧ σ' 160 14 = σ 160 14 ∧ σ' 160 40 = σ 160 40
theorem frM.kp {σ σ' : Mem} (h : frM σ σ') : kpM σ σ' := ⟨fun a ha => h.1 a (by omega), h.2 14 (by decide) (by decide) (by decide) (by decide), h.2 40 (by decide) (by decide) (by decide) (by decide)⟩
theorem kpM.rf (σ : Mem) : kpM σ σ := ⟨fun _ _ => rfl, rfl, rfl⟩
theorem kpC.rf (σ : Mem) : kpC σ σ := ⟨fun _ _ => rfl, rfl⟩
theorem kpM.tr {a b c : Mem} (h : kpM a b) (h' : kpM b c) : kpM a c := ⟨fun x hx => (h'.1 x hx).trans (h.1 x hx), h'.2.1.trans h.2.1, h'.2.2.trans h.2.2⟩
theorem kpC.tr {a b c : Mem} (h : kpC a b) (h' : kpC b c) : kpC a c := ⟨fun x hx => (h'.1 x hx).trans (h.1 x hx), h'.2.trans h.2⟩
theorem repK.fr {k : Nat} {S : KS} {σ σ' : Mem} (h : repK k S σ) (hS : S.2.2.1.length ≤ 8) (f : ∀ a, (k ≤ a ∧ a < k + 14) → σ' a = σ a) : repK k S σ' := by
  obtain ⟨h1, h2, h3, h4, h5, h6, h7⟩ := h
  refine ⟨fun z hz => ?_, fun z hz => ?_, fun z hz => ?_, ?_, ?_, ?_, fun i d hd => ?_⟩
  · rw [f _ (by omega)]; exact h1 z hz
  · rw [f _ (by omega)]; exact h2 z hz
  · rw [f _ (by omega)]; exact h3 z hz
  · rw [f _ (by omega)]; exact h4
  · rw [f _ (by omega)]; exact h5
  · rw [f _ (by omega)]; exact h6
  · have := (List.getElem?_eq_some_iff.mp hd).1
    rw [f _ (by omega)]; exact h7 i d hd
theorem repCo.fr {a : Nat} {l : List Lg} {σ σ' : Mem} (h : repCo a l σ) (f : ∀ b, (a ≤ b ∧ b < a + 3) → σ' b = σ b) : repCo a l σ' := by
  refine ⟨by rw [f _ (by omega)]; exact h.1, fun i g hg => ?_⟩
  rw [f (a + 1) (by omega), f (a + 2) (by omega)]
  exact h.2 i g hg
theorem RCr.fr {R : ZR} {σ σ' : Mem} (hR : okR R) (h : RCr R σ) (f : kpC σ σ') : RCr R σ' := by
  obtain ⟨h1, h2, h3, h4⟩ := h
  refine ⟨fun c hc => (h1 c hc).fr (fun b hb => f.1 b (by omega)), ⟨?_, fun i b hb => ?_⟩, fun r hr => ?_, ?_⟩
  · rw [f.1 45 (by omega)]; exact h2.1
  · rw [f.1 46 (by omega)]; exact h2.2 i b hb
  · have := h3 r hr
    unfold repSc at this ⊢
    rw [f.1 (152 + 2 * r) (by omega), f.1 (153 + 2 * r) (by omega)]
    exact this
  · cases hi : R.2.2.2 with
    | none => rw [hi] at h4; exact f.2.trans h4
    | some q =>
      obtain ⟨S, C⟩ := q
      rw [hi] at h4
      have ok := hR.2.2.2 S C hi
      exact ⟨f.2.trans h4.1, h4.2.1.fr ok.1.1.1 (fun a ha => f.1 a (by omega)), fun c hc => (h4.2.2 c hc).fr (fun b hb => f.1 b (by omega))⟩
theorem RMr.fr {R : ZR} {σ σ' : Mem} (h : RMr R σ) (f : kpM σ σ') : RMr R σ' := by
  obtain ⟨h1, h2, h3, h4⟩ := h
  refine ⟨fun c hc => ?_, ⟨?_, fun i b hb => ?_⟩, fun r hr => ?_, ?_⟩
  · have := h1 c hc
    unfold repCm at this ⊢
    rw [f.1 168 (by omega), f.1 169 (by omega), f.1 170 (by omega)]
    exact this
  · rw [f.2.1]; exact h2.1
  · rw [f.1 171 (by omega)]; exact h2.2 i b hb
  · have := h3 r hr
    unfold repSm at this ⊢
    rw [f.1 172 (by omega), f.1 173 (by omega), f.1 174 (by omega)]
    exact this
  · cases hi : R.2.2.2 with
    | none => rw [hi] at h4; exact f.2.2.trans h4
    | some q =>
      obtain ⟨S, C⟩ := q
      rw [hi] at h4
      refine ⟨f.2.2.trans h4.1, ?_⟩
      have := h4.2
      unfold repI at this ⊢
      rw [f.1 184 (by omega)]
      exact this
theorem repM.hi {S : KS} {σ σ' : Mem} (h : repM S σ) (f : ∀ a, 160 ≤ a → σ' a = σ a) : repM S σ' := by
  unfold repM repN at h ⊢
  rw [f 160 (by decide), f 161 (by decide), f 162 (by decide), f 163 (by decide), f 164 (by decide), f 165 (by decide), f 166 (by decide), f 167 (by decide)]
  exact h
theorem RMr.hi {R : ZR} {σ σ' : Mem} (h : RMr R σ) (f : ∀ a, 160 ≤ a → σ' a = σ a) : RMr R σ' := by
  unfold RMr repCm repSm repI at h ⊢
  rw [f 160 (by decide), f 168 (by decide), f 169 (by decide), f 170 (by decide), f 171 (by decide), f 172 (by decide), f 173 (by decide), f 174 (by decide), f 184 (by decide)]
  exact h
theorem RM.hi {Z : ZS} {σ σ' : Mem} (h : RM Z σ) (f : ∀ a, 160 ≤ a → σ' a = σ a) : RM Z σ' := ⟨h.1.hi f, h.2.hi f⟩
theorem RC.lo {Z : ZS} {σ σ' : Mem} (hZ : okZ Z) (h : RC Z σ) (f : ∀ a, a < 160 → σ' a = σ a) : RC Z σ' := by
  refine ⟨h.1.fr hZ.1.1.1 (fun a ha => f a (by omega)), ?_⟩
  obtain ⟨h1, h2, h3, h4⟩ := h.2
  refine ⟨fun c hc => (h1 c hc).fr (fun b hb => f b (by omega)), ⟨?_, fun i b hb => ?_⟩, fun r hr => ?_, ?_⟩
  · rw [f 45 (by omega)]; exact h2.1
  · rw [f 46 (by omega)]; exact h2.2 i b hb
  · have := h3 r hr
    unfold repSc at this ⊢
    rw [f (152 + 2 * r) (by omega), f (153 + 2 * r) (by omega)]
    exact this
  · cases hi : Z.2.2.2.2 with
    | none => rw [hi] at h4; rw [f 0 (by omega)]; exact h4
    | some q =>
      obtain ⟨S, C⟩ := q
      rw [hi] at h4
      have ok := hZ.2.2.2.2 S C hi
      exact ⟨by rw [f 0 (by omega)]; exact h4.1, h4.2.1.fr ok.1.1.1 (fun a ha => f a (by omega)), fun c hc => (h4.2.2 c hc).fr (fun b hb => f b (by omega))⟩
/-- a call: the class's answer, then the reference's over what the class left: the same; and they are alike behind it -/
def OpOK (f g : Mem → Option (am_R Mem)) (σ : Mem) : Prop := ∃ r σ1 σ2, f σ = some (some (.int r), σ1) ∧ g σ1 = some (some (.int r), σ2) ∧ Rel σ2
theorem op_same {f g : Mem → Option (am_R Mem)} {σ : Mem} {r : Int32} (h : Rel σ) (e1 : f σ = some (some (.int r), σ)) (e2 : g σ = some (some (.int r), σ)) : OpOK f g σ := ⟨r, σ, σ, e1, e2, h⟩
theorem op_of {f g : Mem → Option (am_R Mem)} {σ : Mem} {Z Z' : ZS} {r : Int32} (hZ : okZ Z) (hM : RM Z σ) (hZ' : okZ Z') (hf : ∃ σ1, f σ = some (some (.int r), σ1) ∧ RC Z' σ1 ∧ ∀ a, 160 ≤ a → σ1 a = σ a) (hg : ∀ σ1, RM Z σ1 → ∃ σ2, g σ1 = some (some (.int r), σ2) ∧ RM Z' σ2 ∧ ∀ a, a < 160 → σ2 a = σ1 a) : OpOK f g σ := by
  obtain ⟨σ1, e1, c1, f1⟩ := hf
  obtain ⟨σ2, e2, m2, f2⟩ := hg σ1 (hM.hi f1)
  exact ⟨r, σ1, σ2, e1, e2, Z', hZ', c1.lo hZ' f2, m2⟩
