/-! the cells: which there are behind the two constructors, of which kind, and what refers to what -/
def shL : List (Nat × Nat) := [(8, 12), (2, 8), (100, 3), (100, 3), (100, 3), (102, 8), (100, 3), (3, 10), (3, 10), (3, 10), (3, 10), (3, 10), (3, 10), (3, 10), (3, 10), (2, 8), (100, 3), (100, 3), (100, 3), (102, 8), (100, 3), (3, 10), (3, 10), (3, 10), (3, 10), (3, 10), (3, 10), (3, 10), (3, 10), (2, 8), (100, 3), (100, 3), (100, 3), (102, 8), (100, 3), (3, 10), (3, 10), (3, 10), (3, 10), (3, 10), (3, 10), (3, 10), (3, 10), (103, 4), (103, 4), (7, 6), (101, 120), (5, 2), (101, 120), (0, 3), (100, 18), (100, 6), (1, 3), (4, 6), (105, 5), (100, 4), (100, 4), (2, 8), (100, 3), (100, 3), (100, 3), (102, 8), (100, 3), (3, 10), (3, 10), (3, 10), (3, 10), (3, 10), (3, 10), (3, 10), (3, 10), (2, 8), (100, 3), (100, 3), (100, 3), (102, 8), (100, 3), (3, 10), (3, 10), (3, 10), (3, 10), (3, 10), (3, 10), (3, 10), (3, 10), (2, 8), (100, 3), (100, 3), (100, 3), (102, 8), (100, 3), (3, 10), (3, 10), (3, 10), (3, 10), (3, 10), (3, 10), (3, 10), (3, 10), (2, 8), (100, 3), (100, 3), (100, 3), (102, 8), (100, 3), (3, 10), (3, 10), (3, 10), (3, 10), (3, 10), (3, 10), (3, 10), (3, 10), (2, 8), (100, 3), (100, 3), (100, 3), (102, 8), (100, 3), (3, 10), (3, 10), (3, 10), (3, 10), (3, 10), (3, 10), (3, 10), (3, 10), (104, 4), (0, 3), (100, 18), (100, 6), (0, 3), (100, 18), (100, 6), (0, 3), (100, 18), (100, 6), (0, 3), (100, 18), (100, 6), (0, 3), (100, 18), (100, 6), (0, 3), (100, 18), (100, 6), (0, 3), (100, 18), (100, 6), (0, 3), (100, 18), (100, 6), (6, 3), (100, 40), (6, 3), (100, 40), (6, 3), (100, 40), (6, 3), (100, 40), (9, 42), (100, 3), (100, 3), (100, 8), (100, 8), (100, 8), (100, 8), (100, 8), (100, 4), (100, 24), (100, 72), (100, 120), (100, 4), (100, 4), (100, 160), (100, 40), (100, 3), (100, 3), (100, 3), (100, 8), (100, 8), (100, 6), (100, 18), (100, 120), (100, 160)]
def rfL : List (List Nat) := [[1, 15, 29, 43, 44, 0, 45, 47, 49, 52, 53, 127], [2, 3, 4, 5, 0, 0, 0, 6], [], [], [], [7, 8, 9, 10, 11, 12, 13, 14], [], [], [], [], [], [], [], [], [], [16, 17, 18, 19, 0, 0, 0, 20], [], [], [], [21, 22, 23, 24, 25, 26, 27, 28], [], [], [], [], [], [], [], [], [], [30, 31, 32, 33, 0, 0, 0, 34], [], [], [], [35, 36, 37, 38, 39, 40, 41, 42], [], [], [], [], [], [], [], [], [], [128, 134, 140, 146], [131, 137, 143, 149], [46, 0, 0, 0, 0, 0], [], [48, 0], [], [50, 51, 0], [], [], [], [54, 55, 56, 0, 0, 0], [57, 71, 85, 99, 113], [], [], [58, 59, 60, 61, 0, 0, 0, 62], [], [], [], [63, 64, 65, 66, 67, 68, 69, 70], [], [], [], [], [], [], [], [], [], [72, 73, 74, 75, 0, 0, 0, 76], [], [], [], [77, 78, 79, 80, 81, 82, 83, 84], [], [], [], [], [], [], [], [], [], [86, 87, 88, 89, 0, 0, 0, 90], [], [], [], [91, 92, 93, 94, 95, 96, 97, 98], [], [], [], [], [], [], [], [], [], [100, 101, 102, 103, 0, 0, 0, 104], [], [], [], [105, 106, 107, 108, 109, 110, 111, 112], [], [], [], [], [], [], [], [], [], [114, 115, 116, 117, 0, 0, 0, 118], [], [], [], [119, 120, 121, 122, 123, 124, 125, 126], [], [], [], [], [], [], [], [], [], [152, 154, 156, 158], [129, 130, 0], [], [], [132, 133, 0], [], [], [135, 136, 0], [], [], [138, 139, 0], [], [], [141, 142, 0], [], [], [144, 145, 0], [], [], [147, 148, 0], [], [], [150, 151, 0], [], [], [0, 0, 153], [], [0, 0, 155], [], [0, 0, 157], [], [0, 0, 159], [], [161, 162, 0, 163, 164, 165, 166, 167, 0, 0, 168, 169, 170, 171, 0, 172, 173, 174, 175, 176, 177, 178, 179, 180, 0, 0, 0, 0, 0, 0, 0, 0, 181, 182, 183, 0, 0, 0, 0, 0, 0, 184], [], [], [], [], [], [], [], [], [], [], [], [], [], [], [], [], [], [], [], [], [], [], [], []]
def frL : List (List Bool) := [[true, true, false], [false, false, false], [true, true, true, true, false, false, false, true], [false, false, false, false, false, false, false, false, false, false], [true, true, true, false, false, false], [true, false], [false, false, true], [true, false, false, false, false, false], [true, true, true, true, true, false, true, true, true, true, true, true], [true, true, false, true, true, true, true, true, false, false, true, true, true, true, false, true, true, true, true, true, true, true, true, true, false, false, false, false, false, false, false, false, true, true, true, false, false, false, false, false, false, true]]
def nfL : List Nat := [3, 3, 8, 10, 6, 2, 3, 6, 12, 42]
abbrev am_cl : List vw_C := [(RX1, TX1, 3), (RX2, TX2, 3), (RX3, TX3, 8), (RX4, TX4, 10), (RX5, TX5, 6), (RX6, TX6, 2), (RX7, TX7, 3), (RX8, TX8, 6), (RX9, TX9, 12), (RX10, TX10, 42)]
def sh (a : Nat) : Nat × Nat := shL.getD a (99, 0)
def rf (a i : Nat) : Nat := (rfL.getD a []).getD i 0
def fr (ci j : Nat) : Bool := (frL.getD ci []).getD j false
def NC : Nat := 185
theorem shL_len : shL.length = NC := by decide +kernel
theorem sh_lt {a : Nat} (h : (sh a).1 ≠ 99) : a < NC := by
  rw [← shL_len]
  apply Classical.byContradiction
  intro hn
  apply h
  unfold sh
  rw [List.getD_eq_getElem?_getD, List.getElem?_eq_none (by omega)]
  rfl
theorem rf_lt (a i : Nat) : rf a i < NC := by
  have h0 : ∀ l ∈ rfL, ∀ x ∈ l, x < NC := by decide +kernel
  unfold rf
  rw [List.getD_eq_getElem?_getD, List.getD_eq_getElem?_getD]
  cases h1 : rfL[a]? with
  | none => simp [NC]
  | some l =>
    cases h2 : l[i]? with
    | none => simp [h2, NC]
    | some x => simp [h2]; exact h0 l (List.mem_of_getElem? h1) x (List.mem_of_getElem? h2)
theorem sh_obj : ∀ a, a < NC → (sh a).1 < 10 → (sh a).2 = nfL.getD (sh a).1 0 := by
  have h : (List.range NC).all (fun a => !decide ((sh a).1 < 10) || decide ((sh a).2 = nfL.getD (sh a).1 0)) = true := by decide +kernel
  intro a ha h1
  have := List.all_eq_true.mp h a (List.mem_range.mpr ha)
  simpa [h1] using this
theorem inX1 : ∀ w ∈ u_ws RX1 TX1 3, w ∈ am_tbl := by decide +kernel
theorem inX2 : ∀ w ∈ u_ws RX2 TX2 3, w ∈ am_tbl := by decide +kernel
theorem inX3 : ∀ w ∈ u_ws RX3 TX3 8, w ∈ am_tbl := by decide +kernel
theorem inX4 : ∀ w ∈ u_ws RX4 TX4 10, w ∈ am_tbl := by decide +kernel
theorem inX5 : ∀ w ∈ u_ws RX5 TX5 6, w ∈ am_tbl := by decide +kernel
theorem inX6 : ∀ w ∈ u_ws RX6 TX6 2, w ∈ am_tbl := by decide +kernel
theorem inX7 : ∀ w ∈ u_ws RX7 TX7 3, w ∈ am_tbl := by decide +kernel
theorem inX8 : ∀ w ∈ u_ws RX8 TX8 6, w ∈ am_tbl := by decide +kernel
theorem inX9 : ∀ w ∈ u_ws RX9 TX9 12, w ∈ am_tbl := by decide +kernel
theorem inX10 : ∀ w ∈ u_ws RX10 TX10 42, w ∈ am_tbl := by decide +kernel
