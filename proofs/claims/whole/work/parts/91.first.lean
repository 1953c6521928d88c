/-! the first state: both constructors run -/
def h0A : AMem := (zrM (fun _ _ => 0) 0, clB (fun _ _ => false) 0, 1)
def h1A (h : AMem) : AMem := (zrM h.1 160, clB h.2.1 160, 161)
def needR (a j : Nat) : Bool := bif Nat.blt (sh a).1 10 then fr (sh a).1 j else Nat.ble 102 (sh a).1
def iniL : List (Nat × Nat × Int32) := [(2, 0, 20), (2, 1, 20), (2, 2, 20), (3, 0, 0), (3, 1, 0), (3, 2, 0), (4, 0, 0), (4, 1, 0), (4, 2, 0), (1, 4, 0), (1, 5, 0), (1, 6, 0), (128, 2, 0), (134, 2, 0), (140, 2, 0), (146, 2, 0), (45, 1, 0), (152, 0, -1), (154, 0, -1), (156, 0, -1), (158, 0, -1), (0, 5, 0), (161, 0, 20), (161, 1, 20), (161, 2, 20), (162, 0, 0), (162, 1, 0), (162, 2, 0), (160, 2, 0), (160, 8, 0), (160, 9, 0), (168, 0, 0), (168, 1, 0), (168, 2, 0), (168, 3, 0), (160, 14, 0), (172, 0, -1), (172, 1, -1), (172, 2, -1), (172, 3, -1), (160, 40, 0)]
def chkA (h : AMem) : Bool := Nat.beq h.2.2 185 && (List.range 185).all (fun a => (List.range (sh a).2).all (fun j => !(needR a j) || h.2.1 a j)) && iniL.all (fun q => decide (h.1 q.1 q.2.1 = q.2.2))
noncomputable def runA : Option AMem := match FX9_init 160 [.ref 0] h0A with
  | some (none, h1) => bif Nat.beq h1.2.2 160 then (match FX10_init 185 [.ref 160] (h1A h1) with
    | some (none, h2) => some h2
    | _ => none) else none
  | _ => none
def chkO (o : Option AMem) : Bool := match o with
  | some h => chkA h
  | none => false
set_option maxRecDepth 100000 in
theorem run_ok : chkO runA = true := by decide +kernel
