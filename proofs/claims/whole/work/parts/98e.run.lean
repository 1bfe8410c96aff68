/-! the two constructors, run -/
def eE0 : eM := (1, 14, [(0, .inl 7)], [], [], [])
def eIF : List (Nat × Nat × Int32) := [(6, 0, 0), (6, 1, 0), (6, 4, 0), (6, 6, 10), (6, 7, 1), (6, 8, 0), (6, 9, 0), (10, 0, 0), (10, 1, 0), (23, 0, 0), (23, 1, 0), (23, 2, 0), (23, 3, 0), (23, 4, 0), (23, 5, 0), (23, 6, 0), (22, 1, 0), (22, 2, 0), (22, 3, 0), (22, 4, 0), (1, 0, 0), (1, 1, 0), (1, 2, -1), (26, 0, 0), (26, 1, 0), (26, 2, 0), (0, 11, 0), (0, 9, 0), (128, 0, 0), (128, 1, 0), (128, 2, 0), (145, 41, 0), (145, 42, 0), (145, 43, 0), (145, 44, 10), (145, 45, 1), (145, 46, 0), (145, 18, 0), (145, 21, 0), (145, 25, 0), (161, 0, 0), (161, 1, 0), (161, 2, 0), (161, 3, 0), (161, 4, 0), (161, 5, 0), (161, 6, 0), (161, 7, 0), (161, 8, 0), (161, 9, 0), (161, 10, 0), (145, 27, -1), (145, 1, 0), (145, 2, 0), (145, 3, -1), (145, 57, 0), (145, 58, 0), (145, 62, 0), (145, 71, 0), (145, 72, 0), (177, 0, 0), (177, 1, 0), (177, 2, 0)]
def eck1 (E : eM) : Bool := (List.range 179).all (fun c => decide (esh E.2.2.1 c = zshl.getD c (.inr (9, 0)))) && E.2.2.1.all (fun e => Nat.blt e.1 179)
def eck2 (E : eM) : Bool := E.2.2.2.1.all (fun e => decide (((zrl false).getD e.1 []).getD e.2.1 none = some e.2.2))
def eck3 (E : eM) : Bool := (List.range 179).all (fun c => (List.range ((zrl false).getD c []).length).all (fun j => decide (((zrl false).getD c []).getD j none = erf E.2.2.2.1 c j)))
def eck4 (E : eM) : Bool := eIF.all (fun e => decide (eli E.2.2.2.2.1 e.1 e.2.1 = e.2.2)) && (List.range 18).all (fun w => decide (ell E.2.2.2.2.2 5 w = ywc w))
def eck (E : eM) : Bool := (Nat.beq E.1 179 && Nat.beq E.2.1 7611) && ((eck1 E && eck2 E) && (eck3 E && eck4 E))
def eTst : Bool := match e_run 4000 99 145 3481 (zcode 86) 0 (zlocs [.ref 0] (znl 86)) [] eE0 with
  | some (E1, none) => (match Nat.beq E1.1 145, Nat.beq E1.2.1 3481, enew E1 (.inl 8) 78 with
    | true, true, some E2 => (match e_run 4000 99 179 7611 (zcode 153) 0 (zlocs [.ref 145] (znl 153)) [] E2 with
      | some (E3, none) => eck E3
      | _ => false)
    | _, _, _ => false)
  | _ => false
set_option maxRecDepth 1000000 in
theorem eTst_ok : eTst = true := by decide +kernel
