def zq : Nat → List Int32
  | 0 => [1, 0, -1, 0]
  | 1 => [0, 1, 0, -1]
  | 2 => [0, -1, 0, 0, 1, 0]
  | 3 => [0, 0, -1, 0, 0, 1]
  | 4 => [1, 0, -1, -1, 0, 1]
  | _ => [0, 1, 1, 0, -1, -1]
/-- the arrays that nobody writes: the script, then the steps of the lattices -/
def z_rl (xs : List Int32) : Nat → List Int32
  | 0 => xs
  | j + 1 => zq j
def zdeg (k : Nat) : Int32 := if k = 0 then 4 else if k = 1 then 3 else 6
def zkin (k : Nat) : Int32 := if k = 1 then 2 else 1
def ztur (k : Nat) : Int32 := if k = 0 then 4 else 6
def zgre (k : Nat) : Int32 := if k = 0 then 7 else if k = 1 then 8 else 6
def z_fl (n : Nat) (f : Nat → Nat) : List (Option Nat) := (List.range n).map (fun i => some (f i))
def sLa (r : Nat → Nat) (p k : Nat) : ZW := [(p, zO 6 [.int (nI k), .int (zdeg k), .int (zkin k), .int (ztur k), .int (zgre k), .ref (r (2 * k + 1)), .ref (r (2 * k + 2))])]
def sAr (p : Nat) (v : List Int32) : ZW := [(p, zI v)]
def sAj (p : Nat) (v : List Int64) : ZW := [(p, zJ v)]
def sBl (p : Nat) (a : Nat → Nat) (x0 : List Int32) (x1 : Nat) (x2 : List Int32) (x3 : List Int32) (x4 : Nat) (x5 : Nat) (x6 : Int32) (x7 : Int32) : ZW := [(p, zO 0 [.ref (a 0), .ref x1, .ref (a 1), .ref (a 2), .ref x4, .ref x5, .int x6, .int x7]), (a 0, zZ x0), (a 1, zI x2), (a 2, zI x3)]
def sCa (p : Nat) (a : Nat → Nat) (x0 : Nat) (x1 : Nat) (x2 : Nat) (x3 : Nat) (x4 : Nat) (x5 : List Int32) (x6 : Int32) (x7 : Nat) (x8 : List Int32) (x9 : Int32) (x10 : List Int32) (x11 : List Int32) (x12 : List Int32) (x13 : Int32) : ZW := [(p, zO 1 [.ref x0, .ref x1, .ref x2, .ref x3, .ref x4, .ref (a 0), .int x6, .ref x7, .ref (a 1), .int x9, .ref (a 2), .ref (a 3), .ref (a 4), .int x13]), (a 0, zI x5), (a 1, zI x8), (a 2, zI x10), (a 3, zI x11), (a 4, zI x12)]
def sCe (p : Nat) (a : Nat → Nat) (x0 : List Int32) (x1 : Int32) : ZW := [(p, zO 2 [.ref (a 0), .int x1]), (a 0, zI x0)]
def sCf (p : Nat) (a : Nat → Nat) (x0 : Nat → Nat) (x1 : Nat → Nat) (x2 : Nat) (x3 : Nat) (x4 : Nat) (x5 : Nat) (x6 : Nat) (x7 : Nat) (x8 : Nat) (x9 : Nat) : ZW := [(p, zO 11 [.ref (a 0), .ref (a 1), .ref x2, .ref x3, .ref x4, .ref x5, .ref x6, .ref x7, .ref x8, .ref x9]), (a 0, zR "CellFigures$Lattice" (z_fl 3 x0)), (a 1, zR "CellFigures$Catalogue" (z_fl 3 x1))]
def sHi (p : Nat) (a : Nat → Nat) (x0 : Nat → Nat) (x1 : Int32) (x2 : Int32) : ZW := [(p, zO 3 [.ref (a 0), .int x1, .int x2]), (a 0, zR "CellFigures$State" (z_fl 6 x0))]
def sIm (p : Nat) (a : Nat → Nat) (x0 : Nat → Nat) (x1 : Nat) (x2 : Int32) : ZW := [(p, zO 4 [.ref (a 0), .ref x1, .int x2]), (a 0, zR "CellFigures$Cells" (z_fl 12 x0))]
def sKi (p : Nat) (a : Nat → Nat) (x0 : Nat) (x1 : Nat) (x2 : Nat) (x3 : List Int64) (x4 : Int32) : ZW := [(p, zO 5 [.ref x0, .ref x1, .ref x2, .ref (a 0), .int x4]), (a 0, zJ x3)]
def sMo (p : Nat) (a : Nat → Nat) (x0 : List Int32) (x1 : List Int32) (x2 : Int32) (x3 : List Int32) (x4 : List Int32) (x5 : Int32) (x6 : Int32) (x7 : List Int32) (x8 : List Int32) (x9 : List Int32) (x10 : List Int32) (x11 : List Int32) (x12 : List Int32) (x13 : Int32) (x14 : List Int32) (x15 : Int32) (x16 : List Int64) (x17 : List Int32) (x18 : List Int32) (x19 : List Int64) (x20 : List Int32) (x21 : List Int32) (x22 : List Int32) (x23 : List Int32) (x24 : List Int32) (x25 : Int32) (x26 : Int32) (x27 : Int32) (x28 : Int32) (x29 : Int32) (x30 : Int32) (x31 : Int32) : ZW := [(p, zO 12 [.ref (a 0), .ref (a 1), .int x2, .ref (a 2), .ref (a 3), .int x5, .int x6, .ref (a 4), .ref (a 5), .ref (a 6), .ref (a 7), .ref (a 8), .ref (a 9), .int x13, .ref (a 10), .int x15, .ref (a 11), .ref (a 12), .ref (a 13), .ref (a 14), .ref (a 15), .ref (a 16), .ref (a 17), .ref (a 18), .ref (a 19), .int x25, .int x26, .int x27, .int x28, .int x29, .int x30, .int x31]), (a 0, zI x0), (a 1, zI x1), (a 2, zI x3), (a 3, zC x4), (a 4, zI x7), (a 5, zI x8), (a 6, zI x9), (a 7, zI x10), (a 8, zI x11), (a 9, zI x12), (a 10, zI x14), (a 11, zJ x16), (a 12, zZ x17), (a 13, zI x18), (a 14, zJ x19), (a 15, zI x20), (a 16, zI x21), (a 17, zI x22), (a 18, zI x23), (a 19, zI x24)]
def sSg (p : Nat) (a : Nat → Nat) (x0 : List Int64) (x1 : Nat) (x2 : Int32) : ZW := [(p, zO 7 [.ref (a 0), .ref x1, .int x2]), (a 0, zJ x0)]
def sSt (p : Nat) (a : Nat → Nat) (x0 : Nat) (x1 : Nat) : ZW := [(p, zO 8 [.ref x0, .ref x1])]
def sSu (p : Nat) (a : Nat → Nat) (x0 : List Int32) (x1 : List Int32) (x2 : Int32) (x3 : Int32) (x4 : Int32) (x5 : Int32) (x6 : Int32) (x7 : Int32) (x8 : Int32) : ZW := [(p, zO 9 [.ref (a 0), .ref (a 1), .int x2, .int x3, .int x4, .int x5, .int x6, .int x7, .int x8]), (a 0, zI x0), (a 1, zI x1)]
def sTx (p : Nat) (a : Nat → Nat) (x0 : List Int32) (x1 : Int32) (x2 : Int32) (x3 : Int32) (x4 : Int32) (x5 : Int32) (x6 : Int32) (x7 : Int32) (x8 : Int32) : ZW := [(p, zO 10 [.ref (a 0), .int x1, .int x2, .int x3, .int x4, .int x5, .int x6, .int x7, .int x8]), (a 0, zI x0)]
theorem z_bind {α β : Type} {o : Option α} {f : α → Option β} {u : β} (h : o.bind f = some u) : ∃ x, o = some x ∧ f x = some u := Option.bind_eq_some_iff.mp h
theorem z_nrb {x : Int32} (h : x = 0 ∨ x = 1) : narrow .boolean (.int x) = .int x := by rcases h with rfl | rfl <;> rfl
