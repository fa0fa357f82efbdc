def z_get {α : Type} (t : List α) (i : Int32) : Option α := if i < 0 then none else t[i.toNatClampNeg]?
def z_set {α : Type} (t : List α) (i : Int32) (x : α) : Option (List α) := if i < 0 then none else if i.toNatClampNeg < t.length then some (t.set i.toNatClampNeg x) else none
def z_copy (t : List Int64) (sp dp n : Int32) : Option (List Int64) :=
  if sp < 0 then none else if dp < 0 then none else if n < 0 then none else
  if sp.toNatClampNeg + n.toNatClampNeg ≤ t.length ∧ dp.toNatClampNeg + n.toNatClampNeg ≤ t.length then
    some ((List.range t.length).map (va_cpy (fun i => t.getD i 0) (fun i => t.getD i 0) sp.toNatClampNeg dp.toNatClampNeg n.toNatClampNeg)) else none
def zq : Nat → List Int32
  | 0 => [1, 0, -1, 0]
  | 1 => [0, 1, 0, -1]
  | 2 => [0, -1, 0, 0, 1, 0]
  | 3 => [0, 0, -1, 0, 0, 1]
  | 4 => [1, 0, -1, -1, 0, 1]
  | _ => [0, 1, 1, 0, -1, -1]
def zdeg (k : Nat) : Int32 := if k = 0 then 4 else if k = 1 then 3 else 6
def zkin (k : Nat) : Int32 := if k = 1 then 2 else 1
def ztur (k : Nat) : Int32 := if k = 0 then 4 else 6
def zgre (k : Nat) : Int32 := if k = 0 then 7 else if k = 1 then 8 else 6
def z_ix (i : Int32) (n : Nat) : Option Nat := if i < 0 then none else if i.toNatClampNeg < n then some i.toNatClampNeg else none
