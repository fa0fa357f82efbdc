/-! the class's table of sights, as numbers -/
def gl : List Nat → Nat → Nat
  | [], _ => 0
  | x :: _, 0 => x
  | _ :: t, i + 1 => gl t i
def rdl (g fi v2 : Nat) : Nat → Nat → List Nat
  | 0, _ => []
  | m + 1, i => (bif Nat.ble fi i then (bif Nat.ble (Nat.succ i) v2 then Nat.land (Nat.shiftRight g (Nat.mul 3 i)) 7 else 0) else 0) :: rdl g fi v2 m (Nat.succ i)
def rep (x : Nat) : List Nat → List Nat
  | [] => []
  | y :: t => (bif Nat.beq y x then 7 else y) :: rep x t
def jnL (A : Nat) : Nat → Nat → List Nat → List Nat
  | 0, _, l => l
  | m + 1, i, l => seqN (gl l i) fun x => bif Nat.beq x 0 then jnL A m (Nat.succ i) l else bif Nat.beq x 7 then jnL A m (Nat.succ i) l else bif Nat.beq (Nat.land (Nat.shiftRight A i) 1) 0 then jnL A m (Nat.succ i) l else jnL A m (Nat.succ i) (rep x l)
def seen (x : Nat) (l : List Nat) : Nat → Nat → Bool
  | 0, _ => false
  | m + 1, i => bif Nat.beq (gl l i) x then true else seen x l m (Nat.succ i)
def anyS (l : List Nat) : Nat → Nat → Bool
  | 0, _ => false
  | m + 1, i => bif Nat.beq (gl l i) 0 then anyS l m (Nat.succ i) else true
def rtL (P fi v2 : Nat) : Nat → Nat → List Nat → Nat × List Nat
  | 0, _, l => (0, l)
  | m + 1, i, l => seqN (gl l i) fun x => bif Nat.beq x 0 then rtL P fi v2 m (Nat.succ i) l else
    bif Nat.beq (Nat.shiftRight (nrP P i) (Nat.succ v2)) 0 then
      (bif seen x (l.set i 0) (v2 + 1 - fi) fi then rtL P fi v2 m (Nat.succ i) (l.set i 0) else bif anyS (l.set i 0) (v2 + 1 - fi) fi then (2, l.set i 0) else (1, l.set i 0))
    else rtL P fi v2 m (Nat.succ i) l
def pkb (l : List Nat) : Nat → Nat → Nat → Nat → Nat → Nat
  | 0, _, v3, _, _ => v3
  | m + 1, i, v3, v5, v6 => seqN (gl l i) fun x => bif Nat.beq x 0 then pkb l m (Nat.succ i) v3 v5 v6 else
    seqN (Nat.land (Nat.shiftRight v5 (Nat.mul 4 x)) 15) fun y => bif Nat.beq y 0 then
      (bif Nat.ble 7 v6 then 1152921504606846976 else pkb l m (Nat.succ i) (Nat.lor v3 (Nat.shiftLeft (Nat.succ v6) (Nat.mul 3 i))) (Nat.lor v5 (Nat.shiftLeft (Nat.succ v6) (Nat.mul 4 x))) (Nat.succ v6))
    else pkb l m (Nat.succ i) (Nat.lor v3 (Nat.shiftLeft y (Nat.mul 3 i))) v5 v6
def lab1 (P fi v2 g dec : Nat) : List Nat := bif Nat.beq dec 0 then rdl g fi v2 20 0 else jnL (nrP P v2) (v2 - fi) fi ((rdl g fi v2 20 0).set v2 7)
def Dt (P rc v2 g dec : Nat) : Nat × Nat := match rtL P (v2 - rc) v2 (v2 + 1 - (v2 - rc)) (v2 - rc) (lab1 P (v2 - rc) v2 g dec) with
  | (c, l) => bif Nat.beq c 0 then (0, pkb l (v2 + 1 - (v2 - rc)) (v2 - rc) 0 0 0) else (c, 0)
section
variable {α : Type} (add : α → α → α) (sh : α → α)
def addR : List (Nat × α) → Nat → α → List (Nat × α)
  | [], g, a => [(g, a)]
  | (h, b) :: t, g, a => bif Nat.beq h g then (h, add b a) :: t else (h, b) :: addR t g a
def dc (o : Nat × Nat) (a : α) (st : List (Nat × α) × α) : List (Nat × α) × α := bif Nat.beq o.1 0 then (seqN o.2 fun g => addR add st.1 g a, st.2) else bif Nat.beq o.1 1 then (st.1, add st.2 a) else st
def stp (P rc v2 : Nat) : List (Nat × α) → List (Nat × α) × α → List (Nat × α) × α
  | [], st => st
  | (g, a) :: t, st => stp P rc v2 t (dc add (Dt P rc v2 g 1) (sh a) (dc add (Dt P rc v2 g 0) a st))
def dpA (P rc : Nat) : Nat → Nat → List (Nat × α) → α → α
  | 0, _, _, acc => acc
  | m + 1, v2, rows, acc => match stp add sh P rc v2 rows ([], acc) with
    | (r, a) => dpA P rc m (Nat.succ v2) r a
end
def okR : List (Nat × Nat) → Nat → Bool
  | [], _ => true
  | (g, _) :: t, m => bif Nat.ble 1152921504606846976 g then false else bif Nat.beq m 0 then false else okR t (Nat.pred m)
def okD (P rc : Nat) : Nat → Nat → List (Nat × Nat) → Nat → Bool
  | 0, _, _, _ => true
  | m + 1, v2, rows, acc => match stp Nat.add (fun a => a) P rc v2 rows ([], acc) with
    | (r, a) => bif okR r 32 then okD P rc m (Nat.succ v2) r a else false
def dpN (B P rc n : Nat) : Nat := dpA Nat.add (fun a => Nat.mul B a) P rc n 0 [(0, 1)] 0
def PB (k : Nat) (w n : Int) : Nat → Nat
  | 0 => 0
  | v + 1 => Nat.lor (PB k w n v) (Nat.shiftLeft (nrV k w n v) (Nat.mul 20 v))
def nrOk (k : Nat) (w n : Int) (P : Nat) : Nat → Bool
  | 0 => true
  | v + 1 => bif Nat.beq (nrP P v) (nrV k w n v) then nrOk k w n P v else false
def kiN (k : Nat) : Nat := bif Nat.beq k 1 then 2 else 1
def blk (k w h : Nat) : Bool := seqN (Nat.mul (Nat.mul w h) (kiN k)) fun n => seqN (PB k w n n) fun P => bif nrOk k w n P n then EtA n P n else false
def cmpB (k w h : Nat) : Bool := seqN (Nat.mul (Nat.mul w h) (kiN k)) fun n => seqN (PB k w n n) fun P => seqN (Nat.mul w (kiN k)) fun rc => seqN (PB k h n n) fun Q =>
  bif okD P rc n 0 [(0, 1)] 0 then (bif Nat.beq (Et 18446744073709551616 P n) (dpN 18446744073709551616 P rc n) then (bif Nat.beq (Et 1 P n) (dpN 1 P rc n) then (bif Nat.beq (Et 18446744073709551616 Q n) (dpN 18446744073709551616 P rc n) then (Nat.beq (Et 1 Q n) (dpN 1 P rc n)) else false) else false) else false) else false
