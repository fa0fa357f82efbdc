/-- the arrays that nobody writes: the script, then the steps of the lattices -/
def z_rl (xs : List Int32) : Nat → List Int32
  | 0 => xs
  | j + 1 => zq j
def z_fl (n : Nat) (f : Nat → Nat) : List (Option Nat) := (List.range n).map (fun i => some (f i))
def sLa (r : Nat → Nat) (p k : Nat) : ZW := [(p, zO 6 [.int (nI k), .int (zdeg k), .int (zkin k), .int (ztur k), .int (zgre k), .ref (r (2 * k + 1)), .ref (r (2 * k + 2))])]
def sAr (p : Nat) (v : List Int32) : ZW := [(p, zI v)]
def sAj (p : Nat) (v : List Int64) : ZW := [(p, zJ v)]
def sBl (p : Nat) (a : Nat → Nat) (x0 : List Int32) (x1 : Nat) (x2 : List Int32) (x3 : List Int32) (x4 : Nat) (x5 : Nat) (x6 : Int32) (x7 : Int32) : ZW := [(p, zO 0 [.ref (a 0), .ref x1, .ref (a 1), .ref (a 2), .ref x4, .ref x5, .int x6, .int x7]), (a 0, zZ x0), (a 1, zI x2), (a 2, zI x3)]
def sCa (p : Nat) (a : Nat → Nat) (x0 : Nat) (x1 : Nat) (x2 : Nat) (x3 : Nat) (x4 : Nat) (x5 : List Int32) (x6 : Int32) (x7 : Nat) (x8 : List Int32) (x9 : Int32) (x10 : List Int32) (x11 : List Int32) (x12 : List Int32) (x13 : Int32) : ZW := [(p, zO 1 [.ref x0, .ref x1, .ref x2, .ref x3, .ref x4, .ref (a 0), .int x6, .ref x7, .ref (a 1), .int x9, .ref (a 2), .ref (a 3), .ref (a 4), .int x13]), (a 0, zI x5), (a 1, zI x8), (a 2, zI x10), (a 3, zI x11), (a 4, zI x12)]
def sCe (p : Nat) (a : Nat → Nat) (x0 : List Int32) (x1 : Int32) : ZW := [(p, zO 2 [.ref (a 0), .int x1]), (a 0, zI x0)]
def sCf (p : Nat) (a : Nat → Nat) (x0 : Nat → Nat) (x1 : Nat → Nat) (x2 : Nat) (x3 : Nat) (x4 : Nat) (x5 : Nat) (x6 : Nat) (x7 : Nat) (x8 : Nat) (x9 : Nat) : ZW := [(p, zO 11 [.ref (a 0), .ref (a 1), .ref x2, .ref x3, .ref x4, .ref x5, .ref x6, .ref x7, .ref x8, .ref x9]), (a 0, zR "CellFigures$Lattice" (z_fl 3 x0)), (a 1, zR "CellFigures$Catalogue" (z_fl 3 x1))]
def sHi (p : Nat) (a : Nat → Nat) (x0 : Nat → Nat) (x1 : Int32) (x2 : Int32) : ZW := [(p, zO 3 [.ref (a 0), .int x1, .int x2]), (a 0, zR "CellFigures$State" (z_fl 6 x0))]
def sIm (p : Nat) (a : Nat → Nat) (x0 : Nat → Nat) (x1 : Nat) (x2 : Int32) : ZW := [(p, zO 4 [.ref (a 0), .ref x1, .int x2]), (a 0, zR "CellFigures$Cells" (z_fl 12 x0))]
def sKi (p : Nat) (a : Nat → Nat) (x0 : Nat) (x1 : Nat) (x2 : Nat) (x3 : List Int64) (x4 : Int32) : ZW := [(p, zO 5 [.ref x0, .ref x1, .ref x2, .ref (a 0), .int x4]), (a 0, zJ x3)]
def sMo (p : Nat) (a : Nat → Nat) (x0 : List Int32) (x1 : List Int32) (x2 : Int32) (x3 : List Int32) (x4 : List Int32) (x5 : Int32) (x6 : Int32) (x7 : List Int32) (x8 : List Int32) (x9 : List Int32) (x10 : List Int32) (x11 : List Int32) (x12 : List Int32) (x13 : Int32) (x14 : List Int32) (x15 : Int32) (x16 : List Int64) (x17 : List Int32) (x18 : List Int32) (x19 : List Int64) (x20 : List Int32) (x21 : List Int32) (x22 : List Int32) (x23 : List Int32) (x24 : List Int32) (x25 : Int32) (x26 : Int32) (x27 : Int32) (x28 : Int32) (x29 : Int32) (x30 : Int32) (x31 : Int32) : ZW := [(p, zO 12 [.ref (a 0), .ref (a 1), .int x2, .ref (a 2), .ref (a 3), .int x5, .int x6, .ref (a 4), .ref (a 5), .ref (a 6), .ref (a 7), .ref (a 8), .ref (a 9), .int x13, .ref (a 10), .int x15, .ref (a 11), .ref (a 12), .ref (a 13), .ref (a 14), .ref (a 15), .ref (a 16), .ref (a 17), .ref (a 18), .ref (a 19), .int x25, .int x26, .int x27, .int x28, .int x29, .int x30, .int x31]), (a 0, zI x0), (a 1, zI x1), (a 2, zI x3), (a 3, zC x4), (a 4, zI x7), (a 5, zI x8), (a 6, zI x9), (a 7, zI x10), (a 8, zI x11), (a 9, zI x12), (a 10, zI x14), (a 11, zJ x16), (a 12, zZ x17), (a 13, zI x18), (a 14, zJ x19), (a 15, zI x20), (a 16, zI x21), (a 17, zI x22), (a 18, zI x23), (a 19, zI x24)]
def sSg (p : Nat) (a : Nat → Nat) (x0 : List Int64) (x1 : Nat) (x2 : Int32) : ZW := [(p, zO 7 [.ref (a 0), .ref x1, .int x2]), (a 0, zJ x0)]
def sSt (p : Nat) (a : Nat → Nat) (x0 : Nat) (x1 : Nat) : ZW := [(p, zO 8 [.ref x0, .ref x1])]
def sSu (p : Nat) (a : Nat → Nat) (x0 : List Int32) (x1 : List Int32) (x2 : Int32) (x3 : Int32) (x4 : Int32) (x5 : Int32) (x6 : Int32) (x7 : Int32) (x8 : Int32) : ZW := [(p, zO 9 [.ref (a 0), .ref (a 1), .int x2, .int x3, .int x4, .int x5, .int x6, .int x7, .int x8]), (a 0, zI x0), (a 1, zI x1)]
def sTx (p : Nat) (a : Nat → Nat) (x0 : List Int32) (x1 : Int32) (x2 : Int32) (x3 : Int32) (x4 : Int32) (x5 : Int32) (x6 : Int32) (x7 : Int32) (x8 : Int32) : ZW := [(p, zO 10 [.ref (a 0), .int x1, .int x2, .int x3, .int x4, .int x5, .int x6, .int x7, .int x8]), (a 0, zI x0)]
def sSk (gl : Nat → Nat) (p k c : Nat) : ZW := [(p, zO 8 [.ref (gl k), .ref c])]
def sBk (sgp : Nat → Nat) (p : Nat) (a : Nat → Nat) (x0 : List Int32) (x1 : Nat) (x2 : List Int32) (x3 : List Int32) (x4 : Nat) (x5 : Nat) (x6 : Int32) (x7 : Int32) : ZW := sBl p a x0 x1 x2 x3 (sgp x4) (sgp x5) x6 x7
def sFo (is : List Nat) (f : Nat → Nat) (a : Nat → Nat → Nat) (v : Nat → List Int32 × Int32) : ZW := is.flatMap (fun j => (sCe (f j) (a j) ((v j).1) ((v j).2)))
def sFl (r : Nat → Nat) (is : List Nat) (f : Nat → Nat) : ZW := is.flatMap (fun j => (sLa r (f j) j))
def sFh (gl : Nat → Nat) (is : List Nat) (f : Nat → Nat) (c : Nat → Nat) (a : Nat → Nat → Nat) (v : Nat → Nat × List Int32 × Int32) : ZW := is.flatMap (fun j => (sSk gl (f j) ((v j).1) (c j)) ++ (sCe (c j) (a j) ((v j).2.1) ((v j).2.2)))
def sFs (is : List Nat) (f : Nat → Nat) (a : Nat → Nat → Nat) (c : Nat → Nat) (v : Nat → List Int64 × Int32 × List Int32) : ZW := is.flatMap (fun j => (sSg (f j) (a j) ((v j).1) (c j) ((v j).2.1)) ++ (sAr (c j) ((v j).2.2)))
def sFc (gl : Nat → Nat) (is : List Nat) (f : Nat → Nat) (a : Nat → Nat → Nat) (x : Nat → Nat) (y : Nat → Nat) (c : Nat → Nat) (b : Nat → Nat → Nat) (mp : Nat) (up : Nat) (v : Nat → List Int32 × Int32 × List Int32 × Int32 × List Int32 × List Int32 × List Int32 × Int32 × List Int64 × List Int64 × List Int32 × Int32) : ZW := is.flatMap (fun j => (sCa (f j) (a j) (gl j) mp up (c j) (x j) ((v j).1) ((v j).2.1) (y j) ((v j).2.2.1) ((v j).2.2.2.1) ((v j).2.2.2.2.1) ((v j).2.2.2.2.2.1) ((v j).2.2.2.2.2.2.1) ((v j).2.2.2.2.2.2.2.1)) ++ (sAj (x j) ((v j).2.2.2.2.2.2.2.2.1)) ++ (sAj (y j) ((v j).2.2.2.2.2.2.2.2.2.1)) ++ (sCe (c j) (b j) ((v j).2.2.2.2.2.2.2.2.2.2.1) ((v j).2.2.2.2.2.2.2.2.2.2.2)))
theorem z_fo1 {is : List Nat} {F : Nat → ZW} {j : Nat} (hj : j ∈ is) : (F j ++ (is.erase j).flatMap F).Perm (is.flatMap F) := (List.Perm.flatMap_right F (List.perm_cons_erase hj)).symm
theorem z_un1 {is : List Nat} {F F2 : Nat → ZW} {j : Nat} (hj : j ∈ is) (hn : is.Nodup) (h : ∀ i, i ≠ j → F2 i = F i) : (F2 j ++ (is.erase j).flatMap F).Perm (is.flatMap F2) := by
  have e : (is.erase j).flatMap F = (is.erase j).flatMap F2 := by
    rw [List.flatMap_def, List.flatMap_def]
    congr 1
    exact List.map_congr_left (fun i hi => (h i (fun q => by rw [q] at hi; exact (List.Nodup.not_mem_erase hn) hi)).symm)
  rw [e]
  exact z_fo1 hj
theorem z_upS {α : Type} (v : Nat → α) (j : Nat) (x : α) : va_up v j x j = x := if_pos rfl
theorem z_upN {α : Type} (v : Nat → α) {i j : Nat} (h : i ≠ j) (x : α) : va_up v j x i = v i := if_neg h
theorem z_focP {A B E : List ZW} {X X2 : ZW} {n : Nat} (h : (E.flatten ++ X2).Perm X) (is : List Nat) {S2 S : List ZW} (hS2 : z_pk (A ++ (E ++ X2 :: B)) is = S2) (hn : (A ++ (E ++ X2 :: B)).length = n) (hp : is.Perm (List.range n)) (hS : A ++ X :: B = S) : S2.flatten.Perm S.flatten := by
  subst hS2 hn hS
  have h1 : (z_pk (A ++ (E ++ X2 :: B)) is).flatten.Perm (A ++ (E ++ X2 :: B)).flatten := by
    have e := z_pk_all (A ++ (E ++ X2 :: B))
    have := hp.map (fun i => (A ++ (E ++ X2 :: B)).getD i [])
    unfold z_pk at e ⊢
    rw [e] at this
    exact List.Perm.flatten this
  refine h1.trans ?_
  rw [List.flatten_append, List.flatten_append, List.flatten_append, List.flatten_cons, List.flatten_cons, ← List.append_assoc E.flatten]
  exact List.Perm.append_left _ (List.Perm.append_right _ h)
theorem z_fl_get {f : Nat → Nat} {i : Int32} {n j : Nat} (h : z_ix i n = some j) : z_get (z_fl n f) i = some (some (f j)) := by
  unfold z_ix at h
  unfold z_get z_fl
  split at h
  · cases h
  · rename_i h0
    split at h
    · rename_i h1
      cases h
      rw [if_neg h0, List.getElem?_map, List.getElem?_range h1]
      rfl
    · cases h
theorem z_foFo {is : List Nat} {f : Nat → Nat} {a : Nat → Nat → Nat} {v : Nat → List Int32 × Int32} {j : Nat} (hj : j ∈ is) : (([sCe (f j) (a j) ((v j).1) ((v j).2)] : List ZW).flatten ++ sFo (is.erase j) f a v).Perm (sFo is f a v) := by
  refine (List.Perm.of_eq ?_).trans (z_fo1 (F := fun j => (sCe (f j) (a j) ((v j).1) ((v j).2))) hj)
  simp only [List.flatten_cons, List.flatten_nil, List.append_nil, List.append_assoc, sFo]
theorem z_unFo {is : List Nat} {f : Nat → Nat} {a : Nat → Nat → Nat} {v : Nat → List Int32 × Int32} {j : Nat} {y0 : List Int32} {y1 : Int32} (hj : j ∈ is) (hn : is.Nodup) : (([sCe (f j) (a j) y0 y1] : List ZW).flatten ++ sFo (is.erase j) f a v).Perm (sFo is f a (va_up v j (y0, y1))) := by
  refine (List.Perm.of_eq ?_).trans (z_un1 (F := fun j => (sCe (f j) (a j) ((v j).1) ((v j).2))) (F2 := fun j0 => (sCe (f j0) (a j0) (((va_up v j (y0, y1)) j0).1) (((va_up v j (y0, y1)) j0).2))) hj hn (fun i hi => ?_))
  · simp only [List.flatten_cons, List.flatten_nil, List.append_nil, List.append_assoc, sFo, z_upS]
  · simp only [z_upN v hi]
theorem z_foFl {r : Nat → Nat} {is : List Nat} {f : Nat → Nat} {j : Nat} (hj : j ∈ is) : (([sLa r (f j) j] : List ZW).flatten ++ sFl r (is.erase j) f).Perm (sFl r is f) := by
  refine (List.Perm.of_eq ?_).trans (z_fo1 (F := fun j => (sLa r (f j) j)) hj)
  simp only [List.flatten_cons, List.flatten_nil, List.append_nil, List.append_assoc, sFl]
theorem z_foFh {gl : Nat → Nat} {is : List Nat} {f : Nat → Nat} {c : Nat → Nat} {a : Nat → Nat → Nat} {v : Nat → Nat × List Int32 × Int32} {j : Nat} (hj : j ∈ is) : (([sSk gl (f j) ((v j).1) (c j), sCe (c j) (a j) ((v j).2.1) ((v j).2.2)] : List ZW).flatten ++ sFh gl (is.erase j) f c a v).Perm (sFh gl is f c a v) := by
  refine (List.Perm.of_eq ?_).trans (z_fo1 (F := fun j => (sSk gl (f j) ((v j).1) (c j)) ++ (sCe (c j) (a j) ((v j).2.1) ((v j).2.2))) hj)
  simp only [List.flatten_cons, List.flatten_nil, List.append_nil, List.append_assoc, sFh]
theorem z_unFh {gl : Nat → Nat} {is : List Nat} {f : Nat → Nat} {c : Nat → Nat} {a : Nat → Nat → Nat} {v : Nat → Nat × List Int32 × Int32} {j : Nat} {y0 : Nat} {y1 : List Int32} {y2 : Int32} (hj : j ∈ is) (hn : is.Nodup) : (([sSk gl (f j) y0 (c j), sCe (c j) (a j) y1 y2] : List ZW).flatten ++ sFh gl (is.erase j) f c a v).Perm (sFh gl is f c a (va_up v j (y0, y1, y2))) := by
  refine (List.Perm.of_eq ?_).trans (z_un1 (F := fun j => (sSk gl (f j) ((v j).1) (c j)) ++ (sCe (c j) (a j) ((v j).2.1) ((v j).2.2))) (F2 := fun j0 => (sSk gl (f j0) (((va_up v j (y0, y1, y2)) j0).1) (c j0)) ++ (sCe (c j0) (a j0) (((va_up v j (y0, y1, y2)) j0).2.1) (((va_up v j (y0, y1, y2)) j0).2.2))) hj hn (fun i hi => ?_))
  · simp only [List.flatten_cons, List.flatten_nil, List.append_nil, List.append_assoc, sFh, z_upS]
  · simp only [z_upN v hi]
theorem z_foFs {is : List Nat} {f : Nat → Nat} {a : Nat → Nat → Nat} {c : Nat → Nat} {v : Nat → List Int64 × Int32 × List Int32} {j : Nat} (hj : j ∈ is) : (([sSg (f j) (a j) ((v j).1) (c j) ((v j).2.1), sAr (c j) ((v j).2.2)] : List ZW).flatten ++ sFs (is.erase j) f a c v).Perm (sFs is f a c v) := by
  refine (List.Perm.of_eq ?_).trans (z_fo1 (F := fun j => (sSg (f j) (a j) ((v j).1) (c j) ((v j).2.1)) ++ (sAr (c j) ((v j).2.2))) hj)
  simp only [List.flatten_cons, List.flatten_nil, List.append_nil, List.append_assoc, sFs]
theorem z_unFs {is : List Nat} {f : Nat → Nat} {a : Nat → Nat → Nat} {c : Nat → Nat} {v : Nat → List Int64 × Int32 × List Int32} {j : Nat} {y0 : List Int64} {y1 : Int32} {y2 : List Int32} (hj : j ∈ is) (hn : is.Nodup) : (([sSg (f j) (a j) y0 (c j) y1, sAr (c j) y2] : List ZW).flatten ++ sFs (is.erase j) f a c v).Perm (sFs is f a c (va_up v j (y0, y1, y2))) := by
  refine (List.Perm.of_eq ?_).trans (z_un1 (F := fun j => (sSg (f j) (a j) ((v j).1) (c j) ((v j).2.1)) ++ (sAr (c j) ((v j).2.2))) (F2 := fun j0 => (sSg (f j0) (a j0) (((va_up v j (y0, y1, y2)) j0).1) (c j0) (((va_up v j (y0, y1, y2)) j0).2.1)) ++ (sAr (c j0) (((va_up v j (y0, y1, y2)) j0).2.2))) hj hn (fun i hi => ?_))
  · simp only [List.flatten_cons, List.flatten_nil, List.append_nil, List.append_assoc, sFs, z_upS]
  · simp only [z_upN v hi]
theorem z_foFc {gl : Nat → Nat} {is : List Nat} {f : Nat → Nat} {a : Nat → Nat → Nat} {x : Nat → Nat} {y : Nat → Nat} {c : Nat → Nat} {b : Nat → Nat → Nat} {mp : Nat} {up : Nat} {v : Nat → List Int32 × Int32 × List Int32 × Int32 × List Int32 × List Int32 × List Int32 × Int32 × List Int64 × List Int64 × List Int32 × Int32} {j : Nat} (hj : j ∈ is) : (([sCa (f j) (a j) (gl j) mp up (c j) (x j) ((v j).1) ((v j).2.1) (y j) ((v j).2.2.1) ((v j).2.2.2.1) ((v j).2.2.2.2.1) ((v j).2.2.2.2.2.1) ((v j).2.2.2.2.2.2.1) ((v j).2.2.2.2.2.2.2.1), sAj (x j) ((v j).2.2.2.2.2.2.2.2.1), sAj (y j) ((v j).2.2.2.2.2.2.2.2.2.1), sCe (c j) (b j) ((v j).2.2.2.2.2.2.2.2.2.2.1) ((v j).2.2.2.2.2.2.2.2.2.2.2)] : List ZW).flatten ++ sFc gl (is.erase j) f a x y c b mp up v).Perm (sFc gl is f a x y c b mp up v) := by
  refine (List.Perm.of_eq ?_).trans (z_fo1 (F := fun j => (sCa (f j) (a j) (gl j) mp up (c j) (x j) ((v j).1) ((v j).2.1) (y j) ((v j).2.2.1) ((v j).2.2.2.1) ((v j).2.2.2.2.1) ((v j).2.2.2.2.2.1) ((v j).2.2.2.2.2.2.1) ((v j).2.2.2.2.2.2.2.1)) ++ (sAj (x j) ((v j).2.2.2.2.2.2.2.2.1)) ++ (sAj (y j) ((v j).2.2.2.2.2.2.2.2.2.1)) ++ (sCe (c j) (b j) ((v j).2.2.2.2.2.2.2.2.2.2.1) ((v j).2.2.2.2.2.2.2.2.2.2.2))) hj)
  simp only [List.flatten_cons, List.flatten_nil, List.append_nil, List.append_assoc, sFc]
theorem z_unFc {gl : Nat → Nat} {is : List Nat} {f : Nat → Nat} {a : Nat → Nat → Nat} {x : Nat → Nat} {y : Nat → Nat} {c : Nat → Nat} {b : Nat → Nat → Nat} {mp : Nat} {up : Nat} {v : Nat → List Int32 × Int32 × List Int32 × Int32 × List Int32 × List Int32 × List Int32 × Int32 × List Int64 × List Int64 × List Int32 × Int32} {j : Nat} {y0 : List Int32} {y1 : Int32} {y2 : List Int32} {y3 : Int32} {y4 : List Int32} {y5 : List Int32} {y6 : List Int32} {y7 : Int32} {y8 : List Int64} {y9 : List Int64} {y10 : List Int32} {y11 : Int32} (hj : j ∈ is) (hn : is.Nodup) : (([sCa (f j) (a j) (gl j) mp up (c j) (x j) y0 y1 (y j) y2 y3 y4 y5 y6 y7, sAj (x j) y8, sAj (y j) y9, sCe (c j) (b j) y10 y11] : List ZW).flatten ++ sFc gl (is.erase j) f a x y c b mp up v).Perm (sFc gl is f a x y c b mp up (va_up v j (y0, y1, y2, y3, y4, y5, y6, y7, y8, y9, y10, y11))) := by
  refine (List.Perm.of_eq ?_).trans (z_un1 (F := fun j => (sCa (f j) (a j) (gl j) mp up (c j) (x j) ((v j).1) ((v j).2.1) (y j) ((v j).2.2.1) ((v j).2.2.2.1) ((v j).2.2.2.2.1) ((v j).2.2.2.2.2.1) ((v j).2.2.2.2.2.2.1) ((v j).2.2.2.2.2.2.2.1)) ++ (sAj (x j) ((v j).2.2.2.2.2.2.2.2.1)) ++ (sAj (y j) ((v j).2.2.2.2.2.2.2.2.2.1)) ++ (sCe (c j) (b j) ((v j).2.2.2.2.2.2.2.2.2.2.1) ((v j).2.2.2.2.2.2.2.2.2.2.2))) (F2 := fun j0 => (sCa (f j0) (a j0) (gl j0) mp up (c j0) (x j0) (((va_up v j (y0, y1, y2, y3, y4, y5, y6, y7, y8, y9, y10, y11)) j0).1) (((va_up v j (y0, y1, y2, y3, y4, y5, y6, y7, y8, y9, y10, y11)) j0).2.1) (y j0) (((va_up v j (y0, y1, y2, y3, y4, y5, y6, y7, y8, y9, y10, y11)) j0).2.2.1) (((va_up v j (y0, y1, y2, y3, y4, y5, y6, y7, y8, y9, y10, y11)) j0).2.2.2.1) (((va_up v j (y0, y1, y2, y3, y4, y5, y6, y7, y8, y9, y10, y11)) j0).2.2.2.2.1) (((va_up v j (y0, y1, y2, y3, y4, y5, y6, y7, y8, y9, y10, y11)) j0).2.2.2.2.2.1) (((va_up v j (y0, y1, y2, y3, y4, y5, y6, y7, y8, y9, y10, y11)) j0).2.2.2.2.2.2.1) (((va_up v j (y0, y1, y2, y3, y4, y5, y6, y7, y8, y9, y10, y11)) j0).2.2.2.2.2.2.2.1)) ++ (sAj (x j0) (((va_up v j (y0, y1, y2, y3, y4, y5, y6, y7, y8, y9, y10, y11)) j0).2.2.2.2.2.2.2.2.1)) ++ (sAj (y j0) (((va_up v j (y0, y1, y2, y3, y4, y5, y6, y7, y8, y9, y10, y11)) j0).2.2.2.2.2.2.2.2.2.1)) ++ (sCe (c j0) (b j0) (((va_up v j (y0, y1, y2, y3, y4, y5, y6, y7, y8, y9, y10, y11)) j0).2.2.2.2.2.2.2.2.2.2.1) (((va_up v j (y0, y1, y2, y3, y4, y5, y6, y7, y8, y9, y10, y11)) j0).2.2.2.2.2.2.2.2.2.2.2))) hj hn (fun i hi => ?_))
  · simp only [List.flatten_cons, List.flatten_nil, List.append_nil, List.append_assoc, sFc, z_upS]
  · simp only [z_upN v hi]
theorem z_bind {α β : Type} {o : Option α} {f : α → Option β} {u : β} (h : o.bind f = some u) : ∃ x, o = some x ∧ f x = some u := Option.bind_eq_some_iff.mp h
theorem z_nrb {x : Int32} (h : x = 0 ∨ x = 1) : narrow .boolean (.int x) = .int x := by rcases h with rfl | rfl <;> rfl
