/-! A small machine over the kit's worlds: a world is a list of cells by their addresses, a state is (pc, locals, stack, world);
'Go' says that the real machine, standing so, comes to its end with Q; 'Ct' is a method's contract. -/
abbrev ZE : Type := (Nat × List Value) ⊕ ((FieldType × List Int32) ⊕ (List Int64 ⊕ (String × List (Option Nat))))
abbrev ZW : Type := List (Nat × ZE)
abbrev zO (ci : Nat) (fs : List Value) : ZE := .inl (ci, fs)
abbrev zI (l : List Int32) : ZE := .inr (.inl (.int, l))
abbrev zZ (l : List Int32) : ZE := .inr (.inl (.boolean, l))
abbrev zC (l : List Int32) : ZE := .inr (.inl (.char, l))
abbrev zJ (l : List Int64) : ZE := .inr (.inr (.inl l))
abbrev zR (C : String) (l : List (Option Nat)) : ZE := .inr (.inr (.inr (C, l)))
def z_E (k : Nat → ClassId) (a : Nat) : ZE → va_E
  | .inl (ci, fs) => .inr (ci, fs)
  | .inr (.inl (_, l)) => .inl (k a, l.length, .inl (fun i => l.getD i 0))
  | .inr (.inr (.inl l)) => .inl (k a, l.length, .inr (.inl (fun i => l.getD i 0)))
  | .inr (.inr (.inr (_, l))) => .inl (k a, l.length, .inr (.inr (.inr (.inr (fun i => l.getD i none)))))
def z_ty : ZE → Option FieldType
  | .inl _ => none
  | .inr (.inl (t, _)) => some t
  | .inr (.inr (.inl _)) => some .long
  | .inr (.inr (.inr (C, _))) => some (.object C)
def z_len : ZE → Nat
  | .inl _ => 0
  | .inr (.inl (_, l)) => l.length
  | .inr (.inr (.inl l)) => l.length
  | .inr (.inr (.inr (_, l))) => l.length
def z_w (k : Nat → ClassId) (w : ZW) : va_W := w.map (fun q => (q.1, z_E k q.1 q.2))
/-- the world w stands in the heap, apart, within A -/
def z_Rp (D : va_G) (A : Nat → Prop) (w : ZW) (U : State) (H : Heap) : Prop :=
  ∃ k : Nat → ClassId, va_P D vwCl (z_w k w) H ∧ va_D A (z_w k w) ∧ ∀ q ∈ w, ∀ t, z_ty q.2 = some t → ArrOfT U (k q.1) t ∧ va_RA U (k q.1) t
/-- int arrays that nobody writes: the class's static ones, and the script -/
def z_Ro (r : Nat → Nat) (rl : Nat → List Int32) (A : Nat → Prop) (U : State) (H : Heap) : Prop :=
  ∀ j, j < 7 → ∃ cell : Cell, H[r j]? = some cell ∧ U.isArrayOf cell .int ∧ cell.vm ≠ .unknown ∧ ((rl j).length ≤ cell.slots.size ∧ cell.slots.size.toInt32 = Int32.ofNat (rl j).length) ∧ (∀ i, i < (rl j).length → cell.slots[i]? = some (.int ((rl j).getD i 0))) ∧ ¬ A (r j)
def z_sn : Nat → String
  | 0 => "SQUARE_Q"
  | 1 => "SQUARE_R"
  | 2 => "TRIANGLE_Q"
  | 3 => "TRIANGLE_R"
  | 4 => "HEXAGON_Q"
  | _ => "HEXAGON_R"
/-- links to the private constructors of nest mates -/
def z_nl : List (String × Nat × MethodName × String) := [(RX0, 27, yX7_init, "CellFigures"), (RX11, 23, yX10_init, "CellFigures"), (RX11, 46, yX9_init, "CellFigures"), (RX11, 53, yX0_init, "CellFigures")]
def z_ao : List String := ["CellFigures$Lattice", "CellFigures$Catalogue", "CellFigures$Cells", "CellFigures$State"]
def z_N (U : State) : Prop := (∀ q ∈ z_nl, va_Nw (.methodLinkNest q.1 q.2.1 q.2.2.1 q.2.2.2) U) ∧ ∀ C ∈ z_ao, va_AO C U
def z_St (r : Nat → Nat) (A : Nat → Prop) (U : State) (H : Heap) : Prop := (∀ j, j < 6 → va_Z "CellFigures$Lattice" (z_sn j) "[I" (.ref (r (j + 1))) A U H) ∧ z_N U
/-- an instruction, its length, two numbers that it stands for, a value -/
abbrev ZI : Type := Instr × Nat × Nat × Nat × Value
/-- a method: name, own class, bytes, places, answer's type, frames and words that its calls need, whether a constructor, its instructions -/
abbrev ZM : Type := MethodName × String × ByteArray × Nat × Option FieldType × Nat × Nat × Bool × List (Nat × ZI)
abbrev ZC : Type := Nat × List (Option Value) × List Value × ZW
abbrev z_y (M : ZM) : MethodName := M.1
abbrev z_own (M : ZM) : String := M.2.1
abbrev z_cc (M : ZM) : ByteArray := M.2.2.1
abbrev z_nL (M : ZM) : Nat := M.2.2.2.1
abbrev z_ret (M : ZM) : Option FieldType := M.2.2.2.2.1
abbrev z_fr (M : ZM) : Nat := M.2.2.2.2.2.1
abbrev z_lo (M : ZM) : Nat := M.2.2.2.2.2.2.1
abbrev z_ini (M : ZM) : Bool := M.2.2.2.2.2.2.2.1
abbrev z_code (M : ZM) : List (Nat × ZI) := M.2.2.2.2.2.2.2.2
/-- the tables' words that hold at every call -/
def z_tb : List Cond := lw_tbl.filter goodWord
theorem z_tbm {q : Nat} {w : Cond} (h : lw_tbl[q]? = some w) (g : goodWord w = true) : w ∈ z_tb := List.mem_filter.mpr ⟨List.mem_of_getElem? h, g⟩
def z_L (ls : Array Slot) (nL : Nat) (L : List (Option Value)) : Prop := ls.size = nL ∧ lv_wf ls ∧ ∀ (i : Nat) (v : Value), L[i]? = some (some v) → ls[i]? = some (.val v)
def z_Cx (D : va_G) (r : Nat → Nat) (rl : Nat → List Int32) (M : ZM) (p : Program) (R : Room) (s : State) (m : MethodId) (args : Array Value) (meth : Method) (c : Code) (A : Nat → Prop) : Prop :=
  p.tables.exec = Jvm.exec ∧ c.code = z_cc M ∧ meth.sig.returnType = z_ret M ∧ c.maxLocals = z_nL M ∧ meth.locks = false ∧ s.vm.findClass (z_own M) = some m.cls ∧ (∀ w ∈ z_tb, w.before args s = true) ∧ va_K D vwCl [] s ∧ (z_ini M = true → meth.name = "<init>") ∧ z_fr M ≤ R.frames ∧ z_lo M ≤ R.locals ∧ z_Ro r rl A s s.heap ∧ z_St r A s s.heap ∧ (∀ q, s.heap.size ≤ q → A q)
/-- a return instruction at pc that gives v -/
def z_rt (M : ZM) (pc : Nat) : Option Value → Prop
  | none => decode (z_cc M) pc = .ok (.return_, 1) ∧ z_ret M = none
  | some (.int x) => decode (z_cc M) pc = .ok (.ireturn, 1) ∧ ∃ ty, z_ret M = some ty ∧ narrow ty (.int x) = .int x
  | some (.long _) => decode (z_cc M) pc = .ok (.lreturn, 1) ∧ z_ret M = some .long
  | some (.ref _) => decode (z_cc M) pc = .ok (.areturn, 1) ∧ ∃ C, z_ret M = some (.object C)
  | _ => False
def Go (l : Launch) (D : va_G) (r : Nat → Nat) (rl : Nat → List Int32) (M : ZM) (k n : Nat) (z : ZC) (Q : Option Value → ZW → Prop) : Prop :=
  ∀ (p : Program) (e : Env) (R : Room) (s : State) (m : MethodId) (args : Array Value) (below : List Frame) (meth : Method) (c : Code) (A : Nat → Prop) (Qw : State → Prop) (H : Heap) (locs : List Loc) (cells slots : Nat) (ls : Array Slot),
    z_Cx D r rl M p R s m args meth c A → cells + k ≤ R.cells → slots + n ≤ R.slots → z_Rp D A z.2.2.2 s H → va_S A s.heap H locs → z_L ls (z_nL M) z.2.1 →
    (∀ (v : Option Value) (w' : ZW) (H' : Heap) (locs' : List Loc) (pc' : Nat) (ls' : Array Slot), Q v w' → z_Rp D A w' s H' → va_S A s.heap H' locs' → z_rt M pc' v → W p l e R s m args below meth c H' locs' (cells + k) (slots + n) Qw (F0 m pc' ls' v.toList)) →
    W p l e R s m args below meth c H locs cells slots Qw (F0 m z.1 ls z.2.2.1)
/-- ===== simple instructions ===== -/
def z_clr (L : List (Option Value)) : Nat → List (Option Value)
  | 0 => L
  | i + 1 => match L[i]? with
    | some (some (.long _)) => L.set i none
    | some (some (.double _)) => L.set i none
    | _ => L
def z_s1 (L : List (Option Value)) (i : Nat) (v : Value) : List (Option Value) := (z_clr L i).set i (some v)
def z_s2 (L : List (Option Value)) (i : Nat) (v : Value) : List (Option Value) := ((z_clr L i).set i (some v)).set (i + 1) none
def z_i (I : Instr) (len a b : Nat) (v : Value) (hint pc : Nat) (L : List (Option Value)) (st : List Value) (w : ZW) : Option (List Prop × ZC) := match I with
  | .iconst _ => some ([], pc + len, L, v :: st, w)
  | .bipush _ => some ([], pc + len, L, v :: st, w)
  | .sipush _ => some ([], pc + len, L, v :: st, w)
  | .ldc _ => some ([], pc + len, L, v :: st, w)
  | .ldc_w _ => some ([], pc + len, L, v :: st, w)
  | .ldc2_w _ => some ([], pc + len, L, v :: st, w)
  | .lconst _ => some ([], pc + len, L, v :: st, w)
  | .iload _ => match L[a]? with
    | some (some (.int x)) => some ([], pc + len, L, .int x :: st, w)
    | _ => none
  | .iload_n _ => match L[a]? with
    | some (some (.int x)) => some ([], pc + len, L, .int x :: st, w)
    | _ => none
  | .aload _ => match L[a]? with
    | some (some (.ref x)) => some ([], pc + len, L, .ref x :: st, w)
    | _ => none
  | .aload_n _ => match L[a]? with
    | some (some (.ref x)) => some ([], pc + len, L, .ref x :: st, w)
    | _ => none
  | .lload _ => match L[a]? with
    | some (some (.long x)) => some ([], pc + len, L, .long x :: st, w)
    | _ => none
  | .lload_n _ => match L[a]? with
    | some (some (.long x)) => some ([], pc + len, L, .long x :: st, w)
    | _ => none
  | .istore _ => match st with
    | .int x :: st' => some ([], pc + len, z_s1 L a (.int x), st', w)
    | _ => none
  | .istore_n _ => match st with
    | .int x :: st' => some ([], pc + len, z_s1 L a (.int x), st', w)
    | _ => none
  | .astore _ => match st with
    | .ref x :: st' => some ([], pc + len, z_s1 L a (.ref x), st', w)
    | _ => none
  | .astore_n _ => match st with
    | .ref x :: st' => some ([], pc + len, z_s1 L a (.ref x), st', w)
    | _ => none
  | .lstore _ => match st with
    | .long x :: st' => some ([], pc + len, z_s2 L a (.long x), st', w)
    | _ => none
  | .lstore_n _ => match st with
    | .long x :: st' => some ([], pc + len, z_s2 L a (.long x), st', w)
    | _ => none
  | .iinc _ _ => match L[a]?, v with
    | some (some (.int x)), .int y => some ([], pc + len, z_s1 L a (.int (x + y)), st, w)
    | _, _ => none
  | .iadd => match st with
    | .int y :: .int x :: st' => some ([], pc + 1, L, .int (x + y) :: st', w)
    | _ => none
  | .isub => match st with
    | .int y :: .int x :: st' => some ([], pc + 1, L, .int (x - y) :: st', w)
    | _ => none
  | .imul => match st with
    | .int y :: .int x :: st' => some ([], pc + 1, L, .int (x * y) :: st', w)
    | _ => none
  | .idiv => match st with
    | .int y :: .int x :: st' => some ([¬ y = 0], pc + 1, L, .int (x / y) :: st', w)
    | _ => none
  | .irem => match st with
    | .int y :: .int x :: st' => some ([¬ y = 0], pc + 1, L, .int (x - x / y * y) :: st', w)
    | _ => none
  | .iand => match st with
    | .int y :: .int x :: st' => some ([], pc + 1, L, .int (x &&& y) :: st', w)
    | _ => none
  | .ior => match st with
    | .int y :: .int x :: st' => some ([], pc + 1, L, .int (x ||| y) :: st', w)
    | _ => none
  | .ixor => match st with
    | .int y :: .int x :: st' => some ([], pc + 1, L, .int (x ^^^ y) :: st', w)
    | _ => none
  | .ishl => match st with
    | .int y :: .int x :: st' => some ([], pc + 1, L, .int (x <<< (y &&& 31)) :: st', w)
    | _ => none
  | .ishr => match st with
    | .int y :: .int x :: st' => some ([], pc + 1, L, .int (x >>> (y &&& 31)) :: st', w)
    | _ => none
  | .iushr => match st with
    | .int y :: .int x :: st' => some ([], pc + 1, L, .int (x.toUInt32 >>> (y.toUInt32 &&& Int32.toUInt32 31)).toInt32 :: st', w)
    | _ => none
  | .ineg => match st with
    | .int x :: st' => some ([], pc + 1, L, .int (-x) :: st', w)
    | _ => none
  | .i2l => match st with
    | .int x :: st' => some ([], pc + 1, L, .long x.toInt64 :: st', w)
    | _ => none
  | .l2i => match st with
    | .long x :: st' => some ([], pc + 1, L, .int x.toInt32 :: st', w)
    | _ => none
  | .i2c => match st with
    | .int x :: st' => some ([], pc + 1, L, .int (x.toUInt32 % 65536).toInt32 :: st', w)
    | _ => none
  | .lor => match st with
    | .long y :: .long x :: st' => some ([], pc + 1, L, .long (x ||| y) :: st', w)
    | _ => none
  | .land => match st with
    | .long y :: .long x :: st' => some ([], pc + 1, L, .long (x &&& y) :: st', w)
    | _ => none
  | .lshl => match st with
    | .int y :: .long x :: st' => some ([], pc + 1, L, .long (x <<< (y.toInt64 &&& 63)) :: st', w)
    | _ => none
  | .lshr => match st with
    | .int y :: .long x :: st' => some ([], pc + 1, L, .long (x >>> (y.toInt64 &&& 63)) :: st', w)
    | _ => none
  | .lushr => match st with
    | .int y :: .long x :: st' => some ([], pc + 1, L, .long (x.toUInt64 >>> (y.toInt64.toUInt64 &&& Int64.toUInt64 63)).toInt64 :: st', w)
    | _ => none
  | .lcmp => match st with
    | .long y :: .long x :: st' => some ([], pc + 1, L, .int (lg_cmp x y) :: st', w)
    | _ => none
  | .dup => match st with
    | .int x :: st' => some ([], pc + 1, L, .int x :: .int x :: st', w)
    | .ref x :: st' => some ([], pc + 1, L, .ref x :: .ref x :: st', w)
    | _ => none
  | .dup2 => match st with
    | .int x :: .ref y :: st' => some ([], pc + 1, L, .int x :: .ref y :: .int x :: .ref y :: st', w)
    | _ => none
  | .pop => match st with
    | .int _ :: st' => some ([], pc + 1, L, st', w)
    | .ref _ :: st' => some ([], pc + 1, L, st', w)
    | _ => none
  | .goto _ => some ([], a, L, st, w)
  | .getfield _ => match st, w[hint]? with
    | .ref p :: st', some (p', .inl (ci, fs)) => match (ci == a), fs[b]? with
      | true, some x => some ([p' = p], pc + 3, L, x :: st', w)
      | _, _ => none
    | _, _ => none
  | .arraylength => match st, w[hint]? with
    | .ref p :: st', some (p', .inr x) => some ([p' = p], pc + 1, L, .int (Int32.ofNat (z_len (.inr x))) :: st', w)
    | _, _ => none
  | _ => none
def z_nx (M : ZM) (hint : Nat) (z : ZC) : Option (List Prop × ZC) := match (z_code M).lookup z.1 with
  | some (I, len, a, b, v) => z_i I len a b v hint z.1 z.2.1 z.2.2.1 z.2.2.2
  | none => none
def z_blk (M : ZM) : List Nat → ZC → Option (List Prop × ZC)
  | [], z => some ([], z)
  | h :: t, z => match z_nx M h z with
    | some (s, z') => match z_blk M t z' with
      | some (s', z'') => some (s ++ s', z'')
      | none => none
    | none => none
def z_all : List Prop → Prop
  | [] => True
  | P :: t => P ∧ z_all t
/-- what a program decides of an instruction of the table: the bytes decode so, and its words are in the tables -/
def z_chk (M : ZM) (pc : Nat) (e : ZI) : Bool := match e with
  | (I, len, a, b, v) => decide (decode (z_cc M) pc = .ok (I, len)) && match I with
    | .iconst n => len == 1 && decide (v = .int (Int32.ofInt n))
    | .bipush n => len == 2 && decide (v = .int (Int8.ofInt n).toInt32)
    | .sipush n => len == 3 && decide (v = .int (Int16.ofInt n).toInt32)
    | .ldc i => len == 2 && (match v with | .int x => decide (lw_tbl[a]? = some (.constant (z_own M) i x)) | _ => false)
    | .ldc_w i => len == 3 && (match v with | .int x => decide (lw_tbl[a]? = some (.constant (z_own M) i x)) | _ => false)
    | .ldc2_w i => len == 3 && (match v with | .long x => decide (lw_tbl[a]? = some (.constantLong (z_own M) i x)) | _ => false)
    | .lconst n => len == 1 && decide (v = .long (Int64.ofNat (n : Nat)))
    | .iload i => len == 2 && i == a
    | .iload_n i => len == 1 && (i : Nat) == a
    | .aload i => len == 2 && i == a
    | .aload_n i => len == 1 && (i : Nat) == a
    | .lload i => len == 2 && i == a
    | .lload_n i => len == 1 && (i : Nat) == a
    | .istore i => len == 2 && i == a && decide (a < z_nL M)
    | .istore_n i => len == 1 && (i : Nat) == a && decide (a < z_nL M)
    | .astore i => len == 2 && i == a && decide (a < z_nL M)
    | .astore_n i => len == 1 && (i : Nat) == a && decide (a < z_nL M)
    | .lstore i => len == 2 && i == a && decide (a + 1 < z_nL M)
    | .lstore_n i => len == 1 && (i : Nat) == a && decide (a + 1 < z_nL M)
    | .iinc i n => len == 3 && i == a && decide (a < z_nL M) && decide (v = .int (Int32.ofInt n))
    | .goto off => len == 3 && decide ((pc : Int) + off = (a : Int))
    | .if_icmp _ off => len == 3 && decide ((pc : Int) + off = (a : Int))
    | .ifCond _ off => len == 3 && decide ((pc : Int) + off = (a : Int))
    | .getfield i => len == 3 && (match vwCl[a]? with | some (C, T, N) => decide (b < N) && (match v with | .retAddr q => decide (lw_tbl[q]? = some (.fieldLink (z_own M) i (T b).1 (T b).2.1 (T b).2.2.1)) | _ => false) | none => false)
    | .putfield i => len == 3 && (match vwCl[a]? with | some (C, T, N) => decide (b < N) && (match v with | .retAddr q => decide (lw_tbl[q]? = some (.fieldLink (z_own M) i (T b).1 (T b).2.1 (T b).2.2.1)) | _ => false) && (!(T b).2.2.2 || (z_ini M && decide ((T b).1 = z_own M))) | none => false)
    | .invokevirtual _ => len == 3
    | .invokestatic _ => len == 3
    | .invokespecial _ => len == 3
    | .new _ => len == 3
    | .newarray _ => len == 2
    | .anewarray _ => len == 3
    | .getstatic _ => len == 3
    | .tableswitch _ _ _ _ => true
    | _ => len == 1
def z_ok (M : ZM) : Bool := (z_code M).all (fun q => z_chk M q.1 q.2)
def z_vm (M : ZM) (np : Nat) : Prop := Cond.instanceMethod (z_y M) ∈ z_tb ∧ Cond.selects (z_y M).cls (z_y M) (z_y M) ∈ z_tb ∧ Cond.initialized (z_y M).cls ∈ z_tb ∧ Cond.code (z_y M) (z_cc M) (z_nL M) (z_ret M) ∈ z_tb ∧ (z_y M).cls ≠ "java/lang/invoke/MethodHandle" ∧ (z_y M).cls ≠ "java/lang/invoke/VarHandle" ∧ (parseMethodDescriptor (z_y M).desc).map (fun d => d.parameters.length) = some np
def z_sm (M : ZM) (np : Nat) : Prop := Cond.static (z_y M) ∈ z_tb ∧ Cond.initialized (z_y M).cls ∈ z_tb ∧ Cond.code (z_y M) (z_cc M) (z_nL M) (z_ret M) ∈ z_tb ∧ (z_y M).cls ≠ "java/lang/invoke/MethodHandle" ∧ (z_y M).cls ≠ "java/lang/invoke/VarHandle" ∧ (parseMethodDescriptor (z_y M).desc).map (fun d => d.parameters.length) = some np
def z_im (M : ZM) (np : Nat) : Prop := Cond.instanceMethod (z_y M) ∈ z_tb ∧ Cond.initialized (z_y M).cls ∈ z_tb ∧ Cond.code (z_y M) (z_cc M) (z_nL M) none ∈ z_tb ∧ z_ret M = none ∧ (z_y M).name = "<init>" ∧ (z_y M).cls ≠ "java/lang/invoke/MethodHandle" ∧ (z_y M).cls ≠ "java/lang/invoke/VarHandle" ∧ (parseMethodDescriptor (z_y M).desc).map (fun d => d.parameters.length) = some np
