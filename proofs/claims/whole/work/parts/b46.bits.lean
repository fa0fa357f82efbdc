/-! bits of small numbers -/
theorem loop_inv {σ ρ : Type} (f : Nat → Nat → σ → Option ρ) (out : σ → ρ) (n : Nat) (Inv : Nat → σ → Prop) (hs : ∀ fu i s, i < n → Inv i s → ∃ s', Inv (i + 1) s' ∧ f (fu + 1) i s = f fu (i + 1) s') (hx : ∀ fu s, Inv n s → f (fu + 1) n s = some (out s)) :
    ∀ (fu i : Nat) (s : σ), Inv i s → i ≤ n → n - i < fu → ∃ s', Inv n s' ∧ f fu i s = some (out s') := by
  intro fu
  induction fu with
  | zero => intro i s _ _ h; omega
  | succ fu ih =>
    intro i s hI hin hfu
    rcases Nat.lt_or_ge i n with h | h
    · obtain ⟨s', h1, h2⟩ := hs fu i s h hI
      rw [h2]
      exact ih (i + 1) s' h1 h (by omega)
    · have e : i = n := by omega
      subst e
      exact ⟨s, hI, hx fu s hI⟩
def bt (x : Int32) (i : Nat) : Bool := x.toBitVec.getLsbD i
theorem bt_or (x y : Int32) (i : Nat) : bt (x ||| y) i = (bt x i || bt y i) := BitVec.getLsbD_or
theorem bt_and (x y : Int32) (i : Nat) : bt (x &&& y) i = (bt x i && bt y i) := BitVec.getLsbD_and
theorem bt_xor (x y : Int32) (i : Nat) : bt (x ^^^ y) i = (bt x i ^^ bt y i) := BitVec.getLsbD_xor
theorem bt_big {x : Int32} {i : Nat} (h : 32 ≤ i) : bt x i = false := BitVec.getLsbD_of_ge _ _ h
theorem bt_m1 {i : Nat} (h : i < 32) : bt (-1) i = true := by
  have e : (-1 : Int32).toBitVec = BitVec.allOnes 32 := by decide +kernel
  show (-1 : Int32).toBitVec.getLsbD i = true
  rw [e, BitVec.getLsbD_allOnes]
  simp [h]
theorem bt_ext {x y : Int32} (h : ∀ i, i < 32 → bt x i = bt y i) : x = y := by
  apply Int32.toBitVec.inj
  exact BitVec.eq_of_getLsbD_eq (fun i hi => h i hi)
theorem bt_nI {m : Nat} (i : Nat) (h : i < 32) : bt (nI m) i = m.testBit i := by
  show (BitVec.ofNat 32 m).getLsbD i = _
  rw [BitVec.getLsbD_ofNat]
  simp [h]
theorem bt_0 (i : Nat) : bt 0 i = false := by
  show (BitVec.ofNat 32 0).getLsbD i = _
  simp
/-- an int all of whose bits from n on are 0 is a small number -/
theorem bt_small {x : Int32} {n : Nat} (hn : n ≤ 31) (h : ∀ i, n ≤ i → bt x i = false) : ∃ m : Nat, m < 2 ^ n ∧ x = nI m := by
  refine ⟨x.toBitVec.toNat, ?_, ?_⟩
  · apply Nat.lt_pow_two_of_testBit
    intro i hi
    exact h i hi
  · apply Int32.toBitVec.inj
    show x.toBitVec = BitVec.ofNat 32 x.toBitVec.toNat
    rw [BitVec.ofNat_toNat]
    simp
def low : Nat → Nat → Nat
  | 0, _ => 0
  | f + 1, m => if m % 2 = 1 then 0 else low f (m / 2) + 1
set_option maxRecDepth 100000 in
theorem ntz_tab : ∀ m, m < 4096 → 0 < m → f_J6_numberOfTrailingZeros_0f7a4 0 (nI m) = some (nI (low 12 m)) ∧ low 12 m < 12 ∧ m.testBit (low 12 m) = true ∧ (nI m &&& (nI m - 1)) = nI (m - 2 ^ low 12 m) ∧ ∀ i, i < 12 → (m - 2 ^ low 12 m).testBit i = (m.testBit i && !(i == low 12 m)) := by decide +kernel
def pop (m : Nat) : Nat := ((List.range 12).filter (fun i => m.testBit i)).length
set_option maxRecDepth 100000 in
theorem bc_tab : ∀ m, m < 4096 → f_J6_bitCount_0f7a4 0 (nI m) = some (nI (pop m)) := by decide +kernel
theorem shl_tab : ∀ j : Nat, j < 12 → (1 : Int32) <<< (iI (j : Int) &&& 31) = nI (2 ^ j) := by decide +kernel
theorem ntz_N (N : Nat) (x : Int32) : f_J6_numberOfTrailingZeros_0f7a4 N x = f_J6_numberOfTrailingZeros_0f7a4 0 x := rfl
theorem bc_N (N : Nat) (x : Int32) : f_J6_bitCount_0f7a4 N x = f_J6_bitCount_0f7a4 0 x := rfl
