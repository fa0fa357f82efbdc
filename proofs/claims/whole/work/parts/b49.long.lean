/-! packed forms -/
theorem l_tn {n : Nat} (h : n < 2 ^ 64) : (lN n).toBitVec.toNat = n := Nat.mod_eq_of_lt h
theorem l_ext {x : Int64} {n : Nat} (h : x.toBitVec.toNat = n % 2 ^ 64) : x = lN n := by
  apply Int64.toBitVec.inj
  apply BitVec.eq_of_toNat_eq
  rw [h]
  rfl
theorem l_toI32 (a : Nat) : (lN a).toInt32 = nI a := by
  apply Int32.toBitVec.inj
  apply BitVec.eq_of_toNat_eq
  show (BitVec.signExtend 32 (BitVec.ofNat 64 a)).toNat = (BitVec.ofNat 32 a).toNat
  rw [BitVec.signExtend_eq_setWidth_of_le _ (by decide)]
  simp
theorem l_ofI32 {b : Nat} (h : b < 2 ^ 31) : (nI b).toInt64 = lN b := by
  apply Int64.toInt.inj
  rw [pk_lT (by omega)]
  rw [Int32.toInt_toInt64, nI_iI, iI_toInt (by omega) (by omega)]
set_option maxRecDepth 8192 in
theorem l_or {a b : Nat} (hb : b < 256) (h : a * 256 + b < 2 ^ 63) : (lN a <<< (Int32.toInt64 8 &&& 63)) ||| Int32.toInt64 (nI b) = lN (a * 256 + b) := by
  rw [l_ofI32 (by omega)]
  apply l_ext
  have e1 : (lN a <<< (Int32.toInt64 8 &&& 63)).toBitVec.toNat = a * 256 % 2 ^ 64 := by
    rw [Int64.toBitVec_shiftLeft]
    have : ((Int32.toInt64 8 &&& 63).toBitVec.smod 64).toNat = 8 := by decide
    rw [BitVec.shiftLeft_eq', BitVec.toNat_shiftLeft, this, l_tn (by omega), Nat.shiftLeft_eq]
  have e2 : (lN a <<< (Int32.toInt64 8 &&& 63)).toBitVec.toNat = a * 256 := by rw [e1]; exact Nat.mod_eq_of_lt (by omega)
  have e3 := Nat.shiftLeft_add_eq_or_of_lt (show b < 2 ^ 8 by omega) a
  rw [Nat.shiftLeft_eq] at e3
  rw [Int64.toBitVec_or, BitVec.toNat_or, e2, l_tn (by omega)]
  exact e3.symm.trans (Nat.mod_eq_of_lt (by omega)).symm
theorem l_and {a : Nat} (h : a < 2 ^ 63) : lN a &&& 255 = lN (a % 256) := by
  apply l_ext
  rw [Int64.toBitVec_and, BitVec.toNat_and, l_tn (by omega)]
  have : (255 : Int64).toBitVec.toNat = 2 ^ 8 - 1 := by decide
  rw [this, Nat.and_two_pow_sub_one_eq_mod, Nat.mod_eq_of_lt (a := a % 256) (by omega)]
theorem l_shr {a : Nat} (h : a < 2 ^ 63) : lN a >>> (Int32.toInt64 8 &&& 63) = lN (a / 256) := by
  apply Int64.toInt.inj
  rw [pk_lT (by omega)]
  show (lN a >>> (Int32.toInt64 8 &&& 63)).toBitVec.toInt = _
  rw [Int64.toBitVec_shiftRight]
  have : ((Int32.toInt64 8 &&& 63).toBitVec.smod 64).toNat = 8 := by decide
  rw [BitVec.sshiftRight_eq', BitVec.toInt_sshiftRight, this]
  have e : (lN a).toBitVec.toInt = (a : Int) := pk_lT h
  rw [e, Int.shiftRight_eq_div_pow]
  rfl
theorem l_ushr {a : Nat} (h : a < 2 ^ 63) : ((Int64.toUInt64 (lN a) >>> ((Int32.toInt64 8).toUInt64 &&& Int64.toUInt64 63)).toInt64) = lN (a / 256) := by
  apply l_ext
  show ((Int64.toUInt64 (lN a) >>> ((Int32.toInt64 8).toUInt64 &&& Int64.toUInt64 63))).toBitVec.toNat = _
  rw [UInt64.toBitVec_shiftRight]
  have : (((Int32.toInt64 8).toUInt64 &&& Int64.toUInt64 63).toBitVec % 64).toNat = 8 := by decide
  rw [BitVec.ushiftRight_eq', BitVec.toNat_ushiftRight, this]
  have e : (Int64.toUInt64 (lN a)).toBitVec.toNat = a := l_tn (by omega)
  rw [e, Nat.shiftRight_eq_div_pow, Nat.mod_eq_of_lt (by omega)]
/-- keys below 256, as a number -/
def pkK (L : List Nat) : Nat := L.foldl (fun a b => a * 256 + b) 0
theorem pkK_app (L : List Nat) (b : Nat) : pkK (L ++ [b]) = pkK L * 256 + b := by
  unfold pkK
  rw [List.foldl_append]
  rfl
theorem pkK_lt : ∀ {L : List Nat}, (∀ b ∈ L, b < 256) → pkK L < 256 ^ L.length := by
  intro L
  induction hn : L.length generalizing L with
  | zero =>
    intro _
    have : L = [] := List.length_eq_zero_iff.mp hn
    subst this
    decide
  | succ n ih =>
    intro h
    obtain ⟨b, e⟩ : ∃ b, L = L.dropLast ++ [b] := ⟨L.getLast (by intro e; simp [e] at hn), (List.dropLast_concat_getLast _).symm⟩
    have hl : L.dropLast.length = n := by simp [hn]
    have h1 := ih hl (fun x hx => h x (List.dropLast_subset L hx))
    have h2 := h b (by rw [e]; simp)
    rw [e, pkK_app, Nat.pow_succ]
    omega
/-- the packed number of a list of cells -/
def pck (L : List Cl) : Nat := pkK (L.map (fun c => (ky c).toNat))
