/-! LAYER 3: whole numbers. Every int of the code is written as iI z (z : Int), every long as lI z. -/
def iI (z : Int) : Int32 := Int32.ofInt z
def lI (z : Int) : Int64 := Int64.ofInt z
theorem iI_lit (n : Nat) : (no_index (OfNat.ofNat n) : Int32) = iI (OfNat.ofNat n : Int) := by
  show Int32.ofNat n = Int32.ofInt (n : Int)
  exact (Int32.ofInt_eq_ofNat).symm
theorem lI_lit (n : Nat) : (no_index (OfNat.ofNat n) : Int64) = lI (OfNat.ofNat n : Int) := by
  show Int64.ofNat n = Int64.ofInt (n : Int)
  exact (Int64.ofInt_eq_ofNat).symm
theorem nI_iI (n : Nat) : nI n = iI n := (Int32.ofInt_eq_ofNat).symm
theorem oN_iI (n : Nat) : Int32.ofNat n = iI n := (Int32.ofInt_eq_ofNat).symm
theorem lN_lI (n : Nat) : lN n = lI n := (Int64.ofInt_eq_ofNat).symm
theorem iI_add (a b : Int) : iI a + iI b = iI (a + b) := (Int32.ofInt_add a b).symm
theorem iI_sub (a b : Int) : iI a - iI b = iI (a - b) := (Int32.ofInt_sub a b).symm
theorem iI_mul (a b : Int) : iI a * iI b = iI (a * b) := (Int32.ofInt_mul a b).symm
theorem iI_neg (a : Int) : -iI a = iI (-a) := (Int32.ofInt_neg a).symm
theorem iI_toInt {z : Int} (h1 : -2147483648 ≤ z) (h2 : z < 2147483648) : (iI z).toInt = z := Int32.toInt_ofInt_of_le h1 h2
theorem lI_toInt {z : Int} (h1 : -9223372036854775808 ≤ z) (h2 : z < 9223372036854775808) : (lI z).toInt = z := Int64.toInt_ofInt_of_le h1 h2
theorem iI_of (x : Int32) : iI x.toInt = x := Int32.ofInt_toInt x
theorem iI_ex (x : Int32) : ∃ z : Int, x = iI z ∧ -2147483648 ≤ z ∧ z < 2147483648 := ⟨x.toInt, (iI_of x).symm, Int32.le_toInt x, Int32.toInt_lt x⟩
theorem iI_lt {a b : Int} (a1 : -2147483648 ≤ a) (a2 : a < 2147483648) (b1 : -2147483648 ≤ b) (b2 : b < 2147483648) : (iI a < iI b) = (a < b) := by
  rw [Int32.lt_iff_toInt_lt, iI_toInt a1 a2, iI_toInt b1 b2]
theorem iI_eq {a b : Int} (a1 : -2147483648 ≤ a) (a2 : a < 2147483648) (b1 : -2147483648 ≤ b) (b2 : b < 2147483648) : (iI a = iI b) = (a = b) := by
  rw [← Int32.toInt_inj, iI_toInt a1 a2, iI_toInt b1 b2]
theorem lI_lt {a b : Int} (a1 : -9223372036854775808 ≤ a) (a2 : a < 9223372036854775808) (b1 : -9223372036854775808 ≤ b) (b2 : b < 9223372036854775808) : (lI a < lI b) = (a < b) := by
  rw [Int64.lt_iff_toInt_lt, lI_toInt a1 a2, lI_toInt b1 b2]
theorem lI_eq {a b : Int} (a1 : -9223372036854775808 ≤ a) (a2 : a < 9223372036854775808) (b1 : -9223372036854775808 ≤ b) (b2 : b < 9223372036854775808) : (lI a = lI b) = (a = b) := by
  rw [← Int64.toInt_inj, lI_toInt a1 a2, lI_toInt b1 b2]
theorem iI_ltT {a b : Int} (h : a < b) (a1 : -2147483648 ≤ a) (b2 : b < 2147483648) : iI a < iI b := by
  rw [iI_lt a1 (by omega) (by omega) b2]; exact h
theorem iI_ltF {a b : Int} (h : ¬ a < b) (b1 : -2147483648 ≤ b) (a2 : a < 2147483648) : ¬ iI a < iI b := by
  rw [iI_lt (by omega) a2 b1 (by omega)]; exact h
theorem iI_eqF {a b : Int} (h : ¬ a = b) (a1 : -2147483648 ≤ a) (a2 : a < 2147483648) (b1 : -2147483648 ≤ b) (b2 : b < 2147483648) : ¬ iI a = iI b := by
  rw [iI_eq a1 a2 b1 b2]; exact h
theorem iI_clamp {z : Int} (h1 : 0 ≤ z) (h2 : z < 2147483648) : (iI z).toNatClampNeg = z.toNat := by
  rw [show (iI z).toNatClampNeg = (iI z).toInt.toNat from rfl, iI_toInt (by omega) h2]
theorem z_get_iI {α : Type} {t : List α} {z : Int} (h1 : 0 ≤ z) (h2 : z < 2147483648) : z_get t (iI z) = t[z.toNat]? := by
  unfold z_get
  rw [show (0 : Int32) = iI 0 from rfl, if_neg (iI_ltF (by omega) (by omega) h2), iI_clamp h1 h2]
theorem z_set_iI {α : Type} {t : List α} {z : Int} {x : α} (h1 : 0 ≤ z) (h2 : z < 2147483648) (h3 : z.toNat < t.length) : z_set t (iI z) x = some (t.set z.toNat x) := by
  unfold z_set
  rw [show (0 : Int32) = iI 0 from rfl, if_neg (iI_ltF (by omega) (by omega) h2), iI_clamp h1 h2, if_pos h3]
theorem iI_bv (z : Int) : (iI z).toBitVec = BitVec.ofInt 32 z := rfl
theorem iI_shl (z : Int) (s : Int32) (k : Nat) (hs : (s.toBitVec.smod 32).toNat = k) : iI z <<< s = iI (z * 2 ^ k) := by
  apply Int32.toBitVec.inj
  apply BitVec.eq_of_toNat_eq
  rw [pk_shl _ _ k hs, iI_bv, iI_bv, BitVec.toNat_ofInt, BitVec.toNat_ofInt]
  have e1 : ((z % ((2 ^ 32 : Nat) : Int)).toNat : Int) = z % ((2 ^ 32 : Nat) : Int) := Int.toNat_of_nonneg (Int.emod_nonneg _ (by decide))
  apply Int.ofNat_inj.mp
  rw [Int.natCast_emod, Int.natCast_mul, e1, Int.toNat_of_nonneg (Int.emod_nonneg _ (by decide)), Int.natCast_pow]
  show z % 4294967296 * 2 ^ k % 4294967296 = z * 2 ^ k % 4294967296
  rw [Int.mul_emod, Int.emod_emod_of_dvd _ (Int.dvd_refl _), ← Int.mul_emod]
theorem iI_shr {z : Int} (h1 : -2147483648 ≤ z) (h2 : z < 2147483648) (s : Int32) (k : Nat) (hs : (s.toBitVec.smod 32).toNat = k) : iI z >>> s = iI (z / 2 ^ k) := by
  rw [← iI_of (iI z >>> s), pk_shr _ _ k hs, iI_toInt h1 h2, Int.shiftRight_eq_div_pow]
  rw [Int.natCast_pow]
  rfl
theorem iI_and {z : Int} (m : Int32) (k : Nat) (hm : m.toBitVec.toNat = 2 ^ k - 1) (hk : k ≤ 31) : iI z &&& m = iI (z % 2 ^ k) := by
  rw [pk_and _ k hm, nI_iI, iI_bv, BitVec.toNat_ofInt]
  congr 1
  rw [Int.natCast_emod, Int.toNat_of_nonneg (Int.emod_nonneg _ (by decide)), Int.natCast_pow]
  show z % ((2 ^ 32 : Nat) : Int) % 2 ^ k = z % 2 ^ k
  refine Int.emod_emod_of_dvd z ⟨2 ^ (32 - k), ?_⟩
  rw [← Int.pow_add, show k + (32 - k) = 32 by omega]
  rfl
theorem iI_div {a b : Int} (ha : 0 ≤ a) (ha2 : a < 2147483648) (hb : 0 < b) (hb2 : b < 2147483648) : iI a / iI b = iI (a / b) := by
  obtain ⟨m, rfl⟩ := Int.eq_ofNat_of_zero_le ha
  obtain ⟨n, rfl⟩ := Int.eq_ofNat_of_zero_le (Int.le_of_lt hb)
  rw [← nI_iI, ← nI_iI, pk_div (by omega) (by omega) (by omega), nI_iI]
  rfl
