/-! connected or not: the class and the reference -/
theorem shm_tab : ∀ c : Nat, c < 32 → ((iI (c : Int) &&& 31).toBitVec.smod 32).toNat = c := by decide +kernel
theorem bit_of {m c : Nat} (hm : m < 2147483648) (hc : c < 32) : ((nI m >>> (iI (c : Int) &&& 31)) &&& 1) = iI ((m / 2 ^ c % 2 : Nat) : Int) := by
  rw [nI_iI, iI_shr (by omega) (by omega) _ c (shm_tab c hc), iI_and _ 1 (by decide) (by decide)]
  congr 1
theorem bit_1 {m c : Nat} (hm : m < 2147483648) (hc : c < 32) : (((nI m >>> (iI (c : Int) &&& 31)) &&& 1) = 1) = (m.testBit c = true) := by
  rw [bit_of hm hc, li1, iI_eq (by omega) (by omega) (by omega) (by omega), Nat.testBit_eq_decide_div_mod_eq]
  apply propext
  rw [decide_eq_true_iff]
  omega
theorem bit_0 {m c : Nat} (hm : m < 2147483648) (hc : c < 32) : (((nI m >>> (iI (c : Int) &&& 31)) &&& 1) = 0) = (m.testBit c = false) := by
  rw [bit_of hm hc, li0, iI_eq (by omega) (by omega) (by omega) (by omega), Nat.testBit_eq_decide_div_mod_eq]
  apply propext
  rw [decide_eq_false_iff_not]
  omega
theorem bt_shl {j : Nat} (hj : j < 12) (i : Nat) : bt ((1 : Int32) <<< (iI (j : Int) &&& 31)) i = decide (j = i) := by
  rw [shl_tab j hj]
  by_cases h : i < 32
  · rw [bt_nI i h, Nat.testBit_two_pow]
  · rw [bt_big (by omega)]
    exact (decide_eq_false (by omega)).symm
set_option maxRecDepth 100000 in
theorem pop_full : ∀ m, m < 4096 → ∀ n, n < 13 → m < 2 ^ n → ((pop m = n) ↔ (m = 2 ^ n - 1)) := by decide +kernel
set_option maxRecDepth 100000 in
theorem pop_rng : ∀ m, m < 4096 → pop m < 13 := by decide +kernel
theorem full_bits {m n : Nat} (h : m < 2 ^ n) : m = 2 ^ n - 1 ↔ ∀ j, j < n → m.testBit j = true := by
  constructor
  · rintro rfl j hj
    rw [Nat.testBit_two_pow_sub_one]
    exact decide_eq_true hj
  · intro hall
    apply Nat.eq_of_testBit_eq
    intro i
    rw [Nat.testBit_two_pow_sub_one]
    by_cases hi : i < n
    · rw [hall i hi]
      exact (decide_eq_true hi).symm
    · rw [Nat.testBit_lt_two_pow (Nat.lt_of_lt_of_le h (Nat.pow_le_pow_right (by decide) (by omega)))]
      exact (decide_eq_false hi).symm
