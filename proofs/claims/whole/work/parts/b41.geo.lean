/-- a cell: q, r, t -/
abbrev Cl : Type := Int × Int × Int
def cd (c : Cl) : Int := (c.2.1 + 32) * 128 + (c.1 + 32) * 2 + c.2.2
def cI (c : Cl) : Int32 := iI (cd c)
/-- within the range of the codes -/
def ok32 (c : Cl) : Prop := -32 ≤ c.1 ∧ c.1 < 32 ∧ -32 ≤ c.2.1 ∧ c.2.1 < 32 ∧ 0 ≤ c.2.2 ∧ c.2.2 < 2
theorem cd_inj {a b : Cl} (ha : ok32 a) (hb : ok32 b) (h : cd a = cd b) : a = b := by
  obtain ⟨q, r, t⟩ := a
  obtain ⟨q', r', t'⟩ := b
  simp only [ok32, cd] at ha hb h
  have h1 : q = q' := by omega
  have h2 : r = r' := by omega
  have h3 : t = t' := by omega
  rw [h1, h2, h3]
theorem cd_rng {a : Cl} (ha : ok32 a) : 0 ≤ cd a ∧ cd a < 8192 := by
  obtain ⟨q, r, t⟩ := a
  simp only [ok32, cd] at ha ⊢
  omega
theorem codeOf_eq (N : Nat) (q r t : Int) : f_X2_codeOf N (iI q) (iI r) (iI t) = some (cI (q, r, t)) := by
  show some ((((iI r + iI 32) <<< ((7 : Int32) &&& 31)) + ((iI q + iI 32) <<< ((1 : Int32) &&& 31))) + iI t) = _
  rw [iI_add, iI_add, iI_shl _ _ 7 (by decide), iI_shl _ _ 1 (by decide), iI_add, iI_add]
  rfl
theorem keyOf_eq (N : Nat) (q r t : Int) : f_X2_keyOf N (iI q) (iI r) (iI t) = some (iI (20 * r + 2 * q + t)) := by
  show some (((iI 20 * iI r) + (iI 2 * iI q)) + iI t) = _
  rw [iI_mul, iI_mul, iI_add, iI_add]
section
variable {N : Nat} {i n : Int} {T : List Int32} {c : Cl}
theorem qAt_eq (h0 : 0 ≤ i) (h1 : i < n) (hn : n < 2147483648) (ht : T[i.toNat]? = some (cI c)) (hc : ok32 c) : f_X2_qAt N (iI i) T (iI n) = some (iI c.1) := by
  unfold f_X2_qAt
  rw [show (0 : Int32) = iI 0 from rfl, if_neg (iI_ltF (by omega) (by omega) (by omega)), if_pos (iI_ltT h1 (by omega) (by omega)), z_get_iI h0 (by omega), ht]
  show some (((iI (cd c) >>> ((1 : Int32) &&& 31)) &&& 63) - iI 32) = _
  have := cd_rng hc
  rw [iI_shr (by omega) (by omega) _ 1 (by decide), iI_and _ 6 (by decide) (by decide), iI_sub]
  congr 2
  obtain ⟨q, r, t⟩ := c
  simp only [ok32, cd] at hc ⊢
  omega
theorem rAt_eq (h0 : 0 ≤ i) (h1 : i < n) (hn : n < 2147483648) (ht : T[i.toNat]? = some (cI c)) (hc : ok32 c) : f_X2_rAt N (iI i) T (iI n) = some (iI c.2.1) := by
  unfold f_X2_rAt
  rw [show (0 : Int32) = iI 0 from rfl, if_neg (iI_ltF (by omega) (by omega) (by omega)), if_pos (iI_ltT h1 (by omega) (by omega)), z_get_iI h0 (by omega), ht]
  show some ((iI (cd c) >>> ((7 : Int32) &&& 31)) - iI 32) = _
  have := cd_rng hc
  rw [iI_shr (by omega) (by omega) _ 7 (by decide), iI_sub]
  congr 2
  obtain ⟨q, r, t⟩ := c
  simp only [ok32, cd] at hc ⊢
  omega
theorem tAt_eq (h0 : 0 ≤ i) (h1 : i < n) (hn : n < 2147483648) (ht : T[i.toNat]? = some (cI c)) (hc : ok32 c) : f_X2_tAt N (iI i) T (iI n) = some (iI c.2.2) := by
  unfold f_X2_tAt
  rw [show (0 : Int32) = iI 0 from rfl, if_neg (iI_ltF (by omega) (by omega) (by omega)), if_pos (iI_ltT h1 (by omega) (by omega)), z_get_iI h0 (by omega), ht]
  show some (iI (cd c) &&& 1) = _
  rw [iI_and _ 1 (by decide) (by decide)]
  congr 2
  obtain ⟨q, r, t⟩ := c
  simp only [ok32, cd] at hc ⊢
  omega
theorem keyAt_eq (h0 : 0 ≤ i) (h1 : i < n) (hn : n < 2147483648) (ht : T[i.toNat]? = some (cI c)) (hc : ok32 c) : f_X2_keyAt N (iI i) T (iI n) = some (iI (20 * c.2.1 + 2 * c.1 + c.2.2)) := by
  unfold f_X2_keyAt
  rw [qAt_eq h0 h1 hn ht hc, rAt_eq h0 h1 hn ht hc, tAt_eq h0 h1 hn ht hc]
  show ((f_X2_keyOf N (iI c.1) (iI c.2.1) (iI c.2.2)).bind fun u4 => some u4) = _
  rw [keyOf_eq]
  rfl
end
