/-! the lattice -/
def gQ (k : Nat) (t d : Int) : Int := if k = 1 then (if d = 1 then (if t = 0 then -1 else 1) else 0) else if k = 0 then (if d = 0 then 1 else if d = 2 then -1 else 0) else (if d = 0 ∨ d = 5 then 1 else if d = 2 ∨ d = 3 then -1 else 0)
def gR (k : Nat) (t d : Int) : Int := if k = 1 then (if d = 2 then (if t = 0 then -1 else 1) else 0) else if k = 0 then (if d = 1 then 1 else if d = 3 then -1 else 0) else (if d = 1 ∨ d = 2 then 1 else if d = 4 ∨ d = 5 then -1 else 0)
def gT (k : Nat) (t : Int) : Int := if k = 1 then 1 - t else 0
def dg (k : Nat) : Nat := if k = 0 then 4 else if k = 1 then 3 else 6
def kin (k : Nat) : Int := if k = 1 then 2 else 1
def nb (k : Nat) (c : Cl) (d : Int) : Cl := (c.1 + gQ k c.2.2 d, c.2.1 + gR k c.2.2 d, gT k c.2.2)
/-- t is allowed in lattice k -/
def okT (k : Nat) (t : Int) : Prop := t = 0 ∨ (k = 1 ∧ t = 1)
theorem gQ_rng (k : Nat) (t d : Int) : -1 ≤ gQ k t d ∧ gQ k t d ≤ 1 := by
  unfold gQ
  repeat' split
  all_goals omega
theorem gR_rng (k : Nat) (t d : Int) : -1 ≤ gR k t d ∧ gR k t d ≤ 1 := by
  unfold gR
  repeat' split
  all_goals omega
theorem gT_ok {k : Nat} {t : Int} (h : okT k t) : okT k (gT k t) := by
  unfold gT okT at *
  split <;> rcases h with h | h <;> omega
theorem zdeg_eq {k : Nat} : zdeg k = iI (dg k) := by
  unfold zdeg dg
  repeat' split
  all_goals rfl
theorem zkin_eq {k : Nat} : zkin k = iI (kin k) := by
  unfold zkin kin
  split <;> rfl
theorem nbh {x : Int32} {q g : Int} (h : x = iI g) : some (iI q + x) = some (iI (q + g)) := by rw [h, iI_add]
section
variable {N k : Nat}
theorem hasKey_eq {q r t : Int} (hq : -2147483648 ≤ q ∧ q < 2147483648) (hr : -2147483648 ≤ r ∧ r < 2147483648) (ht : -2147483648 ≤ t ∧ t < 2147483648) : f_X6_hasKey N (iI q) (iI r) (iI t) k = some (if 0 ≤ q ∧ q < 10 ∧ 0 ≤ r ∧ r < 10 ∧ 0 ≤ t ∧ t < kin k then 1 else 0) := by
  have hkin : kin k = 1 ∨ kin k = 2 := by unfold kin; split <;> omega
  unfold f_X6_hasKey
  rw [zkin_eq, show (0 : Int32) = iI 0 from rfl, show (10 : Int32) = iI 10 from rfl]
  by_cases h1 : q < 0
  · rw [if_pos (iI_ltT h1 (by omega) (by omega)), if_neg (by omega)]
  rw [if_neg (iI_ltF h1 (by omega) (by omega))]
  by_cases h2 : q < 10
  case neg => rw [if_neg (iI_ltF h2 (by omega) (by omega)), if_neg (by omega)]
  rw [if_pos (iI_ltT h2 (by omega) (by omega))]
  by_cases h3 : r < 0
  · rw [if_pos (iI_ltT h3 (by omega) (by omega)), if_neg (by omega)]
  rw [if_neg (iI_ltF h3 (by omega) (by omega))]
  by_cases h4 : r < 10
  case neg => rw [if_neg (iI_ltF h4 (by omega) (by omega)), if_neg (by omega)]
  rw [if_pos (iI_ltT h4 (by omega) (by omega))]
  by_cases h5 : t < 0
  · rw [if_pos (iI_ltT h5 (by omega) (by omega)), if_neg (by omega)]
  rw [if_neg (iI_ltF h5 (by omega) (by omega))]
  by_cases h6 : t < kin k
  · rw [if_pos (iI_ltT h6 (by omega) (by omega)), if_pos ⟨by omega, h2, by omega, h4, by omega, h6⟩]
  · rw [if_neg (iI_ltF h6 (by omega) (by omega)), if_neg (fun q => h6 q.2.2.2.2.2)]
theorem neighbourT_eq {t : Int} (ht : okT k t) : f_X6_neighbourT N (iI t) k = some (iI (gT k t)) := by
  unfold f_X6_neighbourT
  rw [zkin_eq, show (1 : Int32) = iI 1 from rfl, iI_sub, iI_sub]
  congr 2
  unfold kin gT
  rcases ht with h | ⟨h, h2⟩
  · split <;> omega
  · rw [if_pos h, if_pos h]; omega
theorem neighbour_eq {q t d : Int} (hk : k < 3) (ht : okT k t) (hd : 0 ≤ d) (hd2 : d < dg k) : f_X6_neighbourQ N (iI q) (iI t) (iI d) k = some (iI (q + gQ k t d)) ∧ f_X6_neighbourR N (iI q) (iI t) (iI d) k = some (iI (q + gR k t d)) := by
  unfold f_X6_neighbourQ f_X6_neighbourR
  rcases (show k = 0 ∨ k = 1 ∨ k = 2 by omega) with rfl | rfl | rfl
  · rcases ht with rfl | ⟨h, -⟩
    · rw [show dg 0 = 4 from rfl] at hd2
      rcases (show d = 0 ∨ d = 1 ∨ d = 2 ∨ d = 3 by omega) with rfl | rfl | rfl | rfl
      all_goals exact ⟨nbh (by decide), nbh (by decide)⟩
    · omega
  · rw [show dg 1 = 3 from rfl] at hd2
    rcases ht with rfl | ⟨-, rfl⟩
    all_goals
      rcases (show d = 0 ∨ d = 1 ∨ d = 2 by omega) with rfl | rfl | rfl
      all_goals exact ⟨nbh (by decide), nbh (by decide)⟩
  · rcases ht with rfl | ⟨h, -⟩
    · rw [show dg 2 = 6 from rfl] at hd2
      rcases (show d = 0 ∨ d = 1 ∨ d = 2 ∨ d = 3 ∨ d = 4 ∨ d = 5 by omega) with rfl | rfl | rfl | rfl | rfl | rfl
      all_goals exact ⟨nbh (by decide), nbh (by decide)⟩
    · omega
end
