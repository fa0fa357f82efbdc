/-! what the checks of the blocks give -/
section
variable {n P f g o c s m k w h M : Nat} {l : List Nat}
theorem cn_dp : ∀ (f g o c s : Nat), Ea n P f g o c = true → g < s → cn P f o c s = 0
  | 0, g, o, c, s, he, h => rfl
  | f + 1, g, o, c, s, he, h => by
    by_cases h0 : o = 0
    · rw [h0, cn_z]
    · obtain ⟨g1, _, _, g4, g5⟩ := Ea_s h0 he
      rw [cn_s h0, cn_dp f g _ c s g4 h]
      obtain ⟨y, rfl⟩ : ∃ y, s = y + 1 := ⟨s - 1, by omega⟩
      show 0 + ((if y = 0 then 1 else 0) + cn P f (ocf P o c) (ccf P o c) y) = 0
      rw [if_neg (by omega), cn_dp f (g - 1) _ _ y g5 (by omega)]
theorem ctT_dp (hm : 1 ≤ m) : ∀ (n : Nat), EtA m P n = true → ∀ s, m < s → ctT P n s = 0
  | 0, _, s, _ => rfl
  | n + 1, h, s, hs => by
    obtain ⟨h1, h2⟩ := EtA_s h
    show ctT P n s + upZ (cn P 41 (o1 P n) (c1 P n)) s = 0
    rw [ctT_dp hm n h1 s hs]
    obtain ⟨y, rfl⟩ : ∃ y, s = y + 1 := ⟨s - 1, by omega⟩
    show 0 + ((if y = 0 then 1 else 0) + cn P 41 (o1 P n) (c1 P n) y) = 0
    rw [if_neg (by omega), cn_dp 41 (m - 1) _ _ y h2 (by omega)]
theorem ctT_0 : ∀ (n : Nat), ctT P n 0 = 0
  | 0 => rfl
  | n + 1 => by
    show ctT P n 0 + 0 = 0
    rw [ctT_0 n]
theorem pk1_le {K : Nat} : ∀ (M : Nat) (a : Nat → Nat), (∀ s, a s ≤ K) → pk 1 M a ≤ M * K
  | 0, _, _ => by show 0 ≤ _; omega
  | M + 1, a, h => by
    have h1 := pk1_le M (fun s => a (s + 1)) (fun s => h (s + 1))
    have h2 := h 0
    show a 0 + 1 * pk 1 M (fun s => a (s + 1)) ≤ (M + 1) * K
    have h3 : (M + 1) * K = M * K + K := Nat.succ_mul M K
    omega
theorem Et1_lt (hn : n ≤ 20) : Et 1 P n < 18446744073709551616 := by
  rw [← ctT_pk (B := 1) (M := 43) (by omega)]
  have h3 : n * 2199023255552 ≤ 20 * 2199023255552 := Nat.mul_le_mul_right _ hn
  have h := pk1_le (K := 20 * 2199023255552) 43 (ctT P n) (fun s => Nat.le_trans (ctT_lt n s) h3)
  omega
theorem smN_c (x : Nat) (t : List Nat) : ∀ m, smN (x :: t) (m + 1) = x + smN t m
  | 0 => by show 0 + x = x + 0; omega
  | m + 1 => by
    rw [smN, smN_c x t m, smN]
    show x + smN t m + gl t m = x + (smN t m + gl t m)
    omega
theorem smN_pk : ∀ (l : List Nat) (m : Nat), (∀ s, m ≤ s → gl l s = 0) → smN l m = pkL 1 l
  | [], m, h => by
    have : ∀ m, smN [] m = 0 := by
      intro m
      induction m with
      | zero => rfl
      | succ m ih => rw [smN, ih]; rfl
    rw [this]; rfl
  | x :: t, 0, h => by
    have h0 : x = 0 := h 0 (by omega)
    have := smN_pk t 0 (fun s _ => h (s + 1) (by omega))
    show 0 = x + 1 * pkL 1 t
    rw [← this, h0]
    rfl
  | x :: t, m + 1, h => by
    rw [smN_c, smN_pk t m (fun s hs => h (s + 1) (by omega))]
    show x + pkL 1 t = x + 1 * pkL 1 t
    omega
end
