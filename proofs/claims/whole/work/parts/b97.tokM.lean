/-! tokens of the reference -/
section
variable {N p b e : Nat} {S : List Int} {mt : List Int32} {ty : Int32}
theorem skipM (hN : 2000 ≤ N) (h : TX S mt ty) (hp : p ≤ S.length) : f_X12_token_L0 N mt ty N (iI p) = some (iI (tkB S p)) := by
  have h80 := h.1
  suffices hh : OK (f_X12_token_L0 N mt ty N (iI p)) (fun u => u = iI (tkB S p)) by
    obtain ⟨a, e, rfl⟩ := hh; exact e
  refine zlp1 (S.length - p) (fun i z => z = iI ((p + i : Nat) : Int) ∧ ∀ j, p ≤ j → j < p + i → S[j]? = some 32) ?_ N 0 _ (by omega) (by omega) ⟨rfl, fun j j1 j2 => by omega⟩
  rintro fu i z hi ⟨rfl, hs⟩ ih
  rw [f_X12_token_L0]
  have fin : S[p + i]? ≠ some 32 → OK (some (iI ((p + i : Nat) : Int))) (fun u => u = iI (tkB S p)) := fun hne => by
    rw [OK_some, (tkB_ok hp).uniq (⟨by omega, by omega, hs, hne⟩ : SK S p (p + i))]
  rcases Nat.lt_or_ge (p + i) S.length with g | g
  · obtain ⟨x, hx⟩ := gL g
    have hr := h.2.2.2 _ x hx
    rw [h.2.2.1, if_pos (iI_ltT (by omega) (by omega) (by omega)), h.g hx, Option.bind_some]
    by_cases e : x = 32
    · rw [if_pos (by rw [e]; rfl), iI_succ, ← h.2.2.1]
      refine ih (by omega) _ ⟨rfl, fun j j1 j2 => ?_⟩
      rcases Nat.lt_or_ge j (p + i) with g1 | g1
      · exact hs j j1 g1
      · rw [show j = p + i by omega, hx, e]
    · rw [if_neg (by rw [show (32 : Int32) = iI 32 from rfl]; exact iI_eqF e (by omega) (by omega) (by omega) (by omega))]
      exact fin (by rw [hx]; intro h; cases h; exact e rfl)
  · rw [h.2.2.1, if_neg (iI_ltF (by omega) (by omega) (by omega))]
    exact fin (by rw [List.getElem?_eq_none g]; simp)
theorem inLet {x : Int} (hx : 0 ≤ x ∧ x ≤ 255) : f_X12_in N (iI x) 97 122 = some (if 97 ≤ x ∧ x ≤ 122 then 1 else 0) := mIn (N := N) x 97 122 ⟨by omega, by omega⟩ ⟨by omega, by omega⟩ ⟨by omega, by omega⟩
theorem inDig {x : Int} (hx : 0 ≤ x ∧ x ≤ 255) : f_X12_in N (iI x) 48 57 = some (if 48 ≤ x ∧ x ≤ 57 then 1 else 0) := mIn (N := N) x 48 57 ⟨by omega, by omega⟩ ⟨by omega, by omega⟩ ⟨by omega, by omega⟩
theorem runM (hN : 2000 ≤ N) (h : TX S mt ty) (hp : p ≤ S.length) (he : LR S p e) : f_X12_token_L127 N mt ty 1 N (iI p) = some (iI e) := by
  have h80 := h.1
  suffices hh : OK (f_X12_token_L127 N mt ty 1 N (iI p)) (fun u => u = iI e) by
    obtain ⟨a, e, rfl⟩ := hh; exact e
  refine zlp1 (S.length - p) (fun i z => z = iI ((p + i : Nat) : Int) ∧ ∀ j, p ≤ j → j < p + i → ∃ x, S[j]? = some x ∧ isLt x) ?_ N 0 _ (by omega) (by omega) ⟨rfl, fun j j1 j2 => by omega⟩
  rintro fu i z hi ⟨rfl, hs⟩ ih
  rw [f_X12_token_L127, if_pos rfl]
  have fin : (∀ x, S[p + i]? = some x → ¬ isLt x) → OK (some (iI ((p + i : Nat) : Int))) (fun u => u = iI e) := fun hne => by
    rw [OK_some, he.uniq (⟨by omega, by omega, hs, hne⟩ : LR S p (p + i))]
  rcases Nat.lt_or_ge (p + i) S.length with g | g
  · obtain ⟨x, hx⟩ := gL g
    have hr := h.2.2.2 _ x hx
    rw [h.2.2.1, if_pos (iI_ltT (by omega) (by omega) (by omega)), h.g hx, Option.bind_some, inLet ⟨by omega, by omega⟩, Option.bind_some]
    by_cases e : 97 ≤ x ∧ x ≤ 122
    · rw [if_pos e, if_neg (show ¬ (1 : Int32) = 0 by decide), iI_succ, ← h.2.2.1]
      refine ih (by omega) _ ⟨rfl, fun j j1 j2 => ?_⟩
      rcases Nat.lt_or_ge j (p + i) with g1 | g1
      · exact hs j j1 g1
      · rw [show j = p + i by omega]; exact ⟨x, hx, e⟩
    · rw [if_neg e, if_pos rfl]
      refine fin (fun y hy => ?_)
      rw [hx] at hy; cases hy; exact e
  · rw [h.2.2.1, if_neg (iI_ltF (by omega) (by omega) (by omega))]
    exact fin (fun y hy => by rw [List.getElem?_eq_none g] at hy; cases hy)
theorem stayM (hN : 2000 ≤ N) {s z : Int32} (hs : s ≠ 1) : f_X12_token_L127 N mt ty s N z = some z := by
  obtain ⟨n, rfl⟩ := Nat.exists_eq_add_of_le' (show 1 ≤ N by omega)
  rw [f_X12_token_L127, if_neg hs]
theorem tokM (hN : 2000 ≤ N) (h : TX S mt ty) (hp : p ≤ S.length) : f_X12_token N mt ty (iI p) = some (iI (tkE S p), iI (tkB S p), iI (tkS S p : Nat)) := by
  have h80 := h.1
  have hb := tkB_ok hp
  have he := tkE_ok hp
  have hbd := tk_bd hp
  unfold f_X12_token
  rw [skipM hN h hp, Option.bind_some]
  rcases Nat.lt_or_ge (tkB S p) S.length with g | g
  · obtain ⟨x, hx⟩ := gL g
    have gx := getD_of hx
    have hr := h.2.2.2 _ x hx
    have hee : ¬ isLt x → tkE S p = tkB S p + 1 := fun hl => by
      rcases he with ⟨h1, _⟩ | ⟨y, h1, h2⟩
      · rw [hx] at h1; cases h1
      · rw [hx] at h1; cases h1
        rcases h2 with ⟨h2, _⟩ | ⟨_, h2⟩
        · exact absurd h2 hl
        · exact h2
    have hS : tkS S p = if 97 ≤ x ∧ x ≤ 122 then 1 else if 48 ≤ x ∧ x ≤ 57 then 2 else if x = 59 then 3 else 4 := by
      unfold tkS srF
      rw [if_neg (by omega), gx]
    have ceq : iI (tkB S p : Nat) < ty := by rw [h.2.2.1]; exact iI_ltT (by omega) (by omega) (by omega)
    rw [if_pos ceq, h.g hx, Option.bind_some, inLet ⟨by omega, by omega⟩, Option.bind_some, iI_succ]
    by_cases hl : 97 ≤ x ∧ x ≤ 122
    · have hLR : LR S (tkB S p + 1) (tkE S p) := by
        rcases he with ⟨h1, _⟩ | ⟨y, h1, h2⟩
        · rw [hx] at h1; cases h1
        · rw [hx] at h1; cases h1
          rcases h2 with ⟨_, h2⟩ | ⟨h2, _⟩
          · exact h2
          · exact absurd hl h2
      rw [if_pos hl] at hS
      rw [if_pos hl, if_neg (show ¬ (1 : Int32) = 0 by decide), runM hN h (by omega) hLR, Option.bind_some, hS]
      rfl
    · rw [if_neg hl] at hS
      rw [if_neg hl, if_pos rfl, inDig ⟨by omega, by omega⟩, Option.bind_some, hee hl]
      by_cases hd : 48 ≤ x ∧ x ≤ 57
      · rw [if_pos hd] at hS
        rw [if_pos hd, if_neg (show ¬ (1 : Int32) = 0 by decide), stayM hN (by decide), Option.bind_some, hS]
        rfl
      · rw [if_neg hd] at hS
        rw [if_neg hd, if_pos rfl]
        by_cases h9 : x = 59
        · rw [if_pos h9] at hS
          rw [if_pos (by rw [h9]; rfl), stayM hN (by decide), Option.bind_some, hS]
          rfl
        · rw [if_neg h9] at hS
          rw [if_neg (by rw [show (59 : Int32) = iI 59 from rfl]; exact iI_eqF h9 (by omega) (by omega) (by omega) (by omega)), stayM hN (by decide), Option.bind_some, hS]
          rfl
  · have e0 : tkB S p = S.length := by omega
    have e1 : tkE S p = S.length := by omega
    rw [if_neg (by rw [h.2.2.1]; exact iI_ltF (by omega) (by omega) (by omega)), e1, e0]
    have hS : tkS S p = 0 := by unfold tkS srF; rw [if_pos (by omega)]
    rw [hS]
    rfl
/-- sorts and kinds -/
theorem sk_0 (hp : p ≤ S.length) : tkS S p = 0 ↔ tkK S p = 0 := by
  rw [(tk_bd hp).2.2.2.2]
  have h1 := (tkB_ok hp).2.1
  unfold tkS srF
  constructor
  · intro h
    by_cases g : S.length ≤ tkB S p
    · omega
    · rw [if_neg g] at h
      split at h
      · omega
      · split at h
        · omega
        · split at h <;> omega
  · intro h
    rw [if_pos (by omega)]
theorem sk_2 : tkS S p = 2 ↔ tkK S p = 3 := by
  unfold tkS srF tkK kdF
  by_cases g : S.length ≤ tkB S p
  · rw [if_pos g, if_pos g]; omega
  rw [if_neg g, if_neg g]
  generalize S.getD (tkB S p) 0 = x
  by_cases g1 : 48 ≤ x ∧ x ≤ 57
  · rw [if_neg (by omega), if_pos g1, if_pos g1]; omega
  · rw [if_neg g1, if_neg g1]
    constructor
    · intro h
      split at h
      · omega
      · split at h <;> omega
    · intro h
      split at h
      · omega
      · split at h
        · split at h
          · omega
          · split at h <;> omega
        · omega
theorem sk_3 : tkS S p = 3 ↔ tkK S p = 4 := by
  unfold tkS srF tkK kdF
  by_cases g : S.length ≤ tkB S p
  · rw [if_pos g, if_pos g]; omega
  rw [if_neg g, if_neg g]
  generalize S.getD (tkB S p) 0 = x
  by_cases g1 : x = 59
  · rw [if_neg (by omega), if_neg (by omega), if_pos g1, if_neg (by omega), if_pos g1]; omega
  · rw [if_neg g1, if_neg g1]
    constructor
    · intro h
      split at h
      · omega
      · split at h <;> omega
    · intro h
      split at h
      · omega
      · split at h
        · split at h
          · omega
          · split at h <;> omega
        · omega
/-- a word, as the reference asks for it -/
theorem wordM (h : TX S mt ty) (hp : p ≤ S.length) {x y : Int} (hx : isLt x) (hy : 1 ≤ y ∧ y ≤ 255) : f_X12_isWord N (iI x) (iI y) mt (iI (tkE S p)) (iI (tkB S p)) (iI (tkS S p : Nat)) = some (if tkE S p = tkB S p + 2 ∧ S.getD (tkB S p) 0 = x ∧ S.getD (tkB S p + 1) 0 = y then 1 else 0) := by
  have h80 := h.1
  have hbd := tk_bd hp
  have hx' : 97 ≤ x ∧ x ≤ 122 := hx
  have r1 := ch_rng h (i := tkB S p)
  unfold f_X12_isWord
  have hS4 : tkS S p ≤ 4 := by
    unfold tkS srF
    split
    · omega
    · split
      · omega
      · split
        · omega
        · split <;> omega
  by_cases g : tkS S p = 1
  · have g1 : tkB S p < S.length := by
      rcases Nat.lt_or_ge (tkB S p) S.length with g1 | g1
      · exact g1
      · unfold tkS srF at g; rw [if_pos g1] at g; omega
    obtain ⟨c, hc⟩ := gL g1
    have gc := getD_of hc
    have hcr := h.2.2.2 _ c hc
    have e2 : (2 : Int32) = iI 2 := rfl
    rw [if_pos (by rw [g]; rfl), e2, iI_add]
    by_cases g2 : tkE S p = tkB S p + 2
    · obtain ⟨c2, hc2⟩ := gL (show tkB S p + 1 < S.length by omega)
      have gc2 := getD_of hc2
      have hcr2 := h.2.2.2 _ c2 hc2
      rw [if_pos (iIeq (by omega)), h.g hc, Option.bind_some, iI_succ]
      by_cases g3 : c = x
      · rw [if_pos (by rw [g3]), h.g hc2, Option.bind_some]
        by_cases g4 : c2 = y
        · rw [if_pos (by rw [g4]), if_pos ⟨g2, by rw [gc]; exact g3, by rw [gc2]; exact g4⟩]
        · rw [if_neg (iI_eqF g4 (by omega) (by omega) (by omega) (by omega)), if_neg (fun hh => g4 (by rw [← gc2]; exact hh.2.2))]
      · rw [if_neg (iI_eqF g3 (by omega) (by omega) (by omega) (by omega)), if_neg (fun hh => g3 (by rw [← gc]; exact hh.2.1))]
    · rw [if_neg (iI_eqF (by omega) (by omega) (by omega) (by omega) (by omega)), if_neg (fun hh => g2 hh.1)]
  · rw [if_neg (by rw [li1]; exact iI_eqF (by omega) (by omega) (by omega) (by omega) (by omega)), if_neg]
    rintro ⟨h1, h2, h3⟩
    apply g
    unfold tkS srF
    rw [if_neg (by omega), if_pos (by rw [h2]; exact hx)]
theorem kd_1 (hp : p ≤ S.length) : tkK S p = 1 ↔ (tkE S p = tkB S p + 2 ∧ S.getD (tkB S p) 0 = 97 ∧ S.getD (tkB S p + 1) 0 = 116) := by
  have hbd := tk_bd hp
  unfold tkK kdF
  by_cases g : S.length ≤ tkB S p
  · rw [if_pos g]
    constructor
    · intro h; omega
    · intro h; omega
  rw [if_neg g]
  generalize S.getD (tkB S p) 0 = x
  constructor
  · intro h
    split at h
    · omega
    · split at h
      · omega
      · split at h
        · split at h
          · assumption
          · split at h <;> omega
        · omega
  · rintro ⟨h1, h2, h3⟩
    rw [if_neg (by omega), if_neg (by omega), if_pos (by omega), if_pos ⟨h1, h2, h3⟩]
theorem kd_2 (hp : p ≤ S.length) : tkK S p = 2 ↔ (tkE S p = tkB S p + 2 ∧ S.getD (tkB S p) 0 = 103 ∧ S.getD (tkB S p + 1) 0 = 111) := by
  have hbd := tk_bd hp
  unfold tkK kdF
  by_cases g : S.length ≤ tkB S p
  · rw [if_pos g]
    constructor
    · intro h; omega
    · intro h; omega
  rw [if_neg g]
  generalize S.getD (tkB S p) 0 = x
  constructor
  · intro h
    split at h
    · omega
    · split at h
      · omega
      · split at h
        · split at h
          · omega
          · split at h
            · assumption
            · omega
        · omega
  · rintro ⟨h1, h2, h3⟩
    rw [if_neg (by omega), if_neg (by omega), if_pos (by omega), if_neg (by omega), if_pos ⟨h1, h2, h3⟩]
/-- a digit -/
theorem tkD_rng (hp : p ≤ S.length) (h : tkK S p = 3) : 0 ≤ tkD S p ∧ tkD S p ≤ 9 ∧ tkB S p < S.length := by
  have hbd := tk_bd hp
  have h1 : tkB S p < S.length := by
    have h2 := (tkB_ok hp).2.1
    rcases Nat.lt_or_ge (tkB S p) S.length with g | g
    · exact g
    · have := hbd.2.2.2.2.mpr (by omega); omega
  have h3 : 48 ≤ S.getD (tkB S p) 0 ∧ S.getD (tkB S p) 0 ≤ 57 := by
    unfold tkK kdF at h
    rw [if_neg (by omega)] at h
    by_cases g : 48 ≤ S.getD (tkB S p) 0 ∧ S.getD (tkB S p) 0 ≤ 57
    · exact g
    · rw [if_neg g] at h
      split at h
      · omega
      · split at h
        · split at h
          · omega
          · split at h <;> omega
        · omega
  unfold tkD
  omega
theorem digM (hN : 2000 ≤ N) (h : TX S mt ty) (hp : p ≤ S.length) {m : Int} (hm : 0 ≤ m ∧ m ≤ 9) : f_X12_digit N (iI m) mt ty (iI p) = some (if tkK S p = 3 ∧ tkD S p ≤ m then iI (tkD S p) else iI (-1), iI (tkE S p), iI (tkB S p), iI (tkS S p : Nat)) := by
  have h80 := h.1
  have hbd := tk_bd hp
  have hS4 : tkS S p ≤ 4 := by
    unfold tkS srF
    split
    · omega
    · split
      · omega
      · split
        · omega
        · split <;> omega
  unfold f_X12_digit
  rw [tokM hN h hp, Option.bind_some]
  by_cases g : tkK S p = 3
  · have hr := tkD_rng hp g
    obtain ⟨x, hx⟩ := gL hr.2.2
    have gx := getD_of hx
    have hd : x - 48 = tkD S p := by unfold tkD; rw [gx]
    rw [if_pos (by rw [sk_2.mpr g]; rfl), h.g hx, Option.bind_some, show (48 : Int32) = iI 48 from rfl, iI_sub, hd]
    by_cases g2 : m < tkD S p
    · rw [if_pos (iI_ltT g2 (by omega) (by omega)), if_neg (by omega)]; rfl
    · rw [if_neg (iI_ltF g2 (by omega) (by omega)), if_pos ⟨g, by omega⟩]
  · rw [if_neg (by rw [li2]; exact iI_eqF (fun hh => g (sk_2.mp (by omega))) (by omega) (by omega) (by omega) (by omega)), if_neg (by rw [show (-1 : Int32) = iI (-1) from rfl]; exact iI_ltF (by omega) (by omega) (by omega)), if_neg (fun hh => g hh.1)]
    rfl
end
