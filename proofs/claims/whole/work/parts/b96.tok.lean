/-! tokens of a text -/
def isLt (x : Int) : Prop := 97 ≤ x ∧ x ≤ 122
def isDg (x : Int) : Prop := 48 ≤ x ∧ x ≤ 57
/-- behind the spaces -/
def SK (S : List Int) (p b : Nat) : Prop := p ≤ b ∧ b ≤ S.length ∧ (∀ i, p ≤ i → i < b → S[i]? = some 32) ∧ S[b]? ≠ some 32
/-- behind the letters -/
def LR (S : List Int) (p e : Nat) : Prop := p ≤ e ∧ e ≤ S.length ∧ (∀ i, p ≤ i → i < e → ∃ x, S[i]? = some x ∧ isLt x) ∧ ∀ x, S[e]? = some x → ¬ isLt x
def TE (S : List Int) (b e : Nat) : Prop := (S[b]? = none ∧ e = b) ∨ ∃ x, S[b]? = some x ∧ ((isLt x ∧ LR S (b + 1) e) ∨ (¬ isLt x ∧ e = b + 1))
def WD (S : List Int) (b e : Nat) (x y : Int) : Prop := e = b + 2 ∧ S[b]? = some x ∧ S[b + 1]? = some y
section
variable {N p b e b' e' : Nat} {S : List Int} {tc mt : List Int32} {tl ty dg0 : Int32}
theorem SK.uniq (h : SK S p b) (h' : SK S p b') : b = b' := by
  rcases Nat.lt_or_ge b b' with g | g
  · exact absurd (h'.2.2.1 b h.1 g) h.2.2.2
  · rcases Nat.lt_or_ge b' b with g2 | g2
    · exact absurd (h.2.2.1 b' h'.1 g2) h'.2.2.2
    · omega
theorem LR.uniq (h : LR S p e) (h' : LR S p e') : e = e' := by
  rcases Nat.lt_or_ge e e' with g | g
  · obtain ⟨x, h1, h2⟩ := h'.2.2.1 e h.1 g
    exact absurd h2 (h.2.2.2 x h1)
  · rcases Nat.lt_or_ge e' e with g2 | g2
    · obtain ⟨x, h1, h2⟩ := h.2.2.1 e' h'.1 g2
      exact absurd h2 (h'.2.2.2 x h1)
    · omega
theorem TE.uniq (h : TE S b e) (h' : TE S b e') : e = e' := by
  rcases h with ⟨h1, h2⟩ | ⟨x, h1, h2⟩
  · rcases h' with ⟨g1, g2⟩ | ⟨y, g1, g2⟩
    · omega
    · rw [h1] at g1; cases g1
  · rcases h' with ⟨g1, g2⟩ | ⟨y, g1, g2⟩
    · rw [h1] at g1; cases g1
    · rw [h1] at g1
      cases g1
      rcases h2 with ⟨h2, h3⟩ | ⟨h2, h3⟩
      · rcases g2 with ⟨g2, g3⟩ | ⟨g2, g3⟩
        · exact h3.uniq g3
        · exact absurd h2 g2
      · rcases g2 with ⟨g2, g3⟩ | ⟨g2, g3⟩
        · exact absurd g2 h2
        · omega
theorem TE.bd (hb : b ≤ S.length) (h : TE S b e) : b ≤ e ∧ e ≤ S.length ∧ (b < S.length → b < e) := by
  rcases h with ⟨h1, h2⟩ | ⟨x, h1, h2⟩
  · have := List.getElem?_eq_none_iff.mp h1
    omega
  · have := lt_of_get h1
    rcases h2 with ⟨_, h2, h3, _⟩ | ⟨_, h2⟩ <;> omega
/-- the text on both sides -/
def TX (S : List Int) (tc : List Int32) (tl : Int32) : Prop := S.length ≤ 80 ∧ tc.length = 80 ∧ tl = iI S.length ∧ ∀ (i : Nat) (x : Int), S[i]? = some x → tc[i]? = some (iI x) ∧ 1 ≤ x ∧ x ≤ 255
theorem TX.g (h : TX S tc tl) {i : Nat} {x : Int} (hx : S[i]? = some x) : z_get tc (iI (i : Int)) = some (iI x) := gI (h.2.2.2 i x hx).1 (by rw [h.2.1]; decide)
theorem SK_ex : ∀ (m p : Nat), p + m = S.length → ∃ b, SK S p b
  | 0, p, h => ⟨p, Nat.le_refl _, by omega, fun i h1 h2 => by omega, by rw [List.getElem?_eq_none (by omega)]; simp⟩
  | m + 1, p, h => by
    by_cases e : S[p]? = some 32
    · obtain ⟨b, h1, h2, h3, h4⟩ := SK_ex m (p + 1) (by omega)
      refine ⟨b, by omega, h2, fun i i1 i2 => ?_, h4⟩
      rcases Nat.lt_or_ge p i with g | g
      · exact h3 i g i2
      · rw [show i = p by omega]; exact e
    · exact ⟨p, Nat.le_refl _, by omega, fun i h1 h2 => by omega, e⟩
theorem LR_ex : ∀ (m p : Nat), p + m = S.length → ∃ e, LR S p e
  | 0, p, h => ⟨p, Nat.le_refl _, by omega, fun i h1 h2 => by omega, fun x hx => by rw [List.getElem?_eq_none (by omega)] at hx; cases hx⟩
  | m + 1, p, h => by
    obtain ⟨x, hx⟩ := gL (show p < S.length by omega)
    by_cases e : isLt x
    · obtain ⟨b, h1, h2, h3, h4⟩ := LR_ex m (p + 1) (by omega)
      refine ⟨b, by omega, h2, fun i i1 i2 => ?_, h4⟩
      rcases Nat.lt_or_ge p i with g | g
      · exact h3 i g i2
      · rw [show i = p by omega]; exact ⟨x, hx, e⟩
    · refine ⟨p, Nat.le_refl _, by omega, fun i h1 h2 => by omega, fun y hy => ?_⟩
      rw [hx] at hy; cases hy; exact e
theorem TE_ex (hb : b ≤ S.length) : ∃ e, TE S b e := by
  rcases Nat.lt_or_ge b S.length with g | g
  · obtain ⟨x, hx⟩ := gL g
    by_cases e : isLt x
    · obtain ⟨e', he⟩ := LR_ex (S := S) (S.length - (b + 1)) (b + 1) (by omega)
      exact ⟨e', Or.inr ⟨x, hx, Or.inl ⟨e, he⟩⟩⟩
    · exact ⟨b + 1, Or.inr ⟨x, hx, Or.inr ⟨e, rfl⟩⟩⟩
  · exact ⟨b, Or.inl ⟨List.getElem?_eq_none g, rfl⟩⟩
noncomputable def tkB (S : List Int) (p : Nat) : Nat := Classical.epsilon (SK S p)
noncomputable def tkE (S : List Int) (p : Nat) : Nat := Classical.epsilon (TE S (tkB S p))
def kdF (S : List Int) (b e : Nat) : Nat := if S.length ≤ b then 0 else if 48 ≤ S.getD b 0 ∧ S.getD b 0 ≤ 57 then 3 else if S.getD b 0 = 59 then 4 else if 97 ≤ S.getD b 0 ∧ S.getD b 0 ≤ 122 then (if e = b + 2 ∧ S.getD b 0 = 97 ∧ S.getD (b + 1) 0 = 116 then 1 else if e = b + 2 ∧ S.getD b 0 = 103 ∧ S.getD (b + 1) 0 = 111 then 2 else 5) else 5
def srF (S : List Int) (b : Nat) : Nat := if S.length ≤ b then 0 else if 97 ≤ S.getD b 0 ∧ S.getD b 0 ≤ 122 then 1 else if 48 ≤ S.getD b 0 ∧ S.getD b 0 ≤ 57 then 2 else if S.getD b 0 = 59 then 3 else 4
noncomputable def tkK (S : List Int) (p : Nat) : Nat := kdF S (tkB S p) (tkE S p)
noncomputable def tkS (S : List Int) (p : Nat) : Nat := srF S (tkB S p)
noncomputable def tkD (S : List Int) (p : Nat) : Int := S.getD (tkB S p) 0 - 48
theorem tkB_ok (hp : p ≤ S.length) : SK S p (tkB S p) := Classical.epsilon_spec (SK_ex (S.length - p) p (by omega))
theorem tkE_ok (hp : p ≤ S.length) : TE S (tkB S p) (tkE S p) := Classical.epsilon_spec (TE_ex (tkB_ok hp).2.1)
theorem tk_bd (hp : p ≤ S.length) : p ≤ tkB S p ∧ tkB S p ≤ tkE S p ∧ tkE S p ≤ S.length ∧ (tkK S p ≠ 0 → tkB S p < tkE S p) ∧ (tkK S p = 0 ↔ tkB S p = S.length) := by
  have h1 := tkB_ok hp
  have h2 := (tkE_ok hp).bd h1.2.1
  have h3 : tkK S p = 0 ↔ tkB S p = S.length := by
    unfold tkK kdF
    have := h1.2.1
    constructor
    · intro h
      by_cases g : S.length ≤ tkB S p
      · omega
      · exfalso
        rw [if_neg g] at h
        split at h
        · omega
        · split at h
          · omega
          · split at h
            · split at h
              · omega
              · split at h <;> omega
            · omega
    · intro h
      rw [if_pos (by omega)]
  refine ⟨h1.1, h2.1, h2.2.1, fun h => h2.2.2 ?_, h3⟩
  have := h1.2.1
  rcases Nat.lt_or_ge (tkB S p) S.length with g | g
  · exact g
  · exact absurd (h3.mpr (by omega)) h
theorem getD_of {i : Nat} {x : Int} (h : S[i]? = some x) : S.getD i 0 = x := by rw [List.getD_eq_getElem?_getD, h]; rfl
theorem chC (h : TX S tc tl) {i : Nat} (hi : i ≤ 200) : f_X10_characterAt N (iI (i : Int)) tc tl = some (iI (S.getD i 0)) := by
  have h80 := h.1
  unfold f_X10_characterAt
  rw [h.2.2.1, li0, if_neg (iI_ltF (by omega) (by omega) (by omega))]
  rcases Nat.lt_or_ge i S.length with g | g
  · obtain ⟨x, hx⟩ := gL g
    rw [if_pos (iI_ltT (by omega) (by omega) (by omega)), h.g hx, Option.bind_some, getD_of hx]
  · rw [if_neg (iI_ltF (by omega) (by omega) (by omega)), List.getD_eq_getElem?_getD, List.getElem?_eq_none g]
    rfl
theorem ch_rng (h : TX S tc tl) {i : Nat} : 0 ≤ S.getD i 0 ∧ S.getD i 0 ≤ 255 := by
  rcases Nat.lt_or_ge i S.length with g | g
  · obtain ⟨x, hx⟩ := gL g
    have := h.2.2.2 i x hx
    rw [getD_of hx]
    omega
  · rw [List.getD_eq_getElem?_getD, List.getElem?_eq_none g]
    show (0 : Int) ≤ 0 ∧ (0 : Int) ≤ 255
    omega
theorem letC {x : Int} (x1 : 0 ≤ x) (x2 : x ≤ 255) : f_X10_isLetter N (iI x) = some (if 97 ≤ x ∧ x ≤ 122 then 1 else 0) := by
  unfold f_X10_isLetter
  by_cases g : x < 97
  · rw [if_pos (by rw [show (97 : Int32) = iI 97 from rfl]; exact iI_ltT g (by omega) (by omega)), if_neg (by omega)]
  rw [if_neg (by rw [show (97 : Int32) = iI 97 from rfl]; exact iI_ltF g (by omega) (by omega))]
  by_cases g2 : 122 < x
  · rw [if_pos (by rw [show (122 : Int32) = iI 122 from rfl]; exact iI_ltT g2 (by omega) (by omega)), if_neg (by omega)]
  rw [if_neg (by rw [show (122 : Int32) = iI 122 from rfl]; exact iI_ltF g2 (by omega) (by omega)), if_pos (by omega)]
theorem skipC (hN : 2000 ≤ N) (h : TX S tc tl) (hp : p ≤ S.length) : f_X10_nextToken_L8 N tc tl N (iI p) = some (iI (tkB S p)) := by
  have h80 := h.1
  suffices hh : OK (f_X10_nextToken_L8 N tc tl N (iI p)) (fun u => u = iI (tkB S p)) by
    obtain ⟨a, e, rfl⟩ := hh; exact e
  refine zlp1 (S.length - p) (fun i z => z = iI ((p + i : Nat) : Int) ∧ ∀ j, p ≤ j → j < p + i → S[j]? = some 32) ?_ N 0 _ (by omega) (by omega) ⟨rfl, fun j j1 j2 => by omega⟩
  rintro fu i z hi ⟨rfl, hs⟩ ih
  rw [f_X10_nextToken_L8]
  have fin : S[p + i]? ≠ some 32 → OK (some (iI ((p + i : Nat) : Int))) (fun u => u = iI (tkB S p)) := fun hne => by
    rw [OK_some, (tkB_ok hp).uniq (⟨by omega, by omega, hs, hne⟩ : SK S p (p + i))]
  rcases Nat.lt_or_ge (p + i) S.length with g | g
  · obtain ⟨x, hx⟩ := gL g
    have hr := h.2.2.2 _ x hx
    rw [h.2.2.1, if_pos (iI_ltT (by omega) (by omega) (by omega)), ← h.2.2.1, chC h (by omega), Option.bind_some, getD_of hx]
    by_cases e : x = 32
    · rw [if_pos (by rw [e]; rfl), iI_succ]
      refine ih (by omega) _ ⟨rfl, fun j j1 j2 => ?_⟩
      rcases Nat.lt_or_ge j (p + i) with g1 | g1
      · exact hs j j1 g1
      · rw [show j = p + i by omega, hx, e]
    · rw [if_neg (by rw [show (32 : Int32) = iI 32 from rfl]; exact iI_eqF e (by omega) (by omega) (by omega) (by omega))]
      exact fin (by rw [hx]; intro h; cases h; exact e rfl)
  · rw [h.2.2.1, if_neg (iI_ltF (by omega) (by omega) (by omega))]
    exact fin (by rw [List.getElem?_eq_none g]; simp)
theorem runC (hN : 2000 ≤ N) (h : TX S tc tl) (hp : p ≤ S.length) (he : LR S p e) : f_X10_nextToken_L139 N tc tl N (iI p) = some (iI e) := by
  have h80 := h.1
  suffices hh : OK (f_X10_nextToken_L139 N tc tl N (iI p)) (fun u => u = iI e) by
    obtain ⟨a, e, rfl⟩ := hh; exact e
  refine zlp1 (S.length - p) (fun i z => z = iI ((p + i : Nat) : Int) ∧ ∀ j, p ≤ j → j < p + i → ∃ x, S[j]? = some x ∧ isLt x) ?_ N 0 _ (by omega) (by omega) ⟨rfl, fun j j1 j2 => by omega⟩
  rintro fu i z hi ⟨rfl, hs⟩ ih
  rw [f_X10_nextToken_L139]
  have fin : (∀ x, S[p + i]? = some x → ¬ isLt x) → OK (some (iI ((p + i : Nat) : Int))) (fun u => u = iI e) := fun hne => by
    rw [OK_some, he.uniq (⟨by omega, by omega, hs, hne⟩ : LR S p (p + i))]
  rcases Nat.lt_or_ge (p + i) S.length with g | g
  · obtain ⟨x, hx⟩ := gL g
    have hr := h.2.2.2 _ x hx
    rw [h.2.2.1, if_pos (iI_ltT (by omega) (by omega) (by omega)), ← h.2.2.1, chC h (by omega), Option.bind_some, getD_of hx, letC (by omega) (by omega), Option.bind_some]
    by_cases e : 97 ≤ x ∧ x ≤ 122
    · rw [if_pos e, if_neg (show ¬ (1 : Int32) = 0 by decide), iI_succ]
      refine ih (by omega) _ ⟨rfl, fun j j1 j2 => ?_⟩
      rcases Nat.lt_or_ge j (p + i) with g1 | g1
      · exact hs j j1 g1
      · rw [show j = p + i by omega]; exact ⟨x, hx, e⟩
    · rw [if_neg e, if_pos rfl]
      refine fin (fun y hy => ?_)
      rw [hx] at hy; cases hy; exact e
  · rw [h.2.2.1, if_neg (iI_ltF (by omega) (by omega) (by omega))]
    exact fin (fun y hy => by rw [List.getElem?_eq_none g] at hy; cases hy)
theorem wordC (h : TX S tc tl) (hb : b ≤ 100) (he : e ≤ 100) {x y : Int} (hx : 0 ≤ x ∧ x ≤ 255) (hy : 0 ≤ y ∧ y ≤ 255) : f_X10_isWord N (iI x) (iI y) tc tl (iI b) (iI e) = some (if e = b + 2 ∧ S.getD b 0 = x ∧ S.getD (b + 1) 0 = y then 1 else 0) := by
  have r1 := ch_rng h (i := b)
  have r2 := ch_rng h (i := b + 1)
  unfold f_X10_isWord
  rw [iI_sub]
  by_cases g : e = b + 2
  · rw [if_pos (by rw [li2]; exact iIeq (by omega)), chC h (by omega), Option.bind_some]
    by_cases g1 : S.getD b 0 = x
    · rw [if_pos (by rw [g1]), iI_succ, chC h (by omega), Option.bind_some]
      by_cases g2 : S.getD (b + 1) 0 = y
      · rw [if_pos (by rw [g2]), if_pos ⟨g, g1, g2⟩]
      · rw [if_neg (iI_eqF g2 (by omega) (by omega) (by omega) (by omega)), if_neg (fun h => g2 h.2.2)]
    · rw [if_neg (iI_eqF g1 (by omega) (by omega) (by omega) (by omega)), if_neg (fun h => g1 h.2.1)]
  · rw [if_neg (by rw [li2]; exact iI_eqF (by omega) (by omega) (by omega) (by omega) (by omega)), if_neg (fun h => g h.1)]
theorem nextC (hN : 2000 ≤ N) (h : TX S tc tl) (hp : p ≤ S.length) : f_X10_nextToken N tc tl (iI p) dg0 = some (iI (tkB S p), iI (tkE S p), iI (tkK S p : Nat), if tkK S p = 3 then iI (tkD S p) else dg0) := by
  have h80 := h.1
  have hb := tkB_ok hp
  have he := tkE_ok hp
  have hbd := tk_bd hp
  have r1 := ch_rng h (i := tkB S p)
  unfold f_X10_nextToken
  rw [skipC hN h hp, Option.bind_some, chC h (by omega), Option.bind_some]
  rcases Nat.lt_or_ge (tkB S p) S.length with g | g
  · obtain ⟨x, hx⟩ := gL g
    have gx := getD_of hx
    have hmin : (if tl < iI (tkB S p) + 1 then tl else iI (tkB S p) + 1) = iI ((tkB S p + 1 : Nat) : Int) := by
      rw [iI_succ, h.2.2.1, if_neg (iI_ltF (by omega) (by omega) (by omega))]
    rw [hmin]
    have ceq : iI (tkB S p : Nat) < tl := by rw [h.2.2.1]; exact iI_ltT (by omega) (by omega) (by omega)
    rw [if_pos ceq]
    have hee : ¬ isLt x → tkE S p = tkB S p + 1 := fun hl => by
      rcases he with ⟨h1, _⟩ | ⟨y, h1, h2⟩
      · rw [hx] at h1; cases h1
      · rw [hx] at h1; cases h1
        rcases h2 with ⟨h2, _⟩ | ⟨_, h2⟩
        · exact absurd h2 hl
        · exact h2
    have hK : tkK S p = if 48 ≤ x ∧ x ≤ 57 then 3 else if x = 59 then 4 else if 97 ≤ x ∧ x ≤ 122 then (if tkE S p = tkB S p + 2 ∧ x = 97 ∧ S.getD (tkB S p + 1) 0 = 116 then 1 else if tkE S p = tkB S p + 2 ∧ x = 103 ∧ S.getD (tkB S p + 1) 0 = 111 then 2 else 5) else 5 := by
      unfold tkK kdF
      rw [if_neg (by omega), gx]
    rw [gx] at r1 ⊢
    -- neither a digit nor ';'
    have rest : ¬ (48 ≤ x ∧ x ≤ 57) → x ≠ 59 → (f_X10_isLetter N (iI x)).bind (fun u9 => if u9 = 0 then some (iI (tkB S p : Nat), iI ((tkB S p + 1 : Nat) : Int), (5 : Int32), dg0) else (f_X10_nextToken_L139 N tc tl N (iI ((tkB S p + 1 : Nat) : Int))).bind fun e15 => (f_X10_isWord N 97 116 tc tl (iI (tkB S p : Nat)) e15).bind fun u16 => if u16 = 0 then (f_X10_isWord N 103 111 tc tl (iI (tkB S p : Nat)) e15).bind fun u18 => if u18 = 0 then some (iI (tkB S p : Nat), e15, 5, dg0) else some (iI (tkB S p : Nat), e15, 2, dg0) else some (iI (tkB S p : Nat), e15, 1, dg0)) = some (iI (tkB S p : Nat), iI (tkE S p : Nat), iI (tkK S p : Nat), if tkK S p = 3 then iI (tkD S p) else dg0) := by
      intro n1 n2
      rw [if_neg n1, if_neg n2] at hK
      rw [letC (by omega) (by omega), Option.bind_some]
      by_cases hl : 97 ≤ x ∧ x ≤ 122
      · rw [if_pos hl] at hK
        have hLR : LR S (tkB S p + 1) (tkE S p) := by
          rcases he with ⟨h1, _⟩ | ⟨y, h1, h2⟩
          · rw [hx] at h1; cases h1
          · rw [hx] at h1; cases h1
            rcases h2 with ⟨_, h2⟩ | ⟨h2, _⟩
            · exact h2
            · exact absurd hl h2
        have w1 : f_X10_isWord N 97 116 tc tl (iI (tkB S p : Nat)) (iI (tkE S p : Nat)) = some (if tkE S p = tkB S p + 2 ∧ S.getD (tkB S p) 0 = 97 ∧ S.getD (tkB S p + 1) 0 = 116 then 1 else 0) := wordC h (by omega) (by omega) (x := 97) (y := 116) ⟨by omega, by omega⟩ ⟨by omega, by omega⟩
        have w2 : f_X10_isWord N 103 111 tc tl (iI (tkB S p : Nat)) (iI (tkE S p : Nat)) = some (if tkE S p = tkB S p + 2 ∧ S.getD (tkB S p) 0 = 103 ∧ S.getD (tkB S p + 1) 0 = 111 then 1 else 0) := wordC h (by omega) (by omega) (x := 103) (y := 111) ⟨by omega, by omega⟩ ⟨by omega, by omega⟩
        rw [gx] at w1 w2
        rw [if_pos hl, if_neg (show ¬ (1 : Int32) = 0 by decide), runC hN h (by omega) hLR, Option.bind_some, w1, Option.bind_some]
        by_cases c1 : tkE S p = tkB S p + 2 ∧ x = 97 ∧ S.getD (tkB S p + 1) 0 = 116
        · rw [if_pos c1] at hK
          rw [if_pos c1, if_neg (show ¬ (1 : Int32) = 0 by decide), hK, if_neg (by decide)]
          rfl
        · rw [if_neg c1] at hK
          rw [if_neg c1, if_pos rfl, w2, Option.bind_some]
          by_cases c2 : tkE S p = tkB S p + 2 ∧ x = 103 ∧ S.getD (tkB S p + 1) 0 = 111
          · rw [if_pos c2] at hK
            rw [if_pos c2, if_neg (show ¬ (1 : Int32) = 0 by decide), hK, if_neg (by decide)]
            rfl
          · rw [if_neg c2] at hK
            rw [if_neg c2, if_pos rfl, hK, if_neg (by decide)]
            rfl
      · rw [if_neg hl] at hK
        rw [if_neg hl, if_pos rfl, hK, if_neg (by decide), hee hl]
        rfl
    by_cases g1 : x < 48
    · rw [if_pos (by rw [show (48 : Int32) = iI 48 from rfl]; exact iI_ltT g1 (by omega) (by omega)), if_neg (by rw [show (59 : Int32) = iI 59 from rfl]; exact iI_eqF (by omega) (by omega) (by omega) (by omega) (by omega))]
      exact rest (by omega) (by omega)
    rw [if_neg (by rw [show (48 : Int32) = iI 48 from rfl]; exact iI_ltF g1 (by omega) (by omega))]
    by_cases g2 : 57 < x
    · rw [if_pos (by rw [show (57 : Int32) = iI 57 from rfl]; exact iI_ltT g2 (by omega) (by omega))]
      by_cases g3 : x = 59
      · rw [if_pos (by rw [g3]; rfl)]
        rw [if_neg (by omega), if_pos g3] at hK
        rw [hK, if_neg (by decide), hee (by unfold isLt; omega)]
        rfl
      · rw [if_neg (by rw [show (59 : Int32) = iI 59 from rfl]; exact iI_eqF g3 (by omega) (by omega) (by omega) (by omega))]
        exact rest (by omega) g3
    · rw [if_neg (by rw [show (57 : Int32) = iI 57 from rfl]; exact iI_ltF g2 (by omega) (by omega))]
      rw [if_pos (by omega)] at hK
      rw [hK, if_pos rfl, hee (by unfold isLt; omega), show (48 : Int32) = iI 48 from rfl, iI_sub]
      unfold tkD
      rw [gx]
      rfl
  · have e0 : tkB S p = S.length := by omega
    have e1 : tkE S p = S.length := by omega
    have hK : tkK S p = 0 := hbd.2.2.2.2.mpr e0
    have hmin : (if tl < iI (tkB S p) + 1 then tl else iI (tkB S p) + 1) = iI (tkE S p : Nat) := by
      rw [iI_succ, h.2.2.1, if_pos (iI_ltT (by omega) (by omega) (by omega)), e1]
    rw [if_neg (by rw [h.2.2.1]; exact iI_ltF (by omega) (by omega) (by omega)), hmin, hK, if_neg (by decide)]
    rfl
end
