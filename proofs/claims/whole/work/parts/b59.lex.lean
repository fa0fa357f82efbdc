/-! the order of forms; counts over images -/
section
variable {k : Nat} {f : Cl → Int}
theorem lxg_anti : ∀ {A B : List Cl}, lxg f A B = - lxg f B A
  | [], [] => rfl
  | [], _ :: _ => rfl
  | _ :: _, [] => rfl
  | a :: A, b :: B => by
    rw [lxg, lxg]
    by_cases e : f a - f b = 0
    · rw [if_pos e, if_pos (by omega)]
      exact lxg_anti
    · rw [if_neg e, if_neg (by omega)]
      omega
theorem lxg_trans : ∀ {A B C : List Cl}, A.length = B.length → B.length = C.length → lxg f A B ≤ 0 → lxg f B C ≤ 0 → lxg f A C ≤ 0 ∧ (lxg f A B < 0 ∨ lxg f B C < 0 → lxg f A C < 0)
  | [], [], [], _, _, _, _ => ⟨Int.le_refl _, fun h => by rcases h with h | h <;> exact absurd (show (0 : Int) < 0 from h) (by decide)⟩
  | [], [], _ :: _, _, h, _, _ => by simp at h
  | [], _ :: _, _, h, _, _, _ => by simp at h
  | _ :: _, [], _, h, _, _, _ => by simp at h
  | _ :: _, _ :: _, [], _, h, _, _ => by simp at h
  | a :: A, b :: B, c :: C, h1, h2, h3, h4 => by
    rw [lxg] at h3 h4
    rw [lxg, lxg, lxg]
    by_cases e1 : f a - f b = 0
    · by_cases e2 : f b - f c = 0
      · rw [if_pos e1] at h3
        rw [if_pos e2] at h4
        rw [if_pos (show f a - f c = 0 by omega), if_pos e1, if_pos e2]
        exact lxg_trans (by simpa using h1) (by simpa using h2) h3 h4
      · rw [if_neg e2] at h4
        rw [if_neg (show ¬ f a - f c = 0 by omega), if_pos e1, if_neg e2]
        omega
    · rw [if_neg e1] at h3
      by_cases e2 : f b - f c = 0
      · rw [if_neg (show ¬ f a - f c = 0 by omega), if_neg e1, if_pos e2]
        omega
      · rw [if_neg e2] at h4
        rw [if_neg (show ¬ f a - f c = 0 by omega), if_neg e1, if_neg e2]
        omega
/-- the place of the first least one among the first n -/
def bst (F : Nat → List Cl) : Nat → Nat
  | 0 => 0
  | i + 1 => if lx (F i) (F (bst F i)) < 0 then i else bst F i
theorem bst_lt {F : Nat → List Cl} : ∀ {n : Nat}, 0 < n → bst F n < n
  | 0, h => by omega
  | 1, _ => by
    show (if lx (F 0) (F 0) < 0 then 0 else 0) < 1
    split <;> omega
  | n + 2, _ => by
    have := bst_lt (F := F) (n := n + 1) (by omega)
    show (if lx (F (n + 1)) (F (bst F (n + 1))) < 0 then n + 1 else bst F (n + 1)) < n + 2
    split <;> omega
theorem bst_le {F : Nat → List Cl} {m : Nat} (hl : ∀ i, (F i).length = m) : ∀ {n : Nat} (i : Nat), i < n → lx (F (bst F n)) (F i) ≤ 0
  | 0, i, h => by omega
  | n + 1, i, h => by
    show lx (F (if lx (F n) (F (bst F n)) < 0 then n else bst F n)) (F i) ≤ 0
    have ih := fun j (hj : j < n) => bst_le hl (n := n) j hj
    by_cases e : lx (F n) (F (bst F n)) < 0
    · rw [if_pos e]
      rcases Nat.lt_or_ge i n with g | g
      · exact (lxg_trans (f := cd) (A := F n) (B := F (bst F n)) (C := F i) (by rw [hl, hl]) (by rw [hl, hl]) (Int.le_of_lt e) (ih i g)).1
      · have : i = n := by omega
        subst this
        show lxg cd (F i) (F i) ≤ 0
        rw [lxg_self]
        exact Int.le_refl _
    · rw [if_neg e]
      rcases Nat.lt_or_ge i n with g | g
      · exact ih i g
      · have : i = n := by omega
        subst this
        have := lxg_anti (f := cd) (A := F (bst F i)) (B := F i)
        unfold lx at e ⊢
        omega
/-- how many i below n have p -/
def cnt (p : Nat → Bool) : Nat → Nat
  | 0 => 0
  | n + 1 => cnt p n + (if p n then 1 else 0)
theorem cnt_le (p : Nat → Bool) : ∀ n, cnt p n ≤ n
  | 0 => Nat.le_refl _
  | n + 1 => by
    have := cnt_le p n
    rw [cnt]
    split <;> omega
theorem cnt_congr {p q : Nat → Bool} : ∀ {n : Nat}, (∀ i, i < n → p i = q i) → cnt p n = cnt q n
  | 0, _ => rfl
  | n + 1, h => by rw [cnt, cnt, cnt_congr (fun i hi => h i (by omega)), h n (by omega)]
/-- the symmetries of a figure, its different images, its canonical form -/
def symN (F : Nat → List Cl) (n : Nat) : Nat := cnt (fun i => decide (F i = F 0)) n
def difN (F : Nat → List Cl) (n : Nat) : Nat := cnt (fun i => decide (∀ j, j < i → F j ≠ F i)) n
def can (k : Nat) (L : List Cl) : List Cl := img k L (bst (img k L) (2 * tur k))
end
