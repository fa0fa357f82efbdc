/-! loops: a body done for i, i + 1, .. , n - 1 -/
def itr {σ : Type} (B : Nat → σ → σ) : Nat → Nat → σ → σ
  | _, 0, s => s
  | i, m + 1, s => itr B (i + 1) m (B i s)
theorem itr_succ {σ : Type} (B : Nat → σ → σ) : ∀ (m i : Nat) (s : σ), itr B i (m + 1) s = B (i + m) (itr B i m s)
  | 0, i, s => rfl
  | m + 1, i, s => by
    rw [itr, itr_succ B m (i + 1) (B i s), itr]
    congr 1
    omega
/-- a loop with fuel: while i < n the body, then out -/
theorem loop_run {σ ρ : Type} (f : Nat → Nat → σ → Option ρ) (B : Nat → σ → σ) (out : σ → ρ) (n : Nat) (Inv : Nat → σ → Prop)
    (hs : ∀ fu i s, i < n → Inv i s → f (fu + 1) i s = f fu (i + 1) (B i s)) (hi : ∀ i s, i < n → Inv i s → Inv (i + 1) (B i s)) (hx : ∀ fu s, Inv n s → f (fu + 1) n s = some (out s)) :
    ∀ (fu i : Nat) (s : σ), Inv i s → i ≤ n → n - i < fu → f fu i s = some (out (itr B i (n - i) s)) ∧ Inv n (itr B i (n - i) s) := by
  intro fu
  induction fu with
  | zero => intro i s _ _ h; omega
  | succ fu ih =>
    intro i s hI hin hfu
    rcases Nat.lt_or_ge i n with h | h
    · rw [hs fu i s h hI]
      have := ih (i + 1) (B i s) (hi i s h hI) h (by omega)
      rw [show n - i = (n - (i + 1)) + 1 by omega, itr]
      exact this
    · have e : i = n := by omega
      subst e
      rw [Nat.sub_self, itr, hx fu s hI]
      exact ⟨rfl, hI⟩
/-- a loop that looks for the first place where p holds -/
theorem loop_find {ρ : Type} (f : Nat → Nat → Option ρ) (p : Nat → Bool) (n : Nat) (yes : Nat → ρ) (no : ρ)
    (hs : ∀ fu i, i < n → f (fu + 1) i = if p i then some (yes i) else f fu (i + 1)) (hx : ∀ fu, f (fu + 1) n = some no) :
    ∀ (fu i : Nat), i ≤ n → n - i < fu → (∃ j, i ≤ j ∧ j < n ∧ p j = true ∧ (∀ m, i ≤ m → m < j → p m = false) ∧ f fu i = some (yes j)) ∨ ((∀ j, i ≤ j → j < n → p j = false) ∧ f fu i = some no) := by
  intro fu
  induction fu with
  | zero => intro i _ h; omega
  | succ fu ih =>
    intro i hin hfu
    rcases Nat.lt_or_ge i n with h | h
    · rw [hs fu i h]
      cases hp : p i with
      | true => exact Or.inl ⟨i, Nat.le_refl _, h, hp, fun m h1 h2 => by omega, rfl⟩
      | false =>
        rcases ih (i + 1) h (by omega) with ⟨j, h1, h2, h3, h4, h5⟩ | ⟨h1, h2⟩
        · exact Or.inl ⟨j, by omega, h2, h3, fun m m1 m2 => by
            rcases Nat.lt_or_ge i m with q | q
            · exact h4 m q m2
            · rw [show m = i by omega]; exact hp, h5⟩
        · exact Or.inr ⟨fun j j1 j2 => by
            rcases Nat.lt_or_ge i j with q | q
            · exact h1 j q j2
            · rw [show j = i by omega]; exact hp, h2⟩
    · have e : i = n := by omega
      subst e
      exact Or.inr ⟨fun j j1 j2 => by omega, hx fu⟩
/-- a list changed place by place -/
theorem itr_map {α : Type} (g : α → α) (d : α) : ∀ (m i : Nat) (pre suf : List α), pre.length = i → m ≤ suf.length → itr (fun j (t : List α) => t.set j (g (t.getD j d))) i m (pre ++ suf) = pre ++ ((suf.take m).map g ++ suf.drop m)
  | 0, i, pre, suf, _, _ => by simp [itr]
  | m + 1, i, pre, [], h, hm => by simp at hm
  | m + 1, i, pre, x :: suf, h, hm => by
    rw [itr]
    have e : (pre ++ x :: suf).set i (g ((pre ++ x :: suf).getD i d)) = (pre ++ [g x]) ++ suf := by
      subst h
      rw [List.getD_eq_getElem?_getD, List.getElem?_append_right (Nat.le_refl _), Nat.sub_self, List.set_append_right _ _ (Nat.le_refl _), Nat.sub_self]
      simp
    rw [e, itr_map g d m (i + 1) (pre ++ [g x]) suf (by simp [h]) (by simpa using hm)]
    simp
