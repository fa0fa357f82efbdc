/-! the class's rows of sights -/
def RW (rows : List (Nat × List Nat)) (s : List Int64) (n : Int32) (c : List Int32) : Prop := s.length = 32 ∧ c.length = 672 ∧ n = iI rows.length ∧ rows.length ≤ 32 ∧ ∀ (i : Nat) (x : Nat × List Nat), rows[i]? = some x → x.1 < 1152921504606846976 ∧ s[i]? = some (lN x.1) ∧ ∀ z, z < 21 → c[21 * i + z]? = some (iI (gl x.2 z : Nat))
section
variable {N g : Nat} {rows : List (Nat × List Nat)} {s : List Int64} {n : Int32} {c d x : List Int32} {a src cs : List Nat}
theorem addR_at : ∀ (rows : List (Nat × List Nat)) (j : Nat) (cs a : List Nat), (∀ (j' : Nat) (y : Nat × List Nat), j' < j → rows[j']? = some y → ¬ y.1 = g) → rows[j]? = some (g, cs) → addR addL rows g a = rows.set j (g, addL cs a)
  | [], j, cs, a, h1, h2 => by simp at h2
  | (h, b) :: t, 0, cs, a, h1, h2 => by
    simp at h2
    obtain ⟨rfl, rfl⟩ := h2
    rw [addR, Nat.beq_refl]
    rfl
  | (h, b) :: t, j + 1, cs, a, h1, h2 => by
    have hn := h1 0 (h, b) (by omega) rfl
    rw [addR, beq_ne hn, cond_false, addR_at t j cs a (fun j' y hj hy => h1 (j' + 1) y (by omega) hy) h2]
    rfl
theorem addR_new : ∀ (rows : List (Nat × List Nat)) (a : List Nat), (∀ (j : Nat) (y : Nat × List Nat), rows[j]? = some y → ¬ y.1 = g) → addR addL rows g a = rows ++ [(g, a)]
  | [], a, h1 => rfl
  | (h, b) :: t, a, h1 => by
    have hn := h1 0 (h, b) rfl
    rw [addR, beq_ne hn, cond_false, addR_new t a (fun j y hy => h1 (j + 1) y hy)]
    rfl
theorem findS (hR : RW rows s n c) (hg : g < 1152921504606846976) : ∀ (m i fu : Nat), i + m = rows.length → m < fu → (∀ (j : Nat) (y : Nat × List Nat), j < i → rows[j]? = some y → ¬ y.1 = g) → OK (f_X7_rowOf_L2 N (lN g) s n c fu (iI (i : Nat))) (fun o => (∃ j cs, rows[j]? = some (g, cs) ∧ (∀ (j' : Nat) (y : Nat × List Nat), j' < j → rows[j']? = some y → ¬ y.1 = g) ∧ o = .inr (iI (j : Nat), s, n, c)) ∨ ((∀ (j : Nat) (y : Nat × List Nat), rows[j]? = some y → ¬ y.1 = g) ∧ o = .inl ()))
  | 0, i, fu, h1, h2, h3 => by
    obtain ⟨fu, rfl⟩ : ∃ z, fu = z + 1 := ⟨fu - 1, by omega⟩
    have h32 := hR.2.2.2.1
    rw [f_X7_rowOf_L2, hR.2.2.1, if_neg (iI_ltF (by omega) (by omega) (by omega)), OK_some]
    exact Or.inr ⟨fun j y hy => h3 j y (by have := lt_of_get hy; omega) hy, rfl⟩
  | m + 1, i, fu, h1, h2, h3 => by
    obtain ⟨fu, rfl⟩ : ∃ z, fu = z + 1 := ⟨fu - 1, by omega⟩
    have h32 := hR.2.2.2.1
    obtain ⟨y, hy⟩ := gL (show i < rows.length by omega)
    obtain ⟨y1, y2, _⟩ := hR.2.2.2.2 i y hy
    have gi := gI y2 (show s.length < 2147483648 by rw [hR.1]; decide)
    have h4 : (2 : Nat) ^ 63 = 9223372036854775808 := by decide
    rw [f_X7_rowOf_L2, if_pos (by rw [hR.2.2.1]; exact iI_ltT (by omega) (by omega) (by omega)), gi, Option.bind_some]
    by_cases e : y.1 = g
    · rw [if_pos (by rw [cmp_eq (by omega) (by omega)]; exact e), OK_some]
      exact Or.inl ⟨i, y.2, by rw [hy, ← e], h3, rfl⟩
    · rw [if_neg (by rw [cmp_eq (by omega) (by omega)]; exact e), iI_succ]
      refine findS hR hg m (i + 1) fu (by omega) (by omega) (fun j z hj hz => ?_)
      by_cases e2 : j = i
      · rw [e2, hy] at hz; cases hz; exact e
      · exact h3 j z (by omega) hz
theorem zeroS {n : Nat} (hn : n < 32) : ∀ (m z fu : Nat) (c : List Int32), z + m = 21 → m < fu → c.length = 672 → (∀ y, y < z → c[21 * n + y]? = some 0) → OK (f_X7_rowOf_L52 N (iI (n : Nat)) fu (iI (z : Nat)) c) (fun u => u.length = 672 ∧ (∀ y, y < 21 → u[21 * n + y]? = some 0) ∧ ∀ i, (i < 21 * n ∨ 21 * n + 21 ≤ i) → u[i]? = c[i]?)
  | 0, z, fu, c, h1, h2, l1, h3 => by
    obtain ⟨fu, rfl⟩ : ∃ z, fu = z + 1 := ⟨fu - 1, by omega⟩
    rw [f_X7_rowOf_L52, if_neg (by rw [show (21 : Int32) = iI 21 from rfl]; exact iI_ltF (by omega) (by omega) (by omega)), OK_some]
    exact ⟨l1, fun y hy => h3 y (by omega), fun i _ => rfl⟩
  | m + 1, z, fu, c, h1, h2, l1, h3 => by
    obtain ⟨fu, rfl⟩ : ∃ z, fu = z + 1 := ⟨fu - 1, by omega⟩
    have e : iI (n : Nat) * 21 + iI (z : Nat) = iI ((21 * n + z : Nat) : Int) := by
      rw [show (21 : Int32) = iI 21 from rfl, iI_mul, iI_add]; congr 1; omega
    rw [f_X7_rowOf_L52, if_pos (by rw [show (21 : Int32) = iI 21 from rfl]; exact iI_ltT (by omega) (by omega) (by omega)), e, sI (by omega) (by omega), Option.bind_some, iI_succ]
    refine OK.mono (zeroS hn m (z + 1) fu _ (by omega) (by omega) (by simp [l1]) (fun y hy => ?_)) ?_
    · by_cases e2 : y = z
      · rw [e2, List.getElem?_set_self (by omega)]
      · rw [List.getElem?_set_ne (by omega)]
        exact h3 y (by omega)
    · rintro u ⟨u1, u2, u3⟩
      exact ⟨u1, u2, fun i hi => by rw [u3 i hi, List.getElem?_set_ne (by omega)]⟩
theorem rowOfS (hN : 2000 ≤ N) (hR : RW rows s n c) (hg : g < 1152921504606846976) (hroom : (addR addL rows g a).length ≤ 32) : OK (f_X7_rowOf N (lN g) s n c) (fun u => ∃ rows1 j cs0, RW rows1 u.2.1 u.2.2.1 u.2.2.2 ∧ rows1[j]? = some (g, cs0) ∧ u.1 = iI (j : Nat) ∧ j < 32 ∧ ∀ a, addR addL rows g a = rows1.set j (g, addL cs0 a)) := by
  have h32 := hR.2.2.2.1
  unfold f_X7_rowOf
  have hfind := findS (N := N) hR hg rows.length 0 N (by omega) (by omega) (fun j y hj => by omega)
  rw [OK_bind]
  refine OK.mono hfind ?_
  rintro o (⟨j, cs, h1, h2, rfl⟩ | ⟨h1, rfl⟩)
  · rw [Sum.elim_inr, OK_some]
    have := lt_of_get h1
    exact ⟨rows, j, cs, hR, h1, rfl, by omega, fun a => addR_at rows j cs a h2 h1⟩
  · rw [Sum.elim_inl]
    have hl : rows.length < 32 := by
      rw [addR_new rows a h1] at hroom
      simp at hroom
      omega
    rw [hR.2.2.1, if_pos (by rw [show (32 : Int32) = iI 32 from rfl]; exact iI_ltT (by omega) (by omega) (by omega)), sI (by rw [hR.1]; omega) (by rw [hR.1]; decide), Option.bind_some, OK_bind]
    refine OK.mono (zeroS (N := N) hl 21 0 N c (by omega) (by omega) hR.2.1 (fun y hy => by omega)) ?_
    rintro u ⟨u1, u2, u3⟩
    rw [OK_some]
    have e1 : iI (rows.length : Nat) + 1 - 1 = iI (rows.length : Nat) := by rw [li1, iI_add, iI_sub]; congr 1; omega
    refine ⟨rows ++ [(g, [])], rows.length, [], ⟨by simp [hR.1], u1, by rw [iI_succ]; simp, by simp; omega, fun i y hy => ?_⟩, by simp, e1, hl, fun a => ?_⟩
    · rcases Nat.lt_or_ge i rows.length with h | h
      · rw [List.getElem?_append_left h] at hy
        obtain ⟨q1, q2, q3⟩ := hR.2.2.2.2 i y hy
        exact ⟨q1, by rw [List.getElem?_set_ne (by omega)]; exact q2, fun z hz => by rw [u3 _ (by omega)]; exact q3 z hz⟩
      · have h2 := lt_of_get hy
        simp at h2
        have e : i = rows.length := by omega
        subst e
        rw [List.getElem?_append_right (Nat.le_refl _), Nat.sub_self] at hy
        cases hy
        exact ⟨hg, List.getElem?_set_self (by rw [hR.1]; omega), fun z hz => u2 z hz⟩
    · rw [addR_new rows a h1, List.set_append_right _ _ (Nat.le_refl _), Nat.sub_self]
      rfl
end
