/-! the class retires labels and packs them -/
section
variable {N P fi v2 i g x y A : Nat} {l : List Nat} {b adj : List Int32}
theorem beq_ne {a c : Nat} (h : ¬ a = c) : Nat.beq a c = false := by
  cases e : Nat.beq a c with
  | false => rfl
  | true => exact absurd (Nat.eq_of_beq_eq_true e) h
theorem seenC (hv : v2 < 20) (hW : Wn2 fi v2 l b) (hx : x ≤ 7) : ∀ (m i fu : Nat), i + m = v2 + 1 → m < fu → fi ≤ i → f_X0_isSeen_L3 N (nI x) (iI (v2 : Nat)) b fu (iI (i : Nat)) = some (if seen x l m i = true then .inr 1 else .inl ())
  | 0, i, fu, h1, h2, h3 => by
    obtain ⟨fu, rfl⟩ : ∃ z, fu = z + 1 := ⟨fu - 1, by omega⟩
    rw [f_X0_isSeen_L3, if_pos (iI_ltT (by omega) (by omega) (by omega))]
    rfl
  | m + 1, i, fu, h1, h2, h3 => by
    obtain ⟨fu, rfl⟩ : ∃ z, fu = z + 1 := ⟨fu - 1, by omega⟩
    have hl1 := hW.1
    have hli := hW.2.2.1 i
    have gi := gI (hW.2.2.2 i h3 (by omega)) (show b.length < 2147483648 by omega)
    rw [f_X0_isSeen_L3, if_neg (iI_ltF (by omega) (by omega) (by omega)), gi, Option.bind_some, seen]
    by_cases e : gl l i = x
    · rw [if_pos (by rw [e]), e, Nat.beq_refl]
      rfl
    · rw [if_neg (nI_eqF e (by omega) (by omega)), beq_ne e, cond_false, iI_succ]
      exact seenC hv hW hx m (i + 1) fu (by omega) (by omega) (by omega)
theorem isSeenC (hN : 2000 ≤ N) (hv : v2 < 20) (hf : fi ≤ v2) (hW : Wn2 fi v2 l b) (hx : x ≤ 7) : f_X0_isSeen N (nI x) (iI (fi : Nat)) (iI (v2 : Nat)) b = some (if seen x l (v2 + 1 - fi) fi = true then 1 else 0) := by
  unfold f_X0_isSeen
  rw [seenC hv hW hx (v2 + 1 - fi) fi N (by omega) (by omega) (Nat.le_refl _), Option.bind_some]
  split
  · rfl
  · rfl
theorem anyC (hv : v2 < 20) (hW : Wn2 fi v2 l b) : ∀ (m i fu : Nat), i + m = v2 + 1 → m < fu → fi ≤ i → f_X0_isAnySeen_L2 N (iI (v2 : Nat)) b fu (iI (i : Nat)) = some (if anyS l m i = true then .inr 1 else .inl ())
  | 0, i, fu, h1, h2, h3 => by
    obtain ⟨fu, rfl⟩ : ∃ z, fu = z + 1 := ⟨fu - 1, by omega⟩
    rw [f_X0_isAnySeen_L2, if_pos (iI_ltT (by omega) (by omega) (by omega))]
    rfl
  | m + 1, i, fu, h1, h2, h3 => by
    obtain ⟨fu, rfl⟩ : ∃ z, fu = z + 1 := ⟨fu - 1, by omega⟩
    have hl1 := hW.1
    have hli := hW.2.2.1 i
    have gi := gI (hW.2.2.2 i h3 (by omega)) (show b.length < 2147483648 by omega)
    rw [f_X0_isAnySeen_L2, if_neg (iI_ltF (by omega) (by omega) (by omega)), gi, Option.bind_some, anyS]
    by_cases e : gl l i = 0
    · rw [if_pos (by rw [e]; rfl), e, iI_succ]
      exact anyC hv hW m (i + 1) fu (by omega) (by omega) (by omega)
    · rw [if_neg (show ¬ nI (gl l i) = 0 from nI_eqF (c := 0) e (by omega) (by omega)), beq_f e]
      rfl
theorem isAnyC (hN : 2000 ≤ N) (hv : v2 < 20) (hf : fi ≤ v2) (hW : Wn2 fi v2 l b) : f_X0_isAnySeen N (iI (fi : Nat)) (iI (v2 : Nat)) b = some (if anyS l (v2 + 1 - fi) fi = true then 1 else 0) := by
  unfold f_X0_isAnySeen
  rw [anyC hv hW (v2 + 1 - fi) fi N (by omega) (by omega) (Nat.le_refl _), Option.bind_some]
  split
  · rfl
  · rfl
theorem shr0 (hA : A < 1048576) (hv : v2 < 20) : (nI A >>> ((iI (v2 : Nat) + 1) &&& 31) = 0) = (Nat.shiftRight A (Nat.succ v2) = 0) := by
  rw [iI_succ, nI_iI, iI_shr (by omega) (by omega) _ (v2 + 1) (shm_tab (v2 + 1) (by omega)), li0]
  have e : (A : Int) / 2 ^ (v2 + 1) = ((A / 2 ^ (v2 + 1) : Nat) : Int) := by simp
  have hle : A / 2 ^ (v2 + 1) ≤ A := Nat.div_le_self _ _
  rw [e]
  show _ = (A >>> (v2 + 1) = 0)
  rw [Nat.shiftRight_eq_div_pow]
  generalize A / 2 ^ (v2 + 1) = q at hle ⊢
  rw [iI_eq (by omega) (by omega) (by omega) (by omega)]
  apply propext
  omega
theorem set0_W (hW : Wn2 fi v2 l b) (hi : i < 20) : Wn2 fi v2 (l.set i 0) (b.set i 0) := by
  have hl1 := hW.1
  have hl2 := hW.2.1
  refine ⟨by simp [hl1], by simp [hl2], fun j => ?_, fun j j1 j2 => ?_⟩
  · rw [gl_set _ _ _ _ (by omega)]
    have := hW.2.2.1 j
    split <;> omega
  · rw [gl_set _ _ _ _ (by omega)]
    by_cases e : i = j
    · rw [if_pos e, e, List.getElem?_set_self (by omega)]; rfl
    · rw [if_neg e, List.getElem?_set_ne e]
      exact hW.2.2.2 j j1 j2
theorem rtC (hN : 2000 ≤ N) (hv : v2 < 20) (hf : fi ≤ v2) (hal : adj.length = 20) (hadj : ∀ j, j ≤ v2 → adj[j]? = some (nI (nrP P j))) : ∀ (m i fu : Nat) (l : List Nat) (b : List Int32), i + m = v2 + 1 → m < fu → fi ≤ i → Wn2 fi v2 l b → OK (f_X0_retire_L2 N (iI (fi : Nat)) (iI (v2 : Nat)) adj fu (iI (i : Nat)) b) (fun o => OK (Sum.elim (fun e11 => some ((0 : Int32), e11)) (fun u13 => some u13) o) (fun u => u.1 = nI (rtL P fi v2 m i l).1 ∧ (rtL P fi v2 m i l).1 ≤ 2 ∧ Wn2 fi v2 (rtL P fi v2 m i l).2 u.2))
  | 0, i, fu, l, b, h1, h2, h3, hW => by
    obtain ⟨fu, rfl⟩ : ∃ z, fu = z + 1 := ⟨fu - 1, by omega⟩
    rw [f_X0_retire_L2, if_pos (iI_ltT (by omega) (by omega) (by omega)), OK_some, Sum.elim_inl, OK_some]
    exact ⟨rfl, by show 0 ≤ 2; omega, hW⟩
  | m + 1, i, fu, l, b, h1, h2, h3, hW => by
    obtain ⟨fu, rfl⟩ : ∃ z, fu = z + 1 := ⟨fu - 1, by omega⟩
    have hl1 := hW.1
    have hli := hW.2.2.1 i
    have gi := gI (hW.2.2.2 i h3 (by omega)) (show b.length < 2147483648 by omega)
    have ga := gI (hadj i (by omega)) (show adj.length < 2147483648 by omega)
    rw [f_X0_retire_L2, if_neg (iI_ltF (by omega) (by omega) (by omega)), gi, Option.bind_some, rtL, seqN_eq]
    have next := fun l' b' hW' => rtC hN hv hf hal hadj m (i + 1) fu l' b' (by omega) (by omega) (by omega) hW'
    by_cases e : gl l i = 0
    · rw [if_pos (by rw [e]; rfl), e, iI_succ]
      exact next l b hW
    rw [if_neg (show ¬ nI (gl l i) = 0 from nI_eqF (c := 0) e (by omega) (by omega)), beq_f e, cond_false, ga, Option.bind_some]
    by_cases e2 : Nat.shiftRight (nrP P i) (Nat.succ v2) = 0
    case neg =>
      rw [if_neg (by rw [shr0 nrP_lt hv]; exact e2), beq_f e2, cond_false, iI_succ]
      exact next l b hW
    have hW0 := set0_W hW (show i < 20 by omega)
    rw [if_pos (by rw [shr0 nrP_lt hv]; exact e2), e2, show Nat.beq 0 0 = true from rfl, cond_true, sI (by omega) (by omega), Option.bind_some, isSeenC hN hv hf hW0 hli, Option.bind_some]
    cases e3 : seen (gl l i) (l.set i 0) (v2 + 1 - fi) fi with
    | true =>
      rw [if_pos rfl, if_neg (show ¬ (1 : Int32) = 0 by decide), cond_true, iI_succ]
      exact next _ _ hW0
    | false =>
      rw [if_neg (show ¬ (false : Bool) = true by decide), if_pos rfl, cond_false, isAnyC hN hv hf hW0, Option.bind_some]
      cases e4 : anyS (l.set i 0) (v2 + 1 - fi) fi with
      | true =>
        rw [if_pos rfl, if_neg (show ¬ (1 : Int32) = 0 by decide), cond_true, OK_some, Sum.elim_inr, OK_some]
        exact ⟨rfl, by show 2 ≤ 2; omega, hW0⟩
      | false =>
        rw [if_neg (show ¬ (false : Bool) = true by decide), if_pos rfl, cond_false, OK_some, Sum.elim_inr, OK_some]
        exact ⟨rfl, by show 1 ≤ 2; omega, hW0⟩
theorem retireC (hN : 2000 ≤ N) (hv : v2 < 20) (hf : fi ≤ v2) (hal : adj.length = 20) (hadj : ∀ j, j ≤ v2 → adj[j]? = some (nI (nrP P j))) (hW : Wn2 fi v2 l b) : OK (f_X0_retire N (iI (fi : Nat)) (iI (v2 : Nat)) adj b) (fun u => u.1 = nI (rtL P fi v2 (v2 + 1 - fi) fi l).1 ∧ (rtL P fi v2 (v2 + 1 - fi) fi l).1 ≤ 2 ∧ Wn2 fi v2 (rtL P fi v2 (v2 + 1 - fi) fi l).2 u.2) := by
  unfold f_X0_retire
  rw [OK_bind]
  exact rtC hN hv hf hal hadj (v2 + 1 - fi) fi N l b (by omega) (by omega) (Nat.le_refl _) hW
theorem pkC (hv : v2 < 20) (hW : Wn2 fi v2 l b) : ∀ (m i fu v3 v5 v6 : Nat), i + m = v2 + 1 → m < fu → fi ≤ i → v5 < 2 ^ 31 → v6 ≤ 7 → pkb l m i v3 v5 v6 < 1152921504606846976 → f_X0_packLabels_L11 N (iI (v2 : Nat)) b fu (lN v3) (nI v5) (nI v6) (iI (i : Nat)) = some (lN (pkb l m i v3 v5 v6))
  | 0, i, fu, v3, v5, v6, h1, h2, h3, h4, h5, h6 => by
    obtain ⟨fu, rfl⟩ : ∃ z, fu = z + 1 := ⟨fu - 1, by omega⟩
    rw [f_X0_packLabels_L11, if_pos (iI_ltT (by omega) (by omega) (by omega))]
    rfl
  | m + 1, i, fu, v3, v5, v6, h1, h2, h3, h4, h5, h6 => by
    obtain ⟨fu, rfl⟩ : ∃ z, fu = z + 1 := ⟨fu - 1, by omega⟩
    have hl1 := hW.1
    have hli := hW.2.2.1 i
    have gi := gI (hW.2.2.2 i h3 (by omega)) (show b.length < 2147483648 by omega)
    rw [pkb, seqN_eq] at h6 ⊢
    rw [f_X0_packLabels_L11, if_neg (iI_ltF (by omega) (by omega) (by omega)), gi, Option.bind_some, iI_succ]
    by_cases e : gl l i = 0
    · rw [e] at h6 ⊢
      rw [if_pos (show nI 0 = 0 from rfl)]
      exact pkC hv hW m (i + 1) fu v3 v5 v6 (by omega) (by omega) (by omega) h4 h5 h6
    rw [beq_f e, cond_false, seqN_eq] at h6 ⊢
    rw [if_neg (show ¬ nI (gl l i) = 0 from nI_eqF (c := 0) e (by omega) (by omega)), nib (by omega) (by omega)]
    have hy : Nat.land (Nat.shiftRight v5 (Nat.mul 4 (gl l i))) 15 ≤ 15 := Nat.and_le_right
    generalize Nat.land (Nat.shiftRight v5 (Nat.mul 4 (gl l i))) 15 = y at hy h6 ⊢
    by_cases ey : y = 0
    · rw [ey] at h6 ⊢
      rw [show Nat.beq 0 0 = true from rfl, cond_true] at h6 ⊢
      by_cases e6 : 7 ≤ v6
      · rw [Nat.ble_eq_true_of_le e6, cond_true] at h6
        omega
      · have eb : Nat.ble 7 v6 = false := by
          cases e : Nat.ble 7 v6 with
          | false => rfl
          | true => exact absurd (Nat.le_of_ble_eq_true e) e6
        rw [eb, cond_false] at h6 ⊢
        have hs : nI v6 + 1 = nI (v6 + 1) := by rw [nI_iI, iI_succ, ← nI_iI]
        rw [if_pos (show nI 0 = 0 from rfl), hs, or64 (by omega) (by omega), or32 (by omega)]
        refine pkC hv hW m (i + 1) fu _ _ (v6 + 1) (by omega) (by omega) (by omega) ?_ (by omega) h6
        refine Nat.or_lt_two_pow h4 ?_
        show (v6 + 1) <<< (4 * gl l i) < 2 ^ 31
        rw [Nat.shiftLeft_eq]
        have p1 : 2 ^ (4 * gl l i) ≤ 2 ^ 28 := Nat.pow_le_pow_right (by omega) (by omega)
        have p2 : (v6 + 1) * 2 ^ (4 * gl l i) ≤ 7 * 2 ^ 28 := Nat.mul_le_mul (by omega) p1
        omega
    · rw [beq_f ey, cond_false] at h6 ⊢
      rw [if_neg (show ¬ nI y = 0 from nI_eqF (c := 0) ey (by omega) (by omega)), or64 (by omega) (by omega)]
      exact pkC hv hW m (i + 1) fu _ v5 v6 (by omega) (by omega) (by omega) h4 h5 h6
end
