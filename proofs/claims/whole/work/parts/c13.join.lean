/-! the class joins labels -/
section
variable {N P fi v2 i g x y A : Nat} {l : List Nat} {b adj : List Int32}
theorem nI_eqF {a c : Nat} (h : ¬ a = c) (h1 : a ≤ 1000) (h2 : c ≤ 1000) : ¬ nI a = nI c := by
  rw [nI_iI, nI_iI]
  exact iI_eqF (by omega) (by omega) (by omega) (by omega) (by omega)
theorem jn52 (hv : v2 < 20) (hl : ∀ i, gl l i ≤ 7) (hx0 : ¬ x = 0) (hx7 : x ≤ 7) (h7 : gl l v2 = 7) : ∀ (m i fu : Nat) (b : List Int32), i + m = v2 → m < fu → fi ≤ i → b.length = 20 → (∀ j, fi ≤ j → j < i → b[j]? = some (nI (gl (rep x l) j))) → (∀ j, i ≤ j → j ≤ v2 → b[j]? = some (nI (gl l j))) → OK (f_X0_join_L52 N (iI (v2 : Nat)) (nI x) fu (iI (i : Nat)) b) (fun u => u.length = 20 ∧ ∀ j, fi ≤ j → j ≤ v2 → u[j]? = some (nI (gl (rep x l) j)))
  | 0, i, fu, b, h1, h2, h3, l1, ha, hb => by
    obtain ⟨fu, rfl⟩ : ∃ z, fu = z + 1 := ⟨fu - 1, by omega⟩
    rw [f_X0_join_L52, if_neg (iI_ltF (by omega) (by omega) (by omega)), OK_some]
    refine ⟨l1, fun j j1 j2 => ?_⟩
    by_cases e : j < i
    · exact ha j j1 e
    · have e2 : j = v2 := by omega
      rw [hb j (by omega) j2, gl_rep hx0, e2, h7]
      split <;> rfl
  | m + 1, i, fu, b, h1, h2, h3, l1, ha, hb => by
    obtain ⟨fu, rfl⟩ : ∃ z, fu = z + 1 := ⟨fu - 1, by omega⟩
    have gi := gI (hb i (Nat.le_refl _) (by omega)) (show b.length < 2147483648 by omega)
    have next : ∀ y : Nat, gl (rep x l) i = y → OK (f_X0_join_L52 N (iI (v2 : Nat)) (nI x) fu (iI ((i + 1 : Nat) : Int)) (b.set i (nI y))) (fun u => u.length = 20 ∧ ∀ j, fi ≤ j → j ≤ v2 → u[j]? = some (nI (gl (rep x l) j))) := by
      intro y hy
      refine jn52 hv hl hx0 hx7 h7 m (i + 1) fu _ (by omega) (by omega) (by omega) (by simp [l1]) (fun j j1 j2 => ?_) (fun j j1 j2 => ?_)
      · by_cases e : j = i
        · rw [e, List.getElem?_set_self (by omega), hy]
        · rw [List.getElem?_set_ne (fun h => e h.symm)]
          exact ha j j1 (by omega)
      · rw [List.getElem?_set_ne (by omega)]
        exact hb j (by omega) j2
    have hli := hl i
    rw [f_X0_join_L52, if_pos (iI_ltT (by omega) (by omega) (by omega)), gi, Option.bind_some]
    by_cases e : gl l i = x
    · rw [if_pos (by rw [e]), sI (by omega) (by omega), Option.bind_some, iI_succ]
      exact next 7 (by rw [gl_rep hx0, if_pos e])
    · rw [if_neg (nI_eqF e (by omega) (by omega)), Option.bind_some, sI (by omega) (by omega), Option.bind_some, iI_succ]
      exact next _ (by rw [gl_rep hx0, if_neg e])
theorem rep_W (hW : Wn2 fi v2 l b) (hx0 : ¬ x = 0) {b' : List Int32} (h : b'.length = 20 ∧ ∀ j, fi ≤ j → j ≤ v2 → b'[j]? = some (nI (gl (rep x l) j))) : Wn2 fi v2 (rep x l) b' := ⟨h.1, by rw [rep_len]; exact hW.2.1, fun i => by
  have := hW.2.2.1 i
  rw [gl_rep hx0]
  split <;> omega, h.2⟩
theorem jn10 (hN : 2000 ≤ N) (hv : v2 < 20) (hal : adj.length = 20) (hadj : adj[v2]? = some (nI A)) (hA : A < 1048576) : ∀ (m i fu : Nat) (l : List Nat) (b : List Int32), i + m = v2 → m < fu → fi ≤ i → Wn2 fi v2 l b → gl l v2 = 7 → OK (f_X0_join_L10 N (iI (fi : Nat)) (iI (v2 : Nat)) adj fu (iI (i : Nat)) b) (fun u => Wn2 fi v2 (jnL A m i l) u)
  | 0, i, fu, l, b, h1, h2, h3, hW, h7 => by
    obtain ⟨fu, rfl⟩ : ∃ z, fu = z + 1 := ⟨fu - 1, by omega⟩
    rw [f_X0_join_L10, if_neg (iI_ltF (by omega) (by omega) (by omega)), OK_some]
    exact hW
  | m + 1, i, fu, l, b, h1, h2, h3, hW, h7 => by
    obtain ⟨fu, rfl⟩ : ∃ z, fu = z + 1 := ⟨fu - 1, by omega⟩
    have hl1 := hW.1
    have gi := gI (hW.2.2.2 i h3 (by omega)) (show b.length < 2147483648 by omega)
    have hli := hW.2.2.1 i
    have ga := gI hadj (show adj.length < 2147483648 by omega)
    rw [f_X0_join_L10, if_pos (iI_ltT (by omega) (by omega) (by omega)), gi, Option.bind_some, iI_succ, jnL, seqN_eq]
    by_cases e0 : gl l i = 0
    · rw [if_pos (by rw [e0]; rfl), e0]
      exact jn10 hN hv hal hadj hA m (i + 1) fu l b (by omega) (by omega) (by omega) hW h7
    rw [if_neg (show ¬ nI (gl l i) = 0 from nI_eqF (c := 0) e0 (by omega) (by omega)), beq_f e0, cond_false]
    by_cases e7 : gl l i = 7
    · rw [if_pos (by rw [e7]; rfl), e7]
      exact jn10 hN hv hal hadj hA m (i + 1) fu l b (by omega) (by omega) (by omega) hW h7
    have e7b : Nat.beq (gl l i) 7 = false := by
      cases e : Nat.beq (gl l i) 7 with
      | false => rfl
      | true => exact absurd (Nat.eq_of_beq_eq_true e) e7
    rw [if_neg (show ¬ nI (gl l i) = 7 from nI_eqF (c := 7) e7 (by omega) (by omega)), e7b, cond_false, ga, Option.bind_some, tb0]
    cases hb : A.testBit i with
    | false =>
      rw [if_neg (by rw [bit_1 (by omega) (by omega), hb]; simp)]
      exact jn10 hN hv hal hadj hA m (i + 1) fu l b (by omega) (by omega) (by omega) hW h7
    | true =>
      rw [if_pos (by rw [bit_1 (by omega) (by omega), hb]), OK_bind]
      refine OK.mono (jn52 (fi := fi) hv hW.2.2.1 e0 hli h7 (v2 - fi) fi N b (by omega) (by omega) (Nat.le_refl _) hl1 (fun j j1 j2 => by omega) (fun j j1 j2 => hW.2.2.2 j j1 j2)) ?_
      intro u hu
      exact jn10 hN hv hal hadj hA m (i + 1) fu (rep (gl l i) l) u (by omega) (by omega) (by omega) (rep_W hW e0 hu) (by rw [gl_rep e0, h7]; split <;> rfl)
theorem joinC (hN : 2000 ≤ N) (hv : v2 < 20) (hf : fi ≤ v2) (hal : adj.length = 20) (hadj : adj[v2]? = some (nI A)) (hA : A < 1048576) (hW : Wn2 fi v2 l b) : OK (f_X0_join N (iI (fi : Nat)) (iI (v2 : Nat)) adj b) (fun u => Wn2 fi v2 (jnL A (v2 - fi) fi (l.set v2 7)) u) := by
  have hl1 := hW.1
  have hl2 := hW.2.1
  unfold f_X0_join
  rw [sI (by omega) (by omega), Option.bind_some, OK_bind]
  refine OK.mono (jn10 hN hv hal hadj hA (v2 - fi) fi N (l.set v2 7) (b.set v2 7) (by omega) (by omega) (Nat.le_refl _) ⟨by simp [hl1], by simp [hl2], fun i => ?_, fun i i1 i2 => ?_⟩ (by rw [gl_set _ _ _ _ (by omega), if_pos rfl])) (fun u hu => by rw [OK_some]; exact hu)
  · rw [gl_set _ _ _ _ (by omega)]
    have := hW.2.2.1 i
    split <;> omega
  · rw [gl_set _ _ _ _ (by omega)]
    by_cases e : v2 = i
    · rw [if_pos e, e, List.getElem?_set_self (by omega)]; rfl
    · rw [if_neg e, List.getElem?_set_ne e]
      exact hW.2.2.2 i i1 i2
end
