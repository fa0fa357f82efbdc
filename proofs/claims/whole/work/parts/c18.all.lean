/-! the class decides all rows -/
section
variable {N P g v2 rc dec sg j p q : Nat} {rows prs : List (Nat × List Nat)} {acc a : List Nat} {x b adj : List Int32} {sf : Nat → List Int64 × Int32 × List Int32} {st : List (Nat × List Nat) × List Nat} {o : Nat × Nat}
theorem addR_len : ∀ (rows : List (Nat × List Nat)) (a : List Nat), rows.length ≤ (addR addL rows g a).length ∧ ∀ x ∈ rows, ∃ y ∈ addR addL rows g a, y.1 = x.1
  | [], a => ⟨by simp, by simp⟩
  | (h, b) :: t, a => by
    rw [addR]
    by_cases e : h = g
    · rw [e, Nat.beq_refl, cond_true]
      refine ⟨by simp, fun x hx => ?_⟩
      rcases List.mem_cons.mp hx with rfl | hx
      · exact ⟨_, List.mem_cons_self, rfl⟩
      · exact ⟨x, List.mem_cons_of_mem _ hx, rfl⟩
    · rw [beq_ne e, cond_false]
      have ih := addR_len t a
      refine ⟨by simp; exact ih.1, fun x hx => ?_⟩
      rcases List.mem_cons.mp hx with rfl | hx
      · exact ⟨_, List.mem_cons_self, rfl⟩
      · obtain ⟨y, hy, e⟩ := ih.2 x hx
        exact ⟨y, List.mem_cons_of_mem _ hy, e⟩
theorem Gd_addR (h : Gd (addR addL rows g a)) : Gd rows := by
  have hl := addR_len (g := g) rows a
  refine ⟨Nat.le_trans hl.1 h.1, fun x hx => ?_⟩
  obtain ⟨y, hy, e⟩ := hl.2 x hx
  rw [← e]
  exact h.2 y hy
theorem Gd_dc (h : Gd (dc addL o a st).1) : Gd st.1 := by
  unfold dc at h
  cases e : Nat.beq o.1 0 with
  | true =>
    rw [e] at h
    simp only [cond_true, seqN_eq] at h
    exact Gd_addR h
  | false =>
    rw [e] at h
    simp only [cond_false] at h
    cases e2 : Nat.beq o.1 1 with
    | true => rw [e2] at h; exact h
    | false => rw [e2] at h; exact h
theorem Gd_stp : ∀ (r : List (Nat × List Nat)) (st : List (Nat × List Nat) × List Nat), Gd (stp addL shL P rc v2 r st).1 → Gd st.1
  | [], st, h => h
  | (g, a) :: t, st, h => by
    rw [stp] at h
    exact Gd_dc (Gd_dc (Gd_stp t _ h))
theorem decC (hN : 2000 ≤ N) (hv : v2 < 20) (hrc : rc ≤ 20) (hd : dec ≤ 1) (hal : adj.length = 20) (hadj : ∀ j, j ≤ v2 → adj[j]? = some (nI (nrP P j))) (hb : b.length = 20) (hp : p < 2) (hq : q < 2) (hpq : ¬ p = q) (hX : XS sg acc x) (hP : RW prs (sf p).1 (sf p).2.1 (sf p).2.2) (hC : RW rows (sf q).1 (sf q).2.1 (sf q).2.2) {y : Nat × List Nat} (hy : prs[j]? = some y) (hG : Gd (dc addL (Dt P rc v2 y.1 dec) (srcL dec y.2) (rows, acc)).1) :
    OK (f_X0_decide N (iI (j : Nat)) (iI (v2 : Nat)) (iI (dec : Nat)) (iI (sg : Nat)) adj b p q (iI (rc : Nat)) x sf) (DcP p q sg sf x (dc addL (Dt P rc v2 y.1 dec) (srcL dec y.2) (rows, acc))) := by
  have h32 := hP.2.2.2.1
  have hj := lt_of_get hy
  obtain ⟨q1, q2, q3⟩ := hP.2.2.2.2 j y hy
  have h63 : (2 : Nat) ^ 63 = 9223372036854775808 := by decide
  have efi : (if (0 : Int32) < (iI (v2 : Nat) - iI (rc : Nat)) then iI (v2 : Nat) - iI (rc : Nat) else 0) = iI ((v2 - rc : Nat) : Int) := by
    rw [iI_sub, li0]
    by_cases e : rc < v2
    · rw [if_pos (iI_ltT (by omega) (by omega) (by omega))]; congr 1; omega
    · rw [if_neg (iI_ltF (by omega) (by omega) (by omega)), show v2 - rc = 0 by omega]; rfl
  have hsi : f_X7_sightAt N (iI (j : Nat)) ((sf p).1) ((sf p).2.1) = some (lN y.1) := by
    unfold f_X7_sightAt
    rw [if_neg (show ¬ iI (j : Nat) < 0 by rw [li0]; exact iI_ltF (by omega) (by omega) (by omega)), if_pos (by rw [hP.2.2.1]; exact iI_ltT (by omega) (by omega) (by omega)), gI q2 (by rw [hP.1]; decide), Option.bind_some]
  unfold f_X0_decide
  rw [if_pos hp, hsi, Option.bind_some, efi, OK_bind]
  refine OK.mono (rd_W (by omega) hv (by omega) hN hb) ?_
  intro u8 h8
  rw [OK_bind]
  refine OK.mono h8 ?_
  intro t9 h9
  rcases (show dec = 0 ∨ dec = 1 by omega) with rfl | rfl
  · rw [if_neg (show ¬ iI ((0 : Nat) : Int) = 1 by decide)]
    exact tailC (dec := 0) hN hv (by omega) rfl hd hal hadj (show Wn2 (v2 - rc) v2 (lab1 P (v2 - rc) v2 y.1 0) t9 from h9) hp hq hpq hX hP hC hy hG
  · rw [if_pos (show iI ((1 : Nat) : Int) = 1 from rfl), OK_bind]
    refine OK.mono (joinC hN hv (by omega) hal (hadj v2 (Nat.le_refl _)) nrP_lt h9) ?_
    intro u11 h11
    exact tailC (dec := 1) hN hv (by omega) rfl hd hal hadj (show Wn2 (v2 - rc) v2 (lab1 P (v2 - rc) v2 y.1 1) u11 from h11) hp hq hpq hX hP hC hy hG
theorem allL (hN : 2000 ≤ N) (hv : v2 < 20) (hrc : rc ≤ 20) (hal : adj.length = 20) (hadj : ∀ j, j ≤ v2 → adj[j]? = some (nI (nrP P j))) (hp : p < 2) (hq : q < 2) (hpq : ¬ p = q) : ∀ (m j fu : Nat) (b x : List Int32) (sf : Nat → List Int64 × Int32 × List Int32) (rows : List (Nat × List Nat)) (acc : List Nat), j + m = prs.length → m < fu → b.length = 20 → XS sg acc x → RW prs (sf p).1 (sf p).2.1 (sf p).2.2 → RW rows (sf q).1 (sf q).2.1 (sf q).2.2 → Gd (stp addL shL P rc v2 (prs.drop j) (rows, acc)).1 → OK (f_X0_decideAll_L33 N (iI (sg : Nat)) (iI (v2 : Nat)) adj p q (iI (rc : Nat)) fu (iI (j : Nat)) b x sf) (DcP p q sg sf x (stp addL shL P rc v2 (prs.drop j) (rows, acc)))
  | 0, j, fu, b, x, sf, rows, acc, h1, h2, hb, hX, hP, hC, hG => by
    obtain ⟨fu, rfl⟩ : ∃ z, fu = z + 1 := ⟨fu - 1, by omega⟩
    have h32 := hP.2.2.2.1
    rw [f_X0_decideAll_L33, if_pos hp, if_neg (by rw [hP.2.2.1]; exact iI_ltF (by omega) (by omega) (by omega)), OK_some, List.drop_of_length_le (by omega)]
    exact ⟨hb, hX, fun i _ => rfl, rfl, hC⟩
  | m + 1, j, fu, b, x, sf, rows, acc, h1, h2, hb, hX, hP, hC, hG => by
    obtain ⟨fu, rfl⟩ : ∃ z, fu = z + 1 := ⟨fu - 1, by omega⟩
    have h32 := hP.2.2.2.1
    obtain ⟨y, hy⟩ := gL (show j < prs.length by omega)
    have hdr : prs.drop j = y :: prs.drop (j + 1) := by
      obtain ⟨hlt, he⟩ := List.getElem?_eq_some_iff.mp hy
      rw [List.drop_eq_getElem_cons hlt, he]
    obtain ⟨gy, cy⟩ := y
    rw [hdr, stp] at hG ⊢
    have hG1 := Gd_stp _ _ hG
    have hG0 := Gd_dc hG1
    rw [f_X0_decideAll_L33, if_pos hp, if_pos (by rw [hP.2.2.1]; exact iI_ltT (by omega) (by omega) (by omega)), OK_bind]
    have d0 := decC (dec := 0) hN hv hrc (by omega) hal hadj hb hp hq hpq hX hP hC hy hG0
    refine OK.mono d0 ?_
    rintro ⟨u1, u2, u3⟩ ⟨a1, a2, a3, a4, a5⟩
    simp only at a1 a2 a3 a4 a5 ⊢
    rw [OK_bind]
    have hP1 : RW prs (u3 p).1 (u3 p).2.1 (u3 p).2.2 := by rw [a4]; exact hP
    have d1 := decC (dec := 1) hN hv hrc (by omega) hal hadj a1 hp hq hpq a2 hP1 a5 hy hG1
    refine OK.mono d1 ?_
    rintro ⟨w1, w2, w3⟩ ⟨b1, b2, b3, b4, b5⟩
    simp only at b1 b2 b3 b4 b5 ⊢
    have hP2 : RW prs (w3 p).1 (w3 p).2.1 (w3 p).2.2 := by rw [b4]; exact hP1
    rw [iI_succ]
    refine OK.mono (allL hN hv hrc hal hadj hp hq hpq m (j + 1) fu w1 w2 w3 _ _ (by omega) (by omega) b1 b2 hP2 b5 hG) ?_
    rintro v ⟨c1, c2, c3, c4, c5⟩
    exact ⟨c1, c2, fun i hi => by rw [c3 i hi, b3 i hi, a3 i hi], by rw [c4, b4, a4], c5⟩
end
