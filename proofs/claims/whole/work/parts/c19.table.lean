/-! the class's table of a block -/
def SL (sf : Nat → List Int64 × Int32 × List Int32) : Prop := ∀ j, j < 2 → (sf j).1.length = 32 ∧ (sf j).2.2.length = 672
section
variable {N P g v2 rc n dec sg j p q : Nat} {rows prs : List (Nat × List Nat)} {acc a : List Nat} {x b adj : List Int32} {sf : Nat → List Int64 × Int32 × List Int32}
theorem okR_g : ∀ (r : List (Nat × Nat)) (m : Nat), okR r m = true → r.length ≤ m ∧ ∀ x ∈ r, x.1 < 1152921504606846976
  | [], m, _ => ⟨by simp, by simp⟩
  | (g, a) :: t, m, h => by
    rw [okR] at h
    cases e1 : Nat.ble 1152921504606846976 g with
    | true => rw [e1] at h; cases h
    | false =>
      rw [e1, cond_false] at h
      cases e2 : Nat.beq m 0 with
      | true => rw [e2] at h; cases h
      | false =>
        rw [e2, cond_false] at h
        have ih := okR_g t _ h
        have hm : 1 ≤ m := by
          rcases Nat.eq_zero_or_pos m with rfl | h
          · cases e2
          · exact h
        have hg : g < 1152921504606846976 := by
          rcases Nat.lt_or_ge g 1152921504606846976 with h | h
          · exact h
          · rw [Nat.ble_eq_true_of_le h] at e1; cases e1
        have h9 : t.length ≤ m - 1 := ih.1
        refine ⟨by simp; omega, fun x hx => ?_⟩
        rcases List.mem_cons.mp hx with rfl | hx
        · exact hg
        · exact ih.2 x hx
theorem okR_Gd (h : okR (mpR (pkL 1) rows) 32 = true) : Gd rows := by
  obtain ⟨h1, h2⟩ := okR_g _ _ h
  refine ⟨by unfold mpR at h1; simpa using h1, fun x hx => ?_⟩
  exact h2 (x.1, pkL 1 x.2) (List.mem_map.mpr ⟨x, hx, rfl⟩)
theorem okD_s {m : Nat} (h : okD P rc (m + 1) v2 (mpR (pkL 1) rows) (pkL 1 acc) = true) : Gd (stp addL shL P rc v2 rows ([], acc)).1 ∧ okD P rc m (v2 + 1) (mpR (pkL 1) (stp addL shL P rc v2 rows ([], acc)).1) (pkL 1 (stp addL shL P rc v2 rows ([], acc)).2) = true := by
  have hh := stp_hom (P := P) (rc := rc) (v2 := v2) (φ := pkL 1) (add := addL) (sh := shL) (add' := Nat.add) (sh' := fun a => a) pkL_add (fun a => by rw [pkL_sh, Nat.one_mul]) rows ([], acc)
  rw [okD] at h
  rw [show stp Nat.add (fun a => a) P rc v2 (mpR (pkL 1) rows) ([], pkL 1 acc) = (mpR (pkL 1) (stp addL shL P rc v2 rows ([], acc)).1, pkL 1 (stp addL shL P rc v2 rows ([], acc)).2) from hh.symm] at h
  simp only at h
  cases e : okR (mpR (pkL 1) (stp addL shL P rc v2 rows ([], acc)).1) 32 with
  | false => rw [e] at h; cases h
  | true => rw [e] at h; exact ⟨okR_Gd e, h⟩
theorem RW_nil (h : SL sf) (hq : q < 2) : RW [] (sf q).1 0 (sf q).2.2 := ⟨(h q hq).1, (h q hq).2, rfl, by simp, fun i x hx => by simp at hx⟩
theorem tabL (hN : 2000 ≤ N) (hn : n ≤ 20) (hrc : rc ≤ 20) (hal : adj.length = 20) (hadj : ∀ j, j < n → adj[j]? = some (nI (nrP P j))) : ∀ (m v2 fu p q : Nat) (b x : List Int32) (sf : Nat → List Int64 × Int32 × List Int32) (prs : List (Nat × List Nat)) (acc : List Nat), v2 + m = n → m < fu → p < 2 → q < 2 → ¬ p = q → b.length = 20 → SL sf → XS sg acc x → RW prs (sf p).1 (sf p).2.1 (sf p).2.2 → okD P rc m v2 (mpR (pkL 1) prs) (pkL 1 acc) = true → OK (f_X0_decideAll_L16 N (iI (sg : Nat)) adj (iI (n : Nat)) (iI (rc : Nat)) fu (iI (v2 : Nat)) b p q x sf) (fun u => u.1.length = 20 ∧ (u.2.1 < 2 ∧ u.2.2.1 < 2 ∧ ¬ u.2.1 = u.2.2.1) ∧ XS sg (dpA addL shL P rc m v2 prs acc) u.2.2.2.1 ∧ (∀ i, (i < sg ∨ sg + 21 ≤ i) → u.2.2.2.1[i]? = x[i]?) ∧ SL u.2.2.2.2)
  | 0, v2, fu, p, q, b, x, sf, prs, acc, h1, h2, hp, hq, hpq, hb, hS, hX, hP, hO => by
    obtain ⟨fu, rfl⟩ : ∃ z, fu = z + 1 := ⟨fu - 1, by omega⟩
    rw [f_X0_decideAll_L16, if_neg (iI_ltF (by omega) (by omega) (by omega)), OK_some]
    exact ⟨hb, ⟨hp, hq, hpq⟩, hX, fun i _ => rfl, hS⟩
  | m + 1, v2, fu, p, q, b, x, sf, prs, acc, h1, h2, hp, hq, hpq, hb, hS, hX, hP, hO => by
    obtain ⟨fu, rfl⟩ : ∃ z, fu = z + 1 := ⟨fu - 1, by omega⟩
    obtain ⟨o1, o2⟩ := okD_s hO
    have h32 := hP.2.2.2.1
    unfold f_X0_decideAll_L16 f_X7_clear
    rw [if_pos (iI_ltT (by omega) (by omega) (by omega)), if_pos hq, Option.bind_some, OK_bind]
    have ep : (va_up sf q ((sf q).1, 0, (sf q).2.2)) p = sf p := by unfold va_up; rw [if_neg hpq]
    have eq' : (va_up sf q ((sf q).1, 0, (sf q).2.2)) q = ((sf q).1, 0, (sf q).2.2) := by unfold va_up; rw [if_pos rfl]
    have hall := allL (N := N) (prs := prs) (sg := sg) hN (show v2 < 20 by omega) hrc hal (fun j hj => hadj j (by omega)) hp hq hpq prs.length 0 N b x (va_up sf q ((sf q).1, 0, (sf q).2.2)) [] acc (by omega) (by omega) hb hX (by rw [ep]; exact hP) (by rw [eq']; exact RW_nil hS hq) (by rw [List.drop_zero]; exact o1)
    rw [List.drop_zero] at hall
    refine OK.mono hall ?_
    rintro ⟨u1, u2, u3⟩ ⟨a1, a2, a3, a4, a5⟩
    simp only at a1 a2 a3 a4 a5 ⊢
    have hS3 : SL u3 := fun j hj => by
      by_cases e : j = q
      · rw [e]; exact ⟨a5.1, a5.2.1⟩
      · have e2 : j = p := by omega
        rw [e2, a4, ep]
        exact hS p hp
    rw [iI_succ]
    refine OK.mono (tabL hN hn hrc hal hadj m (v2 + 1) fu q p u1 u2 u3 _ _ (by omega) (by omega) hq hp (fun h => hpq h.symm) a1 hS3 a2 a5 o2) ?_
    rintro w ⟨w1, w2, w3, w4, w5⟩
    exact ⟨w1, w2, w3, fun i hi => by rw [w4 i hi, a3 i hi], w5⟩
theorem tableC (hN : 2000 ≤ N) (hn : n ≤ 20) (hrc : rc ≤ 20) (hal : adj.length = 20) (hadj : ∀ j, j < n → adj[j]? = some (nI (nrP P j))) (hp : p < 2) (hq : q < 2) (hpq : ¬ p = q) (hb : b.length = 20) (hS : SL sf) (hX : XS sg [] x) (hO : okD P rc n 0 [(0, 1)] 0 = true) : OK (f_X0_decideAll N (iI (sg : Nat)) adj b p q (iI (n : Nat)) (iI (rc : Nat)) x sf) (fun u => u.1.length = 20 ∧ (u.2.1 < 2 ∧ u.2.2.1 < 2 ∧ ¬ u.2.1 = u.2.2.1) ∧ XS sg (dpL P rc n) u.2.2.2.1 ∧ (∀ i, (i < sg ∨ sg + 21 ≤ i) → u.2.2.2.1[i]? = x[i]?) ∧ SL u.2.2.2.2) := by
  unfold f_X0_decideAll f_X7_clear
  rw [if_pos hp, Option.bind_some]
  have ep : (va_up sf p ((sf p).1, (0 : Int32), (sf p).2.2)) p = ((sf p).1, 0, (sf p).2.2) := by unfold va_up; rw [if_pos rfl]
  rw [ep]
  unfold f_X7_startEmpty
  simp only
  have hr := rowOfS (N := N) (g := 0) (a := []) hN (RW_nil hS hp) (by omega) (by simp [addR])
  rw [show (0 : Int64) = lN 0 from rfl, OK_bind, OK_bind]
  refine OK.mono hr ?_
  rintro ⟨u1, u2, u3, u4⟩ ⟨rows1, j, cs0, r1, r2, rfl, r4, r5⟩
  simp only at r1 ⊢
  have e5 := r5 [1]
  have hj := lt_of_get r2
  have e0 : rows1.length = 1 := by
    have := congrArg List.length e5
    simpa [addR] using this.symm
  have hj0 : j = 0 := by omega
  subst hj0
  rw [if_neg (show ¬ iI ((0 : Nat) : Int) < 0 by decide), show iI ((0 : Nat) : Int) * 21 = iI ((0 : Nat) : Int) by decide, sI (by rw [r1.2.1]; decide) (by rw [r1.2.1]; decide), Option.bind_some, OK_some, OK_bind]
  have hcs : ∀ z, gl cs0 z = 0 := by
    have e6 := r5 []
    obtain ⟨y, rfl⟩ := List.length_eq_one_iff.mp e0
    simp [addR] at e6
    have : addL cs0 [] = cs0 := by cases cs0 <;> rfl
    rw [this] at e6
    intro z
    rw [e6]
    rfl
  have hRW : RW [(0, [1])] u2 u3 (u4.set 0 1) := by
    refine ⟨r1.1, by simp [r1.2.1], by rw [r1.2.2.1, e0]; rfl, by simp, fun i x hx => ?_⟩
    have hi := lt_of_get hx
    simp at hi
    subst hi
    cases hx
    obtain ⟨p1, p2, p3⟩ := r1.2.2.2.2 0 _ r2
    refine ⟨by omega, p2, fun z hz => ?_⟩
    by_cases e : z = 0
    · rw [e, List.getElem?_set_self (by rw [r1.2.1]; decide)]
      rfl
    · rw [List.getElem?_set_ne (by omega), p3 z hz, hcs]
      obtain ⟨z', rfl⟩ : ∃ z', z = z' + 1 := ⟨z - 1, by omega⟩
      rfl
  have hS2 : SL (va_up (va_up sf p ((sf p).1, (0 : Int32), (sf p).2.2)) p (u2, u3, u4.set 0 1)) := fun i hi => by
    unfold va_up
    by_cases e : i = p
    · rw [if_pos e]; exact ⟨hRW.1, hRW.2.1⟩
    · rw [if_neg e, if_neg e]; exact hS i hi
  have e7 : (va_up (va_up sf p ((sf p).1, (0 : Int32), (sf p).2.2)) p (u2, u3, u4.set 0 1)) p = (u2, u3, u4.set 0 1) := by unfold va_up; rw [if_pos rfl]
  refine OK.mono (tabL hN hn hrc hal hadj n 0 N p q b x _ [(0, [1])] [] (by omega) (by omega) hp hq hpq hb hS2 hX (by rw [e7]; exact hRW) hO) ?_
  intro w hw
  rw [OK_some]
  exact hw
end
