/-! the class decides a cell -/
def XS (sg : Nat) (acc : List Nat) (x : List Int32) : Prop := x.length = 1575 ∧ sg + 21 ≤ 1575 ∧ x[sg]? = some (iI (gl acc 0 + smN acc 21 : Nat)) ∧ ∀ z, 1 ≤ z → z < 21 → x[sg + z]? = some (iI (gl acc z : Nat))
def Gd (rows : List (Nat × List Nat)) : Prop := rows.length ≤ 32 ∧ ∀ x ∈ rows, x.1 < 1152921504606846976
section
variable {N P g v2 fi rc dec sg j p q : Nat} {rows prs : List (Nat × List Nat)} {acc a cs : List Nat} {s so : List Int64} {n no : Int32} {c d x b adj : List Int32} {l : List Nat} {sf : Nat → List Int64 × Int32 × List Int32}
theorem addR_mem : ∀ (rows : List (Nat × List Nat)) (a : List Nat), ∃ y ∈ addR addL rows g a, y.1 = g
  | [], a => ⟨(g, a), by simp [addR], rfl⟩
  | (h, b) :: t, a => by
    rw [addR]
    by_cases e : h = g
    · rw [e, Nat.beq_refl]
      exact ⟨(g, addL b a), by simp, rfl⟩
    · rw [beq_ne e, cond_false]
      obtain ⟨y, hy, hg⟩ := addR_mem t a
      exact ⟨y, List.mem_cons_of_mem _ hy, hg⟩
theorem addToC (hN : 2000 ≤ N) (hd : dec ≤ 1) (hX : XS sg acc x) (hP : RW prs so no d) {y : Nat × List Nat} (hy : prs[j]? = some y) : OK (f_X7_addTo N (iI (sg : Nat)) (iI (j : Nat)) (iI (dec : Nat)) no d x) (fun u => XS sg (addL acc (srcL dec y.2)) u ∧ ∀ i, (i < sg ∨ sg + 21 ≤ i) → u[i]? = x[i]?) := by
  obtain ⟨x1, x2, x3, x4⟩ := hX
  unfold f_X7_addTo
  rw [OK_bind]
  refine OK.mono (addSC (af := fun z => if z = 0 then gl acc 0 + smN acc 21 else gl acc z) (B0 := sg) (Ln := 1575) hN hd x2 (by omega) hP hy x1 (fun z hz => ?_)) ?_
  · by_cases e : z = 0
    · rw [e]; exact x3
    · simp only [if_neg e]
      exact x4 z (by omega) hz
  rintro u ⟨u1, u2, u3⟩
  rw [OK_bind]
  refine OK.mono (addTL (B0 := sg) (Ln := 1575) hd (by omega) (by omega) hP hy (gl acc 0 + smN acc 21 + gl (srcL dec y.2) 0) (21 - dec) 0 N u (by omega) (by omega) u1 (u2 0 (by omega))) ?_
  rintro v ⟨v1, v2, v3⟩
  rw [OK_some]
  refine ⟨⟨v1, x2, ?_, fun z z1 z2 => ?_⟩, fun i hi => ?_⟩
  · rw [v2, ← smN_src hd, gl_add, smN_add]
    congr 2
    omega
  · rw [v3 _ (by omega), u2 z z2, gl_add]
    simp only [if_neg (show ¬ z = 0 by omega)]
  · rw [v3 _ (by omega), u3 i hi]
theorem packC (hN : 2000 ≤ N) (hv : v2 < 20) (hf : fi ≤ v2) (hW : Wn2 fi v2 l b) (h : pkb l (v2 + 1 - fi) fi 0 0 0 < 1152921504606846976) : f_X0_packLabels N (iI (fi : Nat)) (iI (v2 : Nat)) b = some (lN (pkb l (v2 + 1 - fi) fi 0 0 0)) := by
  unfold f_X0_packLabels
  have e := pkC (N := N) hv hW (v2 + 1 - fi) fi N 0 0 0 (by omega) (by omega) (Nat.le_refl _) (by omega) (by omega) h
  rw [show (0 : Int64) = lN 0 from rfl, show (0 : Int32) = nI 0 from rfl, e, Option.bind_some]
/-- what is left after a decision -/
def DcP (p q sg : Nat) (sf : Nat → List Int64 × Int32 × List Int32) (x : List Int32) (st : List (Nat × List Nat) × List Nat) (u : (List Int32) × (List Int32) × (Nat → List Int64 × Int32 × List Int32)) : Prop := u.1.length = 20 ∧ XS sg st.2 u.2.1 ∧ (∀ i, (i < sg ∨ sg + 21 ≤ i) → u.2.1[i]? = x[i]?) ∧ u.2.2 p = sf p ∧ RW st.1 (u.2.2 q).1 (u.2.2 q).2.1 (u.2.2 q).2.2
theorem tailC (hN : 2000 ≤ N) (hv : v2 < 20) (hf : fi ≤ v2) (hfi : fi = v2 - rc) (hd : dec ≤ 1) (hal : adj.length = 20) (hadj : ∀ j, j ≤ v2 → adj[j]? = some (nI (nrP P j))) (hW : Wn2 fi v2 (lab1 P fi v2 g dec) b) (hp : p < 2) (hq : q < 2) (hpq : ¬ p = q) (hX : XS sg acc x) (hP : RW prs (sf p).1 (sf p).2.1 (sf p).2.2) (hC : RW rows (sf q).1 (sf q).2.1 (sf q).2.2) {y : Nat × List Nat} (hy : prs[j]? = some y) (hG : Gd (dc addL (Dt P rc v2 g dec) (srcL dec y.2) (rows, acc)).1) :
    OK ((f_X0_retire N (iI (fi : Nat)) (iI (v2 : Nat)) adj b).bind fun u12 => if u12.1 = 0 then (f_X0_packLabels N (iI (fi : Nat)) (iI (v2 : Nat)) u12.2).bind fun u14 => if q < 2 then if p = q then none else (f_X7_join N u14 (iI (j : Nat)) (iI (dec : Nat)) ((sf q).1) ((sf q).2.1) ((sf p).2.1) ((sf q).2.2) ((sf p).2.2)).bind fun u19 => some (u12.2, x, va_up sf q (u19.1, u19.2.1, u19.2.2)) else none else if u12.1 = 1 then (f_X7_addTo N (iI (sg : Nat)) (iI (j : Nat)) (iI (dec : Nat)) ((sf p).2.1) ((sf p).2.2) x).bind fun u22 => some (u12.2, u22, sf) else some (u12.2, x, sf)) (DcP p q sg sf x (dc addL (Dt P rc v2 g dec) (srcL dec y.2) (rows, acc))) := by
  rw [OK_bind]
  refine OK.mono (retireC hN hv hf hal hadj hW) ?_
  rintro ⟨u1, u2⟩ ⟨a1, a2, a3⟩
  simp only at a1 a3 ⊢
  unfold Dt at hG ⊢
  rw [← hfi] at hG ⊢
  generalize rtL P fi v2 (v2 + 1 - fi) fi (lab1 P fi v2 g dec) = R at a1 a2 a3 hG ⊢
  obtain ⟨cd, l2⟩ := R
  simp only at a1 a2 a3 hG ⊢
  subst a1
  rcases (show cd = 0 ∨ cd = 1 ∨ cd = 2 by omega) with rfl | rfl | rfl
  · rw [show Nat.beq 0 0 = true from rfl, cond_true] at hG ⊢
    unfold dc at hG ⊢
    simp only [show Nat.beq 0 0 = true from rfl, cond_true, seqN_eq] at hG ⊢
    obtain ⟨z, hz, hzg⟩ := addR_mem (g := pkb l2 (v2 + 1 - fi) fi 0 0 0) rows (srcL dec y.2)
    have hlt := hG.2 z hz
    rw [hzg] at hlt
    rw [if_pos (show nI 0 = 0 from rfl), packC hN hv hf a3 hlt, Option.bind_some, if_pos hq, if_neg hpq, OK_bind]
    refine OK.mono (joinS hN hd hC hlt hP hy hG.1) ?_
    rintro w hw
    rw [OK_some]
    refine ⟨a3.1, hX, fun i _ => rfl, ?_, ?_⟩
    · show va_up sf q _ p = sf p
      unfold va_up
      rw [if_neg hpq]
    · show RW _ (va_up sf q _ q).1 (va_up sf q _ q).2.1 (va_up sf q _ q).2.2
      unfold va_up
      rw [if_pos rfl]
      exact hw
  · rw [show Nat.beq 1 0 = false from rfl, cond_false] at hG ⊢
    unfold dc at hG ⊢
    simp only [show Nat.beq 1 0 = false from rfl, show Nat.beq 1 1 = true from rfl, cond_false, cond_true] at hG ⊢
    rw [if_neg (show ¬ nI 1 = 0 by decide), if_pos (show nI 1 = 1 from rfl), OK_bind]
    refine OK.mono (addToC hN hd hX hP hy) ?_
    rintro w ⟨w1, w2⟩
    rw [OK_some]
    exact ⟨a3.1, w1, w2, rfl, hC⟩
  · rw [show Nat.beq 2 0 = false from rfl, cond_false] at hG ⊢
    unfold dc at hG ⊢
    simp only [show Nat.beq 2 0 = false from rfl, show Nat.beq 2 1 = false from rfl, cond_false] at hG ⊢
    rw [if_neg (show ¬ nI 2 = 0 by decide), if_neg (show ¬ nI 2 = 1 by decide), OK_some]
    exact ⟨a3.1, hX, fun i _ => rfl, rfl, hC⟩
end
