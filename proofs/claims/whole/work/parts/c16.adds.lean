/-! the class adds counts -/
def smN (l : List Nat) : Nat → Nat
  | 0 => 0
  | m + 1 => smN l m + gl l m
def srcL (dec : Nat) (cs : List Nat) : List Nat := if dec = 0 then cs else shL cs
section
variable {N g r dec B0 Ln : Nat} {rows prs : List (Nat × List Nat)} {s so : List Int64} {n no : Int32} {c d x : List Int32} {a src cs : List Nat} {af : Nat → Nat}
theorem src_up (hd : dec ≤ 1) (cs : List Nat) (z : Nat) : gl (srcL dec cs) (z + dec) = gl cs z := by
  unfold srcL
  rcases (show dec = 0 ∨ dec = 1 by omega) with rfl | rfl
  · rfl
  · rfl
theorem src_lo (hd : dec ≤ 1) (cs : List Nat) {z : Nat} (hz : z < dec) : gl (srcL dec cs) z = 0 := by
  rcases (show dec = 0 ∨ dec = 1 by omega) with rfl | rfl
  · omega
  · rw [show z = 0 by omega]; rfl
theorem smN_src (hd : dec ≤ 1) (cs : List Nat) : smN (srcL dec cs) 21 = smN cs (21 - dec) := by
  rcases (show dec = 0 ∨ dec = 1 by omega) with rfl | rfl
  · rfl
  · have h : ∀ m, smN (srcL 1 cs) (m + 1) = smN cs m := by
      intro m
      induction m with
      | zero => rfl
      | succ m ih => rw [smN, ih]; rfl
    exact h 20
theorem smN_add (a b : List Nat) : ∀ m, smN (addL a b) m = smN a m + smN b m
  | 0 => rfl
  | m + 1 => by rw [smN, smN, smN, smN_add a b m, gl_add]; omega
theorem addSL (hd : dec ≤ 1) (hB : B0 + 21 ≤ Ln) (hL : Ln < 2000) (hr : r < 32) (hcl : c.length = 672) (hc : ∀ z, z < 21 → c[21 * r + z]? = some (iI (gl cs z : Nat))) : ∀ (m i fu : Nat) (x : List Int32), i + dec + m = 21 → m < fu → x.length = Ln → (∀ z, z < i + dec → x[B0 + z]? = some (iI (af z + gl (srcL dec cs) z : Nat))) → (∀ z, i + dec ≤ z → z < 21 → x[B0 + z]? = some (iI (af z : Nat))) → OK (f_X7_addSizes_L34 N (iI (B0 : Nat)) (iI (r : Nat)) (iI (dec : Nat)) c fu (iI (i : Nat)) x) (fun u => u.length = Ln ∧ (∀ z, z < 21 → u[B0 + z]? = some (iI (af z + gl (srcL dec cs) z : Nat))) ∧ ∀ i, (i < B0 ∨ B0 + 21 ≤ i) → u[i]? = x[i]?)
  | 0, i, fu, x, h1, h2, l1, h3, h4 => by
    obtain ⟨fu, rfl⟩ : ∃ z, fu = z + 1 := ⟨fu - 1, by omega⟩
    rw [f_X7_addSizes_L34, iI_add, if_neg (by rw [show (21 : Int32) = iI 21 from rfl]; exact iI_ltF (by omega) (by omega) (by omega)), OK_some]
    exact ⟨l1, fun z hz => h3 z (by omega), fun i _ => rfl⟩
  | m + 1, i, fu, x, h1, h2, l1, h3, h4 => by
    obtain ⟨fu, rfl⟩ : ∃ z, fu = z + 1 := ⟨fu - 1, by omega⟩
    have e1 : iI ((B0 : Int) + (i : Int) + (dec : Int)) = iI ((B0 + (i + dec) : Nat) : Int) := by congr 1; omega
    have e2 : iI (r : Nat) * 21 + iI (i : Nat) = iI ((21 * r + i : Nat) : Int) := by
      rw [show (21 : Int32) = iI 21 from rfl, iI_mul, iI_add]; congr 1; omega
    rw [f_X7_addSizes_L34, iI_add, if_pos (by rw [show (21 : Int32) = iI 21 from rfl]; exact iI_ltT (by omega) (by omega) (by omega)), e2, iI_add, iI_add, e1, gI (h4 (i + dec) (by omega) (by omega)) (by omega), Option.bind_some, gI (hc i (by omega)) (by omega), Option.bind_some, iI_add, sI (by omega) (by omega), Option.bind_some, iI_succ]
    refine OK.mono (addSL hd hB hL hr hcl hc m (i + 1) fu _ (by omega) (by omega) (by simp [l1]) (fun z hz => ?_) (fun z z1 z2 => ?_)) ?_
    · by_cases e : z = i + dec
      · rw [e, List.getElem?_set_self (by omega), src_up hd]
        rfl
      · rw [List.getElem?_set_ne (by omega)]
        exact h3 z (by omega)
    · rw [List.getElem?_set_ne (by omega)]
      exact h4 z (by omega) z2
    · rintro u ⟨u1, u2, u3⟩
      exact ⟨u1, u2, fun i hi => by rw [u3 i hi, List.getElem?_set_ne (by omega)]⟩
theorem addSC (hN : 2000 ≤ N) (hd : dec ≤ 1) (hB : B0 + 21 ≤ Ln) (hL : Ln < 2000) (hR : RW prs so no c) {j : Nat} {y : Nat × List Nat} (hy : prs[j]? = some y) (hl : x.length = Ln) (hx : ∀ z, z < 21 → x[B0 + z]? = some (iI (af z : Nat))) : OK (f_X7_addSizes N (iI (B0 : Nat)) (iI (j : Nat)) (iI (dec : Nat)) no c x) (fun u => u.length = Ln ∧ (∀ z, z < 21 → u[B0 + z]? = some (iI (af z + gl (srcL dec y.2) z : Nat))) ∧ ∀ i, (i < B0 ∨ B0 + 21 ≤ i) → u[i]? = x[i]?) := by
  have h32 := hR.2.2.2.1
  have hj := lt_of_get hy
  obtain ⟨_, _, q3⟩ := hR.2.2.2.2 j y hy
  unfold f_X7_addSizes
  rw [if_neg (show ¬ iI (j : Nat) < 0 by rw [li0]; exact iI_ltF (by omega) (by omega) (by omega)), if_pos (by rw [hR.2.2.1]; exact iI_ltT (by omega) (by omega) (by omega)), if_neg (show ¬ iI (dec : Nat) < 0 by rw [li0]; exact iI_ltF (by omega) (by omega) (by omega)), if_neg (show ¬ iI (B0 : Nat) < 0 by rw [li0]; exact iI_ltF (by omega) (by omega) (by omega)), if_neg (by rw [oN_iI, show (21 : Int32) = iI 21 from rfl, iI_add]; exact iI_ltF (by omega) (by omega) (by omega)), OK_bind]
  refine OK.mono (addSL hd hB hL (by omega) hR.2.1 q3 (21 - dec) 0 N x (by omega) (by omega) hl (fun z hz => by rw [src_lo hd _ (by omega)]; exact hx z (by omega)) (fun z _ hz => hx z hz)) (fun u hu => by rw [OK_some]; exact hu)
theorem addTL (hd : dec ≤ 1) (hB : B0 < Ln) (hL : Ln < 2000) (hR : RW prs so no c) {j : Nat} {y : Nat × List Nat} (hy : prs[j]? = some y) (T : Nat) : ∀ (m i fu : Nat) (x : List Int32), i + m = 21 - dec → m < fu → x.length = Ln → x[B0]? = some (iI (T + smN y.2 i : Nat)) → OK (f_X7_addTo_L12 N (iI (B0 : Nat)) (iI (j : Nat)) (iI (dec : Nat)) no c fu (iI (i : Nat)) x) (fun u => u.length = Ln ∧ u[B0]? = some (iI (T + smN y.2 (21 - dec) : Nat)) ∧ ∀ i, ¬ i = B0 → u[i]? = x[i]?)
  | 0, i, fu, x, h1, h2, l1, h3 => by
    obtain ⟨fu, rfl⟩ : ∃ z, fu = z + 1 := ⟨fu - 1, by omega⟩
    rw [f_X7_addTo_L12, if_neg (by rw [show (21 : Int32) = iI 21 from rfl, iI_sub]; exact iI_ltF (by omega) (by omega) (by omega)), OK_some]
    exact ⟨l1, by rw [h3, show i = 21 - dec by omega], fun i _ => rfl⟩
  | m + 1, i, fu, x, h1, h2, l1, h3 => by
    obtain ⟨fu, rfl⟩ : ∃ z, fu = z + 1 := ⟨fu - 1, by omega⟩
    have h32 := hR.2.2.2.1
    have hj := lt_of_get hy
    obtain ⟨_, _, q3⟩ := hR.2.2.2.2 j y hy
    have hcl := hR.2.1
    have e2 : iI (j : Nat) * 21 + iI (i : Nat) = iI ((21 * j + i : Nat) : Int) := by
      rw [show (21 : Int32) = iI 21 from rfl, iI_mul, iI_add]; congr 1; omega
    rw [f_X7_addTo_L12, if_pos (by rw [show (21 : Int32) = iI 21 from rfl, iI_sub]; exact iI_ltT (by omega) (by omega) (by omega)), if_neg (show ¬ iI (j : Nat) < 0 by rw [li0]; exact iI_ltF (by omega) (by omega) (by omega)), if_pos (by rw [hR.2.2.1]; exact iI_ltT (by omega) (by omega) (by omega)), if_neg (show ¬ iI (B0 : Nat) < 0 by rw [li0]; exact iI_ltF (by omega) (by omega) (by omega)), if_pos (by rw [oN_iI]; exact iI_ltT (by omega) (by omega) (by omega)), gI h3 (by omega), Option.bind_some, e2, gI (q3 i (by omega)) (by omega), Option.bind_some, iI_add, sI (by omega) (by omega), Option.bind_some, iI_succ]
    refine OK.mono (addTL hd hB hL hR hy T m (i + 1) fu _ (by omega) (by omega) (by simp [l1]) ?_) ?_
    · rw [List.getElem?_set_self (by omega), smN]
      congr 2
      omega
    · rintro u ⟨u1, u2, u3⟩
      exact ⟨u1, u2, fun i hi => by rw [u3 i hi, List.getElem?_set_ne (fun h => hi h.symm)]⟩
theorem joinS (hN : 2000 ≤ N) (hd : dec ≤ 1) (hR : RW rows s n c) (hg : g < 1152921504606846976) (hP : RW prs so no d) {j : Nat} {y : Nat × List Nat} (hy : prs[j]? = some y) (hroom : (addR addL rows g (srcL dec y.2)).length ≤ 32) : OK (f_X7_join N (lN g) (iI (j : Nat)) (iI (dec : Nat)) s n no c d) (fun u => RW (addR addL rows g (srcL dec y.2)) u.1 u.2.1 u.2.2) := by
  unfold f_X7_join
  rw [OK_bind]
  refine OK.mono (rowOfS hN hR hg hroom) ?_
  rintro ⟨u1, u2, u3, u4⟩ ⟨rows1, i, cs0, h1, h2, rfl, h4, h5⟩
  simp only at h1 ⊢
  obtain ⟨_, _, q3⟩ := h1.2.2.2.2 i _ h2
  have hi := lt_of_get h2
  rw [if_neg (show ¬ iI (i : Nat) < 0 by rw [li0]; exact iI_ltF (by omega) (by omega) (by omega)), show iI (i : Nat) * 21 = iI ((21 * i : Nat) : Int) from by rw [show (21 : Int32) = iI 21 from rfl, iI_mul]; congr 1; omega, OK_bind]
  refine OK.mono (addSC (B0 := 21 * i) (Ln := 672) hN hd (by omega) (by omega) hP hy h1.2.1 q3) ?_
  rintro v ⟨v1, v2, v3⟩
  rw [OK_some, h5]
  refine ⟨h1.1, v1, by simp [h1.2.2.1], by simp; exact h1.2.2.2.1, fun i' x' hx' => ?_⟩
  by_cases e : i' = i
  · subst e
    rw [List.getElem?_set_self hi] at hx'
    cases hx'
    obtain ⟨p1, p2, _⟩ := h1.2.2.2.2 i' _ h2
    exact ⟨p1, p2, fun z hz => by rw [v2 z hz, gl_add]⟩
  · rw [List.getElem?_set_ne (fun h => e h.symm)] at hx'
    obtain ⟨p1, p2, p3⟩ := h1.2.2.2.2 i' x' hx'
    exact ⟨p1, p2, fun z hz => by rw [v3 _ (by omega)]; exact p3 z hz⟩
end
