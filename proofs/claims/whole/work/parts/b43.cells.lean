theorem rc_get {L : List Cl} {J : List Int32} {i : Nat} (h : i < L.length) : (L.map cI ++ J)[i]? = some (cI L[i]) := by
  rw [List.getElem?_append_left (by simpa using h), List.getElem?_map, List.getElem?_eq_getElem h]
  rfl
theorem iI_succ (i : Nat) : iI (i : Int) + 1 = iI ((i + 1 : Nat) : Int) := by
  rw [show (1 : Int32) = iI 1 from rfl, iI_add]
  rfl
theorem cI_eq {a b : Cl} (ha : ok32 a) (hb : ok32 b) : (cI a = cI b) = (a = b) := by
  have h1 := cd_rng ha
  have h2 := cd_rng hb
  unfold cI
  rw [iI_eq (by omega) (by omega) (by omega) (by omega)]
  exact propext ⟨cd_inj ha hb, fun h => by rw [h]⟩
theorem itr_copy {α : Type} (d : List α) (z : α) : ∀ (m i : Nat) (t : List α), i + m ≤ d.length → i + m ≤ t.length → itr (fun j (t : List α) => t.set j (d.getD j z)) i m t = t.take i ++ ((d.drop i).take m ++ t.drop (i + m))
  | 0, i, t, _, _ => by simp [itr]
  | m + 1, i, t, h1, h2 => by
    rw [itr, itr_copy d z m (i + 1) _ (by omega) (by rw [List.length_set]; omega)]
    have e1 : (t.set i (d.getD i z)).take (i + 1) = t.take i ++ [d.getD i z] := by
      rw [List.take_set, List.take_succ_eq_append_getElem (by omega), List.set_append_right _ _ (by simp; omega)]
      simp
      rw [Nat.min_eq_left (by omega), Nat.sub_self]
      rfl
    have e2 : (d.drop i).take (m + 1) = d.getD i z :: (d.drop (i + 1)).take m := by
      rw [List.drop_eq_getElem_cons (by omega), List.take_succ_cons, List.getD_eq_getElem?_getD, List.getElem?_eq_getElem (by omega)]
      rfl
    have e3 : (t.set i (d.getD i z)).drop (i + 1 + m) = t.drop (i + (m + 1)) := by
      rw [List.drop_set_of_lt (by omega), show i + 1 + m = i + (m + 1) by omega]
    rw [e1, e2, e3]
    simp
section
variable {N : Nat} {L : List Cl} {J : List Int32} {c : Cl}
theorem find_eq (hN : L.length < N) (hl : L.length < 2147483647) (hok : ∀ x ∈ L, ok32 x) (hc : ok32 c) :
    (c ∉ L ∧ f_X2_find N (iI c.1) (iI c.2.1) (iI c.2.2) (L.map cI ++ J) (iI L.length) = some (iI (-1))) ∨ (∃ j, j < L.length ∧ L[j]? = some c ∧ f_X2_find N (iI c.1) (iI c.2.1) (iI c.2.2) (L.map cI ++ J) (iI L.length) = some (iI j)) := by
  have key := loop_find (f := fun fu i => f_X2_find_L11 N (cI c) (L.map cI ++ J) (iI L.length) fu (iI (i : Int))) (fun i => decide (L[i]? = some c)) L.length (fun i => Sum.inr (iI i)) (Sum.inl ())
    (fun fu i hi => by
      show f_X2_find_L11 N (cI c) (L.map cI ++ J) (iI L.length) (fu + 1) (iI (i : Int)) = _
      rw [f_X2_find_L11, if_pos (iI_ltT (by omega) (by omega) (by omega)), z_get_iI (by omega) (by omega), Int.toNat_natCast, rc_get hi]
      show (if cI L[i] = cI c then some (Sum.inr (iI (i : Int))) else f_X2_find_L11 N (cI c) (L.map cI ++ J) (iI L.length) fu (iI (i : Int) + 1)) = _
      rw [iI_succ]
      by_cases e : L[i] = c
      · rw [if_pos (by rw [e]), if_pos (by rw [List.getElem?_eq_getElem hi, e]; simp)]
      · rw [if_neg (by rw [cI_eq (hok _ (List.getElem_mem hi)) hc]; exact e), if_neg (by rw [List.getElem?_eq_getElem hi]; simpa using e)])
    (fun fu => by
      show f_X2_find_L11 N (cI c) (L.map cI ++ J) (iI L.length) (fu + 1) (iI (L.length : Int)) = _
      rw [f_X2_find_L11, if_neg (iI_ltF (by omega) (by omega) (by omega))])
    N 0 (Nat.zero_le _) (by omega)
  have e : f_X2_find N (iI c.1) (iI c.2.1) (iI c.2.2) (L.map cI ++ J) (iI L.length) = (f_X2_find_L11 N (cI c) (L.map cI ++ J) (iI L.length) N (iI ((0 : Nat) : Int))).bind fun o6 => Sum.elim (fun _ => some (-1)) (fun u7 => some u7) o6 := by
    unfold f_X2_find
    rw [codeOf_eq]
    rfl
  rcases key with ⟨j, h1, h2, h3, h4, h5⟩ | ⟨h1, h2⟩
  · refine Or.inr ⟨j, h2, of_decide_eq_true h3, ?_⟩
    rw [e, h5]
    rfl
  · refine Or.inl ⟨fun hm => ?_, ?_⟩
    · obtain ⟨j, hj⟩ := List.mem_iff_getElem?.mp hm
      have hlt := (List.getElem?_eq_some_iff.mp hj).1
      have := h1 j (Nat.zero_le _) hlt
      rw [hj] at this
      simp at this
    · rw [e, h2]
      rfl
theorem isFull_eq {T : List Int32} {n : Nat} (hT : T.length < 2147483648) (hn : n < 2147483648) : f_X2_isFull N T (iI n) = some (if n < T.length then 0 else 1) := by
  unfold f_X2_isFull
  rw [oN_iI]
  by_cases h : n < T.length
  · rw [if_pos (iI_ltT (by omega) (by omega) (by omega)), if_pos h]
  · rw [if_neg (iI_ltF (by omega) (by omega) (by omega)), if_neg h]
theorem add_eq {x : Int32} (hl : L.length + J.length < 2147483647) : f_X2_add N (iI c.1) (iI c.2.1) (iI c.2.2) (L.map cI ++ x :: J) (iI L.length) = some ((L ++ [c]).map cI ++ J, iI ((L ++ [c]).length : Nat)) := by
  unfold f_X2_add
  rw [oN_iI, if_pos (iI_ltT (by simp; omega) (by omega) (by simp; omega)), codeOf_eq]
  show ((z_set (L.map cI ++ x :: J) (iI (L.length : Int)) (cI c)).bind fun t3 => some (t3, iI (L.length : Int) + 1)) = _
  rw [z_set_iI (by omega) (by omega) (by simp), Int.toNat_natCast, iI_succ]
  show some (_, _) = _
  rw [List.set_append_right _ _ (by simp)]
  simp
theorem copy_eq {T : List Int32} {M : List Cl} (hM : M.length ≤ T.length) (hN : M.length < N) (hl : T.length < 2147483647) : f_X2_copy N T (M.map cI ++ J) (iI M.length) = some (M.map cI ++ T.drop M.length, iI M.length) := by
  unfold f_X2_copy
  have e0 : (if Int32.ofNat T.length < iI (M.length : Int) then Int32.ofNat T.length else iI (M.length : Int)) = iI (M.length : Int) := by
    rw [oN_iI, if_neg (iI_ltF (by omega) (by omega) (by omega))]
  rw [e0]
  have key := loop_run (f := fun fu i t => f_X2_copy_L18 N (iI M.length) (M.map cI ++ J) fu (iI (i : Int)) t) (fun i t => t.set i ((M.map cI ++ J).getD i 0)) id M.length (fun _ t => t.length = T.length)
    (fun fu i t hi ht => by
      show f_X2_copy_L18 N (iI M.length) (M.map cI ++ J) (fu + 1) (iI (i : Int)) t = _
      rw [f_X2_copy_L18, if_pos (iI_ltT (by omega) (by omega) (by omega)), z_get_iI (by omega) (by omega), Int.toNat_natCast, rc_get hi]
      show ((z_set t (iI (i : Int)) (cI M[i])).bind fun t3 => f_X2_copy_L18 N (iI M.length) (M.map cI ++ J) fu (iI (i : Int) + 1) t3) = _
      rw [z_set_iI (by omega) (by omega) (by simp; omega), Int.toNat_natCast, iI_succ]
      show f_X2_copy_L18 N (iI M.length) (M.map cI ++ J) fu (iI ((i + 1 : Nat) : Int)) (t.set i (cI M[i])) = _
      rw [List.getD_eq_getElem?_getD, rc_get hi]
      rfl)
    (fun i t hi ht => by rw [List.length_set]; exact ht)
    (fun fu t ht => by
      show f_X2_copy_L18 N (iI M.length) (M.map cI ++ J) (fu + 1) (iI (M.length : Int)) t = _
      rw [f_X2_copy_L18, if_neg (iI_ltF (by omega) (by omega) (by omega))]
      rfl)
    N 0 T rfl (Nat.zero_le _) (by omega)
  have k1 := key.1
  rw [Nat.sub_zero, itr_copy _ _ _ _ _ (by simp) (by omega)] at k1
  show ((f_X2_copy_L18 N (iI M.length) (M.map cI ++ J) N (iI ((0 : Nat) : Int)) T).bind fun e4 => some (e4, iI (M.length : Int))) = _
  rw [k1]
  simp
end
