/-- small keys, that fit into one number -/
def kk (L : List Cl) : Prop := L.length ≤ 8 ∧ (∀ c ∈ L, 0 ≤ ky c ∧ ky c < 256) ∧ (∀ c, L[0]? = some c → ky c < 128)
theorem pkF : ∀ (L : List Nat) (a : Nat), (∀ b ∈ L, b < 256) → L.foldl (fun a b => a * 256 + b) a < (a + 1) * 256 ^ L.length
  | [], a, _ => by simp
  | x :: L, a, h => by
    have h1 := pkF L (a * 256 + x) (fun b hb => h b (List.mem_cons_of_mem _ hb))
    have h2 := h x (by simp)
    rw [List.foldl_cons, List.length_cons, Nat.pow_succ]
    refine Nat.lt_of_lt_of_le h1 ?_
    rw [Nat.mul_comm (256 ^ L.length) 256, ← Nat.mul_assoc]
    exact Nat.mul_le_mul_right _ (by omega)
theorem pck_lt {L : List Cl} (h : kk L) : pck L < 2 ^ 63 := by
  obtain ⟨h1, h2, h3⟩ := h
  cases L with
  | nil => decide
  | cons c L =>
    have hc := h3 c rfl
    have hc2 := h2 c (by simp)
    have e : pck (c :: L) = (L.map (fun c => (ky c).toNat)).foldl (fun a b => a * 256 + b) (ky c).toNat := by
      unfold pck pkK
      simp
    rw [e]
    refine Nat.lt_of_lt_of_le (pkF _ _ (fun b hb => ?_)) ?_
    · obtain ⟨y, hy, rfl⟩ := List.mem_map.mp hb
      have := h2 y (by simp [hy])
      omega
    · rw [List.length_map]
      have hl : L.length ≤ 7 := by simpa using h1
      have a1 : 256 ^ L.length ≤ 256 ^ 7 := Nat.pow_le_pow_right (by decide) hl
      have a2 : (ky c).toNat + 1 ≤ 128 := by omega
      calc ((ky c).toNat + 1) * 256 ^ L.length ≤ 128 * 256 ^ 7 := Nat.mul_le_mul a2 a1
        _ = 2 ^ 63 := by decide
theorem kk_take {L : List Cl} (h : kk L) (i : Nat) : kk (L.take i) := by
  obtain ⟨h1, h2, h3⟩ := h
  refine ⟨by simp; omega, fun c hc => h2 c (List.mem_of_mem_take hc), fun c hc => ?_⟩
  rw [List.getElem?_take] at hc
  split at hc
  · exact h3 c hc
  · cases hc
theorem pck_next {L : List Cl} {i : Nat} {c : Cl} (h : L[i]? = some c) : pck (L.take (i + 1)) = pck (L.take i) * 256 + (ky c).toNat := by
  unfold pck
  rw [tk_next h, List.map_append]
  exact pkK_app _ _
section
variable {N k : Nat} {L : List Cl} {q r t d J : List Int32}
theorem iI_toNat {z : Int} (h : 0 ≤ z) : iI z = nI z.toNat := by
  rw [nI_iI, Int.toNat_of_nonneg h]
theorem mPacks (hm : MR L q r t) (hN : 20 ≤ N) (hk : kk L) : f_X12_packs N (iI L.length) q r t = some (lN (pck L)) := by
  suffices h : OK (f_X12_packs N (iI L.length) q r t) (fun u => u = lN (pck L)) by
    obtain ⟨a, e, rfl⟩ := h; exact e
  unfold f_X12_packs
  have hl := hm.2.2.2.1
  rw [OK_bind]
  refine zlp2 L.length (fun i a v => v = iI i ∧ a = lN (pck (L.take i))) ?_ N 0 _ _ (by omega) (by omega) ⟨rfl, rfl⟩
  rintro fu i a v hi ⟨rfl, rfl⟩ ih
  rw [f_X12_packs_L4]
  rcases Nat.lt_or_ge i L.length with h | h
  · obtain ⟨x, hx⟩ := gL h
    have hxk := hk.2.1 x (List.mem_of_getElem? hx)
    rw [if_pos (iI_ltT (by omega) (by omega) (by omega)), mKeyOf hm hx]
    simp only [Option.bind_some]
    have hp := pck_lt (kk_take hk (i + 1))
    rw [pck_next hx] at hp
    rw [iI_toNat hxk.1, l_or (by omega) hp, ← pck_next hx, iI_succ]
    exact ih h _ _ ⟨rfl, rfl⟩
  · have e : i = L.length := by omega
    subst e
    rw [if_neg (iI_ltF (by omega) (by omega) (by omega)), OK_some, OK_some, List.take_length]
theorem packed_eq (hN : 20 ≤ N) (hk : kk L) (hok : ∀ c ∈ L, ok32 c) : f_X2_packed N (L.map cI ++ J) (iI L.length) = some (lN (pck L)) := by
  suffices h : OK (f_X2_packed N (L.map cI ++ J) (iI L.length)) (fun u => u = lN (pck L)) by
    obtain ⟨a, e, rfl⟩ := h; exact e
  unfold f_X2_packed
  have hl := hk.1
  rw [OK_bind]
  refine zlp2 L.length (fun i a v => v = iI i ∧ a = lN (pck (L.take i))) ?_ N 0 _ _ (by omega) (by omega) ⟨rfl, rfl⟩
  rintro fu i a v hi ⟨rfl, rfl⟩ ih
  rw [f_X2_packed_L4]
  rcases Nat.lt_or_ge i L.length with h | h
  · obtain ⟨x, hx⟩ := gL h
    have hxk := hk.2.1 x (List.mem_of_getElem? hx)
    have hg : (L.map cI ++ J)[(i : Int).toNat]? = some (cI x) := by
      rw [Int.toNat_natCast, rc_get h]
      obtain ⟨_, e⟩ := List.getElem?_eq_some_iff.mp hx
      rw [e]
    rw [if_pos (iI_ltT (by omega) (by omega) (by omega)), keyAt_eq (by omega) (by omega) (by omega) hg (hok x (List.mem_of_getElem? hx))]
    simp only [Option.bind_some]
    have hp := pck_lt (kk_take hk (i + 1))
    rw [pck_next hx] at hp
    rw [show 20 * x.2.1 + 2 * x.1 + x.2.2 = ky x from rfl, iI_toNat hxk.1, l_or (by omega) hp, ← pck_next hx, iI_succ]
    exact ih h _ _ ⟨rfl, rfl⟩
  · have e : i = L.length := by omega
    subst e
    rw [if_neg (iI_ltF (by omega) (by omega) (by omega)), OK_some, OK_some, List.take_length]
/-- the figure of a number comes into the arrays -/
theorem mFigure (hN : 20 ≤ N) (hk : kk L) (hb : ∀ c ∈ L, inB k c) (h1 : q.length = 16) (h2 : r.length = 16) (h3 : t.length = 16) : OK (f_X12_takesFigure N (lN (pck L)) (iI L.length) q r t) (fun u => u.1 = iI L.length ∧ MR L u.2.1 u.2.2.1 u.2.2.2) := by
  unfold f_X12_takesFigure
  have hl := hk.1
  rw [OK_bind]
  refine zlp5 L.length (fun i a v q r t => v = iI ((L.length : Int) - 1 - i) ∧ a = lN (pck (L.take (L.length - i))) ∧ q.length = 16 ∧ r.length = 16 ∧ t.length = 16 ∧ ∀ (j : Nat) (c : Cl), L.length - i ≤ j → L[j]? = some c → q[j]? = some (iI c.1) ∧ r[j]? = some (iI c.2.1) ∧ t[j]? = some (iI c.2.2)) ?_ N 0 _ _ _ _ _ (by omega) (by omega) ⟨?_, ?_, h1, h2, h3, ?_⟩
  case refine_2 => rw [li1, iI_sub]; congr 1; omega
  case refine_3 => simp
  case refine_4 => intro j c hj hc; have := lt_of_get hc; omega
  rintro fu i a v q r t hi ⟨rfl, rfl, h1, h2, h3, h4⟩ ih
  rw [f_X12_takesFigure_L13]
  rcases Nat.lt_or_ge i L.length with h | h
  · obtain ⟨j, hj⟩ : ∃ j, L.length - i = j + 1 := ⟨L.length - i - 1, by omega⟩
    obtain ⟨x, hx⟩ := gL (show j < L.length by omega)
    have hxb := hb x (List.mem_of_getElem? hx)
    have hr := ky_rng hxb
    have hp := pck_lt (kk_take hk (j + 1))
    have e1 : iI ((L.length : Int) - 1 - i) = iI (j : Int) := by congr 1; omega
    rw [hj, e1, li0, if_neg (iI_ltF (by omega) (by omega) (by omega)), l_and hp, l_toI32, l_ushr hp]
    have e2 : pck (L.take (j + 1)) % 256 = (ky x).toNat := by rw [pck_next hx]; omega
    have e3 : pck (L.take (j + 1)) / 256 = pck (L.take j) := by rw [pck_next hx]; omega
    rw [e2, e3, ← iI_toNat hr.1, mKey (x := ky x) (i := j) hr.1 (by omega) h1 h2 h3 (by omega)]
    simp only [Option.bind_some]
    rw [kc_ky hxb]
    refine ih h _ _ _ _ _ ⟨?_, ?_, by simp [h1], by simp [h2], by simp [h3], fun m c hm hc => ?_⟩
    · rw [li1, iI_neg, iI_add]; congr 1; omega
    · rw [show L.length - (i + 1) = j by omega]
    · by_cases e : j = m
      · subst e
        rw [hx] at hc
        cases hc
        exact ⟨st0 (by omega), st0 (by omega), st0 (by omega)⟩
      · obtain ⟨a, b, c⟩ := h4 m c (by omega) hc
        exact ⟨st1 a e, st1 b e, st1 c e⟩
  · have e : i = L.length := by omega
    subst e
    rw [li0, if_pos (iI_ltT (by omega) (by omega) (by omega)), OK_some, OK_some]
    exact ⟨rfl, h1, h2, h3, by omega, fun j c hc => h4 j c (by omega) hc⟩
/-- a neighbour is added unless it is there -/
theorem mAdds (hm : MR L q r t) (hd : DK k d) (hN : 20 ≤ N) (hok : ∀ x ∈ L, ok32 x) (hl : L.length < 16) {i e : Nat} {c : Cl} (hc : L[i]? = some c) (ht : okT k c.2.2) (he : e < dg k) (hn : ok32 (nb k c e)) :
    OK (f_X12_adds N (iI i) (iI e) d (iI L.length) q r t) (fun u => (nb k c e ∈ L ∧ u.1 = 0 ∧ u.2.1 = iI L.length ∧ MR L u.2.2.1 u.2.2.2.1 u.2.2.2.2) ∨ (nb k c e ∉ L ∧ u.1 = 1 ∧ u.2.1 = iI ((L ++ [nb k c e]).length : Nat) ∧ MR (L ++ [nb k c e]) u.2.2.1 u.2.2.2.1 u.2.2.2.2)) := by
  unfold f_X12_adds
  have hs := mStep (N := N) (e := (e : Int)) hd ht (by omega) (by omega)
  rw [hm.gq hc, hm.gr hc, hm.gt hc]
  simp only [Option.bind_some]
  rw [hs.1, hs.2, mSide hd ht]
  simp only [Option.bind_some]
  rw [iI_add, iI_add, OK_bind]
  refine (mFind hm hN hok (c := nb k c e) hn).mono (fun u hu => ?_)
  rcases hu with ⟨h1, rfl⟩ | ⟨j, h1, rfl⟩
  · rw [li0, if_pos (iI_ltT (by omega) (by omega) (by omega)), hm.sq hl, hm.sr hl, hm.st hl]
    simp only [Option.bind_some]
    rw [OK_some]
    refine Or.inr ⟨h1, rfl, ?_, ?_⟩
    · show iI (L.length : Int) + 1 = _
      rw [iI_succ]; simp
    · exact hm.push (nb k c e) hl
  · have := lt_of_get h1
    rw [li0, if_neg (iI_ltF (by omega) (by omega) (by omega)), OK_some]
    exact Or.inl ⟨List.mem_of_getElem? h1, rfl, rfl, hm⟩
/-- the class's row of a packed number -/
theorem unpack_eq {T : List Int32} (hN : 20 ≤ N) (hk : kk L) (hb : ∀ c ∈ L, inB k c) (hT : L.length ≤ T.length) (hT2 : T.length < 1000) : f_X2_unpack N (lN (pck L)) (iI L.length) T = some (L.map cI ++ T.drop L.length, iI L.length) := by
  suffices h : OK (f_X2_unpack N (lN (pck L)) (iI L.length) T) (fun u => u = (L.map cI ++ T.drop L.length, iI L.length)) by
    obtain ⟨a, e, rfl⟩ := h; exact e
  unfold f_X2_unpack
  have hl := hk.1
  have e0 : (if (Int32.ofNat T.length) < iI L.length then Int32.ofNat T.length else iI L.length) = iI L.length := by
    rw [oN_iI, if_neg (iI_ltF (by omega) (by omega) (by omega))]
  have e00 : (if 0 < iI L.length then iI L.length else 0) = iI L.length := by
    by_cases h : L.length = 0
    · rw [h]; rfl
    · rw [li0, if_pos (iI_ltT (by omega) (by omega) (by omega))]
  rw [e0, e00, OK_bind]
  refine zlp3 L.length (fun i a v T' => v = iI ((L.length : Int) - 1 - i) ∧ a = lN (pck (L.take (L.length - i))) ∧ T' = T.take (L.length - i) ++ (L.drop (L.length - i)).map cI ++ T.drop L.length) ?_ N 0 _ _ _ (by omega) (by omega) ⟨?_, ?_, ?_⟩
  case refine_2 => rw [li1, iI_sub]; congr 1; omega
  case refine_3 => simp
  case refine_4 => simp
  rintro fu i a v T' hi ⟨rfl, rfl, rfl⟩ ih
  rw [f_X2_unpack_L28]
  rcases Nat.lt_or_ge i L.length with h | h
  · obtain ⟨j, hj⟩ : ∃ j, L.length - i = j + 1 := ⟨L.length - i - 1, by omega⟩
    have hjl : j < L.length := by omega
    obtain ⟨x, hx⟩ := gL hjl
    have hxb := hb x (List.mem_of_getElem? hx)
    have hr := ky_rng hxb
    have hp := pck_lt (kk_take hk (j + 1))
    have e1 : iI ((L.length : Int) - 1 - i) = iI (j : Int) := by congr 1; omega
    rw [hj, e1, li0, if_neg (iI_ltF (by omega) (by omega) (by omega)), l_and hp, l_toI32, l_shr hp]
    have e2 : pck (L.take (j + 1)) % 256 = (ky x).toNat := by rw [pck_next hx]; omega
    have e3 : pck (L.take (j + 1)) / 256 = pck (L.take j) := by rw [pck_next hx]; omega
    rw [e2, e3, ← iI_toNat hr.1, li20, li2, iI_rem hr.1 (by omega) (by decide) (by decide), iI_div (by omega) (by omega) (by decide) (by decide), iI_div hr.1 (by omega) (by decide) (by decide), iI_and _ 1 (by decide) (by decide), codeOf_eq]
    simp only [Option.bind_some]
    have ekc : ((ky x % 20 / 2, ky x / 20, ky x % 2 ^ 1) : Cl) = x := kc_ky hxb
    rw [ekc, sI (by simp; omega) (by simp; omega)]
    simp only [Option.bind_some]
    refine ih h _ _ _ ⟨?_, ?_, ?_⟩
    · rw [li1, iI_neg, iI_add]; congr 1; omega
    · rw [show L.length - (i + 1) = j by omega]
    · rw [show L.length - (i + 1) = j by omega]
      obtain ⟨w, ex⟩ := List.getElem?_eq_some_iff.mp hx
      rw [List.take_succ_eq_append_getElem (by omega : j < T.length), List.drop_eq_getElem_cons hjl, ex, List.append_assoc, List.append_assoc, List.set_append_right _ _ (by simp; omega)]
      have : j - (T.take j).length = 0 := by simp; omega
      rw [this]
      simp
  · have e : i = L.length := by omega
    subst e
    rw [li0, if_pos (iI_ltT (by omega) (by omega) (by omega)), OK_some, OK_some]
    simp
end
