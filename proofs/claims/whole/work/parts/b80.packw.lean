/-! the packed form of a figure and a cell -/
theorem pk63 {h : Nat} {t : List Nat} (hh : h < 128) (ht : t.length ≤ 7) (hb : ∀ b ∈ t, b < 256) : pkK (h :: t) < 2 ^ 63 := by
  have h1 := pkF t (0 * 256 + h) hb
  have h2 : pkK (h :: t) = t.foldl (fun a b => a * 256 + b) (0 * 256 + h) := rfl
  rw [h2]
  refine Nat.lt_of_lt_of_le h1 ?_
  refine Nat.le_trans (Nat.mul_le_mul (show 0 * 256 + h + 1 ≤ 128 by omega) (Nat.pow_le_pow_right (by decide) ht : 256 ^ t.length ≤ 256 ^ 7)) ?_
  decide
theorem insK_no {a : Nat} : ∀ {l : List Nat}, (∀ y ∈ l, ¬ a < y) → insK a l = l ++ [a]
  | [], _ => rfl
  | b :: t, h => by
    show (if a < b then a :: b :: t else b :: insK a t) = b :: (t ++ [a])
    rw [if_neg (h b (by simp)), insK_no (fun y hy => h y (by simp [hy]))]
theorem insK_snoc {a e : Nat} : ∀ {l : List Nat}, (∃ y ∈ l, a < y) → insK a (l ++ [e]) = insK a l ++ [e]
  | [], ⟨y, hy, _⟩ => by simp at hy
  | b :: t, h => by
    show (if a < b then a :: b :: (t ++ [e]) else b :: insK a (t ++ [e])) = (if a < b then a :: b :: t else b :: insK a t) ++ [e]
    by_cases g : a < b
    · rw [if_pos g, if_pos g]; rfl
    · rw [if_neg g, if_neg g, insK_snoc (l := t) (by
        obtain ⟨y, hy, hl⟩ := h
        rcases List.mem_cons.mp hy with rfl | hy
        · exact absurd hl g
        · exact ⟨y, hy, hl⟩)]
      rfl
theorem insK_yes {a e : Nat} : ∀ {l : List Nat}, (∀ y ∈ l, ¬ a < y) → a < e → insK a (l ++ [e]) = l ++ [a] ++ [e]
  | [], _, h => by
    show (if a < e then [a, e] else [e, a]) = _
    rw [if_pos h]; rfl
  | b :: t, hl, h => by
    show (if a < b then a :: b :: (t ++ [e]) else b :: insK a (t ++ [e])) = b :: (t ++ [a] ++ [e])
    rw [if_neg (hl b (by simp)), insK_yes (fun y hy => hl y (by simp [hy])) h]
theorem insK_mem {a y : Nat} : ∀ {l : List Nat}, y ∈ insK a l ↔ (y = a ∨ y ∈ l)
  | [] => by simp [insK]
  | b :: t => by
    show y ∈ (if a < b then a :: b :: t else b :: insK a t) ↔ _
    by_cases g : a < b
    · rw [if_pos g]; simp
    · rw [if_neg g, List.mem_cons, insK_mem, List.mem_cons]
      constructor
      · rintro (h | h | h)
        · exact Or.inr (Or.inl h)
        · exact Or.inl h
        · exact Or.inr (Or.inr h)
      · rintro (h | h | h)
        · exact Or.inr (Or.inl h)
        · exact Or.inl h
        · exact Or.inr (Or.inr h)
theorem insK_len {a : Nat} : ∀ {l : List Nat}, (insK a l).length = l.length + 1
  | [] => rfl
  | b :: t => by
    show (if a < b then a :: b :: t else b :: insK a t).length = _
    by_cases g : a < b
    · rw [if_pos g]; simp
    · rw [if_neg g, List.length_cons, insK_len]; simp
theorem insK_63 {a : Nat} {l : List Nat} (hl : l.length ≤ 7) (hb : ∀ y ∈ l, y < 256) (ha : a < 256) (hne : l ≠ []) (h0 : ∀ y, l[0]? = some y → y < 128) : pkK (insK a l) < 2 ^ 63 := by
  obtain ⟨b, t, rfl⟩ := List.exists_cons_of_ne_nil hne
  have hb0 := h0 b rfl
  have hlen : (b :: t).length = t.length + 1 := rfl
  show pkK (if a < b then a :: b :: t else b :: insK a t) < 2 ^ 63
  by_cases g : a < b
  · rw [if_pos g]
    exact pk63 (by omega) (by omega) hb
  · rw [if_neg g]
    refine pk63 hb0 (by rw [insK_len]; omega) (fun y hy => ?_)
    rcases insK_mem.mp hy with rfl | hy
    · exact ha
    · exact hb y (by simp [hy])
theorem l_orI {a b : Nat} (hb : b < 256) (h : a * 256 + b < 2 ^ 63) : (lN a <<< (Int32.toInt64 8 &&& 63)) ||| Int32.toInt64 (iI (b : Int)) = lN (a * 256 + b) := by
  rw [← nI_iI]
  exact l_or hb h
section
variable {N k : Nat} {X : List Cl} {J : List Int32} {c : Cl}
theorem packW (hN : 100 ≤ N) (h : NF k X) (hl : X.length ≤ 7) (hc : -1 ≤ c.1 ∧ c.1 ≤ 9 ∧ -1 ≤ c.2.1 ∧ c.2.1 ≤ 9) (ht : okT k c.2.2) : f_X2_packedWith N (iI c.1) (iI c.2.1) (iI c.2.2) (X.map cI ++ J) (iI X.length) = some (lN (pck (nrm (X ++ [c])))) := by
  rw [pck_grow h (by omega) hc ht]
  have hb := h.b8 (by omega)
  have h7 : ∀ x ∈ X, okT k x.2.2 ∧ 0 ≤ x.1 ∧ x.1 ≤ 6 ∧ 0 ≤ x.2.1 ∧ x.2.1 ≤ 6 := fun x hx => by
    have h1 := h.1.2.2.2.2 x hx
    have h2 := h.2.2.2.2 x hx
    exact ⟨h1.1, h1.2.1, by omega, h1.2.2.2.1, by omega⟩
  have hB : ∀ x ∈ X, inB k x := fun x hx => by have := h7 x hx; exact ⟨by omega, by omega, by omega, by omega, this.1⟩
  have n1 : 0 ≤ c.1 - mn0 c.1 ∧ c.1 - mn0 c.1 < 10 := by unfold mn0; split <;> omega
  have n2 : 0 ≤ c.2.1 - mn0 c.2.1 ∧ c.2.1 - mn0 c.2.1 < 10 := by unfold mn0; split <;> omega
  have hcB : inB k (sft (mn0 c.1) (mn0 c.2.1) c) := ⟨n1.1, n1.2, n2.1, n2.2, ht⟩
  have hkc := kyN_rng hcB
  have m1 : -1 ≤ mn0 c.1 ∧ mn0 c.1 ≤ 0 := by unfold mn0; split <;> omega
  have m2 : -1 ≤ mn0 c.2.1 ∧ mn0 c.2.1 ≤ 0 := by unfold mn0; split <;> omega
  have hsh : ((shK c : Nat) : Int) = -(2 * mn0 c.1) - 20 * mn0 c.2.1 := by unfold shK; omega
  have hkey : ((keyC c : Nat) : Int) = ky c + (shK c : Nat) := by
    unfold keyC
    rw [hkc.2, hsh]
    unfold ky sft
    simp only
    omega
  have hkb : ∀ x ∈ X, kyN x < 140 ∧ ((kyN x : Nat) : Int) = ky x := fun x hx => by
    have h1 := (kyN_rng (hB x hx)).2
    refine ⟨?_, h1⟩
    have h2 := h7 x hx
    have h3 := okT_rng h2.1
    unfold ky at h1
    omega
  have q1 : (if (-(iI c.1)) < 0 then 0 else -(iI c.1)) = iI (-(mn0 c.1)) := by
    rw [iI_neg, li0]
    unfold mn0
    by_cases g : c.1 < 0
    · rw [if_pos g, if_neg (iI_ltF (by omega) (by omega) (by omega))]
    · rw [if_neg g]
      by_cases g2 : c.1 = 0
      · rw [g2, if_neg (by decide)]
      · rw [if_pos (iI_ltT (by omega) (by omega) (by omega))]; rfl
  have q2 : (if (-(iI c.2.1)) < 0 then 0 else -(iI c.2.1)) = iI (-(mn0 c.2.1)) := by
    rw [iI_neg, li0]
    unfold mn0
    by_cases g : c.2.1 < 0
    · rw [if_pos g, if_neg (iI_ltF (by omega) (by omega) (by omega))]
    · rw [if_neg g]
      by_cases g2 : c.2.1 = 0
      · rw [g2, if_neg (by decide)]
      · rw [if_pos (iI_ltT (by omega) (by omega) (by omega))]; rfl
  unfold f_X2_packedWith
  rw [q1, q2, li0, keyOf_eq, Option.bind_some, keyOf_eq, Option.bind_some, iI_add]
  rw [show 20 * -(mn0 c.2.1) + 2 * -(mn0 c.1) + 0 = ((shK c : Nat) : Int) by rw [hsh]; omega, show 20 * c.2.1 + 2 * c.1 + c.2.2 + ((shK c : Nat) : Int) = ((keyC c : Nat) : Int) by rw [hkey]; rfl]
  have hka : keyC c < 200 := hkc.1
  have hs22 : shK c ≤ 22 := by omega
  have hKl : ∀ (i : Nat) (x : Cl), X[i]? = some x → (X.map kyN).map (fun y => y + shK c) = ((X.map kyN).map (fun y => y + shK c)).take i ++ (kyN x + shK c) :: ((X.map kyN).map (fun y => y + shK c)).drop (i + 1) := fun i x hx => by
    have : ((X.map kyN).map (fun y => y + shK c))[i]? = some (kyN x + shK c) := by rw [List.getElem?_map, List.getElem?_map, hx]; rfl
    obtain ⟨h1, h2⟩ := List.getElem?_eq_some_iff.mp this
    rw [← h2, List.getElem_cons_drop, List.take_append_drop]
  have hlen : ((X.map kyN).map (fun y => y + shK c)).length = X.length := by simp
  have hall : ∀ y ∈ (X.map kyN).map (fun y => y + shK c), y < 256 := fun y hy => by
    obtain ⟨z, hz, rfl⟩ := List.mem_map.mp hy
    obtain ⟨x, hx, rfl⟩ := List.mem_map.mp hz
    have := (hkb x hx).1
    omega
  have h00 : ∀ y, ((X.map kyN).map (fun y => y + shK c))[0]? = some y → y < 128 := fun y hy => by
    rw [List.getElem?_map, List.getElem?_map] at hy
    cases hx : X[0]? with
    | none => rw [hx] at hy; simp at hy
    | some x =>
      rw [hx] at hy
      simp at hy
      have h1 := h.first hx
      have h2 := h7 x (List.mem_of_getElem? hx)
      have h3 := okT_rng h2.1
      have h4 := (hkb x (List.mem_of_getElem? hx)).2
      unfold ky at h4
      omega
  generalize hK : (X.map kyN).map (fun y => y + shK c) = K at hKl hlen hall h00
  have tk : ∀ (i : Nat) (x : Cl), X[i]? = some x → K.take (i + 1) = K.take i ++ [kyN x + shK c] := fun i x hx => by
    have h1 := hKl i x hx
    have hi := lt_of_get hx
    have h2 : (K.take i).length = i := by rw [List.length_take]; omega
    conv => lhs; rw [h1]
    rw [List.take_append, h2, List.take_of_length_le (by omega), show i + 1 - i = 1 by omega]
    rfl
  have key : OK (f_X2_packedWith_L38 N (iI ((shK c : Nat) : Int)) (iI ((keyC c : Nat) : Int)) (X.map cI ++ J) (iI X.length) N 0 0 0) (fun w => ((∀ y ∈ K, ¬ keyC c < y) ∧ w = (0, lN (pkK K))) ∨ ((∃ y ∈ K, keyC c < y) ∧ w = (1, lN (pkK (insK (keyC c) K))))) := by
    refine zlp3 X.length (fun i f v z => z = iI i ∧ (((∀ y ∈ K.take i, ¬ keyC c < y) ∧ f = 0 ∧ v = lN (pkK (K.take i))) ∨ ((∃ y ∈ K.take i, keyC c < y) ∧ f = 1 ∧ v = lN (pkK (insK (keyC c) (K.take i)))))) ?_ N 0 _ _ _ (by omega) (by omega) ⟨rfl, Or.inl ⟨fun y hy => by simp at hy, rfl, rfl⟩⟩
    rintro fu i f v z hi ⟨rfl, hst⟩ ih
    rw [f_X2_packedWith_L38]
    rcases Nat.lt_or_ge i X.length with g | g
    · obtain ⟨x, hx⟩ := gL g
      have hxm := List.mem_of_getElem? hx
      have hg : (X.map cI ++ J)[(i : Int).toNat]? = some (cI x) := by rw [Int.toNat_natCast]; exact rc_get? hx
      have hxb := hkb x hxm
      have hxe : 20 * x.2.1 + 2 * x.1 + x.2.2 + ((shK c : Nat) : Int) = ((kyN x + shK c : Nat) : Int) := by
        have := hxb.2
        unfold ky at this
        omega
      have hnx : kyN x + shK c < 256 := by omega
      have tki := tk i x hx
      have hti : (K.take i).length = i := by rw [List.length_take]; omega
      have hati : ∀ y ∈ K.take i, y < 256 := fun y hy => hall y (List.mem_of_mem_take hy)
      have hat1 : ∀ y ∈ K.take (i + 1), y < 256 := fun y hy => hall y (List.mem_of_mem_take hy)
      have hne1 : K.take (i + 1) ≠ [] := by rw [tki]; simp
      have h01 : ∀ y, (K.take (i + 1))[0]? = some y → y < 128 := fun y hy => by
        rw [List.getElem?_take, if_pos (by omega)] at hy
        exact h00 y hy
      have hl1 : (K.take (i + 1)).length ≤ 7 := by rw [List.length_take]; omega
      have hi63 : pkK (insK (keyC c) (K.take (i + 1))) < 2 ^ 63 := insK_63 hl1 hat1 (by omega) hne1 h01
      have hp63 : pkK (K.take (i + 1)) < 2 ^ 63 := by
        refine Nat.lt_of_lt_of_le (pkK_lt hat1) (Nat.le_trans (Nat.pow_le_pow_right (by decide) hl1) (by decide))
      rw [if_pos (iI_ltT (by omega) (by omega) (by omega)), keyAt_eq (by omega) (by omega) (by omega) hg (h.1.ok x hxm), Option.bind_some, iI_add, hxe, iI_succ]
      rcases hst with ⟨hno, rfl, rfl⟩ | ⟨hyes, rfl, rfl⟩
      · rw [if_pos rfl]
        by_cases e : keyC c < kyN x + shK c
        · rw [if_pos (iI_ltT (by omega) (by omega) (by omega))]
          have e1 : insK (keyC c) (K.take (i + 1)) = K.take i ++ [keyC c] ++ [kyN x + shK c] := by rw [tki]; exact insK_yes hno e
          rw [e1, pkK_app] at hi63
          have hi2 : pkK (K.take i ++ [keyC c]) < 2 ^ 63 := by omega
          rw [pkK_app] at hi2
          rw [l_orI (by omega) hi2, ← pkK_app, l_orI hnx hi63, ← pkK_app, ← e1]
          exact ih g _ _ _ ⟨rfl, Or.inr ⟨⟨_, by rw [tki]; simp, e⟩, rfl, rfl⟩⟩
        · rw [if_neg (iI_ltF (by omega) (by omega) (by omega))]
          rw [tki, pkK_app] at hp63
          rw [l_orI hnx hp63, ← pkK_app, ← tki]
          refine ih g _ _ _ ⟨rfl, Or.inl ⟨fun y hy => ?_, rfl, rfl⟩⟩
          rw [tki] at hy
          rcases List.mem_append.mp hy with hy | hy
          · exact hno y hy
          · rw [List.mem_singleton.mp hy]; exact e
      · rw [if_neg (by decide)]
        have e1 : insK (keyC c) (K.take (i + 1)) = insK (keyC c) (K.take i) ++ [kyN x + shK c] := by rw [tki]; exact insK_snoc hyes
        rw [e1, pkK_app] at hi63
        rw [l_orI hnx hi63, ← pkK_app, ← e1]
        refine ih g _ _ _ ⟨rfl, Or.inr ⟨?_, rfl, rfl⟩⟩
        obtain ⟨y, hy, hl⟩ := hyes
        exact ⟨y, by rw [tki]; exact List.mem_append_left _ hy, hl⟩
    · have e0 : i = X.length := by omega
      subst e0
      rw [if_neg (iI_ltF (by omega) (by omega) (by omega)), OK_some]
      rw [← hlen, List.take_length] at hst
      rcases hst with ⟨h1, rfl, rfl⟩ | ⟨h1, rfl, rfl⟩
      · exact Or.inl ⟨h1, rfl⟩
      · exact Or.inr ⟨h1, rfl⟩
  obtain ⟨w, hw, hcase⟩ := key
  have hne : K ≠ [] := fun e => by
    have := h.1.2.1.1
    rw [e] at hlen
    exact this (List.length_eq_zero_iff.mp hlen.symm)
  have h63 := insK_63 (a := keyC c) (l := K) (by omega) hall (by omega) hne h00
  rw [show (iI 0 : Int32) = 0 from rfl, hw, Option.bind_some]
  unfold grK
  rw [hK]
  rcases hcase with ⟨h1, rfl⟩ | ⟨h1, rfl⟩
  · rw [if_pos rfl, insK_no h1, pkK_app]
    rw [insK_no h1, pkK_app] at h63
    rw [l_orI (by omega) h63]
  · rw [if_neg (show ¬ (1 : Int32) = 0 by decide)]
end
