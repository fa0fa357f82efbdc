section
variable {N k : Nat} {L : List Cl} {q r t d : List Int32}
theorem mnl_cons {b x : Int} {t : List Int} (h : x < b) : mnl b (x :: t) = mnl x t := by
  show mnl (if x < b then x else b) t = _
  rw [if_pos h]
theorem mSet (hm : MR L q r t) (hN : 20 ≤ N) (hne : L ≠ []) (hok : ∀ x ∈ L, ok32 x) (hsh : ∀ x ∈ L, ok32 (sft (mnQ L) (mnR L) x)) : OK (f_X12_settles N (iI L.length) q r t) (fun u => MR (nrm L) u.1 u.2.1 u.2.2) := by
  unfold f_X12_settles
  have hl := hm.2.2.2.1
  obtain ⟨x0, L', rfl⟩ := List.exists_cons_of_ne_nil hne
  have g0 : (x0 :: L')[0]? = some x0 := rfl
  have z0 : (0 : Int32) = iI ((0 : Nat) : Int) := rfl
  rw [z0, hm.gq g0, hm.gr g0]
  simp only [Option.bind_some]
  have o0 := hok x0 (by simp)
  have eQ : mnQ (x0 :: L') = mnl x0.1 (L'.map (fun c => c.1)) := by
    unfold mnQ
    rw [List.map_cons, mnl_cons (by have := o0.2.1; omega)]
  have eR : mnR (x0 :: L') = mnl x0.2.1 (L'.map (fun c => c.2.1)) := by
    unfold mnR
    rw [List.map_cons, mnl_cons (by have := o0.2.2.2.1; omega)]
  have bQ : ∀ j, -32 ≤ mnl x0.1 ((L'.take j).map (fun c => c.1)) ∧ mnl x0.1 ((L'.take j).map (fun c => c.1)) < 32 := fun j => by
    obtain ⟨h1, h2, h3⟩ := mnl_le ((L'.take j).map (fun c => c.1)) x0.1
    obtain ⟨p1, p2, -⟩ := o0
    refine ⟨?_, by omega⟩
    rcases h3 with h3 | h3
    · omega
    · obtain ⟨y, hy, e⟩ := List.mem_map.mp h3
      have := (hok y (List.mem_cons_of_mem _ (List.mem_of_mem_take hy))).1
      omega
  have bR : ∀ j, -32 ≤ mnl x0.2.1 ((L'.take j).map (fun c => c.2.1)) ∧ mnl x0.2.1 ((L'.take j).map (fun c => c.2.1)) < 32 := fun j => by
    obtain ⟨h1, h2, h3⟩ := mnl_le ((L'.take j).map (fun c => c.2.1)) x0.2.1
    obtain ⟨-, -, p1, p2, -⟩ := o0
    refine ⟨?_, by omega⟩
    rcases h3 with h3 | h3
    · omega
    · obtain ⟨y, hy, e⟩ := List.mem_map.mp h3
      have := (hok y (List.mem_cons_of_mem _ (List.mem_of_mem_take hy))).2.2.1
      omega
  have hll : (x0 :: L').length = L'.length + 1 := rfl
  -- the least q and r
  have s1 : OK (f_X12_settles_L16 N (iI (x0 :: L').length) q r N (iI x0.1) (iI x0.2.1) 1) (fun u => u = (iI (mnQ (x0 :: L')), iI (mnR (x0 :: L')))) := by
    refine zlp3 L'.length (fun i a b v => v = iI ((i + 1 : Nat) : Int) ∧ a = iI (mnl x0.1 ((L'.take i).map (fun c => c.1))) ∧ b = iI (mnl x0.2.1 ((L'.take i).map (fun c => c.2.1)))) ?_ N 0 _ _ _ (by omega) (by omega) ⟨rfl, rfl, rfl⟩
    rintro fu i a b v hi ⟨rfl, rfl, rfl⟩ ih
    rw [f_X12_settles_L16]
    rcases Nat.lt_or_ge i L'.length with h | h
    · obtain ⟨x, hx⟩ := gL h
      have hx1 : (x0 :: L')[i + 1]? = some x := hx
      have ho := hok x (List.mem_of_getElem? hx1)
      have bq := bQ i
      have br := bR i
      rw [if_pos (iI_ltT (by omega) (by omega) (by omega)), hm.gq hx1, hm.gr hx1]
      simp only [Option.bind_some]
      rw [iI_succ]
      have eq1 := mnl_app x0.1 ((L'.take i).map (fun c => c.1)) x.1
      have er1 := mnl_app x0.2.1 ((L'.take i).map (fun c => c.2.1)) x.2.1
      have tq : (L'.take (i + 1)).map (fun c => c.1) = (L'.take i).map (fun c => c.1) ++ [x.1] := by rw [tk_next hx]; simp
      have tr : (L'.take (i + 1)).map (fun c => c.2.1) = (L'.take i).map (fun c => c.2.1) ++ [x.2.1] := by rw [tk_next hx]; simp
      obtain ⟨o1, o2, o3, o4, -, -⟩ := ho
      rw [OK_ite, OK_ite, OK_ite]
      refine ⟨fun h1 => ⟨fun h2 => ih h _ _ _ ⟨rfl, ?_, ?_⟩, fun h2 => ih h _ _ _ ⟨rfl, ?_, ?_⟩⟩, fun h1 => ⟨fun h2 => ih h _ _ _ ⟨rfl, ?_, ?_⟩, fun h2 => ih h _ _ _ ⟨rfl, ?_, ?_⟩⟩⟩
      all_goals
        rw [iI_lt (by omega) (by omega) (by omega) (by omega)] at h1 h2
        first
          | rw [tq, eq1, if_pos h1]
          | rw [tq, eq1, if_neg h1]
          | rw [tr, er1, if_pos h2]
          | rw [tr, er1, if_neg h2]
    · have e : i = L'.length := by omega
      subst e
      rw [if_neg (iI_ltF (by omega) (by omega) (by omega)), OK_some, List.take_length, eQ, eR]
  rw [OK_bind]
  refine s1.mono ?_
  rintro _ rfl
  simp only
  generalize ha : mnQ (x0 :: L') = a at hsh
  generalize hb : mnR (x0 :: L') = b at hsh
  have hnr : nrm (x0 :: L') = srt ((x0 :: L').map (sft a b)) := by unfold nrm; rw [ha, hb]
  -- the shift
  have s2 : OK (f_X12_settles_L74 N (iI a) (iI b) (iI (x0 :: L').length) N (iI ((0 : Nat) : Int)) q r) (fun u => MR ((x0 :: L').map (sft a b)) u.1 u.2 t) := by
    refine zlp3 (x0 :: L').length (fun i v q r => v = iI i ∧ MR (mpL (sft a b) (x0 :: L') i) q r t) ?_ N 0 _ _ _ (by omega) (by omega) ⟨rfl, by rw [mpL_0]; exact hm⟩
    rintro fu i v q r hi ⟨rfl, hm⟩ ih
    rw [f_X12_settles_L74]
    rcases Nat.lt_or_ge i (x0 :: L').length with h | h
    · obtain ⟨x, hx⟩ := gL h
      rw [if_pos (iI_ltT (by omega) (by omega) (by omega)), hm.gq (mpL_get hx), hm.gr (mpL_get hx)]
      simp only [Option.bind_some]
      rw [hm.sq (by omega), hm.sr (by omega), iI_sub, iI_sub]
      simp only [Option.bind_some]
      rw [iI_succ]
      refine ih h _ _ _ ⟨rfl, ?_⟩
      rw [← mpL_set hx]
      exact hm.set2 (sft a b x) x (mpL_get hx) rfl
    · have e : i = (x0 :: L').length := by omega
      subst e
      rw [if_neg (iI_ltF (by omega) (by omega) (by omega)), OK_some]
      rw [mpL_end] at hm
      exact hm
  rw [OK_bind]
  refine s2.mono ?_
  rintro ⟨q2, r2⟩ hm2
  simp only at hm2 ⊢
  rw [OK_bind, hnr]
  generalize hX : (x0 :: L').map (sft a b) = X at hm2
  have hXl : X.length = (x0 :: L').length := by rw [← hX]; simp
  have hXb : ∀ x ∈ X, 0 ≤ x.1 ∧ x.1 < 32 ∧ 0 ≤ x.2.1 ∧ x.2.1 < 32 ∧ 0 ≤ x.2.2 ∧ x.2.2 < 2 := fun x hx => by
    rw [← hX] at hx
    obtain ⟨y, hy, rfl⟩ := List.mem_map.mp hx
    obtain ⟨h1, h2, h3, h4, h5, h6⟩ := hsh y hy
    have q1 := (mnl_le ((x0 :: L').map (fun c => c.1)) 2147483647).2.1 y.1 (List.mem_map.mpr ⟨y, hy, rfl⟩)
    have q2 := (mnl_le ((x0 :: L').map (fun c => c.2.1)) 2147483647).2.1 y.2.1 (List.mem_map.mpr ⟨y, hy, rfl⟩)
    have q1' : a ≤ y.1 := by rw [← ha]; exact q1
    have q2' : b ≤ y.2.1 := by rw [← hb]; exact q2
    simp only [sft] at h1 h2 h3 h4 h5 h6 ⊢
    omega
  rw [← hXl]
  -- the order
  refine zlp4 (X.length - 1) (fun i v q r t => v = iI ((i + 1 : Nat) : Int) ∧ MR ((X.take (i + 1)).foldl (fun a c => insC c a) [] ++ X.drop (i + 1)) q r t) ?_ N 0 _ _ _ _ (by omega) (by omega) ⟨rfl, ?_⟩
  case refine_2 =>
    obtain ⟨y, Y, rfl⟩ := List.exists_cons_of_ne_nil (show X ≠ [] by intro e; rw [e] at hXl; simp at hXl)
    exact hm2
  rintro fu i v q r t hi ⟨rfl, hm⟩ ih
  rw [f_X12_settles_L110]
  have hXn : 0 < X.length := by rw [hXl]; simp
  have acc : ∀ j, Srt ((X.take j).foldl (fun a c => insC c a) []) ∧ ((X.take j).foldl (fun a c => insC c a) []).Perm (X.take j) := fun j => by
    have := srt_go (X.take j) [] List.Pairwise.nil
    rw [List.nil_append] at this
    exact this
  rcases Nat.lt_or_ge (i + 1) X.length with h | h
  · obtain ⟨c, hc⟩ := gL h
    rw [if_pos (iI_ltT (by omega) (by omega) (by omega)), OK_bind]
    generalize hA : (X.take (i + 1)).foldl (fun a c => insC c a) [] = A at hm
    have hAs := acc (i + 1)
    rw [hA] at hAs
    have hAl : A.length = i + 1 := by rw [hAs.2.length_eq, List.length_take]; omega
    have hd : X.drop (i + 1) = c :: ([] ++ X.drop (i + 1 + 1)) := by
      obtain ⟨w, e⟩ := List.getElem?_eq_some_iff.mp hc
      rw [List.drop_eq_getElem_cons w, e]; rfl
    rw [hd] at hm
    rw [← hAl]
    refine (mDown hN N A [] (X.drop (i + 1 + 1)) q r t hm (by omega) (fun x hx => ?_)).mono ?_
    · rcases List.mem_cons.mp hx with rfl | hx
      · exact hXb _ (List.mem_of_getElem? hc)
      · exact hXb _ (List.mem_of_mem_take (hAs.2.mem_iff.mp hx))
    rintro ⟨u1, u2, u3⟩ ⟨P1, P2, e1, e2, e3, e4⟩
    simp only
    rw [iI_succ, hAl]
    refine ih (by omega) _ _ _ _ ⟨rfl, ?_⟩
    rw [tk_next hc, List.foldl_append]
    simp only [List.foldl_cons, List.foldl_nil]
    rw [hA]
    have ei : insC c A = P1 ++ c :: P2 := by
      have k1 : ∀ j (h : j < A.length), P1.length ≤ j → cd c < cd A[j] := fun j hj hpj => by
        apply e3
        rw [List.getElem_of_eq e1, List.getElem_append_right hpj]
        exact List.getElem_mem _
      have k2 : P1.length = 0 ∨ ∃ h : P1.length - 1 < A.length, ¬ cd c < cd A[P1.length - 1] := by
        rcases e2 with e2 | ⟨hh, e2⟩
        · exact Or.inl (by rw [e2]; rfl)
        · refine Or.inr ⟨by rw [e1]; simp; omega, ?_⟩
          rw [List.getElem_of_eq e1, List.getElem_append_left hh]
          exact e2
      rw [insC_at (p := P1.length) hAs.1 (by rw [e1]; simp) k1 k2, e1]
      simp
    rw [ei]
    simpa using e4
  · have e : i + 1 = X.length := by omega
    rw [if_neg (iI_ltF (by omega) (by omega) (by omega)), OK_some, OK_some]
    rw [e, List.take_length, List.drop_length, List.append_nil] at hm
    exact hm
def wide (L : List Cl) : Prop := ∃ c ∈ L, 9 < c.1 ∨ 9 < c.2.1
theorem mWide (hm : MR L q r t) (hN : 20 ≤ N) (hok : ∀ x ∈ L, ok32 x) : OK (f_X12_isWide N (iI L.length) q r) (fun u => (wide L ∧ u = 1) ∨ (¬ wide L ∧ u = 0)) := by
  unfold f_X12_isWide
  have hl := hm.2.2.2.1
  rw [OK_bind]
  have main : OK (f_X12_isWide_L4 N (iI L.length) q r N 0 0) (fun u => (wide L ∧ u = 1) ∨ (¬ wide L ∧ u = 0)) := by
    refine zlp2 L.length (fun i w v => v = iI i ∧ ((wide (L.take i) ∧ w = 1) ∨ (¬ wide (L.take i) ∧ w = 0))) ?_ N 0 _ _ (by omega) (by omega) ⟨rfl, Or.inr ⟨fun ⟨c, h, _⟩ => by simp at h, rfl⟩⟩
    rintro fu i w v hi ⟨rfl, hw⟩ ih
    rw [f_X12_isWide_L4]
    rcases Nat.lt_or_ge i L.length with h | h
    · obtain ⟨x, hx⟩ := gL h
      obtain ⟨o1, o2, o3, o4, -, -⟩ := hok x (List.mem_of_getElem? hx)
      rw [if_pos (iI_ltT (by omega) (by omega) (by omega)), hm.gq hx, hm.gr hx]
      simp only [Option.bind_some]
      rw [iI_succ, li9]
      have tk : wide (L.take (i + 1)) ↔ wide (L.take i) ∨ 9 < x.1 ∨ 9 < x.2.1 := by
        rw [tk_next hx]
        constructor
        · rintro ⟨c, hc, hw⟩
          rcases List.mem_append.mp hc with hc | hc
          · exact Or.inl ⟨c, hc, hw⟩
          · rw [List.mem_singleton.mp hc] at hw; exact Or.inr hw
        · rintro (⟨c, hc, hw⟩ | hw)
          · exact ⟨c, List.mem_append_left _ hc, hw⟩
          · exact ⟨x, by simp, hw⟩
      rcases hw with ⟨h1, rfl⟩ | ⟨h1, rfl⟩
      · rw [if_neg (by decide)]
        exact ih h _ _ ⟨rfl, Or.inl ⟨tk.mpr (Or.inl h1), rfl⟩⟩
      · rw [if_pos rfl, OK_ite, OK_ite, iI_lt (by omega) (by omega) (by omega) (by omega), iI_lt (by omega) (by omega) (by omega) (by omega)]
        refine ⟨fun h2 => ih h _ _ ⟨rfl, Or.inl ⟨tk.mpr (Or.inr (Or.inl h2)), rfl⟩⟩, fun h2 => ⟨fun h3 => ih h _ _ ⟨rfl, Or.inl ⟨tk.mpr (Or.inr (Or.inr h3)), rfl⟩⟩, fun h3 => ih h _ _ ⟨rfl, Or.inr ⟨fun w => ?_, rfl⟩⟩⟩⟩
        rcases tk.mp w with w | w | w
        · exact h1 w
        · exact h2 w
        · exact h3 w
    · have e : i = L.length := by omega
      subst e
      rw [if_neg (iI_ltF (by omega) (by omega) (by omega)), OK_some]
      rw [List.take_length] at hw
      exact hw
  refine main.mono (fun u hu => ?_)
  rcases hu with ⟨h, rfl⟩ | ⟨h, rfl⟩
  · exact OK.of (if_pos (Or.inr rfl)) (Or.inl ⟨h, rfl⟩)
  · exact OK.of (if_pos (Or.inl rfl)) (Or.inr ⟨h, rfl⟩)
theorem mKeyOf (hm : MR L q r t) {i : Nat} {c : Cl} (hc : L[i]? = some c) : f_X12_keyOf N (iI i) q r t = some (iI (ky c)) := by
  unfold f_X12_keyOf
  rw [hm.gr hc, hm.gq hc, hm.gt hc, li20, li2]
  simp only [Option.bind_some]
  rw [iI_mul, iI_mul, iI_add, iI_add]
  rfl
theorem mHolds (hm : MR L q r t) (hN : 20 ≤ N) {a b c : List Int32} (ha : a.length = 16) (hb : b.length = 16) (hc : c.length = 16) : OK (f_X12_holds N (iI L.length) q r t a b c) (fun u => MR L u.1 u.2.1 u.2.2.1 ∧ u.2.2.2 = iI L.length) := by
  unfold f_X12_holds
  have hl := hm.2.2.2.1
  rw [OK_bind]
  refine zlp4 L.length (fun i v q r t => v = iI i ∧ MR (L.take i) q r t) ?_ N 0 _ _ _ _ (by omega) (by omega) ⟨rfl, MR.nil ha hb hc⟩
  rintro fu i v a b c hi ⟨rfl, hm2⟩ ih
  rw [f_X12_holds_L10]
  rcases Nat.lt_or_ge i L.length with h | h
  · obtain ⟨x, hx⟩ := gL h
    rw [if_pos (iI_ltT (by omega) (by omega) (by omega)), hm.gq hx, hm.gr hx, hm.gt hx]
    simp only [Option.bind_some]
    rw [hm2.sq (by omega), hm2.sr (by omega), hm2.st (by omega)]
    simp only [Option.bind_some]
    rw [iI_succ]
    refine ih h _ _ _ _ ⟨rfl, ?_⟩
    have hlen : (L.take i).length = i := by simp; omega
    have := hm2.push x (by omega)
    rw [hlen] at this
    rw [tk_next hx]
    exact this
  · have e : i = L.length := by omega
    subst e
    rw [if_neg (iI_ltF (by omega) (by omega) (by omega)), OK_some, OK_some]
    rw [List.take_length] at hm2
    exact ⟨hm2, rfl⟩
theorem mTakesHeld {a b c : List Int32} (hm : MR L a b c) (hN : 20 ≤ N) (hq : q.length = 16) (hr : r.length = 16) (ht : t.length = 16) : OK (f_X12_takesHeld N q r t a b c (iI L.length)) (fun u => u.1 = iI L.length ∧ MR L u.2.1 u.2.2.1 u.2.2.2) := by
  unfold f_X12_takesHeld
  have hl := hm.2.2.2.1
  rw [OK_bind]
  refine zlp4 L.length (fun i v q r t => v = iI i ∧ MR (L.take i) q r t) ?_ N 0 _ _ _ _ (by omega) (by omega) ⟨rfl, MR.nil hq hr ht⟩
  rintro fu i v q r t hi ⟨rfl, hm2⟩ ih
  rw [f_X12_takesHeld_L10]
  rcases Nat.lt_or_ge i L.length with h | h
  · obtain ⟨x, hx⟩ := gL h
    rw [if_pos (iI_ltT (by omega) (by omega) (by omega)), hm.gq hx, hm.gr hx, hm.gt hx]
    simp only [Option.bind_some]
    rw [hm2.sq (by omega), hm2.sr (by omega), hm2.st (by omega)]
    simp only [Option.bind_some]
    rw [iI_succ]
    refine ih h _ _ _ _ ⟨rfl, ?_⟩
    have hlen : (L.take i).length = i := by simp; omega
    have := hm2.push x (by omega)
    rw [hlen] at this
    rw [tk_next hx]
    exact this
  · have e : i = L.length := by omega
    subst e
    rw [if_neg (iI_ltF (by omega) (by omega) (by omega)), OK_some, OK_some]
    rw [List.take_length] at hm2
    exact ⟨rfl, hm2⟩
end
