/-! connected or not: the reference -/
theorem full_tab : ∀ n : Nat, n < 13 → ((1 : Int32) <<< (iI (n : Int) &&& 31)) - 1 = nI (2 ^ n - 1) := by decide +kernel
theorem sub_lt {m x : Nat} (h : ∀ j, m.testBit j = true → x.testBit j = true) (hn : x ≠ m) : m < x := by
  have e : m ||| x = x := by
    apply Nat.eq_of_testBit_eq
    intro j
    rw [Nat.testBit_or]
    cases hm : m.testBit j with
    | false => rfl
    | true => rw [h j hm]; rfl
  have : m ≤ x := by rw [← e]; exact Nat.left_le_or
  omega
section
variable {N k : Nat} {L : List Cl} {J q r t d : List Int32} {a : Cl}
theorem Seen.lt (h : Ld k L) {m : Nat} (hs : Seen k L a m) : m < 4096 := Nat.lt_of_lt_of_le hs.1 (Nat.pow_le_pow_right (by decide) h.2.2.1 : 2 ^ L.length ≤ 2 ^ 12)
theorem Seen.in {m j : Nat} (hs : Seen k L a m) (hj : m.testBit j = true) : j < L.length := by
  apply Classical.byContradiction
  intro hn
  rw [Nat.testBit_lt_two_pow (Nat.lt_of_lt_of_le hs.1 (Nat.pow_le_pow_right (by decide) (by omega)))] at hj
  cases hj
theorem or_bit {m j : Nat} (hm : m < 4096) (hj : j < 12) : nI m ||| ((1 : Int32) <<< (iI (j : Int) &&& 31)) = nI (m ||| 2 ^ j) := by
  apply bt_ext
  intro i hi
  rw [bt_or, bt_shl hj, bt_nI i hi, bt_nI i hi, Nat.testBit_or, Nat.testBit_two_pow]
/-- the neighbours of one cell -/
theorem mConn1 (hN : 100 ≤ N) (h : Ld k L) (hd : DK k d) (hm : MR L q r t) {c : Nat} {u : Cl} (hc : L[c]? = some u) {m : Nat} (hs : Seen k L a m) {more : Int32} :
    OK (f_X12_isConnected_L45 N (iI c) d (iI L.length) q r t N (nI m) more 0) (fun w => ∃ m', w.1 = nI m' ∧ Seen k L a m' ∧ (∀ j, m.testBit j = true → m'.testBit j = true) ∧ ((w.2 = more ∧ m' = m ∧ (m.testBit c = true → Shut k L m c)) ∨ (w.2 = 1 ∧ m' ≠ m))) := by
  have hl := h.2.2.1
  have hcl := lt_of_get hc
  have hum := List.mem_of_getElem? hc
  have hut := (h.2.2.2 u hum).1
  have hdk : dg k ≤ 6 := by unfold dg; split <;> (try split) <;> omega
  refine zlp3 (dg k) (fun e x y v => v = iI e ∧ ∃ m', x = nI m' ∧ Seen k L a m' ∧ (∀ j, m.testBit j = true → m'.testBit j = true) ∧ ((y = more ∧ m' = m ∧ (m.testBit c = true → ∀ d, d < e → ∀ i, L[i]? = some (nb k u d) → m.testBit i = true)) ∨ (y = 1 ∧ m' ≠ m))) ?_ N 0 _ _ _ (by omega) (by omega) ⟨rfl, m, rfl, hs, fun _ h => h, Or.inl ⟨rfl, rfl, fun _ d hd => by omega⟩⟩
  rintro fu e x y v he ⟨rfl, m', rfl, hs', hsub, hor⟩ ih
  have hm12 := hs'.lt h
  rw [f_X12_isConnected_L45, mDir hd]
  simp only [Option.bind_some]
  rcases Nat.lt_or_ge e (dg k) with hlt | hge
  · rw [if_pos (iI_ltT (by omega) (by omega) (by omega)), OK_ite, bit_1 (by omega) (by omega)]
    refine ⟨fun hb => ?_, fun hb => ?_⟩
    · have hst := mStep (N := N) (e := (e : Int)) hd hut (by omega) (by omega)
      rw [hm.gq hc, hm.gr hc, hm.gt hc]
      simp only [Option.bind_some]
      rw [hst.1, hst.2, mSide hd hut]
      simp only [Option.bind_some]
      rw [iI_add, iI_add, OK_bind]
      refine (mFind hm (by omega) h.ok (c := nb k u e) (nb_ok (h.2.2.2 u hum) e)).mono (fun w hw => ?_)
      rw [iI_succ]
      rcases hw with ⟨hno, rfl⟩ | ⟨j, hj, rfl⟩
      · rw [li0, if_pos (iI_ltT (by omega) (by omega) (by omega))]
        refine ih hlt _ _ _ ⟨rfl, m', rfl, hs', hsub, hor.imp (fun ⟨h1, h2, h3⟩ => ⟨h1, h2, fun hb d hd i hi => ?_⟩) id⟩
        rcases Nat.lt_or_ge d e with g | g
        · exact h3 hb d g i hi
        · have : d = e := by omega
          subst this
          exact absurd (List.mem_of_getElem? hi) hno
      · have hjl := lt_of_get hj
        rw [li0, if_neg (iI_ltF (by omega) (by omega) (by omega)), ← li0, OK_ite, bit_0 (by omega) (by omega)]
        refine ⟨fun hj0 => ?_, fun hj1 => ?_⟩
        · rw [or_bit hm12 (by omega)]
          refine ih hlt _ _ _ ⟨rfl, m' ||| 2 ^ j, rfl, ⟨Nat.or_lt_two_pow hs'.1 (Nat.pow_lt_pow_right (by decide) hjl), by rw [Nat.testBit_or, hs'.2.1]; rfl, fun i v hi hv => ?_⟩, fun i hi => by rw [Nat.testBit_or, hsub i hi]; rfl, Or.inr ⟨rfl, fun e0 => ?_⟩⟩
          · rw [Nat.testBit_or, Bool.or_eq_true, Nat.testBit_two_pow, decide_eq_true_iff] at hi
            rcases hi with hi | rfl
            · exact hs'.2.2 i v hi hv
            · rw [hj] at hv
              cases hv
              exact (hs'.2.2 c u hb hc).step ⟨e, hlt, rfl⟩ (List.mem_of_getElem? hj)
          · have : m.testBit j = true := by rw [← e0, Nat.testBit_or, Nat.testBit_two_pow]; simp
            rw [hsub j this] at hj0
            cases hj0
        · refine ih hlt _ _ _ ⟨rfl, m', rfl, hs', hsub, hor.imp (fun ⟨h1, h2, h3⟩ => ⟨h1, h2, fun hb d hd i hi => ?_⟩) id⟩
          rcases Nat.lt_or_ge d e with g | g
          · exact h3 hb d g i hi
          · have : d = e := by omega
            subst this
            rw [nd_get h.2.1 hi hj, ← h2]
            simpa using hj1
    · rw [OK_some]
      refine ⟨m', rfl, hs', hsub, hor.imp (fun ⟨h1, h2, h3⟩ => ⟨h1, h2, fun hb' => ?_⟩) id⟩
      rw [h2] at hb
      exact absurd hb' hb
  · rw [if_neg (iI_ltF (by omega) (by omega) (by omega)), OK_some]
    refine ⟨m', rfl, hs', hsub, hor.imp (fun ⟨h1, h2, h3⟩ => ⟨h1, h2, fun hb => ?_⟩) id⟩
    rintro x i v hx hv ⟨d, hd1, hd2⟩
    rw [hc] at hx
    cases hx
    exact h3 hb d (by omega) i (by rw [hd2]; exact hv)
theorem mConn2 (hN : 100 ≤ N) (h : Ld k L) (hd : DK k d) (hm : MR L q r t) {m : Nat} (hs : Seen k L a m) :
    OK (f_X12_isConnected_L34 N d (iI L.length) q r t N (nI m) 0 0) (fun w => ∃ m', w.1 = nI m' ∧ Seen k L a m' ∧ (∀ j, m.testBit j = true → m'.testBit j = true) ∧ ((w.2 = 0 ∧ m' = m ∧ ∀ j, m.testBit j = true → Shut k L m j) ∨ (w.2 = 1 ∧ m' ≠ m))) := by
  have hl := h.2.2.1
  refine zlp3 L.length (fun c x y v => v = iI c ∧ ∃ m', x = nI m' ∧ Seen k L a m' ∧ (∀ j, m.testBit j = true → m'.testBit j = true) ∧ ((y = 0 ∧ m' = m ∧ ∀ j, j < c → m.testBit j = true → Shut k L m j) ∨ (y = 1 ∧ m' ≠ m))) ?_ N 0 _ _ _ (by omega) (by omega) ⟨rfl, m, rfl, hs, fun _ h => h, Or.inl ⟨rfl, rfl, fun j hj => by omega⟩⟩
  rintro fu c x y v he ⟨rfl, m', rfl, hs', hsub, hor⟩ ih
  rw [f_X12_isConnected_L34]
  rcases Nat.lt_or_ge c L.length with hlt | hge
  · obtain ⟨u, hu⟩ := gL hlt
    rw [if_pos (iI_ltT (by omega) (by omega) (by omega)), OK_bind]
    refine (mConn1 hN h hd hm hu hs').mono ?_
    rintro ⟨w1, w2⟩ ⟨m2, rfl, hs2, hsub2, hor2⟩
    rw [iI_succ]
    refine ih hlt _ _ _ ⟨rfl, m2, rfl, hs2, fun j hj => hsub2 j (hsub j hj), ?_⟩
    rcases hor2 with ⟨e1, e2, e3⟩ | ⟨e1, e2⟩
    · subst e2
      refine hor.imp (fun ⟨h1, h2, h3⟩ => ⟨by rw [e1, h1], h2, fun j hj hb => ?_⟩) (fun ⟨h1, h2⟩ => ⟨by rw [e1, h1], h2⟩)
      rcases Nat.lt_or_ge j c with g | g
      · exact h3 j g hb
      · have : j = c := by omega
        subst this
        rw [← h2]
        exact e3 (by rw [h2]; exact hb)
    · refine Or.inr ⟨e1, fun e => ?_⟩
      have h1 := sub_lt hsub2 e2
      by_cases e3 : m' = m
      · omega
      · have := sub_lt hsub e3
        omega
  · rw [if_neg (iI_ltF (by omega) (by omega) (by omega)), OK_some]
    refine ⟨m', rfl, hs', hsub, hor.imp (fun ⟨h1, h2, h3⟩ => ⟨h1, h2, fun j hb => ?_⟩) id⟩
    exact h3 j (by have := hs.in hb; omega) hb
theorem mConn (hN : 5000 ≤ N) (h : Ld k L) (hd : DK k d) (hm : MR L q r t) : OK (f_X12_isConnected N d (iI L.length) q r t) (fun u => (Conn k L ∧ u = 1) ∨ (¬ Conn k L ∧ u = 0)) := by
  have hl := h.2.2.1
  unfold f_X12_isConnected
  by_cases h0 : L.length = 0
  · have hn : ¬ (0 : Int32) < iI L.length := by rw [li0]; exact iI_ltF (by omega) (by omega) (by omega)
    obtain ⟨N', rfl⟩ : ∃ q, N = q + 1 := ⟨N - 1, by omega⟩
    rw [if_neg hn, if_neg hn, f_X12_isConnected_L26, if_pos rfl]
    simp only [Option.bind_some]
    rw [if_neg hn, OK_some]
    exact Or.inr ⟨fun hc => hc.1 (List.length_eq_zero_iff.mp h0), rfl⟩
  have hp : (0 : Int32) < iI L.length := by rw [li0]; exact iI_ltT (by omega) (by omega) (by omega)
  rw [if_pos hp, if_pos hp, OK_bind]
  obtain ⟨a, ha⟩ := gL (show 0 < L.length by omega)
  refine OK.mono (Q := fun u => ∃ m, u = nI m ∧ Seen k L a m ∧ ∀ j, m.testBit j = true → Shut k L m j) ?_ ?_
  · refine zlp2 4097 (fun i x y => ∃ m, x = nI m ∧ Seen k L a m ∧ ((y = 1 ∧ i ≤ m) ∨ (y = 0 ∧ i ≤ m + 1 ∧ ∀ j, m.testBit j = true → Shut k L m j))) ?_ N 0 _ _ (by omega) (by omega) ⟨1, rfl, ⟨?_, rfl, fun j v hj hv => ?_⟩, Or.inl ⟨rfl, by omega⟩⟩
    case refine_2 => exact Nat.lt_of_lt_of_le (by decide : 1 < 2 ^ 1) (Nat.pow_le_pow_right (by decide) (by omega))
    case refine_3 =>
      have : j = 0 := by
        cases j with
        | zero => rfl
        | succ j => rw [Nat.testBit_succ] at hj; simp at hj
      subst this
      rw [ha] at hv
      cases hv
      exact Rc.refl
    rintro fu i x y hi ⟨m, rfl, hs, hor⟩ ih
    rw [f_X12_isConnected_L26]
    have hm12 := hs.lt h
    rcases hor with ⟨rfl, him⟩ | ⟨rfl, him, hsh⟩
    · rw [if_neg (by decide), OK_bind]
      refine (mConn2 (by omega) h hd hm hs).mono ?_
      rintro ⟨w1, w2⟩ ⟨m', rfl, hs', hsub, hor⟩
      rcases hor with ⟨rfl, rfl, hsh⟩ | ⟨rfl, hne⟩
      · exact ih (by omega) _ _ ⟨_, rfl, hs', Or.inr ⟨rfl, by omega, hsh⟩⟩
      · have := sub_lt hsub hne
        exact ih (by omega) _ _ ⟨m', rfl, hs', Or.inl ⟨rfl, by omega⟩⟩
    · rw [if_pos rfl, OK_some]
      exact ⟨m, rfl, hs, hsh⟩
  · rintro _ ⟨m, rfl, hs, hsh⟩
    have hm12 := hs.lt h
    rw [if_pos hp, full_tab L.length (by omega), nI_iI, nI_iI, OK_ite]
    have hb : 2 ^ L.length - 1 < 4096 := by
      have : 2 ^ L.length ≤ 2 ^ 12 := Nat.pow_le_pow_right (by decide) hl
      omega
    rw [iI_eq (by omega) (by omega) (by omega) (by omega)]
    have e := seen_end h ha hs hsh
    refine ⟨fun hp => ?_, fun hp => ?_⟩
    · rw [OK_some]
      exact Or.inl ⟨e.mpr (by omega), rfl⟩
    · rw [OK_some]
      exact Or.inr ⟨fun hc => hp (by have := e.mp hc; omega), rfl⟩
end
