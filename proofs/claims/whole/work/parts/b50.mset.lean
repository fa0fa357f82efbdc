section
variable {N k : Nat} {L : List Cl} {q r t d : List Int32}
theorem okT_rng {s : Int} (h : okT k s) : 0 ≤ s ∧ s < 2 := by
  rcases h with h | h <;> omega
theorem mFind (hm : MR L q r t) (hN : 20 ≤ N) (hok : ∀ x ∈ L, ok32 x) {c : Cl} (hc : ok32 c) :
    OK (f_X12_find N (iI c.1) (iI c.2.1) (iI c.2.2) (iI L.length) q r t) (fun v => (c ∉ L ∧ v = iI (-1)) ∨ ∃ j, L[j]? = some c ∧ v = iI (j : Nat)) := by
  unfold f_X12_find
  have hl := hm.2.2.2.1
  rw [OK_bind]
  refine zlp1 L.length (fun i v => v = iI i ∧ ∀ m, m < i → L[m]? ≠ some c) ?_ N 0 _ (by omega) (by omega) ⟨rfl, fun m h => by omega⟩
  rintro fu i v hi ⟨rfl, hp⟩ ih
  rw [f_X12_find_L3]
  rcases Nat.lt_or_ge i L.length with h | h
  · obtain ⟨x, hx⟩ := gL h
    have hxo := hok x (List.mem_of_getElem? hx)
    obtain ⟨a1, a2, a3, a4, a5, a6⟩ := hxo
    obtain ⟨c1, c2, c3, c4, c5, c6⟩ := hc
    rw [if_pos (iI_ltT (by omega) (by omega) (by omega)), hm.gq hx, hm.gr hx, hm.gt hx]
    simp only [Option.bind_some]
    rw [iI_succ]
    have next : ¬ x = c → OK (f_X12_find_L3 N (iI c.1) (iI c.2.1) (iI c.2.2) (iI L.length) q r t fu (iI ((i + 1 : Nat) : Int))) _ := fun ne => ih h _ ⟨rfl, fun m hm2 => by
      rcases Nat.lt_or_ge m i with g | g
      · exact hp m g
      · rw [show m = i by omega, hx]
        intro e
        exact ne (Option.some.inj e)⟩
    simp only [OK_ite]
    refine ⟨fun e1 => ⟨fun e2 => ⟨fun e3 => ?_, fun e3 => next ?_⟩, fun e2 => next ?_⟩, fun e1 => next ?_⟩
    · rw [iI_eq (by omega) (by omega) (by omega) (by omega)] at e1 e2 e3
      have e : x = c := Prod.ext e1 (Prod.ext e2 e3)
      rw [OK_some]
      show OK (some _) _
      rw [OK_some]
      exact Or.inr ⟨i, by rw [hx, e], rfl⟩
    · intro e; exact e3 (by rw [e])
    · intro e; exact e2 (by rw [e])
    · intro e; exact e1 (by rw [e])
  · have e : i = L.length := by omega
    subst e
    rw [if_neg (iI_ltF (by omega) (by omega) (by omega)), OK_some]
    show OK (some _) _
    rw [OK_some]
    refine Or.inl ⟨fun hmem => ?_, rfl⟩
    obtain ⟨j, hj⟩ := List.mem_iff_getElem?.mp hmem
    exact hp j (lt_of_get hj) hj
/-- the first i cells mapped -/
def mpL (g : Cl → Cl) (L : List Cl) (i : Nat) : List Cl := (L.take i).map g ++ L.drop i
theorem mpL_len {g : Cl → Cl} {i : Nat} : (mpL g L i).length = L.length := by unfold mpL; simp; omega
theorem mpL_get {g : Cl → Cl} {i : Nat} {c : Cl} (h : L[i]? = some c) : (mpL g L i)[i]? = some c := by
  unfold mpL
  have := lt_of_get h
  rw [List.getElem?_append_right (by simp; omega)]
  simp
  rw [Nat.min_eq_left (by omega), Nat.sub_self]
  simpa using h
theorem mpL_set {g : Cl → Cl} {i : Nat} {c : Cl} (h : L[i]? = some c) : (mpL g L i).set i (g c) = mpL g L (i + 1) := by
  unfold mpL
  have hl := lt_of_get h
  obtain ⟨_, e⟩ := List.getElem?_eq_some_iff.mp h
  rw [tk_next h, List.set_append_right _ _ (by simp; omega), List.drop_eq_getElem_cons hl]
  have : i - ((L.take i).map g).length = 0 := by simp; omega
  rw [this, List.set_cons_zero]
  simp
theorem mpL_0 {g : Cl → Cl} : mpL g L 0 = L := by unfold mpL; simp
theorem mpL_end {g : Cl → Cl} : mpL g L L.length = L.map g := by unfold mpL; simp
theorem mMir (hm : MR L q r t) (hN : 20 ≤ N) : OK (f_X12_mirrors N (iI L.length) q r) (fun u => MR (L.map mir) u.1 u.2 t) := by
  unfold f_X12_mirrors
  have hl := hm.2.2.2.1
  rw [OK_bind]
  refine zlp3 L.length (fun i v q r => v = iI i ∧ MR (mpL mir L i) q r t) ?_ N 0 _ _ _ (by omega) (by omega) ⟨rfl, by rw [mpL_0]; exact hm⟩
  rintro fu i v q r hi ⟨rfl, hm⟩ ih
  rw [f_X12_mirrors_L2]
  rcases Nat.lt_or_ge i L.length with h | h
  · obtain ⟨x, hx⟩ := gL h
    rw [if_pos (iI_ltT (by omega) (by omega) (by omega)), hm.gq (mpL_get hx), hm.gr (mpL_get hx)]
    simp only [Option.bind_some]
    rw [hm.sq (by omega), hm.sr (by omega)]
    simp only [Option.bind_some]
    rw [iI_succ]
    refine ih h _ _ _ ⟨rfl, ?_⟩
    rw [← mpL_set hx]
    exact hm.set2 (mir x) x (mpL_get hx) rfl
  · have e : i = L.length := by omega
    subst e
    rw [if_neg (iI_ltF (by omega) (by omega) (by omega)), OK_some, OK_some]
    rw [mpL_end] at hm
    exact hm
theorem mTrn (hm : MR L q r t) (hd : DK k d) (hN : 20 ≤ N) (hok : ∀ x ∈ L, okT k x.2.2) : OK (f_X12_turns N d (iI L.length) q r t) (fun u => MR (L.map (trn k)) u.1 u.2.1 u.2.2) := by
  unfold f_X12_turns
  have hl := hm.2.2.2.1
  rw [OK_bind]
  refine zlp4 L.length (fun i v q r t => v = iI i ∧ MR (mpL (trn k) L i) q r t) ?_ N 0 _ _ _ _ (by omega) (by omega) ⟨rfl, by rw [mpL_0]; exact hm⟩
  rintro fu i v q r t hi ⟨rfl, hm⟩ ih
  rw [f_X12_turns_L2]
  rcases Nat.lt_or_ge i L.length with h | h
  · obtain ⟨x, hx⟩ := gL h
    have ho := hok x (List.mem_of_getElem? hx)
    rw [if_pos (iI_ltT (by omega) (by omega) (by omega)), hm.gq (mpL_get hx), hm.gr (mpL_get hx), hm.gt (mpL_get hx), hd.g]
    simp only [Option.bind_some]
    have hg2 := mpL_get (g := trn k) hx
    have hkk := hd.1
    rcases (show k = 0 ∨ k = 1 ∨ k = 2 by omega) with rfl | rfl | rfl
    · rw [if_neg (by decide), hm.sq (by omega)]
      simp only [Option.bind_some]
      rw [if_pos (by rfl), hm.sr (by omega)]
      simp only [Option.bind_some]
      rw [iI_succ, iI_neg]
      refine ih h _ _ _ _ ⟨rfl, ?_⟩
      rw [← mpL_set hx]
      have ht : x.2.2 = 0 := by rcases ho with h | h <;> omega
      exact hm.set2 (trn 0 x) x hg2 ht.symm
    · rw [if_pos (by rfl), hm.sq (by omega), hm.sr (by omega), hm.st (by omega)]
      simp only [Option.bind_some]
      rw [iI_succ, iI_neg, li1, iI_sub, iI_add, iI_add, iI_sub]
      refine ih h _ _ _ _ ⟨rfl, ?_⟩
      rw [← mpL_set hx]
      exact hm.set (trn 1 x) (by rw [mpL_len]; exact h)
    · rw [if_neg (by decide), hm.sq (by omega)]
      simp only [Option.bind_some]
      rw [if_neg (by decide), hm.sr (by omega)]
      simp only [Option.bind_some]
      rw [iI_succ, iI_neg, iI_add]
      refine ih h _ _ _ _ ⟨rfl, ?_⟩
      rw [← mpL_set hx]
      have ht : x.2.2 = 0 := by rcases ho with h | h <;> omega
      exact hm.set2 (trn 2 x) x hg2 ht.symm
  · have e : i = L.length := by omega
    subst e
    rw [if_neg (iI_ltF (by omega) (by omega) (by omega)), OK_some, OK_some]
    rw [mpL_end] at hm
    exact hm
def plc (c : Cl) : Int := 64 * c.2.1 + 2 * c.1 + c.2.2
theorem mPlace (hm : MR L q r t) {i : Nat} {c : Cl} (hc : L[i]? = some c) : f_X12_place N (iI i) q r t = some (iI (plc c)) := by
  unfold f_X12_place
  rw [hm.gr hc, hm.gq hc, hm.gt hc, show (64 : Int32) = iI 64 from rfl, li2]
  simp only [Option.bind_some]
  rw [iI_mul, iI_mul, iI_add, iI_add]
  rfl
theorem mExch (hm : MR L q r t) {i j : Nat} {a b : Cl} (ha : L[i]? = some a) (hb : L[j]? = some b) : OK (f_X12_exchanges N (iI i) (iI j) q r t) (fun u => MR ((L.set i b).set j a) u.1 u.2.1 u.2.2) := by
  unfold f_X12_exchanges
  have hi := lt_of_get ha
  have hj := lt_of_get hb
  have hl := hm.2.2.2.1
  have h2 := hm.set b hi
  have h3 := h2.set a (by simpa using hj)
  rw [hm.gq ha, hm.gr ha, hm.gt ha, hm.gq hb, hm.gr hb, hm.gt hb]
  simp only [Option.bind_some]
  rw [hm.sq (by omega), hm.sr (by omega), hm.st (by omega)]
  simp only [Option.bind_some]
  rw [h2.sq (by omega), h2.sr (by omega), h2.st (by omega)]
  simp only [Option.bind_some]
  rw [OK_some]
  exact h3
theorem plc_cd {a b : Cl} (h1 : 0 ≤ a.1 ∧ a.1 < 32) (h2 : 0 ≤ b.1 ∧ b.1 < 32) (h3 : 0 ≤ a.2.2 ∧ a.2.2 < 2) (h4 : 0 ≤ b.2.2 ∧ b.2.2 < 2) : (plc a < plc b) = (cd a < cd b) := by
  unfold plc cd
  apply propext
  constructor <;> intro h <;> omega
/-- a cell moves down to its place -/
theorem mDown (hN : 20 ≤ N) {c : Cl} : ∀ (fu : Nat) (P S R : List Cl) (q r t : List Int32), MR (P ++ c :: (S ++ R)) q r t → P.length < fu → (∀ x ∈ c :: P, 0 ≤ x.1 ∧ x.1 < 32 ∧ 0 ≤ x.2.1 ∧ x.2.1 < 32 ∧ 0 ≤ x.2.2 ∧ x.2.2 < 2) → OK (f_X12_settles_L121 N fu (iI P.length) q r t) (fun u => ∃ P1 P2, P = P1 ++ P2 ∧ (P1 = [] ∨ ∃ h : P1.length - 1 < P1.length, ¬ cd c < cd (P1[P1.length - 1]'h)) ∧ (∀ x ∈ P2, cd c < cd x) ∧ MR (P1 ++ c :: (P2 ++ (S ++ R))) u.1 u.2.1 u.2.2) := by
  intro fu
  induction fu with
  | zero => intro P S R q r t _ h; omega
  | succ fu ih =>
    intro P S R q r t hm hP hb
    rw [f_X12_settles_L121]
    have hl := hm.2.2.2.1
    simp only [List.length_append, List.length_cons] at hl
    rcases List.eq_nil_or_concat P with rfl | ⟨P', x, rfl⟩
    · rw [li0, if_neg (iI_ltF (by simp) (by omega) (by simp)), OK_some]
      exact ⟨[], [], rfl, Or.inl rfl, fun x h => absurd h List.not_mem_nil, hm⟩
    · have hx := hb x (by simp)
      have hc := hb c (by simp)
      rw [List.concat_eq_append] at hm hP hb ⊢
      have e1 : iI ((P' ++ [x]).length : Int) - 1 = iI (P'.length : Int) := by
        rw [li1, iI_sub]; congr 1; simp
      have e2 : iI ((P' ++ [x]).length : Int) + (-1) = iI (P'.length : Int) := by
        rw [li1, iI_neg, iI_add]; congr 1; simp; omega
      have g1 : (P' ++ [x] ++ c :: (S ++ R))[P'.length]? = some x := by simp
      have g2 : (P' ++ [x] ++ c :: (S ++ R))[(P' ++ [x]).length]? = some c := by
        rw [List.getElem?_append_right (Nat.le_refl _), Nat.sub_self]; rfl
      rw [li0, if_pos (iI_ltT (by simp <;> omega) (by omega) (by simp at hl ⊢; omega)), e1, mPlace hm g1, mPlace hm g2]
      simp only [Option.bind_some]
      obtain ⟨x1, x2, x3, x4, x5, x6⟩ := hx
      obtain ⟨c1, c2, c3, c4, c5, c6⟩ := hc
      have r1 : -2147483648 ≤ plc x ∧ plc x < 2147483648 := by unfold plc; omega
      have r2 : -2147483648 ≤ plc c ∧ plc c < 2147483648 := by unfold plc; omega
      have epl := plc_cd (a := c) (b := x) ⟨c1, c2⟩ ⟨x1, x2⟩ ⟨c5, c6⟩ ⟨x5, x6⟩
      rw [OK_ite]
      refine ⟨fun hlt => ?_, fun hlt => ?_⟩
      · rw [iI_lt r2.1 r2.2 r1.1 r1.2, epl] at hlt
        rw [OK_bind]
        refine (mExch hm g1 g2).mono (fun u hu => ?_)
        rw [e2]
        have e3 : ((P' ++ [x] ++ c :: (S ++ R)).set P'.length c).set (P' ++ [x]).length x = P' ++ c :: ((x :: S) ++ R) := by
          rw [List.append_assoc, List.set_append_right _ _ (Nat.le_refl _), Nat.sub_self, List.set_append_right _ _ (by simp)]
          simp
        rw [e3] at hu
        simp at hP
        refine (ih P' (x :: S) R _ _ _ hu (by omega) (fun y hy => hb y (by simp at hy ⊢; rcases hy with h | h; exact Or.inl h; exact Or.inr (Or.inl h)))).mono (fun w hw => ?_)
        obtain ⟨P1, P2, w1, w2, w3, w4⟩ := hw
        refine ⟨P1, P2 ++ [x], by rw [w1]; simp, w2, fun y hy => ?_, ?_⟩
        · rcases List.mem_append.mp hy with hy | hy
          · exact w3 y hy
          · rw [List.mem_singleton.mp hy]; exact hlt
        · simpa using w4
      · rw [iI_lt r2.1 r2.2 r1.1 r1.2, epl] at hlt
        rw [OK_some]
        refine ⟨P' ++ [x], [], by simp, Or.inr ⟨by simp, by simpa using hlt⟩, fun x h => absurd h List.not_mem_nil, ?_⟩
        simpa using hm
end
