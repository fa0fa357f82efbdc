/-- a loop whose state at i is S i -/
theorem loop_det {σ ρ : Type} (f : Nat → Nat → σ → Option ρ) (S : Nat → σ) (n : Nat) (out : ρ) (hs : ∀ fu i, i < n → f (fu + 1) i (S i) = f fu (i + 1) (S (i + 1))) (hx : ∀ fu, f (fu + 1) n (S n) = some out) :
    ∀ (fu i : Nat), i ≤ n → n - i < fu → f fu i (S i) = some out := by
  intro fu
  induction fu with
  | zero => intro i _ h; omega
  | succ fu ih =>
    intro i hin hfu
    rcases Nat.lt_or_ge i n with h | h
    · rw [hs fu i h]
      exact ih (i + 1) h (by omega)
    · have e : i = n := by omega
      subst e
      exact hx fu
def mir (c : Cl) : Cl := (c.2.1, c.1, c.2.2)
def trn (k : Nat) (c : Cl) : Cl := if k = 0 then (-c.2.1, c.1, 0) else if k = 1 then (-c.2.1 - 1, c.1 + c.2.1 + c.2.2, 1 - c.2.2) else (-c.2.1, c.1 + c.2.1, 0)
/-- the first i cells mapped -/
def mpS (g : Cl → Cl) (L : List Cl) (J : List Int32) (i : Nat) : List Int32 := ((L.take i).map g ++ L.drop i).map cI ++ J
theorem mpS_get {g : Cl → Cl} {L : List Cl} {J : List Int32} {i : Nat} (h : i < L.length) : (mpS g L J i)[i]? = some (cI L[i]) := by
  unfold mpS
  rw [rc_get (by simp; omega), List.getElem_append_right (by simp; omega)]
  congr 2
  simp
  congr 1
  omega
theorem mpS_len {g : Cl → Cl} {L : List Cl} {J : List Int32} {i : Nat} : (mpS g L J i).length = L.length + J.length := by
  unfold mpS
  simp
  omega
theorem mpS_set {g : Cl → Cl} {L : List Cl} {J : List Int32} {i : Nat} (h : i < L.length) : (mpS g L J i).set i (cI (g L[i])) = mpS g L J (i + 1) := by
  unfold mpS
  rw [List.set_append_left _ _ (by simp; omega), List.map_append, List.set_append_right _ _ (by simp; omega)]
  have e1 : i - ((L.take i).map g |>.map cI).length = 0 := by simp; omega
  have e2 : (L.drop i).map cI = cI L[i] :: (L.drop (i + 1)).map cI := by rw [List.drop_eq_getElem_cons h]; rfl
  rw [e1, e2, List.set_cons_zero, List.take_succ_eq_append_getElem h]
  simp only [List.map_append, List.map_cons, List.map_nil, List.append_assoc, List.cons_append, List.nil_append]
theorem mpS_end {g : Cl → Cl} {L : List Cl} {J : List Int32} : mpS g L J L.length = (L.map g).map cI ++ J := by
  unfold mpS
  simp
section
variable {N : Nat} {L : List Cl} {J : List Int32}
theorem mirror_eq (hN : L.length < N) (hl : L.length + J.length < 2147483647) (hok : ∀ x ∈ L, ok32 x) : f_X2_mirror N (L.map cI ++ J) (iI L.length) = some ((L.map mir).map cI ++ J) := by
  have key := loop_det (f := fun fu i t => f_X2_mirror_L2 N (iI L.length) fu (iI (i : Int)) t) (mpS mir L J) L.length ((L.map mir).map cI ++ J)
    (fun fu i hi => by
      show f_X2_mirror_L2 N (iI L.length) (fu + 1) (iI (i : Int)) (mpS mir L J i) = f_X2_mirror_L2 N (iI L.length) fu (iI ((i + 1 : Nat) : Int)) (mpS mir L J (i + 1))
      have hc := hok _ (List.getElem_mem hi)
      have hg : (mpS mir L J i)[(i : Int).toNat]? = some (cI L[i]) := by rw [Int.toNat_natCast]; exact mpS_get hi
      rw [f_X2_mirror_L2, if_pos (iI_ltT (by omega) (by omega) (by omega)), rAt_eq (by omega) (by omega) (by omega) hg hc, qAt_eq (by omega) (by omega) (by omega) hg hc, tAt_eq (by omega) (by omega) (by omega) hg hc]
      show ((f_X2_codeOf N (iI L[i].2.1) (iI L[i].1) (iI L[i].2.2)).bind fun u5 => (z_set (mpS mir L J i) (iI (i : Int)) u5).bind fun t6 => f_X2_mirror_L2 N (iI L.length) fu (iI (i : Int) + 1) t6) = _
      rw [codeOf_eq]
      show ((z_set (mpS mir L J i) (iI (i : Int)) (cI (mir L[i]))).bind fun t6 => f_X2_mirror_L2 N (iI L.length) fu (iI (i : Int) + 1) t6) = _
      rw [z_set_iI (by omega) (by omega) (by rw [mpS_len]; simp; omega), Int.toNat_natCast, mpS_set hi, iI_succ]
      rfl)
    (fun fu => by
      show f_X2_mirror_L2 N (iI L.length) (fu + 1) (iI (L.length : Int)) (mpS mir L J L.length) = _
      rw [f_X2_mirror_L2, if_neg (iI_ltF (by omega) (by omega) (by omega)), mpS_end])
    N 0 (Nat.zero_le _) (by omega)
  unfold f_X2_mirror
  have e0 : mpS mir L J 0 = L.map cI ++ J := by unfold mpS; simp
  show ((f_X2_mirror_L2 N (iI L.length) N (iI ((0 : Nat) : Int)) (L.map cI ++ J)).bind _) = _
  rw [← e0, key]
  rfl
theorem turn_eq {k : Nat} (hk : k < 3) (hN : L.length < N) (hl : L.length + J.length < 2147483647) (hok : ∀ x ∈ L, ok32 x) : f_X2_turn N (iI k) (L.map cI ++ J) (iI L.length) = some ((L.map (trn k)).map cI ++ J) := by
  have key := loop_det (f := fun fu i t => f_X2_turn_L2 N (iI k) (iI L.length) fu (iI (i : Int)) t) (mpS (trn k) L J) L.length ((L.map (trn k)).map cI ++ J)
    (fun fu i hi => by
      show f_X2_turn_L2 N (iI k) (iI L.length) (fu + 1) (iI (i : Int)) (mpS (trn k) L J i) = f_X2_turn_L2 N (iI k) (iI L.length) fu (iI ((i + 1 : Nat) : Int)) (mpS (trn k) L J (i + 1))
      have hc := hok _ (List.getElem_mem hi)
      have hg : (mpS (trn k) L J i)[(i : Int).toNat]? = some (cI L[i]) := by rw [Int.toNat_natCast]; exact mpS_get hi
      have hset : ∀ x, x = cI (trn k L[i]) → ((z_set (mpS (trn k) L J i) (iI (i : Int)) x).bind fun t6 => f_X2_turn_L2 N (iI k) (iI L.length) fu (iI (i : Int) + 1) t6) = f_X2_turn_L2 N (iI k) (iI L.length) fu (iI ((i + 1 : Nat) : Int)) (mpS (trn k) L J (i + 1)) := by
        intro x hx
        rw [hx, z_set_iI (by omega) (by omega) (by rw [mpS_len]; simp; omega), Int.toNat_natCast, mpS_set hi, iI_succ]
        rfl
      rw [f_X2_turn_L2, if_pos (iI_ltT (by omega) (by omega) (by omega)), rAt_eq (by omega) (by omega) (by omega) hg hc, qAt_eq (by omega) (by omega) (by omega) hg hc, tAt_eq (by omega) (by omega) (by omega) hg hc]
      simp only [Option.bind_some]
      rcases (show k = 0 ∨ k = 1 ∨ k = 2 by omega) with rfl | rfl | rfl
      · rw [if_pos (by rfl), iI_neg, show (0 : Int32) = iI 0 from rfl, codeOf_eq]
        exact hset _ rfl
      · rw [if_neg (by decide), if_pos (by rfl), iI_neg, show (1 : Int32) = iI 1 from rfl, iI_sub, iI_add, iI_add, iI_sub, codeOf_eq]
        exact hset _ rfl
      · rw [if_neg (by decide), if_neg (by decide), iI_neg, iI_add, show (0 : Int32) = iI 0 from rfl, codeOf_eq]
        exact hset _ rfl)
    (fun fu => by
      show f_X2_turn_L2 N (iI k) (iI L.length) (fu + 1) (iI (L.length : Int)) (mpS (trn k) L J L.length) = _
      rw [f_X2_turn_L2, if_neg (iI_ltF (by omega) (by omega) (by omega)), mpS_end])
    N 0 (Nat.zero_le _) (by omega)
  unfold f_X2_turn
  have e0 : mpS (trn k) L J 0 = L.map cI ++ J := by unfold mpS; simp
  show ((f_X2_turn_L2 N (iI k) (iI L.length) N (iI ((0 : Nat) : Int)) (L.map cI ++ J)).bind _) = _
  rw [← e0, key]
  rfl
end
/-! the normal form -/
def mnl (b : Int) (t : List Int) : Int := t.foldl (fun a x => if x < a then x else a) b
def mnQ (L : List Cl) : Int := mnl 2147483647 (L.map (fun c => c.1))
def mnR (L : List Cl) : Int := mnl 2147483647 (L.map (fun c => c.2.1))
def sft (a b : Int) (c : Cl) : Cl := (c.1 - a, c.2.1 - b, c.2.2)
def insC (c : Cl) : List Cl → List Cl
  | [] => [c]
  | x :: t => if cd c < cd x then c :: x :: t else x :: insC c t
def srt (L : List Cl) : List Cl := L.foldl (fun a c => insC c a) []
def nrm (L : List Cl) : List Cl := srt (L.map (sft (mnQ L) (mnR L)))
def Srt (L : List Cl) : Prop := L.Pairwise (fun a b => cd a ≤ cd b)
theorem insC_perm (c : Cl) : ∀ L : List Cl, (insC c L).Perm (c :: L)
  | [] => List.Perm.refl _
  | x :: t => by
    unfold insC
    split
    · exact List.Perm.refl _
    · exact (List.Perm.cons x (insC_perm c t)).trans (List.Perm.swap c x t)
theorem insC_srt (c : Cl) : ∀ {L : List Cl}, Srt L → Srt (insC c L)
  | [], _ => List.pairwise_singleton _ _
  | x :: t, h => by
    unfold insC
    obtain ⟨h1, h2⟩ := List.pairwise_cons.mp h
    split
    · rename_i hc
      refine List.pairwise_cons.mpr ⟨fun a ha => ?_, h⟩
      rcases List.mem_cons.mp ha with rfl | ha
      · exact Int.le_of_lt hc
      · exact Int.le_trans (Int.le_of_lt hc) (h1 a ha)
    · rename_i hc
      refine List.pairwise_cons.mpr ⟨fun a ha => ?_, insC_srt c h2⟩
      rcases List.mem_cons.mp ((insC_perm c t).mem_iff.mp ha) with rfl | ha
      · omega
      · exact h1 a ha
theorem srt_go (L : List Cl) : ∀ a : List Cl, Srt a → Srt (L.foldl (fun a c => insC c a) a) ∧ (L.foldl (fun a c => insC c a) a).Perm (a ++ L) := by
  induction L with
  | nil => intro a h; exact ⟨h, by simp⟩
  | cons c t ih =>
    intro a h
    obtain ⟨h1, h2⟩ := ih (insC c a) (insC_srt c h)
    refine ⟨h1, h2.trans ?_⟩
    refine ((insC_perm c a).append_right t).trans ?_
    exact (List.perm_middle).symm
theorem srt_srt (L : List Cl) : Srt (srt L) := (srt_go L [] List.Pairwise.nil).1
theorem srt_perm (L : List Cl) : (srt L).Perm L := by
  have := (srt_go L [] List.Pairwise.nil).2
  rw [List.nil_append] at this
  exact this
theorem srt_uniq {A B : List Cl} (hA : Srt A) (hB : Srt B) (hp : A.Perm B) (hok : ∀ c ∈ A, ok32 c) : A = B := by
  refine List.Perm.eq_of_pairwise (le := fun a b => cd a ≤ cd b) (fun a b ha hb h1 h2 => ?_) hA hB hp
  exact cd_inj (hok a ha) (hok b (hp.mem_iff.mpr hb)) (by omega)
/-- where c belongs in a sorted list: all before are at most c, all behind more -/
theorem insC_at {c : Cl} : ∀ {A : List Cl} {p : Nat}, Srt A → p ≤ A.length → (∀ j (h : j < A.length), p ≤ j → cd c < cd A[j]) → (p = 0 ∨ ∃ h : p - 1 < A.length, ¬ cd c < cd A[p - 1]) → insC c A = A.take p ++ c :: A.drop p
  | [], p, _, hp, _, _ => by
    have : p = 0 := by simpa using hp
    subst this
    rfl
  | x :: t, 0, _, _, h1, _ => by
    unfold insC
    rw [if_pos (show cd c < cd x from h1 0 (by simp) (Nat.le_refl _))]
    rfl
  | x :: t, p + 1, hs, hp, h1, h2 => by
    obtain ⟨s1, s2⟩ := List.pairwise_cons.mp hs
    have hx : ¬ cd c < cd x := by
      rcases h2 with h2 | ⟨h3, h4⟩
      · omega
      · cases p with
        | zero => exact h4
        | succ p =>
          have hm : (x :: t)[p + 1 + 1 - 1] ∈ t := by
            show (x :: t)[p + 1] ∈ t
            rw [List.getElem_cons_succ]
            exact List.getElem_mem _
          have := s1 _ hm
          omega
    unfold insC
    rw [if_neg hx]
    have := insC_at (c := c) (A := t) (p := p) s2 (by simpa using hp) (fun j hj hpj => by
      have := h1 (j + 1) (by simpa using hj) (by omega)
      simpa using this) (by
      cases p with
      | zero => exact Or.inl rfl
      | succ p =>
        refine Or.inr ⟨by simp at hp ⊢; omega, ?_⟩
        rcases h2 with h2 | ⟨h3, h4⟩
        · omega
        · exact h4)
    rw [this]
    rfl
section
variable {N : Nat}
/-- the inner loop of normalise: the place of c in the sorted A -/
theorem norm_in {A : List Cl} {R : List Int32} {c : Cl} (hok : ∀ x ∈ A, ok32 x) (hc : ok32 c) (hl : A.length + R.length < 2147483640) : ∀ (p fu : Nat) (z : Int32), p ≤ A.length → p < fu →
    ∃ (p2 : Nat) (z2 : Int32), p2 ≤ p ∧ f_X2_normalise_L78 N (cI c) fu (iI p) ((A.take p).map cI ++ z :: ((A.drop p).map cI ++ R)) = some (iI p2, (A.take p2).map cI ++ z2 :: ((A.drop p2).map cI ++ R)) ∧ (∀ j (h : j < A.length), p2 ≤ j → j < p → cd c < cd A[j]) ∧ (p2 = 0 ∨ ∃ h : p2 - 1 < A.length, ¬ cd c < cd A[p2 - 1]) := by
  intro p
  induction p with
  | zero =>
    intro fu z hp hfu
    obtain ⟨fu, rfl⟩ : ∃ q, fu = q + 1 := ⟨fu - 1, by omega⟩
    refine ⟨0, z, Nat.le_refl _, ?_, fun j _ _ h => by omega, Or.inl rfl⟩
    rw [f_X2_normalise_L78, show (0 : Int32) = iI 0 from rfl, if_neg (iI_ltF (by omega) (by omega) (by omega))]
  | succ p ih =>
    intro fu z hp hfu
    obtain ⟨fu, rfl⟩ : ∃ q, fu = q + 1 := ⟨fu - 1, by omega⟩
    have hpl : p < A.length := by omega
    have e1 : iI ((p + 1 : Nat) : Int) - 1 = iI (p : Int) := by
      rw [show (1 : Int32) = iI 1 from rfl, iI_sub]
      congr 1
      omega
    have e2 : iI ((p + 1 : Nat) : Int) + (-1) = iI (p : Int) := by
      rw [show (-1 : Int32) = iI (-1) from rfl, iI_add]
      congr 1
      omega
    have hg : ((A.take (p + 1)).map cI ++ z :: ((A.drop (p + 1)).map cI ++ R))[p]? = some (cI A[p]) := by
      rw [rc_get (by simp; omega)]
      simp
    have hlen : ((A.take (p + 1)).map cI ++ z :: ((A.drop (p + 1)).map cI ++ R)).length = A.length + 1 + R.length := by simp; omega
    have hcA := hok _ (List.getElem_mem hpl)
    have r1 := cd_rng hcA
    have r2 := cd_rng hc
    rw [f_X2_normalise_L78, show (0 : Int32) = iI 0 from rfl, if_pos (iI_ltT (by omega) (by omega) (by omega)), e1, z_get_iI (by omega) (by omega), Int.toNat_natCast, hg]
    simp only [Option.bind_some]
    by_cases hlt : cd c < cd A[p]
    · rw [if_pos (show cI c < cI A[p] from iI_ltT hlt (by omega) (by omega)), z_set_iI (by omega) (by omega) (by rw [hlen]; simp; omega)]
      simp only [Option.bind_some]
      rw [e2]
      have es : ((A.take (p + 1)).map cI ++ z :: ((A.drop (p + 1)).map cI ++ R)).set ((p + 1 : Nat) : Int).toNat (cI A[p]) = (A.take p).map cI ++ cI A[p] :: ((A.drop p).map cI ++ R) := by
        rw [Int.toNat_natCast, List.set_append_right _ _ (by simp; omega)]
        have : p + 1 - ((A.take (p + 1)).map cI).length = 0 := by simp; omega
        have e3 : (A.take (p + 1)).map cI = (A.take p).map cI ++ [cI A[p]] := by rw [List.take_succ_eq_append_getElem hpl, List.map_append]; rfl
        have e4 : (A.drop p).map cI = cI A[p] :: (A.drop (p + 1)).map cI := by rw [List.drop_eq_getElem_cons hpl]; rfl
        rw [this, List.set_cons_zero, e3, e4]
        simp only [List.append_assoc, List.cons_append, List.nil_append]
      rw [es]
      obtain ⟨p2, z2, h1, h2, h3, h4⟩ := ih fu (cI A[p]) (by omega) (by omega)
      refine ⟨p2, z2, by omega, h2, fun j hj j1 j2 => ?_, h4⟩
      rcases Nat.lt_or_ge j p with q | q
      · exact h3 j hj j1 q
      · have : j = p := by omega
        subst this
        exact hlt
    · rw [if_neg (show ¬ cI c < cI A[p] from iI_ltF hlt (by omega) (by omega))]
      exact ⟨p + 1, z, Nat.le_refl _, rfl, fun j hj j1 j2 => by omega, Or.inr ⟨hpl, hlt⟩⟩
theorem mnl_app (b : Int) (t : List Int) (x : Int) : mnl b (t ++ [x]) = if x < mnl b t then x else mnl b t := by
  unfold mnl
  rw [List.foldl_append]
  rfl
theorem mnl_le (t : List Int) : ∀ b : Int, mnl b t ≤ b ∧ (∀ x ∈ t, mnl b t ≤ x) ∧ (mnl b t = b ∨ mnl b t ∈ t) := by
  induction t with
  | nil => intro b; exact ⟨Int.le_refl _, fun x h => absurd h List.not_mem_nil, Or.inl rfl⟩
  | cons y t ih =>
    intro b
    have e : mnl b (y :: t) = mnl (if y < b then y else b) t := rfl
    by_cases hy : y < b
    · rw [e, if_pos hy]
      obtain ⟨h1, h2, h3⟩ := ih y
      refine ⟨by omega, fun x hx => ?_, ?_⟩
      · rcases List.mem_cons.mp hx with rfl | hx
        · exact h1
        · exact h2 x hx
      · rcases h3 with h3 | h3
        · exact Or.inr (by rw [h3]; exact List.mem_cons_self)
        · exact Or.inr (List.mem_cons_of_mem _ h3)
    · rw [e, if_neg hy]
      obtain ⟨h1, h2, h3⟩ := ih b
      refine ⟨h1, fun x hx => ?_, ?_⟩
      · rcases List.mem_cons.mp hx with rfl | hx
        · omega
        · exact h2 x hx
      · rcases h3 with h3 | h3
        · exact Or.inl h3
        · exact Or.inr (List.mem_cons_of_mem _ h3)
theorem ite_iI {a b : Int} (a1 : -2147483648 ≤ a) (a2 : a < 2147483648) (b1 : -2147483648 ≤ b) (b2 : b < 2147483648) : (if iI a < iI b then iI a else iI b) = iI (if a < b then a else b) := by
  by_cases h : a < b
  · rw [if_pos (iI_ltT h a1 b2), if_pos h]
  · rw [if_neg (iI_ltF h b1 a2), if_neg h]
theorem norm_mins {L : List Cl} {J : List Int32} (hN : L.length < N) (hl : L.length + J.length < 2147483640) (hok : ∀ x ∈ L, ok32 x) : f_X2_normalise_L8 N (L.map cI ++ J) (iI L.length) N 2147483647 2147483647 0 = some (iI (mnQ L), iI (mnR L)) := by
  have bd : ∀ (t : List Int), (∀ x ∈ t, -2147483648 ≤ x) → -2147483648 ≤ mnl 2147483647 t ∧ mnl 2147483647 t < 2147483648 := by
    intro t ht
    obtain ⟨h1, h2, h3⟩ := mnl_le t 2147483647
    refine ⟨?_, by omega⟩
    rcases h3 with h3 | h3
    · omega
    · exact ht _ h3
  have key := loop_det (f := fun fu i (s : Int32 × Int32) => f_X2_normalise_L8 N (L.map cI ++ J) (iI L.length) fu s.1 s.2 (iI (i : Int))) (fun i => (iI (mnl 2147483647 ((L.take i).map (fun c => c.1))), iI (mnl 2147483647 ((L.take i).map (fun c => c.2.1))))) L.length (iI (mnQ L), iI (mnR L))
    (fun fu i hi => by
      have hc := hok _ (List.getElem_mem hi)
      have hg : (L.map cI ++ J)[(i : Int).toNat]? = some (cI L[i]) := by rw [Int.toNat_natCast]; exact rc_get hi
      have b1 := bd ((L.take i).map (fun c => c.1)) (fun x hx => by
        obtain ⟨y, hy, rfl⟩ := List.mem_map.mp hx
        have := (hok y (List.mem_of_mem_take hy)).1
        omega)
      have b2 := bd ((L.take i).map (fun c => c.2.1)) (fun x hx => by
        obtain ⟨y, hy, rfl⟩ := List.mem_map.mp hx
        have := (hok y (List.mem_of_mem_take hy)).2.2.1
        omega)
      obtain ⟨o1, o2, o3, o4, o5, o6⟩ := hc
      show f_X2_normalise_L8 N (L.map cI ++ J) (iI L.length) (fu + 1) _ _ (iI (i : Int)) = f_X2_normalise_L8 N (L.map cI ++ J) (iI L.length) fu _ _ (iI ((i + 1 : Nat) : Int))
      rw [f_X2_normalise_L8, if_pos (iI_ltT (by omega) (by omega) (by omega)), rAt_eq (by omega) (by omega) (by omega) hg ⟨o1, o2, o3, o4, o5, o6⟩, qAt_eq (by omega) (by omega) (by omega) hg ⟨o1, o2, o3, o4, o5, o6⟩]
      simp only [Option.bind_some]
      rw [ite_iI (by omega) (by omega) b1.1 b1.2, ite_iI (by omega) (by omega) b2.1 b2.2, iI_succ, List.take_succ_eq_append_getElem hi, List.map_append, List.map_append, List.map_cons, List.map_cons, List.map_nil, List.map_nil, mnl_app, mnl_app])
    (fun fu => by
      show f_X2_normalise_L8 N (L.map cI ++ J) (iI L.length) (fu + 1) _ _ (iI (L.length : Int)) = _
      rw [f_X2_normalise_L8, if_neg (iI_ltF (by omega) (by omega) (by omega)), List.take_length]
      rfl)
    N 0 (Nat.zero_le _) (by omega)
  exact key
theorem cd_sft (a b : Int) (c : Cl) : cd (sft a b c) = cd c - (b * 128 + a * 2) := by
  simp only [cd, sft]
  omega
theorem normalise_eq {L : List Cl} {J : List Int32} (hN : L.length < N) (hl : L.length + J.length < 2147483640) (hok : ∀ x ∈ L, ok32 x) (hsh : ∀ x ∈ L, ok32 (sft (mnQ L) (mnR L) x)) : f_X2_normalise N (L.map cI ++ J) (iI L.length) = some ((nrm L).map cI ++ J) := by
  unfold f_X2_normalise
  rw [norm_mins hN hl hok]
  simp only [Option.bind_some]
  rw [iI_shl _ _ 7 (by decide), iI_shl _ _ 1 (by decide), iI_add]
  generalize ha : mnQ L = a at hsh
  generalize hb : mnR L = b at hsh
  have hSL : nrm L = srt (L.map (sft a b)) := by unfold nrm; rw [ha, hb]
  rw [hSL]
  let acc : Nat → List Cl := fun i => ((L.map (sft a b)).take i).foldl (fun x c => insC c x) []
  have accS : ∀ i, Srt (acc i) ∧ (acc i).Perm ((L.map (sft a b)).take i) := fun i => by
    obtain ⟨h1, h2⟩ := srt_go ((L.map (sft a b)).take i) [] List.Pairwise.nil
    rw [List.nil_append] at h2
    exact ⟨h1, h2⟩
  have accL : ∀ i, i ≤ L.length → (acc i).length = i := fun i hi => by
    rw [(accS i).2.length_eq, List.length_take, List.length_map]
    omega
  have accO : ∀ i, ∀ x ∈ acc i, ok32 x := fun i x hx => by
    have := List.mem_of_mem_take ((accS i).2.mem_iff.mp hx)
    obtain ⟨y, hy, rfl⟩ := List.mem_map.mp this
    exact hsh y hy
  have key := loop_det (f := fun fu i t => f_X2_normalise_L54 N (iI (b * 2 ^ 7 + a * 2 ^ 1)) (iI L.length) fu (iI (i : Int)) t) (fun i => (acc i).map cI ++ ((L.drop i).map cI ++ J)) L.length ((srt (L.map (sft a b))).map cI ++ J)
    (fun fu i hi => by
      show f_X2_normalise_L54 N (iI (b * 2 ^ 7 + a * 2 ^ 1)) (iI L.length) (fu + 1) (iI (i : Int)) ((acc i).map cI ++ ((L.drop i).map cI ++ J)) = f_X2_normalise_L54 N (iI (b * 2 ^ 7 + a * 2 ^ 1)) (iI L.length) fu (iI ((i + 1 : Nat) : Int)) ((acc (i + 1)).map cI ++ ((L.drop (i + 1)).map cI ++ J))
      have hai := accL i (Nat.le_of_lt hi)
      have e1 : (acc i).map cI ++ ((L.drop i).map cI ++ J) = ((acc i).take i).map cI ++ cI L[i] :: (((acc i).drop i).map cI ++ ((L.drop (i + 1)).map cI ++ J)) := by
        rw [List.take_of_length_le (by omega), List.drop_eq_nil_of_le (by omega : (acc i).length ≤ i), List.drop_eq_getElem_cons hi]
        rfl
      have hg : ((acc i).map cI ++ ((L.drop i).map cI ++ J))[i]? = some (cI L[i]) := by
        rw [List.getElem?_append_right (by simp; omega)]
        have : i - ((acc i).map cI).length = 0 := by simp; omega
        rw [this, List.drop_eq_getElem_cons hi]
        rfl
      have ecd : cI L[i] - iI (b * 2 ^ 7 + a * 2 ^ 1) = cI (sft a b L[i]) := by
        unfold cI
        rw [iI_sub, cd_sft]
        rfl
      rw [f_X2_normalise_L54, if_pos (iI_ltT (by omega) (by omega) (by omega)), z_get_iI (by omega) (by omega), Int.toNat_natCast, hg]
      simp only [Option.bind_some]
      rw [ecd]
      obtain ⟨p2, z2, h1, h2, h3, h4⟩ := norm_in (N := N) (A := acc i) (R := (L.drop (i + 1)).map cI ++ J) (c := sft a b L[i]) (accO i) (hsh _ (List.getElem_mem hi)) (by simp; omega) i N (cI L[i]) (by omega) (by omega)
      rw [e1, h2]
      simp only [Option.bind_some]
      rw [z_set_iI (by omega) (by omega) (by simp; omega), Int.toNat_natCast]
      simp only [Option.bind_some]
      rw [iI_succ]
      congr 1
      rw [List.set_append_right _ _ (by simp; omega)]
      have : p2 - (((acc i).take p2).map cI).length = 0 := by simp; omega
      rw [this, List.set_cons_zero]
      have ea : acc (i + 1) = insC (sft a b L[i]) (acc i) := by
        show ((L.map (sft a b)).take (i + 1)).foldl (fun x c => insC c x) [] = _
        rw [List.take_succ_eq_append_getElem (by simpa using hi), List.foldl_append]
        simp [acc]
      rw [ea, insC_at (accS i).1 (by omega : p2 ≤ (acc i).length) (fun j hj hpj => h3 j hj hpj (by omega)) h4]
      simp)
    (fun fu => by
      show f_X2_normalise_L54 N (iI (b * 2 ^ 7 + a * 2 ^ 1)) (iI L.length) (fu + 1) (iI (L.length : Int)) _ = _
      rw [f_X2_normalise_L54, if_neg (iI_ltF (by omega) (by omega) (by omega))]
      have : acc L.length = srt (L.map (sft a b)) := by
        show ((L.map (sft a b)).take L.length).foldl (fun x c => insC c x) [] = _
        rw [List.take_of_length_le (by simp)]
        rfl
      rw [this]
      simp)
    N 0 (Nat.zero_le _) (by omega)
  have e0 : (acc 0).map cI ++ ((L.drop 0).map cI ++ J) = L.map cI ++ J := by simp [acc]
  rw [e0] at key
  show ((f_X2_normalise_L54 N (iI (b * 2 ^ 7 + a * 2 ^ 1)) (iI L.length) N (iI ((0 : Nat) : Int)) (L.map cI ++ J)).bind _) = _
  rw [key]
  rfl
end
