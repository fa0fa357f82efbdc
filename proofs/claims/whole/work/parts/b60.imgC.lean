/-! the class's images -/
theorem upS {α : Type} (v : Nat → α) (j : Nat) (x : α) : va_up v j x j = x := if_pos rfl
theorem upN {α : Type} (v : Nat → α) {i j : Nat} (h : i ≠ j) (x : α) : va_up v j x i = v i := if_neg h
theorem ixI {i n : Nat} (h : i < n) (hn : n < 1000000) : z_ix (iI (i : Int)) n = some i := by
  unfold z_ix
  rw [li0, if_neg (iI_ltF (by omega) (by omega) (by omega)), iI_clamp (by omega) (by omega), Int.toNat_natCast, if_pos h]
theorem ztur_eq {k : Nat} : ztur k = iI (tur k) := by
  unfold ztur tur
  split <;> rfl
/-- a row of cells with room for n -/
def CE (n : Nat) (L : List Cl) (T : List Int32) (s : Int32) : Prop := ∃ J, T = L.map cI ++ J ∧ T.length = n ∧ s = iI L.length
theorem CE.le {n : Nat} {L : List Cl} {T : List Int32} {s : Int32} (h : CE n L T s) : L.length ≤ n := by
  obtain ⟨J, rfl, h2, _⟩ := h
  simp at h2
  omega
/-- the forms that stand in the class's rows -/
def FM (F : Nat → List Cl) (n : Nat) (mf : Nat → List Int32 × Int32) : Prop := (∀ i, (mf i).1.length = 12) ∧ ∀ i, i < n → CE 12 (F i) (mf i).1 (mf i).2
section
variable {N k : Nat} {L X : List Cl} {J T : List Int32}
theorem copy_CE {n m : Nat} {S : List Int32} {s : Int32} (hN : 100 ≤ N) (hT : T.length = n) (h : CE m L S s) (hl : L.length ≤ n) (hn : n ≤ 60) : ∃ J, f_X2_copy N T S s = some (L.map cI ++ J, iI L.length) ∧ L.length + J.length = n := by
  obtain ⟨K, rfl, h2, rfl⟩ := h
  refine ⟨T.drop L.length, copy_eq (by omega) (by omega) (by omega), by simp; omega⟩
theorem trn_ok (hk : k < 3) (h : Nf k X) : ∀ x ∈ X.map (trn k), ok32 x := fun x hx => by
  obtain ⟨y, hy, rfl⟩ := List.mem_map.mp hx
  obtain ⟨h1, h2, h3, h4, h5⟩ := h.2.2.2.2 y hy
  have := trnN_bd hk (a := y) (m := 11) (by omega) ⟨h1, by omega, by omega, by omega, by omega⟩ 1 (by omega)
  have ht := okT_rng this.1
  have := this.2
  simp only [trnN] at this ht
  exact ⟨by omega, by omega, by omega, by omega, ht.1, ht.2⟩
theorem trn_fg (h : Nf k X) : Fg k (X.map (trn k)) := by
  refine ⟨h.1, conn_map (fun a b ha _ e => adj_trn h.1 (h.2.2.2.2 a ha).1 e) h.2.1, nd_map h.2.2.1 (fun a ha b hb e => trn_inj h.1 (h.2.2.2.2 a ha).1 (h.2.2.2.2 b hb).1 e), by rw [List.length_map]; exact h.2.2.2.1, fun x hx => ?_⟩
  have h1 := trn_ok h.1 h x hx
  obtain ⟨y, hy, rfl⟩ := List.mem_map.mp hx
  exact ⟨trn_okT h.1 (h.2.2.2.2 y hy).1, by have := h1.1; omega, by have := h1.2.1; omega, by have := h1.2.2.1; omega, by have := h1.2.2.2.1; omega⟩
theorem mir_fg (h : Fg k X) : Fg k (X.map mir) := by
  refine ⟨h.1, conn_map (fun a b ha _ e => adj_mir h.1 (h.2.2.2.2 a ha).1 e) h.2.1, nd_map h.2.2.1 (fun a _ b _ e => mir_inj e), by rw [List.length_map]; exact h.2.2.2.1, fun x hx => ?_⟩
  obtain ⟨y, hy, rfl⟩ := List.mem_map.mp hx
  obtain ⟨h1, h2, h3, h4, h5⟩ := h.2.2.2.2 y hy
  exact ⟨h1, h4, h5, h2, h3⟩
theorem mir_ok (h : ∀ x ∈ X, ok32 x) : ∀ x ∈ X.map mir, ok32 x := fun x hx => by
  obtain ⟨y, hy, rfl⟩ := List.mem_map.mp hx
  obtain ⟨h1, h2, h3, h4, h5, h6⟩ := h y hy
  exact ⟨h3, h4, h1, h2, h5, h6⟩
/-- what goOn makes of an image -/
def nxt (k i : Nat) (X : List Cl) : List Cl := if i + 1 = tur k then nrm ((X.map (trn k)).map mir) else nrm (X.map (trn k))
theorem nxt_Nf (h : Nf k X) (i : Nat) : Nf k (nxt k i X) := by
  unfold nxt
  split
  · exact nrm_Nf (mir_fg (trn_fg h))
  · exact nrm_Nf (trn_fg h)
theorem nxt_len (i : Nat) : (nxt k i X).length = X.length := by
  unfold nxt
  split <;> rw [nrm_len] <;> simp
theorem nxt_img (h : Sm k L) {i : Nat} (hi : i + 1 < 2 * tur k) : nxt k i (img k L i) = img k L (i + 1) := by
  have ht := tur_pos (k := k)
  unfold nxt
  by_cases e : i + 1 = tur k
  · rw [if_pos e, show i = tur k - 1 by omega, img_mid h, show tur k - 1 + 1 = tur k by omega]
  · rw [if_neg e]
    refine img_next h (fun e2 => ?_)
    have := Nat.div_add_mod (i + 1) (tur k)
    rw [e2] at this
    have h1 : (i + 1) / tur k < 2 := (Nat.div_lt_iff_lt_mul ht.1).mpr hi
    generalize (i + 1) / tur k = z at this h1
    rcases (show z = 0 ∨ z = 1 by omega) with e3 | e3
    · rw [e3] at this; omega
    · rw [e3] at this; omega
theorem goOn_eq (hN : 100 ≤ N) (h : Nf k X) (hJ : X.length + J.length = 12) (i : Nat) (hi : i < 20) : f_X4_goOn N (iI i) k (X.map cI ++ J) (iI X.length) = some ((nxt k i X).map cI ++ J) := by
  have hk := h.1
  have ht := tur_pos (k := k)
  have hl := h.2.2.2.1
  unfold f_X4_goOn
  rw [nI_iI, turn_eq hk (by omega) (by omega) h.ok]
  simp only [Option.bind_some]
  rw [ztur_eq, li1, iI_sub]
  have e0 : (X.map (trn k)).length = X.length := List.length_map _
  have e1 : ((X.map (trn k)).map mir).length = X.length := by rw [List.length_map, e0]
  have hF := trn_fg h
  have hG := mir_fg hF
  unfold nxt
  by_cases e : i + 1 = tur k
  · rw [if_pos (by rw [iI_eq (by omega) (by omega) (by omega) (by omega)]; omega), if_pos e]
    have m1 := mirror_eq (N := N) (L := X.map (trn k)) (J := J) (by omega) (by omega) (trn_ok hk h)
    rw [e0] at m1
    rw [m1]
    simp only [Option.bind_some]
    have m2 := normalise_eq (N := N) (L := (X.map (trn k)).map mir) (J := J) (by omega) (by omega) (mir_ok (trn_ok hk h)) hG.ok
    rw [e1] at m2
    rw [m2]
    rfl
  · rw [if_neg (by rw [iI_eq (by omega) (by omega) (by omega) (by omega)]; omega), if_neg e]
    have m2 := normalise_eq (N := N) (L := X.map (trn k)) (J := J) (by omega) (by omega) (trn_ok hk h) hF.ok
    rw [e0] at m2
    rw [m2]
    rfl
theorem survey_eq {S : List Int32} {s : Int32} {m : Nat} {mf : Nat → List Int32 × Int32} (hN : 100 ≤ N) (h : Sm k L) (hS : CE m L S s) (hT : T.length = 12) (hmf : ∀ i, (mf i).1.length = 12) :
    OK (f_X4_survey N S s k T mf) (fun u => u.1 = iI (2 * tur k : Nat) ∧ u.2.1.length = 12 ∧ FM (img k L) (2 * tur k) u.2.2.2) := by
  have hk := h.1
  have ht := tur_pos (k := k)
  have hl := h.2.2.2.1
  unfold f_X4_survey
  obtain ⟨J, hc, hJ⟩ := copy_CE (N := N) hN hT hS hl (by omega)
  rw [hc]
  simp only [Option.bind_some]
  rw [normalise_eq (by omega) (by omega) h.ld.ok h.fg.ok]
  simp only [Option.bind_some]
  have en : (if 12 < 2 * ztur k then 12 else 2 * ztur k) = iI (2 * tur k : Nat) := by
    rw [ztur_eq, li2, iI_mul, show (12 : Int32) = iI 12 from rfl, if_neg (iI_ltF (by omega) (by omega) (by omega))]
    rfl
  rw [en, OK_bind]
  refine OK.mono (Q := fun u => u.1.length = 12 ∧ FM (img k L) (2 * tur k) u.2) ?_ (fun u hu => ?_)
  · refine zlp3 (2 * tur k) (fun i v T mf => v = iI i ∧ (∃ X J, Nf k X ∧ X.length = L.length ∧ X.length + J.length = 12 ∧ T = X.map cI ++ J ∧ (i < 2 * tur k → X = img k L i)) ∧ FM (img k L) i mf) ?_ N 0 _ _ _ (by omega) (by omega) ⟨rfl, ⟨nrm L, J, nrm_Nf h.fg, nrm_len, by rw [nrm_len]; exact hJ, rfl, fun _ => (img_0 h).symm⟩, hmf, fun i hi => by omega⟩
    rintro fu i v T mf hi ⟨rfl, ⟨X, J, hX, hXl, hXJ, rfl, hXi⟩, hF⟩ ih
    rw [f_X4_survey_L32]
    rcases Nat.lt_or_ge i (2 * tur k) with hlt | hge
    · rw [if_pos (iI_ltT (by omega) (by omega) (by omega)), ixI (by omega) (by omega)]
      simp only [Option.bind_some]
      rw [if_pos (by omega : i < 12)]
      obtain ⟨K, hc, hK⟩ := copy_CE (N := N) (L := X) (m := 12) (S := X.map cI ++ J) (s := iI X.length) hN (hF.1 i) ⟨J, rfl, by simp; omega, rfl⟩ (by omega) (by omega)
      rw [← hXl, hc]
      simp only [Option.bind_some]
      rw [goOn_eq hN hX hXJ i (by omega)]
      simp only [Option.bind_some]
      rw [iI_succ, hXl]
      refine ih hlt _ _ _ ⟨rfl, ⟨nxt k i X, J, nxt_Nf hX i, by rw [nxt_len, hXl], by rw [nxt_len]; exact hXJ, rfl, fun h2 => ?_⟩, fun j => ?_, fun j hj => ?_⟩
      · rw [hXi hlt, nxt_img h h2]
      · by_cases e : j = i
        · rw [e, upS]; simp; omega
        · rw [upN _ e]; exact hF.1 j
      · by_cases e : j = i
        · rw [e, upS]
          exact ⟨K, by rw [hXi hlt], by simp; omega, by rw [img_len]⟩
        · rw [upN _ e]; exact hF.2 j (by omega)
    · have e0 : i = 2 * tur k := by omega
      subst e0
      rw [if_neg (iI_ltF (by omega) (by omega) (by omega)), OK_some]
      exact ⟨by simp; omega, hF⟩
  · rw [OK_some]
    exact ⟨rfl, hu.1, hu.2⟩
/-- two forms of the class compared -/
theorem cmp_CE {A B : List Cl} {S R : List Int32} {s r : Int32} (hN : 100 ≤ N) (hA : CE 12 A S s) (hB : CE 12 B R r) (hl : A.length = B.length) (oA : ∀ a ∈ A, ok32 a) (oB : ∀ b ∈ B, ok32 b) : f_X2_compareWith N S s R r = some (iI (lx A B)) := by
  have l1 := hA.le
  obtain ⟨J, rfl, h2, rfl⟩ := hA
  obtain ⟨K, rfl, h4, rfl⟩ := hB
  simp at h2 h4
  exact compare_eq hN hl (by omega) oA oB (by omega) (by omega)
theorem lx_rng {A B : List Cl} (oA : ∀ a ∈ A, ok32 a) (oB : ∀ b ∈ B, ok32 b) : -8192 < lx A B ∧ lx A B < 8192 := by
  unfold lx
  induction A generalizing B with
  | nil => cases B <;> exact ⟨show (-8192 : Int) < 0 by decide, show (0 : Int) < 8192 by decide⟩
  | cons a A ih =>
    cases B with
    | nil => exact ⟨show (-8192 : Int) < 0 by decide, show (0 : Int) < 8192 by decide⟩
    | cons b B =>
      rw [lxg]
      split
      · exact ih (fun x hx => oA x (by simp [hx])) (fun x hx => oB x (by simp [hx]))
      · have := cd_rng (oA a (by simp))
        have := cd_rng (oB b (by simp))
        omega
section
variable {F : Nat → List Cl} {n m : Nat} {mf : Nat → List Int32 × Int32}
theorem symmetries_eq (hN : 100 ≤ N) (hF : FM F n mf) (hl : ∀ i, (F i).length = m) (ho : ∀ i, ∀ x ∈ F i, ok32 x) (h0 : 0 < n) (hn : n ≤ 12) : f_X4_symmetries N (iI n) mf = some (iI (symN F n)) := by
  suffices h : OK (f_X4_symmetries N (iI n) mf) (fun u => u = iI (symN F n)) by
    obtain ⟨a, e, rfl⟩ := h; exact e
  unfold f_X4_symmetries
  rw [OK_bind]
  refine zlp2 n (fun i c v => v = iI i ∧ c = iI (symN F i)) ?_ N 0 _ _ (by omega) (by omega) ⟨rfl, rfl⟩
  rintro fu i c v hi ⟨rfl, rfl⟩ ih
  rw [f_X4_symmetries_L4]
  have hs : symN F i ≤ i := cnt_le _ _
  rcases Nat.lt_or_ge i n with hlt | hge
  · rw [if_pos (iI_ltT (by omega) (by omega) (by omega)), ixI (by omega) (by omega)]
    simp only [Option.bind_some]
    have e1 : symN F (i + 1) = symN F i + (if decide (F i = F 0) then 1 else 0) := rfl
    rw [iI_succ]
    by_cases h0i : 0 = i
    · subst h0i
      rw [if_pos rfl, if_pos (by omega)]
      obtain ⟨J, e, hJ, e2⟩ := hF.2 0 h0
      rw [e, e2]
      have := (hF.2 0 h0).le
      rw [e] at hJ
      simp at hJ
      rw [compare_s_eq hN (by omega) (by omega)]
      simp only [Option.bind_some]
      rw [if_pos (by rfl), iI_succ]
      exact ih hlt _ _ ⟨rfl, by rw [e1]; simp⟩
    · rw [if_neg h0i, if_pos (by omega), if_pos (by omega), cmp_CE hN (hF.2 i hlt) (hF.2 0 h0) (by rw [hl, hl]) (ho i) (ho 0)]
      simp only [Option.bind_some]
      have hr := lx_rng (ho i) (ho 0)
      have hq := lx_eq (A := F i) (B := F 0) (by rw [hl, hl]) (ho i) (ho 0)
      rw [OK_ite, li0, iI_eq (by omega) (by omega) (by omega) (by omega), iI_succ, hq]
      refine ⟨fun e => ih hlt _ _ ⟨rfl, by rw [e1, e]; simp⟩, fun e => ih hlt _ _ ⟨rfl, ?_⟩⟩
      rw [e1, decide_eq_false e]
      rfl
  · have e0 : i = n := by omega
    subst e0
    rw [if_neg (iI_ltF (by omega) (by omega) (by omega)), OK_some, OK_some]
theorem smallest_eq (hN : 100 ≤ N) (hF : FM F n mf) (hl : ∀ i, (F i).length = m) (ho : ∀ i, ∀ x ∈ F i, ok32 x) (h0 : 0 < n) (hn : n ≤ 12) : f_X4_smallest N (iI n) mf = some (bst F n) := by
  suffices h : OK (f_X4_smallest N (iI n) mf) (fun u => u = bst F n) by
    obtain ⟨a, e, rfl⟩ := h; exact e
  unfold f_X4_smallest
  rw [OK_bind]
  refine OK.mono (Q := fun u => u = iI (bst F n)) ?_ ?_
  · refine zlp2 (n - 1) (fun i c v => v = iI ((i + 1 : Nat) : Int) ∧ c = iI (bst F (i + 1))) ?_ N 0 _ _ (by omega) (by omega) ⟨rfl, ?_⟩
    case refine_2 =>
      show iI 0 = iI ((if lx (F 0) (F 0) < 0 then 0 else 0 : Nat) : Int)
      split <;> rfl
    rintro fu i c v hi ⟨rfl, rfl⟩ ih
    rw [f_X4_smallest_L4]
    have hb := bst_lt (F := F) (n := i + 1) (by omega)
    rcases Nat.lt_or_ge (i + 1) n with hlt | hge
    · rw [if_pos (iI_ltT (by omega) (by omega) (by omega)), ixI (by omega) (by omega), ixI (by omega) (by omega)]
      simp only [Option.bind_some]
      rw [if_pos (by omega), if_pos (by omega), if_neg (by omega), cmp_CE hN (hF.2 _ hlt) (hF.2 _ (by omega)) (by rw [hl, hl]) (ho _) (ho _)]
      simp only [Option.bind_some]
      have hr := lx_rng (ho (i + 1)) (ho (bst F (i + 1)))
      rw [OK_ite, li0, iI_lt (by omega) (by omega) (by omega) (by omega), iI_succ]
      refine ⟨fun e => ih (by omega) _ _ ⟨rfl, ?_⟩, fun e => ih (by omega) _ _ ⟨rfl, ?_⟩⟩
      · rw [show bst F (i + 1 + 1) = if lx (F (i + 1)) (F (bst F (i + 1))) < 0 then i + 1 else bst F (i + 1) from rfl, if_pos e]
      · rw [show bst F (i + 1 + 1) = if lx (F (i + 1)) (F (bst F (i + 1))) < 0 then i + 1 else bst F (i + 1) from rfl, if_neg e]
    · have e0 : i + 1 = n := by omega
      rw [if_neg (iI_ltF (by omega) (by omega) (by omega)), OK_some, e0]
  · rintro _ rfl
    have hb := bst_lt (F := F) (n := n) h0
    rw [ixI (by omega) (by omega)]
    simp only [Option.bind_some]
    rw [OK_some]
theorem before_eq (hN : 100 ≤ N) (hF : FM F n mf) (hl : ∀ i, (F i).length = m) (ho : ∀ i, ∀ x ∈ F i, ok32 x) (hn : n ≤ 12) {i : Nat} (hi : i < n) : OK (f_X4_isThereBefore N (iI i) mf) (fun u => ((∀ j, j < i → F j ≠ F i) ∧ u = 0) ∨ (¬ (∀ j, j < i → F j ≠ F i) ∧ u = 1)) := by
  unfold f_X4_isThereBefore
  rw [OK_bind]
  refine zlp1 i (fun j v => v = iI j ∧ ∀ x, x < j → F x ≠ F i) ?_ N 0 _ (by omega) (by omega) ⟨rfl, fun x hx => by omega⟩
  rintro fu j v hj ⟨rfl, hp⟩ ih
  rw [f_X4_isThereBefore_L2]
  rcases Nat.lt_or_ge j i with hlt | hge
  · rw [if_pos (iI_ltT (by omega) (by omega) (by omega)), ixI (by omega) (by omega), ixI (by omega) (by omega)]
    simp only [Option.bind_some]
    rw [if_pos (by omega), if_pos (by omega), if_neg (by omega), cmp_CE hN (hF.2 j (by omega)) (hF.2 i hi) (by rw [hl, hl]) (ho _) (ho _)]
    simp only [Option.bind_some]
    have hr := lx_rng (ho j) (ho i)
    have hq := lx_eq (A := F j) (B := F i) (by rw [hl, hl]) (ho j) (ho i)
    rw [OK_ite, li0, iI_eq (by omega) (by omega) (by omega) (by omega), iI_succ, hq]
    refine ⟨fun e => ?_, fun e => ih hlt _ ⟨rfl, fun x hx => ?_⟩⟩
    · rw [OK_some]
      show OK (some _) _
      rw [OK_some]
      exact Or.inr ⟨fun hall => hall j hlt e, rfl⟩
    · rcases Nat.lt_or_ge x j with g | g
      · exact hp x g
      · rw [show x = j by omega]; exact e
  · have e0 : j = i := by omega
    subst e0
    rw [if_neg (iI_ltF (by omega) (by omega) (by omega)), OK_some]
    show OK (some _) _
    rw [OK_some]
    exact Or.inl ⟨hp, rfl⟩
theorem different_eq (hN : 100 ≤ N) (hF : FM F n mf) (hl : ∀ i, (F i).length = m) (ho : ∀ i, ∀ x ∈ F i, ok32 x) (hn : n ≤ 12) : f_X4_different N (iI n) mf = some (iI (difN F n)) := by
  suffices h : OK (f_X4_different N (iI n) mf) (fun u => u = iI (difN F n)) by
    obtain ⟨a, e, rfl⟩ := h; exact e
  unfold f_X4_different
  rw [OK_bind]
  refine zlp2 n (fun i c v => v = iI i ∧ c = iI (difN F i)) ?_ N 0 _ _ (by omega) (by omega) ⟨rfl, rfl⟩
  rintro fu i c v hi ⟨rfl, rfl⟩ ih
  rw [f_X4_different_L4]
  rcases Nat.lt_or_ge i n with hlt | hge
  · rw [if_pos (iI_ltT (by omega) (by omega) (by omega)), OK_bind]
    refine (before_eq hN hF hl ho hn hlt).mono (fun u hu => ?_)
    have e1 : difN F (i + 1) = difN F i + (if decide (∀ j, j < i → F j ≠ F i) then 1 else 0) := rfl
    simp only [iI_succ]
    rcases hu with ⟨hp, rfl⟩ | ⟨hp, rfl⟩
    · rw [if_pos rfl]
      exact ih hlt _ _ ⟨rfl, by rw [e1, decide_eq_true hp]; rfl⟩
    · rw [if_neg (by decide)]
      exact ih hlt _ _ ⟨rfl, by rw [e1, decide_eq_false hp]; rfl⟩
  · have e0 : i = n := by omega
    subst e0
    rw [if_neg (iI_ltF (by omega) (by omega) (by omega)), OK_some, OK_some]
theorem allKeys_imgs (hN : 100 ≤ N) (hF : FM F n mf) (ho : ∀ i, ∀ x ∈ F i, ok32 x) (hn : n ≤ 12) : OK (f_X4_allHaveKeys N (iI n) mf) (fun u => ((∃ i, i < n ∧ wide (F i)) ∧ u = 0) ∨ (¬ (∃ i, i < n ∧ wide (F i)) ∧ u = 1)) := by
  unfold f_X4_allHaveKeys
  rw [OK_bind]
  refine zlp1 n (fun j v => v = iI j ∧ ∀ x, x < j → ¬ wide (F x)) ?_ N 0 _ (by omega) (by omega) ⟨rfl, fun x hx => by omega⟩
  rintro fu j v hj ⟨rfl, hp⟩ ih
  rw [f_X4_allHaveKeys_L2]
  rcases Nat.lt_or_ge j n with hlt | hge
  · rw [if_pos (iI_ltT (by omega) (by omega) (by omega)), ixI (by omega) (by omega)]
    simp only [Option.bind_some]
    rw [if_pos (by omega)]
    obtain ⟨J, e, hJ, e2⟩ := hF.2 j hlt
    rw [e, e2]
    have := (hF.2 j hlt).le
    rw [e] at hJ
    simp at hJ
    rw [OK_bind]
    refine (allKeys_eq hN (by omega) (ho j) (by omega)).mono (fun u hu => ?_)
    rw [iI_succ]
    rcases hu with ⟨hw, rfl⟩ | ⟨hw, rfl⟩
    · rw [if_pos rfl, OK_some]
      show OK (some _) _
      rw [OK_some]
      exact Or.inl ⟨⟨j, hlt, hw⟩, rfl⟩
    · rw [if_neg (by decide)]
      refine ih hlt _ ⟨rfl, fun x hx => ?_⟩
      rcases Nat.lt_or_ge x j with g | g
      · exact hp x g
      · rw [show x = j by omega]; exact hw
  · have e0 : j = n := by omega
    subst e0
    rw [if_neg (iI_ltF (by omega) (by omega) (by omega)), OK_some]
    show OK (some _) _
    rw [OK_some]
    exact Or.inr ⟨fun ⟨x, h1, h2⟩ => hp x h1 h2, rfl⟩
end
/-- canonical or not, looked at image by image -/
theorem isCanonical_eq {S : List Int32} {s : Int32} {n : Nat} (hN : 100 ≤ N) (h : NF k L) (hS : CE 12 L S s) (hT : T.length = 12) :
    OK (f_X4_isCanonical N S s k T) (fun u => ((∀ i, i < 2 * tur k → ¬ lx (img k L i) L < 0) ∧ u.1 = 1 ∧ u.2.1.length = 12) ∨ (¬ (∀ i, i < 2 * tur k → ¬ lx (img k L i) L < 0) ∧ u.1 = 0 ∧ u.2.1.length = 12)) := by
  have hk := h.1.1
  have hs := h.1.sm
  have ht := tur_pos (k := k)
  have hl := h.1.2.2.2.1
  unfold f_X4_isCanonical
  obtain ⟨J, hc, hJ⟩ := copy_CE (N := N) hN hT hS hl (by omega)
  rw [hc]
  simp only [Option.bind_some]
  rw [OK_bind]
  refine zlp2 (2 * tur k) (fun i v T => v = iI i ∧ (∃ X J, Nf k X ∧ X.length = L.length ∧ X.length + J.length = 12 ∧ T = X.map cI ++ J ∧ (i < 2 * tur k → X = img k L i)) ∧ ∀ j, j < i → ¬ lx (img k L j) L < 0) ?_ N 0 _ _ (by omega) (by omega) ⟨rfl, ⟨L, J, h.1, rfl, hJ, rfl, fun _ => by rw [img_0 hs, h.self]⟩, fun i hi => by omega⟩
  rintro fu i v T hi ⟨rfl, ⟨X, J, hX, hXl, hXJ, rfl, hXi⟩, hp⟩ ih
  rw [f_X4_isCanonical_L10, ztur_eq, li2, iI_mul]
  rcases Nat.lt_or_ge i (2 * tur k) with hlt | hge
  · rw [if_pos (iI_ltT (by omega) (by omega) (by omega)), cmp_CE (A := X) hN ⟨J, rfl, by simp; omega, by rw [hXl]⟩ hS hXl hX.ok h.1.ok]
    simp only [Option.bind_some]
    have hr := lx_rng hX.ok h.1.ok
    have hXe := hXi hlt
    rw [OK_ite, li0, iI_lt (by omega) (by omega) (by omega) (by omega)]
    refine ⟨fun e => ?_, fun e => ?_⟩
    · rw [OK_some]
      show OK (some _) _
      rw [OK_some]
      exact Or.inr ⟨fun hall => hall i hlt (by rw [← hXe]; exact e), rfl, by simp; omega⟩
    · rw [← hXl, goOn_eq hN hX hXJ i (by omega)]
      simp only [Option.bind_some]
      rw [iI_succ, hXl]
      refine ih hlt _ _ ⟨rfl, ⟨nxt k i X, J, nxt_Nf hX i, by rw [nxt_len, hXl], by rw [nxt_len]; exact hXJ, rfl, fun h2 => ?_⟩, fun j hj => ?_⟩
      · rw [hXe, nxt_img hs h2]
      · rcases Nat.lt_or_ge j i with g | g
        · exact hp j g
        · rw [show j = i by omega, ← hXe]; exact e
  · have e0 : i = 2 * tur k := by omega
    subst e0
    rw [if_neg (iI_ltF (by omega) (by omega) (by omega)), OK_some]
    show OK (some _) _
    rw [OK_some]
    exact Or.inl ⟨hp, rfl, by simp; omega⟩
end
