/-! the class's free figures -/
section
variable {N k n j : Nat} {X Y : List Cl} {A y : List Int64} {st fst sy fc ic : List Int32} {fs mn is fb : Int32} {mf : Nat → List Int32 × Int32}
def syN (k : Nat) (X : List Cl) : Nat := symN (img k X) (2 * tur k)
/-- how many of a list have s symmetries -/
def cS (k : Nat) (F : List (List Cl)) (s : Nat) : Nat := (F.filter (fun X => decide (syN k X = s))).length
def CFr (k f : Nat) (fst sy : List Int32) (y : List Int64) : Prop := f ≤ gre k ∧ fst.length = 10 ∧ sy.length = 117 ∧ y.length = 180 ∧ (∀ j, 1 ≤ j → j ≤ f + 1 → fst[j]? = some (iI (offF k j : Nat))) ∧ (∀ j, 1 ≤ j → j ≤ f → SEG y (offF k j) ((frl k j).map pck)) ∧ (∀ j s, 1 ≤ j → j ≤ f → s ≤ 12 → sy[j * 13 + s]? = some (iI (cS k (frl k j) s : Nat))) ∧ ∀ j s, f < j → j ≤ 8 → s ≤ 12 → sy[j * 13 + s]? = some (iI 0)
/-- in the midst of a size -/
def FB (k n : Nat) (F : List (List Cl)) (fst sy : List Int32) (y : List Int64) : Prop := fst.length = 10 ∧ sy.length = 117 ∧ y.length = 180 ∧ (∀ j, 1 ≤ j → j ≤ n → fst[j]? = some (iI (offF k j : Nat))) ∧ fst[n + 1]? = some (iI ((offF k n + F.length : Nat) : Int)) ∧ (∀ j, 1 ≤ j → j < n → SEG y (offF k j) ((frl k j).map pck)) ∧ SEG y (offF k n) (F.map pck) ∧ (∀ j s, 1 ≤ j → j < n → s ≤ 12 → sy[j * 13 + s]? = some (iI (cS k (frl k j) s : Nat))) ∧ (∀ s, s ≤ 12 → sy[n * 13 + s]? = some (iI (cS k F s : Nat))) ∧ ∀ j s, n < j → j ≤ 8 → s ≤ 12 → sy[j * 13 + s]? = some (iI 0)
theorem offF_le (h1 : 1 ≤ j) : ∀ {n : Nat}, j < n → offF k j + (frl k j).length ≤ offF k n
  | 0, h => by omega
  | n + 1, h => by
    rw [offF_succ (show 1 ≤ n by omega)]
    rcases Nat.lt_or_ge j n with g | g
    · have := offF_le h1 g; omega
    · have e : j = n := by omega
      subst e; omega
theorem syN_le : syN k X ≤ 12 := by
  have := cnt_le (fun i => decide (img k X i = img k X 0)) (2 * tur k)
  have := tur_pos (k := k)
  unfold syN symN
  omega
theorem CFr.go (h : CFr k n fst sy y) (h2 : n + 1 ≤ gre k) : FB k (n + 1) [] (fst.set (n + 2) (iI (offF k (n + 1) : Nat))) sy y := by
  obtain ⟨a0, a1, a2, a3, a4, a5, a6, a7⟩ := h
  have h8 := gre_le (k := k)
  refine ⟨by simp [a1], a2, a3, fun j j1 j2 => st1 (a4 j j1 (by omega)) (by omega), st0 (by omega), fun j j1 j2 => a5 j j1 (by omega), fun i x hx => by simp at hx, fun j s j1 j2 hs => a6 j s j1 (by omega) hs, fun s hs => a7 (n + 1) s (by omega) (by omega) hs, fun j s j1 j2 hs => a7 j s (by omega) j2 hs⟩
theorem FB.cfr (h1 : 1 ≤ n) (h2 : n ≤ gre k) (h : FB k n (frl k n) fst sy y) : CFr k n fst sy y := by
  obtain ⟨a1, a2, a3, a4, a5, a6, a7, a8, a9, a10⟩ := h
  refine ⟨h2, a1, a2, a3, fun j j1 j2 => ?_, fun j j1 j2 => ?_, fun j s j1 j2 hs => ?_, a10⟩
  · rcases Nat.lt_or_ge n j with g | g
    · have e : j = n + 1 := by omega
      subst e
      rw [a5, offF_succ h1]
    · exact a4 j j1 g
  · rcases Nat.lt_or_ge j n with g | g
    · exact a6 j j1 g
    · have e : j = n := by omega
      subst e; exact a7
  · rcases Nat.lt_or_ge j n with g | g
    · exact a8 j s j1 g hs
    · have e : j = n := by omega
      subst e; exact a9 s hs
theorem cS_app {F : List (List Cl)} {s : Nat} : cS k (F ++ [X]) s = cS k F s + if syN k X = s then 1 else 0 := by
  unfold cS
  rw [List.filter_append, List.length_append]
  by_cases e : syN k X = s
  · rw [if_pos e]; simp [e]
  · rw [if_neg e]; simp [e]
theorem appendC (hN : 2000 ≤ N) (hk : k < 3) (h1 : 1 ≤ n) (h2 : n ≤ gre k) (hX : NF k X) (hXl : X.length = n) (hCE : CE 12 X fc fs) {F : List (List Cl)} (hF : F.length < (frl k n).length) (h : FB k n F fst sy y) (hsi : SI ic mf) :
    OK (f_X1_appendFree N (iI n) (lN (pck X)) fst sy k y fc fs mn ic is mf) (fun w => FB k n (F ++ [X]) w.1 w.2.1 w.2.2.1 ∧ SI w.2.2.2.2.1 w.2.2.2.2.2.2) := by
  have h8 := gre_le (k := k)
  have hbd := (off_bd hk h1 h2).2.2
  rw [offF_succ h1] at hbd
  obtain ⟨a1, a2, a3, a4, a5, a6, a7, a8, a9, a10⟩ := h
  have htu := tur_pos (k := k)
  have hs12 := syN_le (k := k) (X := X)
  unfold f_X1_appendFree
  rw [iI_succ, gI a5 (by omega), Option.bind_some, show (180 : Int32) = iI 180 from rfl, if_pos (iI_ltT (by omega) (by omega) (by omega)), sI (by omega) (by omega), Option.bind_some, iI_succ, sI (by omega) (by omega), Option.bind_some, OK_bind]
  refine (survey_eq (by omega) hX.1.sm hCE hsi.1 hsi.2).mono ?_
  rintro ⟨n2, ic2, is2, mf2⟩ ⟨e1, e2, e3⟩
  simp only at e1 e2 e3 ⊢
  subst e1
  rw [symmetries_eq (m := X.length) (by omega) e3 (fun i => img_len i) (fun i => (img_Nf hX.1.sm i).ok) (by omega) (by omega), Option.bind_some, show symN (img k X) (2 * tur k) = syN k X from rfl, oN_iI, show (13 : Int32) = iI 13 from rfl, iI_mul, iI_add, show (n : Int) * 13 + (syN k X : Nat) = ((n * 13 + syN k X : Nat) : Int) by omega, if_pos (iI_ltT (by omega) (by omega) (by omega)), gI (a9 _ hs12) (by omega), Option.bind_some, sI (by omega) (by omega), Option.bind_some, OK_some]
  refine ⟨⟨by simp [a1], by simp [a2], by simp [a3], fun j j1 j2 => st1 (a4 j j1 j2) (by omega), ?_, fun j j1 j2 i x hx => ?_, fun i x hx => ?_, fun j s j1 j2 hs => ?_, fun s hs => ?_, fun j s j1 j2 hs => ?_⟩, e2, e3.1⟩
  · show (fst.set (n + 1) (iI ((offF k n + F.length + 1 : Nat) : Int)))[n + 1]? = _
    rw [st0 (by omega)]
    simp
    rfl
  · have hlt := lt_of_get hx
    rw [List.length_map] at hlt
    have := offF_le (k := k) j1 j2
    exact st1 (a6 j j1 j2 i x hx) (by omega)
  · rw [List.map_append, List.map_singleton] at hx
    rcases Nat.lt_or_ge i F.length with g | g
    · rw [List.getElem?_append_left (by simpa using g)] at hx
      exact st1 (a7 i x hx) (by omega)
    · have hlt := lt_of_get hx
      simp at hlt
      have e : i = F.length := by omega
      subst e
      rw [List.getElem?_append_right (by simp), List.length_map, Nat.sub_self] at hx
      cases hx
      exact st0 (by omega)
  · exact st1 (a8 j s j1 j2 hs) (by omega)
  · rw [cS_app]
    by_cases e : syN k X = s
    · rw [e, if_pos rfl, st0 (by omega), iI_succ]
    · rw [if_neg e, Nat.add_zero]
      exact st1 (a9 s hs) (by omega)
  · exact st1 (a10 j s j1 j2 hs) (by omega)
theorem unpack_n {T : List Int32} (hN : 20 ≤ N) (h : NF k X) (h8 : n ≤ 8) (hXl : X.length = n) (hT : T.length = 12) : f_X2_unpack N (lN (pck X)) (iI n) T = some (X.map cI ++ T.drop n, iI n) ∧ CE 12 X (X.map cI ++ T.drop n) (iI n) ∧ (X.map cI ++ T.drop n).length = 12 := by
  subst hXl
  exact ⟨unpack_eq hN (h.kk h8) (h.inB (by omega)) (by omega) (by omega), ⟨_, rfl, by simp; omega, rfl⟩, by simp; omega⟩
theorem freeSize (hN : 2000 ≤ N) (hk : k < 3) {b : Nat} (hC : CF k b st A) (h1 : 1 ≤ n) (h2 : n ≤ b) (h : FB k n [] fst sy y) (hfc : fc.length = 12) (hsi : SI ic mf) :
    OK (f_X1_buildFree_L41 N (iI n) st k A N (iI (off k n : Nat)) fst sy y fc fs mn ic is mf) (fun w => CFr k n w.1 w.2.1 w.2.2.1 ∧ w.2.2.2.1.length = 12 ∧ SI w.2.2.2.2.2.2.1 w.2.2.2.2.2.2.2.2) := by
  have h8 := gre_le (k := k)
  have hb8 := hC.1
  have hX : ∀ X, X ∈ fxl k n ↔ (NF k X ∧ X.length = n) := (fxl_ok hk h1 (by omega)).2
  have hbd := (off_bd hk h1 (by omega : n ≤ gre k)).2.1
  have hle : off k n + (fxl k n).length = off k (n + 1) := (off_succ h1).symm
  have hsl := hC.2.1
  have hAl := hC.2.2.1
  refine zlp10 (fxl k n).length (fun i z fst sy y fc fs mn ic is mf => z = iI ((off k n + i : Nat) : Int) ∧ FB k n (((fxl k n).take i).filter (canB k)) fst sy y ∧ fc.length = 12 ∧ SI ic mf) ?_ N 0 _ _ _ _ _ _ _ _ _ _ (by omega) (by omega) ⟨rfl, h, hfc, hsi⟩
  rintro fu i z fst sy y fc fs mn ic is mf hi ⟨rfl, hF, hfc, hsi⟩ ih
  rw [f_X1_buildFree_L41, iI_succ, gI (hC.2.2.2.1 (n + 1) (by omega) (by omega)) (by omega), Option.bind_some]
  rcases Nat.lt_or_ge i (fxl k n).length with g | g
  · obtain ⟨X, hXi⟩ := gL g
    have hXm := List.mem_of_getElem? hXi
    obtain ⟨hNF, hXl⟩ := (hX X).mp hXm
    have hpk : (fxp k n)[i]? = some (pck X) := by unfold fxp; rw [List.getElem?_map, hXi]; rfl
    have htk : (fxl k n).take (i + 1) = (fxl k n).take i ++ [X] := by
      rw [List.take_succ_eq_append_getElem g]
      congr 2
      exact (List.getElem?_eq_some_iff.mp hXi).2
    have hgA : z_get A (iI ((off k n + i : Nat) : Int)) = some (lN (pck X)) := gI (hC.2.2.2.2 n h1 h2 i _ hpk) (by omega)
    obtain ⟨hun, hCE, hfc2⟩ := unpack_n (N := N) (T := fc) (by omega) hNF (by omega) hXl hfc
    rw [if_pos (iI_ltT (by omega) (by omega) (by omega)), show (1100 : Int32) = iI 1100 from rfl, if_pos (iI_ltT (by omega) (by omega) (by omega)), hgA, Option.bind_some, hun, Option.bind_some, OK_bind]
    refine (isCanonical_eq (n := 0) (by omega) hNF hCE hsi.1).mono ?_
    rintro ⟨w1, w2, w3⟩ (⟨hcan, e1, e2⟩ | ⟨hcan, e1, e2⟩)
    · simp only at e1 e2 ⊢
      subst e1
      have hcb : canB k X = true := canB_iff.mpr hcan
      have hflt : ((fxl k n).take (i + 1)).filter (canB k) = ((fxl k n).take i).filter (canB k) ++ [X] := by
        rw [htk, List.filter_append]; simp [hcb]
      rw [if_neg (by decide), Option.bind_some, OK_bind]
      have hlen : (((fxl k n).take i).filter (canB k)).length < (frl k n).length := by
        have hsub : (((fxl k n).take (i + 1)).filter (canB k)).Sublist (frl k n) := (List.take_sublist _ _).filter _
        have := hsub.length_le
        rw [hflt, List.length_append] at this
        simp at this
        omega
      refine OK.mono (appendC (N := N) (mn := mn) (is := w3) hN hk h1 (by omega) hNF hXl hCE hlen hF (⟨e2, hsi.2⟩ : SI w2 mf)) ?_
      rintro ⟨v1, v2, v3, v4, v5, v6, v7⟩ ⟨hv, hv2⟩
      simp only at hv hv2 ⊢
      rw [iI_succ]
      exact ih g _ _ _ _ _ _ _ _ _ _ ⟨rfl, by rw [hflt]; exact hv, hfc2, hv2⟩
    · simp only at e1 e2 ⊢
      subst e1
      have hcb : ¬ canB k X = true := fun h => hcan (canB_iff.mp h)
      have hflt : ((fxl k n).take (i + 1)).filter (canB k) = ((fxl k n).take i).filter (canB k) := by
        rw [htk, List.filter_append]; simp [hcb]
      rw [if_pos rfl, iI_succ]
      exact ih g _ _ _ _ _ _ _ _ _ _ ⟨rfl, by rw [hflt]; exact hF, hfc2, e2, hsi.2⟩
  · have e0 : i = (fxl k n).length := by omega
    subst e0
    rw [if_neg (iI_ltF (by omega) (by omega) (by omega)), OK_some]
    rw [List.take_length] at hF
    exact ⟨FB.cfr h1 (by omega) hF, hfc, hsi⟩
theorem freeC (hN : 2000 ≤ N) (hk : k < 3) {b f s : Nat} (hC : CF k b st A) (hs : s ≤ b) (h : CFr k f fst sy y) (hfc : fc.length = 12) (hsi : SI ic mf) :
    OK (f_X1_buildFree N (iI s) st (iI b) fst (iI f) sy k A y fc fs mn ic is mf) (fun w => ∃ f', CFr k f' w.1 w.2.2.1 w.2.2.2.1 ∧ w.2.1 = iI f' ∧ s ≤ f' ∧ f ≤ f' ∧ w.2.2.2.2.1.length = 12 ∧ SI w.2.2.2.2.2.2.2.1 w.2.2.2.2.2.2.2.2.2) := by
  have h8 := gre_le (k := k)
  have hb8 := hC.1
  unfold f_X1_buildFree
  rw [OK_bind, iI_succ]
  refine OK.mono (Q := fun w => ∃ f', CFr k f' w.1 w.2.2.1 w.2.2.2.1 ∧ w.2.1 = iI f' ∧ s ≤ f' ∧ f ≤ f' ∧ w.2.2.2.2.1.length = 12 ∧ SI w.2.2.2.2.2.2.2.1 w.2.2.2.2.2.2.2.2.2) ?_ (fun w hw => by rw [OK_some]; exact hw)
  refine zlp11 9 (fun i v fst fb sy y fc fs mn ic is mf => ∃ f', f' = f + i ∧ v = iI ((f' + 1 : Nat) : Int) ∧ fb = iI f' ∧ CFr k f' fst sy y ∧ fc.length = 12 ∧ SI ic mf) ?_ N 0 _ _ _ _ _ _ _ _ _ _ _ (by omega) (by omega) ⟨f, rfl, rfl, rfl, h, hfc, hsi⟩
  rintro fu i v fst fb sy y fc fs mn ic is mf hi ⟨f', hf', rfl, rfl, hF, hfc, hsi⟩ ih
  have hf8 := hF.1
  rw [f_X1_buildFree_L7]
  by_cases g : s < f' + 1
  · rw [if_pos (iI_ltT (by omega) (by omega) (by omega)), OK_some]
    exact ⟨f', hF, rfl, by omega, by omega, hfc, hsi⟩
  · have hi9 : i < 9 := by omega
    have hfl := hF.2.1
    have hsl := hC.2.1
    rw [if_neg (iI_ltF (by omega) (by omega) (by omega)), if_neg (iI_ltF (by omega) (by omega) (by omega)), gI (hF.2.2.2.2.1 (f' + 1) (by omega) (Nat.le_refl _)) (by omega), Option.bind_some, iI_succ, sI (by omega) (by omega), Option.bind_some, gI (hC.2.2.2.1 (f' + 1) (by omega) (by omega)) (by omega), Option.bind_some, OK_bind]
    refine (freeSize hN hk hC (by omega) (by omega) (hF.go (by omega)) hfc hsi).mono ?_
    rintro ⟨w1, w2, w3, w4, w5, w6, w7, w8, w9⟩ ⟨hw, hw2, hw3⟩
    exact ih hi9 _ _ _ _ _ _ _ _ _ _ _ ⟨f' + 1, by omega, rfl, rfl, hw, hw2, hw3⟩
end
