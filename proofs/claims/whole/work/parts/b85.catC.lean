/-! the class's catalogues -/
abbrev CV : Type := List Int32 × Int32 × List Int32 × Int32 × List Int32 × List Int32 × List Int32 × Int32 × List Int64 × List Int64 × List Int32 × Int32
def CatP (k b f t : Nat) (v : CV) : Prop := CF k b v.1 v.2.2.2.2.2.2.2.2.1 ∧ v.2.1 = iI b ∧ CFr k f v.2.2.1 v.2.2.2.2.2.1 v.2.2.2.2.2.2.2.2.2.1 ∧ v.2.2.2.1 = iI f ∧ CT k t v.2.2.2.2.1 v.2.2.2.2.2.2.1 ∧ v.2.2.2.2.2.2.2.1 = iI t ∧ v.2.2.2.2.2.2.2.2.2.2.1.length = 12
def CatI (fc : Nat → CV) : Prop := ∀ j, j < 3 → ∃ b f t, CatP j b f t (fc j)
section
variable {N k s b f t : Nat} {X : List Cl} {fc : Nat → CV} {v : CV} {ic um uq : List Int32} {mn is u1 u2 u3 u4 u5 u6 u7 : Int32} {mf : Nat → List Int32 × Int32}
theorem presC (hk : k < 3) : f_X11_presentCatalogue N k = some k := by
  unfold f_X11_presentCatalogue
  rw [if_pos hk, nI_iI]
  by_cases e : k = 0
  · subst e; rw [if_neg (by decide)]
  · rw [if_pos (by rw [li0]; exact iI_ltT (by omega) (by omega) (by omega)), if_pos (by rw [li3]; exact iI_ltT (by omega) (by omega) (by omega)), ixI hk (by omega)]
    rfl
theorem CatI.up (h : CatI fc) (hk : k < 3) (hv : CatP k b f t v) : CatI (va_up fc k v) := fun j hj => by
  by_cases e : j = k
  · subst e; rw [upS]; exact ⟨b, f, t, hv⟩
  · rw [upN _ e]; exact h j hj
theorem CatP.at (h : CatP k b f t v) (fc : Nat → CV) : CatP k b f t (va_up fc k v k) := by rw [upS]; exact h
theorem fixedUp (hN : 2000 ≤ N) (hk : k < 3) (hs : s ≤ gre k) (h : CatI fc) : OK (f_X11_fixedUpTo N (iI s) k fc) (fun u => u.1 = k ∧ CatI u.2 ∧ ∃ b f t, CatP k b f t (u.2 k) ∧ s ≤ b) := by
  obtain ⟨b, f, t, h1, h2, h3, h4, h5, h6, h7⟩ := h k hk
  unfold f_X11_fixedUpTo
  rw [presC hk, Option.bind_some, if_pos hk, if_pos hk, h2, OK_bind]
  refine (buildC hN hk hs h7 h1).mono ?_
  rintro ⟨w1, w2, w3, w4, w5⟩ ⟨b', q1, q2, q3, q4, q5⟩
  rw [OK_some]
  have hP : CatP k b' f t (w1, w2, (fc k).2.2.1, (fc k).2.2.2.1, (fc k).2.2.2.2.1, (fc k).2.2.2.2.2.1, (fc k).2.2.2.2.2.2.1, (fc k).2.2.2.2.2.2.2.1, w3, (fc k).2.2.2.2.2.2.2.2.2.1, w4, w5) := ⟨q1, q2, h3, h4, h5, h6, q5⟩
  exact ⟨rfl, h.up hk hP, b', f, t, hP.at _, q3⟩
theorem freeUp (hN : 2000 ≤ N) (hk : k < 3) (hs : s ≤ gre k) (h : CatI fc) (hsi : SI ic mf) : OK (f_X11_freeUpTo N (iI s) k mn ic is mf fc) (fun u => u.1 = k ∧ SI u.2.2.1 u.2.2.2.2.1 ∧ CatI u.2.2.2.2.2 ∧ ∃ b f t, CatP k b f t (u.2.2.2.2.2 k) ∧ s ≤ b ∧ s ≤ f) := by
  obtain ⟨b, f, t, h1, h2, h3, h4, h5, h6, h7⟩ := h k hk
  unfold f_X11_freeUpTo
  rw [presC hk, Option.bind_some, if_pos hk, if_pos hk, h2, OK_bind]
  refine (buildC hN hk hs h7 h1).mono ?_
  rintro ⟨w1, w2, w3, w4, w5⟩ ⟨b', q1, q2, q3, q4, q5⟩
  simp only [upS]
  simp only at q1 q2 q5
  subst q2
  rw [h4, OK_bind]
  refine (freeC hN hk q1 q3 h3 q5 hsi).mono ?_
  rintro ⟨z1, z2, z3, z4, z5, z6, z7, z8, z9, z10⟩ ⟨f', r1, r2, r3, r4, r5, r6⟩
  simp only at r1 r2 r5 r6
  rw [OK_some]
  have hP0 : CatP k b' f t (w1, iI b', (fc k).2.2.1, iI f, (fc k).2.2.2.2.1, (fc k).2.2.2.2.2.1, (fc k).2.2.2.2.2.2.1, (fc k).2.2.2.2.2.2.2.1, w3, (fc k).2.2.2.2.2.2.2.2.2.1, w4, w5) := ⟨q1, rfl, h3, rfl, h5, h6, q5⟩
  have hP : CatP k b' f' t (w1, iI b', z1, z2, (fc k).2.2.2.2.1, z3, (fc k).2.2.2.2.2.2.1, (fc k).2.2.2.2.2.2.2.1, w3, z4, z5, z6) := ⟨q1, rfl, r1, r2, h5, h6, r5⟩
  exact ⟨rfl, r6, (h.up hk hP0).up hk hP, b', f', t, hP.at _, q3, r3⟩
theorem tallyUp (hN : 2000 ≤ N) (hk : k < 3) (hs : s ≤ gre k) (h : CatI fc) (hU : um.length = 384 ∧ uq.length = 384) : OK (f_X11_talliedUpTo N (iI s) k um uq u1 u2 u3 u4 u5 u6 u7 fc) (fun u => u.1 = k ∧ (u.2.1.length = 384 ∧ u.2.2.1.length = 384) ∧ CatI u.2.2.2.2.2.2.2.2.2.2 ∧ ∃ b f t, CatP k b f t (u.2.2.2.2.2.2.2.2.2.2 k) ∧ s ≤ b ∧ s ≤ t) := by
  obtain ⟨b, f, t, h1, h2, h3, h4, h5, h6, h7⟩ := h k hk
  unfold f_X11_talliedUpTo
  rw [presC hk, Option.bind_some, if_pos hk, if_pos hk, h2, OK_bind]
  refine (buildC hN hk hs h7 h1).mono ?_
  rintro ⟨w1, w2, w3, w4, w5⟩ ⟨b', q1, q2, q3, q4, q5⟩
  simp only [upS]
  simp only at q1 q2 q5
  subst q2
  rw [h6, OK_bind]
  refine (talliesC hN hk q1 q3 h5 q5 hU).mono ?_
  rintro ⟨z1, z2, z3, z4, z5, z6, z7, z8, z9, z10, z11, z12, z13, z14⟩ ⟨t', r1, r2, r3, r4, r5, r6, r7⟩
  simp only at r1 r2 r5 r6 r7
  rw [OK_some]
  have hP0 : CatP k b' f t (w1, iI b', (fc k).2.2.1, (fc k).2.2.2.1, (fc k).2.2.2.2.1, (fc k).2.2.2.2.2.1, (fc k).2.2.2.2.2.2.1, iI t, w3, (fc k).2.2.2.2.2.2.2.2.2.1, w4, w5) := ⟨q1, rfl, h3, h4, h5, rfl, q5⟩
  have hP : CatP k b' f t' (w1, iI b', (fc k).2.2.1, (fc k).2.2.2.1, z1, (fc k).2.2.2.2.2.1, z2, z3, w3, (fc k).2.2.2.2.2.2.2.2.2.1, z4, z5) := ⟨q1, rfl, h3, h4, r1, r2, r5⟩
  exact ⟨rfl, ⟨r6, r7⟩, (h.up hk hP0).up hk hP, b', f, t', hP.at _, q3, r3⟩
/-! what is asked of a catalogue -/
theorem isSz (h1 : 1 ≤ s) (h2 : s ≤ gre k) : f_X1_isSize N (iI s) k = some 1 := by
  have h8 := gre_le (k := k)
  rw [isSizeC (by omega) (by omega), if_pos (by omega)]
theorem fixLen (h : CF k b v.1 v.2.2.2.2.2.2.2.2.1) (hk : k < 3) (h1 : 1 ≤ s) (h2 : s ≤ b) : f_X1_fixedLength N (iI s) v.1 k = some (iI (fxl k s).length) := by
  have h8 := gre_le (k := k)
  have hb := h.1
  have hl := h.2.1
  unfold f_X1_fixedLength
  rw [isSz h1 (by omega), Option.bind_some, if_neg (by decide), iI_succ, gI (h.2.2.2.1 (s + 1) (by omega) (by omega)) (by omega), Option.bind_some, gI (h.2.2.2.1 s h1 (by omega)) (by omega), Option.bind_some, iI_sub, off_succ h1]
  congr 2
  omega
theorem freLen (h : CFr k f v.2.2.1 v.2.2.2.2.2.1 v.2.2.2.2.2.2.2.2.2.1) (h1 : 1 ≤ s) (h2 : s ≤ f) : f_X1_freeLength N (iI s) v.2.2.1 k = some (iI (frl k s).length) := by
  have h8 := gre_le (k := k)
  have hb := h.1
  have hl := h.2.1
  unfold f_X1_freeLength
  rw [isSz h1 (by omega), Option.bind_some, if_neg (by decide), iI_succ, gI (h.2.2.2.2.1 (s + 1) (by omega) (by omega)) (by omega), Option.bind_some, gI (h.2.2.2.2.1 s h1 (by omega)) (by omega), Option.bind_some, iI_sub, offF_succ h1]
  congr 2
  omega
theorem fixForm (h : CF k b v.1 v.2.2.2.2.2.2.2.2.1) (hk : k < 3) (h1 : 1 ≤ s) (h2 : s ≤ b) {i : Nat} (hX : (fxl k s)[i]? = some X) : f_X1_fixedForm N (iI s) (iI i) v.1 k v.2.2.2.2.2.2.2.2.1 = some (lN (pck X)) := by
  have hb := h.1
  have hl := h.2.1
  have hAl := h.2.2.1
  have h8 := gre_le (k := k)
  have hi := lt_of_get hX
  have hbd := (off_bd hk h1 (by omega : s ≤ gre k)).2.1
  have hle := off_succ (k := k) h1
  have hpk : (fxp k s)[i]? = some (pck X) := by unfold fxp; rw [List.getElem?_map, hX]; rfl
  unfold f_X1_fixedForm
  rw [li0, if_neg (iI_ltF (by omega) (by omega) (by omega)), fixLen h hk h1 h2, Option.bind_some, if_pos (iI_ltT (by omega) (by omega) (by omega)), gI (h.2.2.2.1 s h1 (by omega)) (by omega), Option.bind_some, iI_add]
  have := gI (h.2.2.2.2 s h1 h2 i _ hpk) (by omega)
  rw [show ((off k s : Nat) : Int) + (i : Int) = ((off k s + i : Nat) : Int) by omega, this]
  rfl
theorem freForm (h : CFr k f v.2.2.1 v.2.2.2.2.2.1 v.2.2.2.2.2.2.2.2.2.1) (hk : k < 3) (h1 : 1 ≤ s) (h2 : s ≤ f) {i : Nat} (hX : (frl k s)[i]? = some X) : f_X1_freeForm N (iI s) (iI i) v.2.2.1 k v.2.2.2.2.2.2.2.2.2.1 = some (lN (pck X)) := by
  have hb := h.1
  have hl := h.2.1
  have hAl := h.2.2.2.1
  have h8 := gre_le (k := k)
  have hi := lt_of_get hX
  have hbd := (off_bd hk h1 (by omega : s ≤ gre k)).2.2
  have hle := offF_succ (k := k) h1
  have hpk : ((frl k s).map pck)[i]? = some (pck X) := by rw [List.getElem?_map, hX]; rfl
  unfold f_X1_freeForm
  rw [li0, if_neg (iI_ltF (by omega) (by omega) (by omega)), freLen h h1 h2, Option.bind_some, if_pos (iI_ltT (by omega) (by omega) (by omega)), gI (h.2.2.2.2.1 s h1 (by omega)) (by omega), Option.bind_some, iI_add]
  have := gI (h.2.2.2.2.2.1 s h1 h2 i _ hpk) (by omega)
  rw [show ((offF k s : Nat) : Int) + (i : Int) = ((offF k s + i : Nat) : Int) by omega, this]
  rfl
/-- the place of a form in an ordered row -/
theorem numIn {A : List Int64} {S : List Nat} {o x i : Nat} (hN : 2000 ≤ N) (hA : SEG A o S) (hs : Asc S) (hS : ∀ y ∈ S, y < 2 ^ 63) (hl : A.length < 1900) (hb : o + S.length ≤ A.length) (hx : S[i]? = some x) : f_X1_numberIn N (iI o) (iI ((o + S.length : Nat) : Int)) (lN x) A = some (iI i) := by
  have hxm := hS x (List.mem_of_getElem? hx)
  have hil := lt_of_get hx
  obtain ⟨w, hw, p, rfl, hp⟩ := placeC_ok (N := N) hN hA hs hS hxm hl hb
  have e : p = i := by
    rcases Nat.lt_or_ge i p with g | g
    · have := hp.2.1 i x g hx; omega
    · rcases Nat.lt_or_ge p i with g2 | g2
      · obtain ⟨y, hy⟩ := gL (show p < S.length by omega)
        have h1 := hp.2.2 p y (Nat.le_refl _) hy
        have h2 := hs.lt g2 hy hx
        omega
      · omega
  subst e
  unfold f_X1_numberIn
  rw [hw, Option.bind_some, if_pos (iI_ltT (by omega) (by omega) (by omega)), oN_iI, if_pos (iI_ltT (by omega) (by omega) (by omega)), gI (hA _ _ hx) (by omega), Option.bind_some, if_pos (by rw [cmp_eq hxm hxm]), iI_sub]
  congr 2
  omega
theorem fxp_63 (hk : k < 3) (h1 : 1 ≤ s) (h2 : s ≤ gre k) : ∀ y ∈ fxp k s, y < 2 ^ 63 := fun y hy => by
  have h8 := gre_le (k := k)
  obtain ⟨X, x1, x2, rfl⟩ := (fxp_mem hk h1 h2 y).mp hy
  exact x1.lt63 (by omega)
theorem fixPlace (hN : 2000 ≤ N) (h : CF k b v.1 v.2.2.2.2.2.2.2.2.1) (hk : k < 3) (h1 : 1 ≤ s) (h2 : s ≤ b) {i : Nat} (hX : (fxl k s)[i]? = some X) : f_X1_fixedPlace N (iI s) (lN (pck X)) v.1 k v.2.2.2.2.2.2.2.2.1 = some (iI i) := by
  have hb := h.1
  have hl := h.2.1
  have hAl := h.2.2.1
  have h8 := gre_le (k := k)
  have hbd := (off_bd hk h1 (by omega : s ≤ gre k)).2.1
  have hle := off_succ (k := k) h1
  have hpk : (fxp k s)[i]? = some (pck X) := by unfold fxp; rw [List.getElem?_map, hX]; rfl
  have hn := numIn (N := N) hN (h.2.2.2.2 s h1 h2) (fxp_asc hk h1 (by omega)) (fxp_63 hk h1 (by omega)) (by omega) (by rw [fxp_len]; omega) hpk
  rw [fxp_len, ← hle] at hn
  unfold f_X1_fixedPlace
  rw [isSz h1 (by omega), Option.bind_some, if_neg (by decide), gI (h.2.2.2.1 s h1 (by omega)) (by omega), Option.bind_some, iI_succ, gI (h.2.2.2.1 (s + 1) (by omega) (by omega)) (by omega), Option.bind_some, hn]
  rfl
theorem frp_asc (hk : k < 3) (h1 : 1 ≤ s) (h2 : s ≤ gre k) : Asc ((frl k s).map pck) := by
  unfold Asc
  rw [List.pairwise_map]
  exact (fxl_ok hk h1 h2).1.filter _
theorem frePlace (hN : 2000 ≤ N) (h : CFr k f v.2.2.1 v.2.2.2.2.2.1 v.2.2.2.2.2.2.2.2.2.1) (hk : k < 3) (h1 : 1 ≤ s) (h2 : s ≤ f) {i : Nat} (hX : (frl k s)[i]? = some X) : f_X1_freePlace N (iI s) (lN (pck X)) v.2.2.1 k v.2.2.2.2.2.2.2.2.2.1 = some (iI i) := by
  have hb := h.1
  have hl := h.2.1
  have hAl := h.2.2.2.1
  have h8 := gre_le (k := k)
  have hbd := (off_bd hk h1 (by omega : s ≤ gre k)).2.2
  have hle := offF_succ (k := k) h1
  have hpk : ((frl k s).map pck)[i]? = some (pck X) := by rw [List.getElem?_map, hX]; rfl
  have hn := numIn (N := N) hN (h.2.2.2.2.2.1 s h1 h2) (frp_asc hk h1 (by omega)) (fun y hy => by
    obtain ⟨Z, hZ, rfl⟩ := List.mem_map.mp hy
    have := ((fxl_ok hk h1 (by omega : s ≤ gre k)).2 Z).mp (List.mem_filter.mp hZ).1
    exact this.1.lt63 (by omega)) (by omega) (by rw [List.length_map]; omega) hpk
  rw [List.length_map, ← hle] at hn
  unfold f_X1_freePlace
  rw [isSz h1 (by omega), Option.bind_some, if_neg (by decide), gI (h.2.2.2.2.1 s h1 (by omega)) (by omega), Option.bind_some, iI_succ, gI (h.2.2.2.2.1 (s + 1) (by omega) (by omega)) (by omega), Option.bind_some, hn]
  rfl
theorem sidesC (h : CT k t v.2.2.2.2.1 v.2.2.2.2.2.2.1) (hk : k < 3) (h1 : 1 ≤ s) (h2 : s ≤ t) {z : Int} (z1 : 0 ≤ z) (z2 : z < 2147483648) : f_X1_fixedWithSides N (iI s) (iI z) v.2.2.2.2.1 k = some (iI (cD k (fxl k s) z.toNat : Nat)) := by
  have hb := h.1
  have hl := h.2.1
  have h8 := gre_le (k := k)
  unfold f_X1_fixedWithSides
  rw [isSz h1 (by omega), Option.bind_some, if_neg (by decide), li0, if_neg (iI_ltF (by omega) (by omega) (by omega)), show (37 : Int32) = iI 37 from rfl]
  by_cases g : z < 37
  · obtain ⟨m, rfl⟩ := Int.eq_ofNat_of_zero_le z1
    rw [if_pos (iI_ltT g (by omega) (by omega)), iI_mul, iI_add, show (s : Int) * 37 + (m : Int) = ((s * 37 + m : Nat) : Int) by omega, gI (h.2.2.2.1 s m h1 h2 (by omega)) (by omega), Option.bind_some]
    rfl
  · rw [if_neg (iI_ltF g (by omega) (by omega))]
    have e : cD k (fxl k s) z.toNat = 0 := by
      unfold cD
      rw [List.length_eq_zero_iff, List.filter_eq_nil_iff]
      intro X hX
      have := ((fxl_ok hk h1 (by omega : s ≤ gre k)).2 X).mp hX
      have := sdN_le (k := k) (X := X) (by omega)
      simp
      omega
    rw [e]
    rfl
theorem holesC (h : CT k t v.2.2.2.2.1 v.2.2.2.2.2.2.1) (h1 : 1 ≤ s) (h2 : s ≤ t) : f_X1_fixedWithHoles N (iI s) v.2.2.2.2.2.2.1 k = some (iI (cH k (fxl k s) : Nat)) := by
  have hb := h.1
  have hl := h.2.2.1
  have h8 := gre_le (k := k)
  unfold f_X1_fixedWithHoles
  rw [isSz h1 (by omega), Option.bind_some, if_neg (by decide), gI (h.2.2.2.2.1 s h1 h2) (by omega), Option.bind_some]
theorem symsC (h : CFr k f v.2.2.1 v.2.2.2.2.2.1 v.2.2.2.2.2.2.2.2.2.1) (h1 : 1 ≤ s) (h2 : s ≤ f) {m : Nat} (hm : m ≤ 12) : f_X1_freeWithSymmetries N (iI s) (iI m) v.2.2.2.2.2.1 k = some (iI (cS k (frl k s) m : Nat)) := by
  have hb := h.1
  have hl := h.2.2.1
  have h8 := gre_le (k := k)
  unfold f_X1_freeWithSymmetries
  rw [isSz h1 (by omega), Option.bind_some, if_neg (by decide), li0, if_neg (iI_ltF (by omega) (by omega) (by omega)), show (13 : Int32) = iI 13 from rfl, if_pos (iI_ltT (by omega) (by omega) (by omega)), iI_mul, iI_add, show (s : Int) * 13 + (m : Int) = ((s * 13 + m : Nat) : Int) by omega, gI (h.2.2.2.2.2.2.1 s m h1 h2 hm) (by omega), Option.bind_some]
theorem listed {z : Int} (hk : k < 3) (z1 : -2147483648 ≤ z) (z2 : z < 2147483648) : f_X11_isListedSize N (iI z) k = some (if 1 ≤ z ∧ z ≤ gre k then 1 else 0) := by
  have h8 := gre_le (k := k)
  unfold f_X11_isListedSize
  rw [zgre_eq, li1, if_pos hk]
  by_cases g : z < 1
  · rw [if_pos (iI_ltT g (by omega) (by omega)), if_neg (by omega)]
  rw [if_neg (iI_ltF g (by omega) (by omega))]
  by_cases g2 : (gre k : Int) < z
  · rw [if_pos (iI_ltT g2 (by omega) (by omega)), if_neg (by omega)]
  rw [if_neg (iI_ltF g2 (by omega) (by omega)), if_pos (by omega)]
end
