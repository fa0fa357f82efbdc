/-! what is asked of the reference's lists -/
noncomputable def slB (k : Nat) (l : Int) (X : List Cl) : Bool := if l = 0 then true else canB k X
noncomputable def lst (k s : Nat) (l : Int) : List (List Cl) := (fxl k s).filter (slB k l)
section
variable {N k s : Nat} {X Y : List Cl} {A : List Int64} {fl d q r t fe ha hb hc im fi qu : List Int32} {bu hn m : Int32} {l : Int}
theorem lst_0 : lst k s 0 = fxl k s := by
  unfold lst
  exact List.filter_eq_self.mpr (fun X _ => by unfold slB; rw [if_pos rfl])
theorem lst_1 : lst k s 1 = frl k s := by
  unfold lst frl
  exact List.filter_congr (fun X _ => by unfold slB; rw [if_neg (by decide)])
theorem tk_get {α : Type} {F : List α} {i : Nat} {x : α} (h : F[i]? = some x) : F.take (i + 1) = F.take i ++ [x] := by
  rw [List.take_succ_eq_append_getElem (lt_of_get h)]
  congr 2
  exact (List.getElem?_eq_some_iff.mp h).2
theorem flt_next {p : List Cl → Bool} {F : List (List Cl)} {i : Nat} (h : F[i]? = some X) : ((F.take (i + 1)).filter p).length = ((F.take i).filter p).length + if p X = true then 1 else 0 := by
  rw [tk_get h, List.filter_append, List.length_append]
  by_cases e : p X = true
  · rw [if_pos e]; simp [e]
  · rw [if_neg e]; simp [e]
theorem flt_at {p : List Cl → Bool} {F : List (List Cl)} {i : Nat} (h : F[i]? = some X) (hp : p X = true) : (F.filter p)[((F.take i).filter p).length]? = some X := by
  have e : F = F.take i ++ X :: F.drop (i + 1) := by
    obtain ⟨h1, h2⟩ := List.getElem?_eq_some_iff.mp h
    rw [← h2, List.getElem_cons_drop, List.take_append_drop]
  conv => lhs; rw [e]
  rw [List.take_append, List.take_take, Nat.min_self, List.filter_append, List.filter_cons_of_pos hp, show i - (F.take i).length = 0 by rw [List.length_take]; have := lt_of_get h; omega, List.take_zero, List.append_nil, List.getElem?_append_right (Nat.le_refl _), Nat.sub_self]
  rfl
/-- a figure of the list, and its place in the row -/
theorem MBD.fig (h : MBD k A fl fe) (hk : k < 3) (h1 : 1 ≤ s) (h2 : s ≤ gre k) {i : Nat} (hX : (fxl k s)[i]? = some X) : z_get A (iI ((off k s + i : Nat) : Int)) = some (lN (pck X)) ∧ z_get fl (iI ((off k s + i : Nat) : Int)) = some (flB k X) ∧ NF k X ∧ X.length = s := by
  have hpk : (fxp k s)[i]? = some (pck X) := by unfold fxp; rw [List.getElem?_map, hX]; rfl
  have hN := ((fxl_ok hk h1 h2).2 X).mp (List.mem_of_getElem? hX)
  exact ⟨gI (h.1.2.2.2 s h1 h2 i _ hpk) (by rw [h.1.1]; decide), gI (h.2.2 s h1 h2 i X hX) (by rw [h.2.1]; decide), hN.1, hN.2⟩
theorem MBD.fr (h : MBD k A fl fe) (h1 : 1 ≤ s) (h2 : s ≤ gre k) : z_get fe (iI (s : Int)) = some (iI (off k s : Nat)) ∧ z_get fe (iI ((s + 1 : Nat) : Int)) = some (iI ((off k s + (fxl k s).length : Nat) : Int)) := by
  have h8 := gre_le (k := k)
  refine ⟨gI (h.1.2.2.1 s h1 (by omega)) (by rw [h.1.2.1]; decide), ?_⟩
  rw [← off_succ h1]
  exact gI (h.1.2.2.1 (s + 1) (by omega) (by omega)) (by rw [h.1.2.1]; decide)
theorem flB_0 : (flB k X = 0) = ¬ canB k X = true := by
  unfold flB
  by_cases e : canB k X = true
  · rw [if_pos e]; simp only [e, not_true, eq_iff_iff, iff_false]; decide
  · rw [if_neg e]; simp only [e, eq_iff_iff]; simp; rfl
theorem figuresM (hN : 2000 ≤ N) (hk : k < 3) (h : MBD k A fl fe) (h1 : 1 ≤ s) (h2 : s ≤ gre k) (hl : l = 0 ∨ l = 1) : f_X12_figures_L37 N (iI l) (iI s) fl fe N 0 (iI (off k s : Nat)) = some (iI (lst k s l).length) := by
  have h8 := gre_le (k := k)
  have hbd := (off_bd hk h1 h2).2.1
  have hle := off_succ (k := k) h1
  suffices hh : OK (f_X12_figures_L37 N (iI l) (iI s) fl fe N 0 (iI (off k s : Nat))) (fun u => u = iI (lst k s l).length) by
    obtain ⟨a, e, rfl⟩ := hh; exact e
  refine zlp2 (fxl k s).length (fun i v z => z = iI ((off k s + i : Nat) : Int) ∧ v = iI (((fxl k s).take i).filter (slB k l)).length) ?_ N 0 _ _ (by omega) (by omega) ⟨rfl, rfl⟩
  rintro fu i v z hi ⟨rfl, rfl⟩ ih
  rw [f_X12_figures_L37, iI_succ, (h.fr h1 h2).2, Option.bind_some]
  rcases Nat.lt_or_ge i (fxl k s).length with g | g
  · obtain ⟨X, hX⟩ := gL g
    have hf := h.fig hk h1 h2 hX
    have hnx := flt_next (p := slB k l) hX
    rw [if_pos (iI_ltT (by omega) (by omega) (by omega))]
    rcases hl with rfl | rfl
    · rw [if_pos (by rfl)]
      refine ih g _ _ ⟨iI_succ _, ?_⟩
      rw [hnx, if_pos (by unfold slB; rw [if_pos rfl]), iI_succ]
    · have hs : slB k 1 X = canB k X := by unfold slB; rw [if_neg (by decide)]
      rw [if_neg (by decide), hf.2.1, Option.bind_some]
      by_cases e : canB k X = true
      · rw [if_neg (by rw [flB_0]; simp [e])]
        refine ih g _ _ ⟨iI_succ _, ?_⟩
        rw [hnx, hs, if_pos e, iI_succ]
      · rw [if_pos (by rw [flB_0]; exact e)]
        refine ih g _ _ ⟨iI_succ _, ?_⟩
        rw [hnx, hs, if_neg e, li0, iI_add, Int.add_zero, Nat.add_zero]
  · have e0 : i = (fxl k s).length := by omega
    subst e0
    rw [if_neg (iI_ltF (by omega) (by omega) (by omega)), OK_some, List.take_length]
    rfl
/-- the rows of the reference -/
abbrev MT : Type := Int32 × List Int32 × List Int32 × List Int32 × List Int32 × List Int32 × List Int32 × Int32 × List Int32 × Int32 × List Int64 × List Int32 × List Int32
def SBt (w : MT) : Prop := SM w.2.1 w.2.2.1 w.2.2.2.1 w.2.2.2.2.1 w.2.2.2.2.2.1 w.2.2.2.2.2.2.1 w.2.2.2.2.2.2.2.2.1 ∧ MBI w.2.2.2.2.2.2.2.2.2.1 w.2.2.2.2.2.2.2.2.2.2.1 w.2.2.2.2.2.2.2.2.2.2.2.1 w.2.2.2.2.2.2.2.2.2.2.2.2
/-- as behind builds -/
def SBk (k : Nat) (w : MT) : Prop := SM w.2.1 w.2.2.1 w.2.2.2.1 w.2.2.2.2.1 w.2.2.2.2.2.1 w.2.2.2.2.2.2.1 w.2.2.2.2.2.2.2.2.1 ∧ w.2.2.2.2.2.2.2.2.2.1 = iI (k : Nat) ∧ MBD k w.2.2.2.2.2.2.2.2.2.2.1 w.2.2.2.2.2.2.2.2.2.2.2.1 w.2.2.2.2.2.2.2.2.2.2.2.2
theorem SBk.sbt (hk : k < 3) {w : MT} (h : SBk k w) : SBt w := ⟨h.1, by rw [h.2.1]; exact h.2.2.mbi hk⟩
theorem bldM (hN : 2000 ≤ N) (hd : DK k d) (hs : SM q r t ha hb hc im) (h : MBI bu A fl fe) : OK (f_X12_builds N d m q r t ha hb hc hn im bu A fl fe) (fun w => SBk k w) :=
  (buildsM hN hd h hs.1 hs.2.1 hs.2.2).mono (fun _ hw => ⟨⟨hw.1, hw.2.1, hw.2.2.1⟩, hw.2.2.2.1, hw.2.2.2.2⟩)
theorem placeM (hN : 2000 ≤ N) (hd : DK k d) (hs : SM q r t ha hb hc im) (h : MBI bu A fl fe) (h1 : 1 ≤ s) (h2 : s ≤ gre k) (hl : l = 0 ∨ l = 1) {z : Nat} (hz : z < 2147483648) :
    OK (f_X12_placeOf N (iI l) (iI s) (iI z) d m q r t ha hb hc hn im bu A fl fe) (fun u => SBk k u.2 ∧ ((∃ p X, (fxl k s)[p]? = some X ∧ (lst k s l)[z]? = some X ∧ u.1 = iI ((off k s + p : Nat) : Int)) ∨ ((lst k s l).length ≤ z ∧ u.1 = iI (-1)))) := by
  have hk := hd.1
  have h8 := gre_le (k := k)
  have hbd := (off_bd hk h1 h2).2.1
  have hle := off_succ (k := k) h1
  unfold f_X12_placeOf
  rw [OK_bind]
  refine (bldM hN hd hs h).mono ?_
  rintro ⟨w0, w1, w2, w3, w4, w5, w6, w7, w8, w9, w10, w11, w12⟩ hw
  have hM := hw.2.2
  simp only at hM ⊢
  rw [(hM.fr h1 h2).1, Option.bind_some, OK_bind]
  refine OK.mono (Q := fun o => (o = Sum.inl () ∧ (lst k s l).length ≤ z) ∨ ∃ p X, (fxl k s)[p]? = some X ∧ (lst k s l)[z]? = some X ∧ o = Sum.inr (iI ((off k s + p : Nat) : Int), w0, w1, w2, w3, w4, w5, w6, w7, w8, w9, w10, w11, w12)) ?_ ?_
  · refine zlp2 (fxl k s).length (fun i v y => y = iI ((off k s + i : Nat) : Int) ∧ (((fxl k s).take i).filter (slB k l)).length ≤ z ∧ v = iI ((z - (((fxl k s).take i).filter (slB k l)).length : Nat) : Int)) ?_ N 0 _ _ (by omega) (by omega) ⟨rfl, by simp, by simp⟩
    rintro fu i v y hi ⟨rfl, hcz, rfl⟩ ih
    rw [f_X12_placeOf_L15, iI_succ, (hM.fr h1 h2).2, Option.bind_some]
    rcases Nat.lt_or_ge i (fxl k s).length with g | g
    · obtain ⟨X, hX⟩ := gL g
      have hf := hM.fig hk h1 h2 hX
      have hnx := flt_next (p := slB k l) hX
      rw [if_pos (iI_ltT (by omega) (by omega) (by omega))]
      -- a figure of the list
      have yes : slB k l X = true → OK (if iI ((z - (((fxl k s).take i).filter (slB k l)).length : Nat) : Int) = 0 then some (Sum.inr (iI ((off k s + i : Nat) : Int), w0, w1, w2, w3, w4, w5, w6, w7, w8, w9, w10, w11, w12)) else f_X12_placeOf_L15 N (iI l) (iI s) w0 w1 w2 w3 w4 w5 w6 w7 w8 w9 w10 w11 w12 fu (iI ((z - (((fxl k s).take i).filter (slB k l)).length : Nat) : Int) + (-1)) (iI ((off k s + i : Nat) : Int) + 1)) (fun o => (o = Sum.inl () ∧ (lst k s l).length ≤ z) ∨ ∃ p X, (fxl k s)[p]? = some X ∧ (lst k s l)[z]? = some X ∧ o = Sum.inr (iI ((off k s + p : Nat) : Int), w0, w1, w2, w3, w4, w5, w6, w7, w8, w9, w10, w11, w12)) := by
        intro hsl
        rw [if_pos hsl] at hnx
        by_cases e : z = (((fxl k s).take i).filter (slB k l)).length
        · rw [if_pos (by rw [li0]; exact iIeq (by omega)), OK_some]
          refine Or.inr ⟨i, X, hX, ?_, rfl⟩
          rw [e]
          exact flt_at hX hsl
        · rw [if_neg (by rw [li0]; exact iI_eqF (by omega) (by omega) (by omega) (by omega) (by omega))]
          refine ih g _ _ ⟨iI_succ _, by omega, ?_⟩
          rw [show (-1 : Int32) = iI (-1) from rfl, iI_add, hnx]
          congr 1
          omega
      rcases hl with rfl | rfl
      · rw [if_pos (by rfl)]
        exact yes (by unfold slB; rw [if_pos rfl])
      · have hsl : slB k 1 X = canB k X := by unfold slB; rw [if_neg (by decide)]
        rw [if_neg (by decide), hf.2.1, Option.bind_some]
        by_cases e : canB k X = true
        · rw [if_neg (by rw [flB_0]; simp [e])]
          exact yes (by rw [hsl]; exact e)
        · rw [if_pos (by rw [flB_0]; exact e)]
          rw [hsl, if_neg e, Nat.add_zero] at hnx
          exact ih g _ _ ⟨iI_succ _, by omega, by rw [hnx, Nat.add_zero]⟩
    · have e0 : i = (fxl k s).length := by omega
      subst e0
      rw [if_neg (iI_ltF (by omega) (by omega) (by omega)), OK_some]
      rw [List.take_length] at hcz
      exact Or.inl ⟨rfl, hcz⟩
  · rintro o (⟨rfl, ho⟩ | ⟨p, X, p1, p2, rfl⟩)
    · show OK (some _) _
      rw [OK_some]
      exact ⟨hw, Or.inr ⟨ho, rfl⟩⟩
    · show OK (some _) _
      rw [OK_some]
      exact ⟨hw, Or.inl ⟨p, X, p1, p2, rfl⟩⟩
theorem numberM (hN : 2000 ≤ N) (hk : k < 3) (h : MBD k A fl fe) (h1 : 1 ≤ s) (h2 : s ≤ gre k) (hl : l = 0 ∨ l = 1) {p : Nat} (hY : (fxl k s)[p]? = some Y) : f_X12_number_L75 N (iI l) (lN (pck Y)) A fl N 0 (iI (off k s : Nat)) = some (iI (((fxl k s).take p).filter (slB k l)).length) := by
  have h8 := gre_le (k := k)
  have hbd := (off_bd hk h1 h2).2.1
  have hle := off_succ (k := k) h1
  have hpl := lt_of_get hY
  have hYf := h.fig hk h1 h2 hY
  have hY63 := hYf.2.2.1.lt63 (by omega)
  suffices hh : OK (f_X12_number_L75 N (iI l) (lN (pck Y)) A fl N 0 (iI (off k s : Nat))) (fun u => u = iI (((fxl k s).take p).filter (slB k l)).length) by
    obtain ⟨a, e, rfl⟩ := hh; exact e
  refine zlp2 p (fun i v z => z = iI ((off k s + i : Nat) : Int) ∧ v = iI (((fxl k s).take i).filter (slB k l)).length) ?_ N 0 _ _ (by omega) (by omega) ⟨rfl, rfl⟩
  rintro fu i v z hi ⟨rfl, rfl⟩ ih
  rw [f_X12_number_L75]
  obtain ⟨X, hX⟩ := gL (show i < (fxl k s).length by omega)
  have hf := h.fig hk h1 h2 hX
  have hX63 := hf.2.2.1.lt63 (by omega)
  have hnx := flt_next (p := slB k l) hX
  rw [hf.1, Option.bind_some]
  rcases Nat.lt_or_ge i p with g | g
  · have hne : ¬ pck X = pck Y := fun e => by
      have h3 : (fxp k s)[i]? = some (pck X) := by unfold fxp; rw [List.getElem?_map, hX]; rfl
      have h4 : (fxp k s)[p]? = some (pck Y) := by unfold fxp; rw [List.getElem?_map, hY]; rfl
      have := Asc.lt (fxp_asc hk h1 h2) g h3 h4
      omega
    rw [if_neg (by rw [cmp_eq hX63 hY63]; exact hne)]
    rcases hl with rfl | rfl
    · rw [if_pos (by rfl)]
      refine ih g _ _ ⟨iI_succ _, ?_⟩
      rw [hnx, if_pos (by unfold slB; rw [if_pos rfl]), iI_succ]
    · have hs : slB k 1 X = canB k X := by unfold slB; rw [if_neg (by decide)]
      rw [if_neg (by decide), hf.2.1, Option.bind_some]
      by_cases e : canB k X = true
      · rw [if_neg (by rw [flB_0]; simp [e])]
        refine ih g _ _ ⟨iI_succ _, ?_⟩
        rw [hnx, hs, if_pos e, iI_succ]
      · rw [if_pos (by rw [flB_0]; exact e)]
        refine ih g _ _ ⟨iI_succ _, ?_⟩
        rw [hnx, hs, if_neg e, li0, iI_add, Int.add_zero, Nat.add_zero]
  · have e0 : i = p := by omega
    subst e0
    rw [hX] at hY
    cases hY
    rw [if_pos (by rw [cmp_eq hX63 hX63]), OK_some]
theorem figN (hN : 2000 ≤ N) (hX : NF k X) (hXl : X.length = s) (h8 : s ≤ 8) (h16 : L16 q r t) : OK (f_X12_takesFigure N (lN (pck X)) (iI s) q r t) (fun u => u.1 = iI s ∧ MR X u.2.1 u.2.2.1 u.2.2.2) := by
  subst hXl
  exact mFigure (k := k) (by omega) (hX.kk h8) (hX.inB (by omega)) h16.1 h16.2.1 h16.2.2
theorem withSidesM (hN : 2000 ≤ N) (hd : DK k d) (h : MBD k A fl fe) (h1 : 1 ≤ s) (h2 : s ≤ gre k) (h16 : L16 q r t) {z : Int} (z1 : 0 ≤ z) (z2 : z < 2147483648) : OK (f_X12_withSides_L32 N (iI s) (iI z) d A fe N 0 (iI (off k s : Nat)) m q r t) (fun u => u.1 = iI (cD k (fxl k s) z.toNat : Nat) ∧ L16 u.2.2.1 u.2.2.2.1 u.2.2.2.2) := by
  have hk := hd.1
  have h8 := gre_le (k := k)
  have hbd := (off_bd hk h1 h2).2.1
  have hle := off_succ (k := k) h1
  refine zlp6 (fxl k s).length (fun i v y m q r t => y = iI ((off k s + i : Nat) : Int) ∧ v = iI (cD k ((fxl k s).take i) z.toNat : Nat) ∧ L16 q r t) ?_ N 0 _ _ _ _ _ _ (by omega) (by omega) ⟨rfl, rfl, h16⟩
  rintro fu i v y m q r t hi ⟨rfl, rfl, h16⟩ ih
  rw [f_X12_withSides_L32, iI_succ, (h.fr h1 h2).2, Option.bind_some]
  rcases Nat.lt_or_ge i (fxl k s).length with g | g
  · obtain ⟨X, hX⟩ := gL g
    have hf := h.fig hk h1 h2 hX
    have hsd := sdN_le (k := k) (X := X) (by omega)
    have htk := tk_get hX
    rw [if_pos (iI_ltT (by omega) (by omega) (by omega)), hf.1, Option.bind_some, OK_bind]
    refine (figN hN hf.2.2.1 hf.2.2.2 (by omega) h16).mono ?_
    rintro ⟨m2, q2, r2, t2⟩ ⟨em, hmr⟩
    simp only at em hmr ⊢
    have hsi := mSides (N := N) (by omega) hd hmr hf.2.2.1.1.ld
    rw [hf.2.2.2, ← em] at hsi
    rw [hsi, Option.bind_some]
    have hcd := cD_app (k := k) (F := (fxl k s).take i) (X := X) (s := z.toNat)
    rw [← htk] at hcd
    by_cases e : ((sdN k X : Nat) : Int) = z
    · rw [if_pos (by rw [e])]
      rw [if_pos (by omega)] at hcd
      exact ih g _ _ _ _ _ _ ⟨iI_succ _, by rw [hcd, iI_succ], hmr.len⟩
    · rw [if_neg (iI_eqF e (by omega) (by omega) (by omega) (by omega))]
      rw [if_neg (by omega), Nat.add_zero] at hcd
      exact ih g _ _ _ _ _ _ ⟨iI_succ _, by rw [hcd, li0, iI_add, Int.add_zero, Nat.add_zero], hmr.len⟩
  · have e0 : i = (fxl k s).length := by omega
    subst e0
    rw [if_neg (iI_ltF (by omega) (by omega) (by omega)), OK_some]
    rw [List.take_length]
    exact ⟨rfl, h16⟩
theorem withSymM (hN : 2000 ≤ N) (hd : DK k d) (h : MBD k A fl fe) (h1 : 1 ≤ s) (h2 : s ≤ gre k) (hs : SM q r t ha hb hc im) {z : Nat} (hz : z ≤ 12) : OK (f_X12_withSymmetries_L38 N (iI s) (iI z) d A fl fe N 0 (iI (off k s : Nat)) m q r t ha hb hc hn im) (fun u => u.1 = iI (cS k (frl k s) z : Nat) ∧ SM u.2.2.1 u.2.2.2.1 u.2.2.2.2.1 u.2.2.2.2.2.1 u.2.2.2.2.2.2.1 u.2.2.2.2.2.2.2.1 u.2.2.2.2.2.2.2.2.2) := by
  have hk := hd.1
  have h8 := gre_le (k := k)
  have hbd := (off_bd hk h1 h2).2.1
  have hle := off_succ (k := k) h1
  refine zlp11 (fxl k s).length (fun i v y m q r t ha hb hc hn im => y = iI ((off k s + i : Nat) : Int) ∧ v = iI (cS k (((fxl k s).take i).filter (canB k)) z : Nat) ∧ SM q r t ha hb hc im) ?_ N 0 _ _ _ _ _ _ _ _ _ _ _ (by omega) (by omega) ⟨rfl, rfl, hs⟩
  rintro fu i v y m q r t ha hb hc hn im hi ⟨rfl, rfl, hs⟩ ih
  rw [f_X12_withSymmetries_L38, iI_succ, (h.fr h1 h2).2, Option.bind_some]
  rcases Nat.lt_or_ge i (fxl k s).length with g | g
  · obtain ⟨X, hX⟩ := gL g
    have hf := h.fig hk h1 h2 hX
    have htk := tk_get hX
    rw [if_pos (iI_ltT (by omega) (by omega) (by omega)), hf.2.1, Option.bind_some]
    by_cases e : canB k X = true
    · have hflt : ((fxl k s).take (i + 1)).filter (canB k) = ((fxl k s).take i).filter (canB k) ++ [X] := by
        rw [htk, List.filter_append]; simp [e]
      rw [if_neg (by rw [flB_0]; simp [e]), hf.1, Option.bind_some, OK_bind]
      refine (figN hN hf.2.2.1 hf.2.2.2 (by omega) hs.1).mono ?_
      rintro ⟨m2, q2, r2, t2⟩ ⟨em, hmr⟩
      simp only at em hmr ⊢
      have hSm := hf.2.2.1.1.sm
      have hho := mHolds (N := N) hmr (by omega) hs.2.1.1 hs.2.1.2.1 hs.2.1.2.2
      rw [hf.2.2.2, ← em] at hho
      rw [OK_bind]
      refine OK.mono hho ?_
      rintro ⟨w5, w6, w7, w8⟩ ⟨hh, ew⟩
      simp only at hh ew ⊢
      subst ew
      have hX8 : X.length ≤ 12 := by rw [hf.2.2.2]; omega
      have him := mImages (N := N) (n := iI s) (by omega) hSm hd hh hmr.1 hmr.2.1 hmr.2.2.1 hs.2.2
      rw [hf.2.2.2, ← em] at him
      rw [OK_bind]
      refine OK.mono him ?_
      rintro ⟨y1, y2, y3, y4, y5, y6⟩ ⟨hy, p1, p2, p3, p4⟩
      simp only at p1 p2 p3 p4 ⊢
      have hsy := mSym (N := N) (by omega) hd p4 (fun i => img_len i) hX8 (fun i => (img_Nf hSm i).rng)
      rw [hf.2.2.2, ← em] at hsy
      rw [hsy, Option.bind_some]
      have hcs := cS_app (k := k) (F := ((fxl k s).take i).filter (canB k)) (X := X) (s := z)
      have hs12 := syN_le (k := k) (X := X)
      have e2 : symN (img k X) (2 * tur k) = syN k X := rfl
      rw [e2]
      by_cases e3 : syN k X = z
      · rw [if_pos (by rw [e3])]
        rw [if_pos e3] at hcs
        exact ih g _ _ _ _ _ _ _ _ _ _ _ ⟨iI_succ _, by rw [hflt, hcs, iI_succ], ⟨p1, p2, p3⟩, hh.len, p4.1⟩
      · rw [if_neg (iI_eqF (by omega) (by omega) (by omega) (by omega) (by omega))]
        rw [if_neg e3, Nat.add_zero] at hcs
        exact ih g _ _ _ _ _ _ _ _ _ _ _ ⟨iI_succ _, by rw [hflt, hcs, li0, iI_add, Int.add_zero], ⟨p1, p2, p3⟩, hh.len, p4.1⟩
    · have hflt : ((fxl k s).take (i + 1)).filter (canB k) = ((fxl k s).take i).filter (canB k) := by
        rw [htk, List.filter_append]; simp [e]
      rw [if_pos (by rw [flB_0]; exact e)]
      exact ih g _ _ _ _ _ _ _ _ _ _ _ ⟨iI_succ _, by rw [hflt], hs⟩
  · have e0 : i = (fxl k s).length := by omega
    subst e0
    rw [if_neg (iI_ltF (by omega) (by omega) (by omega)), OK_some]
    rw [List.take_length]
    exact ⟨rfl, hs⟩
theorem withHolesM (hN : 2000 ≤ N) (hd : DK k d) (h : MBD k A fl fe) (h1 : 1 ≤ s) (h2 : s ≤ gre k) (h16 : L16 q r t) (hF : fi.length = 392 ∧ qu.length = 392) : OK (f_X12_withHoles_L27 N (iI s) d A fe N 0 (iI (off k s : Nat)) m q r t fi qu) (fun u => u.1 = iI (cH k (fxl k s) : Nat) ∧ L16 u.2.2.1 u.2.2.2.1 u.2.2.2.2.1 ∧ u.2.2.2.2.2.1.length = 392 ∧ u.2.2.2.2.2.2.length = 392) := by
  have hk := hd.1
  have h8 := gre_le (k := k)
  have hbd := (off_bd hk h1 h2).2.1
  have hle := off_succ (k := k) h1
  refine zlp8 (fxl k s).length (fun i v y m q r t fi qu => y = iI ((off k s + i : Nat) : Int) ∧ v = iI (cH k ((fxl k s).take i) : Nat) ∧ L16 q r t ∧ fi.length = 392 ∧ qu.length = 392) ?_ N 0 _ _ _ _ _ _ _ _ (by omega) (by omega) ⟨rfl, rfl, h16, hF⟩
  rintro fu i v y m q r t fi qu hi ⟨rfl, rfl, h16, hF⟩ ih
  rw [f_X12_withHoles_L27, iI_succ, (h.fr h1 h2).2, Option.bind_some]
  rcases Nat.lt_or_ge i (fxl k s).length with g | g
  · obtain ⟨X, hX⟩ := gL g
    have hf := h.fig hk h1 h2 hX
    have htk := tk_get hX
    have hB := hf.2.2.1.b9 (by omega)
    rw [if_pos (iI_ltT (by omega) (by omega) (by omega)), hf.1, Option.bind_some, OK_bind]
    refine (figN hN hf.2.2.1 hf.2.2.2 (by omega) h16).mono ?_
    rintro ⟨m2, q2, r2, t2⟩ ⟨em, hmr⟩
    simp only at em hmr ⊢
    have hsu := mSurr (N := N) (by omega) hd hmr hB hF.1 hF.2
    rw [hf.2.2.2, ← em] at hsu
    rw [OK_bind]
    refine OK.mono hsu ?_
    rintro ⟨x1, x2⟩ ⟨hx1, hx2⟩
    obtain ⟨Q, hQ⟩ := hx1.fv hB
    simp only at hx2 ⊢
    rw [OK_bind]
    refine (mHoles (by omega) hd hQ hx2 (Or.inl rfl)).mono ?_
    rintro ⟨y1, y2, y3⟩ ⟨l1, l2, Rp, All, k1, k2, k3⟩
    simp only at l1 l2 k3 ⊢
    rw [if_pos trivial] at k3
    subst k3
    have hch := cH_app (k := k) (F := (fxl k s).take i) (X := X)
    rw [← htk] at hch
    have hiff : 0 < Rp.length ↔ hhB k X = true := by
      rw [hhB_iff]
      constructor
      · intro hp
        obtain ⟨c, hc⟩ := gL hp
        exact ⟨c, k1.2.2.1 c (List.mem_of_getElem? hc)⟩
      · rintro ⟨c, hc⟩
        obtain ⟨r, hr, _⟩ := (k1.2.2.2.2 c).mp (k2 c hc)
        exact List.length_pos_of_mem hr
    have hRl : Rp.length ≤ 392 := by
      have := nd_len (A := Rp.map spI) (B := List.range 392) (nd_map k1.1 (fun x hx y hy e => sp_ix.2 x y (k1.2.2.1 x hx).1 (k1.2.2.1 y hy).1 e)) (fun z hz => by
        obtain ⟨w, hw, rfl⟩ := List.mem_map.mp hz
        exact List.mem_range.mpr (sp_ix.1 w (k1.2.2.1 w hw).1))
      rw [List.length_map, List.length_range] at this
      exact this
    by_cases e : 0 < Rp.length
    · rw [if_pos (by rw [li0]; exact iI_ltT (by omega) (by omega) (by omega))]
      rw [if_pos (hiff.mp e)] at hch
      exact ih g _ _ _ _ _ _ _ _ ⟨iI_succ _, by rw [hch, iI_succ], hmr.len, l1, l2⟩
    · rw [if_neg (by rw [li0]; exact iI_ltF (by omega) (by omega) (by omega))]
      rw [if_neg (fun hh => e (hiff.mpr hh)), Nat.add_zero] at hch
      exact ih g _ _ _ _ _ _ _ _ ⟨iI_succ _, by rw [hch, li0, iI_add, Int.add_zero, Nat.add_zero], hmr.len, l1, l2⟩
  · have e0 : i = (fxl k s).length := by omega
    subst e0
    rw [if_neg (iI_ltF (by omega) (by omega) (by omega)), OK_some]
    rw [List.take_length]
    exact ⟨rfl, h16, hF⟩
end
