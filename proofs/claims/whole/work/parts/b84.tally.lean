/-! the class's tallies -/
theorem sum_le {α : Type} (f : α → Nat) (D : Nat) : ∀ {A : List α}, (∀ x ∈ A, f x ≤ D) → (A.map f).sum ≤ A.length * D
  | [], _ => by simp
  | x :: A, h => by
    have h1 := h x (by simp)
    have h2 := sum_le f D (A := A) (fun y hy => h y (by simp [hy]))
    rw [List.map_cons, List.sum_cons, List.length_cons, Nat.add_mul]
    omega
noncomputable def hhB (k : Nat) (X : List Cl) : Bool := @decide (∃ c, ZhM k X c) (Classical.propDecidable _)
theorem hhB_iff {k : Nat} {X : List Cl} : hhB k X = true ↔ ∃ c, ZhM k X c := by unfold hhB; simp
def cD (k : Nat) (F : List (List Cl)) (s : Nat) : Nat := (F.filter (fun X => decide (sdN k X = s))).length
noncomputable def cH (k : Nat) (F : List (List Cl)) : Nat := (F.filter (hhB k)).length
section
variable {N k n j : Nat} {X Y : List Cl} {A y : List Int64} {st sT hT fc um uq : List Int32} {fs u1 u2 u3 u4 u5 u6 u7 : Int32} {F : List (List Cl)}
theorem sdN_le (h : X.length ≤ gre k) : sdN k X ≤ 36 := by
  have h1 : sdN k X ≤ X.length * dg k := sum_le _ _ (fun x _ => cnt_le _ _)
  have h2 : X.length * dg k ≤ gre k * dg k := Nat.mul_le_mul_right _ h
  have h3 : gre k * dg k ≤ 36 := by
    unfold gre dg
    split
    · decide
    · split <;> decide
  omega
def CT (k t : Nat) (sT hT : List Int32) : Prop := t ≤ gre k ∧ sT.length = 333 ∧ hT.length = 9 ∧ (∀ j s, 1 ≤ j → j ≤ t → s < 37 → sT[j * 37 + s]? = some (iI (cD k (fxl k j) s : Nat))) ∧ (∀ j, 1 ≤ j → j ≤ t → hT[j]? = some (iI (cH k (fxl k j) : Nat))) ∧ (∀ j s, t < j → j ≤ 8 → s < 37 → sT[j * 37 + s]? = some (iI 0)) ∧ ∀ j, t < j → j ≤ 8 → hT[j]? = some (iI 0)
def TB (k n : Nat) (F : List (List Cl)) (sT hT : List Int32) : Prop := sT.length = 333 ∧ hT.length = 9 ∧ (∀ j s, 1 ≤ j → j < n → s < 37 → sT[j * 37 + s]? = some (iI (cD k (fxl k j) s : Nat))) ∧ (∀ j, 1 ≤ j → j < n → hT[j]? = some (iI (cH k (fxl k j) : Nat))) ∧ (∀ s, s < 37 → sT[n * 37 + s]? = some (iI (cD k F s : Nat))) ∧ hT[n]? = some (iI (cH k F : Nat)) ∧ (∀ j s, n < j → j ≤ 8 → s < 37 → sT[j * 37 + s]? = some (iI 0)) ∧ ∀ j, n < j → j ≤ 8 → hT[j]? = some (iI 0)
theorem CT.go (h : CT k n sT hT) (h2 : n + 1 ≤ gre k) : TB k (n + 1) [] sT hT := by
  obtain ⟨a0, a1, a2, a3, a4, a5, a6⟩ := h
  have h8 := gre_le (k := k)
  exact ⟨a1, a2, fun j s j1 j2 hs => a3 j s j1 (by omega) hs, fun j j1 j2 => a4 j j1 (by omega), fun s hs => a5 (n + 1) s (by omega) (by omega) hs, a6 (n + 1) (by omega) (by omega), fun j s j1 j2 hs => a5 j s (by omega) j2 hs, fun j j1 j2 => a6 j (by omega) j2⟩
theorem TB.ct (h2 : n ≤ gre k) (h : TB k n (fxl k n) sT hT) : CT k n sT hT := by
  obtain ⟨a1, a2, a3, a4, a5, a6, a7, a8⟩ := h
  refine ⟨h2, a1, a2, fun j s j1 j2 hs => ?_, fun j j1 j2 => ?_, a7, a8⟩
  · rcases Nat.lt_or_ge j n with g | g
    · exact a3 j s j1 g hs
    · have e : j = n := by omega
      subst e; exact a5 s hs
  · rcases Nat.lt_or_ge j n with g | g
    · exact a4 j j1 g
    · have e : j = n := by omega
      subst e; exact a6
theorem cD_app {s : Nat} : cD k (F ++ [X]) s = cD k F s + if sdN k X = s then 1 else 0 := by
  unfold cD
  rw [List.filter_append, List.length_append]
  by_cases e : sdN k X = s
  · rw [if_pos e]; simp [e]
  · rw [if_neg e]; simp [e]
theorem cH_app : cH k (F ++ [X]) = cH k F + if hhB k X = true then 1 else 0 := by
  unfold cH
  rw [List.filter_append, List.length_append]
  by_cases e : hhB k X = true
  · rw [if_pos e]; simp [e]
  · rw [if_neg e]; simp [e]
theorem tallyC (hk : k < 3) (h1 : 1 ≤ n) (h2 : n ≤ gre k) (hXl : X.length = n) (h : TB k n F sT hT) {r : Nat} (hr : r < 1000) (hhr : 0 < r ↔ hhB k X = true) :
    OK (f_X1_tallyFigure N (iI n) sT hT (iI (sdN k X : Nat)) (iI r)) (fun w => TB k n (F ++ [X]) w.1 w.2) := by
  have h8 := gre_le (k := k)
  have hsd := sdN_le (k := k) (X := X) (by omega)
  obtain ⟨a1, a2, a3, a4, a5, a6, a7, a8⟩ := h
  unfold f_X1_tallyFigure
  rw [show (37 : Int32) = iI 37 from rfl, iI_mul, iI_add, show (n : Int) * 37 + (sdN k X : Nat) = ((n * 37 + sdN k X : Nat) : Int) by omega, oN_iI, if_pos (iI_ltT (by omega) (by omega) (by omega)), gI (a5 _ (by omega)) (by omega), Option.bind_some, sI (by omega) (by omega), Option.bind_some]
  have hs : ∀ s, s < 37 → (sT.set (n * 37 + sdN k X) (iI (cD k F (sdN k X) : Nat) + 1))[n * 37 + s]? = some (iI (cD k (F ++ [X]) s : Nat)) := fun s hs => by
    rw [cD_app]
    by_cases e : sdN k X = s
    · rw [e, if_pos rfl, st0 (by omega), iI_succ]
    · rw [if_neg e, Nat.add_zero]
      exact st1 (a5 s hs) (by omega)
  by_cases e : 0 < r
  · rw [li0, if_pos (iI_ltT (by omega) (by omega) (by omega)), gI a6 (by omega), Option.bind_some, sI (by omega) (by omega), Option.bind_some, OK_some]
    refine ⟨by simp [a1], by simp [a2], fun j s j1 j2 hs => st1 (a3 j s j1 j2 hs) (by omega), fun j j1 j2 => st1 (a4 j j1 j2) (by omega), hs, ?_, fun j s j1 j2 hs => st1 (a7 j s j1 j2 hs) (by omega), fun j j1 j2 => st1 (a8 j j1 j2) (by omega)⟩
    rw [cH_app, if_pos (hhr.mp e)]
    show (hT.set n (iI (cH k F : Nat) + 1))[n]? = _
    rw [st0 (by omega), iI_succ]
  · rw [li0, if_neg (iI_ltF (by omega) (by omega) (by omega)), OK_some]
    refine ⟨by simp [a1], a2, fun j s j1 j2 hs => st1 (a3 j s j1 j2 hs) (by omega), a4, hs, ?_, fun j s j1 j2 hs => st1 (a7 j s j1 j2 hs) (by omega), a8⟩
    rw [cH_app, if_neg (fun h => e (hhr.mpr h))]
    exact a6
theorem Sh.id (h : NF k X) (hl : X.length ≤ 8) {m n : Int} (hm : Mx (fun c => c.1) X m) (hn : Mx (fun c => c.2.1) X n) : Sh k X X 0 0 m n := by
  have hb := h.b8 (by omega)
  obtain ⟨p, hp, ep⟩ := hm.2
  obtain ⟨q, hq, eq⟩ := hn.2
  have h1 := hb p hp
  have h2 := hb q hq
  have e1 : p.1 = m := ep
  have e2 : q.2.1 = n := eq
  refine ⟨h.1.1, h.b9 hl, fun c => by rw [sft_0], Int.le_refl _, Int.le_refl _, fun c hc => ?_, by omega, by omega, by omega, by omega⟩
  have h3 := hb c hc
  have h4 := hm.1 c hc
  have h5 := hn.1 c hc
  exact ⟨h3.2.1, h4, h3.2.2.2.1, h5⟩
theorem NF.nw (h : NF k X) (hl : X.length ≤ 8) : ¬ wide X := by
  rintro ⟨c, hc, hw⟩
  have := h.b8 (by omega) c hc
  omega
/-- what is seen around a listed figure -/
theorem lookN (hN : 2000 ≤ N) (hX : NF k X) (hXl : X.length = n) (h8 : n ≤ 8) {J : List Int32} (hM : um.length = 384) (hq : uq.length = 384) : OK (f_X9_look N um uq (X.map cI ++ J) (iI n) k) (fun u => u.1.length = 384 ∧ u.2.1.length = 384 ∧ u.2.2.2.2.1 = iI (sdN k X : Nat) ∧ ∃ r : Nat, r < 1000 ∧ (0 < r ↔ hhB k X = true) ∧ u.2.2.2.2.2.2.2.1 = iI r) := by
  subst hXl
  refine (lookC (N := N) (J := J) (by omega) hX.1 (hX.nw h8) hM hq).mono ?_
  rintro ⟨y1, y2, y3, y4, y5, y6, y7, y8, y9⟩ ⟨hy1, hy2, m, n, B, O, Rp, All, hm, hn, hm9, hn9, hB, hOO, hHI, e5, e6, e7, e8, e9⟩
  simp only at hy1 hy2 e5 e8 ⊢
  have hS := Sh.id hX h8 hm hn
  refine ⟨hy1, hy2, e5, Rp.length, ?_, ?_, e8⟩
  · have hix := pI_ix (k := k) (x1 := m + 1) (y1 := n + 1) (by omega) (by omega)
    have := nd_len (A := Rp.map pI) (B := List.range 384) (nd_map hHI.1.1 (fun x hx y hy e => hix.2 x y (hHI.1.2.2.1 x hx).1 (hHI.1.2.2.1 y hy).1 e)) (fun z hz => by
      obtain ⟨w, hw, rfl⟩ := List.mem_map.mp hz
      exact List.mem_range.mpr (hix.1 w (hHI.1.2.2.1 w hw).1))
    rw [List.length_map, List.length_range] at this
    omega
  · rw [hhB_iff]
    constructor
    · intro h
      obtain ⟨z, hz⟩ := gL h
      refine ⟨z, (hS.z z).mpr ?_⟩
      rw [sft_0]
      exact hHI.1.2.2.1 z (List.mem_of_getElem? hz)
    · rintro ⟨c, hc⟩
      have h1 := (hS.z c).mp hc
      rw [sft_0] at h1
      obtain ⟨r, hr, _⟩ := (hHI.1.2.2.2.2 c).mp (hHI.2 c h1)
      exact List.length_pos_of_mem hr
theorem tallySize (hN : 2000 ≤ N) (hk : k < 3) {b : Nat} (hC : CF k b st A) (h1 : 1 ≤ n) (h2 : n ≤ b) (h : TB k n [] sT hT) (hfc : fc.length = 12) (hU : um.length = 384 ∧ uq.length = 384) :
    OK (f_X1_buildTallies_L27 N (iI n) st k A N (iI (off k n : Nat)) sT hT fc fs um uq u1 u2 u3 u4 u5 u6 u7) (fun w => CT k n w.1 w.2.1 ∧ w.2.2.1.length = 12 ∧ w.2.2.2.2.1.length = 384 ∧ w.2.2.2.2.2.1.length = 384) := by
  have h8 := gre_le (k := k)
  have hb8 := hC.1
  have hX : ∀ X, X ∈ fxl k n ↔ (NF k X ∧ X.length = n) := (fxl_ok hk h1 (by omega)).2
  have hbd := (off_bd hk h1 (by omega : n ≤ gre k)).2.1
  have hle : off k n + (fxl k n).length = off k (n + 1) := (off_succ h1).symm
  have hsl := hC.2.1
  have hAl := hC.2.2.1
  refine zlp14 (fxl k n).length (fun i z sT hT fc fs um uq _ _ _ _ _ _ _ => z = iI ((off k n + i : Nat) : Int) ∧ TB k n ((fxl k n).take i) sT hT ∧ fc.length = 12 ∧ um.length = 384 ∧ uq.length = 384) ?_ N 0 _ _ _ _ _ _ _ _ _ _ _ _ _ _ (by omega) (by omega) ⟨rfl, h, hfc, hU⟩
  rintro fu i z sT hT fc fs um uq u1 u2 u3 u4 u5 u6 u7 hi ⟨rfl, hF, hfc, hU⟩ ih
  rw [f_X1_buildTallies_L27, iI_succ, gI (hC.2.2.2.1 (n + 1) (by omega) (by omega)) (by omega), Option.bind_some]
  rcases Nat.lt_or_ge i (fxl k n).length with g | g
  · obtain ⟨X, hXi⟩ := gL g
    have hXm := List.mem_of_getElem? hXi
    obtain ⟨hNF, hXl⟩ := (hX X).mp hXm
    have hpk : (fxp k n)[i]? = some (pck X) := by unfold fxp; rw [List.getElem?_map, hXi]; rfl
    have htk : (fxl k n).take (i + 1) = (fxl k n).take i ++ [X] := by
      rw [List.take_succ_eq_append_getElem g]
      congr 2
      exact (List.getElem?_eq_some_iff.mp hXi).2
    have hgA : z_get A (iI ((off k n + i : Nat) : Int)) = some (lN (pck X)) := gI (hC.2.2.2.2 n h1 h2 i _ hpk) (by omega)
    obtain ⟨hun, hCE, hfc2⟩ := unpack_n (N := N) (T := fc) (by omega) hNF (by omega) hXl hfc
    rw [if_pos (iI_ltT (by omega) (by omega) (by omega)), show (1100 : Int32) = iI 1100 from rfl, if_pos (iI_ltT (by omega) (by omega) (by omega)), hgA, Option.bind_some, hun, Option.bind_some, OK_bind]
    refine (lookN hN hNF hXl (by omega) hU.1 hU.2).mono ?_
    rintro ⟨y1, y2, y3, y4, y5, y6, y7, y8, y9⟩ ⟨l1, l2, l3, r, l4, l5, l6⟩
    simp only at l1 l2 l3 l6 ⊢
    subst l3 l6
    rw [OK_bind]
    refine (tallyC hk h1 (by omega) hXl hF l4 l5).mono ?_
    rintro ⟨w1, w2⟩ hw
    simp only at hw ⊢
    rw [iI_succ]
    exact ih g _ _ _ _ _ _ _ _ _ _ _ _ _ _ ⟨rfl, by rw [htk]; exact hw, hfc2, l1, l2⟩
  · have e0 : i = (fxl k n).length := by omega
    subst e0
    rw [if_neg (iI_ltF (by omega) (by omega) (by omega)), OK_some]
    rw [List.take_length] at hF
    exact ⟨hF.ct (by omega), hfc, hU⟩
theorem talliesC (hN : 2000 ≤ N) (hk : k < 3) {b t s : Nat} (hC : CF k b st A) (hs : s ≤ b) (h : CT k t sT hT) (hfc : fc.length = 12) (hU : um.length = 384 ∧ uq.length = 384) :
    OK (f_X1_buildTallies N (iI s) st (iI b) sT hT (iI t) k A fc fs um uq u1 u2 u3 u4 u5 u6 u7) (fun w => ∃ t', CT k t' w.1 w.2.1 ∧ w.2.2.1 = iI t' ∧ s ≤ t' ∧ t ≤ t' ∧ w.2.2.2.1.length = 12 ∧ w.2.2.2.2.2.1.length = 384 ∧ w.2.2.2.2.2.2.1.length = 384) := by
  have h8 := gre_le (k := k)
  have hb8 := hC.1
  unfold f_X1_buildTallies
  rw [OK_bind, iI_succ]
  refine OK.mono (Q := fun w => ∃ t', CT k t' w.1 w.2.1 ∧ w.2.2.1 = iI t' ∧ s ≤ t' ∧ t ≤ t' ∧ w.2.2.2.1.length = 12 ∧ w.2.2.2.2.2.1.length = 384 ∧ w.2.2.2.2.2.2.1.length = 384) ?_ (fun w hw => by rw [OK_some]; exact hw)
  refine zlp15 9 (fun i v sT hT tb fc fs um uq _ _ _ _ _ _ _ => ∃ t', t' = t + i ∧ v = iI ((t' + 1 : Nat) : Int) ∧ tb = iI t' ∧ CT k t' sT hT ∧ fc.length = 12 ∧ um.length = 384 ∧ uq.length = 384) ?_ N 0 _ _ _ _ _ _ _ _ _ _ _ _ _ _ _ (by omega) (by omega) ⟨t, rfl, rfl, rfl, h, hfc, hU⟩
  rintro fu i v sT hT tb fc fs um uq u1 u2 u3 u4 u5 u6 u7 hi ⟨t', ht', rfl, rfl, hF, hfc, hU⟩ ih
  have hf8 := hF.1
  rw [f_X1_buildTallies_L7]
  by_cases g : s < t' + 1
  · rw [if_pos (iI_ltT (by omega) (by omega) (by omega)), OK_some]
    exact ⟨t', hF, rfl, by omega, by omega, hfc, hU⟩
  · have hi9 : i < 9 := by omega
    have hsl := hC.2.1
    rw [if_neg (iI_ltF (by omega) (by omega) (by omega)), if_neg (iI_ltF (by omega) (by omega) (by omega)), gI (hC.2.2.2.1 (t' + 1) (by omega) (by omega)) (by omega), Option.bind_some, OK_bind, iI_succ]
    refine (tallySize hN hk hC (by omega) (by omega) (hF.go (by omega)) hfc hU).mono ?_
    rintro ⟨w1, w2, w3, w4, w5, w6, w7, w8, w9, w10, w11, w12, w13⟩ ⟨hw, hw2, hw3, hw4⟩
    exact ih hi9 _ _ _ _ _ _ _ _ _ _ _ _ _ _ _ ⟨t' + 1, by omega, rfl, rfl, hw, hw2, hw3, hw4⟩
end
