/-! the reference's free figures, and its lists as they stand -/
section
variable {N k n : Nat} {X Y : List Cl} {A : List Int64} {fl d q r t fe ha hb hc im : List Int32} {bu hn m : Int32}
theorem can_iff (h : NF k X) (hl : X.length ≤ 8) : pck (can k X) = pck X ↔ Can k X := by
  have hs := h.1.sm
  have htu := tur_pos (k := k)
  have h0 : img k X 0 = X := by rw [img_0 hs, h.self]
  have hb := bst_lt (F := img k X) (n := 2 * tur k) (by omega)
  have hle := fun i hi => bst_le (F := img k X) (m := X.length) (fun i => img_len i) (n := 2 * tur k) i hi
  constructor
  · intro e i hi hneg
    have e2 := pck_inj ((can_NF hs).b9 (by rw [can_len]; exact hl)) (h.b9 hl) can_len e
    have h1 := hle i hi
    have h2 : img k X (bst (img k X) (2 * tur k)) = X := e2
    rw [h2] at h1
    have h3 := lxg_anti (f := cd) (A := img k X i) (B := X)
    unfold lx at h1 hneg
    omega
  · intro hC
    have h1 := hle 0 (by omega)
    rw [h0] at h1
    have h2 := hC _ hb
    have h3 : lx (img k X (bst (img k X) (2 * tur k))) X = 0 := by omega
    have h4 := (lx_eq (img_len _) (img_Nf hs _).ok h.1.ok).mp h3
    show pck (img k X (bst (img k X) (2 * tur k))) = pck X
    rw [h4]
/-- flags of the free figures -/
noncomputable def flB (k : Nat) (X : List Cl) : Int32 := iI (if canB k X = true then 1 else 0)
def MFl (k n i : Nat) (fl : List Int32) : Prop := fl.length = 1200 ∧ (∀ j, 1 ≤ j → j < n → ∀ i X, (fxl k j)[i]? = some X → fl[off k j + i]? = some (flB k X)) ∧ ∀ i' X, i' < i → (fxl k n)[i']? = some X → fl[off k n + i']? = some (flB k X)
theorem flagM (hN : 2000 ≤ N) (hd : DK k d) (hM : MF k (gre k) A fe) (h1 : 1 ≤ n) (h2 : n ≤ gre k) (h : MFl k n 0 fl) (h16 : L16 q r t) (h16h : L16 ha hb hc) (him : im.length = 144) :
    OK (f_X12_builds_L152 N (iI n) d A fe N (iI (off k n : Nat)) m q r t ha hb hc hn im fl) (fun w => MFl k n (fxl k n).length w.2.2.2.2.2.2.2.2.2 ∧ L16 w.2.1 w.2.2.1 w.2.2.2.1 ∧ L16 w.2.2.2.2.1 w.2.2.2.2.2.1 w.2.2.2.2.2.2.1 ∧ w.2.2.2.2.2.2.2.2.1.length = 144) := by
  have hk := hd.1
  have h8 := gre_le (k := k)
  have hX : ∀ X, X ∈ fxl k n ↔ (NF k X ∧ X.length = n) := (fxl_ok hk h1 (by omega)).2
  have hbd := (off_bd hk h1 h2).2.1
  have hle : off k n + (fxl k n).length = off k (n + 1) := (off_succ h1).symm
  have hAl := hM.1
  have hfl := hM.2.1
  refine zlp11 (fxl k n).length (fun i z m q r t ha hb hc hn im fl => z = iI ((off k n + i : Nat) : Int) ∧ L16 q r t ∧ L16 ha hb hc ∧ im.length = 144 ∧ MFl k n i fl) ?_ N 0 _ _ _ _ _ _ _ _ _ _ _ (by omega) (by omega) ⟨rfl, h16, h16h, him, h⟩
  rintro fu i z m q r t ha hb hc hn im fl hi ⟨rfl, h16, h16h, him, hF⟩ ih
  rw [f_X12_builds_L152, iI_succ, gI (hM.2.2.1 (n + 1) (by omega) (by omega)) (by omega), Option.bind_some]
  rcases Nat.lt_or_ge i (fxl k n).length with g | g
  · obtain ⟨X, hXi⟩ := gL g
    have hXm := List.mem_of_getElem? hXi
    obtain ⟨hNF, hXl⟩ := (hX X).mp hXm
    have hpk : (fxp k n)[i]? = some (pck X) := by unfold fxp; rw [List.getElem?_map, hXi]; rfl
    have hgA : z_get A (iI ((off k n + i : Nat) : Int)) = some (lN (pck X)) := gI (hM.2.2.2 n h1 h2 i _ hpk) (by omega)
    have hfig := mFigure (k := k) (N := N) (by omega) (hNF.kk (by omega)) (hNF.inB (by omega)) h16.1 h16.2.1 h16.2.2
    rw [hXl] at hfig
    rw [if_pos (iI_ltT (by omega) (by omega) (by omega)), hgA, Option.bind_some, OK_bind]
    refine OK.mono hfig ?_
    rintro ⟨m2, q2, r2, t2⟩ ⟨em, hmr⟩
    simp only at em hmr ⊢
    subst em
    have hcan := mCanonical (N := N) (by omega) hNF.1.sm (by omega) hd hmr h16h.1 h16h.2.1 h16h.2.2 him
    rw [hXl] at hcan
    rw [OK_bind]
    refine OK.mono hcan ?_
    rintro ⟨y1, y2, y3, y4, y5, y6, y7, y8, y9, y10⟩ ⟨c1, c2, c3, c4, c5, c6, c7, c8⟩
    simp only at c1 c2 c3 c4 c5 c6 c7 c8 ⊢
    subst c1
    have hl63 := hNF.lt63 (by omega)
    have hc63 := (can_NF hNF.1.sm).lt63 (by rw [can_len]; omega)
    have hfl1 := hF.1
    -- a flag is set
    have step : ∀ x, x = flB k X → MFl k n (i + 1) (fl.set (off k n + i) x) := fun x hx => by
      refine ⟨by simp [hfl1], fun j j1 j2 i' Y hY => ?_, fun i' Y hi' hY => ?_⟩
      · have hlt := lt_of_get hY
        have := off_le (k := k) j1 j2
        exact st1 (hF.2.1 j j1 j2 i' Y hY) (by omega)
      · rcases Nat.lt_or_ge i' i with g1 | g1
        · exact st1 (hF.2.2 i' Y g1 hY) (by omega)
        · have e : i' = i := by omega
          subst e
          rw [hXi] at hY
          cases hY
          rw [hx]
          exact st0 (by omega)
    rw [Option.bind_some]
    by_cases e : pck (can k X) = pck X
    · have hcb : canB k X = true := canB_iff.mpr ((can_iff hNF (by omega)).mp e)
      rw [if_pos (by rw [cmp_eq hc63 hl63]; exact e), sI (by omega) (by omega), Option.bind_some, iI_succ]
      exact ih g _ _ _ _ _ _ _ _ _ _ _ ⟨rfl, ⟨c2, c3, c4⟩, ⟨c5, c6, c7⟩, c8, step _ (by unfold flB; rw [if_pos hcb]; decide)⟩
    · have hcb : ¬ canB k X = true := fun h => e ((can_iff hNF (by omega)).mpr (canB_iff.mp h))
      rw [if_neg (by rw [cmp_eq hc63 hl63]; exact e), sI (by omega) (by omega), Option.bind_some, iI_succ]
      exact ih g _ _ _ _ _ _ _ _ _ _ _ ⟨rfl, ⟨c2, c3, c4⟩, ⟨c5, c6, c7⟩, c8, step _ (by unfold flB; rw [if_neg hcb]; decide)⟩
  · have e0 : i = (fxl k n).length := by omega
    subst e0
    rw [if_neg (iI_ltF (by omega) (by omega) (by omega)), OK_some]
    exact ⟨hF, h16, h16h, him⟩
def MBD (k : Nat) (A : List Int64) (fl fe : List Int32) : Prop := MF k (gre k) A fe ∧ fl.length = 1200 ∧ ∀ j, 1 ≤ j → j ≤ gre k → ∀ i X, (fxl k j)[i]? = some X → fl[off k j + i]? = some (flB k X)
theorem flagsM (hN : 2000 ≤ N) (hd : DK k d) (hM : MF k (gre k) A fe) (hfl : fl.length = 1200) (h16 : L16 q r t) (h16h : L16 ha hb hc) (him : im.length = 144) :
    OK (f_X12_builds_L137 N d A fe N 1 m q r t ha hb hc hn im fl) (fun w => MBD k A w.2.2.2.2.2.2.2.2.2 fe ∧ L16 w.2.1 w.2.2.1 w.2.2.2.1 ∧ L16 w.2.2.2.2.1 w.2.2.2.2.2.1 w.2.2.2.2.2.2.1 ∧ w.2.2.2.2.2.2.2.2.1.length = 144) := by
  have hk := hd.1
  have h8 := gre_le (k := k)
  have hfe := hM.2.1
  refine zlp11 (gre k) (fun i z m q r t ha hb hc hn im fl => z = iI ((i + 1 : Nat) : Int) ∧ L16 q r t ∧ L16 ha hb hc ∧ im.length = 144 ∧ MFl k (i + 1) 0 fl) ?_ N 0 _ _ _ _ _ _ _ _ _ _ _ (by omega) (by omega) ⟨rfl, h16, h16h, him, hfl, fun j j1 j2 => by omega, fun i' X hi' => by omega⟩
  rintro fu i z m q r t ha hb hc hn im fl hi ⟨rfl, h16, h16h, him, hF⟩ ih
  rw [f_X12_builds_L137, mGre hd, Option.bind_some]
  rcases Nat.lt_or_ge i (gre k) with g | g
  · rw [if_neg (iI_ltF (by omega) (by omega) (by omega)), gI (hM.2.2.1 (i + 1) (by omega) (by omega)) (by omega), Option.bind_some, OK_bind]
    refine (flagM hN hd hM (by omega) (by omega) hF h16 h16h him).mono ?_
    rintro ⟨y1, y2, y3, y4, y5, y6, y7, y8, y9, y10⟩ ⟨c1, c2, c3, c4⟩
    simp only at c1 c2 c3 c4 ⊢
    rw [iI_succ]
    refine ih g _ _ _ _ _ _ _ _ _ _ _ ⟨rfl, c2, c3, c4, c1.1, fun j j1 j2 i' X hX => ?_, fun i' X hi' => by omega⟩
    rcases Nat.lt_or_ge j (i + 1) with g1 | g1
    · exact c1.2.1 j j1 g1 i' X hX
    · have e : j = i + 1 := by omega
      subst e
      exact c1.2.2 i' X (lt_of_get hX) hX
  · have e0 : i = gre k := by omega
    rw [if_pos (iI_ltT (by omega) (by omega) (by omega)), OK_some]
    exact ⟨⟨hM, hF.1, fun j j1 j2 => hF.2.1 j j1 (by omega)⟩, h16, h16h, him⟩
def MBI (bu : Int32) (A : List Int64) (fl fe : List Int32) : Prop := A.length = 1200 ∧ fl.length = 1200 ∧ fe.length = 11 ∧ (bu = iI (-1) ∨ ∃ k', k' < 3 ∧ bu = iI (k' : Nat) ∧ MBD k' A fl fe)
theorem MBD.mbi (hk : k < 3) (h : MBD k A fl fe) : MBI (iI (k : Nat)) A fl fe := ⟨h.1.1, h.2.1, h.1.2.1, Or.inr ⟨k, hk, rfl, h⟩⟩
/-- the reference's lists are made, if they are not there -/
theorem buildsM (hN : 2000 ≤ N) (hd : DK k d) (h : MBI bu A fl fe) (h16 : L16 q r t) (h16h : L16 ha hb hc) (him : im.length = 144) :
    OK (f_X12_builds N d m q r t ha hb hc hn im bu A fl fe) (fun w => L16 w.2.1 w.2.2.1 w.2.2.2.1 ∧ L16 w.2.2.2.2.1 w.2.2.2.2.2.1 w.2.2.2.2.2.2.1 ∧ w.2.2.2.2.2.2.2.2.1.length = 144 ∧ w.2.2.2.2.2.2.2.2.2.1 = iI (k : Nat) ∧ MBD k w.2.2.2.2.2.2.2.2.2.2.1 w.2.2.2.2.2.2.2.2.2.2.2.1 w.2.2.2.2.2.2.2.2.2.2.2.2) := by
  have hk := hd.1
  obtain ⟨hA, hfl, hfe, hb0⟩ := h
  unfold f_X12_builds
  rw [hd.g, Option.bind_some]
  by_cases e : bu = iI (k : Nat)
  · rw [if_pos e, OK_some]
    refine ⟨h16, h16h, him, e, ?_⟩
    rcases hb0 with hb0 | ⟨k', hk', hb0, hM⟩
    · rw [e, iI_eq (by omega) (by omega) (by omega) (by omega)] at hb0; omega
    · rw [e, iI_eq (by omega) (by omega) (by omega) (by omega)] at hb0
      have : k' = k := by omega
      subst this
      exact hM
  · have h8 : 1 ≤ gre k := by unfold gre; split <;> (try split) <;> omega
    have hs1 : z_set fe 1 0 = some (fe.set 1 (iI 0)) := sI (i := 1) (by omega) (by omega)
    rw [if_neg e, Option.bind_some, hs1, Option.bind_some, OK_bind]
    have hG0 : MG k 1 [] A := ⟨hA, fun j j1 j2 => by omega, fun i x hx => by simp at hx, List.Pairwise.nil, fun y hy => by simp at hy⟩
    have p0 : pck [((0 : Int), (0 : Int), (0 : Int))] = 0 := pck1 (t := 0) (by omega)
    have p1 : pck [((0 : Int), (0 : Int), (1 : Int))] = 1 := pck1 (t := 1) (by omega)
    have hi0 := hG0.ins hN hk (Nat.le_refl _) h8 (NF1 hk (Or.inl rfl)) rfl
    rw [p0] at hi0
    refine OK.mono hi0 ?_
    rintro ⟨w1, A1⟩ ⟨S1, hS1, ew1, _, hin1⟩
    simp only at hS1 ew1 hin1 ⊢
    subst ew1
    -- the rest, once the single cells stand
    have rest : ∀ {A2 : List Int64}, MG k 1 (fxp k 1) A2 → OK ((z_set (fe.set 1 (iI 0)) 2 (iI ((off k 1 + (fxp k 1).length : Nat) : Int))).bind fun t9 => (f_X12_builds_L66 N d N 2 m q r t A2 t9).bind fun e19 => (f_X12_builds_L137 N d e19.2.2.2.2.1 e19.2.2.2.2.2 N 1 e19.1 e19.2.1 e19.2.2.1 e19.2.2.2.1 ha hb hc hn im fl).bind fun e33 => some (e33.1, e33.2.1, e33.2.2.1, e33.2.2.2.1, e33.2.2.2.2.1, e33.2.2.2.2.2.1, e33.2.2.2.2.2.2.1, e33.2.2.2.2.2.2.2.1, e33.2.2.2.2.2.2.2.2.1, iI (k : Int), e19.2.2.2.2.1, e33.2.2.2.2.2.2.2.2.2, e19.2.2.2.2.2)) (fun w => L16 w.2.1 w.2.2.1 w.2.2.2.1 ∧ L16 w.2.2.2.2.1 w.2.2.2.2.2.1 w.2.2.2.2.2.2.1 ∧ w.2.2.2.2.2.2.2.2.1.length = 144 ∧ w.2.2.2.2.2.2.2.2.2.1 = iI (k : Nat) ∧ MBD k w.2.2.2.2.2.2.2.2.2.2.1 w.2.2.2.2.2.2.2.2.2.2.2.1 w.2.2.2.2.2.2.2.2.2.2.2.2) := by
      intro A2 hG
      have hs2 : z_set (fe.set 1 (iI 0)) 2 (iI ((off k 1 + (fxp k 1).length : Nat) : Int)) = some ((fe.set 1 (iI 0)).set 2 (iI ((off k 1 + (fxp k 1).length : Nat) : Int))) := sI (i := 2) (by simp; omega) (by simp; omega)
      rw [hs2, Option.bind_some, OK_bind]
      have hMF : MF k 1 A2 ((fe.set 1 (iI 0)).set 2 (iI ((off k 1 + (fxp k 1).length : Nat) : Int))) := by
        refine ⟨hG.1, by simp [hfe], fun j j1 j2 => ?_, fun j j1 j2 => ?_⟩
        · rcases (show j = 1 ∨ j = 2 by omega) with rfl | rfl
          · exact st1 (st0 (by omega)) (by omega)
          · rw [st0 (by simp; omega), fxp_len, off_succ (Nat.le_refl _)]
        · rw [show j = 1 by omega]; exact hG.2.2.1
      refine (sizesM hN hd hMF h16).mono ?_
      rintro ⟨w1, w2, w3, w4, w5, w6⟩ ⟨hw, hw16⟩
      simp only at hw hw16 ⊢
      rw [OK_bind]
      refine (flagsM hN hd hw hfl hw16 h16h him).mono ?_
      rintro ⟨y1, y2, y3, y4, y5, y6, y7, y8, y9, y10⟩ ⟨c1, c2, c3, c4⟩
      rw [OK_some]
      exact ⟨c2, c3, c4, rfl, c1⟩
    rw [Option.bind_some]
    by_cases e1 : k = 1
    · rw [if_pos (by rw [e1]; rfl), OK_bind]
      have hi1 := hS1.ins hN hk (Nat.le_refl _) h8 (NF1 hk (Or.inr ⟨e1, rfl⟩)) rfl
      rw [p1] at hi1
      refine OK.mono hi1 ?_
      rintro ⟨w2, A2⟩ ⟨S2, hS2, ew2, hsub, hin2⟩
      simp only at hS2 ew2 hin2 ⊢
      subst ew2
      have hfull := hS2.full hk (Nat.le_refl _) h8 (fun Y hY hYl => by
        obtain ⟨t, ht, rfl⟩ := NF1_of hY hYl
        rcases ht with rfl | ⟨_, rfl⟩
        · rw [p0]; exact hsub _ hin1
        · rw [p1]; exact hin2)
      subst hfull
      exact rest hS2
    · rw [if_neg (by rw [li1]; exact iI_eqF (by omega) (by omega) (by omega) (by omega) (by omega))]
      have hfull := hS1.full hk (Nat.le_refl _) h8 (fun Y hY hYl => by
        obtain ⟨t, ht, rfl⟩ := NF1_of hY hYl
        rcases ht with rfl | ⟨h, _⟩
        · rw [p0]; exact hin1
        · exact absurd h e1)
      subst hfull
      exact rest hS1
end
