/-! the reference's fixed figures -/
section
variable {N k n : Nat} {X Y : List Cl} {S : List Nat} {A : List Int64} {fr d q r t fe : List Int32}
def MG (k n : Nat) (S : List Nat) (A : List Int64) : Prop := A.length = 1200 ∧ (∀ j, 1 ≤ j → j < n → SEG A (off k j) (fxp k j)) ∧ SEG A (off k n) S ∧ Asc S ∧ ∀ y ∈ S, ∃ X, NF k X ∧ X.length = n ∧ pck X = y
theorem MG.room (hk : k < 3) (h1 : 1 ≤ n) (h2 : n ≤ gre k) (h : MG k n S A) : off k n + S.length ≤ 1080 := by
  have := part_le hk h1 h2 (h.2.2.2.1.imp (fun h => Nat.ne_of_lt h)) h.2.2.2.2
  have := (off_bd hk h1 h2).1
  omega
theorem MG.ins (hN : 2000 ≤ N) (hk : k < 3) (h1 : 1 ≤ n) (h2 : n ≤ gre k) (h : MG k n S A) (hY : NF k Y) (hYl : Y.length = n) : OK (f_X12_puts N (lN (pck Y)) (iI (off k n : Nat)) (iI ((off k n + S.length : Nat) : Int)) A) (fun u => ∃ S', MG k n S' u.2 ∧ u.1 = iI ((off k n + S'.length : Nat) : Int) ∧ (∀ y ∈ S, y ∈ S') ∧ pck Y ∈ S') := by
  have hroom := h.room hk h1 h2
  have h8 := gre_le (k := k)
  obtain ⟨a2, a5, a6, a7, a8⟩ := h
  refine (putsM hN a2 a6 a7 (fun y hy => ?_) (hY.lt63 (by omega)) (by omega)).mono ?_
  · obtain ⟨X, x1, x2, rfl⟩ := a8 y hy
    exact x1.lt63 (by omega)
  · rintro ⟨w, A'⟩ ⟨S', i1, i3, i5, i6, i7⟩
    simp only at i3 i6 i7
    refine ⟨S', ⟨i5.trans a2, fun j j1 j2 i x hx => ?_, i6, i1.1, fun y hy => ?_⟩, i3, fun y hy => (i1.2 y).mpr (Or.inr hy), (i1.2 _).mpr (Or.inl rfl)⟩
    · have hlt := lt_of_get hx
      rw [fxp_len] at hlt
      have := off_le (k := k) j1 j2
      rw [i7 _ (by omega)]
      exact a5 j j1 j2 i x hx
    · rcases (i1.2 y).mp hy with rfl | hy
      · exact ⟨Y, hY, hYl, rfl⟩
      · exact a8 y hy
theorem MG.full (hk : k < 3) (h1 : 1 ≤ n) (h2 : n ≤ gre k) (h : MG k n S A) (hall : ∀ Y, NF k Y → Y.length = n → pck Y ∈ S) : S = fxp k n := by
  refine asc_uniq h.2.2.2.1 (fxp_asc hk h1 h2) (fun y => ?_)
  rw [fxp_mem hk h1 h2]
  exact ⟨fun hy => h.2.2.2.2 y hy, fun ⟨X, x1, x2, x3⟩ => by rw [← x3]; exact hall X x1 x2⟩
theorem growsM {D : Nat} (hN : 2000 ≤ N) (hd : DK k d) (hD : dg k = D) (h0 : 0 < D) (hD6 : D ≤ 6) (hX : NF k X) (hXl : X.length + 1 = n) (h2 : n ≤ gre k) (h : MG k n S A) (h16 : L16 q r t) {m : Int32} :
    OK (f_X12_grows N (lN (pck X)) (iI n) (iI (off k n : Nat)) (iI ((off k n + S.length : Nat) : Int)) d m q r t A) (fun w => (∃ S', MG k n S' w.2.2.2.2.2 ∧ w.1 = iI ((off k n + S'.length : Nat) : Int) ∧ (∀ y ∈ S, y ∈ S') ∧ ∀ u ∈ X, ∀ c, adj k u c → c ∉ X → pck (nrm (X ++ [c])) ∈ S') ∧ L16 w.2.2.1 w.2.2.2.1 w.2.2.2.2.1) := by
  have hk := hX.1.1
  have h8 := gre_le (k := k)
  have hb := hX.b8 (by omega)
  have hnD : X.length * D ≤ 42 := Nat.le_trans (Nat.mul_le_mul (show X.length ≤ 7 by omega) hD6) (by decide)
  unfold f_X12_grows
  rw [OK_bind]
  refine OK.mono (Q := fun w => (∃ S', MG k n S' w.2.2.2.2.2 ∧ w.1 = iI ((off k n + S'.length : Nat) : Int) ∧ (∀ y ∈ S, y ∈ S') ∧ ∀ u ∈ X, ∀ c, adj k u c → c ∉ X → pck (nrm (X ++ [c])) ∈ S') ∧ L16 w.2.2.1 w.2.2.2.1 w.2.2.2.2.1) ?_ (fun w hw => by rw [OK_some]; exact hw)
  refine zlp7 (X.length * D) (fun j w z m q r t A => z = iI j ∧ L16 q r t ∧ ∃ S', MG k n S' A ∧ w = iI ((off k n + S'.length : Nat) : Int) ∧ (∀ y ∈ S, y ∈ S') ∧ ∀ a u e, X[a]? = some u → e < D → a * D + e < j → nb k u (e : Nat) ∉ X → pck (nrm (X ++ [nb k u (e : Nat)])) ∈ S') ?_ N 0 _ _ _ _ _ _ _ (by omega) (by omega) ⟨rfl, h16, S, h, rfl, fun y hy => hy, fun a u e _ _ hlt => by omega⟩
  rintro fu j w z m q r t A hj ⟨rfl, h16, S', hS, rfl, hsub, hdn⟩ ih
  have e1 : iI (n : Int) - 1 = iI (X.length : Int) := by rw [li1, iI_sub]; congr 1; omega
  rw [f_X12_grows_L7, mDir hd, Option.bind_some, hD, e1, iI_mul]
  rcases Nat.lt_or_ge j (X.length * D) with g | g
  · have hjd : j / D < X.length := Nat.div_lt_of_lt_mul (by rw [Nat.mul_comm]; exact g)
    have hjm := Nat.mod_lt j h0
    have hdm := Nat.div_add_mod j D
    obtain ⟨u, hu⟩ := gL hjd
    have hum := List.mem_of_getElem? hu
    have hjl := Nat.div_le_self j D
    have e3 : (j : Int) / (D : Int) = ((j / D : Nat) : Int) := rfl
    have e4 : (j : Int) % (D : Int) = ((j % D : Nat) : Int) := rfl
    have hlt : (j : Int) < (X.length : Int) * (D : Int) := by rw [← Int.natCast_mul]; omega
    have hub := hb u hum
    -- a step that is done
    have done : ∀ {S2 : List Nat}, (∀ y ∈ S', y ∈ S2) → (nb k u ((j % D : Nat) : Int) ∉ X → pck (nrm (X ++ [nb k u ((j % D : Nat) : Int)])) ∈ S2) → ∀ a v e, X[a]? = some v → e < D → a * D + e < j + 1 → nb k v (e : Nat) ∉ X → pck (nrm (X ++ [nb k v (e : Nat)])) ∈ S2 := by
      intro S2 hs2 hlast a v e ha he hl hno
      rcases Nat.lt_or_ge (a * D + e) j with g1 | g1
      · exact hs2 _ (hdn a v e ha he g1 hno)
      · have hj2 : j = e + a * D := by omega
        have hae : a = j / D ∧ e = j % D := by
          rw [hj2, Nat.add_mul_div_right _ _ h0, Nat.add_mul_mod_self_right, Nat.div_eq_of_lt he, Nat.mod_eq_of_lt he]
          omega
        rw [hae.1, hu] at ha
        cases ha
        rw [hae.2] at hno ⊢
        exact hlast hno
    rw [if_pos (iI_ltT hlt (by omega) (by rw [← Int.natCast_mul]; omega)), OK_bind]
    refine (mFigure (k := k) (by omega) (hX.kk (by omega)) (hX.inB (by omega)) h16.1 h16.2.1 h16.2.2).mono ?_
    rintro ⟨m2, q2, r2, t2⟩ ⟨em, hmr⟩
    simp only at em hmr ⊢
    subst em
    rw [Option.bind_some, if_neg (by rw [li0]; exact iI_eqF (by omega) (by omega) (by omega) (by omega) (by omega)), Option.bind_some, if_neg (by rw [li0]; exact iI_eqF (by omega) (by omega) (by omega) (by omega) (by omega)), iI_rem (by omega) (by omega) (by omega) (by omega), iI_div (by omega) (by omega) (by omega) (by omega), e3, e4, OK_bind]
    have hok := nb_ok (k := k) (a := u) ⟨hub.1, by omega, by omega, by omega, by omega⟩ ((j % D : Nat) : Int)
    refine (mAdds hmr hd (by omega) hX.1.ok (by omega) hu hub.1 (by omega) hok).mono ?_
    rintro ⟨x1, x2, x3, x4, x5⟩ hx
    simp only at hx ⊢
    rcases hx with ⟨hin, rfl, rfl, hm2⟩ | ⟨hno, rfl, rfl, hm2⟩
    case inr =>
      have hadd := hX.add (by omega) hum ⟨j % D, by omega, rfl⟩ hno
      have hokX : ∀ x ∈ X ++ [nb k u ((j % D : Nat) : Int)], ok32 x := hadd.2.2.ld.ok
      have hll : (X ++ [nb k u ((j % D : Nat) : Int)]).length = n := by simp; omega
      rw [if_neg (by decide), OK_bind]
      refine (mSet hm2 (by omega) (by simp) hokX hadd.2.2.fg.ok).mono ?_
      rintro ⟨y1, y2, y3⟩ hm3
      simp only at hm3 ⊢
      have hpk := mPacks (N := N) hm3 (by omega) (hadd.1.kk (by omega))
      rw [nrm_len] at hpk
      rw [hpk, Option.bind_some, OK_bind]
      refine (hS.ins hN hk (by omega) h2 hadd.1 (by rw [hadd.2.1]; omega)).mono ?_
      rintro ⟨z1, z2⟩ ⟨S2, hS2, ez, hs2, hin2⟩
      simp only at hS2 ez ⊢
      subst ez
      rw [iI_succ]
      exact ih g _ _ _ _ _ _ _ ⟨rfl, hm3.len, S2, hS2, rfl, fun y hy => hs2 y (hsub y hy), done hs2 (fun _ => hin2)⟩
    case inl =>
      rw [if_pos rfl, iI_succ]
      exact ih g _ _ _ _ _ _ _ ⟨rfl, hm2.len, S', hS, rfl, hsub, done (fun y hy => hy) (fun hno => absurd hin hno)⟩
  · have e0 : j = X.length * D := by omega
    subst e0
    rw [if_neg (iI_ltF (by rw [← Int.natCast_mul]; omega) (by rw [← Int.natCast_mul]; omega) (by omega)), OK_some]
    refine ⟨⟨S', hS, rfl, hsub, ?_⟩, h16⟩
    rintro u hu c ⟨e, he, rfl⟩ hc
    obtain ⟨a, ha⟩ := List.mem_iff_getElem?.mp hu
    refine hdn a u e ha (by omega) ?_ hc
    have h1 := lt_of_get ha
    have h3 : (a + 1) * D ≤ X.length * D := Nat.mul_le_mul_right _ h1
    rw [Nat.add_mul] at h3
    omega
theorem sizeM (hN : 2000 ≤ N) (hd : DK k d) (h1 : 1 ≤ n) (h2 : n + 1 ≤ gre k) (h : MG k (n + 1) [] A) (h16 : L16 q r t) {m : Int32} :
    OK (f_X12_builds_L93 N (iI ((n + 1 : Nat) : Int)) (iI (off k (n + 1) : Nat)) d N (iI (off k (n + 1) : Nat)) (iI (off k n : Nat)) m q r t A) (fun w => MG k (n + 1) (fxp k (n + 1)) w.2.2.2.2.2 ∧ w.1 = iI (off k (n + 2) : Nat) ∧ L16 w.2.2.1 w.2.2.2.1 w.2.2.2.2.1) := by
  have hk := hd.1
  have h8 := gre_le (k := k)
  have hX : ∀ X, X ∈ fxl k n ↔ (NF k X ∧ X.length = n) := (fxl_ok hk h1 (by omega)).2
  have hbd := (off_bd hk h1 (by omega : n ≤ gre k)).2.1
  have hle : off k n + (fxl k n).length = off k (n + 1) := (off_succ h1).symm
  refine zlp7 (fxl k n).length (fun i w z m q r t A => z = iI ((off k n + i : Nat) : Int) ∧ L16 q r t ∧ ∃ S, MG k (n + 1) S A ∧ w = iI ((off k (n + 1) + S.length : Nat) : Int) ∧ ∀ X ∈ (fxl k n).take i, ∀ u ∈ X, ∀ c, adj k u c → c ∉ X → pck (nrm (X ++ [c])) ∈ S) ?_ N 0 _ _ _ _ _ _ _ (by omega) (by omega) ⟨rfl, h16, [], h, rfl, fun X hX => by simp at hX⟩
  rintro fu i w z m q r t A hi ⟨rfl, h16, S, hS, rfl, hdn⟩ ih
  rw [f_X12_builds_L93]
  rcases Nat.lt_or_ge i (fxl k n).length with g | g
  · obtain ⟨X, hXi⟩ := gL g
    have hXm := List.mem_of_getElem? hXi
    obtain ⟨hNF, hXl⟩ := (hX X).mp hXm
    have hpk : (fxp k n)[i]? = some (pck X) := by unfold fxp; rw [List.getElem?_map, hXi]; rfl
    have hAl := hS.1
    rw [if_pos (iI_ltT (by omega) (by omega) (by omega)), gI (hS.2.1 n h1 (by omega) i _ hpk) (by omega), Option.bind_some, OK_bind]
    refine (growsM (n := n + 1) hN hd rfl (by have := dg_3 hk; omega) dg_le hNF (by omega) h2 hS h16).mono ?_
    rintro ⟨w1, w2, w3, w4, w5, w6⟩ ⟨⟨S2, hS2, ew, hsub2, hin⟩, hw16⟩
    simp only at hS2 ew hw16 ⊢
    subst ew
    rw [iI_succ]
    refine ih g _ _ _ _ _ _ _ ⟨rfl, hw16, S2, hS2, rfl, fun Y hY u hu c hc1 hc2 => ?_⟩
    rw [List.take_succ_eq_append_getElem g] at hY
    rcases List.mem_append.mp hY with hY | hY
    · exact hsub2 _ (hdn Y hY u hu c hc1 hc2)
    · have e : Y = X := by
        rw [List.mem_singleton.mp hY]
        exact (List.getElem?_eq_some_iff.mp hXi).2
      subst e
      exact hin u hu c hc1 hc2
  · have e0 : i = (fxl k n).length := by omega
    subst e0
    rw [if_neg (iI_ltF (by omega) (by omega) (by omega)), OK_some]
    rw [List.take_length] at hdn
    have hfull := hS.full hk (by omega) h2 (fun Y hY hYl => by
      obtain ⟨m, rfl⟩ := Nat.exists_eq_add_of_le' h1
      obtain ⟨X, u, c, x1, x2, x3, x4, x5, rfl⟩ := hY.from hYl (by omega)
      exact hdn X ((hX X).mpr ⟨x1, x2⟩) u x3 c x4 x5)
    subst hfull
    refine ⟨hS, ?_, h16⟩
    rw [fxp_len, off_succ (n := n + 1) (by omega)]
/-- the reference's rows up to size n -/
def MF (k n : Nat) (A : List Int64) (fe : List Int32) : Prop := A.length = 1200 ∧ fe.length = 11 ∧ (∀ j, 1 ≤ j → j ≤ n + 1 → fe[j]? = some (iI (off k j : Nat))) ∧ ∀ j, 1 ≤ j → j ≤ n → SEG A (off k j) (fxp k j)
theorem sizesM (hN : 2000 ≤ N) (hd : DK k d) (h : MF k 1 A fe) (h16 : L16 q r t) {m : Int32} :
    OK (f_X12_builds_L66 N d N 2 m q r t A fe) (fun w => MF k (gre k) w.2.2.2.2.1 w.2.2.2.2.2 ∧ L16 w.2.1 w.2.2.1 w.2.2.2.1) := by
  have hk := hd.1
  have h8 := gre_le (k := k)
  have hg2 : 2 ≤ gre k := by unfold gre; split <;> (try split) <;> omega
  refine zlp7 (gre k - 1) (fun i z m q r t A fe => z = iI ((i + 2 : Nat) : Int) ∧ L16 q r t ∧ MF k (i + 1) A fe) ?_ N 0 _ _ _ _ _ _ _ (by omega) (by omega) ⟨rfl, h16, h⟩
  rintro fu i z m q r t A fe hi ⟨rfl, h16, hM⟩ ih
  rw [f_X12_builds_L66, mGre hd, Option.bind_some]
  obtain ⟨a1, a2, a3, a4⟩ := hM
  rcases Nat.lt_or_ge i (gre k - 1) with g | g
  · have e1 : iI ((i + 2 : Nat) : Int) - 1 = iI ((i + 1 : Nat) : Int) := by rw [li1, iI_sub]; congr 1; omega
    have hg1 : z_get fe (iI ((i + 2 : Nat) : Int)) = some (iI (off k (i + 2) : Nat)) := gI (a3 (i + 2) (by omega) (by omega)) (by omega)
    have hg2 : z_get fe (iI ((i + 1 : Nat) : Int)) = some (iI (off k (i + 1) : Nat)) := gI (a3 (i + 1) (by omega) (by omega)) (by omega)
    rw [if_neg (iI_ltF (by omega) (by omega) (by omega)), hg1, Option.bind_some, e1, hg2, Option.bind_some, OK_bind]
    refine (sizeM (n := i + 1) hN hd (by omega) (by omega) ⟨a1, fun j j1 j2 => a4 j j1 (by omega), fun i x hx => by simp at hx, List.Pairwise.nil, fun y hy => by simp at hy⟩ h16).mono ?_
    rintro ⟨w1, w2, w3, w4, w5, w6⟩ ⟨hw, ew, hw16⟩
    simp only at hw ew hw16 ⊢
    subst ew
    rw [iI_succ, sI (by omega) (by omega), Option.bind_some]
    refine ih g _ _ _ _ _ _ _ ⟨rfl, hw16, hw.1, by simp [a2], fun j j1 j2 => ?_, fun j j1 j2 => ?_⟩
    · rcases Nat.lt_or_ge j (i + 3) with g1 | g1
      · exact st1 (a3 j j1 (by omega)) (by omega)
      · rw [show j = i + 3 by omega]; exact st0 (by omega)
    · rcases Nat.lt_or_ge j (i + 2) with g1 | g1
      · exact hw.2.1 j j1 g1
      · rw [show j = i + 2 by omega]; exact hw.2.2.1
  · have e0 : i + 1 = gre k := by omega
    rw [if_pos (iI_ltT (by omega) (by omega) (by omega)), OK_some]
    rw [e0] at a3 a4
    exact ⟨⟨a1, a2, a3, a4⟩, h16⟩
end
