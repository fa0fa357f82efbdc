/-! the class's fixed figures -/
section
variable {N k n j : Nat} {X Y : List Cl} {S : List Nat} {A : List Int64} {st fc J : List Int32} {fs fb : Int32} {u c : Cl}
theorem off_le (h1 : 1 ≤ j) : ∀ {n : Nat}, j < n → off k j + (fxl k j).length ≤ off k n
  | 0, h => by omega
  | n + 1, h => by
    rw [off_succ (show 1 ≤ n by omega)]
    rcases Nat.lt_or_ge j n with g | g
    · have := off_le h1 g; omega
    · have e : j = n := by omega
      subst e; omega
theorem fxp_len : (fxp k n).length = (fxl k n).length := by unfold fxp; rw [List.length_map]
def GB (k n : Nat) (S : List Nat) (st : List Int32) (A : List Int64) : Prop := st.length = 10 ∧ A.length = 1100 ∧ (∀ j, 1 ≤ j → j ≤ n → st[j]? = some (iI (off k j : Nat))) ∧ st[n + 1]? = some (iI ((off k n + S.length : Nat) : Int)) ∧ (∀ j, 1 ≤ j → j < n → SEG A (off k j) (fxp k j)) ∧ SEG A (off k n) S ∧ Asc S ∧ ∀ y ∈ S, ∃ X, NF k X ∧ X.length = n ∧ pck X = y
theorem GB.room (hk : k < 3) (h1 : 1 ≤ n) (h2 : n ≤ gre k) (h : GB k n S st A) : off k n + S.length ≤ 1080 := by
  have := part_le hk h1 h2 (h.2.2.2.2.2.2.1.imp (fun h => Nat.ne_of_lt h)) h.2.2.2.2.2.2.2
  have := (off_bd hk h1 h2).1
  omega
theorem NF.lt63 (h : NF k X) (hl : X.length ≤ 8) : pck X < 2 ^ 63 := pck_lt (h.kk hl)
theorem GB.ins (hN : 2000 ≤ N) (hk : k < 3) (h1 : 1 ≤ n) (h2 : n ≤ gre k) (h : GB k n S st A) (hY : NF k Y) (hYl : Y.length = n) : OK (f_X1_insertFixed N (iI n) (lN (pck Y)) st A) (fun u => ∃ S', GB k n S' u.1 u.2 ∧ (∀ y ∈ S, y ∈ S') ∧ pck Y ∈ S') := by
  have hroom := h.room hk h1 h2
  have h8 := gre_le (k := k)
  obtain ⟨a1, a2, a3, a4, a5, a6, a7, a8⟩ := h
  refine (insF hN a2 a1 (by omega) (a3 n h1 (Nat.le_refl _)) a4 a6 a7 (fun y hy => ?_) (hY.lt63 (by omega)) (by omega)).mono ?_
  · obtain ⟨X, x1, x2, rfl⟩ := a8 y hy
    exact x1.lt63 (by omega)
  · rintro ⟨st', A'⟩ ⟨S', i1, i2, i3, i4, i5, i6, i7⟩
    simp only at i2 i3 i4 i5 i6 i7
    refine ⟨S', ⟨i2, i5.trans a2, fun j j1 j2 => ?_, i3, fun j j1 j2 i x hx => ?_, i6, i1.1, fun y hy => ?_⟩, fun y hy => (i1.2 y).mpr (Or.inr hy), (i1.2 _).mpr (Or.inl rfl)⟩
    · rw [i4 j (by omega)]; exact a3 j j1 j2
    · have hlt := lt_of_get hx
      rw [fxp_len] at hlt
      have := off_le (k := k) j1 j2
      rw [i7 _ (by omega)]
      exact a5 j j1 j2 i x hx
    · rcases (i1.2 y).mp hy with rfl | hy
      · exact ⟨Y, hY, hYl, rfl⟩
      · exact a8 y hy
theorem growD (hN : 2000 ≤ N) (hX : NF k X) (hXl : X.length + 1 = n) (h2 : n ≤ gre k) (hJ : X.length + J.length = 12) {i : Nat} (hu : X[i]? = some u) (h : GB k n S st A) :
    OK (f_X1_growFigure_L32 N (iI n) (iI i) (iI (gT k u.2.2)) k (X.map cI ++ J) (iI X.length) N 0 st A) (fun w => ∃ S', GB k n S' w.1 w.2 ∧ (∀ y ∈ S, y ∈ S') ∧ ∀ c, adj k u c → c ∉ X → pck (nrm (X ++ [c])) ∈ S') := by
  have hk := hX.1.1
  have h8 := gre_le (k := k)
  have hdk := dg_le (k := k)
  have hum := List.mem_of_getElem? hu
  have hil := lt_of_get hu
  have hpos := lt_of_get hu
  have hub := hX.b8 (by omega) u hum
  have hgc : (X.map cI ++ J)[(i : Int).toNat]? = some (cI u) := by rw [Int.toNat_natCast]; exact rc_get? hu
  have hCE : CE 12 X (X.map cI ++ J) (iI X.length) := ⟨J, rfl, by simp; omega, rfl⟩
  refine zlp3 (dg k) (fun e z st A => z = iI e ∧ ∃ S', GB k n S' st A ∧ (∀ y ∈ S, y ∈ S') ∧ ∀ d, d < e → nb k u d ∉ X → pck (nrm (X ++ [nb k u d])) ∈ S') ?_ N 0 _ _ _ (by omega) (by omega) ⟨rfl, S, h, fun y hy => hy, fun d hd => by omega⟩
  rintro fu e z st A he ⟨rfl, S', hS, hsub, hdn⟩ ih
  rw [f_X1_growFigure_L32, zdeg_eq]
  rcases Nat.lt_or_ge e (dg k) with g | g
  · have ok := hX.1.ok u hum
    have hne := neighbour_eq (N := N) (q := u.1) (d := (e : Int)) hk hub.1 (by omega) (by omega)
    have hne2 := neighbour_eq (N := N) (q := u.2.1) (d := (e : Int)) hk hub.1 (by omega) (by omega)
    rw [if_pos (iI_ltT (by omega) (by omega) (by omega)), qAt_eq (by omega) (by omega) (by omega) hgc ok, Option.bind_some, tAt_eq (by omega) (by omega) (by omega) hgc ok, Option.bind_some, hne.1, Option.bind_some, rAt_eq (by omega) (by omega) (by omega) hgc ok, Option.bind_some, Option.bind_some, hne2.2, Option.bind_some, iI_succ, OK_bind]
    have q1 := gQ_rng k u.2.2 e
    have q2 := gR_rng k u.2.2 e
    have hok : ok32 (nb k u e) := nb_ok ⟨hub.1, by omega, by omega, by omega, by omega⟩ e
    have hf := find_CE (N := N) (c := nb k u e) (by omega) hCE (by omega) hX.1.ok hok
    refine OK.mono hf ?_
    rintro v (⟨hno, rfl⟩ | ⟨j, hj, rfl⟩)
    · rw [if_pos (by rw [li0]; exact iI_ltT (by omega) (by omega) (by omega))]
      have hpw := packW (N := N) (J := J) (c := nb k u e) (by omega) hX (by omega) ⟨by show -1 ≤ u.1 + gQ k u.2.2 e; omega, by show u.1 + gQ k u.2.2 e ≤ 9; omega, by show -1 ≤ u.2.1 + gR k u.2.2 e; omega, by show u.2.1 + gR k u.2.2 e ≤ 9; omega⟩ (okT_nb hub.1)
      rw [show f_X2_packedWith N (iI (u.1 + gQ k u.2.2 e)) (iI (u.2.1 + gR k u.2.2 e)) (iI (gT k u.2.2)) (X.map cI ++ J) (iI X.length) = _ from hpw, Option.bind_some, OK_bind]
      have hadd := hX.add (by omega) hum ⟨e, g, rfl⟩ hno
      refine (hS.ins hN hk (by omega) h2 hadd.1 (by rw [hadd.2.1]; exact hXl)).mono ?_
      rintro ⟨w1, w2⟩ ⟨S2, hS2, hsub2, hin⟩
      simp only at hS2 ⊢
      refine ih g _ _ _ ⟨rfl, S2, hS2, fun y hy => hsub2 y (hsub y hy), fun d hd1 hd2 => ?_⟩
      rcases Nat.lt_or_ge d e with g1 | g1
      · exact hsub2 _ (hdn d g1 hd2)
      · rw [show d = e by omega]; exact hin
    · have := lt_of_get hj
      rw [if_neg (by rw [li0]; exact iI_ltF (by omega) (by omega) (by omega))]
      refine ih g _ _ _ ⟨rfl, S', hS, hsub, fun d hd1 hd2 => ?_⟩
      rcases Nat.lt_or_ge d e with g1 | g1
      · exact hdn d g1 hd2
      · rw [show d = e by omega] at hd2; exact absurd (List.mem_of_getElem? hj) hd2
  · have e0 : e = dg k := by omega
    subst e0
    rw [if_neg (iI_ltF (by omega) (by omega) (by omega)), OK_some]
    refine ⟨S', hS, hsub, ?_⟩
    rintro c ⟨d, hd, rfl⟩ hc
    exact hdn d hd hc
theorem growF (hN : 2000 ≤ N) (hX : NF k X) (hXl : X.length + 1 = n) (h2 : n ≤ gre k) (hJ : X.length + J.length = 12) (h : GB k n S st A) :
    OK (f_X1_growFigure N (iI n) st k A (X.map cI ++ J) (iI X.length)) (fun w => ∃ S', GB k n S' w.1 w.2 ∧ (∀ y ∈ S, y ∈ S') ∧ ∀ u ∈ X, ∀ c, adj k u c → c ∉ X → pck (nrm (X ++ [c])) ∈ S') := by
  have h8 := gre_le (k := k)
  unfold f_X1_growFigure
  rw [OK_bind]
  refine OK.mono (Q := fun w => ∃ S', GB k n S' w.1 w.2 ∧ (∀ y ∈ S, y ∈ S') ∧ ∀ u ∈ X, ∀ c, adj k u c → c ∉ X → pck (nrm (X ++ [c])) ∈ S') ?_ (fun w hw => by rw [OK_some]; exact hw)
  refine zlp3 X.length (fun i z st A => z = iI i ∧ ∃ S', GB k n S' st A ∧ (∀ y ∈ S, y ∈ S') ∧ ∀ u ∈ X.take i, ∀ c, adj k u c → c ∉ X → pck (nrm (X ++ [c])) ∈ S') ?_ N 0 _ _ _ (by omega) (by omega) ⟨rfl, S, h, fun y hy => hy, fun u hu => by simp at hu⟩
  rintro fu i z st A hi ⟨rfl, S', hS, hsub, hdn⟩ ih
  rw [f_X1_growFigure_L2]
  rcases Nat.lt_or_ge i X.length with g | g
  · obtain ⟨u, hu⟩ := gL g
    have hum := List.mem_of_getElem? hu
    have hgc : (X.map cI ++ J)[(i : Int).toNat]? = some (cI u) := by rw [Int.toNat_natCast]; exact rc_get? hu
    rw [if_pos (iI_ltT (by omega) (by omega) (by omega)), tAt_eq (by omega) (by omega) (by omega) hgc (hX.1.ok u hum), Option.bind_some, neighbourT_eq (hX.1.2.2.2.2 u hum).1, Option.bind_some, OK_bind]
    refine (growD hN hX hXl h2 hJ hu hS).mono ?_
    rintro ⟨w1, w2⟩ ⟨S2, hS2, hsub2, hin⟩
    simp only at hS2 ⊢
    rw [iI_succ]
    refine ih g _ _ _ ⟨rfl, S2, hS2, fun y hy => hsub2 y (hsub y hy), fun x hx c hc1 hc2 => ?_⟩
    rw [tk_next hu] at hx
    rcases List.mem_append.mp hx with hx | hx
    · exact hsub2 _ (hdn x hx c hc1 hc2)
    · rw [List.mem_singleton.mp hx] at hc1; exact hin c hc1 hc2
  · have e0 : i = X.length := by omega
    subst e0
    rw [if_neg (iI_ltF (by omega) (by omega) (by omega)), OK_some]
    rw [List.take_length] at hdn
    exact ⟨S', hS, hsub, hdn⟩
/-- all sizes up to b stand -/
def CF (k b : Nat) (st : List Int32) (A : List Int64) : Prop := b ≤ gre k ∧ st.length = 10 ∧ A.length = 1100 ∧ (∀ j, 1 ≤ j → j ≤ b + 1 → st[j]? = some (iI (off k j : Nat))) ∧ ∀ j, 1 ≤ j → j ≤ b → SEG A (off k j) (fxp k j)
theorem CF.gb (hk : k < 3) (h : CF k n st A) (h2 : n + 1 ≤ gre k) : GB k (n + 1) [] (st.set (n + 2) (iI (off k (n + 1) : Nat))) A := by
  obtain ⟨a0, a1, a2, a3, a4⟩ := h
  have h8 := gre_le (k := k)
  refine ⟨by simp [a1], a2, fun j j1 j2 => ?_, ?_, fun j j1 j2 => a4 j j1 (by omega), fun i x hx => by simp at hx, List.Pairwise.nil, fun y hy => by simp at hy⟩
  · exact st1 (a3 j j1 (by omega)) (by omega)
  · exact st0 (by omega)
theorem GB.cf (h2 : n ≤ gre k) (h1 : 1 ≤ n) (h : GB k n (fxp k n) st A) : CF k n st A := by
  obtain ⟨a1, a2, a3, a4, a5, a6, a7, a8⟩ := h
  refine ⟨h2, a1, a2, fun j j1 j2 => ?_, fun j j1 j2 => ?_⟩
  · rcases Nat.lt_or_ge n j with g | g
    · have e : j = n + 1 := by omega
      subst e
      rw [a4, off_succ h1, fxp_len]
    · exact a3 j j1 g
  · rcases Nat.lt_or_ge j n with g | g
    · exact a5 j j1 g
    · have e : j = n := by omega
      subst e; exact a6
theorem GB.full (hk : k < 3) (h1 : 1 ≤ n) (h2 : n ≤ gre k) (h : GB k n S st A) (hall : ∀ Y, NF k Y → Y.length = n → pck Y ∈ S) : S = fxp k n := by
  refine asc_uniq h.2.2.2.2.2.2.1 (fxp_asc hk h1 h2) (fun y => ?_)
  rw [fxp_mem hk h1 h2]
  exact ⟨fun hy => h.2.2.2.2.2.2.2 y hy, fun ⟨X, x1, x2, x3⟩ => by rw [← x3]; exact hall X x1 x2⟩
theorem growI (hN : 2000 ≤ N) (hk : k < 3) (h1 : 1 ≤ n) (h2 : n + 1 ≤ gre k) (hfc : fc.length = 12) (h : GB k (n + 1) [] st A) :
    OK (f_X1_growInto N (iI ((n + 1 : Nat) : Int)) st k A fc fs) (fun w => CF k (n + 1) w.1 w.2.1 ∧ w.2.2.1.length = 12) := by
  have h8 := gre_le (k := k)
  have hX : ∀ X, X ∈ fxl k n ↔ (NF k X ∧ X.length = n) := (fxl_ok hk h1 (by omega)).2
  have hbd := (off_bd hk h1 (by omega : n ≤ gre k)).2.1
  unfold f_X1_growInto
  have e1 : iI ((n + 1 : Nat) : Int) - 1 = iI (n : Int) := by rw [li1, iI_sub]; congr 1; omega
  have hg1 : st[n]? = some (iI (off k n : Nat)) := h.2.2.1 n h1 (by omega)
  have hg2 : st[n + 1]? = some (iI (off k (n + 1) : Nat)) := h.2.2.1 (n + 1) (by omega) (Nat.le_refl _)
  have hsl := h.1
  have hle : off k n + (fxl k n).length = off k (n + 1) := (off_succ h1).symm
  rw [e1, gI hg1 (by omega), Option.bind_some, gI hg2 (by omega), Option.bind_some, show (1100 : Int32) = iI 1100 from rfl, if_neg (iI_ltF (by omega) (by omega) (by omega)), li0, if_neg (iI_ltF (by omega) (by omega) (by omega)), OK_bind]
  refine OK.mono (Q := fun w => CF k (n + 1) w.1 w.2.1 ∧ w.2.2.1.length = 12) ?_ (fun w hw => by rw [OK_some]; exact hw)
  refine zlp5 (fxl k n).length (fun i z st A fc fs => z = iI ((off k n + i : Nat) : Int) ∧ fc.length = 12 ∧ ∃ S, GB k (n + 1) S st A ∧ ∀ X ∈ (fxl k n).take i, ∀ u ∈ X, ∀ c, adj k u c → c ∉ X → pck (nrm (X ++ [c])) ∈ S) ?_ N 0 _ _ _ _ _ (by omega) (by omega) ⟨rfl, hfc, [], h, fun X hX => by simp at hX⟩
  rintro fu i z st A fc fs hi ⟨rfl, hfc, S, hS, hdn⟩ ih
  rw [f_X1_growInto_L29]
  rcases Nat.lt_or_ge i (fxl k n).length with g | g
  · obtain ⟨X, hXi⟩ := gL g
    have hXm := List.mem_of_getElem? hXi
    obtain ⟨hNF, hXl⟩ := (hX X).mp hXm
    have hpk : (fxp k n)[i]? = some (pck X) := by unfold fxp; rw [List.getElem?_map, hXi]; rfl
    have hAl := hS.2.1
    rw [if_pos (iI_ltT (by omega) (by omega) (by omega)), gI (hS.2.2.2.2.1 n h1 (by omega) i _ hpk) (by omega), Option.bind_some, e1, show iI (n : Int) = iI (X.length : Int) by rw [hXl], unpack_eq (by omega) (hNF.kk (by omega)) (hNF.inB (by omega)) (by omega) (by omega), Option.bind_some, OK_bind]
    have hJ : X.length + (fc.drop X.length).length = 12 := by rw [List.length_drop]; omega
    refine (growF (n := n + 1) hN hNF (by omega) h2 hJ hS).mono ?_
    rintro ⟨w1, w2⟩ ⟨S2, hS2, hsub2, hin⟩
    simp only at hS2 ⊢
    rw [iI_succ]
    refine ih g _ _ _ _ _ ⟨rfl, by simp; omega, S2, hS2, fun Y hY u hu c hc1 hc2 => ?_⟩
    rw [List.take_succ_eq_append_getElem g] at hY
    rcases List.mem_append.mp hY with hY | hY
    · exact hsub2 _ (hdn Y hY u hu c hc1 hc2)
    · have e : Y = X := by
        rw [List.mem_singleton.mp hY]
        exact (List.getElem?_eq_some_iff.mp hXi).2
      subst e
      exact hin u hu c hc1 hc2
  · have e0 : i = (fxl k n).length := by omega
    subst e0
    rw [if_neg (iI_ltF (by omega) (by omega) (by omega)), OK_some]
    rw [List.take_length] at hdn
    have hfull := hS.full hk (by omega) h2 (fun Y hY hYl => by
      obtain ⟨m, rfl⟩ := Nat.exists_eq_add_of_le' h1
      obtain ⟨X, u, c, x1, x2, x3, x4, x5, rfl⟩ := hY.from hYl (by omega)
      exact hdn X ((hX X).mpr ⟨x1, x2⟩) u x3 c x4 x5)
    subst hfull
    exact ⟨hS.cf h2 (by omega), hfc⟩
/-- single cells -/
theorem NF1 (hk : k < 3) {t : Int} (ht : okT k t) : NF k [(0, 0, t)] := by
  refine ⟨⟨hk, ⟨by simp, fun a ha b hb => ?_⟩, by simp, by simp, fun x hx => ?_⟩, List.pairwise_singleton _ _, ⟨_, List.mem_singleton.mpr rfl, rfl⟩, ⟨_, List.mem_singleton.mpr rfl, rfl⟩, fun x hx => ?_⟩
  · rw [List.mem_singleton.mp ha, List.mem_singleton.mp hb]; exact Rc.refl
  · rw [List.mem_singleton.mp hx]
    exact ⟨ht, by show (0 : Int) ≤ 0; omega, by show (0 : Int) ≤ 11; omega, by show (0 : Int) ≤ 0; omega, by show (0 : Int) ≤ 11; omega⟩
  · rw [List.mem_singleton.mp hx]
    exact ⟨by show (0 : Int) < 1; omega, by show (0 : Int) < 1; omega⟩
theorem NF1_of (h : NF k X) (hl : X.length = 1) : ∃ t, okT k t ∧ X = [(0, 0, t)] := by
  obtain ⟨c, rfl⟩ := List.length_eq_one_iff.mp hl
  have h1 := h.1.2.2.2.2 c (by simp)
  have h2 := h.2.2.2.2 c (by simp)
  obtain ⟨q, r, t⟩ := c
  simp only [List.length_singleton] at h1 h2
  have e1 : q = 0 := by omega
  have e2 : r = 0 := by omega
  subst e1 e2
  exact ⟨t, h1.1, rfl⟩
theorem pck1 {t : Nat} (ht : t < 256) : pck [(0, 0, (t : Int))] = t := by
  simp [pck, pkK, ky]
theorem singleC (hN : 2000 ≤ N) (hk : k < 3) (h : GB k 1 [] st A) : OK (f_X1_placeSingleCells N st k A) (fun w => CF k 1 w.1 w.2) := by
  have h8 : 1 ≤ gre k := by unfold gre; split <;> (try split) <;> omega
  have hkin := kin_cases (k := k)
  unfold f_X1_placeSingleCells
  rw [OK_bind]
  refine OK.mono (Q := fun w => CF k 1 w.1 w.2) ?_ (fun w hw => by rw [OK_some]; exact hw)
  refine zlp3 (kin k).toNat (fun i z st A => z = iI i ∧ ∃ S, GB k 1 S st A ∧ ∀ t : Nat, t < i → t ∈ S) ?_ N 0 _ _ _ (by omega) (by omega) ⟨rfl, [], h, fun t ht => by omega⟩
  rintro fu i z st A hi ⟨rfl, S, hS, hdn⟩ ih
  rw [f_X1_placeSingleCells_L2, zkin_eq]
  rcases Nat.lt_or_ge i (kin k).toNat with g | g
  · have ht : okT k (i : Int) := okT_kin.mpr ⟨by omega, by omega⟩
    have hins := hS.ins hN hk (Nat.le_refl _) h8 (NF1 hk ht) rfl
    rw [pck1 (by omega)] at hins
    rw [if_pos (iI_ltT (by omega) (by omega) (by omega)), ← nI_iI, l_ofI32 (by omega), OK_bind]
    refine OK.mono hins ?_
    rintro ⟨w1, w2⟩ ⟨S2, hS2, hsub, hin⟩
    simp only at hS2 ⊢
    rw [nI_iI, iI_succ]
    refine ih g _ _ _ ⟨rfl, S2, hS2, fun t ht => ?_⟩
    rcases Nat.lt_or_ge t i with g1 | g1
    · exact hsub t (hdn t g1)
    · rw [show t = i by omega]; exact hin
  · rw [if_neg (iI_ltF (by omega) (by omega) (by omega)), OK_some]
    have hfull := hS.full hk (Nat.le_refl _) h8 (fun Y hY hYl => by
      obtain ⟨t, ht, rfl⟩ := NF1_of hY hYl
      have hr := okT_kin.mp ht
      obtain ⟨m, rfl⟩ := Int.eq_ofNat_of_zero_le hr.1
      rw [pck1 (by omega)]
      exact hdn m (by omega))
    subst hfull
    exact hS.cf h8 (Nat.le_refl _)
theorem isSizeC {z : Int} (z1 : -2147483648 ≤ z) (z2 : z < 2147483648) : f_X1_isSize N (iI z) k = some (if 1 ≤ z ∧ z ≤ gre k then 1 else 0) := by
  have h8 := gre_le (k := k)
  unfold f_X1_isSize
  rw [zgre_eq, li1, li9]
  by_cases g : z < 1
  · rw [if_pos (iI_ltT g (by omega) (by omega)), if_neg (by omega)]
  rw [if_neg (iI_ltF g (by omega) (by omega))]
  by_cases g2 : (gre k : Int) < z
  · rw [if_pos (iI_ltT g2 (by omega) (by omega)), if_neg (by omega)]
  rw [if_neg (iI_ltF g2 (by omega) (by omega)), if_pos (iI_ltT (by omega) (by omega) (by omega)), if_pos (by omega)]
/-- fixed figures are built up to a size -/
theorem buildC (hN : 2000 ≤ N) (hk : k < 3) {b s : Nat} (hs : s ≤ gre k) (hfc : fc.length = 12) (h : CF k b st A) :
    OK (f_X1_buildFixed N (iI s) st (iI b) k A fc fs) (fun w => ∃ b', CF k b' w.1 w.2.2.1 ∧ w.2.1 = iI b' ∧ s ≤ b' ∧ b ≤ b' ∧ w.2.2.2.1.length = 12) := by
  have h8 := gre_le (k := k)
  unfold f_X1_buildFixed
  rw [OK_bind, iI_succ]
  refine OK.mono (Q := fun w => ∃ b', CF k b' w.1 w.2.2.1 ∧ w.2.1 = iI b' ∧ s ≤ b' ∧ b ≤ b' ∧ w.2.2.2.1.length = 12) ?_ (fun w hw => by rw [OK_some]; exact hw)
  refine zlp6 9 (fun i v st fb A fc fs => ∃ b', b' = b + i ∧ v = iI ((b' + 1 : Nat) : Int) ∧ fb = iI b' ∧ CF k b' st A ∧ fc.length = 12) ?_ N 0 _ _ _ _ _ _ (by omega) (by omega) ⟨b, rfl, rfl, rfl, h, hfc⟩
  rintro fu i v st fb A fc fs hi ⟨b', hb', rfl, rfl, hC, hfc⟩ ih
  have hb8 := hC.1
  rw [f_X1_buildFixed_L7]
  by_cases g : s < b' + 1
  · rw [if_pos (iI_ltT (by omega) (by omega) (by omega)), OK_some]
    exact ⟨b', hC, rfl, by omega, by omega, hfc⟩
  · have hi9 : i < 9 := by omega
    have hsl := hC.2.1
    rw [if_neg (iI_ltF (by omega) (by omega) (by omega)), isSizeC (by omega) (by omega), if_pos (by omega), Option.bind_some, if_neg (by decide), gI (hC.2.2.2.1 (b' + 1) (by omega) (Nat.le_refl _)) (by omega), Option.bind_some, iI_succ, sI (by omega) (by omega), Option.bind_some]
    have hgb := hC.gb hk (by omega)
    by_cases g1 : b' = 0
    · subst g1
      rw [if_pos (by rfl), OK_bind]
      refine (singleC hN hk hgb).mono ?_
      rintro ⟨w1, w2⟩ hw
      exact ih hi9 _ _ _ _ _ _ ⟨0 + 1, by omega, rfl, rfl, hw, hfc⟩
    · rw [if_neg (by rw [li1]; exact iI_eqF (by omega) (by omega) (by omega) (by omega) (by omega)), OK_bind]
      refine (growI hN hk (by omega) (by omega) hfc hgb).mono ?_
      rintro ⟨w1, w2, w3, w4⟩ ⟨hw, hw2⟩
      exact ih hi9 _ _ _ _ _ _ ⟨b' + 1, by omega, rfl, rfl, hw, hw2⟩
end
