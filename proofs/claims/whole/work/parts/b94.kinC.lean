/-! the class's relatives -/
section
variable {N k m : Nat} {L X B : List Cl} {c u : Cl} {F : List Nat} {fo : List Int64} {J T ic bc ec w : List Int32} {s bs es mn is ws nn : Int32} {mf : Nat → List Int32 × Int32}
/-- border cells of a form -/
def Bo (k : Nat) (X : List Cl) (c : Cl) : Prop := c ∉ X ∧ ∃ u ∈ X, adj k u c
theorem Bo.rng (hX : NF k X) (hl : X.length ≤ 7) (h : Bo k X c) : okT k c.2.2 ∧ -1 ≤ c.1 ∧ c.1 ≤ 9 ∧ -1 ≤ c.2.1 ∧ c.2.1 ≤ 9 := by
  obtain ⟨_, u, hu, e⟩ := h
  have hb := hX.b8 (by omega) u hu
  have q1 := adj_q e
  have q2 := adj_r e
  exact ⟨okT_adj e hb.1, by omega, by omega, by omega, by omega⟩
theorem Bo.ok (hX : NF k X) (hl : X.length ≤ 7) (h : Bo k X c) : ok32 c := by
  have h1 := h.rng hX hl
  have h2 := okT_rng h1.1
  exact ⟨by omega, by omega, by omega, by omega, h2.1, h2.2⟩
theorem fbD (hN : 2000 ≤ N) (hX : NF k X) (hl : X.length ≤ 7) (hJ : X.length + J.length = 12) {i : Nat} (hu : X[i]? = some u) (hB : CE 48 B bc bs) (hBn : B.Nodup) (hBl : B.length ≤ m) (hm : m ≤ 42) (hBb : ∀ c ∈ B, Bo k X c) :
    OK (f_X5_findBorder_L31 N (iI i) (iI (gT k u.2.2)) (X.map cI ++ J) (iI X.length) k N 0 bc bs) (fun w => ∃ B', CE 48 B' w.1 w.2 ∧ B'.Nodup ∧ B'.length ≤ m + dg k ∧ (∀ c ∈ B', Bo k X c) ∧ (∀ x ∈ B, x ∈ B') ∧ ∀ c, adj k u c → c ∉ X → c ∈ B') := by
  have hk := hX.1.1
  have hdk := dg_le (k := k)
  have hum := List.mem_of_getElem? hu
  have hil := lt_of_get hu
  have hub := hX.b8 (by omega) u hum
  have hgc : (X.map cI ++ J)[(i : Int).toNat]? = some (cI u) := by rw [Int.toNat_natCast]; exact rc_get? hu
  have hCE : CE 12 X (X.map cI ++ J) (iI X.length) := ⟨J, rfl, by simp; omega, rfl⟩
  refine zlp3 (dg k) (fun e z bc bs => z = iI e ∧ ∃ B', CE 48 B' bc bs ∧ B'.Nodup ∧ B'.length ≤ m + e ∧ (∀ c ∈ B', Bo k X c) ∧ (∀ x ∈ B, x ∈ B') ∧ ∀ d, d < e → nb k u d ∉ X → nb k u d ∈ B') ?_ N 0 _ _ _ (by omega) (by omega) ⟨rfl, B, hB, hBn, hBl, hBb, fun x hx => hx, fun d hd => by omega⟩
  rintro fu e z bc bs he ⟨rfl, B', hB', hn', hl', hb', hsub, hdn⟩ ih
  rw [f_X5_findBorder_L31, zdeg_eq]
  rcases Nat.lt_or_ge e (dg k) with g | g
  · have ok := hX.1.ok u hum
    have hne := neighbour_eq (N := N) (q := u.1) (d := (e : Int)) hk hub.1 (by omega) (by omega)
    have hne2 := neighbour_eq (N := N) (q := u.2.1) (d := (e : Int)) hk hub.1 (by omega) (by omega)
    have hok : ok32 (nb k u e) := nb_ok ⟨hub.1, by omega, by omega, by omega, by omega⟩ e
    rw [if_pos (iI_ltT (by omega) (by omega) (by omega)), qAt_eq (by omega) (by omega) (by omega) hgc ok, Option.bind_some, tAt_eq (by omega) (by omega) (by omega) hgc ok, Option.bind_some, hne.1, Option.bind_some, rAt_eq (by omega) (by omega) (by omega) hgc ok, Option.bind_some, Option.bind_some, hne2.2, Option.bind_some, iI_succ, OK_bind]
    have hf := find_CE (N := N) (c := nb k u e) (by omega) hCE (by omega) hX.1.ok hok
    refine OK.mono hf ?_
    rintro v (⟨hno, rfl⟩ | ⟨j, hj, rfl⟩)
    · rw [if_pos (by rw [li0]; exact iI_ltT (by omega) (by omega) (by omega)), OK_bind]
      have hBo : Bo k X (nb k u e) := ⟨hno, u, hum, e, g, rfl⟩
      have hf2 := find_CE (N := N) (c := nb k u e) (by omega) hB' (by omega) (fun x hx => (hb' x hx).ok hX hl) hok
      refine OK.mono hf2 ?_
      rintro v (⟨hno2, rfl⟩ | ⟨j, hj, rfl⟩)
      · obtain ⟨J', rfl, h2, rfl⟩ := hB'
        obtain ⟨j0, J2, rfl⟩ := List.exists_cons_of_ne_nil (show J' ≠ [] by intro e; rw [e] at h2; simp at h2; omega)
        have hadd := add_eq (N := N) (L := B') (J := J2) (c := nb k u e) (x := j0) (by simp at h2; omega)
        rw [if_pos (by rw [li0]; exact iI_ltT (by omega) (by omega) (by omega)), show f_X2_add N (iI (u.1 + gQ k u.2.2 e)) (iI (u.2.1 + gR k u.2.2 e)) (iI (gT k u.2.2)) (B'.map cI ++ j0 :: J2) (iI B'.length) = _ from hadd, Option.bind_some]
        refine ih g _ _ _ ⟨rfl, B' ++ [nb k u e], ⟨J2, rfl, by simp at h2 ⊢; omega, rfl⟩, nd_add hn' hno2, by simp; omega, fun c hc => ?_, fun x hx => List.mem_append_left _ (hsub x hx), fun d hd1 hd2 => ?_⟩
        · rcases List.mem_append.mp hc with hc | hc
          · exact hb' c hc
          · rw [List.mem_singleton.mp hc]; exact hBo
        · rcases Nat.lt_or_ge d e with g1 | g1
          · exact List.mem_append_left _ (hdn d g1 hd2)
          · rw [show d = e by omega]; simp
      · have hjl := lt_of_get hj
        rw [if_neg (by rw [li0]; exact iI_ltF (by omega) (by omega) (by omega))]
        refine ih g _ _ _ ⟨rfl, B', hB', hn', by omega, hb', hsub, fun d hd1 hd2 => ?_⟩
        rcases Nat.lt_or_ge d e with g1 | g1
        · exact hdn d g1 hd2
        · rw [show d = e by omega]; exact List.mem_of_getElem? hj
    · have hjl := lt_of_get hj
      rw [if_neg (by rw [li0]; exact iI_ltF (by omega) (by omega) (by omega))]
      refine ih g _ _ _ ⟨rfl, B', hB', hn', by omega, hb', hsub, fun d hd1 hd2 => ?_⟩
      rcases Nat.lt_or_ge d e with g1 | g1
      · exact hdn d g1 hd2
      · rw [show d = e by omega] at hd2; exact absurd (List.mem_of_getElem? hj) hd2
  · have e0 : e = dg k := by omega
    subst e0
    rw [if_neg (iI_ltF (by omega) (by omega) (by omega)), OK_some]
    refine ⟨B', hB', hn', hl', hb', hsub, ?_⟩
    rintro c ⟨d, hd, rfl⟩ hc
    exact hdn d hd hc
theorem fbC (hN : 2000 ≤ N) (hX : NF k X) (hl : X.length ≤ 7) (hJ : X.length + J.length = 12) (hbc : bc.length = 48) :
    OK (f_X5_findBorder N (X.map cI ++ J) (iI X.length) k bc) (fun w => ∃ B, CE 48 B w.1 w.2 ∧ B.Nodup ∧ B.length ≤ 42 ∧ ∀ c, c ∈ B ↔ Bo k X c) := by
  have hdk := dg_le (k := k)
  unfold f_X5_findBorder f_X2_clear
  rw [Option.bind_some, OK_bind]
  refine OK.mono (Q := fun w => ∃ B, CE 48 B w.1 w.2 ∧ B.Nodup ∧ B.length ≤ 42 ∧ ∀ c, c ∈ B ↔ Bo k X c) ?_ (fun w hw => by rw [OK_some]; exact hw)
  refine zlp3 X.length (fun i z bc bs => z = iI i ∧ ∃ B, CE 48 B bc bs ∧ B.Nodup ∧ B.length ≤ i * 6 ∧ (∀ c ∈ B, Bo k X c) ∧ ∀ u ∈ X.take i, ∀ c, adj k u c → c ∉ X → c ∈ B) ?_ N 0 _ _ _ (by omega) (by omega) ⟨rfl, [], ⟨bc, rfl, hbc, rfl⟩, List.nodup_nil, by simp, fun c hc => by simp at hc, fun u hu => by simp at hu⟩
  rintro fu i z bc bs hi ⟨rfl, B, hB, hn, hbl, hb, hdn⟩ ih
  rw [f_X5_findBorder_L9]
  rcases Nat.lt_or_ge i X.length with g | g
  · obtain ⟨u, hu⟩ := gL g
    have hum := List.mem_of_getElem? hu
    have hgc : (X.map cI ++ J)[(i : Int).toNat]? = some (cI u) := by rw [Int.toNat_natCast]; exact rc_get? hu
    rw [if_pos (iI_ltT (by omega) (by omega) (by omega)), tAt_eq (by omega) (by omega) (by omega) hgc (hX.1.ok u hum), Option.bind_some, neighbourT_eq (hX.1.2.2.2.2 u hum).1, Option.bind_some, OK_bind]
    refine (fbD hN hX hl hJ hu hB hn hbl (by omega) hb).mono ?_
    rintro ⟨w1, w2⟩ ⟨B2, hB2, hn2, hl2, hb2, hsub, hin⟩
    simp only at hB2 ⊢
    rw [iI_succ]
    refine ih g _ _ _ ⟨rfl, B2, hB2, hn2, by omega, hb2, fun x hx c hc1 hc2 => ?_⟩
    rw [tk_next hu] at hx
    rcases List.mem_append.mp hx with hx | hx
    · exact hsub c (hdn x hx c hc1 hc2)
    · rw [List.mem_singleton.mp hx] at hc1; exact hin c hc1 hc2
  · have e0 : i = X.length := by omega
    subst e0
    rw [if_neg (iI_ltF (by omega) (by omega) (by omega)), OK_some]
    rw [List.take_length] at hdn
    exact ⟨B, hB, hn, by omega, fun c => ⟨hb c, fun ⟨h1, u, h2, h3⟩ => hdn u h2 c h3 h1⟩⟩
theorem addC (hN : 2000 ≤ N) (hX : NF k X) (hl : X.length ≤ 7) (hJ : X.length + J.length = 12) (hbc : bc.length = 48) (hec : ec.length = 12) (hfo : fo.length = 48) (hsi : SI ic mf) :
    OK (f_X5_byAdding N fo (X.map cI ++ J) (iI X.length) k bc ec es mn ic is mf) (fun w => (∃ F, FS (S0 k X) F ∧ w.1 = iI F.length) ∧ w.2.1.length = 48 ∧ w.2.2.2.1.length = 48 ∧ w.2.2.2.2.2.1.length = 12 ∧ SI w.2.2.2.2.2.2.2.2.1 w.2.2.2.2.2.2.2.2.2.2) := by
  unfold f_X5_byAdding
  rw [OK_bind]
  refine (fbC hN hX hl hJ hbc).mono ?_
  rintro ⟨bc2, bs2⟩ ⟨B, hB, hBn, hBl, hBb⟩
  obtain ⟨J', hJ1, hJ2, hJ3⟩ := hB
  simp only at hJ1 hJ2 hJ3 ⊢
  rw [hJ3, OK_bind]
  have hCE : CE 12 X (X.map cI ++ J) (iI X.length) := ⟨J, rfl, by simp; omega, rfl⟩
  refine OK.mono (Q := fun w => (∃ F, FS (S0 k X) F ∧ w.2.1 = iI F.length) ∧ w.1.length = 48 ∧ w.2.2.1.length = 12 ∧ SI w.2.2.2.2.2.1 w.2.2.2.2.2.2.2) ?_ ?_
  · refine zlp9 B.length (fun i z fo nn ec es mn ic is mf => z = iI i ∧ ec.length = 12 ∧ SI ic mf ∧ ∃ F, NT F 48 fo ∧ nn = iI F.length ∧ F.length ≤ i ∧ ∀ y, y ∈ F ↔ ∃ c ∈ B.take i, y = pck (can k (nrm (X ++ [c])))) ?_ N 0 _ _ _ _ _ _ _ _ _ (by omega) (by omega) ⟨rfl, hec, hsi, [], ⟨List.nodup_nil, fun y hy => by simp at hy, hfo, fun i x hx => by simp at hx⟩, rfl, by simp, fun y => by simp⟩
    rintro fu i z fo nn ec es mn ic is mf hi ⟨rfl, hec, hsi, F, hF, rfl, hFl, hFm⟩ ih
    rw [f_X5_byAdding_L13]
    rcases Nat.lt_or_ge i B.length with g | g
    · obtain ⟨c, hc⟩ := gL g
      have hcm := List.mem_of_getElem? hc
      have hBo := (hBb c).mp hcm
      have hr := hBo.rng hX hl
      have hok := hBo.ok hX hl
      have hg : bc2[(i : Int).toNat]? = some (cI c) := by rw [Int.toNat_natCast, hJ1]; exact rc_get? hc
      obtain ⟨u, hu, he⟩ := hBo.2
      have hadd := hX.add (by omega) hu he hBo.1
      obtain ⟨h1, h2, h3⟩ := unpack_n (N := N) (T := ec) (n := X.length + 1) (by omega) hadd.1 (by omega) hadd.2.1 hec
      rw [if_pos (iI_ltT (by omega) (by omega) (by omega)), qAt_eq (by omega) (by omega) (by omega) hg hok, Option.bind_some, rAt_eq (by omega) (by omega) (by omega) hg hok, Option.bind_some, tAt_eq (by omega) (by omega) (by omega) hg hok, Option.bind_some, packW (by omega) hX hl ⟨hr.2.1, hr.2.2.1, hr.2.2.2.1, hr.2.2.2.2⟩ hr.1, Option.bind_some, iI_succ, h1, Option.bind_some, OK_bind]
      refine (noteC hN hF (by omega) hadd.1.1.sm (by rw [hadd.2.1]; omega) h2 hsi).mono ?_
      rintro ⟨w1, w2, w3, w4, w5, w6⟩ ⟨o1, F', o2, o3, o4, o5⟩
      simp only at o1 o2 o3 ⊢
      rw [iI_succ]
      refine ih g _ _ _ _ _ _ _ _ _ ⟨rfl, h3, o1, F', o2, o3, by omega, fun y => ?_⟩
      rw [o5, hFm, tk_next hc]
      constructor
      · rintro (rfl | ⟨x, hx, rfl⟩)
        · exact ⟨c, by simp, rfl⟩
        · exact ⟨x, List.mem_append_left _ hx, rfl⟩
      · rintro ⟨x, hx, rfl⟩
        rcases List.mem_append.mp hx with hx | hx
        · exact Or.inr ⟨x, hx, rfl⟩
        · rw [List.mem_singleton.mp hx]; exact Or.inl rfl
    · have e0 : i = B.length := by omega
      subst e0
      rw [if_neg (iI_ltF (by omega) (by omega) (by omega)), OK_some]
      rw [List.take_length] at hFm
      refine ⟨⟨F, ⟨hF.1, fun y => ?_⟩, rfl⟩, hF.2.2.1, hec, hsi⟩
      rw [hFm]
      constructor
      · rintro ⟨c, hc, rfl⟩
        obtain ⟨h1, u, h2, h3⟩ := (hBb c).mp hc
        exact ⟨u, c, h2, h3, h1, rfl⟩
      · rintro ⟨u, c, h1, h2, h3, rfl⟩
        exact ⟨c, (hBb c).mpr ⟨h3, u, h1, h2⟩, rfl⟩
  · rintro ⟨w1, w2, w3, w4, w5, w6, w7, w8⟩ ⟨o1, o2, o3, o4⟩
    rw [OK_some]
    exact ⟨o1, o2, hJ2, o3, o4⟩
theorem remC (hN : 2000 ≤ N) (hX : NF k X) (hl : X.length ≤ 7) (hJ : X.length + J.length = 12) (hec : ec.length = 12) (hfo : fo.length = 48) (hsi : SI ic mf) :
    OK (f_X5_byRemoving N fo (X.map cI ++ J) (iI X.length) k ec es mn ic is mf) (fun w => (∃ F, FS (S1 k X) F ∧ w.1 = iI F.length) ∧ w.2.1.length = 48 ∧ w.2.2.2.1.length = 12 ∧ SI w.2.2.2.2.2.2.1 w.2.2.2.2.2.2.2.2) := by
  have hk := hX.1.1
  have hCE : CE 12 X (X.map cI ++ J) (iI X.length) := ⟨J, rfl, by simp; omega, rfl⟩
  have hpos : 0 < X.length := List.length_pos_iff.mpr hX.1.2.1.1
  obtain ⟨z0, hz0⟩ := gL (show X.length - 1 < X.length by omega)
  have hsm := hX.1.sm
  unfold f_X5_byRemoving
  rw [OK_bind]
  refine OK.mono (Q := fun w => (∃ F, FS (S1 k X) F ∧ w.2.1 = iI F.length) ∧ w.1.length = 48 ∧ w.2.2.1.length = 12 ∧ SI w.2.2.2.2.2.1 w.2.2.2.2.2.2.2) ?_ (fun w hw => by rw [OK_some]; exact ⟨hw.1, hw.2.1, hw.2.2.1, hw.2.2.2⟩)
  refine zlp9 X.length (fun i z fo nn ec es mn ic is mf => z = iI i ∧ ec.length = 12 ∧ SI ic mf ∧ ∃ F, NT F 48 fo ∧ nn = iI F.length ∧ F.length ≤ i ∧ ∀ y, y ∈ F ↔ ∃ j, j < i ∧ Conn k ((X.set j z0).take (X.length - 1)) ∧ y = pck (can k ((X.set j z0).take (X.length - 1)))) ?_ N 0 _ _ _ _ _ _ _ _ _ (by omega) (by omega) ⟨rfl, hec, hsi, [], ⟨List.nodup_nil, fun y hy => by simp at hy, hfo, fun i x hx => by simp at hx⟩, rfl, by simp, fun y => ⟨fun h => by simp at h, fun ⟨j, hj, _⟩ => by omega⟩⟩
  rintro fu i z fo nn ec es mn ic is mf hi ⟨rfl, hec, hsi, F, hF, rfl, hFl, hFm⟩ ih
  rw [f_X5_byRemoving_L7]
  rcases Nat.lt_or_ge i X.length with g | g
  · obtain ⟨c, hc⟩ := gL g
    obtain ⟨K, hcp, hK⟩ := copy_CE (N := N) (T := ec) (n := 12) (by omega) hec hCE (by omega) (by omega)
    have hCE2 : CE 12 X (X.map cI ++ K) (iI X.length) := ⟨K, rfl, by simp; omega, rfl⟩
    obtain ⟨T', s', hr, hCE3, hs'⟩ := remove_CE (N := N) hCE2 (by omega) g hz0
    have hwo := rm_wo hX.1.2.2.1 hc hz0
    have hlen : ((X.set i z0).take (X.length - 1)).length = X.length - 1 := by rw [List.length_take, List.length_set]; omega
    have hLd : Ld k ((X.set i z0).take (X.length - 1)) := ⟨hk, hwo.1, by omega, fun x hx => by
      have h1 := hX.1.2.2.2.2 x ((hwo.2 x).mp hx).1
      exact ⟨h1.1, by omega, by omega, by omega, by omega⟩⟩
    obtain ⟨K2, hK1, hK2, hK3⟩ := hCE3
    have hcon := areConnected_eq (N := N) (J := K2) (by omega) hLd
    rw [← hK1, ← hK3] at hcon
    have hT12 : T'.length = 12 := hK2
    rw [if_pos (iI_ltT (by omega) (by omega) (by omega)), hcp, Option.bind_some, hr, Option.bind_some, OK_bind]
    refine OK.mono hcon ?_
    have iff : ∀ {F' : List Nat} {P : Prop}, (∀ y, y ∈ F' ↔ ((P ∧ y = pck (can k ((X.set i z0).take (X.length - 1)))) ∨ y ∈ F)) → (P ↔ Conn k ((X.set i z0).take (X.length - 1))) → ∀ y, y ∈ F' ↔ ∃ j, j < i + 1 ∧ Conn k ((X.set j z0).take (X.length - 1)) ∧ y = pck (can k ((X.set j z0).take (X.length - 1))) := fun {F' P} hF' hP y => by
      rw [hF', hFm]
      constructor
      · rintro (⟨h1, rfl⟩ | ⟨j, h1, h2, h3⟩)
        · exact ⟨i, by omega, hP.mp h1, rfl⟩
        · exact ⟨j, by omega, h2, h3⟩
      · rintro ⟨j, h1, h2, h3⟩
        rcases Nat.lt_or_ge j i with g1 | g1
        · exact Or.inr ⟨j, g1, h2, h3⟩
        · have e : j = i := by omega
          subst e
          exact Or.inl ⟨hP.mpr h2, h3⟩
    rintro v (⟨hC, rfl⟩ | ⟨hC, rfl⟩)
    · rw [if_neg (show ¬ (1 : Int32) = 0 by decide), OK_bind]
      have hsM := sub_sm hsm hwo.1 (fun x hx => ((hwo.2 x).mp hx).1) (by omega) hC
      refine (noteC hN hF (by omega) hsM (by omega) ⟨K2, hK1, hK2, hK3⟩ hsi).mono ?_
      rintro ⟨w1, w2, w3, w4, w5, w6⟩ ⟨o1, F', o2, o3, o4, o5⟩
      simp only at o1 o2 o3 ⊢
      rw [iI_succ]
      exact ih g _ _ _ _ _ _ _ _ _ ⟨rfl, hT12, o1, F', o2, o3, by omega, iff (P := True) (fun y => by rw [o5, true_and]) (by simp [hC])⟩
    · rw [if_pos rfl, iI_succ]
      exact ih g _ _ _ _ _ _ _ _ _ ⟨rfl, hT12, hsi, F, hF, rfl, by omega, iff (P := False) (fun y => by rw [false_and, false_or]) (by simp [hC])⟩
  · have e0 : i = X.length := by omega
    subst e0
    rw [if_neg (iI_ltF (by omega) (by omega) (by omega)), OK_some]
    refine ⟨⟨F, ⟨hF.1, fun y => ?_⟩, rfl⟩, hF.2.2.1, hec, hsi⟩
    rw [hFm]
    constructor
    · rintro ⟨j, h1, h2, rfl⟩
      obtain ⟨c, hc⟩ := gL h1
      exact ⟨c, _, List.mem_of_getElem? hc, rm_wo hX.1.2.2.1 hc hz0, h2, rfl⟩
    · rintro ⟨c, M, h1, h2, h3, rfl⟩
      obtain ⟨j, hj⟩ := List.mem_iff_getElem?.mp h1
      have hwo := rm_wo hX.1.2.2.1 hj hz0
      have hp : M.Perm ((X.set j z0).take (X.length - 1)) := (List.perm_ext_iff_of_nodup h2.1 hwo.1).mpr (fun x => (h2.2 x).trans (hwo.2 x).symm)
      exact ⟨j, lt_of_get hj, (conn_perm hp).mp h3, by rw [S1_ex (y := 0) hsm h3 h1 h2 hwo]⟩
/-- what relatives must answer -/
def RelV (k : Nat) (L : List Cl) (a : Int) (x : Int32) : Prop := (¬ (0 ≤ a ∧ a ≤ 1) → x = -1) ∧ (0 ≤ a ∧ a ≤ 1 → (¬ Conn k L ∨ 7 < L.length) → x = -2) ∧ (0 ≤ a ∧ a ≤ 1 → Conn k L → L.length ≤ 7 → ∃ F, FS (if a = 0 then S0 k L else S1 k L) F ∧ x = iI F.length)
theorem RelV.uniq {a : Int} {x y : Int32} (h1 : RelV k L a x) (h2 : RelV k L a y) : x = y := by
  by_cases g : 0 ≤ a ∧ a ≤ 1
  · by_cases hC : ¬ Conn k L ∨ 7 < L.length
    · rw [h1.2.1 g hC, h2.2.1 g hC]
    · have hC' : Conn k L := Classical.byContradiction (fun h => hC (Or.inl h))
      have hl : L.length ≤ 7 := by
        rcases Nat.lt_or_ge 7 L.length with g | g
        · exact absurd (Or.inr g) hC
        · exact g
      obtain ⟨F, f1, f2⟩ := h1.2.2 g hC' hl
      obtain ⟨F', f3, f4⟩ := h2.2.2 g hC' hl
      rw [f2, f4, f1.uniq f3]
  · rw [h1.1 g, h2.1 g]
theorem c_relatives (hN : 5000 ≤ N) (hD : Dr k L) (hL : CE 12 L T s) (hw : w.length = 12) (hsi : SI ic mf) (hfo : fo.length = 48) (hbc : bc.length = 48) (hec : ec.length = 12) {a : Int} (a1 : -2147483648 ≤ a ∧ a < 2147483648) :
    OK (f_X11_relatives N (iI a) k T s w ws mn ic is fo nn bc bs ec es mf) (fun u => RelV k L a u.1 ∧ u.2.1.length = 12 ∧ SI u.2.2.2.2.1 u.2.2.2.2.2.2.2.2.2.2.2.2 ∧ u.2.2.2.2.2.2.1.length = 48 ∧ u.2.2.2.2.2.2.2.2.1.length = 48 ∧ u.2.2.2.2.2.2.2.2.2.2.1.length = 12) := by
  have hk := hD.1
  have hL12 := hD.2.2.1
  have hs : s = iI L.length := by obtain ⟨J, _, _, h3⟩ := hL; exact h3
  unfold f_X11_relatives
  by_cases g : a < 0
  · rw [if_pos (by rw [li0]; exact iI_ltT g a1.1 (by omega)), OK_some]
    exact ⟨⟨fun _ => rfl, fun h => by omega, fun h => by omega⟩, hw, hsi, hfo, hbc, hec⟩
  rw [if_neg (by rw [li0]; exact iI_ltF g (by omega) a1.2)]
  by_cases g' : 1 < a
  · rw [if_pos (by rw [li1]; exact iI_ltT g' (by omega) a1.2), OK_some]
    exact ⟨⟨fun _ => rfl, fun h => by omega, fun h => by omega⟩, hw, hsi, hfo, hbc, hec⟩
  rw [if_neg (by rw [li1]; exact iI_ltF g' a1.1 (by omega))]
  have ga : 0 ≤ a ∧ a ≤ 1 := by omega
  rcases Nat.lt_or_ge 7 L.length with g7 | g7
  · rw [if_pos (by rw [hs, li7]; exact iI_ltT (by omega) (by omega) (by omega)), OK_some]
    exact ⟨⟨fun h => absurd ga h, fun _ _ => rfl, fun _ _ h => by omega⟩, hw, hsi, hfo, hbc, hec⟩
  rw [if_neg (by rw [hs, li7]; exact iI_ltF (by omega) (by omega) (by omega)), OK_bind]
  refine (figC (by omega) hD hL).mono (fun u hu => ?_)
  rcases hu with ⟨hC, rfl⟩ | ⟨hC, rfl⟩
  case inr =>
    rw [if_pos rfl, OK_some]
    exact ⟨⟨fun h => absurd ga h, fun _ _ => rfl, fun _ h => absurd h hC⟩, hw, hsi, hfo, hbc, hec⟩
  have hSm := hD.sm hC
  have hNF := nrm_NF hSm.fg
  obtain ⟨J, hcp, hJ⟩ := copy_CE (N := N) (by omega) hw hL hL12 (by omega)
  rw [if_neg (show ¬ (1 : Int32) = 0 by decide), hcp, Option.bind_some, normalise_eq (by omega) (by omega) hD.ld.ok hSm.fg.ok, Option.bind_some]
  have hW12 : ((nrm L).map cI ++ J).length = 12 := by simp [nrm_len]; omega
  have hJ' : (nrm L).length + J.length = 12 := by rw [nrm_len]; exact hJ
  have hn7 : (nrm L).length ≤ 7 := by rw [nrm_len]; exact g7
  have fin : ∀ {x : Int32}, (∃ F, FS (if a = 0 then S0 k L else S1 k L) F ∧ x = iI F.length) → RelV k L a x := fun h => ⟨fun h' => absurd ga h', fun _ h' => by
    rcases h' with h' | h'
    · exact absurd hC h'
    · omega, fun _ _ _ => h⟩
  by_cases ga0 : a = 0
  · have c0 : iI a = 0 := by rw [ga0]; rfl
    have hadd := addC (N := N) (mn := mn) (is := is) (es := es) (by omega) hNF hn7 hJ' hbc hec hfo hsi
    rw [nrm_len] at hadd
    rw [if_pos c0, if_pos hk, OK_bind]
    refine OK.mono hadd ?_
    rintro ⟨w1, w2, w3, w4, w5, w6, w7, w8, w9, w10, w11⟩ ⟨⟨F, o1, o2⟩, o3, o4, o5, o6⟩
    simp only at o2 o3 o4 o5 o6
    rw [OK_some]
    refine ⟨fin ⟨F, ?_, o2⟩, hW12, o6, o3, o4, o5⟩
    rw [if_pos ga0]
    have hb9 : ∀ x ∈ L, -13 ≤ x.1 ∧ x.1 ≤ 13 ∧ -13 ≤ x.2.1 ∧ x.2.1 ≤ 13 := fun x hx => by
      obtain ⟨h1, h2, h3, h4, _⟩ := hD.2.2.2 x hx
      omega
    have hb9' : ∀ x ∈ nrm L, -13 ≤ x.1 ∧ x.1 ≤ 13 ∧ -13 ≤ x.2.1 ∧ x.2.1 ≤ 13 := fun x hx => by
      obtain ⟨_, h1, h2, h3, h4⟩ := hNF.1.2.2.2.2 x hx
      omega
    exact ⟨o1.1, fun y => (o1.2 y).trans (S0_sft (nrm_sm hSm) hb9' hb9 hSm (by omega) nrm_perm y)⟩
  · have c0 : ¬ iI a = 0 := by rw [li0]; exact iI_eqF ga0 a1.1 a1.2 (by omega) (by omega)
    have hrem := remC (N := N) (mn := mn) (is := is) (es := es) (by omega) hNF hn7 hJ' hec hfo hsi
    rw [nrm_len] at hrem
    rw [if_neg c0, if_pos hk, OK_bind]
    refine OK.mono hrem ?_
    rintro ⟨w1, w2, w3, w4, w5, w6, w7, w8, w9⟩ ⟨⟨F, o1, o2⟩, o3, o4, o5⟩
    simp only at o2 o3 o4 o5
    rw [OK_some]
    refine ⟨fin ⟨F, ?_, o2⟩, hW12, o5, o3, hbc, o4⟩
    rw [if_neg ga0]
    exact ⟨o1.1, fun y => (o1.2 y).trans (S1_sft (nrm_sm hSm) hSm nrm_perm y)⟩
end
