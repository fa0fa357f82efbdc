/-! the reference's relatives -/
section
variable {N k : Nat} {L : List Cl} {c u : Cl} {F : List Nat} {so : List Int64} {d q r t ha hb hc im : List Int32} {hn n : Int32}
theorem addSm (hD : Dr k L) (hC : Conn k L) (h7 : L.length ≤ 7) (hu : u ∈ L) (he : adj k u c) (hc : c ∉ L) : Sm k (L ++ [c]) := ⟨hD.1, conn_add hD.1 (fun y hy => (hD.2.2.2 y hy).2.2.2.2) hC hu he, nd_add hD.2.1 hc, by simp; omega, fun x hx => by
  rcases List.mem_append.mp hx with hx | hx
  · obtain ⟨h1, h2, h3, h4, h5⟩ := hD.2.2.2 x hx
    exact ⟨h5, by omega, by omega, by omega, by omega⟩
  · rw [List.mem_singleton.mp hx]
    have q1 := adj_q he
    have q2 := adj_r he
    obtain ⟨h1, h2, h3, h4, h5⟩ := hD.2.2.2 u hu
    exact ⟨okT_adj he h5, by omega, by omega, by omega, by omega⟩⟩
theorem relM0 {D : Nat} (hN : 5000 ≤ N) (hD : Dr k L) (hC : Conn k L) (hd : DR k L d) (h7 : L.length ≤ 7) (hDg : dg k = D) (h0 : 0 < D) (hD6 : D ≤ 6) (hsm : SM q r t ha hb hc im) (hso : so.length = 64) :
    OK (f_X12_relatives_L56 N 0 (iI ((L.length * D : Nat) : Int)) d N 0 0 n q r t ha hb hc hn im so) (fun w => (∃ F, FS (S0 k L) F ∧ w.1 = iI F.length) ∧ SM w.2.2.1 w.2.2.2.1 w.2.2.2.2.1 w.2.2.2.2.2.1 w.2.2.2.2.2.2.1 w.2.2.2.2.2.2.2.1 w.2.2.2.2.2.2.2.2.2.1 ∧ w.2.2.2.2.2.2.2.2.2.2.length = 64) := by
  have hk := hD.1
  have hnD : L.length * D ≤ 42 := Nat.le_trans (Nat.mul_le_mul h7 hD6) (by decide)
  refine zlp12 (L.length * D) (fun j v z n q r t ha hb hc hn im so => z = iI j ∧ SM q r t ha hb hc im ∧ ∃ F, NT F 64 so ∧ v = iI F.length ∧ F.length ≤ j ∧ (∀ y ∈ F, S0 k L y) ∧ ∀ a u e, L[a]? = some u → e < D → a * D + e < j → nb k u (e : Nat) ∉ L → pck (can k (nrm (L ++ [nb k u (e : Nat)]))) ∈ F) ?_ N 0 _ _ _ _ _ _ _ _ _ _ _ _ (by omega) (by omega) ⟨rfl, hsm, [], ⟨List.nodup_nil, fun y hy => by simp at hy, hso, fun i x hx => by simp at hx⟩, rfl, by simp, fun y hy => by simp at hy, fun a u e _ _ h => by omega⟩
  rintro fu j v z n q r t ha hb hc hn im so hj ⟨rfl, hsm, F, hF, rfl, hFl, hFs, hdn⟩ ih
  rw [f_X12_relatives_L56]
  rcases Nat.lt_or_ge j (L.length * D) with g | g
  · have hjd : j / D < L.length := Nat.div_lt_of_lt_mul (by rw [Nat.mul_comm]; exact g)
    have hjm := Nat.mod_lt j h0
    have hdm := Nat.div_add_mod j D
    obtain ⟨u, hu⟩ := gL hjd
    have hum := List.mem_of_getElem? hu
    have hjl := Nat.div_le_self j D
    have e3 : (j : Int) / (D : Int) = ((j / D : Nat) : Int) := rfl
    have e4 : (j : Int) % (D : Int) = ((j % D : Nat) : Int) := rfl
    obtain ⟨b1, b2, b3, b4, b5⟩ := hD.2.2.2 u hum
    have done : ∀ {F2 : List Nat}, (∀ y ∈ F, y ∈ F2) → (nb k u ((j % D : Nat) : Int) ∉ L → pck (can k (nrm (L ++ [nb k u ((j % D : Nat) : Int)]))) ∈ F2) → ∀ a v e, L[a]? = some v → e < D → a * D + e < j + 1 → nb k v (e : Nat) ∉ L → pck (can k (nrm (L ++ [nb k v (e : Nat)]))) ∈ F2 := by
      intro F2 hs2 hlast a v e ha he hl hno
      rcases Nat.lt_or_ge (a * D + e) j with g1 | g1
      · exact hs2 _ (hdn a v e ha he g1 hno)
      · have hj2 : j = e + a * D := by omega
        have hae : a = j / D ∧ e = j % D := by
          rw [hj2, Nat.add_mul_div_right _ _ h0, Nat.add_mul_mod_self_right, Nat.div_eq_of_lt he, Nat.mod_eq_of_lt he]
          omega
        rw [hae.1, hu] at ha
        cases ha
        rw [hae.2] at hno ⊢
        exact hlast hno
    rw [if_pos (iI_ltT (by omega) (by omega) (by omega)), OK_bind]
    refine (mDraft hd hD.2.2.2 (by omega) hsm.1.1 hsm.1.2.1 hsm.1.2.2).mono ?_
    rintro ⟨m2, q2, r2, t2⟩ ⟨em, hmr⟩
    simp only at em hmr ⊢
    subst em
    rw [if_pos trivial, mDir hd.1, Option.bind_some, hDg, if_neg (by rw [li0]; exact iI_eqF (by omega) (by omega) (by omega) (by omega) (by omega)), Option.bind_some, if_neg (by rw [li0]; exact iI_eqF (by omega) (by omega) (by omega) (by omega) (by omega)), iI_rem (by omega) (by omega) (by omega) (by omega), iI_div (by omega) (by omega) (by omega) (by omega), e3, e4, OK_bind]
    have hok := nb_ok (k := k) (a := u) ⟨b5, by omega, by omega, by omega, by omega⟩ ((j % D : Nat) : Int)
    refine (mAdds hmr hd.1 (by omega) hD.ld.ok (by omega) hu b5 (by omega) hok).mono ?_
    rintro ⟨x1, x2, x3, x4, x5⟩ hx
    simp only at hx ⊢
    rcases hx with ⟨hin, rfl, rfl, hm2⟩ | ⟨hno, rfl, rfl, hm2⟩
    case inr =>
      have hS := addSm hD hC h7 hum ⟨j % D, by omega, rfl⟩ hno
      rw [if_neg (show ¬ (1 : Int32) = 0 by decide), OK_bind]
      refine (mSet hm2 (by omega) (by simp) hS.ld.ok hS.fg.ok).mono ?_
      rintro ⟨y1, y2, y3⟩ hm3
      simp only at hm3 ⊢
      have hsN := nrm_sm hS
      have hl8 : (nrm (L ++ [nb k u ((j % D : Nat) : Int)])).length ≤ 8 := by rw [nrm_len]; simp; omega
      have hcn := mCanonical (N := N) (by omega) hsN hl8 hd.1 hm3 hsm.2.1.1 hsm.2.1.2.1 hsm.2.1.2.2 hsm.2.2
      rw [nrm_len] at hcn
      rw [OK_bind]
      refine OK.mono hcn ?_
      rintro ⟨z1, z2, z3, z4, z5, z6, z7, z8, z9, z10⟩ ⟨d1, d2, d3, d4, d5, d6, d7, d8⟩
      simp only at d1 d2 d3 d4 d5 d6 d7 d8 ⊢
      subst d1
      rw [OK_bind]
      refine (noteM (by omega) hF (by omega) (by omega) ((can_NF hsN).lt63 (by rw [can_len]; exact hl8))).mono ?_
      rintro ⟨w1, w2⟩ ⟨F', o2, o3, o4, o5⟩
      simp only at o2 o3 ⊢
      rw [iI_succ]
      refine ih g _ _ _ _ _ _ _ _ _ _ _ _ ⟨rfl, ⟨⟨d2, d3, d4⟩, ⟨d5, d6, d7⟩, d8⟩, F', o2, o3, by omega, fun y hy => ?_, done (fun y hy => (o5 y).mpr (Or.inr hy)) (fun _ => (o5 _).mpr (Or.inl rfl))⟩
      rcases (o5 y).mp hy with rfl | hy
      · exact ⟨u, _, hum, ⟨j % D, by omega, rfl⟩, hno, rfl⟩
      · exact hFs y hy
    case inl =>
      rw [if_pos rfl, iI_succ]
      exact ih g _ _ _ _ _ _ _ _ _ _ _ _ ⟨rfl, ⟨hm2.len, hsm.2⟩, F, hF, rfl, by omega, hFs, done (fun y hy => hy) (fun hno => absurd hin hno)⟩
  · have e0 : j = L.length * D := by omega
    subst e0
    rw [if_neg (iI_ltF (by omega) (by omega) (by omega)), OK_some]
    refine ⟨⟨F, ⟨hF.1, fun y => ⟨hFs y, ?_⟩⟩, rfl⟩, hsm, hF.2.2.1⟩
    rintro ⟨u, c, hu, ⟨e, he, rfl⟩, hc, rfl⟩
    obtain ⟨a, ha⟩ := List.mem_iff_getElem?.mp hu
    refine hdn a u e ha (by omega) ?_ hc
    have h1 := lt_of_get ha
    have h3 : (a + 1) * D ≤ L.length * D := Nat.mul_le_mul_right _ h1
    rw [Nat.add_mul] at h3
    omega
theorem relM1 (hN : 5000 ≤ N) (hD : Dr k L) (hC : Conn k L) (hd : DR k L d) (h7 : L.length ≤ 7) (hsm : SM q r t ha hb hc im) (hso : so.length = 64) :
    OK (f_X12_relatives_L56 N 1 (iI L.length) d N 0 0 n q r t ha hb hc hn im so) (fun w => (∃ F, FS (S1 k L) F ∧ w.1 = iI F.length) ∧ SM w.2.2.1 w.2.2.2.1 w.2.2.2.2.1 w.2.2.2.2.2.1 w.2.2.2.2.2.2.1 w.2.2.2.2.2.2.2.1 w.2.2.2.2.2.2.2.2.2.1 ∧ w.2.2.2.2.2.2.2.2.2.2.length = 64) := by
  have hk := hD.1
  have hSm := hD.sm hC
  have hpos : 0 < L.length := List.length_pos_iff.mpr hC.1
  obtain ⟨z0, hz0⟩ := gL (show L.length - 1 < L.length by omega)
  refine zlp12 L.length (fun i v z n q r t ha hb hc hn im so => z = iI i ∧ SM q r t ha hb hc im ∧ ∃ F, NT F 64 so ∧ v = iI F.length ∧ F.length ≤ i ∧ ∀ y, y ∈ F ↔ ∃ j, j < i ∧ Conn k ((L.set j z0).take (L.length - 1)) ∧ y = pck (can k ((L.set j z0).take (L.length - 1)))) ?_ N 0 _ _ _ _ _ _ _ _ _ _ _ _ (by omega) (by omega) ⟨rfl, hsm, [], ⟨List.nodup_nil, fun y hy => by simp at hy, hso, fun i x hx => by simp at hx⟩, rfl, by simp, fun y => ⟨fun h => by simp at h, fun ⟨j, hj, _⟩ => by omega⟩⟩
  rintro fu i v z n q r t ha hb hc hn im so hi ⟨rfl, hsm, F, hF, rfl, hFl, hFm⟩ ih
  rw [f_X12_relatives_L56]
  rcases Nat.lt_or_ge i L.length with g | g
  · obtain ⟨c, hc⟩ := gL g
    have hwo := rm_wo hD.2.1 hc hz0
    have hlen : ((L.set i z0).take (L.length - 1)).length = L.length - 1 := by rw [List.length_take, List.length_set]; omega
    have hLd : Ld k ((L.set i z0).take (L.length - 1)) := ⟨hk, hwo.1, by omega, fun x hx => by
      obtain ⟨h1, h2, h3, h4, h5⟩ := hD.2.2.2 x ((hwo.2 x).mp hx).1
      exact ⟨h5, by omega, by omega, by omega, by omega⟩⟩
    rw [if_pos (iI_ltT (by omega) (by omega) (by omega)), OK_bind]
    refine (mDraft hd hD.2.2.2 (by omega) hsm.1.1 hsm.1.2.1 hsm.1.2.2).mono ?_
    rintro ⟨m2, q2, r2, t2⟩ ⟨em, hmr⟩
    simp only at em hmr ⊢
    subst em
    have e1 : iI (L.length : Int) - 1 = iI ((L.length - 1 : Nat) : Int) := by rw [li1, iI_sub]; congr 1; omega
    rw [if_neg (show ¬ (1 : Int32) = 0 by decide), e1, OK_bind]
    refine (mExch hmr hc hz0).mono ?_
    rintro ⟨x1, x2, x3⟩ hm2
    simp only at hm2 ⊢
    have hm3 : MR ((L.set i z0).take (L.length - 1)) x1 x2 x3 := by
      refine (hm2.take (L.length - 1)).congr ?_
      refine List.ext_getElem? (fun j => ?_)
      rw [List.getElem?_take, List.getElem?_take]
      by_cases e : j < L.length - 1
      · rw [if_pos e, if_pos e, List.getElem?_set_ne (by omega)]
      · rw [if_neg e, if_neg e]
    have hcon := mConn (N := N) hN hLd hd.1 hm3
    rw [hlen] at hcon
    rw [OK_bind]
    refine OK.mono hcon ?_
    have iff : ∀ {F' : List Nat} {P : Prop}, (∀ y, y ∈ F' ↔ ((P ∧ y = pck (can k ((L.set i z0).take (L.length - 1)))) ∨ y ∈ F)) → (P ↔ Conn k ((L.set i z0).take (L.length - 1))) → ∀ y, y ∈ F' ↔ ∃ j, j < i + 1 ∧ Conn k ((L.set j z0).take (L.length - 1)) ∧ y = pck (can k ((L.set j z0).take (L.length - 1))) := fun {F' P} hF' hP y => by
      rw [hF', hFm]
      constructor
      · rintro (⟨h1, rfl⟩ | ⟨j, h1, h2, h3⟩)
        · exact ⟨i, by omega, hP.mp h1, rfl⟩
        · exact ⟨j, by omega, h2, h3⟩
      · rintro ⟨j, h1, h2, h3⟩
        rcases Nat.lt_or_ge j i with g1 | g1
        · exact Or.inr ⟨j, g1, h2, h3⟩
        · have e : j = i := by omega
          subst e
          exact Or.inl ⟨hP.mpr h2, h3⟩
    rintro v (⟨hCM, rfl⟩ | ⟨hCM, rfl⟩)
    · have hsM := sub_sm hSm hwo.1 (fun x hx => ((hwo.2 x).mp hx).1) (by omega) hCM
      have hset := mSet (N := N) hm3 (by omega) hCM.1 hLd.ok hsM.fg.ok
      rw [hlen] at hset
      rw [if_neg (show ¬ (1 : Int32) = 0 by decide), OK_bind]
      refine OK.mono hset ?_
      rintro ⟨y1, y2, y3⟩ hm4
      simp only at hm4 ⊢
      have hsN := nrm_sm hsM
      have hl8 : (nrm ((L.set i z0).take (L.length - 1))).length ≤ 8 := by rw [nrm_len]; omega
      have hcn := mCanonical (N := N) (by omega) hsN hl8 hd.1 hm4 hsm.2.1.1 hsm.2.1.2.1 hsm.2.1.2.2 hsm.2.2
      rw [nrm_len, hlen, can_nrm hsM] at hcn
      rw [OK_bind]
      refine OK.mono hcn ?_
      rintro ⟨z1, z2, z3, z4, z5, z6, z7, z8, z9, z10⟩ ⟨d1, d2, d3, d4, d5, d6, d7, d8⟩
      simp only at d1 d2 d3 d4 d5 d6 d7 d8 ⊢
      subst d1
      rw [OK_bind]
      refine (noteM (by omega) hF (by omega) (by omega) ((can_NF hsM).lt63 (by rw [can_len]; omega))).mono ?_
      rintro ⟨w1, w2⟩ ⟨F', o2, o3, o4, o5⟩
      simp only at o2 o3 ⊢
      rw [iI_succ]
      exact ih g _ _ _ _ _ _ _ _ _ _ _ _ ⟨rfl, ⟨⟨d2, d3, d4⟩, ⟨d5, d6, d7⟩, d8⟩, F', o2, o3, by omega, iff (P := True) (fun y => by rw [o5, true_and]) (by simp [hCM])⟩
    · rw [if_pos rfl, iI_succ]
      exact ih g _ _ _ _ _ _ _ _ _ _ _ _ ⟨rfl, ⟨hm3.len, hsm.2⟩, F, hF, rfl, by omega, iff (P := False) (fun y => by rw [false_and, false_or]) (by simp [hCM])⟩
  · have e0 : i = L.length := by omega
    subst e0
    rw [if_neg (iI_ltF (by omega) (by omega) (by omega)), OK_some]
    refine ⟨⟨F, ⟨hF.1, fun y => ?_⟩, rfl⟩, hsm, hF.2.2.1⟩
    rw [hFm]
    constructor
    · rintro ⟨j, h1, h2, rfl⟩
      obtain ⟨c, hc⟩ := gL h1
      exact ⟨c, _, List.mem_of_getElem? hc, rm_wo hD.2.1 hc hz0, h2, rfl⟩
    · rintro ⟨c, M, h1, h2, h3, rfl⟩
      obtain ⟨j, hj⟩ := List.mem_iff_getElem?.mp h1
      have hwo := rm_wo hD.2.1 hj hz0
      have hp : M.Perm ((L.set j z0).take (L.length - 1)) := (List.perm_ext_iff_of_nodup h2.1 hwo.1).mpr (fun x => (h2.2 x).trans (hwo.2 x).symm)
      exact ⟨j, lt_of_get hj, (conn_perm hp).mp h3, by rw [S1_ex (y := 0) hSm h3 h1 h2 hwo]⟩
theorem m_relatives (hN : 5000 ≤ N) (hD : Dr k L) (hd : DR k L d) (hsm : SM q r t ha hb hc im) (hso : so.length = 64) {a : Int} (a1 : -2147483648 ≤ a ∧ a < 2147483648) :
    OK (f_X12_relatives N (iI a) d n q r t ha hb hc hn im so) (fun v => RelV k L a v.1 ∧ SM v.2.2.1 v.2.2.2.1 v.2.2.2.2.1 v.2.2.2.2.2.1 v.2.2.2.2.2.2.1 v.2.2.2.2.2.2.2.1 v.2.2.2.2.2.2.2.2.2.1 ∧ v.2.2.2.2.2.2.2.2.2.2.length = 64) := by
  have hk := hD.1
  have hL12 := hD.2.2.1
  unfold f_X12_relatives
  have i1 : f_X12_in N (iI a) 0 1 = some (if 0 ≤ a ∧ a ≤ 1 then 1 else 0) := mIn (N := N) a 0 1 a1 ⟨by omega, by omega⟩ ⟨by omega, by omega⟩
  rw [i1, Option.bind_some]
  by_cases g : 0 ≤ a ∧ a ≤ 1
  case neg =>
    rw [if_neg g, if_pos rfl, OK_some]
    exact ⟨⟨fun _ => rfl, fun h => absurd h g, fun h => absurd h g⟩, hsm, hso⟩
  rw [if_pos g, if_neg (show ¬ (1 : Int32) = 0 by decide), OK_bind]
  refine (figM hN hD hd hsm.1).mono ?_
  rintro ⟨v1, v2, v3, v4, v5⟩ ⟨hv, ev, hmr⟩
  simp only at hv ev hmr ⊢
  subst ev
  rcases hv with ⟨hC, rfl⟩ | ⟨hC, rfl⟩
  case inr =>
    rw [if_pos rfl, OK_some]
    exact ⟨⟨fun h => absurd g h, fun _ _ => rfl, fun _ h => absurd h hC⟩, ⟨hmr.len, hsm.2⟩, hso⟩
  rw [if_neg (show ¬ (1 : Int32) = 0 by decide)]
  rcases Nat.lt_or_ge 7 L.length with g7 | g7
  · rw [if_pos (by rw [li7]; exact iI_ltT (by omega) (by omega) (by omega)), OK_some]
    exact ⟨⟨fun h => absurd g h, fun _ _ => rfl, fun _ _ h => by omega⟩, ⟨hmr.len, hsm.2⟩, hso⟩
  rw [if_neg (by rw [li7]; exact iI_ltF (by omega) (by omega) (by omega))]
  have fin : ∀ {x : Int32}, (∃ F, FS (if a = 0 then S0 k L else S1 k L) F ∧ x = iI F.length) → RelV k L a x := fun h => ⟨fun h' => absurd g h', fun _ h' => by
    rcases h' with h' | h'
    · exact absurd hC h'
    · omega, fun _ _ _ => h⟩
  by_cases ga0 : a = 0
  · subst ga0
    rw [if_pos (by rfl), mDir hd.1, Option.bind_some, iI_mul, OK_bind]
    have h3 := dg_3 hk
    have hr := relM0 (N := N) (n := iI L.length) (hn := hn) hN hD hC hd g7 rfl (by omega) dg_le ⟨hmr.len, hsm.2⟩ hso
    rw [Int.natCast_mul] at hr
    refine OK.mono hr ?_
    rintro ⟨w1, w2, w3, w4, w5, w6, w7, w8, w9, w10, w11⟩ ⟨⟨F, o1, o2⟩, o3, o4⟩
    rw [OK_some]
    exact ⟨fin ⟨F, by rw [if_pos rfl]; exact o1, o2⟩, o3, o4⟩
  · have ga1 : a = 1 := by omega
    subst ga1
    rw [if_neg (by decide), OK_bind]
    refine (relM1 hN hD hC hd g7 ⟨hmr.len, hsm.2⟩ hso).mono ?_
    rintro ⟨w1, w2, w3, w4, w5, w6, w7, w8, w9, w10, w11⟩ ⟨⟨F, o1, o2⟩, o3, o4⟩
    rw [OK_some]
    exact ⟨fin ⟨F, by rw [if_neg (by decide)]; exact o1, o2⟩, o3, o4⟩
end
