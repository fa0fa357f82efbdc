/-! take -/
section
variable {N k : Nat} {L X : List Cl} {H : List (Nat × List Cl)} {A : List Int64} {T d was q r t ic im ha hb hc fl fe : List Int32} {s kept he hl mn is hn n bu : Int32} {hf : Nat → Nat × List Int32 × Int32} {mf : Nat → List Int32 × Int32} {fc : Nat → CV}
noncomputable def takeX (k : Nat) (a b : Int) : Option (List Cl) := if 1 ≤ a ∧ a ≤ gre k ∧ 0 ≤ b then (frl k a.toNat)[b.toNat]? else none
def takeE (k : Nat) (a b : Int) : Int := if 1 ≤ a ∧ a ≤ gre k ∧ 0 ≤ b then -9 else -1
theorem frl_1000 (hk : k < 3) {z : Nat} (h1 : 1 ≤ z) (h2 : z ≤ gre k) : (frl k z).length ≤ 164 := by
  have h3 := (off_bd hk h1 h2).2.2
  have h4 := offF_succ (k := k) h1
  omega
theorem c_take (hN : 5000 ≤ N) (hk : k < 3) (hL : CE 12 L T s) (hH : RHc H he hl hf) (hsi : SI ic mf) (hcat : CatI fc) {a b : Int} (a1 : -2147483648 ≤ a ∧ a < 2147483648) (b1 : -2147483648 ≤ b ∧ b < 2147483648) :
    OK (f_X11_take N (iI a) (iI b) k T s he hl mn ic is hf mf fc) (fun u => SI u.2.2.2.2.2.2.1 u.2.2.2.2.2.2.2.2.2.1 ∧ CatI u.2.2.2.2.2.2.2.2.2.2 ∧ (takeX k a b = none → u.1 = iI (takeE k a b) ∧ u.2.1 = T ∧ u.2.2.1 = s ∧ u.2.2.2.1 = he ∧ u.2.2.2.2.1 = hl ∧ u.2.2.2.2.2.2.2.2.1 = hf) ∧ ∀ X, takeX k a b = some X → u.1 = iI (syN k X) ∧ CE 12 X u.2.1 u.2.2.1 ∧ RHc (psh H (k, L)) u.2.2.2.1 u.2.2.2.2.1 u.2.2.2.2.2.2.2.2.1) := by
  have h8 := gre_le (k := k)
  have htu := tur_pos (k := k)
  have hT12 : T.length = 12 := by obtain ⟨J, _, h2, _⟩ := hL; exact h2
  unfold f_X11_take takeX takeE
  rw [listed hk a1.1 a1.2, Option.bind_some]
  by_cases g2 : 1 ≤ a ∧ a ≤ gre k
  case neg =>
    rw [if_neg g2, if_pos (by rfl), OK_some, if_neg (by omega), if_neg (by omega)]
    exact ⟨hsi, hcat, fun _ => ⟨rfl, rfl, rfl, rfl, rfl, rfl⟩, fun X h => by cases h⟩
  rw [if_pos g2, if_neg (show ¬ (1 : Int32) = 0 by decide)]
  by_cases g5 : b < 0
  · rw [if_pos (by rw [li0]; exact iI_ltT g5 b1.1 (by omega)), OK_some, if_neg (by omega), if_neg (by omega)]
    exact ⟨hsi, hcat, fun _ => ⟨rfl, rfl, rfl, rfl, rfl, rfl⟩, fun X h => by cases h⟩
  rw [if_neg (by rw [li0]; exact iI_ltF g5 (by omega) b1.2), if_pos (show 1 ≤ a ∧ a ≤ gre k ∧ 0 ≤ b by omega), if_pos (show 1 ≤ a ∧ a ≤ gre k ∧ 0 ≤ b by omega)]
  obtain ⟨z, rfl⟩ := Int.eq_ofNat_of_zero_le (show 0 ≤ a by omega)
  obtain ⟨i, rfl⟩ := Int.eq_ofNat_of_zero_le (show 0 ≤ b by omega)
  rw [Int.toNat_natCast, Int.toNat_natCast, OK_bind]
  refine (freeUp (by omega) hk (by omega) hcat hsi).mono ?_
  rintro ⟨v1, v2, v3, v4, v5, v6⟩ ⟨q1, q2, q3, b', f', t', hP, hb', hf'⟩
  simp only at q1 q2 q3 hP ⊢
  subst q1
  have hfl := frl_1000 hk (z := z) (by omega) (by omega)
  rw [if_pos hk, if_pos hk, freLen hP.2.2.1 (by omega) hf', Option.bind_some]
  by_cases gi : i < (frl v1 z).length
  · obtain ⟨X, hX⟩ := gL gi
    have hm := lst_mem hk (z := z) (a := 1) (by omega) (by omega) (by rw [lst_1]; exact List.mem_of_getElem? hX)
    obtain ⟨h1, h2, h3⟩ := unpack_n (N := N) (T := T) (by omega) hm.1 (by omega) hm.2 hT12
    rw [if_pos (iI_ltT (by omega) (by omega) (by omega)), OK_bind]
    refine (keep_eq (by omega) hk hH hL).mono ?_
    rintro ⟨w1, w2, w3⟩ hw
    simp only at hw ⊢
    rw [freForm hP.2.2.1 hk (by omega) hf' hX, Option.bind_some, h1, Option.bind_some, if_pos hk, OK_bind]
    refine (survey_eq (by omega) hm.1.1.sm h2 q2.1 q2.2).mono ?_
    rintro ⟨n2, ic2, is2, mf2⟩ ⟨e1, e2, e3⟩
    simp only at e1 e2 e3 ⊢
    subst e1
    rw [symmetries_eq (m := X.length) (by omega) e3 (fun i => img_len i) (fun i => (img_Nf hm.1.1.sm i).ok) (by omega) (by omega), Option.bind_some, OK_some, hX]
    refine ⟨⟨e2, e3.1⟩, q3, (fun h => by cases h), fun Y hY => ?_⟩
    cases hY
    exact ⟨rfl, h2, hw⟩
  · rw [if_neg (iI_ltF (by omega) (by omega) (by omega)), OK_some, List.getElem?_eq_none (by omega)]
    exact ⟨q2, q3, fun _ => ⟨rfl, rfl, rfl, rfl, rfl, rfl⟩, fun X h => by cases h⟩
theorem m_take (hN : 5000 ≤ N) (hd : DR k L d) (hH : RHm H was kept) (hsm : SM q r t ha hb hc im) (hmb : MBI bu A fl fe) {a b : Int} (a1 : -2147483648 ≤ a ∧ a < 2147483648) (b1 : -2147483648 ≤ b ∧ b < 2147483648) :
    OK (f_X12_take N (iI a) (iI b) d was kept n q r t ha hb hc hn im bu A fl fe) (fun v => SBt v.2.2.2.2 ∧ (takeX k a b = none → v.1 = iI (takeE k a b) ∧ v.2.1 = d ∧ v.2.2.1 = was ∧ v.2.2.2.1 = kept) ∧ ∀ X, takeX k a b = some X → v.1 = iI (syN k X) ∧ DR k X v.2.1 ∧ RHm (psh H (k, L)) v.2.2.1 v.2.2.2.1) := by
  have hk := hd.1.1
  have h8 := gre_le (k := k)
  have htu := tur_pos (k := k)
  unfold f_X12_take takeX takeE
  have i2 : f_X12_in N (iI a) 1 (iI (gre k)) = some (if 1 ≤ a ∧ a ≤ gre k then 1 else 0) := mIn (N := N) a 1 (gre k) a1 ⟨by omega, by omega⟩ ⟨by omega, by omega⟩
  rw [mGre hd.1, Option.bind_some, i2, Option.bind_some]
  by_cases g2 : 1 ≤ a ∧ a ≤ gre k
  case neg =>
    rw [if_neg g2, if_pos (by rfl), OK_some, if_neg (by omega), if_neg (by omega)]
    exact ⟨⟨hsm, hmb⟩, fun _ => ⟨rfl, rfl, rfl, rfl⟩, fun X h => by cases h⟩
  rw [if_pos g2, if_neg (show ¬ (1 : Int32) = 0 by decide)]
  by_cases g5 : b < 0
  · rw [if_pos (by rw [li0]; exact iI_ltT g5 b1.1 (by omega)), OK_some, if_neg (by omega), if_neg (by omega)]
    exact ⟨⟨hsm, hmb⟩, fun _ => ⟨rfl, rfl, rfl, rfl⟩, fun X h => by cases h⟩
  rw [if_neg (by rw [li0]; exact iI_ltF g5 (by omega) b1.2), if_pos (show 1 ≤ a ∧ a ≤ gre k ∧ 0 ≤ b by omega), if_pos (show 1 ≤ a ∧ a ≤ gre k ∧ 0 ≤ b by omega)]
  obtain ⟨z, rfl⟩ := Int.eq_ofNat_of_zero_le (show 0 ≤ a by omega)
  obtain ⟨i, rfl⟩ := Int.eq_ofNat_of_zero_le (show 0 ≤ b by omega)
  rw [Int.toNat_natCast, Int.toNat_natCast, OK_bind]
  have hpl := placeM (N := N) (m := n) (hn := hn) (by omega) hd.1 hsm hmb (s := z) (l := 1) (by omega) (by omega) (by omega) (z := i) (by omega)
  refine OK.mono hpl ?_
  rintro ⟨x, w⟩ ⟨hw, hcase⟩
  have hM := hw.2.2
  simp only at hcase hw hM ⊢
  rw [lst_1] at hcase
  have hbd := (off_bd hk (n := z) (by omega) (by omega)).2.1
  have hfl := off_succ (k := k) (n := z) (by omega)
  rcases hcase with ⟨pp, X, p1, p2, rfl⟩ | ⟨hlen, rfl⟩
  · have hf := hM.fig hk (by omega) (by omega) p1
    have hlt := lt_of_get p1
    have hX12 : X.length ≤ 12 := by rw [hf.2.2.2]; omega
    rw [if_neg (by rw [li0]; exact iI_ltF (by omega) (by omega) (by omega)), OK_bind]
    refine (records_eq (by omega) hH hd).mono ?_
    rintro ⟨y1, y2⟩ hy
    simp only at hy ⊢
    rw [hf.1, Option.bind_some, OK_bind]
    refine (figN (by omega) hf.2.2.1 hf.2.2.2 (by omega) hw.1.1).mono ?_
    rintro ⟨m2, q2, r2, t2⟩ ⟨em, hmr⟩
    simp only at em hmr ⊢
    have hla := mLays (N := N) (by omega) hd.1 hmr hX12
    rw [hf.2.2.2, ← em] at hla
    rw [OK_bind]
    refine OK.mono hla ?_
    intro d2 hd2
    have hho := mHolds (N := N) hmr (by omega) hw.1.2.1.1 hw.1.2.1.2.1 hw.1.2.1.2.2
    rw [hf.2.2.2, ← em] at hho
    rw [OK_bind]
    refine OK.mono hho ?_
    rintro ⟨w5, w6, w7, w8⟩ ⟨hh, ew⟩
    simp only at hh ew ⊢
    subst ew
    have hSm := hf.2.2.1.1.sm
    have him := mImages (N := N) (n := iI z) (by omega) hSm hd2.1 hh hmr.1 hmr.2.1 hmr.2.2.1 hw.1.2.2
    rw [hf.2.2.2, ← em] at him
    rw [OK_bind]
    refine OK.mono him ?_
    rintro ⟨x1, x2, x3, x4, x5, x6⟩ ⟨_, o1, o2, o3, o4⟩
    simp only at o1 o2 o3 o4 ⊢
    have hsy := mSym (N := N) (by omega) hd2.1 o4 (fun i => img_len i) hX12 (fun i => (img_Nf hSm i).rng)
    rw [hf.2.2.2, ← em] at hsy
    rw [hsy, Option.bind_some, OK_some, p2]
    refine ⟨⟨⟨⟨o1, o2, o3⟩, hh.len, o4.1⟩, (hw.sbt hk).2⟩, (fun h => by cases h), fun Y hY => ?_⟩
    cases hY
    exact ⟨rfl, hd2, hy⟩
  · rw [if_pos (by rw [li0]; exact iI_ltT (by omega) (by omega) (by omega)), OK_some, List.getElem?_eq_none hlen]
    exact ⟨hw.sbt hk, fun _ => ⟨rfl, rfl, rfl, rfl⟩, fun X h => by cases h⟩
theorem s_take (hN : 5000 ≤ N) (h : RS k T s he hl hf d was kept) (hsi : SI ic mf) (hcat : CatI fc) (hsm : SM q r t ha hb hc im) (hmb : MBI bu A fl fe) (x y : Int32) :
    OK (f_X11_take N x y k T s he hl mn ic is hf mf fc) (fun u => OK (f_X12_take N x y d was kept n q r t ha hb hc hn im bu A fl fe) (fun v => u.1 = v.1 ∧ RS k u.2.1 u.2.2.1 u.2.2.2.1 u.2.2.2.2.1 u.2.2.2.2.2.2.2.2.1 v.2.1 v.2.2.1 v.2.2.2.1 ∧ SI u.2.2.2.2.2.2.1 u.2.2.2.2.2.2.2.2.2.1 ∧ CatI u.2.2.2.2.2.2.2.2.2.2 ∧ SBt v.2.2.2.2)) := by
  obtain ⟨a, rfl, a1, a2⟩ := iI_ex x
  obtain ⟨b, rfl, b1, b2⟩ := iI_ex y
  obtain ⟨L, H, hD, hL, hd, hcc, hm, hO⟩ := h
  have hk := hD.1
  have h8 := gre_le (k := k)
  refine (c_take hN hk hL hcc hsi hcat ⟨a1, a2⟩ ⟨b1, b2⟩).mono ?_
  rintro u ⟨u1, u2, u3, u4⟩
  refine (m_take hN hd hm hsm hmb ⟨a1, a2⟩ ⟨b1, b2⟩).mono ?_
  rintro v ⟨v1, v2, v3⟩
  cases e : takeX k a b with
  | none =>
    obtain ⟨p1, p2, p3, p4, p5, p6⟩ := u3 e
    obtain ⟨r1, r2, r3, r4⟩ := v2 e
    refine ⟨by rw [p1, r1], ?_, u1, u2, v1⟩
    rw [p2, p3, p4, p5, p6, r2, r3, r4]
    exact ⟨L, H, hD, hL, hd, hcc, hm, hO⟩
  | some X =>
    obtain ⟨p1, p2, p3⟩ := u4 X e
    obtain ⟨r1, r2, r3⟩ := v3 X e
    refine ⟨by rw [p1, r1], ⟨X, psh H (k, L), ?_, p2, r2, p3, r3, psh_ok hO hD⟩, u1, u2, v1⟩
    unfold takeX at e
    split at e
    case isTrue g =>
      have hmX := lst_mem hk (z := a.toNat) (a := 1) (by omega) (by omega) (by rw [lst_1]; exact List.mem_of_getElem? e)
      exact hmX.1.dr (hmX.1.nw (by omega))
    case isFalse g => cases e
end
