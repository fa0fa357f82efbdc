/-! the lists, on both sides -/
section
variable {N k : Nat} {L X : List Cl} {H : List (Nat × List Cl)} {A : List Int64} {T d was q r t w ic im ha hb hc um uq fl fe fi qu : List Int32} {s kept he hl ws mn is hn n bu u1 u2 u3 u4 u5 u6 u7 : Int32} {hf : Nat → Nat × List Int32 × Int32} {mf : Nat → List Int32 × Int32} {fc : Nat → CV}
theorem isListC {z : Int} (z1 : -2147483648 ≤ z) (z2 : z < 2147483648) : f_X11_isList N (iI z) = some (if 0 ≤ z ∧ z ≤ 1 then 1 else 0) := by
  unfold f_X11_isList
  by_cases g : z = 0
  · rw [if_pos (by rw [g]; rfl), if_pos (by omega)]
  rw [if_neg (by rw [li0]; exact iI_eqF g z1 z2 (by omega) (by omega))]
  by_cases g1 : z = 1
  · rw [if_pos (by rw [g1]; rfl), if_pos (by omega)]
  rw [if_neg (by rw [li1]; exact iI_eqF g1 z1 z2 (by omega) (by omega)), if_neg (by omega)]
/-- the class's answer, and the reference's -/
noncomputable def v_figures (k : Nat) (a b : Int) : Int := if 0 ≤ a ∧ a ≤ 1 ∧ 1 ≤ b ∧ b ≤ gre k then ((lst k b.toNat a).length : Int) else -1
theorem c_figures (hN : 5000 ≤ N) (hk : k < 3) (hsi : SI ic mf) (hcat : CatI fc) {a b : Int} (a1 : -2147483648 ≤ a ∧ a < 2147483648) (b1 : -2147483648 ≤ b ∧ b < 2147483648) :
    OK (f_X11_figures N (iI a) (iI b) k mn ic is mf fc) (fun u => u.1 = iI (v_figures k a b) ∧ SI u.2.2.1 u.2.2.2.2.1 ∧ CatI u.2.2.2.2.2) := by
  have h8 := gre_le (k := k)
  unfold f_X11_figures v_figures
  rw [isListC a1.1 a1.2, Option.bind_some]
  by_cases g : 0 ≤ a ∧ a ≤ 1
  case neg =>
    rw [if_neg g, if_pos (by rfl), OK_some, if_neg (by omega)]
    exact ⟨rfl, hsi, hcat⟩
  rw [if_pos g, if_neg (by decide), listed hk b1.1 b1.2, Option.bind_some]
  by_cases g2 : 1 ≤ b ∧ b ≤ gre k
  case neg =>
    rw [if_neg g2, if_pos (by rfl), OK_some, if_neg (by omega)]
    exact ⟨rfl, hsi, hcat⟩
  rw [if_pos g2, if_neg (show ¬ (1 : Int32) = 0 by decide), if_pos (show 0 ≤ a ∧ a ≤ 1 ∧ 1 ≤ b ∧ b ≤ gre k by omega)]
  obtain ⟨z, rfl⟩ := Int.eq_ofNat_of_zero_le (show 0 ≤ b by omega)
  rw [Int.toNat_natCast]
  by_cases ga : a = 1
  · subst ga
    rw [if_pos (by rfl), OK_bind]
    refine (freeUp (by omega) hk (by omega) hcat hsi).mono ?_
    rintro ⟨v1, v2, v3, v4, v5, v6⟩ ⟨e1, e2, e3, b', f', t', hP, hb', hf'⟩
    simp only at e1 e2 e3 hP ⊢
    subst e1
    rw [if_pos hk, if_pos hk, freLen hP.2.2.1 (by omega) hf', Option.bind_some, OK_some, lst_1]
    exact ⟨rfl, e2, e3⟩
  · have ga0 : a = 0 := by omega
    subst ga0
    rw [if_neg (by decide), OK_bind]
    refine (fixedUp (by omega) hk (by omega) hcat).mono ?_
    rintro ⟨v1, v2⟩ ⟨e1, e3, b', f', t', hP, hb'⟩
    simp only at e1 e3 hP ⊢
    subst e1
    rw [if_pos hk, if_pos hk, fixLen hP.1 hk (by omega) hb', Option.bind_some, OK_some, lst_0]
    exact ⟨rfl, hsi, e3⟩
theorem m_figures (hN : 5000 ≤ N) (hd : DK k d) (hsm : SM q r t ha hb hc im) (hmb : MBI bu A fl fe) {a b : Int} (a1 : -2147483648 ≤ a ∧ a < 2147483648) (b1 : -2147483648 ≤ b ∧ b < 2147483648) :
    OK (f_X12_figures N (iI a) (iI b) d n q r t ha hb hc hn im bu A fl fe) (fun v => v.1 = iI (v_figures k a b) ∧ SBt v.2) := by
  have hk := hd.1
  have h8 := gre_le (k := k)
  unfold f_X12_figures v_figures
  have i1 : f_X12_in N (iI a) 0 1 = some (if 0 ≤ a ∧ a ≤ 1 then 1 else 0) := mIn (N := N) a 0 1 a1 ⟨by omega, by omega⟩ ⟨by omega, by omega⟩
  have i2 : f_X12_in N (iI b) 1 (iI (gre k)) = some (if 1 ≤ b ∧ b ≤ gre k then 1 else 0) := mIn (N := N) b 1 (gre k) b1 ⟨by omega, by omega⟩ ⟨by omega, by omega⟩
  rw [i1, Option.bind_some]
  by_cases g : 0 ≤ a ∧ a ≤ 1
  case neg =>
    rw [if_neg g, if_pos (by rfl), OK_some, if_neg (by omega)]
    exact ⟨rfl, hsm, hmb⟩
  rw [if_pos g, if_neg (by decide), mGre hd, Option.bind_some, i2, Option.bind_some]
  by_cases g2 : 1 ≤ b ∧ b ≤ gre k
  case neg =>
    rw [if_neg g2, if_pos (by rfl), OK_some, if_neg (by omega)]
    exact ⟨rfl, hsm, hmb⟩
  rw [if_pos g2, if_neg (show ¬ (1 : Int32) = 0 by decide), if_pos (show 0 ≤ a ∧ a ≤ 1 ∧ 1 ≤ b ∧ b ≤ gre k by omega)]
  obtain ⟨z, rfl⟩ := Int.eq_ofNat_of_zero_le (show 0 ≤ b by omega)
  rw [Int.toNat_natCast, OK_bind]
  refine (bldM (by omega) hd hsm hmb).mono ?_
  intro w hw
  have hM := hw.2.2
  have hfm := figuresM (N := N) (by omega) hk hM (s := z) (l := a) (by omega) (by omega) (by omega)
  rw [(hM.fr (by omega) (by omega)).1, Option.bind_some, hfm, Option.bind_some, OK_some]
  exact ⟨rfl, hw.sbt hk⟩
noncomputable def v_sides (k : Nat) (a b : Int) : Int := if 1 ≤ a ∧ a ≤ gre k ∧ 0 ≤ b then ((cD k (fxl k a.toNat) b.toNat : Nat) : Int) else -1
theorem c_withSides (hN : 5000 ≤ N) (hk : k < 3) (hcat : CatI fc) (hU : um.length = 384 ∧ uq.length = 384) {a b : Int} (a1 : -2147483648 ≤ a ∧ a < 2147483648) (b1 : -2147483648 ≤ b ∧ b < 2147483648) :
    OK (f_X11_withSides N (iI a) (iI b) k um uq u1 u2 u3 u4 u5 u6 u7 fc) (fun u => u.1 = iI (v_sides k a b) ∧ (u.2.1.length = 384 ∧ u.2.2.1.length = 384) ∧ CatI u.2.2.2.2.2.2.2.2.2.2) := by
  have h8 := gre_le (k := k)
  unfold f_X11_withSides v_sides
  rw [listed hk a1.1 a1.2, Option.bind_some]
  by_cases g2 : 1 ≤ a ∧ a ≤ gre k
  case neg =>
    rw [if_neg g2, if_pos (by rfl), OK_some, if_neg (by omega)]
    exact ⟨rfl, hU, hcat⟩
  rw [if_pos g2, if_neg (show ¬ (1 : Int32) = 0 by decide)]
  by_cases g : b < 0
  · rw [if_pos (by rw [li0]; exact iI_ltT g b1.1 (by omega)), OK_some, if_neg (by omega)]
    exact ⟨rfl, hU, hcat⟩
  rw [if_neg (by rw [li0]; exact iI_ltF g (by omega) b1.2), if_pos (by omega)]
  obtain ⟨z, rfl⟩ := Int.eq_ofNat_of_zero_le (show 0 ≤ a by omega)
  rw [Int.toNat_natCast, OK_bind]
  refine (tallyUp (by omega) hk (by omega) hcat hU).mono ?_
  rintro ⟨v1, v2, v3, v4, v5, v6, v7, v8, v9, v10, v11⟩ ⟨e1, e2, e3, b', f', t', hP, hb', ht'⟩
  simp only at e1 e2 e3 hP ⊢
  subst e1
  rw [if_pos hk, if_pos hk, sidesC hP.2.2.2.2.1 hk (by omega) ht' (by omega) b1.2, Option.bind_some, OK_some]
  exact ⟨rfl, e2, e3⟩
theorem m_withSides (hN : 5000 ≤ N) (hd : DK k d) (hsm : SM q r t ha hb hc im) (hmb : MBI bu A fl fe) {a b : Int} (a1 : -2147483648 ≤ a ∧ a < 2147483648) (b1 : -2147483648 ≤ b ∧ b < 2147483648) :
    OK (f_X12_withSides N (iI a) (iI b) d n q r t ha hb hc hn im bu A fl fe) (fun v => v.1 = iI (v_sides k a b) ∧ SBt v.2) := by
  have hk := hd.1
  have h8 := gre_le (k := k)
  unfold f_X12_withSides v_sides
  have i2 : f_X12_in N (iI a) 1 (iI (gre k)) = some (if 1 ≤ a ∧ a ≤ gre k then 1 else 0) := mIn (N := N) a 1 (gre k) a1 ⟨by omega, by omega⟩ ⟨by omega, by omega⟩
  rw [mGre hd, Option.bind_some, i2, Option.bind_some]
  by_cases g2 : 1 ≤ a ∧ a ≤ gre k
  case neg =>
    rw [if_neg g2, if_pos (by rfl), OK_some, if_neg (by omega)]
    exact ⟨rfl, hsm, hmb⟩
  rw [if_pos g2, if_neg (show ¬ (1 : Int32) = 0 by decide)]
  by_cases g : b < 0
  · rw [if_pos (by rw [li0]; exact iI_ltT g b1.1 (by omega)), OK_some, if_neg (by omega)]
    exact ⟨rfl, hsm, hmb⟩
  rw [if_neg (by rw [li0]; exact iI_ltF g (by omega) b1.2), if_pos (by omega)]
  obtain ⟨z, rfl⟩ := Int.eq_ofNat_of_zero_le (show 0 ≤ a by omega)
  rw [Int.toNat_natCast, OK_bind]
  refine (bldM (by omega) hd hsm hmb).mono ?_
  intro w hw
  have hM := hw.2.2
  rw [(hM.fr (by omega) (by omega)).1, Option.bind_some, OK_bind]
  refine (withSidesM (by omega) hd hM (by omega) (by omega) hw.1.1 (by omega) b1.2).mono ?_
  rintro ⟨z1, z2, z3, z4, z5⟩ ⟨q1, q2⟩
  simp only at q1 q2
  rw [OK_some]
  exact ⟨q1, ⟨q2, hw.1.2⟩, (hw.sbt hk).2⟩
noncomputable def v_holes (k : Nat) (a : Int) : Int := if 1 ≤ a ∧ a ≤ gre k then ((cH k (fxl k a.toNat) : Nat) : Int) else -1
theorem c_withHoles (hN : 5000 ≤ N) (hk : k < 3) (hcat : CatI fc) (hU : um.length = 384 ∧ uq.length = 384) {a : Int} (a1 : -2147483648 ≤ a ∧ a < 2147483648) :
    OK (f_X11_withHoles N (iI a) k um uq u1 u2 u3 u4 u5 u6 u7 fc) (fun u => u.1 = iI (v_holes k a) ∧ (u.2.1.length = 384 ∧ u.2.2.1.length = 384) ∧ CatI u.2.2.2.2.2.2.2.2.2.2) := by
  have h8 := gre_le (k := k)
  unfold f_X11_withHoles v_holes
  rw [listed hk a1.1 a1.2, Option.bind_some]
  by_cases g2 : 1 ≤ a ∧ a ≤ gre k
  case neg =>
    rw [if_neg g2, if_pos (by rfl), OK_some, if_neg g2]
    exact ⟨rfl, hU, hcat⟩
  rw [if_pos g2, if_neg (show ¬ (1 : Int32) = 0 by decide), if_pos g2]
  obtain ⟨z, rfl⟩ := Int.eq_ofNat_of_zero_le (show 0 ≤ a by omega)
  rw [Int.toNat_natCast, OK_bind]
  refine (tallyUp (by omega) hk (by omega) hcat hU).mono ?_
  rintro ⟨v1, v2, v3, v4, v5, v6, v7, v8, v9, v10, v11⟩ ⟨e1, e2, e3, b', f', t', hP, hb', ht'⟩
  simp only at e1 e2 e3 hP ⊢
  subst e1
  rw [if_pos hk, if_pos hk, holesC hP.2.2.2.2.1 (by omega) ht', Option.bind_some, OK_some]
  exact ⟨rfl, e2, e3⟩
theorem m_withHoles (hN : 5000 ≤ N) (hd : DK k d) (hsm : SM q r t ha hb hc im) (hmb : MBI bu A fl fe) (hF : fi.length = 392 ∧ qu.length = 392) {a : Int} (a1 : -2147483648 ≤ a ∧ a < 2147483648) :
    OK (f_X12_withHoles N (iI a) d n q r t ha hb hc hn im bu A fl fe fi qu) (fun v => v.1 = iI (v_holes k a) ∧ SM v.2.2.1 v.2.2.2.1 v.2.2.2.2.1 v.2.2.2.2.2.1 v.2.2.2.2.2.2.1 v.2.2.2.2.2.2.2.1 v.2.2.2.2.2.2.2.2.2.1 ∧ MBI v.2.2.2.2.2.2.2.2.2.2.1 v.2.2.2.2.2.2.2.2.2.2.2.1 v.2.2.2.2.2.2.2.2.2.2.2.2.1 v.2.2.2.2.2.2.2.2.2.2.2.2.2.1 ∧ v.2.2.2.2.2.2.2.2.2.2.2.2.2.2.1.length = 392 ∧ v.2.2.2.2.2.2.2.2.2.2.2.2.2.2.2.length = 392) := by
  have hk := hd.1
  have h8 := gre_le (k := k)
  unfold f_X12_withHoles v_holes
  have i2 : f_X12_in N (iI a) 1 (iI (gre k)) = some (if 1 ≤ a ∧ a ≤ gre k then 1 else 0) := mIn (N := N) a 1 (gre k) a1 ⟨by omega, by omega⟩ ⟨by omega, by omega⟩
  rw [mGre hd, Option.bind_some, i2, Option.bind_some]
  by_cases g2 : 1 ≤ a ∧ a ≤ gre k
  case neg =>
    rw [if_neg g2, if_pos (by rfl), OK_some, if_neg g2]
    exact ⟨rfl, hsm, hmb, hF⟩
  rw [if_pos g2, if_neg (show ¬ (1 : Int32) = 0 by decide), if_pos g2]
  obtain ⟨z, rfl⟩ := Int.eq_ofNat_of_zero_le (show 0 ≤ a by omega)
  rw [Int.toNat_natCast, OK_bind]
  refine (bldM (by omega) hd hsm hmb).mono ?_
  intro w hw
  have hM := hw.2.2
  rw [(hM.fr (by omega) (by omega)).1, Option.bind_some, OK_bind]
  refine (withHolesM (by omega) hd hM (by omega) (by omega) hw.1.1 hF).mono ?_
  rintro ⟨z1, z2, z3, z4, z5, z6, z7⟩ ⟨q1, q2, q3⟩
  simp only at q1 q2 q3
  rw [OK_some]
  exact ⟨q1, ⟨q2, hw.1.2⟩, (hw.sbt hk).2, q3⟩
noncomputable def v_syms (k : Nat) (a b : Int) : Int := if 1 ≤ a ∧ a ≤ gre k ∧ 1 ≤ b ∧ b ≤ 12 then ((cS k (frl k a.toNat) b.toNat : Nat) : Int) else -1
theorem c_withSyms (hN : 5000 ≤ N) (hk : k < 3) (hsi : SI ic mf) (hcat : CatI fc) {a b : Int} (a1 : -2147483648 ≤ a ∧ a < 2147483648) (b1 : -2147483648 ≤ b ∧ b < 2147483648) :
    OK (f_X11_withSymmetries N (iI a) (iI b) k mn ic is mf fc) (fun u => u.1 = iI (v_syms k a b) ∧ SI u.2.2.1 u.2.2.2.2.1 ∧ CatI u.2.2.2.2.2) := by
  have h8 := gre_le (k := k)
  unfold f_X11_withSymmetries v_syms
  rw [listed hk a1.1 a1.2, Option.bind_some]
  by_cases g2 : 1 ≤ a ∧ a ≤ gre k
  case neg =>
    rw [if_neg g2, if_pos (by rfl), OK_some, if_neg (by omega)]
    exact ⟨rfl, hsi, hcat⟩
  rw [if_pos g2, if_neg (show ¬ (1 : Int32) = 0 by decide)]
  by_cases g : b < 1
  · rw [if_pos (by rw [li1]; exact iI_ltT g b1.1 (by omega)), OK_some, if_neg (by omega)]
    exact ⟨rfl, hsi, hcat⟩
  rw [if_neg (by rw [li1]; exact iI_ltF g (by omega) b1.2)]
  by_cases g' : 12 < b
  · rw [if_pos (by rw [li12]; exact iI_ltT g' (by omega) b1.2), OK_some, if_neg (by omega)]
    exact ⟨rfl, hsi, hcat⟩
  rw [if_neg (by rw [li12]; exact iI_ltF g' b1.1 (by omega)), if_pos (by omega)]
  obtain ⟨z, rfl⟩ := Int.eq_ofNat_of_zero_le (show 0 ≤ a by omega)
  obtain ⟨m, rfl⟩ := Int.eq_ofNat_of_zero_le (show 0 ≤ b by omega)
  rw [Int.toNat_natCast, Int.toNat_natCast, OK_bind]
  refine (freeUp (by omega) hk (by omega) hcat hsi).mono ?_
  rintro ⟨v1, v2, v3, v4, v5, v6⟩ ⟨e1, e2, e3, b', f', t', hP, hb', hf'⟩
  simp only at e1 e2 e3 hP ⊢
  subst e1
  rw [if_pos hk, if_pos hk, symsC hP.2.2.1 (by omega) hf' (by omega), Option.bind_some, OK_some]
  exact ⟨rfl, e2, e3⟩
theorem m_withSyms (hN : 5000 ≤ N) (hd : DK k d) (hsm : SM q r t ha hb hc im) (hmb : MBI bu A fl fe) {a b : Int} (a1 : -2147483648 ≤ a ∧ a < 2147483648) (b1 : -2147483648 ≤ b ∧ b < 2147483648) :
    OK (f_X12_withSymmetries N (iI a) (iI b) d n q r t ha hb hc hn im bu A fl fe) (fun v => v.1 = iI (v_syms k a b) ∧ SBt v.2) := by
  have hk := hd.1
  have h8 := gre_le (k := k)
  unfold f_X12_withSymmetries v_syms
  have i2 : f_X12_in N (iI a) 1 (iI (gre k)) = some (if 1 ≤ a ∧ a ≤ gre k then 1 else 0) := mIn (N := N) a 1 (gre k) a1 ⟨by omega, by omega⟩ ⟨by omega, by omega⟩
  have i3 : f_X12_in N (iI b) 1 12 = some (if 1 ≤ b ∧ b ≤ 12 then 1 else 0) := mIn (N := N) b 1 12 b1 ⟨by omega, by omega⟩ ⟨by omega, by omega⟩
  rw [mGre hd, Option.bind_some, i2, Option.bind_some]
  by_cases g2 : 1 ≤ a ∧ a ≤ gre k
  case neg =>
    rw [if_neg g2, if_pos (by rfl), OK_some, if_neg (by omega)]
    exact ⟨rfl, hsm, hmb⟩
  rw [if_pos g2, if_neg (show ¬ (1 : Int32) = 0 by decide), i3, Option.bind_some]
  by_cases g : 1 ≤ b ∧ b ≤ 12
  case neg =>
    rw [if_neg g, if_pos (by rfl), OK_some, if_neg (by omega)]
    exact ⟨rfl, hsm, hmb⟩
  rw [if_pos g, if_neg (show ¬ (1 : Int32) = 0 by decide), if_pos (show 1 ≤ a ∧ a ≤ gre k ∧ 1 ≤ b ∧ b ≤ 12 by omega)]
  obtain ⟨z, rfl⟩ := Int.eq_ofNat_of_zero_le (show 0 ≤ a by omega)
  obtain ⟨m, rfl⟩ := Int.eq_ofNat_of_zero_le (show 0 ≤ b by omega)
  rw [Int.toNat_natCast, Int.toNat_natCast, OK_bind]
  refine (bldM (by omega) hd hsm hmb).mono ?_
  intro w hw
  have hM := hw.2.2
  rw [(hM.fr (by omega) (by omega)).1, Option.bind_some, OK_bind]
  refine (withSymM (by omega) hd hM (by omega) (by omega) hw.1 (by omega)).mono ?_
  rintro ⟨z1, z2, z3, z4, z5, z6, z7, z8, z9, z10⟩ ⟨q1, q2⟩
  simp only at q1 q2
  rw [OK_some]
  exact ⟨q1, q2, (hw.sbt hk).2⟩
end
