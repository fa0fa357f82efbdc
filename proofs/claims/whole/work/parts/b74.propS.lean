section
variable {N k : Nat} {L X : List Cl} {H : List (Nat × List Cl)} {T d was q r t w ic im ha hb hc um uq fl fq : List Int32} {s kept he hl ws mn is hn u1 u2 u3 u4 u5 u6 u7 : Int32} {hf : Nat → Nat × List Int32 × Int32} {mf : Nat → List Int32 × Int32}
theorem s_property (hN : 5000 ≤ N) (h : RS k T s he hl hf d was kept) (hw : w.length = 12) (hsi : SI ic mf) (hU : um.length = 384 ∧ uq.length = 384) (hsm : SM q r t ha hb hc im) (hF : fl.length = 392 ∧ fq.length = 392) {n : Int32} (x : Int32) :
    OK (f_X11_property N x k T s w ws mn ic is um uq u1 u2 u3 u4 u5 u6 u7 mf) (fun u => OK (f_X12_property N x d n q r t ha hb hc hn im fl fq) (fun v => u.1 = v.1 ∧ u.2.1.length = 12 ∧ SI u.2.2.2.2.1 u.2.2.2.2.2.2.2.2.2.2.2.2.2.2.2 ∧ (u.2.2.2.2.2.2.1.length = 384 ∧ u.2.2.2.2.2.2.2.1.length = 384) ∧ SM v.2.2.1 v.2.2.2.1 v.2.2.2.2.1 v.2.2.2.2.2.1 v.2.2.2.2.2.2.1 v.2.2.2.2.2.2.2.1 v.2.2.2.2.2.2.2.2.2.1 ∧ v.2.2.2.2.2.2.2.2.2.2.1.length = 392 ∧ v.2.2.2.2.2.2.2.2.2.2.2.length = 392)) := by
  obtain ⟨L, H, hD, hL, hd, hcc, hm, hO⟩ := h
  obtain ⟨z, rfl, z1, z2⟩ := iI_ex x
  obtain ⟨h16, h16h, him⟩ := hsm
  have hk := hD.1
  have hL12 := hD.2.2.1
  unfold f_X11_property f_X12_property
  have i1 : f_X12_in N (iI z) 0 6 = some (if 0 ≤ z ∧ z ≤ 6 then 1 else 0) := mIn (N := N) z 0 6 ⟨z1, z2⟩ ⟨by omega, by omega⟩ ⟨by omega, by omega⟩
  rw [i1, Option.bind_some]
  by_cases g1 : 0 ≤ z ∧ z ≤ 6
  case neg =>
    rw [if_neg g1, OK_ite]
    refine ⟨fun _ => ?_, fun e1 => ?_⟩
    · rw [OK_some, if_pos (by rfl), OK_some]
      exact ⟨rfl, hw, hsi, hU, ⟨h16, h16h, him⟩, hF⟩
    · rw [if_pos (by
        rw [li0, iI_lt (by omega) (by omega) (by omega) (by omega)] at e1
        rw [li6, iI_lt (by omega) (by omega) (by omega) (by omega)]
        omega), OK_some, if_pos (by rfl), OK_some]
      exact ⟨rfl, hw, hsi, hU, ⟨h16, h16h, him⟩, hF⟩
  rw [if_pos g1, if_neg (show ¬ iI z < 0 by rw [li0]; exact iI_ltF (by omega) (by omega) (by omega)), if_neg (show ¬ 6 < iI z by rw [li6]; exact iI_ltF (by omega) (by omega) (by omega)), if_neg (show ¬ (1 : Int32) = 0 by decide), OK_bind]
  refine (figC (by omega) hD hL).mono (fun u hu => ?_)
  rcases hu with ⟨hC, rfl⟩ | ⟨hC, rfl⟩
  case inr =>
    rw [if_pos (by rfl), OK_some, OK_bind]
    refine (figM hN hD hd h16).mono ?_
    rintro ⟨v1, v2, v3, v4, v5⟩ ⟨hv, _, hmr⟩
    simp only at hv hmr ⊢
    rcases hv with ⟨hn, _⟩ | ⟨_, rfl⟩
    · exact absurd hn hC
    · rw [if_pos (by rfl), OK_some]
      exact ⟨rfl, hw, hsi, hU, ⟨hmr.len, h16h, him⟩, hF⟩
  rw [if_neg (by decide)]
  have hSm := hD.sm hC
  have hNF := nrm_NF hSm.fg
  -- the reference up to the choice
  have ref : ∀ {Q : Int32 × Int32 × List Int32 × List Int32 × List Int32 × List Int32 × List Int32 × List Int32 × Int32 × List Int32 × List Int32 × List Int32 → Prop} {F : Int32 × Int32 × List Int32 × List Int32 × List Int32 → List Int32 × List Int32 → List Int32 × List Int32 × List Int32 × Int32 → Option (Int32 × Int32 × List Int32 × List Int32 × List Int32 × List Int32 × List Int32 × List Int32 × Int32 × List Int32 × List Int32 × List Int32)}, (∀ u3 u5 u6, u3.2.1 = iI L.length → MR L u3.2.2.1 u3.2.2.2.1 u3.2.2.2.2 → FLD k L u5.1 → u5.2.length = 392 → u6.2.2.2 = iI L.length → MR L u6.1 u6.2.1 u6.2.2.1 → OK (F u3 u5 u6) Q) → ∀ {G : Int32 × Int32 × List Int32 × List Int32 × List Int32 → Option _}, OK ((f_X12_isFigure N d q r t).bind fun u3 => if u3.1 = 0 then G u3 else (f_X12_surrounds N d u3.2.1 u3.2.2.1 u3.2.2.2.1 u3.2.2.2.2 fl fq).bind fun u5 => (f_X12_holds N u3.2.1 u3.2.2.1 u3.2.2.2.1 u3.2.2.2.2 ha hb hc).bind fun u6 => F u3 u5 u6) Q := by
    intro Q F hFF G
    rw [OK_bind]
    refine (figM hN hD hd h16).mono ?_
    rintro ⟨v1, v2, v3, v4, v5⟩ ⟨hv, ev, hmr⟩
    simp only at hv hmr ev ⊢
    subst ev
    rcases hv with ⟨_, rfl⟩ | ⟨hn, _⟩
    case inr => exact absurd hC hn
    rw [if_neg (by decide), OK_bind]
    refine (mSurr (by omega) hd.1 hmr hD.2.2.2 hF.1 hF.2).mono ?_
    rintro ⟨w1, w2⟩ ⟨hw1, hw2⟩
    rw [OK_bind]
    refine (mHolds hmr (by omega) h16h.1 h16h.2.1 h16h.2.2).mono ?_
    rintro ⟨w5, w6, w7, w8⟩ ⟨hh, ew⟩
    simp only at hh ew ⊢
    subst ew
    exact hFF (1, iI L.length, v3, v4, v5) (w1, w2) (w5, w6, w7, iI L.length) rfl hmr hw1 hw2 rfl hh
  have htu := tur_pos (k := k)
  by_cases g5 : z < 5
  · have c5 : iI z < 5 := by rw [li5]; exact iI_ltT g5 (by omega) (by omega)
    rw [if_pos c5]
    obtain ⟨J, hcp, hJ⟩ := copy_CE (N := N) (by omega) hw hL hL12 (by omega)
    rw [hcp, Option.bind_some, normalise_eq (by omega) (by omega) hD.ld.ok hSm.fg.ok, Option.bind_some, if_pos hk, OK_bind]
    have hnw : ¬ wide (nrm L) := by
      rintro ⟨c, hc, hcw⟩
      obtain ⟨y, hy, rfl⟩ := nrm_mem.mp hc
      have hB := hD.2.2.2 y hy
      obtain ⟨⟨p, hp, ep⟩, _⟩ := mn_spec (fun c => c.1) hSm.fg.ne hSm.fg.q
      obtain ⟨⟨p', hp', ep'⟩, _⟩ := mn_spec (fun c => c.2.1) hSm.fg.ne hSm.fg.r
      have e1 : mnQ L = p.1 := ep.symm
      have e2 : mnR L = p'.2.1 := ep'.symm
      have b1 := (hD.2.2.2 p hp).1
      have b2 := (hD.2.2.2 p' hp').2.2.1
      have f1 : (sft (mnQ L) (mnR L) y).1 = y.1 - mnQ L := rfl
      have f2 : (sft (mnQ L) (mnR L) y).2.1 = y.2.1 - mnR L := rfl
      have b3 := hB.2.1
      have b4 := hB.2.2.2.1
      omega
    have hlook := lookC (N := N) (J := J) (by omega) hNF.1 hnw hU.1 hU.2
    rw [nrm_len] at hlook
    refine hlook.mono ?_
    rintro ⟨y1, y2, y3, y4, y5, y6, y7, y8, y9⟩ ⟨hy1, hy2, m, n, B, O, Rp, All, hm, hn, hm9, hn9, hB, hOO, hHI, e5, e6, e7, e8, e9⟩
    simp only at hy1 hy2 e5 e6 e7 e8 e9 ⊢
    have hSh := Sh.of hD hC hm hn
    have hT : ∀ c ∈ nrm L, okT k c.2.2 := fun c hc => (hNF.1.2.2.2.2 c hc).1
    have hJ12 : ((nrm L).map cI ++ J).length = 12 := by simp [nrm_len]; omega
    -- what is left to say, whatever the answer
    have fin : ∀ {A : Int32} {u3 : Int32 × Int32 × List Int32 × List Int32 × List Int32} {u6 : List Int32 × List Int32 × List Int32 × Int32}, MR L u3.2.2.1 u3.2.2.2.1 u3.2.2.2.2 → MR L u6.1 u6.2.1 u6.2.2.1 → SM u3.2.2.1 u3.2.2.2.1 u3.2.2.2.2 u6.1 u6.2.1 u6.2.2.1 im := fun h1 h2 => ⟨h1.len, h2.len, him⟩
    rcases (show z = 0 ∨ z = 1 ∨ z = 2 ∨ z = 3 ∨ z = 4 by omega) with rfl | rfl | rfl | rfl | rfl
    · rw [if_pos (by rfl), OK_some]
      refine ref (fun u3 u5 u6 q1 q2 q3 q4 q5 q6 => ?_)
      rw [if_pos (by rfl), if_pos (by rfl), q1, mSides (by omega) hd.1 q2 hD.ld, Option.bind_some, OK_some]
      obtain ⟨Q, hQ⟩ := q3.fv hD.2.2.2
      exact ⟨by rw [e5, sdN_sft nrm_perm], hJ12, hsi, ⟨hy1, hy2⟩, ⟨q2.len, q6.len, him⟩, hQ.2.2.1, q4⟩
    · rw [if_neg (by decide), if_pos (by rfl), OK_some]
      refine ref (fun u3 u5 u6 q1 q2 q3 q4 q5 q6 => ?_)
      obtain ⟨Q, hQ⟩ := q3.fv hD.2.2.2
      rw [if_pos (by rfl), if_neg (by decide), if_pos (by rfl), if_neg (by decide), OK_bind]
      refine (mBorders (by omega) hd.1 hD.2.2.2 hQ (Or.inl rfl)).mono ?_
      rintro A ⟨B', hB', rfl⟩
      rw [OK_some]
      refine ⟨?_, hJ12, hsi, ⟨hy1, hy2⟩, ⟨q2.len, q6.len, him⟩, hQ.2.2.1, q4⟩
      show y6 = iI B'.length
      rw [e6, hSh.border (P' := fun _ => True) hT hB' hB.1 (fun c => by rw [hB.2]; simp) (fun c _ _ => by simp)]
    · rw [if_neg (by decide), if_neg (by decide), if_pos (by rfl), OK_some]
      refine ref (fun u3 u5 u6 q1 q2 q3 q4 q5 q6 => ?_)
      obtain ⟨Q, hQ⟩ := q3.fv hD.2.2.2
      rw [if_pos (by rfl), if_neg (by decide), if_pos (by rfl), if_pos (by rfl), OK_bind]
      refine (mBorders (by omega) hd.1 hD.2.2.2 hQ (Or.inr rfl)).mono ?_
      rintro A ⟨B', hB', rfl⟩
      rw [OK_some]
      refine ⟨?_, hJ12, hsi, ⟨hy1, hy2⟩, ⟨q2.len, q6.len, him⟩, hQ.2.2.1, q4⟩
      show y7 = iI B'.length
      rw [e7, hSh.border (P' := fun c => Rc k (Fr k (nrm L) (-1) (m + 1) (-1) (n + 1)) (-1, -1, 0) c) hT hB' hOO.1 (fun c => by rw [hOO.2, hB.2]) (fun c hW hBd => ?_)]
      have hx := (hSh.bd hT c).mp ⟨hW, hBd⟩
      obtain ⟨u, hu, e⟩ := hx.2
      have a1 := adj_q e
      have a2 := adj_r e
      have hub := hSh.2.2.2.2.2.1 u hu
      rw [← hSh.out ⟨by omega, by omega, by omega, by omega, okT_adj e (hT u hu)⟩, ← hQ.1]
      exact ⟨fun h => h rfl, fun h _ => h⟩
    · rw [if_neg (by decide), if_neg (by decide), if_neg (by decide), if_pos (by rfl), OK_some]
      refine ref (fun u3 u5 u6 q1 q2 q3 q4 q5 q6 => ?_)
      obtain ⟨Q, hQ⟩ := q3.fv hD.2.2.2
      rw [if_pos (by rfl), if_neg (by decide), if_neg (by decide), show iI 3 - 3 = 0 from rfl, OK_bind]
      refine (mHoles (by omega) hd.1 hQ q4 (Or.inl rfl)).mono ?_
      rintro ⟨A, A2, A3⟩ ⟨l1, l2, Rp', All', k1, k2, k3⟩
      simp only at l1 l2 k3 ⊢
      rw [if_pos trivial] at k3
      rw [OK_some]
      refine ⟨?_, hJ12, hsi, ⟨hy1, hy2⟩, ⟨q2.len, q6.len, him⟩, l1, l2⟩
      show y8 = A
      rw [e8, k3, (hSh.holes k1 k2 hHI.1 hHI.2).1]
    · rw [if_neg (by decide), if_neg (by decide), if_neg (by decide), if_neg (by decide), OK_some]
      refine ref (fun u3 u5 u6 q1 q2 q3 q4 q5 q6 => ?_)
      obtain ⟨Q, hQ⟩ := q3.fv hD.2.2.2
      rw [if_pos (by rfl), if_neg (by decide), if_neg (by decide), show iI 4 - 3 = 1 from rfl, OK_bind]
      refine (mHoles (by omega) hd.1 hQ q4 (Or.inr rfl)).mono ?_
      rintro ⟨A, A2, A3⟩ ⟨l1, l2, Rp', All', k1, k2, k3⟩
      simp only at l1 l2 k3 ⊢
      rw [if_neg (by decide)] at k3
      rw [OK_some]
      refine ⟨?_, hJ12, hsi, ⟨hy1, hy2⟩, ⟨q2.len, q6.len, him⟩, l1, l2⟩
      show y9 = A
      rw [e9, k3, (hSh.holes k1 k2 hHI.1 hHI.2).2]
  · have c5 : ¬ iI z < 5 := by rw [li5]; exact iI_ltF g5 (by omega) (by omega)
    have ho : ∀ i, ∀ x ∈ img k L i, 0 ≤ x.1 ∧ x.1 ≤ 11 ∧ 0 ≤ x.2.1 ∧ x.2.1 ≤ 11 ∧ 0 ≤ x.2.2 ∧ x.2.2 < 2 := fun i => (img_Nf hSm i).rng
    rw [if_neg c5, if_pos hk, OK_bind]
    refine (survey_eq (by omega) hSm hL hsi.1 hsi.2).mono ?_
    rintro ⟨n2, ic2, is2, mf2⟩ ⟨e1, e2, e3⟩
    simp only at e1 e2 e3 ⊢
    subst e1
    rcases (show z = 5 ∨ z = 6 by omega) with rfl | rfl
    · rw [if_pos (by rfl), symmetries_eq (m := L.length) (by omega) e3 (fun i => img_len i) (fun i => (img_Nf hSm i).ok) (by omega) (by omega), Option.bind_some, OK_some]
      refine ref (fun u3 u5 u6 q1 q2 q3 q4 q5 q6 => ?_)
      obtain ⟨Q, hQ⟩ := q3.fv hD.2.2.2
      rw [if_neg c5, OK_bind, q5]
      refine (mImages (by omega) hSm hd.1 q6 q2.1 q2.2.1 q2.2.2.1 him).mono ?_
      rintro ⟨y1, y2, y3, y4, y5, y6⟩ ⟨hy, p1, p2, p3, p4⟩
      simp only at p1 p2 p3 p4 ⊢
      rw [if_pos (by rfl), mSym (by omega) hd.1 p4 (fun i => img_len i) hL12 ho, Option.bind_some, OK_some]
      exact ⟨rfl, hw, ⟨e2, e3.1⟩, hU, ⟨⟨p1, p2, p3⟩, q6.len, p4.1⟩, hQ.2.2.1, q4⟩
    · rw [if_neg (by decide), different_eq (m := L.length) (by omega) e3 (fun i => img_len i) (fun i => (img_Nf hSm i).ok) (by omega), Option.bind_some, OK_some]
      refine ref (fun u3 u5 u6 q1 q2 q3 q4 q5 q6 => ?_)
      obtain ⟨Q, hQ⟩ := q3.fv hD.2.2.2
      rw [if_neg c5, OK_bind, q5]
      refine (mImages (by omega) hSm hd.1 q6 q2.1 q2.2.1 q2.2.2.1 him).mono ?_
      rintro ⟨y1, y2, y3, y4, y5, y6⟩ ⟨hy, p1, p2, p3, p4⟩
      simp only at p1 p2 p3 p4 ⊢
      rw [if_neg (by decide), mDif (by omega) hd.1 p4 (fun i => img_len i) hL12 ho, Option.bind_some, OK_some]
      exact ⟨rfl, hw, ⟨e2, e3.1⟩, hU, ⟨⟨p1, p2, p3⟩, q6.len, p4.1⟩, hQ.2.2.1, q4⟩
end
