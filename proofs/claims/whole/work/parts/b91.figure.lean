/-! figure, number, take -/
section
variable {N k : Nat} {L X : List Cl} {H : List (Nat × List Cl)} {A : List Int64} {T d was q r t w ic im ha hb hc fl fe : List Int32} {s kept he hl ws mn is hn n bu : Int32} {hf : Nat → Nat × List Int32 × Int32} {mf : Nat → List Int32 × Int32} {fc : Nat → CV}
def kyAt (X : List Cl) (p : Nat) : Int := ky (X.getD p (0, 0, 0))
noncomputable def v_figure (k : Nat) (a b c e : Int) : Int := if 0 ≤ a ∧ a ≤ 1 ∧ 1 ≤ b ∧ b ≤ gre k ∧ 0 ≤ e ∧ e < b ∧ 0 ≤ c then (if c.toNat < (lst k b.toNat a).length then kyAt ((lst k b.toNat a).getD c.toNat []) e.toNat else -9) else -1
theorem lst_mem (hk : k < 3) {z : Nat} (h1 : 1 ≤ z) (h2 : z ≤ gre k) {a : Int} (h : X ∈ lst k z a) : NF k X ∧ X.length = z := ((fxl_ok hk h1 h2).2 X).mp (List.mem_filter.mp h).1
/-- a form is unpacked, and a key of it is told -/
theorem unpKey (hN : 2000 ≤ N) (hX : NF k X) {z : Nat} (hXl : X.length = z) (h8 : z ≤ 8) (hw : w.length = 12) {p : Nat} (hp : p < z) : ∃ T' s', f_X2_unpack N (lN (pck X)) (iI z) w = some (T', s') ∧ f_X2_keyAt N (iI p) T' s' = some (iI (kyAt X p)) ∧ T'.length = 12 := by
  obtain ⟨h1, h2, h3⟩ := unpack_n (N := N) (T := w) (by omega) hX h8 hXl hw
  obtain ⟨c, hc⟩ := gL (show p < X.length by omega)
  refine ⟨_, _, h1, ?_, h3⟩
  rw [keyAt_CE h2 (by omega) hX.1.ok hc]
  unfold kyAt
  rw [List.getD_eq_getElem?_getD, hc]
  rfl
theorem c_figure (hN : 5000 ≤ N) (hk : k < 3) (hw : w.length = 12) (hsi : SI ic mf) (hcat : CatI fc) {a b c e : Int} (a1 : -2147483648 ≤ a ∧ a < 2147483648) (b1 : -2147483648 ≤ b ∧ b < 2147483648) (c1 : -2147483648 ≤ c ∧ c < 2147483648) (e1 : -2147483648 ≤ e ∧ e < 2147483648) :
    OK (f_X11_figure N (iI a) (iI b) (iI c) (iI e) k w ws mn ic is mf fc) (fun u => u.1 = iI (v_figure k a b c e) ∧ u.2.1.length = 12 ∧ SI u.2.2.2.2.1 u.2.2.2.2.2.2.1 ∧ CatI u.2.2.2.2.2.2.2) := by
  have h8 := gre_le (k := k)
  unfold f_X11_figure v_figure
  rw [isListC a1.1 a1.2, Option.bind_some]
  by_cases g : 0 ≤ a ∧ a ≤ 1
  case neg =>
    rw [if_neg g, if_pos (by rfl), OK_some, if_neg (by omega)]
    exact ⟨rfl, hw, hsi, hcat⟩
  rw [if_pos g, if_neg (show ¬ (1 : Int32) = 0 by decide), listed hk b1.1 b1.2, Option.bind_some]
  by_cases g2 : 1 ≤ b ∧ b ≤ gre k
  case neg =>
    rw [if_neg g2, if_pos (by rfl), OK_some, if_neg (by omega)]
    exact ⟨rfl, hw, hsi, hcat⟩
  rw [if_pos g2, if_neg (show ¬ (1 : Int32) = 0 by decide)]
  by_cases g3 : e < 0
  · rw [if_pos (by rw [li0]; exact iI_ltT g3 e1.1 (by omega)), OK_some, if_neg (by omega)]
    exact ⟨rfl, hw, hsi, hcat⟩
  rw [if_neg (by rw [li0]; exact iI_ltF g3 (by omega) e1.2)]
  by_cases g4 : e < b
  case neg =>
    rw [if_neg (iI_ltF g4 b1.1 e1.2), OK_some, if_neg (by omega)]
    exact ⟨rfl, hw, hsi, hcat⟩
  rw [if_pos (iI_ltT g4 e1.1 b1.2)]
  by_cases g5 : c < 0
  · rw [if_pos (by rw [li0]; exact iI_ltT g5 c1.1 (by omega)), OK_some, if_neg (by omega)]
    exact ⟨rfl, hw, hsi, hcat⟩
  rw [if_neg (by rw [li0]; exact iI_ltF g5 (by omega) c1.2), if_pos (show 0 ≤ a ∧ a ≤ 1 ∧ 1 ≤ b ∧ b ≤ gre k ∧ 0 ≤ e ∧ e < b ∧ 0 ≤ c by omega)]
  obtain ⟨z, rfl⟩ := Int.eq_ofNat_of_zero_le (show 0 ≤ b by omega)
  obtain ⟨p, rfl⟩ := Int.eq_ofNat_of_zero_le (show 0 ≤ e by omega)
  obtain ⟨i, rfl⟩ := Int.eq_ofNat_of_zero_le (show 0 ≤ c by omega)
  rw [Int.toNat_natCast, Int.toNat_natCast, Int.toNat_natCast]
  have hget : ∀ {X : List Cl}, (lst k z a)[i]? = some X → (lst k z a).getD i [] = X := fun h => by rw [List.getD_eq_getElem?_getD, h]; rfl
  by_cases ga : a = 1
  · subst ga
    have c1' : (iI 1 : Int32) = 1 := rfl
    rw [if_pos c1', OK_bind]
    refine (freeUp (by omega) hk (by omega) hcat hsi).mono ?_
    rintro ⟨v1, v2, v3, v4, v5, v6⟩ ⟨q1, q2, q3, b', f', t', hP, hb', hf'⟩
    simp only at q1 q2 q3 hP ⊢
    subst q1
    have hfl := frl_len hk (n := z) (by omega) (by omega)
    have hbl : bf v1 z ≤ 1000 := by
      have h1 := (off_bd hk (n := z) (by omega) (by omega)).2.2
      rcases (show v1 = 0 ∨ v1 = 1 ∨ v1 = 2 by omega) with rfl | rfl | rfl
      · rcases (show z = 1 ∨ z = 2 ∨ z = 3 ∨ z = 4 ∨ z = 5 ∨ z = 6 ∨ z = 7 by have : gre 0 = 7 := rfl; omega) with rfl | rfl | rfl | rfl | rfl | rfl | rfl <;> decide
      · rcases (show z = 1 ∨ z = 2 ∨ z = 3 ∨ z = 4 ∨ z = 5 ∨ z = 6 ∨ z = 7 ∨ z = 8 by have : gre 1 = 8 := rfl; omega) with rfl | rfl | rfl | rfl | rfl | rfl | rfl | rfl <;> decide
      · rcases (show z = 1 ∨ z = 2 ∨ z = 3 ∨ z = 4 ∨ z = 5 ∨ z = 6 by have : gre 2 = 6 := rfl; omega) with rfl | rfl | rfl | rfl | rfl | rfl <;> decide
    rw [if_pos c1', if_pos hk, if_pos hk, freLen hP.2.2.1 (by omega) hf', Option.bind_some]
    rw [lst_1] at hget ⊢
    by_cases gi : i < (frl v1 z).length
    · obtain ⟨X, hX⟩ := gL gi
      have hm := lst_mem hk (z := z) (a := 1) (by omega) (by omega) (by rw [lst_1]; exact List.mem_of_getElem? hX)
      obtain ⟨T', s', hu, hk2, hT'⟩ := unpKey (N := N) (w := w) (by omega) hm.1 hm.2 (by omega) hw (p := p) (by omega)
      rw [if_pos (iI_ltT (by omega) (by omega) (by omega)), if_pos c1', freForm hP.2.2.1 hk (by omega) hf' hX, Option.bind_some, hu, Option.bind_some, hk2, Option.bind_some, OK_some, if_pos gi, hget hX]
      exact ⟨rfl, hT', q2, q3⟩
    · rw [if_neg (iI_ltF (by omega) (by omega) (by omega)), OK_some, if_neg gi]
      exact ⟨rfl, hw, q2, q3⟩
  · have ga0 : a = 0 := by omega
    subst ga0
    have c1' : ¬ (iI 0 : Int32) = 1 := by decide
    rw [if_neg c1', OK_bind]
    refine (fixedUp (by omega) hk (by omega) hcat).mono ?_
    rintro ⟨v1, v2⟩ ⟨q1, q3, b', f', t', hP, hb'⟩
    simp only at q1 q3 hP ⊢
    subst q1
    have hfl := off_succ (k := v1) (n := z) (by omega)
    have hbd := (off_bd hk (n := z) (by omega) (by omega)).2.1
    rw [if_neg c1', if_pos hk, if_pos hk, fixLen hP.1 hk (by omega) hb', Option.bind_some]
    rw [lst_0] at hget ⊢
    by_cases gi : i < (fxl v1 z).length
    · obtain ⟨X, hX⟩ := gL gi
      have hm := lst_mem hk (z := z) (a := 0) (by omega) (by omega) (by rw [lst_0]; exact List.mem_of_getElem? hX)
      obtain ⟨T', s', hu, hk2, hT'⟩ := unpKey (N := N) (w := w) (by omega) hm.1 hm.2 (by omega) hw (p := p) (by omega)
      rw [if_pos (iI_ltT (by omega) (by omega) (by omega)), if_neg c1', fixForm hP.1 hk (by omega) hb' hX, Option.bind_some, hu, Option.bind_some, hk2, Option.bind_some, OK_some, if_pos gi, hget hX]
      exact ⟨rfl, hT', hsi, q3⟩
    · rw [if_neg (iI_ltF (by omega) (by omega) (by omega)), OK_some, if_neg gi]
      exact ⟨rfl, hw, hsi, q3⟩
theorem m_figure (hN : 5000 ≤ N) (hd : DK k d) (hsm : SM q r t ha hb hc im) (hmb : MBI bu A fl fe) {a b c e : Int} (a1 : -2147483648 ≤ a ∧ a < 2147483648) (b1 : -2147483648 ≤ b ∧ b < 2147483648) (c1 : -2147483648 ≤ c ∧ c < 2147483648) (e1 : -2147483648 ≤ e ∧ e < 2147483648) :
    OK (f_X12_figure N (iI a) (iI b) (iI c) (iI e) d n q r t ha hb hc hn im bu A fl fe) (fun v => v.1 = iI (v_figure k a b c e) ∧ SBt v.2) := by
  have hk := hd.1
  have h8 := gre_le (k := k)
  unfold f_X12_figure v_figure
  have i1 : f_X12_in N (iI a) 0 1 = some (if 0 ≤ a ∧ a ≤ 1 then 1 else 0) := mIn (N := N) a 0 1 a1 ⟨by omega, by omega⟩ ⟨by omega, by omega⟩
  have i2 : f_X12_in N (iI b) 1 (iI (gre k)) = some (if 1 ≤ b ∧ b ≤ gre k then 1 else 0) := mIn (N := N) b 1 (gre k) b1 ⟨by omega, by omega⟩ ⟨by omega, by omega⟩
  rw [i1, Option.bind_some]
  by_cases g : 0 ≤ a ∧ a ≤ 1
  case neg =>
    rw [if_neg g, if_pos (by rfl), OK_some, if_neg (by omega)]
    exact ⟨rfl, hsm, hmb⟩
  rw [if_pos g, if_neg (show ¬ (1 : Int32) = 0 by decide), mGre hd, Option.bind_some, i2, Option.bind_some]
  by_cases g2 : 1 ≤ b ∧ b ≤ gre k
  case neg =>
    rw [if_neg g2, if_pos (by rfl), OK_some, if_neg (by omega)]
    exact ⟨rfl, hsm, hmb⟩
  rw [if_pos g2, if_neg (show ¬ (1 : Int32) = 0 by decide)]
  by_cases g5 : c < 0
  · rw [if_pos (by rw [li0]; exact iI_ltT g5 c1.1 (by omega)), OK_some, if_neg (by omega)]
    exact ⟨rfl, hsm, hmb⟩
  have e0 : iI b - 1 = iI (b - 1) := by rw [li1, iI_sub]
  have i3 : f_X12_in N (iI e) 0 (iI (b - 1)) = some (if 0 ≤ e ∧ e ≤ b - 1 then 1 else 0) := mIn (N := N) e 0 (b - 1) e1 ⟨by omega, by omega⟩ ⟨by omega, by omega⟩
  rw [if_neg (by rw [li0]; exact iI_ltF g5 (by omega) c1.2), e0, i3, Option.bind_some]
  by_cases g3 : 0 ≤ e ∧ e ≤ b - 1
  case neg =>
    rw [if_neg g3, if_pos (by rfl), OK_some, if_neg (by omega)]
    exact ⟨rfl, hsm, hmb⟩
  rw [if_pos g3, if_neg (show ¬ (1 : Int32) = 0 by decide), if_pos (show 0 ≤ a ∧ a ≤ 1 ∧ 1 ≤ b ∧ b ≤ gre k ∧ 0 ≤ e ∧ e < b ∧ 0 ≤ c by omega)]
  obtain ⟨z, rfl⟩ := Int.eq_ofNat_of_zero_le (show 0 ≤ b by omega)
  obtain ⟨p, rfl⟩ := Int.eq_ofNat_of_zero_le (show 0 ≤ e by omega)
  obtain ⟨i, rfl⟩ := Int.eq_ofNat_of_zero_le (show 0 ≤ c by omega)
  rw [Int.toNat_natCast, Int.toNat_natCast, Int.toNat_natCast, OK_bind]
  refine (placeM (by omega) hd hsm hmb (s := z) (l := a) (by omega) (by omega) (by omega) (by omega)).mono ?_
  rintro ⟨x, w⟩ ⟨hw, hcase⟩
  have hM := hw.2.2
  simp only at hcase hw hM ⊢
  have hbd := (off_bd hk (n := z) (by omega) (by omega)).2.1
  have hfl := off_succ (k := k) (n := z) (by omega)
  rcases hcase with ⟨pp, X, p1, p2, rfl⟩ | ⟨hlen, rfl⟩
  · have hf := hM.fig hk (by omega) (by omega) p1
    have hlt := lt_of_get p1
    have hi := lt_of_get p2
    rw [if_neg (by rw [li0]; exact iI_ltF (by omega) (by omega) (by omega)), hf.1, Option.bind_some, OK_bind]
    refine (figN (by omega) hf.2.2.1 hf.2.2.2 (by omega) hw.1.1).mono ?_
    rintro ⟨m2, q2, r2, t2⟩ ⟨em, hmr⟩
    simp only at em hmr ⊢
    obtain ⟨cc, hcc⟩ := gL (show p < X.length by rw [hf.2.2.2]; omega)
    rw [mKeyOf hmr hcc, Option.bind_some, OK_some, if_pos hi]
    have hg : (lst k z a).getD i [] = X := by rw [List.getD_eq_getElem?_getD, p2]; rfl
    refine ⟨?_, ⟨hmr.len, hw.1.2⟩, (hw.sbt hk).2⟩
    rw [hg]
    unfold kyAt
    rw [List.getD_eq_getElem?_getD, hcc]
    rfl
  · rw [if_pos (by rw [li0]; exact iI_ltT (by omega) (by omega) (by omega)), OK_some, if_neg (by omega)]
    exact ⟨rfl, hw.sbt hk⟩
/-- what number must answer -/
def NV (k : Nat) (L : List Cl) (a : Int) (x : Int32) : Prop := (¬ (0 ≤ a ∧ a ≤ 1) → x = -1) ∧ (0 ≤ a ∧ a ≤ 1 → ¬ Conn k L → x = -2) ∧ (0 ≤ a ∧ a ≤ 1 → Conn k L → gre k < L.length → x = -9) ∧ (0 ≤ a ∧ a ≤ 1 → Conn k L → L.length ≤ gre k → ∀ p, (fxl k L.length)[p]? = some (if a = 0 then nrm L else can k L) → x = iI (((fxl k L.length).take p).filter (slB k a)).length)
theorem NV.uniq (hD : Dr k L) {a : Int} {x y : Int32} (h1 : NV k L a x) (h2 : NV k L a y) : x = y := by
  have hk := hD.1
  by_cases g : 0 ≤ a ∧ a ≤ 1
  · by_cases hC : Conn k L
    · rcases Nat.lt_or_ge (gre k) L.length with g2 | g2
      · rw [h1.2.2.1 g hC g2, h2.2.2.1 g hC g2]
      · have hSm := hD.sm hC
        have hlen : 1 ≤ L.length := List.length_pos_iff.mpr hC.1
        have hm : (if a = 0 then nrm L else can k L) ∈ fxl k L.length := by
          rw [(fxl_ok hk hlen g2).2]
          by_cases ga : a = 0
          · rw [if_pos ga]; exact ⟨nrm_NF hSm.fg, nrm_len⟩
          · rw [if_neg ga]; exact ⟨can_NF hSm, can_len⟩
        obtain ⟨p, hp⟩ := List.mem_iff_getElem?.mp hm
        rw [h1.2.2.2 g hC g2 p hp, h2.2.2.2 g hC g2 p hp]
    · rw [h1.2.1 g hC, h2.2.1 g hC]
  · rw [h1.1 g, h2.1 g]
theorem flt_0 {F : List (List Cl)} : F.filter (slB k 0) = F := List.filter_eq_self.mpr (fun X _ => by unfold slB; rw [if_pos rfl])
theorem flt_1 {F : List (List Cl)} : F.filter (slB k 1) = F.filter (canB k) := List.filter_congr (fun X _ => by unfold slB; rw [if_neg (by decide)])
theorem c_number (hN : 5000 ≤ N) (hD : Dr k L) (hL : CE 12 L T s) (hw : w.length = 12) (hsi : SI ic mf) (hcat : CatI fc) {a : Int} (a1 : -2147483648 ≤ a ∧ a < 2147483648) :
    OK (f_X11_number N (iI a) k T s w ws mn ic is mf fc) (fun u => NV k L a u.1 ∧ u.2.1.length = 12 ∧ SI u.2.2.2.2.1 u.2.2.2.2.2.2.1 ∧ CatI u.2.2.2.2.2.2.2) := by
  have hk := hD.1
  have h8 := gre_le (k := k)
  have hL12 := hD.2.2.1
  have hs : s = iI L.length := by obtain ⟨J, _, _, h3⟩ := hL; exact h3
  unfold f_X11_number
  rw [isListC a1.1 a1.2, Option.bind_some]
  by_cases g : 0 ≤ a ∧ a ≤ 1
  case neg =>
    rw [if_neg g, if_pos (by rfl), OK_some]
    exact ⟨⟨fun _ => rfl, fun h => absurd h g, fun h => absurd h g, fun h => absurd h g⟩, hw, hsi, hcat⟩
  rw [if_pos g, if_neg (show ¬ (1 : Int32) = 0 by decide), OK_bind]
  refine (figC (by omega) hD hL).mono (fun u hu => ?_)
  rcases hu with ⟨hC, rfl⟩ | ⟨hC, rfl⟩
  case inr =>
    rw [if_pos (by rfl), OK_some]
    exact ⟨⟨fun h => absurd g h, fun _ _ => rfl, fun _ h => absurd h hC, fun _ h => absurd h hC⟩, hw, hsi, hcat⟩
  rw [if_neg (show ¬ (1 : Int32) = 0 by decide), if_pos hk, zgre_eq]
  rcases Nat.lt_or_ge (gre k) L.length with g2 | g2
  · rw [hs, if_pos (iI_ltT (by omega) (by omega) (by omega)), OK_some]
    exact ⟨⟨fun h => absurd g h, fun _ h => absurd hC h, fun _ _ _ => rfl, fun _ _ h => by omega⟩, hw, hsi, hcat⟩
  have hSm := hD.sm hC
  have hNF := nrm_NF hSm.fg
  have hlen : 1 ≤ L.length := List.length_pos_iff.mpr hC.1
  obtain ⟨J, hcp, hJ⟩ := copy_CE (N := N) (by omega) hw hL hL12 (by omega)
  rw [hcp]
  rw [hs, if_neg (iI_ltF (by omega) (by omega) (by omega)), Option.bind_some, normalise_eq (by omega) (by omega) hD.ld.ok hSm.fg.ok, Option.bind_some]
  have hW : CE 12 (nrm L) ((nrm L).map cI ++ J) (iI L.length) := ⟨J, rfl, by simp [nrm_len]; omega, by rw [nrm_len]⟩
  have hW12 : ((nrm L).map cI ++ J).length = 12 := by simp [nrm_len]; omega
  have fin : ∀ {x : Int32}, (∀ p, (fxl k L.length)[p]? = some (if a = 0 then nrm L else can k L) → x = iI (((fxl k L.length).take p).filter (slB k a)).length) → NV k L a x := fun h => ⟨fun h' => absurd g h', fun _ h' => absurd hC h', fun _ _ h' => by omega, fun _ _ _ => h⟩
  by_cases ga : a = 0
  · subst ga
    rw [if_pos (by rfl), OK_bind]
    refine (fixedUp (by omega) hk g2 hcat).mono ?_
    rintro ⟨v1, v2⟩ ⟨q1, q3, b', f', t', hP, hb'⟩
    simp only at q1 q3 hP ⊢
    subst q1
    have hpk := packed_eq (N := N) (J := J) (by omega) (hNF.kk (by rw [nrm_len]; omega)) hNF.1.ok
    rw [nrm_len] at hpk
    rw [hpk, Option.bind_some, if_pos hk, if_pos hk]
    obtain ⟨p, hp⟩ := List.mem_iff_getElem?.mp (((fxl_ok hk hlen g2).2 (nrm L)).mpr ⟨hNF, nrm_len⟩)
    rw [fixPlace (by omega) hP.1 hk hlen hb' hp, Option.bind_some, OK_some]
    refine ⟨fin (fun p' hp' => ?_), hW12, hsi, q3⟩
    rw [if_pos rfl] at hp'
    have e : p' = p := by
      have h1 : (fxp v1 L.length)[p]? = some (pck (nrm L)) := by unfold fxp; rw [List.getElem?_map, hp]; rfl
      have h2 : (fxp v1 L.length)[p']? = some (pck (nrm L)) := by unfold fxp; rw [List.getElem?_map, hp']; rfl
      rcases Nat.lt_or_ge p p' with g1 | g1
      · have := Asc.lt (fxp_asc hk hlen g2) g1 h1 h2; omega
      · rcases Nat.lt_or_ge p' p with g3 | g3
        · have := Asc.lt (fxp_asc hk hlen g2) g3 h2 h1; omega
        · omega
    subst e
    rw [flt_0, List.length_take, Nat.min_eq_left (Nat.le_of_lt (lt_of_get hp'))]
  · have ga1 : a = 1 := by omega
    subst ga1
    rw [if_neg (by decide), OK_bind]
    refine (freeUp (by omega) hk g2 hcat hsi).mono ?_
    rintro ⟨v1, v2, v3, v4, v5, v6⟩ ⟨q1, q2, q3, b', f', t', hP, hb', hf'⟩
    simp only at q1 q2 q3 hP ⊢
    subst q1
    rw [OK_bind]
    refine (survey_eq (by omega) (nrm_sm hSm) hW q2.1 q2.2).mono ?_
    rintro ⟨n2, ic2, is2, mf2⟩ ⟨e1, e2, e3⟩
    simp only at e1 e2 e3 ⊢
    subst e1
    have htu := tur_pos (k := v1)
    have hb := bst_lt (F := img v1 (nrm L)) (n := 2 * tur v1) (by omega)
    rw [smallest_eq (m := (nrm L).length) (by omega) e3 (fun i => img_len i) (fun i => (img_Nf (nrm_sm hSm) i).ok) (by omega) (by omega), Option.bind_some, if_pos (by omega)]
    obtain ⟨K, hK1, hK2, hK3⟩ := e3.2 _ hb
    have hcN := can_NF (nrm_sm hSm)
    have hpk := packed_eq (N := N) (J := K) (by omega) (hcN.kk (by rw [can_len, nrm_len]; omega)) hcN.1.ok
    rw [show (mf2 (bst (img v1 (nrm L)) (2 * tur v1))).1 = (can v1 (nrm L)).map cI ++ K from hK1, show (mf2 (bst (img v1 (nrm L)) (2 * tur v1))).2 = iI (can v1 (nrm L)).length from hK3, hpk, Option.bind_some, if_pos hk, if_pos hk, can_nrm hSm]
    have hcB : canB v1 (can v1 L) = true := canB_iff.mpr (can_can hSm)
    obtain ⟨p, hp⟩ := List.mem_iff_getElem?.mp (((fxl_ok hk hlen g2).2 (can v1 L)).mpr ⟨can_NF hSm, can_len⟩)
    have hfr : (frl v1 L.length)[(((fxl v1 L.length).take p).filter (canB v1)).length]? = some (can v1 L) := flt_at hp hcB
    rw [frePlace (by omega) hP.2.2.1 hk hlen hf' hfr, Option.bind_some, OK_some]
    refine ⟨fin (fun p' hp' => ?_), hW12, ⟨e2, e3.1⟩, q3⟩
    rw [if_neg (by decide)] at hp'
    have e : p' = p := by
      have h1 : (fxp v1 L.length)[p]? = some (pck (can v1 L)) := by unfold fxp; rw [List.getElem?_map, hp]; rfl
      have h2 : (fxp v1 L.length)[p']? = some (pck (can v1 L)) := by unfold fxp; rw [List.getElem?_map, hp']; rfl
      rcases Nat.lt_or_ge p p' with g1 | g1
      · have := Asc.lt (fxp_asc hk hlen g2) g1 h1 h2; omega
      · rcases Nat.lt_or_ge p' p with g3 | g3
        · have := Asc.lt (fxp_asc hk hlen g2) g3 h2 h1; omega
        · omega
    subst e
    rw [flt_1]
theorem m_number (hN : 5000 ≤ N) (hD : Dr k L) (hd : DR k L d) (hsm : SM q r t ha hb hc im) (hmb : MBI bu A fl fe) {a : Int} (a1 : -2147483648 ≤ a ∧ a < 2147483648) :
    OK (f_X12_number N (iI a) d n q r t ha hb hc hn im bu A fl fe) (fun v => NV k L a v.1 ∧ SBt v.2) := by
  have hk := hD.1
  have h8 := gre_le (k := k)
  have hL12 := hD.2.2.1
  unfold f_X12_number
  have i1 : f_X12_in N (iI a) 0 1 = some (if 0 ≤ a ∧ a ≤ 1 then 1 else 0) := mIn (N := N) a 0 1 a1 ⟨by omega, by omega⟩ ⟨by omega, by omega⟩
  rw [i1, Option.bind_some]
  by_cases g : 0 ≤ a ∧ a ≤ 1
  case neg =>
    rw [if_neg g, if_pos (by rfl), OK_some]
    exact ⟨⟨fun _ => rfl, fun h => absurd h g, fun h => absurd h g, fun h => absurd h g⟩, hsm, hmb⟩
  rw [if_pos g, if_neg (show ¬ (1 : Int32) = 0 by decide), OK_bind]
  refine (figM hN hD hd hsm.1).mono ?_
  rintro ⟨v1, v2, v3, v4, v5⟩ ⟨hv, ev, hmr⟩
  simp only at hv ev hmr ⊢
  subst ev
  rcases hv with ⟨hC, rfl⟩ | ⟨hC, rfl⟩
  case inr =>
    rw [if_pos (by rfl), OK_some]
    exact ⟨⟨fun h => absurd g h, fun _ _ => rfl, fun _ h => absurd h hC, fun _ h => absurd h hC⟩, ⟨hmr.len, hsm.2⟩, hmb⟩
  rw [if_neg (show ¬ (1 : Int32) = 0 by decide), mGre hd.1, Option.bind_some]
  rcases Nat.lt_or_ge (gre k) L.length with g2 | g2
  · rw [if_pos (iI_ltT (by omega) (by omega) (by omega)), OK_some]
    exact ⟨⟨fun h => absurd g h, fun _ h => absurd hC h, fun _ _ _ => rfl, fun _ _ h => by omega⟩, ⟨hmr.len, hsm.2⟩, hmb⟩
  have hSm := hD.sm hC
  have hNF := nrm_NF hSm.fg
  have hlen : 1 ≤ L.length := List.length_pos_iff.mpr hC.1
  rw [if_neg (iI_ltF (by omega) (by omega) (by omega)), OK_bind]
  refine (mSet hmr (by omega) hSm.fg.ne hD.ld.ok hSm.fg.ok).mono ?_
  rintro ⟨y1, y2, y3⟩ hm2
  simp only at hm2 ⊢
  have fin : ∀ {x : Int32}, (∀ p, (fxl k L.length)[p]? = some (if a = 0 then nrm L else can k L) → x = iI (((fxl k L.length).take p).filter (slB k a)).length) → NV k L a x := fun h => ⟨fun h' => absurd g h', fun _ h' => absurd hC h', fun _ _ h' => by omega, fun _ _ _ => h⟩
  -- the search
  have srch : ∀ {Y : List Cl} {w : MT}, Y = (if a = 0 then nrm L else can k L) → SBk k w → OK ((z_get w.2.2.2.2.2.2.2.2.2.2.2.2 (iI L.length)).bind fun x11 => (f_X12_number_L75 N (iI a) (lN (pck Y)) w.2.2.2.2.2.2.2.2.2.2.1 w.2.2.2.2.2.2.2.2.2.2.2.1 N 0 x11).bind fun e17 => some (e17, w.1, w.2.1, w.2.2.1, w.2.2.2.1, w.2.2.2.2.1, w.2.2.2.2.2.1, w.2.2.2.2.2.2.1, w.2.2.2.2.2.2.2.1, w.2.2.2.2.2.2.2.2.1, w.2.2.2.2.2.2.2.2.2.1, w.2.2.2.2.2.2.2.2.2.2.1, w.2.2.2.2.2.2.2.2.2.2.2.1, w.2.2.2.2.2.2.2.2.2.2.2.2)) (fun v => NV k L a v.1 ∧ SBt v.2) := by
    intro Y w hY hw
    have hM := hw.2.2
    have hm : Y ∈ fxl k L.length := by
      rw [(fxl_ok hk hlen g2).2, hY]
      by_cases ga : a = 0
      · rw [if_pos ga]; exact ⟨hNF, nrm_len⟩
      · rw [if_neg ga]; exact ⟨can_NF hSm, can_len⟩
    obtain ⟨p, hp⟩ := List.mem_iff_getElem?.mp hm
    have hnm := numberM (N := N) (l := a) (by omega) hk hM hlen g2 (by omega) hp
    rw [(hM.fr hlen g2).1, Option.bind_some, hnm, Option.bind_some, OK_some]
    refine ⟨fin (fun p' hp' => ?_), hw.sbt hk⟩
    rw [← hY] at hp'
    have e : p' = p := by
      have h1 : (fxp k L.length)[p]? = some (pck Y) := by unfold fxp; rw [List.getElem?_map, hp]; rfl
      have h2 : (fxp k L.length)[p']? = some (pck Y) := by unfold fxp; rw [List.getElem?_map, hp']; rfl
      rcases Nat.lt_or_ge p p' with g1 | g1
      · have := Asc.lt (fxp_asc hk hlen g2) g1 h1 h2; omega
      · rcases Nat.lt_or_ge p' p with g3 | g3
        · have := Asc.lt (fxp_asc hk hlen g2) g3 h2 h1; omega
        · omega
    subst e
    rfl
  by_cases ga : a = 0
  · have c0 : iI a = 0 := by rw [ga]; rfl
    have hpk := mPacks (N := N) hm2 (by omega) (hNF.kk (by rw [nrm_len]; omega))
    rw [nrm_len] at hpk
    rw [if_pos c0, hpk, Option.bind_some, OK_bind]
    refine (bldM (by omega) hd.1 ⟨hm2.len, hsm.2⟩ hmb).mono ?_
    intro w hw
    exact srch (by rw [if_pos ga]) hw
  · have c0 : ¬ iI a = 0 := by rw [li0]; exact iI_eqF ga a1.1 a1.2 (by omega) (by omega)
    have hcn := mCanonical (N := N) (by omega) (nrm_sm hSm) (by rw [nrm_len]; omega) hd.1 hm2 hsm.2.1.1 hsm.2.1.2.1 hsm.2.1.2.2 hsm.2.2
    rw [nrm_len, can_nrm hSm] at hcn
    rw [if_neg c0, OK_bind]
    refine OK.mono hcn ?_
    rintro ⟨x1, x2, x3, x4, x5, x6, x7, x8, x9, x10⟩ ⟨d1, d2, d3, d4, d5, d6, d7, d8⟩
    simp only at d1 d2 d3 d4 d5 d6 d7 d8 ⊢
    subst d1
    rw [OK_bind]
    refine (bldM (by omega) hd.1 ⟨⟨d2, d3, d4⟩, ⟨d5, d6, d7⟩, d8⟩ hmb).mono ?_
    intro w hw
    exact srch (by rw [if_neg ga]) hw
end
