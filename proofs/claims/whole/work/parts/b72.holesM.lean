/-! the reference's sides, borders and holes -/
section
variable {N k : Nat} {a b c u v : Cl} {L : List Cl} {M que d q r t : List Int32} {v0 : Cl → Int} {mk : Int}
theorem dg_3 (hk : k < 3) : dg k = 4 ∨ dg k = 3 ∨ dg k = 6 := by unfold dg; split <;> (try split) <;> omega
/-- sides up to side j -/
def pA (k : Nat) (L : List Cl) (D j : Nat) : Nat := sdA k L (L.take (j / D)) + cnt (fun e => decide (nb k (L.getD (j / D) (0, 0, 0)) e ∉ L)) (j % D)
theorem pA_step {D j : Nat} (hD : dg k = D) (h0 : 0 < D) (hu : L[j / D]? = some u) : pA k L D (j + 1) = pA k L D j + if nb k u (j % D : Nat) ∉ L then 1 else 0 := by
  unfold pA
  have hg : L.getD (j / D) (0, 0, 0) = u := by rw [List.getD_eq_getElem?_getD, hu]; rfl
  have hm := Nat.mod_lt j h0
  rw [hg]
  by_cases e : j % D + 1 < D
  · have h1 : (j + 1) / D = j / D := by
      rw [Nat.succ_div, if_neg]; · rfl
      intro h
      have := Nat.mod_eq_zero_of_dvd h
      rw [Nat.add_mod, Nat.mod_eq_of_lt (show 1 < D by omega), Nat.mod_eq_of_lt e] at this
      omega
    have h2 : (j + 1) % D = j % D + 1 := by
      rw [Nat.add_mod, Nat.mod_eq_of_lt (show 1 < D by omega), Nat.mod_eq_of_lt e]
    rw [h1, h2, hg, cnt]
    simp only [decide_eq_true_iff]
    omega
  · have e1 : j % D + 1 = D := by omega
    have h3 := Nat.div_add_mod j D
    have h1 : j + 1 = D * (j / D + 1) := by rw [Nat.mul_add, Nat.mul_one]; omega
    have h2 : (j + 1) / D = j / D + 1 := by rw [h1]; exact Nat.mul_div_cancel_left _ h0
    have h4 : (j + 1) % D = 0 := by rw [h1]; exact Nat.mul_mod_right _ _
    rw [h2, h4, sdA_next hu, hD, cnt]
    rw [show cnt (fun d => decide (nb k u d ∉ L)) D = cnt (fun d => decide (nb k u d ∉ L)) (j % D + 1) by rw [e1], cnt]
    simp only [decide_eq_true_iff]
    omega
theorem mSidesD {D : Nat} (hN : 1000 ≤ N) (hd : DK k d) (hm : MR L q r t) (h : Ld k L) (hD : dg k = D) (h0 : 0 < D) (hD6 : D ≤ 6) : f_X12_sides N d (iI L.length) q r t = some (iI (sdN k L : Nat)) := by
  have hL := h.2.2.1
  have hnD : L.length * D ≤ 72 := Nat.le_trans (Nat.mul_le_mul hL hD6) (by decide)
  have key : OK (f_X12_sides_L4 N d (iI L.length) q r t N 0 0) (fun w => w = iI (sdN k L : Nat)) := by
    refine zlp2 (L.length * D) (fun j w z => z = iI j ∧ w = iI (pA k L D j : Nat)) ?_ N 0 _ _ (by omega) (by omega) ⟨rfl, ?_⟩
    · rintro fu j w z hj ⟨rfl, rfl⟩ ih
      rw [f_X12_sides_L4, mDir hd, Option.bind_some, hD, iI_mul]
      rcases Nat.lt_or_ge j (L.length * D) with g | g
      · have hjd : j / D < L.length := Nat.div_lt_of_lt_mul (by rw [Nat.mul_comm]; exact g)
        have hjm := Nat.mod_lt j h0
        obtain ⟨u, hu⟩ := gL hjd
        have hum := List.mem_of_getElem? hu
        have hjl := Nat.div_le_self j D
        have e1 : (j : Int) / (D : Int) = ((j / D : Nat) : Int) := rfl
        have e2 : (j : Int) % (D : Int) = ((j % D : Nat) : Int) := rfl
        have hlt : (j : Int) < (L.length : Int) * (D : Int) := by rw [← Int.natCast_mul]; omega
        rw [if_pos (iI_ltT hlt (by omega) (by rw [← Int.natCast_mul]; omega)), Option.bind_some, if_neg (by rw [li0]; exact iI_eqF (by omega) (by omega) (by omega) (by omega) (by omega)), Option.bind_some, if_neg (by rw [li0]; exact iI_eqF (by omega) (by omega) (by omega) (by omega) (by omega)), iI_rem (by omega) (by omega) (by omega) (by omega), iI_div (by omega) (by omega) (by omega) (by omega), e1, e2, hm.gq hu, Option.bind_some, hm.gt hu, Option.bind_some]
        have hst := mStep (N := N) (e := ((j % D : Nat) : Int)) hd (h.2.2.2 u hum).1 (by omega) (by omega)
        rw [hst.1, Option.bind_some, hm.gr hu, Option.bind_some, Option.bind_some, hst.2, Option.bind_some, Option.bind_some, mSide hd (h.2.2.2 u hum).1, Option.bind_some, iI_add, iI_add]
        have hf := mFind (N := N) hm (by omega) h.ok (nb_ok (h.2.2.2 u hum) (j % D : Nat))
        have hst := pA_step (k := k) hD h0 hu
        obtain ⟨w, hf, hw⟩ := hf
        rcases hw with ⟨hno, rfl⟩ | ⟨i, hil, rfl⟩
        · rw [show f_X12_find N (iI (u.1 + gQ k u.2.2 ((j % D : Nat) : Int))) (iI (u.2.1 + gR k u.2.2 ((j % D : Nat) : Int))) (iI (gT k u.2.2)) (iI L.length) q r t = _ from hf, Option.bind_some, if_pos (by rw [li0]; exact iI_ltT (by omega) (by omega) (by omega))]
          refine ih g _ _ ⟨iI_succ j, ?_⟩
          rw [hst, if_pos hno, iI_succ]
        · have hmem : nb k u ((j % D : Nat) : Int) ∈ L := List.mem_of_getElem? hil
          have hil2 := lt_of_get hil
          rw [show f_X12_find N (iI (u.1 + gQ k u.2.2 ((j % D : Nat) : Int))) (iI (u.2.1 + gR k u.2.2 ((j % D : Nat) : Int))) (iI (gT k u.2.2)) (iI L.length) q r t = _ from hf, Option.bind_some, if_neg (by rw [li0]; exact iI_ltF (by omega) (by omega) (by omega))]
          refine ih g _ _ ⟨iI_succ j, ?_⟩
          rw [hst, if_neg (fun hn => hn hmem), li0, iI_add, Int.add_zero, Nat.add_zero]
      · have e0 : j = L.length * D := by omega
        subst e0
        rw [if_neg (iI_ltF (by rw [← Int.natCast_mul]; omega) (by rw [← Int.natCast_mul]; omega) (by omega)), OK_some]
        congr 2
        unfold pA sdN
        rw [Nat.mul_div_cancel _ h0, Nat.mul_mod_left, List.take_length, cnt, Nat.add_zero]
    · unfold pA
      rw [Nat.zero_div, Nat.zero_mod, cnt]
      rfl
  obtain ⟨w, hw, rfl⟩ := key
  unfold f_X12_sides
  rw [hw]
  rfl
theorem mSides (hN : 1000 ≤ N) (hd : DK k d) (hm : MR L q r t) (h : Ld k L) : f_X12_sides N d (iI L.length) q r t = some (iI (sdN k L : Nat)) :=
  mSidesD hN hd hm h rfl (by have := dg_3 h.1; omega) dg_le
/-- the cell of a spot -/
def clA (j : Nat) : Cl := (((j % 28 / 2 : Nat) : Int) - 2, ((j / 28 : Nat) : Int) - 2, ((j % 2 : Nat) : Int))
theorem clA_sp {j : Nat} : spI (clA j) = j := by
  simp only [spI, clA]
  omega
theorem clA_W {j : Nat} (hj : j < 392) (hv : k = 1 ∨ j % 2 = 0) : WM k (clA j) := by
  refine ⟨?_, ?_, ?_, ?_, ?_⟩
  · show -2 ≤ ((j % 28 / 2 : Nat) : Int) - 2; omega
  · show ((j % 28 / 2 : Nat) : Int) - 2 ≤ 11; omega
  · show -2 ≤ ((j / 28 : Nat) : Int) - 2; omega
  · show ((j / 28 : Nat) : Int) - 2 ≤ 11; omega
  · show okT k ((j % 2 : Nat) : Int)
    unfold okT
    omega
theorem sp_clA (h : WM k c) : clA (spI c) = c ∧ (k = 1 ∨ spI c % 2 = 0) := by
  refine ⟨sp_ix.2 _ _ (clA_W (k := k) (sp_ix.1 c h) ?_) h clA_sp, ?_⟩
  all_goals
    have := (sp_dec h).2.2
    have h5 := h.2.2.2.2
    unfold okT at h5
    omega
/-- what a field says -/
def FV (k : Nat) (L Q : List Cl) (M : List Int32) : Prop := (∀ c, c ∈ Q ↔ Rc k (Fr k L (-2) 11 (-2) 11) (-2, -2, 0) c) ∧ (∀ c, c ∈ Q → c ∉ L) ∧ MK (WM k) spI 392 (fun c => if c ∈ Q then 2 else if c ∈ L then 1 else 0) M
theorem FLD.fv (h : FLD k L M) (hb : B9 k L) : ∃ Q, FV k L Q M := by
  obtain ⟨Q, h1, h2⟩ := h
  refine ⟨Q, h1, fun c hc => ?_, h2⟩
  have haW : WM k (-2, -2, 0) := ⟨Int.le_refl _, by show (-2 : Int) ≤ 11; omega, Int.le_refl _, by show (-2 : Int) ≤ 11; omega, Or.inl rfl⟩
  have haL : ((-2, -2, 0) : Cl) ∉ L := fun h => by have := (hb _ h).1; simp at this
  exact (((h1 c).mp hc).inS ⟨haW, haL⟩).2
theorem FV.g {Q : List Cl} (h : FV k L Q M) (hc : WM k c) : z_get M (iI (spI c)) = some (iI (if c ∈ Q then 2 else if c ∈ L then 1 else 0)) := gI (h.2.2.2 c hc) (by rw [h.2.2.1]; decide)
theorem FV.is1 {Q : List Cl} (h : FV k L Q M) : (iI (if c ∈ Q then 2 else if c ∈ L then 1 else 0) = 1) = (c ∈ L) := by
  by_cases e : c ∈ Q
  · rw [if_pos e]; have := h.2.1 c e; simp only [this, eq_iff_iff, iff_false]; decide
  · rw [if_neg e]
    by_cases e2 : c ∈ L
    · rw [if_pos e2]; simp only [e2, eq_iff_iff, iff_true]; rfl
    · rw [if_neg e2]; simp only [e2, eq_iff_iff, iff_false]; decide
theorem FV.is2 {Q : List Cl} (h : FV k L Q M) : (iI (if c ∈ Q then 2 else if c ∈ L then 1 else 0) = 2) = (c ∈ Q) := by
  by_cases e : c ∈ Q
  · rw [if_pos e]; simp only [e, eq_iff_iff, iff_true]; rfl
  · rw [if_neg e]
    by_cases e2 : c ∈ L
    · rw [if_pos e2]; simp only [e, eq_iff_iff, iff_false]; decide
    · rw [if_neg e2]; simp only [e, eq_iff_iff, iff_false]; decide
def Bd (k : Nat) (L : List Cl) (c : Cl) : Prop := c ∉ L ∧ ∃ v ∈ L, adj k c v
theorem mIsBorder (hN : 1000 ≤ N) (hd : DK k d) (hb : B9 k L) {Q : List Cl} (h : FV k L Q M) (hc : WM k c) : OK (f_X12_isBorder N (iI (spI c)) d M) (fun u => (Bd k L c ∧ u = 1) ∨ (¬ Bd k L c ∧ u = 0)) := by
  have hdk := dg_le (k := k)
  unfold f_X12_isBorder
  rw [OK_bind]
  refine OK.mono (Q := fun u => ((∃ v ∈ L, adj k c v) ∧ u = 1) ∨ (¬ (∃ v ∈ L, adj k c v) ∧ u = 0)) ?_ ?_
  · refine zlp2 (dg k) (fun e w z => z = iI e ∧ (((∃ d', d' < e ∧ nb k c d' ∈ L) ∧ w = 1) ∨ (¬ (∃ d', d' < e ∧ nb k c d' ∈ L) ∧ w = 0))) ?_ N 0 _ _ (by omega) (by omega) ⟨rfl, Or.inr ⟨fun ⟨j, hj, _⟩ => by omega, rfl⟩⟩
    rintro fu e w z he ⟨rfl, hw⟩ ih
    rw [f_X12_isBorder_L4, mDir hd, Option.bind_some]
    rcases Nat.lt_or_ge e (dg k) with g | g
    · rw [if_pos (iI_ltT (by omega) (by omega) (by omega)), mBeside hd hc g, Option.bind_some, iI_succ]
      rcases hw with ⟨hw, rfl⟩ | ⟨hw, rfl⟩
      · rw [if_neg (by decide)]
        refine ih g _ _ ⟨rfl, Or.inl ⟨?_, rfl⟩⟩
        obtain ⟨d', h1, h2⟩ := hw
        exact ⟨d', by omega, h2⟩
      · rw [if_pos rfl]
        by_cases hin : -2 ≤ (nb k c e).1 ∧ (nb k c e).1 ≤ 11 ∧ -2 ≤ (nb k c e).2.1 ∧ (nb k c e).2.1 ≤ 11
        · have hW : WM k (nb k c e) := ⟨hin.1, hin.2.1, hin.2.2.1, hin.2.2.2, okT_nb hc.2.2.2.2⟩
          have hlt2 := sp_ix.1 _ hW
          rw [if_pos hin, if_neg (by rw [li0]; exact iI_ltF (by omega) (by omega) (by omega)), h.g hW, Option.bind_some]
          by_cases hm : nb k c e ∈ L
          · rw [if_pos (by rw [h.is1]; exact hm)]
            exact ih g _ _ ⟨rfl, Or.inl ⟨⟨e, by omega, hm⟩, rfl⟩⟩
          · rw [if_neg (by rw [h.is1]; exact hm)]
            refine ih g _ _ ⟨rfl, Or.inr ⟨?_, rfl⟩⟩
            rintro ⟨d', h1, h2⟩
            rcases Nat.lt_or_ge d' e with g1 | g1
            · exact hw ⟨d', g1, h2⟩
            · rw [show d' = e by omega] at h2; exact hm h2
        · rw [if_neg hin, if_pos (by rw [li0]; exact iI_ltT (by omega) (by omega) (by omega))]
          refine ih g _ _ ⟨rfl, Or.inr ⟨?_, rfl⟩⟩
          rintro ⟨d', h1, h2⟩
          rcases Nat.lt_or_ge d' e with g1 | g1
          · exact hw ⟨d', g1, h2⟩
          · rw [show d' = e by omega] at h2
            have := inB_WM (hb _ h2)
            exact hin ⟨this.1, this.2.1, this.2.2.1, this.2.2.2.1⟩
    · rw [if_neg (iI_ltF (by omega) (by omega) (by omega)), OK_some]
      rcases hw with ⟨⟨d', h1, h2⟩, rfl⟩ | ⟨hw, rfl⟩
      · exact Or.inl ⟨⟨_, h2, d', by omega, rfl⟩, rfl⟩
      · refine Or.inr ⟨?_, rfl⟩
        rintro ⟨v, hv, d', hd', rfl⟩
        exact hw ⟨d', by omega, hv⟩
  · rintro w (⟨hw, rfl⟩ | ⟨hw, rfl⟩)
    · rw [if_neg (by decide), h.g hc, Option.bind_some]
      by_cases e : c ∈ L
      · rw [if_pos (by rw [h.is1]; exact e), OK_some]
        exact Or.inr ⟨fun hB => hB.1 e, rfl⟩
      · rw [if_neg (by rw [h.is1]; exact e), OK_some]
        exact Or.inl ⟨⟨e, hw⟩, rfl⟩
    · rw [if_pos (by rfl), OK_some]
      exact Or.inr ⟨fun hB => hw hB.2, rfl⟩
/-- a list of what has been counted -/
def CB (k : Nat) (P : Cl → Prop) (B : List Cl) (j : Nat) : Prop := B.Nodup ∧ ∀ c, c ∈ B ↔ (WM k c ∧ spI c < j ∧ P c)
theorem CB.no {P : Cl → Prop} {B : List Cl} {j : Nat} (h : CB k P B j) (hn : ¬ (WM k (clA j) ∧ P (clA j))) : CB k P B (j + 1) := by
  refine ⟨h.1, fun c => ?_⟩
  rw [h.2]
  constructor
  · rintro ⟨h1, h2, h3⟩; exact ⟨h1, by omega, h3⟩
  · rintro ⟨h1, h2, h3⟩
    refine ⟨h1, ?_, h3⟩
    rcases Nat.lt_or_ge (spI c) j with g | g
    · exact g
    · have e : spI c = j := by omega
      have := (sp_clA h1).1
      rw [e] at this
      rw [this] at hn
      exact absurd ⟨h1, h3⟩ hn
theorem CB.yes {P : Cl → Prop} {B : List Cl} {j : Nat} (h : CB k P B j) (hW : WM k (clA j)) (hP : P (clA j)) : CB k P (B ++ [clA j]) (j + 1) := by
  refine ⟨?_, fun c => ?_⟩
  · rw [List.nodup_append]
    refine ⟨h.1, by simp, fun x hx y hy => ?_⟩
    rw [List.mem_singleton.mp hy]
    intro e
    rw [e] at hx
    have := ((h.2 _).mp hx).2.1
    rw [clA_sp] at this
    omega
  · rw [List.mem_append, h.2, List.mem_singleton]
    constructor
    · rintro (⟨h1, h2, h3⟩ | rfl)
      · exact ⟨h1, by omega, h3⟩
      · exact ⟨hW, by rw [clA_sp]; omega, hP⟩
    · rintro ⟨h1, h2, h3⟩
      rcases Nat.lt_or_ge (spI c) j with g | g
      · exact Or.inl ⟨h1, g, h3⟩
      · have e : spI c = j := by omega
        have := (sp_clA h1).1
        rw [e] at this
        exact Or.inr this.symm
theorem DK.g0 (hd : DK k d) : z_get d 0 = some (iI k) := hd.g
theorem mBorders (hN : 1000 ≤ N) (hd : DK k d) (hb : B9 k L) {Q : List Cl} (h : FV k L Q M) {o : Int32} (ho : o = 0 ∨ o = 1) : OK (f_X12_borders N o d M) (fun u => ∃ B, CB k (fun c => Bd k L c ∧ (o = 1 → c ∈ Q)) B 392 ∧ u = iI B.length) := by
  have hMl := h.2.2.1
  have hk := hd.1
  unfold f_X12_borders
  rw [OK_bind]
  refine OK.mono (Q := fun u => ∃ B, CB k (fun c => Bd k L c ∧ (o = 1 → c ∈ Q)) B 392 ∧ u = iI B.length) ?_ (fun u hu => by rw [OK_some]; exact hu)
  refine zlp2 392 (fun j w z => z = iI j ∧ ∃ B, CB k (fun c => Bd k L c ∧ (o = 1 → c ∈ Q)) B j ∧ w = iI B.length) ?_ N 0 _ _ (by omega) (by omega) ⟨rfl, [], ⟨List.nodup_nil, fun c => ⟨fun h => by simp at h, fun h => by omega⟩⟩, rfl⟩
  rintro fu j w z hj ⟨rfl, B, hB, rfl⟩ ih
  rw [f_X12_borders_L4, show (392 : Int32) = iI 392 from rfl]
  rcases Nat.lt_or_ge j 392 with g | g
  · -- what is done with a cell
    have body : WM k (clA j) → OK ((f_X12_isBorder N (iI (j : Int)) d M).bind fun u4 => if u4 = 0 then f_X12_borders_L4 N o d M fu (iI B.length + 0) (iI (j : Int) + 1) else if o = 0 then f_X12_borders_L4 N o d M fu (iI B.length + 1) (iI (j : Int) + 1) else (z_get M (iI (j : Int))).bind fun x7 => if x7 = 2 then f_X12_borders_L4 N o d M fu (iI B.length + 1) (iI (j : Int) + 1) else f_X12_borders_L4 N o d M fu (iI B.length + 0) (iI (j : Int) + 1)) (fun u => ∃ B, CB k (fun c => Bd k L c ∧ (o = 1 → c ∈ Q)) B 392 ∧ u = iI B.length) := by
      intro hW
      have hi := mIsBorder hN hd hb h hW
      rw [clA_sp] at hi
      rw [OK_bind, iI_succ, li0, iI_add, Int.add_zero]
      refine hi.mono ?_
      rintro u (⟨hBd, rfl⟩ | ⟨hBd, rfl⟩)
      · rw [if_neg (by decide)]
        have yes : (o = 1 → clA j ∈ Q) → OK (f_X12_borders_L4 N o d M fu (iI B.length + 1) (iI ((j + 1 : Nat) : Int))) (fun u => ∃ B, CB k (fun c => Bd k L c ∧ (o = 1 → c ∈ Q)) B 392 ∧ u = iI B.length) := fun hq => ih g _ _ ⟨rfl, _, hB.yes hW ⟨hBd, hq⟩, by rw [iI_succ]; simp⟩
        rcases ho with rfl | rfl
        · rw [if_pos (by rfl)]
          exact yes (fun h => absurd h (by decide))
        · rw [if_neg (by decide)]
          have hg := h.g hW
          rw [clA_sp] at hg
          rw [hg, Option.bind_some]
          by_cases e : clA j ∈ Q
          · rw [if_pos (by rw [h.is2]; exact e)]
            exact yes (fun _ => e)
          · rw [if_neg (by rw [h.is2]; exact e)]
            exact ih g _ _ ⟨rfl, _, hB.no (fun hn => e (hn.2.2 rfl)), rfl⟩
      · rw [if_pos (by rfl)]
        exact ih g _ _ ⟨rfl, _, hB.no (fun hn => hBd hn.2.1), rfl⟩
    rw [if_pos (iI_ltT (by omega) (by omega) (by omega)), hd.g, Option.bind_some]
    by_cases e1 : k = 1
    · subst e1
      rw [if_pos (by rfl)]
      exact body (clA_W g (Or.inl rfl))
    · rw [if_neg (by rw [li1]; exact iI_eqF (by omega) (by omega) (by omega) (by omega) (by omega)), li2, iI_rem (by omega) (by omega) (by omega) (by omega)]
      by_cases e2 : j % 2 = 0
      · rw [if_pos (by rw [li0]; exact iIeq (by omega))]
        exact body (clA_W g (Or.inr e2))
      · rw [if_neg (by rw [li0]; exact iI_eqF (by omega) (by omega) (by omega) (by omega) (by omega)), iI_succ, li0, iI_add, Int.add_zero]
        refine ih g _ _ ⟨rfl, _, hB.no (fun hn => ?_), rfl⟩
        have := (sp_clA hn.1).2
        rw [clA_sp] at this
        omega
  · have e0 : j = 392 := by omega
    rw [e0, if_neg (iI_ltF (by omega) (by omega) (by omega)), OK_some]
    rw [e0] at hB
    exact ⟨B, hB, rfl⟩
/-- the holes of the reference -/
def ZhM (k : Nat) (L : List Cl) (c : Cl) : Prop := WM k c ∧ c ∉ L ∧ ¬ Rc k (Fr k L (-2) 11 (-2) 11) (-2, -2, 0) c
theorem FV.z {Q : List Cl} (h : FV k L Q M) : (fun c => WM k c ∧ (if c ∈ Q then (2 : Int) else if c ∈ L then 1 else 0) = 0) = ZhM k L := by
  refine funext (fun c => propext ?_)
  unfold ZhM
  rw [← h.1]
  by_cases e : c ∈ Q
  · rw [if_pos e]; simp [e]
  · rw [if_neg e]
    by_cases e2 : c ∈ L
    · rw [if_pos e2]; simp [e2]
    · rw [if_neg e2]; simp [e, e2]
theorem mHoles (hN : 1000 ≤ N) (hd : DK k d) {Q : List Cl} (h : FV k L Q M) (hq : que.length = 392) {o : Int32} (ho : o = 0 ∨ o = 1) : OK (f_X12_holes N o d M que) (fun u => u.2.1.length = 392 ∧ u.2.2.length = 392 ∧ ∃ Rp All, HI k (ZhM k L) Rp All ∧ (∀ c, ZhM k L c → c ∈ All) ∧ u.1 = if o = 0 then iI Rp.length else iI All.length) := by
  have hk := hd.1
  unfold f_X12_holes
  rw [OK_bind]
  refine OK.mono (Q := fun u => u.2.2.1.length = 392 ∧ u.2.2.2.length = 392 ∧ ∃ Rp All, HI k (ZhM k L) Rp All ∧ (∀ c, ZhM k L c → c ∈ All) ∧ u.1 = iI Rp.length ∧ u.2.1 = iI All.length) ?_ ?_
  · refine zlp5 392 (fun j w1 w2 z M que => z = iI j ∧ que.length = 392 ∧ ∃ Rp All, HS k (WM k) spI 392 (fun c => if c ∈ Q then 2 else if c ∈ L then 1 else 0) Rp All M ∧ w1 = iI Rp.length ∧ w2 = iI All.length ∧ ∀ c, WM k c → spI c < j → (if c ∈ Q then (2 : Int) else if c ∈ L then 1 else 0) = 0 → c ∈ All) ?_ N 0 _ _ _ _ _ (by omega) (by omega) ⟨rfl, hq, [], [], ⟨HI.nil, h.2.2.1, fun c hc => by simp; exact h.2.2.2 c hc⟩, rfl, rfl, fun c _ hc => by omega⟩
    rintro fu j w1 w2 z M que hj ⟨rfl, hq, Rp, All, hS, rfl, rfl, hdn⟩ ih
    have hMl := hS.2.1
    rw [f_X12_holes_L7, show (392 : Int32) = iI 392 from rfl]
    rcases Nat.lt_or_ge j 392 with g | g
    · have nope : ¬ (WM k (clA j) ∧ (if clA j ∈ Q then (2 : Int) else if clA j ∈ L then 1 else 0) = 0 ∧ clA j ∉ All) → OK (f_X12_holes_L7 N d fu (iI Rp.length) (iI All.length) (iI (j : Int) + 1) M que) (fun u => u.2.2.1.length = 392 ∧ u.2.2.2.length = 392 ∧ ∃ Rp All, HI k (ZhM k L) Rp All ∧ (∀ c, ZhM k L c → c ∈ All) ∧ u.1 = iI Rp.length ∧ u.2.1 = iI All.length) := by
        intro hn
        refine ih g _ _ _ _ _ ⟨iI_succ j, hq, Rp, All, hS, rfl, rfl, fun c h1 h2 h3 => ?_⟩
        rcases Nat.lt_or_ge (spI c) j with g1 | g1
        · exact hdn c h1 g1 h3
        · have e : spI c = j := by omega
          have e2 := (sp_clA h1).1
          rw [e] at e2
          rw [e2] at hn
          by_cases hm : c ∈ All
          · exact hm
          · exact absurd ⟨h1, h3, hm⟩ hn
      have body : WM k (clA j) → (if clA j ∈ All then (3 : Int) else if clA j ∈ Q then 2 else if clA j ∈ L then 1 else 0) = 0 → OK ((f_X12_floods N (iI (j : Int)) 3 d M que).bind fun u6 => f_X12_holes_L7 N d fu (iI Rp.length + 1) (iI All.length + u6.1) (iI (j : Int) + 1) u6.2.1 u6.2.2) (fun u => u.2.2.1.length = 392 ∧ u.2.2.2.length = 392 ∧ ∃ Rp All, HI k (ZhM k L) Rp All ∧ (∀ c, ZhM k L c → c ∈ All) ∧ u.1 = iI Rp.length ∧ u.2.1 = iI All.length) := by
        intro hW h0
        rw [OK_bind, li3]
        have hf := mFlood (N := N) (mk := 3) (v0 := fun c => if c ∈ All then 3 else if c ∈ Q then 2 else if c ∈ L then 1 else 0) hN hd (fun c => by
          show 0 ≤ (if c ∈ All then (3 : Int) else if c ∈ Q then 2 else if c ∈ L then 1 else 0) ∧ (if c ∈ All then (3 : Int) else if c ∈ Q then 2 else if c ∈ L then 1 else 0) ≤ 7
          split
          · omega
          · split
            · omega
            · split <;> omega) ⟨by omega, by omega⟩ hS.2 hq hW h0
        rw [clA_sp] at hf
        refine hf.mono ?_
        rintro ⟨x1, x2, x3⟩ ⟨hq3, Q2, hQ, hQm, e1, hMQ⟩
        simp only at hq3 e1 hMQ ⊢
        rw [e1, iI_add]
        refine ih g _ _ _ _ _ ⟨iI_succ j, hq3, Rp ++ [clA j], All ++ Q2, HS.flood hk (fun c hc => hc.2.2.2.2) hS hW h0 hQ hQm hMQ, by rw [iI_succ]; simp, by simp, fun c h1 h2 h3 => ?_⟩
        rcases Nat.lt_or_ge (spI c) j with g1 | g1
        · exact List.mem_append_left _ (hdn c h1 g1 h3)
        · have e : spI c = j := by omega
          have e2 := (sp_clA h1).1
          rw [e] at e2
          rw [← e2]
          exact List.mem_append_right _ ((hQm _).mpr Rc.refl)
      obtain ⟨x, hx⟩ := gL (show j < M.length by omega)
      rw [if_pos (iI_ltT (by omega) (by omega) (by omega)), gI hx (by omega), Option.bind_some]
      -- a cell that is one
      have val : WM k (clA j) → x = iI (if clA j ∈ All then (3 : Int) else if clA j ∈ Q then 2 else if clA j ∈ L then 1 else 0) := fun hW => by
        have := hS.2.2 _ hW
        rw [clA_sp, hx] at this
        exact Option.some.inj this
      have rng : ∀ c, 0 ≤ (if c ∈ All then (3 : Int) else if c ∈ Q then 2 else if c ∈ L then 1 else 0) ∧ (if c ∈ All then (3 : Int) else if c ∈ Q then 2 else if c ∈ L then 1 else 0) ≤ 7 := fun c => by
        split
        · omega
        · split
          · omega
          · split <;> omega
      have zero : WM k (clA j) → (x = 0) = ((if clA j ∈ All then (3 : Int) else if clA j ∈ Q then 2 else if clA j ∈ L then 1 else 0) = 0) := fun hW => by
        have := rng (clA j)
        rw [val hW, li0, iI_eq (by omega) (by omega) (by omega) (by omega)]
      by_cases hv : k = 1 ∨ j % 2 = 0
      · have hW := clA_W (k := k) g hv
        by_cases e0 : x = 0
        · rw [if_pos e0, hd.g, Option.bind_some]
          have h0 := (zero hW) ▸ e0
          by_cases e1 : k = 1
          · rw [if_pos (by rw [e1]; rfl)]
            exact body hW h0
          · rw [if_neg (by rw [li1]; exact iI_eqF (by omega) (by omega) (by omega) (by omega) (by omega)), li2, iI_rem (by omega) (by omega) (by omega) (by omega), if_pos (by rw [li0]; exact iIeq (by omega))]
            exact body hW h0
        · rw [if_neg e0]
          refine nope (fun hn => e0 ?_)
          rw [zero hW, if_neg hn.2.2]
          exact hn.2.1
      · have hnW : ¬ WM k (clA j) := fun hW => by
          have := (sp_clA hW).2
          rw [clA_sp] at this
          exact hv this
        by_cases e0 : x = 0
        · rw [if_pos e0, hd.g, Option.bind_some, if_neg (by rw [li1]; exact iI_eqF (by omega) (by omega) (by omega) (by omega) (by omega)), li2, iI_rem (by omega) (by omega) (by omega) (by omega), if_neg (by rw [li0]; exact iI_eqF (by omega) (by omega) (by omega) (by omega) (by omega))]
          exact nope (fun hn => hnW hn.1)
        · rw [if_neg e0]
          exact nope (fun hn => hnW hn.1)
    · have e0 : j = 392 := by omega
      rw [e0, if_neg (iI_ltF (by omega) (by omega) (by omega)), OK_some]
      have hH := hS.1
      rw [h.z] at hH
      refine ⟨hS.2.1, hq, Rp, All, hH, fun c hc => ?_, rfl, rfl⟩
      have hc' : (fun c => WM k c ∧ (if c ∈ Q then (2 : Int) else if c ∈ L then 1 else 0) = 0) c := by rw [h.z]; exact hc
      exact hdn c hc.1 (by have := sp_ix.1 c hc.1; omega) hc'.2
  · rintro ⟨x1, x2, x3, x4⟩ ⟨h1, h2, Rp, All, h3, h4, h5, h6⟩
    simp only at h1 h2 h5 h6 ⊢
    rcases ho with rfl | rfl
    · rw [if_pos (by rfl), OK_some]
      exact ⟨h1, h2, Rp, All, h3, h4, by rw [if_pos (by rfl)]; exact h5⟩
    · rw [if_neg (by decide), OK_some]
      exact ⟨h1, h2, Rp, All, h3, h4, by rw [if_neg (by decide)]; exact h6⟩
end
