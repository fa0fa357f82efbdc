/-! relatives -/
/-- the forms of the figures with a cell more, with a cell less -/
def S0 (k : Nat) (L : List Cl) (y : Nat) : Prop := ∃ u c, u ∈ L ∧ adj k u c ∧ c ∉ L ∧ y = pck (can k (nrm (L ++ [c])))
def Wo (L : List Cl) (c : Cl) (M : List Cl) : Prop := M.Nodup ∧ ∀ x, x ∈ M ↔ (x ∈ L ∧ x ≠ c)
def S1 (k : Nat) (L : List Cl) (y : Nat) : Prop := ∃ c M, c ∈ L ∧ Wo L c M ∧ Conn k M ∧ y = pck (can k M)
def FS (S : Nat → Prop) (F : List Nat) : Prop := F.Nodup ∧ ∀ y, y ∈ F ↔ S y
section
variable {N k : Nat} {L X M M' B E : List Cl} {c u : Cl} {a b : Int} {F : List Nat} {fo so : List Int64} {J T d q r t ha hb hc im ic bc : List Int32} {s bs : Int32} {mf : Nat → List Int32 × Int32}
theorem FS.uniq {S : Nat → Prop} {F F' : List Nat} (h : FS S F) (h' : FS S F') : F.length = F'.length := nd_eq h.1 h'.1 (fun x => (h.2 x).trans (h'.2 x).symm)
theorem sub_sm (hD : Sm k L) (hM : M.Nodup) (hs : ∀ x ∈ M, x ∈ L) (hl : M.length ≤ 12) (hC : Conn k M) : Sm k M := ⟨hD.1, hC, hM, hl, fun x hx => hD.2.2.2.2 x (hs x hx)⟩
theorem Wo.len (h : Wo L c M) (hn : L.Nodup) (hc : c ∈ L) : M.length + 1 = L.length := by
  have h1 := nd_eq (A := M ++ [c]) (B := L) (nd_add h.1 (fun hm => ((h.2 c).mp hm).2 rfl)) hn (fun x => by
    rw [List.mem_append, h.2, List.mem_singleton]
    constructor
    · rintro (⟨h1, _⟩ | rfl)
      · exact h1
      · exact hc
    · intro hx
      by_cases e : x = c
      · exact Or.inr e
      · exact Or.inl ⟨hx, e⟩)
  simpa using h1
theorem S1_ex (hL : Sm k L) {y : Nat} (hC : Conn k M) (hc : c ∈ L) (hM : Wo L c M) (hM' : Wo L c M') : can k M = can k M' := by
  have hp : M.Perm M' := (List.perm_ext_iff_of_nodup hM.1 hM'.1).mpr (fun x => (hM.2 x).trans (hM'.2 x).symm)
  have h1 := hM.len hL.2.2.1 hc
  have h2 := hM'.len hL.2.2.1 hc
  have h12 := hL.2.2.2.1
  have hsM : Sm k M := sub_sm hL hM.1 (fun x hx => ((hM.2 x).mp hx).1) (by omega) hC
  have hsM' : Sm k M' := sub_sm hL hM'.1 (fun x hx => ((hM'.2 x).mp hx).1) (by omega) ((conn_perm hp).mp hC)
  refine can_eq (u := 0) (v := 0) hsM hsM' ?_
  have e : M'.map (sft 0 0) = M' := by
    conv => rhs; rw [← List.map_id M']
    exact List.map_congr_left (fun x _ => sft_0 x)
  rw [e]
  exact hp
theorem shp (h : X.Perm (L.map (sft a b))) (x : Cl) : x ∈ L ↔ sft a b x ∈ X := by
  rw [h.mem_iff, List.mem_map]
  exact ⟨fun hx => ⟨x, hx, rfl⟩, fun ⟨y, hy, e⟩ => by rw [← sft_inj e]; exact hy⟩
theorem S0_sft (hX : Sm k X) (hX9 : ∀ x ∈ X, -13 ≤ x.1 ∧ x.1 ≤ 13 ∧ -13 ≤ x.2.1 ∧ x.2.1 ≤ 13) (hL9 : ∀ x ∈ L, -13 ≤ x.1 ∧ x.1 ≤ 13 ∧ -13 ≤ x.2.1 ∧ x.2.1 ≤ 13) (hL : Sm k L) (h7 : L.length ≤ 11) (h : X.Perm (L.map (sft a b))) (y : Nat) : S0 k X y ↔ S0 k L y := by
  have hlen : X.length = L.length := by rw [h.length_eq, List.length_map]
  have sm : ∀ {Z : List Cl} {u c : Cl}, Sm k Z → (∀ x ∈ Z, -13 ≤ x.1 ∧ x.1 ≤ 13 ∧ -13 ≤ x.2.1 ∧ x.2.1 ≤ 13) → Z.length ≤ 11 → u ∈ Z → adj k u c → c ∉ Z → Sm k (Z ++ [c]) := fun {Z u c} hZ hZ9 hl hu he hc => ⟨hZ.1, conn_add hZ.1 (fun y hy => (hZ.2.2.2.2 y hy).1) hZ.2.1 hu he, nd_add hZ.2.2.1 hc, by simp; omega, fun x hx => by
    rcases List.mem_append.mp hx with hx | hx
    · have h1 := hZ9 x hx
      exact ⟨(hZ.2.2.2.2 x hx).1, by omega, by omega, by omega, by omega⟩
    · rw [List.mem_singleton.mp hx]
      have q1 := adj_q he
      have q2 := adj_r he
      have h1 := hZ9 u hu
      exact ⟨okT_adj he (hZ.2.2.2.2 u hu).1, by omega, by omega, by omega, by omega⟩⟩
  have key : ∀ {u c : Cl}, u ∈ L → adj k u c → c ∉ L → can k (nrm (X ++ [sft a b c])) = can k (nrm (L ++ [c])) := fun {u c} hu he hc => by
    have s1 := sm hX hX9 (by omega) ((shp h u).mp hu) (adj_sft a b he) (fun hm => hc ((shp h c).mpr hm))
    have s2 := sm hL hL9 h7 hu he hc
    have hp : (X ++ [sft a b c]).Perm ((L ++ [c]).map (sft a b)) := by
      rw [List.map_append, List.map_singleton]
      exact h.append_right _
    rw [nrm_eq s1.fg s2.fg hp]
  constructor
  · rintro ⟨u, c, hu, he, hc, rfl⟩
    have e1 : sft a b (sft (-a) (-b) u) = u := sft_r
    have e2 : sft a b (sft (-a) (-b) c) = c := sft_r
    have hu' : sft (-a) (-b) u ∈ L := by rw [shp h, e1]; exact hu
    have hc' : sft (-a) (-b) c ∉ L := fun hm => hc (by rw [shp h, e2] at hm; exact hm)
    have he' := adj_sft (-a) (-b) he
    refine ⟨_, _, hu', he', hc', ?_⟩
    rw [← key hu' he' hc', e2]
  · rintro ⟨u, c, hu, he, hc, rfl⟩
    exact ⟨_, _, (shp h u).mp hu, adj_sft a b he, fun hm => hc ((shp h c).mpr hm), by rw [key hu he hc]⟩
theorem Wo.shf (h : X.Perm (L.map (sft a b))) (hM : Wo L c M) : Wo X (sft a b c) (M.map (sft a b)) := by
  refine ⟨nd_map hM.1 (fun x _ y _ e => sft_inj e), fun x => ?_⟩
  rw [List.mem_map]
  constructor
  · rintro ⟨y, hy, rfl⟩
    have := (hM.2 y).mp hy
    exact ⟨(shp h y).mp this.1, fun e => this.2 (sft_inj e)⟩
  · rintro ⟨h1, h2⟩
    have e1 : sft a b (sft (-a) (-b) x) = x := sft_r
    refine ⟨sft (-a) (-b) x, (hM.2 _).mpr ⟨by rw [shp h, e1]; exact h1, fun e => h2 (by rw [← e, e1])⟩, e1⟩
theorem S1_sft1 (hX : Sm k X) (hL : Sm k L) (h : X.Perm (L.map (sft a b))) {y : Nat} (hy : S1 k L y) : S1 k X y := by
  obtain ⟨c, M, hc, hM, hC, rfl⟩ := hy
  have hM' := hM.shf h
  have hC' := conn_sft a b hC
  have h1 := hM.len hL.2.2.1 hc
  have h12 := hL.2.2.2.1
  have hsM : Sm k M := sub_sm hL hM.1 (fun x hx => ((hM.2 x).mp hx).1) (by omega) hC
  have hsM' : Sm k (M.map (sft a b)) := sub_sm hX hM'.1 (fun x hx => ((hM'.2 x).mp hx).1) (by simp; omega) hC'
  refine ⟨_, _, (shp h c).mp hc, hM', hC', ?_⟩
  rw [can_eq (u := a) (v := b) hsM' hsM (List.Perm.refl _)]
theorem S1_sft (hX : Sm k X) (hL : Sm k L) (h : X.Perm (L.map (sft a b))) (y : Nat) : S1 k X y ↔ S1 k L y := by
  refine ⟨fun hy => S1_sft1 (a := -a) (b := -b) hL hX ?_ hy, S1_sft1 hX hL h⟩
  refine List.Perm.symm ((h.map (sft (-a) (-b))).trans (List.Perm.of_eq ?_))
  rw [List.map_map]
  conv => rhs; rw [← List.map_id L]
  exact List.map_congr_left (fun x _ => sft_l)
/-- a cell is taken out, the last one takes its place -/
theorem rm_wo (hn : L.Nodup) {i : Nat} {z : Cl} (hi : L[i]? = some c) (hz : L[L.length - 1]? = some z) : Wo L c ((L.set i z).take (L.length - 1)) := by
  have hil := lt_of_get hi
  have hcM : c ∉ (L.set i z).take (L.length - 1) := fun hm => by
    obtain ⟨j, hj⟩ := List.mem_iff_getElem?.mp hm
    have hjl := lt_of_get hj
    rw [List.length_take, List.length_set] at hjl
    rw [List.getElem?_take, if_pos (by omega)] at hj
    by_cases e : i = j
    · subst e
      rw [st0 hil] at hj
      cases hj
      have := nd_get hn hi hz
      omega
    · rw [List.getElem?_set_ne e] at hj
      have := nd_get hn hi hj
      omega
  refine ⟨rm_nd hn hz, fun x => ⟨fun hx => ⟨rm_mem hx hz, fun e => hcM (e ▸ hx)⟩, fun ⟨h1, h2⟩ => ?_⟩⟩
  apply Classical.byContradiction
  intro hno
  have hnd := nd_add (nd_add (rm_nd (p := i) hn hz) hcM) (c := x) (fun hm => by
    rcases List.mem_append.mp hm with hm | hm
    · exact hno hm
    · exact h2 (List.mem_singleton.mp hm))
  have := nd_len hnd (fun w hw => by
    rcases List.mem_append.mp hw with hw | hw
    · rcases List.mem_append.mp hw with hw | hw
      · exact rm_mem hw hz
      · rw [List.mem_singleton.mp hw]; exact List.mem_of_getElem? hi
    · rw [List.mem_singleton.mp hw]; exact h1 : ∀ w ∈ _, w ∈ L)
  simp at this
  omega
/-- forms noted so far -/
def NT (F : List Nat) (n : Nat) (fo : List Int64) : Prop := F.Nodup ∧ (∀ y ∈ F, y < 2 ^ 63) ∧ fo.length = n ∧ SEG fo 0 F
theorem NT.push {n : Nat} (h : NT F n fo) {y : Nat} (hy : y < 2 ^ 63) (hno : y ∉ F) (hl : F.length < n) : NT (F ++ [y]) n (fo.set F.length (lN y)) := by
  obtain ⟨h1, h2, h3, h4⟩ := h
  refine ⟨?_, fun z hz => ?_, by simp [h3], fun i x hx => ?_⟩
  · rw [List.nodup_append]
    refine ⟨h1, by simp, fun p hp q hq => ?_⟩
    rw [List.mem_singleton.mp hq]
    intro e; rw [e] at hp; exact hno hp
  · rcases List.mem_append.mp hz with hz | hz
    · exact h2 z hz
    · rw [List.mem_singleton.mp hz]; exact hy
  · rcases Nat.lt_or_ge i F.length with g | g
    · rw [List.getElem?_append_left g] at hx
      exact st1 (h4 i x hx) (by omega)
    · have := lt_of_get hx
      rw [List.length_append, List.length_singleton] at this
      have e : i = F.length := by omega
      subst e
      rw [List.getElem?_append_right (Nat.le_refl _), Nat.sub_self] at hx
      cases hx
      rw [Nat.zero_add]
      exact st0 (by omega)
theorem noteM {n : Nat} (hN : 2000 ≤ N) (h : NT F n so) (hn : n ≤ 100) (hl : F.length < n) {y : Nat} (hy : y < 2 ^ 63) : OK (f_X12_notes N (lN y) (iI F.length) so) (fun w => ∃ F', NT F' n w.2 ∧ w.1 = iI F'.length ∧ F'.length ≤ F.length + 1 ∧ ∀ x, x ∈ F' ↔ (x = y ∨ x ∈ F)) := by
  have hso := h.2.2.1
  unfold f_X12_notes
  rw [OK_bind]
  refine OK.mono (Q := fun o => (o = Sum.inl () ∧ y ∉ F) ∨ (o = Sum.inr (iI F.length, so) ∧ y ∈ F)) ?_ ?_
  · refine zlp1 F.length (fun i z => z = iI i ∧ ∀ j, j < i → F[j]? ≠ some y) ?_ N 0 _ (by omega) (by omega) ⟨rfl, fun j hj => by omega⟩
    rintro fu i z hi ⟨rfl, hno⟩ ih
    rw [f_X12_notes_L3]
    rcases Nat.lt_or_ge i F.length with g | g
    · obtain ⟨x, hx⟩ := gL g
      have hxm := h.2.1 x (List.mem_of_getElem? hx)
      have hg := h.2.2.2 i x hx
      rw [Nat.zero_add] at hg
      rw [if_pos (iI_ltT (by omega) (by omega) (by omega)), gI hg (by omega), Option.bind_some]
      by_cases e : x = y
      · rw [if_pos (by rw [cmp_eq hxm hy]; exact e), OK_some]
        exact Or.inr ⟨rfl, e ▸ List.mem_of_getElem? hx⟩
      · rw [if_neg (by rw [cmp_eq hxm hy]; exact e)]
        refine ih g _ ⟨iI_succ i, fun j hj => ?_⟩
        rcases Nat.lt_or_ge j i with g1 | g1
        · exact hno j g1
        · rw [show j = i by omega, hx]; intro h; cases h; exact e rfl
    · have e0 : i = F.length := by omega
      subst e0
      rw [if_neg (iI_ltF (by omega) (by omega) (by omega)), OK_some]
      refine Or.inl ⟨rfl, fun hm => ?_⟩
      obtain ⟨j, hj⟩ := List.mem_iff_getElem?.mp hm
      exact hno j (lt_of_get hj) hj
  · rintro o (⟨rfl, hno⟩ | ⟨rfl, hin⟩)
    · show OK ((z_set so (iI F.length) (lN y)).bind fun t7 => some (iI F.length + 1, t7)) _
      rw [sI (by omega) (by omega), Option.bind_some, OK_some]
      exact ⟨F ++ [y], h.push hy hno hl, by rw [iI_succ]; simp, by simp, fun x => by rw [List.mem_append, List.mem_singleton]; exact Or.comm⟩
    · show OK (some (iI F.length, so)) _
      rw [OK_some]
      exact ⟨F, h, rfl, by omega, fun x => ⟨fun hx => Or.inr hx, fun hx => by
        rcases hx with rfl | hx
        · exact hin
        · exact hx⟩⟩
theorem noteC (hN : 2000 ≤ N) (h : NT F 48 fo) (hl : F.length < 48) (hE : Sm k E) (hE8 : E.length ≤ 8) {ec : List Int32} {es : Int32} (hCE : CE 12 E ec es) (hsi : SI ic mf) :
    OK (f_X5_noteRelative N fo (iI F.length) k ec es ic mf) (fun w => SI w.2.2.2.1 w.2.2.2.2.2 ∧ ∃ F', NT F' 48 w.1 ∧ w.2.1 = iI F'.length ∧ F'.length ≤ F.length + 1 ∧ ∀ x, x ∈ F' ↔ (x = pck (can k E) ∨ x ∈ F)) := by
  have hfo := h.2.2.1
  have htu := tur_pos (k := k)
  unfold f_X5_noteRelative
  rw [OK_bind]
  refine (survey_eq (by omega) hE hCE hsi.1 hsi.2).mono ?_
  rintro ⟨n2, ic2, is2, mf2⟩ ⟨e1, e2, e3⟩
  simp only at e1 e2 e3 ⊢
  subst e1
  have hb := bst_lt (F := img k E) (n := 2 * tur k) (by omega)
  rw [smallest_eq (m := E.length) (by omega) e3 (fun i => img_len i) (fun i => (img_Nf hE i).ok) (by omega) (by omega), Option.bind_some, if_pos (by omega)]
  obtain ⟨K, hK1, hK2, hK3⟩ := e3.2 _ hb
  have hcN := can_NF hE
  have hy := hcN.lt63 (by rw [can_len]; exact hE8)
  have hpk := packed_eq (N := N) (J := K) (by omega) (hcN.kk (by rw [can_len]; exact hE8)) hcN.1.ok
  rw [show (mf2 (bst (img k E) (2 * tur k))).1 = (can k E).map cI ++ K from hK1, show (mf2 (bst (img k E) (2 * tur k))).2 = iI (can k E).length from hK3, hpk, Option.bind_some, OK_bind]
  generalize pck (can k E) = y at hy
  refine OK.mono (Q := fun o => (o = Sum.inl () ∧ y ∉ F) ∨ (o = Sum.inr (fo, iI F.length, iI (2 * tur k : Nat), ic2, is2, mf2) ∧ y ∈ F)) ?_ ?_
  · refine zlp1 F.length (fun i z => z = iI i ∧ ∀ j, j < i → F[j]? ≠ some y) ?_ N 0 _ (by omega) (by omega) ⟨rfl, fun j hj => by omega⟩
    rintro fu i z hi ⟨rfl, hno⟩ ih
    rw [f_X5_noteRelative_L26]
    rcases Nat.lt_or_ge i F.length with g | g
    · obtain ⟨x, hx⟩ := gL g
      have hxm := h.2.1 x (List.mem_of_getElem? hx)
      have hg := h.2.2.2 i x hx
      rw [Nat.zero_add] at hg
      rw [if_pos (iI_ltT (by omega) (by omega) (by omega)), gI hg (by omega), Option.bind_some]
      by_cases e : x = y
      · rw [if_pos (by rw [cmp_eq hxm hy]; exact e), OK_some]
        exact Or.inr ⟨rfl, e ▸ List.mem_of_getElem? hx⟩
      · rw [if_neg (by rw [cmp_eq hxm hy]; exact e)]
        refine ih g _ ⟨iI_succ i, fun j hj => ?_⟩
        rcases Nat.lt_or_ge j i with g1 | g1
        · exact hno j g1
        · rw [show j = i by omega, hx]; intro h; cases h; exact e rfl
    · have e0 : i = F.length := by omega
      subst e0
      rw [if_neg (iI_ltF (by omega) (by omega) (by omega)), OK_some]
      refine Or.inl ⟨rfl, fun hm => ?_⟩
      obtain ⟨j, hj⟩ := List.mem_iff_getElem?.mp hm
      exact hno j (lt_of_get hj) hj
  · rintro o (⟨rfl, hno⟩ | ⟨rfl, hin⟩)
    · show OK (if iI F.length < 48 then (z_set fo (iI F.length) (lN y)).bind fun t14 => some (t14, iI F.length + 1, iI (2 * tur k : Nat), ic2, is2, mf2) else some (fo, iI F.length, iI (2 * tur k : Nat), ic2, is2, mf2)) _
      rw [if_pos (by rw [show (48 : Int32) = iI 48 from rfl]; exact iI_ltT (by omega) (by omega) (by omega)), sI (by omega) (by omega), Option.bind_some, OK_some]
      exact ⟨⟨e2, e3.1⟩, F ++ [y], h.push hy hno hl, by rw [iI_succ]; simp, by simp, fun x => by rw [List.mem_append, List.mem_singleton]; exact Or.comm⟩
    · show OK (some (fo, iI F.length, iI (2 * tur k : Nat), ic2, is2, mf2)) _
      rw [OK_some]
      exact ⟨⟨e2, e3.1⟩, F, h, rfl, by omega, fun x => ⟨fun hx => Or.inr hx, fun hx => by
        rcases hx with rfl | hx
        · exact hin
        · exact hx⟩⟩
end
