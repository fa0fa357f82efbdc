/-! figures that grow: keys, completeness -/
def kyN (c : Cl) : Nat := (ky c).toNat
def insK (a : Nat) : List Nat → List Nat
  | [] => [a]
  | b :: t => if a < b then a :: b :: t else b :: insK a t
def unpA : Nat → Nat → List Nat → List Nat
  | 0, _, acc => acc
  | n + 1, p, acc => unpA n (p / 256) (p % 256 :: acc)
theorem pck_kyN (L : List Cl) : pck L = pkK (L.map kyN) := rfl
theorem unpA_pk : ∀ (n : Nat) (K acc : List Nat), K.length = n → (∀ b ∈ K, b < 256) → unpA n (pkK K) acc = K ++ acc
  | 0, K, acc, h, _ => by rw [List.length_eq_zero_iff.mp h]; rfl
  | n + 1, K, acc, h, hb => by
    rcases List.eq_nil_or_concat K with rfl | ⟨K', b, rfl⟩
    · simp at h
    · rw [List.concat_eq_append] at h hb ⊢
      have hb1 := hb b (by simp)
      rw [pkK_app, unpA, show (pkK K' * 256 + b) / 256 = pkK K' by omega, show (pkK K' * 256 + b) % 256 = b by omega, unpA_pk n K' _ (by simpa using h) (fun x hx => hb x (by simp [hx]))]
      simp
section
variable {k : Nat} {L X Y A : List Cl} {a b c u x : Cl}
theorem kyN_rng (h : inB k c) : kyN c < 200 ∧ ((kyN c : Nat) : Int) = ky c := by
  have := ky_rng h
  unfold kyN
  omega
theorem kc_kyN (h : inB k c) : kc (kyN c : Nat) = c := by rw [(kyN_rng h).2, kc_ky h]
theorem unp_pck (hb : B9 k X) {n : Nat} (hn : X.length = n) : unpA n (pck X) [] = X.map kyN := by
  rw [pck_kyN, unpA_pk n _ _ (by simpa using hn) (fun y hy => by
    obtain ⟨z, hz, rfl⟩ := List.mem_map.mp hy
    have := kyN_rng (hb z hz)
    omega), List.append_nil]
theorem pck_inj (hX : B9 k X) (hY : B9 k Y) (hl : X.length = Y.length) (h : pck X = pck Y) : X = Y := by
  have h1 := unp_pck hX (n := X.length) rfl
  have h2 := unp_pck hY (n := X.length) hl.symm
  rw [h, h2] at h1
  have h3 := congrArg (List.map (fun (i : Nat) => kc (i : Int))) h1
  rw [List.map_map, List.map_map] at h3
  have e : ∀ {Z : List Cl}, B9 k Z → Z.map ((fun (i : Nat) => kc (i : Int)) ∘ kyN) = Z := fun {Z} hZ => by
    conv => rhs; rw [← List.map_id Z]
    exact List.map_congr_left (fun z hz => kc_kyN (hZ z hz))
  rw [e hX, e hY] at h3
  exact h3.symm
theorem cd_key (ha : inB k a) (hb : inB k b) : (cd a < cd b) ↔ kyN a < kyN b := by
  have r1 := (kyN_rng ha).2
  have r2 := (kyN_rng hb).2
  obtain ⟨q, r, t⟩ := a
  obtain ⟨q', r', t'⟩ := b
  obtain ⟨h1, h2, h3, h4, h5⟩ := ha
  obtain ⟨g1, g2, g3, g4, g5⟩ := hb
  have ht := okT_rng h5
  have gt := okT_rng g5
  simp only [ky] at r1 r2
  simp only at h1 h2 h3 h4 g1 g2 g3 g4 ht gt
  simp only [cd]
  omega
theorem insC_key : ∀ {A : List Cl}, inB k c → (∀ x ∈ A, inB k x) → (insC c A).map kyN = insK (kyN c) (A.map kyN)
  | [], _, _ => rfl
  | y :: A, hc, hA => by
    have hy := hA y (by simp)
    show (if cd c < cd y then c :: y :: A else y :: insC c A).map kyN = if kyN c < kyN y then kyN c :: kyN y :: A.map kyN else kyN y :: insK (kyN c) (A.map kyN)
    by_cases e : cd c < cd y
    · rw [if_pos e, if_pos ((cd_key hc hy).mp e)]; rfl
    · rw [if_neg e, if_neg (fun h => e ((cd_key hc hy).mpr h)), List.map_cons, insC_key hc (fun x hx => hA x (by simp [hx]))]
def mn0 (x : Int) : Int := if x < 0 then x else 0
theorem NF.mn (h : NF k X) : mnQ X = 0 ∧ mnR X = 0 := by
  have hF := h.1.fg
  exact ⟨mn_uniq (fun c => c.1) hF.ne hF.q h.2.2.1 (fun x hx => (h.1.2.2.2.2 x hx).2.1), mn_uniq (fun c => c.2.1) hF.ne hF.r h.2.2.2.1 (fun x hx => (h.1.2.2.2.2 x hx).2.2.2.1)⟩
theorem srt_self (hs : Srt A) (hok : ∀ c ∈ A, ok32 c) : srt A = A := srt_uniq (srt_srt A) hs (srt_perm A) (fun c hc => hok c ((srt_perm A).mem_iff.mp hc))
theorem srt_sft {p q : Int} (h : Srt A) : Srt (A.map (sft p q)) := by
  unfold Srt at h ⊢
  rw [List.pairwise_map]
  exact h.imp (fun hh => by rw [cd_sft, cd_sft]; omega)
theorem nrm_add (h : NF k X) (hc : -1 ≤ c.1 ∧ c.1 ≤ 12 ∧ -1 ≤ c.2.1 ∧ c.2.1 ≤ 12) : nrm (X ++ [c]) = insC (sft (mn0 c.1) (mn0 c.2.1) c) (X.map (sft (mn0 c.1) (mn0 c.2.1))) := by
  have e1 : mnQ (X ++ [c]) = mn0 c.1 := by
    unfold mnQ mn0
    rw [List.map_append, List.map_singleton, mnl_app]
    have := h.mn.1
    unfold mnQ at this
    rw [this]
  have e2 : mnR (X ++ [c]) = mn0 c.2.1 := by
    unfold mnR mn0
    rw [List.map_append, List.map_singleton, mnl_app]
    have := h.mn.2
    unfold mnR at this
    rw [this]
  unfold nrm
  rw [e1, e2, List.map_append, List.map_singleton]
  have m1 : -1 ≤ mn0 c.1 ∧ mn0 c.1 ≤ 0 := by unfold mn0; split <;> omega
  have m2 : -1 ≤ mn0 c.2.1 ∧ mn0 c.2.1 ≤ 0 := by unfold mn0; split <;> omega
  have e3 : srt (X.map (sft (mn0 c.1) (mn0 c.2.1)) ++ [sft (mn0 c.1) (mn0 c.2.1) c]) = insC (sft (mn0 c.1) (mn0 c.2.1) c) (srt (X.map (sft (mn0 c.1) (mn0 c.2.1)))) := by
    unfold srt
    rw [List.foldl_append]
    rfl
  rw [e3, srt_self (srt_sft h.2.1) (fun y hy => ?_)]
  obtain ⟨z, hz, rfl⟩ := List.mem_map.mp hy
  obtain ⟨z1, z2, z3, z4, z5⟩ := h.1.2.2.2.2 z hz
  have := okT_rng z1
  exact ⟨by show -32 ≤ z.1 - _; omega, by show z.1 - _ < 32; omega, by show -32 ≤ z.2.1 - _; omega, by show z.2.1 - _ < 32; omega, this.1, this.2⟩
/-- by how much the keys grow -/
def shK (c : Cl) : Nat := (-(2 * mn0 c.1) - 20 * mn0 c.2.1).toNat
theorem sft_key (hx : inB k x) (hc : -1 ≤ c.1 ∧ -1 ≤ c.2.1) : kyN (sft (mn0 c.1) (mn0 c.2.1) x) = kyN x + shK c := by
  have m1 : -1 ≤ mn0 c.1 ∧ mn0 c.1 ≤ 0 := by unfold mn0; split <;> omega
  have m2 : -1 ≤ mn0 c.2.1 ∧ mn0 c.2.1 ≤ 0 := by unfold mn0; split <;> omega
  have r1 := ky_rng hx
  unfold kyN shK
  have e : ky (sft (mn0 c.1) (mn0 c.2.1) x) = ky x + (-(2 * mn0 c.1) - 20 * mn0 c.2.1) := by
    unfold ky sft
    simp only
    omega
  rw [e]
  omega
def keyC (c : Cl) : Nat := kyN (sft (mn0 c.1) (mn0 c.2.1) c)
/-- the packed form of a figure that has grown, out of its keys -/
def grK (K : List Nat) (c : Cl) : Nat := pkK (insK (keyC c) (K.map (fun x => x + shK c)))
theorem NF.b8 (h : NF k X) (hl : X.length ≤ 9) : ∀ x ∈ X, okT k x.2.2 ∧ 0 ≤ x.1 ∧ x.1 ≤ 8 ∧ 0 ≤ x.2.1 ∧ x.2.1 ≤ 8 := fun x hx => by
  have h1 := h.1.2.2.2.2 x hx
  have h2 := h.2.2.2.2 x hx
  exact ⟨h1.1, h1.2.1, by omega, h1.2.2.2.1, by omega⟩
theorem pck_grow (h : NF k X) (hl : X.length ≤ 9) (hc : -1 ≤ c.1 ∧ c.1 ≤ 9 ∧ -1 ≤ c.2.1 ∧ c.2.1 ≤ 9) (ht : okT k c.2.2) : pck (nrm (X ++ [c])) = grK (X.map kyN) c := by
  have m1 : -1 ≤ mn0 c.1 ∧ mn0 c.1 ≤ 0 := by unfold mn0; split <;> omega
  have m2 : -1 ≤ mn0 c.2.1 ∧ mn0 c.2.1 ≤ 0 := by unfold mn0; split <;> omega
  have n1 : 0 ≤ c.1 - mn0 c.1 ∧ c.1 - mn0 c.1 < 10 := by unfold mn0; split <;> omega
  have n2 : 0 ≤ c.2.1 - mn0 c.2.1 ∧ c.2.1 - mn0 c.2.1 < 10 := by unfold mn0; split <;> omega
  have hb := h.b8 hl
  have hcB : inB k (sft (mn0 c.1) (mn0 c.2.1) c) := ⟨n1.1, n1.2, n2.1, n2.2, ht⟩
  rw [nrm_add h (by omega), pck_kyN, insC_key (k := k) hcB (fun y hy => ?_)]
  · unfold grK keyC
    rw [List.map_map, List.map_map]
    congr 2
    refine List.map_congr_left (fun z hz => ?_)
    have := hb z hz
    exact sft_key (k := k) ⟨by omega, by omega, by omega, by omega, this.1⟩ ⟨hc.1, hc.2.2.1⟩
  · obtain ⟨z, hz, rfl⟩ := List.mem_map.mp hy
    have := hb z hz
    exact ⟨by show 0 ≤ z.1 - _; omega, by show z.1 - _ < 10; omega, by show 0 ≤ z.2.1 - _; omega, by show z.2.1 - _ < 10; omega, this.1⟩
/-- a connected set with one more cell -/
theorem conn_add (hk : k < 3) (hT : ∀ y ∈ L, okT k y.2.2) (hC : Conn k L) (hu : u ∈ L) (he : adj k u c) : Conn k (L ++ [c]) := by
  obtain ⟨z, hz⟩ := gL (show 0 < L.length from List.length_pos_iff.mpr hC.1)
  have hT2 : ∀ y ∈ L ++ [c], okT k y.2.2 := fun y hy => by
    rcases List.mem_append.mp hy with hy | hy
    · exact hT y hy
    · rw [List.mem_singleton.mp hy]; exact okT_adj he (hT u hu)
  refine conn_head hk hT2 (a := z) (by rw [List.getElem?_append_left (lt_of_get hz)]; exact hz) (fun x hx => ?_)
  have hzm := List.mem_of_getElem? hz
  rcases List.mem_append.mp hx with hx | hx
  · exact (hC.2 z hzm x hx).mono (fun y hy => List.mem_append_left _ hy)
  · rw [List.mem_singleton.mp hx]
    exact ((hC.2 z hzm u hu).mono (fun y hy => List.mem_append_left _ hy)).step he (by simp)
theorem nd_add (hn : L.Nodup) (hc : c ∉ L) : (L ++ [c]).Nodup := by
  rw [List.nodup_append]
  refine ⟨hn, by simp, fun x hx y hy => ?_⟩
  rw [List.mem_singleton.mp hy]
  intro e; rw [e] at hx; exact hc hx
theorem NF.add (h : NF k X) (hl : X.length ≤ 9) (hu : u ∈ X) (he : adj k u c) (hc : c ∉ X) : NF k (nrm (X ++ [c])) ∧ (nrm (X ++ [c])).length = X.length + 1 ∧ Sm k (X ++ [c]) := by
  have hb := h.b8 hl
  have q1 := adj_q he
  have q2 := adj_r he
  have hub := hb u hu
  have hT := okT_adj he hub.1
  have hS : Sm k (X ++ [c]) := ⟨h.1.1, conn_add h.1.1 (fun y hy => (hb y hy).1) h.1.2.1 hu he, nd_add h.1.2.2.1 hc, by simp; omega, fun x hx => by
    rcases List.mem_append.mp hx with hx | hx
    · have := hb x hx
      exact ⟨this.1, by omega, by omega, by omega, by omega⟩
    · rw [List.mem_singleton.mp hx]
      exact ⟨hT, by omega, by omega, by omega, by omega⟩⟩
  exact ⟨nrm_NF hS.fg, by rw [nrm_len]; simp, hS⟩
/-- connected parts of every size -/
theorem conn_out (hC : Conn k Y) {M : List Cl} (hM : M ≠ []) (hs : ∀ x ∈ M, x ∈ Y) (hy : x ∈ Y) (hx : x ∉ M) : ∃ u ∈ M, ∃ v ∈ Y, v ∉ M ∧ adj k u v := by
  apply Classical.byContradiction
  intro hno
  obtain ⟨z, M', rfl⟩ := List.exists_cons_of_ne_nil hM
  have := hC.2 z (hs z (by simp)) x hy (fun w => w ∈ z :: M') (by simp) (fun u v hu e s => by
    apply Classical.byContradiction
    intro hv
    exact hno ⟨u, hu, v, s, hv, e⟩)
  exact hx this
theorem ex_out {M : List Cl} (hn : Y.Nodup) (hl : M.length < Y.length) : ∃ x ∈ Y, x ∉ M := by
  apply Classical.byContradiction
  intro hno
  have := nd_len hn (fun x hx => by
    apply Classical.byContradiction
    intro hm
    exact hno ⟨x, hx, hm⟩ : ∀ x ∈ Y, x ∈ M)
  omega
theorem conn_part (hk : k < 3) (hT : ∀ y ∈ Y, okT k y.2.2) (hC : Conn k Y) (hn : Y.Nodup) : ∀ m, m + 1 ≤ Y.length → ∃ M : List Cl, M.length = m + 1 ∧ M.Nodup ∧ (∀ x ∈ M, x ∈ Y) ∧ Conn k M
  | 0, h => by
    obtain ⟨z, hz⟩ := gL (show 0 < Y.length by omega)
    refine ⟨[z], rfl, by simp, fun x hx => ?_, by simp, fun p hp q hq => ?_⟩
    · rw [List.mem_singleton.mp hx]; exact List.mem_of_getElem? hz
    · rw [List.mem_singleton.mp hp, List.mem_singleton.mp hq]; exact Rc.refl
  | m + 1, h => by
    obtain ⟨M, h1, h2, h3, h4⟩ := conn_part hk hT hC hn m (by omega)
    obtain ⟨x, hx, hxm⟩ := ex_out (M := M) hn (by omega)
    obtain ⟨u, hu, v, hv, hvm, e⟩ := conn_out hC h4.1 h3 hx hxm
    refine ⟨M ++ [v], by simp [h1], nd_add h2 hvm, fun y hy => ?_, conn_add hk (fun y hy => hT y (h3 y hy)) h4 hu e⟩
    rcases List.mem_append.mp hy with hy | hy
    · exact h3 y hy
    · rw [List.mem_singleton.mp hy]; exact hv
/-- every figure has grown out of one that is a cell smaller -/
theorem NF.from (h : NF k Y) {n : Nat} (hn : Y.length = n + 2) (h9 : n ≤ 7) : ∃ X u c, NF k X ∧ X.length = n + 1 ∧ u ∈ X ∧ adj k u c ∧ c ∉ X ∧ Y = nrm (X ++ [c]) := by
  have hk := h.1.1
  have hT : ∀ y ∈ Y, okT k y.2.2 := fun y hy => (h.1.2.2.2.2 y hy).1
  obtain ⟨M, m1, m2, m3, m4⟩ := conn_part hk hT h.1.2.1 h.1.2.2.1 n (by omega)
  obtain ⟨x, hx, hxm⟩ := ex_out (M := M) h.1.2.2.1 (by omega)
  obtain ⟨u, hu, v, hv, hvm, e⟩ := conn_out h.1.2.1 m4.1 m3 hx hxm
  have hSm : Sm k M := ⟨hk, m4, m2, by omega, fun y hy => by
    have := h.1.2.2.2.2 y (m3 y hy)
    exact ⟨this.1, by omega, by omega, by omega, by omega⟩⟩
  have hNF := nrm_NF hSm.fg
  have hmem : ∀ y, y ∈ M ↔ sft (mnQ M) (mnR M) y ∈ nrm M := fun y => by
    rw [nrm_mem]
    exact ⟨fun h => ⟨y, h, rfl⟩, fun ⟨w, hw, e⟩ => by rw [← sft_inj e]; exact hw⟩
  have hu' := (hmem u).mp hu
  have hv' : sft (mnQ M) (mnR M) v ∉ nrm M := fun h => hvm ((hmem v).mpr h)
  have he := adj_sft (mnQ M) (mnR M) e
  have hadd := hNF.add (by rw [nrm_len]; omega) hu' he hv'
  refine ⟨nrm M, _, _, hNF, by rw [nrm_len]; exact m1, hu', he, hv', ?_⟩
  have hp : Y.Perm (M ++ [v]) := by
    refine (List.perm_ext_iff_of_nodup h.1.2.2.1 (nd_add m2 hvm)).mpr (fun y => ⟨fun hy => ?_, fun hy => ?_⟩)
    · apply Classical.byContradiction
      intro hn2
      have := nd_len (nd_add (nd_add m2 hvm) hn2) (fun z hz => by
        rcases List.mem_append.mp hz with hz | hz
        · rcases List.mem_append.mp hz with hz | hz
          · exact m3 z hz
          · rw [List.mem_singleton.mp hz]; exact hv
        · rw [List.mem_singleton.mp hz]; exact hy : ∀ z ∈ M ++ [v] ++ [y], z ∈ Y)
      simp at this
      omega
    · rcases List.mem_append.mp hy with hy | hy
      · exact m3 y hy
      · rw [List.mem_singleton.mp hy]; exact hv
  have hp2 : (nrm M ++ [sft (mnQ M) (mnR M) v]).Perm (Y.map (sft (mnQ M) (mnR M))) := by
    refine List.Perm.trans ?_ (hp.map _).symm
    rw [List.map_append, List.map_singleton]
    exact nrm_perm.append_right _
  rw [nrm_eq hadd.2.2.fg h.1.fg hp2, h.self]
end
