/-! the simple calls -/
/-- the draft and the history, on both sides -/
def RS (k : Nat) (T : List Int32) (s he hl : Int32) (hf : Nat → Nat × List Int32 × Int32) (d was : List Int32) (kept : Int32) : Prop := ∃ L H, Dr k L ∧ CE 12 L T s ∧ DR k L d ∧ RHc H he hl hf ∧ RHm H was kept ∧ HOK H
section
variable {N k : Nat} {L : List Cl} {H : List (Nat × List Cl)} {T d was : List Int32} {s kept he hl : Int32} {hf : Nat → Nat × List Int32 × Int32}
theorem inB_iff {q r t : Int} : inB k (q, r, t) ↔ (0 ≤ q ∧ q < 10 ∧ 0 ≤ r ∧ r < 10 ∧ 0 ≤ t ∧ t < kin k) := by
  unfold inB okT kin
  constructor
  · rintro ⟨h1, h2, h3, h4, h5⟩
    refine ⟨h1, h2, h3, h4, ?_⟩
    simp only at h5
    split <;> omega
  · rintro ⟨h1, h2, h3, h4, h5⟩
    refine ⟨h1, h2, h3, h4, ?_⟩
    simp only
    split at h5 <;> omega
theorem ky_inj {a b : Cl} (ha : inB k a) (hb : inB k b) (h : ky a = ky b) : a = b := by rw [← kc_ky ha, h, kc_ky hb]
theorem mIsCell {q r t : Int} (hd : DK k d) (hq : -2147483648 ≤ q ∧ q < 2147483648) (hr : -2147483648 ≤ r ∧ r < 2147483648) (ht : -2147483648 ≤ t ∧ t < 2147483648) : f_X12_isCell N (iI q) (iI r) (iI t) d = some (if 0 ≤ q ∧ q < 10 ∧ 0 ≤ r ∧ r < 10 ∧ 0 ≤ t ∧ t < kin k then 1 else 0) := by
  unfold f_X12_isCell
  rw [li0, li9, mIn _ _ _ hq ⟨by omega, by omega⟩ ⟨by omega, by omega⟩]
  simp only [Option.bind_some]
  by_cases h1 : 0 ≤ q ∧ q ≤ 9
  case neg => rw [if_neg h1, if_pos (by rfl), if_neg (by omega)]
  rw [if_pos h1, if_neg (by decide), mIn _ _ _ hr ⟨by omega, by omega⟩ ⟨by omega, by omega⟩]
  simp only [Option.bind_some]
  by_cases h2 : 0 ≤ r ∧ r ≤ 9
  case neg => rw [if_neg h2, if_pos (by rfl), if_neg (by omega)]
  rw [if_pos h2, if_neg (by decide)]
  have hg : z_get d (iI 0) = some (iI k) := hd.g
  rw [hg]
  simp only [Option.bind_some]
  have hk := hd.1
  by_cases hk1 : k = 1
  · subst hk1
    rw [if_pos (by rfl), show (1 : Int32) = iI 1 from rfl, mIn _ _ _ ht ⟨by omega, by omega⟩ ⟨by omega, by omega⟩]
    simp only [Option.bind_some]
    rw [show kin 1 = 2 from rfl]
    by_cases h3 : 0 ≤ t ∧ t ≤ 1
    · rw [if_pos h3, if_neg (by decide), if_pos (by omega)]
    · rw [if_neg h3, if_pos (by rfl), if_neg (by omega)]
  · have hkin : kin k = 1 := by unfold kin; rw [if_neg hk1]
    rw [if_neg (by rw [li1, iI_eq (by omega) (by omega) (by omega) (by omega)]; omega), mIn _ _ _ ht ⟨by omega, by omega⟩ ⟨by omega, by omega⟩]
    simp only [Option.bind_some]
    rw [hkin]
    by_cases h3 : 0 ≤ t ∧ t ≤ 0
    · rw [if_pos h3, if_neg (by decide), if_pos (by omega)]
    · rw [if_neg h3, if_pos (by rfl), if_neg (by omega)]
theorem mStands {c : Cl} (hN : 100 ≤ N) (hd : DR k L d) (hb : ∀ x ∈ L, inB k x) (hc : inB k c) : OK (f_X12_standsAt N (iI (ky c)) d) (fun v => (c ∉ L ∧ v = iI (-1)) ∨ ∃ j, L[j]? = some c ∧ v = iI (j : Nat)) := by
  unfold f_X12_standsAt
  have hl := hd.2.1
  rw [OK_bind]
  refine zlp1 L.length (fun i v => v = iI i ∧ ∀ m, m < i → L[m]? ≠ some c) ?_ N 0 _ (by omega) (by omega) ⟨rfl, fun m h => by omega⟩
  rintro fu i v hi ⟨rfl, hp⟩ ih
  rw [f_X12_standsAt_L2, hd.g1]
  simp only [Option.bind_some]
  rcases Nat.lt_or_ge i L.length with h | h
  · obtain ⟨x, hx⟩ := gL h
    have hxb := hb x (List.mem_of_getElem? hx)
    have k1 := ky_rng hxb
    have k2 := ky_rng hc
    rw [if_pos (iI_ltT (by omega) (by omega) (by omega)), li2, iI_add, hd.g2 hx]
    simp only [Option.bind_some]
    rw [iI_succ, OK_ite, iI_eq (by omega) (by omega) (by omega) (by omega)]
    refine ⟨fun e => ?_, fun e => ih h _ ⟨rfl, fun m hm => ?_⟩⟩
    · rw [OK_some]
      show OK (some _) _
      rw [OK_some]
      exact Or.inr ⟨i, by rw [hx, ky_inj hxb hc e], rfl⟩
    · rcases Nat.lt_or_ge m i with g | g
      · exact hp m g
      · rw [show m = i by omega, hx]
        intro e2
        exact e (by rw [Option.some.inj e2])
  · have e : i = L.length := by omega
    subst e
    rw [if_neg (iI_ltF (by omega) (by omega) (by omega)), OK_some]
    show OK (some _) _
    rw [OK_some]
    refine Or.inl ⟨fun hmem => ?_, rfl⟩
    obtain ⟨j, hj⟩ := List.mem_iff_getElem?.mp hmem
    exact hp j (lt_of_get hj) hj
theorem find_CE {n : Nat} {c : Cl} (hN : 100 ≤ N) (h : CE n L T s) (hn : n ≤ 60) (hok : ∀ x ∈ L, ok32 x) (hc : ok32 c) : OK (f_X2_find N (iI c.1) (iI c.2.1) (iI c.2.2) T s) (fun v => (c ∉ L ∧ v = iI (-1)) ∨ ∃ j, L[j]? = some c ∧ v = iI (j : Nat)) := by
  have hl := h.le
  obtain ⟨J, rfl, h2, rfl⟩ := h
  rcases find_eq (N := N) (J := J) (c := c) (L := L) (by omega) (by omega) hok hc with ⟨h1, h2⟩ | ⟨j, _, h1, h2⟩
  · exact OK.of h2 (Or.inl ⟨h1, rfl⟩)
  · exact OK.of h2 (Or.inr ⟨j, h1, rfl⟩)
/-- a cell goes, the last one takes its place -/
theorem remove_CE {n p : Nat} {z : Cl} (h : CE n L T s) (hn : n ≤ 60) (hp : p < L.length) (hz : L[L.length - 1]? = some z) : ∃ T' s', f_X2_remove N (iI p) T s = some (T', s') ∧ CE n ((L.set p z).take (L.length - 1)) T' s' ∧ s' = iI ((L.length - 1 : Nat) : Int) := by
  have hl := h.le
  obtain ⟨J, rfl, h2, rfl⟩ := h
  simp at h2
  unfold f_X2_remove
  have e1 : iI (L.length : Int) - 1 = iI ((L.length - 1 : Nat) : Int) := by rw [li1, iI_sub]; congr 1; omega
  rw [li0, if_neg (iI_ltF (by omega) (by omega) (by omega)), if_pos (iI_ltT (by omega) (by omega) (by omega)), e1, gI (rc_get? hz) (by simp; omega)]
  simp only [Option.bind_some]
  rw [sI (by simp; omega) (by simp; omega)]
  simp only [Option.bind_some]
  refine ⟨_, _, rfl, ⟨((L.set p z).drop (L.length - 1)).map cI ++ J, ?_, ?_, ?_⟩, rfl⟩
  · rw [List.set_append_left _ _ (by simp; omega), ← List.append_assoc, ← List.map_append, List.take_append_drop, List.map_set]
  · simp; omega
  · congr 1; simp
theorem rm_mem {p : Nat} {z x : Cl} (hx : x ∈ (L.set p z).take (L.length - 1)) (hz : L[L.length - 1]? = some z) : x ∈ L := by
  rcases List.mem_or_eq_of_mem_set (List.mem_of_mem_take hx) with h | h
  · exact h
  · rw [h]; exact List.mem_of_getElem? hz
theorem rm_nd {p : Nat} {z : Cl} (hn : L.Nodup) (hz : L[L.length - 1]? = some z) : ((L.set p z).take (L.length - 1)).Nodup := by
  obtain ⟨hz1, hz2⟩ := List.getElem?_eq_some_iff.mp hz
  rw [List.nodup_iff_pairwise_ne, List.pairwise_iff_getElem]
  intro i j hi hj hij
  simp at hi hj
  simp only [List.getElem_take, List.getElem_set]
  intro e
  split at e <;> split at e
  · omega
  · have := (List.getElem_inj hn).mp (hz2.trans e)
    omega
  · have := (List.getElem_inj hn).mp (e.trans hz2.symm)
    omega
  · have := (List.getElem_inj hn).mp e
    omega
theorem s_setLattice (hN : 100 ≤ N) (h : RS k T s he hl hf d was kept) (x : Int32) : OK (f_X11_setLattice N x k T s he hl hf) (fun u => OK (f_X12_setLattice N x d was kept) (fun v => u.1 = v.1 ∧ RS u.2.1 T u.2.2.1 u.2.2.2.1 u.2.2.2.2.1 u.2.2.2.2.2 v.2.1 v.2.2.1 v.2.2.2)) := by
  obtain ⟨L, H, hD, hL, hd, hc, hm, hO⟩ := h
  obtain ⟨z, rfl, z1, z2⟩ := iI_ex x
  have hk := hD.1
  unfold f_X11_setLattice f_X12_setLattice
  rw [li0, li2, mIn _ _ _ ⟨z1, z2⟩ ⟨by omega, by omega⟩ ⟨by omega, by omega⟩]
  simp only [Option.bind_some]
  by_cases g1 : z < 0
  · rw [if_pos (iI_ltT g1 (by omega) (by omega)), if_neg (show ¬ (0 ≤ z ∧ z ≤ 2) by omega), OK_some, if_pos (by rfl), OK_some]
    exact ⟨rfl, L, H, hD, hL, hd, hc, hm, hO⟩
  rw [if_neg (iI_ltF g1 (by omega) (by omega)), li3]
  by_cases g2 : z < 3
  case neg =>
    rw [if_neg (iI_ltF g2 (by omega) (by omega)), if_neg (show ¬ (0 ≤ z ∧ z ≤ 2) by omega), OK_some, if_pos (by rfl), OK_some]
    exact ⟨rfl, L, H, hD, hL, hd, hc, hm, hO⟩
  rw [if_pos (iI_ltT g2 (by omega) (by omega)), if_pos hk, if_pos (show 0 ≤ z ∧ z ≤ 2 by omega), if_neg (show ¬ (1 : Int32) = iI 0 by decide), OK_bind]
  refine (keep_eq hN hk hc hL).mono ?_
  rintro ⟨a1, a2, a3⟩ ha
  obtain ⟨w, rfl⟩ := Int.eq_ofNat_of_zero_le (show 0 ≤ z by omega)
  have hw : w < 3 := by omega
  rw [show iI (w : Int) = iI ((w : Nat) : Int) from rfl, ixI hw (by omega)]
  simp only [Option.bind_some]
  show OK (some _) _
  rw [OK_some, OK_bind]
  refine (records_eq hN hm hd).mono ?_
  rintro ⟨b1, b2⟩ hb
  have hg : z_get d (iI 0) = some (iI k) := hd.1.g
  rw [hg]
  simp only [Option.bind_some]
  have hdl := hd.1.2.1
  have s0 : z_set d (iI ((0 : Nat) : Int)) (iI (w : Int)) = some (d.set 0 (iI (w : Int))) := sI (by omega) (by omega)
  have s1 : z_set (d.set 0 (iI (w : Int))) (iI ((1 : Nat) : Int)) (iI 0) = some ((d.set 0 (iI (w : Int))).set 1 (iI 0)) := sI (by simp; omega) (by simp; omega)
  rw [show (1 : Int32) = iI ((1 : Nat) : Int) from rfl, show iI 0 = iI ((0 : Nat) : Int) from rfl, s0]
  simp only [Option.bind_some]
  rw [show iI ((0 : Nat) : Int) = iI 0 from rfl, s1]
  simp only [Option.bind_some]
  rw [OK_some]
  refine ⟨nI_iI k, [], psh H (k, L), ⟨hw, List.nodup_nil, by simp, fun c hc => by simp at hc⟩, ⟨T, rfl, ?_, rfl⟩, ⟨⟨hw, by simp [hdl], ?_⟩, by simp, ?_, fun i c hc => by simp at hc⟩, ha, hb, psh_ok hO hD⟩
  · obtain ⟨J, _, h2, _⟩ := hL; exact h2
  · exact st1 (st0 (by omega)) (by omega)
  · exact st0 (by simp; omega)
theorem s_addCell (hN : 100 ≤ N) (h : RS k T s he hl hf d was kept) (x y w : Int32) : OK (f_X11_addCell N x y w k T s he hl hf) (fun u => OK (f_X12_addCell N x y w d was kept) (fun v => u.1 = v.1 ∧ RS k u.2.1 u.2.2.1 u.2.2.2.1 u.2.2.2.2.1 u.2.2.2.2.2 v.2.1 v.2.2.1 v.2.2.2)) := by
  obtain ⟨L, H, hD, hL, hd, hc, hm, hO⟩ := h
  obtain ⟨q, rfl, q1, q2⟩ := iI_ex x
  obtain ⟨r, rfl, r1, r2⟩ := iI_ex y
  obtain ⟨t, rfl, t1, t2⟩ := iI_ex w
  have hk := hD.1
  have hL12 := hD.2.2.1
  unfold f_X11_addCell f_X12_addCell
  rw [if_pos hk, hasKey_eq ⟨q1, q2⟩ ⟨r1, r2⟩ ⟨t1, t2⟩, mIsCell hd.1 ⟨q1, q2⟩ ⟨r1, r2⟩ ⟨t1, t2⟩]
  simp only [Option.bind_some]
  by_cases g : 0 ≤ q ∧ q < 10 ∧ 0 ≤ r ∧ r < 10 ∧ 0 ≤ t ∧ t < kin k
  case neg =>
    rw [if_neg g, if_pos (by rfl), OK_some, if_pos (by rfl), OK_some]
    exact ⟨rfl, L, H, hD, hL, hd, hc, hm, hO⟩
  rw [if_pos g, if_neg (by decide), if_neg (by decide)]
  have hB := (inB_iff (k := k) (q := q) (r := r) (t := t)).mpr g
  have hok : ok32 (q, r, t) := by
    have := okT_rng hB.2.2.2.2
    exact ⟨by show -32 ≤ q; omega, by show q < 32; omega, by show -32 ≤ r; omega, by show r < 32; omega, this.1, this.2⟩
  have hkey : (20 : Int32) * iI r + 2 * iI q + iI t = iI (ky (q, r, t)) := by
    rw [li20, li2, iI_mul, iI_mul, iI_add, iI_add]; rfl
  rw [hkey, OK_bind]
  refine (find_CE hN hL (by omega) hD.ld.ok hok).mono (fun v hv => ?_)
  have hst := mStands hN hd hD.2.2.2 hB
  rcases hv with ⟨hno, rfl⟩ | ⟨j, hj, rfl⟩
  · rw [li0, if_pos (iI_ltT (by omega) (by omega) (by omega))]
    have hTl : T.length = 12 := by obtain ⟨J, _, h2, _⟩ := hL; exact h2
    have hsz : s = iI L.length := by obtain ⟨J, _, _, h3⟩ := hL; exact h3
    subst hsz
    rw [isFull_eq (by omega) (by omega)]
    simp only [Option.bind_some]
    by_cases g12 : L.length < T.length
    · rw [if_pos g12, if_pos (by rfl), OK_bind]
      refine (keep_eq hN hk hc hL).mono ?_
      rintro ⟨a1, a2, a3⟩ ha
      obtain ⟨J, rfl, h2, _⟩ := hL
      obtain ⟨j0, J', rfl⟩ := List.exists_cons_of_ne_nil (show J ≠ [] by intro e; rw [e] at h2; simp at h2; omega)
      have hadd := add_eq (N := N) (L := L) (J := J') (c := (q, r, t)) (x := j0) (by simp at h2; omega)
      rw [show f_X2_add N (iI q) (iI r) (iI t) (L.map cI ++ j0 :: J') (iI L.length) = _ from hadd]
      simp only [Option.bind_some]
      rw [OK_some, OK_bind]
      refine hst.mono (fun v hv => ?_)
      rcases hv with ⟨_, rfl⟩ | ⟨j, hj, rfl⟩
      case inr => exact absurd (List.mem_of_getElem? hj) hno
      rw [if_pos (iI_ltT (by omega) (by omega) (by omega)), hd.g1]
      simp only [Option.bind_some]
      rw [if_neg (by rw [li12, iI_eq (by omega) (by omega) (by omega) (by omega)]; omega), OK_bind]
      refine (records_eq hN hm hd).mono ?_
      rintro ⟨b1, b2⟩ hb
      simp only [Option.bind_some]
      have hdl := hd.1.2.1
      have e2 : (2 : Int32) + iI (L.length : Int) = iI ((2 + L.length : Nat) : Int) := by rw [li2, iI_add]; rfl
      rw [e2, sI (by omega) (by omega)]
      simp only [Option.bind_some]
      have g1 : (d.set (2 + L.length) (iI (ky (q, r, t))))[1]? = some (iI L.length) := st1 hd.2.2.1 (by omega)
      have gg : z_get (d.set (2 + L.length) (iI (ky (q, r, t)))) 1 = some (iI L.length) := gI (i := 1) g1 (by simp; omega)
      rw [gg]
      simp only [Option.bind_some]
      rw [iI_succ, show (1 : Int32) = iI ((1 : Nat) : Int) from rfl, sI (by simp; omega) (by simp; omega)]
      simp only [Option.bind_some]
      have g2 : ((d.set (2 + L.length) (iI (ky (q, r, t)))).set 1 (iI ((L.length + 1 : Nat) : Int)))[1]? = some (iI ((L.length + 1 : Nat) : Int)) := st0 (by simp; omega)
      rw [gI g2 (by simp; omega)]
      simp only [Option.bind_some]
      rw [OK_some]
      refine ⟨by simp, L ++ [(q, r, t)], psh H (k, L), ⟨hk, ?_, by simp; omega, fun c hc => ?_⟩, ⟨J', rfl, by simp at h2 ⊢; omega, rfl⟩, ⟨⟨hk, by simp [hdl], st1 (st1 hd.1.2.2 (by omega)) (by omega)⟩, by simp; omega, by rw [g2]; simp, fun i c hc => ?_⟩, ha, hb, psh_ok hO hD⟩
      · rw [List.nodup_append]
        refine ⟨hD.2.1, by simp, fun a ha b hb => ?_⟩
        rw [List.mem_singleton.mp hb]
        intro e; rw [e] at ha; exact hno ha
      · rcases List.mem_append.mp hc with hc | hc
        · exact hD.2.2.2 c hc
        · rw [List.mem_singleton.mp hc]; exact hB
      · rcases Nat.lt_or_ge i L.length with gi | gi
        · rw [List.getElem?_append_left gi] at hc
          exact st1 (st1 (hd.2.2.2 i c hc) (by omega)) (by omega)
        · have hlt := lt_of_get hc
          rw [List.length_append, List.length_singleton] at hlt
          have e5 : i = L.length := by omega
          subst e5
          rw [List.getElem?_append_right (by omega), Nat.sub_self] at hc
          cases hc
          exact st1 (st0 (by omega)) (by omega)
    · rw [if_neg g12, if_neg (by decide), OK_some, OK_bind]
      refine hst.mono (fun v hv => ?_)
      rcases hv with ⟨_, rfl⟩ | ⟨j, hj, rfl⟩
      case inr => exact absurd (List.mem_of_getElem? hj) hno
      rw [if_pos (iI_ltT (by omega) (by omega) (by omega)), hd.g1]
      simp only [Option.bind_some]
      rw [if_pos (by rw [li12, iI_eq (by omega) (by omega) (by omega) (by omega)]; omega), OK_some]
      exact ⟨rfl, L, H, hD, hL, hd, hc, hm, hO⟩
  · have hjl := lt_of_get hj
    rw [li0, if_neg (iI_ltF (by omega) (by omega) (by omega)), OK_some, OK_bind]
    refine hst.mono (fun v hv => ?_)
    rcases hv with ⟨hno, _⟩ | ⟨j', hj', rfl⟩
    · exact absurd (List.mem_of_getElem? hj) hno
    · have hjl := lt_of_get hj'
      rw [if_neg (iI_ltF (by omega) (by omega) (by omega)), OK_some]
      exact ⟨rfl, L, H, hD, hL, hd, hc, hm, hO⟩
theorem s_removeCell (hN : 100 ≤ N) (h : RS k T s he hl hf d was kept) (x y w : Int32) : OK (f_X11_removeCell N x y w k T s he hl hf) (fun u => OK (f_X12_removeCell N x y w d was kept) (fun v => u.1 = v.1 ∧ RS k u.2.1 u.2.2.1 u.2.2.2.1 u.2.2.2.2.1 u.2.2.2.2.2 v.2.1 v.2.2.1 v.2.2.2)) := by
  obtain ⟨L, H, hD, hL, hd, hc, hm, hO⟩ := h
  obtain ⟨q, rfl, q1, q2⟩ := iI_ex x
  obtain ⟨r, rfl, r1, r2⟩ := iI_ex y
  obtain ⟨t, rfl, t1, t2⟩ := iI_ex w
  have hk := hD.1
  have hL12 := hD.2.2.1
  unfold f_X11_removeCell f_X12_removeCell
  rw [if_pos hk, hasKey_eq ⟨q1, q2⟩ ⟨r1, r2⟩ ⟨t1, t2⟩, mIsCell hd.1 ⟨q1, q2⟩ ⟨r1, r2⟩ ⟨t1, t2⟩]
  simp only [Option.bind_some]
  by_cases g : 0 ≤ q ∧ q < 10 ∧ 0 ≤ r ∧ r < 10 ∧ 0 ≤ t ∧ t < kin k
  case neg =>
    rw [if_neg g, if_pos (by rfl), OK_some, if_pos (by rfl), OK_some]
    exact ⟨rfl, L, H, hD, hL, hd, hc, hm, hO⟩
  rw [if_pos g, if_neg (by decide), if_neg (by decide)]
  have hB := (inB_iff (k := k) (q := q) (r := r) (t := t)).mpr g
  have hok : ok32 (q, r, t) := by
    have := okT_rng hB.2.2.2.2
    exact ⟨by show -32 ≤ q; omega, by show q < 32; omega, by show -32 ≤ r; omega, by show r < 32; omega, this.1, this.2⟩
  have hkey : (20 : Int32) * iI r + 2 * iI q + iI t = iI (ky (q, r, t)) := by
    rw [li20, li2, iI_mul, iI_mul, iI_add, iI_add]; rfl
  rw [hkey, OK_bind]
  refine (find_CE hN hL (by omega) hD.ld.ok hok).mono (fun v hv => ?_)
  have hst := mStands hN hd hD.2.2.2 hB
  rcases hv with ⟨hno, rfl⟩ | ⟨j, hj, rfl⟩
  · rw [li0, if_pos (iI_ltT (by omega) (by omega) (by omega)), OK_some, OK_bind]
    refine hst.mono (fun v hv => ?_)
    rcases hv with ⟨_, rfl⟩ | ⟨j, hj, rfl⟩
    case inr => exact absurd (List.mem_of_getElem? hj) hno
    rw [if_pos (iI_ltT (by omega) (by omega) (by omega)), OK_some]
    exact ⟨rfl, L, H, hD, hL, hd, hc, hm, hO⟩
  · have hjl := lt_of_get hj
    rw [li0, if_neg (iI_ltF (by omega) (by omega) (by omega)), OK_bind]
    refine (keep_eq hN hk hc hL).mono ?_
    rintro ⟨a1, a2, a3⟩ ha
    obtain ⟨z, hz⟩ := gL (show L.length - 1 < L.length by omega)
    obtain ⟨T', s', hr, hCE, hs'⟩ := remove_CE (N := N) hL (by omega) hjl hz
    rw [hr]
    simp only [Option.bind_some]
    rw [OK_some, OK_bind]
    refine hst.mono (fun v hv => ?_)
    rcases hv with ⟨hno, _⟩ | ⟨j', hj', rfl⟩
    · exact absurd (List.mem_of_getElem? hj) hno
    · have hjj := nd_get hD.2.1 hj' hj
      subst hjj
      rw [if_neg (iI_ltF (by omega) (by omega) (by omega)), OK_bind]
      refine (records_eq hN hm hd).mono ?_
      rintro ⟨b1, b2⟩ hb
      have hdl := hd.1.2.1
      rw [hd.g1]
      simp only [Option.bind_some]
      have e1 : iI (L.length : Int) - 1 = iI ((L.length - 1 : Nat) : Int) := by rw [li1, iI_sub]; congr 1; omega
      rw [e1, show (1 : Int32) = iI ((1 : Nat) : Int) from rfl, sI (by omega) (by omega)]
      simp only [Option.bind_some]
      have g1 : (d.set 1 (iI ((L.length - 1 : Nat) : Int)))[1]? = some (iI ((L.length - 1 : Nat) : Int)) := st0 (by omega)
      rw [gI g1 (by simp; omega)]
      simp only [Option.bind_some]
      have e2 : (2 : Int32) + iI ((L.length - 1 : Nat) : Int) = iI ((2 + (L.length - 1) : Nat) : Int) := by rw [li2, iI_add]; rfl
      have e3 : (2 : Int32) + iI ((j' : Nat) : Int) = iI ((2 + j' : Nat) : Int) := by rw [li2, iI_add]; rfl
      have g2 : (d.set 1 (iI ((L.length - 1 : Nat) : Int)))[2 + (L.length - 1)]? = some (iI (ky z)) := st1 (hd.2.2.2 _ _ hz) (by omega)
      rw [e2, gI g2 (by simp; omega)]
      simp only [Option.bind_some]
      rw [e3, sI (by simp; omega) (by simp; omega)]
      simp only [Option.bind_some]
      have g3 : ((d.set 1 (iI ((L.length - 1 : Nat) : Int))).set (2 + j') (iI (ky z)))[1]? = some (iI ((L.length - 1 : Nat) : Int)) := st1 g1 (by omega)
      rw [gI g3 (by simp; omega)]
      simp only [Option.bind_some]
      rw [OK_some]
      have hlen : ((L.set j' z).take (L.length - 1)).length = L.length - 1 := by simp
      refine ⟨hs', (L.set j' z).take (L.length - 1), psh H (k, L), ⟨hk, rm_nd hD.2.1 hz, by omega, fun c hc => hD.2.2.2 c (rm_mem hc hz)⟩, hCE, ⟨⟨hk, by simp [hdl], st1 (st1 hd.1.2.2 (by omega)) (by omega)⟩, by omega, by rw [g3, hlen], fun i c hc => ?_⟩, ha, hb, psh_ok hO hD⟩
      have hlt := lt_of_get hc
      rw [hlen] at hlt
      rw [List.getElem?_take, if_pos hlt] at hc
      by_cases ei : j' = i
      · subst ei
        rw [List.getElem?_set_self (by omega)] at hc
        cases hc
        exact st0 (by simp; omega)
      · rw [List.getElem?_set_ne ei] at hc
        exact st1 (st1 (hd.2.2.2 i c hc) (by omega)) (by omega)
theorem s_undo (hN : 100 ≤ N) (h : RS k T s he hl hf d was kept) : OK (f_X11_undo N k T s he hl hf) (fun u => OK (f_X12_undo N d was kept) (fun v => u.1 = v.1 ∧ RS u.2.1 u.2.2.1 u.2.2.2.1 u.2.2.2.2.1 u.2.2.2.2.2 hf v.2.1 was v.2.2)) := by
  obtain ⟨L, H, hD, hL, hd, hc, hm, hO⟩ := h
  unfold f_X11_undo
  have hhl : hl = iI H.length := by obtain ⟨e, _, _, h3, _⟩ := hc; exact h3
  have hkp : kept = iI H.length := hm.2.2.1
  have h6 := hm.2.1
  rcases List.eq_nil_or_concat H with rfl | ⟨H', x, rfl⟩
  · rw [if_pos (by rw [hhl]; rfl), OK_some]
    unfold f_X12_undo
    rw [if_pos (by rw [hkp]; rfl), OK_some]
    exact ⟨rfl, L, [], hD, hL, hd, hc, hm, hO⟩
  · rw [List.concat_eq_append] at hc hm hO h6 hhl
    obtain ⟨k', L'⟩ := x
    rw [List.length_append, List.length_singleton] at h6 hhl
    rw [if_neg (by rw [hhl, li0, iI_eq (by omega) (by omega) (by omega) (by omega)]; omega), OK_bind]
    have hTl : T.length = 12 := by obtain ⟨J, _, h2, _⟩ := hL; exact h2
    refine (restore_eq hN hc hTl).mono ?_
    rintro ⟨a1, a2, a3, a4, a5⟩ ⟨r1, r2, r3, r4⟩
    simp only at r1 r2 r3 r4
    rw [OK_some]
    refine (mUndo hN hm hd.1.2.1).mono ?_
    rintro ⟨b1, b2, b3⟩ ⟨m1, m2, m3⟩
    simp only at m1 m2 m3
    subst r3
    refine ⟨by rw [m1]; exact r2, L', H', hO (a3, L') (by simp), r4, m2, r1, m3, fun x hx => hO x (List.mem_append_left _ hx)⟩
theorem s_hasCell (hN : 100 ≤ N) (h : RS k T s he hl hf d was kept) (x y w : Int32) : OK (f_X11_hasCell N x y w k T s) (fun u => OK (f_X12_hasCell N x y w d) (fun v => u = v)) := by
  obtain ⟨L, H, hD, hL, hd, hc, hm, hO⟩ := h
  obtain ⟨q, rfl, q1, q2⟩ := iI_ex x
  obtain ⟨r, rfl, r1, r2⟩ := iI_ex y
  obtain ⟨t, rfl, t1, t2⟩ := iI_ex w
  have hk := hD.1
  have hL12 := hD.2.2.1
  unfold f_X11_hasCell f_X12_hasCell
  rw [if_pos hk, hasKey_eq ⟨q1, q2⟩ ⟨r1, r2⟩ ⟨t1, t2⟩, mIsCell hd.1 ⟨q1, q2⟩ ⟨r1, r2⟩ ⟨t1, t2⟩]
  simp only [Option.bind_some]
  by_cases g : 0 ≤ q ∧ q < 10 ∧ 0 ≤ r ∧ r < 10 ∧ 0 ≤ t ∧ t < kin k
  case neg => rw [if_neg g, if_pos (by rfl), OK_some, if_pos (by rfl), OK_some]
  rw [if_pos g, if_neg (by decide), if_neg (by decide)]
  have hB := (inB_iff (k := k) (q := q) (r := r) (t := t)).mpr g
  have hok : ok32 (q, r, t) := by
    have := okT_rng hB.2.2.2.2
    exact ⟨by show -32 ≤ q; omega, by show q < 32; omega, by show -32 ≤ r; omega, by show r < 32; omega, this.1, this.2⟩
  have hkey : (20 : Int32) * iI r + 2 * iI q + iI t = iI (ky (q, r, t)) := by
    rw [li20, li2, iI_mul, iI_mul, iI_add, iI_add]; rfl
  rw [hkey, OK_bind]
  refine (find_CE hN hL (by omega) hD.ld.ok hok).mono (fun v hv => ?_)
  have hst := mStands hN hd hD.2.2.2 hB
  rcases hv with ⟨hno, rfl⟩ | ⟨j, hj, rfl⟩
  · rw [li0, if_pos (iI_ltT (by omega) (by omega) (by omega)), OK_some, OK_bind]
    refine hst.mono (fun v hv => ?_)
    rcases hv with ⟨_, rfl⟩ | ⟨j, hj, rfl⟩
    case inr => exact absurd (List.mem_of_getElem? hj) hno
    rw [if_pos (iI_ltT (by omega) (by omega) (by omega)), OK_some]
  · have hjl := lt_of_get hj
    rw [li0, if_neg (iI_ltF (by omega) (by omega) (by omega)), OK_some, OK_bind]
    refine hst.mono (fun v hv => ?_)
    rcases hv with ⟨hno, _⟩ | ⟨j', hj', rfl⟩
    · exact absurd (List.mem_of_getElem? hj) hno
    · have hjl := lt_of_get hj'
      rw [if_neg (iI_ltF (by omega) (by omega) (by omega)), OK_some]
end
