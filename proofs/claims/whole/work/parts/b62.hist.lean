/-! the draft, the history, the text: relations -/
def DRf (k : Nat) (L : List Cl) (g : Nat → Option Int32) : Prop := k < 3 ∧ L.length ≤ 12 ∧ g 0 = some (iI k) ∧ g 1 = some (iI L.length) ∧ ∀ i c, L[i]? = some c → g (2 + i) = some (iI (ky c))
def Dr (k : Nat) (L : List Cl) : Prop := k < 3 ∧ L.Nodup ∧ L.length ≤ 12 ∧ ∀ c ∈ L, inB k c
def RHm (H : List (Nat × List Cl)) (was : List Int32) (kept : Int32) : Prop := was.length = 84 ∧ H.length ≤ 6 ∧ kept = iI H.length ∧ ∀ i k L, H[i]? = some (k, L) → DRf k L (fun j => was[14 * i + j]?)
def RHc (H : List (Nat × List Cl)) (he hl : Int32) (hf : Nat → Nat × List Int32 × Int32) : Prop := ∃ e : Nat, e < 6 ∧ he = iI e ∧ hl = iI H.length ∧ H.length ≤ 6 ∧ (∀ j, (hf j).2.1.length = 12) ∧ ∀ i k L, H[i]? = some (k, L) → (hf ((e + 6 - H.length + i) % 6)).1 = k ∧ CE 12 L (hf ((e + 6 - H.length + i) % 6)).2.1 (hf ((e + 6 - H.length + i) % 6)).2.2
def psh (H : List (Nat × List Cl)) (x : Nat × List Cl) : List (Nat × List Cl) := (if H.length = 6 then H.tail else H) ++ [x]
def HOK (H : List (Nat × List Cl)) : Prop := ∀ x ∈ H, Dr x.1 x.2
section
variable {N k : Nat} {L : List Cl} {H : List (Nat × List Cl)} {T d was : List Int32} {s kept he hl : Int32} {hf : Nat → Nat × List Int32 × Int32}
theorem DR.f (h : DR k L d) : DRf k L (fun j => d[j]?) := ⟨h.1.1, h.2.1, h.1.2.2, h.2.2.1, h.2.2.2⟩
theorem DRf.dr (h : DRf k L (fun j => d[j]?)) (hd : d.length = 14) : DR k L d := ⟨⟨h.1, hd, h.2.2.1⟩, h.2.1, h.2.2.2.1, h.2.2.2.2⟩
theorem DRf.congr {g g' : Nat → Option Int32} (h : DRf k L g) (e : ∀ j, j < 14 → g' j = g j) : DRf k L g' := by
  obtain ⟨h1, h2, h3, h4, h5⟩ := h
  refine ⟨h1, h2, by rw [e 0 (by omega)]; exact h3, by rw [e 1 (by omega)]; exact h4, fun i c hc => ?_⟩
  have := lt_of_get hc
  rw [e _ (by omega)]
  exact h5 i c hc
theorem Dr.ld (h : Dr k L) : Ld k L := ⟨h.1, h.2.1, h.2.2.1, fun x hx => by
  obtain ⟨h1, h2, h3, h4, h5⟩ := h.2.2.2 x hx
  exact ⟨h5, by omega, by omega, by omega, by omega⟩⟩
theorem Dr.sm (h : Dr k L) (hc : Conn k L) : Sm k L := ⟨h.1, hc, h.2.1, h.2.2.1, fun x hx => by
  obtain ⟨h1, h2, h3, h4, h5⟩ := h.2.2.2 x hx
  exact ⟨h5, by omega, by omega, by omega, by omega⟩⟩
theorem psh_ok (h : HOK H) (hx : Dr k L) : HOK (psh H (k, L)) := fun x hm => by
  unfold psh at hm
  rcases List.mem_append.mp hm with hm | hm
  · split at hm
    · exact h x (List.mem_of_mem_tail hm)
    · exact h x hm
  · rw [List.mem_singleton.mp hm]; exact hx
theorem keep_eq (hN : 100 ≤ N) (hk : k < 3) (h : RHc H he hl hf) (hL : CE 12 L T s) : OK (f_X3_keep N he hl k T s hf) (fun u => RHc (psh H (k, L)) u.1 u.2.1 u.2.2) := by
  obtain ⟨e, he6, rfl, rfl, h6, hlen, hr⟩ := h
  obtain ⟨J, hc, hJ⟩ := copy_CE (N := N) hN (hlen e) hL hL.le (by omega)
  unfold f_X3_keep f_X8_copy
  rw [li0, if_neg (iI_ltF (by omega) (by omega) (by omega)), li6, if_pos (iI_ltT (by omega) (by omega) (by omega)), ixI he6 (by omega)]
  simp only [Option.bind_some]
  rw [if_pos he6, hc]
  simp only [Option.bind_some]
  rw [iI_succ, iI_succ]
  have el : (if iI 6 < iI ((H.length + 1 : Nat) : Int) then iI 6 else iI ((H.length + 1 : Nat) : Int)) = iI (psh H (k, L)).length := by
    unfold psh
    rw [List.length_append, List.length_singleton]
    by_cases g : H.length = 6
    · rw [if_pos g, List.length_tail, if_pos (iI_ltT (by omega) (by omega) (by omega)), g]
      rfl
    · rw [if_neg g, if_neg (iI_ltF (by omega) (by omega) (by omega))]
  have main : RHc (psh H (k, L)) (iI ((e + 1) % 6 : Nat)) (iI (psh H (k, L)).length) (va_up hf e (k, L.map cI ++ J, iI L.length)) := by
    refine ⟨(e + 1) % 6, by omega, rfl, rfl, ?_, fun j => ?_, fun i k' L' hi => ?_⟩
    · unfold psh
      rw [List.length_append, List.length_singleton]
      split
      · rw [List.length_tail]; omega
      · omega
    · by_cases g : j = e
      · rw [g, upS]; simp; omega
      · rw [upN _ g]; exact hlen j
    · unfold psh at hi ⊢
      by_cases g : H.length = 6
      · rw [if_pos g] at hi ⊢
        have ht : H.tail.length = 5 := by rw [List.length_tail]; omega
        rw [List.length_append, List.length_singleton, ht]
        rcases Nat.lt_or_ge i 5 with g1 | g1
        · rw [List.getElem?_append_left (by omega), List.getElem?_tail] at hi
          rw [upN _ (by omega)]
          have := hr (i + 1) k' L' hi
          rw [g] at this
          rw [show ((e + 1) % 6 + 6 - (5 + 1) + i) % 6 = (e + 6 - 6 + (i + 1)) % 6 by omega]
          exact this
        · have hlt := lt_of_get hi
          rw [List.length_append, List.length_singleton, ht] at hlt
          have e5 : i = 5 := by omega
          subst e5
          rw [List.getElem?_append_right (by omega), ht] at hi
          cases hi
          rw [show ((e + 1) % 6 + 6 - (5 + 1) + 5) % 6 = e by omega, upS]
          exact ⟨rfl, J, rfl, by simp; omega, rfl⟩
      · rw [if_neg g] at hi ⊢
        rw [List.length_append, List.length_singleton]
        rcases Nat.lt_or_ge i H.length with g1 | g1
        · rw [List.getElem?_append_left (by omega)] at hi
          rw [upN _ (by omega)]
          have := hr i k' L' hi
          rw [show ((e + 1) % 6 + 6 - (H.length + 1) + i) % 6 = (e + 6 - H.length + i) % 6 by omega]
          exact this
        · have hlt := lt_of_get hi
          rw [List.length_append, List.length_singleton] at hlt
          have e5 : i = H.length := by omega
          subst e5
          rw [List.getElem?_append_right (by omega), Nat.sub_self] at hi
          cases hi
          rw [show ((e + 1) % 6 + 6 - (H.length + 1) + H.length) % 6 = e by omega, upS]
          exact ⟨rfl, J, rfl, by simp; omega, rfl⟩
  rw [el]
  by_cases g : e + 1 < 6
  · rw [if_pos (iI_ltT (by omega) (by omega) (by omega)), OK_some]
    rw [show (e + 1) % 6 = e + 1 by omega] at main
    exact main
  · rw [if_neg (iI_ltF (by omega) (by omega) (by omega)), OK_some]
    rw [show (e + 1) % 6 = 0 by omega] at main
    exact main
/-- the reference copies the draft behind the states that it keeps -/
theorem rec_copy (hN : 100 ≤ N) (hd : d.length = 14) {W : List Int32} (hW : W.length = 84) {K : Nat} (hK : K < 6) : OK (f_X12_records_L50 N d (iI K) N 0 W) (fun u => u.length = 84 ∧ (∀ j, j < 14 → u[14 * K + j]? = d[j]?) ∧ ∀ p, (p < 14 * K ∨ 14 * K + 14 ≤ p) → u[p]? = W[p]?) := by
  refine zlp2 14 (fun i v u => v = iI i ∧ u.length = 84 ∧ (∀ j, j < i → u[14 * K + j]? = d[j]?) ∧ ∀ p, (p < 14 * K ∨ 14 * K + 14 ≤ p) → u[p]? = W[p]?) ?_ N 0 _ _ (by omega) (by omega) ⟨rfl, hW, fun j h => by omega, fun p _ => rfl⟩
  rintro fu i v u hi ⟨rfl, h1, h2, h3⟩ ih
  rw [f_X12_records_L50, li14]
  rcases Nat.lt_or_ge i 14 with hlt | hge
  · obtain ⟨x, hx⟩ := gL (show i < d.length by omega)
    rw [if_pos (iI_ltT (by omega) (by omega) (by omega)), gI hx (by omega)]
    simp only [Option.bind_some]
    have e1 : iI 14 * iI (K : Int) + iI (i : Int) = iI ((14 * K + i : Nat) : Int) := by
      rw [iI_mul, iI_add]; congr 1
    rw [e1, sI (by omega) (by omega)]
    simp only [Option.bind_some]
    rw [iI_succ]
    refine ih hlt _ _ ⟨rfl, by simp [h1], fun j hj => ?_, fun p hp => ?_⟩
    · rcases Nat.lt_or_ge j i with g | g
      · rw [List.getElem?_set_ne (by omega)]; exact h2 j g
      · rw [show j = i by omega, hx]; exact st0 (by omega)
    · rw [List.getElem?_set_ne (by omega)]; exact h3 p hp
  · have e0 : i = 14 := by omega
    subst e0
    rw [if_neg (iI_ltF (by omega) (by omega) (by omega)), OK_some]
    exact ⟨h1, h2, h3⟩
theorem rec_shift (hN : 100 ≤ N) {W : List Int32} (hW : W.length = 84) : OK (f_X12_records_L11 N N 0 W) (fun u => u.length = 84 ∧ ∀ p, p < 70 → u[p]? = W[p + 14]?) := by
  refine zlp2 70 (fun i v u => v = iI i ∧ u.length = 84 ∧ (∀ p, p < i → u[p]? = W[p + 14]?) ∧ ∀ p, i ≤ p → u[p]? = W[p]?) ?_ N 0 _ _ (by omega) (by omega) ⟨rfl, hW, fun j h => by omega, fun p _ => rfl⟩
  rintro fu i v u hi ⟨rfl, h1, h2, h3⟩ ih
  rw [f_X12_records_L11, li14, show (70 : Int32) = iI 70 from rfl]
  rcases Nat.lt_or_ge i 70 with hlt | hge
  · have h4 := h3 (i + 14) (by omega)
    obtain ⟨x, hx⟩ := gL (show i + 14 < W.length by omega)
    have e1 : iI (i : Int) + iI 14 = iI ((i + 14 : Nat) : Int) := by rw [iI_add]; rfl
    rw [if_pos (iI_ltT (by omega) (by omega) (by omega)), e1, gI (h4.trans hx) (by omega)]
    simp only [Option.bind_some]
    rw [sI (by omega) (by omega)]
    simp only [Option.bind_some]
    rw [iI_succ]
    refine ih hlt _ _ ⟨rfl, by simp [h1], fun j hj => ?_, fun p hp => ?_⟩
    · rcases Nat.lt_or_ge j i with g | g
      · rw [List.getElem?_set_ne (by omega)]; exact h2 j g
      · rw [show j = i by omega, hx]; exact st0 (by omega)
    · rw [List.getElem?_set_ne (by omega)]; exact h3 p (by omega)
  · have e0 : i = 70 := by omega
    subst e0
    rw [if_neg (iI_ltF (by omega) (by omega) (by omega)), OK_some]
    exact ⟨h1, h2⟩
theorem records_eq (hN : 100 ≤ N) (h : RHm H was kept) (hd : DR k L d) : OK (f_X12_records N d was kept) (fun u => RHm (psh H (k, L)) u.1 u.2) := by
  obtain ⟨h1, h6, rfl, hr⟩ := h
  unfold f_X12_records
  by_cases g : H.length = 6
  · rw [if_pos (by rw [g]; rfl), OK_bind]
    refine (rec_shift hN h1).mono ?_
    rintro W ⟨hW, hWs⟩
    have e1 : iI (H.length : Int) - 1 = iI ((5 : Nat) : Int) := by rw [g, li1, iI_sub]; rfl
    rw [e1, OK_bind]
    refine (rec_copy hN hd.1.2.1 hW (K := 5) (by omega)).mono ?_
    rintro U ⟨hU, hU1, hU2⟩
    rw [OK_some, iI_succ]
    have ht : H.tail.length = 5 := by rw [List.length_tail]; omega
    refine ⟨hU, ?_, ?_, fun i k' L' hi => ?_⟩
    · unfold psh; rw [if_pos g, List.length_append, ht]; simp
    · unfold psh; rw [if_pos g, List.length_append, ht]; rfl
    · unfold psh at hi
      rw [if_pos g] at hi
      rcases Nat.lt_or_ge i 5 with g1 | g1
      · rw [List.getElem?_append_left (by omega), List.getElem?_tail] at hi
        refine (hr (i + 1) k' L' hi).congr (fun j hj => ?_)
        show U[14 * i + j]? = was[14 * (i + 1) + j]?
        rw [hU2 _ (Or.inl (by omega)), hWs _ (by omega)]
        congr 1
        omega
      · have hlt := lt_of_get hi
        rw [List.length_append, List.length_singleton, ht] at hlt
        have e5 : i = 5 := by omega
        subst e5
        rw [List.getElem?_append_right (by omega), ht] at hi
        cases hi
        exact hd.f.congr (fun j hj => hU1 j hj)
  · rw [if_neg (by rw [li6, iI_eq (by omega) (by omega) (by omega) (by omega)]; omega), OK_bind]
    refine (rec_copy hN hd.1.2.1 h1 (K := H.length) (by omega)).mono ?_
    rintro U ⟨hU, hU1, hU2⟩
    rw [OK_some, iI_succ]
    refine ⟨hU, ?_, ?_, fun i k' L' hi => ?_⟩
    · unfold psh; rw [if_neg g, List.length_append]; simp; omega
    · unfold psh; rw [if_neg g, List.length_append]; rfl
    · unfold psh at hi
      rw [if_neg g] at hi
      rcases Nat.lt_or_ge i H.length with g1 | g1
      · rw [List.getElem?_append_left (by omega)] at hi
        refine (hr i k' L' hi).congr (fun j hj => ?_)
        exact hU2 _ (Or.inl (by omega))
      · have hlt := lt_of_get hi
        rw [List.length_append, List.length_singleton] at hlt
        have e5 : i = H.length := by omega
        subst e5
        rw [List.getElem?_append_right (by omega), Nat.sub_self] at hi
        cases hi
        exact hd.f.congr (fun j hj => hU1 j hj)
/-- the latest state comes back -/
theorem restore_eq {k' : Nat} {L' : List Cl} (hN : 100 ≤ N) (h : RHc (H ++ [(k', L')]) he hl hf) (hT : T.length = 12) : OK (f_X3_restore N he hl k T s hf) (fun u => RHc H u.1 u.2.1 hf ∧ u.2.1 = iI H.length ∧ u.2.2.1 = k' ∧ CE 12 L' u.2.2.2.1 u.2.2.2.2) := by
  obtain ⟨e, he6, rfl, rfl, h6, hlen, hr⟩ := h
  rw [List.length_append, List.length_singleton] at h6 hr ⊢
  have hlast := hr H.length k' L' (by rw [List.getElem?_append_right (by omega), Nat.sub_self]; rfl)
  unfold f_X3_restore f_X8_copy
  rw [li0, if_neg (iI_eqF (by omega) (by omega) (by omega) (by omega) (by omega))]
  have e1 : iI ((H.length + 1 : Nat) : Int) - 1 = iI (H.length : Int) := by rw [li1, iI_sub]; congr 1; omega
  rw [e1]
  have main : ∀ e', e' < 6 → (e' + 1) % 6 = e → RHc H (iI (e' : Nat)) (iI H.length) hf ∧ (hf e').1 = k' ∧ CE 12 L' (hf e').2.1 (hf e').2.2 := by
    intro e' h' hee
    rw [show (e + 6 - (H.length + 1) + H.length) % 6 = e' by omega] at hlast
    refine ⟨⟨e', h', rfl, rfl, by omega, hlen, fun i k2 L2 hi => ?_⟩, hlast⟩
    have hlt := lt_of_get hi
    have := hr i k2 L2 (by rw [List.getElem?_append_left hlt]; exact hi)
    rw [show (e' + 6 - H.length + i) % 6 = (e + 6 - (H.length + 1) + i) % 6 by omega]
    exact this
  by_cases g : 0 < e
  · obtain ⟨m1, m2, m3⟩ := main (e - 1) (by omega) (by omega)
    have e2 : iI (e : Int) - 1 = iI ((e - 1 : Nat) : Int) := by rw [li1, iI_sub]; congr 1; omega
    rw [if_pos (iI_ltT (by omega) (by omega) (by omega)), e2, li6, if_pos (iI_ltT (by omega) (by omega) (by omega)), ixI (by omega) (by omega)]
    simp only [Option.bind_some]
    obtain ⟨J, hc, hJ⟩ := copy_CE (N := N) hN hT m3 m3.le (by omega)
    rw [if_pos (by omega), hc]
    simp only [Option.bind_some]
    rw [OK_some]
    exact ⟨m1, rfl, m2, J, rfl, by simp; omega, rfl⟩
  · obtain ⟨m1, m2, m3⟩ := main 5 (by omega) (by omega)
    obtain ⟨J, hc, hJ⟩ := copy_CE (N := N) hN hT m3 m3.le (by omega)
    rw [if_neg (iI_ltF (by omega) (by omega) (by omega)), if_pos (by omega), hc]
    simp only [Option.bind_some]
    rw [OK_some]
    exact ⟨m1, rfl, m2, J, rfl, by simp; omega, rfl⟩
theorem mUndo {k' : Nat} {L' : List Cl} (hN : 100 ≤ N) (h : RHm (H ++ [(k', L')]) was kept) (hd : d.length = 14) : OK (f_X12_undo N d was kept) (fun u => u.1 = iI H.length ∧ DR k' L' u.2.1 ∧ RHm H was u.2.2) := by
  obtain ⟨h1, h6, rfl, hr⟩ := h
  rw [List.length_append, List.length_singleton] at h6 ⊢
  have hlast := hr H.length k' L' (by rw [List.getElem?_append_right (by omega), Nat.sub_self]; rfl)
  unfold f_X12_undo
  have e1 : iI ((H.length + 1 : Nat) : Int) - 1 = iI (H.length : Int) := by rw [li1, iI_sub]; congr 1; omega
  rw [li0, if_neg (iI_eqF (by omega) (by omega) (by omega) (by omega) (by omega)), e1, OK_bind]
  refine OK.mono (Q := fun u => u.length = 14 ∧ ∀ j, j < 14 → u[j]? = was[14 * H.length + j]?) ?_ ?_
  · refine zlp2 14 (fun i v u => v = iI i ∧ u.length = 14 ∧ ∀ j, j < i → u[j]? = was[14 * H.length + j]?) ?_ N 0 _ _ (by omega) (by omega) ⟨rfl, hd, fun j h => by omega⟩
    rintro fu i v u hi ⟨rfl, h1', h2⟩ ih
    rw [f_X12_undo_L22, li14]
    rcases Nat.lt_or_ge i 14 with hlt | hge
    · obtain ⟨x, hx⟩ := gL (show 14 * H.length + i < was.length by omega)
      have e2 : iI 14 * iI (H.length : Int) + iI (i : Int) = iI ((14 * H.length + i : Nat) : Int) := by
        rw [iI_mul, iI_add]; congr 1
      rw [if_pos (iI_ltT (by omega) (by omega) (by omega)), e2, gI hx (by omega)]
      simp only [Option.bind_some]
      rw [sI (by omega) (by omega)]
      simp only [Option.bind_some]
      rw [iI_succ]
      refine ih hlt _ _ ⟨rfl, by simp [h1'], fun j hj => ?_⟩
      rcases Nat.lt_or_ge j i with g | g
      · rw [List.getElem?_set_ne (by omega)]; exact h2 j g
      · rw [show j = i by omega, hx]; exact st0 (by omega)
    · have e0 : i = 14 := by omega
      subst e0
      rw [if_neg (iI_ltF (by omega) (by omega) (by omega)), OK_some]
      exact ⟨h1', h2⟩
  · rintro u ⟨hu, hu2⟩
    rw [OK_some]
    refine ⟨rfl, (hlast.congr (fun j hj => hu2 j hj)).dr hu, h1, by omega, rfl, fun i k2 L2 hi => ?_⟩
    exact hr i k2 L2 (by rw [List.getElem?_append_left (lt_of_get hi)]; exact hi)
end
