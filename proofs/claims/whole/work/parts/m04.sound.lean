theorem z_clr_at {L : List (Option Value)} {i j : Nat} {u : Value} (h : (z_clr L i)[j]? = some (some u)) : L[j]? = some (some u) ∧ ¬ (j + 1 = i ∧ u.category = 2) := by
  cases i with
  | zero => exact ⟨h, fun q => by omega⟩
  | succ i =>
    have key : ∀ x : Option Value, L[i]? = some x → (z_clr L (i + 1) = L.set i none ∨ (z_clr L (i + 1) = L ∧ ∀ u', x = some u' → u'.category ≠ 2)) := by
      intro x hx
      simp only [z_clr]
      rw [hx]
      cases x with
      | none => exact Or.inr ⟨rfl, fun u' q => by cases q⟩
      | some y => cases y <;> first | exact Or.inl rfl | exact Or.inr ⟨rfl, fun u' q => by cases q; simp [Value.category]⟩
    cases hx : L[i]? with
    | none =>
      have e : z_clr L (i + 1) = L := by simp only [z_clr]; rw [hx]
      rw [e] at h
      refine ⟨h, fun q => ?_⟩
      have : j = i := by omega
      subst this
      rw [hx] at h
      cases h
    | some x =>
      rcases key x hx with e | ⟨e, hc⟩
      · rw [e] at h
        by_cases hj : j = i
        · subst hj
          rw [List.getElem?_set] at h
          simp only [if_true] at h
          split at h <;> simp_all
        · rw [List.getElem?_set_ne (fun q => hj q.symm)] at h
          exact ⟨h, fun q => hj (by omega)⟩
      · rw [e] at h
        refine ⟨h, fun q => ?_⟩
        have : j = i := by omega
        subst this
        rw [hx] at h
        exact hc u (Option.some.inj h) q.2
def z_asc (L : List (Option Value)) : List (Nat × Value) := (List.range L.length).filterMap (fun j => (L.getD j none).map (fun v => (j, v)))
theorem z_asc_mem {L : List (Option Value)} {q : Nat × Value} : q ∈ z_asc L ↔ L[q.1]? = some (some q.2) := by
  unfold z_asc
  rw [List.mem_filterMap]
  constructor
  · rintro ⟨j, hj, h⟩
    rw [List.mem_range] at hj
    obtain ⟨v, hv, rfl⟩ := Option.map_eq_some_iff.mp h
    rw [List.getD_eq_getElem?_getD] at hv
    rw [List.getElem?_eq_getElem hj] at hv ⊢
    simpa using hv
  · intro h
    have hj : q.1 < L.length := by
      rcases Nat.lt_or_ge q.1 L.length with h1 | h1
      · exact h1
      · rw [List.getElem?_eq_none h1] at h; cases h
    refine ⟨q.1, List.mem_range.mpr hj, ?_⟩
    rw [List.getD_eq_getElem?_getD, h]
    rfl
theorem z_L.has {ls : Array Slot} {nL : Nat} {L : List (Option Value)} (h : z_L ls nL L) : lv_has ls nL (z_asc L) := ⟨h.1, h.2.1, fun q hq => h.2.2 q.1 q.2 (z_asc_mem.mp hq)⟩
theorem z_L.s1 {ls' : Array Slot} {nL i : Nat} {v : Value} {L : List (Option Value)} (h : lv_has ls' nL ((i, v) :: (z_asc L).filter (fun q => !(q.1 == i) && !(q.1 + 1 == i && q.2.category == 2)))) : z_L ls' nL (z_s1 L i v) := by
  refine ⟨h.1, h.2.1, fun j u hj => ?_⟩
  unfold z_s1 at hj
  by_cases e : j = i
  · subst e
    rw [List.getElem?_set] at hj
    simp only [if_true] at hj
    split at hj
    · cases hj; exact h.2.2 (j, _) List.mem_cons_self
    · cases hj
  · rw [List.getElem?_set_ne (fun q => e q.symm)] at hj
    obtain ⟨h1, h2⟩ := z_clr_at hj
    refine h.2.2 (j, u) (List.mem_cons_of_mem _ (List.mem_filter.mpr ⟨z_asc_mem.mpr h1, ?_⟩))
    simp only [Bool.and_eq_true, Bool.not_eq_true', beq_eq_false_iff_ne, ne_eq, Bool.and_eq_false_iff]
    refine ⟨e, ?_⟩
    by_cases q1 : j + 1 = i
    · exact Or.inr (fun q2 => h2 ⟨q1, q2⟩)
    · exact Or.inl q1
theorem z_L.s2 {ls' : Array Slot} {nL i : Nat} {v : Value} {L : List (Option Value)} (h : lv_has ls' nL ((i, v) :: (z_asc L).filter (fun q => !(q.1 == i) && (!(q.1 == i + 1) && !(q.1 + 1 == i && q.2.category == 2))))) : z_L ls' nL (z_s2 L i v) := by
  refine ⟨h.1, h.2.1, fun j u hj => ?_⟩
  unfold z_s2 at hj
  by_cases e2 : j = i + 1
  · subst e2
    rw [List.getElem?_set] at hj
    simp only [if_true] at hj
    split at hj <;> cases hj
  rw [List.getElem?_set_ne (fun q => e2 q.symm)] at hj
  by_cases e : j = i
  · subst e
    rw [List.getElem?_set] at hj
    simp only [if_true] at hj
    split at hj
    · cases hj; exact h.2.2 (j, _) List.mem_cons_self
    · cases hj
  · rw [List.getElem?_set_ne (fun q => e q.symm)] at hj
    obtain ⟨h1, h2⟩ := z_clr_at hj
    refine h.2.2 (j, u) (List.mem_cons_of_mem _ (List.mem_filter.mpr ⟨z_asc_mem.mpr h1, ?_⟩))
    simp only [Bool.and_eq_true, Bool.not_eq_true', beq_eq_false_iff_ne, ne_eq, Bool.and_eq_false_iff]
    refine ⟨e, e2, ?_⟩
    by_cases q1 : j + 1 = i
    · exact Or.inr (fun q2 => h2 ⟨q1, q2⟩)
    · exact Or.inl q1
theorem z_w_at {k : Nat → ClassId} {w : ZW} {i : Nat} {q : Nat × ZE} (h : w[i]? = some q) : (z_w k w)[i]? = some (q.1, z_E k q.1 q.2) := by
  unfold z_w
  rw [List.getElem?_map, h]
  rfl
theorem z_w_set {k : Nat → ClassId} {w : ZW} {i : Nat} {q : Nat × ZE} : z_w k (w.set i q) = (z_w k w).set i (q.1, z_E k q.1 q.2) := by
  unfold z_w
  rw [List.map_set]
theorem z_w_app {k : Nat → ClassId} {w v : ZW} : z_w k (w ++ v) = z_w k w ++ z_w k v := by
  unfold z_w
  rw [List.map_append]
theorem z_K1 {D : va_G} {U : State} {cA : ClassId} {t : FieldType} (h : va_K D vwCl [] U) (h1 : ArrOfT U cA t ∧ va_RA U cA t) : va_K D vwCl [(cA, t)] U := ⟨h.1, fun k q hk => by
  cases k with
  | zero => cases hk; exact h1
  | succ k => simp at hk⟩
theorem z_in0 : ∀ q ∈ vwCl, ∀ w ∈ u_ws q.1 q.2.1 q.2.2, w ∈ lw_tbl ∧ goodWord w = true := by decide +kernel
theorem z_in {ci : Nat} {q : vw_C} (h : vwCl[ci]? = some q) : ∀ w ∈ u_ws q.1 q.2.1 q.2.2, w ∈ z_tb := fun w hw => List.mem_filter.mpr (z_in0 q (List.mem_of_getElem? h) w hw)
theorem z_int (I : Int) (n : Nat) (h : decide (I = n) = true) : I = n := of_decide_eq_true h
section ZS
variable {l : Launch} {D : va_G} {r : Nat → Nat} {rl : Nat → List Int32} {M : ZM} {k n : Nat} {Q : Option Value → ZW → Prop}
theorem z_getf {pc a b i q hint : Nat} {L : List (Option Value)} {p0 p1 ci : Nat} {fs : List Value} {x : Value} {st : List Value} {w : ZW} {C : String} {T : u_T} {N : Nat} (hd : decode (z_cc M) pc = .ok (.getfield i, 3)) (hc : vwCl[ci]? = some (C, T, N)) (hb : b < N) (hq : lw_tbl[q]? = some (.fieldLink (z_own M) i (T b).1 (T b).2.1 (T b).2.2.1)) (hw : w[hint]? = some (p1, .inl (ci, fs))) (hx : fs[b]? = some x) (hp : p1 = p0)
    (kk : Go l D r rl M k n (pc + 3, L, x :: st, w) Q) : Go l D r rl M k n (pc, L, .ref p0 :: st, w) Q := by
  intro p e R s m args below meth c A Qw H locs cells slots ls C0 hc1 hs1 hR hS hL hend
  have K := kk p e R s m args below meth c A Qw H locs cells slots ls C0 hc1 hs1 hR hS hL hend
  obtain ⟨h1, h2, h3, h4, h5, h6, h7, h8, h9, -⟩ := C0
  obtain ⟨kc, hP, hD, hA⟩ := hR
  subst hp
  exact va_get (D := D) (ci := ci) (v := x) (C := C) (T := T) (N := N) h1 h2 h7 (z_in hc) h6 h8 hP hint (z_w_at hw) hc b hb (h7 _ (z_tbm hq rfl)) (fun _ h => h) hx hd K
theorem z_alen {pc hint : Nat} {L : List (Option Value)} {p0 p1 : Nat} {x : _} {st : List Value} {w : ZW} (hd : decode (z_cc M) pc = .ok (.arraylength, 1)) (hw : w[hint]? = some (p1, .inr x)) (hp : p1 = p0)
    (kk : Go l D r rl M k n (pc + 1, L, .int (Int32.ofNat (z_len (.inr x))) :: st, w) Q) : Go l D r rl M k n (pc, L, .ref p0 :: st, w) Q := by
  intro p e R s m args below meth c A Qw H locs cells slots ls C0 hc1 hs1 hR hS hL hend
  have K := kk p e R s m args below meth c A Qw H locs cells slots ls C0 hc1 hs1 hR hS hL hend
  obtain ⟨h1, h2, h3, h4, h5, h6, h7, h8, h9, -⟩ := C0
  obtain ⟨kc, hP, hD, hA⟩ := hR
  subst hp
  have hm := List.mem_of_getElem? hw
  rcases x with ⟨t, f⟩ | f | ⟨t, f⟩
  · exact va_alen h1 h2 (z_K1 h8 (hA _ hm t rfl)) hP hint 0 (z_w_at hw) rfl rfl hd K
  · exact va_alen h1 h2 (z_K1 h8 (hA _ hm _ rfl)) hP hint 0 (z_w_at hw) rfl rfl hd K
  · exact va_alen h1 h2 (z_K1 h8 (hA _ hm _ rfl)) hP hint 0 (z_w_at hw) rfl rfl hd K
end ZS
