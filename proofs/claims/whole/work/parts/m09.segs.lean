def z_pk (S : List ZW) (is : List Nat) : List ZW := is.map (fun i => S.getD i [])
theorem z_pk_all (S : List ZW) : z_pk S (List.range S.length) = S := by
  unfold z_pk
  refine List.ext_getElem? (fun i => ?_)
  rw [List.getElem?_map]
  rcases Nat.lt_or_ge i S.length with h | h
  · rw [List.getElem?_range h, Option.map_some, List.getD_eq_getElem?_getD, List.getElem?_eq_getElem h]
    rfl
  · rw [List.getElem?_eq_none (by rw [List.length_range]; exact h), List.getElem?_eq_none h]
    rfl
theorem z_seg {S : List ZW} {isC isR : List Nat} (h : (isC ++ isR).Perm (List.range S.length)) : S.flatten.Perm ((z_pk S isC).flatten ++ (z_pk S isR).flatten) := by
  have h1 : (z_pk S (isC ++ isR)).Perm S := by
    have := h.map (fun i => S.getD i [])
    have e := z_pk_all S
    unfold z_pk at e ⊢
    rw [e] at this
    exact this
  rw [← List.flatten_append, show z_pk S isC ++ z_pk S isR = z_pk S (isC ++ isR) from (List.map_append).symm]
  exact (List.Perm.flatten h1).symm
def z_le : List (Option Value) → List (Option Value) → Prop
  | [], _ => True
  | none :: a, _ :: b => z_le a b
  | some v :: a, some v' :: b => v = v' ∧ z_le a b
  | _ :: _, _ => False
theorem z_le_at : ∀ {L' L : List (Option Value)}, z_le L' L → ∀ (i : Nat) (v : Value), L'[i]? = some (some v) → L[i]? = some (some v) := by
  intro L'
  induction L' with
  | nil => intro L _ i v h; simp at h
  | cons x t ih =>
    intro L hle i v h
    cases x with
    | none =>
      cases L with
      | nil => exact absurd hle (by simp [z_le])
      | cons y b =>
        cases i with
        | zero => simp at h
        | succ i => rw [List.getElem?_cons_succ] at h ⊢; exact ih hle i v h
    | some u =>
      cases L with
      | nil => exact absurd hle (by simp [z_le])
      | cons y b =>
        cases y with
        | none => exact absurd hle (by simp [z_le])
        | some y =>
          obtain ⟨rfl, h2⟩ : u = y ∧ z_le t b := hle
          cases i with
          | zero => exact h
          | succ i => rw [List.getElem?_cons_succ] at h ⊢; exact ih h2 i v h
section ZQ
variable {l : Launch} {D : va_G} {r : Nat → Nat} {rl : Nat → List Int32} {M : ZM} {k n : Nat} {Q : Option Value → ZW → Prop}
theorem Go.weak {pc : Nat} {L L' : List (Option Value)} {st : List Value} {w : ZW} (hle : z_le L' L) (kk : Go l D r rl M k n (pc, L', st, w) Q) : Go l D r rl M k n (pc, L, st, w) Q := by
  intro p e R s m args below meth c A Qw H locs cells slots ls C0 hc1 hs1 hR hS hL hend
  exact kk p e R s m args below meth c A Qw H locs cells slots ls C0 hc1 hs1 hR hS ⟨hL.1, hL.2.1, fun i v h => hL.2.2 i v (z_le_at hle i v h)⟩ hend
theorem Go.eqz {z z2 : ZC} (h : z = z2) (kk : Go l D r rl M k n z2 Q) : Go l D r rl M k n z Q := h ▸ kk
theorem Go.perm {pc : Nat} {L : List (Option Value)} {st : List Value} {w w2 : ZW} (hp : w2.Perm w) (kk : Go l D r rl M k n (pc, L, st, w2) Q) : Go l D r rl M k n (pc, L, st, w) Q := by
  intro p e R s m args below meth c A Qw H locs cells slots ls C0 hc1 hs1 hR hS hL hend
  refine kk p e R s m args below meth c A Qw H locs cells slots ls C0 hc1 hs1 ?_ hS hL hend
  obtain ⟨kc, h1, h2, h3⟩ := hR
  obtain ⟨d1, d2⟩ := z_D_iff.mp h2
  exact ⟨kc, z_P_iff.mpr (fun q hq => z_P_iff.mp h1 q (hp.mem_iff.mp hq)), z_D_iff.mpr ⟨(hp.map Prod.fst).nodup_iff.mpr d1, fun q hq => d2 q (hp.mem_iff.mp hq)⟩, fun q hq => h3 q (hp.mem_iff.mp hq)⟩
theorem Go.mono {Q' : Option Value → ZW → Prop} {z : ZC} (h : ∀ v w, Q' v w → Q v w) (kk : Go l D r rl M k n z Q') : Go l D r rl M k n z Q := by
  intro p e R s m args below meth c A Qw H locs cells slots ls C0 hc1 hs1 hR hS hL hend
  exact kk p e R s m args below meth c A Qw H locs cells slots ls C0 hc1 hs1 hR hS hL (fun v w' H' locs' pc' ls' hq => hend v w' H' locs' pc' ls' (h v w' hq))
theorem Go.vs (hok : z_ok M = true) (M' : ZM) (isC isR : List Nat) (j ci nS : Nat) {S S2 : List ZW} {As rest st2 : List Value} {b0 pc len a b i0 np : Nat} {v : Value} {v1 : Option Value} {fs : List Value} {L : List (Option Value)} {st : List Value} {rc : vw_C} (hl : (z_code M).lookup pc = some (.invokevirtual i0, len, a, b, v)) (hlk : Cond.methodLink (z_own M) i0 (z_y M') ∈ z_tb) (hvm : z_vm M' np)
    (hfr : z_fr M' + 1 ≤ z_fr M ∧ 8 + (z_nL M' + 11) + z_lo M' ≤ z_lo M) (hnS : S.length = nS) (hp : (isC ++ isR).Perm (List.range nS)) (hj : (z_pk S isC).flatten[j]? = some (b0, zO ci fs)) (hcl : vwCl[ci]? = some rc) (hrc : rc.1 = (z_y M').cls) (hlen : As.length = np) (hst : st = As.reverse ++ .ref b0 :: rest) (hrest : (rest.map fun v => v.category).sum ≤ 8)
    (ct : Ct l D r rl M' 0 0 (.ref b0 :: As) (z_pk S isC).flatten (fun v' w' => v' = v1 ∧ w' = (z_pk S2 isC).flatten)) (hS2 : S2.length = S.length) (hR2 : z_pk S2 isR = z_pk S isR) (hst2 : v1.toList ++ rest = st2) (kk : Go l D r rl M k n (pc + 3, L, st2, S2.flatten) Q) : Go l D r rl M k n (pc, L, st, S.flatten) Q := by
  subst hnS
  have G := Go.callV (k := k) (n := n) (Q := Q) (L := L) (As := As) (rest := rest) (b0 := b0) hok M' j ci hl hlk hvm hfr (z_seg hp) hj hcl hrc hlen hst hrest ct (fun v' w' h => ⟨S2.flatten, by
    rw [h.2, ← hR2]
    exact z_seg (by rw [hS2]; exact hp), by rw [h.1, hst2]; exact kk⟩)
  rw [Nat.zero_add, Nat.zero_add] at G
  exact G
theorem Go.ss (hok : z_ok M = true) (M' : ZM) (isC isR : List Nat) (nS : Nat) {S S2 : List ZW} {As rest st2 : List Value} {pc len a b i0 np : Nat} {v : Value} {v1 : Option Value} {L : List (Option Value)} {st : List Value} (hl : (z_code M).lookup pc = some (.invokestatic i0, len, a, b, v)) (hlk : Cond.methodLink (z_own M) i0 (z_y M') ∈ z_tb) (hvm : z_sm M' np)
    (hfr : z_fr M' + 1 ≤ z_fr M ∧ 8 + (z_nL M' + 11) + z_lo M' ≤ z_lo M) (hnS : S.length = nS) (hp : (isC ++ isR).Perm (List.range nS)) (hlen : As.length = np) (hst : st = As.reverse ++ rest) (hrest : (rest.map fun v => v.category).sum ≤ 8)
    (ct : Ct l D r rl M' 0 0 As (z_pk S isC).flatten (fun v' w' => v' = v1 ∧ w' = (z_pk S2 isC).flatten)) (hS2 : S2.length = S.length) (hR2 : z_pk S2 isR = z_pk S isR) (hst2 : v1.toList ++ rest = st2) (kk : Go l D r rl M k n (pc + 3, L, st2, S2.flatten) Q) : Go l D r rl M k n (pc, L, st, S.flatten) Q := by
  subst hnS
  have G := Go.callS (k := k) (n := n) (Q := Q) (L := L) (As := As) (rest := rest) hok M' hl hlk hvm hfr (z_seg hp) hlen hst hrest ct (fun v' w' h => ⟨S2.flatten, by
    rw [h.2, ← hR2]
    exact z_seg (by rw [hS2]; exact hp), by rw [h.1, hst2]; exact kk⟩)
  rw [Nat.zero_add, Nat.zero_add] at G
  exact G
theorem Go.acopy (hok : z_ok M = true) (q0 : Nat) {pc len a b i0 p0 p1 p2 : Nat} {v : Value} {sp dp m0 : Int32} {t t' : List Int64} {L : List (Option Value)} {st : List Value} {w : ZW} (hl : (z_code M).lookup pc = some (.invokestatic i0, len, a, b, v)) (hlk : Cond.methodLink (z_own M) i0 arraycopyName ∈ z_tb) (hi : Cond.native arraycopyName ∈ z_tb ∧ Cond.static arraycopyName ∈ z_tb ∧ Cond.initialized "java/lang/System" ∈ z_tb) (hfr : 1 ≤ z_fr M ∧ (st.map fun v => v.category).sum + (nativeFrameWords "java/lang/System" "arraycopy" 5 + 11) ≤ z_lo M)
    (hw : w[q0]? = some (p1, zJ t)) (hp : p1 = p0) (hp2 : p1 = p2) (hx : z_copy t sp dp m0 = some t') (kk : Go l D r rl M k n (pc + 3, L, st, w.set q0 (p1, zJ t')) Q) : Go l D r rl M k n (pc, L, .int m0 :: .int dp :: .ref p0 :: .int sp :: .ref p2 :: st, w) Q := by
  have hc := z_chk_of hok hl
  simp only [z_chk, Bool.and_eq_true, decide_eq_true_eq, beq_iff_eq] at hc
  obtain ⟨hd, rfl⟩ := hc
  subst hp
  subst hp2
  intro p e R s m args below meth c A Qw H locs cells slots ls C0 hc1 hs1 hR hS hL hend
  obtain ⟨h1, h2, h3, h4, h5, h6, h7, h8, h9, h10, h11, h12, h13, h14⟩ := id C0
  obtain ⟨kc, hP, hD, hA⟩ := hR
  unfold z_copy at hx
  split at hx
  · cases hx
  split at hx
  · cases hx
  split at hx
  · cases hx
  split at hx
  · rename_i g1 g2 g3 g4
    have hK := z_K1 h8 (hA _ (List.mem_of_getElem? hw) _ rfl)
    refine va_copyl h1 h2 (h4.trans hL.1.symm) h6 (h7 _ hlk) (h7 _ hi.1) (h7 _ hi.2.1) (h7 _ hi.2.2) hK hP hD hS q0 q0 0 0 (z_w_at hw) (z_w_at hw) rfl rfl rfl g1 g2 g3 g4.1 g4.2 (fun i _ => rfl) (by omega) (by omega) hd (fun H1 locs1 hP1 hD1 hS1 => ?_)
    have e1 : z_w kc (w.set q0 (p1, zJ t')) = (z_w kc w).set q0 (p1, z_E kc p1 (zJ t')) := z_w_set
    have e2 : z_E kc p1 (zJ t') = .inl (kc p1, t.length, .inr (.inl (va_cpy (fun i => t.getD i 0) (fun i => t.getD i 0) sp.toNatClampNeg dp.toNatClampNeg m0.toNatClampNeg))) := by
      have := Option.some.inj hx
      subst this
      simp only [z_E, List.length_map, List.length_range]
      refine congrArg (fun f => (Sum.inl (kc p1, t.length, Sum.inr (Sum.inl f)) : va_E)) (funext fun i => ?_)
      rw [List.getD_eq_getElem?_getD, List.getElem?_map]
      rcases Nat.lt_or_ge i t.length with h | h
      · rw [List.getElem?_range h]; rfl
      · rw [List.getElem?_eq_none (by rw [List.length_range]; exact h)]
        unfold va_cpy
        rw [if_neg (fun q => by omega)]
        show _ = t.getD i 0
        rw [List.getD_eq_getElem?_getD, List.getElem?_eq_none h]
        rfl
    rw [← e2, ← e1] at hP1 hD1
    refine kk p e R s m args below meth c A Qw H1 locs1 cells slots ls C0 hc1 hs1 ⟨kc, hP1, hD1, ?_⟩ hS1 hL hend
    intro q hq ty hty
    rcases z_set_mem hq with h | h
    · exact hA q h ty hty
    · subst h
      exact hA _ (List.mem_of_getElem? hw) ty hty
  · cases hx
end ZQ
