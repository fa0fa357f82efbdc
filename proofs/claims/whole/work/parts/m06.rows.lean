theorem z_get_in {α : Type} {t : List α} {i : Int32} {x d : α} (h : z_get t i = some x) : vp_in i t.length ∧ t.getD i.toNatClampNeg d = x := by
  unfold z_get at h
  split at h
  · cases h
  · rename_i hi
    obtain ⟨h1, h2⟩ := List.getElem?_eq_some_iff.mp h
    refine ⟨fun q => ?_, by rw [List.getD_eq_getElem?_getD, h]; rfl⟩
    rcases q with q | q
    · exact hi q
    · omega
theorem z_set_in {α : Type} {t t' : List α} {i : Int32} {x : α} (h : z_set t i x = some t') : vp_in i t.length ∧ t' = t.set i.toNatClampNeg x ∧ i.toNatClampNeg < t.length := by
  unfold z_set at h
  split at h
  · cases h
  · rename_i hi
    split at h
    · rename_i hj
      refine ⟨fun q => ?_, (Option.some.inj h).symm, hj⟩
      rcases q with q | q
      · exact hi q
      · omega
    · cases h
theorem z_upd {t : List Int32} {j : Nat} {x : Int32} (hj : j < t.length) : upd (fun i => t.getD i 0) j x = fun i => (t.set j x).getD i 0 := by
  funext i
  unfold upd
  by_cases e : i = j
  · subst e; simp [List.getD_eq_getElem?_getD, hj]
  · simp [List.getD_eq_getElem?_getD, e, List.getElem?_set_ne (fun q => e q.symm)]
theorem z_updL {t : List Int64} {j : Nat} {x : Int64} (hj : j < t.length) : vp_updL (fun i => t.getD i 0) j x = fun i => (t.set j x).getD i 0 := by
  funext i
  unfold vp_updL
  by_cases e : i = j
  · subst e; simp [List.getD_eq_getElem?_getD, hj]
  · simp [List.getD_eq_getElem?_getD, e, List.getElem?_set_ne (fun q => e q.symm)]
theorem z_updR {t : List (Option Nat)} {j : Nat} {x : Option Nat} (hj : j < t.length) : va_up (fun i => t.getD i none) j x = fun i => (t.set j x).getD i none := by
  funext i
  unfold va_up
  by_cases e : i = j
  · subst e; simp [List.getD_eq_getElem?_getD, hj]
  · simp [List.getD_eq_getElem?_getD, e, List.getElem?_set_ne (fun q => e q.symm)]
theorem z_set_mem {w : ZW} {i : Nat} {q x : Nat × ZE} (h : x ∈ w.set i q) : x ∈ w ∨ x = q := by
  rcases List.mem_or_eq_of_mem_set h with h | h
  · exact Or.inl h
  · exact Or.inr h
/-- where the code's next instruction is a branch: the condition, the two ways, the stack behind -/
def z_cd (I : Instr) (a pc : Nat) (st : List Value) : Option (Prop × Nat × Nat × List Value) := match I with
  | .if_icmp .eq _ => match st with | .int y :: .int x :: st' => some (x = y, a, pc + 3, st') | _ => none
  | .if_icmp .ne _ => match st with | .int y :: .int x :: st' => some (x = y, pc + 3, a, st') | _ => none
  | .if_icmp .lt _ => match st with | .int y :: .int x :: st' => some (x < y, a, pc + 3, st') | _ => none
  | .if_icmp .ge _ => match st with | .int y :: .int x :: st' => some (x < y, pc + 3, a, st') | _ => none
  | .if_icmp .gt _ => match st with | .int y :: .int x :: st' => some (y < x, a, pc + 3, st') | _ => none
  | .if_icmp .le _ => match st with | .int y :: .int x :: st' => some (y < x, pc + 3, a, st') | _ => none
  | .ifCond .eq _ => match st with | .int x :: st' => some (x = 0, a, pc + 3, st') | _ => none
  | .ifCond .ne _ => match st with | .int x :: st' => some (x = 0, pc + 3, a, st') | _ => none
  | .ifCond .lt _ => match st with | .int x :: st' => some (x < 0, a, pc + 3, st') | _ => none
  | .ifCond .ge _ => match st with | .int x :: st' => some (x < 0, pc + 3, a, st') | _ => none
  | .ifCond .gt _ => match st with | .int x :: st' => some (0 < x, a, pc + 3, st') | _ => none
  | .ifCond .le _ => match st with | .int x :: st' => some (0 < x, pc + 3, a, st') | _ => none
  | _ => none
section ZB
variable {l : Launch} {D : va_G} {r : Nat → Nat} {rl : Nat → List Int32} {M : ZM} {k n : Nat} {Q : Option Value → ZW → Prop}
set_option maxHeartbeats 4000000 in
theorem Go.br (hok : z_ok M = true) {pc len a b : Nat} {v : Value} {I : Instr} {L : List (Option Value)} {st st' : List Value} {w : ZW} {cd : Prop} {ta tb : Nat} (hl : (z_code M).lookup pc = some (I, len, a, b, v)) (hz : z_cd I a pc st = some (cd, ta, tb, st'))
    (kt : cd → Go l D r rl M k n (ta, L, st', w) Q) (kf : ¬ cd → Go l D r rl M k n (tb, L, st', w) Q) : Go l D r rl M k n (pc, L, st, w) Q := by
  have hc := z_chk_of hok hl
  simp only [z_chk, Bool.and_eq_true, decide_eq_true_eq, beq_iff_eq] at hc
  obtain ⟨hd, hc⟩ := hc
  have nl : ∀ {x y : Int32}, ¬ y ≤ x → x < y := fun h => Int32.not_le.mp h
  have ln : ∀ {x y : Int32}, y ≤ x → ¬ x < y := fun h => Int32.not_lt.mpr h
  cases I with
  | if_icmp cc off =>
    obtain ⟨rfl, ht⟩ : len = 3 ∧ (pc : Int) + off = (a : Int) := by simpa using hc
    cases cc with
    | eq =>
      simp only [z_cd] at hz
      split at hz
      · simp only [Option.some.injEq, Prod.mk.injEq] at hz
        obtain ⟨rfl, rfl, rfl, rfl⟩ := hz
        intro p e R s m args below meth c A Qw H locs cells slots ls C0 hc1 hs1 hR hS hL hend
        have K1 := fun h => kt h p e R s m args below meth c A Qw H locs cells slots ls C0 hc1 hs1 hR hS hL hend
        have K2 := fun h => kf h p e R s m args below meth c A Qw H locs cells slots ls C0 hc1 hs1 hR hS hL hend
        obtain ⟨h1, h2, h3, h4, h5, h6, h7, h8, h9, h10, h11, h12, h13, h14⟩ := id C0
        exact lv_icmp_eq h1 h2 hd ht (fun h => K1 h) (fun h => K2 h)
      · cases hz
    | ne =>
      simp only [z_cd] at hz
      split at hz
      · simp only [Option.some.injEq, Prod.mk.injEq] at hz
        obtain ⟨rfl, rfl, rfl, rfl⟩ := hz
        intro p e R s m args below meth c A Qw H locs cells slots ls C0 hc1 hs1 hR hS hL hend
        have K1 := fun h => kt h p e R s m args below meth c A Qw H locs cells slots ls C0 hc1 hs1 hR hS hL hend
        have K2 := fun h => kf h p e R s m args below meth c A Qw H locs cells slots ls C0 hc1 hs1 hR hS hL hend
        obtain ⟨h1, h2, h3, h4, h5, h6, h7, h8, h9, h10, h11, h12, h13, h14⟩ := id C0
        exact lv_icmp_ne h1 h2 hd ht (fun h => K2 h) (fun h => K1 h)
      · cases hz
    | lt =>
      simp only [z_cd] at hz
      split at hz
      · simp only [Option.some.injEq, Prod.mk.injEq] at hz
        obtain ⟨rfl, rfl, rfl, rfl⟩ := hz
        intro p e R s m args below meth c A Qw H locs cells slots ls C0 hc1 hs1 hR hS hL hend
        have K1 := fun h => kt h p e R s m args below meth c A Qw H locs cells slots ls C0 hc1 hs1 hR hS hL hend
        have K2 := fun h => kf h p e R s m args below meth c A Qw H locs cells slots ls C0 hc1 hs1 hR hS hL hend
        obtain ⟨h1, h2, h3, h4, h5, h6, h7, h8, h9, h10, h11, h12, h13, h14⟩ := id C0
        exact lv_icmp_lt h1 h2 hd ht (fun h => K1 h) (fun h => K2 h)
      · cases hz
    | ge =>
      simp only [z_cd] at hz
      split at hz
      · simp only [Option.some.injEq, Prod.mk.injEq] at hz
        obtain ⟨rfl, rfl, rfl, rfl⟩ := hz
        intro p e R s m args below meth c A Qw H locs cells slots ls C0 hc1 hs1 hR hS hL hend
        have K1 := fun h => kt h p e R s m args below meth c A Qw H locs cells slots ls C0 hc1 hs1 hR hS hL hend
        have K2 := fun h => kf h p e R s m args below meth c A Qw H locs cells slots ls C0 hc1 hs1 hR hS hL hend
        obtain ⟨h1, h2, h3, h4, h5, h6, h7, h8, h9, h10, h11, h12, h13, h14⟩ := id C0
        exact lv_icmp_ge h1 h2 hd ht (fun h => K2 (ln h)) (fun h => K1 (nl h))
      · cases hz
    | gt =>
      simp only [z_cd] at hz
      split at hz
      · simp only [Option.some.injEq, Prod.mk.injEq] at hz
        obtain ⟨rfl, rfl, rfl, rfl⟩ := hz
        intro p e R s m args below meth c A Qw H locs cells slots ls C0 hc1 hs1 hR hS hL hend
        have K1 := fun h => kt h p e R s m args below meth c A Qw H locs cells slots ls C0 hc1 hs1 hR hS hL hend
        have K2 := fun h => kf h p e R s m args below meth c A Qw H locs cells slots ls C0 hc1 hs1 hR hS hL hend
        obtain ⟨h1, h2, h3, h4, h5, h6, h7, h8, h9, h10, h11, h12, h13, h14⟩ := id C0
        exact lv_icmp_gt h1 h2 hd ht (fun h => K1 h) (fun h => K2 h)
      · cases hz
    | le =>
      simp only [z_cd] at hz
      split at hz
      · simp only [Option.some.injEq, Prod.mk.injEq] at hz
        obtain ⟨rfl, rfl, rfl, rfl⟩ := hz
        intro p e R s m args below meth c A Qw H locs cells slots ls C0 hc1 hs1 hR hS hL hend
        have K1 := fun h => kt h p e R s m args below meth c A Qw H locs cells slots ls C0 hc1 hs1 hR hS hL hend
        have K2 := fun h => kf h p e R s m args below meth c A Qw H locs cells slots ls C0 hc1 hs1 hR hS hL hend
        obtain ⟨h1, h2, h3, h4, h5, h6, h7, h8, h9, h10, h11, h12, h13, h14⟩ := id C0
        exact lv_icmp_le h1 h2 hd ht (fun h => K2 (ln h)) (fun h => K1 (nl h))
      · cases hz
  | ifCond cc off =>
    obtain ⟨rfl, ht⟩ : len = 3 ∧ (pc : Int) + off = (a : Int) := by simpa using hc
    cases cc with
    | eq =>
      simp only [z_cd] at hz
      split at hz
      · simp only [Option.some.injEq, Prod.mk.injEq] at hz
        obtain ⟨rfl, rfl, rfl, rfl⟩ := hz
        intro p e R s m args below meth c A Qw H locs cells slots ls C0 hc1 hs1 hR hS hL hend
        have K1 := fun h => kt h p e R s m args below meth c A Qw H locs cells slots ls C0 hc1 hs1 hR hS hL hend
        have K2 := fun h => kf h p e R s m args below meth c A Qw H locs cells slots ls C0 hc1 hs1 hR hS hL hend
        obtain ⟨h1, h2, h3, h4, h5, h6, h7, h8, h9, h10, h11, h12, h13, h14⟩ := id C0
        exact lv_if_eq h1 h2 hd ht (fun h => K1 h) (fun h => K2 h)
      · cases hz
    | ne =>
      simp only [z_cd] at hz
      split at hz
      · simp only [Option.some.injEq, Prod.mk.injEq] at hz
        obtain ⟨rfl, rfl, rfl, rfl⟩ := hz
        intro p e R s m args below meth c A Qw H locs cells slots ls C0 hc1 hs1 hR hS hL hend
        have K1 := fun h => kt h p e R s m args below meth c A Qw H locs cells slots ls C0 hc1 hs1 hR hS hL hend
        have K2 := fun h => kf h p e R s m args below meth c A Qw H locs cells slots ls C0 hc1 hs1 hR hS hL hend
        obtain ⟨h1, h2, h3, h4, h5, h6, h7, h8, h9, h10, h11, h12, h13, h14⟩ := id C0
        exact lv_if_ne h1 h2 hd ht (fun h => K2 h) (fun h => K1 h)
      · cases hz
    | lt =>
      simp only [z_cd] at hz
      split at hz
      · simp only [Option.some.injEq, Prod.mk.injEq] at hz
        obtain ⟨rfl, rfl, rfl, rfl⟩ := hz
        intro p e R s m args below meth c A Qw H locs cells slots ls C0 hc1 hs1 hR hS hL hend
        have K1 := fun h => kt h p e R s m args below meth c A Qw H locs cells slots ls C0 hc1 hs1 hR hS hL hend
        have K2 := fun h => kf h p e R s m args below meth c A Qw H locs cells slots ls C0 hc1 hs1 hR hS hL hend
        obtain ⟨h1, h2, h3, h4, h5, h6, h7, h8, h9, h10, h11, h12, h13, h14⟩ := id C0
        exact lv_if_lt h1 h2 hd ht (fun h => K1 h) (fun h => K2 h)
      · cases hz
    | ge =>
      simp only [z_cd] at hz
      split at hz
      · simp only [Option.some.injEq, Prod.mk.injEq] at hz
        obtain ⟨rfl, rfl, rfl, rfl⟩ := hz
        intro p e R s m args below meth c A Qw H locs cells slots ls C0 hc1 hs1 hR hS hL hend
        have K1 := fun h => kt h p e R s m args below meth c A Qw H locs cells slots ls C0 hc1 hs1 hR hS hL hend
        have K2 := fun h => kf h p e R s m args below meth c A Qw H locs cells slots ls C0 hc1 hs1 hR hS hL hend
        obtain ⟨h1, h2, h3, h4, h5, h6, h7, h8, h9, h10, h11, h12, h13, h14⟩ := id C0
        exact lv_if_ge h1 h2 hd ht (fun h => K2 (ln h)) (fun h => K1 (nl h))
      · cases hz
    | gt =>
      simp only [z_cd] at hz
      split at hz
      · simp only [Option.some.injEq, Prod.mk.injEq] at hz
        obtain ⟨rfl, rfl, rfl, rfl⟩ := hz
        intro p e R s m args below meth c A Qw H locs cells slots ls C0 hc1 hs1 hR hS hL hend
        have K1 := fun h => kt h p e R s m args below meth c A Qw H locs cells slots ls C0 hc1 hs1 hR hS hL hend
        have K2 := fun h => kf h p e R s m args below meth c A Qw H locs cells slots ls C0 hc1 hs1 hR hS hL hend
        obtain ⟨h1, h2, h3, h4, h5, h6, h7, h8, h9, h10, h11, h12, h13, h14⟩ := id C0
        exact lv_if_gt h1 h2 hd ht (fun h => K1 h) (fun h => K2 h)
      · cases hz
    | le =>
      simp only [z_cd] at hz
      split at hz
      · simp only [Option.some.injEq, Prod.mk.injEq] at hz
        obtain ⟨rfl, rfl, rfl, rfl⟩ := hz
        intro p e R s m args below meth c A Qw H locs cells slots ls C0 hc1 hs1 hR hS hL hend
        have K1 := fun h => kt h p e R s m args below meth c A Qw H locs cells slots ls C0 hc1 hs1 hR hS hL hend
        have K2 := fun h => kf h p e R s m args below meth c A Qw H locs cells slots ls C0 hc1 hs1 hR hS hL hend
        obtain ⟨h1, h2, h3, h4, h5, h6, h7, h8, h9, h10, h11, h12, h13, h14⟩ := id C0
        exact lv_if_le h1 h2 hd ht (fun h => K2 (ln h)) (fun h => K1 (nl h))
      · cases hz
  | _ => simp [z_cd] at hz
theorem Go.iald (hok : z_ok M = true) (q0 : Nat) {pc len a b p0 p1 : Nat} {v : Value} {i : Int32} {x : Int32} {L : List (Option Value)} {t : List Int32} {st : List Value} {w : ZW} (hl : (z_code M).lookup pc = some (.iaload, len, a, b, v)) (hw : w[q0]? = some (p1, zI t)) (hp : p1 = p0) (hx : z_get t i = some x)
    (kk : Go l D r rl M k n (pc + 1, L, .int x :: st, w) Q) : Go l D r rl M k n (pc, L, .int i :: .ref p0 :: st, w) Q := by
  have hc := z_chk_of hok hl
  simp only [z_chk, Bool.and_eq_true, decide_eq_true_eq, beq_iff_eq] at hc
  obtain ⟨hd, rfl⟩ := hc
  subst hp
  intro p e R s m args below meth c A Qw H locs cells slots ls C0 hc1 hs1 hR hS hL hend
  have K := kk p e R s m args below meth c A Qw H locs cells slots ls C0 hc1 hs1 hR hS hL hend
  obtain ⟨h1, h2, h3, h4, h5, h6, h7, h8, h9, h10, h11, h12, h13, h14⟩ := id C0
  obtain ⟨kc, hP, hD, hA⟩ := hR
  obtain ⟨g1, g2⟩ := z_get_in (d := 0) hx
  subst g2
  exact va_iald h1 h2 (z_K1 h8 (hA _ (List.mem_of_getElem? hw) _ rfl)) hP q0 0 (z_w_at hw) rfl g1 hd K
theorem Go.zald (hok : z_ok M = true) (q0 : Nat) {pc len a b p0 p1 : Nat} {v : Value} {i : Int32} {x : Int32} {L : List (Option Value)} {t : List Int32} {st : List Value} {w : ZW} (hl : (z_code M).lookup pc = some (.baload, len, a, b, v)) (hw : w[q0]? = some (p1, zZ t)) (hp : p1 = p0) (hx : z_get t i = some x)
    (kk : Go l D r rl M k n (pc + 1, L, .int x :: st, w) Q) : Go l D r rl M k n (pc, L, .int i :: .ref p0 :: st, w) Q := by
  have hc := z_chk_of hok hl
  simp only [z_chk, Bool.and_eq_true, decide_eq_true_eq, beq_iff_eq] at hc
  obtain ⟨hd, rfl⟩ := hc
  subst hp
  intro p e R s m args below meth c A Qw H locs cells slots ls C0 hc1 hs1 hR hS hL hend
  have K := kk p e R s m args below meth c A Qw H locs cells slots ls C0 hc1 hs1 hR hS hL hend
  obtain ⟨h1, h2, h3, h4, h5, h6, h7, h8, h9, h10, h11, h12, h13, h14⟩ := id C0
  obtain ⟨kc, hP, hD, hA⟩ := hR
  obtain ⟨g1, g2⟩ := z_get_in (d := 0) hx
  subst g2
  exact va_zald h1 h2 (z_K1 h8 (hA _ (List.mem_of_getElem? hw) _ rfl)) hP q0 0 (z_w_at hw) rfl g1 hd K
theorem Go.cald (hok : z_ok M = true) (q0 : Nat) {pc len a b p0 p1 : Nat} {v : Value} {i : Int32} {x : Int32} {L : List (Option Value)} {t : List Int32} {st : List Value} {w : ZW} (hl : (z_code M).lookup pc = some (.caload, len, a, b, v)) (hw : w[q0]? = some (p1, zC t)) (hp : p1 = p0) (hx : z_get t i = some x)
    (kk : Go l D r rl M k n (pc + 1, L, .int x :: st, w) Q) : Go l D r rl M k n (pc, L, .int i :: .ref p0 :: st, w) Q := by
  have hc := z_chk_of hok hl
  simp only [z_chk, Bool.and_eq_true, decide_eq_true_eq, beq_iff_eq] at hc
  obtain ⟨hd, rfl⟩ := hc
  subst hp
  intro p e R s m args below meth c A Qw H locs cells slots ls C0 hc1 hs1 hR hS hL hend
  have K := kk p e R s m args below meth c A Qw H locs cells slots ls C0 hc1 hs1 hR hS hL hend
  obtain ⟨h1, h2, h3, h4, h5, h6, h7, h8, h9, h10, h11, h12, h13, h14⟩ := id C0
  obtain ⟨kc, hP, hD, hA⟩ := hR
  obtain ⟨g1, g2⟩ := z_get_in (d := 0) hx
  subst g2
  exact va_cald h1 h2 (z_K1 h8 (hA _ (List.mem_of_getElem? hw) _ rfl)) hP q0 0 (z_w_at hw) rfl g1 hd K
theorem Go.lald (hok : z_ok M = true) (q0 : Nat) {pc len a b p0 p1 : Nat} {v : Value} {i : Int32} {x : Int64} {L : List (Option Value)} {t : List Int64} {st : List Value} {w : ZW} (hl : (z_code M).lookup pc = some (.laload, len, a, b, v)) (hw : w[q0]? = some (p1, zJ t)) (hp : p1 = p0) (hx : z_get t i = some x)
    (kk : Go l D r rl M k n (pc + 1, L, .long x :: st, w) Q) : Go l D r rl M k n (pc, L, .int i :: .ref p0 :: st, w) Q := by
  have hc := z_chk_of hok hl
  simp only [z_chk, Bool.and_eq_true, decide_eq_true_eq, beq_iff_eq] at hc
  obtain ⟨hd, rfl⟩ := hc
  subst hp
  intro p e R s m args below meth c A Qw H locs cells slots ls C0 hc1 hs1 hR hS hL hend
  have K := kk p e R s m args below meth c A Qw H locs cells slots ls C0 hc1 hs1 hR hS hL hend
  obtain ⟨h1, h2, h3, h4, h5, h6, h7, h8, h9, h10, h11, h12, h13, h14⟩ := id C0
  obtain ⟨kc, hP, hD, hA⟩ := hR
  obtain ⟨g1, g2⟩ := z_get_in (d := 0) hx
  subst g2
  exact va_lald h1 h2 (z_K1 h8 (hA _ (List.mem_of_getElem? hw) _ rfl)) hP q0 0 (z_w_at hw) rfl g1 hd K
theorem Go.aald (hok : z_ok M = true) (q0 : Nat) {pc len a b p0 p1 : Nat} {v : Value} {i : Int32} {x : Nat} {C : String} {L : List (Option Value)} {t : List (Option Nat)} {st : List Value} {w : ZW} (hl : (z_code M).lookup pc = some (.aaload, len, a, b, v)) (hw : w[q0]? = some (p1, zR C t)) (hp : p1 = p0) (hx : z_get t i = some (some x))
    (kk : Go l D r rl M k n (pc + 1, L, .ref x :: st, w) Q) : Go l D r rl M k n (pc, L, .int i :: .ref p0 :: st, w) Q := by
  have hc := z_chk_of hok hl
  simp only [z_chk, Bool.and_eq_true, decide_eq_true_eq, beq_iff_eq] at hc
  obtain ⟨hd, rfl⟩ := hc
  subst hp
  intro p e R s m args below meth c A Qw H locs cells slots ls C0 hc1 hs1 hR hS hL hend
  have K := kk p e R s m args below meth c A Qw H locs cells slots ls C0 hc1 hs1 hR hS hL hend
  obtain ⟨h1, h2, h3, h4, h5, h6, h7, h8, h9, h10, h11, h12, h13, h14⟩ := id C0
  obtain ⟨kc, hP, hD, hA⟩ := hR
  obtain ⟨g1, g2⟩ := z_get_in (d := none) hx
  refine va_aldq h1 h2 (z_K1 h8 (hA _ (List.mem_of_getElem? hw) _ rfl)) hP q0 0 (z_w_at hw) rfl g1 hd ?_
  rw [g2]
  exact K
theorem Go.iast (hok : z_ok M = true) (q0 : Nat) {pc len a b p0 p1 : Nat} {v : Value} {i : Int32} {x : Int32} {L : List (Option Value)} {t t' : List Int32} {st : List Value} {w : ZW} (hl : (z_code M).lookup pc = some (.iastore, len, a, b, v)) (hw : w[q0]? = some (p1, zI t)) (hp : p1 = p0) (hx : z_set t i x = some t')
    (kk : Go l D r rl M k n (pc + 1, L, st, w.set q0 (p1, zI t')) Q) : Go l D r rl M k n (pc, L, .int x :: .int i :: .ref p0 :: st, w) Q := by
  have hc := z_chk_of hok hl
  simp only [z_chk, Bool.and_eq_true, decide_eq_true_eq, beq_iff_eq] at hc
  obtain ⟨hd, rfl⟩ := hc
  subst hp
  intro p e R s m args below meth c A Qw H locs cells slots ls C0 hc1 hs1 hR hS hL hend
  obtain ⟨h1, h2, h3, h4, h5, h6, h7, h8, h9, h10, h11, h12, h13, h14⟩ := id C0
  obtain ⟨kc, hP, hD, hA⟩ := hR
  obtain ⟨g1, g2, g3⟩ := z_set_in hx
  refine va_iast h1 h2 (z_K1 h8 (hA _ (List.mem_of_getElem? hw) _ rfl)) hP hD hS q0 0 (z_w_at hw) rfl g1 hd (fun H1 locs1 hP1 hD1 hS1 => ?_)
  have e1 : z_w kc (w.set q0 (p1, zI t')) = (z_w kc w).set q0 (p1, z_E kc p1 (zI t')) := z_w_set
  have e2 : z_E kc p1 (zI t') = .inl (kc p1, t.length, .inl (upd (fun i => t.getD i 0) i.toNatClampNeg x)) := by
    subst g2
    simp only [z_E, List.length_set, z_upd g3]
  rw [← e2, ← e1] at hP1 hD1
  refine kk p e R s m args below meth c A Qw H1 locs1 cells slots ls C0 hc1 hs1 ⟨kc, hP1, hD1, ?_⟩ hS1 hL hend
  intro q hq ty hty
  rcases z_set_mem hq with h | h
  · exact hA q h ty hty
  · subst h
    exact hA _ (List.mem_of_getElem? hw) ty hty
theorem Go.zast (hok : z_ok M = true) (q0 : Nat) {pc len a b p0 p1 : Nat} {v : Value} {i : Int32} {x : Int32} {L : List (Option Value)} {t t' : List Int32} {st : List Value} {w : ZW} (hl : (z_code M).lookup pc = some (.bastore, len, a, b, v)) (hw : w[q0]? = some (p1, zZ t)) (hp : p1 = p0) (hx : z_set t i (vp_nar .boolean x) = some t')
    (kk : Go l D r rl M k n (pc + 1, L, st, w.set q0 (p1, zZ t')) Q) : Go l D r rl M k n (pc, L, .int x :: .int i :: .ref p0 :: st, w) Q := by
  have hc := z_chk_of hok hl
  simp only [z_chk, Bool.and_eq_true, decide_eq_true_eq, beq_iff_eq] at hc
  obtain ⟨hd, rfl⟩ := hc
  subst hp
  intro p e R s m args below meth c A Qw H locs cells slots ls C0 hc1 hs1 hR hS hL hend
  obtain ⟨h1, h2, h3, h4, h5, h6, h7, h8, h9, h10, h11, h12, h13, h14⟩ := id C0
  obtain ⟨kc, hP, hD, hA⟩ := hR
  obtain ⟨g1, g2, g3⟩ := z_set_in hx
  refine va_zast h1 h2 (z_K1 h8 (hA _ (List.mem_of_getElem? hw) _ rfl)) hP hD hS q0 0 (z_w_at hw) rfl g1 hd (fun H1 locs1 hP1 hD1 hS1 => ?_)
  have e1 : z_w kc (w.set q0 (p1, zZ t')) = (z_w kc w).set q0 (p1, z_E kc p1 (zZ t')) := z_w_set
  have e2 : z_E kc p1 (zZ t') = .inl (kc p1, t.length, .inl (upd (fun i => t.getD i 0) i.toNatClampNeg (vp_nar .boolean x))) := by
    subst g2
    simp only [z_E, List.length_set, z_upd g3]
  rw [← e2, ← e1] at hP1 hD1
  refine kk p e R s m args below meth c A Qw H1 locs1 cells slots ls C0 hc1 hs1 ⟨kc, hP1, hD1, ?_⟩ hS1 hL hend
  intro q hq ty hty
  rcases z_set_mem hq with h | h
  · exact hA q h ty hty
  · subst h
    exact hA _ (List.mem_of_getElem? hw) ty hty
theorem Go.cast (hok : z_ok M = true) (q0 : Nat) {pc len a b p0 p1 : Nat} {v : Value} {i : Int32} {x : Int32} {L : List (Option Value)} {t t' : List Int32} {st : List Value} {w : ZW} (hl : (z_code M).lookup pc = some (.castore, len, a, b, v)) (hw : w[q0]? = some (p1, zC t)) (hp : p1 = p0) (hx : z_set t i (vp_nar .char x) = some t')
    (kk : Go l D r rl M k n (pc + 1, L, st, w.set q0 (p1, zC t')) Q) : Go l D r rl M k n (pc, L, .int x :: .int i :: .ref p0 :: st, w) Q := by
  have hc := z_chk_of hok hl
  simp only [z_chk, Bool.and_eq_true, decide_eq_true_eq, beq_iff_eq] at hc
  obtain ⟨hd, rfl⟩ := hc
  subst hp
  intro p e R s m args below meth c A Qw H locs cells slots ls C0 hc1 hs1 hR hS hL hend
  obtain ⟨h1, h2, h3, h4, h5, h6, h7, h8, h9, h10, h11, h12, h13, h14⟩ := id C0
  obtain ⟨kc, hP, hD, hA⟩ := hR
  obtain ⟨g1, g2, g3⟩ := z_set_in hx
  refine va_cast h1 h2 (z_K1 h8 (hA _ (List.mem_of_getElem? hw) _ rfl)) hP hD hS q0 0 (z_w_at hw) rfl g1 hd (fun H1 locs1 hP1 hD1 hS1 => ?_)
  have e1 : z_w kc (w.set q0 (p1, zC t')) = (z_w kc w).set q0 (p1, z_E kc p1 (zC t')) := z_w_set
  have e2 : z_E kc p1 (zC t') = .inl (kc p1, t.length, .inl (upd (fun i => t.getD i 0) i.toNatClampNeg (vp_nar .char x))) := by
    subst g2
    simp only [z_E, List.length_set, z_upd g3]
  rw [← e2, ← e1] at hP1 hD1
  refine kk p e R s m args below meth c A Qw H1 locs1 cells slots ls C0 hc1 hs1 ⟨kc, hP1, hD1, ?_⟩ hS1 hL hend
  intro q hq ty hty
  rcases z_set_mem hq with h | h
  · exact hA q h ty hty
  · subst h
    exact hA _ (List.mem_of_getElem? hw) ty hty
theorem Go.last (hok : z_ok M = true) (q0 : Nat) {pc len a b p0 p1 : Nat} {v : Value} {i : Int32} {x : Int64} {L : List (Option Value)} {t t' : List Int64} {st : List Value} {w : ZW} (hl : (z_code M).lookup pc = some (.lastore, len, a, b, v)) (hw : w[q0]? = some (p1, zJ t)) (hp : p1 = p0) (hx : z_set t i x = some t')
    (kk : Go l D r rl M k n (pc + 1, L, st, w.set q0 (p1, zJ t')) Q) : Go l D r rl M k n (pc, L, .long x :: .int i :: .ref p0 :: st, w) Q := by
  have hc := z_chk_of hok hl
  simp only [z_chk, Bool.and_eq_true, decide_eq_true_eq, beq_iff_eq] at hc
  obtain ⟨hd, rfl⟩ := hc
  subst hp
  intro p e R s m args below meth c A Qw H locs cells slots ls C0 hc1 hs1 hR hS hL hend
  obtain ⟨h1, h2, h3, h4, h5, h6, h7, h8, h9, h10, h11, h12, h13, h14⟩ := id C0
  obtain ⟨kc, hP, hD, hA⟩ := hR
  obtain ⟨g1, g2, g3⟩ := z_set_in hx
  refine va_last h1 h2 (z_K1 h8 (hA _ (List.mem_of_getElem? hw) _ rfl)) hP hD hS q0 0 (z_w_at hw) rfl g1 hd (fun H1 locs1 hP1 hD1 hS1 => ?_)
  have e1 : z_w kc (w.set q0 (p1, zJ t')) = (z_w kc w).set q0 (p1, z_E kc p1 (zJ t')) := z_w_set
  have e2 : z_E kc p1 (zJ t') = .inl (kc p1, t.length, .inr (.inl (vp_updL (fun i => t.getD i 0) i.toNatClampNeg x))) := by
    subst g2
    simp only [z_E, List.length_set, z_updL g3]
  rw [← e2, ← e1] at hP1 hD1
  refine kk p e R s m args below meth c A Qw H1 locs1 cells slots ls C0 hc1 hs1 ⟨kc, hP1, hD1, ?_⟩ hS1 hL hend
  intro q hq ty hty
  rcases z_set_mem hq with h | h
  · exact hA q h ty hty
  · subst h
    exact hA _ (List.mem_of_getElem? hw) ty hty
theorem Go.aast (hok : z_ok M = true) (q0 qk ci : Nat) {pc len a b p0 p1 : Nat} {v : Value} {i : Int32} {x : Nat} {rc : vw_C} {vs : List Value} {L : List (Option Value)} {t t' : List (Option Nat)} {st : List Value} {w : ZW} (hl : (z_code M).lookup pc = some (.aastore, len, a, b, v)) (hw : w[q0]? = some (p1, zR rc.1 t)) (hp : p1 = p0) (hv : w[qk]? = some (x, zO ci vs)) (hcl : vwCl[ci]? = some rc) (hx : z_set t i (some x) = some t')
    (kk : Go l D r rl M k n (pc + 1, L, st, w.set q0 (p1, zR rc.1 t')) Q) : Go l D r rl M k n (pc, L, .ref x :: .int i :: .ref p0 :: st, w) Q := by
  have hc := z_chk_of hok hl
  simp only [z_chk, Bool.and_eq_true, decide_eq_true_eq, beq_iff_eq] at hc
  obtain ⟨hd, rfl⟩ := hc
  subst hp
  intro p e R s m args below meth c A Qw H locs cells slots ls C0 hc1 hs1 hR hS hL hend
  obtain ⟨h1, h2, h3, h4, h5, h6, h7, h8, h9, h10, h11, h12, h13, h14⟩ := id C0
  obtain ⟨kc, hP, hD, hA⟩ := hR
  obtain ⟨g1, g2, g3⟩ := z_set_in hx
  refine va_astq h1 h2 (z_K1 h8 (hA _ (List.mem_of_getElem? hw) _ rfl)) hP hD hS q0 0 qk ci (z_w_at hw) rfl (z_w_at hv) hcl g1 hd (fun H1 locs1 hP1 hD1 hS1 => ?_)
  have e1 : z_w kc (w.set q0 (p1, zR rc.1 t')) = (z_w kc w).set q0 (p1, z_E kc p1 (zR rc.1 t')) := z_w_set
  have e2 : z_E kc p1 (zR rc.1 t') = .inl (kc p1, t.length, .inr (.inr (.inr (.inr (va_up (fun i => t.getD i none) i.toNatClampNeg (some x)))))) := by
    subst g2
    simp only [z_E, List.length_set, z_updR g3]
  rw [← e2, ← e1] at hP1 hD1
  refine kk p e R s m args below meth c A Qw H1 locs1 cells slots ls C0 hc1 hs1 ⟨kc, hP1, hD1, ?_⟩ hS1 hL hend
  intro q hq ty hty
  rcases z_set_mem hq with h | h
  · exact hA q h ty hty
  · subst h
    exact hA _ (List.mem_of_getElem? hw) ty hty
theorem Go.rald (hok : z_ok M = true) (j : Nat) {pc len a b p0 : Nat} {v : Value} {i : Int32} {x : Int32} {L : List (Option Value)} {st : List Value} {w : ZW} (hj : j < 7) (hl : (z_code M).lookup pc = some (.iaload, len, a, b, v)) (hp : p0 = r j) (hx : z_get (rl j) i = some x)
    (kk : Go l D r rl M k n (pc + 1, L, .int x :: st, w) Q) : Go l D r rl M k n (pc, L, .int i :: .ref p0 :: st, w) Q := by
  have hc := z_chk_of hok hl
  simp only [z_chk, Bool.and_eq_true, decide_eq_true_eq, beq_iff_eq] at hc
  obtain ⟨hd, rfl⟩ := hc
  subst hp
  intro p e R s m args below meth c A Qw H locs cells slots ls C0 hc1 hs1 hR hS hL hend
  have K := kk p e R s m args below meth c A Qw H locs cells slots ls C0 hc1 hs1 hR hS hL hend
  obtain ⟨h1, h2, h3, h4, h5, h6, h7, h8, h9, h10, h11, h12, h13, h14⟩ := id C0
  obtain ⟨cell, c1, c2, c3, c4, c5, c6⟩ := h12 j hj
  obtain ⟨g1, g2⟩ := z_get_in (d := 0) hx
  have hlt : i.toNatClampNeg < (rl j).length := Nat.lt_of_not_le (fun q => g1 (Or.inr q))
  have hH : H[r j]? = some cell := by rw [hS.2.1 (r j) (Array.getElem?_eq_some_iff.mp c1).1 c6]; exact c1
  refine W.iald h1 h2 (v := .int x) hH c2 c3 (fun q => g1 (q.elim Or.inl (fun q => Or.inr (Nat.le_trans c4.1 q)))) (by rw [c5 _ hlt, g2]) rfl rfl hd K
theorem Go.rlen (hok : z_ok M = true) (j : Nat) {pc len a b p0 : Nat} {v : Value} {L : List (Option Value)} {st : List Value} {w : ZW} (hj : j < 7) (hl : (z_code M).lookup pc = some (.arraylength, len, a, b, v)) (hp : p0 = r j)
    (kk : Go l D r rl M k n (pc + 1, L, .int (Int32.ofNat (rl j).length) :: st, w) Q) : Go l D r rl M k n (pc, L, .ref p0 :: st, w) Q := by
  have hc := z_chk_of hok hl
  simp only [z_chk, Bool.and_eq_true, decide_eq_true_eq, beq_iff_eq] at hc
  obtain ⟨hd, rfl⟩ := hc
  subst hp
  intro p e R s m args below meth c A Qw H locs cells slots ls C0 hc1 hs1 hR hS hL hend
  have K := kk p e R s m args below meth c A Qw H locs cells slots ls C0 hc1 hs1 hR hS hL hend
  obtain ⟨h1, h2, h3, h4, h5, h6, h7, h8, h9, h10, h11, h12, h13, h14⟩ := id C0
  obtain ⟨cell, c1, c2, c3, c4, c5, c6⟩ := h12 j hj
  have hH : H[r j]? = some cell := by rw [hS.2.1 (r j) (Array.getElem?_eq_some_iff.mp c1).1 c6]; exact c1
  refine W.alen h1 h2 (n := Int32.ofNat (rl j).length) hH c2 c4.2 rfl rfl hd K
def z_tyf : Nat → Nat → FieldType
  | 0 => tyX0
  | 1 => tyX1
  | 2 => tyX2
  | 3 => tyX3
  | 4 => tyX4
  | 5 => tyX5
  | 6 => tyX6
  | 7 => tyX7
  | 8 => tyX8
  | 9 => tyX9
  | 10 => tyX10
  | 11 => tyX11
  | 12 => tyX12
  | _ => fun _ => .int
theorem z_tyf_ok : ∀ (ci : Nat) (q : vw_C), vwCl[ci]? = some q → (∀ j, j < q.2.2 → parseFieldDescriptor (q.2.1 j).2.2.1 = some (z_tyf ci j)) ∧ ∀ a, a < q.2.2 → ∀ b, b < q.2.2 → a ≠ b → (q.2.1 a).2.1 ≠ (q.2.1 b).2.1
  | 0, q, h => by cases h; exact ⟨tyX0_ok, nmX0⟩
  | 1, q, h => by cases h; exact ⟨tyX1_ok, nmX1⟩
  | 2, q, h => by cases h; exact ⟨tyX2_ok, nmX2⟩
  | 3, q, h => by cases h; exact ⟨tyX3_ok, nmX3⟩
  | 4, q, h => by cases h; exact ⟨tyX4_ok, nmX4⟩
  | 5, q, h => by cases h; exact ⟨tyX5_ok, nmX5⟩
  | 6, q, h => by cases h; exact ⟨tyX6_ok, nmX6⟩
  | 7, q, h => by cases h; exact ⟨tyX7_ok, nmX7⟩
  | 8, q, h => by cases h; exact ⟨tyX8_ok, nmX8⟩
  | 9, q, h => by cases h; exact ⟨tyX9_ok, nmX9⟩
  | 10, q, h => by cases h; exact ⟨tyX10_ok, nmX10⟩
  | 11, q, h => by cases h; exact ⟨tyX11_ok, nmX11⟩
  | 12, q, h => by cases h; exact ⟨tyX12_ok, nmX12⟩
  | n + 13, q, h => by simp [vwCl] at h
theorem Go.put (hok : z_ok M = true) (q0 : Nat) {pc len ci b i0 p0 p1 : Nat} {v x : Value} {fs : List Value} {L : List (Option Value)} {st : List Value} {w : ZW} (hl : (z_code M).lookup pc = some (.putfield i0, len, ci, b, v)) (hw : w[q0]? = some (p1, zO ci fs)) (hp : p1 = p0) (hn : narrow (z_tyf ci b) x = x) (hf : fits (z_tyf ci b) x = true) (hb : b < fs.length)
    (kk : Go l D r rl M k n (pc + 3, L, st, w.set q0 (p1, zO ci (fs.set b x))) Q) : Go l D r rl M k n (pc, L, x :: .ref p0 :: st, w) Q := by
  have hc := z_chk_of hok hl
  simp only [z_chk, Bool.and_eq_true, decide_eq_true_eq, beq_iff_eq] at hc
  obtain ⟨hd, hc⟩ := hc
  try simp only [Bool.and_eq_true, beq_iff_eq] at hc
  obtain ⟨rfl, hc⟩ := hc
  split at hc
  · rename_i C T N hcl
    simp only [Bool.and_eq_true, decide_eq_true_eq, Bool.or_eq_true, Bool.not_eq_true'] at hc
    obtain ⟨⟨hbN, hlk⟩, hfin⟩ := hc
    split at hlk
    · rename_i q
      simp only [decide_eq_true_eq] at hlk
      subst hp
      intro p e R s m args below meth c A Qw H locs cells slots ls C0 hc1 hs1 hR hS hL hend
      obtain ⟨h1, h2, h3, h4, h5, h6, h7, h8, h9, h10, h11, h12, h13, h14⟩ := id C0
      obtain ⟨kc, hP, hD, hA⟩ := hR
      obtain ⟨ty1, ty2⟩ := z_tyf_ok ci _ hcl
      have KK : ∀ (H1 : Heap) (locs1 : List Loc), va_P D vwCl ((z_w kc w).set q0 (p1, .inr (ci, fs.set b x))) H1 → va_D A ((z_w kc w).set q0 (p1, .inr (ci, fs.set b x))) → va_S A s.heap H1 locs1 → W p l e R s m args below meth c H1 locs1 cells slots Qw (F0 m (pc + 3) ls st) := by
        intro H1 locs1 hP1 hD1 hS1
        have e1 : z_w kc (w.set q0 (p1, zO ci (fs.set b x))) = (z_w kc w).set q0 (p1, .inr (ci, fs.set b x)) := z_w_set
        rw [← e1] at hP1 hD1
        refine kk p e R s m args below meth c A Qw H1 locs1 cells slots ls C0 hc1 hs1 ⟨kc, hP1, hD1, ?_⟩ hS1 hL hend
        intro q hq ty hty
        rcases z_set_mem hq with h | h
        · exact hA q h ty hty
        · subst h; cases hty
      rcases hfin with hfin | ⟨hini, hdecl⟩
      · exact va_put (D := D) (ci := ci) (v := x) (ty := z_tyf ci b) (C := C) (T := T) (N := N) h1 h2 h7 (z_in hcl) (z_tyf ci) ty1 ty2 h6 h8 hP hD hS q0 (z_w_at hw) hcl b hbN (h7 _ (z_tbm hlk rfl)) (fun _ h => h) hfin (ty1 b hbN) hn hf hb hd KK
      · cases hfb : (T b).2.2.2 with
        | false => exact va_put (D := D) (ci := ci) (v := x) (ty := z_tyf ci b) (C := C) (T := T) (N := N) h1 h2 h7 (z_in hcl) (z_tyf ci) ty1 ty2 h6 h8 hP hD hS q0 (z_w_at hw) hcl b hbN (h7 _ (z_tbm hlk rfl)) (fun _ h => h) hfb (ty1 b hbN) hn hf hb hd KK
        | true => exact va_putF (D := D) (ci := ci) (v := x) (ty := z_tyf ci b) (C := C) (T := T) (N := N) h1 h2 h7 (z_in hcl) (z_tyf ci) ty1 ty2 h6 h8 hP hD hS q0 (z_w_at hw) hcl b hbN (h7 _ (z_tbm hlk rfl)) (fun _ h => h) hfb (h9 hini) hdecl (ty1 b hbN) hn hf hb hd KK
    · cases hlk
  · cases hc
end ZB
