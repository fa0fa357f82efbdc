theorem z_E_off {kc : Nat → ClassId} {q : Nat} {cA : ClassId} {x : Nat × ZE} (h : x.1 ≠ q) : z_E (va_up kc q cA) x.1 x.2 = z_E kc x.1 x.2 := by
  have : va_up kc q cA x.1 = kc x.1 := by unfold va_up; exact if_neg h
  rcases x with ⟨a, e | ⟨t, e⟩ | e | ⟨t, e⟩⟩ <;> simp only [z_E] at this ⊢ <;> first | rfl | rw [this]
theorem z_w_off {kc : Nat → ClassId} {q : Nat} {cA : ClassId} {w : ZW} (h : ∀ x ∈ w, x.1 ≠ q) : z_w (va_up kc q cA) w = z_w kc w := by
  unfold z_w
  exact List.map_congr_left (fun x hx => by rw [z_E_off (h x hx)])
/-- a new array's cell beside the world -/
theorem z_Rp.grow {D : va_G} {A : Nat → Prop} {w : ZW} {s : State} {H1 : Heap} {kc : Nat → ClassId} {q : Nat} {cA : ClassId} {c : ZE} {ty : FieldType} (hty : z_ty c = some ty) (hP : va_P D vwCl (z_w kc w ++ [(q, z_E (va_up kc q cA) q c)]) H1) (hD : va_D A (z_w kc w ++ [(q, z_E (va_up kc q cA) q c)])) (hA : ∀ x ∈ w, ∀ t, z_ty x.2 = some t → ArrOfT s (kc x.1) t ∧ va_RA s (kc x.1) t) (hK : ArrOfT s cA ty ∧ va_RA s cA ty) : z_Rp D A (w ++ [(q, c)]) s H1 := by
  have hne : ∀ x ∈ w, x.1 ≠ q := by
    intro x hx e
    obtain ⟨i, hi⟩ := List.mem_iff_getElem?.mp hx
    have hlen : (z_w kc w).length = w.length := by unfold z_w; rw [List.length_map]
    have hil := (List.getElem?_eq_some_iff.mp hi).1
    have g1 : (z_w kc w ++ [(q, z_E (va_up kc q cA) q c)])[i]? = some (x.1, z_E kc x.1 x.2) := by rw [List.getElem?_append_left (by rw [hlen]; exact hil)]; exact z_w_at hi
    have g2 : (z_w kc w ++ [(q, z_E (va_up kc q cA) q c)])[w.length]? = some (q, z_E (va_up kc q cA) q c) := by rw [List.getElem?_append_right (by rw [hlen]; exact Nat.le_refl _), hlen, Nat.sub_self]; rfl
    have := hD.1 i w.length _ _ g1 g2 e
    omega
  have e0 : z_w (va_up kc q cA) (w ++ [(q, c)]) = z_w kc w ++ [(q, z_E (va_up kc q cA) q c)] := by rw [z_w_app, z_w_off hne]; rfl
  have eq0 : va_up kc q cA q = cA := by unfold va_up; exact if_pos rfl
  refine ⟨va_up kc q cA, by rw [e0]; exact hP, by rw [e0]; exact hD, fun x hx t ht => ?_⟩
  rcases List.mem_append.mp hx with h | h
  · have : va_up kc q cA x.1 = kc x.1 := by unfold va_up; exact if_neg (hne x h)
    rw [this]
    exact hA x h t ht
  · rw [List.mem_singleton] at h
    subst h
    rw [hty] at ht
    cases ht
    rw [eq0]
    exact hK
theorem z_rep0 (N : Nat) : (fun i => (List.replicate N (0 : Int32)).getD i 0) = fun _ => 0 := by
  funext i
  rw [List.getD_eq_getElem?_getD, List.getElem?_replicate]
  split <;> rfl
theorem z_rep0L (N : Nat) : (fun i => (List.replicate N (0 : Int64)).getD i 0) = fun _ => 0 := by
  funext i
  rw [List.getD_eq_getElem?_getD, List.getElem?_replicate]
  split <;> rfl
theorem z_rep0R (N : Nat) : (fun i => (List.replicate N (none : Option Nat)).getD i none) = fun _ => none := by
  funext i
  rw [List.getD_eq_getElem?_getD, List.getElem?_replicate]
  split <;> rfl
section ZN
variable {l : Launch} {D : va_G} {r : Nat → Nat} {rl : Nat → List Int32} {M : ZM} {k n : Nat} {Q : Option Value → ZW → Prop}
theorem Go.new (hok : z_ok M = true) (ci : Nat) {pc len a b i0 N : Nat} {v : Value} {C : String} {T : u_T} {fs : List Value} {L : List (Option Value)} {st : List Value} {w : ZW} (hl : (z_code M).lookup pc = some (.new i0, len, a, b, v)) (hcl : vwCl[ci]? = some (C, T, N)) (hlk : Cond.classLink (z_own M) i0 C ∈ z_tb ∧ Cond.instantiable C N ∈ z_tb ∧ Cond.initialized C ∈ z_tb) (hfs : ∀ j, j < N → defaultValue (z_tyf ci j) = vp_V fs j)
    (kk : ∀ q : Nat, Go l D r rl M k n (pc + 3, L, .ref q :: st, w ++ [(q, zO ci fs)]) Q) : Go l D r rl M (1 + k) (N + n) (pc, L, st, w) Q := by
  have hc := z_chk_of hok hl
  simp only [z_chk, Bool.and_eq_true, decide_eq_true_eq, beq_iff_eq] at hc
  obtain ⟨hd, rfl⟩ := hc
  intro p e R s m args below meth c A Qw H locs cells slots ls C0 hc1 hs1 hR hS hL hend
  obtain ⟨h1, h2, h3, h4, h5, h6, h7, h8, h9, h10, h11, h12, h13, h14⟩ := id C0
  obtain ⟨kc, hP, hD, hA⟩ := hR
  obtain ⟨ty1, ty2⟩ := z_tyf_ok ci _ hcl
  refine va_new (ci := ci) (fs := fs) (C := C) (T := T) (N := N) h1 h2 h7 (z_in hcl) (z_tyf ci) ty1 h6 (h7 _ hlk.1) (h7 _ hlk.2.1) (h7 _ hlk.2.2) h8 hP hD hS h14 hcl hfs (by omega) (by omega) hd (fun q H1 hP1 hD1 hS1 => ?_)
  have e0 : z_w kc (w ++ [(q, zO ci fs)]) = z_w kc w ++ [(q, .inr (ci, fs))] := z_w_app
  rw [← e0] at hP1 hD1
  refine kk q p e R s m args below meth c A Qw H1 locs (cells + 1) (slots + N) ls C0 (by omega) (by omega) ⟨kc, hP1, hD1, fun x hx t ht => ?_⟩ hS1 hL ?_
  · rcases List.mem_append.mp hx with h | h
    · exact hA x h t ht
    · rw [List.mem_singleton] at h; subst h; cases ht
  · rw [Nat.add_assoc, Nat.add_assoc]; exact hend
theorem Go.newI (hok : z_ok M = true) (atype : ArrayType) (ty : FieldType) (N : Nat) {pc len a b : Nat} {v : Value} {x : Int32} {L : List (Option Value)} {st : List Value} {w : ZW} (hl : (z_code M).lookup pc = some (.newarray atype, len, a, b, v)) (hty : newarray.typeOf atype = ty) (hac : Cond.arrayClass (newarray.typeOf atype) ∈ z_tb) (hd0 : defaultValue ty = .int 0) (hn : ¬ x < 0) (hN : x.toNatClampNeg = N) (hby : N * componentBytes ty ≤ 536870912)
    (kk : ∀ q : Nat, Go l D r rl M k n (pc + 2, L, .ref q :: st, w ++ [(q, .inr (.inl (ty, List.replicate N 0)))]) Q) : Go l D r rl M (1 + k) (N + n) (pc, L, .int x :: st, w) Q := by
  have hc := z_chk_of hok hl
  simp only [z_chk, Bool.and_eq_true, decide_eq_true_eq, beq_iff_eq] at hc
  obtain ⟨hd, rfl⟩ := hc
  intro p e R s m args below meth c A Qw H locs cells slots ls C0 hc1 hs1 hR hS hL hend
  obtain ⟨h1, h2, h3, h4, h5, h6, h7, h8, h9, h10, h11, h12, h13, h14⟩ := id C0
  obtain ⟨kc, hP, hD, hA⟩ := hR
  refine va_newa (a0 := (N, .inl (fun _ => 0))) h1 h2 (h7 _ hac) hty h8 hP hD hS h14 (fun cA => by rw [hd0]; rfl) hn hN hby (by omega) (by omega) hd (fun q cA H1 hK1 hP1 hD1 hS1 => ?_)
  have e0 : z_E (va_up kc q cA) q (.inr (.inl (ty, List.replicate N 0))) = .inl (cA, N, .inl (fun _ => 0)) := by
    simp only [z_E, List.length_replicate, z_rep0, va_up, if_true]
  refine kk q p e R s m args below meth c A Qw H1 locs (cells + 1) (slots + N) ls C0 (by omega) (by omega) (z_Rp.grow (kc := kc) (cA := cA) (ty := ty) rfl (by rw [e0]; exact hP1) (by rw [e0]; exact hD1) hA (hK1.2 0 _ rfl)) hS1 hL ?_
  rw [Nat.add_assoc, Nat.add_assoc]; exact hend
theorem Go.newJ (hok : z_ok M = true) (N : Nat) {pc len a b : Nat} {v : Value} {x : Int32} {L : List (Option Value)} {st : List Value} {w : ZW} (hl : (z_code M).lookup pc = some (.newarray .long, len, a, b, v)) (hac : Cond.arrayClass .long ∈ z_tb) (hn : ¬ x < 0) (hN : x.toNatClampNeg = N) (hby : N * componentBytes .long ≤ 536870912)
    (kk : ∀ q : Nat, Go l D r rl M k n (pc + 2, L, .ref q :: st, w ++ [(q, zJ (List.replicate N 0))]) Q) : Go l D r rl M (1 + k) (N + n) (pc, L, .int x :: st, w) Q := by
  have hc := z_chk_of hok hl
  simp only [z_chk, Bool.and_eq_true, decide_eq_true_eq, beq_iff_eq] at hc
  obtain ⟨hd, rfl⟩ := hc
  intro p e R s m args below meth c A Qw H locs cells slots ls C0 hc1 hs1 hR hS hL hend
  obtain ⟨h1, h2, h3, h4, h5, h6, h7, h8, h9, h10, h11, h12, h13, h14⟩ := id C0
  obtain ⟨kc, hP, hD, hA⟩ := hR
  refine va_newa (atype := .long) (ty := .long) (a0 := (N, .inr (.inl (fun _ => 0)))) h1 h2 (h7 _ hac) rfl h8 hP hD hS h14 (fun cA => rfl) hn hN hby (by omega) (by omega) hd (fun q cA H1 hK1 hP1 hD1 hS1 => ?_)
  have e0 : z_E (va_up kc q cA) q (zJ (List.replicate N 0)) = .inl (cA, N, .inr (.inl (fun _ => 0))) := by
    simp only [z_E, List.length_replicate, z_rep0L, va_up, if_true]
  refine kk q p e R s m args below meth c A Qw H1 locs (cells + 1) (slots + N) ls C0 (by omega) (by omega) (z_Rp.grow (kc := kc) (cA := cA) (ty := .long) rfl (by rw [e0]; exact hP1) (by rw [e0]; exact hD1) hA (hK1.2 0 _ rfl)) hS1 hL ?_
  rw [Nat.add_assoc, Nat.add_assoc]; exact hend
theorem Go.newR (hok : z_ok M = true) (C : String) (N : Nat) {pc len a b i0 : Nat} {v : Value} {x : Int32} {L : List (Option Value)} {st : List Value} {w : ZW} (hl : (z_code M).lookup pc = some (.anewarray i0, len, a, b, v)) (hlk : Cond.classLink (z_own M) i0 C ∈ z_tb) (hac : C ∈ z_ao) (hn : ¬ x < 0) (hN : x.toNatClampNeg = N) (hby : N * 4 ≤ 536870912)
    (kk : ∀ q : Nat, Go l D r rl M k n (pc + 3, L, .ref q :: st, w ++ [(q, zR C (List.replicate N none))]) Q) : Go l D r rl M (1 + k) (N + n) (pc, L, .int x :: st, w) Q := by
  have hc := z_chk_of hok hl
  simp only [z_chk, Bool.and_eq_true, decide_eq_true_eq, beq_iff_eq] at hc
  obtain ⟨hd, rfl⟩ := hc
  intro p e R s m args below meth c A Qw H locs cells slots ls C0 hc1 hs1 hR hS hL hend
  obtain ⟨h1, h2, h3, h4, h5, h6, h7, h8, h9, h10, h11, h12, h13, h14⟩ := id C0
  obtain ⟨kc, hP, hD, hA⟩ := hR
  have hov : va_AO C s := h13.2.2 C hac
  refine va_newq (C := C) h1 h2 h6 (h7 _ hlk) hov h8 hP hD hS h14 hn hN hby (by omega) (by omega) hd (fun q cA H1 hK1 hP1 hD1 hS1 => ?_)
  have e0 : z_E (va_up kc q cA) q (zR C (List.replicate N none)) = .inl (cA, N, .inr (.inr (.inr (.inr (fun _ => none))))) := by
    simp only [z_E, List.length_replicate, z_rep0R, va_up, if_true]
  refine kk q p e R s m args below meth c A Qw H1 locs (cells + 1) (slots + N) ls C0 (by omega) (by omega) (z_Rp.grow (kc := kc) (cA := cA) (ty := .object C) rfl (by rw [e0]; exact hP1) (by rw [e0]; exact hD1) hA (hK1.2 0 _ rfl)) hS1 hL ?_
  rw [Nat.add_assoc, Nat.add_assoc]; exact hend
theorem Go.gets (hok : z_ok M = true) (j : Nat) {pc len a b i0 : Nat} {v : Value} {L : List (Option Value)} {st : List Value} {w : ZW} (hj : j < 6) (hl : (z_code M).lookup pc = some (.getstatic i0, len, a, b, v)) (hlk : Cond.fieldLink (z_own M) i0 "CellFigures$Lattice" (z_sn j) "[I" ∈ z_tb)
    (kk : Go l D r rl M k n (pc + 3, L, .ref (r (j + 1)) :: st, w) Q) : Go l D r rl M k n (pc, L, st, w) Q := by
  have hc := z_chk_of hok hl
  simp only [z_chk, Bool.and_eq_true, decide_eq_true_eq, beq_iff_eq] at hc
  obtain ⟨hd, rfl⟩ := hc
  intro p e R s m args below meth c A Qw H locs cells slots ls C0 hc1 hs1 hR hS hL hend
  have K := kk p e R s m args below meth c A Qw H locs cells slots ls C0 hc1 hs1 hR hS hL hend
  obtain ⟨h1, h2, h3, h4, h5, h6, h7, h8, h9, h10, h11, h12, h13, h14⟩ := id C0
  exact va_gets h1 h2 (h13.1 j hj) hS h6 (h7 _ hlk) (fun _ h => h) hd K
end ZN
