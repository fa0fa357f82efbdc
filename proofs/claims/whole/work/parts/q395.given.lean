/-! what the law's start gives -/
theorem st_inst : ∀ q ∈ vwCl, Cond.instantiable q.1 q.2.2 ∈ lw_tbl := by decide +kernel
theorem st_K {s : State} {args : Array Value} (hts : ∀ w ∈ lw_tbl, w.before args s = true) : ∃ D : va_G, va_K D vwCl [] s := by
  have hk : ∀ (k : Nat) (q : vw_C), vwCl[k]? = some q → ∃ (cC : ClassId) (iS : Nat → Nat), u_Kn s q.1 q.2.1 q.2.2 cC iS := fun k q hq =>
    u_known (n := q.2.2) hts (fun w hw => (z_in0 q (List.mem_of_getElem? hq) w hw).1) (hts _ (st_inst q (List.mem_of_getElem? hq)))
  obtain ⟨c0, i0, _⟩ := hk 0 _ rfl
  have h : ∀ k : Nat, ∃ x : ClassId × (Nat → Nat), ∀ q : vw_C, vwCl[k]? = some q → u_Kn s q.1 q.2.1 q.2.2 x.1 x.2 := by
    intro k
    cases hq : vwCl[k]? with
    | none => exact ⟨(c0, i0), (fun q h => by cases h)⟩
    | some q =>
      obtain ⟨cC, iS, hh⟩ := hk k q hq
      exact ⟨(cC, iS), fun q' h => by cases h; exact hh⟩
  exact ⟨(fun k => (h k).choose.1, fun k => (h k).choose.2), fun k q hq => (h k).choose_spec q hq, fun k q hq => by simp at hq⟩
theorem st_P {D : va_G} {A : Nat → Prop} {s : State} {H : Heap} : z_Rp D A [] s H := ⟨fun _ => 0, fun k q h => by simp [z_w] at h, ⟨fun i j p q h => by simp [z_w] at h, fun k q h => by simp [z_w] at h⟩, fun q hq => by cases hq⟩
theorem st_mem : ∀ j ∈ List.range 6, Cond.arrayOf (.static "CellFigures$Lattice" (z_sn j) "[I") .int ∈ flatC (Jvm.Cond.and given_1 narrow_1) ∧ Cond.eq (.length (.static "CellFigures$Lattice" (z_sn j) "[I")) (.int (Int32.ofNat (zq j).length)) ∈ flatC (Jvm.Cond.and given_1 narrow_1) ∧ ∀ i ∈ List.range (zq j).length, Cond.eq (.elem (.static "CellFigures$Lattice" (z_sn j) "[I") (.int (Int32.ofNat i))) (.int ((zq j).getD i 0)) ∈ flatC (Jvm.Cond.and given_1 narrow_1) := by decide +kernel
theorem st_lay : ∀ j ∈ List.range 6, Cond.laysStatic "CellFigures$Lattice" (z_sn j) "[I" ∈ lw_tbl := by decide +kernel
theorem st_ini : Cond.initialized "CellFigures$Lattice" ∈ lw_tbl := List.mem_of_getElem? (i := 108) (by decide +kernel)
theorem st_nl : ∀ q ∈ z_nl, Cond.methodLinkNest q.1 q.2.1 q.2.2.1 q.2.2.2 ∈ lw_tbl := by decide +kernel
theorem st_ao : ∀ C ∈ z_ao, Cond.arrayOver (.object C) ∈ lw_tbl := by decide +kernel
theorem st_len : ∀ j ∈ List.range 6, (zq j).length < 2 ^ 31 := by decide
theorem st_R {s : State} {b L : Nat} {xs : Nat → Int32} {A : Nat → Prop} (hts : ∀ w ∈ lw_tbl, w.before #[Value.ref b] s = true) (hs : ∀ w ∈ flatC (Jvm.Cond.and given_1 narrow_1), w.before #[Value.ref b] s = true) (hX : va_X b L xs s s.heap) (hA : ∀ a : Nat, a < s.heap.size → ¬ A a) (hbl : b < s.heap.size) : ∃ r : Nat → Nat, r 0 = b ∧ z_Ro r (z_rl ((List.range L).map xs)) A s s.heap ∧ z_St r A s s.heap := by
  have st : ∀ j : Nat, ∃ t : Nat, j < 6 → ((Term.static "CellFigures$Lattice" (z_sn j) "[I").eval #[Value.ref b] s none [] s = some (.ref t) ∧ va_T .int t (zq j).length (fun i => .int ((zq j).getD i 0)) A s s.heap) := by
    intro j
    by_cases hj : j < 6
    · obtain ⟨m1, m2, m3⟩ := st_mem j (List.mem_range.mpr hj)
      obtain ⟨t, h1, h2⟩ := va_Tof (N := (zq j).length) (f := fun i => .int ((zq j).getD i 0)) (st_len j (List.mem_range.mpr hj)) (hs _ m1) (va_eqt (hs _ m2)) (fun i hi => va_eqt (hs _ (m3 i (List.mem_range.mpr hi)))) hA
      exact ⟨t, fun _ => ⟨h1, h2⟩⟩
    · exact ⟨0, fun h => absurd h hj⟩
  refine ⟨fun j => match j with | 0 => b | j + 1 => (st j).choose, rfl, ?_, ?_, ?_⟩
  · intro j hj
    cases j with
    | zero =>
      obtain ⟨scr, x1, x2, x3, x4, x5⟩ := hX
      have e : ((List.range L).map xs).length = L := by rw [List.length_map, List.length_range]
      refine ⟨scr, x1, x2, x3, ⟨?_, ?_⟩, fun i hi => ?_, hA b hbl⟩
      · show ((List.range L).map xs).length ≤ _
        rw [e, x4]; exact Nat.le_refl _
      · show _ = Int32.ofNat ((List.range L).map xs).length
        rw [e, x4]
      · have hi' : i < ((List.range L).map xs).length := hi
        rw [e] at hi'
        rw [x5 i hi']
        show _ = some (Value.int (((List.range L).map xs).getD i 0))
        simp [List.getD_eq_getElem?_getD, hi']
    | succ j =>
      obtain ⟨cell, c1, c2, c3, c4, c5, c6, c7⟩ := ((st j).choose_spec (by omega)).2
      exact ⟨cell, c1, c2, c3, ⟨c4, c5⟩, c6, c7⟩
  · intro j hj
    exact va_Zof (hts _ (st_lay j (List.mem_range.mpr hj))) (hts _ st_ini) ((st j).choose_spec hj).1 hA
  · exact ⟨fun q hq => va_Nw.of rfl (hts _ (st_nl q hq)), fun C hC => va_AO.of (hts _ (st_ao C hC))⟩
