/-! the two answer alike, method by method -/
theorem e_one {α β : Type} {x : Option α} {y : Option β} {S R : α → β → Prop} (h : OK x (fun u => OK y (fun v => S u v))) (i : ∀ u v, S u v → R u v) : ∃ u v, x = some u ∧ y = some v ∧ R u v := by
  obtain ⟨u, h1, v, h2, h3⟩ := h
  exact ⟨u, v, h1, h2, i u v h3⟩
theorem e_two {α β : Type} {x : Option α} {y : Option β} {P : α → Prop} {Q : β → Prop} {R : α → β → Prop} (h : OK x P) (g : OK y Q) (i : ∀ u v, P u → Q v → R u v) : ∃ u v, x = some u ∧ y = some v ∧ R u v := by
  obtain ⟨u, h1, h2⟩ := h
  obtain ⟨v, g1, g2⟩ := g
  exact ⟨u, v, h1, g1, i u v h2 g2⟩
section
variable {N : Nat}
theorem RS_DK {k : Nat} {T d was : List Int32} {s he hl kept : Int32} {hf : Nat → Nat × List Int32 × Int32} (h : RS k T s he hl hf d was kept) : DK k d := by
  obtain ⟨L, H, _, _, hd, _⟩ := h
  exact hd.1
theorem e_setLattice (hN : 2 ^ 45 ≤ N) : E_setLattice N Rel := by
  intro xv mv i1 hR
  obtain ⟨r1, r2, r3, r4, r5, r6, r7, r8, r9, r10, r11, r12, r13, r14⟩ := hR
  refine e_one (s_setLattice (by omega) r1 i1) ?_
  rintro u v ⟨e, g1⟩
  exact ⟨e, ⟨g1, r2, r3, r4, r5, r6, r7, r8, r9, r10, r11, r12, r13, r14⟩⟩
theorem e_addCell (hN : 2 ^ 45 ≤ N) : E_addCell N Rel := by
  intro xv mv i1 i2 i3 hR
  obtain ⟨r1, r2, r3, r4, r5, r6, r7, r8, r9, r10, r11, r12, r13, r14⟩ := hR
  refine e_one (s_addCell (by omega) r1 i1 i2 i3) ?_
  rintro u v ⟨e, g1⟩
  exact ⟨e, ⟨g1, r2, r3, r4, r5, r6, r7, r8, r9, r10, r11, r12, r13, r14⟩⟩
theorem e_removeCell (hN : 2 ^ 45 ≤ N) : E_removeCell N Rel := by
  intro xv mv i1 i2 i3 hR
  obtain ⟨r1, r2, r3, r4, r5, r6, r7, r8, r9, r10, r11, r12, r13, r14⟩ := hR
  refine e_one (s_removeCell (by omega) r1 i1 i2 i3) ?_
  rintro u v ⟨e, g1⟩
  exact ⟨e, ⟨g1, r2, r3, r4, r5, r6, r7, r8, r9, r10, r11, r12, r13, r14⟩⟩
theorem e_move (hN : 2 ^ 45 ≤ N) : E_move N Rel := by
  intro xv mv i1 i2 hR
  obtain ⟨r1, r2, r3, r4, r5, r6, r7, r8, r9, r10, r11, r12, r13, r14⟩ := hR
  refine e_one (s_move (by omega) r1 r3 r10.1 i1 i2) ?_
  rintro u v ⟨e, g1, g2, g3⟩
  exact ⟨e, ⟨g1, r2, g2, r4, r5, r6, r7, r8, r9, ⟨g3, r10.2⟩, r11, r12, r13, r14⟩⟩
theorem e_take (hN : 2 ^ 45 ≤ N) : E_take N Rel := by
  intro xv mv i1 i2 hR
  obtain ⟨r1, r2, r3, r4, r5, r6, r7, r8, r9, r10, r11, r12, r13, r14⟩ := hR
  refine e_one (s_take (by omega) r1 r4 r8 r10 r11 i1 i2) ?_
  rintro u v ⟨e, g1, g2, g3, g4⟩
  exact ⟨e, ⟨g1, r2, r3, g2, r5, r6, r7, g3, r9, g4.1, g4.2, r12, r13, r14⟩⟩
theorem e_append (hN : 2 ^ 45 ≤ N) : E_append N Rel := by
  intro xv mv i1 hR
  obtain ⟨r1, r2, r3, r4, r5, r6, r7, r8, r9, r10, r11, r12, r13, r14⟩ := hR
  refine e_one (s_append (by omega) r2 i1) ?_
  rintro u v ⟨e, g1⟩
  exact ⟨e, ⟨r1, g1, r3, r4, r5, r6, r7, r8, r9, r10, r11, r12, r13, r14⟩⟩
theorem e_clearText (hN : 2 ^ 45 ≤ N) : E_clearText N Rel := by
  intro xv mv hR
  obtain ⟨r1, r2, r3, r4, r5, r6, r7, r8, r9, r10, r11, r12, r13, r14⟩ := hR
  refine e_one (s_clearText r2) ?_
  rintro u v ⟨e, g1⟩
  exact ⟨e, ⟨r1, g1, r3, r4, r5, r6, r7, r8, r9, r10, r11, r12, r13, r14⟩⟩
theorem e_load (hN : 2 ^ 45 ≤ N) : E_load N Rel := by
  intro xv mv hR
  obtain ⟨r1, r2, r3, r4, r5, r6, r7, r8, r9, r10, r11, r12, r13, r14⟩ := hR
  refine e_one (s_load (by omega) r1 r2 r3 r9) ?_
  rintro u v ⟨e, g1, g2, g3, g4⟩
  exact ⟨e, ⟨g1, g2, g3, r4, r5, r6, r7, r8, g4, r10, r11, r12, r13, r14⟩⟩
theorem e_undo (hN : 2 ^ 45 ≤ N) : E_undo N Rel := by
  intro xv mv hR
  obtain ⟨r1, r2, r3, r4, r5, r6, r7, r8, r9, r10, r11, r12, r13, r14⟩ := hR
  refine e_one (s_undo (by omega) r1) ?_
  rintro u v ⟨e, g1⟩
  exact ⟨e, ⟨g1, r2, r3, r4, r5, r6, r7, r8, r9, r10, r11, r12, r13, r14⟩⟩
theorem e_count (hN : 2 ^ 45 ≤ N) : E_count N Rel := by
  intro xv mv i1 hR
  obtain ⟨r1, r2, r3, r4, r5, r6, r7, r8, r9, r10, r11, r12, r13, r14⟩ := hR
  refine e_one (s_count (by omega) r1 r2 r10.1 i1) ?_
  rintro u v ⟨e, g1⟩
  exact ⟨e, ⟨r1, r2, r3, r4, r5, r6, r7, r8, r9, ⟨g1, r10.2⟩, r11, r12, r13, r14⟩⟩
theorem e_hasCell (hN : 2 ^ 45 ≤ N) : E_hasCell N Rel := by
  intro xv mv i1 i2 i3 hR
  obtain ⟨r1, r2, r3, r4, r5, r6, r7, r8, r9, r10, r11, r12, r13, r14⟩ := hR
  refine e_one (s_hasCell (by omega) r1 i1 i2 i3) ?_
  intro u v e
  exact ⟨e, ⟨r1, r2, r3, r4, r5, r6, r7, r8, r9, r10, r11, r12, r13, r14⟩⟩
theorem e_property (hN : 2 ^ 45 ≤ N) : E_property N Rel := by
  intro xv mv i1 hR
  obtain ⟨r1, r2, r3, r4, r5, r6, r7, r8, r9, r10, r11, r12, r13, r14⟩ := hR
  refine e_one (s_property (by omega) r1 r3 r4 r5 r10 r13 i1) ?_
  rintro u v ⟨e, g1, g2, g3, g4, g5⟩
  exact ⟨e, ⟨r1, r2, g1, g2, g3, r6, r7, r8, r9, g4, r11, r12, g5, r14⟩⟩
theorem e_key (hN : 2 ^ 45 ≤ N) : E_key N Rel := by
  intro xv mv i1 i2 hR
  obtain ⟨r1, r2, r3, r4, r5, r6, r7, r8, r9, r10, r11, r12, r13, r14⟩ := hR
  refine e_one (s_key (by omega) r1 r3 r4 r10 i1 i2) ?_
  rintro u v ⟨e, g1, g2, g3⟩
  exact ⟨e, ⟨r1, r2, g1, g2, r5, r6, r7, r8, r9, g3, r11, r12, r13, r14⟩⟩
theorem e_connectedSets (hN : 2 ^ 45 ≤ N) : E_connectedSets N Rel := by
  intro xv mv i1 i2 i3 hR
  obtain ⟨r1, r2, r3, r4, r5, r6, r7, r8, r9, r10, r11, r12, r13, r14⟩ := hR
  refine e_one (s_connectedSets hN (RS_DK r1) r7 r14.1 r14.2.1 r14.2.2 i1 i2 i3) ?_
  rintro u v ⟨e, g1, g2, g3, g4⟩
  exact ⟨e, ⟨r1, r2, r3, r4, r5, r6, g1, r8, r9, r10, r11, r12, r13, ⟨g2, g3, g4⟩⟩⟩
theorem e_figures (hN : 2 ^ 45 ≤ N) : E_figures N Rel := by
  intro xv mv i1 i2 hR
  obtain ⟨r1, r2, r3, r4, r5, r6, r7, r8, r9, r10, r11, r12, r13, r14⟩ := hR
  obtain ⟨L, H, hD, hL, hd, _⟩ := id r1
  obtain ⟨a, rfl, a1, a2⟩ := iI_ex i1
  obtain ⟨b, rfl, b1, b2⟩ := iI_ex i2
  refine e_two (c_figures (by omega) hD.1 r4 r8 ⟨a1, a2⟩ ⟨b1, b2⟩) (m_figures (by omega) hd.1 r10 r11 ⟨a1, a2⟩ ⟨b1, b2⟩) ?_
  rintro u v ⟨p1, p2, p3⟩ ⟨q1, q2⟩
  exact ⟨(by rw [p1, q1]), ⟨r1, r2, r3, p2, r5, r6, r7, p3, r9, q2.1, q2.2, r12, r13, r14⟩⟩
theorem e_withSides (hN : 2 ^ 45 ≤ N) : E_withSides N Rel := by
  intro xv mv i1 i2 hR
  obtain ⟨r1, r2, r3, r4, r5, r6, r7, r8, r9, r10, r11, r12, r13, r14⟩ := hR
  obtain ⟨L, H, hD, hL, hd, _⟩ := id r1
  obtain ⟨a, rfl, a1, a2⟩ := iI_ex i1
  obtain ⟨b, rfl, b1, b2⟩ := iI_ex i2
  refine e_two (c_withSides (by omega) hD.1 r8 r5 ⟨a1, a2⟩ ⟨b1, b2⟩) (m_withSides (by omega) hd.1 r10 r11 ⟨a1, a2⟩ ⟨b1, b2⟩) ?_
  rintro u v ⟨p1, p2, p3⟩ ⟨q1, q2⟩
  exact ⟨(by rw [p1, q1]), ⟨r1, r2, r3, r4, p2, r6, r7, p3, r9, q2.1, q2.2, r12, r13, r14⟩⟩
theorem e_withSymmetries (hN : 2 ^ 45 ≤ N) : E_withSymmetries N Rel := by
  intro xv mv i1 i2 hR
  obtain ⟨r1, r2, r3, r4, r5, r6, r7, r8, r9, r10, r11, r12, r13, r14⟩ := hR
  obtain ⟨L, H, hD, hL, hd, _⟩ := id r1
  obtain ⟨a, rfl, a1, a2⟩ := iI_ex i1
  obtain ⟨b, rfl, b1, b2⟩ := iI_ex i2
  refine e_two (c_withSyms (by omega) hD.1 r4 r8 ⟨a1, a2⟩ ⟨b1, b2⟩) (m_withSyms (by omega) hd.1 r10 r11 ⟨a1, a2⟩ ⟨b1, b2⟩) ?_
  rintro u v ⟨p1, p2, p3⟩ ⟨q1, q2⟩
  exact ⟨(by rw [p1, q1]), ⟨r1, r2, r3, p2, r5, r6, r7, p3, r9, q2.1, q2.2, r12, r13, r14⟩⟩
theorem e_withHoles (hN : 2 ^ 45 ≤ N) : E_withHoles N Rel := by
  intro xv mv i1 hR
  obtain ⟨r1, r2, r3, r4, r5, r6, r7, r8, r9, r10, r11, r12, r13, r14⟩ := hR
  obtain ⟨L, H, hD, hL, hd, _⟩ := id r1
  obtain ⟨a, rfl, a1, a2⟩ := iI_ex i1
  refine e_two (c_withHoles (by omega) hD.1 r8 r5 ⟨a1, a2⟩) (m_withHoles (by omega) hd.1 r10 r11 r13 ⟨a1, a2⟩) ?_
  rintro u v ⟨p1, p2, p3⟩ ⟨q1, q2, q3, q4⟩
  exact ⟨(by rw [p1, q1]), ⟨r1, r2, r3, r4, p2, r6, r7, p3, r9, q2, q3, r12, q4, r14⟩⟩
theorem e_figure (hN : 2 ^ 45 ≤ N) : E_figure N Rel := by
  intro xv mv i1 i2 i3 i4 hR
  obtain ⟨r1, r2, r3, r4, r5, r6, r7, r8, r9, r10, r11, r12, r13, r14⟩ := hR
  obtain ⟨L, H, hD, hL, hd, _⟩ := id r1
  obtain ⟨a, rfl, a1, a2⟩ := iI_ex i1
  obtain ⟨b, rfl, b1, b2⟩ := iI_ex i2
  obtain ⟨c, rfl, c1, c2⟩ := iI_ex i3
  obtain ⟨e, rfl, e1, e2⟩ := iI_ex i4
  refine e_two (c_figure (by omega) hD.1 r3 r4 r8 ⟨a1, a2⟩ ⟨b1, b2⟩ ⟨c1, c2⟩ ⟨e1, e2⟩) (m_figure (by omega) hd.1 r10 r11 ⟨a1, a2⟩ ⟨b1, b2⟩ ⟨c1, c2⟩ ⟨e1, e2⟩) ?_
  rintro u v ⟨p1, p2, p3, p4⟩ ⟨q1, q2⟩
  exact ⟨(by rw [p1, q1]), ⟨r1, r2, p2, p3, r5, r6, r7, p4, r9, q2.1, q2.2, r12, r13, r14⟩⟩
theorem e_number (hN : 2 ^ 45 ≤ N) : E_number N Rel := by
  intro xv mv i1 hR
  obtain ⟨r1, r2, r3, r4, r5, r6, r7, r8, r9, r10, r11, r12, r13, r14⟩ := hR
  obtain ⟨L, H, hD, hL, hd, _⟩ := id r1
  obtain ⟨a, rfl, a1, a2⟩ := iI_ex i1
  refine e_two (c_number (by omega) hD hL r3 r4 r8 ⟨a1, a2⟩) (m_number (by omega) hD hd r10 r11 ⟨a1, a2⟩) ?_
  rintro u v ⟨p1, p2, p3, p4⟩ ⟨q1, q2⟩
  exact ⟨NV.uniq hD p1 q1, ⟨r1, r2, p2, p3, r5, r6, r7, p4, r9, q2.1, q2.2, r12, r13, r14⟩⟩
theorem e_relatives (hN : 2 ^ 45 ≤ N) : E_relatives N Rel := by
  intro xv mv i1 hR
  obtain ⟨r1, r2, r3, r4, r5, r6, r7, r8, r9, r10, r11, r12, r13, r14⟩ := hR
  obtain ⟨L, H, hD, hL, hd, _⟩ := id r1
  obtain ⟨a, rfl, a1, a2⟩ := iI_ex i1
  refine e_two (c_relatives (by omega) hD hL r3 r4 r6.1 r6.2.1 r6.2.2 ⟨a1, a2⟩) (m_relatives (by omega) hD hd r10 r12 ⟨a1, a2⟩) ?_
  rintro u v ⟨p1, p2, p3, p4⟩ ⟨q1, q2, q3⟩
  exact ⟨RelV.uniq p1 q1, ⟨r1, r2, p2, p3, r5, p4, r7, r8, r9, q2, r11, q3, r13, r14⟩⟩
end
