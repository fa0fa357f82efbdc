section
variable {l : Launch} {D : va_G} {r : Nat → Nat} {xs : List Int32}
set_option maxHeartbeats 4000000 in
set_option maxRecDepth 100000 in
theorem t_X0_readLabels_L3 {N : Nat} {b_p : Nat} {b_a : Nat → Nat} {b_isKnown : List Int32} {b_answers : Nat} {b_adjacent : List Int32} {b_present : Nat} {b_coming : Nat} {b_cells : Int32} {b_reach : Int32} {sgp : Nat → Nat} {v1 : Int64} {v4 : Int32}  {Q : Option Value → ZW → Prop} : ∀ (fu : Nat) (v5 : Int32) (b_labels : List Int32) (e : (List Int32)), f_X0_readLabels_L3 N v1 v4 fu v5 b_labels = some e → (Go l D r (z_rl xs) zm_X0_readLabels 0 0 (33, [none, none, none, none, none, none], [], ([sBk sgp b_p b_a b_isKnown b_answers b_adjacent e b_present b_coming b_cells b_reach] : List ZW).flatten) Q) → Go l D r (z_rl xs) zm_X0_readLabels 0 0 (3, [some (.ref b_p), some (.long v1), none, none, some (.int v4), some (.int v5)], [], ([sBk sgp b_p b_a b_isKnown b_answers b_adjacent b_labels b_present b_coming b_cells b_reach] : List ZW).flatten) Q := by
  intro fu
  induction fu with
  | zero =>
    intro v5 b_labels e h
    simp only [f_X0_readLabels_L3, reduceCtorEq] at h
  | succ fu ih =>
    intro v5 b_labels e h kk
    rw [f_X0_readLabels_L3] at h
    refine Go.blk zk_X0_readLabels [0, 0] (z' := (7, [some (.ref b_p), some (.long v1), none, none, some (.int v4), some (.int v5)], [.int v4, .int v5], ([sBk sgp b_p b_a b_isKnown b_answers b_adjacent b_labels b_present b_coming b_cells b_reach] : List ZW).flatten)) rfl trivial ?_
    by_cases hc1 : v5 < v4
    · rw [if_pos hc1] at h
      refine Go.br zk_X0_readLabels rfl rfl (fun _ => ?_) (fun q => absurd hc1 q)
      refine Go.blk zk_X0_readLabels [0, 0, 0, 0, 0, 0, 0, 0, 0, 0, 0] (z' := (26, [some (.ref b_p), some (.long v1), none, none, some (.int v4), some (.int v5)], [.int ((Int64.toInt32 ((Int64.toUInt64 v1 >>> ((Int32.toInt64 (3 * v5)).toUInt64 &&& Int64.toUInt64 63)).toInt64)) &&& 7), .int v5, .ref (b_a 2)], ([sBk sgp b_p b_a b_isKnown b_answers b_adjacent b_labels b_present b_coming b_cells b_reach] : List ZW).flatten)) rfl ⟨rfl, trivial⟩ ?_
      obtain ⟨t2, ht2, h⟩ := z_bind h
      refine Go.iast zk_X0_readLabels 3 rfl rfl rfl ht2 ?_
      refine Go.eqz (z2 := (27, [some (.ref b_p), some (.long v1), none, none, some (.int v4), some (.int v5)], [], ([sBk sgp b_p b_a b_isKnown b_answers b_adjacent t2 b_present b_coming b_cells b_reach] : List ZW).flatten)) rfl ?_
      refine Go.blk zk_X0_readLabels [0, 0] (z' := (3, [some (.ref b_p), some (.long v1), none, none, some (.int v4), some (.int (v5 + 1))], [], ([sBk sgp b_p b_a b_isKnown b_answers b_adjacent t2 b_present b_coming b_cells b_reach] : List ZW).flatten)) rfl trivial ?_
      exact ih _ _ _ h kk
    · rw [if_neg hc1] at h
      refine Go.br zk_X0_readLabels rfl rfl (fun q => absurd q hc1) (fun _ => ?_)
      obtain rfl := Option.some.inj h
      refine Go.weak (L := [some (.ref b_p), some (.long v1), none, none, some (.int v4), some (.int v5)]) (L' := [none, none, none, none, none, none]) (trivial) ?_
      exact kk
set_option maxHeartbeats 4000000 in
set_option maxRecDepth 100000 in
theorem t_X0_readLabels {N : Nat} {b_p : Nat} {b_a : Nat → Nat} {b_isKnown : List Int32} {b_answers : Nat} {b_adjacent : List Int32} {b_labels : List Int32} {b_present : Nat} {b_coming : Nat} {b_cells : Int32} {b_reach : Int32} {sgp : Nat → Nat} {j1 : Int64} {i2 : Int32} {i3 : Int32} {u : (List Int32)}  (h : f_X0_readLabels N j1 i2 i3 b_labels = some u) : Ct l D r (z_rl xs) zm_X0_readLabels 0 0 [.ref b_p, .long j1, .int i2, .int i3] ([sBk sgp b_p b_a b_isKnown b_answers b_adjacent b_labels b_present b_coming b_cells b_reach] : List ZW).flatten (fun v' w' => v' = none ∧ w' = ([sBk sgp b_p b_a b_isKnown b_answers b_adjacent u b_present b_coming b_cells b_reach] : List ZW).flatten) := by
  refine Ct.of (by decide +kernel) rfl (fun q => absurd q (by decide)) (Nat.le_of_ble_eq_true rfl) ?_
  refine Go.eqz (z2 := (0, [some (.ref b_p), some (.long j1), none, some (.int i2), some (.int i3), none], [], ([sBk sgp b_p b_a b_isKnown b_answers b_adjacent b_labels b_present b_coming b_cells b_reach] : List ZW).flatten)) rfl ?_
  unfold f_X0_readLabels at h
  refine Go.blk zk_X0_readLabels [0, 0] (z' := (3, [some (.ref b_p), some (.long j1), none, some (.int i2), some (.int i3), some (.int i2)], [], ([sBk sgp b_p b_a b_isKnown b_answers b_adjacent b_labels b_present b_coming b_cells b_reach] : List ZW).flatten)) rfl trivial ?_
  refine Go.weak (L := [some (.ref b_p), some (.long j1), none, some (.int i2), some (.int i3), some (.int i2)]) (L' := [some (.ref b_p), some (.long j1), none, none, some (.int i3), some (.int i2)]) (And.intro rfl (And.intro rfl (And.intro rfl (And.intro rfl (trivial))))) ?_
  obtain ⟨e3, he3, h⟩ := z_bind h
  refine t_X0_readLabels_L3 N _ _ _ he3 ?_
  obtain rfl := Option.some.inj h
  exact Go.vret zk_X0_readLabels rfl rfl ⟨rfl, rfl⟩
set_option maxHeartbeats 4000000 in
set_option maxRecDepth 100000 in
theorem t_X0_join_L52 {N : Nat} {b_p : Nat} {b_a : Nat → Nat} {b_isKnown : List Int32} {b_answers : Nat} {b_adjacent : List Int32} {b_present : Nat} {b_coming : Nat} {b_cells : Int32} {b_reach : Int32} {sgp : Nat → Nat} {v1 : Int32} {v2 : Int32} {v3 : Int32} {v4 : Int32}  {Q : Option Value → ZW → Prop} : ∀ (fu : Nat) (v5 : Int32) (b_labels : List Int32) (e : (List Int32)), f_X0_join_L52 N v2 v4 fu v5 b_labels = some e → (Go l D r (z_rl xs) zm_X0_join 0 0 (95, [some (.ref b_p), some (.int v1), some (.int v2), some (.int v3), none, none], [], ([sBk sgp b_p b_a b_isKnown b_answers b_adjacent e b_present b_coming b_cells b_reach] : List ZW).flatten) Q) → Go l D r (z_rl xs) zm_X0_join 0 0 (52, [some (.ref b_p), some (.int v1), some (.int v2), some (.int v3), some (.int v4), some (.int v5)], [], ([sBk sgp b_p b_a b_isKnown b_answers b_adjacent b_labels b_present b_coming b_cells b_reach] : List ZW).flatten) Q := by
  intro fu
  induction fu with
  | zero =>
    intro v5 b_labels e h
    simp only [f_X0_join_L52, reduceCtorEq] at h
  | succ fu ih =>
    intro v5 b_labels e h kk
    rw [f_X0_join_L52] at h
    refine Go.blk zk_X0_join [0, 0] (z' := (55, [some (.ref b_p), some (.int v1), some (.int v2), some (.int v3), some (.int v4), some (.int v5)], [.int v2, .int v5], ([sBk sgp b_p b_a b_isKnown b_answers b_adjacent b_labels b_present b_coming b_cells b_reach] : List ZW).flatten)) rfl trivial ?_
    by_cases hc8 : v5 < v2
    · rw [if_pos hc8] at h
      refine Go.br zk_X0_join rfl rfl (fun _ => ?_) (fun q => absurd hc8 q)
      refine Go.blk zk_X0_join [0, 0, 0, 0, 0, 0] (z' := (70, [some (.ref b_p), some (.int v1), some (.int v2), some (.int v3), some (.int v4), some (.int v5)], [.int v5, .ref (b_a 2), .int v5, .ref (b_a 2)], ([sBk sgp b_p b_a b_isKnown b_answers b_adjacent b_labels b_present b_coming b_cells b_reach] : List ZW).flatten)) rfl ⟨rfl, rfl, trivial⟩ ?_
      obtain ⟨x9, hx9, h⟩ := z_bind h
      refine Go.iald zk_X0_join 3 rfl rfl rfl hx9 ?_
      refine Go.blk zk_X0_join [0] (z' := (73, [some (.ref b_p), some (.int v1), some (.int v2), some (.int v3), some (.int v4), some (.int v5)], [.int v4, .int x9, .int v5, .ref (b_a 2)], ([sBk sgp b_p b_a b_isKnown b_answers b_adjacent b_labels b_present b_coming b_cells b_reach] : List ZW).flatten)) rfl trivial ?_
      by_cases hc10 : x9 = v4
      · rw [if_pos hc10] at h
        refine Go.br zk_X0_join rfl rfl (fun _ => ?_) (fun q => absurd hc10 q)
        refine Go.blk zk_X0_join [0, 0] (z' := (88, [some (.ref b_p), some (.int v1), some (.int v2), some (.int v3), some (.int v4), some (.int v5)], [.int 7, .int v5, .ref (b_a 2)], ([sBk sgp b_p b_a b_isKnown b_answers b_adjacent b_labels b_present b_coming b_cells b_reach] : List ZW).flatten)) rfl trivial ?_
        obtain ⟨t11, ht11, h⟩ := z_bind h
        refine Go.iast zk_X0_join 3 rfl rfl rfl ht11 ?_
        refine Go.eqz (z2 := (89, [some (.ref b_p), some (.int v1), some (.int v2), some (.int v3), some (.int v4), some (.int v5)], [], ([sBk sgp b_p b_a b_isKnown b_answers b_adjacent t11 b_present b_coming b_cells b_reach] : List ZW).flatten)) rfl ?_
        refine Go.blk zk_X0_join [0, 0] (z' := (52, [some (.ref b_p), some (.int v1), some (.int v2), some (.int v3), some (.int v4), some (.int (v5 + 1))], [], ([sBk sgp b_p b_a b_isKnown b_answers b_adjacent t11 b_present b_coming b_cells b_reach] : List ZW).flatten)) rfl trivial ?_
        exact ih _ _ _ h kk
      · rw [if_neg hc10] at h
        refine Go.br zk_X0_join rfl rfl (fun q => absurd q hc10) (fun _ => ?_)
        refine Go.blk zk_X0_join [0, 0, 0] (z' := (87, [some (.ref b_p), some (.int v1), some (.int v2), some (.int v3), some (.int v4), some (.int v5)], [.int v5, .ref (b_a 2), .int v5, .ref (b_a 2)], ([sBk sgp b_p b_a b_isKnown b_answers b_adjacent b_labels b_present b_coming b_cells b_reach] : List ZW).flatten)) rfl ⟨rfl, trivial⟩ ?_
        obtain ⟨x12, hx12, h⟩ := z_bind h
        refine Go.iald zk_X0_join 3 rfl rfl rfl hx12 ?_
        obtain ⟨t13, ht13, h⟩ := z_bind h
        refine Go.iast zk_X0_join 3 rfl rfl rfl ht13 ?_
        refine Go.eqz (z2 := (89, [some (.ref b_p), some (.int v1), some (.int v2), some (.int v3), some (.int v4), some (.int v5)], [], ([sBk sgp b_p b_a b_isKnown b_answers b_adjacent t13 b_present b_coming b_cells b_reach] : List ZW).flatten)) rfl ?_
        refine Go.blk zk_X0_join [0, 0] (z' := (52, [some (.ref b_p), some (.int v1), some (.int v2), some (.int v3), some (.int v4), some (.int (v5 + 1))], [], ([sBk sgp b_p b_a b_isKnown b_answers b_adjacent t13 b_present b_coming b_cells b_reach] : List ZW).flatten)) rfl trivial ?_
        exact ih _ _ _ h kk
    · rw [if_neg hc8] at h
      refine Go.br zk_X0_join rfl rfl (fun q => absurd q hc8) (fun _ => ?_)
      obtain rfl := Option.some.inj h
      refine Go.weak (L := [some (.ref b_p), some (.int v1), some (.int v2), some (.int v3), some (.int v4), some (.int v5)]) (L' := [some (.ref b_p), some (.int v1), some (.int v2), some (.int v3), none, none]) (And.intro rfl (And.intro rfl (And.intro rfl (And.intro rfl (trivial))))) ?_
      exact kk
set_option maxHeartbeats 4000000 in
set_option maxRecDepth 100000 in
theorem t_X0_join_L10 {N : Nat} {b_p : Nat} {b_a : Nat → Nat} {b_isKnown : List Int32} {b_answers : Nat} {b_adjacent : List Int32} {b_present : Nat} {b_coming : Nat} {b_cells : Int32} {b_reach : Int32} {sgp : Nat → Nat} {v1 : Int32} {v2 : Int32}  {Q : Option Value → ZW → Prop} : ∀ (fu : Nat) (v3 : Int32) (b_labels : List Int32) (e : (List Int32)), f_X0_join_L10 N v1 v2 b_adjacent fu v3 b_labels = some e → (Go l D r (z_rl xs) zm_X0_join 0 0 (101, [none, none, none, none, none, none], [], ([sBk sgp b_p b_a b_isKnown b_answers b_adjacent e b_present b_coming b_cells b_reach] : List ZW).flatten) Q) → Go l D r (z_rl xs) zm_X0_join 0 0 (10, [some (.ref b_p), some (.int v1), some (.int v2), some (.int v3), none, none], [], ([sBk sgp b_p b_a b_isKnown b_answers b_adjacent b_labels b_present b_coming b_cells b_reach] : List ZW).flatten) Q := by
  intro fu
  induction fu with
  | zero =>
    intro v3 b_labels e h
    simp only [f_X0_join_L10, reduceCtorEq] at h
  | succ fu ih =>
    intro v3 b_labels e h kk
    rw [f_X0_join_L10] at h
    refine Go.blk zk_X0_join [0, 0] (z' := (12, [some (.ref b_p), some (.int v1), some (.int v2), some (.int v3), none, none], [.int v2, .int v3], ([sBk sgp b_p b_a b_isKnown b_answers b_adjacent b_labels b_present b_coming b_cells b_reach] : List ZW).flatten)) rfl trivial ?_
    by_cases hc2 : v3 < v2
    · rw [if_pos hc2] at h
      refine Go.br zk_X0_join rfl rfl (fun _ => ?_) (fun q => absurd hc2 q)
      refine Go.blk zk_X0_join [0, 0, 0] (z' := (20, [some (.ref b_p), some (.int v1), some (.int v2), some (.int v3), none, none], [.int v3, .ref (b_a 2)], ([sBk sgp b_p b_a b_isKnown b_answers b_adjacent b_labels b_present b_coming b_cells b_reach] : List ZW).flatten)) rfl ⟨rfl, trivial⟩ ?_
      obtain ⟨x3, hx3, h⟩ := z_bind h
      refine Go.iald zk_X0_join 3 rfl rfl rfl hx3 ?_
      refine Go.blk zk_X0_join [0, 0] (z' := (25, [some (.ref b_p), some (.int v1), some (.int v2), some (.int v3), some (.int x3), none], [.int x3], ([sBk sgp b_p b_a b_isKnown b_answers b_adjacent b_labels b_present b_coming b_cells b_reach] : List ZW).flatten)) rfl trivial ?_
      by_cases hc4 : x3 = 0
      · rw [if_pos hc4] at h
        refine Go.br zk_X0_join rfl rfl (fun _ => ?_) (fun q => absurd hc4 q)
        refine Go.blk zk_X0_join [0, 0] (z' := (10, [some (.ref b_p), some (.int v1), some (.int v2), some (.int (v3 + 1)), some (.int x3), none], [], ([sBk sgp b_p b_a b_isKnown b_answers b_adjacent b_labels b_present b_coming b_cells b_reach] : List ZW).flatten)) rfl trivial ?_
        refine Go.weak (L := [some (.ref b_p), some (.int v1), some (.int v2), some (.int (v3 + 1)), some (.int x3), none]) (L' := [some (.ref b_p), some (.int v1), some (.int v2), some (.int (v3 + 1)), none, none]) (And.intro rfl (And.intro rfl (And.intro rfl (And.intro rfl (trivial))))) ?_
        exact ih _ _ _ h kk
      · rw [if_neg hc4] at h
        refine Go.br zk_X0_join rfl rfl (fun q => absurd q hc4) (fun _ => ?_)
        refine Go.blk zk_X0_join [0, 0] (z' := (32, [some (.ref b_p), some (.int v1), some (.int v2), some (.int v3), some (.int x3), none], [.int 7, .int x3], ([sBk sgp b_p b_a b_isKnown b_answers b_adjacent b_labels b_present b_coming b_cells b_reach] : List ZW).flatten)) rfl trivial ?_
        by_cases hc5 : x3 = 7
        · rw [if_pos hc5] at h
          refine Go.br zk_X0_join rfl rfl (fun _ => ?_) (fun q => absurd hc5 q)
          refine Go.blk zk_X0_join [0, 0] (z' := (10, [some (.ref b_p), some (.int v1), some (.int v2), some (.int (v3 + 1)), some (.int x3), none], [], ([sBk sgp b_p b_a b_isKnown b_answers b_adjacent b_labels b_present b_coming b_cells b_reach] : List ZW).flatten)) rfl trivial ?_
          refine Go.weak (L := [some (.ref b_p), some (.int v1), some (.int v2), some (.int (v3 + 1)), some (.int x3), none]) (L' := [some (.ref b_p), some (.int v1), some (.int v2), some (.int (v3 + 1)), none, none]) (And.intro rfl (And.intro rfl (And.intro rfl (And.intro rfl (trivial))))) ?_
          exact ih _ _ _ h kk
        · rw [if_neg hc5] at h
          refine Go.br zk_X0_join rfl rfl (fun q => absurd q hc5) (fun _ => ?_)
          refine Go.blk zk_X0_join [0, 0, 0] (z' := (40, [some (.ref b_p), some (.int v1), some (.int v2), some (.int v3), some (.int x3), none], [.int v2, .ref (b_a 1)], ([sBk sgp b_p b_a b_isKnown b_answers b_adjacent b_labels b_present b_coming b_cells b_reach] : List ZW).flatten)) rfl ⟨rfl, trivial⟩ ?_
          obtain ⟨x6, hx6, h⟩ := z_bind h
          refine Go.iald zk_X0_join 2 rfl rfl rfl hx6 ?_
          refine Go.blk zk_X0_join [0, 0, 0, 0, 0] (z' := (46, [some (.ref b_p), some (.int v1), some (.int v2), some (.int v3), some (.int x3), none], [.int 1, .int ((x6 >>> (v3 &&& 31)) &&& 1)], ([sBk sgp b_p b_a b_isKnown b_answers b_adjacent b_labels b_present b_coming b_cells b_reach] : List ZW).flatten)) rfl trivial ?_
          by_cases hc7 : ((x6 >>> (v3 &&& 31)) &&& 1) = 1
          · rw [if_pos hc7] at h
            refine Go.br zk_X0_join rfl rfl (fun _ => ?_) (fun q => absurd hc7 q)
            refine Go.blk zk_X0_join [0, 0] (z' := (52, [some (.ref b_p), some (.int v1), some (.int v2), some (.int v3), some (.int x3), some (.int v1)], [], ([sBk sgp b_p b_a b_isKnown b_answers b_adjacent b_labels b_present b_coming b_cells b_reach] : List ZW).flatten)) rfl trivial ?_
            obtain ⟨e14, he14, h⟩ := z_bind h
            refine t_X0_join_L52 N _ _ _ he14 ?_
            refine Go.blk zk_X0_join [0, 0] (z' := (10, [some (.ref b_p), some (.int v1), some (.int v2), some (.int (v3 + 1)), none, none], [], ([sBk sgp b_p b_a b_isKnown b_answers b_adjacent e14 b_present b_coming b_cells b_reach] : List ZW).flatten)) rfl trivial ?_
            exact ih _ _ _ h kk
          · rw [if_neg hc7] at h
            refine Go.br zk_X0_join rfl rfl (fun q => absurd q hc7) (fun _ => ?_)
            refine Go.blk zk_X0_join [0, 0] (z' := (10, [some (.ref b_p), some (.int v1), some (.int v2), some (.int (v3 + 1)), some (.int x3), none], [], ([sBk sgp b_p b_a b_isKnown b_answers b_adjacent b_labels b_present b_coming b_cells b_reach] : List ZW).flatten)) rfl trivial ?_
            refine Go.weak (L := [some (.ref b_p), some (.int v1), some (.int v2), some (.int (v3 + 1)), some (.int x3), none]) (L' := [some (.ref b_p), some (.int v1), some (.int v2), some (.int (v3 + 1)), none, none]) (And.intro rfl (And.intro rfl (And.intro rfl (And.intro rfl (trivial))))) ?_
            exact ih _ _ _ h kk
    · rw [if_neg hc2] at h
      refine Go.br zk_X0_join rfl rfl (fun q => absurd q hc2) (fun _ => ?_)
      obtain rfl := Option.some.inj h
      refine Go.weak (L := [some (.ref b_p), some (.int v1), some (.int v2), some (.int v3), none, none]) (L' := [none, none, none, none, none, none]) (trivial) ?_
      exact kk
set_option maxHeartbeats 4000000 in
set_option maxRecDepth 100000 in
theorem t_X0_join {N : Nat} {b_p : Nat} {b_a : Nat → Nat} {b_isKnown : List Int32} {b_answers : Nat} {b_adjacent : List Int32} {b_labels : List Int32} {b_present : Nat} {b_coming : Nat} {b_cells : Int32} {b_reach : Int32} {sgp : Nat → Nat} {i1 : Int32} {i2 : Int32} {u : (List Int32)}  (h : f_X0_join N i1 i2 b_adjacent b_labels = some u) : Ct l D r (z_rl xs) zm_X0_join 0 0 [.ref b_p, .int i1, .int i2] ([sBk sgp b_p b_a b_isKnown b_answers b_adjacent b_labels b_present b_coming b_cells b_reach] : List ZW).flatten (fun v' w' => v' = none ∧ w' = ([sBk sgp b_p b_a b_isKnown b_answers b_adjacent u b_present b_coming b_cells b_reach] : List ZW).flatten) := by
  refine Ct.of (by decide +kernel) rfl (fun q => absurd q (by decide)) (Nat.le_of_ble_eq_true rfl) ?_
  refine Go.eqz (z2 := (0, [some (.ref b_p), some (.int i1), some (.int i2), none, none, none], [], ([sBk sgp b_p b_a b_isKnown b_answers b_adjacent b_labels b_present b_coming b_cells b_reach] : List ZW).flatten)) rfl ?_
  unfold f_X0_join at h
  refine Go.blk zk_X0_join [0, 0, 0, 0] (z' := (7, [some (.ref b_p), some (.int i1), some (.int i2), none, none, none], [.int 7, .int i2, .ref (b_a 2)], ([sBk sgp b_p b_a b_isKnown b_answers b_adjacent b_labels b_present b_coming b_cells b_reach] : List ZW).flatten)) rfl ⟨rfl, trivial⟩ ?_
  obtain ⟨t1, ht1, h⟩ := z_bind h
  refine Go.iast zk_X0_join 3 rfl rfl rfl ht1 ?_
  refine Go.eqz (z2 := (8, [some (.ref b_p), some (.int i1), some (.int i2), none, none, none], [], ([sBk sgp b_p b_a b_isKnown b_answers b_adjacent t1 b_present b_coming b_cells b_reach] : List ZW).flatten)) rfl ?_
  refine Go.blk zk_X0_join [0, 0] (z' := (10, [some (.ref b_p), some (.int i1), some (.int i2), some (.int i1), none, none], [], ([sBk sgp b_p b_a b_isKnown b_answers b_adjacent t1 b_present b_coming b_cells b_reach] : List ZW).flatten)) rfl trivial ?_
  obtain ⟨e15, he15, h⟩ := z_bind h
  refine t_X0_join_L10 N _ _ _ he15 ?_
  obtain rfl := Option.some.inj h
  exact Go.vret zk_X0_join rfl rfl ⟨rfl, rfl⟩
set_option maxHeartbeats 4000000 in
set_option maxRecDepth 100000 in
theorem t_X0_isSeen_L3 {N : Nat} {b_p : Nat} {b_a : Nat → Nat} {b_isKnown : List Int32} {b_answers : Nat} {b_adjacent : List Int32} {b_labels : List Int32} {b_present : Nat} {b_coming : Nat} {b_cells : Int32} {b_reach : Int32} {sgp : Nat → Nat} {v1 : Int32} {v3 : Int32}  {Q : Option Value → ZW → Prop} : ∀ (fu : Nat) (v4 : Int32) (o : (Unit) ⊕ (Int32)), f_X0_isSeen_L3 N v1 v3 b_labels fu v4 = some o → (∀ e, o = .inl e → Go l D r (z_rl xs) zm_X0_isSeen 0 0 (28, [none, none, none, none, none], [], ([sBk sgp b_p b_a b_isKnown b_answers b_adjacent b_labels b_present b_coming b_cells b_reach] : List ZW).flatten) Q) → (∀ e, o = .inr e → Q (some (.int e)) ([sBk sgp b_p b_a b_isKnown b_answers b_adjacent b_labels b_present b_coming b_cells b_reach] : List ZW).flatten) → Go l D r (z_rl xs) zm_X0_isSeen 0 0 (3, [some (.ref b_p), some (.int v1), none, some (.int v3), some (.int v4)], [], ([sBk sgp b_p b_a b_isKnown b_answers b_adjacent b_labels b_present b_coming b_cells b_reach] : List ZW).flatten) Q := by
  intro fu
  induction fu with
  | zero =>
    intro v4 o h
    simp only [f_X0_isSeen_L3, reduceCtorEq] at h
  | succ fu ih =>
    intro v4 o h k1 k2
    rw [f_X0_isSeen_L3] at h
    refine Go.blk zk_X0_isSeen [0, 0] (z' := (6, [some (.ref b_p), some (.int v1), none, some (.int v3), some (.int v4)], [.int v3, .int v4], ([sBk sgp b_p b_a b_isKnown b_answers b_adjacent b_labels b_present b_coming b_cells b_reach] : List ZW).flatten)) rfl trivial ?_
    by_cases hc1 : v3 < v4
    · rw [if_pos hc1] at h
      refine Go.br zk_X0_isSeen rfl rfl (fun _ => ?_) (fun q => absurd hc1 q)
      obtain rfl := Option.some.inj h
      refine Go.weak (L := [some (.ref b_p), some (.int v1), none, some (.int v3), some (.int v4)]) (L' := [none, none, none, none, none]) (trivial) ?_
      exact k1 _ rfl
    · rw [if_neg hc1] at h
      refine Go.br zk_X0_isSeen rfl rfl (fun q => absurd q hc1) (fun _ => ?_)
      refine Go.blk zk_X0_isSeen [0, 0, 0] (z' := (15, [some (.ref b_p), some (.int v1), none, some (.int v3), some (.int v4)], [.int v4, .ref (b_a 2)], ([sBk sgp b_p b_a b_isKnown b_answers b_adjacent b_labels b_present b_coming b_cells b_reach] : List ZW).flatten)) rfl ⟨rfl, trivial⟩ ?_
      obtain ⟨x2, hx2, h⟩ := z_bind h
      refine Go.iald zk_X0_isSeen 3 rfl rfl rfl hx2 ?_
      refine Go.blk zk_X0_isSeen [0] (z' := (17, [some (.ref b_p), some (.int v1), none, some (.int v3), some (.int v4)], [.int v1, .int x2], ([sBk sgp b_p b_a b_isKnown b_answers b_adjacent b_labels b_present b_coming b_cells b_reach] : List ZW).flatten)) rfl trivial ?_
      by_cases hc3 : x2 = v1
      · rw [if_pos hc3] at h
        refine Go.br zk_X0_isSeen rfl rfl (fun _ => ?_) (fun q => absurd hc3 q)
        refine Go.blk zk_X0_isSeen [0] (z' := (21, [some (.ref b_p), some (.int v1), none, some (.int v3), some (.int v4)], [.int 1], ([sBk sgp b_p b_a b_isKnown b_answers b_adjacent b_labels b_present b_coming b_cells b_reach] : List ZW).flatten)) rfl trivial ?_
        obtain rfl := Option.some.inj h
        exact Go.iret zk_X0_isSeen rfl rfl rfl (k2 _ rfl)
      · rw [if_neg hc3] at h
        refine Go.br zk_X0_isSeen rfl rfl (fun q => absurd q hc3) (fun _ => ?_)
        refine Go.blk zk_X0_isSeen [0, 0] (z' := (3, [some (.ref b_p), some (.int v1), none, some (.int v3), some (.int (v4 + 1))], [], ([sBk sgp b_p b_a b_isKnown b_answers b_adjacent b_labels b_present b_coming b_cells b_reach] : List ZW).flatten)) rfl trivial ?_
        exact ih _ _ h k1 k2
set_option maxHeartbeats 4000000 in
set_option maxRecDepth 100000 in
theorem t_X0_isSeen {N : Nat} {b_p : Nat} {b_a : Nat → Nat} {b_isKnown : List Int32} {b_answers : Nat} {b_adjacent : List Int32} {b_labels : List Int32} {b_present : Nat} {b_coming : Nat} {b_cells : Int32} {b_reach : Int32} {sgp : Nat → Nat} {i1 : Int32} {i2 : Int32} {i3 : Int32} {u : Int32}  (h : f_X0_isSeen N i1 i2 i3 b_labels = some u) : Ct l D r (z_rl xs) zm_X0_isSeen 0 0 [.ref b_p, .int i1, .int i2, .int i3] ([sBk sgp b_p b_a b_isKnown b_answers b_adjacent b_labels b_present b_coming b_cells b_reach] : List ZW).flatten (fun v' w' => v' = some (.int u) ∧ w' = ([sBk sgp b_p b_a b_isKnown b_answers b_adjacent b_labels b_present b_coming b_cells b_reach] : List ZW).flatten) := by
  refine Ct.of (by decide +kernel) rfl (fun q => absurd q (by decide)) (Nat.le_of_ble_eq_true rfl) ?_
  refine Go.eqz (z2 := (0, [some (.ref b_p), some (.int i1), some (.int i2), some (.int i3), none], [], ([sBk sgp b_p b_a b_isKnown b_answers b_adjacent b_labels b_present b_coming b_cells b_reach] : List ZW).flatten)) rfl ?_
  unfold f_X0_isSeen at h
  refine Go.blk zk_X0_isSeen [0, 0] (z' := (3, [some (.ref b_p), some (.int i1), some (.int i2), some (.int i3), some (.int i2)], [], ([sBk sgp b_p b_a b_isKnown b_answers b_adjacent b_labels b_present b_coming b_cells b_reach] : List ZW).flatten)) rfl trivial ?_
  refine Go.weak (L := [some (.ref b_p), some (.int i1), some (.int i2), some (.int i3), some (.int i2)]) (L' := [some (.ref b_p), some (.int i1), none, some (.int i3), some (.int i2)]) (And.intro rfl (And.intro rfl (And.intro rfl (And.intro rfl (trivial))))) ?_
  obtain ⟨o5, he4, h⟩ := z_bind h
  cases o5 with
  | inl e4 =>
    simp only [Sum.elim_inl] at h
    refine t_X0_isSeen_L3 N _ _ he4 (fun _ q => ?_) (fun _ q => nomatch q)
    obtain rfl := Sum.inl.inj q
    refine Go.blk zk_X0_isSeen [0] (z' := (29, [none, none, none, none, none], [.int 0], ([sBk sgp b_p b_a b_isKnown b_answers b_adjacent b_labels b_present b_coming b_cells b_reach] : List ZW).flatten)) rfl trivial ?_
    obtain rfl := Option.some.inj h
    exact Go.iret zk_X0_isSeen rfl rfl rfl ⟨rfl, rfl⟩
  | inr u6 =>
    simp only [Sum.elim_inr] at h
    obtain rfl := Option.some.inj h
    refine t_X0_isSeen_L3 N _ _ he4 (fun _ q => nomatch q) (fun _ q => ?_)
    obtain rfl := Sum.inr.inj q
    exact ⟨rfl, rfl⟩
set_option maxHeartbeats 4000000 in
set_option maxRecDepth 100000 in
theorem t_X0_isAnySeen_L2 {N : Nat} {b_p : Nat} {b_a : Nat → Nat} {b_isKnown : List Int32} {b_answers : Nat} {b_adjacent : List Int32} {b_labels : List Int32} {b_present : Nat} {b_coming : Nat} {b_cells : Int32} {b_reach : Int32} {sgp : Nat → Nat} {v2 : Int32}  {Q : Option Value → ZW → Prop} : ∀ (fu : Nat) (v3 : Int32) (o : (Unit) ⊕ (Int32)), f_X0_isAnySeen_L2 N v2 b_labels fu v3 = some o → (∀ e, o = .inl e → Go l D r (z_rl xs) zm_X0_isAnySeen 0 0 (24, [none, none, none, none], [], ([sBk sgp b_p b_a b_isKnown b_answers b_adjacent b_labels b_present b_coming b_cells b_reach] : List ZW).flatten) Q) → (∀ e, o = .inr e → Q (some (.int e)) ([sBk sgp b_p b_a b_isKnown b_answers b_adjacent b_labels b_present b_coming b_cells b_reach] : List ZW).flatten) → Go l D r (z_rl xs) zm_X0_isAnySeen 0 0 (2, [some (.ref b_p), none, some (.int v2), some (.int v3)], [], ([sBk sgp b_p b_a b_isKnown b_answers b_adjacent b_labels b_present b_coming b_cells b_reach] : List ZW).flatten) Q := by
  intro fu
  induction fu with
  | zero =>
    intro v3 o h
    simp only [f_X0_isAnySeen_L2, reduceCtorEq] at h
  | succ fu ih =>
    intro v3 o h k1 k2
    rw [f_X0_isAnySeen_L2] at h
    refine Go.blk zk_X0_isAnySeen [0, 0] (z' := (4, [some (.ref b_p), none, some (.int v2), some (.int v3)], [.int v2, .int v3], ([sBk sgp b_p b_a b_isKnown b_answers b_adjacent b_labels b_present b_coming b_cells b_reach] : List ZW).flatten)) rfl trivial ?_
    by_cases hc1 : v2 < v3
    · rw [if_pos hc1] at h
      refine Go.br zk_X0_isAnySeen rfl rfl (fun _ => ?_) (fun q => absurd hc1 q)
      obtain rfl := Option.some.inj h
      refine Go.weak (L := [some (.ref b_p), none, some (.int v2), some (.int v3)]) (L' := [none, none, none, none]) (trivial) ?_
      exact k1 _ rfl
    · rw [if_neg hc1] at h
      refine Go.br zk_X0_isAnySeen rfl rfl (fun q => absurd q hc1) (fun _ => ?_)
      refine Go.blk zk_X0_isAnySeen [0, 0, 0] (z' := (12, [some (.ref b_p), none, some (.int v2), some (.int v3)], [.int v3, .ref (b_a 2)], ([sBk sgp b_p b_a b_isKnown b_answers b_adjacent b_labels b_present b_coming b_cells b_reach] : List ZW).flatten)) rfl ⟨rfl, trivial⟩ ?_
      obtain ⟨x2, hx2, h⟩ := z_bind h
      refine Go.iald zk_X0_isAnySeen 3 rfl rfl rfl hx2 ?_
      by_cases hc3 : x2 = 0
      · rw [if_pos hc3] at h
        refine Go.br zk_X0_isAnySeen rfl rfl (fun _ => ?_) (fun q => absurd hc3 q)
        refine Go.blk zk_X0_isAnySeen [0, 0] (z' := (2, [some (.ref b_p), none, some (.int v2), some (.int (v3 + 1))], [], ([sBk sgp b_p b_a b_isKnown b_answers b_adjacent b_labels b_present b_coming b_cells b_reach] : List ZW).flatten)) rfl trivial ?_
        exact ih _ _ h k1 k2
      · rw [if_neg hc3] at h
        refine Go.br zk_X0_isAnySeen rfl rfl (fun q => absurd q hc3) (fun _ => ?_)
        refine Go.blk zk_X0_isAnySeen [0] (z' := (17, [some (.ref b_p), none, some (.int v2), some (.int v3)], [.int 1], ([sBk sgp b_p b_a b_isKnown b_answers b_adjacent b_labels b_present b_coming b_cells b_reach] : List ZW).flatten)) rfl trivial ?_
        obtain rfl := Option.some.inj h
        exact Go.iret zk_X0_isAnySeen rfl rfl rfl (k2 _ rfl)
set_option maxHeartbeats 4000000 in
set_option maxRecDepth 100000 in
theorem t_X0_isAnySeen {N : Nat} {b_p : Nat} {b_a : Nat → Nat} {b_isKnown : List Int32} {b_answers : Nat} {b_adjacent : List Int32} {b_labels : List Int32} {b_present : Nat} {b_coming : Nat} {b_cells : Int32} {b_reach : Int32} {sgp : Nat → Nat} {i1 : Int32} {i2 : Int32} {u : Int32}  (h : f_X0_isAnySeen N i1 i2 b_labels = some u) : Ct l D r (z_rl xs) zm_X0_isAnySeen 0 0 [.ref b_p, .int i1, .int i2] ([sBk sgp b_p b_a b_isKnown b_answers b_adjacent b_labels b_present b_coming b_cells b_reach] : List ZW).flatten (fun v' w' => v' = some (.int u) ∧ w' = ([sBk sgp b_p b_a b_isKnown b_answers b_adjacent b_labels b_present b_coming b_cells b_reach] : List ZW).flatten) := by
  refine Ct.of (by decide +kernel) rfl (fun q => absurd q (by decide)) (Nat.le_of_ble_eq_true rfl) ?_
  refine Go.eqz (z2 := (0, [some (.ref b_p), some (.int i1), some (.int i2), none], [], ([sBk sgp b_p b_a b_isKnown b_answers b_adjacent b_labels b_present b_coming b_cells b_reach] : List ZW).flatten)) rfl ?_
  unfold f_X0_isAnySeen at h
  refine Go.blk zk_X0_isAnySeen [0, 0] (z' := (2, [some (.ref b_p), some (.int i1), some (.int i2), some (.int i1)], [], ([sBk sgp b_p b_a b_isKnown b_answers b_adjacent b_labels b_present b_coming b_cells b_reach] : List ZW).flatten)) rfl trivial ?_
  refine Go.weak (L := [some (.ref b_p), some (.int i1), some (.int i2), some (.int i1)]) (L' := [some (.ref b_p), none, some (.int i2), some (.int i1)]) (And.intro rfl (And.intro rfl (And.intro rfl (trivial)))) ?_
  obtain ⟨o5, he4, h⟩ := z_bind h
  cases o5 with
  | inl e4 =>
    simp only [Sum.elim_inl] at h
    refine t_X0_isAnySeen_L2 N _ _ he4 (fun _ q => ?_) (fun _ q => nomatch q)
    obtain rfl := Sum.inl.inj q
    refine Go.blk zk_X0_isAnySeen [0] (z' := (25, [none, none, none, none], [.int 0], ([sBk sgp b_p b_a b_isKnown b_answers b_adjacent b_labels b_present b_coming b_cells b_reach] : List ZW).flatten)) rfl trivial ?_
    obtain rfl := Option.some.inj h
    exact Go.iret zk_X0_isAnySeen rfl rfl rfl ⟨rfl, rfl⟩
  | inr u6 =>
    simp only [Sum.elim_inr] at h
    obtain rfl := Option.some.inj h
    refine t_X0_isAnySeen_L2 N _ _ he4 (fun _ q => nomatch q) (fun _ q => ?_)
    obtain rfl := Sum.inr.inj q
    exact ⟨rfl, rfl⟩
set_option maxHeartbeats 4000000 in
set_option maxRecDepth 100000 in
theorem t_X0_retire_L2 {N : Nat} {b_p : Nat} {b_a : Nat → Nat} {b_isKnown : List Int32} {b_answers : Nat} {b_adjacent : List Int32} {b_present : Nat} {b_coming : Nat} {b_cells : Int32} {b_reach : Int32} {sgp : Nat → Nat} {v1 : Int32} {v2 : Int32}  {Q : Option Value → ZW → Prop} : ∀ (fu : Nat) (v3 : Int32) (b_labels : List Int32) (o : ((List Int32)) ⊕ (Int32 × (List Int32))), f_X0_retire_L2 N v1 v2 b_adjacent fu v3 b_labels = some o → (∀ e, o = .inl e → Go l D r (z_rl xs) zm_X0_retire 0 0 (72, [none, none, none, none, none], [], ([sBk sgp b_p b_a b_isKnown b_answers b_adjacent e b_present b_coming b_cells b_reach] : List ZW).flatten) Q) → (∀ e, o = .inr e → Q (some (.int e.1)) ([sBk sgp b_p b_a b_isKnown b_answers b_adjacent e.2 b_present b_coming b_cells b_reach] : List ZW).flatten) → Go l D r (z_rl xs) zm_X0_retire 0 0 (2, [some (.ref b_p), some (.int v1), some (.int v2), some (.int v3), none], [], ([sBk sgp b_p b_a b_isKnown b_answers b_adjacent b_labels b_present b_coming b_cells b_reach] : List ZW).flatten) Q := by
  intro fu
  induction fu with
  | zero =>
    intro v3 b_labels o h
    simp only [f_X0_retire_L2, reduceCtorEq] at h
  | succ fu ih =>
    intro v3 b_labels o h k1 k2
    rw [f_X0_retire_L2] at h
    refine Go.blk zk_X0_retire [0, 0] (z' := (4, [some (.ref b_p), some (.int v1), some (.int v2), some (.int v3), none], [.int v2, .int v3], ([sBk sgp b_p b_a b_isKnown b_answers b_adjacent b_labels b_present b_coming b_cells b_reach] : List ZW).flatten)) rfl trivial ?_
    by_cases hc1 : v2 < v3
    · rw [if_pos hc1] at h
      refine Go.br zk_X0_retire rfl rfl (fun _ => ?_) (fun q => absurd hc1 q)
      obtain rfl := Option.some.inj h
      refine Go.weak (L := [some (.ref b_p), some (.int v1), some (.int v2), some (.int v3), none]) (L' := [none, none, none, none, none]) (trivial) ?_
      exact k1 _ rfl
    · rw [if_neg hc1] at h
      refine Go.br zk_X0_retire rfl rfl (fun q => absurd q hc1) (fun _ => ?_)
      refine Go.blk zk_X0_retire [0, 0, 0] (z' := (12, [some (.ref b_p), some (.int v1), some (.int v2), some (.int v3), none], [.int v3, .ref (b_a 2)], ([sBk sgp b_p b_a b_isKnown b_answers b_adjacent b_labels b_present b_coming b_cells b_reach] : List ZW).flatten)) rfl ⟨rfl, trivial⟩ ?_
      obtain ⟨x2, hx2, h⟩ := z_bind h
      refine Go.iald zk_X0_retire 3 rfl rfl rfl hx2 ?_
      refine Go.blk zk_X0_retire [0, 0] (z' := (17, [some (.ref b_p), some (.int v1), some (.int v2), some (.int v3), some (.int x2)], [.int x2], ([sBk sgp b_p b_a b_isKnown b_answers b_adjacent b_labels b_present b_coming b_cells b_reach] : List ZW).flatten)) rfl trivial ?_
      by_cases hc3 : x2 = 0
      · rw [if_pos hc3] at h
        refine Go.br zk_X0_retire rfl rfl (fun _ => ?_) (fun q => absurd hc3 q)
        refine Go.blk zk_X0_retire [0, 0] (z' := (2, [some (.ref b_p), some (.int v1), some (.int v2), some (.int (v3 + 1)), some (.int x2)], [], ([sBk sgp b_p b_a b_isKnown b_answers b_adjacent b_labels b_present b_coming b_cells b_reach] : List ZW).flatten)) rfl trivial ?_
        refine Go.weak (L := [some (.ref b_p), some (.int v1), some (.int v2), some (.int (v3 + 1)), some (.int x2)]) (L' := [some (.ref b_p), some (.int v1), some (.int v2), some (.int (v3 + 1)), none]) (And.intro rfl (And.intro rfl (And.intro rfl (And.intro rfl (trivial))))) ?_
        exact ih _ _ _ h k1 k2
      · rw [if_neg hc3] at h
        refine Go.br zk_X0_retire rfl rfl (fun q => absurd q hc3) (fun _ => ?_)
        refine Go.blk zk_X0_retire [0, 0, 0] (z' := (25, [some (.ref b_p), some (.int v1), some (.int v2), some (.int v3), some (.int x2)], [.int v3, .ref (b_a 1)], ([sBk sgp b_p b_a b_isKnown b_answers b_adjacent b_labels b_present b_coming b_cells b_reach] : List ZW).flatten)) rfl ⟨rfl, trivial⟩ ?_
        obtain ⟨x4, hx4, h⟩ := z_bind h
        refine Go.iald zk_X0_retire 2 rfl rfl rfl hx4 ?_
        refine Go.blk zk_X0_retire [0, 0, 0, 0] (z' := (30, [some (.ref b_p), some (.int v1), some (.int v2), some (.int v3), some (.int x2)], [.int (x4 >>> ((v2 + 1) &&& 31))], ([sBk sgp b_p b_a b_isKnown b_answers b_adjacent b_labels b_present b_coming b_cells b_reach] : List ZW).flatten)) rfl trivial ?_
        by_cases hc5 : (x4 >>> ((v2 + 1) &&& 31)) = 0
        · rw [if_pos hc5] at h
          refine Go.br zk_X0_retire rfl rfl (fun _ => ?_) (fun q => absurd hc5 q)
          refine Go.blk zk_X0_retire [0, 0, 0, 0] (z' := (39, [some (.ref b_p), some (.int v1), some (.int v2), some (.int v3), some (.int x2)], [.int 0, .int v3, .ref (b_a 2)], ([sBk sgp b_p b_a b_isKnown b_answers b_adjacent b_labels b_present b_coming b_cells b_reach] : List ZW).flatten)) rfl ⟨rfl, trivial⟩ ?_
          obtain ⟨t6, ht6, h⟩ := z_bind h
          refine Go.iast zk_X0_retire 3 rfl rfl rfl ht6 ?_
          refine Go.eqz (z2 := (40, [some (.ref b_p), some (.int v1), some (.int v2), some (.int v3), some (.int x2)], [], ([sBk sgp b_p b_a b_isKnown b_answers b_adjacent t6 b_present b_coming b_cells b_reach] : List ZW).flatten)) rfl ?_
          refine Go.blk zk_X0_retire [0, 0, 0, 0] (z' := (45, [some (.ref b_p), some (.int v1), some (.int v2), some (.int v3), some (.int x2)], [.int v2, .int v1, .int x2, .ref b_p], ([sBk sgp b_p b_a b_isKnown b_answers b_adjacent t6 b_present b_coming b_cells b_reach] : List ZW).flatten)) rfl trivial ?_
          obtain ⟨u7, hu7, h⟩ := z_bind h
          refine Go.vs zk_X0_retire zm_X0_isSeen [0] [] 0 0 1 (S := [sBk sgp b_p b_a b_isKnown b_answers b_adjacent t6 b_present b_coming b_cells b_reach]) (S2 := [sBk sgp b_p b_a b_isKnown b_answers b_adjacent t6 b_present b_coming b_cells b_reach]) (As := [.int x2, .int v1, .int v2]) (rest := []) (st2 := [.int u7]) (v1 := some (.int u7)) rfl zl_X0_118 zv_X0_isSeen ⟨Nat.le_of_ble_eq_true rfl, Nat.le_of_ble_eq_true rfl⟩ rfl (by decide) rfl rfl rfl rfl rfl (Nat.le_of_ble_eq_true rfl) (t_X0_isSeen hu7) rfl rfl rfl ?_
          by_cases hc8 : u7 = 0
          · rw [if_pos hc8] at h
            refine Go.br zk_X0_retire rfl rfl (fun _ => ?_) (fun q => absurd hc8 q)
            refine Go.blk zk_X0_retire [0, 0, 0] (z' := (54, [some (.ref b_p), some (.int v1), some (.int v2), some (.int v3), some (.int x2)], [.int v2, .int v1, .ref b_p], ([sBk sgp b_p b_a b_isKnown b_answers b_adjacent t6 b_present b_coming b_cells b_reach] : List ZW).flatten)) rfl trivial ?_
            obtain ⟨u9, hu9, h⟩ := z_bind h
            refine Go.vs zk_X0_retire zm_X0_isAnySeen [0] [] 0 0 1 (S := [sBk sgp b_p b_a b_isKnown b_answers b_adjacent t6 b_present b_coming b_cells b_reach]) (S2 := [sBk sgp b_p b_a b_isKnown b_answers b_adjacent t6 b_present b_coming b_cells b_reach]) (As := [.int v1, .int v2]) (rest := []) (st2 := [.int u9]) (v1 := some (.int u9)) rfl zl_X0_122 zv_X0_isAnySeen ⟨Nat.le_of_ble_eq_true rfl, Nat.le_of_ble_eq_true rfl⟩ rfl (by decide) rfl rfl rfl rfl rfl (Nat.le_of_ble_eq_true rfl) (t_X0_isAnySeen hu9) rfl rfl rfl ?_
            by_cases hc10 : u9 = 0
            · rw [if_pos hc10] at h
              refine Go.br zk_X0_retire rfl rfl (fun _ => ?_) (fun q => absurd hc10 q)
              refine Go.blk zk_X0_retire [0] (z' := (65, [some (.ref b_p), some (.int v1), some (.int v2), some (.int v3), some (.int x2)], [.int 1], ([sBk sgp b_p b_a b_isKnown b_answers b_adjacent t6 b_present b_coming b_cells b_reach] : List ZW).flatten)) rfl trivial ?_
              obtain rfl := Option.some.inj h
              exact Go.iret zk_X0_retire rfl rfl rfl (k2 _ rfl)
            · rw [if_neg hc10] at h
              refine Go.br zk_X0_retire rfl rfl (fun q => absurd q hc10) (fun _ => ?_)
              refine Go.blk zk_X0_retire [0, 0] (z' := (65, [some (.ref b_p), some (.int v1), some (.int v2), some (.int v3), some (.int x2)], [.int 2], ([sBk sgp b_p b_a b_isKnown b_answers b_adjacent t6 b_present b_coming b_cells b_reach] : List ZW).flatten)) rfl trivial ?_
              obtain rfl := Option.some.inj h
              exact Go.iret zk_X0_retire rfl rfl rfl (k2 _ rfl)
          · rw [if_neg hc8] at h
            refine Go.br zk_X0_retire rfl rfl (fun q => absurd q hc8) (fun _ => ?_)
            refine Go.blk zk_X0_retire [0, 0] (z' := (2, [some (.ref b_p), some (.int v1), some (.int v2), some (.int (v3 + 1)), some (.int x2)], [], ([sBk sgp b_p b_a b_isKnown b_answers b_adjacent t6 b_present b_coming b_cells b_reach] : List ZW).flatten)) rfl trivial ?_
            refine Go.weak (L := [some (.ref b_p), some (.int v1), some (.int v2), some (.int (v3 + 1)), some (.int x2)]) (L' := [some (.ref b_p), some (.int v1), some (.int v2), some (.int (v3 + 1)), none]) (And.intro rfl (And.intro rfl (And.intro rfl (And.intro rfl (trivial))))) ?_
            exact ih _ _ _ h k1 k2
        · rw [if_neg hc5] at h
          refine Go.br zk_X0_retire rfl rfl (fun q => absurd q hc5) (fun _ => ?_)
          refine Go.blk zk_X0_retire [0, 0] (z' := (2, [some (.ref b_p), some (.int v1), some (.int v2), some (.int (v3 + 1)), some (.int x2)], [], ([sBk sgp b_p b_a b_isKnown b_answers b_adjacent b_labels b_present b_coming b_cells b_reach] : List ZW).flatten)) rfl trivial ?_
          refine Go.weak (L := [some (.ref b_p), some (.int v1), some (.int v2), some (.int (v3 + 1)), some (.int x2)]) (L' := [some (.ref b_p), some (.int v1), some (.int v2), some (.int (v3 + 1)), none]) (And.intro rfl (And.intro rfl (And.intro rfl (And.intro rfl (trivial))))) ?_
          exact ih _ _ _ h k1 k2
set_option maxHeartbeats 4000000 in
set_option maxRecDepth 100000 in
theorem t_X0_retire {N : Nat} {b_p : Nat} {b_a : Nat → Nat} {b_isKnown : List Int32} {b_answers : Nat} {b_adjacent : List Int32} {b_labels : List Int32} {b_present : Nat} {b_coming : Nat} {b_cells : Int32} {b_reach : Int32} {sgp : Nat → Nat} {i1 : Int32} {i2 : Int32} {u : Int32 × (List Int32)}  (h : f_X0_retire N i1 i2 b_adjacent b_labels = some u) : Ct l D r (z_rl xs) zm_X0_retire 0 0 [.ref b_p, .int i1, .int i2] ([sBk sgp b_p b_a b_isKnown b_answers b_adjacent b_labels b_present b_coming b_cells b_reach] : List ZW).flatten (fun v' w' => v' = some (.int u.1) ∧ w' = ([sBk sgp b_p b_a b_isKnown b_answers b_adjacent u.2 b_present b_coming b_cells b_reach] : List ZW).flatten) := by
  refine Ct.of (by decide +kernel) rfl (fun q => absurd q (by decide)) (Nat.le_of_ble_eq_true rfl) ?_
  refine Go.eqz (z2 := (0, [some (.ref b_p), some (.int i1), some (.int i2), none, none], [], ([sBk sgp b_p b_a b_isKnown b_answers b_adjacent b_labels b_present b_coming b_cells b_reach] : List ZW).flatten)) rfl ?_
  unfold f_X0_retire at h
  refine Go.blk zk_X0_retire [0, 0] (z' := (2, [some (.ref b_p), some (.int i1), some (.int i2), some (.int i1), none], [], ([sBk sgp b_p b_a b_isKnown b_answers b_adjacent b_labels b_present b_coming b_cells b_reach] : List ZW).flatten)) rfl trivial ?_
  obtain ⟨o12, he11, h⟩ := z_bind h
  cases o12 with
  | inl e11 =>
    simp only [Sum.elim_inl] at h
    refine t_X0_retire_L2 N _ _ _ he11 (fun _ q => ?_) (fun _ q => nomatch q)
    obtain rfl := Sum.inl.inj q
    refine Go.blk zk_X0_retire [0] (z' := (73, [none, none, none, none, none], [.int 0], ([sBk sgp b_p b_a b_isKnown b_answers b_adjacent e11 b_present b_coming b_cells b_reach] : List ZW).flatten)) rfl trivial ?_
    obtain rfl := Option.some.inj h
    exact Go.iret zk_X0_retire rfl rfl rfl ⟨rfl, rfl⟩
  | inr u13 =>
    simp only [Sum.elim_inr] at h
    obtain rfl := Option.some.inj h
    refine t_X0_retire_L2 N _ _ _ he11 (fun _ q => nomatch q) (fun _ q => ?_)
    obtain rfl := Sum.inr.inj q
    exact ⟨rfl, rfl⟩
set_option maxHeartbeats 4000000 in
set_option maxRecDepth 100000 in
theorem t_X0_packLabels_L11 {N : Nat} {b_p : Nat} {b_a : Nat → Nat} {b_isKnown : List Int32} {b_answers : Nat} {b_adjacent : List Int32} {b_labels : List Int32} {b_present : Nat} {b_coming : Nat} {b_cells : Int32} {b_reach : Int32} {sgp : Nat → Nat} {v2 : Int32}  {Q : Option Value → ZW → Prop} : ∀ (fu : Nat) (v3 : Int64) (v5 : Int32) (v6 : Int32) (v7 : Int32) (e : Int64), f_X0_packLabels_L11 N v2 b_labels fu v3 v5 v6 v7 = some e → (Go l D r (z_rl xs) zm_X0_packLabels 0 0 (84, [none, none, none, some (.long e), none, none, none, none, none, none], [], ([sBk sgp b_p b_a b_isKnown b_answers b_adjacent b_labels b_present b_coming b_cells b_reach] : List ZW).flatten) Q) → Go l D r (z_rl xs) zm_X0_packLabels 0 0 (11, [some (.ref b_p), none, some (.int v2), some (.long v3), none, some (.int v5), some (.int v6), some (.int v7), none, none], [], ([sBk sgp b_p b_a b_isKnown b_answers b_adjacent b_labels b_present b_coming b_cells b_reach] : List ZW).flatten) Q := by
  intro fu
  induction fu with
  | zero =>
    intro v3 v5 v6 v7 e h
    simp only [f_X0_packLabels_L11, reduceCtorEq] at h
  | succ fu ih =>
    intro v3 v5 v6 v7 e h kk
    rw [f_X0_packLabels_L11] at h
    refine Go.blk zk_X0_packLabels [0, 0] (z' := (14, [some (.ref b_p), none, some (.int v2), some (.long v3), none, some (.int v5), some (.int v6), some (.int v7), none, none], [.int v2, .int v7], ([sBk sgp b_p b_a b_isKnown b_answers b_adjacent b_labels b_present b_coming b_cells b_reach] : List ZW).flatten)) rfl trivial ?_
    by_cases hc1 : v2 < v7
    · rw [if_pos hc1] at h
      refine Go.br zk_X0_packLabels rfl rfl (fun _ => ?_) (fun q => absurd hc1 q)
      obtain rfl := Option.some.inj h
      refine Go.weak (L := [some (.ref b_p), none, some (.int v2), some (.long v3), none, some (.int v5), some (.int v6), some (.int v7), none, none]) (L' := [none, none, none, some (.long v3), none, none, none, none, none, none]) (And.intro rfl (trivial)) ?_
      exact kk
    · rw [if_neg hc1] at h
      refine Go.br zk_X0_packLabels rfl rfl (fun q => absurd q hc1) (fun _ => ?_)
      refine Go.blk zk_X0_packLabels [0, 0, 0] (z' := (23, [some (.ref b_p), none, some (.int v2), some (.long v3), none, some (.int v5), some (.int v6), some (.int v7), none, none], [.int v7, .ref (b_a 2)], ([sBk sgp b_p b_a b_isKnown b_answers b_adjacent b_labels b_present b_coming b_cells b_reach] : List ZW).flatten)) rfl ⟨rfl, trivial⟩ ?_
      obtain ⟨x2, hx2, h⟩ := z_bind h
      refine Go.iald zk_X0_packLabels 3 rfl rfl rfl hx2 ?_
      refine Go.blk zk_X0_packLabels [0, 0] (z' := (28, [some (.ref b_p), none, some (.int v2), some (.long v3), none, some (.int v5), some (.int v6), some (.int v7), some (.int x2), none], [.int x2], ([sBk sgp b_p b_a b_isKnown b_answers b_adjacent b_labels b_present b_coming b_cells b_reach] : List ZW).flatten)) rfl trivial ?_
      by_cases hc3 : x2 = 0
      · rw [if_pos hc3] at h
        refine Go.br zk_X0_packLabels rfl rfl (fun _ => ?_) (fun q => absurd hc3 q)
        refine Go.blk zk_X0_packLabels [0, 0] (z' := (11, [some (.ref b_p), none, some (.int v2), some (.long v3), none, some (.int v5), some (.int v6), some (.int (v7 + 1)), some (.int x2), none], [], ([sBk sgp b_p b_a b_isKnown b_answers b_adjacent b_labels b_present b_coming b_cells b_reach] : List ZW).flatten)) rfl trivial ?_
        refine Go.weak (L := [some (.ref b_p), none, some (.int v2), some (.long v3), none, some (.int v5), some (.int v6), some (.int (v7 + 1)), some (.int x2), none]) (L' := [some (.ref b_p), none, some (.int v2), some (.long v3), none, some (.int v5), some (.int v6), some (.int (v7 + 1)), none, none]) (And.intro rfl (And.intro rfl (And.intro rfl (And.intro rfl (And.intro rfl (And.intro rfl (trivial))))))) ?_
        exact ih _ _ _ _ _ h kk
      · rw [if_neg hc3] at h
        refine Go.br zk_X0_packLabels rfl rfl (fun q => absurd q hc3) (fun _ => ?_)
        refine Go.blk zk_X0_packLabels [0, 0, 0, 0, 0, 0, 0, 0, 0] (z' := (45, [some (.ref b_p), none, some (.int v2), some (.long v3), none, some (.int v5), some (.int v6), some (.int v7), some (.int x2), some (.int (((Int32.toUInt32 v5 >>> (Int32.toUInt32 (4 * x2) &&& Int32.toUInt32 31)).toInt32) &&& 15))], [.int (((Int32.toUInt32 v5 >>> (Int32.toUInt32 (4 * x2) &&& Int32.toUInt32 31)).toInt32) &&& 15)], ([sBk sgp b_p b_a b_isKnown b_answers b_adjacent b_labels b_present b_coming b_cells b_reach] : List ZW).flatten)) rfl trivial ?_
        by_cases hc4 : (((Int32.toUInt32 v5 >>> (Int32.toUInt32 (4 * x2) &&& Int32.toUInt32 31)).toInt32) &&& 15) = 0
        · rw [if_pos hc4] at h
          refine Go.br zk_X0_packLabels rfl rfl (fun _ => ?_) (fun q => absurd hc4 q)
          refine Go.blk zk_X0_packLabels [0, 0, 0, 0, 0, 0, 0, 0, 0, 0, 0, 0, 0, 0, 0, 0, 0, 0, 0, 0, 0, 0] (z' := (11, [some (.ref b_p), none, some (.int v2), some (.long (v3 ||| ((Int32.toInt64 (v6 + 1)) <<< (Int32.toInt64 (3 * v7) &&& 63)))), none, some (.int (v5 ||| ((v6 + 1) <<< ((4 * x2) &&& 31)))), some (.int (v6 + 1)), some (.int (v7 + 1)), some (.int x2), some (.int (v6 + 1))], [], ([sBk sgp b_p b_a b_isKnown b_answers b_adjacent b_labels b_present b_coming b_cells b_reach] : List ZW).flatten)) rfl trivial ?_
          refine Go.weak (L := [some (.ref b_p), none, some (.int v2), some (.long (v3 ||| ((Int32.toInt64 (v6 + 1)) <<< (Int32.toInt64 (3 * v7) &&& 63)))), none, some (.int (v5 ||| ((v6 + 1) <<< ((4 * x2) &&& 31)))), some (.int (v6 + 1)), some (.int (v7 + 1)), some (.int x2), some (.int (v6 + 1))]) (L' := [some (.ref b_p), none, some (.int v2), some (.long (v3 ||| ((Int32.toInt64 (v6 + 1)) <<< (Int32.toInt64 (3 * v7) &&& 63)))), none, some (.int (v5 ||| ((v6 + 1) <<< ((4 * x2) &&& 31)))), some (.int (v6 + 1)), some (.int (v7 + 1)), none, none]) (And.intro rfl (And.intro rfl (And.intro rfl (And.intro rfl (And.intro rfl (And.intro rfl (trivial))))))) ?_
          exact ih _ _ _ _ _ h kk
        · rw [if_neg hc4] at h
          refine Go.br zk_X0_packLabels rfl rfl (fun q => absurd q hc4) (fun _ => ?_)
          refine Go.blk zk_X0_packLabels [0, 0, 0, 0, 0, 0, 0, 0, 0, 0, 0] (z' := (11, [some (.ref b_p), none, some (.int v2), some (.long (v3 ||| ((Int32.toInt64 (((Int32.toUInt32 v5 >>> (Int32.toUInt32 (4 * x2) &&& Int32.toUInt32 31)).toInt32) &&& 15)) <<< (Int32.toInt64 (3 * v7) &&& 63)))), none, some (.int v5), some (.int v6), some (.int (v7 + 1)), some (.int x2), some (.int (((Int32.toUInt32 v5 >>> (Int32.toUInt32 (4 * x2) &&& Int32.toUInt32 31)).toInt32) &&& 15))], [], ([sBk sgp b_p b_a b_isKnown b_answers b_adjacent b_labels b_present b_coming b_cells b_reach] : List ZW).flatten)) rfl trivial ?_
          refine Go.weak (L := [some (.ref b_p), none, some (.int v2), some (.long (v3 ||| ((Int32.toInt64 (((Int32.toUInt32 v5 >>> (Int32.toUInt32 (4 * x2) &&& Int32.toUInt32 31)).toInt32) &&& 15)) <<< (Int32.toInt64 (3 * v7) &&& 63)))), none, some (.int v5), some (.int v6), some (.int (v7 + 1)), some (.int x2), some (.int (((Int32.toUInt32 v5 >>> (Int32.toUInt32 (4 * x2) &&& Int32.toUInt32 31)).toInt32) &&& 15))]) (L' := [some (.ref b_p), none, some (.int v2), some (.long (v3 ||| ((Int32.toInt64 (((Int32.toUInt32 v5 >>> (Int32.toUInt32 (4 * x2) &&& Int32.toUInt32 31)).toInt32) &&& 15)) <<< (Int32.toInt64 (3 * v7) &&& 63)))), none, some (.int v5), some (.int v6), some (.int (v7 + 1)), none, none]) (And.intro rfl (And.intro rfl (And.intro rfl (And.intro rfl (And.intro rfl (And.intro rfl (trivial))))))) ?_
          exact ih _ _ _ _ _ h kk
set_option maxHeartbeats 4000000 in
set_option maxRecDepth 100000 in
theorem t_X0_packLabels {N : Nat} {b_p : Nat} {b_a : Nat → Nat} {b_isKnown : List Int32} {b_answers : Nat} {b_adjacent : List Int32} {b_labels : List Int32} {b_present : Nat} {b_coming : Nat} {b_cells : Int32} {b_reach : Int32} {sgp : Nat → Nat} {i1 : Int32} {i2 : Int32} {u : Int64}  (h : f_X0_packLabels N i1 i2 b_labels = some u) : Ct l D r (z_rl xs) zm_X0_packLabels 0 0 [.ref b_p, .int i1, .int i2] ([sBk sgp b_p b_a b_isKnown b_answers b_adjacent b_labels b_present b_coming b_cells b_reach] : List ZW).flatten (fun v' w' => v' = some (.long u) ∧ w' = ([sBk sgp b_p b_a b_isKnown b_answers b_adjacent b_labels b_present b_coming b_cells b_reach] : List ZW).flatten) := by
  refine Ct.of (by decide +kernel) rfl (fun q => absurd q (by decide)) (Nat.le_of_ble_eq_true rfl) ?_
  refine Go.eqz (z2 := (0, [some (.ref b_p), some (.int i1), some (.int i2), none, none, none, none, none, none, none], [], ([sBk sgp b_p b_a b_isKnown b_answers b_adjacent b_labels b_present b_coming b_cells b_reach] : List ZW).flatten)) rfl ?_
  unfold f_X0_packLabels at h
  refine Go.blk zk_X0_packLabels [0, 0, 0, 0, 0, 0, 0, 0] (z' := (11, [some (.ref b_p), some (.int i1), some (.int i2), some (.long 0), none, some (.int 0), some (.int 0), some (.int i1), none, none], [], ([sBk sgp b_p b_a b_isKnown b_answers b_adjacent b_labels b_present b_coming b_cells b_reach] : List ZW).flatten)) rfl trivial ?_
  refine Go.weak (L := [some (.ref b_p), some (.int i1), some (.int i2), some (.long 0), none, some (.int 0), some (.int 0), some (.int i1), none, none]) (L' := [some (.ref b_p), none, some (.int i2), some (.long 0), none, some (.int 0), some (.int 0), some (.int i1), none, none]) (And.intro rfl (And.intro rfl (And.intro rfl (And.intro rfl (And.intro rfl (And.intro rfl (trivial))))))) ?_
  obtain ⟨e5, he5, h⟩ := z_bind h
  refine t_X0_packLabels_L11 N _ _ _ _ _ he5 ?_
  refine Go.blk zk_X0_packLabels [0] (z' := (85, [none, none, none, some (.long e5), none, none, none, none, none, none], [.long e5], ([sBk sgp b_p b_a b_isKnown b_answers b_adjacent b_labels b_present b_coming b_cells b_reach] : List ZW).flatten)) rfl trivial ?_
  obtain rfl := Option.some.inj h
  exact Go.lret zk_X0_packLabels rfl rfl ⟨rfl, rfl⟩
set_option maxHeartbeats 4000000 in
set_option maxRecDepth 100000 in
theorem t_X0_layOut_L80 {N : Nat} {b_p : Nat} {b_a : Nat → Nat} {b_isKnown : List Int32} {b_answers : Nat} {b_labels : List Int32} {b_present : Nat} {b_coming : Nat} {b_cells : Int32} {b_reach : Int32} {g_p : Nat} {g_k : Nat} {sgp : Nat → Nat} {v2 : Int32} {v3 : Int32} {v4 : Int32} {v5 : Int32} {v6 : Int32} {v7 : Int32} (hk_g : g_k < 3) {Q : Option Value → ZW → Prop} : ∀ (fu : Nat) (v8 : Int32) (b_adjacent : List Int32) (e : (List Int32)), f_X0_layOut_L80 N v2 v3 v4 v5 v6 v7 g_k fu v8 b_adjacent = some e → (Go l D r (z_rl xs) zm_X0_layOut 0 0 (176, [some (.ref b_p), some (.ref g_p), some (.int v2), some (.int v3), some (.int v4), some (.int v5), some (.int v6), some (.int v7), none, none, none, none], [], ([sBk sgp b_p b_a b_isKnown b_answers e b_labels b_present b_coming b_cells b_reach, sLa r g_p g_k] : List ZW).flatten) Q) → Go l D r (z_rl xs) zm_X0_layOut 0 0 (80, [some (.ref b_p), some (.ref g_p), some (.int v2), some (.int v3), some (.int v4), some (.int v5), some (.int v6), some (.int v7), some (.int v8), none, none, none], [], ([sBk sgp b_p b_a b_isKnown b_answers b_adjacent b_labels b_present b_coming b_cells b_reach, sLa r g_p g_k] : List ZW).flatten) Q := by
  intro fu
  induction fu with
  | zero =>
    intro v8 b_adjacent e h
    simp only [f_X0_layOut_L80, reduceCtorEq] at h
  | succ fu ih =>
    intro v8 b_adjacent e h kk
    rw [f_X0_layOut_L80] at h
    refine Go.blk zk_X0_layOut [0, 0, 4] (z' := (86, [some (.ref b_p), some (.ref g_p), some (.int v2), some (.int v3), some (.int v4), some (.int v5), some (.int v6), some (.int v7), some (.int v8), none, none, none], [.int (zdeg g_k), .int v8], ([sBk sgp b_p b_a b_isKnown b_answers b_adjacent b_labels b_present b_coming b_cells b_reach, sLa r g_p g_k] : List ZW).flatten)) rfl ⟨rfl, trivial⟩ ?_
    by_cases hc6 : v8 < (zdeg g_k)
    · rw [if_pos hc6] at h
      refine Go.br zk_X0_layOut rfl rfl (fun _ => ?_) (fun q => absurd hc6 q)
      refine Go.blk zk_X0_layOut [0, 0, 0, 0] (z' := (96, [some (.ref b_p), some (.ref g_p), some (.int v2), some (.int v3), some (.int v4), some (.int v5), some (.int v6), some (.int v7), some (.int v8), none, none, none], [.int v8, .int v7, .int v6, .ref g_p], ([sBk sgp b_p b_a b_isKnown b_answers b_adjacent b_labels b_present b_coming b_cells b_reach, sLa r g_p g_k] : List ZW).flatten)) rfl trivial ?_
      obtain ⟨u7, hu7, h⟩ := z_bind h
      refine Go.vs zk_X0_layOut zm_X6_neighbourQ [1] [0] 0 6 2 (S := [sBk sgp b_p b_a b_isKnown b_answers b_adjacent b_labels b_present b_coming b_cells b_reach, sLa r g_p g_k]) (S2 := [sBk sgp b_p b_a b_isKnown b_answers b_adjacent b_labels b_present b_coming b_cells b_reach, sLa r g_p g_k]) (As := [.int v6, .int v7, .int v8]) (rest := []) (st2 := [.int u7]) (v1 := some (.int u7)) rfl zl_X0_70 zv_X6_neighbourQ ⟨Nat.le_of_ble_eq_true rfl, Nat.le_of_ble_eq_true rfl⟩ rfl (by decide) rfl rfl rfl rfl rfl (Nat.le_of_ble_eq_true rfl) (t_X6_neighbourQ hk_g hu7) rfl rfl rfl ?_
      refine Go.blk zk_X0_layOut [0, 0, 0, 0, 0] (z' := (108, [some (.ref b_p), some (.ref g_p), some (.int v2), some (.int v3), some (.int v4), some (.int v5), some (.int v6), some (.int v7), some (.int v8), some (.int u7), none, none], [.int v8, .int v7, .int v5, .ref g_p], ([sBk sgp b_p b_a b_isKnown b_answers b_adjacent b_labels b_present b_coming b_cells b_reach, sLa r g_p g_k] : List ZW).flatten)) rfl trivial ?_
      obtain ⟨u8, hu8, h⟩ := z_bind h
      refine Go.vs zk_X0_layOut zm_X6_neighbourR [1] [0] 0 6 2 (S := [sBk sgp b_p b_a b_isKnown b_answers b_adjacent b_labels b_present b_coming b_cells b_reach, sLa r g_p g_k]) (S2 := [sBk sgp b_p b_a b_isKnown b_answers b_adjacent b_labels b_present b_coming b_cells b_reach, sLa r g_p g_k]) (As := [.int v5, .int v7, .int v8]) (rest := []) (st2 := [.int u8]) (v1 := some (.int u8)) rfl zl_X0_74 zv_X6_neighbourR ⟨Nat.le_of_ble_eq_true rfl, Nat.le_of_ble_eq_true rfl⟩ rfl (by decide) rfl rfl rfl rfl rfl (Nat.le_of_ble_eq_true rfl) (t_X6_neighbourR hk_g hu8) rfl rfl rfl ?_
      refine Go.blk zk_X0_layOut [0, 0] (z' := (115, [some (.ref b_p), some (.ref g_p), some (.int v2), some (.int v3), some (.int v4), some (.int v5), some (.int v6), some (.int v7), some (.int v8), some (.int u7), some (.int u8), none], [.int u7], ([sBk sgp b_p b_a b_isKnown b_answers b_adjacent b_labels b_present b_coming b_cells b_reach, sLa r g_p g_k] : List ZW).flatten)) rfl trivial ?_
      by_cases hc9 : u7 < 0
      · rw [if_pos hc9] at h
        refine Go.br zk_X0_layOut rfl rfl (fun _ => ?_) (fun q => absurd hc9 q)
        refine Go.blk zk_X0_layOut [0, 0] (z' := (80, [some (.ref b_p), some (.ref g_p), some (.int v2), some (.int v3), some (.int v4), some (.int v5), some (.int v6), some (.int v7), some (.int (v8 + 1)), some (.int u7), some (.int u8), none], [], ([sBk sgp b_p b_a b_isKnown b_answers b_adjacent b_labels b_present b_coming b_cells b_reach, sLa r g_p g_k] : List ZW).flatten)) rfl trivial ?_
        refine Go.weak (L := [some (.ref b_p), some (.ref g_p), some (.int v2), some (.int v3), some (.int v4), some (.int v5), some (.int v6), some (.int v7), some (.int (v8 + 1)), some (.int u7), some (.int u8), none]) (L' := [some (.ref b_p), some (.ref g_p), some (.int v2), some (.int v3), some (.int v4), some (.int v5), some (.int v6), some (.int v7), some (.int (v8 + 1)), none, none, none]) (And.intro rfl (And.intro rfl (And.intro rfl (And.intro rfl (And.intro rfl (And.intro rfl (And.intro rfl (And.intro rfl (And.intro rfl (trivial)))))))))) ?_
        exact ih _ _ _ h kk
      · rw [if_neg hc9] at h
        refine Go.br zk_X0_layOut rfl rfl (fun q => absurd q hc9) (fun _ => ?_)
        refine Go.blk zk_X0_layOut [0, 0] (z' := (121, [some (.ref b_p), some (.ref g_p), some (.int v2), some (.int v3), some (.int v4), some (.int v5), some (.int v6), some (.int v7), some (.int v8), some (.int u7), some (.int u8), none], [.int v2, .int u7], ([sBk sgp b_p b_a b_isKnown b_answers b_adjacent b_labels b_present b_coming b_cells b_reach, sLa r g_p g_k] : List ZW).flatten)) rfl trivial ?_
        by_cases hc10 : u7 < v2
        · rw [if_pos hc10] at h
          refine Go.br zk_X0_layOut rfl rfl (fun _ => ?_) (fun q => absurd hc10 q)
          refine Go.blk zk_X0_layOut [0] (z' := (126, [some (.ref b_p), some (.ref g_p), some (.int v2), some (.int v3), some (.int v4), some (.int v5), some (.int v6), some (.int v7), some (.int v8), some (.int u7), some (.int u8), none], [.int u8], ([sBk sgp b_p b_a b_isKnown b_answers b_adjacent b_labels b_present b_coming b_cells b_reach, sLa r g_p g_k] : List ZW).flatten)) rfl trivial ?_
          by_cases hc11 : u8 < 0
          · rw [if_pos hc11] at h
            refine Go.br zk_X0_layOut rfl rfl (fun _ => ?_) (fun q => absurd hc11 q)
            refine Go.blk zk_X0_layOut [0, 0] (z' := (80, [some (.ref b_p), some (.ref g_p), some (.int v2), some (.int v3), some (.int v4), some (.int v5), some (.int v6), some (.int v7), some (.int (v8 + 1)), some (.int u7), some (.int u8), none], [], ([sBk sgp b_p b_a b_isKnown b_answers b_adjacent b_labels b_present b_coming b_cells b_reach, sLa r g_p g_k] : List ZW).flatten)) rfl trivial ?_
            refine Go.weak (L := [some (.ref b_p), some (.ref g_p), some (.int v2), some (.int v3), some (.int v4), some (.int v5), some (.int v6), some (.int v7), some (.int (v8 + 1)), some (.int u7), some (.int u8), none]) (L' := [some (.ref b_p), some (.ref g_p), some (.int v2), some (.int v3), some (.int v4), some (.int v5), some (.int v6), some (.int v7), some (.int (v8 + 1)), none, none, none]) (And.intro rfl (And.intro rfl (And.intro rfl (And.intro rfl (And.intro rfl (And.intro rfl (And.intro rfl (And.intro rfl (And.intro rfl (trivial)))))))))) ?_
            exact ih _ _ _ h kk
          · rw [if_neg hc11] at h
            refine Go.br zk_X0_layOut rfl rfl (fun q => absurd q hc11) (fun _ => ?_)
            refine Go.blk zk_X0_layOut [0, 0] (z' := (132, [some (.ref b_p), some (.ref g_p), some (.int v2), some (.int v3), some (.int v4), some (.int v5), some (.int v6), some (.int v7), some (.int v8), some (.int u7), some (.int u8), none], [.int v3, .int u8], ([sBk sgp b_p b_a b_isKnown b_answers b_adjacent b_labels b_present b_coming b_cells b_reach, sLa r g_p g_k] : List ZW).flatten)) rfl trivial ?_
            by_cases hc12 : u8 < v3
            · rw [if_pos hc12] at h
              refine Go.br zk_X0_layOut rfl rfl (fun _ => ?_) (fun q => absurd hc12 q)
              refine Go.blk zk_X0_layOut [0, 0, 0, 0, 0, 0, 4, 0, 0, 0] (z' := (150, [some (.ref b_p), some (.ref g_p), some (.int v2), some (.int v3), some (.int v4), some (.int v5), some (.int v6), some (.int v7), some (.int v8), some (.int u7), some (.int u8), none], [.int v7, .ref g_p, .int (((u8 * v2) + u7) * (zkin g_k))], ([sBk sgp b_p b_a b_isKnown b_answers b_adjacent b_labels b_present b_coming b_cells b_reach, sLa r g_p g_k] : List ZW).flatten)) rfl ⟨rfl, trivial⟩ ?_
              obtain ⟨u13, hu13, h⟩ := z_bind h
              refine Go.vs zk_X0_layOut zm_X6_neighbourT [1] [0] 0 6 2 (S := [sBk sgp b_p b_a b_isKnown b_answers b_adjacent b_labels b_present b_coming b_cells b_reach, sLa r g_p g_k]) (S2 := [sBk sgp b_p b_a b_isKnown b_answers b_adjacent b_labels b_present b_coming b_cells b_reach, sLa r g_p g_k]) (As := [.int v7]) (rest := [.int (((u8 * v2) + u7) * (zkin g_k))]) (st2 := [.int u13, .int (((u8 * v2) + u7) * (zkin g_k))]) (v1 := some (.int u13)) rfl zl_X0_77 zv_X6_neighbourT ⟨Nat.le_of_ble_eq_true rfl, Nat.le_of_ble_eq_true rfl⟩ rfl (by decide) rfl rfl rfl rfl rfl (Nat.le_of_ble_eq_true rfl) (t_X6_neighbourT hk_g hu13) rfl rfl rfl ?_
              refine Go.blk zk_X0_layOut [0, 0, 0, 0, 0, 0] (z' := (163, [some (.ref b_p), some (.ref g_p), some (.int v2), some (.int v3), some (.int v4), some (.int v5), some (.int v6), some (.int v7), some (.int v8), some (.int u7), some (.int u8), some (.int ((((u8 * v2) + u7) * (zkin g_k)) + u13))], [.int v4, .ref (b_a 1), .int v4, .ref (b_a 1)], ([sBk sgp b_p b_a b_isKnown b_answers b_adjacent b_labels b_present b_coming b_cells b_reach, sLa r g_p g_k] : List ZW).flatten)) rfl ⟨rfl, trivial⟩ ?_
              obtain ⟨x14, hx14, h⟩ := z_bind h
              refine Go.iald zk_X0_layOut 2 rfl rfl rfl hx14 ?_
              refine Go.blk zk_X0_layOut [0, 0, 0, 0] (z' := (169, [some (.ref b_p), some (.ref g_p), some (.int v2), some (.int v3), some (.int v4), some (.int v5), some (.int v6), some (.int v7), some (.int v8), some (.int u7), some (.int u8), some (.int ((((u8 * v2) + u7) * (zkin g_k)) + u13))], [.int (x14 ||| (1 <<< (((((u8 * v2) + u7) * (zkin g_k)) + u13) &&& 31))), .int v4, .ref (b_a 1)], ([sBk sgp b_p b_a b_isKnown b_answers b_adjacent b_labels b_present b_coming b_cells b_reach, sLa r g_p g_k] : List ZW).flatten)) rfl trivial ?_
              obtain ⟨t15, ht15, h⟩ := z_bind h
              refine Go.iast zk_X0_layOut 2 rfl rfl rfl ht15 ?_
              refine Go.eqz (z2 := (170, [some (.ref b_p), some (.ref g_p), some (.int v2), some (.int v3), some (.int v4), some (.int v5), some (.int v6), some (.int v7), some (.int v8), some (.int u7), some (.int u8), some (.int ((((u8 * v2) + u7) * (zkin g_k)) + u13))], [], ([sBk sgp b_p b_a b_isKnown b_answers t15 b_labels b_present b_coming b_cells b_reach, sLa r g_p g_k] : List ZW).flatten)) rfl ?_
              refine Go.blk zk_X0_layOut [0, 0] (z' := (80, [some (.ref b_p), some (.ref g_p), some (.int v2), some (.int v3), some (.int v4), some (.int v5), some (.int v6), some (.int v7), some (.int (v8 + 1)), some (.int u7), some (.int u8), some (.int ((((u8 * v2) + u7) * (zkin g_k)) + u13))], [], ([sBk sgp b_p b_a b_isKnown b_answers t15 b_labels b_present b_coming b_cells b_reach, sLa r g_p g_k] : List ZW).flatten)) rfl trivial ?_
              refine Go.weak (L := [some (.ref b_p), some (.ref g_p), some (.int v2), some (.int v3), some (.int v4), some (.int v5), some (.int v6), some (.int v7), some (.int (v8 + 1)), some (.int u7), some (.int u8), some (.int ((((u8 * v2) + u7) * (zkin g_k)) + u13))]) (L' := [some (.ref b_p), some (.ref g_p), some (.int v2), some (.int v3), some (.int v4), some (.int v5), some (.int v6), some (.int v7), some (.int (v8 + 1)), none, none, none]) (And.intro rfl (And.intro rfl (And.intro rfl (And.intro rfl (And.intro rfl (And.intro rfl (And.intro rfl (And.intro rfl (And.intro rfl (trivial)))))))))) ?_
              exact ih _ _ _ h kk
            · rw [if_neg hc12] at h
              refine Go.br zk_X0_layOut rfl rfl (fun q => absurd q hc12) (fun _ => ?_)
              refine Go.blk zk_X0_layOut [0, 0] (z' := (80, [some (.ref b_p), some (.ref g_p), some (.int v2), some (.int v3), some (.int v4), some (.int v5), some (.int v6), some (.int v7), some (.int (v8 + 1)), some (.int u7), some (.int u8), none], [], ([sBk sgp b_p b_a b_isKnown b_answers b_adjacent b_labels b_present b_coming b_cells b_reach, sLa r g_p g_k] : List ZW).flatten)) rfl trivial ?_
              refine Go.weak (L := [some (.ref b_p), some (.ref g_p), some (.int v2), some (.int v3), some (.int v4), some (.int v5), some (.int v6), some (.int v7), some (.int (v8 + 1)), some (.int u7), some (.int u8), none]) (L' := [some (.ref b_p), some (.ref g_p), some (.int v2), some (.int v3), some (.int v4), some (.int v5), some (.int v6), some (.int v7), some (.int (v8 + 1)), none, none, none]) (And.intro rfl (And.intro rfl (And.intro rfl (And.intro rfl (And.intro rfl (And.intro rfl (And.intro rfl (And.intro rfl (And.intro rfl (trivial)))))))))) ?_
              exact ih _ _ _ h kk
        · rw [if_neg hc10] at h
          refine Go.br zk_X0_layOut rfl rfl (fun q => absurd q hc10) (fun _ => ?_)
          refine Go.blk zk_X0_layOut [0, 0] (z' := (80, [some (.ref b_p), some (.ref g_p), some (.int v2), some (.int v3), some (.int v4), some (.int v5), some (.int v6), some (.int v7), some (.int (v8 + 1)), some (.int u7), some (.int u8), none], [], ([sBk sgp b_p b_a b_isKnown b_answers b_adjacent b_labels b_present b_coming b_cells b_reach, sLa r g_p g_k] : List ZW).flatten)) rfl trivial ?_
          refine Go.weak (L := [some (.ref b_p), some (.ref g_p), some (.int v2), some (.int v3), some (.int v4), some (.int v5), some (.int v6), some (.int v7), some (.int (v8 + 1)), some (.int u7), some (.int u8), none]) (L' := [some (.ref b_p), some (.ref g_p), some (.int v2), some (.int v3), some (.int v4), some (.int v5), some (.int v6), some (.int v7), some (.int (v8 + 1)), none, none, none]) (And.intro rfl (And.intro rfl (And.intro rfl (And.intro rfl (And.intro rfl (And.intro rfl (And.intro rfl (And.intro rfl (And.intro rfl (trivial)))))))))) ?_
          exact ih _ _ _ h kk
    · rw [if_neg hc6] at h
      refine Go.br zk_X0_layOut rfl rfl (fun q => absurd q hc6) (fun _ => ?_)
      obtain rfl := Option.some.inj h
      refine Go.weak (L := [some (.ref b_p), some (.ref g_p), some (.int v2), some (.int v3), some (.int v4), some (.int v5), some (.int v6), some (.int v7), some (.int v8), none, none, none]) (L' := [some (.ref b_p), some (.ref g_p), some (.int v2), some (.int v3), some (.int v4), some (.int v5), some (.int v6), some (.int v7), none, none, none, none]) (And.intro rfl (And.intro rfl (And.intro rfl (And.intro rfl (And.intro rfl (And.intro rfl (And.intro rfl (And.intro rfl (trivial))))))))) ?_
      exact kk
set_option maxHeartbeats 4000000 in
set_option maxRecDepth 100000 in
theorem t_X0_layOut_L51 {N : Nat} {b_p : Nat} {b_a : Nat → Nat} {b_isKnown : List Int32} {b_answers : Nat} {b_labels : List Int32} {b_present : Nat} {b_coming : Nat} {b_cells : Int32} {b_reach : Int32} {g_p : Nat} {g_k : Nat} {sgp : Nat → Nat} {v2 : Int32} {v3 : Int32} {v5 : Int32} {v6 : Int32} (hk_g : g_k < 3) {Q : Option Value → ZW → Prop} : ∀ (fu : Nat) (v4 : Int32) (v7 : Int32) (b_adjacent : List Int32) (e : Int32 × (List Int32)), f_X0_layOut_L51 N v2 v3 v5 v6 b_cells g_k fu v4 v7 b_adjacent = some e → (Go l D r (z_rl xs) zm_X0_layOut 0 0 (185, [some (.ref b_p), some (.ref g_p), some (.int v2), some (.int v3), some (.int e.1), some (.int v5), some (.int v6), none, none, none, none, none], [], ([sBk sgp b_p b_a b_isKnown b_answers e.2 b_labels b_present b_coming b_cells b_reach, sLa r g_p g_k] : List ZW).flatten) Q) → Go l D r (z_rl xs) zm_X0_layOut 0 0 (51, [some (.ref b_p), some (.ref g_p), some (.int v2), some (.int v3), some (.int v4), some (.int v5), some (.int v6), some (.int v7), none, none, none, none], [], ([sBk sgp b_p b_a b_isKnown b_answers b_adjacent b_labels b_present b_coming b_cells b_reach, sLa r g_p g_k] : List ZW).flatten) Q := by
  intro fu
  induction fu with
  | zero =>
    intro v4 v7 b_adjacent e h
    simp only [f_X0_layOut_L51, reduceCtorEq] at h
  | succ fu ih =>
    intro v4 v7 b_adjacent e h kk
    rw [f_X0_layOut_L51] at h
    refine Go.blk zk_X0_layOut [0, 0, 4] (z' := (57, [some (.ref b_p), some (.ref g_p), some (.int v2), some (.int v3), some (.int v4), some (.int v5), some (.int v6), some (.int v7), none, none, none, none], [.int (zkin g_k), .int v7], ([sBk sgp b_p b_a b_isKnown b_answers b_adjacent b_labels b_present b_coming b_cells b_reach, sLa r g_p g_k] : List ZW).flatten)) rfl ⟨rfl, trivial⟩ ?_
    by_cases hc3 : v7 < (zkin g_k)
    · rw [if_pos hc3] at h
      refine Go.br zk_X0_layOut rfl rfl (fun _ => ?_) (fun q => absurd hc3 q)
      refine Go.blk zk_X0_layOut [0, 0, 0] (z' := (66, [some (.ref b_p), some (.ref g_p), some (.int v2), some (.int v3), some (.int v4), some (.int v5), some (.int v6), some (.int v7), none, none, none, none], [.int b_cells, .int v4], ([sBk sgp b_p b_a b_isKnown b_answers b_adjacent b_labels b_present b_coming b_cells b_reach, sLa r g_p g_k] : List ZW).flatten)) rfl ⟨rfl, trivial⟩ ?_
      by_cases hc4 : v4 < b_cells
      · rw [if_pos hc4] at h
        refine Go.br zk_X0_layOut rfl rfl (fun _ => ?_) (fun q => absurd hc4 q)
        refine Go.blk zk_X0_layOut [0, 0, 0, 0] (z' := (76, [some (.ref b_p), some (.ref g_p), some (.int v2), some (.int v3), some (.int v4), some (.int v5), some (.int v6), some (.int v7), none, none, none, none], [.int 0, .int v4, .ref (b_a 1)], ([sBk sgp b_p b_a b_isKnown b_answers b_adjacent b_labels b_present b_coming b_cells b_reach, sLa r g_p g_k] : List ZW).flatten)) rfl ⟨rfl, trivial⟩ ?_
        obtain ⟨t5, ht5, h⟩ := z_bind h
        refine Go.iast zk_X0_layOut 2 rfl rfl rfl ht5 ?_
        refine Go.eqz (z2 := (77, [some (.ref b_p), some (.ref g_p), some (.int v2), some (.int v3), some (.int v4), some (.int v5), some (.int v6), some (.int v7), none, none, none, none], [], ([sBk sgp b_p b_a b_isKnown b_answers t5 b_labels b_present b_coming b_cells b_reach, sLa r g_p g_k] : List ZW).flatten)) rfl ?_
        refine Go.blk zk_X0_layOut [0, 0] (z' := (80, [some (.ref b_p), some (.ref g_p), some (.int v2), some (.int v3), some (.int v4), some (.int v5), some (.int v6), some (.int v7), some (.int 0), none, none, none], [], ([sBk sgp b_p b_a b_isKnown b_answers t5 b_labels b_present b_coming b_cells b_reach, sLa r g_p g_k] : List ZW).flatten)) rfl trivial ?_
        obtain ⟨e16, he16, h⟩ := z_bind h
        refine t_X0_layOut_L80 hk_g N _ _ _ he16 ?_
        refine Go.blk zk_X0_layOut [0, 0, 0] (z' := (51, [some (.ref b_p), some (.ref g_p), some (.int v2), some (.int v3), some (.int (v4 + 1)), some (.int v5), some (.int v6), some (.int (v7 + 1)), none, none, none, none], [], ([sBk sgp b_p b_a b_isKnown b_answers e16 b_labels b_present b_coming b_cells b_reach, sLa r g_p g_k] : List ZW).flatten)) rfl trivial ?_
        exact ih _ _ _ _ h kk
      · rw [if_neg hc4] at h
        refine Go.br zk_X0_layOut rfl rfl (fun q => absurd q hc4) (fun _ => ?_)
        obtain rfl := Option.some.inj h
        refine Go.weak (L := [some (.ref b_p), some (.ref g_p), some (.int v2), some (.int v3), some (.int v4), some (.int v5), some (.int v6), some (.int v7), none, none, none, none]) (L' := [some (.ref b_p), some (.ref g_p), some (.int v2), some (.int v3), some (.int v4), some (.int v5), some (.int v6), none, none, none, none, none]) (And.intro rfl (And.intro rfl (And.intro rfl (And.intro rfl (And.intro rfl (And.intro rfl (And.intro rfl (trivial)))))))) ?_
        exact kk
    · rw [if_neg hc3] at h
      refine Go.br zk_X0_layOut rfl rfl (fun q => absurd q hc3) (fun _ => ?_)
      obtain rfl := Option.some.inj h
      refine Go.weak (L := [some (.ref b_p), some (.ref g_p), some (.int v2), some (.int v3), some (.int v4), some (.int v5), some (.int v6), some (.int v7), none, none, none, none]) (L' := [some (.ref b_p), some (.ref g_p), some (.int v2), some (.int v3), some (.int v4), some (.int v5), some (.int v6), none, none, none, none, none]) (And.intro rfl (And.intro rfl (And.intro rfl (And.intro rfl (And.intro rfl (And.intro rfl (And.intro rfl (trivial)))))))) ?_
      exact kk
set_option maxHeartbeats 4000000 in
set_option maxRecDepth 100000 in
theorem t_X0_layOut_L42 {N : Nat} {b_p : Nat} {b_a : Nat → Nat} {b_isKnown : List Int32} {b_answers : Nat} {b_labels : List Int32} {b_present : Nat} {b_coming : Nat} {b_cells : Int32} {b_reach : Int32} {g_p : Nat} {g_k : Nat} {sgp : Nat → Nat} {v2 : Int32} {v3 : Int32} {v5 : Int32} (hk_g : g_k < 3) {Q : Option Value → ZW → Prop} : ∀ (fu : Nat) (v4 : Int32) (v6 : Int32) (b_adjacent : List Int32) (e : Int32 × (List Int32)), f_X0_layOut_L42 N v2 v3 v5 b_cells g_k fu v4 v6 b_adjacent = some e → (Go l D r (z_rl xs) zm_X0_layOut 0 0 (191, [some (.ref b_p), some (.ref g_p), some (.int v2), some (.int v3), some (.int e.1), some (.int v5), none, none, none, none, none, none], [], ([sBk sgp b_p b_a b_isKnown b_answers e.2 b_labels b_present b_coming b_cells b_reach, sLa r g_p g_k] : List ZW).flatten) Q) → Go l D r (z_rl xs) zm_X0_layOut 0 0 (42, [some (.ref b_p), some (.ref g_p), some (.int v2), some (.int v3), some (.int v4), some (.int v5), some (.int v6), none, none, none, none, none], [], ([sBk sgp b_p b_a b_isKnown b_answers b_adjacent b_labels b_present b_coming b_cells b_reach, sLa r g_p g_k] : List ZW).flatten) Q := by
  intro fu
  induction fu with
  | zero =>
    intro v4 v6 b_adjacent e h
    simp only [f_X0_layOut_L42, reduceCtorEq] at h
  | succ fu ih =>
    intro v4 v6 b_adjacent e h kk
    rw [f_X0_layOut_L42] at h
    refine Go.blk zk_X0_layOut [0, 0] (z' := (45, [some (.ref b_p), some (.ref g_p), some (.int v2), some (.int v3), some (.int v4), some (.int v5), some (.int v6), none, none, none, none, none], [.int v2, .int v6], ([sBk sgp b_p b_a b_isKnown b_answers b_adjacent b_labels b_present b_coming b_cells b_reach, sLa r g_p g_k] : List ZW).flatten)) rfl trivial ?_
    by_cases hc2 : v6 < v2
    · rw [if_pos hc2] at h
      refine Go.br zk_X0_layOut rfl rfl (fun _ => ?_) (fun q => absurd hc2 q)
      refine Go.blk zk_X0_layOut [0, 0] (z' := (51, [some (.ref b_p), some (.ref g_p), some (.int v2), some (.int v3), some (.int v4), some (.int v5), some (.int v6), some (.int 0), none, none, none, none], [], ([sBk sgp b_p b_a b_isKnown b_answers b_adjacent b_labels b_present b_coming b_cells b_reach, sLa r g_p g_k] : List ZW).flatten)) rfl trivial ?_
      obtain ⟨e17, he17, h⟩ := z_bind h
      refine t_X0_layOut_L51 hk_g N _ _ _ _ he17 ?_
      refine Go.blk zk_X0_layOut [0, 0] (z' := (42, [some (.ref b_p), some (.ref g_p), some (.int v2), some (.int v3), some (.int e17.1), some (.int v5), some (.int (v6 + 1)), none, none, none, none, none], [], ([sBk sgp b_p b_a b_isKnown b_answers e17.2 b_labels b_present b_coming b_cells b_reach, sLa r g_p g_k] : List ZW).flatten)) rfl trivial ?_
      exact ih _ _ _ _ h kk
    · rw [if_neg hc2] at h
      refine Go.br zk_X0_layOut rfl rfl (fun q => absurd q hc2) (fun _ => ?_)
      obtain rfl := Option.some.inj h
      refine Go.weak (L := [some (.ref b_p), some (.ref g_p), some (.int v2), some (.int v3), some (.int v4), some (.int v5), some (.int v6), none, none, none, none, none]) (L' := [some (.ref b_p), some (.ref g_p), some (.int v2), some (.int v3), some (.int v4), some (.int v5), none, none, none, none, none, none]) (And.intro rfl (And.intro rfl (And.intro rfl (And.intro rfl (And.intro rfl (And.intro rfl (trivial))))))) ?_
      exact kk
set_option maxHeartbeats 4000000 in
set_option maxRecDepth 100000 in
theorem t_X0_layOut_L33 {N : Nat} {b_p : Nat} {b_a : Nat → Nat} {b_isKnown : List Int32} {b_answers : Nat} {b_labels : List Int32} {b_present : Nat} {b_coming : Nat} {b_cells : Int32} {b_reach : Int32} {g_p : Nat} {g_k : Nat} {sgp : Nat → Nat} {v2 : Int32} {v3 : Int32} (hk_g : g_k < 3) {Q : Option Value → ZW → Prop} : ∀ (fu : Nat) (v4 : Int32) (v5 : Int32) (b_adjacent : List Int32) (e : (List Int32)), f_X0_layOut_L33 N v2 v3 b_cells g_k fu v4 v5 b_adjacent = some e → (Go l D r (z_rl xs) zm_X0_layOut 0 0 (197, [none, none, none, none, none, none, none, none, none, none, none, none], [], ([sBk sgp b_p b_a b_isKnown b_answers e b_labels b_present b_coming b_cells b_reach, sLa r g_p g_k] : List ZW).flatten) Q) → Go l D r (z_rl xs) zm_X0_layOut 0 0 (33, [some (.ref b_p), some (.ref g_p), some (.int v2), some (.int v3), some (.int v4), some (.int v5), none, none, none, none, none, none], [], ([sBk sgp b_p b_a b_isKnown b_answers b_adjacent b_labels b_present b_coming b_cells b_reach, sLa r g_p g_k] : List ZW).flatten) Q := by
  intro fu
  induction fu with
  | zero =>
    intro v4 v5 b_adjacent e h
    simp only [f_X0_layOut_L33, reduceCtorEq] at h
  | succ fu ih =>
    intro v4 v5 b_adjacent e h kk
    rw [f_X0_layOut_L33] at h
    refine Go.blk zk_X0_layOut [0, 0] (z' := (36, [some (.ref b_p), some (.ref g_p), some (.int v2), some (.int v3), some (.int v4), some (.int v5), none, none, none, none, none, none], [.int v3, .int v5], ([sBk sgp b_p b_a b_isKnown b_answers b_adjacent b_labels b_present b_coming b_cells b_reach, sLa r g_p g_k] : List ZW).flatten)) rfl trivial ?_
    by_cases hc1 : v5 < v3
    · rw [if_pos hc1] at h
      refine Go.br zk_X0_layOut rfl rfl (fun _ => ?_) (fun q => absurd hc1 q)
      refine Go.blk zk_X0_layOut [0, 0] (z' := (42, [some (.ref b_p), some (.ref g_p), some (.int v2), some (.int v3), some (.int v4), some (.int v5), some (.int 0), none, none, none, none, none], [], ([sBk sgp b_p b_a b_isKnown b_answers b_adjacent b_labels b_present b_coming b_cells b_reach, sLa r g_p g_k] : List ZW).flatten)) rfl trivial ?_
      obtain ⟨e18, he18, h⟩ := z_bind h
      refine t_X0_layOut_L42 hk_g N _ _ _ _ he18 ?_
      refine Go.blk zk_X0_layOut [0, 0] (z' := (33, [some (.ref b_p), some (.ref g_p), some (.int v2), some (.int v3), some (.int e18.1), some (.int (v5 + 1)), none, none, none, none, none, none], [], ([sBk sgp b_p b_a b_isKnown b_answers e18.2 b_labels b_present b_coming b_cells b_reach, sLa r g_p g_k] : List ZW).flatten)) rfl trivial ?_
      exact ih _ _ _ _ h kk
    · rw [if_neg hc1] at h
      refine Go.br zk_X0_layOut rfl rfl (fun q => absurd q hc1) (fun _ => ?_)
      obtain rfl := Option.some.inj h
      refine Go.weak (L := [some (.ref b_p), some (.ref g_p), some (.int v2), some (.int v3), some (.int v4), some (.int v5), none, none, none, none, none, none]) (L' := [none, none, none, none, none, none, none, none, none, none, none, none]) (trivial) ?_
      exact kk
set_option maxHeartbeats 4000000 in
set_option maxRecDepth 100000 in
theorem t_X0_layOut {N : Nat} {b_p : Nat} {b_a : Nat → Nat} {b_isKnown : List Int32} {b_answers : Nat} {b_adjacent : List Int32} {b_labels : List Int32} {b_present : Nat} {b_coming : Nat} {b_cells : Int32} {b_reach : Int32} {g_p : Nat} {g_k : Nat} {sgp : Nat → Nat} {i2 : Int32} {i3 : Int32} {u : (List Int32) × Int32 × Int32} (hk_g : g_k < 3) (h : f_X0_layOut N i2 i3 b_adjacent g_k = some u) : Ct l D r (z_rl xs) zm_X0_layOut 0 0 [.ref b_p, .ref g_p, .int i2, .int i3] ([sBk sgp b_p b_a b_isKnown b_answers b_adjacent b_labels b_present b_coming b_cells b_reach, sLa r g_p g_k] : List ZW).flatten (fun v' w' => v' = none ∧ w' = ([sBk sgp b_p b_a b_isKnown b_answers u.1 b_labels b_present b_coming u.2.1 u.2.2, sLa r g_p g_k] : List ZW).flatten) := by
  refine Ct.of (by decide +kernel) rfl (fun q => absurd q (by decide)) (Nat.le_of_ble_eq_true rfl) ?_
  refine Go.eqz (z2 := (0, [some (.ref b_p), some (.ref g_p), some (.int i2), some (.int i3), none, none, none, none, none, none, none, none], [], ([sBk sgp b_p b_a b_isKnown b_answers b_adjacent b_labels b_present b_coming b_cells b_reach, sLa r g_p g_k] : List ZW).flatten)) rfl ?_
  unfold f_X0_layOut at h
  refine Go.blk zk_X0_layOut [0, 0, 0, 0, 0, 4, 0, 0] (z' := (11, [some (.ref b_p), some (.ref g_p), some (.int i2), some (.int i3), none, none, none, none, none, none, none, none], [.int 20, .int ((i2 * i3) * (zkin g_k)), .ref b_p], ([sBk sgp b_p b_a b_isKnown b_answers b_adjacent b_labels b_present b_coming b_cells b_reach, sLa r g_p g_k] : List ZW).flatten)) rfl ⟨rfl, trivial⟩ ?_
  refine Go.mmin zk_X0_layOut rfl zl_X0_35 ⟨Nat.le_of_ble_eq_true rfl, Nat.le_of_ble_eq_true rfl⟩ zw_min ?_
  refine Go.put zk_X0_layOut 0 rfl rfl rfl rfl rfl (Nat.le_of_ble_eq_true rfl) ?_
  refine Go.eqz (z2 := (17, [some (.ref b_p), some (.ref g_p), some (.int i2), some (.int i3), none, none, none, none, none, none, none, none], [], ([sBk sgp b_p b_a b_isKnown b_answers b_adjacent b_labels b_present b_coming (if 20 < ((i2 * i3) * (zkin g_k)) then 20 else (i2 * i3) * (zkin g_k)) b_reach, sLa r g_p g_k] : List ZW).flatten)) rfl ?_
  refine Go.blk zk_X0_layOut [0, 0, 0, 4, 0] (z' := (24, [some (.ref b_p), some (.ref g_p), some (.int i2), some (.int i3), none, none, none, none, none, none, none, none], [.int (i2 * (zkin g_k)), .ref b_p], ([sBk sgp b_p b_a b_isKnown b_answers b_adjacent b_labels b_present b_coming (if 20 < ((i2 * i3) * (zkin g_k)) then 20 else (i2 * i3) * (zkin g_k)) b_reach, sLa r g_p g_k] : List ZW).flatten)) rfl ⟨rfl, trivial⟩ ?_
  refine Go.put zk_X0_layOut 0 rfl rfl rfl rfl rfl (Nat.le_of_ble_eq_true rfl) ?_
  refine Go.eqz (z2 := (27, [some (.ref b_p), some (.ref g_p), some (.int i2), some (.int i3), none, none, none, none, none, none, none, none], [], ([sBk sgp b_p b_a b_isKnown b_answers b_adjacent b_labels b_present b_coming (if 20 < ((i2 * i3) * (zkin g_k)) then 20 else (i2 * i3) * (zkin g_k)) (i2 * (zkin g_k)), sLa r g_p g_k] : List ZW).flatten)) rfl ?_
  refine Go.blk zk_X0_layOut [0, 0, 0, 0] (z' := (33, [some (.ref b_p), some (.ref g_p), some (.int i2), some (.int i3), some (.int 0), some (.int 0), none, none, none, none, none, none], [], ([sBk sgp b_p b_a b_isKnown b_answers b_adjacent b_labels b_present b_coming (if 20 < ((i2 * i3) * (zkin g_k)) then 20 else (i2 * i3) * (zkin g_k)) (i2 * (zkin g_k)), sLa r g_p g_k] : List ZW).flatten)) rfl trivial ?_
  obtain ⟨e19, he19, h⟩ := z_bind h
  refine t_X0_layOut_L33 hk_g N _ _ _ _ he19 ?_
  obtain rfl := Option.some.inj h
  exact Go.vret zk_X0_layOut rfl rfl ⟨rfl, rfl⟩
set_option maxHeartbeats 4000000 in
set_option maxRecDepth 100000 in
theorem t_X0_decide {N : Nat} {b_p : Nat} {b_a : Nat → Nat} {b_isKnown : List Int32} {b_adjacent : List Int32} {b_labels : List Int32} {b_present : Nat} {b_coming : Nat} {b_cells : Int32} {b_reach : Int32} {x_p : Nat} {x_v : List Int32} {sf_a : Nat → Nat → Nat} {sf_c : Nat → Nat} {sf_v : Nat → List Int64 × Int32 × List Int32} {sgp : Nat → Nat} {i1 : Int32} {i2 : Int32} {i3 : Int32} {i4 : Int32} {u : (List Int32) × (List Int32) × (Nat → List Int64 × Int32 × List Int32)}  (h : f_X0_decide N i1 i2 i3 i4 b_adjacent b_labels b_present b_coming b_reach x_v sf_v = some u) : Ct l D r (z_rl xs) zm_X0_decide 0 0 [.ref b_p, .int i1, .int i2, .int i3, .int i4] ([sBk sgp b_p b_a b_isKnown x_p b_adjacent b_labels b_present b_coming b_cells b_reach, sAr x_p x_v, sFs (List.range 2) sgp sf_a sf_c sf_v] : List ZW).flatten (fun v' w' => v' = none ∧ w' = ([sBk sgp b_p b_a b_isKnown x_p b_adjacent u.1 b_present b_coming b_cells b_reach, sAr x_p u.2.1, sFs (List.range 2) sgp sf_a sf_c u.2.2] : List ZW).flatten) := by
  refine Ct.of (by decide +kernel) rfl (fun q => absurd q (by decide)) (Nat.le_of_ble_eq_true rfl) ?_
  refine Go.eqz (z2 := (0, [some (.ref b_p), some (.int i1), some (.int i2), some (.int i3), some (.int i4), none, none], [], ([sBk sgp b_p b_a b_isKnown x_p b_adjacent b_labels b_present b_coming b_cells b_reach, sAr x_p x_v, sFs (List.range 2) sgp sf_a sf_c sf_v] : List ZW).flatten)) rfl ?_
  unfold f_X0_decide at h
  refine Go.blk zk_X0_decide [0, 0, 0, 0, 0] (z' := (7, [some (.ref b_p), some (.int i1), some (.int i2), some (.int i3), some (.int i4), none, none], [.int (i2 - b_reach), .int 0], ([sBk sgp b_p b_a b_isKnown x_p b_adjacent b_labels b_present b_coming b_cells b_reach, sAr x_p x_v, sFs (List.range 2) sgp sf_a sf_c sf_v] : List ZW).flatten)) rfl ⟨rfl, trivial⟩ ?_
  refine Go.mmax zk_X0_decide rfl zl_X0_41 ⟨Nat.le_of_ble_eq_true rfl, Nat.le_of_ble_eq_true rfl⟩ zw_max ?_
  refine Go.blk zk_X0_decide [0, 0, 0, 0, 0] (z' := (18, [some (.ref b_p), some (.int i1), some (.int i2), some (.int i3), some (.int i4), some (.int (if 0 < (i2 - b_reach) then i2 - b_reach else 0)), none], [.int i1, .ref (sgp b_present), .ref b_p], ([sBk sgp b_p b_a b_isKnown x_p b_adjacent b_labels b_present b_coming b_cells b_reach, sAr x_p x_v, sFs (List.range 2) sgp sf_a sf_c sf_v] : List ZW).flatten)) rfl ⟨rfl, trivial⟩ ?_
  by_cases hj6 : b_present < 2
  case neg => rw [if_neg hj6] at h; cases h
  rw [if_pos hj6] at h
  refine Go.perm (w2 := ([sBk sgp b_p b_a b_isKnown x_p b_adjacent b_labels b_present b_coming b_cells b_reach, sAr x_p x_v, sSg (sgp b_present) (sf_a b_present) ((sf_v b_present).1) (sf_c b_present) ((sf_v b_present).2.1), sAr (sf_c b_present) ((sf_v b_present).2.2), sFs (List.erase (List.range 2) b_present) sgp sf_a sf_c sf_v] : List ZW).flatten) (z_focP (n := 5) (A := [sBk sgp b_p b_a b_isKnown x_p b_adjacent b_labels b_present b_coming b_cells b_reach, sAr x_p x_v]) (B := []) (E := [sSg (sgp b_present) (sf_a b_present) ((sf_v b_present).1) (sf_c b_present) ((sf_v b_present).2.1), sAr (sf_c b_present) ((sf_v b_present).2.2)]) (X2 := sFs (List.erase (List.range 2) b_present) sgp sf_a sf_c sf_v) (z_foFs (List.mem_range.mpr hj6)) [0, 1, 2, 3, 4] rfl rfl (by decide) rfl) ?_
  obtain ⟨u7, hu7, h⟩ := z_bind h
  refine Go.vs zk_X0_decide zm_X7_sightAt [2] [0, 1, 3, 4] 0 7 5 (S := [sBk sgp b_p b_a b_isKnown x_p b_adjacent b_labels b_present b_coming b_cells b_reach, sAr x_p x_v, sSg (sgp b_present) (sf_a b_present) ((sf_v b_present).1) (sf_c b_present) ((sf_v b_present).2.1), sAr (sf_c b_present) ((sf_v b_present).2.2), sFs (List.erase (List.range 2) b_present) sgp sf_a sf_c sf_v]) (S2 := [sBk sgp b_p b_a b_isKnown x_p b_adjacent b_labels b_present b_coming b_cells b_reach, sAr x_p x_v, sSg (sgp b_present) (sf_a b_present) ((sf_v b_present).1) (sf_c b_present) ((sf_v b_present).2.1), sAr (sf_c b_present) ((sf_v b_present).2.2), sFs (List.erase (List.range 2) b_present) sgp sf_a sf_c sf_v]) (As := [.int i1]) (rest := [.ref b_p]) (st2 := [.long u7, .ref b_p]) (v1 := some (.long u7)) rfl zl_X0_92 zv_X7_sightAt ⟨Nat.le_of_ble_eq_true rfl, Nat.le_of_ble_eq_true rfl⟩ rfl (by decide) rfl rfl rfl rfl rfl (Nat.le_of_ble_eq_true rfl) (t_X7_sightAt hu7) rfl rfl rfl ?_
  refine Go.perm (w2 := ([sBk sgp b_p b_a b_isKnown x_p b_adjacent b_labels b_present b_coming b_cells b_reach, sAr x_p x_v, sFs (List.range 2) sgp sf_a sf_c sf_v] : List ZW).flatten) (z_focP (n := 5) (A := [sBk sgp b_p b_a b_isKnown x_p b_adjacent b_labels b_present b_coming b_cells b_reach, sAr x_p x_v]) (B := []) (E := [sSg (sgp b_present) (sf_a b_present) ((sf_v b_present).1) (sf_c b_present) ((sf_v b_present).2.1), sAr (sf_c b_present) ((sf_v b_present).2.2)]) (X2 := sFs (List.erase (List.range 2) b_present) sgp sf_a sf_c sf_v) (z_foFs (List.mem_range.mpr hj6)) [0, 1, 2, 3, 4] rfl rfl (by decide) rfl).symm ?_
  refine Go.blk zk_X0_decide [0, 0] (z' := (24, [some (.ref b_p), some (.int i1), some (.int i2), some (.int i3), some (.int i4), some (.int (if 0 < (i2 - b_reach) then i2 - b_reach else 0)), none], [.int i2, .int (if 0 < (i2 - b_reach) then i2 - b_reach else 0), .long u7, .ref b_p], ([sBk sgp b_p b_a b_isKnown x_p b_adjacent b_labels b_present b_coming b_cells b_reach, sAr x_p x_v, sFs (List.range 2) sgp sf_a sf_c sf_v] : List ZW).flatten)) rfl trivial ?_
  obtain ⟨u8, hu8, h⟩ := z_bind h
  refine Go.vs zk_X0_decide zm_X0_readLabels [0] [1, 2] 0 0 3 (S := [sBk sgp b_p b_a b_isKnown x_p b_adjacent b_labels b_present b_coming b_cells b_reach, sAr x_p x_v, sFs (List.range 2) sgp sf_a sf_c sf_v]) (S2 := [sBk sgp b_p b_a b_isKnown x_p b_adjacent u8 b_present b_coming b_cells b_reach, sAr x_p x_v, sFs (List.range 2) sgp sf_a sf_c sf_v]) (As := [.long u7, .int (if 0 < (i2 - b_reach) then i2 - b_reach else 0), .int i2]) (rest := []) (st2 := []) (v1 := none) rfl zl_X0_96 zv_X0_readLabels ⟨Nat.le_of_ble_eq_true rfl, Nat.le_of_ble_eq_true rfl⟩ rfl (by decide) rfl rfl rfl rfl rfl (Nat.le_of_ble_eq_true rfl) (t_X0_readLabels hu8) rfl rfl rfl ?_
  refine Go.blk zk_X0_decide [0, 0, 0, 0] (z' := (33, [some (.ref b_p), some (.int i1), some (.int i2), some (.int i3), some (.int i4), some (.int (if 0 < (i2 - b_reach) then i2 - b_reach else 0)), none], [.int 0, .int i2, .ref (b_a 2)], ([sBk sgp b_p b_a b_isKnown x_p b_adjacent u8 b_present b_coming b_cells b_reach, sAr x_p x_v, sFs (List.range 2) sgp sf_a sf_c sf_v] : List ZW).flatten)) rfl ⟨rfl, trivial⟩ ?_
  obtain ⟨t9, ht9, h⟩ := z_bind h
  refine Go.iast zk_X0_decide 3 rfl rfl rfl ht9 ?_
  refine Go.eqz (z2 := (34, [some (.ref b_p), some (.int i1), some (.int i2), some (.int i3), some (.int i4), some (.int (if 0 < (i2 - b_reach) then i2 - b_reach else 0)), none], [], ([sBk sgp b_p b_a b_isKnown x_p b_adjacent t9 b_present b_coming b_cells b_reach, sAr x_p x_v, sFs (List.range 2) sgp sf_a sf_c sf_v] : List ZW).flatten)) rfl ?_
  refine Go.blk zk_X0_decide [0, 0] (z' := (36, [some (.ref b_p), some (.int i1), some (.int i2), some (.int i3), some (.int i4), some (.int (if 0 < (i2 - b_reach) then i2 - b_reach else 0)), none], [.int 1, .int i3], ([sBk sgp b_p b_a b_isKnown x_p b_adjacent t9 b_present b_coming b_cells b_reach, sAr x_p x_v, sFs (List.range 2) sgp sf_a sf_c sf_v] : List ZW).flatten)) rfl trivial ?_
  by_cases hc10 : i3 = 1
  · rw [if_pos hc10] at h
    refine Go.br zk_X0_decide rfl rfl (fun _ => ?_) (fun q => absurd hc10 q)
    refine Go.blk zk_X0_decide [0, 0, 0] (z' := (43, [some (.ref b_p), some (.int i1), some (.int i2), some (.int i3), some (.int i4), some (.int (if 0 < (i2 - b_reach) then i2 - b_reach else 0)), none], [.int i2, .int (if 0 < (i2 - b_reach) then i2 - b_reach else 0), .ref b_p], ([sBk sgp b_p b_a b_isKnown x_p b_adjacent t9 b_present b_coming b_cells b_reach, sAr x_p x_v, sFs (List.range 2) sgp sf_a sf_c sf_v] : List ZW).flatten)) rfl trivial ?_
    obtain ⟨u11, hu11, h⟩ := z_bind h
    refine Go.vs zk_X0_decide zm_X0_join [0] [1, 2] 0 0 3 (S := [sBk sgp b_p b_a b_isKnown x_p b_adjacent t9 b_present b_coming b_cells b_reach, sAr x_p x_v, sFs (List.range 2) sgp sf_a sf_c sf_v]) (S2 := [sBk sgp b_p b_a b_isKnown x_p b_adjacent u11 b_present b_coming b_cells b_reach, sAr x_p x_v, sFs (List.range 2) sgp sf_a sf_c sf_v]) (As := [.int (if 0 < (i2 - b_reach) then i2 - b_reach else 0), .int i2]) (rest := []) (st2 := []) (v1 := none) rfl zl_X0_100 zv_X0_join ⟨Nat.le_of_ble_eq_true rfl, Nat.le_of_ble_eq_true rfl⟩ rfl (by decide) rfl rfl rfl rfl rfl (Nat.le_of_ble_eq_true rfl) (t_X0_join hu11) rfl rfl rfl ?_
    refine Go.blk zk_X0_decide [0, 0, 0] (z' := (50, [some (.ref b_p), some (.int i1), some (.int i2), some (.int i3), some (.int i4), some (.int (if 0 < (i2 - b_reach) then i2 - b_reach else 0)), none], [.int i2, .int (if 0 < (i2 - b_reach) then i2 - b_reach else 0), .ref b_p], ([sBk sgp b_p b_a b_isKnown x_p b_adjacent u11 b_present b_coming b_cells b_reach, sAr x_p x_v, sFs (List.range 2) sgp sf_a sf_c sf_v] : List ZW).flatten)) rfl trivial ?_
    obtain ⟨u12, hu12, h⟩ := z_bind h
    refine Go.vs zk_X0_decide zm_X0_retire [0] [1, 2] 0 0 3 (S := [sBk sgp b_p b_a b_isKnown x_p b_adjacent u11 b_present b_coming b_cells b_reach, sAr x_p x_v, sFs (List.range 2) sgp sf_a sf_c sf_v]) (S2 := [sBk sgp b_p b_a b_isKnown x_p b_adjacent u12.2 b_present b_coming b_cells b_reach, sAr x_p x_v, sFs (List.range 2) sgp sf_a sf_c sf_v]) (As := [.int (if 0 < (i2 - b_reach) then i2 - b_reach else 0), .int i2]) (rest := []) (st2 := [.int u12.1]) (v1 := some (.int u12.1)) rfl zl_X0_104 zv_X0_retire ⟨Nat.le_of_ble_eq_true rfl, Nat.le_of_ble_eq_true rfl⟩ rfl (by decide) rfl rfl rfl rfl rfl (Nat.le_of_ble_eq_true rfl) (t_X0_retire hu12) rfl rfl rfl ?_
    refine Go.blk zk_X0_decide [0, 0] (z' := (57, [some (.ref b_p), some (.int i1), some (.int i2), some (.int i3), some (.int i4), some (.int (if 0 < (i2 - b_reach) then i2 - b_reach else 0)), some (.int u12.1)], [.int u12.1], ([sBk sgp b_p b_a b_isKnown x_p b_adjacent u12.2 b_present b_coming b_cells b_reach, sAr x_p x_v, sFs (List.range 2) sgp sf_a sf_c sf_v] : List ZW).flatten)) rfl trivial ?_
    by_cases hc13 : u12.1 = 0
    · rw [if_pos hc13] at h
      refine Go.br zk_X0_decide rfl rfl (fun _ => ?_) (fun q => absurd hc13 q)
      refine Go.blk zk_X0_decide [0, 0, 0, 0, 0] (z' := (68, [some (.ref b_p), some (.int i1), some (.int i2), some (.int i3), some (.int i4), some (.int (if 0 < (i2 - b_reach) then i2 - b_reach else 0)), some (.int u12.1)], [.int i2, .int (if 0 < (i2 - b_reach) then i2 - b_reach else 0), .ref b_p, .ref (sgp b_coming)], ([sBk sgp b_p b_a b_isKnown x_p b_adjacent u12.2 b_present b_coming b_cells b_reach, sAr x_p x_v, sFs (List.range 2) sgp sf_a sf_c sf_v] : List ZW).flatten)) rfl ⟨rfl, trivial⟩ ?_
      obtain ⟨u14, hu14, h⟩ := z_bind h
      refine Go.vs zk_X0_decide zm_X0_packLabels [0] [1, 2] 0 0 3 (S := [sBk sgp b_p b_a b_isKnown x_p b_adjacent u12.2 b_present b_coming b_cells b_reach, sAr x_p x_v, sFs (List.range 2) sgp sf_a sf_c sf_v]) (S2 := [sBk sgp b_p b_a b_isKnown x_p b_adjacent u12.2 b_present b_coming b_cells b_reach, sAr x_p x_v, sFs (List.range 2) sgp sf_a sf_c sf_v]) (As := [.int (if 0 < (i2 - b_reach) then i2 - b_reach else 0), .int i2]) (rest := [.ref (sgp b_coming)]) (st2 := [.long u14, .ref (sgp b_coming)]) (v1 := some (.long u14)) rfl zl_X0_107 zv_X0_packLabels ⟨Nat.le_of_ble_eq_true rfl, Nat.le_of_ble_eq_true rfl⟩ rfl (by decide) rfl rfl rfl rfl rfl (Nat.le_of_ble_eq_true rfl) (t_X0_packLabels hu14) rfl rfl rfl ?_
      refine Go.blk zk_X0_decide [0, 0, 0, 0] (z' := (77, [some (.ref b_p), some (.int i1), some (.int i2), some (.int i3), some (.int i4), some (.int (if 0 < (i2 - b_reach) then i2 - b_reach else 0)), some (.int u12.1)], [.int i3, .int i1, .ref (sgp b_present), .long u14, .ref (sgp b_coming)], ([sBk sgp b_p b_a b_isKnown x_p b_adjacent u12.2 b_present b_coming b_cells b_reach, sAr x_p x_v, sFs (List.range 2) sgp sf_a sf_c sf_v] : List ZW).flatten)) rfl ⟨rfl, trivial⟩ ?_
      by_cases hj16 : b_coming < 2
      case neg => rw [if_neg hj16] at h; cases h
      rw [if_pos hj16] at h
      refine Go.perm (w2 := ([sBk sgp b_p b_a b_isKnown x_p b_adjacent u12.2 b_present b_coming b_cells b_reach, sAr x_p x_v, sSg (sgp b_coming) (sf_a b_coming) ((sf_v b_coming).1) (sf_c b_coming) ((sf_v b_coming).2.1), sAr (sf_c b_coming) ((sf_v b_coming).2.2), sFs (List.erase (List.range 2) b_coming) sgp sf_a sf_c sf_v] : List ZW).flatten) (z_focP (n := 5) (A := [sBk sgp b_p b_a b_isKnown x_p b_adjacent u12.2 b_present b_coming b_cells b_reach, sAr x_p x_v]) (B := []) (E := [sSg (sgp b_coming) (sf_a b_coming) ((sf_v b_coming).1) (sf_c b_coming) ((sf_v b_coming).2.1), sAr (sf_c b_coming) ((sf_v b_coming).2.2)]) (X2 := sFs (List.erase (List.range 2) b_coming) sgp sf_a sf_c sf_v) (z_foFs (List.mem_range.mpr hj16)) [0, 1, 2, 3, 4] rfl rfl (by decide) rfl) ?_
      by_cases hn18 : b_present = b_coming
      · rw [if_pos hn18] at h; cases h
      rw [if_neg hn18] at h
      refine Go.perm (w2 := ([sBk sgp b_p b_a b_isKnown x_p b_adjacent u12.2 b_present b_coming b_cells b_reach, sAr x_p x_v, sSg (sgp b_coming) (sf_a b_coming) ((sf_v b_coming).1) (sf_c b_coming) ((sf_v b_coming).2.1), sAr (sf_c b_coming) ((sf_v b_coming).2.2), sSg (sgp b_present) (sf_a b_present) ((sf_v b_present).1) (sf_c b_present) ((sf_v b_present).2.1), sAr (sf_c b_present) ((sf_v b_present).2.2), sFs (List.erase (List.erase (List.range 2) b_coming) b_present) sgp sf_a sf_c sf_v] : List ZW).flatten) (z_focP (n := 7) (A := [sBk sgp b_p b_a b_isKnown x_p b_adjacent u12.2 b_present b_coming b_cells b_reach, sAr x_p x_v, sSg (sgp b_coming) (sf_a b_coming) ((sf_v b_coming).1) (sf_c b_coming) ((sf_v b_coming).2.1), sAr (sf_c b_coming) ((sf_v b_coming).2.2)]) (B := []) (E := [sSg (sgp b_present) (sf_a b_present) ((sf_v b_present).1) (sf_c b_present) ((sf_v b_present).2.1), sAr (sf_c b_present) ((sf_v b_present).2.2)]) (X2 := sFs (List.erase (List.erase (List.range 2) b_coming) b_present) sgp sf_a sf_c sf_v) (z_foFs ((List.mem_erase_of_ne hn18).mpr (List.mem_range.mpr hj6))) [0, 1, 2, 3, 4, 5, 6] rfl rfl (by decide) rfl) ?_
      obtain ⟨u19, hu19, h⟩ := z_bind h
      refine Go.vs zk_X0_decide zm_X7_join [2, 4, 3, 5] [0, 1, 6] 0 7 7 (S := [sBk sgp b_p b_a b_isKnown x_p b_adjacent u12.2 b_present b_coming b_cells b_reach, sAr x_p x_v, sSg (sgp b_coming) (sf_a b_coming) ((sf_v b_coming).1) (sf_c b_coming) ((sf_v b_coming).2.1), sAr (sf_c b_coming) ((sf_v b_coming).2.2), sSg (sgp b_present) (sf_a b_present) ((sf_v b_present).1) (sf_c b_present) ((sf_v b_present).2.1), sAr (sf_c b_present) ((sf_v b_present).2.2), sFs (List.erase (List.erase (List.range 2) b_coming) b_present) sgp sf_a sf_c sf_v]) (S2 := [sBk sgp b_p b_a b_isKnown x_p b_adjacent u12.2 b_present b_coming b_cells b_reach, sAr x_p x_v, sSg (sgp b_coming) (sf_a b_coming) u19.1 (sf_c b_coming) u19.2.1, sAr (sf_c b_coming) u19.2.2, sSg (sgp b_present) (sf_a b_present) ((sf_v b_present).1) (sf_c b_present) ((sf_v b_present).2.1), sAr (sf_c b_present) ((sf_v b_present).2.2), sFs (List.erase (List.erase (List.range 2) b_coming) b_present) sgp sf_a sf_c sf_v]) (As := [.long u14, .ref (sgp b_present), .int i1, .int i3]) (rest := []) (st2 := []) (v1 := none) rfl zl_X0_111 zv_X7_join ⟨Nat.le_of_ble_eq_true rfl, Nat.le_of_ble_eq_true rfl⟩ rfl (by decide) rfl rfl rfl rfl rfl (Nat.le_of_ble_eq_true rfl) (t_X7_join hu19) rfl rfl rfl ?_
      refine Go.perm (w2 := ([sBk sgp b_p b_a b_isKnown x_p b_adjacent u12.2 b_present b_coming b_cells b_reach, sAr x_p x_v, sSg (sgp b_coming) (sf_a b_coming) u19.1 (sf_c b_coming) u19.2.1, sAr (sf_c b_coming) u19.2.2, sFs (List.erase (List.range 2) b_coming) sgp sf_a sf_c sf_v] : List ZW).flatten) (z_focP (n := 7) (A := [sBk sgp b_p b_a b_isKnown x_p b_adjacent u12.2 b_present b_coming b_cells b_reach, sAr x_p x_v, sSg (sgp b_coming) (sf_a b_coming) u19.1 (sf_c b_coming) u19.2.1, sAr (sf_c b_coming) u19.2.2]) (B := []) (E := [sSg (sgp b_present) (sf_a b_present) ((sf_v b_present).1) (sf_c b_present) ((sf_v b_present).2.1), sAr (sf_c b_present) ((sf_v b_present).2.2)]) (X2 := sFs (List.erase (List.erase (List.range 2) b_coming) b_present) sgp sf_a sf_c sf_v) (z_foFs ((List.mem_erase_of_ne hn18).mpr (List.mem_range.mpr hj6))) [0, 1, 2, 3, 4, 5, 6] rfl rfl (by decide) rfl).symm ?_
      refine Go.perm (w2 := ([sBk sgp b_p b_a b_isKnown x_p b_adjacent u12.2 b_present b_coming b_cells b_reach, sAr x_p x_v, sFs (List.range 2) sgp sf_a sf_c (va_up sf_v b_coming (u19.1, u19.2.1, u19.2.2))] : List ZW).flatten) (z_focP (n := 5) (A := [sBk sgp b_p b_a b_isKnown x_p b_adjacent u12.2 b_present b_coming b_cells b_reach, sAr x_p x_v]) (B := []) (E := [sSg (sgp b_coming) (sf_a b_coming) u19.1 (sf_c b_coming) u19.2.1, sAr (sf_c b_coming) u19.2.2]) (X2 := sFs (List.erase (List.range 2) b_coming) sgp sf_a sf_c sf_v) (z_unFs (List.mem_range.mpr hj16) List.nodup_range) [0, 1, 2, 3, 4] rfl rfl (by decide) rfl).symm ?_
      refine Go.blk zk_X0_decide [0] (z' := (104, [some (.ref b_p), some (.int i1), some (.int i2), some (.int i3), some (.int i4), some (.int (if 0 < (i2 - b_reach) then i2 - b_reach else 0)), some (.int u12.1)], [], ([sBk sgp b_p b_a b_isKnown x_p b_adjacent u12.2 b_present b_coming b_cells b_reach, sAr x_p x_v, sFs (List.range 2) sgp sf_a sf_c (va_up sf_v b_coming (u19.1, u19.2.1, u19.2.2))] : List ZW).flatten)) rfl trivial ?_
      obtain rfl := Option.some.inj h
      exact Go.vret zk_X0_decide rfl rfl ⟨rfl, rfl⟩
    · rw [if_neg hc13] at h
      refine Go.br zk_X0_decide rfl rfl (fun q => absurd q hc13) (fun _ => ?_)
      refine Go.blk zk_X0_decide [0, 0] (z' := (86, [some (.ref b_p), some (.int i1), some (.int i2), some (.int i3), some (.int i4), some (.int (if 0 < (i2 - b_reach) then i2 - b_reach else 0)), some (.int u12.1)], [.int 1, .int u12.1], ([sBk sgp b_p b_a b_isKnown x_p b_adjacent u12.2 b_present b_coming b_cells b_reach, sAr x_p x_v, sFs (List.range 2) sgp sf_a sf_c sf_v] : List ZW).flatten)) rfl trivial ?_
      by_cases hc20 : u12.1 = 1
      · rw [if_pos hc20] at h
        refine Go.br zk_X0_decide rfl rfl (fun _ => ?_) (fun q => absurd hc20 q)
        refine Go.blk zk_X0_decide [0, 0, 0, 0, 0, 0, 0] (z' := (101, [some (.ref b_p), some (.int i1), some (.int i2), some (.int i3), some (.int i4), some (.int (if 0 < (i2 - b_reach) then i2 - b_reach else 0)), some (.int u12.1)], [.int i3, .int i1, .int i4, .ref x_p, .ref (sgp b_present)], ([sBk sgp b_p b_a b_isKnown x_p b_adjacent u12.2 b_present b_coming b_cells b_reach, sAr x_p x_v, sFs (List.range 2) sgp sf_a sf_c sf_v] : List ZW).flatten)) rfl ⟨rfl, rfl, trivial⟩ ?_
        refine Go.perm (w2 := ([sBk sgp b_p b_a b_isKnown x_p b_adjacent u12.2 b_present b_coming b_cells b_reach, sAr x_p x_v, sSg (sgp b_present) (sf_a b_present) ((sf_v b_present).1) (sf_c b_present) ((sf_v b_present).2.1), sAr (sf_c b_present) ((sf_v b_present).2.2), sFs (List.erase (List.range 2) b_present) sgp sf_a sf_c sf_v] : List ZW).flatten) (z_focP (n := 5) (A := [sBk sgp b_p b_a b_isKnown x_p b_adjacent u12.2 b_present b_coming b_cells b_reach, sAr x_p x_v]) (B := []) (E := [sSg (sgp b_present) (sf_a b_present) ((sf_v b_present).1) (sf_c b_present) ((sf_v b_present).2.1), sAr (sf_c b_present) ((sf_v b_present).2.2)]) (X2 := sFs (List.erase (List.range 2) b_present) sgp sf_a sf_c sf_v) (z_foFs (List.mem_range.mpr hj6)) [0, 1, 2, 3, 4] rfl rfl (by decide) rfl) ?_
        obtain ⟨u22, hu22, h⟩ := z_bind h
        refine Go.vs zk_X0_decide zm_X7_addTo [2, 3, 1] [0, 4] 0 7 5 (S := [sBk sgp b_p b_a b_isKnown x_p b_adjacent u12.2 b_present b_coming b_cells b_reach, sAr x_p x_v, sSg (sgp b_present) (sf_a b_present) ((sf_v b_present).1) (sf_c b_present) ((sf_v b_present).2.1), sAr (sf_c b_present) ((sf_v b_present).2.2), sFs (List.erase (List.range 2) b_present) sgp sf_a sf_c sf_v]) (S2 := [sBk sgp b_p b_a b_isKnown x_p b_adjacent u12.2 b_present b_coming b_cells b_reach, sAr x_p u22, sSg (sgp b_present) (sf_a b_present) ((sf_v b_present).1) (sf_c b_present) ((sf_v b_present).2.1), sAr (sf_c b_present) ((sf_v b_present).2.2), sFs (List.erase (List.range 2) b_present) sgp sf_a sf_c sf_v]) (As := [.ref x_p, .int i4, .int i1, .int i3]) (rest := []) (st2 := []) (v1 := none) rfl zl_X0_114 zv_X7_addTo ⟨Nat.le_of_ble_eq_true rfl, Nat.le_of_ble_eq_true rfl⟩ rfl (by decide) rfl rfl rfl rfl rfl (Nat.le_of_ble_eq_true rfl) (t_X7_addTo hu22) rfl rfl rfl ?_
        refine Go.perm (w2 := ([sBk sgp b_p b_a b_isKnown x_p b_adjacent u12.2 b_present b_coming b_cells b_reach, sAr x_p u22, sFs (List.range 2) sgp sf_a sf_c sf_v] : List ZW).flatten) (z_focP (n := 5) (A := [sBk sgp b_p b_a b_isKnown x_p b_adjacent u12.2 b_present b_coming b_cells b_reach, sAr x_p u22]) (B := []) (E := [sSg (sgp b_present) (sf_a b_present) ((sf_v b_present).1) (sf_c b_present) ((sf_v b_present).2.1), sAr (sf_c b_present) ((sf_v b_present).2.2)]) (X2 := sFs (List.erase (List.range 2) b_present) sgp sf_a sf_c sf_v) (z_foFs (List.mem_range.mpr hj6)) [0, 1, 2, 3, 4] rfl rfl (by decide) rfl).symm ?_
        obtain rfl := Option.some.inj h
        exact Go.vret zk_X0_decide rfl rfl ⟨rfl, rfl⟩
      · rw [if_neg hc20] at h
        refine Go.br zk_X0_decide rfl rfl (fun q => absurd q hc20) (fun _ => ?_)
        obtain rfl := Option.some.inj h
        exact Go.vret zk_X0_decide rfl rfl ⟨rfl, rfl⟩
  · rw [if_neg hc10] at h
    refine Go.br zk_X0_decide rfl rfl (fun q => absurd q hc10) (fun _ => ?_)
    refine Go.blk zk_X0_decide [0, 0, 0] (z' := (50, [some (.ref b_p), some (.int i1), some (.int i2), some (.int i3), some (.int i4), some (.int (if 0 < (i2 - b_reach) then i2 - b_reach else 0)), none], [.int i2, .int (if 0 < (i2 - b_reach) then i2 - b_reach else 0), .ref b_p], ([sBk sgp b_p b_a b_isKnown x_p b_adjacent t9 b_present b_coming b_cells b_reach, sAr x_p x_v, sFs (List.range 2) sgp sf_a sf_c sf_v] : List ZW).flatten)) rfl trivial ?_
    obtain ⟨u23, hu23, h⟩ := z_bind h
    refine Go.vs zk_X0_decide zm_X0_retire [0] [1, 2] 0 0 3 (S := [sBk sgp b_p b_a b_isKnown x_p b_adjacent t9 b_present b_coming b_cells b_reach, sAr x_p x_v, sFs (List.range 2) sgp sf_a sf_c sf_v]) (S2 := [sBk sgp b_p b_a b_isKnown x_p b_adjacent u23.2 b_present b_coming b_cells b_reach, sAr x_p x_v, sFs (List.range 2) sgp sf_a sf_c sf_v]) (As := [.int (if 0 < (i2 - b_reach) then i2 - b_reach else 0), .int i2]) (rest := []) (st2 := [.int u23.1]) (v1 := some (.int u23.1)) rfl zl_X0_104 zv_X0_retire ⟨Nat.le_of_ble_eq_true rfl, Nat.le_of_ble_eq_true rfl⟩ rfl (by decide) rfl rfl rfl rfl rfl (Nat.le_of_ble_eq_true rfl) (t_X0_retire hu23) rfl rfl rfl ?_
    refine Go.blk zk_X0_decide [0, 0] (z' := (57, [some (.ref b_p), some (.int i1), some (.int i2), some (.int i3), some (.int i4), some (.int (if 0 < (i2 - b_reach) then i2 - b_reach else 0)), some (.int u23.1)], [.int u23.1], ([sBk sgp b_p b_a b_isKnown x_p b_adjacent u23.2 b_present b_coming b_cells b_reach, sAr x_p x_v, sFs (List.range 2) sgp sf_a sf_c sf_v] : List ZW).flatten)) rfl trivial ?_
    by_cases hc24 : u23.1 = 0
    · rw [if_pos hc24] at h
      refine Go.br zk_X0_decide rfl rfl (fun _ => ?_) (fun q => absurd hc24 q)
      refine Go.blk zk_X0_decide [0, 0, 0, 0, 0] (z' := (68, [some (.ref b_p), some (.int i1), some (.int i2), some (.int i3), some (.int i4), some (.int (if 0 < (i2 - b_reach) then i2 - b_reach else 0)), some (.int u23.1)], [.int i2, .int (if 0 < (i2 - b_reach) then i2 - b_reach else 0), .ref b_p, .ref (sgp b_coming)], ([sBk sgp b_p b_a b_isKnown x_p b_adjacent u23.2 b_present b_coming b_cells b_reach, sAr x_p x_v, sFs (List.range 2) sgp sf_a sf_c sf_v] : List ZW).flatten)) rfl ⟨rfl, trivial⟩ ?_
      obtain ⟨u25, hu25, h⟩ := z_bind h
      refine Go.vs zk_X0_decide zm_X0_packLabels [0] [1, 2] 0 0 3 (S := [sBk sgp b_p b_a b_isKnown x_p b_adjacent u23.2 b_present b_coming b_cells b_reach, sAr x_p x_v, sFs (List.range 2) sgp sf_a sf_c sf_v]) (S2 := [sBk sgp b_p b_a b_isKnown x_p b_adjacent u23.2 b_present b_coming b_cells b_reach, sAr x_p x_v, sFs (List.range 2) sgp sf_a sf_c sf_v]) (As := [.int (if 0 < (i2 - b_reach) then i2 - b_reach else 0), .int i2]) (rest := [.ref (sgp b_coming)]) (st2 := [.long u25, .ref (sgp b_coming)]) (v1 := some (.long u25)) rfl zl_X0_107 zv_X0_packLabels ⟨Nat.le_of_ble_eq_true rfl, Nat.le_of_ble_eq_true rfl⟩ rfl (by decide) rfl rfl rfl rfl rfl (Nat.le_of_ble_eq_true rfl) (t_X0_packLabels hu25) rfl rfl rfl ?_
      refine Go.blk zk_X0_decide [0, 0, 0, 0] (z' := (77, [some (.ref b_p), some (.int i1), some (.int i2), some (.int i3), some (.int i4), some (.int (if 0 < (i2 - b_reach) then i2 - b_reach else 0)), some (.int u23.1)], [.int i3, .int i1, .ref (sgp b_present), .long u25, .ref (sgp b_coming)], ([sBk sgp b_p b_a b_isKnown x_p b_adjacent u23.2 b_present b_coming b_cells b_reach, sAr x_p x_v, sFs (List.range 2) sgp sf_a sf_c sf_v] : List ZW).flatten)) rfl ⟨rfl, trivial⟩ ?_
      by_cases hj27 : b_coming < 2
      case neg => rw [if_neg hj27] at h; cases h
      rw [if_pos hj27] at h
      refine Go.perm (w2 := ([sBk sgp b_p b_a b_isKnown x_p b_adjacent u23.2 b_present b_coming b_cells b_reach, sAr x_p x_v, sSg (sgp b_coming) (sf_a b_coming) ((sf_v b_coming).1) (sf_c b_coming) ((sf_v b_coming).2.1), sAr (sf_c b_coming) ((sf_v b_coming).2.2), sFs (List.erase (List.range 2) b_coming) sgp sf_a sf_c sf_v] : List ZW).flatten) (z_focP (n := 5) (A := [sBk sgp b_p b_a b_isKnown x_p b_adjacent u23.2 b_present b_coming b_cells b_reach, sAr x_p x_v]) (B := []) (E := [sSg (sgp b_coming) (sf_a b_coming) ((sf_v b_coming).1) (sf_c b_coming) ((sf_v b_coming).2.1), sAr (sf_c b_coming) ((sf_v b_coming).2.2)]) (X2 := sFs (List.erase (List.range 2) b_coming) sgp sf_a sf_c sf_v) (z_foFs (List.mem_range.mpr hj27)) [0, 1, 2, 3, 4] rfl rfl (by decide) rfl) ?_
      by_cases hn29 : b_present = b_coming
      · rw [if_pos hn29] at h; cases h
      rw [if_neg hn29] at h
      refine Go.perm (w2 := ([sBk sgp b_p b_a b_isKnown x_p b_adjacent u23.2 b_present b_coming b_cells b_reach, sAr x_p x_v, sSg (sgp b_coming) (sf_a b_coming) ((sf_v b_coming).1) (sf_c b_coming) ((sf_v b_coming).2.1), sAr (sf_c b_coming) ((sf_v b_coming).2.2), sSg (sgp b_present) (sf_a b_present) ((sf_v b_present).1) (sf_c b_present) ((sf_v b_present).2.1), sAr (sf_c b_present) ((sf_v b_present).2.2), sFs (List.erase (List.erase (List.range 2) b_coming) b_present) sgp sf_a sf_c sf_v] : List ZW).flatten) (z_focP (n := 7) (A := [sBk sgp b_p b_a b_isKnown x_p b_adjacent u23.2 b_present b_coming b_cells b_reach, sAr x_p x_v, sSg (sgp b_coming) (sf_a b_coming) ((sf_v b_coming).1) (sf_c b_coming) ((sf_v b_coming).2.1), sAr (sf_c b_coming) ((sf_v b_coming).2.2)]) (B := []) (E := [sSg (sgp b_present) (sf_a b_present) ((sf_v b_present).1) (sf_c b_present) ((sf_v b_present).2.1), sAr (sf_c b_present) ((sf_v b_present).2.2)]) (X2 := sFs (List.erase (List.erase (List.range 2) b_coming) b_present) sgp sf_a sf_c sf_v) (z_foFs ((List.mem_erase_of_ne hn29).mpr (List.mem_range.mpr hj6))) [0, 1, 2, 3, 4, 5, 6] rfl rfl (by decide) rfl) ?_
      obtain ⟨u30, hu30, h⟩ := z_bind h
      refine Go.vs zk_X0_decide zm_X7_join [2, 4, 3, 5] [0, 1, 6] 0 7 7 (S := [sBk sgp b_p b_a b_isKnown x_p b_adjacent u23.2 b_present b_coming b_cells b_reach, sAr x_p x_v, sSg (sgp b_coming) (sf_a b_coming) ((sf_v b_coming).1) (sf_c b_coming) ((sf_v b_coming).2.1), sAr (sf_c b_coming) ((sf_v b_coming).2.2), sSg (sgp b_present) (sf_a b_present) ((sf_v b_present).1) (sf_c b_present) ((sf_v b_present).2.1), sAr (sf_c b_present) ((sf_v b_present).2.2), sFs (List.erase (List.erase (List.range 2) b_coming) b_present) sgp sf_a sf_c sf_v]) (S2 := [sBk sgp b_p b_a b_isKnown x_p b_adjacent u23.2 b_present b_coming b_cells b_reach, sAr x_p x_v, sSg (sgp b_coming) (sf_a b_coming) u30.1 (sf_c b_coming) u30.2.1, sAr (sf_c b_coming) u30.2.2, sSg (sgp b_present) (sf_a b_present) ((sf_v b_present).1) (sf_c b_present) ((sf_v b_present).2.1), sAr (sf_c b_present) ((sf_v b_present).2.2), sFs (List.erase (List.erase (List.range 2) b_coming) b_present) sgp sf_a sf_c sf_v]) (As := [.long u25, .ref (sgp b_present), .int i1, .int i3]) (rest := []) (st2 := []) (v1 := none) rfl zl_X0_111 zv_X7_join ⟨Nat.le_of_ble_eq_true rfl, Nat.le_of_ble_eq_true rfl⟩ rfl (by decide) rfl rfl rfl rfl rfl (Nat.le_of_ble_eq_true rfl) (t_X7_join hu30) rfl rfl rfl ?_
      refine Go.perm (w2 := ([sBk sgp b_p b_a b_isKnown x_p b_adjacent u23.2 b_present b_coming b_cells b_reach, sAr x_p x_v, sSg (sgp b_coming) (sf_a b_coming) u30.1 (sf_c b_coming) u30.2.1, sAr (sf_c b_coming) u30.2.2, sFs (List.erase (List.range 2) b_coming) sgp sf_a sf_c sf_v] : List ZW).flatten) (z_focP (n := 7) (A := [sBk sgp b_p b_a b_isKnown x_p b_adjacent u23.2 b_present b_coming b_cells b_reach, sAr x_p x_v, sSg (sgp b_coming) (sf_a b_coming) u30.1 (sf_c b_coming) u30.2.1, sAr (sf_c b_coming) u30.2.2]) (B := []) (E := [sSg (sgp b_present) (sf_a b_present) ((sf_v b_present).1) (sf_c b_present) ((sf_v b_present).2.1), sAr (sf_c b_present) ((sf_v b_present).2.2)]) (X2 := sFs (List.erase (List.erase (List.range 2) b_coming) b_present) sgp sf_a sf_c sf_v) (z_foFs ((List.mem_erase_of_ne hn29).mpr (List.mem_range.mpr hj6))) [0, 1, 2, 3, 4, 5, 6] rfl rfl (by decide) rfl).symm ?_
      refine Go.perm (w2 := ([sBk sgp b_p b_a b_isKnown x_p b_adjacent u23.2 b_present b_coming b_cells b_reach, sAr x_p x_v, sFs (List.range 2) sgp sf_a sf_c (va_up sf_v b_coming (u30.1, u30.2.1, u30.2.2))] : List ZW).flatten) (z_focP (n := 5) (A := [sBk sgp b_p b_a b_isKnown x_p b_adjacent u23.2 b_present b_coming b_cells b_reach, sAr x_p x_v]) (B := []) (E := [sSg (sgp b_coming) (sf_a b_coming) u30.1 (sf_c b_coming) u30.2.1, sAr (sf_c b_coming) u30.2.2]) (X2 := sFs (List.erase (List.range 2) b_coming) sgp sf_a sf_c sf_v) (z_unFs (List.mem_range.mpr hj27) List.nodup_range) [0, 1, 2, 3, 4] rfl rfl (by decide) rfl).symm ?_
      refine Go.blk zk_X0_decide [0] (z' := (104, [some (.ref b_p), some (.int i1), some (.int i2), some (.int i3), some (.int i4), some (.int (if 0 < (i2 - b_reach) then i2 - b_reach else 0)), some (.int u23.1)], [], ([sBk sgp b_p b_a b_isKnown x_p b_adjacent u23.2 b_present b_coming b_cells b_reach, sAr x_p x_v, sFs (List.range 2) sgp sf_a sf_c (va_up sf_v b_coming (u30.1, u30.2.1, u30.2.2))] : List ZW).flatten)) rfl trivial ?_
      obtain rfl := Option.some.inj h
      exact Go.vret zk_X0_decide rfl rfl ⟨rfl, rfl⟩
    · rw [if_neg hc24] at h
      refine Go.br zk_X0_decide rfl rfl (fun q => absurd q hc24) (fun _ => ?_)
      refine Go.blk zk_X0_decide [0, 0] (z' := (86, [some (.ref b_p), some (.int i1), some (.int i2), some (.int i3), some (.int i4), some (.int (if 0 < (i2 - b_reach) then i2 - b_reach else 0)), some (.int u23.1)], [.int 1, .int u23.1], ([sBk sgp b_p b_a b_isKnown x_p b_adjacent u23.2 b_present b_coming b_cells b_reach, sAr x_p x_v, sFs (List.range 2) sgp sf_a sf_c sf_v] : List ZW).flatten)) rfl trivial ?_
      by_cases hc31 : u23.1 = 1
      · rw [if_pos hc31] at h
        refine Go.br zk_X0_decide rfl rfl (fun _ => ?_) (fun q => absurd hc31 q)
        refine Go.blk zk_X0_decide [0, 0, 0, 0, 0, 0, 0] (z' := (101, [some (.ref b_p), some (.int i1), some (.int i2), some (.int i3), some (.int i4), some (.int (if 0 < (i2 - b_reach) then i2 - b_reach else 0)), some (.int u23.1)], [.int i3, .int i1, .int i4, .ref x_p, .ref (sgp b_present)], ([sBk sgp b_p b_a b_isKnown x_p b_adjacent u23.2 b_present b_coming b_cells b_reach, sAr x_p x_v, sFs (List.range 2) sgp sf_a sf_c sf_v] : List ZW).flatten)) rfl ⟨rfl, rfl, trivial⟩ ?_
        refine Go.perm (w2 := ([sBk sgp b_p b_a b_isKnown x_p b_adjacent u23.2 b_present b_coming b_cells b_reach, sAr x_p x_v, sSg (sgp b_present) (sf_a b_present) ((sf_v b_present).1) (sf_c b_present) ((sf_v b_present).2.1), sAr (sf_c b_present) ((sf_v b_present).2.2), sFs (List.erase (List.range 2) b_present) sgp sf_a sf_c sf_v] : List ZW).flatten) (z_focP (n := 5) (A := [sBk sgp b_p b_a b_isKnown x_p b_adjacent u23.2 b_present b_coming b_cells b_reach, sAr x_p x_v]) (B := []) (E := [sSg (sgp b_present) (sf_a b_present) ((sf_v b_present).1) (sf_c b_present) ((sf_v b_present).2.1), sAr (sf_c b_present) ((sf_v b_present).2.2)]) (X2 := sFs (List.erase (List.range 2) b_present) sgp sf_a sf_c sf_v) (z_foFs (List.mem_range.mpr hj6)) [0, 1, 2, 3, 4] rfl rfl (by decide) rfl) ?_
        obtain ⟨u33, hu33, h⟩ := z_bind h
        refine Go.vs zk_X0_decide zm_X7_addTo [2, 3, 1] [0, 4] 0 7 5 (S := [sBk sgp b_p b_a b_isKnown x_p b_adjacent u23.2 b_present b_coming b_cells b_reach, sAr x_p x_v, sSg (sgp b_present) (sf_a b_present) ((sf_v b_present).1) (sf_c b_present) ((sf_v b_present).2.1), sAr (sf_c b_present) ((sf_v b_present).2.2), sFs (List.erase (List.range 2) b_present) sgp sf_a sf_c sf_v]) (S2 := [sBk sgp b_p b_a b_isKnown x_p b_adjacent u23.2 b_present b_coming b_cells b_reach, sAr x_p u33, sSg (sgp b_present) (sf_a b_present) ((sf_v b_present).1) (sf_c b_present) ((sf_v b_present).2.1), sAr (sf_c b_present) ((sf_v b_present).2.2), sFs (List.erase (List.range 2) b_present) sgp sf_a sf_c sf_v]) (As := [.ref x_p, .int i4, .int i1, .int i3]) (rest := []) (st2 := []) (v1 := none) rfl zl_X0_114 zv_X7_addTo ⟨Nat.le_of_ble_eq_true rfl, Nat.le_of_ble_eq_true rfl⟩ rfl (by decide) rfl rfl rfl rfl rfl (Nat.le_of_ble_eq_true rfl) (t_X7_addTo hu33) rfl rfl rfl ?_
        refine Go.perm (w2 := ([sBk sgp b_p b_a b_isKnown x_p b_adjacent u23.2 b_present b_coming b_cells b_reach, sAr x_p u33, sFs (List.range 2) sgp sf_a sf_c sf_v] : List ZW).flatten) (z_focP (n := 5) (A := [sBk sgp b_p b_a b_isKnown x_p b_adjacent u23.2 b_present b_coming b_cells b_reach, sAr x_p u33]) (B := []) (E := [sSg (sgp b_present) (sf_a b_present) ((sf_v b_present).1) (sf_c b_present) ((sf_v b_present).2.1), sAr (sf_c b_present) ((sf_v b_present).2.2)]) (X2 := sFs (List.erase (List.range 2) b_present) sgp sf_a sf_c sf_v) (z_foFs (List.mem_range.mpr hj6)) [0, 1, 2, 3, 4] rfl rfl (by decide) rfl).symm ?_
        obtain rfl := Option.some.inj h
        exact Go.vret zk_X0_decide rfl rfl ⟨rfl, rfl⟩
      · rw [if_neg hc31] at h
        refine Go.br zk_X0_decide rfl rfl (fun q => absurd q hc31) (fun _ => ?_)
        obtain rfl := Option.some.inj h
        exact Go.vret zk_X0_decide rfl rfl ⟨rfl, rfl⟩
set_option maxHeartbeats 4000000 in
set_option maxRecDepth 100000 in
theorem t_X0_decideAll_L33 {N : Nat} {b_p : Nat} {b_a : Nat → Nat} {b_isKnown : List Int32} {b_adjacent : List Int32} {b_present : Nat} {b_coming : Nat} {b_cells : Int32} {b_reach : Int32} {x_p : Nat} {sf_a : Nat → Nat → Nat} {sf_c : Nat → Nat} {sgp : Nat → Nat} {v1 : Int32} {v2 : Int32}  {Q : Option Value → ZW → Prop} : ∀ (fu : Nat) (v3 : Int32) (b_labels : List Int32) (x_v : List Int32) (sf_v : Nat → List Int64 × Int32 × List Int32) (e : (List Int32) × (List Int32) × (Nat → List Int64 × Int32 × List Int32)), f_X0_decideAll_L33 N v1 v2 b_adjacent b_present b_coming b_reach fu v3 b_labels x_v sf_v = some e → (Go l D r (z_rl xs) zm_X0_decideAll 0 0 (66, [some (.ref b_p), some (.int v1), some (.int v2), none], [], ([sBk sgp b_p b_a b_isKnown x_p b_adjacent e.1 b_present b_coming b_cells b_reach, sAr x_p e.2.1, sFs (List.range 2) sgp sf_a sf_c e.2.2] : List ZW).flatten) Q) → Go l D r (z_rl xs) zm_X0_decideAll 0 0 (33, [some (.ref b_p), some (.int v1), some (.int v2), some (.int v3)], [], ([sBk sgp b_p b_a b_isKnown x_p b_adjacent b_labels b_present b_coming b_cells b_reach, sAr x_p x_v, sFs (List.range 2) sgp sf_a sf_c sf_v] : List ZW).flatten) Q := by
  intro fu
  induction fu with
  | zero =>
    intro v3 b_labels x_v sf_v e h
    simp only [f_X0_decideAll_L33, reduceCtorEq] at h
  | succ fu ih =>
    intro v3 b_labels x_v sf_v e h kk
    rw [f_X0_decideAll_L33] at h
    refine Go.blk zk_X0_decideAll [0, 0, 0] (z' := (38, [some (.ref b_p), some (.int v1), some (.int v2), some (.int v3)], [.ref (sgp b_present), .int v3], ([sBk sgp b_p b_a b_isKnown x_p b_adjacent b_labels b_present b_coming b_cells b_reach, sAr x_p x_v, sFs (List.range 2) sgp sf_a sf_c sf_v] : List ZW).flatten)) rfl ⟨rfl, trivial⟩ ?_
    by_cases hj15 : b_present < 2
    case neg => rw [if_neg hj15] at h; cases h
    rw [if_pos hj15] at h
    refine Go.perm (w2 := ([sBk sgp b_p b_a b_isKnown x_p b_adjacent b_labels b_present b_coming b_cells b_reach, sAr x_p x_v, sSg (sgp b_present) (sf_a b_present) ((sf_v b_present).1) (sf_c b_present) ((sf_v b_present).2.1), sAr (sf_c b_present) ((sf_v b_present).2.2), sFs (List.erase (List.range 2) b_present) sgp sf_a sf_c sf_v] : List ZW).flatten) (z_focP (n := 5) (A := [sBk sgp b_p b_a b_isKnown x_p b_adjacent b_labels b_present b_coming b_cells b_reach, sAr x_p x_v]) (B := []) (E := [sSg (sgp b_present) (sf_a b_present) ((sf_v b_present).1) (sf_c b_present) ((sf_v b_present).2.1), sAr (sf_c b_present) ((sf_v b_present).2.2)]) (X2 := sFs (List.erase (List.range 2) b_present) sgp sf_a sf_c sf_v) (z_foFs (List.mem_range.mpr hj15)) [0, 1, 2, 3, 4] rfl rfl (by decide) rfl) ?_
    refine Go.blk zk_X0_decideAll [5] (z' := (41, [some (.ref b_p), some (.int v1), some (.int v2), some (.int v3)], [.int ((sf_v b_present).2.1), .int v3], ([sBk sgp b_p b_a b_isKnown x_p b_adjacent b_labels b_present b_coming b_cells b_reach, sAr x_p x_v, sSg (sgp b_present) (sf_a b_present) ((sf_v b_present).1) (sf_c b_present) ((sf_v b_present).2.1), sAr (sf_c b_present) ((sf_v b_present).2.2), sFs (List.erase (List.range 2) b_present) sgp sf_a sf_c sf_v] : List ZW).flatten)) rfl ⟨rfl, trivial⟩ ?_
    refine Go.perm (w2 := ([sBk sgp b_p b_a b_isKnown x_p b_adjacent b_labels b_present b_coming b_cells b_reach, sAr x_p x_v, sFs (List.range 2) sgp sf_a sf_c sf_v] : List ZW).flatten) (z_focP (n := 5) (A := [sBk sgp b_p b_a b_isKnown x_p b_adjacent b_labels b_present b_coming b_cells b_reach, sAr x_p x_v]) (B := []) (E := [sSg (sgp b_present) (sf_a b_present) ((sf_v b_present).1) (sf_c b_present) ((sf_v b_present).2.1), sAr (sf_c b_present) ((sf_v b_present).2.2)]) (X2 := sFs (List.erase (List.range 2) b_present) sgp sf_a sf_c sf_v) (z_foFs (List.mem_range.mpr hj15)) [0, 1, 2, 3, 4] rfl rfl (by decide) rfl).symm ?_
    by_cases hc16 : v3 < ((sf_v b_present).2.1)
    · rw [if_pos hc16] at h
      refine Go.br zk_X0_decideAll rfl rfl (fun _ => ?_) (fun q => absurd hc16 q)
      refine Go.blk zk_X0_decideAll [0, 0, 0, 0, 0] (z' := (49, [some (.ref b_p), some (.int v1), some (.int v2), some (.int v3)], [.int v1, .int 0, .int v2, .int v3, .ref b_p], ([sBk sgp b_p b_a b_isKnown x_p b_adjacent b_labels b_present b_coming b_cells b_reach, sAr x_p x_v, sFs (List.range 2) sgp sf_a sf_c sf_v] : List ZW).flatten)) rfl trivial ?_
      obtain ⟨u17, hu17, h⟩ := z_bind h
      refine Go.vs zk_X0_decideAll zm_X0_decide [0, 1, 2] [] 0 0 3 (S := [sBk sgp b_p b_a b_isKnown x_p b_adjacent b_labels b_present b_coming b_cells b_reach, sAr x_p x_v, sFs (List.range 2) sgp sf_a sf_c sf_v]) (S2 := [sBk sgp b_p b_a b_isKnown x_p b_adjacent u17.1 b_present b_coming b_cells b_reach, sAr x_p u17.2.1, sFs (List.range 2) sgp sf_a sf_c u17.2.2]) (As := [.int v3, .int v2, .int 0, .int v1]) (rest := []) (st2 := []) (v1 := none) rfl zl_X0_88 zv_X0_decide ⟨Nat.le_of_ble_eq_true rfl, Nat.le_of_ble_eq_true rfl⟩ rfl (by decide) rfl rfl rfl rfl rfl (Nat.le_of_ble_eq_true rfl) (t_X0_decide hu17) rfl rfl rfl ?_
      refine Go.blk zk_X0_decideAll [0, 0, 0, 0, 0] (z' := (57, [some (.ref b_p), some (.int v1), some (.int v2), some (.int v3)], [.int v1, .int 1, .int v2, .int v3, .ref b_p], ([sBk sgp b_p b_a b_isKnown x_p b_adjacent u17.1 b_present b_coming b_cells b_reach, sAr x_p u17.2.1, sFs (List.range 2) sgp sf_a sf_c u17.2.2] : List ZW).flatten)) rfl trivial ?_
      obtain ⟨u18, hu18, h⟩ := z_bind h
      refine Go.vs zk_X0_decideAll zm_X0_decide [0, 1, 2] [] 0 0 3 (S := [sBk sgp b_p b_a b_isKnown x_p b_adjacent u17.1 b_present b_coming b_cells b_reach, sAr x_p u17.2.1, sFs (List.range 2) sgp sf_a sf_c u17.2.2]) (S2 := [sBk sgp b_p b_a b_isKnown x_p b_adjacent u18.1 b_present b_coming b_cells b_reach, sAr x_p u18.2.1, sFs (List.range 2) sgp sf_a sf_c u18.2.2]) (As := [.int v3, .int v2, .int 1, .int v1]) (rest := []) (st2 := []) (v1 := none) rfl zl_X0_88 zv_X0_decide ⟨Nat.le_of_ble_eq_true rfl, Nat.le_of_ble_eq_true rfl⟩ rfl (by decide) rfl rfl rfl rfl rfl (Nat.le_of_ble_eq_true rfl) (t_X0_decide hu18) rfl rfl rfl ?_
      refine Go.blk zk_X0_decideAll [0, 0] (z' := (33, [some (.ref b_p), some (.int v1), some (.int v2), some (.int (v3 + 1))], [], ([sBk sgp b_p b_a b_isKnown x_p b_adjacent u18.1 b_present b_coming b_cells b_reach, sAr x_p u18.2.1, sFs (List.range 2) sgp sf_a sf_c u18.2.2] : List ZW).flatten)) rfl trivial ?_
      exact ih _ _ _ _ _ h kk
    · rw [if_neg hc16] at h
      refine Go.br zk_X0_decideAll rfl rfl (fun q => absurd q hc16) (fun _ => ?_)
      obtain rfl := Option.some.inj h
      refine Go.weak (L := [some (.ref b_p), some (.int v1), some (.int v2), some (.int v3)]) (L' := [some (.ref b_p), some (.int v1), some (.int v2), none]) (And.intro rfl (And.intro rfl (And.intro rfl (trivial)))) ?_
      exact kk
set_option maxHeartbeats 4000000 in
set_option maxRecDepth 100000 in
theorem t_X0_decideAll_L16 {N : Nat} {b_p : Nat} {b_a : Nat → Nat} {b_isKnown : List Int32} {b_adjacent : List Int32} {b_cells : Int32} {b_reach : Int32} {x_p : Nat} {sf_a : Nat → Nat → Nat} {sf_c : Nat → Nat} {sgp : Nat → Nat} {v1 : Int32}  {Q : Option Value → ZW → Prop} : ∀ (fu : Nat) (v2 : Int32) (b_labels : List Int32) (b_present : Nat) (b_coming : Nat) (x_v : List Int32) (sf_v : Nat → List Int64 × Int32 × List Int32) (e : (List Int32) × Nat × Nat × (List Int32) × (Nat → List Int64 × Int32 × List Int32)), f_X0_decideAll_L16 N v1 b_adjacent b_cells b_reach fu v2 b_labels b_present b_coming x_v sf_v = some e → (Go l D r (z_rl xs) zm_X0_decideAll 0 0 (90, [none, none, none, none], [], ([sBk sgp b_p b_a b_isKnown x_p b_adjacent e.1 e.2.1 e.2.2.1 b_cells b_reach, sAr x_p e.2.2.2.1, sFs (List.range 2) sgp sf_a sf_c e.2.2.2.2] : List ZW).flatten) Q) → Go l D r (z_rl xs) zm_X0_decideAll 0 0 (16, [some (.ref b_p), some (.int v1), some (.int v2), none], [], ([sBk sgp b_p b_a b_isKnown x_p b_adjacent b_labels b_present b_coming b_cells b_reach, sAr x_p x_v, sFs (List.range 2) sgp sf_a sf_c sf_v] : List ZW).flatten) Q := by
  intro fu
  induction fu with
  | zero =>
    intro v2 b_labels b_present b_coming x_v sf_v e h
    simp only [f_X0_decideAll_L16, reduceCtorEq] at h
  | succ fu ih =>
    intro v2 b_labels b_present b_coming x_v sf_v e h kk
    rw [f_X0_decideAll_L16] at h
    refine Go.blk zk_X0_decideAll [0, 0, 0] (z' := (21, [some (.ref b_p), some (.int v1), some (.int v2), none], [.int b_cells, .int v2], ([sBk sgp b_p b_a b_isKnown x_p b_adjacent b_labels b_present b_coming b_cells b_reach, sAr x_p x_v, sFs (List.range 2) sgp sf_a sf_c sf_v] : List ZW).flatten)) rfl ⟨rfl, trivial⟩ ?_
    by_cases hc10 : v2 < b_cells
    · rw [if_pos hc10] at h
      refine Go.br zk_X0_decideAll rfl rfl (fun _ => ?_) (fun q => absurd hc10 q)
      refine Go.blk zk_X0_decideAll [0, 0] (z' := (28, [some (.ref b_p), some (.int v1), some (.int v2), none], [.ref (sgp b_coming)], ([sBk sgp b_p b_a b_isKnown x_p b_adjacent b_labels b_present b_coming b_cells b_reach, sAr x_p x_v, sFs (List.range 2) sgp sf_a sf_c sf_v] : List ZW).flatten)) rfl ⟨rfl, trivial⟩ ?_
      by_cases hj12 : b_coming < 2
      case neg => rw [if_neg hj12] at h; cases h
      rw [if_pos hj12] at h
      refine Go.perm (w2 := ([sBk sgp b_p b_a b_isKnown x_p b_adjacent b_labels b_present b_coming b_cells b_reach, sAr x_p x_v, sSg (sgp b_coming) (sf_a b_coming) ((sf_v b_coming).1) (sf_c b_coming) ((sf_v b_coming).2.1), sAr (sf_c b_coming) ((sf_v b_coming).2.2), sFs (List.erase (List.range 2) b_coming) sgp sf_a sf_c sf_v] : List ZW).flatten) (z_focP (n := 5) (A := [sBk sgp b_p b_a b_isKnown x_p b_adjacent b_labels b_present b_coming b_cells b_reach, sAr x_p x_v]) (B := []) (E := [sSg (sgp b_coming) (sf_a b_coming) ((sf_v b_coming).1) (sf_c b_coming) ((sf_v b_coming).2.1), sAr (sf_c b_coming) ((sf_v b_coming).2.2)]) (X2 := sFs (List.erase (List.range 2) b_coming) sgp sf_a sf_c sf_v) (z_foFs (List.mem_range.mpr hj12)) [0, 1, 2, 3, 4] rfl rfl (by decide) rfl) ?_
      obtain ⟨u13, hu13, h⟩ := z_bind h
      refine Go.vs zk_X0_decideAll zm_X7_clear [2] [0, 1, 3, 4] 0 7 5 (S := [sBk sgp b_p b_a b_isKnown x_p b_adjacent b_labels b_present b_coming b_cells b_reach, sAr x_p x_v, sSg (sgp b_coming) (sf_a b_coming) ((sf_v b_coming).1) (sf_c b_coming) ((sf_v b_coming).2.1), sAr (sf_c b_coming) ((sf_v b_coming).2.2), sFs (List.erase (List.range 2) b_coming) sgp sf_a sf_c sf_v]) (S2 := [sBk sgp b_p b_a b_isKnown x_p b_adjacent b_labels b_present b_coming b_cells b_reach, sAr x_p x_v, sSg (sgp b_coming) (sf_a b_coming) ((sf_v b_coming).1) (sf_c b_coming) u13, sAr (sf_c b_coming) ((sf_v b_coming).2.2), sFs (List.erase (List.range 2) b_coming) sgp sf_a sf_c sf_v]) (As := []) (rest := []) (st2 := []) (v1 := none) rfl zl_X0_81 zv_X7_clear ⟨Nat.le_of_ble_eq_true rfl, Nat.le_of_ble_eq_true rfl⟩ rfl (by decide) rfl rfl rfl rfl rfl (Nat.le_of_ble_eq_true rfl) (t_X7_clear hu13) rfl rfl rfl ?_
      refine Go.perm (w2 := ([sBk sgp b_p b_a b_isKnown x_p b_adjacent b_labels b_present b_coming b_cells b_reach, sAr x_p x_v, sFs (List.range 2) sgp sf_a sf_c (va_up sf_v b_coming ((sf_v b_coming).1, u13, (sf_v b_coming).2.2))] : List ZW).flatten) (z_focP (n := 5) (A := [sBk sgp b_p b_a b_isKnown x_p b_adjacent b_labels b_present b_coming b_cells b_reach, sAr x_p x_v]) (B := []) (E := [sSg (sgp b_coming) (sf_a b_coming) ((sf_v b_coming).1) (sf_c b_coming) u13, sAr (sf_c b_coming) ((sf_v b_coming).2.2)]) (X2 := sFs (List.erase (List.range 2) b_coming) sgp sf_a sf_c sf_v) (z_unFs (List.mem_range.mpr hj12) List.nodup_range) [0, 1, 2, 3, 4] rfl rfl (by decide) rfl).symm ?_
      refine Go.blk zk_X0_decideAll [0, 0] (z' := (33, [some (.ref b_p), some (.int v1), some (.int v2), some (.int 0)], [], ([sBk sgp b_p b_a b_isKnown x_p b_adjacent b_labels b_present b_coming b_cells b_reach, sAr x_p x_v, sFs (List.range 2) sgp sf_a sf_c (va_up sf_v b_coming ((sf_v b_coming).1, u13, (sf_v b_coming).2.2))] : List ZW).flatten)) rfl trivial ?_
      obtain ⟨e19, he19, h⟩ := z_bind h
      refine t_X0_decideAll_L33 N _ _ _ _ _ he19 ?_
      refine Go.blk zk_X0_decideAll [0, 0, 0, 0, 0, 0] (z' := (76, [some (.ref b_p), some (.int v1), some (.int v2), some (.ref (sgp b_present))], [.ref (sgp b_coming), .ref b_p], ([sBk sgp b_p b_a b_isKnown x_p b_adjacent e19.1 b_present b_coming b_cells b_reach, sAr x_p e19.2.1, sFs (List.range 2) sgp sf_a sf_c e19.2.2] : List ZW).flatten)) rfl ⟨rfl, rfl, trivial⟩ ?_
      refine Go.put zk_X0_decideAll 0 rfl rfl rfl rfl rfl (Nat.le_of_ble_eq_true rfl) ?_
      refine Go.eqz (z2 := (79, [some (.ref b_p), some (.int v1), some (.int v2), some (.ref (sgp b_present))], [], ([sBk sgp b_p b_a b_isKnown x_p b_adjacent e19.1 b_coming b_coming b_cells b_reach, sAr x_p e19.2.1, sFs (List.range 2) sgp sf_a sf_c e19.2.2] : List ZW).flatten)) rfl ?_
      refine Go.blk zk_X0_decideAll [0, 0] (z' := (81, [some (.ref b_p), some (.int v1), some (.int v2), some (.ref (sgp b_present))], [.ref (sgp b_present), .ref b_p], ([sBk sgp b_p b_a b_isKnown x_p b_adjacent e19.1 b_coming b_coming b_cells b_reach, sAr x_p e19.2.1, sFs (List.range 2) sgp sf_a sf_c e19.2.2] : List ZW).flatten)) rfl trivial ?_
      refine Go.put zk_X0_decideAll 0 rfl rfl rfl rfl rfl (Nat.le_of_ble_eq_true rfl) ?_
      refine Go.eqz (z2 := (84, [some (.ref b_p), some (.int v1), some (.int v2), some (.ref (sgp b_present))], [], ([sBk sgp b_p b_a b_isKnown x_p b_adjacent e19.1 b_coming b_present b_cells b_reach, sAr x_p e19.2.1, sFs (List.range 2) sgp sf_a sf_c e19.2.2] : List ZW).flatten)) rfl ?_
      refine Go.blk zk_X0_decideAll [0, 0] (z' := (16, [some (.ref b_p), some (.int v1), some (.int (v2 + 1)), some (.ref (sgp b_present))], [], ([sBk sgp b_p b_a b_isKnown x_p b_adjacent e19.1 b_coming b_present b_cells b_reach, sAr x_p e19.2.1, sFs (List.range 2) sgp sf_a sf_c e19.2.2] : List ZW).flatten)) rfl trivial ?_
      refine Go.weak (L := [some (.ref b_p), some (.int v1), some (.int (v2 + 1)), some (.ref (sgp b_present))]) (L' := [some (.ref b_p), some (.int v1), some (.int (v2 + 1)), none]) (And.intro rfl (And.intro rfl (And.intro rfl (trivial)))) ?_
      exact ih _ _ _ _ _ _ _ h kk
    · rw [if_neg hc10] at h
      refine Go.br zk_X0_decideAll rfl rfl (fun q => absurd q hc10) (fun _ => ?_)
      obtain rfl := Option.some.inj h
      refine Go.weak (L := [some (.ref b_p), some (.int v1), some (.int v2), none]) (L' := [none, none, none, none]) (trivial) ?_
      exact kk
set_option maxHeartbeats 4000000 in
set_option maxRecDepth 100000 in
theorem t_X0_decideAll {N : Nat} {b_p : Nat} {b_a : Nat → Nat} {b_isKnown : List Int32} {b_adjacent : List Int32} {b_labels : List Int32} {b_present : Nat} {b_coming : Nat} {b_cells : Int32} {b_reach : Int32} {x_p : Nat} {x_v : List Int32} {sf_a : Nat → Nat → Nat} {sf_c : Nat → Nat} {sf_v : Nat → List Int64 × Int32 × List Int32} {sgp : Nat → Nat} {i1 : Int32} {u : (List Int32) × Nat × Nat × (List Int32) × (Nat → List Int64 × Int32 × List Int32)}  (h : f_X0_decideAll N i1 b_adjacent b_labels b_present b_coming b_cells b_reach x_v sf_v = some u) : Ct l D r (z_rl xs) zm_X0_decideAll 0 0 [.ref b_p, .int i1] ([sBk sgp b_p b_a b_isKnown x_p b_adjacent b_labels b_present b_coming b_cells b_reach, sAr x_p x_v, sFs (List.range 2) sgp sf_a sf_c sf_v] : List ZW).flatten (fun v' w' => v' = none ∧ w' = ([sBk sgp b_p b_a b_isKnown x_p b_adjacent u.1 u.2.1 u.2.2.1 b_cells b_reach, sAr x_p u.2.2.2.1, sFs (List.range 2) sgp sf_a sf_c u.2.2.2.2] : List ZW).flatten) := by
  refine Ct.of (by decide +kernel) rfl (fun q => absurd q (by decide)) (Nat.le_of_ble_eq_true rfl) ?_
  refine Go.eqz (z2 := (0, [some (.ref b_p), some (.int i1), none, none], [], ([sBk sgp b_p b_a b_isKnown x_p b_adjacent b_labels b_present b_coming b_cells b_reach, sAr x_p x_v, sFs (List.range 2) sgp sf_a sf_c sf_v] : List ZW).flatten)) rfl ?_
  unfold f_X0_decideAll at h
  refine Go.blk zk_X0_decideAll [0, 0] (z' := (4, [some (.ref b_p), some (.int i1), none, none], [.ref (sgp b_present)], ([sBk sgp b_p b_a b_isKnown x_p b_adjacent b_labels b_present b_coming b_cells b_reach, sAr x_p x_v, sFs (List.range 2) sgp sf_a sf_c sf_v] : List ZW).flatten)) rfl ⟨rfl, trivial⟩ ?_
  by_cases hj6 : b_present < 2
  case neg => rw [if_neg hj6] at h; cases h
  rw [if_pos hj6] at h
  refine Go.perm (w2 := ([sBk sgp b_p b_a b_isKnown x_p b_adjacent b_labels b_present b_coming b_cells b_reach, sAr x_p x_v, sSg (sgp b_present) (sf_a b_present) ((sf_v b_present).1) (sf_c b_present) ((sf_v b_present).2.1), sAr (sf_c b_present) ((sf_v b_present).2.2), sFs (List.erase (List.range 2) b_present) sgp sf_a sf_c sf_v] : List ZW).flatten) (z_focP (n := 5) (A := [sBk sgp b_p b_a b_isKnown x_p b_adjacent b_labels b_present b_coming b_cells b_reach, sAr x_p x_v]) (B := []) (E := [sSg (sgp b_present) (sf_a b_present) ((sf_v b_present).1) (sf_c b_present) ((sf_v b_present).2.1), sAr (sf_c b_present) ((sf_v b_present).2.2)]) (X2 := sFs (List.erase (List.range 2) b_present) sgp sf_a sf_c sf_v) (z_foFs (List.mem_range.mpr hj6)) [0, 1, 2, 3, 4] rfl rfl (by decide) rfl) ?_
  obtain ⟨u7, hu7, h⟩ := z_bind h
  refine Go.vs zk_X0_decideAll zm_X7_clear [2] [0, 1, 3, 4] 0 7 5 (S := [sBk sgp b_p b_a b_isKnown x_p b_adjacent b_labels b_present b_coming b_cells b_reach, sAr x_p x_v, sSg (sgp b_present) (sf_a b_present) ((sf_v b_present).1) (sf_c b_present) ((sf_v b_present).2.1), sAr (sf_c b_present) ((sf_v b_present).2.2), sFs (List.erase (List.range 2) b_present) sgp sf_a sf_c sf_v]) (S2 := [sBk sgp b_p b_a b_isKnown x_p b_adjacent b_labels b_present b_coming b_cells b_reach, sAr x_p x_v, sSg (sgp b_present) (sf_a b_present) ((sf_v b_present).1) (sf_c b_present) u7, sAr (sf_c b_present) ((sf_v b_present).2.2), sFs (List.erase (List.range 2) b_present) sgp sf_a sf_c sf_v]) (As := []) (rest := []) (st2 := []) (v1 := none) rfl zl_X0_81 zv_X7_clear ⟨Nat.le_of_ble_eq_true rfl, Nat.le_of_ble_eq_true rfl⟩ rfl (by decide) rfl rfl rfl rfl rfl (Nat.le_of_ble_eq_true rfl) (t_X7_clear hu7) rfl rfl rfl ?_
  refine Go.perm (w2 := ([sBk sgp b_p b_a b_isKnown x_p b_adjacent b_labels b_present b_coming b_cells b_reach, sAr x_p x_v, sFs (List.range 2) sgp sf_a sf_c (va_up sf_v b_present ((sf_v b_present).1, u7, (sf_v b_present).2.2))] : List ZW).flatten) (z_focP (n := 5) (A := [sBk sgp b_p b_a b_isKnown x_p b_adjacent b_labels b_present b_coming b_cells b_reach, sAr x_p x_v]) (B := []) (E := [sSg (sgp b_present) (sf_a b_present) ((sf_v b_present).1) (sf_c b_present) u7, sAr (sf_c b_present) ((sf_v b_present).2.2)]) (X2 := sFs (List.erase (List.range 2) b_present) sgp sf_a sf_c sf_v) (z_unFs (List.mem_range.mpr hj6) List.nodup_range) [0, 1, 2, 3, 4] rfl rfl (by decide) rfl).symm ?_
  refine Go.blk zk_X0_decideAll [0, 0] (z' := (11, [some (.ref b_p), some (.int i1), none, none], [.ref (sgp b_present)], ([sBk sgp b_p b_a b_isKnown x_p b_adjacent b_labels b_present b_coming b_cells b_reach, sAr x_p x_v, sFs (List.range 2) sgp sf_a sf_c (va_up sf_v b_present ((sf_v b_present).1, u7, (sf_v b_present).2.2))] : List ZW).flatten)) rfl ⟨rfl, trivial⟩ ?_
  refine Go.perm (w2 := ([sBk sgp b_p b_a b_isKnown x_p b_adjacent b_labels b_present b_coming b_cells b_reach, sAr x_p x_v, sSg (sgp b_present) (sf_a b_present) (((va_up sf_v b_present ((sf_v b_present).1, u7, (sf_v b_present).2.2)) b_present).1) (sf_c b_present) (((va_up sf_v b_present ((sf_v b_present).1, u7, (sf_v b_present).2.2)) b_present).2.1), sAr (sf_c b_present) (((va_up sf_v b_present ((sf_v b_present).1, u7, (sf_v b_present).2.2)) b_present).2.2), sFs (List.erase (List.range 2) b_present) sgp sf_a sf_c (va_up sf_v b_present ((sf_v b_present).1, u7, (sf_v b_present).2.2))] : List ZW).flatten) (z_focP (n := 5) (A := [sBk sgp b_p b_a b_isKnown x_p b_adjacent b_labels b_present b_coming b_cells b_reach, sAr x_p x_v]) (B := []) (E := [sSg (sgp b_present) (sf_a b_present) (((va_up sf_v b_present ((sf_v b_present).1, u7, (sf_v b_present).2.2)) b_present).1) (sf_c b_present) (((va_up sf_v b_present ((sf_v b_present).1, u7, (sf_v b_present).2.2)) b_present).2.1), sAr (sf_c b_present) (((va_up sf_v b_present ((sf_v b_present).1, u7, (sf_v b_present).2.2)) b_present).2.2)]) (X2 := sFs (List.erase (List.range 2) b_present) sgp sf_a sf_c (va_up sf_v b_present ((sf_v b_present).1, u7, (sf_v b_present).2.2))) (z_foFs (List.mem_range.mpr hj6)) [0, 1, 2, 3, 4] rfl rfl (by decide) rfl) ?_
  obtain ⟨u9, hu9, h⟩ := z_bind h
  refine Go.vs zk_X0_decideAll zm_X7_startEmpty [2, 3] [0, 1, 4] 0 7 5 (S := [sBk sgp b_p b_a b_isKnown x_p b_adjacent b_labels b_present b_coming b_cells b_reach, sAr x_p x_v, sSg (sgp b_present) (sf_a b_present) (((va_up sf_v b_present ((sf_v b_present).1, u7, (sf_v b_present).2.2)) b_present).1) (sf_c b_present) (((va_up sf_v b_present ((sf_v b_present).1, u7, (sf_v b_present).2.2)) b_present).2.1), sAr (sf_c b_present) (((va_up sf_v b_present ((sf_v b_present).1, u7, (sf_v b_present).2.2)) b_present).2.2), sFs (List.erase (List.range 2) b_present) sgp sf_a sf_c (va_up sf_v b_present ((sf_v b_present).1, u7, (sf_v b_present).2.2))]) (S2 := [sBk sgp b_p b_a b_isKnown x_p b_adjacent b_labels b_present b_coming b_cells b_reach, sAr x_p x_v, sSg (sgp b_present) (sf_a b_present) u9.1 (sf_c b_present) u9.2.1, sAr (sf_c b_present) u9.2.2, sFs (List.erase (List.range 2) b_present) sgp sf_a sf_c (va_up sf_v b_present ((sf_v b_present).1, u7, (sf_v b_present).2.2))]) (As := []) (rest := []) (st2 := []) (v1 := none) rfl zl_X0_84 zv_X7_startEmpty ⟨Nat.le_of_ble_eq_true rfl, Nat.le_of_ble_eq_true rfl⟩ rfl (by decide) rfl rfl rfl rfl rfl (Nat.le_of_ble_eq_true rfl) (t_X7_startEmpty hu9) rfl rfl rfl ?_
  refine Go.perm (w2 := ([sBk sgp b_p b_a b_isKnown x_p b_adjacent b_labels b_present b_coming b_cells b_reach, sAr x_p x_v, sFs (List.range 2) sgp sf_a sf_c (va_up (va_up sf_v b_present ((sf_v b_present).1, u7, (sf_v b_present).2.2)) b_present (u9.1, u9.2.1, u9.2.2))] : List ZW).flatten) (z_focP (n := 5) (A := [sBk sgp b_p b_a b_isKnown x_p b_adjacent b_labels b_present b_coming b_cells b_reach, sAr x_p x_v]) (B := []) (E := [sSg (sgp b_present) (sf_a b_present) u9.1 (sf_c b_present) u9.2.1, sAr (sf_c b_present) u9.2.2]) (X2 := sFs (List.erase (List.range 2) b_present) sgp sf_a sf_c (va_up sf_v b_present ((sf_v b_present).1, u7, (sf_v b_present).2.2))) (z_unFs (List.mem_range.mpr hj6) List.nodup_range) [0, 1, 2, 3, 4] rfl rfl (by decide) rfl).symm ?_
  refine Go.blk zk_X0_decideAll [0, 0] (z' := (16, [some (.ref b_p), some (.int i1), some (.int 0), none], [], ([sBk sgp b_p b_a b_isKnown x_p b_adjacent b_labels b_present b_coming b_cells b_reach, sAr x_p x_v, sFs (List.range 2) sgp sf_a sf_c (va_up (va_up sf_v b_present ((sf_v b_present).1, u7, (sf_v b_present).2.2)) b_present (u9.1, u9.2.1, u9.2.2))] : List ZW).flatten)) rfl trivial ?_
  obtain ⟨e20, he20, h⟩ := z_bind h
  refine t_X0_decideAll_L16 N _ _ _ _ _ _ _ he20 ?_
  obtain rfl := Option.some.inj h
  exact Go.vret zk_X0_decideAll rfl rfl ⟨rfl, rfl⟩
set_option maxHeartbeats 4000000 in
set_option maxRecDepth 100000 in
theorem t_X0_sets {N : Nat} {b_p : Nat} {b_a : Nat → Nat} {b_isKnown : List Int32} {b_adjacent : List Int32} {b_labels : List Int32} {b_present : Nat} {b_coming : Nat} {b_cells : Int32} {b_reach : Int32} {g_p : Nat} {g_k : Nat} {x_p : Nat} {x_v : List Int32} {sf_a : Nat → Nat → Nat} {sf_c : Nat → Nat} {sf_v : Nat → List Int64 × Int32 × List Int32} {sgp : Nat → Nat} {i2 : Int32} {i3 : Int32} {i4 : Int32} {u : Int32 × (List Int32) × (List Int32) × (List Int32) × Nat × Nat × Int32 × Int32 × (List Int32) × (Nat → List Int64 × Int32 × List Int32)} (hk_g : g_k < 3) (h : f_X0_sets N i2 i3 i4 b_isKnown b_adjacent b_labels b_present b_coming b_cells b_reach g_k x_v sf_v = some u) : Ct l D r (z_rl xs) zm_X0_sets 0 0 [.ref b_p, .ref g_p, .int i2, .int i3, .int i4] ([sBk sgp b_p b_a b_isKnown x_p b_adjacent b_labels b_present b_coming b_cells b_reach, sLa r g_p g_k, sAr x_p x_v, sFs (List.range 2) sgp sf_a sf_c sf_v] : List ZW).flatten (fun v' w' => v' = some (.int u.1) ∧ w' = ([sBk sgp b_p b_a u.2.1 x_p u.2.2.1 u.2.2.2.1 u.2.2.2.2.1 u.2.2.2.2.2.1 u.2.2.2.2.2.2.1 u.2.2.2.2.2.2.2.1, sLa r g_p g_k, sAr x_p u.2.2.2.2.2.2.2.2.1, sFs (List.range 2) sgp sf_a sf_c u.2.2.2.2.2.2.2.2.2] : List ZW).flatten) := by
  refine Ct.of (by decide +kernel) rfl (fun q => absurd q (by decide)) (Nat.le_of_ble_eq_true rfl) ?_
  refine Go.eqz (z2 := (0, [some (.ref b_p), some (.ref g_p), some (.int i2), some (.int i3), some (.int i4), none, none, none], [], ([sBk sgp b_p b_a b_isKnown x_p b_adjacent b_labels b_present b_coming b_cells b_reach, sLa r g_p g_k, sAr x_p x_v, sFs (List.range 2) sgp sf_a sf_c sf_v] : List ZW).flatten)) rfl ?_
  unfold f_X0_sets at h
  refine Go.blk zk_X0_sets [0, 0] (z' := (2, [some (.ref b_p), some (.ref g_p), some (.int i2), some (.int i3), some (.int i4), none, none, none], [.int i3, .int i2], ([sBk sgp b_p b_a b_isKnown x_p b_adjacent b_labels b_present b_coming b_cells b_reach, sLa r g_p g_k, sAr x_p x_v, sFs (List.range 2) sgp sf_a sf_c sf_v] : List ZW).flatten)) rfl trivial ?_
  refine Go.mmin zk_X0_sets rfl zl_X0_35 ⟨Nat.le_of_ble_eq_true rfl, Nat.le_of_ble_eq_true rfl⟩ zw_min ?_
  refine Go.blk zk_X0_sets [0, 0, 0] (z' := (9, [some (.ref b_p), some (.ref g_p), some (.int i2), some (.int i3), some (.int i4), some (.int (if i3 < i2 then i3 else i2)), none, none], [.int i3, .int i2], ([sBk sgp b_p b_a b_isKnown x_p b_adjacent b_labels b_present b_coming b_cells b_reach, sLa r g_p g_k, sAr x_p x_v, sFs (List.range 2) sgp sf_a sf_c sf_v] : List ZW).flatten)) rfl trivial ?_
  refine Go.mmax zk_X0_sets rfl zl_X0_41 ⟨Nat.le_of_ble_eq_true rfl, Nat.le_of_ble_eq_true rfl⟩ zw_max ?_
  refine Go.blk zk_X0_sets [0, 0, 4, 0, 0, 0, 0, 0, 0, 0, 0, 0, 0, 0, 0, 0, 0] (z' := (36, [some (.ref b_p), some (.ref g_p), some (.int i2), some (.int i3), some (.int i4), some (.int (if i3 < i2 then i3 else i2)), some (.int (if i2 < i3 then i3 else i2)), some (.int (((((((nI g_k) * 5) + (if i3 < i2 then i3 else i2)) - 1) * 5) + (if i2 < i3 then i3 else i2)) - 1))], [.int (((((((nI g_k) * 5) + (if i3 < i2 then i3 else i2)) - 1) * 5) + (if i2 < i3 then i3 else i2)) - 1)], ([sBk sgp b_p b_a b_isKnown x_p b_adjacent b_labels b_present b_coming b_cells b_reach, sLa r g_p g_k, sAr x_p x_v, sFs (List.range 2) sgp sf_a sf_c sf_v] : List ZW).flatten)) rfl ⟨rfl, trivial⟩ ?_
  by_cases hc1 : (((((((nI g_k) * 5) + (if i3 < i2 then i3 else i2)) - 1) * 5) + (if i2 < i3 then i3 else i2)) - 1) < 0
  · rw [if_pos hc1] at h
    refine Go.br zk_X0_sets rfl rfl (fun _ => ?_) (fun q => absurd hc1 q)
    refine Go.blk zk_X0_sets [0] (z' := (59, [some (.ref b_p), some (.ref g_p), some (.int i2), some (.int i3), some (.int i4), some (.int (if i3 < i2 then i3 else i2)), some (.int (if i2 < i3 then i3 else i2)), some (.int (((((((nI g_k) * 5) + (if i3 < i2 then i3 else i2)) - 1) * 5) + (if i2 < i3 then i3 else i2)) - 1))], [.int 0], ([sBk sgp b_p b_a b_isKnown x_p b_adjacent b_labels b_present b_coming b_cells b_reach, sLa r g_p g_k, sAr x_p x_v, sFs (List.range 2) sgp sf_a sf_c sf_v] : List ZW).flatten)) rfl trivial ?_
    obtain rfl := Option.some.inj h
    exact Go.iret zk_X0_sets rfl rfl rfl ⟨rfl, rfl⟩
  · rw [if_neg hc1] at h
    refine Go.br zk_X0_sets rfl rfl (fun q => absurd q hc1) (fun _ => ?_)
    refine Go.blk zk_X0_sets [0, 0] (z' := (43, [some (.ref b_p), some (.ref g_p), some (.int i2), some (.int i3), some (.int i4), some (.int (if i3 < i2 then i3 else i2)), some (.int (if i2 < i3 then i3 else i2)), some (.int (((((((nI g_k) * 5) + (if i3 < i2 then i3 else i2)) - 1) * 5) + (if i2 < i3 then i3 else i2)) - 1))], [.int 75, .int (((((((nI g_k) * 5) + (if i3 < i2 then i3 else i2)) - 1) * 5) + (if i2 < i3 then i3 else i2)) - 1)], ([sBk sgp b_p b_a b_isKnown x_p b_adjacent b_labels b_present b_coming b_cells b_reach, sLa r g_p g_k, sAr x_p x_v, sFs (List.range 2) sgp sf_a sf_c sf_v] : List ZW).flatten)) rfl trivial ?_
    by_cases hc2 : (((((((nI g_k) * 5) + (if i3 < i2 then i3 else i2)) - 1) * 5) + (if i2 < i3 then i3 else i2)) - 1) < 75
    · rw [if_pos hc2] at h
      refine Go.br zk_X0_sets rfl rfl (fun _ => ?_) (fun q => absurd hc2 q)
      refine Go.blk zk_X0_sets [0] (z' := (48, [some (.ref b_p), some (.ref g_p), some (.int i2), some (.int i3), some (.int i4), some (.int (if i3 < i2 then i3 else i2)), some (.int (if i2 < i3 then i3 else i2)), some (.int (((((((nI g_k) * 5) + (if i3 < i2 then i3 else i2)) - 1) * 5) + (if i2 < i3 then i3 else i2)) - 1))], [.int i4], ([sBk sgp b_p b_a b_isKnown x_p b_adjacent b_labels b_present b_coming b_cells b_reach, sLa r g_p g_k, sAr x_p x_v, sFs (List.range 2) sgp sf_a sf_c sf_v] : List ZW).flatten)) rfl trivial ?_
      by_cases hc3 : i4 < 0
      · rw [if_pos hc3] at h
        refine Go.br zk_X0_sets rfl rfl (fun _ => ?_) (fun q => absurd hc3 q)
        refine Go.blk zk_X0_sets [0] (z' := (59, [some (.ref b_p), some (.ref g_p), some (.int i2), some (.int i3), some (.int i4), some (.int (if i3 < i2 then i3 else i2)), some (.int (if i2 < i3 then i3 else i2)), some (.int (((((((nI g_k) * 5) + (if i3 < i2 then i3 else i2)) - 1) * 5) + (if i2 < i3 then i3 else i2)) - 1))], [.int 0], ([sBk sgp b_p b_a b_isKnown x_p b_adjacent b_labels b_present b_coming b_cells b_reach, sLa r g_p g_k, sAr x_p x_v, sFs (List.range 2) sgp sf_a sf_c sf_v] : List ZW).flatten)) rfl trivial ?_
        obtain rfl := Option.some.inj h
        exact Go.iret zk_X0_sets rfl rfl rfl ⟨rfl, rfl⟩
      · rw [if_neg hc3] at h
        refine Go.br zk_X0_sets rfl rfl (fun q => absurd q hc3) (fun _ => ?_)
        refine Go.blk zk_X0_sets [0, 0] (z' := (55, [some (.ref b_p), some (.ref g_p), some (.int i2), some (.int i3), some (.int i4), some (.int (if i3 < i2 then i3 else i2)), some (.int (if i2 < i3 then i3 else i2)), some (.int (((((((nI g_k) * 5) + (if i3 < i2 then i3 else i2)) - 1) * 5) + (if i2 < i3 then i3 else i2)) - 1))], [.int 21, .int i4], ([sBk sgp b_p b_a b_isKnown x_p b_adjacent b_labels b_present b_coming b_cells b_reach, sLa r g_p g_k, sAr x_p x_v, sFs (List.range 2) sgp sf_a sf_c sf_v] : List ZW).flatten)) rfl trivial ?_
        by_cases hc4 : i4 < 21
        · rw [if_pos hc4] at h
          refine Go.br zk_X0_sets rfl rfl (fun _ => ?_) (fun q => absurd hc4 q)
          refine Go.blk zk_X0_sets [0, 0, 0] (z' := (66, [some (.ref b_p), some (.ref g_p), some (.int i2), some (.int i3), some (.int i4), some (.int (if i3 < i2 then i3 else i2)), some (.int (if i2 < i3 then i3 else i2)), some (.int (((((((nI g_k) * 5) + (if i3 < i2 then i3 else i2)) - 1) * 5) + (if i2 < i3 then i3 else i2)) - 1))], [.int (((((((nI g_k) * 5) + (if i3 < i2 then i3 else i2)) - 1) * 5) + (if i2 < i3 then i3 else i2)) - 1), .ref (b_a 0)], ([sBk sgp b_p b_a b_isKnown x_p b_adjacent b_labels b_present b_coming b_cells b_reach, sLa r g_p g_k, sAr x_p x_v, sFs (List.range 2) sgp sf_a sf_c sf_v] : List ZW).flatten)) rfl ⟨rfl, trivial⟩ ?_
          obtain ⟨x5, hx5, h⟩ := z_bind h
          refine Go.zald zk_X0_sets 1 rfl rfl rfl hx5 ?_
          by_cases hc6 : x5 = 0
          · rw [if_pos hc6] at h
            refine Go.br zk_X0_sets rfl rfl (fun _ => ?_) (fun q => absurd hc6 q)
            refine Go.blk zk_X0_sets [0, 0, 0, 0] (z' := (76, [some (.ref b_p), some (.ref g_p), some (.int i2), some (.int i3), some (.int i4), some (.int (if i3 < i2 then i3 else i2)), some (.int (if i2 < i3 then i3 else i2)), some (.int (((((((nI g_k) * 5) + (if i3 < i2 then i3 else i2)) - 1) * 5) + (if i2 < i3 then i3 else i2)) - 1))], [.int (if i2 < i3 then i3 else i2), .int (if i3 < i2 then i3 else i2), .ref g_p, .ref b_p], ([sBk sgp b_p b_a b_isKnown x_p b_adjacent b_labels b_present b_coming b_cells b_reach, sLa r g_p g_k, sAr x_p x_v, sFs (List.range 2) sgp sf_a sf_c sf_v] : List ZW).flatten)) rfl trivial ?_
            obtain ⟨u7, hu7, h⟩ := z_bind h
            refine Go.vs zk_X0_sets zm_X0_layOut [0, 1] [2, 3] 0 0 4 (S := [sBk sgp b_p b_a b_isKnown x_p b_adjacent b_labels b_present b_coming b_cells b_reach, sLa r g_p g_k, sAr x_p x_v, sFs (List.range 2) sgp sf_a sf_c sf_v]) (S2 := [sBk sgp b_p b_a b_isKnown x_p u7.1 b_labels b_present b_coming u7.2.1 u7.2.2, sLa r g_p g_k, sAr x_p x_v, sFs (List.range 2) sgp sf_a sf_c sf_v]) (As := [.ref g_p, .int (if i3 < i2 then i3 else i2), .int (if i2 < i3 then i3 else i2)]) (rest := []) (st2 := []) (v1 := none) rfl zl_X0_50 zv_X0_layOut ⟨Nat.le_of_ble_eq_true rfl, Nat.le_of_ble_eq_true rfl⟩ rfl (by decide) rfl rfl rfl rfl rfl (Nat.le_of_ble_eq_true rfl) (t_X0_layOut hk_g hu7) rfl rfl rfl ?_
            refine Go.blk zk_X0_sets [0, 0, 0, 0] (z' := (85, [some (.ref b_p), some (.ref g_p), some (.int i2), some (.int i3), some (.int i4), some (.int (if i3 < i2 then i3 else i2)), some (.int (if i2 < i3 then i3 else i2)), some (.int (((((((nI g_k) * 5) + (if i3 < i2 then i3 else i2)) - 1) * 5) + (if i2 < i3 then i3 else i2)) - 1))], [.int ((((((((nI g_k) * 5) + (if i3 < i2 then i3 else i2)) - 1) * 5) + (if i2 < i3 then i3 else i2)) - 1) * 21), .ref b_p], ([sBk sgp b_p b_a b_isKnown x_p u7.1 b_labels b_present b_coming u7.2.1 u7.2.2, sLa r g_p g_k, sAr x_p x_v, sFs (List.range 2) sgp sf_a sf_c sf_v] : List ZW).flatten)) rfl trivial ?_
            obtain ⟨u8, hu8, h⟩ := z_bind h
            refine Go.vs zk_X0_sets zm_X0_decideAll [0, 2, 3] [1] 0 0 4 (S := [sBk sgp b_p b_a b_isKnown x_p u7.1 b_labels b_present b_coming u7.2.1 u7.2.2, sLa r g_p g_k, sAr x_p x_v, sFs (List.range 2) sgp sf_a sf_c sf_v]) (S2 := [sBk sgp b_p b_a b_isKnown x_p u7.1 u8.1 u8.2.1 u8.2.2.1 u7.2.1 u7.2.2, sLa r g_p g_k, sAr x_p u8.2.2.2.1, sFs (List.range 2) sgp sf_a sf_c u8.2.2.2.2]) (As := [.int ((((((((nI g_k) * 5) + (if i3 < i2 then i3 else i2)) - 1) * 5) + (if i2 < i3 then i3 else i2)) - 1) * 21)]) (rest := []) (st2 := []) (v1 := none) rfl zl_X0_54 zv_X0_decideAll ⟨Nat.le_of_ble_eq_true rfl, Nat.le_of_ble_eq_true rfl⟩ rfl (by decide) rfl rfl rfl rfl rfl (Nat.le_of_ble_eq_true rfl) (t_X0_decideAll hu8) rfl rfl rfl ?_
            refine Go.blk zk_X0_sets [0, 0, 0, 0] (z' := (95, [some (.ref b_p), some (.ref g_p), some (.int i2), some (.int i3), some (.int i4), some (.int (if i3 < i2 then i3 else i2)), some (.int (if i2 < i3 then i3 else i2)), some (.int (((((((nI g_k) * 5) + (if i3 < i2 then i3 else i2)) - 1) * 5) + (if i2 < i3 then i3 else i2)) - 1))], [.int 1, .int (((((((nI g_k) * 5) + (if i3 < i2 then i3 else i2)) - 1) * 5) + (if i2 < i3 then i3 else i2)) - 1), .ref (b_a 0)], ([sBk sgp b_p b_a b_isKnown x_p u7.1 u8.1 u8.2.1 u8.2.2.1 u7.2.1 u7.2.2, sLa r g_p g_k, sAr x_p u8.2.2.2.1, sFs (List.range 2) sgp sf_a sf_c u8.2.2.2.2] : List ZW).flatten)) rfl ⟨rfl, trivial⟩ ?_
            obtain ⟨t9, ht9, h⟩ := z_bind h
            refine Go.zast zk_X0_sets 1 rfl rfl rfl ht9 ?_
            refine Go.eqz (z2 := (96, [some (.ref b_p), some (.ref g_p), some (.int i2), some (.int i3), some (.int i4), some (.int (if i3 < i2 then i3 else i2)), some (.int (if i2 < i3 then i3 else i2)), some (.int (((((((nI g_k) * 5) + (if i3 < i2 then i3 else i2)) - 1) * 5) + (if i2 < i3 then i3 else i2)) - 1))], [], ([sBk sgp b_p b_a t9 x_p u7.1 u8.1 u8.2.1 u8.2.2.1 u7.2.1 u7.2.2, sLa r g_p g_k, sAr x_p u8.2.2.2.1, sFs (List.range 2) sgp sf_a sf_c u8.2.2.2.2] : List ZW).flatten)) rfl ?_
            refine Go.blk zk_X0_sets [0, 0, 0, 0, 0, 0, 0] (z' := (108, [some (.ref b_p), some (.ref g_p), some (.int i2), some (.int i3), some (.int i4), some (.int (if i3 < i2 then i3 else i2)), some (.int (if i2 < i3 then i3 else i2)), some (.int (((((((nI g_k) * 5) + (if i3 < i2 then i3 else i2)) - 1) * 5) + (if i2 < i3 then i3 else i2)) - 1))], [.int (((((((((nI g_k) * 5) + (if i3 < i2 then i3 else i2)) - 1) * 5) + (if i2 < i3 then i3 else i2)) - 1) * 21) + i4), .ref x_p], ([sBk sgp b_p b_a t9 x_p u7.1 u8.1 u8.2.1 u8.2.2.1 u7.2.1 u7.2.2, sLa r g_p g_k, sAr x_p u8.2.2.2.1, sFs (List.range 2) sgp sf_a sf_c u8.2.2.2.2] : List ZW).flatten)) rfl ⟨rfl, trivial⟩ ?_
            obtain ⟨x10, hx10, h⟩ := z_bind h
            refine Go.iald zk_X0_sets 5 rfl rfl rfl hx10 ?_
            obtain rfl := Option.some.inj h
            exact Go.iret zk_X0_sets rfl rfl rfl ⟨rfl, rfl⟩
          · rw [if_neg hc6] at h
            refine Go.br zk_X0_sets rfl rfl (fun q => absurd q hc6) (fun _ => ?_)
            refine Go.blk zk_X0_sets [0, 0, 0, 0, 0, 0, 0] (z' := (108, [some (.ref b_p), some (.ref g_p), some (.int i2), some (.int i3), some (.int i4), some (.int (if i3 < i2 then i3 else i2)), some (.int (if i2 < i3 then i3 else i2)), some (.int (((((((nI g_k) * 5) + (if i3 < i2 then i3 else i2)) - 1) * 5) + (if i2 < i3 then i3 else i2)) - 1))], [.int (((((((((nI g_k) * 5) + (if i3 < i2 then i3 else i2)) - 1) * 5) + (if i2 < i3 then i3 else i2)) - 1) * 21) + i4), .ref x_p], ([sBk sgp b_p b_a b_isKnown x_p b_adjacent b_labels b_present b_coming b_cells b_reach, sLa r g_p g_k, sAr x_p x_v, sFs (List.range 2) sgp sf_a sf_c sf_v] : List ZW).flatten)) rfl ⟨rfl, trivial⟩ ?_
            obtain ⟨x11, hx11, h⟩ := z_bind h
            refine Go.iald zk_X0_sets 5 rfl rfl rfl hx11 ?_
            obtain rfl := Option.some.inj h
            exact Go.iret zk_X0_sets rfl rfl rfl ⟨rfl, rfl⟩
        · rw [if_neg hc4] at h
          refine Go.br zk_X0_sets rfl rfl (fun q => absurd q hc4) (fun _ => ?_)
          refine Go.blk zk_X0_sets [0] (z' := (59, [some (.ref b_p), some (.ref g_p), some (.int i2), some (.int i3), some (.int i4), some (.int (if i3 < i2 then i3 else i2)), some (.int (if i2 < i3 then i3 else i2)), some (.int (((((((nI g_k) * 5) + (if i3 < i2 then i3 else i2)) - 1) * 5) + (if i2 < i3 then i3 else i2)) - 1))], [.int 0], ([sBk sgp b_p b_a b_isKnown x_p b_adjacent b_labels b_present b_coming b_cells b_reach, sLa r g_p g_k, sAr x_p x_v, sFs (List.range 2) sgp sf_a sf_c sf_v] : List ZW).flatten)) rfl trivial ?_
          obtain rfl := Option.some.inj h
          exact Go.iret zk_X0_sets rfl rfl rfl ⟨rfl, rfl⟩
    · rw [if_neg hc2] at h
      refine Go.br zk_X0_sets rfl rfl (fun q => absurd q hc2) (fun _ => ?_)
      refine Go.blk zk_X0_sets [0] (z' := (59, [some (.ref b_p), some (.ref g_p), some (.int i2), some (.int i3), some (.int i4), some (.int (if i3 < i2 then i3 else i2)), some (.int (if i2 < i3 then i3 else i2)), some (.int (((((((nI g_k) * 5) + (if i3 < i2 then i3 else i2)) - 1) * 5) + (if i2 < i3 then i3 else i2)) - 1))], [.int 0], ([sBk sgp b_p b_a b_isKnown x_p b_adjacent b_labels b_present b_coming b_cells b_reach, sLa r g_p g_k, sAr x_p x_v, sFs (List.range 2) sgp sf_a sf_c sf_v] : List ZW).flatten)) rfl trivial ?_
      obtain rfl := Option.some.inj h
      exact Go.iret zk_X0_sets rfl rfl rfl ⟨rfl, rfl⟩
end
