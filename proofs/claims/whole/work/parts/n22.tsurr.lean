section
variable {l : Launch} {D : va_G} {r : Nat → Nat} {xs : List Int32}
set_option maxHeartbeats 4000000 in
set_option maxRecDepth 100000 in
theorem t_X9_placeOf {N : Nat} {s_p : Nat} {s_a : Nat → Nat} {s_marks : List Int32} {s_queue : List Int32} {s_columns : Int32} {s_rows : Int32} {s_sides : Int32} {s_borderCells : Int32} {s_outerCells : Int32} {s_holes : Int32} {s_holeCells : Int32} {i1 : Int32} {i2 : Int32} {i3 : Int32} {u : Int32}  (h : f_X9_placeOf N i1 i2 i3 s_columns s_rows = some u) : Ct l D r (z_rl xs) zm_X9_placeOf 0 0 [.ref s_p, .int i1, .int i2, .int i3] ([sSu s_p s_a s_marks s_queue s_columns s_rows s_sides s_borderCells s_outerCells s_holes s_holeCells] : List ZW).flatten (fun v' w' => v' = some (.int u) ∧ w' = ([sSu s_p s_a s_marks s_queue s_columns s_rows s_sides s_borderCells s_outerCells s_holes s_holeCells] : List ZW).flatten) := by
  refine Ct.of (by decide +kernel) rfl (fun q => absurd q (by decide)) (Nat.le_of_ble_eq_true rfl) ?_
  refine Go.eqz (z2 := (0, [some (.ref s_p), some (.int i1), some (.int i2), some (.int i3)], [], ([sSu s_p s_a s_marks s_queue s_columns s_rows s_sides s_borderCells s_outerCells s_holes s_holeCells] : List ZW).flatten)) rfl ?_
  unfold f_X9_placeOf at h
  refine Go.blk zk_X9_placeOf [0, 0] (z' := (2, [some (.ref s_p), some (.int i1), some (.int i2), some (.int i3)], [.int (-1), .int i1], ([sSu s_p s_a s_marks s_queue s_columns s_rows s_sides s_borderCells s_outerCells s_holes s_holeCells] : List ZW).flatten)) rfl trivial ?_
  by_cases hc1 : i1 < (-1)
  · rw [if_pos hc1] at h
    refine Go.br zk_X9_placeOf rfl rfl (fun _ => ?_) (fun q => absurd hc1 q)
    refine Go.blk zk_X9_placeOf [0] (z' := (31, [some (.ref s_p), some (.int i1), some (.int i2), some (.int i3)], [.int (-1)], ([sSu s_p s_a s_marks s_queue s_columns s_rows s_sides s_borderCells s_outerCells s_holes s_holeCells] : List ZW).flatten)) rfl trivial ?_
    obtain rfl := Option.some.inj h
    exact Go.iret zk_X9_placeOf rfl rfl rfl ⟨rfl, rfl⟩
  · rw [if_neg hc1] at h
    refine Go.br zk_X9_placeOf rfl rfl (fun q => absurd q hc1) (fun _ => ?_)
    refine Go.blk zk_X9_placeOf [0, 0, 0, 0, 0] (z' := (12, [some (.ref s_p), some (.int i1), some (.int i2), some (.int i3)], [.int (s_columns - 2), .int i1], ([sSu s_p s_a s_marks s_queue s_columns s_rows s_sides s_borderCells s_outerCells s_holes s_holeCells] : List ZW).flatten)) rfl ⟨rfl, trivial⟩ ?_
    by_cases hc2 : (s_columns - 2) < i1
    · rw [if_pos hc2] at h
      refine Go.br zk_X9_placeOf rfl rfl (fun _ => ?_) (fun q => absurd hc2 q)
      refine Go.blk zk_X9_placeOf [0] (z' := (31, [some (.ref s_p), some (.int i1), some (.int i2), some (.int i3)], [.int (-1)], ([sSu s_p s_a s_marks s_queue s_columns s_rows s_sides s_borderCells s_outerCells s_holes s_holeCells] : List ZW).flatten)) rfl trivial ?_
      obtain rfl := Option.some.inj h
      exact Go.iret zk_X9_placeOf rfl rfl rfl ⟨rfl, rfl⟩
    · rw [if_neg hc2] at h
      refine Go.br zk_X9_placeOf rfl rfl (fun q => absurd q hc2) (fun _ => ?_)
      refine Go.blk zk_X9_placeOf [0, 0] (z' := (17, [some (.ref s_p), some (.int i1), some (.int i2), some (.int i3)], [.int (-1), .int i2], ([sSu s_p s_a s_marks s_queue s_columns s_rows s_sides s_borderCells s_outerCells s_holes s_holeCells] : List ZW).flatten)) rfl trivial ?_
      by_cases hc3 : i2 < (-1)
      · rw [if_pos hc3] at h
        refine Go.br zk_X9_placeOf rfl rfl (fun _ => ?_) (fun q => absurd hc3 q)
        refine Go.blk zk_X9_placeOf [0] (z' := (31, [some (.ref s_p), some (.int i1), some (.int i2), some (.int i3)], [.int (-1)], ([sSu s_p s_a s_marks s_queue s_columns s_rows s_sides s_borderCells s_outerCells s_holes s_holeCells] : List ZW).flatten)) rfl trivial ?_
        obtain rfl := Option.some.inj h
        exact Go.iret zk_X9_placeOf rfl rfl rfl ⟨rfl, rfl⟩
      · rw [if_neg hc3] at h
        refine Go.br zk_X9_placeOf rfl rfl (fun q => absurd q hc3) (fun _ => ?_)
        refine Go.blk zk_X9_placeOf [0, 0, 0, 0, 0] (z' := (27, [some (.ref s_p), some (.int i1), some (.int i2), some (.int i3)], [.int (s_rows - 2), .int i2], ([sSu s_p s_a s_marks s_queue s_columns s_rows s_sides s_borderCells s_outerCells s_holes s_holeCells] : List ZW).flatten)) rfl ⟨rfl, trivial⟩ ?_
        by_cases hc4 : (s_rows - 2) < i2
        · rw [if_pos hc4] at h
          refine Go.br zk_X9_placeOf rfl rfl (fun _ => ?_) (fun q => absurd hc4 q)
          refine Go.blk zk_X9_placeOf [0] (z' := (31, [some (.ref s_p), some (.int i1), some (.int i2), some (.int i3)], [.int (-1)], ([sSu s_p s_a s_marks s_queue s_columns s_rows s_sides s_borderCells s_outerCells s_holes s_holeCells] : List ZW).flatten)) rfl trivial ?_
          obtain rfl := Option.some.inj h
          exact Go.iret zk_X9_placeOf rfl rfl rfl ⟨rfl, rfl⟩
        · rw [if_neg hc4] at h
          refine Go.br zk_X9_placeOf rfl rfl (fun q => absurd q hc4) (fun _ => ?_)
          refine Go.blk zk_X9_placeOf [0, 0, 0, 0, 0, 0, 0, 0, 0, 0, 0, 0, 0] (z' := (45, [some (.ref s_p), some (.int i1), some (.int i2), some (.int i3)], [.int ((((i2 + 1) <<< (5 &&& 31)) + ((i1 + 1) <<< (1 &&& 31))) + i3)], ([sSu s_p s_a s_marks s_queue s_columns s_rows s_sides s_borderCells s_outerCells s_holes s_holeCells] : List ZW).flatten)) rfl trivial ?_
          obtain rfl := Option.some.inj h
          exact Go.iret zk_X9_placeOf rfl rfl rfl ⟨rfl, rfl⟩
set_option maxHeartbeats 4000000 in
set_option maxRecDepth 100000 in
theorem t_X9_neighbourPlace {N : Nat} {s_p : Nat} {s_a : Nat → Nat} {s_marks : List Int32} {s_queue : List Int32} {s_columns : Int32} {s_rows : Int32} {s_sides : Int32} {s_borderCells : Int32} {s_outerCells : Int32} {s_holes : Int32} {s_holeCells : Int32} {g_p : Nat} {g_k : Nat} {i1 : Int32} {i2 : Int32} {i3 : Int32} {i4 : Int32} {u : Int32} (hk_g : g_k < 3) (h : f_X9_neighbourPlace N i1 i2 i3 i4 s_columns s_rows g_k = some u) : Ct l D r (z_rl xs) zm_X9_neighbourPlace 0 0 [.ref s_p, .int i1, .int i2, .int i3, .int i4, .ref g_p] ([sSu s_p s_a s_marks s_queue s_columns s_rows s_sides s_borderCells s_outerCells s_holes s_holeCells, sLa r g_p g_k] : List ZW).flatten (fun v' w' => v' = some (.int u) ∧ w' = ([sSu s_p s_a s_marks s_queue s_columns s_rows s_sides s_borderCells s_outerCells s_holes s_holeCells, sLa r g_p g_k] : List ZW).flatten) := by
  refine Ct.of (by decide +kernel) rfl (fun q => absurd q (by decide)) (Nat.le_of_ble_eq_true rfl) ?_
  refine Go.eqz (z2 := (0, [some (.ref s_p), some (.int i1), some (.int i2), some (.int i3), some (.int i4), some (.ref g_p)], [], ([sSu s_p s_a s_marks s_queue s_columns s_rows s_sides s_borderCells s_outerCells s_holes s_holeCells, sLa r g_p g_k] : List ZW).flatten)) rfl ?_
  unfold f_X9_neighbourPlace at h
  refine Go.blk zk_X9_neighbourPlace [0, 0, 0, 0, 0] (z' := (7, [some (.ref s_p), some (.int i1), some (.int i2), some (.int i3), some (.int i4), some (.ref g_p)], [.int i4, .int i3, .int i1, .ref g_p, .ref s_p], ([sSu s_p s_a s_marks s_queue s_columns s_rows s_sides s_borderCells s_outerCells s_holes s_holeCells, sLa r g_p g_k] : List ZW).flatten)) rfl trivial ?_
  obtain ⟨u1, hu1, h⟩ := z_bind h
  refine Go.vs zk_X9_neighbourPlace zm_X6_neighbourQ [1] [0] 0 6 2 (S := [sSu s_p s_a s_marks s_queue s_columns s_rows s_sides s_borderCells s_outerCells s_holes s_holeCells, sLa r g_p g_k]) (S2 := [sSu s_p s_a s_marks s_queue s_columns s_rows s_sides s_borderCells s_outerCells s_holes s_holeCells, sLa r g_p g_k]) (As := [.int i1, .int i3, .int i4]) (rest := [.ref s_p]) (st2 := [.int u1, .ref s_p]) (v1 := some (.int u1)) rfl zl_X9_69 zv_X6_neighbourQ ⟨Nat.le_of_ble_eq_true rfl, Nat.le_of_ble_eq_true rfl⟩ rfl (by decide) rfl rfl rfl rfl rfl (Nat.le_of_ble_eq_true rfl) (t_X6_neighbourQ hk_g hu1) rfl rfl rfl ?_
  refine Go.blk zk_X9_neighbourPlace [0, 0, 0, 0] (z' := (16, [some (.ref s_p), some (.int i1), some (.int i2), some (.int i3), some (.int i4), some (.ref g_p)], [.int i4, .int i3, .int i2, .ref g_p, .int u1, .ref s_p], ([sSu s_p s_a s_marks s_queue s_columns s_rows s_sides s_borderCells s_outerCells s_holes s_holeCells, sLa r g_p g_k] : List ZW).flatten)) rfl trivial ?_
  obtain ⟨u2, hu2, h⟩ := z_bind h
  refine Go.vs zk_X9_neighbourPlace zm_X6_neighbourR [1] [0] 0 6 2 (S := [sSu s_p s_a s_marks s_queue s_columns s_rows s_sides s_borderCells s_outerCells s_holes s_holeCells, sLa r g_p g_k]) (S2 := [sSu s_p s_a s_marks s_queue s_columns s_rows s_sides s_borderCells s_outerCells s_holes s_holeCells, sLa r g_p g_k]) (As := [.int i2, .int i3, .int i4]) (rest := [.int u1, .ref s_p]) (st2 := [.int u2, .int u1, .ref s_p]) (v1 := some (.int u2)) rfl zl_X9_74 zv_X6_neighbourR ⟨Nat.le_of_ble_eq_true rfl, Nat.le_of_ble_eq_true rfl⟩ rfl (by decide) rfl rfl rfl rfl rfl (Nat.le_of_ble_eq_true rfl) (t_X6_neighbourR hk_g hu2) rfl rfl rfl ?_
  refine Go.blk zk_X9_neighbourPlace [0, 0] (z' := (22, [some (.ref s_p), some (.int i1), some (.int i2), some (.int i3), some (.int i4), some (.ref g_p)], [.int i3, .ref g_p, .int u2, .int u1, .ref s_p], ([sSu s_p s_a s_marks s_queue s_columns s_rows s_sides s_borderCells s_outerCells s_holes s_holeCells, sLa r g_p g_k] : List ZW).flatten)) rfl trivial ?_
  obtain ⟨u3, hu3, h⟩ := z_bind h
  refine Go.vs zk_X9_neighbourPlace zm_X6_neighbourT [1] [0] 0 6 2 (S := [sSu s_p s_a s_marks s_queue s_columns s_rows s_sides s_borderCells s_outerCells s_holes s_holeCells, sLa r g_p g_k]) (S2 := [sSu s_p s_a s_marks s_queue s_columns s_rows s_sides s_borderCells s_outerCells s_holes s_holeCells, sLa r g_p g_k]) (As := [.int i3]) (rest := [.int u2, .int u1, .ref s_p]) (st2 := [.int u3, .int u2, .int u1, .ref s_p]) (v1 := some (.int u3)) rfl zl_X9_77 zv_X6_neighbourT ⟨Nat.le_of_ble_eq_true rfl, Nat.le_of_ble_eq_true rfl⟩ rfl (by decide) rfl rfl rfl rfl rfl (Nat.le_of_ble_eq_true rfl) (t_X6_neighbourT hk_g hu3) rfl rfl rfl ?_
  obtain ⟨u4, hu4, h⟩ := z_bind h
  refine Go.vs zk_X9_neighbourPlace zm_X9_placeOf [0] [1] 0 9 2 (S := [sSu s_p s_a s_marks s_queue s_columns s_rows s_sides s_borderCells s_outerCells s_holes s_holeCells, sLa r g_p g_k]) (S2 := [sSu s_p s_a s_marks s_queue s_columns s_rows s_sides s_borderCells s_outerCells s_holes s_holeCells, sLa r g_p g_k]) (As := [.int u1, .int u2, .int u3]) (rest := []) (st2 := [.int u4]) (v1 := some (.int u4)) rfl zl_X9_22 zv_X9_placeOf ⟨Nat.le_of_ble_eq_true rfl, Nat.le_of_ble_eq_true rfl⟩ rfl (by decide) rfl rfl rfl rfl rfl (Nat.le_of_ble_eq_true rfl) (t_X9_placeOf hu4) rfl rfl rfl ?_
  obtain rfl := Option.some.inj h
  exact Go.iret zk_X9_neighbourPlace rfl rfl rfl ⟨rfl, rfl⟩
set_option maxHeartbeats 4000000 in
set_option maxRecDepth 100000 in
theorem t_X9_flood_L100 {N : Nat} {s_p : Nat} {s_a : Nat → Nat} {s_columns : Int32} {s_rows : Int32} {s_sides : Int32} {s_borderCells : Int32} {s_outerCells : Int32} {s_holes : Int32} {s_holeCells : Int32} {g_p : Nat} {g_k : Nat} {v2 : Int32} {v5 : Int32} {v6 : Int32} {v7 : Int32} {v8 : Int32} (hk_g : g_k < 3) {Q : Option Value → ZW → Prop} : ∀ (fu : Nat) (v4 : Int32) (v9 : Int32) (s_marks : List Int32) (s_queue : List Int32) (e : Int32 × (List Int32) × (List Int32)), f_X9_flood_L100 N v2 v6 v7 v8 s_columns s_rows g_k fu v4 v9 s_marks s_queue = some e → (Go l D r (z_rl xs) zm_X9_flood 0 0 (173, [some (.ref s_p), none, some (.int v2), some (.ref g_p), some (.int e.1), some (.int v5), none, none, none, none, none], [], ([sSu s_p s_a e.2.1 e.2.2 s_columns s_rows s_sides s_borderCells s_outerCells s_holes s_holeCells, sLa r g_p g_k] : List ZW).flatten) Q) → Go l D r (z_rl xs) zm_X9_flood 0 0 (100, [some (.ref s_p), none, some (.int v2), some (.ref g_p), some (.int v4), some (.int v5), some (.int v6), some (.int v7), some (.int v8), some (.int v9), none], [], ([sSu s_p s_a s_marks s_queue s_columns s_rows s_sides s_borderCells s_outerCells s_holes s_holeCells, sLa r g_p g_k] : List ZW).flatten) Q := by
  intro fu
  induction fu with
  | zero =>
    intro v4 v9 s_marks s_queue e h
    simp only [f_X9_flood_L100, reduceCtorEq] at h
  | succ fu ih =>
    intro v4 v9 s_marks s_queue e h kk
    rw [f_X9_flood_L100] at h
    refine Go.blk zk_X9_flood [0, 0, 3] (z' := (106, [some (.ref s_p), none, some (.int v2), some (.ref g_p), some (.int v4), some (.int v5), some (.int v6), some (.int v7), some (.int v8), some (.int v9), none], [.int (zdeg g_k), .int v9], ([sSu s_p s_a s_marks s_queue s_columns s_rows s_sides s_borderCells s_outerCells s_holes s_holeCells, sLa r g_p g_k] : List ZW).flatten)) rfl ⟨rfl, trivial⟩ ?_
    by_cases hc12 : v9 < (zdeg g_k)
    · rw [if_pos hc12] at h
      refine Go.br zk_X9_flood rfl rfl (fun _ => ?_) (fun q => absurd hc12 q)
      refine Go.blk zk_X9_flood [0, 0, 0, 0, 0, 0] (z' := (119, [some (.ref s_p), none, some (.int v2), some (.ref g_p), some (.int v4), some (.int v5), some (.int v6), some (.int v7), some (.int v8), some (.int v9), none], [.ref g_p, .int v9, .int v8, .int v7, .int v6, .ref s_p], ([sSu s_p s_a s_marks s_queue s_columns s_rows s_sides s_borderCells s_outerCells s_holes s_holeCells, sLa r g_p g_k] : List ZW).flatten)) rfl trivial ?_
      obtain ⟨u13, hu13, h⟩ := z_bind h
      refine Go.vs zk_X9_flood zm_X9_neighbourPlace [0, 1] [] 0 9 2 (S := [sSu s_p s_a s_marks s_queue s_columns s_rows s_sides s_borderCells s_outerCells s_holes s_holeCells, sLa r g_p g_k]) (S2 := [sSu s_p s_a s_marks s_queue s_columns s_rows s_sides s_borderCells s_outerCells s_holes s_holeCells, sLa r g_p g_k]) (As := [.int v6, .int v7, .int v8, .int v9, .ref g_p]) (rest := []) (st2 := [.int u13]) (v1 := some (.int u13)) rfl zl_X9_83 zv_X9_neighbourPlace ⟨Nat.le_of_ble_eq_true rfl, Nat.le_of_ble_eq_true rfl⟩ rfl (by decide) rfl rfl rfl rfl rfl (Nat.le_of_ble_eq_true rfl) (t_X9_neighbourPlace hk_g hu13) rfl rfl rfl ?_
      refine Go.blk zk_X9_flood [0, 0] (z' := (126, [some (.ref s_p), none, some (.int v2), some (.ref g_p), some (.int v4), some (.int v5), some (.int v6), some (.int v7), some (.int v8), some (.int v9), some (.int u13)], [.int u13], ([sSu s_p s_a s_marks s_queue s_columns s_rows s_sides s_borderCells s_outerCells s_holes s_holeCells, sLa r g_p g_k] : List ZW).flatten)) rfl trivial ?_
      by_cases hc14 : u13 < 0
      · rw [if_pos hc14] at h
        refine Go.br zk_X9_flood rfl rfl (fun _ => ?_) (fun q => absurd hc14 q)
        refine Go.blk zk_X9_flood [0, 0] (z' := (100, [some (.ref s_p), none, some (.int v2), some (.ref g_p), some (.int v4), some (.int v5), some (.int v6), some (.int v7), some (.int v8), some (.int (v9 + 1)), some (.int u13)], [], ([sSu s_p s_a s_marks s_queue s_columns s_rows s_sides s_borderCells s_outerCells s_holes s_holeCells, sLa r g_p g_k] : List ZW).flatten)) rfl trivial ?_
        refine Go.weak (L := [some (.ref s_p), none, some (.int v2), some (.ref g_p), some (.int v4), some (.int v5), some (.int v6), some (.int v7), some (.int v8), some (.int (v9 + 1)), some (.int u13)]) (L' := [some (.ref s_p), none, some (.int v2), some (.ref g_p), some (.int v4), some (.int v5), some (.int v6), some (.int v7), some (.int v8), some (.int (v9 + 1)), none]) (And.intro rfl (And.intro rfl (And.intro rfl (And.intro rfl (And.intro rfl (And.intro rfl (And.intro rfl (And.intro rfl (And.intro rfl (trivial)))))))))) ?_
        exact ih _ _ _ _ _ h kk
      · rw [if_neg hc14] at h
        refine Go.br zk_X9_flood rfl rfl (fun q => absurd q hc14) (fun _ => ?_)
        refine Go.blk zk_X9_flood [0, 0, 0] (z' := (135, [some (.ref s_p), none, some (.int v2), some (.ref g_p), some (.int v4), some (.int v5), some (.int v6), some (.int v7), some (.int v8), some (.int v9), some (.int u13)], [.int u13, .ref (s_a 0)], ([sSu s_p s_a s_marks s_queue s_columns s_rows s_sides s_borderCells s_outerCells s_holes s_holeCells, sLa r g_p g_k] : List ZW).flatten)) rfl ⟨rfl, trivial⟩ ?_
        obtain ⟨x15, hx15, h⟩ := z_bind h
        refine Go.iald zk_X9_flood 1 rfl rfl rfl hx15 ?_
        by_cases hc16 : x15 = 0
        · rw [if_pos hc16] at h
          refine Go.br zk_X9_flood rfl rfl (fun _ => ?_) (fun q => absurd hc16 q)
          refine Go.blk zk_X9_flood [0, 0] (z' := (144, [some (.ref s_p), none, some (.int v2), some (.ref g_p), some (.int v4), some (.int v5), some (.int v6), some (.int v7), some (.int v8), some (.int v9), some (.int u13)], [.int 384, .int v4], ([sSu s_p s_a s_marks s_queue s_columns s_rows s_sides s_borderCells s_outerCells s_holes s_holeCells, sLa r g_p g_k] : List ZW).flatten)) rfl trivial ?_
          by_cases hc17 : v4 < 384
          · rw [if_pos hc17] at h
            refine Go.br zk_X9_flood rfl rfl (fun _ => ?_) (fun q => absurd hc17 q)
            refine Go.blk zk_X9_flood [0, 0, 0, 0] (z' := (154, [some (.ref s_p), none, some (.int v2), some (.ref g_p), some (.int v4), some (.int v5), some (.int v6), some (.int v7), some (.int v8), some (.int v9), some (.int u13)], [.int v2, .int u13, .ref (s_a 0)], ([sSu s_p s_a s_marks s_queue s_columns s_rows s_sides s_borderCells s_outerCells s_holes s_holeCells, sLa r g_p g_k] : List ZW).flatten)) rfl ⟨rfl, trivial⟩ ?_
            obtain ⟨t18, ht18, h⟩ := z_bind h
            refine Go.iast zk_X9_flood 1 rfl rfl rfl ht18 ?_
            refine Go.eqz (z2 := (155, [some (.ref s_p), none, some (.int v2), some (.ref g_p), some (.int v4), some (.int v5), some (.int v6), some (.int v7), some (.int v8), some (.int v9), some (.int u13)], [], ([sSu s_p s_a t18 s_queue s_columns s_rows s_sides s_borderCells s_outerCells s_holes s_holeCells, sLa r g_p g_k] : List ZW).flatten)) rfl ?_
            refine Go.blk zk_X9_flood [0, 0, 0, 0] (z' := (163, [some (.ref s_p), none, some (.int v2), some (.ref g_p), some (.int v4), some (.int v5), some (.int v6), some (.int v7), some (.int v8), some (.int v9), some (.int u13)], [.int u13, .int v4, .ref (s_a 1)], ([sSu s_p s_a t18 s_queue s_columns s_rows s_sides s_borderCells s_outerCells s_holes s_holeCells, sLa r g_p g_k] : List ZW).flatten)) rfl ⟨rfl, trivial⟩ ?_
            obtain ⟨t19, ht19, h⟩ := z_bind h
            refine Go.iast zk_X9_flood 2 rfl rfl rfl ht19 ?_
            refine Go.eqz (z2 := (164, [some (.ref s_p), none, some (.int v2), some (.ref g_p), some (.int v4), some (.int v5), some (.int v6), some (.int v7), some (.int v8), some (.int v9), some (.int u13)], [], ([sSu s_p s_a t18 t19 s_columns s_rows s_sides s_borderCells s_outerCells s_holes s_holeCells, sLa r g_p g_k] : List ZW).flatten)) rfl ?_
            refine Go.blk zk_X9_flood [0, 0, 0] (z' := (100, [some (.ref s_p), none, some (.int v2), some (.ref g_p), some (.int (v4 + 1)), some (.int v5), some (.int v6), some (.int v7), some (.int v8), some (.int (v9 + 1)), some (.int u13)], [], ([sSu s_p s_a t18 t19 s_columns s_rows s_sides s_borderCells s_outerCells s_holes s_holeCells, sLa r g_p g_k] : List ZW).flatten)) rfl trivial ?_
            refine Go.weak (L := [some (.ref s_p), none, some (.int v2), some (.ref g_p), some (.int (v4 + 1)), some (.int v5), some (.int v6), some (.int v7), some (.int v8), some (.int (v9 + 1)), some (.int u13)]) (L' := [some (.ref s_p), none, some (.int v2), some (.ref g_p), some (.int (v4 + 1)), some (.int v5), some (.int v6), some (.int v7), some (.int v8), some (.int (v9 + 1)), none]) (And.intro rfl (And.intro rfl (And.intro rfl (And.intro rfl (And.intro rfl (And.intro rfl (And.intro rfl (And.intro rfl (And.intro rfl (trivial)))))))))) ?_
            exact ih _ _ _ _ _ h kk
          · rw [if_neg hc17] at h
            refine Go.br zk_X9_flood rfl rfl (fun q => absurd q hc17) (fun _ => ?_)
            refine Go.blk zk_X9_flood [0, 0] (z' := (100, [some (.ref s_p), none, some (.int v2), some (.ref g_p), some (.int v4), some (.int v5), some (.int v6), some (.int v7), some (.int v8), some (.int (v9 + 1)), some (.int u13)], [], ([sSu s_p s_a s_marks s_queue s_columns s_rows s_sides s_borderCells s_outerCells s_holes s_holeCells, sLa r g_p g_k] : List ZW).flatten)) rfl trivial ?_
            refine Go.weak (L := [some (.ref s_p), none, some (.int v2), some (.ref g_p), some (.int v4), some (.int v5), some (.int v6), some (.int v7), some (.int v8), some (.int (v9 + 1)), some (.int u13)]) (L' := [some (.ref s_p), none, some (.int v2), some (.ref g_p), some (.int v4), some (.int v5), some (.int v6), some (.int v7), some (.int v8), some (.int (v9 + 1)), none]) (And.intro rfl (And.intro rfl (And.intro rfl (And.intro rfl (And.intro rfl (And.intro rfl (And.intro rfl (And.intro rfl (And.intro rfl (trivial)))))))))) ?_
            exact ih _ _ _ _ _ h kk
        · rw [if_neg hc16] at h
          refine Go.br zk_X9_flood rfl rfl (fun q => absurd q hc16) (fun _ => ?_)
          refine Go.blk zk_X9_flood [0, 0] (z' := (100, [some (.ref s_p), none, some (.int v2), some (.ref g_p), some (.int v4), some (.int v5), some (.int v6), some (.int v7), some (.int v8), some (.int (v9 + 1)), some (.int u13)], [], ([sSu s_p s_a s_marks s_queue s_columns s_rows s_sides s_borderCells s_outerCells s_holes s_holeCells, sLa r g_p g_k] : List ZW).flatten)) rfl trivial ?_
          refine Go.weak (L := [some (.ref s_p), none, some (.int v2), some (.ref g_p), some (.int v4), some (.int v5), some (.int v6), some (.int v7), some (.int v8), some (.int (v9 + 1)), some (.int u13)]) (L' := [some (.ref s_p), none, some (.int v2), some (.ref g_p), some (.int v4), some (.int v5), some (.int v6), some (.int v7), some (.int v8), some (.int (v9 + 1)), none]) (And.intro rfl (And.intro rfl (And.intro rfl (And.intro rfl (And.intro rfl (And.intro rfl (And.intro rfl (And.intro rfl (And.intro rfl (trivial)))))))))) ?_
          exact ih _ _ _ _ _ h kk
    · rw [if_neg hc12] at h
      refine Go.br zk_X9_flood rfl rfl (fun q => absurd q hc12) (fun _ => ?_)
      obtain rfl := Option.some.inj h
      refine Go.weak (L := [some (.ref s_p), none, some (.int v2), some (.ref g_p), some (.int v4), some (.int v5), some (.int v6), some (.int v7), some (.int v8), some (.int v9), none]) (L' := [some (.ref s_p), none, some (.int v2), some (.ref g_p), some (.int v4), some (.int v5), none, none, none, none, none]) (And.intro rfl (And.intro rfl (And.intro rfl (And.intro rfl (And.intro rfl (trivial)))))) ?_
      exact kk
set_option maxHeartbeats 4000000 in
set_option maxRecDepth 100000 in
theorem t_X9_flood_L42 {N : Nat} {s_p : Nat} {s_a : Nat → Nat} {s_columns : Int32} {s_rows : Int32} {s_sides : Int32} {s_borderCells : Int32} {s_outerCells : Int32} {s_holes : Int32} {s_holeCells : Int32} {g_p : Nat} {g_k : Nat} {v2 : Int32} (hk_g : g_k < 3) {Q : Option Value → ZW → Prop} : ∀ (fu : Nat) (v4 : Int32) (v5 : Int32) (s_marks : List Int32) (s_queue : List Int32) (e : Int32 × (List Int32) × (List Int32)), f_X9_flood_L42 N v2 s_columns s_rows g_k fu v4 v5 s_marks s_queue = some e → (Go l D r (z_rl xs) zm_X9_flood 0 0 (179, [none, none, none, none, some (.int e.1), none, none, none, none, none, none], [], ([sSu s_p s_a e.2.1 e.2.2 s_columns s_rows s_sides s_borderCells s_outerCells s_holes s_holeCells, sLa r g_p g_k] : List ZW).flatten) Q) → Go l D r (z_rl xs) zm_X9_flood 0 0 (42, [some (.ref s_p), none, some (.int v2), some (.ref g_p), some (.int v4), some (.int v5), none, none, none, none, none], [], ([sSu s_p s_a s_marks s_queue s_columns s_rows s_sides s_borderCells s_outerCells s_holes s_holeCells, sLa r g_p g_k] : List ZW).flatten) Q := by
  intro fu
  induction fu with
  | zero =>
    intro v4 v5 s_marks s_queue e h
    simp only [f_X9_flood_L42, reduceCtorEq] at h
  | succ fu ih =>
    intro v4 v5 s_marks s_queue e h kk
    rw [f_X9_flood_L42] at h
    refine Go.blk zk_X9_flood [0, 0] (z' := (46, [some (.ref s_p), none, some (.int v2), some (.ref g_p), some (.int v4), some (.int v5), none, none, none, none, none], [.int v4, .int v5], ([sSu s_p s_a s_marks s_queue s_columns s_rows s_sides s_borderCells s_outerCells s_holes s_holeCells, sLa r g_p g_k] : List ZW).flatten)) rfl trivial ?_
    by_cases hc7 : v5 < v4
    · rw [if_pos hc7] at h
      refine Go.br zk_X9_flood rfl rfl (fun _ => ?_) (fun q => absurd hc7 q)
      refine Go.blk zk_X9_flood [0, 0] (z' := (54, [some (.ref s_p), none, some (.int v2), some (.ref g_p), some (.int v4), some (.int v5), none, none, none, none, none], [.int 384, .int v5], ([sSu s_p s_a s_marks s_queue s_columns s_rows s_sides s_borderCells s_outerCells s_holes s_holeCells, sLa r g_p g_k] : List ZW).flatten)) rfl trivial ?_
      by_cases hc8 : v5 < 384
      · rw [if_pos hc8] at h
        refine Go.br zk_X9_flood rfl rfl (fun _ => ?_) (fun q => absurd hc8 q)
        refine Go.blk zk_X9_flood [0, 0, 0] (z' := (63, [some (.ref s_p), none, some (.int v2), some (.ref g_p), some (.int v4), some (.int v5), none, none, none, none, none], [.int v5, .ref (s_a 1)], ([sSu s_p s_a s_marks s_queue s_columns s_rows s_sides s_borderCells s_outerCells s_holes s_holeCells, sLa r g_p g_k] : List ZW).flatten)) rfl ⟨rfl, trivial⟩ ?_
        obtain ⟨x9, hx9, h⟩ := z_bind h
        refine Go.iald zk_X9_flood 2 rfl rfl rfl hx9 ?_
        refine Go.blk zk_X9_flood [0, 0, 0, 0, 0, 0, 0, 0, 0, 0] (z' := (79, [some (.ref s_p), none, some (.int v2), some (.ref g_p), some (.int v4), some (.int v5), some (.int (((x9 >>> (1 &&& 31)) &&& 15) - 1)), none, none, none, none], [.int v5, .ref (s_a 1)], ([sSu s_p s_a s_marks s_queue s_columns s_rows s_sides s_borderCells s_outerCells s_holes s_holeCells, sLa r g_p g_k] : List ZW).flatten)) rfl ⟨rfl, trivial⟩ ?_
        obtain ⟨x10, hx10, h⟩ := z_bind h
        refine Go.iald zk_X9_flood 2 rfl rfl rfl hx10 ?_
        refine Go.blk zk_X9_flood [0, 0, 0, 0, 0, 0, 0, 0] (z' := (92, [some (.ref s_p), none, some (.int v2), some (.ref g_p), some (.int v4), some (.int v5), some (.int (((x9 >>> (1 &&& 31)) &&& 15) - 1)), some (.int ((x10 >>> (5 &&& 31)) - 1)), none, none, none], [.int v5, .ref (s_a 1)], ([sSu s_p s_a s_marks s_queue s_columns s_rows s_sides s_borderCells s_outerCells s_holes s_holeCells, sLa r g_p g_k] : List ZW).flatten)) rfl ⟨rfl, trivial⟩ ?_
        obtain ⟨x11, hx11, h⟩ := z_bind h
        refine Go.iald zk_X9_flood 2 rfl rfl rfl hx11 ?_
        refine Go.blk zk_X9_flood [0, 0, 0, 0, 0] (z' := (100, [some (.ref s_p), none, some (.int v2), some (.ref g_p), some (.int v4), some (.int v5), some (.int (((x9 >>> (1 &&& 31)) &&& 15) - 1)), some (.int ((x10 >>> (5 &&& 31)) - 1)), some (.int (x11 &&& 1)), some (.int 0), none], [], ([sSu s_p s_a s_marks s_queue s_columns s_rows s_sides s_borderCells s_outerCells s_holes s_holeCells, sLa r g_p g_k] : List ZW).flatten)) rfl trivial ?_
        obtain ⟨e20, he20, h⟩ := z_bind h
        refine t_X9_flood_L100 hk_g N _ _ _ _ _ he20 ?_
        refine Go.blk zk_X9_flood [0, 0] (z' := (42, [some (.ref s_p), none, some (.int v2), some (.ref g_p), some (.int e20.1), some (.int (v5 + 1)), none, none, none, none, none], [], ([sSu s_p s_a e20.2.1 e20.2.2 s_columns s_rows s_sides s_borderCells s_outerCells s_holes s_holeCells, sLa r g_p g_k] : List ZW).flatten)) rfl trivial ?_
        exact ih _ _ _ _ _ h kk
      · rw [if_neg hc8] at h
        refine Go.br zk_X9_flood rfl rfl (fun q => absurd q hc8) (fun _ => ?_)
        obtain rfl := Option.some.inj h
        refine Go.weak (L := [some (.ref s_p), none, some (.int v2), some (.ref g_p), some (.int v4), some (.int v5), none, none, none, none, none]) (L' := [none, none, none, none, some (.int v4), none, none, none, none, none, none]) (And.intro rfl (trivial)) ?_
        exact kk
    · rw [if_neg hc7] at h
      refine Go.br zk_X9_flood rfl rfl (fun q => absurd q hc7) (fun _ => ?_)
      obtain rfl := Option.some.inj h
      refine Go.weak (L := [some (.ref s_p), none, some (.int v2), some (.ref g_p), some (.int v4), some (.int v5), none, none, none, none, none]) (L' := [none, none, none, none, some (.int v4), none, none, none, none, none, none]) (And.intro rfl (trivial)) ?_
      exact kk
set_option maxHeartbeats 4000000 in
set_option maxRecDepth 100000 in
theorem t_X9_flood {N : Nat} {s_p : Nat} {s_a : Nat → Nat} {s_marks : List Int32} {s_queue : List Int32} {s_columns : Int32} {s_rows : Int32} {s_sides : Int32} {s_borderCells : Int32} {s_outerCells : Int32} {s_holes : Int32} {s_holeCells : Int32} {g_p : Nat} {g_k : Nat} {i1 : Int32} {i2 : Int32} {u : Int32 × (List Int32) × (List Int32)} (hk_g : g_k < 3) (h : f_X9_flood N i1 i2 s_marks s_queue s_columns s_rows g_k = some u) : Ct l D r (z_rl xs) zm_X9_flood 0 0 [.ref s_p, .int i1, .int i2, .ref g_p] ([sSu s_p s_a s_marks s_queue s_columns s_rows s_sides s_borderCells s_outerCells s_holes s_holeCells, sLa r g_p g_k] : List ZW).flatten (fun v' w' => v' = some (.int u.1) ∧ w' = ([sSu s_p s_a u.2.1 u.2.2 s_columns s_rows s_sides s_borderCells s_outerCells s_holes s_holeCells, sLa r g_p g_k] : List ZW).flatten) := by
  refine Ct.of (by decide +kernel) rfl (fun q => absurd q (by decide)) (Nat.le_of_ble_eq_true rfl) ?_
  refine Go.eqz (z2 := (0, [some (.ref s_p), some (.int i1), some (.int i2), some (.ref g_p), none, none, none, none, none, none, none], [], ([sSu s_p s_a s_marks s_queue s_columns s_rows s_sides s_borderCells s_outerCells s_holes s_holeCells, sLa r g_p g_k] : List ZW).flatten)) rfl ?_
  unfold f_X9_flood at h
  refine Go.blk zk_X9_flood [0] (z' := (1, [some (.ref s_p), some (.int i1), some (.int i2), some (.ref g_p), none, none, none, none, none, none, none], [.int i1], ([sSu s_p s_a s_marks s_queue s_columns s_rows s_sides s_borderCells s_outerCells s_holes s_holeCells, sLa r g_p g_k] : List ZW).flatten)) rfl trivial ?_
  by_cases hc1 : i1 < 0
  · rw [if_pos hc1] at h
    refine Go.br zk_X9_flood rfl rfl (fun _ => ?_) (fun q => absurd hc1 q)
    refine Go.blk zk_X9_flood [0] (z' := (21, [some (.ref s_p), some (.int i1), some (.int i2), some (.ref g_p), none, none, none, none, none, none, none], [.int 0], ([sSu s_p s_a s_marks s_queue s_columns s_rows s_sides s_borderCells s_outerCells s_holes s_holeCells, sLa r g_p g_k] : List ZW).flatten)) rfl trivial ?_
    obtain rfl := Option.some.inj h
    exact Go.iret zk_X9_flood rfl rfl rfl ⟨rfl, rfl⟩
  · rw [if_neg hc1] at h
    refine Go.br zk_X9_flood rfl rfl (fun q => absurd q hc1) (fun _ => ?_)
    refine Go.blk zk_X9_flood [0, 0] (z' := (8, [some (.ref s_p), some (.int i1), some (.int i2), some (.ref g_p), none, none, none, none, none, none, none], [.int 384, .int i1], ([sSu s_p s_a s_marks s_queue s_columns s_rows s_sides s_borderCells s_outerCells s_holes s_holeCells, sLa r g_p g_k] : List ZW).flatten)) rfl trivial ?_
    by_cases hc2 : i1 < 384
    · rw [if_pos hc2] at h
      refine Go.br zk_X9_flood rfl rfl (fun _ => ?_) (fun q => absurd hc2 q)
      refine Go.blk zk_X9_flood [0, 0, 0] (z' := (16, [some (.ref s_p), some (.int i1), some (.int i2), some (.ref g_p), none, none, none, none, none, none, none], [.int i1, .ref (s_a 0)], ([sSu s_p s_a s_marks s_queue s_columns s_rows s_sides s_borderCells s_outerCells s_holes s_holeCells, sLa r g_p g_k] : List ZW).flatten)) rfl ⟨rfl, trivial⟩ ?_
      obtain ⟨x3, hx3, h⟩ := z_bind h
      refine Go.iald zk_X9_flood 1 rfl rfl rfl hx3 ?_
      by_cases hc4 : x3 = 0
      · rw [if_pos hc4] at h
        refine Go.br zk_X9_flood rfl rfl (fun _ => ?_) (fun q => absurd hc4 q)
        refine Go.blk zk_X9_flood [0, 0, 0, 0] (z' := (28, [some (.ref s_p), some (.int i1), some (.int i2), some (.ref g_p), none, none, none, none, none, none, none], [.int i2, .int i1, .ref (s_a 0)], ([sSu s_p s_a s_marks s_queue s_columns s_rows s_sides s_borderCells s_outerCells s_holes s_holeCells, sLa r g_p g_k] : List ZW).flatten)) rfl ⟨rfl, trivial⟩ ?_
        obtain ⟨t5, ht5, h⟩ := z_bind h
        refine Go.iast zk_X9_flood 1 rfl rfl rfl ht5 ?_
        refine Go.eqz (z2 := (29, [some (.ref s_p), some (.int i1), some (.int i2), some (.ref g_p), none, none, none, none, none, none, none], [], ([sSu s_p s_a t5 s_queue s_columns s_rows s_sides s_borderCells s_outerCells s_holes s_holeCells, sLa r g_p g_k] : List ZW).flatten)) rfl ?_
        refine Go.blk zk_X9_flood [0, 0, 0, 0] (z' := (35, [some (.ref s_p), some (.int i1), some (.int i2), some (.ref g_p), none, none, none, none, none, none, none], [.int i1, .int 0, .ref (s_a 1)], ([sSu s_p s_a t5 s_queue s_columns s_rows s_sides s_borderCells s_outerCells s_holes s_holeCells, sLa r g_p g_k] : List ZW).flatten)) rfl ⟨rfl, trivial⟩ ?_
        obtain ⟨t6, ht6, h⟩ := z_bind h
        refine Go.iast zk_X9_flood 2 rfl rfl rfl ht6 ?_
        refine Go.eqz (z2 := (36, [some (.ref s_p), some (.int i1), some (.int i2), some (.ref g_p), none, none, none, none, none, none, none], [], ([sSu s_p s_a t5 t6 s_columns s_rows s_sides s_borderCells s_outerCells s_holes s_holeCells, sLa r g_p g_k] : List ZW).flatten)) rfl ?_
        refine Go.blk zk_X9_flood [0, 0, 0, 0] (z' := (42, [some (.ref s_p), some (.int i1), some (.int i2), some (.ref g_p), some (.int 1), some (.int 0), none, none, none, none, none], [], ([sSu s_p s_a t5 t6 s_columns s_rows s_sides s_borderCells s_outerCells s_holes s_holeCells, sLa r g_p g_k] : List ZW).flatten)) rfl trivial ?_
        refine Go.weak (L := [some (.ref s_p), some (.int i1), some (.int i2), some (.ref g_p), some (.int 1), some (.int 0), none, none, none, none, none]) (L' := [some (.ref s_p), none, some (.int i2), some (.ref g_p), some (.int 1), some (.int 0), none, none, none, none, none]) (And.intro rfl (And.intro rfl (And.intro rfl (And.intro rfl (And.intro rfl (trivial)))))) ?_
        obtain ⟨e21, he21, h⟩ := z_bind h
        refine t_X9_flood_L42 hk_g N _ _ _ _ _ he21 ?_
        refine Go.blk zk_X9_flood [0] (z' := (181, [none, none, none, none, some (.int e21.1), none, none, none, none, none, none], [.int e21.1], ([sSu s_p s_a e21.2.1 e21.2.2 s_columns s_rows s_sides s_borderCells s_outerCells s_holes s_holeCells, sLa r g_p g_k] : List ZW).flatten)) rfl trivial ?_
        obtain rfl := Option.some.inj h
        exact Go.iret zk_X9_flood rfl rfl rfl ⟨rfl, rfl⟩
      · rw [if_neg hc4] at h
        refine Go.br zk_X9_flood rfl rfl (fun q => absurd q hc4) (fun _ => ?_)
        refine Go.blk zk_X9_flood [0] (z' := (21, [some (.ref s_p), some (.int i1), some (.int i2), some (.ref g_p), none, none, none, none, none, none, none], [.int 0], ([sSu s_p s_a s_marks s_queue s_columns s_rows s_sides s_borderCells s_outerCells s_holes s_holeCells, sLa r g_p g_k] : List ZW).flatten)) rfl trivial ?_
        obtain rfl := Option.some.inj h
        exact Go.iret zk_X9_flood rfl rfl rfl ⟨rfl, rfl⟩
    · rw [if_neg hc2] at h
      refine Go.br zk_X9_flood rfl rfl (fun q => absurd q hc2) (fun _ => ?_)
      refine Go.blk zk_X9_flood [0] (z' := (21, [some (.ref s_p), some (.int i1), some (.int i2), some (.ref g_p), none, none, none, none, none, none, none], [.int 0], ([sSu s_p s_a s_marks s_queue s_columns s_rows s_sides s_borderCells s_outerCells s_holes s_holeCells, sLa r g_p g_k] : List ZW).flatten)) rfl trivial ?_
      obtain rfl := Option.some.inj h
      exact Go.iret zk_X9_flood rfl rfl rfl ⟨rfl, rfl⟩
set_option maxHeartbeats 4000000 in
set_option maxRecDepth 100000 in
theorem t_X9_countHoles_L37 {N : Nat} {s_p : Nat} {s_a : Nat → Nat} {s_columns : Int32} {s_rows : Int32} {s_sides : Int32} {s_borderCells : Int32} {s_outerCells : Int32} {g_p : Nat} {g_k : Nat} {v2 : Int32} {v3 : Int32} (hk_g : g_k < 3) {Q : Option Value → ZW → Prop} : ∀ (fu : Nat) (v4 : Int32) (s_marks : List Int32) (s_queue : List Int32) (s_holes : Int32) (s_holeCells : Int32) (e : (List Int32) × (List Int32) × Int32 × Int32), f_X9_countHoles_L37 N v2 v3 s_columns s_rows g_k fu v4 s_marks s_queue s_holes s_holeCells = some e → (Go l D r (z_rl xs) zm_X9_countHoles 0 0 (98, [some (.ref s_p), some (.ref g_p), some (.int v2), some (.int v3), none, none], [], ([sSu s_p s_a e.1 e.2.1 s_columns s_rows s_sides s_borderCells s_outerCells e.2.2.1 e.2.2.2, sLa r g_p g_k] : List ZW).flatten) Q) → Go l D r (z_rl xs) zm_X9_countHoles 0 0 (37, [some (.ref s_p), some (.ref g_p), some (.int v2), some (.int v3), some (.int v4), none], [], ([sSu s_p s_a s_marks s_queue s_columns s_rows s_sides s_borderCells s_outerCells s_holes s_holeCells, sLa r g_p g_k] : List ZW).flatten) Q := by
  intro fu
  induction fu with
  | zero =>
    intro v4 s_marks s_queue s_holes s_holeCells e h
    simp only [f_X9_countHoles_L37, reduceCtorEq] at h
  | succ fu ih =>
    intro v4 s_marks s_queue s_holes s_holeCells e h kk
    rw [f_X9_countHoles_L37] at h
    refine Go.blk zk_X9_countHoles [0, 0, 3] (z' := (43, [some (.ref s_p), some (.ref g_p), some (.int v2), some (.int v3), some (.int v4), none], [.int (zkin g_k), .int v4], ([sSu s_p s_a s_marks s_queue s_columns s_rows s_sides s_borderCells s_outerCells s_holes s_holeCells, sLa r g_p g_k] : List ZW).flatten)) rfl ⟨rfl, trivial⟩ ?_
    by_cases hc3 : v4 < (zkin g_k)
    · rw [if_pos hc3] at h
      refine Go.br zk_X9_countHoles rfl rfl (fun _ => ?_) (fun q => absurd hc3 q)
      refine Go.blk zk_X9_countHoles [0, 0, 0, 0, 0] (z' := (52, [some (.ref s_p), some (.ref g_p), some (.int v2), some (.int v3), some (.int v4), none], [.int v4, .int v2, .int v3, .ref s_p, .ref s_p], ([sSu s_p s_a s_marks s_queue s_columns s_rows s_sides s_borderCells s_outerCells s_holes s_holeCells, sLa r g_p g_k] : List ZW).flatten)) rfl trivial ?_
      obtain ⟨u4, hu4, h⟩ := z_bind h
      refine Go.vs zk_X9_countHoles zm_X9_placeOf [0] [1] 0 9 2 (S := [sSu s_p s_a s_marks s_queue s_columns s_rows s_sides s_borderCells s_outerCells s_holes s_holeCells, sLa r g_p g_k]) (S2 := [sSu s_p s_a s_marks s_queue s_columns s_rows s_sides s_borderCells s_outerCells s_holes s_holeCells, sLa r g_p g_k]) (As := [.int v3, .int v2, .int v4]) (rest := [.ref s_p]) (st2 := [.int u4, .ref s_p]) (v1 := some (.int u4)) rfl zl_X9_22 zv_X9_placeOf ⟨Nat.le_of_ble_eq_true rfl, Nat.le_of_ble_eq_true rfl⟩ rfl (by decide) rfl rfl rfl rfl rfl (Nat.le_of_ble_eq_true rfl) (t_X9_placeOf hu4) rfl rfl rfl ?_
      refine Go.blk zk_X9_countHoles [0, 0] (z' := (57, [some (.ref s_p), some (.ref g_p), some (.int v2), some (.int v3), some (.int v4), none], [.ref g_p, .int 3, .int u4, .ref s_p], ([sSu s_p s_a s_marks s_queue s_columns s_rows s_sides s_borderCells s_outerCells s_holes s_holeCells, sLa r g_p g_k] : List ZW).flatten)) rfl trivial ?_
      obtain ⟨u5, hu5, h⟩ := z_bind h
      refine Go.vs zk_X9_countHoles zm_X9_flood [0, 1] [] 0 9 2 (S := [sSu s_p s_a s_marks s_queue s_columns s_rows s_sides s_borderCells s_outerCells s_holes s_holeCells, sLa r g_p g_k]) (S2 := [sSu s_p s_a u5.2.1 u5.2.2 s_columns s_rows s_sides s_borderCells s_outerCells s_holes s_holeCells, sLa r g_p g_k]) (As := [.int u4, .int 3, .ref g_p]) (rest := []) (st2 := [.int u5.1]) (v1 := some (.int u5.1)) rfl zl_X9_26 zv_X9_flood ⟨Nat.le_of_ble_eq_true rfl, Nat.le_of_ble_eq_true rfl⟩ rfl (by decide) rfl rfl rfl rfl rfl (Nat.le_of_ble_eq_true rfl) (t_X9_flood hk_g hu5) rfl rfl rfl ?_
      refine Go.blk zk_X9_countHoles [0, 0, 0, 0, 0] (z' := (69, [some (.ref s_p), some (.ref g_p), some (.int v2), some (.int v3), some (.int v4), some (.int u5.1)], [.int u5.1, .int s_holes, .ref s_p], ([sSu s_p s_a u5.2.1 u5.2.2 s_columns s_rows s_sides s_borderCells s_outerCells s_holes s_holeCells, sLa r g_p g_k] : List ZW).flatten)) rfl ⟨rfl, trivial⟩ ?_
      by_cases hc6 : 0 < u5.1
      · rw [if_pos hc6] at h
        refine Go.br zk_X9_countHoles rfl rfl (fun _ => ?_) (fun q => absurd hc6 q)
        refine Go.blk zk_X9_countHoles [0, 0, 0] (z' := (78, [some (.ref s_p), some (.ref g_p), some (.int v2), some (.int v3), some (.int v4), some (.int u5.1)], [.int (s_holes + 1), .ref s_p], ([sSu s_p s_a u5.2.1 u5.2.2 s_columns s_rows s_sides s_borderCells s_outerCells s_holes s_holeCells, sLa r g_p g_k] : List ZW).flatten)) rfl trivial ?_
        refine Go.put zk_X9_countHoles 0 rfl rfl rfl rfl rfl (Nat.le_of_ble_eq_true rfl) ?_
        refine Go.eqz (z2 := (81, [some (.ref s_p), some (.ref g_p), some (.int v2), some (.int v3), some (.int v4), some (.int u5.1)], [], ([sSu s_p s_a u5.2.1 u5.2.2 s_columns s_rows s_sides s_borderCells s_outerCells (s_holes + 1) s_holeCells, sLa r g_p g_k] : List ZW).flatten)) rfl ?_
        refine Go.blk zk_X9_countHoles [0, 0, 0, 0, 0] (z' := (89, [some (.ref s_p), some (.ref g_p), some (.int v2), some (.int v3), some (.int v4), some (.int u5.1)], [.int (s_holeCells + u5.1), .ref s_p], ([sSu s_p s_a u5.2.1 u5.2.2 s_columns s_rows s_sides s_borderCells s_outerCells (s_holes + 1) s_holeCells, sLa r g_p g_k] : List ZW).flatten)) rfl ⟨rfl, trivial⟩ ?_
        refine Go.put zk_X9_countHoles 0 rfl rfl rfl rfl rfl (Nat.le_of_ble_eq_true rfl) ?_
        refine Go.eqz (z2 := (92, [some (.ref s_p), some (.ref g_p), some (.int v2), some (.int v3), some (.int v4), some (.int u5.1)], [], ([sSu s_p s_a u5.2.1 u5.2.2 s_columns s_rows s_sides s_borderCells s_outerCells (s_holes + 1) (s_holeCells + u5.1), sLa r g_p g_k] : List ZW).flatten)) rfl ?_
        refine Go.blk zk_X9_countHoles [0, 0] (z' := (37, [some (.ref s_p), some (.ref g_p), some (.int v2), some (.int v3), some (.int (v4 + 1)), some (.int u5.1)], [], ([sSu s_p s_a u5.2.1 u5.2.2 s_columns s_rows s_sides s_borderCells s_outerCells (s_holes + 1) (s_holeCells + u5.1), sLa r g_p g_k] : List ZW).flatten)) rfl trivial ?_
        refine Go.weak (L := [some (.ref s_p), some (.ref g_p), some (.int v2), some (.int v3), some (.int (v4 + 1)), some (.int u5.1)]) (L' := [some (.ref s_p), some (.ref g_p), some (.int v2), some (.int v3), some (.int (v4 + 1)), none]) (And.intro rfl (And.intro rfl (And.intro rfl (And.intro rfl (And.intro rfl (trivial)))))) ?_
        exact ih _ _ _ _ _ _ h kk
      · rw [if_neg hc6] at h
        refine Go.br zk_X9_countHoles rfl rfl (fun q => absurd q hc6) (fun _ => ?_)
        refine Go.blk zk_X9_countHoles [0, 0] (z' := (78, [some (.ref s_p), some (.ref g_p), some (.int v2), some (.int v3), some (.int v4), some (.int u5.1)], [.int (s_holes + 0), .ref s_p], ([sSu s_p s_a u5.2.1 u5.2.2 s_columns s_rows s_sides s_borderCells s_outerCells s_holes s_holeCells, sLa r g_p g_k] : List ZW).flatten)) rfl trivial ?_
        refine Go.put zk_X9_countHoles 0 rfl rfl rfl rfl rfl (Nat.le_of_ble_eq_true rfl) ?_
        refine Go.eqz (z2 := (81, [some (.ref s_p), some (.ref g_p), some (.int v2), some (.int v3), some (.int v4), some (.int u5.1)], [], ([sSu s_p s_a u5.2.1 u5.2.2 s_columns s_rows s_sides s_borderCells s_outerCells (s_holes + 0) s_holeCells, sLa r g_p g_k] : List ZW).flatten)) rfl ?_
        refine Go.blk zk_X9_countHoles [0, 0, 0, 0, 0] (z' := (89, [some (.ref s_p), some (.ref g_p), some (.int v2), some (.int v3), some (.int v4), some (.int u5.1)], [.int (s_holeCells + u5.1), .ref s_p], ([sSu s_p s_a u5.2.1 u5.2.2 s_columns s_rows s_sides s_borderCells s_outerCells (s_holes + 0) s_holeCells, sLa r g_p g_k] : List ZW).flatten)) rfl ⟨rfl, trivial⟩ ?_
        refine Go.put zk_X9_countHoles 0 rfl rfl rfl rfl rfl (Nat.le_of_ble_eq_true rfl) ?_
        refine Go.eqz (z2 := (92, [some (.ref s_p), some (.ref g_p), some (.int v2), some (.int v3), some (.int v4), some (.int u5.1)], [], ([sSu s_p s_a u5.2.1 u5.2.2 s_columns s_rows s_sides s_borderCells s_outerCells (s_holes + 0) (s_holeCells + u5.1), sLa r g_p g_k] : List ZW).flatten)) rfl ?_
        refine Go.blk zk_X9_countHoles [0, 0] (z' := (37, [some (.ref s_p), some (.ref g_p), some (.int v2), some (.int v3), some (.int (v4 + 1)), some (.int u5.1)], [], ([sSu s_p s_a u5.2.1 u5.2.2 s_columns s_rows s_sides s_borderCells s_outerCells (s_holes + 0) (s_holeCells + u5.1), sLa r g_p g_k] : List ZW).flatten)) rfl trivial ?_
        refine Go.weak (L := [some (.ref s_p), some (.ref g_p), some (.int v2), some (.int v3), some (.int (v4 + 1)), some (.int u5.1)]) (L' := [some (.ref s_p), some (.ref g_p), some (.int v2), some (.int v3), some (.int (v4 + 1)), none]) (And.intro rfl (And.intro rfl (And.intro rfl (And.intro rfl (And.intro rfl (trivial)))))) ?_
        exact ih _ _ _ _ _ _ h kk
    · rw [if_neg hc3] at h
      refine Go.br zk_X9_countHoles rfl rfl (fun q => absurd q hc3) (fun _ => ?_)
      obtain rfl := Option.some.inj h
      refine Go.weak (L := [some (.ref s_p), some (.ref g_p), some (.int v2), some (.int v3), some (.int v4), none]) (L' := [some (.ref s_p), some (.ref g_p), some (.int v2), some (.int v3), none, none]) (And.intro rfl (And.intro rfl (And.intro rfl (And.intro rfl (trivial))))) ?_
      exact kk
set_option maxHeartbeats 4000000 in
set_option maxRecDepth 100000 in
theorem t_X9_countHoles_L24 {N : Nat} {s_p : Nat} {s_a : Nat → Nat} {s_columns : Int32} {s_rows : Int32} {s_sides : Int32} {s_borderCells : Int32} {s_outerCells : Int32} {g_p : Nat} {g_k : Nat} {v2 : Int32} (hk_g : g_k < 3) {Q : Option Value → ZW → Prop} : ∀ (fu : Nat) (v3 : Int32) (s_marks : List Int32) (s_queue : List Int32) (s_holes : Int32) (s_holeCells : Int32) (e : (List Int32) × (List Int32) × Int32 × Int32), f_X9_countHoles_L24 N v2 s_columns s_rows g_k fu v3 s_marks s_queue s_holes s_holeCells = some e → (Go l D r (z_rl xs) zm_X9_countHoles 0 0 (104, [some (.ref s_p), some (.ref g_p), some (.int v2), none, none, none], [], ([sSu s_p s_a e.1 e.2.1 s_columns s_rows s_sides s_borderCells s_outerCells e.2.2.1 e.2.2.2, sLa r g_p g_k] : List ZW).flatten) Q) → Go l D r (z_rl xs) zm_X9_countHoles 0 0 (24, [some (.ref s_p), some (.ref g_p), some (.int v2), some (.int v3), none, none], [], ([sSu s_p s_a s_marks s_queue s_columns s_rows s_sides s_borderCells s_outerCells s_holes s_holeCells, sLa r g_p g_k] : List ZW).flatten) Q := by
  intro fu
  induction fu with
  | zero =>
    intro v3 s_marks s_queue s_holes s_holeCells e h
    simp only [f_X9_countHoles_L24, reduceCtorEq] at h
  | succ fu ih =>
    intro v3 s_marks s_queue s_holes s_holeCells e h kk
    rw [f_X9_countHoles_L24] at h
    refine Go.blk zk_X9_countHoles [0, 0, 0, 0, 0] (z' := (31, [some (.ref s_p), some (.ref g_p), some (.int v2), some (.int v3), none, none], [.int (s_columns - 2), .int v3], ([sSu s_p s_a s_marks s_queue s_columns s_rows s_sides s_borderCells s_outerCells s_holes s_holeCells, sLa r g_p g_k] : List ZW).flatten)) rfl ⟨rfl, trivial⟩ ?_
    by_cases hc2 : v3 < (s_columns - 2)
    · rw [if_pos hc2] at h
      refine Go.br zk_X9_countHoles rfl rfl (fun _ => ?_) (fun q => absurd hc2 q)
      refine Go.blk zk_X9_countHoles [0, 0] (z' := (37, [some (.ref s_p), some (.ref g_p), some (.int v2), some (.int v3), some (.int 0), none], [], ([sSu s_p s_a s_marks s_queue s_columns s_rows s_sides s_borderCells s_outerCells s_holes s_holeCells, sLa r g_p g_k] : List ZW).flatten)) rfl trivial ?_
      obtain ⟨e7, he7, h⟩ := z_bind h
      refine t_X9_countHoles_L37 hk_g N _ _ _ _ _ _ he7 ?_
      refine Go.blk zk_X9_countHoles [0, 0] (z' := (24, [some (.ref s_p), some (.ref g_p), some (.int v2), some (.int (v3 + 1)), none, none], [], ([sSu s_p s_a e7.1 e7.2.1 s_columns s_rows s_sides s_borderCells s_outerCells e7.2.2.1 e7.2.2.2, sLa r g_p g_k] : List ZW).flatten)) rfl trivial ?_
      exact ih _ _ _ _ _ _ h kk
    · rw [if_neg hc2] at h
      refine Go.br zk_X9_countHoles rfl rfl (fun q => absurd q hc2) (fun _ => ?_)
      obtain rfl := Option.some.inj h
      refine Go.weak (L := [some (.ref s_p), some (.ref g_p), some (.int v2), some (.int v3), none, none]) (L' := [some (.ref s_p), some (.ref g_p), some (.int v2), none, none, none]) (And.intro rfl (And.intro rfl (And.intro rfl (trivial)))) ?_
      exact kk
set_option maxHeartbeats 4000000 in
set_option maxRecDepth 100000 in
theorem t_X9_countHoles_L12 {N : Nat} {s_p : Nat} {s_a : Nat → Nat} {s_columns : Int32} {s_rows : Int32} {s_sides : Int32} {s_borderCells : Int32} {s_outerCells : Int32} {g_p : Nat} {g_k : Nat} (hk_g : g_k < 3) {Q : Option Value → ZW → Prop} : ∀ (fu : Nat) (v2 : Int32) (s_marks : List Int32) (s_queue : List Int32) (s_holes : Int32) (s_holeCells : Int32) (e : (List Int32) × (List Int32) × Int32 × Int32), f_X9_countHoles_L12 N s_columns s_rows g_k fu v2 s_marks s_queue s_holes s_holeCells = some e → (Go l D r (z_rl xs) zm_X9_countHoles 0 0 (110, [none, none, none, none, none, none], [], ([sSu s_p s_a e.1 e.2.1 s_columns s_rows s_sides s_borderCells s_outerCells e.2.2.1 e.2.2.2, sLa r g_p g_k] : List ZW).flatten) Q) → Go l D r (z_rl xs) zm_X9_countHoles 0 0 (12, [some (.ref s_p), some (.ref g_p), some (.int v2), none, none, none], [], ([sSu s_p s_a s_marks s_queue s_columns s_rows s_sides s_borderCells s_outerCells s_holes s_holeCells, sLa r g_p g_k] : List ZW).flatten) Q := by
  intro fu
  induction fu with
  | zero =>
    intro v2 s_marks s_queue s_holes s_holeCells e h
    simp only [f_X9_countHoles_L12, reduceCtorEq] at h
  | succ fu ih =>
    intro v2 s_marks s_queue s_holes s_holeCells e h kk
    rw [f_X9_countHoles_L12] at h
    refine Go.blk zk_X9_countHoles [0, 0, 0, 0, 0] (z' := (19, [some (.ref s_p), some (.ref g_p), some (.int v2), none, none, none], [.int (s_rows - 2), .int v2], ([sSu s_p s_a s_marks s_queue s_columns s_rows s_sides s_borderCells s_outerCells s_holes s_holeCells, sLa r g_p g_k] : List ZW).flatten)) rfl ⟨rfl, trivial⟩ ?_
    by_cases hc1 : v2 < (s_rows - 2)
    · rw [if_pos hc1] at h
      refine Go.br zk_X9_countHoles rfl rfl (fun _ => ?_) (fun q => absurd hc1 q)
      refine Go.blk zk_X9_countHoles [0, 0] (z' := (24, [some (.ref s_p), some (.ref g_p), some (.int v2), some (.int 0), none, none], [], ([sSu s_p s_a s_marks s_queue s_columns s_rows s_sides s_borderCells s_outerCells s_holes s_holeCells, sLa r g_p g_k] : List ZW).flatten)) rfl trivial ?_
      obtain ⟨e8, he8, h⟩ := z_bind h
      refine t_X9_countHoles_L24 hk_g N _ _ _ _ _ _ he8 ?_
      refine Go.blk zk_X9_countHoles [0, 0] (z' := (12, [some (.ref s_p), some (.ref g_p), some (.int (v2 + 1)), none, none, none], [], ([sSu s_p s_a e8.1 e8.2.1 s_columns s_rows s_sides s_borderCells s_outerCells e8.2.2.1 e8.2.2.2, sLa r g_p g_k] : List ZW).flatten)) rfl trivial ?_
      exact ih _ _ _ _ _ _ h kk
    · rw [if_neg hc1] at h
      refine Go.br zk_X9_countHoles rfl rfl (fun q => absurd q hc1) (fun _ => ?_)
      obtain rfl := Option.some.inj h
      refine Go.weak (L := [some (.ref s_p), some (.ref g_p), some (.int v2), none, none, none]) (L' := [none, none, none, none, none, none]) (trivial) ?_
      exact kk
set_option maxHeartbeats 4000000 in
set_option maxRecDepth 100000 in
theorem t_X9_countHoles {N : Nat} {s_p : Nat} {s_a : Nat → Nat} {s_marks : List Int32} {s_queue : List Int32} {s_columns : Int32} {s_rows : Int32} {s_sides : Int32} {s_borderCells : Int32} {s_outerCells : Int32} {s_holes : Int32} {s_holeCells : Int32} {g_p : Nat} {g_k : Nat} {u : (List Int32) × (List Int32) × Int32 × Int32} (hk_g : g_k < 3) (h : f_X9_countHoles N s_marks s_queue s_columns s_rows g_k = some u) : Ct l D r (z_rl xs) zm_X9_countHoles 0 0 [.ref s_p, .ref g_p] ([sSu s_p s_a s_marks s_queue s_columns s_rows s_sides s_borderCells s_outerCells s_holes s_holeCells, sLa r g_p g_k] : List ZW).flatten (fun v' w' => v' = none ∧ w' = ([sSu s_p s_a u.1 u.2.1 s_columns s_rows s_sides s_borderCells s_outerCells u.2.2.1 u.2.2.2, sLa r g_p g_k] : List ZW).flatten) := by
  refine Ct.of (by decide +kernel) rfl (fun q => absurd q (by decide)) (Nat.le_of_ble_eq_true rfl) ?_
  refine Go.eqz (z2 := (0, [some (.ref s_p), some (.ref g_p), none, none, none, none], [], ([sSu s_p s_a s_marks s_queue s_columns s_rows s_sides s_borderCells s_outerCells s_holes s_holeCells, sLa r g_p g_k] : List ZW).flatten)) rfl ?_
  unfold f_X9_countHoles at h
  refine Go.blk zk_X9_countHoles [0, 0] (z' := (2, [some (.ref s_p), some (.ref g_p), none, none, none, none], [.int 0, .ref s_p], ([sSu s_p s_a s_marks s_queue s_columns s_rows s_sides s_borderCells s_outerCells s_holes s_holeCells, sLa r g_p g_k] : List ZW).flatten)) rfl trivial ?_
  refine Go.put zk_X9_countHoles 0 rfl rfl rfl rfl rfl (Nat.le_of_ble_eq_true rfl) ?_
  refine Go.eqz (z2 := (5, [some (.ref s_p), some (.ref g_p), none, none, none, none], [], ([sSu s_p s_a s_marks s_queue s_columns s_rows s_sides s_borderCells s_outerCells 0 s_holeCells, sLa r g_p g_k] : List ZW).flatten)) rfl ?_
  refine Go.blk zk_X9_countHoles [0, 0] (z' := (7, [some (.ref s_p), some (.ref g_p), none, none, none, none], [.int 0, .ref s_p], ([sSu s_p s_a s_marks s_queue s_columns s_rows s_sides s_borderCells s_outerCells 0 s_holeCells, sLa r g_p g_k] : List ZW).flatten)) rfl trivial ?_
  refine Go.put zk_X9_countHoles 0 rfl rfl rfl rfl rfl (Nat.le_of_ble_eq_true rfl) ?_
  refine Go.eqz (z2 := (10, [some (.ref s_p), some (.ref g_p), none, none, none, none], [], ([sSu s_p s_a s_marks s_queue s_columns s_rows s_sides s_borderCells s_outerCells 0 0, sLa r g_p g_k] : List ZW).flatten)) rfl ?_
  refine Go.blk zk_X9_countHoles [0, 0] (z' := (12, [some (.ref s_p), some (.ref g_p), some (.int 0), none, none, none], [], ([sSu s_p s_a s_marks s_queue s_columns s_rows s_sides s_borderCells s_outerCells 0 0, sLa r g_p g_k] : List ZW).flatten)) rfl trivial ?_
  obtain ⟨e9, he9, h⟩ := z_bind h
  refine t_X9_countHoles_L12 hk_g N _ _ _ _ _ _ he9 ?_
  obtain rfl := Option.some.inj h
  exact Go.vret zk_X9_countHoles rfl rfl ⟨rfl, rfl⟩
set_option maxHeartbeats 4000000 in
set_option maxRecDepth 100000 in
theorem t_X9_openWindow_L12 {N : Nat} {s_p : Nat} {s_a : Nat → Nat} {s_marks : List Int32} {s_queue : List Int32} {s_sides : Int32} {s_borderCells : Int32} {s_outerCells : Int32} {s_holes : Int32} {s_holeCells : Int32} {c_p : Nat} {c_a : Nat → Nat} {c_codes : List Int32} {c_size : Int32}  {Q : Option Value → ZW → Prop} : ∀ (fu : Nat) (v2 : Int32) (s_columns : Int32) (s_rows : Int32) (e : Int32 × Int32), f_X9_openWindow_L12 N c_codes c_size fu v2 s_columns s_rows = some e → (Go l D r (z_rl xs) zm_X9_openWindow 0 0 (62, [some (.ref s_p), some (.ref c_p), none, none], [], ([sSu s_p s_a s_marks s_queue e.1 e.2 s_sides s_borderCells s_outerCells s_holes s_holeCells, sCe c_p c_a c_codes c_size] : List ZW).flatten) Q) → Go l D r (z_rl xs) zm_X9_openWindow 0 0 (12, [some (.ref s_p), some (.ref c_p), some (.int v2), none], [], ([sSu s_p s_a s_marks s_queue s_columns s_rows s_sides s_borderCells s_outerCells s_holes s_holeCells, sCe c_p c_a c_codes c_size] : List ZW).flatten) Q := by
  intro fu
  induction fu with
  | zero =>
    intro v2 s_columns s_rows e h
    simp only [f_X9_openWindow_L12, reduceCtorEq] at h
  | succ fu ih =>
    intro v2 s_columns s_rows e h kk
    rw [f_X9_openWindow_L12] at h
    refine Go.blk zk_X9_openWindow [0, 0, 3] (z' := (17, [some (.ref s_p), some (.ref c_p), some (.int v2), none], [.int c_size, .int v2], ([sSu s_p s_a s_marks s_queue s_columns s_rows s_sides s_borderCells s_outerCells s_holes s_holeCells, sCe c_p c_a c_codes c_size] : List ZW).flatten)) rfl ⟨rfl, trivial⟩ ?_
    by_cases hc1 : v2 < c_size
    · rw [if_pos hc1] at h
      refine Go.br zk_X9_openWindow rfl rfl (fun _ => ?_) (fun q => absurd hc1 q)
      refine Go.blk zk_X9_openWindow [0, 0, 0, 0, 0] (z' := (27, [some (.ref s_p), some (.ref c_p), some (.int v2), none], [.int v2, .ref c_p, .int s_columns, .ref s_p], ([sSu s_p s_a s_marks s_queue s_columns s_rows s_sides s_borderCells s_outerCells s_holes s_holeCells, sCe c_p c_a c_codes c_size] : List ZW).flatten)) rfl ⟨rfl, trivial⟩ ?_
      obtain ⟨u2, hu2, h⟩ := z_bind h
      refine Go.vs zk_X9_openWindow zm_X2_qAt [1] [0] 0 2 2 (S := [sSu s_p s_a s_marks s_queue s_columns s_rows s_sides s_borderCells s_outerCells s_holes s_holeCells, sCe c_p c_a c_codes c_size]) (S2 := [sSu s_p s_a s_marks s_queue s_columns s_rows s_sides s_borderCells s_outerCells s_holes s_holeCells, sCe c_p c_a c_codes c_size]) (As := [.int v2]) (rest := [.int s_columns, .ref s_p]) (st2 := [.int u2, .int s_columns, .ref s_p]) (v1 := some (.int u2)) rfl zl_X9_50 zv_X2_qAt ⟨Nat.le_of_ble_eq_true rfl, Nat.le_of_ble_eq_true rfl⟩ rfl (by decide) rfl rfl rfl rfl rfl (Nat.le_of_ble_eq_true rfl) (t_X2_qAt hu2) rfl rfl rfl ?_
      refine Go.blk zk_X9_openWindow [0, 0] (z' := (32, [some (.ref s_p), some (.ref c_p), some (.int v2), none], [.int (u2 + 3), .int s_columns, .ref s_p], ([sSu s_p s_a s_marks s_queue s_columns s_rows s_sides s_borderCells s_outerCells s_holes s_holeCells, sCe c_p c_a c_codes c_size] : List ZW).flatten)) rfl trivial ?_
      refine Go.mmax zk_X9_openWindow rfl zl_X9_54 ⟨Nat.le_of_ble_eq_true rfl, Nat.le_of_ble_eq_true rfl⟩ zw_max ?_
      refine Go.put zk_X9_openWindow 0 rfl rfl rfl rfl rfl (Nat.le_of_ble_eq_true rfl) ?_
      refine Go.eqz (z2 := (38, [some (.ref s_p), some (.ref c_p), some (.int v2), none], [], ([sSu s_p s_a s_marks s_queue (if s_columns < (u2 + 3) then u2 + 3 else s_columns) s_rows s_sides s_borderCells s_outerCells s_holes s_holeCells, sCe c_p c_a c_codes c_size] : List ZW).flatten)) rfl ?_
      refine Go.blk zk_X9_openWindow [0, 0, 0, 0, 0] (z' := (45, [some (.ref s_p), some (.ref c_p), some (.int v2), none], [.int v2, .ref c_p, .int s_rows, .ref s_p], ([sSu s_p s_a s_marks s_queue (if s_columns < (u2 + 3) then u2 + 3 else s_columns) s_rows s_sides s_borderCells s_outerCells s_holes s_holeCells, sCe c_p c_a c_codes c_size] : List ZW).flatten)) rfl ⟨rfl, trivial⟩ ?_
      obtain ⟨u3, hu3, h⟩ := z_bind h
      refine Go.vs zk_X9_openWindow zm_X2_rAt [1] [0] 0 2 2 (S := [sSu s_p s_a s_marks s_queue (if s_columns < (u2 + 3) then u2 + 3 else s_columns) s_rows s_sides s_borderCells s_outerCells s_holes s_holeCells, sCe c_p c_a c_codes c_size]) (S2 := [sSu s_p s_a s_marks s_queue (if s_columns < (u2 + 3) then u2 + 3 else s_columns) s_rows s_sides s_borderCells s_outerCells s_holes s_holeCells, sCe c_p c_a c_codes c_size]) (As := [.int v2]) (rest := [.int s_rows, .ref s_p]) (st2 := [.int u3, .int s_rows, .ref s_p]) (v1 := some (.int u3)) rfl zl_X9_60 zv_X2_rAt ⟨Nat.le_of_ble_eq_true rfl, Nat.le_of_ble_eq_true rfl⟩ rfl (by decide) rfl rfl rfl rfl rfl (Nat.le_of_ble_eq_true rfl) (t_X2_rAt hu3) rfl rfl rfl ?_
      refine Go.blk zk_X9_openWindow [0, 0] (z' := (50, [some (.ref s_p), some (.ref c_p), some (.int v2), none], [.int (u3 + 3), .int s_rows, .ref s_p], ([sSu s_p s_a s_marks s_queue (if s_columns < (u2 + 3) then u2 + 3 else s_columns) s_rows s_sides s_borderCells s_outerCells s_holes s_holeCells, sCe c_p c_a c_codes c_size] : List ZW).flatten)) rfl trivial ?_
      refine Go.mmax zk_X9_openWindow rfl zl_X9_54 ⟨Nat.le_of_ble_eq_true rfl, Nat.le_of_ble_eq_true rfl⟩ zw_max ?_
      refine Go.put zk_X9_openWindow 0 rfl rfl rfl rfl rfl (Nat.le_of_ble_eq_true rfl) ?_
      refine Go.eqz (z2 := (56, [some (.ref s_p), some (.ref c_p), some (.int v2), none], [], ([sSu s_p s_a s_marks s_queue (if s_columns < (u2 + 3) then u2 + 3 else s_columns) (if s_rows < (u3 + 3) then u3 + 3 else s_rows) s_sides s_borderCells s_outerCells s_holes s_holeCells, sCe c_p c_a c_codes c_size] : List ZW).flatten)) rfl ?_
      refine Go.blk zk_X9_openWindow [0, 0] (z' := (12, [some (.ref s_p), some (.ref c_p), some (.int (v2 + 1)), none], [], ([sSu s_p s_a s_marks s_queue (if s_columns < (u2 + 3) then u2 + 3 else s_columns) (if s_rows < (u3 + 3) then u3 + 3 else s_rows) s_sides s_borderCells s_outerCells s_holes s_holeCells, sCe c_p c_a c_codes c_size] : List ZW).flatten)) rfl trivial ?_
      exact ih _ _ _ _ h kk
    · rw [if_neg hc1] at h
      refine Go.br zk_X9_openWindow rfl rfl (fun q => absurd q hc1) (fun _ => ?_)
      obtain rfl := Option.some.inj h
      refine Go.weak (L := [some (.ref s_p), some (.ref c_p), some (.int v2), none]) (L' := [some (.ref s_p), some (.ref c_p), none, none]) (And.intro rfl (And.intro rfl (trivial))) ?_
      exact kk
set_option maxHeartbeats 4000000 in
set_option maxRecDepth 100000 in
theorem t_X9_openWindow_L90 {N : Nat} {s_p : Nat} {s_a : Nat → Nat} {s_queue : List Int32} {s_columns : Int32} {s_rows : Int32} {s_sides : Int32} {s_borderCells : Int32} {s_outerCells : Int32} {s_holes : Int32} {s_holeCells : Int32} {c_p : Nat} {c_a : Nat → Nat} {c_codes : List Int32} {c_size : Int32}  {Q : Option Value → ZW → Prop} : ∀ (fu : Nat) (v2 : Int32) (s_marks : List Int32) (e : (List Int32)), f_X9_openWindow_L90 N s_rows fu v2 s_marks = some e → (Go l D r (z_rl xs) zm_X9_openWindow 0 0 (113, [some (.ref s_p), some (.ref c_p), none, none], [], ([sSu s_p s_a e s_queue s_columns s_rows s_sides s_borderCells s_outerCells s_holes s_holeCells, sCe c_p c_a c_codes c_size] : List ZW).flatten) Q) → Go l D r (z_rl xs) zm_X9_openWindow 0 0 (90, [some (.ref s_p), some (.ref c_p), some (.int v2), none], [], ([sSu s_p s_a s_marks s_queue s_columns s_rows s_sides s_borderCells s_outerCells s_holes s_holeCells, sCe c_p c_a c_codes c_size] : List ZW).flatten) Q := by
  intro fu
  induction fu with
  | zero =>
    intro v2 s_marks e h
    simp only [f_X9_openWindow_L90, reduceCtorEq] at h
  | succ fu ih =>
    intro v2 s_marks e h kk
    rw [f_X9_openWindow_L90] at h
    refine Go.blk zk_X9_openWindow [0, 0, 0, 0, 0] (z' := (97, [some (.ref s_p), some (.ref c_p), some (.int v2), none], [.int (s_rows <<< (5 &&& 31)), .int v2], ([sSu s_p s_a s_marks s_queue s_columns s_rows s_sides s_borderCells s_outerCells s_holes s_holeCells, sCe c_p c_a c_codes c_size] : List ZW).flatten)) rfl ⟨rfl, trivial⟩ ?_
    by_cases hc5 : v2 < (s_rows <<< (5 &&& 31))
    · rw [if_pos hc5] at h
      refine Go.br zk_X9_openWindow rfl rfl (fun _ => ?_) (fun q => absurd hc5 q)
      refine Go.blk zk_X9_openWindow [0, 0, 0, 0] (z' := (106, [some (.ref s_p), some (.ref c_p), some (.int v2), none], [.int 0, .int v2, .ref (s_a 0)], ([sSu s_p s_a s_marks s_queue s_columns s_rows s_sides s_borderCells s_outerCells s_holes s_holeCells, sCe c_p c_a c_codes c_size] : List ZW).flatten)) rfl ⟨rfl, trivial⟩ ?_
      obtain ⟨t6, ht6, h⟩ := z_bind h
      refine Go.iast zk_X9_openWindow 1 rfl rfl rfl ht6 ?_
      refine Go.eqz (z2 := (107, [some (.ref s_p), some (.ref c_p), some (.int v2), none], [], ([sSu s_p s_a t6 s_queue s_columns s_rows s_sides s_borderCells s_outerCells s_holes s_holeCells, sCe c_p c_a c_codes c_size] : List ZW).flatten)) rfl ?_
      refine Go.blk zk_X9_openWindow [0, 0] (z' := (90, [some (.ref s_p), some (.ref c_p), some (.int (v2 + 1)), none], [], ([sSu s_p s_a t6 s_queue s_columns s_rows s_sides s_borderCells s_outerCells s_holes s_holeCells, sCe c_p c_a c_codes c_size] : List ZW).flatten)) rfl trivial ?_
      exact ih _ _ _ h kk
    · rw [if_neg hc5] at h
      refine Go.br zk_X9_openWindow rfl rfl (fun q => absurd q hc5) (fun _ => ?_)
      obtain rfl := Option.some.inj h
      refine Go.weak (L := [some (.ref s_p), some (.ref c_p), some (.int v2), none]) (L' := [some (.ref s_p), some (.ref c_p), none, none]) (And.intro rfl (And.intro rfl (trivial))) ?_
      exact kk
set_option maxHeartbeats 4000000 in
set_option maxRecDepth 100000 in
theorem t_X9_openWindow_L115 {N : Nat} {s_p : Nat} {s_a : Nat → Nat} {s_queue : List Int32} {s_columns : Int32} {s_rows : Int32} {s_sides : Int32} {s_borderCells : Int32} {s_outerCells : Int32} {s_holes : Int32} {s_holeCells : Int32} {c_p : Nat} {c_a : Nat → Nat} {c_codes : List Int32} {c_size : Int32}  {Q : Option Value → ZW → Prop} : ∀ (fu : Nat) (v2 : Int32) (s_marks : List Int32) (e : (List Int32)), f_X9_openWindow_L115 N s_columns s_rows c_codes c_size fu v2 s_marks = some e → (Go l D r (z_rl xs) zm_X9_openWindow 0 0 (160, [none, none, none, none], [], ([sSu s_p s_a e s_queue s_columns s_rows s_sides s_borderCells s_outerCells s_holes s_holeCells, sCe c_p c_a c_codes c_size] : List ZW).flatten) Q) → Go l D r (z_rl xs) zm_X9_openWindow 0 0 (115, [some (.ref s_p), some (.ref c_p), some (.int v2), none], [], ([sSu s_p s_a s_marks s_queue s_columns s_rows s_sides s_borderCells s_outerCells s_holes s_holeCells, sCe c_p c_a c_codes c_size] : List ZW).flatten) Q := by
  intro fu
  induction fu with
  | zero =>
    intro v2 s_marks e h
    simp only [f_X9_openWindow_L115, reduceCtorEq] at h
  | succ fu ih =>
    intro v2 s_marks e h kk
    rw [f_X9_openWindow_L115] at h
    refine Go.blk zk_X9_openWindow [0, 0, 3] (z' := (120, [some (.ref s_p), some (.ref c_p), some (.int v2), none], [.int c_size, .int v2], ([sSu s_p s_a s_marks s_queue s_columns s_rows s_sides s_borderCells s_outerCells s_holes s_holeCells, sCe c_p c_a c_codes c_size] : List ZW).flatten)) rfl ⟨rfl, trivial⟩ ?_
    by_cases hc8 : v2 < c_size
    · rw [if_pos hc8] at h
      refine Go.br zk_X9_openWindow rfl rfl (fun _ => ?_) (fun q => absurd hc8 q)
      refine Go.blk zk_X9_openWindow [0, 0, 0] (z' := (126, [some (.ref s_p), some (.ref c_p), some (.int v2), none], [.int v2, .ref c_p, .ref s_p], ([sSu s_p s_a s_marks s_queue s_columns s_rows s_sides s_borderCells s_outerCells s_holes s_holeCells, sCe c_p c_a c_codes c_size] : List ZW).flatten)) rfl trivial ?_
      obtain ⟨u9, hu9, h⟩ := z_bind h
      refine Go.vs zk_X9_openWindow zm_X2_qAt [1] [0] 0 2 2 (S := [sSu s_p s_a s_marks s_queue s_columns s_rows s_sides s_borderCells s_outerCells s_holes s_holeCells, sCe c_p c_a c_codes c_size]) (S2 := [sSu s_p s_a s_marks s_queue s_columns s_rows s_sides s_borderCells s_outerCells s_holes s_holeCells, sCe c_p c_a c_codes c_size]) (As := [.int v2]) (rest := [.ref s_p]) (st2 := [.int u9, .ref s_p]) (v1 := some (.int u9)) rfl zl_X9_50 zv_X2_qAt ⟨Nat.le_of_ble_eq_true rfl, Nat.le_of_ble_eq_true rfl⟩ rfl (by decide) rfl rfl rfl rfl rfl (Nat.le_of_ble_eq_true rfl) (t_X2_qAt hu9) rfl rfl rfl ?_
      refine Go.blk zk_X9_openWindow [0, 0] (z' := (131, [some (.ref s_p), some (.ref c_p), some (.int v2), none], [.int v2, .ref c_p, .int u9, .ref s_p], ([sSu s_p s_a s_marks s_queue s_columns s_rows s_sides s_borderCells s_outerCells s_holes s_holeCells, sCe c_p c_a c_codes c_size] : List ZW).flatten)) rfl trivial ?_
      obtain ⟨u10, hu10, h⟩ := z_bind h
      refine Go.vs zk_X9_openWindow zm_X2_rAt [1] [0] 0 2 2 (S := [sSu s_p s_a s_marks s_queue s_columns s_rows s_sides s_borderCells s_outerCells s_holes s_holeCells, sCe c_p c_a c_codes c_size]) (S2 := [sSu s_p s_a s_marks s_queue s_columns s_rows s_sides s_borderCells s_outerCells s_holes s_holeCells, sCe c_p c_a c_codes c_size]) (As := [.int v2]) (rest := [.int u9, .ref s_p]) (st2 := [.int u10, .int u9, .ref s_p]) (v1 := some (.int u10)) rfl zl_X9_60 zv_X2_rAt ⟨Nat.le_of_ble_eq_true rfl, Nat.le_of_ble_eq_true rfl⟩ rfl (by decide) rfl rfl rfl rfl rfl (Nat.le_of_ble_eq_true rfl) (t_X2_rAt hu10) rfl rfl rfl ?_
      refine Go.blk zk_X9_openWindow [0, 0] (z' := (136, [some (.ref s_p), some (.ref c_p), some (.int v2), none], [.int v2, .ref c_p, .int u10, .int u9, .ref s_p], ([sSu s_p s_a s_marks s_queue s_columns s_rows s_sides s_borderCells s_outerCells s_holes s_holeCells, sCe c_p c_a c_codes c_size] : List ZW).flatten)) rfl trivial ?_
      obtain ⟨u11, hu11, h⟩ := z_bind h
      refine Go.vs zk_X9_openWindow zm_X2_tAt [1] [0] 0 2 2 (S := [sSu s_p s_a s_marks s_queue s_columns s_rows s_sides s_borderCells s_outerCells s_holes s_holeCells, sCe c_p c_a c_codes c_size]) (S2 := [sSu s_p s_a s_marks s_queue s_columns s_rows s_sides s_borderCells s_outerCells s_holes s_holeCells, sCe c_p c_a c_codes c_size]) (As := [.int v2]) (rest := [.int u10, .int u9, .ref s_p]) (st2 := [.int u11, .int u10, .int u9, .ref s_p]) (v1 := some (.int u11)) rfl zl_X9_66 zv_X2_tAt ⟨Nat.le_of_ble_eq_true rfl, Nat.le_of_ble_eq_true rfl⟩ rfl (by decide) rfl rfl rfl rfl rfl (Nat.le_of_ble_eq_true rfl) (t_X2_tAt hu11) rfl rfl rfl ?_
      obtain ⟨u12, hu12, h⟩ := z_bind h
      refine Go.vs zk_X9_openWindow zm_X9_placeOf [0] [1] 0 9 2 (S := [sSu s_p s_a s_marks s_queue s_columns s_rows s_sides s_borderCells s_outerCells s_holes s_holeCells, sCe c_p c_a c_codes c_size]) (S2 := [sSu s_p s_a s_marks s_queue s_columns s_rows s_sides s_borderCells s_outerCells s_holes s_holeCells, sCe c_p c_a c_codes c_size]) (As := [.int u9, .int u10, .int u11]) (rest := []) (st2 := [.int u12]) (v1 := some (.int u12)) rfl zl_X9_22 zv_X9_placeOf ⟨Nat.le_of_ble_eq_true rfl, Nat.le_of_ble_eq_true rfl⟩ rfl (by decide) rfl rfl rfl rfl rfl (Nat.le_of_ble_eq_true rfl) (t_X9_placeOf hu12) rfl rfl rfl ?_
      refine Go.blk zk_X9_openWindow [0, 0] (z' := (144, [some (.ref s_p), some (.ref c_p), some (.int v2), some (.int u12)], [.int u12], ([sSu s_p s_a s_marks s_queue s_columns s_rows s_sides s_borderCells s_outerCells s_holes s_holeCells, sCe c_p c_a c_codes c_size] : List ZW).flatten)) rfl trivial ?_
      by_cases hc13 : u12 < 0
      · rw [if_pos hc13] at h
        refine Go.br zk_X9_openWindow rfl rfl (fun _ => ?_) (fun q => absurd hc13 q)
        refine Go.blk zk_X9_openWindow [0, 0] (z' := (115, [some (.ref s_p), some (.ref c_p), some (.int (v2 + 1)), some (.int u12)], [], ([sSu s_p s_a s_marks s_queue s_columns s_rows s_sides s_borderCells s_outerCells s_holes s_holeCells, sCe c_p c_a c_codes c_size] : List ZW).flatten)) rfl trivial ?_
        refine Go.weak (L := [some (.ref s_p), some (.ref c_p), some (.int (v2 + 1)), some (.int u12)]) (L' := [some (.ref s_p), some (.ref c_p), some (.int (v2 + 1)), none]) (And.intro rfl (And.intro rfl (And.intro rfl (trivial)))) ?_
        exact ih _ _ _ h kk
      · rw [if_neg hc13] at h
        refine Go.br zk_X9_openWindow rfl rfl (fun q => absurd q hc13) (fun _ => ?_)
        refine Go.blk zk_X9_openWindow [0, 0, 0, 0] (z' := (153, [some (.ref s_p), some (.ref c_p), some (.int v2), some (.int u12)], [.int 1, .int u12, .ref (s_a 0)], ([sSu s_p s_a s_marks s_queue s_columns s_rows s_sides s_borderCells s_outerCells s_holes s_holeCells, sCe c_p c_a c_codes c_size] : List ZW).flatten)) rfl ⟨rfl, trivial⟩ ?_
        obtain ⟨t14, ht14, h⟩ := z_bind h
        refine Go.iast zk_X9_openWindow 1 rfl rfl rfl ht14 ?_
        refine Go.eqz (z2 := (154, [some (.ref s_p), some (.ref c_p), some (.int v2), some (.int u12)], [], ([sSu s_p s_a t14 s_queue s_columns s_rows s_sides s_borderCells s_outerCells s_holes s_holeCells, sCe c_p c_a c_codes c_size] : List ZW).flatten)) rfl ?_
        refine Go.blk zk_X9_openWindow [0, 0] (z' := (115, [some (.ref s_p), some (.ref c_p), some (.int (v2 + 1)), some (.int u12)], [], ([sSu s_p s_a t14 s_queue s_columns s_rows s_sides s_borderCells s_outerCells s_holes s_holeCells, sCe c_p c_a c_codes c_size] : List ZW).flatten)) rfl trivial ?_
        refine Go.weak (L := [some (.ref s_p), some (.ref c_p), some (.int (v2 + 1)), some (.int u12)]) (L' := [some (.ref s_p), some (.ref c_p), some (.int (v2 + 1)), none]) (And.intro rfl (And.intro rfl (And.intro rfl (trivial)))) ?_
        exact ih _ _ _ h kk
    · rw [if_neg hc8] at h
      refine Go.br zk_X9_openWindow rfl rfl (fun q => absurd q hc8) (fun _ => ?_)
      obtain rfl := Option.some.inj h
      refine Go.weak (L := [some (.ref s_p), some (.ref c_p), some (.int v2), none]) (L' := [none, none, none, none]) (trivial) ?_
      exact kk
set_option maxHeartbeats 4000000 in
set_option maxRecDepth 100000 in
theorem t_X9_openWindow {N : Nat} {s_p : Nat} {s_a : Nat → Nat} {s_marks : List Int32} {s_queue : List Int32} {s_columns : Int32} {s_rows : Int32} {s_sides : Int32} {s_borderCells : Int32} {s_outerCells : Int32} {s_holes : Int32} {s_holeCells : Int32} {c_p : Nat} {c_a : Nat → Nat} {c_codes : List Int32} {c_size : Int32} {u : (List Int32) × Int32 × Int32}  (h : f_X9_openWindow N s_marks c_codes c_size = some u) : Ct l D r (z_rl xs) zm_X9_openWindow 0 0 [.ref s_p, .ref c_p] ([sSu s_p s_a s_marks s_queue s_columns s_rows s_sides s_borderCells s_outerCells s_holes s_holeCells, sCe c_p c_a c_codes c_size] : List ZW).flatten (fun v' w' => v' = none ∧ w' = ([sSu s_p s_a u.1 s_queue u.2.1 u.2.2 s_sides s_borderCells s_outerCells s_holes s_holeCells, sCe c_p c_a c_codes c_size] : List ZW).flatten) := by
  refine Ct.of (by decide +kernel) rfl (fun q => absurd q (by decide)) (Nat.le_of_ble_eq_true rfl) ?_
  refine Go.eqz (z2 := (0, [some (.ref s_p), some (.ref c_p), none, none], [], ([sSu s_p s_a s_marks s_queue s_columns s_rows s_sides s_borderCells s_outerCells s_holes s_holeCells, sCe c_p c_a c_codes c_size] : List ZW).flatten)) rfl ?_
  unfold f_X9_openWindow at h
  refine Go.blk zk_X9_openWindow [0, 0] (z' := (2, [some (.ref s_p), some (.ref c_p), none, none], [.int 0, .ref s_p], ([sSu s_p s_a s_marks s_queue s_columns s_rows s_sides s_borderCells s_outerCells s_holes s_holeCells, sCe c_p c_a c_codes c_size] : List ZW).flatten)) rfl trivial ?_
  refine Go.put zk_X9_openWindow 0 rfl rfl rfl rfl rfl (Nat.le_of_ble_eq_true rfl) ?_
  refine Go.eqz (z2 := (5, [some (.ref s_p), some (.ref c_p), none, none], [], ([sSu s_p s_a s_marks s_queue 0 s_rows s_sides s_borderCells s_outerCells s_holes s_holeCells, sCe c_p c_a c_codes c_size] : List ZW).flatten)) rfl ?_
  refine Go.blk zk_X9_openWindow [0, 0] (z' := (7, [some (.ref s_p), some (.ref c_p), none, none], [.int 0, .ref s_p], ([sSu s_p s_a s_marks s_queue 0 s_rows s_sides s_borderCells s_outerCells s_holes s_holeCells, sCe c_p c_a c_codes c_size] : List ZW).flatten)) rfl trivial ?_
  refine Go.put zk_X9_openWindow 0 rfl rfl rfl rfl rfl (Nat.le_of_ble_eq_true rfl) ?_
  refine Go.eqz (z2 := (10, [some (.ref s_p), some (.ref c_p), none, none], [], ([sSu s_p s_a s_marks s_queue 0 0 s_sides s_borderCells s_outerCells s_holes s_holeCells, sCe c_p c_a c_codes c_size] : List ZW).flatten)) rfl ?_
  refine Go.blk zk_X9_openWindow [0, 0] (z' := (12, [some (.ref s_p), some (.ref c_p), some (.int 0), none], [], ([sSu s_p s_a s_marks s_queue 0 0 s_sides s_borderCells s_outerCells s_holes s_holeCells, sCe c_p c_a c_codes c_size] : List ZW).flatten)) rfl trivial ?_
  obtain ⟨e4, he4, h⟩ := z_bind h
  refine t_X9_openWindow_L12 N _ _ _ _ he4 ?_
  refine Go.blk zk_X9_openWindow [0, 0, 0, 0] (z' := (69, [some (.ref s_p), some (.ref c_p), none, none], [.int 12, .int e4.1, .ref s_p], ([sSu s_p s_a s_marks s_queue e4.1 e4.2 s_sides s_borderCells s_outerCells s_holes s_holeCells, sCe c_p c_a c_codes c_size] : List ZW).flatten)) rfl ⟨rfl, trivial⟩ ?_
  refine Go.mmin zk_X9_openWindow rfl zl_X9_63 ⟨Nat.le_of_ble_eq_true rfl, Nat.le_of_ble_eq_true rfl⟩ zw_min ?_
  refine Go.put zk_X9_openWindow 0 rfl rfl rfl rfl rfl (Nat.le_of_ble_eq_true rfl) ?_
  refine Go.eqz (z2 := (75, [some (.ref s_p), some (.ref c_p), none, none], [], ([sSu s_p s_a s_marks s_queue (if 12 < e4.1 then 12 else e4.1) e4.2 s_sides s_borderCells s_outerCells s_holes s_holeCells, sCe c_p c_a c_codes c_size] : List ZW).flatten)) rfl ?_
  refine Go.blk zk_X9_openWindow [0, 0, 0, 0] (z' := (82, [some (.ref s_p), some (.ref c_p), none, none], [.int 12, .int e4.2, .ref s_p], ([sSu s_p s_a s_marks s_queue (if 12 < e4.1 then 12 else e4.1) e4.2 s_sides s_borderCells s_outerCells s_holes s_holeCells, sCe c_p c_a c_codes c_size] : List ZW).flatten)) rfl ⟨rfl, trivial⟩ ?_
  refine Go.mmin zk_X9_openWindow rfl zl_X9_63 ⟨Nat.le_of_ble_eq_true rfl, Nat.le_of_ble_eq_true rfl⟩ zw_min ?_
  refine Go.put zk_X9_openWindow 0 rfl rfl rfl rfl rfl (Nat.le_of_ble_eq_true rfl) ?_
  refine Go.eqz (z2 := (88, [some (.ref s_p), some (.ref c_p), none, none], [], ([sSu s_p s_a s_marks s_queue (if 12 < e4.1 then 12 else e4.1) (if 12 < e4.2 then 12 else e4.2) s_sides s_borderCells s_outerCells s_holes s_holeCells, sCe c_p c_a c_codes c_size] : List ZW).flatten)) rfl ?_
  refine Go.blk zk_X9_openWindow [0, 0] (z' := (90, [some (.ref s_p), some (.ref c_p), some (.int 0), none], [], ([sSu s_p s_a s_marks s_queue (if 12 < e4.1 then 12 else e4.1) (if 12 < e4.2 then 12 else e4.2) s_sides s_borderCells s_outerCells s_holes s_holeCells, sCe c_p c_a c_codes c_size] : List ZW).flatten)) rfl trivial ?_
  obtain ⟨e7, he7, h⟩ := z_bind h
  refine t_X9_openWindow_L90 N _ _ _ he7 ?_
  refine Go.blk zk_X9_openWindow [0, 0] (z' := (115, [some (.ref s_p), some (.ref c_p), some (.int 0), none], [], ([sSu s_p s_a e7 s_queue (if 12 < e4.1 then 12 else e4.1) (if 12 < e4.2 then 12 else e4.2) s_sides s_borderCells s_outerCells s_holes s_holeCells, sCe c_p c_a c_codes c_size] : List ZW).flatten)) rfl trivial ?_
  obtain ⟨e15, he15, h⟩ := z_bind h
  refine t_X9_openWindow_L115 N _ _ _ he15 ?_
  obtain rfl := Option.some.inj h
  exact Go.vret zk_X9_openWindow rfl rfl ⟨rfl, rfl⟩
set_option maxHeartbeats 4000000 in
set_option maxRecDepth 100000 in
theorem t_X9_countBorderCell {N : Nat} {s_p : Nat} {s_a : Nat → Nat} {s_marks : List Int32} {s_queue : List Int32} {s_columns : Int32} {s_rows : Int32} {s_sides : Int32} {s_borderCells : Int32} {s_outerCells : Int32} {s_holes : Int32} {s_holeCells : Int32} {i1 : Int32} {u : (List Int32) × Int32 × Int32}  (h : f_X9_countBorderCell N i1 s_marks s_borderCells s_outerCells = some u) : Ct l D r (z_rl xs) zm_X9_countBorderCell 0 0 [.ref s_p, .int i1] ([sSu s_p s_a s_marks s_queue s_columns s_rows s_sides s_borderCells s_outerCells s_holes s_holeCells] : List ZW).flatten (fun v' w' => v' = none ∧ w' = ([sSu s_p s_a u.1 s_queue s_columns s_rows s_sides u.2.1 u.2.2 s_holes s_holeCells] : List ZW).flatten) := by
  refine Ct.of (by decide +kernel) rfl (fun q => absurd q (by decide)) (Nat.le_of_ble_eq_true rfl) ?_
  refine Go.eqz (z2 := (0, [some (.ref s_p), some (.int i1)], [], ([sSu s_p s_a s_marks s_queue s_columns s_rows s_sides s_borderCells s_outerCells s_holes s_holeCells] : List ZW).flatten)) rfl ?_
  unfold f_X9_countBorderCell at h
  refine Go.blk zk_X9_countBorderCell [0, 0, 0] (z' := (5, [some (.ref s_p), some (.int i1)], [.int i1, .ref (s_a 0)], ([sSu s_p s_a s_marks s_queue s_columns s_rows s_sides s_borderCells s_outerCells s_holes s_holeCells] : List ZW).flatten)) rfl ⟨rfl, trivial⟩ ?_
  obtain ⟨x1, hx1, h⟩ := z_bind h
  refine Go.iald zk_X9_countBorderCell 1 rfl rfl rfl hx1 ?_
  refine Go.blk zk_X9_countBorderCell [0] (z' := (7, [some (.ref s_p), some (.int i1)], [.int 4, .int x1], ([sSu s_p s_a s_marks s_queue s_columns s_rows s_sides s_borderCells s_outerCells s_holes s_holeCells] : List ZW).flatten)) rfl trivial ?_
  by_cases hc2 : x1 < 4
  · rw [if_pos hc2] at h
    refine Go.br zk_X9_countBorderCell rfl rfl (fun _ => ?_) (fun q => absurd hc2 q)
    refine Go.blk zk_X9_countBorderCell [0, 0, 0, 0, 0] (z' := (17, [some (.ref s_p), some (.int i1)], [.int (s_borderCells + 1), .ref s_p], ([sSu s_p s_a s_marks s_queue s_columns s_rows s_sides s_borderCells s_outerCells s_holes s_holeCells] : List ZW).flatten)) rfl ⟨rfl, trivial⟩ ?_
    refine Go.put zk_X9_countBorderCell 0 rfl rfl rfl rfl rfl (Nat.le_of_ble_eq_true rfl) ?_
    refine Go.eqz (z2 := (20, [some (.ref s_p), some (.int i1)], [], ([sSu s_p s_a s_marks s_queue s_columns s_rows s_sides (s_borderCells + 1) s_outerCells s_holes s_holeCells] : List ZW).flatten)) rfl ?_
    refine Go.blk zk_X9_countBorderCell [0, 0, 0, 0, 0, 0] (z' := (30, [some (.ref s_p), some (.int i1)], [.int i1, .ref (s_a 0), .int s_outerCells, .ref s_p], ([sSu s_p s_a s_marks s_queue s_columns s_rows s_sides (s_borderCells + 1) s_outerCells s_holes s_holeCells] : List ZW).flatten)) rfl ⟨rfl, rfl, trivial⟩ ?_
    obtain ⟨x3, hx3, h⟩ := z_bind h
    refine Go.iald zk_X9_countBorderCell 1 rfl rfl rfl hx3 ?_
    refine Go.blk zk_X9_countBorderCell [0] (z' := (32, [some (.ref s_p), some (.int i1)], [.int 2, .int x3, .int s_outerCells, .ref s_p], ([sSu s_p s_a s_marks s_queue s_columns s_rows s_sides (s_borderCells + 1) s_outerCells s_holes s_holeCells] : List ZW).flatten)) rfl trivial ?_
    by_cases hc4 : x3 = 2
    · rw [if_pos hc4] at h
      refine Go.br zk_X9_countBorderCell rfl rfl (fun _ => ?_) (fun q => absurd hc4 q)
      refine Go.blk zk_X9_countBorderCell [0, 0, 0] (z' := (41, [some (.ref s_p), some (.int i1)], [.int (s_outerCells + 1), .ref s_p], ([sSu s_p s_a s_marks s_queue s_columns s_rows s_sides (s_borderCells + 1) s_outerCells s_holes s_holeCells] : List ZW).flatten)) rfl trivial ?_
      refine Go.put zk_X9_countBorderCell 0 rfl rfl rfl rfl rfl (Nat.le_of_ble_eq_true rfl) ?_
      refine Go.eqz (z2 := (44, [some (.ref s_p), some (.int i1)], [], ([sSu s_p s_a s_marks s_queue s_columns s_rows s_sides (s_borderCells + 1) (s_outerCells + 1) s_holes s_holeCells] : List ZW).flatten)) rfl ?_
      refine Go.blk zk_X9_countBorderCell [0, 0, 0, 0] (z' := (50, [some (.ref s_p), some (.int i1)], [.int i1, .ref (s_a 0), .int i1, .ref (s_a 0)], ([sSu s_p s_a s_marks s_queue s_columns s_rows s_sides (s_borderCells + 1) (s_outerCells + 1) s_holes s_holeCells] : List ZW).flatten)) rfl ⟨rfl, trivial⟩ ?_
      obtain ⟨x5, hx5, h⟩ := z_bind h
      refine Go.iald zk_X9_countBorderCell 1 rfl rfl rfl hx5 ?_
      refine Go.blk zk_X9_countBorderCell [0, 0] (z' := (53, [some (.ref s_p), some (.int i1)], [.int (x5 + 4), .int i1, .ref (s_a 0)], ([sSu s_p s_a s_marks s_queue s_columns s_rows s_sides (s_borderCells + 1) (s_outerCells + 1) s_holes s_holeCells] : List ZW).flatten)) rfl trivial ?_
      obtain ⟨t6, ht6, h⟩ := z_bind h
      refine Go.iast zk_X9_countBorderCell 1 rfl rfl rfl ht6 ?_
      refine Go.eqz (z2 := (54, [some (.ref s_p), some (.int i1)], [], ([sSu s_p s_a t6 s_queue s_columns s_rows s_sides (s_borderCells + 1) (s_outerCells + 1) s_holes s_holeCells] : List ZW).flatten)) rfl ?_
      obtain rfl := Option.some.inj h
      exact Go.vret zk_X9_countBorderCell rfl rfl ⟨rfl, rfl⟩
    · rw [if_neg hc4] at h
      refine Go.br zk_X9_countBorderCell rfl rfl (fun q => absurd q hc4) (fun _ => ?_)
      refine Go.blk zk_X9_countBorderCell [0, 0] (z' := (41, [some (.ref s_p), some (.int i1)], [.int (s_outerCells + 0), .ref s_p], ([sSu s_p s_a s_marks s_queue s_columns s_rows s_sides (s_borderCells + 1) s_outerCells s_holes s_holeCells] : List ZW).flatten)) rfl trivial ?_
      refine Go.put zk_X9_countBorderCell 0 rfl rfl rfl rfl rfl (Nat.le_of_ble_eq_true rfl) ?_
      refine Go.eqz (z2 := (44, [some (.ref s_p), some (.int i1)], [], ([sSu s_p s_a s_marks s_queue s_columns s_rows s_sides (s_borderCells + 1) (s_outerCells + 0) s_holes s_holeCells] : List ZW).flatten)) rfl ?_
      refine Go.blk zk_X9_countBorderCell [0, 0, 0, 0] (z' := (50, [some (.ref s_p), some (.int i1)], [.int i1, .ref (s_a 0), .int i1, .ref (s_a 0)], ([sSu s_p s_a s_marks s_queue s_columns s_rows s_sides (s_borderCells + 1) (s_outerCells + 0) s_holes s_holeCells] : List ZW).flatten)) rfl ⟨rfl, trivial⟩ ?_
      obtain ⟨x7, hx7, h⟩ := z_bind h
      refine Go.iald zk_X9_countBorderCell 1 rfl rfl rfl hx7 ?_
      refine Go.blk zk_X9_countBorderCell [0, 0] (z' := (53, [some (.ref s_p), some (.int i1)], [.int (x7 + 4), .int i1, .ref (s_a 0)], ([sSu s_p s_a s_marks s_queue s_columns s_rows s_sides (s_borderCells + 1) (s_outerCells + 0) s_holes s_holeCells] : List ZW).flatten)) rfl trivial ?_
      obtain ⟨t8, ht8, h⟩ := z_bind h
      refine Go.iast zk_X9_countBorderCell 1 rfl rfl rfl ht8 ?_
      refine Go.eqz (z2 := (54, [some (.ref s_p), some (.int i1)], [], ([sSu s_p s_a t8 s_queue s_columns s_rows s_sides (s_borderCells + 1) (s_outerCells + 0) s_holes s_holeCells] : List ZW).flatten)) rfl ?_
      obtain rfl := Option.some.inj h
      exact Go.vret zk_X9_countBorderCell rfl rfl ⟨rfl, rfl⟩
  · rw [if_neg hc2] at h
    refine Go.br zk_X9_countBorderCell rfl rfl (fun q => absurd q hc2) (fun _ => ?_)
    obtain rfl := Option.some.inj h
    exact Go.vret zk_X9_countBorderCell rfl rfl ⟨rfl, rfl⟩
set_option maxHeartbeats 4000000 in
set_option maxRecDepth 100000 in
theorem t_X9_countBorder_L28 {N : Nat} {s_p : Nat} {s_a : Nat → Nat} {s_queue : List Int32} {s_columns : Int32} {s_rows : Int32} {s_holes : Int32} {s_holeCells : Int32} {c_p : Nat} {c_a : Nat → Nat} {c_codes : List Int32} {c_size : Int32} {g_p : Nat} {g_k : Nat} {v3 : Int32} (hk_g : g_k < 3) {Q : Option Value → ZW → Prop} : ∀ (fu : Nat) (v4 : Int32) (s_marks : List Int32) (s_sides : Int32) (s_borderCells : Int32) (s_outerCells : Int32) (e : (List Int32) × Int32 × Int32 × Int32), f_X9_countBorder_L28 N v3 s_columns s_rows c_codes c_size g_k fu v4 s_marks s_sides s_borderCells s_outerCells = some e → (Go l D r (z_rl xs) zm_X9_countBorder 0 0 (99, [some (.ref s_p), some (.ref c_p), some (.ref g_p), some (.int v3), none, none], [], ([sSu s_p s_a e.1 s_queue s_columns s_rows e.2.1 e.2.2.1 e.2.2.2 s_holes s_holeCells, sCe c_p c_a c_codes c_size, sLa r g_p g_k] : List ZW).flatten) Q) → Go l D r (z_rl xs) zm_X9_countBorder 0 0 (28, [some (.ref s_p), some (.ref c_p), some (.ref g_p), some (.int v3), some (.int v4), none], [], ([sSu s_p s_a s_marks s_queue s_columns s_rows s_sides s_borderCells s_outerCells s_holes s_holeCells, sCe c_p c_a c_codes c_size, sLa r g_p g_k] : List ZW).flatten) Q := by
  intro fu
  induction fu with
  | zero =>
    intro v4 s_marks s_sides s_borderCells s_outerCells e h
    simp only [f_X9_countBorder_L28, reduceCtorEq] at h
  | succ fu ih =>
    intro v4 s_marks s_sides s_borderCells s_outerCells e h kk
    rw [f_X9_countBorder_L28] at h
    refine Go.blk zk_X9_countBorder [0, 0, 5] (z' := (34, [some (.ref s_p), some (.ref c_p), some (.ref g_p), some (.int v3), some (.int v4), none], [.int (zdeg g_k), .int v4], ([sSu s_p s_a s_marks s_queue s_columns s_rows s_sides s_borderCells s_outerCells s_holes s_holeCells, sCe c_p c_a c_codes c_size, sLa r g_p g_k] : List ZW).flatten)) rfl ⟨rfl, trivial⟩ ?_
    by_cases hc2 : v4 < (zdeg g_k)
    · rw [if_pos hc2] at h
      refine Go.br zk_X9_countBorder rfl rfl (fun _ => ?_) (fun q => absurd hc2 q)
      refine Go.blk zk_X9_countBorder [0, 0, 0] (z' := (40, [some (.ref s_p), some (.ref c_p), some (.ref g_p), some (.int v3), some (.int v4), none], [.int v3, .ref c_p, .ref s_p], ([sSu s_p s_a s_marks s_queue s_columns s_rows s_sides s_borderCells s_outerCells s_holes s_holeCells, sCe c_p c_a c_codes c_size, sLa r g_p g_k] : List ZW).flatten)) rfl trivial ?_
      obtain ⟨u3, hu3, h⟩ := z_bind h
      refine Go.vs zk_X9_countBorder zm_X2_qAt [1] [0, 2] 0 2 3 (S := [sSu s_p s_a s_marks s_queue s_columns s_rows s_sides s_borderCells s_outerCells s_holes s_holeCells, sCe c_p c_a c_codes c_size, sLa r g_p g_k]) (S2 := [sSu s_p s_a s_marks s_queue s_columns s_rows s_sides s_borderCells s_outerCells s_holes s_holeCells, sCe c_p c_a c_codes c_size, sLa r g_p g_k]) (As := [.int v3]) (rest := [.ref s_p]) (st2 := [.int u3, .ref s_p]) (v1 := some (.int u3)) rfl zl_X9_50 zv_X2_qAt ⟨Nat.le_of_ble_eq_true rfl, Nat.le_of_ble_eq_true rfl⟩ rfl (by decide) rfl rfl rfl rfl rfl (Nat.le_of_ble_eq_true rfl) (t_X2_qAt hu3) rfl rfl rfl ?_
      refine Go.blk zk_X9_countBorder [0, 0] (z' := (45, [some (.ref s_p), some (.ref c_p), some (.ref g_p), some (.int v3), some (.int v4), none], [.int v3, .ref c_p, .int u3, .ref s_p], ([sSu s_p s_a s_marks s_queue s_columns s_rows s_sides s_borderCells s_outerCells s_holes s_holeCells, sCe c_p c_a c_codes c_size, sLa r g_p g_k] : List ZW).flatten)) rfl trivial ?_
      obtain ⟨u4, hu4, h⟩ := z_bind h
      refine Go.vs zk_X9_countBorder zm_X2_rAt [1] [0, 2] 0 2 3 (S := [sSu s_p s_a s_marks s_queue s_columns s_rows s_sides s_borderCells s_outerCells s_holes s_holeCells, sCe c_p c_a c_codes c_size, sLa r g_p g_k]) (S2 := [sSu s_p s_a s_marks s_queue s_columns s_rows s_sides s_borderCells s_outerCells s_holes s_holeCells, sCe c_p c_a c_codes c_size, sLa r g_p g_k]) (As := [.int v3]) (rest := [.int u3, .ref s_p]) (st2 := [.int u4, .int u3, .ref s_p]) (v1 := some (.int u4)) rfl zl_X9_60 zv_X2_rAt ⟨Nat.le_of_ble_eq_true rfl, Nat.le_of_ble_eq_true rfl⟩ rfl (by decide) rfl rfl rfl rfl rfl (Nat.le_of_ble_eq_true rfl) (t_X2_rAt hu4) rfl rfl rfl ?_
      refine Go.blk zk_X9_countBorder [0, 0] (z' := (50, [some (.ref s_p), some (.ref c_p), some (.ref g_p), some (.int v3), some (.int v4), none], [.int v3, .ref c_p, .int u4, .int u3, .ref s_p], ([sSu s_p s_a s_marks s_queue s_columns s_rows s_sides s_borderCells s_outerCells s_holes s_holeCells, sCe c_p c_a c_codes c_size, sLa r g_p g_k] : List ZW).flatten)) rfl trivial ?_
      obtain ⟨u5, hu5, h⟩ := z_bind h
      refine Go.vs zk_X9_countBorder zm_X2_tAt [1] [0, 2] 0 2 3 (S := [sSu s_p s_a s_marks s_queue s_columns s_rows s_sides s_borderCells s_outerCells s_holes s_holeCells, sCe c_p c_a c_codes c_size, sLa r g_p g_k]) (S2 := [sSu s_p s_a s_marks s_queue s_columns s_rows s_sides s_borderCells s_outerCells s_holes s_holeCells, sCe c_p c_a c_codes c_size, sLa r g_p g_k]) (As := [.int v3]) (rest := [.int u4, .int u3, .ref s_p]) (st2 := [.int u5, .int u4, .int u3, .ref s_p]) (v1 := some (.int u5)) rfl zl_X9_66 zv_X2_tAt ⟨Nat.le_of_ble_eq_true rfl, Nat.le_of_ble_eq_true rfl⟩ rfl (by decide) rfl rfl rfl rfl rfl (Nat.le_of_ble_eq_true rfl) (t_X2_tAt hu5) rfl rfl rfl ?_
      refine Go.blk zk_X9_countBorder [0, 0] (z' := (56, [some (.ref s_p), some (.ref c_p), some (.ref g_p), some (.int v3), some (.int v4), none], [.ref g_p, .int v4, .int u5, .int u4, .int u3, .ref s_p], ([sSu s_p s_a s_marks s_queue s_columns s_rows s_sides s_borderCells s_outerCells s_holes s_holeCells, sCe c_p c_a c_codes c_size, sLa r g_p g_k] : List ZW).flatten)) rfl trivial ?_
      obtain ⟨u6, hu6, h⟩ := z_bind h
      refine Go.vs zk_X9_countBorder zm_X9_neighbourPlace [0, 2] [1] 0 9 3 (S := [sSu s_p s_a s_marks s_queue s_columns s_rows s_sides s_borderCells s_outerCells s_holes s_holeCells, sCe c_p c_a c_codes c_size, sLa r g_p g_k]) (S2 := [sSu s_p s_a s_marks s_queue s_columns s_rows s_sides s_borderCells s_outerCells s_holes s_holeCells, sCe c_p c_a c_codes c_size, sLa r g_p g_k]) (As := [.int u3, .int u4, .int u5, .int v4, .ref g_p]) (rest := []) (st2 := [.int u6]) (v1 := some (.int u6)) rfl zl_X9_83 zv_X9_neighbourPlace ⟨Nat.le_of_ble_eq_true rfl, Nat.le_of_ble_eq_true rfl⟩ rfl (by decide) rfl rfl rfl rfl rfl (Nat.le_of_ble_eq_true rfl) (t_X9_neighbourPlace hk_g hu6) rfl rfl rfl ?_
      refine Go.blk zk_X9_countBorder [0, 0] (z' := (63, [some (.ref s_p), some (.ref c_p), some (.ref g_p), some (.int v3), some (.int v4), some (.int u6)], [.int u6], ([sSu s_p s_a s_marks s_queue s_columns s_rows s_sides s_borderCells s_outerCells s_holes s_holeCells, sCe c_p c_a c_codes c_size, sLa r g_p g_k] : List ZW).flatten)) rfl trivial ?_
      by_cases hc7 : u6 < 0
      · rw [if_pos hc7] at h
        refine Go.br zk_X9_countBorder rfl rfl (fun _ => ?_) (fun q => absurd hc7 q)
        refine Go.blk zk_X9_countBorder [0, 0] (z' := (28, [some (.ref s_p), some (.ref c_p), some (.ref g_p), some (.int v3), some (.int (v4 + 1)), some (.int u6)], [], ([sSu s_p s_a s_marks s_queue s_columns s_rows s_sides s_borderCells s_outerCells s_holes s_holeCells, sCe c_p c_a c_codes c_size, sLa r g_p g_k] : List ZW).flatten)) rfl trivial ?_
        refine Go.weak (L := [some (.ref s_p), some (.ref c_p), some (.ref g_p), some (.int v3), some (.int (v4 + 1)), some (.int u6)]) (L' := [some (.ref s_p), some (.ref c_p), some (.ref g_p), some (.int v3), some (.int (v4 + 1)), none]) (And.intro rfl (And.intro rfl (And.intro rfl (And.intro rfl (And.intro rfl (trivial)))))) ?_
        exact ih _ _ _ _ _ _ h kk
      · rw [if_neg hc7] at h
        refine Go.br zk_X9_countBorder rfl rfl (fun q => absurd q hc7) (fun _ => ?_)
        refine Go.blk zk_X9_countBorder [0, 0, 0] (z' := (72, [some (.ref s_p), some (.ref c_p), some (.ref g_p), some (.int v3), some (.int v4), some (.int u6)], [.int u6, .ref (s_a 0)], ([sSu s_p s_a s_marks s_queue s_columns s_rows s_sides s_borderCells s_outerCells s_holes s_holeCells, sCe c_p c_a c_codes c_size, sLa r g_p g_k] : List ZW).flatten)) rfl ⟨rfl, trivial⟩ ?_
        obtain ⟨x8, hx8, h⟩ := z_bind h
        refine Go.iald zk_X9_countBorder 1 rfl rfl rfl hx8 ?_
        refine Go.blk zk_X9_countBorder [0] (z' := (74, [some (.ref s_p), some (.ref c_p), some (.ref g_p), some (.int v3), some (.int v4), some (.int u6)], [.int 1, .int x8], ([sSu s_p s_a s_marks s_queue s_columns s_rows s_sides s_borderCells s_outerCells s_holes s_holeCells, sCe c_p c_a c_codes c_size, sLa r g_p g_k] : List ZW).flatten)) rfl trivial ?_
        by_cases hc9 : x8 = 1
        · rw [if_pos hc9] at h
          refine Go.br zk_X9_countBorder rfl rfl (fun _ => ?_) (fun q => absurd hc9 q)
          refine Go.blk zk_X9_countBorder [0, 0] (z' := (28, [some (.ref s_p), some (.ref c_p), some (.ref g_p), some (.int v3), some (.int (v4 + 1)), some (.int u6)], [], ([sSu s_p s_a s_marks s_queue s_columns s_rows s_sides s_borderCells s_outerCells s_holes s_holeCells, sCe c_p c_a c_codes c_size, sLa r g_p g_k] : List ZW).flatten)) rfl trivial ?_
          refine Go.weak (L := [some (.ref s_p), some (.ref c_p), some (.ref g_p), some (.int v3), some (.int (v4 + 1)), some (.int u6)]) (L' := [some (.ref s_p), some (.ref c_p), some (.ref g_p), some (.int v3), some (.int (v4 + 1)), none]) (And.intro rfl (And.intro rfl (And.intro rfl (And.intro rfl (And.intro rfl (trivial)))))) ?_
          exact ih _ _ _ _ _ _ h kk
        · rw [if_neg hc9] at h
          refine Go.br zk_X9_countBorder rfl rfl (fun q => absurd q hc9) (fun _ => ?_)
          refine Go.blk zk_X9_countBorder [0, 0, 0, 0, 0] (z' := (84, [some (.ref s_p), some (.ref c_p), some (.ref g_p), some (.int v3), some (.int v4), some (.int u6)], [.int (s_sides + 1), .ref s_p], ([sSu s_p s_a s_marks s_queue s_columns s_rows s_sides s_borderCells s_outerCells s_holes s_holeCells, sCe c_p c_a c_codes c_size, sLa r g_p g_k] : List ZW).flatten)) rfl ⟨rfl, trivial⟩ ?_
          refine Go.put zk_X9_countBorder 0 rfl rfl rfl rfl rfl (Nat.le_of_ble_eq_true rfl) ?_
          refine Go.eqz (z2 := (87, [some (.ref s_p), some (.ref c_p), some (.ref g_p), some (.int v3), some (.int v4), some (.int u6)], [], ([sSu s_p s_a s_marks s_queue s_columns s_rows (s_sides + 1) s_borderCells s_outerCells s_holes s_holeCells, sCe c_p c_a c_codes c_size, sLa r g_p g_k] : List ZW).flatten)) rfl ?_
          refine Go.blk zk_X9_countBorder [0, 0] (z' := (90, [some (.ref s_p), some (.ref c_p), some (.ref g_p), some (.int v3), some (.int v4), some (.int u6)], [.int u6, .ref s_p], ([sSu s_p s_a s_marks s_queue s_columns s_rows (s_sides + 1) s_borderCells s_outerCells s_holes s_holeCells, sCe c_p c_a c_codes c_size, sLa r g_p g_k] : List ZW).flatten)) rfl trivial ?_
          obtain ⟨u10, hu10, h⟩ := z_bind h
          refine Go.vs zk_X9_countBorder zm_X9_countBorderCell [0] [1, 2] 0 9 3 (S := [sSu s_p s_a s_marks s_queue s_columns s_rows (s_sides + 1) s_borderCells s_outerCells s_holes s_holeCells, sCe c_p c_a c_codes c_size, sLa r g_p g_k]) (S2 := [sSu s_p s_a u10.1 s_queue s_columns s_rows (s_sides + 1) u10.2.1 u10.2.2 s_holes s_holeCells, sCe c_p c_a c_codes c_size, sLa r g_p g_k]) (As := [.int u6]) (rest := []) (st2 := []) (v1 := none) rfl zl_X9_105 zv_X9_countBorderCell ⟨Nat.le_of_ble_eq_true rfl, Nat.le_of_ble_eq_true rfl⟩ rfl (by decide) rfl rfl rfl rfl rfl (Nat.le_of_ble_eq_true rfl) (t_X9_countBorderCell hu10) rfl rfl rfl ?_
          refine Go.blk zk_X9_countBorder [0, 0] (z' := (28, [some (.ref s_p), some (.ref c_p), some (.ref g_p), some (.int v3), some (.int (v4 + 1)), some (.int u6)], [], ([sSu s_p s_a u10.1 s_queue s_columns s_rows (s_sides + 1) u10.2.1 u10.2.2 s_holes s_holeCells, sCe c_p c_a c_codes c_size, sLa r g_p g_k] : List ZW).flatten)) rfl trivial ?_
          refine Go.weak (L := [some (.ref s_p), some (.ref c_p), some (.ref g_p), some (.int v3), some (.int (v4 + 1)), some (.int u6)]) (L' := [some (.ref s_p), some (.ref c_p), some (.ref g_p), some (.int v3), some (.int (v4 + 1)), none]) (And.intro rfl (And.intro rfl (And.intro rfl (And.intro rfl (And.intro rfl (trivial)))))) ?_
          exact ih _ _ _ _ _ _ h kk
    · rw [if_neg hc2] at h
      refine Go.br zk_X9_countBorder rfl rfl (fun q => absurd q hc2) (fun _ => ?_)
      obtain rfl := Option.some.inj h
      refine Go.weak (L := [some (.ref s_p), some (.ref c_p), some (.ref g_p), some (.int v3), some (.int v4), none]) (L' := [some (.ref s_p), some (.ref c_p), some (.ref g_p), some (.int v3), none, none]) (And.intro rfl (And.intro rfl (And.intro rfl (And.intro rfl (trivial))))) ?_
      exact kk
set_option maxHeartbeats 4000000 in
set_option maxRecDepth 100000 in
theorem t_X9_countBorder_L17 {N : Nat} {s_p : Nat} {s_a : Nat → Nat} {s_queue : List Int32} {s_columns : Int32} {s_rows : Int32} {s_holes : Int32} {s_holeCells : Int32} {c_p : Nat} {c_a : Nat → Nat} {c_codes : List Int32} {c_size : Int32} {g_p : Nat} {g_k : Nat} (hk_g : g_k < 3) {Q : Option Value → ZW → Prop} : ∀ (fu : Nat) (v3 : Int32) (s_marks : List Int32) (s_sides : Int32) (s_borderCells : Int32) (s_outerCells : Int32) (e : (List Int32) × Int32 × Int32 × Int32), f_X9_countBorder_L17 N s_columns s_rows c_codes c_size g_k fu v3 s_marks s_sides s_borderCells s_outerCells = some e → (Go l D r (z_rl xs) zm_X9_countBorder 0 0 (105, [none, none, none, none, none, none], [], ([sSu s_p s_a e.1 s_queue s_columns s_rows e.2.1 e.2.2.1 e.2.2.2 s_holes s_holeCells, sCe c_p c_a c_codes c_size, sLa r g_p g_k] : List ZW).flatten) Q) → Go l D r (z_rl xs) zm_X9_countBorder 0 0 (17, [some (.ref s_p), some (.ref c_p), some (.ref g_p), some (.int v3), none, none], [], ([sSu s_p s_a s_marks s_queue s_columns s_rows s_sides s_borderCells s_outerCells s_holes s_holeCells, sCe c_p c_a c_codes c_size, sLa r g_p g_k] : List ZW).flatten) Q := by
  intro fu
  induction fu with
  | zero =>
    intro v3 s_marks s_sides s_borderCells s_outerCells e h
    simp only [f_X9_countBorder_L17, reduceCtorEq] at h
  | succ fu ih =>
    intro v3 s_marks s_sides s_borderCells s_outerCells e h kk
    rw [f_X9_countBorder_L17] at h
    refine Go.blk zk_X9_countBorder [0, 0, 3] (z' := (22, [some (.ref s_p), some (.ref c_p), some (.ref g_p), some (.int v3), none, none], [.int c_size, .int v3], ([sSu s_p s_a s_marks s_queue s_columns s_rows s_sides s_borderCells s_outerCells s_holes s_holeCells, sCe c_p c_a c_codes c_size, sLa r g_p g_k] : List ZW).flatten)) rfl ⟨rfl, trivial⟩ ?_
    by_cases hc1 : v3 < c_size
    · rw [if_pos hc1] at h
      refine Go.br zk_X9_countBorder rfl rfl (fun _ => ?_) (fun q => absurd hc1 q)
      refine Go.blk zk_X9_countBorder [0, 0] (z' := (28, [some (.ref s_p), some (.ref c_p), some (.ref g_p), some (.int v3), some (.int 0), none], [], ([sSu s_p s_a s_marks s_queue s_columns s_rows s_sides s_borderCells s_outerCells s_holes s_holeCells, sCe c_p c_a c_codes c_size, sLa r g_p g_k] : List ZW).flatten)) rfl trivial ?_
      obtain ⟨e11, he11, h⟩ := z_bind h
      refine t_X9_countBorder_L28 hk_g N _ _ _ _ _ _ he11 ?_
      refine Go.blk zk_X9_countBorder [0, 0] (z' := (17, [some (.ref s_p), some (.ref c_p), some (.ref g_p), some (.int (v3 + 1)), none, none], [], ([sSu s_p s_a e11.1 s_queue s_columns s_rows e11.2.1 e11.2.2.1 e11.2.2.2 s_holes s_holeCells, sCe c_p c_a c_codes c_size, sLa r g_p g_k] : List ZW).flatten)) rfl trivial ?_
      exact ih _ _ _ _ _ _ h kk
    · rw [if_neg hc1] at h
      refine Go.br zk_X9_countBorder rfl rfl (fun q => absurd q hc1) (fun _ => ?_)
      obtain rfl := Option.some.inj h
      refine Go.weak (L := [some (.ref s_p), some (.ref c_p), some (.ref g_p), some (.int v3), none, none]) (L' := [none, none, none, none, none, none]) (trivial) ?_
      exact kk
set_option maxHeartbeats 4000000 in
set_option maxRecDepth 100000 in
theorem t_X9_countBorder {N : Nat} {s_p : Nat} {s_a : Nat → Nat} {s_marks : List Int32} {s_queue : List Int32} {s_columns : Int32} {s_rows : Int32} {s_sides : Int32} {s_borderCells : Int32} {s_outerCells : Int32} {s_holes : Int32} {s_holeCells : Int32} {c_p : Nat} {c_a : Nat → Nat} {c_codes : List Int32} {c_size : Int32} {g_p : Nat} {g_k : Nat} {u : (List Int32) × Int32 × Int32 × Int32} (hk_g : g_k < 3) (h : f_X9_countBorder N s_marks s_columns s_rows c_codes c_size g_k = some u) : Ct l D r (z_rl xs) zm_X9_countBorder 0 0 [.ref s_p, .ref c_p, .ref g_p] ([sSu s_p s_a s_marks s_queue s_columns s_rows s_sides s_borderCells s_outerCells s_holes s_holeCells, sCe c_p c_a c_codes c_size, sLa r g_p g_k] : List ZW).flatten (fun v' w' => v' = none ∧ w' = ([sSu s_p s_a u.1 s_queue s_columns s_rows u.2.1 u.2.2.1 u.2.2.2 s_holes s_holeCells, sCe c_p c_a c_codes c_size, sLa r g_p g_k] : List ZW).flatten) := by
  refine Ct.of (by decide +kernel) rfl (fun q => absurd q (by decide)) (Nat.le_of_ble_eq_true rfl) ?_
  refine Go.eqz (z2 := (0, [some (.ref s_p), some (.ref c_p), some (.ref g_p), none, none, none], [], ([sSu s_p s_a s_marks s_queue s_columns s_rows s_sides s_borderCells s_outerCells s_holes s_holeCells, sCe c_p c_a c_codes c_size, sLa r g_p g_k] : List ZW).flatten)) rfl ?_
  unfold f_X9_countBorder at h
  refine Go.blk zk_X9_countBorder [0, 0] (z' := (2, [some (.ref s_p), some (.ref c_p), some (.ref g_p), none, none, none], [.int 0, .ref s_p], ([sSu s_p s_a s_marks s_queue s_columns s_rows s_sides s_borderCells s_outerCells s_holes s_holeCells, sCe c_p c_a c_codes c_size, sLa r g_p g_k] : List ZW).flatten)) rfl trivial ?_
  refine Go.put zk_X9_countBorder 0 rfl rfl rfl rfl rfl (Nat.le_of_ble_eq_true rfl) ?_
  refine Go.eqz (z2 := (5, [some (.ref s_p), some (.ref c_p), some (.ref g_p), none, none, none], [], ([sSu s_p s_a s_marks s_queue s_columns s_rows 0 s_borderCells s_outerCells s_holes s_holeCells, sCe c_p c_a c_codes c_size, sLa r g_p g_k] : List ZW).flatten)) rfl ?_
  refine Go.blk zk_X9_countBorder [0, 0] (z' := (7, [some (.ref s_p), some (.ref c_p), some (.ref g_p), none, none, none], [.int 0, .ref s_p], ([sSu s_p s_a s_marks s_queue s_columns s_rows 0 s_borderCells s_outerCells s_holes s_holeCells, sCe c_p c_a c_codes c_size, sLa r g_p g_k] : List ZW).flatten)) rfl trivial ?_
  refine Go.put zk_X9_countBorder 0 rfl rfl rfl rfl rfl (Nat.le_of_ble_eq_true rfl) ?_
  refine Go.eqz (z2 := (10, [some (.ref s_p), some (.ref c_p), some (.ref g_p), none, none, none], [], ([sSu s_p s_a s_marks s_queue s_columns s_rows 0 0 s_outerCells s_holes s_holeCells, sCe c_p c_a c_codes c_size, sLa r g_p g_k] : List ZW).flatten)) rfl ?_
  refine Go.blk zk_X9_countBorder [0, 0] (z' := (12, [some (.ref s_p), some (.ref c_p), some (.ref g_p), none, none, none], [.int 0, .ref s_p], ([sSu s_p s_a s_marks s_queue s_columns s_rows 0 0 s_outerCells s_holes s_holeCells, sCe c_p c_a c_codes c_size, sLa r g_p g_k] : List ZW).flatten)) rfl trivial ?_
  refine Go.put zk_X9_countBorder 0 rfl rfl rfl rfl rfl (Nat.le_of_ble_eq_true rfl) ?_
  refine Go.eqz (z2 := (15, [some (.ref s_p), some (.ref c_p), some (.ref g_p), none, none, none], [], ([sSu s_p s_a s_marks s_queue s_columns s_rows 0 0 0 s_holes s_holeCells, sCe c_p c_a c_codes c_size, sLa r g_p g_k] : List ZW).flatten)) rfl ?_
  refine Go.blk zk_X9_countBorder [0, 0] (z' := (17, [some (.ref s_p), some (.ref c_p), some (.ref g_p), some (.int 0), none, none], [], ([sSu s_p s_a s_marks s_queue s_columns s_rows 0 0 0 s_holes s_holeCells, sCe c_p c_a c_codes c_size, sLa r g_p g_k] : List ZW).flatten)) rfl trivial ?_
  obtain ⟨e12, he12, h⟩ := z_bind h
  refine t_X9_countBorder_L17 hk_g N _ _ _ _ _ _ he12 ?_
  obtain rfl := Option.some.inj h
  exact Go.vret zk_X9_countBorder rfl rfl ⟨rfl, rfl⟩
set_option maxHeartbeats 4000000 in
set_option maxRecDepth 100000 in
theorem t_X9_look {N : Nat} {s_p : Nat} {s_a : Nat → Nat} {s_marks : List Int32} {s_queue : List Int32} {s_columns : Int32} {s_rows : Int32} {s_sides : Int32} {s_borderCells : Int32} {s_outerCells : Int32} {s_holes : Int32} {s_holeCells : Int32} {c_p : Nat} {c_a : Nat → Nat} {c_codes : List Int32} {c_size : Int32} {g_p : Nat} {g_k : Nat} {u : (List Int32) × (List Int32) × Int32 × Int32 × Int32 × Int32 × Int32 × Int32 × Int32} (hk_g : g_k < 3) (h : f_X9_look N s_marks s_queue c_codes c_size g_k = some u) : Ct l D r (z_rl xs) zm_X9_look 0 0 [.ref s_p, .ref c_p, .ref g_p] ([sSu s_p s_a s_marks s_queue s_columns s_rows s_sides s_borderCells s_outerCells s_holes s_holeCells, sCe c_p c_a c_codes c_size, sLa r g_p g_k] : List ZW).flatten (fun v' w' => v' = none ∧ w' = ([sSu s_p s_a u.1 u.2.1 u.2.2.1 u.2.2.2.1 u.2.2.2.2.1 u.2.2.2.2.2.1 u.2.2.2.2.2.2.1 u.2.2.2.2.2.2.2.1 u.2.2.2.2.2.2.2.2, sCe c_p c_a c_codes c_size, sLa r g_p g_k] : List ZW).flatten) := by
  refine Ct.of (by decide +kernel) rfl (fun q => absurd q (by decide)) (Nat.le_of_ble_eq_true rfl) ?_
  refine Go.eqz (z2 := (0, [some (.ref s_p), some (.ref c_p), some (.ref g_p)], [], ([sSu s_p s_a s_marks s_queue s_columns s_rows s_sides s_borderCells s_outerCells s_holes s_holeCells, sCe c_p c_a c_codes c_size, sLa r g_p g_k] : List ZW).flatten)) rfl ?_
  unfold f_X9_look at h
  refine Go.blk zk_X9_look [0, 0] (z' := (2, [some (.ref s_p), some (.ref c_p), some (.ref g_p)], [.ref c_p, .ref s_p], ([sSu s_p s_a s_marks s_queue s_columns s_rows s_sides s_borderCells s_outerCells s_holes s_holeCells, sCe c_p c_a c_codes c_size, sLa r g_p g_k] : List ZW).flatten)) rfl trivial ?_
  obtain ⟨u1, hu1, h⟩ := z_bind h
  refine Go.vs zk_X9_look zm_X9_openWindow [0, 1] [2] 0 9 3 (S := [sSu s_p s_a s_marks s_queue s_columns s_rows s_sides s_borderCells s_outerCells s_holes s_holeCells, sCe c_p c_a c_codes c_size, sLa r g_p g_k]) (S2 := [sSu s_p s_a u1.1 s_queue u1.2.1 u1.2.2 s_sides s_borderCells s_outerCells s_holes s_holeCells, sCe c_p c_a c_codes c_size, sLa r g_p g_k]) (As := [.ref c_p]) (rest := []) (st2 := []) (v1 := none) rfl zl_X9_18 zv_X9_openWindow ⟨Nat.le_of_ble_eq_true rfl, Nat.le_of_ble_eq_true rfl⟩ rfl (by decide) rfl rfl rfl rfl rfl (Nat.le_of_ble_eq_true rfl) (t_X9_openWindow hu1) rfl rfl rfl ?_
  refine Go.blk zk_X9_look [0, 0, 0, 0, 0] (z' := (10, [some (.ref s_p), some (.ref c_p), some (.ref g_p)], [.int 0, .int (-1), .int (-1), .ref s_p, .ref s_p], ([sSu s_p s_a u1.1 s_queue u1.2.1 u1.2.2 s_sides s_borderCells s_outerCells s_holes s_holeCells, sCe c_p c_a c_codes c_size, sLa r g_p g_k] : List ZW).flatten)) rfl trivial ?_
  obtain ⟨u2, hu2, h⟩ := z_bind h
  refine Go.vs zk_X9_look zm_X9_placeOf [0] [1, 2] 0 9 3 (S := [sSu s_p s_a u1.1 s_queue u1.2.1 u1.2.2 s_sides s_borderCells s_outerCells s_holes s_holeCells, sCe c_p c_a c_codes c_size, sLa r g_p g_k]) (S2 := [sSu s_p s_a u1.1 s_queue u1.2.1 u1.2.2 s_sides s_borderCells s_outerCells s_holes s_holeCells, sCe c_p c_a c_codes c_size, sLa r g_p g_k]) (As := [.int (-1), .int (-1), .int 0]) (rest := [.ref s_p]) (st2 := [.int u2, .ref s_p]) (v1 := some (.int u2)) rfl zl_X9_22 zv_X9_placeOf ⟨Nat.le_of_ble_eq_true rfl, Nat.le_of_ble_eq_true rfl⟩ rfl (by decide) rfl rfl rfl rfl rfl (Nat.le_of_ble_eq_true rfl) (t_X9_placeOf hu2) rfl rfl rfl ?_
  refine Go.blk zk_X9_look [0, 0] (z' := (15, [some (.ref s_p), some (.ref c_p), some (.ref g_p)], [.ref g_p, .int 2, .int u2, .ref s_p], ([sSu s_p s_a u1.1 s_queue u1.2.1 u1.2.2 s_sides s_borderCells s_outerCells s_holes s_holeCells, sCe c_p c_a c_codes c_size, sLa r g_p g_k] : List ZW).flatten)) rfl trivial ?_
  obtain ⟨u3, hu3, h⟩ := z_bind h
  refine Go.vs zk_X9_look zm_X9_flood [0, 2] [1] 0 9 3 (S := [sSu s_p s_a u1.1 s_queue u1.2.1 u1.2.2 s_sides s_borderCells s_outerCells s_holes s_holeCells, sCe c_p c_a c_codes c_size, sLa r g_p g_k]) (S2 := [sSu s_p s_a u3.2.1 u3.2.2 u1.2.1 u1.2.2 s_sides s_borderCells s_outerCells s_holes s_holeCells, sCe c_p c_a c_codes c_size, sLa r g_p g_k]) (As := [.int u2, .int 2, .ref g_p]) (rest := []) (st2 := [.int u3.1]) (v1 := some (.int u3.1)) rfl zl_X9_26 zv_X9_flood ⟨Nat.le_of_ble_eq_true rfl, Nat.le_of_ble_eq_true rfl⟩ rfl (by decide) rfl rfl rfl rfl rfl (Nat.le_of_ble_eq_true rfl) (t_X9_flood hk_g hu3) rfl rfl rfl ?_
  refine Go.blk zk_X9_look [0, 0, 0] (z' := (21, [some (.ref s_p), some (.ref c_p), some (.ref g_p)], [.ref g_p, .ref s_p], ([sSu s_p s_a u3.2.1 u3.2.2 u1.2.1 u1.2.2 s_sides s_borderCells s_outerCells s_holes s_holeCells, sCe c_p c_a c_codes c_size, sLa r g_p g_k] : List ZW).flatten)) rfl trivial ?_
  obtain ⟨u4, hu4, h⟩ := z_bind h
  refine Go.vs zk_X9_look zm_X9_countHoles [0, 2] [1] 0 9 3 (S := [sSu s_p s_a u3.2.1 u3.2.2 u1.2.1 u1.2.2 s_sides s_borderCells s_outerCells s_holes s_holeCells, sCe c_p c_a c_codes c_size, sLa r g_p g_k]) (S2 := [sSu s_p s_a u4.1 u4.2.1 u1.2.1 u1.2.2 s_sides s_borderCells s_outerCells u4.2.2.1 u4.2.2.2, sCe c_p c_a c_codes c_size, sLa r g_p g_k]) (As := [.ref g_p]) (rest := []) (st2 := []) (v1 := none) rfl zl_X9_30 zv_X9_countHoles ⟨Nat.le_of_ble_eq_true rfl, Nat.le_of_ble_eq_true rfl⟩ rfl (by decide) rfl rfl rfl rfl rfl (Nat.le_of_ble_eq_true rfl) (t_X9_countHoles hk_g hu4) rfl rfl rfl ?_
  refine Go.blk zk_X9_look [0, 0, 0] (z' := (27, [some (.ref s_p), some (.ref c_p), some (.ref g_p)], [.ref g_p, .ref c_p, .ref s_p], ([sSu s_p s_a u4.1 u4.2.1 u1.2.1 u1.2.2 s_sides s_borderCells s_outerCells u4.2.2.1 u4.2.2.2, sCe c_p c_a c_codes c_size, sLa r g_p g_k] : List ZW).flatten)) rfl trivial ?_
  obtain ⟨u5, hu5, h⟩ := z_bind h
  refine Go.vs zk_X9_look zm_X9_countBorder [0, 1, 2] [] 0 9 3 (S := [sSu s_p s_a u4.1 u4.2.1 u1.2.1 u1.2.2 s_sides s_borderCells s_outerCells u4.2.2.1 u4.2.2.2, sCe c_p c_a c_codes c_size, sLa r g_p g_k]) (S2 := [sSu s_p s_a u5.1 u4.2.1 u1.2.1 u1.2.2 u5.2.1 u5.2.2.1 u5.2.2.2 u4.2.2.1 u4.2.2.2, sCe c_p c_a c_codes c_size, sLa r g_p g_k]) (As := [.ref c_p, .ref g_p]) (rest := []) (st2 := []) (v1 := none) rfl zl_X9_34 zv_X9_countBorder ⟨Nat.le_of_ble_eq_true rfl, Nat.le_of_ble_eq_true rfl⟩ rfl (by decide) rfl rfl rfl rfl rfl (Nat.le_of_ble_eq_true rfl) (t_X9_countBorder hk_g hu5) rfl rfl rfl ?_
  obtain rfl := Option.some.inj h
  exact Go.vret zk_X9_look rfl rfl ⟨rfl, rfl⟩
end
