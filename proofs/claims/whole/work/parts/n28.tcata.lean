section
variable {l : Launch} {D : va_G} {r : Nat → Nat} {xs : List Int32}
set_option maxHeartbeats 4000000 in
set_option maxRecDepth 100000 in
theorem t_X1_isSize {N : Nat} {k_p : Nat} {k_a : Nat → Nat} {k_images : Nat} {k_surroundings : Nat} {k_figure : Nat} {k_fixed : Nat} {k_fixedStart : List Int32} {k_fixedBuilt : Int32} {k_free : Nat} {k_freeStart : List Int32} {k_freeBuilt : Int32} {k_sidesTally : List Int32} {k_symmetriesTally : List Int32} {k_holesTally : List Int32} {k_tallied : Int32} {g_p : Nat} {g_k : Nat} {i1 : Int32} {u : Int32} (hk_g : g_k < 3) (h : f_X1_isSize N i1 g_k = some u) : Ct l D r (z_rl xs) zm_X1_isSize 0 0 [.ref k_p, .int i1] ([sCa k_p k_a g_p k_images k_surroundings k_figure k_fixed k_fixedStart k_fixedBuilt k_free k_freeStart k_freeBuilt k_sidesTally k_symmetriesTally k_holesTally k_tallied, sLa r g_p g_k] : List ZW).flatten (fun v' w' => v' = some (.int u) ∧ w' = ([sCa k_p k_a g_p k_images k_surroundings k_figure k_fixed k_fixedStart k_fixedBuilt k_free k_freeStart k_freeBuilt k_sidesTally k_symmetriesTally k_holesTally k_tallied, sLa r g_p g_k] : List ZW).flatten) := by
  refine Ct.of (by decide +kernel) rfl (fun q => absurd q (by decide)) (Nat.le_of_ble_eq_true rfl) ?_
  refine Go.eqz (z2 := (0, [some (.ref k_p), some (.int i1)], [], ([sCa k_p k_a g_p k_images k_surroundings k_figure k_fixed k_fixedStart k_fixedBuilt k_free k_freeStart k_freeBuilt k_sidesTally k_symmetriesTally k_holesTally k_tallied, sLa r g_p g_k] : List ZW).flatten)) rfl ?_
  unfold f_X1_isSize at h
  refine Go.blk zk_X1_isSize [0, 0] (z' := (2, [some (.ref k_p), some (.int i1)], [.int 1, .int i1], ([sCa k_p k_a g_p k_images k_surroundings k_figure k_fixed k_fixedStart k_fixedBuilt k_free k_freeStart k_freeBuilt k_sidesTally k_symmetriesTally k_holesTally k_tallied, sLa r g_p g_k] : List ZW).flatten)) rfl trivial ?_
  by_cases hc1 : i1 < 1
  · rw [if_pos hc1] at h
    refine Go.br zk_X1_isSize rfl rfl (fun _ => ?_) (fun q => absurd hc1 q)
    refine Go.blk zk_X1_isSize [0] (z' := (27, [some (.ref k_p), some (.int i1)], [.int 0], ([sCa k_p k_a g_p k_images k_surroundings k_figure k_fixed k_fixedStart k_fixedBuilt k_free k_freeStart k_freeBuilt k_sidesTally k_symmetriesTally k_holesTally k_tallied, sLa r g_p g_k] : List ZW).flatten)) rfl trivial ?_
    obtain rfl := Option.some.inj h
    exact Go.iret zk_X1_isSize rfl rfl rfl ⟨rfl, rfl⟩
  · rw [if_neg hc1] at h
    refine Go.br zk_X1_isSize rfl rfl (fun q => absurd q hc1) (fun _ => ?_)
    refine Go.blk zk_X1_isSize [0, 0, 0, 6] (z' := (13, [some (.ref k_p), some (.int i1)], [.int (zgre g_k), .int i1], ([sCa k_p k_a g_p k_images k_surroundings k_figure k_fixed k_fixedStart k_fixedBuilt k_free k_freeStart k_freeBuilt k_sidesTally k_symmetriesTally k_holesTally k_tallied, sLa r g_p g_k] : List ZW).flatten)) rfl ⟨rfl, rfl, trivial⟩ ?_
    by_cases hc2 : (zgre g_k) < i1
    · rw [if_pos hc2] at h
      refine Go.br zk_X1_isSize rfl rfl (fun _ => ?_) (fun q => absurd hc2 q)
      refine Go.blk zk_X1_isSize [0] (z' := (27, [some (.ref k_p), some (.int i1)], [.int 0], ([sCa k_p k_a g_p k_images k_surroundings k_figure k_fixed k_fixedStart k_fixedBuilt k_free k_freeStart k_freeBuilt k_sidesTally k_symmetriesTally k_holesTally k_tallied, sLa r g_p g_k] : List ZW).flatten)) rfl trivial ?_
      obtain rfl := Option.some.inj h
      exact Go.iret zk_X1_isSize rfl rfl rfl ⟨rfl, rfl⟩
    · rw [if_neg hc2] at h
      refine Go.br zk_X1_isSize rfl rfl (fun q => absurd q hc2) (fun _ => ?_)
      refine Go.blk zk_X1_isSize [0, 0] (z' := (19, [some (.ref k_p), some (.int i1)], [.int 9, .int i1], ([sCa k_p k_a g_p k_images k_surroundings k_figure k_fixed k_fixedStart k_fixedBuilt k_free k_freeStart k_freeBuilt k_sidesTally k_symmetriesTally k_holesTally k_tallied, sLa r g_p g_k] : List ZW).flatten)) rfl trivial ?_
      by_cases hc3 : i1 < 9
      · rw [if_pos hc3] at h
        refine Go.br zk_X1_isSize rfl rfl (fun _ => ?_) (fun q => absurd hc3 q)
        refine Go.blk zk_X1_isSize [0, 0] (z' := (27, [some (.ref k_p), some (.int i1)], [.int 1], ([sCa k_p k_a g_p k_images k_surroundings k_figure k_fixed k_fixedStart k_fixedBuilt k_free k_freeStart k_freeBuilt k_sidesTally k_symmetriesTally k_holesTally k_tallied, sLa r g_p g_k] : List ZW).flatten)) rfl trivial ?_
        obtain rfl := Option.some.inj h
        exact Go.iret zk_X1_isSize rfl rfl rfl ⟨rfl, rfl⟩
      · rw [if_neg hc3] at h
        refine Go.br zk_X1_isSize rfl rfl (fun q => absurd q hc3) (fun _ => ?_)
        refine Go.blk zk_X1_isSize [0] (z' := (27, [some (.ref k_p), some (.int i1)], [.int 0], ([sCa k_p k_a g_p k_images k_surroundings k_figure k_fixed k_fixedStart k_fixedBuilt k_free k_freeStart k_freeBuilt k_sidesTally k_symmetriesTally k_holesTally k_tallied, sLa r g_p g_k] : List ZW).flatten)) rfl trivial ?_
        obtain rfl := Option.some.inj h
        exact Go.iret zk_X1_isSize rfl rfl rfl ⟨rfl, rfl⟩
set_option maxHeartbeats 4000000 in
set_option maxRecDepth 100000 in
theorem t_X1_fixedLength {N : Nat} {k_p : Nat} {k_a : Nat → Nat} {k_images : Nat} {k_surroundings : Nat} {k_figure : Nat} {k_fixed : Nat} {k_fixedStart : List Int32} {k_fixedBuilt : Int32} {k_free : Nat} {k_freeStart : List Int32} {k_freeBuilt : Int32} {k_sidesTally : List Int32} {k_symmetriesTally : List Int32} {k_holesTally : List Int32} {k_tallied : Int32} {g_p : Nat} {g_k : Nat} {i1 : Int32} {u : Int32} (hk_g : g_k < 3) (h : f_X1_fixedLength N i1 k_fixedStart g_k = some u) : Ct l D r (z_rl xs) zm_X1_fixedLength 0 0 [.ref k_p, .int i1] ([sCa k_p k_a g_p k_images k_surroundings k_figure k_fixed k_fixedStart k_fixedBuilt k_free k_freeStart k_freeBuilt k_sidesTally k_symmetriesTally k_holesTally k_tallied, sLa r g_p g_k] : List ZW).flatten (fun v' w' => v' = some (.int u) ∧ w' = ([sCa k_p k_a g_p k_images k_surroundings k_figure k_fixed k_fixedStart k_fixedBuilt k_free k_freeStart k_freeBuilt k_sidesTally k_symmetriesTally k_holesTally k_tallied, sLa r g_p g_k] : List ZW).flatten) := by
  refine Ct.of (by decide +kernel) rfl (fun q => absurd q (by decide)) (Nat.le_of_ble_eq_true rfl) ?_
  refine Go.eqz (z2 := (0, [some (.ref k_p), some (.int i1)], [], ([sCa k_p k_a g_p k_images k_surroundings k_figure k_fixed k_fixedStart k_fixedBuilt k_free k_freeStart k_freeBuilt k_sidesTally k_symmetriesTally k_holesTally k_tallied, sLa r g_p g_k] : List ZW).flatten)) rfl ?_
  unfold f_X1_fixedLength at h
  refine Go.blk zk_X1_fixedLength [0, 0] (z' := (2, [some (.ref k_p), some (.int i1)], [.int i1, .ref k_p], ([sCa k_p k_a g_p k_images k_surroundings k_figure k_fixed k_fixedStart k_fixedBuilt k_free k_freeStart k_freeBuilt k_sidesTally k_symmetriesTally k_holesTally k_tallied, sLa r g_p g_k] : List ZW).flatten)) rfl trivial ?_
  obtain ⟨u1, hu1, h⟩ := z_bind h
  refine Go.vs zk_X1_fixedLength zm_X1_isSize [0, 1] [] 0 1 2 (S := [sCa k_p k_a g_p k_images k_surroundings k_figure k_fixed k_fixedStart k_fixedBuilt k_free k_freeStart k_freeBuilt k_sidesTally k_symmetriesTally k_holesTally k_tallied, sLa r g_p g_k]) (S2 := [sCa k_p k_a g_p k_images k_surroundings k_figure k_fixed k_fixedStart k_fixedBuilt k_free k_freeStart k_freeBuilt k_sidesTally k_symmetriesTally k_holesTally k_tallied, sLa r g_p g_k]) (As := [.int i1]) (rest := []) (st2 := [.int u1]) (v1 := some (.int u1)) rfl zl_X1_61 zv_X1_isSize ⟨Nat.le_of_ble_eq_true rfl, Nat.le_of_ble_eq_true rfl⟩ rfl (by decide) rfl rfl rfl rfl rfl (Nat.le_of_ble_eq_true rfl) (t_X1_isSize hk_g hu1) rfl rfl rfl ?_
  by_cases hc2 : u1 = 0
  · rw [if_pos hc2] at h
    refine Go.br zk_X1_fixedLength rfl rfl (fun _ => ?_) (fun q => absurd hc2 q)
    refine Go.blk zk_X1_fixedLength [0] (z' := (27, [some (.ref k_p), some (.int i1)], [.int 0], ([sCa k_p k_a g_p k_images k_surroundings k_figure k_fixed k_fixedStart k_fixedBuilt k_free k_freeStart k_freeBuilt k_sidesTally k_symmetriesTally k_holesTally k_tallied, sLa r g_p g_k] : List ZW).flatten)) rfl trivial ?_
    obtain rfl := Option.some.inj h
    exact Go.iret zk_X1_fixedLength rfl rfl rfl ⟨rfl, rfl⟩
  · rw [if_neg hc2] at h
    refine Go.br zk_X1_fixedLength rfl rfl (fun q => absurd q hc2) (fun _ => ?_)
    refine Go.blk zk_X1_fixedLength [0, 0, 0, 0, 0] (z' := (15, [some (.ref k_p), some (.int i1)], [.int (i1 + 1), .ref (k_a 0)], ([sCa k_p k_a g_p k_images k_surroundings k_figure k_fixed k_fixedStart k_fixedBuilt k_free k_freeStart k_freeBuilt k_sidesTally k_symmetriesTally k_holesTally k_tallied, sLa r g_p g_k] : List ZW).flatten)) rfl ⟨rfl, trivial⟩ ?_
    obtain ⟨x3, hx3, h⟩ := z_bind h
    refine Go.iald zk_X1_fixedLength 1 rfl rfl rfl hx3 ?_
    refine Go.blk zk_X1_fixedLength [0, 0, 0] (z' := (21, [some (.ref k_p), some (.int i1)], [.int i1, .ref (k_a 0), .int x3], ([sCa k_p k_a g_p k_images k_surroundings k_figure k_fixed k_fixedStart k_fixedBuilt k_free k_freeStart k_freeBuilt k_sidesTally k_symmetriesTally k_holesTally k_tallied, sLa r g_p g_k] : List ZW).flatten)) rfl ⟨rfl, trivial⟩ ?_
    obtain ⟨x4, hx4, h⟩ := z_bind h
    refine Go.iald zk_X1_fixedLength 1 rfl rfl rfl hx4 ?_
    refine Go.blk zk_X1_fixedLength [0, 0] (z' := (27, [some (.ref k_p), some (.int i1)], [.int (x3 - x4)], ([sCa k_p k_a g_p k_images k_surroundings k_figure k_fixed k_fixedStart k_fixedBuilt k_free k_freeStart k_freeBuilt k_sidesTally k_symmetriesTally k_holesTally k_tallied, sLa r g_p g_k] : List ZW).flatten)) rfl trivial ?_
    obtain rfl := Option.some.inj h
    exact Go.iret zk_X1_fixedLength rfl rfl rfl ⟨rfl, rfl⟩
set_option maxHeartbeats 4000000 in
set_option maxRecDepth 100000 in
theorem t_X1_freeLength {N : Nat} {k_p : Nat} {k_a : Nat → Nat} {k_images : Nat} {k_surroundings : Nat} {k_figure : Nat} {k_fixed : Nat} {k_fixedStart : List Int32} {k_fixedBuilt : Int32} {k_free : Nat} {k_freeStart : List Int32} {k_freeBuilt : Int32} {k_sidesTally : List Int32} {k_symmetriesTally : List Int32} {k_holesTally : List Int32} {k_tallied : Int32} {g_p : Nat} {g_k : Nat} {i1 : Int32} {u : Int32} (hk_g : g_k < 3) (h : f_X1_freeLength N i1 k_freeStart g_k = some u) : Ct l D r (z_rl xs) zm_X1_freeLength 0 0 [.ref k_p, .int i1] ([sCa k_p k_a g_p k_images k_surroundings k_figure k_fixed k_fixedStart k_fixedBuilt k_free k_freeStart k_freeBuilt k_sidesTally k_symmetriesTally k_holesTally k_tallied, sLa r g_p g_k] : List ZW).flatten (fun v' w' => v' = some (.int u) ∧ w' = ([sCa k_p k_a g_p k_images k_surroundings k_figure k_fixed k_fixedStart k_fixedBuilt k_free k_freeStart k_freeBuilt k_sidesTally k_symmetriesTally k_holesTally k_tallied, sLa r g_p g_k] : List ZW).flatten) := by
  refine Ct.of (by decide +kernel) rfl (fun q => absurd q (by decide)) (Nat.le_of_ble_eq_true rfl) ?_
  refine Go.eqz (z2 := (0, [some (.ref k_p), some (.int i1)], [], ([sCa k_p k_a g_p k_images k_surroundings k_figure k_fixed k_fixedStart k_fixedBuilt k_free k_freeStart k_freeBuilt k_sidesTally k_symmetriesTally k_holesTally k_tallied, sLa r g_p g_k] : List ZW).flatten)) rfl ?_
  unfold f_X1_freeLength at h
  refine Go.blk zk_X1_freeLength [0, 0] (z' := (2, [some (.ref k_p), some (.int i1)], [.int i1, .ref k_p], ([sCa k_p k_a g_p k_images k_surroundings k_figure k_fixed k_fixedStart k_fixedBuilt k_free k_freeStart k_freeBuilt k_sidesTally k_symmetriesTally k_holesTally k_tallied, sLa r g_p g_k] : List ZW).flatten)) rfl trivial ?_
  obtain ⟨u1, hu1, h⟩ := z_bind h
  refine Go.vs zk_X1_freeLength zm_X1_isSize [0, 1] [] 0 1 2 (S := [sCa k_p k_a g_p k_images k_surroundings k_figure k_fixed k_fixedStart k_fixedBuilt k_free k_freeStart k_freeBuilt k_sidesTally k_symmetriesTally k_holesTally k_tallied, sLa r g_p g_k]) (S2 := [sCa k_p k_a g_p k_images k_surroundings k_figure k_fixed k_fixedStart k_fixedBuilt k_free k_freeStart k_freeBuilt k_sidesTally k_symmetriesTally k_holesTally k_tallied, sLa r g_p g_k]) (As := [.int i1]) (rest := []) (st2 := [.int u1]) (v1 := some (.int u1)) rfl zl_X1_61 zv_X1_isSize ⟨Nat.le_of_ble_eq_true rfl, Nat.le_of_ble_eq_true rfl⟩ rfl (by decide) rfl rfl rfl rfl rfl (Nat.le_of_ble_eq_true rfl) (t_X1_isSize hk_g hu1) rfl rfl rfl ?_
  by_cases hc2 : u1 = 0
  · rw [if_pos hc2] at h
    refine Go.br zk_X1_freeLength rfl rfl (fun _ => ?_) (fun q => absurd hc2 q)
    refine Go.blk zk_X1_freeLength [0] (z' := (27, [some (.ref k_p), some (.int i1)], [.int 0], ([sCa k_p k_a g_p k_images k_surroundings k_figure k_fixed k_fixedStart k_fixedBuilt k_free k_freeStart k_freeBuilt k_sidesTally k_symmetriesTally k_holesTally k_tallied, sLa r g_p g_k] : List ZW).flatten)) rfl trivial ?_
    obtain rfl := Option.some.inj h
    exact Go.iret zk_X1_freeLength rfl rfl rfl ⟨rfl, rfl⟩
  · rw [if_neg hc2] at h
    refine Go.br zk_X1_freeLength rfl rfl (fun q => absurd q hc2) (fun _ => ?_)
    refine Go.blk zk_X1_freeLength [0, 0, 0, 0, 0] (z' := (15, [some (.ref k_p), some (.int i1)], [.int (i1 + 1), .ref (k_a 1)], ([sCa k_p k_a g_p k_images k_surroundings k_figure k_fixed k_fixedStart k_fixedBuilt k_free k_freeStart k_freeBuilt k_sidesTally k_symmetriesTally k_holesTally k_tallied, sLa r g_p g_k] : List ZW).flatten)) rfl ⟨rfl, trivial⟩ ?_
    obtain ⟨x3, hx3, h⟩ := z_bind h
    refine Go.iald zk_X1_freeLength 2 rfl rfl rfl hx3 ?_
    refine Go.blk zk_X1_freeLength [0, 0, 0] (z' := (21, [some (.ref k_p), some (.int i1)], [.int i1, .ref (k_a 1), .int x3], ([sCa k_p k_a g_p k_images k_surroundings k_figure k_fixed k_fixedStart k_fixedBuilt k_free k_freeStart k_freeBuilt k_sidesTally k_symmetriesTally k_holesTally k_tallied, sLa r g_p g_k] : List ZW).flatten)) rfl ⟨rfl, trivial⟩ ?_
    obtain ⟨x4, hx4, h⟩ := z_bind h
    refine Go.iald zk_X1_freeLength 2 rfl rfl rfl hx4 ?_
    refine Go.blk zk_X1_freeLength [0, 0] (z' := (27, [some (.ref k_p), some (.int i1)], [.int (x3 - x4)], ([sCa k_p k_a g_p k_images k_surroundings k_figure k_fixed k_fixedStart k_fixedBuilt k_free k_freeStart k_freeBuilt k_sidesTally k_symmetriesTally k_holesTally k_tallied, sLa r g_p g_k] : List ZW).flatten)) rfl trivial ?_
    obtain rfl := Option.some.inj h
    exact Go.iret zk_X1_freeLength rfl rfl rfl ⟨rfl, rfl⟩
set_option maxHeartbeats 4000000 in
set_option maxRecDepth 100000 in
theorem t_X1_fixedWithSides {N : Nat} {k_p : Nat} {k_a : Nat → Nat} {k_images : Nat} {k_surroundings : Nat} {k_figure : Nat} {k_fixed : Nat} {k_fixedStart : List Int32} {k_fixedBuilt : Int32} {k_free : Nat} {k_freeStart : List Int32} {k_freeBuilt : Int32} {k_sidesTally : List Int32} {k_symmetriesTally : List Int32} {k_holesTally : List Int32} {k_tallied : Int32} {g_p : Nat} {g_k : Nat} {i1 : Int32} {i2 : Int32} {u : Int32} (hk_g : g_k < 3) (h : f_X1_fixedWithSides N i1 i2 k_sidesTally g_k = some u) : Ct l D r (z_rl xs) zm_X1_fixedWithSides 0 0 [.ref k_p, .int i1, .int i2] ([sCa k_p k_a g_p k_images k_surroundings k_figure k_fixed k_fixedStart k_fixedBuilt k_free k_freeStart k_freeBuilt k_sidesTally k_symmetriesTally k_holesTally k_tallied, sLa r g_p g_k] : List ZW).flatten (fun v' w' => v' = some (.int u) ∧ w' = ([sCa k_p k_a g_p k_images k_surroundings k_figure k_fixed k_fixedStart k_fixedBuilt k_free k_freeStart k_freeBuilt k_sidesTally k_symmetriesTally k_holesTally k_tallied, sLa r g_p g_k] : List ZW).flatten) := by
  refine Ct.of (by decide +kernel) rfl (fun q => absurd q (by decide)) (Nat.le_of_ble_eq_true rfl) ?_
  refine Go.eqz (z2 := (0, [some (.ref k_p), some (.int i1), some (.int i2)], [], ([sCa k_p k_a g_p k_images k_surroundings k_figure k_fixed k_fixedStart k_fixedBuilt k_free k_freeStart k_freeBuilt k_sidesTally k_symmetriesTally k_holesTally k_tallied, sLa r g_p g_k] : List ZW).flatten)) rfl ?_
  unfold f_X1_fixedWithSides at h
  refine Go.blk zk_X1_fixedWithSides [0, 0] (z' := (2, [some (.ref k_p), some (.int i1), some (.int i2)], [.int i1, .ref k_p], ([sCa k_p k_a g_p k_images k_surroundings k_figure k_fixed k_fixedStart k_fixedBuilt k_free k_freeStart k_freeBuilt k_sidesTally k_symmetriesTally k_holesTally k_tallied, sLa r g_p g_k] : List ZW).flatten)) rfl trivial ?_
  obtain ⟨u1, hu1, h⟩ := z_bind h
  refine Go.vs zk_X1_fixedWithSides zm_X1_isSize [0, 1] [] 0 1 2 (S := [sCa k_p k_a g_p k_images k_surroundings k_figure k_fixed k_fixedStart k_fixedBuilt k_free k_freeStart k_freeBuilt k_sidesTally k_symmetriesTally k_holesTally k_tallied, sLa r g_p g_k]) (S2 := [sCa k_p k_a g_p k_images k_surroundings k_figure k_fixed k_fixedStart k_fixedBuilt k_free k_freeStart k_freeBuilt k_sidesTally k_symmetriesTally k_holesTally k_tallied, sLa r g_p g_k]) (As := [.int i1]) (rest := []) (st2 := [.int u1]) (v1 := some (.int u1)) rfl zl_X1_61 zv_X1_isSize ⟨Nat.le_of_ble_eq_true rfl, Nat.le_of_ble_eq_true rfl⟩ rfl (by decide) rfl rfl rfl rfl rfl (Nat.le_of_ble_eq_true rfl) (t_X1_isSize hk_g hu1) rfl rfl rfl ?_
  by_cases hc2 : u1 = 0
  · rw [if_pos hc2] at h
    refine Go.br zk_X1_fixedWithSides rfl rfl (fun _ => ?_) (fun q => absurd hc2 q)
    refine Go.blk zk_X1_fixedWithSides [0] (z' := (33, [some (.ref k_p), some (.int i1), some (.int i2)], [.int 0], ([sCa k_p k_a g_p k_images k_surroundings k_figure k_fixed k_fixedStart k_fixedBuilt k_free k_freeStart k_freeBuilt k_sidesTally k_symmetriesTally k_holesTally k_tallied, sLa r g_p g_k] : List ZW).flatten)) rfl trivial ?_
    obtain rfl := Option.some.inj h
    exact Go.iret zk_X1_fixedWithSides rfl rfl rfl ⟨rfl, rfl⟩
  · rw [if_neg hc2] at h
    refine Go.br zk_X1_fixedWithSides rfl rfl (fun q => absurd q hc2) (fun _ => ?_)
    refine Go.blk zk_X1_fixedWithSides [0] (z' := (9, [some (.ref k_p), some (.int i1), some (.int i2)], [.int i2], ([sCa k_p k_a g_p k_images k_surroundings k_figure k_fixed k_fixedStart k_fixedBuilt k_free k_freeStart k_freeBuilt k_sidesTally k_symmetriesTally k_holesTally k_tallied, sLa r g_p g_k] : List ZW).flatten)) rfl trivial ?_
    by_cases hc3 : i2 < 0
    · rw [if_pos hc3] at h
      refine Go.br zk_X1_fixedWithSides rfl rfl (fun _ => ?_) (fun q => absurd hc3 q)
      refine Go.blk zk_X1_fixedWithSides [0] (z' := (33, [some (.ref k_p), some (.int i1), some (.int i2)], [.int 0], ([sCa k_p k_a g_p k_images k_surroundings k_figure k_fixed k_fixedStart k_fixedBuilt k_free k_freeStart k_freeBuilt k_sidesTally k_symmetriesTally k_holesTally k_tallied, sLa r g_p g_k] : List ZW).flatten)) rfl trivial ?_
      obtain rfl := Option.some.inj h
      exact Go.iret zk_X1_fixedWithSides rfl rfl rfl ⟨rfl, rfl⟩
    · rw [if_neg hc3] at h
      refine Go.br zk_X1_fixedWithSides rfl rfl (fun q => absurd q hc3) (fun _ => ?_)
      refine Go.blk zk_X1_fixedWithSides [0, 0] (z' := (15, [some (.ref k_p), some (.int i1), some (.int i2)], [.int 37, .int i2], ([sCa k_p k_a g_p k_images k_surroundings k_figure k_fixed k_fixedStart k_fixedBuilt k_free k_freeStart k_freeBuilt k_sidesTally k_symmetriesTally k_holesTally k_tallied, sLa r g_p g_k] : List ZW).flatten)) rfl trivial ?_
      by_cases hc4 : i2 < 37
      · rw [if_pos hc4] at h
        refine Go.br zk_X1_fixedWithSides rfl rfl (fun _ => ?_) (fun q => absurd hc4 q)
        refine Go.blk zk_X1_fixedWithSides [0, 0, 0, 0, 0, 0, 0] (z' := (28, [some (.ref k_p), some (.int i1), some (.int i2)], [.int ((i1 * 37) + i2), .ref (k_a 2)], ([sCa k_p k_a g_p k_images k_surroundings k_figure k_fixed k_fixedStart k_fixedBuilt k_free k_freeStart k_freeBuilt k_sidesTally k_symmetriesTally k_holesTally k_tallied, sLa r g_p g_k] : List ZW).flatten)) rfl ⟨rfl, trivial⟩ ?_
        obtain ⟨x5, hx5, h⟩ := z_bind h
        refine Go.iald zk_X1_fixedWithSides 3 rfl rfl rfl hx5 ?_
        refine Go.blk zk_X1_fixedWithSides [0] (z' := (33, [some (.ref k_p), some (.int i1), some (.int i2)], [.int x5], ([sCa k_p k_a g_p k_images k_surroundings k_figure k_fixed k_fixedStart k_fixedBuilt k_free k_freeStart k_freeBuilt k_sidesTally k_symmetriesTally k_holesTally k_tallied, sLa r g_p g_k] : List ZW).flatten)) rfl trivial ?_
        obtain rfl := Option.some.inj h
        exact Go.iret zk_X1_fixedWithSides rfl rfl rfl ⟨rfl, rfl⟩
      · rw [if_neg hc4] at h
        refine Go.br zk_X1_fixedWithSides rfl rfl (fun q => absurd q hc4) (fun _ => ?_)
        refine Go.blk zk_X1_fixedWithSides [0] (z' := (33, [some (.ref k_p), some (.int i1), some (.int i2)], [.int 0], ([sCa k_p k_a g_p k_images k_surroundings k_figure k_fixed k_fixedStart k_fixedBuilt k_free k_freeStart k_freeBuilt k_sidesTally k_symmetriesTally k_holesTally k_tallied, sLa r g_p g_k] : List ZW).flatten)) rfl trivial ?_
        obtain rfl := Option.some.inj h
        exact Go.iret zk_X1_fixedWithSides rfl rfl rfl ⟨rfl, rfl⟩
set_option maxHeartbeats 4000000 in
set_option maxRecDepth 100000 in
theorem t_X1_fixedWithHoles {N : Nat} {k_p : Nat} {k_a : Nat → Nat} {k_images : Nat} {k_surroundings : Nat} {k_figure : Nat} {k_fixed : Nat} {k_fixedStart : List Int32} {k_fixedBuilt : Int32} {k_free : Nat} {k_freeStart : List Int32} {k_freeBuilt : Int32} {k_sidesTally : List Int32} {k_symmetriesTally : List Int32} {k_holesTally : List Int32} {k_tallied : Int32} {g_p : Nat} {g_k : Nat} {i1 : Int32} {u : Int32} (hk_g : g_k < 3) (h : f_X1_fixedWithHoles N i1 k_holesTally g_k = some u) : Ct l D r (z_rl xs) zm_X1_fixedWithHoles 0 0 [.ref k_p, .int i1] ([sCa k_p k_a g_p k_images k_surroundings k_figure k_fixed k_fixedStart k_fixedBuilt k_free k_freeStart k_freeBuilt k_sidesTally k_symmetriesTally k_holesTally k_tallied, sLa r g_p g_k] : List ZW).flatten (fun v' w' => v' = some (.int u) ∧ w' = ([sCa k_p k_a g_p k_images k_surroundings k_figure k_fixed k_fixedStart k_fixedBuilt k_free k_freeStart k_freeBuilt k_sidesTally k_symmetriesTally k_holesTally k_tallied, sLa r g_p g_k] : List ZW).flatten) := by
  refine Ct.of (by decide +kernel) rfl (fun q => absurd q (by decide)) (Nat.le_of_ble_eq_true rfl) ?_
  refine Go.eqz (z2 := (0, [some (.ref k_p), some (.int i1)], [], ([sCa k_p k_a g_p k_images k_surroundings k_figure k_fixed k_fixedStart k_fixedBuilt k_free k_freeStart k_freeBuilt k_sidesTally k_symmetriesTally k_holesTally k_tallied, sLa r g_p g_k] : List ZW).flatten)) rfl ?_
  unfold f_X1_fixedWithHoles at h
  refine Go.blk zk_X1_fixedWithHoles [0, 0] (z' := (2, [some (.ref k_p), some (.int i1)], [.int i1, .ref k_p], ([sCa k_p k_a g_p k_images k_surroundings k_figure k_fixed k_fixedStart k_fixedBuilt k_free k_freeStart k_freeBuilt k_sidesTally k_symmetriesTally k_holesTally k_tallied, sLa r g_p g_k] : List ZW).flatten)) rfl trivial ?_
  obtain ⟨u1, hu1, h⟩ := z_bind h
  refine Go.vs zk_X1_fixedWithHoles zm_X1_isSize [0, 1] [] 0 1 2 (S := [sCa k_p k_a g_p k_images k_surroundings k_figure k_fixed k_fixedStart k_fixedBuilt k_free k_freeStart k_freeBuilt k_sidesTally k_symmetriesTally k_holesTally k_tallied, sLa r g_p g_k]) (S2 := [sCa k_p k_a g_p k_images k_surroundings k_figure k_fixed k_fixedStart k_fixedBuilt k_free k_freeStart k_freeBuilt k_sidesTally k_symmetriesTally k_holesTally k_tallied, sLa r g_p g_k]) (As := [.int i1]) (rest := []) (st2 := [.int u1]) (v1 := some (.int u1)) rfl zl_X1_61 zv_X1_isSize ⟨Nat.le_of_ble_eq_true rfl, Nat.le_of_ble_eq_true rfl⟩ rfl (by decide) rfl rfl rfl rfl rfl (Nat.le_of_ble_eq_true rfl) (t_X1_isSize hk_g hu1) rfl rfl rfl ?_
  by_cases hc2 : u1 = 0
  · rw [if_pos hc2] at h
    refine Go.br zk_X1_fixedWithHoles rfl rfl (fun _ => ?_) (fun q => absurd hc2 q)
    refine Go.blk zk_X1_fixedWithHoles [0] (z' := (18, [some (.ref k_p), some (.int i1)], [.int 0], ([sCa k_p k_a g_p k_images k_surroundings k_figure k_fixed k_fixedStart k_fixedBuilt k_free k_freeStart k_freeBuilt k_sidesTally k_symmetriesTally k_holesTally k_tallied, sLa r g_p g_k] : List ZW).flatten)) rfl trivial ?_
    obtain rfl := Option.some.inj h
    exact Go.iret zk_X1_fixedWithHoles rfl rfl rfl ⟨rfl, rfl⟩
  · rw [if_neg hc2] at h
    refine Go.br zk_X1_fixedWithHoles rfl rfl (fun q => absurd q hc2) (fun _ => ?_)
    refine Go.blk zk_X1_fixedWithHoles [0, 0, 0] (z' := (13, [some (.ref k_p), some (.int i1)], [.int i1, .ref (k_a 4)], ([sCa k_p k_a g_p k_images k_surroundings k_figure k_fixed k_fixedStart k_fixedBuilt k_free k_freeStart k_freeBuilt k_sidesTally k_symmetriesTally k_holesTally k_tallied, sLa r g_p g_k] : List ZW).flatten)) rfl ⟨rfl, trivial⟩ ?_
    obtain ⟨x3, hx3, h⟩ := z_bind h
    refine Go.iald zk_X1_fixedWithHoles 5 rfl rfl rfl hx3 ?_
    refine Go.blk zk_X1_fixedWithHoles [0] (z' := (18, [some (.ref k_p), some (.int i1)], [.int x3], ([sCa k_p k_a g_p k_images k_surroundings k_figure k_fixed k_fixedStart k_fixedBuilt k_free k_freeStart k_freeBuilt k_sidesTally k_symmetriesTally k_holesTally k_tallied, sLa r g_p g_k] : List ZW).flatten)) rfl trivial ?_
    obtain rfl := Option.some.inj h
    exact Go.iret zk_X1_fixedWithHoles rfl rfl rfl ⟨rfl, rfl⟩
set_option maxHeartbeats 4000000 in
set_option maxRecDepth 100000 in
theorem t_X1_freeWithSymmetries {N : Nat} {k_p : Nat} {k_a : Nat → Nat} {k_images : Nat} {k_surroundings : Nat} {k_figure : Nat} {k_fixed : Nat} {k_fixedStart : List Int32} {k_fixedBuilt : Int32} {k_free : Nat} {k_freeStart : List Int32} {k_freeBuilt : Int32} {k_sidesTally : List Int32} {k_symmetriesTally : List Int32} {k_holesTally : List Int32} {k_tallied : Int32} {g_p : Nat} {g_k : Nat} {i1 : Int32} {i2 : Int32} {u : Int32} (hk_g : g_k < 3) (h : f_X1_freeWithSymmetries N i1 i2 k_symmetriesTally g_k = some u) : Ct l D r (z_rl xs) zm_X1_freeWithSymmetries 0 0 [.ref k_p, .int i1, .int i2] ([sCa k_p k_a g_p k_images k_surroundings k_figure k_fixed k_fixedStart k_fixedBuilt k_free k_freeStart k_freeBuilt k_sidesTally k_symmetriesTally k_holesTally k_tallied, sLa r g_p g_k] : List ZW).flatten (fun v' w' => v' = some (.int u) ∧ w' = ([sCa k_p k_a g_p k_images k_surroundings k_figure k_fixed k_fixedStart k_fixedBuilt k_free k_freeStart k_freeBuilt k_sidesTally k_symmetriesTally k_holesTally k_tallied, sLa r g_p g_k] : List ZW).flatten) := by
  refine Ct.of (by decide +kernel) rfl (fun q => absurd q (by decide)) (Nat.le_of_ble_eq_true rfl) ?_
  refine Go.eqz (z2 := (0, [some (.ref k_p), some (.int i1), some (.int i2), none], [], ([sCa k_p k_a g_p k_images k_surroundings k_figure k_fixed k_fixedStart k_fixedBuilt k_free k_freeStart k_freeBuilt k_sidesTally k_symmetriesTally k_holesTally k_tallied, sLa r g_p g_k] : List ZW).flatten)) rfl ?_
  unfold f_X1_freeWithSymmetries at h
  refine Go.blk zk_X1_freeWithSymmetries [0, 0] (z' := (2, [some (.ref k_p), some (.int i1), some (.int i2), none], [.int i1, .ref k_p], ([sCa k_p k_a g_p k_images k_surroundings k_figure k_fixed k_fixedStart k_fixedBuilt k_free k_freeStart k_freeBuilt k_sidesTally k_symmetriesTally k_holesTally k_tallied, sLa r g_p g_k] : List ZW).flatten)) rfl trivial ?_
  obtain ⟨u1, hu1, h⟩ := z_bind h
  refine Go.vs zk_X1_freeWithSymmetries zm_X1_isSize [0, 1] [] 0 1 2 (S := [sCa k_p k_a g_p k_images k_surroundings k_figure k_fixed k_fixedStart k_fixedBuilt k_free k_freeStart k_freeBuilt k_sidesTally k_symmetriesTally k_holesTally k_tallied, sLa r g_p g_k]) (S2 := [sCa k_p k_a g_p k_images k_surroundings k_figure k_fixed k_fixedStart k_fixedBuilt k_free k_freeStart k_freeBuilt k_sidesTally k_symmetriesTally k_holesTally k_tallied, sLa r g_p g_k]) (As := [.int i1]) (rest := []) (st2 := [.int u1]) (v1 := some (.int u1)) rfl zl_X1_61 zv_X1_isSize ⟨Nat.le_of_ble_eq_true rfl, Nat.le_of_ble_eq_true rfl⟩ rfl (by decide) rfl rfl rfl rfl rfl (Nat.le_of_ble_eq_true rfl) (t_X1_isSize hk_g hu1) rfl rfl rfl ?_
  by_cases hc2 : u1 = 0
  · rw [if_pos hc2] at h
    refine Go.br zk_X1_freeWithSymmetries rfl rfl (fun _ => ?_) (fun q => absurd hc2 q)
    refine Go.blk zk_X1_freeWithSymmetries [0, 0, 0] (z' := (25, [some (.ref k_p), some (.int i1), some (.int i2), some (.int 0)], [.int 0], ([sCa k_p k_a g_p k_images k_surroundings k_figure k_fixed k_fixedStart k_fixedBuilt k_free k_freeStart k_freeBuilt k_sidesTally k_symmetriesTally k_holesTally k_tallied, sLa r g_p g_k] : List ZW).flatten)) rfl trivial ?_
    refine Go.br zk_X1_freeWithSymmetries rfl rfl (fun _ => ?_) (fun q => absurd (by decide) q)
    refine Go.blk zk_X1_freeWithSymmetries [0] (z' := (43, [some (.ref k_p), some (.int i1), some (.int i2), some (.int 0)], [.int 0], ([sCa k_p k_a g_p k_images k_surroundings k_figure k_fixed k_fixedStart k_fixedBuilt k_free k_freeStart k_freeBuilt k_sidesTally k_symmetriesTally k_holesTally k_tallied, sLa r g_p g_k] : List ZW).flatten)) rfl trivial ?_
    obtain rfl := Option.some.inj h
    exact Go.iret zk_X1_freeWithSymmetries rfl rfl rfl ⟨rfl, rfl⟩
  · rw [if_neg hc2] at h
    refine Go.br zk_X1_freeWithSymmetries rfl rfl (fun q => absurd q hc2) (fun _ => ?_)
    refine Go.blk zk_X1_freeWithSymmetries [0] (z' := (9, [some (.ref k_p), some (.int i1), some (.int i2), none], [.int i2], ([sCa k_p k_a g_p k_images k_surroundings k_figure k_fixed k_fixedStart k_fixedBuilt k_free k_freeStart k_freeBuilt k_sidesTally k_symmetriesTally k_holesTally k_tallied, sLa r g_p g_k] : List ZW).flatten)) rfl trivial ?_
    by_cases hc3 : i2 < 0
    · rw [if_pos hc3] at h
      refine Go.br zk_X1_freeWithSymmetries rfl rfl (fun _ => ?_) (fun q => absurd hc3 q)
      refine Go.blk zk_X1_freeWithSymmetries [0, 0, 0] (z' := (25, [some (.ref k_p), some (.int i1), some (.int i2), some (.int 0)], [.int 0], ([sCa k_p k_a g_p k_images k_surroundings k_figure k_fixed k_fixedStart k_fixedBuilt k_free k_freeStart k_freeBuilt k_sidesTally k_symmetriesTally k_holesTally k_tallied, sLa r g_p g_k] : List ZW).flatten)) rfl trivial ?_
      refine Go.br zk_X1_freeWithSymmetries rfl rfl (fun _ => ?_) (fun q => absurd (by decide) q)
      refine Go.blk zk_X1_freeWithSymmetries [0] (z' := (43, [some (.ref k_p), some (.int i1), some (.int i2), some (.int 0)], [.int 0], ([sCa k_p k_a g_p k_images k_surroundings k_figure k_fixed k_fixedStart k_fixedBuilt k_free k_freeStart k_freeBuilt k_sidesTally k_symmetriesTally k_holesTally k_tallied, sLa r g_p g_k] : List ZW).flatten)) rfl trivial ?_
      obtain rfl := Option.some.inj h
      exact Go.iret zk_X1_freeWithSymmetries rfl rfl rfl ⟨rfl, rfl⟩
    · rw [if_neg hc3] at h
      refine Go.br zk_X1_freeWithSymmetries rfl rfl (fun q => absurd q hc3) (fun _ => ?_)
      refine Go.blk zk_X1_freeWithSymmetries [0, 0] (z' := (15, [some (.ref k_p), some (.int i1), some (.int i2), none], [.int 13, .int i2], ([sCa k_p k_a g_p k_images k_surroundings k_figure k_fixed k_fixedStart k_fixedBuilt k_free k_freeStart k_freeBuilt k_sidesTally k_symmetriesTally k_holesTally k_tallied, sLa r g_p g_k] : List ZW).flatten)) rfl trivial ?_
      by_cases hc4 : i2 < 13
      · rw [if_pos hc4] at h
        refine Go.br zk_X1_freeWithSymmetries rfl rfl (fun _ => ?_) (fun q => absurd hc4 q)
        refine Go.blk zk_X1_freeWithSymmetries [0, 0, 0, 0] (z' := (25, [some (.ref k_p), some (.int i1), some (.int i2), some (.int 1)], [.int 1], ([sCa k_p k_a g_p k_images k_surroundings k_figure k_fixed k_fixedStart k_fixedBuilt k_free k_freeStart k_freeBuilt k_sidesTally k_symmetriesTally k_holesTally k_tallied, sLa r g_p g_k] : List ZW).flatten)) rfl trivial ?_
        refine Go.br zk_X1_freeWithSymmetries rfl rfl (fun q => absurd q (by decide)) (fun _ => ?_)
        refine Go.blk zk_X1_freeWithSymmetries [0, 0, 0, 0, 0, 0, 0] (z' := (38, [some (.ref k_p), some (.int i1), some (.int i2), some (.int 1)], [.int ((i1 * 13) + i2), .ref (k_a 3)], ([sCa k_p k_a g_p k_images k_surroundings k_figure k_fixed k_fixedStart k_fixedBuilt k_free k_freeStart k_freeBuilt k_sidesTally k_symmetriesTally k_holesTally k_tallied, sLa r g_p g_k] : List ZW).flatten)) rfl ⟨rfl, trivial⟩ ?_
        obtain ⟨x5, hx5, h⟩ := z_bind h
        refine Go.iald zk_X1_freeWithSymmetries 4 rfl rfl rfl hx5 ?_
        refine Go.blk zk_X1_freeWithSymmetries [0] (z' := (43, [some (.ref k_p), some (.int i1), some (.int i2), some (.int 1)], [.int x5], ([sCa k_p k_a g_p k_images k_surroundings k_figure k_fixed k_fixedStart k_fixedBuilt k_free k_freeStart k_freeBuilt k_sidesTally k_symmetriesTally k_holesTally k_tallied, sLa r g_p g_k] : List ZW).flatten)) rfl trivial ?_
        obtain rfl := Option.some.inj h
        exact Go.iret zk_X1_freeWithSymmetries rfl rfl rfl ⟨rfl, rfl⟩
      · rw [if_neg hc4] at h
        refine Go.br zk_X1_freeWithSymmetries rfl rfl (fun q => absurd q hc4) (fun _ => ?_)
        refine Go.blk zk_X1_freeWithSymmetries [0, 0, 0] (z' := (25, [some (.ref k_p), some (.int i1), some (.int i2), some (.int 0)], [.int 0], ([sCa k_p k_a g_p k_images k_surroundings k_figure k_fixed k_fixedStart k_fixedBuilt k_free k_freeStart k_freeBuilt k_sidesTally k_symmetriesTally k_holesTally k_tallied, sLa r g_p g_k] : List ZW).flatten)) rfl trivial ?_
        refine Go.br zk_X1_freeWithSymmetries rfl rfl (fun _ => ?_) (fun q => absurd (by decide) q)
        refine Go.blk zk_X1_freeWithSymmetries [0] (z' := (43, [some (.ref k_p), some (.int i1), some (.int i2), some (.int 0)], [.int 0], ([sCa k_p k_a g_p k_images k_surroundings k_figure k_fixed k_fixedStart k_fixedBuilt k_free k_freeStart k_freeBuilt k_sidesTally k_symmetriesTally k_holesTally k_tallied, sLa r g_p g_k] : List ZW).flatten)) rfl trivial ?_
        obtain rfl := Option.some.inj h
        exact Go.iret zk_X1_freeWithSymmetries rfl rfl rfl ⟨rfl, rfl⟩
set_option maxHeartbeats 4000000 in
set_option maxRecDepth 100000 in
theorem t_X1_fixedForm {N : Nat} {k_p : Nat} {k_a : Nat → Nat} {k_images : Nat} {k_surroundings : Nat} {k_figure : Nat} {k_fixedStart : List Int32} {k_fixedBuilt : Int32} {k_free : Nat} {k_freeStart : List Int32} {k_freeBuilt : Int32} {k_sidesTally : List Int32} {k_symmetriesTally : List Int32} {k_holesTally : List Int32} {k_tallied : Int32} {g_p : Nat} {g_k : Nat} {x_p : Nat} {x_v : List Int64} {i1 : Int32} {i2 : Int32} {u : Int64} (hk_g : g_k < 3) (h : f_X1_fixedForm N i1 i2 k_fixedStart g_k x_v = some u) : Ct l D r (z_rl xs) zm_X1_fixedForm 0 0 [.ref k_p, .int i1, .int i2] ([sCa k_p k_a g_p k_images k_surroundings k_figure x_p k_fixedStart k_fixedBuilt k_free k_freeStart k_freeBuilt k_sidesTally k_symmetriesTally k_holesTally k_tallied, sLa r g_p g_k, sAj x_p x_v] : List ZW).flatten (fun v' w' => v' = some (.long u) ∧ w' = ([sCa k_p k_a g_p k_images k_surroundings k_figure x_p k_fixedStart k_fixedBuilt k_free k_freeStart k_freeBuilt k_sidesTally k_symmetriesTally k_holesTally k_tallied, sLa r g_p g_k, sAj x_p x_v] : List ZW).flatten) := by
  refine Ct.of (by decide +kernel) rfl (fun q => absurd q (by decide)) (Nat.le_of_ble_eq_true rfl) ?_
  refine Go.eqz (z2 := (0, [some (.ref k_p), some (.int i1), some (.int i2)], [], ([sCa k_p k_a g_p k_images k_surroundings k_figure x_p k_fixedStart k_fixedBuilt k_free k_freeStart k_freeBuilt k_sidesTally k_symmetriesTally k_holesTally k_tallied, sLa r g_p g_k, sAj x_p x_v] : List ZW).flatten)) rfl ?_
  unfold f_X1_fixedForm at h
  refine Go.blk zk_X1_fixedForm [0] (z' := (1, [some (.ref k_p), some (.int i1), some (.int i2)], [.int i2], ([sCa k_p k_a g_p k_images k_surroundings k_figure x_p k_fixedStart k_fixedBuilt k_free k_freeStart k_freeBuilt k_sidesTally k_symmetriesTally k_holesTally k_tallied, sLa r g_p g_k, sAj x_p x_v] : List ZW).flatten)) rfl trivial ?_
  by_cases hc1 : i2 < 0
  · rw [if_pos hc1] at h
    refine Go.br zk_X1_fixedForm rfl rfl (fun _ => ?_) (fun q => absurd hc1 q)
    refine Go.blk zk_X1_fixedForm [0] (z' := (30, [some (.ref k_p), some (.int i1), some (.int i2)], [.long 0], ([sCa k_p k_a g_p k_images k_surroundings k_figure x_p k_fixedStart k_fixedBuilt k_free k_freeStart k_freeBuilt k_sidesTally k_symmetriesTally k_holesTally k_tallied, sLa r g_p g_k, sAj x_p x_v] : List ZW).flatten)) rfl trivial ?_
    obtain rfl := Option.some.inj h
    exact Go.lret zk_X1_fixedForm rfl rfl ⟨rfl, rfl⟩
  · rw [if_neg hc1] at h
    refine Go.br zk_X1_fixedForm rfl rfl (fun q => absurd q hc1) (fun _ => ?_)
    refine Go.blk zk_X1_fixedForm [0, 0, 0] (z' := (7, [some (.ref k_p), some (.int i1), some (.int i2)], [.int i1, .ref k_p, .int i2], ([sCa k_p k_a g_p k_images k_surroundings k_figure x_p k_fixedStart k_fixedBuilt k_free k_freeStart k_freeBuilt k_sidesTally k_symmetriesTally k_holesTally k_tallied, sLa r g_p g_k, sAj x_p x_v] : List ZW).flatten)) rfl trivial ?_
    obtain ⟨u2, hu2, h⟩ := z_bind h
    refine Go.vs zk_X1_fixedForm zm_X1_fixedLength [0, 1] [2] 0 1 3 (S := [sCa k_p k_a g_p k_images k_surroundings k_figure x_p k_fixedStart k_fixedBuilt k_free k_freeStart k_freeBuilt k_sidesTally k_symmetriesTally k_holesTally k_tallied, sLa r g_p g_k, sAj x_p x_v]) (S2 := [sCa k_p k_a g_p k_images k_surroundings k_figure x_p k_fixedStart k_fixedBuilt k_free k_freeStart k_freeBuilt k_sidesTally k_symmetriesTally k_holesTally k_tallied, sLa r g_p g_k, sAj x_p x_v]) (As := [.int i1]) (rest := [.int i2]) (st2 := [.int u2, .int i2]) (v1 := some (.int u2)) rfl zl_X1_65 zv_X1_fixedLength ⟨Nat.le_of_ble_eq_true rfl, Nat.le_of_ble_eq_true rfl⟩ rfl (by decide) rfl rfl rfl rfl rfl (Nat.le_of_ble_eq_true rfl) (t_X1_fixedLength hk_g hu2) rfl rfl rfl ?_
    by_cases hc3 : i2 < u2
    · rw [if_pos hc3] at h
      refine Go.br zk_X1_fixedForm rfl rfl (fun _ => ?_) (fun q => absurd hc3 q)
      refine Go.blk zk_X1_fixedForm [0, 0, 0, 0, 0] (z' := (22, [some (.ref k_p), some (.int i1), some (.int i2)], [.int i1, .ref (k_a 0), .ref x_p], ([sCa k_p k_a g_p k_images k_surroundings k_figure x_p k_fixedStart k_fixedBuilt k_free k_freeStart k_freeBuilt k_sidesTally k_symmetriesTally k_holesTally k_tallied, sLa r g_p g_k, sAj x_p x_v] : List ZW).flatten)) rfl ⟨rfl, rfl, trivial⟩ ?_
      obtain ⟨x4, hx4, h⟩ := z_bind h
      refine Go.iald zk_X1_fixedForm 1 rfl rfl rfl hx4 ?_
      refine Go.blk zk_X1_fixedForm [0, 0] (z' := (25, [some (.ref k_p), some (.int i1), some (.int i2)], [.int (x4 + i2), .ref x_p], ([sCa k_p k_a g_p k_images k_surroundings k_figure x_p k_fixedStart k_fixedBuilt k_free k_freeStart k_freeBuilt k_sidesTally k_symmetriesTally k_holesTally k_tallied, sLa r g_p g_k, sAj x_p x_v] : List ZW).flatten)) rfl trivial ?_
      obtain ⟨x5, hx5, h⟩ := z_bind h
      refine Go.lald zk_X1_fixedForm 7 rfl rfl rfl hx5 ?_
      refine Go.blk zk_X1_fixedForm [0] (z' := (30, [some (.ref k_p), some (.int i1), some (.int i2)], [.long x5], ([sCa k_p k_a g_p k_images k_surroundings k_figure x_p k_fixedStart k_fixedBuilt k_free k_freeStart k_freeBuilt k_sidesTally k_symmetriesTally k_holesTally k_tallied, sLa r g_p g_k, sAj x_p x_v] : List ZW).flatten)) rfl trivial ?_
      obtain rfl := Option.some.inj h
      exact Go.lret zk_X1_fixedForm rfl rfl ⟨rfl, rfl⟩
    · rw [if_neg hc3] at h
      refine Go.br zk_X1_fixedForm rfl rfl (fun q => absurd q hc3) (fun _ => ?_)
      refine Go.blk zk_X1_fixedForm [0] (z' := (30, [some (.ref k_p), some (.int i1), some (.int i2)], [.long 0], ([sCa k_p k_a g_p k_images k_surroundings k_figure x_p k_fixedStart k_fixedBuilt k_free k_freeStart k_freeBuilt k_sidesTally k_symmetriesTally k_holesTally k_tallied, sLa r g_p g_k, sAj x_p x_v] : List ZW).flatten)) rfl trivial ?_
      obtain rfl := Option.some.inj h
      exact Go.lret zk_X1_fixedForm rfl rfl ⟨rfl, rfl⟩
set_option maxHeartbeats 4000000 in
set_option maxRecDepth 100000 in
theorem t_X1_freeForm {N : Nat} {k_p : Nat} {k_a : Nat → Nat} {k_images : Nat} {k_surroundings : Nat} {k_figure : Nat} {k_fixed : Nat} {k_fixedStart : List Int32} {k_fixedBuilt : Int32} {k_freeStart : List Int32} {k_freeBuilt : Int32} {k_sidesTally : List Int32} {k_symmetriesTally : List Int32} {k_holesTally : List Int32} {k_tallied : Int32} {g_p : Nat} {g_k : Nat} {y_p : Nat} {y_v : List Int64} {i1 : Int32} {i2 : Int32} {u : Int64} (hk_g : g_k < 3) (h : f_X1_freeForm N i1 i2 k_freeStart g_k y_v = some u) : Ct l D r (z_rl xs) zm_X1_freeForm 0 0 [.ref k_p, .int i1, .int i2] ([sCa k_p k_a g_p k_images k_surroundings k_figure k_fixed k_fixedStart k_fixedBuilt y_p k_freeStart k_freeBuilt k_sidesTally k_symmetriesTally k_holesTally k_tallied, sLa r g_p g_k, sAj y_p y_v] : List ZW).flatten (fun v' w' => v' = some (.long u) ∧ w' = ([sCa k_p k_a g_p k_images k_surroundings k_figure k_fixed k_fixedStart k_fixedBuilt y_p k_freeStart k_freeBuilt k_sidesTally k_symmetriesTally k_holesTally k_tallied, sLa r g_p g_k, sAj y_p y_v] : List ZW).flatten) := by
  refine Ct.of (by decide +kernel) rfl (fun q => absurd q (by decide)) (Nat.le_of_ble_eq_true rfl) ?_
  refine Go.eqz (z2 := (0, [some (.ref k_p), some (.int i1), some (.int i2)], [], ([sCa k_p k_a g_p k_images k_surroundings k_figure k_fixed k_fixedStart k_fixedBuilt y_p k_freeStart k_freeBuilt k_sidesTally k_symmetriesTally k_holesTally k_tallied, sLa r g_p g_k, sAj y_p y_v] : List ZW).flatten)) rfl ?_
  unfold f_X1_freeForm at h
  refine Go.blk zk_X1_freeForm [0] (z' := (1, [some (.ref k_p), some (.int i1), some (.int i2)], [.int i2], ([sCa k_p k_a g_p k_images k_surroundings k_figure k_fixed k_fixedStart k_fixedBuilt y_p k_freeStart k_freeBuilt k_sidesTally k_symmetriesTally k_holesTally k_tallied, sLa r g_p g_k, sAj y_p y_v] : List ZW).flatten)) rfl trivial ?_
  by_cases hc1 : i2 < 0
  · rw [if_pos hc1] at h
    refine Go.br zk_X1_freeForm rfl rfl (fun _ => ?_) (fun q => absurd hc1 q)
    refine Go.blk zk_X1_freeForm [0] (z' := (30, [some (.ref k_p), some (.int i1), some (.int i2)], [.long 0], ([sCa k_p k_a g_p k_images k_surroundings k_figure k_fixed k_fixedStart k_fixedBuilt y_p k_freeStart k_freeBuilt k_sidesTally k_symmetriesTally k_holesTally k_tallied, sLa r g_p g_k, sAj y_p y_v] : List ZW).flatten)) rfl trivial ?_
    obtain rfl := Option.some.inj h
    exact Go.lret zk_X1_freeForm rfl rfl ⟨rfl, rfl⟩
  · rw [if_neg hc1] at h
    refine Go.br zk_X1_freeForm rfl rfl (fun q => absurd q hc1) (fun _ => ?_)
    refine Go.blk zk_X1_freeForm [0, 0, 0] (z' := (7, [some (.ref k_p), some (.int i1), some (.int i2)], [.int i1, .ref k_p, .int i2], ([sCa k_p k_a g_p k_images k_surroundings k_figure k_fixed k_fixedStart k_fixedBuilt y_p k_freeStart k_freeBuilt k_sidesTally k_symmetriesTally k_holesTally k_tallied, sLa r g_p g_k, sAj y_p y_v] : List ZW).flatten)) rfl trivial ?_
    obtain ⟨u2, hu2, h⟩ := z_bind h
    refine Go.vs zk_X1_freeForm zm_X1_freeLength [0, 1] [2] 0 1 3 (S := [sCa k_p k_a g_p k_images k_surroundings k_figure k_fixed k_fixedStart k_fixedBuilt y_p k_freeStart k_freeBuilt k_sidesTally k_symmetriesTally k_holesTally k_tallied, sLa r g_p g_k, sAj y_p y_v]) (S2 := [sCa k_p k_a g_p k_images k_surroundings k_figure k_fixed k_fixedStart k_fixedBuilt y_p k_freeStart k_freeBuilt k_sidesTally k_symmetriesTally k_holesTally k_tallied, sLa r g_p g_k, sAj y_p y_v]) (As := [.int i1]) (rest := [.int i2]) (st2 := [.int u2, .int i2]) (v1 := some (.int u2)) rfl zl_X1_69 zv_X1_freeLength ⟨Nat.le_of_ble_eq_true rfl, Nat.le_of_ble_eq_true rfl⟩ rfl (by decide) rfl rfl rfl rfl rfl (Nat.le_of_ble_eq_true rfl) (t_X1_freeLength hk_g hu2) rfl rfl rfl ?_
    by_cases hc3 : i2 < u2
    · rw [if_pos hc3] at h
      refine Go.br zk_X1_freeForm rfl rfl (fun _ => ?_) (fun q => absurd hc3 q)
      refine Go.blk zk_X1_freeForm [0, 0, 0, 0, 0] (z' := (22, [some (.ref k_p), some (.int i1), some (.int i2)], [.int i1, .ref (k_a 1), .ref y_p], ([sCa k_p k_a g_p k_images k_surroundings k_figure k_fixed k_fixedStart k_fixedBuilt y_p k_freeStart k_freeBuilt k_sidesTally k_symmetriesTally k_holesTally k_tallied, sLa r g_p g_k, sAj y_p y_v] : List ZW).flatten)) rfl ⟨rfl, rfl, trivial⟩ ?_
      obtain ⟨x4, hx4, h⟩ := z_bind h
      refine Go.iald zk_X1_freeForm 2 rfl rfl rfl hx4 ?_
      refine Go.blk zk_X1_freeForm [0, 0] (z' := (25, [some (.ref k_p), some (.int i1), some (.int i2)], [.int (x4 + i2), .ref y_p], ([sCa k_p k_a g_p k_images k_surroundings k_figure k_fixed k_fixedStart k_fixedBuilt y_p k_freeStart k_freeBuilt k_sidesTally k_symmetriesTally k_holesTally k_tallied, sLa r g_p g_k, sAj y_p y_v] : List ZW).flatten)) rfl trivial ?_
      obtain ⟨x5, hx5, h⟩ := z_bind h
      refine Go.lald zk_X1_freeForm 7 rfl rfl rfl hx5 ?_
      refine Go.blk zk_X1_freeForm [0] (z' := (30, [some (.ref k_p), some (.int i1), some (.int i2)], [.long x5], ([sCa k_p k_a g_p k_images k_surroundings k_figure k_fixed k_fixedStart k_fixedBuilt y_p k_freeStart k_freeBuilt k_sidesTally k_symmetriesTally k_holesTally k_tallied, sLa r g_p g_k, sAj y_p y_v] : List ZW).flatten)) rfl trivial ?_
      obtain rfl := Option.some.inj h
      exact Go.lret zk_X1_freeForm rfl rfl ⟨rfl, rfl⟩
    · rw [if_neg hc3] at h
      refine Go.br zk_X1_freeForm rfl rfl (fun q => absurd q hc3) (fun _ => ?_)
      refine Go.blk zk_X1_freeForm [0] (z' := (30, [some (.ref k_p), some (.int i1), some (.int i2)], [.long 0], ([sCa k_p k_a g_p k_images k_surroundings k_figure k_fixed k_fixedStart k_fixedBuilt y_p k_freeStart k_freeBuilt k_sidesTally k_symmetriesTally k_holesTally k_tallied, sLa r g_p g_k, sAj y_p y_v] : List ZW).flatten)) rfl trivial ?_
      obtain rfl := Option.some.inj h
      exact Go.lret zk_X1_freeForm rfl rfl ⟨rfl, rfl⟩
set_option maxHeartbeats 4000000 in
set_option maxRecDepth 100000 in
theorem t_X1_placeOf_L25 {N : Nat} {x_p : Nat} {x_v : List Int64} {v3 : Int64}  {Q : Option Value → ZW → Prop} : ∀ (fu : Nat) (v5 : Int32) (v6 : Int32) (e : Int32), f_X1_placeOf_L25 N v3 x_v fu v5 v6 = some e → (Go l D r (z_rl xs) zm_X1_placeOf 0 0 (66, [none, none, none, none, none, some (.int e), none, none], [], ([sAj x_p x_v] : List ZW).flatten) Q) → Go l D r (z_rl xs) zm_X1_placeOf 0 0 (25, [some (.ref x_p), none, none, some (.long v3), none, some (.int v5), some (.int v6), none], [], ([sAj x_p x_v] : List ZW).flatten) Q := by
  intro fu
  induction fu with
  | zero =>
    intro v5 v6 e h
    simp only [f_X1_placeOf_L25, reduceCtorEq] at h
  | succ fu ih =>
    intro v5 v6 e h kk
    rw [f_X1_placeOf_L25] at h
    refine Go.blk zk_X1_placeOf [0, 0] (z' := (29, [some (.ref x_p), none, none, some (.long v3), none, some (.int v5), some (.int v6), none], [.int v6, .int v5], ([sAj x_p x_v] : List ZW).flatten)) rfl trivial ?_
    by_cases hc3 : v5 < v6
    · rw [if_pos hc3] at h
      refine Go.br zk_X1_placeOf rfl rfl (fun _ => ?_) (fun q => absurd hc3 q)
      refine Go.blk zk_X1_placeOf [0, 0, 0, 0, 0, 0, 0, 0] (z' := (44, [some (.ref x_p), none, none, some (.long v3), none, some (.int v5), some (.int v6), some (.int ((Int32.toUInt32 (v5 + v6) >>> (Int32.toUInt32 1 &&& Int32.toUInt32 31)).toInt32))], [.int ((Int32.toUInt32 (v5 + v6) >>> (Int32.toUInt32 1 &&& Int32.toUInt32 31)).toInt32), .ref x_p], ([sAj x_p x_v] : List ZW).flatten)) rfl trivial ?_
      obtain ⟨x4, hx4, h⟩ := z_bind h
      refine Go.lald zk_X1_placeOf 0 rfl rfl rfl hx4 ?_
      refine Go.blk zk_X1_placeOf [0, 0] (z' := (47, [some (.ref x_p), none, none, some (.long v3), none, some (.int v5), some (.int v6), some (.int ((Int32.toUInt32 (v5 + v6) >>> (Int32.toUInt32 1 &&& Int32.toUInt32 31)).toInt32))], [.int (lg_cmp x4 v3)], ([sAj x_p x_v] : List ZW).flatten)) rfl trivial ?_
      by_cases hc5 : (lg_cmp x4 v3) < 0
      · rw [if_pos hc5] at h
        refine Go.br zk_X1_placeOf rfl rfl (fun _ => ?_) (fun q => absurd hc5 q)
        refine Go.blk zk_X1_placeOf [0, 0, 0, 0, 0, 0] (z' := (25, [some (.ref x_p), none, none, some (.long v3), none, some (.int (((Int32.toUInt32 (v5 + v6) >>> (Int32.toUInt32 1 &&& Int32.toUInt32 31)).toInt32) + 1)), some (.int v6), some (.int ((Int32.toUInt32 (v5 + v6) >>> (Int32.toUInt32 1 &&& Int32.toUInt32 31)).toInt32))], [], ([sAj x_p x_v] : List ZW).flatten)) rfl trivial ?_
        refine Go.weak (L := [some (.ref x_p), none, none, some (.long v3), none, some (.int (((Int32.toUInt32 (v5 + v6) >>> (Int32.toUInt32 1 &&& Int32.toUInt32 31)).toInt32) + 1)), some (.int v6), some (.int ((Int32.toUInt32 (v5 + v6) >>> (Int32.toUInt32 1 &&& Int32.toUInt32 31)).toInt32))]) (L' := [some (.ref x_p), none, none, some (.long v3), none, some (.int (((Int32.toUInt32 (v5 + v6) >>> (Int32.toUInt32 1 &&& Int32.toUInt32 31)).toInt32) + 1)), some (.int v6), none]) (And.intro rfl (And.intro rfl (And.intro rfl (And.intro rfl (trivial))))) ?_
        exact ih _ _ _ h kk
      · rw [if_neg hc5] at h
        refine Go.br zk_X1_placeOf rfl rfl (fun q => absurd q hc5) (fun _ => ?_)
        refine Go.blk zk_X1_placeOf [0, 0, 0] (z' := (25, [some (.ref x_p), none, none, some (.long v3), none, some (.int v5), some (.int ((Int32.toUInt32 (v5 + v6) >>> (Int32.toUInt32 1 &&& Int32.toUInt32 31)).toInt32)), some (.int ((Int32.toUInt32 (v5 + v6) >>> (Int32.toUInt32 1 &&& Int32.toUInt32 31)).toInt32))], [], ([sAj x_p x_v] : List ZW).flatten)) rfl trivial ?_
        refine Go.weak (L := [some (.ref x_p), none, none, some (.long v3), none, some (.int v5), some (.int ((Int32.toUInt32 (v5 + v6) >>> (Int32.toUInt32 1 &&& Int32.toUInt32 31)).toInt32)), some (.int ((Int32.toUInt32 (v5 + v6) >>> (Int32.toUInt32 1 &&& Int32.toUInt32 31)).toInt32))]) (L' := [some (.ref x_p), none, none, some (.long v3), none, some (.int v5), some (.int ((Int32.toUInt32 (v5 + v6) >>> (Int32.toUInt32 1 &&& Int32.toUInt32 31)).toInt32)), none]) (And.intro rfl (And.intro rfl (And.intro rfl (And.intro rfl (trivial))))) ?_
        exact ih _ _ _ h kk
    · rw [if_neg hc3] at h
      refine Go.br zk_X1_placeOf rfl rfl (fun q => absurd q hc3) (fun _ => ?_)
      obtain rfl := Option.some.inj h
      refine Go.weak (L := [some (.ref x_p), none, none, some (.long v3), none, some (.int v5), some (.int v6), none]) (L' := [none, none, none, none, none, some (.int v5), none, none]) (And.intro rfl (trivial)) ?_
      exact kk
set_option maxHeartbeats 4000000 in
set_option maxRecDepth 100000 in
theorem t_X1_placeOf {N : Nat} {x_p : Nat} {x_v : List Int64} {i2 : Int32} {i3 : Int32} {j4 : Int64} {u : Int32}  (h : f_X1_placeOf N i2 i3 j4 x_v = some u) : Ct l D r (z_rl xs) zm_X1_placeOf 0 0 [.ref x_p, .int i2, .int i3, .long j4] ([sAj x_p x_v] : List ZW).flatten (fun v' w' => v' = some (.int u) ∧ w' = ([sAj x_p x_v] : List ZW).flatten) := by
  refine Ct.of (by decide +kernel) rfl (fun q => absurd q (by decide)) (Nat.le_of_ble_eq_true rfl) ?_
  refine Go.eqz (z2 := (0, [some (.ref x_p), some (.int i2), some (.int i3), some (.long j4), none, none, none, none], [], ([sAj x_p x_v] : List ZW).flatten)) rfl ?_
  unfold f_X1_placeOf at h
  refine Go.blk zk_X1_placeOf [0] (z' := (1, [some (.ref x_p), some (.int i2), some (.int i3), some (.long j4), none, none, none, none], [.int i2], ([sAj x_p x_v] : List ZW).flatten)) rfl trivial ?_
  by_cases hc1 : i2 < 0
  · rw [if_pos hc1] at h
    refine Go.br zk_X1_placeOf rfl rfl (fun _ => ?_) (fun q => absurd hc1 q)
    refine Go.blk zk_X1_placeOf [0, 0, 0, 0, 0, 0] (z' := (14, [some (.ref x_p), some (.int i2), some (.int i3), some (.long j4), none, some (.int 0), none, none], [.int (Int32.ofNat (List.length x_v)), .int i3], ([sAj x_p x_v] : List ZW).flatten)) rfl ⟨rfl, trivial⟩ ?_
    by_cases hc2 : (Int32.ofNat (List.length x_v)) < i3
    · rw [if_pos hc2] at h
      refine Go.br zk_X1_placeOf rfl rfl (fun _ => ?_) (fun q => absurd hc2 q)
      refine Go.blk zk_X1_placeOf [0, 0, 0, 0] (z' := (25, [some (.ref x_p), some (.int i2), some (.int i3), some (.long j4), none, some (.int 0), some (.int (Int32.ofNat (List.length x_v))), none], [], ([sAj x_p x_v] : List ZW).flatten)) rfl ⟨rfl, trivial⟩ ?_
      refine Go.weak (L := [some (.ref x_p), some (.int i2), some (.int i3), some (.long j4), none, some (.int 0), some (.int (Int32.ofNat (List.length x_v))), none]) (L' := [some (.ref x_p), none, none, some (.long j4), none, some (.int 0), some (.int (Int32.ofNat (List.length x_v))), none]) (And.intro rfl (And.intro rfl (And.intro rfl (And.intro rfl (trivial))))) ?_
      obtain ⟨e6, he6, h⟩ := z_bind h
      refine t_X1_placeOf_L25 N _ _ _ he6 ?_
      refine Go.blk zk_X1_placeOf [0] (z' := (68, [none, none, none, none, none, some (.int e6), none, none], [.int e6], ([sAj x_p x_v] : List ZW).flatten)) rfl trivial ?_
      obtain rfl := Option.some.inj h
      exact Go.iret zk_X1_placeOf rfl rfl rfl ⟨rfl, rfl⟩
    · rw [if_neg hc2] at h
      refine Go.br zk_X1_placeOf rfl rfl (fun q => absurd q hc2) (fun _ => ?_)
      refine Go.blk zk_X1_placeOf [0, 0] (z' := (25, [some (.ref x_p), some (.int i2), some (.int i3), some (.long j4), none, some (.int 0), some (.int i3), none], [], ([sAj x_p x_v] : List ZW).flatten)) rfl trivial ?_
      refine Go.weak (L := [some (.ref x_p), some (.int i2), some (.int i3), some (.long j4), none, some (.int 0), some (.int i3), none]) (L' := [some (.ref x_p), none, none, some (.long j4), none, some (.int 0), some (.int i3), none]) (And.intro rfl (And.intro rfl (And.intro rfl (And.intro rfl (trivial))))) ?_
      obtain ⟨e7, he7, h⟩ := z_bind h
      refine t_X1_placeOf_L25 N _ _ _ he7 ?_
      refine Go.blk zk_X1_placeOf [0] (z' := (68, [none, none, none, none, none, some (.int e7), none, none], [.int e7], ([sAj x_p x_v] : List ZW).flatten)) rfl trivial ?_
      obtain rfl := Option.some.inj h
      exact Go.iret zk_X1_placeOf rfl rfl rfl ⟨rfl, rfl⟩
  · rw [if_neg hc1] at h
    refine Go.br zk_X1_placeOf rfl rfl (fun q => absurd q hc1) (fun _ => ?_)
    refine Go.blk zk_X1_placeOf [0, 0, 0, 0, 0] (z' := (14, [some (.ref x_p), some (.int i2), some (.int i3), some (.long j4), none, some (.int i2), none, none], [.int (Int32.ofNat (List.length x_v)), .int i3], ([sAj x_p x_v] : List ZW).flatten)) rfl ⟨rfl, trivial⟩ ?_
    by_cases hc8 : (Int32.ofNat (List.length x_v)) < i3
    · rw [if_pos hc8] at h
      refine Go.br zk_X1_placeOf rfl rfl (fun _ => ?_) (fun q => absurd hc8 q)
      refine Go.blk zk_X1_placeOf [0, 0, 0, 0] (z' := (25, [some (.ref x_p), some (.int i2), some (.int i3), some (.long j4), none, some (.int i2), some (.int (Int32.ofNat (List.length x_v))), none], [], ([sAj x_p x_v] : List ZW).flatten)) rfl ⟨rfl, trivial⟩ ?_
      refine Go.weak (L := [some (.ref x_p), some (.int i2), some (.int i3), some (.long j4), none, some (.int i2), some (.int (Int32.ofNat (List.length x_v))), none]) (L' := [some (.ref x_p), none, none, some (.long j4), none, some (.int i2), some (.int (Int32.ofNat (List.length x_v))), none]) (And.intro rfl (And.intro rfl (And.intro rfl (And.intro rfl (trivial))))) ?_
      obtain ⟨e9, he9, h⟩ := z_bind h
      refine t_X1_placeOf_L25 N _ _ _ he9 ?_
      refine Go.blk zk_X1_placeOf [0] (z' := (68, [none, none, none, none, none, some (.int e9), none, none], [.int e9], ([sAj x_p x_v] : List ZW).flatten)) rfl trivial ?_
      obtain rfl := Option.some.inj h
      exact Go.iret zk_X1_placeOf rfl rfl rfl ⟨rfl, rfl⟩
    · rw [if_neg hc8] at h
      refine Go.br zk_X1_placeOf rfl rfl (fun q => absurd q hc8) (fun _ => ?_)
      refine Go.blk zk_X1_placeOf [0, 0] (z' := (25, [some (.ref x_p), some (.int i2), some (.int i3), some (.long j4), none, some (.int i2), some (.int i3), none], [], ([sAj x_p x_v] : List ZW).flatten)) rfl trivial ?_
      refine Go.weak (L := [some (.ref x_p), some (.int i2), some (.int i3), some (.long j4), none, some (.int i2), some (.int i3), none]) (L' := [some (.ref x_p), none, none, some (.long j4), none, some (.int i2), some (.int i3), none]) (And.intro rfl (And.intro rfl (And.intro rfl (And.intro rfl (trivial))))) ?_
      obtain ⟨e10, he10, h⟩ := z_bind h
      refine t_X1_placeOf_L25 N _ _ _ he10 ?_
      refine Go.blk zk_X1_placeOf [0] (z' := (68, [none, none, none, none, none, some (.int e10), none, none], [.int e10], ([sAj x_p x_v] : List ZW).flatten)) rfl trivial ?_
      obtain rfl := Option.some.inj h
      exact Go.iret zk_X1_placeOf rfl rfl rfl ⟨rfl, rfl⟩
set_option maxHeartbeats 4000000 in
set_option maxRecDepth 100000 in
theorem t_X1_numberIn {N : Nat} {x_p : Nat} {x_v : List Int64} {i2 : Int32} {i3 : Int32} {j4 : Int64} {u : Int32}  (h : f_X1_numberIn N i2 i3 j4 x_v = some u) : Ct l D r (z_rl xs) zm_X1_numberIn 0 0 [.ref x_p, .int i2, .int i3, .long j4] ([sAj x_p x_v] : List ZW).flatten (fun v' w' => v' = some (.int u) ∧ w' = ([sAj x_p x_v] : List ZW).flatten) := by
  refine Ct.of (by decide +kernel) rfl (fun q => absurd q (by decide)) (Nat.le_of_ble_eq_true rfl) ?_
  refine Go.eqz (z2 := (0, [some (.ref x_p), some (.int i2), some (.int i3), some (.long j4), none, none], [], ([sAj x_p x_v] : List ZW).flatten)) rfl ?_
  unfold f_X1_numberIn at h
  refine Go.blk zk_X1_numberIn [0, 0, 0, 0] (z' := (4, [some (.ref x_p), some (.int i2), some (.int i3), some (.long j4), none, none], [.long j4, .int i3, .int i2, .ref x_p], ([sAj x_p x_v] : List ZW).flatten)) rfl trivial ?_
  obtain ⟨u1, hu1, h⟩ := z_bind h
  refine Go.ss zk_X1_numberIn zm_X1_placeOf [0] [] 1 (S := [sAj x_p x_v]) (S2 := [sAj x_p x_v]) (As := [.ref x_p, .int i2, .int i3, .long j4]) (rest := []) (st2 := [.int u1]) (v1 := some (.int u1)) rfl zl_X1_76 zs_X1_placeOf ⟨Nat.le_of_ble_eq_true rfl, Nat.le_of_ble_eq_true rfl⟩ rfl (by decide) rfl rfl (Nat.le_of_ble_eq_true rfl) (t_X1_placeOf hu1) rfl rfl rfl ?_
  refine Go.blk zk_X1_numberIn [0, 0, 0] (z' := (12, [some (.ref x_p), some (.int i2), some (.int i3), some (.long j4), none, some (.int u1)], [.int i3, .int u1], ([sAj x_p x_v] : List ZW).flatten)) rfl trivial ?_
  by_cases hc2 : u1 < i3
  · rw [if_pos hc2] at h
    refine Go.br zk_X1_numberIn rfl rfl (fun _ => ?_) (fun q => absurd hc2 q)
    refine Go.blk zk_X1_numberIn [0, 0, 0] (z' := (19, [some (.ref x_p), some (.int i2), some (.int i3), some (.long j4), none, some (.int u1)], [.int (Int32.ofNat (List.length x_v)), .int u1], ([sAj x_p x_v] : List ZW).flatten)) rfl ⟨rfl, trivial⟩ ?_
    by_cases hc3 : u1 < (Int32.ofNat (List.length x_v))
    · rw [if_pos hc3] at h
      refine Go.br zk_X1_numberIn rfl rfl (fun _ => ?_) (fun q => absurd hc3 q)
      refine Go.blk zk_X1_numberIn [0, 0] (z' := (25, [some (.ref x_p), some (.int i2), some (.int i3), some (.long j4), none, some (.int u1)], [.int u1, .ref x_p], ([sAj x_p x_v] : List ZW).flatten)) rfl trivial ?_
      obtain ⟨x4, hx4, h⟩ := z_bind h
      refine Go.lald zk_X1_numberIn 0 rfl rfl rfl hx4 ?_
      refine Go.blk zk_X1_numberIn [0, 0] (z' := (28, [some (.ref x_p), some (.int i2), some (.int i3), some (.long j4), none, some (.int u1)], [.int (lg_cmp x4 j4)], ([sAj x_p x_v] : List ZW).flatten)) rfl trivial ?_
      by_cases hc5 : (lg_cmp x4 j4) = 0
      · rw [if_pos hc5] at h
        refine Go.br zk_X1_numberIn rfl rfl (fun _ => ?_) (fun q => absurd hc5 q)
        refine Go.blk zk_X1_numberIn [0, 0, 0, 0] (z' := (40, [some (.ref x_p), some (.int i2), some (.int i3), some (.long j4), none, some (.int u1)], [.int (u1 - i2)], ([sAj x_p x_v] : List ZW).flatten)) rfl trivial ?_
        obtain rfl := Option.some.inj h
        exact Go.iret zk_X1_numberIn rfl rfl rfl ⟨rfl, rfl⟩
      · rw [if_neg hc5] at h
        refine Go.br zk_X1_numberIn rfl rfl (fun q => absurd q hc5) (fun _ => ?_)
        refine Go.blk zk_X1_numberIn [0] (z' := (40, [some (.ref x_p), some (.int i2), some (.int i3), some (.long j4), none, some (.int u1)], [.int (-9)], ([sAj x_p x_v] : List ZW).flatten)) rfl trivial ?_
        obtain rfl := Option.some.inj h
        exact Go.iret zk_X1_numberIn rfl rfl rfl ⟨rfl, rfl⟩
    · rw [if_neg hc3] at h
      refine Go.br zk_X1_numberIn rfl rfl (fun q => absurd q hc3) (fun _ => ?_)
      refine Go.blk zk_X1_numberIn [0] (z' := (40, [some (.ref x_p), some (.int i2), some (.int i3), some (.long j4), none, some (.int u1)], [.int (-9)], ([sAj x_p x_v] : List ZW).flatten)) rfl trivial ?_
      obtain rfl := Option.some.inj h
      exact Go.iret zk_X1_numberIn rfl rfl rfl ⟨rfl, rfl⟩
  · rw [if_neg hc2] at h
    refine Go.br zk_X1_numberIn rfl rfl (fun q => absurd q hc2) (fun _ => ?_)
    refine Go.blk zk_X1_numberIn [0] (z' := (40, [some (.ref x_p), some (.int i2), some (.int i3), some (.long j4), none, some (.int u1)], [.int (-9)], ([sAj x_p x_v] : List ZW).flatten)) rfl trivial ?_
    obtain rfl := Option.some.inj h
    exact Go.iret zk_X1_numberIn rfl rfl rfl ⟨rfl, rfl⟩
set_option maxHeartbeats 4000000 in
set_option maxRecDepth 100000 in
theorem t_X1_fixedPlace {N : Nat} {k_p : Nat} {k_a : Nat → Nat} {k_images : Nat} {k_surroundings : Nat} {k_figure : Nat} {k_fixedStart : List Int32} {k_fixedBuilt : Int32} {k_free : Nat} {k_freeStart : List Int32} {k_freeBuilt : Int32} {k_sidesTally : List Int32} {k_symmetriesTally : List Int32} {k_holesTally : List Int32} {k_tallied : Int32} {g_p : Nat} {g_k : Nat} {x_p : Nat} {x_v : List Int64} {i1 : Int32} {j2 : Int64} {u : Int32} (hk_g : g_k < 3) (h : f_X1_fixedPlace N i1 j2 k_fixedStart g_k x_v = some u) : Ct l D r (z_rl xs) zm_X1_fixedPlace 0 0 [.ref k_p, .int i1, .long j2] ([sCa k_p k_a g_p k_images k_surroundings k_figure x_p k_fixedStart k_fixedBuilt k_free k_freeStart k_freeBuilt k_sidesTally k_symmetriesTally k_holesTally k_tallied, sLa r g_p g_k, sAj x_p x_v] : List ZW).flatten (fun v' w' => v' = some (.int u) ∧ w' = ([sCa k_p k_a g_p k_images k_surroundings k_figure x_p k_fixedStart k_fixedBuilt k_free k_freeStart k_freeBuilt k_sidesTally k_symmetriesTally k_holesTally k_tallied, sLa r g_p g_k, sAj x_p x_v] : List ZW).flatten) := by
  refine Ct.of (by decide +kernel) rfl (fun q => absurd q (by decide)) (Nat.le_of_ble_eq_true rfl) ?_
  refine Go.eqz (z2 := (0, [some (.ref k_p), some (.int i1), some (.long j2), none], [], ([sCa k_p k_a g_p k_images k_surroundings k_figure x_p k_fixedStart k_fixedBuilt k_free k_freeStart k_freeBuilt k_sidesTally k_symmetriesTally k_holesTally k_tallied, sLa r g_p g_k, sAj x_p x_v] : List ZW).flatten)) rfl ?_
  unfold f_X1_fixedPlace at h
  refine Go.blk zk_X1_fixedPlace [0, 0] (z' := (2, [some (.ref k_p), some (.int i1), some (.long j2), none], [.int i1, .ref k_p], ([sCa k_p k_a g_p k_images k_surroundings k_figure x_p k_fixedStart k_fixedBuilt k_free k_freeStart k_freeBuilt k_sidesTally k_symmetriesTally k_holesTally k_tallied, sLa r g_p g_k, sAj x_p x_v] : List ZW).flatten)) rfl trivial ?_
  obtain ⟨u1, hu1, h⟩ := z_bind h
  refine Go.vs zk_X1_fixedPlace zm_X1_isSize [0, 1] [2] 0 1 3 (S := [sCa k_p k_a g_p k_images k_surroundings k_figure x_p k_fixedStart k_fixedBuilt k_free k_freeStart k_freeBuilt k_sidesTally k_symmetriesTally k_holesTally k_tallied, sLa r g_p g_k, sAj x_p x_v]) (S2 := [sCa k_p k_a g_p k_images k_surroundings k_figure x_p k_fixedStart k_fixedBuilt k_free k_freeStart k_freeBuilt k_sidesTally k_symmetriesTally k_holesTally k_tallied, sLa r g_p g_k, sAj x_p x_v]) (As := [.int i1]) (rest := []) (st2 := [.int u1]) (v1 := some (.int u1)) rfl zl_X1_61 zv_X1_isSize ⟨Nat.le_of_ble_eq_true rfl, Nat.le_of_ble_eq_true rfl⟩ rfl (by decide) rfl rfl rfl rfl rfl (Nat.le_of_ble_eq_true rfl) (t_X1_isSize hk_g hu1) rfl rfl rfl ?_
  by_cases hc2 : u1 = 0
  · rw [if_pos hc2] at h
    refine Go.br zk_X1_fixedPlace rfl rfl (fun _ => ?_) (fun q => absurd hc2 q)
    refine Go.blk zk_X1_fixedPlace [0] (z' := (35, [some (.ref k_p), some (.int i1), some (.long j2), none], [.int (-9)], ([sCa k_p k_a g_p k_images k_surroundings k_figure x_p k_fixedStart k_fixedBuilt k_free k_freeStart k_freeBuilt k_sidesTally k_symmetriesTally k_holesTally k_tallied, sLa r g_p g_k, sAj x_p x_v] : List ZW).flatten)) rfl trivial ?_
    obtain rfl := Option.some.inj h
    exact Go.iret zk_X1_fixedPlace rfl rfl rfl ⟨rfl, rfl⟩
  · rw [if_neg hc2] at h
    refine Go.br zk_X1_fixedPlace rfl rfl (fun q => absurd q hc2) (fun _ => ?_)
    refine Go.blk zk_X1_fixedPlace [0, 0, 0, 0, 0] (z' := (17, [some (.ref k_p), some (.int i1), some (.long j2), none], [.int i1, .ref (k_a 0), .ref x_p], ([sCa k_p k_a g_p k_images k_surroundings k_figure x_p k_fixedStart k_fixedBuilt k_free k_freeStart k_freeBuilt k_sidesTally k_symmetriesTally k_holesTally k_tallied, sLa r g_p g_k, sAj x_p x_v] : List ZW).flatten)) rfl ⟨rfl, rfl, trivial⟩ ?_
    obtain ⟨x3, hx3, h⟩ := z_bind h
    refine Go.iald zk_X1_fixedPlace 1 rfl rfl rfl hx3 ?_
    refine Go.blk zk_X1_fixedPlace [0, 0, 0, 0, 0] (z' := (25, [some (.ref k_p), some (.int i1), some (.long j2), none], [.int (i1 + 1), .ref (k_a 0), .int x3, .ref x_p], ([sCa k_p k_a g_p k_images k_surroundings k_figure x_p k_fixedStart k_fixedBuilt k_free k_freeStart k_freeBuilt k_sidesTally k_symmetriesTally k_holesTally k_tallied, sLa r g_p g_k, sAj x_p x_v] : List ZW).flatten)) rfl ⟨rfl, trivial⟩ ?_
    obtain ⟨x4, hx4, h⟩ := z_bind h
    refine Go.iald zk_X1_fixedPlace 1 rfl rfl rfl hx4 ?_
    refine Go.blk zk_X1_fixedPlace [0] (z' := (27, [some (.ref k_p), some (.int i1), some (.long j2), none], [.long j2, .int x4, .int x3, .ref x_p], ([sCa k_p k_a g_p k_images k_surroundings k_figure x_p k_fixedStart k_fixedBuilt k_free k_freeStart k_freeBuilt k_sidesTally k_symmetriesTally k_holesTally k_tallied, sLa r g_p g_k, sAj x_p x_v] : List ZW).flatten)) rfl trivial ?_
    obtain ⟨u5, hu5, h⟩ := z_bind h
    refine Go.ss zk_X1_fixedPlace zm_X1_numberIn [2] [0, 1] 3 (S := [sCa k_p k_a g_p k_images k_surroundings k_figure x_p k_fixedStart k_fixedBuilt k_free k_freeStart k_freeBuilt k_sidesTally k_symmetriesTally k_holesTally k_tallied, sLa r g_p g_k, sAj x_p x_v]) (S2 := [sCa k_p k_a g_p k_images k_surroundings k_figure x_p k_fixedStart k_fixedBuilt k_free k_freeStart k_freeBuilt k_sidesTally k_symmetriesTally k_holesTally k_tallied, sLa r g_p g_k, sAj x_p x_v]) (As := [.ref x_p, .int x3, .int x4, .long j2]) (rest := []) (st2 := [.int u5]) (v1 := some (.int u5)) rfl zl_X1_72 zs_X1_numberIn ⟨Nat.le_of_ble_eq_true rfl, Nat.le_of_ble_eq_true rfl⟩ rfl (by decide) rfl rfl (Nat.le_of_ble_eq_true rfl) (t_X1_numberIn hu5) rfl rfl rfl ?_
    refine Go.blk zk_X1_fixedPlace [0] (z' := (35, [some (.ref k_p), some (.int i1), some (.long j2), none], [.int u5], ([sCa k_p k_a g_p k_images k_surroundings k_figure x_p k_fixedStart k_fixedBuilt k_free k_freeStart k_freeBuilt k_sidesTally k_symmetriesTally k_holesTally k_tallied, sLa r g_p g_k, sAj x_p x_v] : List ZW).flatten)) rfl trivial ?_
    obtain rfl := Option.some.inj h
    exact Go.iret zk_X1_fixedPlace rfl rfl rfl ⟨rfl, rfl⟩
set_option maxHeartbeats 4000000 in
set_option maxRecDepth 100000 in
theorem t_X1_freePlace {N : Nat} {k_p : Nat} {k_a : Nat → Nat} {k_images : Nat} {k_surroundings : Nat} {k_figure : Nat} {k_fixed : Nat} {k_fixedStart : List Int32} {k_fixedBuilt : Int32} {k_freeStart : List Int32} {k_freeBuilt : Int32} {k_sidesTally : List Int32} {k_symmetriesTally : List Int32} {k_holesTally : List Int32} {k_tallied : Int32} {g_p : Nat} {g_k : Nat} {y_p : Nat} {y_v : List Int64} {i1 : Int32} {j2 : Int64} {u : Int32} (hk_g : g_k < 3) (h : f_X1_freePlace N i1 j2 k_freeStart g_k y_v = some u) : Ct l D r (z_rl xs) zm_X1_freePlace 0 0 [.ref k_p, .int i1, .long j2] ([sCa k_p k_a g_p k_images k_surroundings k_figure k_fixed k_fixedStart k_fixedBuilt y_p k_freeStart k_freeBuilt k_sidesTally k_symmetriesTally k_holesTally k_tallied, sLa r g_p g_k, sAj y_p y_v] : List ZW).flatten (fun v' w' => v' = some (.int u) ∧ w' = ([sCa k_p k_a g_p k_images k_surroundings k_figure k_fixed k_fixedStart k_fixedBuilt y_p k_freeStart k_freeBuilt k_sidesTally k_symmetriesTally k_holesTally k_tallied, sLa r g_p g_k, sAj y_p y_v] : List ZW).flatten) := by
  refine Ct.of (by decide +kernel) rfl (fun q => absurd q (by decide)) (Nat.le_of_ble_eq_true rfl) ?_
  refine Go.eqz (z2 := (0, [some (.ref k_p), some (.int i1), some (.long j2), none], [], ([sCa k_p k_a g_p k_images k_surroundings k_figure k_fixed k_fixedStart k_fixedBuilt y_p k_freeStart k_freeBuilt k_sidesTally k_symmetriesTally k_holesTally k_tallied, sLa r g_p g_k, sAj y_p y_v] : List ZW).flatten)) rfl ?_
  unfold f_X1_freePlace at h
  refine Go.blk zk_X1_freePlace [0, 0] (z' := (2, [some (.ref k_p), some (.int i1), some (.long j2), none], [.int i1, .ref k_p], ([sCa k_p k_a g_p k_images k_surroundings k_figure k_fixed k_fixedStart k_fixedBuilt y_p k_freeStart k_freeBuilt k_sidesTally k_symmetriesTally k_holesTally k_tallied, sLa r g_p g_k, sAj y_p y_v] : List ZW).flatten)) rfl trivial ?_
  obtain ⟨u1, hu1, h⟩ := z_bind h
  refine Go.vs zk_X1_freePlace zm_X1_isSize [0, 1] [2] 0 1 3 (S := [sCa k_p k_a g_p k_images k_surroundings k_figure k_fixed k_fixedStart k_fixedBuilt y_p k_freeStart k_freeBuilt k_sidesTally k_symmetriesTally k_holesTally k_tallied, sLa r g_p g_k, sAj y_p y_v]) (S2 := [sCa k_p k_a g_p k_images k_surroundings k_figure k_fixed k_fixedStart k_fixedBuilt y_p k_freeStart k_freeBuilt k_sidesTally k_symmetriesTally k_holesTally k_tallied, sLa r g_p g_k, sAj y_p y_v]) (As := [.int i1]) (rest := []) (st2 := [.int u1]) (v1 := some (.int u1)) rfl zl_X1_61 zv_X1_isSize ⟨Nat.le_of_ble_eq_true rfl, Nat.le_of_ble_eq_true rfl⟩ rfl (by decide) rfl rfl rfl rfl rfl (Nat.le_of_ble_eq_true rfl) (t_X1_isSize hk_g hu1) rfl rfl rfl ?_
  by_cases hc2 : u1 = 0
  · rw [if_pos hc2] at h
    refine Go.br zk_X1_freePlace rfl rfl (fun _ => ?_) (fun q => absurd hc2 q)
    refine Go.blk zk_X1_freePlace [0] (z' := (35, [some (.ref k_p), some (.int i1), some (.long j2), none], [.int (-9)], ([sCa k_p k_a g_p k_images k_surroundings k_figure k_fixed k_fixedStart k_fixedBuilt y_p k_freeStart k_freeBuilt k_sidesTally k_symmetriesTally k_holesTally k_tallied, sLa r g_p g_k, sAj y_p y_v] : List ZW).flatten)) rfl trivial ?_
    obtain rfl := Option.some.inj h
    exact Go.iret zk_X1_freePlace rfl rfl rfl ⟨rfl, rfl⟩
  · rw [if_neg hc2] at h
    refine Go.br zk_X1_freePlace rfl rfl (fun q => absurd q hc2) (fun _ => ?_)
    refine Go.blk zk_X1_freePlace [0, 0, 0, 0, 0] (z' := (17, [some (.ref k_p), some (.int i1), some (.long j2), none], [.int i1, .ref (k_a 1), .ref y_p], ([sCa k_p k_a g_p k_images k_surroundings k_figure k_fixed k_fixedStart k_fixedBuilt y_p k_freeStart k_freeBuilt k_sidesTally k_symmetriesTally k_holesTally k_tallied, sLa r g_p g_k, sAj y_p y_v] : List ZW).flatten)) rfl ⟨rfl, rfl, trivial⟩ ?_
    obtain ⟨x3, hx3, h⟩ := z_bind h
    refine Go.iald zk_X1_freePlace 2 rfl rfl rfl hx3 ?_
    refine Go.blk zk_X1_freePlace [0, 0, 0, 0, 0] (z' := (25, [some (.ref k_p), some (.int i1), some (.long j2), none], [.int (i1 + 1), .ref (k_a 1), .int x3, .ref y_p], ([sCa k_p k_a g_p k_images k_surroundings k_figure k_fixed k_fixedStart k_fixedBuilt y_p k_freeStart k_freeBuilt k_sidesTally k_symmetriesTally k_holesTally k_tallied, sLa r g_p g_k, sAj y_p y_v] : List ZW).flatten)) rfl ⟨rfl, trivial⟩ ?_
    obtain ⟨x4, hx4, h⟩ := z_bind h
    refine Go.iald zk_X1_freePlace 2 rfl rfl rfl hx4 ?_
    refine Go.blk zk_X1_freePlace [0] (z' := (27, [some (.ref k_p), some (.int i1), some (.long j2), none], [.long j2, .int x4, .int x3, .ref y_p], ([sCa k_p k_a g_p k_images k_surroundings k_figure k_fixed k_fixedStart k_fixedBuilt y_p k_freeStart k_freeBuilt k_sidesTally k_symmetriesTally k_holesTally k_tallied, sLa r g_p g_k, sAj y_p y_v] : List ZW).flatten)) rfl trivial ?_
    obtain ⟨u5, hu5, h⟩ := z_bind h
    refine Go.ss zk_X1_freePlace zm_X1_numberIn [2] [0, 1] 3 (S := [sCa k_p k_a g_p k_images k_surroundings k_figure k_fixed k_fixedStart k_fixedBuilt y_p k_freeStart k_freeBuilt k_sidesTally k_symmetriesTally k_holesTally k_tallied, sLa r g_p g_k, sAj y_p y_v]) (S2 := [sCa k_p k_a g_p k_images k_surroundings k_figure k_fixed k_fixedStart k_fixedBuilt y_p k_freeStart k_freeBuilt k_sidesTally k_symmetriesTally k_holesTally k_tallied, sLa r g_p g_k, sAj y_p y_v]) (As := [.ref y_p, .int x3, .int x4, .long j2]) (rest := []) (st2 := [.int u5]) (v1 := some (.int u5)) rfl zl_X1_72 zs_X1_numberIn ⟨Nat.le_of_ble_eq_true rfl, Nat.le_of_ble_eq_true rfl⟩ rfl (by decide) rfl rfl (Nat.le_of_ble_eq_true rfl) (t_X1_numberIn hu5) rfl rfl rfl ?_
    refine Go.blk zk_X1_freePlace [0] (z' := (35, [some (.ref k_p), some (.int i1), some (.long j2), none], [.int u5], ([sCa k_p k_a g_p k_images k_surroundings k_figure k_fixed k_fixedStart k_fixedBuilt y_p k_freeStart k_freeBuilt k_sidesTally k_symmetriesTally k_holesTally k_tallied, sLa r g_p g_k, sAj y_p y_v] : List ZW).flatten)) rfl trivial ?_
    obtain rfl := Option.some.inj h
    exact Go.iret zk_X1_freePlace rfl rfl rfl ⟨rfl, rfl⟩
set_option maxHeartbeats 4000000 in
set_option maxRecDepth 100000 in
theorem t_X1_insertFixed {N : Nat} {k_p : Nat} {k_a : Nat → Nat} {k_lattice : Nat} {k_images : Nat} {k_surroundings : Nat} {k_figure : Nat} {k_fixedStart : List Int32} {k_fixedBuilt : Int32} {k_free : Nat} {k_freeStart : List Int32} {k_freeBuilt : Int32} {k_sidesTally : List Int32} {k_symmetriesTally : List Int32} {k_holesTally : List Int32} {k_tallied : Int32} {x_p : Nat} {x_v : List Int64} {i1 : Int32} {j2 : Int64} {u : (List Int32) × (List Int64)}  (h : f_X1_insertFixed N i1 j2 k_fixedStart x_v = some u) : Ct l D r (z_rl xs) zm_X1_insertFixed 0 0 [.ref k_p, .int i1, .long j2] ([sCa k_p k_a k_lattice k_images k_surroundings k_figure x_p k_fixedStart k_fixedBuilt k_free k_freeStart k_freeBuilt k_sidesTally k_symmetriesTally k_holesTally k_tallied, sAj x_p x_v] : List ZW).flatten (fun v' w' => v' = none ∧ w' = ([sCa k_p k_a k_lattice k_images k_surroundings k_figure x_p u.1 k_fixedBuilt k_free k_freeStart k_freeBuilt k_sidesTally k_symmetriesTally k_holesTally k_tallied, sAj x_p u.2] : List ZW).flatten) := by
  refine Ct.of (by decide +kernel) rfl (fun q => absurd q (by decide)) (Nat.le_of_ble_eq_true rfl) ?_
  refine Go.eqz (z2 := (0, [some (.ref k_p), some (.int i1), some (.long j2), none, none, none], [], ([sCa k_p k_a k_lattice k_images k_surroundings k_figure x_p k_fixedStart k_fixedBuilt k_free k_freeStart k_freeBuilt k_sidesTally k_symmetriesTally k_holesTally k_tallied, sAj x_p x_v] : List ZW).flatten)) rfl ?_
  unfold f_X1_insertFixed at h
  refine Go.blk zk_X1_insertFixed [0, 0, 0, 0, 0] (z' := (7, [some (.ref k_p), some (.int i1), some (.long j2), none, none, none], [.int (i1 + 1), .ref (k_a 0)], ([sCa k_p k_a k_lattice k_images k_surroundings k_figure x_p k_fixedStart k_fixedBuilt k_free k_freeStart k_freeBuilt k_sidesTally k_symmetriesTally k_holesTally k_tallied, sAj x_p x_v] : List ZW).flatten)) rfl ⟨rfl, trivial⟩ ?_
  obtain ⟨x1, hx1, h⟩ := z_bind h
  refine Go.iald zk_X1_insertFixed 1 rfl rfl rfl hx1 ?_
  refine Go.blk zk_X1_insertFixed [0, 0, 0, 0, 0, 0] (z' := (19, [some (.ref k_p), some (.int i1), some (.long j2), none, some (.int x1), none], [.int i1, .ref (k_a 0), .ref x_p], ([sCa k_p k_a k_lattice k_images k_surroundings k_figure x_p k_fixedStart k_fixedBuilt k_free k_freeStart k_freeBuilt k_sidesTally k_symmetriesTally k_holesTally k_tallied, sAj x_p x_v] : List ZW).flatten)) rfl ⟨rfl, rfl, trivial⟩ ?_
  obtain ⟨x2, hx2, h⟩ := z_bind h
  refine Go.iald zk_X1_insertFixed 1 rfl rfl rfl hx2 ?_
  refine Go.blk zk_X1_insertFixed [0, 0] (z' := (23, [some (.ref k_p), some (.int i1), some (.long j2), none, some (.int x1), none], [.long j2, .int x1, .int x2, .ref x_p], ([sCa k_p k_a k_lattice k_images k_surroundings k_figure x_p k_fixedStart k_fixedBuilt k_free k_freeStart k_freeBuilt k_sidesTally k_symmetriesTally k_holesTally k_tallied, sAj x_p x_v] : List ZW).flatten)) rfl trivial ?_
  obtain ⟨u3, hu3, h⟩ := z_bind h
  refine Go.ss zk_X1_insertFixed zm_X1_placeOf [1] [0] 2 (S := [sCa k_p k_a k_lattice k_images k_surroundings k_figure x_p k_fixedStart k_fixedBuilt k_free k_freeStart k_freeBuilt k_sidesTally k_symmetriesTally k_holesTally k_tallied, sAj x_p x_v]) (S2 := [sCa k_p k_a k_lattice k_images k_surroundings k_figure x_p k_fixedStart k_fixedBuilt k_free k_freeStart k_freeBuilt k_sidesTally k_symmetriesTally k_holesTally k_tallied, sAj x_p x_v]) (As := [.ref x_p, .int x2, .int x1, .long j2]) (rest := []) (st2 := [.int u3]) (v1 := some (.int u3)) rfl zl_X1_76 zs_X1_placeOf ⟨Nat.le_of_ble_eq_true rfl, Nat.le_of_ble_eq_true rfl⟩ rfl (by decide) rfl rfl (Nat.le_of_ble_eq_true rfl) (t_X1_placeOf hu3) rfl rfl rfl ?_
  refine Go.blk zk_X1_insertFixed [0, 0, 0] (z' := (32, [some (.ref k_p), some (.int i1), some (.long j2), none, some (.int x1), some (.int u3)], [.int x1, .int u3], ([sCa k_p k_a k_lattice k_images k_surroundings k_figure x_p k_fixedStart k_fixedBuilt k_free k_freeStart k_freeBuilt k_sidesTally k_symmetriesTally k_holesTally k_tallied, sAj x_p x_v] : List ZW).flatten)) rfl trivial ?_
  by_cases hc4 : u3 < x1
  · rw [if_pos hc4] at h
    refine Go.br zk_X1_insertFixed rfl rfl (fun _ => ?_) (fun q => absurd hc4 q)
    refine Go.blk zk_X1_insertFixed [0, 0, 0] (z' := (41, [some (.ref k_p), some (.int i1), some (.long j2), none, some (.int x1), some (.int u3)], [.int u3, .ref x_p], ([sCa k_p k_a k_lattice k_images k_surroundings k_figure x_p k_fixedStart k_fixedBuilt k_free k_freeStart k_freeBuilt k_sidesTally k_symmetriesTally k_holesTally k_tallied, sAj x_p x_v] : List ZW).flatten)) rfl ⟨rfl, trivial⟩ ?_
    obtain ⟨x5, hx5, h⟩ := z_bind h
    refine Go.lald zk_X1_insertFixed 6 rfl rfl rfl hx5 ?_
    refine Go.blk zk_X1_insertFixed [0, 0] (z' := (44, [some (.ref k_p), some (.int i1), some (.long j2), none, some (.int x1), some (.int u3)], [.int (lg_cmp x5 j2)], ([sCa k_p k_a k_lattice k_images k_surroundings k_figure x_p k_fixedStart k_fixedBuilt k_free k_freeStart k_freeBuilt k_sidesTally k_symmetriesTally k_holesTally k_tallied, sAj x_p x_v] : List ZW).flatten)) rfl trivial ?_
    by_cases hc6 : (lg_cmp x5 j2) = 0
    · rw [if_pos hc6] at h
      refine Go.br zk_X1_insertFixed rfl rfl (fun _ => ?_) (fun q => absurd hc6 q)
      obtain rfl := Option.some.inj h
      exact Go.vret zk_X1_insertFixed rfl rfl ⟨rfl, rfl⟩
    · rw [if_neg hc6] at h
      refine Go.br zk_X1_insertFixed rfl rfl (fun q => absurd q hc6) (fun _ => ?_)
      refine Go.blk zk_X1_insertFixed [0, 0] (z' := (52, [some (.ref k_p), some (.int i1), some (.long j2), none, some (.int x1), some (.int u3)], [.int 1100, .int x1], ([sCa k_p k_a k_lattice k_images k_surroundings k_figure x_p k_fixedStart k_fixedBuilt k_free k_freeStart k_freeBuilt k_sidesTally k_symmetriesTally k_holesTally k_tallied, sAj x_p x_v] : List ZW).flatten)) rfl trivial ?_
      by_cases hc7 : x1 < 1100
      · rw [if_pos hc7] at h
        refine Go.br zk_X1_insertFixed rfl rfl (fun _ => ?_) (fun q => absurd hc7 q)
        refine Go.blk zk_X1_insertFixed [0, 0, 0, 0, 0, 0, 0, 0, 0, 0, 0] (z' := (75, [some (.ref k_p), some (.int i1), some (.long j2), none, some (.int x1), some (.int u3)], [.int (x1 - u3), .int (u3 + 1), .ref x_p, .int u3, .ref x_p], ([sCa k_p k_a k_lattice k_images k_surroundings k_figure x_p k_fixedStart k_fixedBuilt k_free k_freeStart k_freeBuilt k_sidesTally k_symmetriesTally k_holesTally k_tallied, sAj x_p x_v] : List ZW).flatten)) rfl ⟨rfl, rfl, trivial⟩ ?_
        obtain ⟨t8, ht8, h⟩ := z_bind h
        refine Go.acopy zk_X1_insertFixed 6 rfl zl_X1_143 zw_ac ⟨Nat.le_of_ble_eq_true rfl, Nat.le_of_ble_eq_true rfl⟩ rfl rfl rfl ht8 ?_
        refine Go.eqz (z2 := (78, [some (.ref k_p), some (.int i1), some (.long j2), none, some (.int x1), some (.int u3)], [], ([sCa k_p k_a k_lattice k_images k_surroundings k_figure x_p k_fixedStart k_fixedBuilt k_free k_freeStart k_freeBuilt k_sidesTally k_symmetriesTally k_holesTally k_tallied, sAj x_p t8] : List ZW).flatten)) rfl ?_
        refine Go.blk zk_X1_insertFixed [0, 0, 0, 0] (z' := (85, [some (.ref k_p), some (.int i1), some (.long j2), none, some (.int x1), some (.int u3)], [.long j2, .int u3, .ref x_p], ([sCa k_p k_a k_lattice k_images k_surroundings k_figure x_p k_fixedStart k_fixedBuilt k_free k_freeStart k_freeBuilt k_sidesTally k_symmetriesTally k_holesTally k_tallied, sAj x_p t8] : List ZW).flatten)) rfl ⟨rfl, trivial⟩ ?_
        obtain ⟨t9, ht9, h⟩ := z_bind h
        refine Go.last zk_X1_insertFixed 6 rfl rfl rfl ht9 ?_
        refine Go.eqz (z2 := (86, [some (.ref k_p), some (.int i1), some (.long j2), none, some (.int x1), some (.int u3)], [], ([sCa k_p k_a k_lattice k_images k_surroundings k_figure x_p k_fixedStart k_fixedBuilt k_free k_freeStart k_freeBuilt k_sidesTally k_symmetriesTally k_holesTally k_tallied, sAj x_p t9] : List ZW).flatten)) rfl ?_
        refine Go.blk zk_X1_insertFixed [0, 0, 0, 0, 0, 0, 0, 0] (z' := (97, [some (.ref k_p), some (.int i1), some (.long j2), none, some (.int x1), some (.int u3)], [.int (x1 + 1), .int (i1 + 1), .ref (k_a 0)], ([sCa k_p k_a k_lattice k_images k_surroundings k_figure x_p k_fixedStart k_fixedBuilt k_free k_freeStart k_freeBuilt k_sidesTally k_symmetriesTally k_holesTally k_tallied, sAj x_p t9] : List ZW).flatten)) rfl ⟨rfl, trivial⟩ ?_
        obtain ⟨t10, ht10, h⟩ := z_bind h
        refine Go.iast zk_X1_insertFixed 1 rfl rfl rfl ht10 ?_
        refine Go.eqz (z2 := (98, [some (.ref k_p), some (.int i1), some (.long j2), none, some (.int x1), some (.int u3)], [], ([sCa k_p k_a k_lattice k_images k_surroundings k_figure x_p t10 k_fixedBuilt k_free k_freeStart k_freeBuilt k_sidesTally k_symmetriesTally k_holesTally k_tallied, sAj x_p t9] : List ZW).flatten)) rfl ?_
        obtain rfl := Option.some.inj h
        exact Go.vret zk_X1_insertFixed rfl rfl ⟨rfl, rfl⟩
      · rw [if_neg hc7] at h
        refine Go.br zk_X1_insertFixed rfl rfl (fun q => absurd q hc7) (fun _ => ?_)
        obtain rfl := Option.some.inj h
        exact Go.vret zk_X1_insertFixed rfl rfl ⟨rfl, rfl⟩
  · rw [if_neg hc4] at h
    refine Go.br zk_X1_insertFixed rfl rfl (fun q => absurd q hc4) (fun _ => ?_)
    refine Go.blk zk_X1_insertFixed [0, 0] (z' := (52, [some (.ref k_p), some (.int i1), some (.long j2), none, some (.int x1), some (.int u3)], [.int 1100, .int x1], ([sCa k_p k_a k_lattice k_images k_surroundings k_figure x_p k_fixedStart k_fixedBuilt k_free k_freeStart k_freeBuilt k_sidesTally k_symmetriesTally k_holesTally k_tallied, sAj x_p x_v] : List ZW).flatten)) rfl trivial ?_
    by_cases hc11 : x1 < 1100
    · rw [if_pos hc11] at h
      refine Go.br zk_X1_insertFixed rfl rfl (fun _ => ?_) (fun q => absurd hc11 q)
      refine Go.blk zk_X1_insertFixed [0, 0, 0, 0, 0, 0, 0, 0, 0, 0, 0] (z' := (75, [some (.ref k_p), some (.int i1), some (.long j2), none, some (.int x1), some (.int u3)], [.int (x1 - u3), .int (u3 + 1), .ref x_p, .int u3, .ref x_p], ([sCa k_p k_a k_lattice k_images k_surroundings k_figure x_p k_fixedStart k_fixedBuilt k_free k_freeStart k_freeBuilt k_sidesTally k_symmetriesTally k_holesTally k_tallied, sAj x_p x_v] : List ZW).flatten)) rfl ⟨rfl, rfl, trivial⟩ ?_
      obtain ⟨t12, ht12, h⟩ := z_bind h
      refine Go.acopy zk_X1_insertFixed 6 rfl zl_X1_143 zw_ac ⟨Nat.le_of_ble_eq_true rfl, Nat.le_of_ble_eq_true rfl⟩ rfl rfl rfl ht12 ?_
      refine Go.eqz (z2 := (78, [some (.ref k_p), some (.int i1), some (.long j2), none, some (.int x1), some (.int u3)], [], ([sCa k_p k_a k_lattice k_images k_surroundings k_figure x_p k_fixedStart k_fixedBuilt k_free k_freeStart k_freeBuilt k_sidesTally k_symmetriesTally k_holesTally k_tallied, sAj x_p t12] : List ZW).flatten)) rfl ?_
      refine Go.blk zk_X1_insertFixed [0, 0, 0, 0] (z' := (85, [some (.ref k_p), some (.int i1), some (.long j2), none, some (.int x1), some (.int u3)], [.long j2, .int u3, .ref x_p], ([sCa k_p k_a k_lattice k_images k_surroundings k_figure x_p k_fixedStart k_fixedBuilt k_free k_freeStart k_freeBuilt k_sidesTally k_symmetriesTally k_holesTally k_tallied, sAj x_p t12] : List ZW).flatten)) rfl ⟨rfl, trivial⟩ ?_
      obtain ⟨t13, ht13, h⟩ := z_bind h
      refine Go.last zk_X1_insertFixed 6 rfl rfl rfl ht13 ?_
      refine Go.eqz (z2 := (86, [some (.ref k_p), some (.int i1), some (.long j2), none, some (.int x1), some (.int u3)], [], ([sCa k_p k_a k_lattice k_images k_surroundings k_figure x_p k_fixedStart k_fixedBuilt k_free k_freeStart k_freeBuilt k_sidesTally k_symmetriesTally k_holesTally k_tallied, sAj x_p t13] : List ZW).flatten)) rfl ?_
      refine Go.blk zk_X1_insertFixed [0, 0, 0, 0, 0, 0, 0, 0] (z' := (97, [some (.ref k_p), some (.int i1), some (.long j2), none, some (.int x1), some (.int u3)], [.int (x1 + 1), .int (i1 + 1), .ref (k_a 0)], ([sCa k_p k_a k_lattice k_images k_surroundings k_figure x_p k_fixedStart k_fixedBuilt k_free k_freeStart k_freeBuilt k_sidesTally k_symmetriesTally k_holesTally k_tallied, sAj x_p t13] : List ZW).flatten)) rfl ⟨rfl, trivial⟩ ?_
      obtain ⟨t14, ht14, h⟩ := z_bind h
      refine Go.iast zk_X1_insertFixed 1 rfl rfl rfl ht14 ?_
      refine Go.eqz (z2 := (98, [some (.ref k_p), some (.int i1), some (.long j2), none, some (.int x1), some (.int u3)], [], ([sCa k_p k_a k_lattice k_images k_surroundings k_figure x_p t14 k_fixedBuilt k_free k_freeStart k_freeBuilt k_sidesTally k_symmetriesTally k_holesTally k_tallied, sAj x_p t13] : List ZW).flatten)) rfl ?_
      obtain rfl := Option.some.inj h
      exact Go.vret zk_X1_insertFixed rfl rfl ⟨rfl, rfl⟩
    · rw [if_neg hc11] at h
      refine Go.br zk_X1_insertFixed rfl rfl (fun q => absurd q hc11) (fun _ => ?_)
      obtain rfl := Option.some.inj h
      exact Go.vret zk_X1_insertFixed rfl rfl ⟨rfl, rfl⟩
set_option maxHeartbeats 4000000 in
set_option maxRecDepth 100000 in
theorem t_X1_placeSingleCells_L2 {N : Nat} {k_p : Nat} {k_a : Nat → Nat} {k_images : Nat} {k_surroundings : Nat} {k_figure : Nat} {k_fixedBuilt : Int32} {k_free : Nat} {k_freeStart : List Int32} {k_freeBuilt : Int32} {k_sidesTally : List Int32} {k_symmetriesTally : List Int32} {k_holesTally : List Int32} {k_tallied : Int32} {g_p : Nat} {g_k : Nat} {x_p : Nat} (hk_g : g_k < 3) {Q : Option Value → ZW → Prop} : ∀ (fu : Nat) (v1 : Int32) (k_fixedStart : List Int32) (x_v : List Int64) (e : (List Int32) × (List Int64)), f_X1_placeSingleCells_L2 N g_k fu v1 k_fixedStart x_v = some e → (Go l D r (z_rl xs) zm_X1_placeSingleCells 0 0 (26, [none, none], [], ([sCa k_p k_a g_p k_images k_surroundings k_figure x_p e.1 k_fixedBuilt k_free k_freeStart k_freeBuilt k_sidesTally k_symmetriesTally k_holesTally k_tallied, sLa r g_p g_k, sAj x_p e.2] : List ZW).flatten) Q) → Go l D r (z_rl xs) zm_X1_placeSingleCells 0 0 (2, [some (.ref k_p), some (.int v1)], [], ([sCa k_p k_a g_p k_images k_surroundings k_figure x_p k_fixedStart k_fixedBuilt k_free k_freeStart k_freeBuilt k_sidesTally k_symmetriesTally k_holesTally k_tallied, sLa r g_p g_k, sAj x_p x_v] : List ZW).flatten) Q := by
  intro fu
  induction fu with
  | zero =>
    intro v1 k_fixedStart x_v e h
    simp only [f_X1_placeSingleCells_L2, reduceCtorEq] at h
  | succ fu ih =>
    intro v1 k_fixedStart x_v e h kk
    rw [f_X1_placeSingleCells_L2] at h
    refine Go.blk zk_X1_placeSingleCells [0, 0, 0, 6] (z' := (10, [some (.ref k_p), some (.int v1)], [.int (zkin g_k), .int v1], ([sCa k_p k_a g_p k_images k_surroundings k_figure x_p k_fixedStart k_fixedBuilt k_free k_freeStart k_freeBuilt k_sidesTally k_symmetriesTally k_holesTally k_tallied, sLa r g_p g_k, sAj x_p x_v] : List ZW).flatten)) rfl ⟨rfl, rfl, trivial⟩ ?_
    by_cases hc1 : v1 < (zkin g_k)
    · rw [if_pos hc1] at h
      refine Go.br zk_X1_placeSingleCells rfl rfl (fun _ => ?_) (fun q => absurd hc1 q)
      refine Go.blk zk_X1_placeSingleCells [0, 0, 0, 0] (z' := (17, [some (.ref k_p), some (.int v1)], [.long (Int32.toInt64 v1), .int 1, .ref k_p], ([sCa k_p k_a g_p k_images k_surroundings k_figure x_p k_fixedStart k_fixedBuilt k_free k_freeStart k_freeBuilt k_sidesTally k_symmetriesTally k_holesTally k_tallied, sLa r g_p g_k, sAj x_p x_v] : List ZW).flatten)) rfl trivial ?_
      obtain ⟨u2, hu2, h⟩ := z_bind h
      refine Go.vs zk_X1_placeSingleCells zm_X1_insertFixed [0, 2] [1] 0 1 3 (S := [sCa k_p k_a g_p k_images k_surroundings k_figure x_p k_fixedStart k_fixedBuilt k_free k_freeStart k_freeBuilt k_sidesTally k_symmetriesTally k_holesTally k_tallied, sLa r g_p g_k, sAj x_p x_v]) (S2 := [sCa k_p k_a g_p k_images k_surroundings k_figure x_p u2.1 k_fixedBuilt k_free k_freeStart k_freeBuilt k_sidesTally k_symmetriesTally k_holesTally k_tallied, sLa r g_p g_k, sAj x_p u2.2]) (As := [.int 1, .long (Int32.toInt64 v1)]) (rest := []) (st2 := []) (v1 := none) rfl zl_X1_91 zv_X1_insertFixed ⟨Nat.le_of_ble_eq_true rfl, Nat.le_of_ble_eq_true rfl⟩ rfl (by decide) rfl rfl rfl rfl rfl (Nat.le_of_ble_eq_true rfl) (t_X1_insertFixed hu2) rfl rfl rfl ?_
      refine Go.blk zk_X1_placeSingleCells [0, 0] (z' := (2, [some (.ref k_p), some (.int (v1 + 1))], [], ([sCa k_p k_a g_p k_images k_surroundings k_figure x_p u2.1 k_fixedBuilt k_free k_freeStart k_freeBuilt k_sidesTally k_symmetriesTally k_holesTally k_tallied, sLa r g_p g_k, sAj x_p u2.2] : List ZW).flatten)) rfl trivial ?_
      exact ih _ _ _ _ h kk
    · rw [if_neg hc1] at h
      refine Go.br zk_X1_placeSingleCells rfl rfl (fun q => absurd q hc1) (fun _ => ?_)
      obtain rfl := Option.some.inj h
      refine Go.weak (L := [some (.ref k_p), some (.int v1)]) (L' := [none, none]) (trivial) ?_
      exact kk
set_option maxHeartbeats 4000000 in
set_option maxRecDepth 100000 in
theorem t_X1_placeSingleCells {N : Nat} {k_p : Nat} {k_a : Nat → Nat} {k_images : Nat} {k_surroundings : Nat} {k_figure : Nat} {k_fixedStart : List Int32} {k_fixedBuilt : Int32} {k_free : Nat} {k_freeStart : List Int32} {k_freeBuilt : Int32} {k_sidesTally : List Int32} {k_symmetriesTally : List Int32} {k_holesTally : List Int32} {k_tallied : Int32} {g_p : Nat} {g_k : Nat} {x_p : Nat} {x_v : List Int64} {u : (List Int32) × (List Int64)} (hk_g : g_k < 3) (h : f_X1_placeSingleCells N k_fixedStart g_k x_v = some u) : Ct l D r (z_rl xs) zm_X1_placeSingleCells 0 0 [.ref k_p] ([sCa k_p k_a g_p k_images k_surroundings k_figure x_p k_fixedStart k_fixedBuilt k_free k_freeStart k_freeBuilt k_sidesTally k_symmetriesTally k_holesTally k_tallied, sLa r g_p g_k, sAj x_p x_v] : List ZW).flatten (fun v' w' => v' = none ∧ w' = ([sCa k_p k_a g_p k_images k_surroundings k_figure x_p u.1 k_fixedBuilt k_free k_freeStart k_freeBuilt k_sidesTally k_symmetriesTally k_holesTally k_tallied, sLa r g_p g_k, sAj x_p u.2] : List ZW).flatten) := by
  refine Ct.of (by decide +kernel) rfl (fun q => absurd q (by decide)) (Nat.le_of_ble_eq_true rfl) ?_
  refine Go.eqz (z2 := (0, [some (.ref k_p), none], [], ([sCa k_p k_a g_p k_images k_surroundings k_figure x_p k_fixedStart k_fixedBuilt k_free k_freeStart k_freeBuilt k_sidesTally k_symmetriesTally k_holesTally k_tallied, sLa r g_p g_k, sAj x_p x_v] : List ZW).flatten)) rfl ?_
  unfold f_X1_placeSingleCells at h
  refine Go.blk zk_X1_placeSingleCells [0, 0] (z' := (2, [some (.ref k_p), some (.int 0)], [], ([sCa k_p k_a g_p k_images k_surroundings k_figure x_p k_fixedStart k_fixedBuilt k_free k_freeStart k_freeBuilt k_sidesTally k_symmetriesTally k_holesTally k_tallied, sLa r g_p g_k, sAj x_p x_v] : List ZW).flatten)) rfl trivial ?_
  obtain ⟨e3, he3, h⟩ := z_bind h
  refine t_X1_placeSingleCells_L2 hk_g N _ _ _ _ he3 ?_
  obtain rfl := Option.some.inj h
  exact Go.vret zk_X1_placeSingleCells rfl rfl ⟨rfl, rfl⟩
set_option maxHeartbeats 4000000 in
set_option maxRecDepth 100000 in
theorem t_X1_growFigure_L32 {N : Nat} {k_p : Nat} {k_a : Nat → Nat} {k_images : Nat} {k_surroundings : Nat} {k_fixedBuilt : Int32} {k_free : Nat} {k_freeStart : List Int32} {k_freeBuilt : Int32} {k_sidesTally : List Int32} {k_symmetriesTally : List Int32} {k_holesTally : List Int32} {k_tallied : Int32} {g_p : Nat} {g_k : Nat} {x_p : Nat} {f_p : Nat} {f_a : Nat → Nat} {f_codes : List Int32} {f_size : Int32} {v1 : Int32} {v2 : Int32} {v3 : Int32} (hk_g : g_k < 3) {Q : Option Value → ZW → Prop} : ∀ (fu : Nat) (v4 : Int32) (k_fixedStart : List Int32) (x_v : List Int64) (e : (List Int32) × (List Int64)), f_X1_growFigure_L32 N v1 v2 v3 g_k f_codes f_size fu v4 k_fixedStart x_v = some e → (Go l D r (z_rl xs) zm_X1_growFigure 0 0 (136, [some (.ref k_p), some (.int v1), some (.int v2), none, none, none, none], [], ([sCa k_p k_a g_p k_images k_surroundings f_p x_p e.1 k_fixedBuilt k_free k_freeStart k_freeBuilt k_sidesTally k_symmetriesTally k_holesTally k_tallied, sLa r g_p g_k, sAj x_p e.2, sCe f_p f_a f_codes f_size] : List ZW).flatten) Q) → Go l D r (z_rl xs) zm_X1_growFigure 0 0 (32, [some (.ref k_p), some (.int v1), some (.int v2), some (.int v3), some (.int v4), none, none], [], ([sCa k_p k_a g_p k_images k_surroundings f_p x_p k_fixedStart k_fixedBuilt k_free k_freeStart k_freeBuilt k_sidesTally k_symmetriesTally k_holesTally k_tallied, sLa r g_p g_k, sAj x_p x_v, sCe f_p f_a f_codes f_size] : List ZW).flatten) Q := by
  intro fu
  induction fu with
  | zero =>
    intro v4 k_fixedStart x_v e h
    simp only [f_X1_growFigure_L32, reduceCtorEq] at h
  | succ fu ih =>
    intro v4 k_fixedStart x_v e h kk
    rw [f_X1_growFigure_L32] at h
    refine Go.blk zk_X1_growFigure [0, 0, 0, 6] (z' := (41, [some (.ref k_p), some (.int v1), some (.int v2), some (.int v3), some (.int v4), none, none], [.int (zdeg g_k), .int v4], ([sCa k_p k_a g_p k_images k_surroundings f_p x_p k_fixedStart k_fixedBuilt k_free k_freeStart k_freeBuilt k_sidesTally k_symmetriesTally k_holesTally k_tallied, sLa r g_p g_k, sAj x_p x_v, sCe f_p f_a f_codes f_size] : List ZW).flatten)) rfl ⟨rfl, rfl, trivial⟩ ?_
    by_cases hc4 : v4 < (zdeg g_k)
    · rw [if_pos hc4] at h
      refine Go.br zk_X1_growFigure rfl rfl (fun _ => ?_) (fun q => absurd hc4 q)
      refine Go.blk zk_X1_growFigure [0, 0, 0, 0, 0] (z' := (53, [some (.ref k_p), some (.int v1), some (.int v2), some (.int v3), some (.int v4), none, none], [.int v2, .ref f_p, .ref g_p], ([sCa k_p k_a g_p k_images k_surroundings f_p x_p k_fixedStart k_fixedBuilt k_free k_freeStart k_freeBuilt k_sidesTally k_symmetriesTally k_holesTally k_tallied, sLa r g_p g_k, sAj x_p x_v, sCe f_p f_a f_codes f_size] : List ZW).flatten)) rfl ⟨rfl, rfl, trivial⟩ ?_
      obtain ⟨u5, hu5, h⟩ := z_bind h
      refine Go.vs zk_X1_growFigure zm_X2_qAt [3] [0, 1, 2] 0 2 4 (S := [sCa k_p k_a g_p k_images k_surroundings f_p x_p k_fixedStart k_fixedBuilt k_free k_freeStart k_freeBuilt k_sidesTally k_symmetriesTally k_holesTally k_tallied, sLa r g_p g_k, sAj x_p x_v, sCe f_p f_a f_codes f_size]) (S2 := [sCa k_p k_a g_p k_images k_surroundings f_p x_p k_fixedStart k_fixedBuilt k_free k_freeStart k_freeBuilt k_sidesTally k_symmetriesTally k_holesTally k_tallied, sLa r g_p g_k, sAj x_p x_v, sCe f_p f_a f_codes f_size]) (As := [.int v2]) (rest := [.ref g_p]) (st2 := [.int u5, .ref g_p]) (v1 := some (.int u5)) rfl zl_X1_123 zv_X2_qAt ⟨Nat.le_of_ble_eq_true rfl, Nat.le_of_ble_eq_true rfl⟩ rfl (by decide) rfl rfl rfl rfl rfl (Nat.le_of_ble_eq_true rfl) (t_X2_qAt hu5) rfl rfl rfl ?_
      refine Go.blk zk_X1_growFigure [0, 0, 0] (z' := (61, [some (.ref k_p), some (.int v1), some (.int v2), some (.int v3), some (.int v4), none, none], [.int v2, .ref f_p, .int u5, .ref g_p], ([sCa k_p k_a g_p k_images k_surroundings f_p x_p k_fixedStart k_fixedBuilt k_free k_freeStart k_freeBuilt k_sidesTally k_symmetriesTally k_holesTally k_tallied, sLa r g_p g_k, sAj x_p x_v, sCe f_p f_a f_codes f_size] : List ZW).flatten)) rfl ⟨rfl, trivial⟩ ?_
      obtain ⟨u6, hu6, h⟩ := z_bind h
      refine Go.vs zk_X1_growFigure zm_X2_tAt [3] [0, 1, 2] 0 2 4 (S := [sCa k_p k_a g_p k_images k_surroundings f_p x_p k_fixedStart k_fixedBuilt k_free k_freeStart k_freeBuilt k_sidesTally k_symmetriesTally k_holesTally k_tallied, sLa r g_p g_k, sAj x_p x_v, sCe f_p f_a f_codes f_size]) (S2 := [sCa k_p k_a g_p k_images k_surroundings f_p x_p k_fixedStart k_fixedBuilt k_free k_freeStart k_freeBuilt k_sidesTally k_symmetriesTally k_holesTally k_tallied, sLa r g_p g_k, sAj x_p x_v, sCe f_p f_a f_codes f_size]) (As := [.int v2]) (rest := [.int u5, .ref g_p]) (st2 := [.int u6, .int u5, .ref g_p]) (v1 := some (.int u6)) rfl zl_X1_114 zv_X2_tAt ⟨Nat.le_of_ble_eq_true rfl, Nat.le_of_ble_eq_true rfl⟩ rfl (by decide) rfl rfl rfl rfl rfl (Nat.le_of_ble_eq_true rfl) (t_X2_tAt hu6) rfl rfl rfl ?_
      refine Go.blk zk_X1_growFigure [0] (z' := (66, [some (.ref k_p), some (.int v1), some (.int v2), some (.int v3), some (.int v4), none, none], [.int v4, .int u6, .int u5, .ref g_p], ([sCa k_p k_a g_p k_images k_surroundings f_p x_p k_fixedStart k_fixedBuilt k_free k_freeStart k_freeBuilt k_sidesTally k_symmetriesTally k_holesTally k_tallied, sLa r g_p g_k, sAj x_p x_v, sCe f_p f_a f_codes f_size] : List ZW).flatten)) rfl trivial ?_
      obtain ⟨u7, hu7, h⟩ := z_bind h
      refine Go.vs zk_X1_growFigure zm_X6_neighbourQ [1] [0, 2, 3] 0 6 4 (S := [sCa k_p k_a g_p k_images k_surroundings f_p x_p k_fixedStart k_fixedBuilt k_free k_freeStart k_freeBuilt k_sidesTally k_symmetriesTally k_holesTally k_tallied, sLa r g_p g_k, sAj x_p x_v, sCe f_p f_a f_codes f_size]) (S2 := [sCa k_p k_a g_p k_images k_surroundings f_p x_p k_fixedStart k_fixedBuilt k_free k_freeStart k_freeBuilt k_sidesTally k_symmetriesTally k_holesTally k_tallied, sLa r g_p g_k, sAj x_p x_v, sCe f_p f_a f_codes f_size]) (As := [.int u5, .int u6, .int v4]) (rest := []) (st2 := [.int u7]) (v1 := some (.int u7)) rfl zl_X1_126 zv_X6_neighbourQ ⟨Nat.le_of_ble_eq_true rfl, Nat.le_of_ble_eq_true rfl⟩ rfl (by decide) rfl rfl rfl rfl rfl (Nat.le_of_ble_eq_true rfl) (t_X6_neighbourQ hk_g hu7) rfl rfl rfl ?_
      refine Go.blk zk_X1_growFigure [0, 0, 0, 0, 0, 0] (z' := (80, [some (.ref k_p), some (.int v1), some (.int v2), some (.int v3), some (.int v4), some (.int u7), none], [.int v2, .ref f_p, .ref g_p], ([sCa k_p k_a g_p k_images k_surroundings f_p x_p k_fixedStart k_fixedBuilt k_free k_freeStart k_freeBuilt k_sidesTally k_symmetriesTally k_holesTally k_tallied, sLa r g_p g_k, sAj x_p x_v, sCe f_p f_a f_codes f_size] : List ZW).flatten)) rfl ⟨rfl, rfl, trivial⟩ ?_
      obtain ⟨u8, hu8, h⟩ := z_bind h
      refine Go.vs zk_X1_growFigure zm_X2_rAt [3] [0, 1, 2] 0 2 4 (S := [sCa k_p k_a g_p k_images k_surroundings f_p x_p k_fixedStart k_fixedBuilt k_free k_freeStart k_freeBuilt k_sidesTally k_symmetriesTally k_holesTally k_tallied, sLa r g_p g_k, sAj x_p x_v, sCe f_p f_a f_codes f_size]) (S2 := [sCa k_p k_a g_p k_images k_surroundings f_p x_p k_fixedStart k_fixedBuilt k_free k_freeStart k_freeBuilt k_sidesTally k_symmetriesTally k_holesTally k_tallied, sLa r g_p g_k, sAj x_p x_v, sCe f_p f_a f_codes f_size]) (As := [.int v2]) (rest := [.ref g_p]) (st2 := [.int u8, .ref g_p]) (v1 := some (.int u8)) rfl zl_X1_130 zv_X2_rAt ⟨Nat.le_of_ble_eq_true rfl, Nat.le_of_ble_eq_true rfl⟩ rfl (by decide) rfl rfl rfl rfl rfl (Nat.le_of_ble_eq_true rfl) (t_X2_rAt hu8) rfl rfl rfl ?_
      refine Go.blk zk_X1_growFigure [0, 0, 0] (z' := (88, [some (.ref k_p), some (.int v1), some (.int v2), some (.int v3), some (.int v4), some (.int u7), none], [.int v2, .ref f_p, .int u8, .ref g_p], ([sCa k_p k_a g_p k_images k_surroundings f_p x_p k_fixedStart k_fixedBuilt k_free k_freeStart k_freeBuilt k_sidesTally k_symmetriesTally k_holesTally k_tallied, sLa r g_p g_k, sAj x_p x_v, sCe f_p f_a f_codes f_size] : List ZW).flatten)) rfl ⟨rfl, trivial⟩ ?_
      obtain ⟨u9, hu9, h⟩ := z_bind h
      refine Go.vs zk_X1_growFigure zm_X2_tAt [3] [0, 1, 2] 0 2 4 (S := [sCa k_p k_a g_p k_images k_surroundings f_p x_p k_fixedStart k_fixedBuilt k_free k_freeStart k_freeBuilt k_sidesTally k_symmetriesTally k_holesTally k_tallied, sLa r g_p g_k, sAj x_p x_v, sCe f_p f_a f_codes f_size]) (S2 := [sCa k_p k_a g_p k_images k_surroundings f_p x_p k_fixedStart k_fixedBuilt k_free k_freeStart k_freeBuilt k_sidesTally k_symmetriesTally k_holesTally k_tallied, sLa r g_p g_k, sAj x_p x_v, sCe f_p f_a f_codes f_size]) (As := [.int v2]) (rest := [.int u8, .ref g_p]) (st2 := [.int u9, .int u8, .ref g_p]) (v1 := some (.int u9)) rfl zl_X1_114 zv_X2_tAt ⟨Nat.le_of_ble_eq_true rfl, Nat.le_of_ble_eq_true rfl⟩ rfl (by decide) rfl rfl rfl rfl rfl (Nat.le_of_ble_eq_true rfl) (t_X2_tAt hu9) rfl rfl rfl ?_
      refine Go.blk zk_X1_growFigure [0] (z' := (93, [some (.ref k_p), some (.int v1), some (.int v2), some (.int v3), some (.int v4), some (.int u7), none], [.int v4, .int u9, .int u8, .ref g_p], ([sCa k_p k_a g_p k_images k_surroundings f_p x_p k_fixedStart k_fixedBuilt k_free k_freeStart k_freeBuilt k_sidesTally k_symmetriesTally k_holesTally k_tallied, sLa r g_p g_k, sAj x_p x_v, sCe f_p f_a f_codes f_size] : List ZW).flatten)) rfl trivial ?_
      obtain ⟨u10, hu10, h⟩ := z_bind h
      refine Go.vs zk_X1_growFigure zm_X6_neighbourR [1] [0, 2, 3] 0 6 4 (S := [sCa k_p k_a g_p k_images k_surroundings f_p x_p k_fixedStart k_fixedBuilt k_free k_freeStart k_freeBuilt k_sidesTally k_symmetriesTally k_holesTally k_tallied, sLa r g_p g_k, sAj x_p x_v, sCe f_p f_a f_codes f_size]) (S2 := [sCa k_p k_a g_p k_images k_surroundings f_p x_p k_fixedStart k_fixedBuilt k_free k_freeStart k_freeBuilt k_sidesTally k_symmetriesTally k_holesTally k_tallied, sLa r g_p g_k, sAj x_p x_v, sCe f_p f_a f_codes f_size]) (As := [.int u8, .int u9, .int v4]) (rest := []) (st2 := [.int u10]) (v1 := some (.int u10)) rfl zl_X1_133 zv_X6_neighbourR ⟨Nat.le_of_ble_eq_true rfl, Nat.le_of_ble_eq_true rfl⟩ rfl (by decide) rfl rfl rfl rfl rfl (Nat.le_of_ble_eq_true rfl) (t_X6_neighbourR hk_g hu10) rfl rfl rfl ?_
      refine Go.blk zk_X1_growFigure [0, 0, 0, 0, 0, 0] (z' := (107, [some (.ref k_p), some (.int v1), some (.int v2), some (.int v3), some (.int v4), some (.int u7), some (.int u10)], [.int v3, .int u10, .int u7, .ref f_p], ([sCa k_p k_a g_p k_images k_surroundings f_p x_p k_fixedStart k_fixedBuilt k_free k_freeStart k_freeBuilt k_sidesTally k_symmetriesTally k_holesTally k_tallied, sLa r g_p g_k, sAj x_p x_v, sCe f_p f_a f_codes f_size] : List ZW).flatten)) rfl ⟨rfl, trivial⟩ ?_
      obtain ⟨u11, hu11, h⟩ := z_bind h
      refine Go.vs zk_X1_growFigure zm_X2_find [3] [0, 1, 2] 0 2 4 (S := [sCa k_p k_a g_p k_images k_surroundings f_p x_p k_fixedStart k_fixedBuilt k_free k_freeStart k_freeBuilt k_sidesTally k_symmetriesTally k_holesTally k_tallied, sLa r g_p g_k, sAj x_p x_v, sCe f_p f_a f_codes f_size]) (S2 := [sCa k_p k_a g_p k_images k_surroundings f_p x_p k_fixedStart k_fixedBuilt k_free k_freeStart k_freeBuilt k_sidesTally k_symmetriesTally k_holesTally k_tallied, sLa r g_p g_k, sAj x_p x_v, sCe f_p f_a f_codes f_size]) (As := [.int u7, .int u10, .int v3]) (rest := []) (st2 := [.int u11]) (v1 := some (.int u11)) rfl zl_X1_136 zv_X2_find ⟨Nat.le_of_ble_eq_true rfl, Nat.le_of_ble_eq_true rfl⟩ rfl (by decide) rfl rfl rfl rfl rfl (Nat.le_of_ble_eq_true rfl) (t_X2_find hu11) rfl rfl rfl ?_
      by_cases hc12 : u11 < 0
      · rw [if_pos hc12] at h
        refine Go.br zk_X1_growFigure rfl rfl (fun _ => ?_) (fun q => absurd hc12 q)
        refine Go.blk zk_X1_growFigure [0, 0, 0, 0, 0, 0, 0] (z' := (124, [some (.ref k_p), some (.int v1), some (.int v2), some (.int v3), some (.int v4), some (.int u7), some (.int u10)], [.int v3, .int u10, .int u7, .ref f_p, .int v1, .ref k_p], ([sCa k_p k_a g_p k_images k_surroundings f_p x_p k_fixedStart k_fixedBuilt k_free k_freeStart k_freeBuilt k_sidesTally k_symmetriesTally k_holesTally k_tallied, sLa r g_p g_k, sAj x_p x_v, sCe f_p f_a f_codes f_size] : List ZW).flatten)) rfl ⟨rfl, trivial⟩ ?_
        obtain ⟨u13, hu13, h⟩ := z_bind h
        refine Go.vs zk_X1_growFigure zm_X2_packedWith [3] [0, 1, 2] 0 2 4 (S := [sCa k_p k_a g_p k_images k_surroundings f_p x_p k_fixedStart k_fixedBuilt k_free k_freeStart k_freeBuilt k_sidesTally k_symmetriesTally k_holesTally k_tallied, sLa r g_p g_k, sAj x_p x_v, sCe f_p f_a f_codes f_size]) (S2 := [sCa k_p k_a g_p k_images k_surroundings f_p x_p k_fixedStart k_fixedBuilt k_free k_freeStart k_freeBuilt k_sidesTally k_symmetriesTally k_holesTally k_tallied, sLa r g_p g_k, sAj x_p x_v, sCe f_p f_a f_codes f_size]) (As := [.int u7, .int u10, .int v3]) (rest := [.int v1, .ref k_p]) (st2 := [.long u13, .int v1, .ref k_p]) (v1 := some (.long u13)) rfl zl_X1_139 zv_X2_packedWith ⟨Nat.le_of_ble_eq_true rfl, Nat.le_of_ble_eq_true rfl⟩ rfl (by decide) rfl rfl rfl rfl rfl (Nat.le_of_ble_eq_true rfl) (t_X2_packedWith hu13) rfl rfl rfl ?_
        obtain ⟨u14, hu14, h⟩ := z_bind h
        refine Go.vs zk_X1_growFigure zm_X1_insertFixed [0, 2] [1, 3] 0 1 4 (S := [sCa k_p k_a g_p k_images k_surroundings f_p x_p k_fixedStart k_fixedBuilt k_free k_freeStart k_freeBuilt k_sidesTally k_symmetriesTally k_holesTally k_tallied, sLa r g_p g_k, sAj x_p x_v, sCe f_p f_a f_codes f_size]) (S2 := [sCa k_p k_a g_p k_images k_surroundings f_p x_p u14.1 k_fixedBuilt k_free k_freeStart k_freeBuilt k_sidesTally k_symmetriesTally k_holesTally k_tallied, sLa r g_p g_k, sAj x_p u14.2, sCe f_p f_a f_codes f_size]) (As := [.int v1, .long u13]) (rest := []) (st2 := []) (v1 := none) rfl zl_X1_91 zv_X1_insertFixed ⟨Nat.le_of_ble_eq_true rfl, Nat.le_of_ble_eq_true rfl⟩ rfl (by decide) rfl rfl rfl rfl rfl (Nat.le_of_ble_eq_true rfl) (t_X1_insertFixed hu14) rfl rfl rfl ?_
        refine Go.blk zk_X1_growFigure [0, 0] (z' := (32, [some (.ref k_p), some (.int v1), some (.int v2), some (.int v3), some (.int (v4 + 1)), some (.int u7), some (.int u10)], [], ([sCa k_p k_a g_p k_images k_surroundings f_p x_p u14.1 k_fixedBuilt k_free k_freeStart k_freeBuilt k_sidesTally k_symmetriesTally k_holesTally k_tallied, sLa r g_p g_k, sAj x_p u14.2, sCe f_p f_a f_codes f_size] : List ZW).flatten)) rfl trivial ?_
        refine Go.weak (L := [some (.ref k_p), some (.int v1), some (.int v2), some (.int v3), some (.int (v4 + 1)), some (.int u7), some (.int u10)]) (L' := [some (.ref k_p), some (.int v1), some (.int v2), some (.int v3), some (.int (v4 + 1)), none, none]) (And.intro rfl (And.intro rfl (And.intro rfl (And.intro rfl (And.intro rfl (trivial)))))) ?_
        exact ih _ _ _ _ h kk
      · rw [if_neg hc12] at h
        refine Go.br zk_X1_growFigure rfl rfl (fun q => absurd q hc12) (fun _ => ?_)
        refine Go.blk zk_X1_growFigure [0, 0] (z' := (32, [some (.ref k_p), some (.int v1), some (.int v2), some (.int v3), some (.int (v4 + 1)), some (.int u7), some (.int u10)], [], ([sCa k_p k_a g_p k_images k_surroundings f_p x_p k_fixedStart k_fixedBuilt k_free k_freeStart k_freeBuilt k_sidesTally k_symmetriesTally k_holesTally k_tallied, sLa r g_p g_k, sAj x_p x_v, sCe f_p f_a f_codes f_size] : List ZW).flatten)) rfl trivial ?_
        refine Go.weak (L := [some (.ref k_p), some (.int v1), some (.int v2), some (.int v3), some (.int (v4 + 1)), some (.int u7), some (.int u10)]) (L' := [some (.ref k_p), some (.int v1), some (.int v2), some (.int v3), some (.int (v4 + 1)), none, none]) (And.intro rfl (And.intro rfl (And.intro rfl (And.intro rfl (And.intro rfl (trivial)))))) ?_
        exact ih _ _ _ _ h kk
    · rw [if_neg hc4] at h
      refine Go.br zk_X1_growFigure rfl rfl (fun q => absurd q hc4) (fun _ => ?_)
      obtain rfl := Option.some.inj h
      refine Go.weak (L := [some (.ref k_p), some (.int v1), some (.int v2), some (.int v3), some (.int v4), none, none]) (L' := [some (.ref k_p), some (.int v1), some (.int v2), none, none, none, none]) (And.intro rfl (And.intro rfl (And.intro rfl (trivial)))) ?_
      exact kk
set_option maxHeartbeats 4000000 in
set_option maxRecDepth 100000 in
theorem t_X1_growFigure_L2 {N : Nat} {k_p : Nat} {k_a : Nat → Nat} {k_images : Nat} {k_surroundings : Nat} {k_fixedBuilt : Int32} {k_free : Nat} {k_freeStart : List Int32} {k_freeBuilt : Int32} {k_sidesTally : List Int32} {k_symmetriesTally : List Int32} {k_holesTally : List Int32} {k_tallied : Int32} {g_p : Nat} {g_k : Nat} {x_p : Nat} {f_p : Nat} {f_a : Nat → Nat} {f_codes : List Int32} {f_size : Int32} {v1 : Int32} (hk_g : g_k < 3) {Q : Option Value → ZW → Prop} : ∀ (fu : Nat) (v2 : Int32) (k_fixedStart : List Int32) (x_v : List Int64) (e : (List Int32) × (List Int64)), f_X1_growFigure_L2 N v1 g_k f_codes f_size fu v2 k_fixedStart x_v = some e → (Go l D r (z_rl xs) zm_X1_growFigure 0 0 (142, [none, none, none, none, none, none, none], [], ([sCa k_p k_a g_p k_images k_surroundings f_p x_p e.1 k_fixedBuilt k_free k_freeStart k_freeBuilt k_sidesTally k_symmetriesTally k_holesTally k_tallied, sLa r g_p g_k, sAj x_p e.2, sCe f_p f_a f_codes f_size] : List ZW).flatten) Q) → Go l D r (z_rl xs) zm_X1_growFigure 0 0 (2, [some (.ref k_p), some (.int v1), some (.int v2), none, none, none, none], [], ([sCa k_p k_a g_p k_images k_surroundings f_p x_p k_fixedStart k_fixedBuilt k_free k_freeStart k_freeBuilt k_sidesTally k_symmetriesTally k_holesTally k_tallied, sLa r g_p g_k, sAj x_p x_v, sCe f_p f_a f_codes f_size] : List ZW).flatten) Q := by
  intro fu
  induction fu with
  | zero =>
    intro v2 k_fixedStart x_v e h
    simp only [f_X1_growFigure_L2, reduceCtorEq] at h
  | succ fu ih =>
    intro v2 k_fixedStart x_v e h kk
    rw [f_X1_growFigure_L2] at h
    refine Go.blk zk_X1_growFigure [0, 0, 0, 8] (z' := (10, [some (.ref k_p), some (.int v1), some (.int v2), none, none, none, none], [.int f_size, .int v2], ([sCa k_p k_a g_p k_images k_surroundings f_p x_p k_fixedStart k_fixedBuilt k_free k_freeStart k_freeBuilt k_sidesTally k_symmetriesTally k_holesTally k_tallied, sLa r g_p g_k, sAj x_p x_v, sCe f_p f_a f_codes f_size] : List ZW).flatten)) rfl ⟨rfl, rfl, trivial⟩ ?_
    by_cases hc1 : v2 < f_size
    · rw [if_pos hc1] at h
      refine Go.br zk_X1_growFigure rfl rfl (fun _ => ?_) (fun q => absurd hc1 q)
      refine Go.blk zk_X1_growFigure [0, 0, 0, 0, 0] (z' := (22, [some (.ref k_p), some (.int v1), some (.int v2), none, none, none, none], [.int v2, .ref f_p, .ref g_p], ([sCa k_p k_a g_p k_images k_surroundings f_p x_p k_fixedStart k_fixedBuilt k_free k_freeStart k_freeBuilt k_sidesTally k_symmetriesTally k_holesTally k_tallied, sLa r g_p g_k, sAj x_p x_v, sCe f_p f_a f_codes f_size] : List ZW).flatten)) rfl ⟨rfl, rfl, trivial⟩ ?_
      obtain ⟨u2, hu2, h⟩ := z_bind h
      refine Go.vs zk_X1_growFigure zm_X2_tAt [3] [0, 1, 2] 0 2 4 (S := [sCa k_p k_a g_p k_images k_surroundings f_p x_p k_fixedStart k_fixedBuilt k_free k_freeStart k_freeBuilt k_sidesTally k_symmetriesTally k_holesTally k_tallied, sLa r g_p g_k, sAj x_p x_v, sCe f_p f_a f_codes f_size]) (S2 := [sCa k_p k_a g_p k_images k_surroundings f_p x_p k_fixedStart k_fixedBuilt k_free k_freeStart k_freeBuilt k_sidesTally k_symmetriesTally k_holesTally k_tallied, sLa r g_p g_k, sAj x_p x_v, sCe f_p f_a f_codes f_size]) (As := [.int v2]) (rest := [.ref g_p]) (st2 := [.int u2, .ref g_p]) (v1 := some (.int u2)) rfl zl_X1_114 zv_X2_tAt ⟨Nat.le_of_ble_eq_true rfl, Nat.le_of_ble_eq_true rfl⟩ rfl (by decide) rfl rfl rfl rfl rfl (Nat.le_of_ble_eq_true rfl) (t_X2_tAt hu2) rfl rfl rfl ?_
      obtain ⟨u3, hu3, h⟩ := z_bind h
      refine Go.vs zk_X1_growFigure zm_X6_neighbourT [1] [0, 2, 3] 0 6 4 (S := [sCa k_p k_a g_p k_images k_surroundings f_p x_p k_fixedStart k_fixedBuilt k_free k_freeStart k_freeBuilt k_sidesTally k_symmetriesTally k_holesTally k_tallied, sLa r g_p g_k, sAj x_p x_v, sCe f_p f_a f_codes f_size]) (S2 := [sCa k_p k_a g_p k_images k_surroundings f_p x_p k_fixedStart k_fixedBuilt k_free k_freeStart k_freeBuilt k_sidesTally k_symmetriesTally k_holesTally k_tallied, sLa r g_p g_k, sAj x_p x_v, sCe f_p f_a f_codes f_size]) (As := [.int u2]) (rest := []) (st2 := [.int u3]) (v1 := some (.int u3)) rfl zl_X1_117 zv_X6_neighbourT ⟨Nat.le_of_ble_eq_true rfl, Nat.le_of_ble_eq_true rfl⟩ rfl (by decide) rfl rfl rfl rfl rfl (Nat.le_of_ble_eq_true rfl) (t_X6_neighbourT hk_g hu3) rfl rfl rfl ?_
      refine Go.blk zk_X1_growFigure [0, 0, 0] (z' := (32, [some (.ref k_p), some (.int v1), some (.int v2), some (.int u3), some (.int 0), none, none], [], ([sCa k_p k_a g_p k_images k_surroundings f_p x_p k_fixedStart k_fixedBuilt k_free k_freeStart k_freeBuilt k_sidesTally k_symmetriesTally k_holesTally k_tallied, sLa r g_p g_k, sAj x_p x_v, sCe f_p f_a f_codes f_size] : List ZW).flatten)) rfl trivial ?_
      obtain ⟨e15, he15, h⟩ := z_bind h
      refine t_X1_growFigure_L32 hk_g N _ _ _ _ he15 ?_
      refine Go.blk zk_X1_growFigure [0, 0] (z' := (2, [some (.ref k_p), some (.int v1), some (.int (v2 + 1)), none, none, none, none], [], ([sCa k_p k_a g_p k_images k_surroundings f_p x_p e15.1 k_fixedBuilt k_free k_freeStart k_freeBuilt k_sidesTally k_symmetriesTally k_holesTally k_tallied, sLa r g_p g_k, sAj x_p e15.2, sCe f_p f_a f_codes f_size] : List ZW).flatten)) rfl trivial ?_
      exact ih _ _ _ _ h kk
    · rw [if_neg hc1] at h
      refine Go.br zk_X1_growFigure rfl rfl (fun q => absurd q hc1) (fun _ => ?_)
      obtain rfl := Option.some.inj h
      refine Go.weak (L := [some (.ref k_p), some (.int v1), some (.int v2), none, none, none, none]) (L' := [none, none, none, none, none, none, none]) (trivial) ?_
      exact kk
set_option maxHeartbeats 4000000 in
set_option maxRecDepth 100000 in
theorem t_X1_growFigure {N : Nat} {k_p : Nat} {k_a : Nat → Nat} {k_images : Nat} {k_surroundings : Nat} {k_fixedStart : List Int32} {k_fixedBuilt : Int32} {k_free : Nat} {k_freeStart : List Int32} {k_freeBuilt : Int32} {k_sidesTally : List Int32} {k_symmetriesTally : List Int32} {k_holesTally : List Int32} {k_tallied : Int32} {g_p : Nat} {g_k : Nat} {x_p : Nat} {x_v : List Int64} {f_p : Nat} {f_a : Nat → Nat} {f_codes : List Int32} {f_size : Int32} {i1 : Int32} {u : (List Int32) × (List Int64)} (hk_g : g_k < 3) (h : f_X1_growFigure N i1 k_fixedStart g_k x_v f_codes f_size = some u) : Ct l D r (z_rl xs) zm_X1_growFigure 0 0 [.ref k_p, .int i1] ([sCa k_p k_a g_p k_images k_surroundings f_p x_p k_fixedStart k_fixedBuilt k_free k_freeStart k_freeBuilt k_sidesTally k_symmetriesTally k_holesTally k_tallied, sLa r g_p g_k, sAj x_p x_v, sCe f_p f_a f_codes f_size] : List ZW).flatten (fun v' w' => v' = none ∧ w' = ([sCa k_p k_a g_p k_images k_surroundings f_p x_p u.1 k_fixedBuilt k_free k_freeStart k_freeBuilt k_sidesTally k_symmetriesTally k_holesTally k_tallied, sLa r g_p g_k, sAj x_p u.2, sCe f_p f_a f_codes f_size] : List ZW).flatten) := by
  refine Ct.of (by decide +kernel) rfl (fun q => absurd q (by decide)) (Nat.le_of_ble_eq_true rfl) ?_
  refine Go.eqz (z2 := (0, [some (.ref k_p), some (.int i1), none, none, none, none, none], [], ([sCa k_p k_a g_p k_images k_surroundings f_p x_p k_fixedStart k_fixedBuilt k_free k_freeStart k_freeBuilt k_sidesTally k_symmetriesTally k_holesTally k_tallied, sLa r g_p g_k, sAj x_p x_v, sCe f_p f_a f_codes f_size] : List ZW).flatten)) rfl ?_
  unfold f_X1_growFigure at h
  refine Go.blk zk_X1_growFigure [0, 0] (z' := (2, [some (.ref k_p), some (.int i1), some (.int 0), none, none, none, none], [], ([sCa k_p k_a g_p k_images k_surroundings f_p x_p k_fixedStart k_fixedBuilt k_free k_freeStart k_freeBuilt k_sidesTally k_symmetriesTally k_holesTally k_tallied, sLa r g_p g_k, sAj x_p x_v, sCe f_p f_a f_codes f_size] : List ZW).flatten)) rfl trivial ?_
  obtain ⟨e16, he16, h⟩ := z_bind h
  refine t_X1_growFigure_L2 hk_g N _ _ _ _ he16 ?_
  obtain rfl := Option.some.inj h
  exact Go.vret zk_X1_growFigure rfl rfl ⟨rfl, rfl⟩
set_option maxHeartbeats 4000000 in
set_option maxRecDepth 100000 in
theorem t_X1_growInto_L29 {N : Nat} {k_p : Nat} {k_a : Nat → Nat} {k_images : Nat} {k_surroundings : Nat} {k_fixedBuilt : Int32} {k_free : Nat} {k_freeStart : List Int32} {k_freeBuilt : Int32} {k_sidesTally : List Int32} {k_symmetriesTally : List Int32} {k_holesTally : List Int32} {k_tallied : Int32} {g_p : Nat} {g_k : Nat} {x_p : Nat} {f_p : Nat} {f_a : Nat → Nat} {v1 : Int32} {v3 : Int32} (hk_g : g_k < 3) {Q : Option Value → ZW → Prop} : ∀ (fu : Nat) (v4 : Int32) (k_fixedStart : List Int32) (x_v : List Int64) (f_codes : List Int32) (f_size : Int32) (e : (List Int32) × (List Int64) × (List Int32) × Int32), f_X1_growInto_L29 N v1 v3 g_k fu v4 k_fixedStart x_v f_codes f_size = some e → (Go l D r (z_rl xs) zm_X1_growInto 0 0 (63, [none, none, none, none, none], [], ([sCa k_p k_a g_p k_images k_surroundings f_p x_p e.1 k_fixedBuilt k_free k_freeStart k_freeBuilt k_sidesTally k_symmetriesTally k_holesTally k_tallied, sLa r g_p g_k, sAj x_p e.2.1, sCe f_p f_a e.2.2.1 e.2.2.2] : List ZW).flatten) Q) → Go l D r (z_rl xs) zm_X1_growInto 0 0 (29, [some (.ref k_p), some (.int v1), none, some (.int v3), some (.int v4)], [], ([sCa k_p k_a g_p k_images k_surroundings f_p x_p k_fixedStart k_fixedBuilt k_free k_freeStart k_freeBuilt k_sidesTally k_symmetriesTally k_holesTally k_tallied, sLa r g_p g_k, sAj x_p x_v, sCe f_p f_a f_codes f_size] : List ZW).flatten) Q := by
  intro fu
  induction fu with
  | zero =>
    intro v4 k_fixedStart x_v f_codes f_size e h
    simp only [f_X1_growInto_L29, reduceCtorEq] at h
  | succ fu ih =>
    intro v4 k_fixedStart x_v f_codes f_size e h kk
    rw [f_X1_growInto_L29] at h
    refine Go.blk zk_X1_growInto [0, 0] (z' := (32, [some (.ref k_p), some (.int v1), none, some (.int v3), some (.int v4)], [.int v3, .int v4], ([sCa k_p k_a g_p k_images k_surroundings f_p x_p k_fixedStart k_fixedBuilt k_free k_freeStart k_freeBuilt k_sidesTally k_symmetriesTally k_holesTally k_tallied, sLa r g_p g_k, sAj x_p x_v, sCe f_p f_a f_codes f_size] : List ZW).flatten)) rfl trivial ?_
    by_cases hc3 : v4 < v3
    · rw [if_pos hc3] at h
      refine Go.br zk_X1_growInto rfl rfl (fun _ => ?_) (fun q => absurd hc3 q)
      refine Go.blk zk_X1_growInto [0, 0, 0, 0, 0] (z' := (45, [some (.ref k_p), some (.int v1), none, some (.int v3), some (.int v4)], [.int v4, .ref x_p, .ref f_p], ([sCa k_p k_a g_p k_images k_surroundings f_p x_p k_fixedStart k_fixedBuilt k_free k_freeStart k_freeBuilt k_sidesTally k_symmetriesTally k_holesTally k_tallied, sLa r g_p g_k, sAj x_p x_v, sCe f_p f_a f_codes f_size] : List ZW).flatten)) rfl ⟨rfl, rfl, trivial⟩ ?_
      obtain ⟨x4, hx4, h⟩ := z_bind h
      refine Go.lald zk_X1_growInto 7 rfl rfl rfl hx4 ?_
      refine Go.blk zk_X1_growInto [0, 0, 0] (z' := (49, [some (.ref k_p), some (.int v1), none, some (.int v3), some (.int v4)], [.int (v1 - 1), .long x4, .ref f_p], ([sCa k_p k_a g_p k_images k_surroundings f_p x_p k_fixedStart k_fixedBuilt k_free k_freeStart k_freeBuilt k_sidesTally k_symmetriesTally k_holesTally k_tallied, sLa r g_p g_k, sAj x_p x_v, sCe f_p f_a f_codes f_size] : List ZW).flatten)) rfl trivial ?_
      obtain ⟨u5, hu5, h⟩ := z_bind h
      refine Go.vs zk_X1_growInto zm_X2_unpack [3] [0, 1, 2] 0 2 4 (S := [sCa k_p k_a g_p k_images k_surroundings f_p x_p k_fixedStart k_fixedBuilt k_free k_freeStart k_freeBuilt k_sidesTally k_symmetriesTally k_holesTally k_tallied, sLa r g_p g_k, sAj x_p x_v, sCe f_p f_a f_codes f_size]) (S2 := [sCa k_p k_a g_p k_images k_surroundings f_p x_p k_fixedStart k_fixedBuilt k_free k_freeStart k_freeBuilt k_sidesTally k_symmetriesTally k_holesTally k_tallied, sLa r g_p g_k, sAj x_p x_v, sCe f_p f_a u5.1 u5.2]) (As := [.long x4, .int (v1 - 1)]) (rest := []) (st2 := []) (v1 := none) rfl zl_X1_104 zv_X2_unpack ⟨Nat.le_of_ble_eq_true rfl, Nat.le_of_ble_eq_true rfl⟩ rfl (by decide) rfl rfl rfl rfl rfl (Nat.le_of_ble_eq_true rfl) (t_X2_unpack hu5) rfl rfl rfl ?_
      refine Go.blk zk_X1_growInto [0, 0] (z' := (54, [some (.ref k_p), some (.int v1), none, some (.int v3), some (.int v4)], [.int v1, .ref k_p], ([sCa k_p k_a g_p k_images k_surroundings f_p x_p k_fixedStart k_fixedBuilt k_free k_freeStart k_freeBuilt k_sidesTally k_symmetriesTally k_holesTally k_tallied, sLa r g_p g_k, sAj x_p x_v, sCe f_p f_a u5.1 u5.2] : List ZW).flatten)) rfl trivial ?_
      obtain ⟨u6, hu6, h⟩ := z_bind h
      refine Go.vs zk_X1_growInto zm_X1_growFigure [0, 1, 2, 3] [] 0 1 4 (S := [sCa k_p k_a g_p k_images k_surroundings f_p x_p k_fixedStart k_fixedBuilt k_free k_freeStart k_freeBuilt k_sidesTally k_symmetriesTally k_holesTally k_tallied, sLa r g_p g_k, sAj x_p x_v, sCe f_p f_a u5.1 u5.2]) (S2 := [sCa k_p k_a g_p k_images k_surroundings f_p x_p u6.1 k_fixedBuilt k_free k_freeStart k_freeBuilt k_sidesTally k_symmetriesTally k_holesTally k_tallied, sLa r g_p g_k, sAj x_p u6.2, sCe f_p f_a u5.1 u5.2]) (As := [.int v1]) (rest := []) (st2 := []) (v1 := none) rfl zl_X1_108 zv_X1_growFigure ⟨Nat.le_of_ble_eq_true rfl, Nat.le_of_ble_eq_true rfl⟩ rfl (by decide) rfl rfl rfl rfl rfl (Nat.le_of_ble_eq_true rfl) (t_X1_growFigure hk_g hu6) rfl rfl rfl ?_
      refine Go.blk zk_X1_growInto [0, 0] (z' := (29, [some (.ref k_p), some (.int v1), none, some (.int v3), some (.int (v4 + 1))], [], ([sCa k_p k_a g_p k_images k_surroundings f_p x_p u6.1 k_fixedBuilt k_free k_freeStart k_freeBuilt k_sidesTally k_symmetriesTally k_holesTally k_tallied, sLa r g_p g_k, sAj x_p u6.2, sCe f_p f_a u5.1 u5.2] : List ZW).flatten)) rfl trivial ?_
      exact ih _ _ _ _ _ _ h kk
    · rw [if_neg hc3] at h
      refine Go.br zk_X1_growInto rfl rfl (fun q => absurd q hc3) (fun _ => ?_)
      obtain rfl := Option.some.inj h
      refine Go.weak (L := [some (.ref k_p), some (.int v1), none, some (.int v3), some (.int v4)]) (L' := [none, none, none, none, none]) (trivial) ?_
      exact kk
set_option maxHeartbeats 4000000 in
set_option maxRecDepth 100000 in
theorem t_X1_growInto {N : Nat} {k_p : Nat} {k_a : Nat → Nat} {k_images : Nat} {k_surroundings : Nat} {k_fixedStart : List Int32} {k_fixedBuilt : Int32} {k_free : Nat} {k_freeStart : List Int32} {k_freeBuilt : Int32} {k_sidesTally : List Int32} {k_symmetriesTally : List Int32} {k_holesTally : List Int32} {k_tallied : Int32} {g_p : Nat} {g_k : Nat} {x_p : Nat} {x_v : List Int64} {f_p : Nat} {f_a : Nat → Nat} {f_codes : List Int32} {f_size : Int32} {i1 : Int32} {u : (List Int32) × (List Int64) × (List Int32) × Int32} (hk_g : g_k < 3) (h : f_X1_growInto N i1 k_fixedStart g_k x_v f_codes f_size = some u) : Ct l D r (z_rl xs) zm_X1_growInto 0 0 [.ref k_p, .int i1] ([sCa k_p k_a g_p k_images k_surroundings f_p x_p k_fixedStart k_fixedBuilt k_free k_freeStart k_freeBuilt k_sidesTally k_symmetriesTally k_holesTally k_tallied, sLa r g_p g_k, sAj x_p x_v, sCe f_p f_a f_codes f_size] : List ZW).flatten (fun v' w' => v' = none ∧ w' = ([sCa k_p k_a g_p k_images k_surroundings f_p x_p u.1 k_fixedBuilt k_free k_freeStart k_freeBuilt k_sidesTally k_symmetriesTally k_holesTally k_tallied, sLa r g_p g_k, sAj x_p u.2.1, sCe f_p f_a u.2.2.1 u.2.2.2] : List ZW).flatten) := by
  refine Ct.of (by decide +kernel) rfl (fun q => absurd q (by decide)) (Nat.le_of_ble_eq_true rfl) ?_
  refine Go.eqz (z2 := (0, [some (.ref k_p), some (.int i1), none, none, none], [], ([sCa k_p k_a g_p k_images k_surroundings f_p x_p k_fixedStart k_fixedBuilt k_free k_freeStart k_freeBuilt k_sidesTally k_symmetriesTally k_holesTally k_tallied, sLa r g_p g_k, sAj x_p x_v, sCe f_p f_a f_codes f_size] : List ZW).flatten)) rfl ?_
  unfold f_X1_growInto at h
  refine Go.blk zk_X1_growInto [0, 0, 0, 0, 0] (z' := (7, [some (.ref k_p), some (.int i1), none, none, none], [.int (i1 - 1), .ref (k_a 0)], ([sCa k_p k_a g_p k_images k_surroundings f_p x_p k_fixedStart k_fixedBuilt k_free k_freeStart k_freeBuilt k_sidesTally k_symmetriesTally k_holesTally k_tallied, sLa r g_p g_k, sAj x_p x_v, sCe f_p f_a f_codes f_size] : List ZW).flatten)) rfl ⟨rfl, trivial⟩ ?_
  obtain ⟨x1, hx1, h⟩ := z_bind h
  refine Go.iald zk_X1_growInto 1 rfl rfl rfl hx1 ?_
  refine Go.blk zk_X1_growInto [0] (z' := (9, [some (.ref k_p), some (.int i1), none, none, none], [.int 0, .int x1], ([sCa k_p k_a g_p k_images k_surroundings f_p x_p k_fixedStart k_fixedBuilt k_free k_freeStart k_freeBuilt k_sidesTally k_symmetriesTally k_holesTally k_tallied, sLa r g_p g_k, sAj x_p x_v, sCe f_p f_a f_codes f_size] : List ZW).flatten)) rfl trivial ?_
  refine Go.mmax zk_X1_growInto rfl zl_X1_95 ⟨Nat.le_of_ble_eq_true rfl, Nat.le_of_ble_eq_true rfl⟩ zw_max ?_
  refine Go.blk zk_X1_growInto [0, 0, 0, 0] (z' := (18, [some (.ref k_p), some (.int i1), some (.int (if x1 < 0 then 0 else x1)), none, none], [.int i1, .ref (k_a 0)], ([sCa k_p k_a g_p k_images k_surroundings f_p x_p k_fixedStart k_fixedBuilt k_free k_freeStart k_freeBuilt k_sidesTally k_symmetriesTally k_holesTally k_tallied, sLa r g_p g_k, sAj x_p x_v, sCe f_p f_a f_codes f_size] : List ZW).flatten)) rfl ⟨rfl, trivial⟩ ?_
  obtain ⟨x2, hx2, h⟩ := z_bind h
  refine Go.iald zk_X1_growInto 1 rfl rfl rfl hx2 ?_
  refine Go.blk zk_X1_growInto [0] (z' := (22, [some (.ref k_p), some (.int i1), some (.int (if x1 < 0 then 0 else x1)), none, none], [.int 1100, .int x2], ([sCa k_p k_a g_p k_images k_surroundings f_p x_p k_fixedStart k_fixedBuilt k_free k_freeStart k_freeBuilt k_sidesTally k_symmetriesTally k_holesTally k_tallied, sLa r g_p g_k, sAj x_p x_v, sCe f_p f_a f_codes f_size] : List ZW).flatten)) rfl trivial ?_
  refine Go.mmin zk_X1_growInto rfl zl_X1_101 ⟨Nat.le_of_ble_eq_true rfl, Nat.le_of_ble_eq_true rfl⟩ zw_min ?_
  refine Go.blk zk_X1_growInto [0, 0, 0] (z' := (29, [some (.ref k_p), some (.int i1), some (.int (if x1 < 0 then 0 else x1)), some (.int (if 1100 < x2 then 1100 else x2)), some (.int (if x1 < 0 then 0 else x1))], [], ([sCa k_p k_a g_p k_images k_surroundings f_p x_p k_fixedStart k_fixedBuilt k_free k_freeStart k_freeBuilt k_sidesTally k_symmetriesTally k_holesTally k_tallied, sLa r g_p g_k, sAj x_p x_v, sCe f_p f_a f_codes f_size] : List ZW).flatten)) rfl trivial ?_
  refine Go.weak (L := [some (.ref k_p), some (.int i1), some (.int (if x1 < 0 then 0 else x1)), some (.int (if 1100 < x2 then 1100 else x2)), some (.int (if x1 < 0 then 0 else x1))]) (L' := [some (.ref k_p), some (.int i1), none, some (.int (if 1100 < x2 then 1100 else x2)), some (.int (if x1 < 0 then 0 else x1))]) (And.intro rfl (And.intro rfl (And.intro rfl (And.intro rfl (trivial))))) ?_
  obtain ⟨e7, he7, h⟩ := z_bind h
  refine t_X1_growInto_L29 hk_g N _ _ _ _ _ _ he7 ?_
  obtain rfl := Option.some.inj h
  exact Go.vret zk_X1_growInto rfl rfl ⟨rfl, rfl⟩
set_option maxHeartbeats 4000000 in
set_option maxRecDepth 100000 in
theorem t_X1_buildFixed_L7 {N : Nat} {k_p : Nat} {k_a : Nat → Nat} {k_images : Nat} {k_surroundings : Nat} {k_free : Nat} {k_freeStart : List Int32} {k_freeBuilt : Int32} {k_sidesTally : List Int32} {k_symmetriesTally : List Int32} {k_holesTally : List Int32} {k_tallied : Int32} {g_p : Nat} {g_k : Nat} {x_p : Nat} {f_p : Nat} {f_a : Nat → Nat} {v1 : Int32} (hk_g : g_k < 3) {Q : Option Value → ZW → Prop} : ∀ (fu : Nat) (v2 : Int32) (k_fixedStart : List Int32) (k_fixedBuilt : Int32) (x_v : List Int64) (f_codes : List Int32) (f_size : Int32) (e : (List Int32) × Int32 × (List Int64) × (List Int32) × Int32), f_X1_buildFixed_L7 N v1 g_k fu v2 k_fixedStart k_fixedBuilt x_v f_codes f_size = some e → (Go l D r (z_rl xs) zm_X1_buildFixed 0 0 (62, [none, none, none], [], ([sCa k_p k_a g_p k_images k_surroundings f_p x_p e.1 e.2.1 k_free k_freeStart k_freeBuilt k_sidesTally k_symmetriesTally k_holesTally k_tallied, sLa r g_p g_k, sAj x_p e.2.2.1, sCe f_p f_a e.2.2.2.1 e.2.2.2.2] : List ZW).flatten) Q) → Go l D r (z_rl xs) zm_X1_buildFixed 0 0 (7, [some (.ref k_p), some (.int v1), some (.int v2)], [], ([sCa k_p k_a g_p k_images k_surroundings f_p x_p k_fixedStart k_fixedBuilt k_free k_freeStart k_freeBuilt k_sidesTally k_symmetriesTally k_holesTally k_tallied, sLa r g_p g_k, sAj x_p x_v, sCe f_p f_a f_codes f_size] : List ZW).flatten) Q := by
  intro fu
  induction fu with
  | zero =>
    intro v2 k_fixedStart k_fixedBuilt x_v f_codes f_size e h
    simp only [f_X1_buildFixed_L7, reduceCtorEq] at h
  | succ fu ih =>
    intro v2 k_fixedStart k_fixedBuilt x_v f_codes f_size e h kk
    rw [f_X1_buildFixed_L7] at h
    refine Go.blk zk_X1_buildFixed [0, 0] (z' := (9, [some (.ref k_p), some (.int v1), some (.int v2)], [.int v1, .int v2], ([sCa k_p k_a g_p k_images k_surroundings f_p x_p k_fixedStart k_fixedBuilt k_free k_freeStart k_freeBuilt k_sidesTally k_symmetriesTally k_holesTally k_tallied, sLa r g_p g_k, sAj x_p x_v, sCe f_p f_a f_codes f_size] : List ZW).flatten)) rfl trivial ?_
    by_cases hc1 : v1 < v2
    · rw [if_pos hc1] at h
      refine Go.br zk_X1_buildFixed rfl rfl (fun _ => ?_) (fun q => absurd hc1 q)
      obtain rfl := Option.some.inj h
      refine Go.weak (L := [some (.ref k_p), some (.int v1), some (.int v2)]) (L' := [none, none, none]) (trivial) ?_
      exact kk
    · rw [if_neg hc1] at h
      refine Go.br zk_X1_buildFixed rfl rfl (fun q => absurd q hc1) (fun _ => ?_)
      refine Go.blk zk_X1_buildFixed [0, 0] (z' := (14, [some (.ref k_p), some (.int v1), some (.int v2)], [.int v2, .ref k_p], ([sCa k_p k_a g_p k_images k_surroundings f_p x_p k_fixedStart k_fixedBuilt k_free k_freeStart k_freeBuilt k_sidesTally k_symmetriesTally k_holesTally k_tallied, sLa r g_p g_k, sAj x_p x_v, sCe f_p f_a f_codes f_size] : List ZW).flatten)) rfl trivial ?_
      obtain ⟨u2, hu2, h⟩ := z_bind h
      refine Go.vs zk_X1_buildFixed zm_X1_isSize [0, 1] [2, 3] 0 1 4 (S := [sCa k_p k_a g_p k_images k_surroundings f_p x_p k_fixedStart k_fixedBuilt k_free k_freeStart k_freeBuilt k_sidesTally k_symmetriesTally k_holesTally k_tallied, sLa r g_p g_k, sAj x_p x_v, sCe f_p f_a f_codes f_size]) (S2 := [sCa k_p k_a g_p k_images k_surroundings f_p x_p k_fixedStart k_fixedBuilt k_free k_freeStart k_freeBuilt k_sidesTally k_symmetriesTally k_holesTally k_tallied, sLa r g_p g_k, sAj x_p x_v, sCe f_p f_a f_codes f_size]) (As := [.int v2]) (rest := []) (st2 := [.int u2]) (v1 := some (.int u2)) rfl zl_X1_61 zv_X1_isSize ⟨Nat.le_of_ble_eq_true rfl, Nat.le_of_ble_eq_true rfl⟩ rfl (by decide) rfl rfl rfl rfl rfl (Nat.le_of_ble_eq_true rfl) (t_X1_isSize hk_g hu2) rfl rfl rfl ?_
      by_cases hc3 : u2 = 0
      · rw [if_pos hc3] at h
        refine Go.br zk_X1_buildFixed rfl rfl (fun _ => ?_) (fun q => absurd hc3 q)
        obtain rfl := Option.some.inj h
        refine Go.weak (L := [some (.ref k_p), some (.int v1), some (.int v2)]) (L' := [none, none, none]) (trivial) ?_
        exact kk
      · rw [if_neg hc3] at h
        refine Go.br zk_X1_buildFixed rfl rfl (fun q => absurd q hc3) (fun _ => ?_)
        refine Go.blk zk_X1_buildFixed [0, 0, 0, 0, 0, 0, 0, 0] (z' := (32, [some (.ref k_p), some (.int v1), some (.int v2)], [.int v2, .ref (k_a 0), .int (v2 + 1), .ref (k_a 0)], ([sCa k_p k_a g_p k_images k_surroundings f_p x_p k_fixedStart k_fixedBuilt k_free k_freeStart k_freeBuilt k_sidesTally k_symmetriesTally k_holesTally k_tallied, sLa r g_p g_k, sAj x_p x_v, sCe f_p f_a f_codes f_size] : List ZW).flatten)) rfl ⟨rfl, rfl, trivial⟩ ?_
        obtain ⟨x4, hx4, h⟩ := z_bind h
        refine Go.iald zk_X1_buildFixed 1 rfl rfl rfl hx4 ?_
        obtain ⟨t5, ht5, h⟩ := z_bind h
        refine Go.iast zk_X1_buildFixed 1 rfl rfl rfl ht5 ?_
        refine Go.eqz (z2 := (34, [some (.ref k_p), some (.int v1), some (.int v2)], [], ([sCa k_p k_a g_p k_images k_surroundings f_p x_p t5 k_fixedBuilt k_free k_freeStart k_freeBuilt k_sidesTally k_symmetriesTally k_holesTally k_tallied, sLa r g_p g_k, sAj x_p x_v, sCe f_p f_a f_codes f_size] : List ZW).flatten)) rfl ?_
        refine Go.blk zk_X1_buildFixed [0, 0] (z' := (36, [some (.ref k_p), some (.int v1), some (.int v2)], [.int 1, .int v2], ([sCa k_p k_a g_p k_images k_surroundings f_p x_p t5 k_fixedBuilt k_free k_freeStart k_freeBuilt k_sidesTally k_symmetriesTally k_holesTally k_tallied, sLa r g_p g_k, sAj x_p x_v, sCe f_p f_a f_codes f_size] : List ZW).flatten)) rfl trivial ?_
        by_cases hc6 : v2 = 1
        · rw [if_pos hc6] at h
          refine Go.br zk_X1_buildFixed rfl rfl (fun _ => ?_) (fun q => absurd hc6 q)
          refine Go.blk zk_X1_buildFixed [0] (z' := (40, [some (.ref k_p), some (.int v1), some (.int v2)], [.ref k_p], ([sCa k_p k_a g_p k_images k_surroundings f_p x_p t5 k_fixedBuilt k_free k_freeStart k_freeBuilt k_sidesTally k_symmetriesTally k_holesTally k_tallied, sLa r g_p g_k, sAj x_p x_v, sCe f_p f_a f_codes f_size] : List ZW).flatten)) rfl trivial ?_
          obtain ⟨u7, hu7, h⟩ := z_bind h
          refine Go.vs zk_X1_buildFixed zm_X1_placeSingleCells [0, 1, 2] [3] 0 1 4 (S := [sCa k_p k_a g_p k_images k_surroundings f_p x_p t5 k_fixedBuilt k_free k_freeStart k_freeBuilt k_sidesTally k_symmetriesTally k_holesTally k_tallied, sLa r g_p g_k, sAj x_p x_v, sCe f_p f_a f_codes f_size]) (S2 := [sCa k_p k_a g_p k_images k_surroundings f_p x_p u7.1 k_fixedBuilt k_free k_freeStart k_freeBuilt k_sidesTally k_symmetriesTally k_holesTally k_tallied, sLa r g_p g_k, sAj x_p u7.2, sCe f_p f_a f_codes f_size]) (As := []) (rest := []) (st2 := []) (v1 := none) rfl zl_X1_82 zv_X1_placeSingleCells ⟨Nat.le_of_ble_eq_true rfl, Nat.le_of_ble_eq_true rfl⟩ rfl (by decide) rfl rfl rfl rfl rfl (Nat.le_of_ble_eq_true rfl) (t_X1_placeSingleCells hk_g hu7) rfl rfl rfl ?_
          refine Go.blk zk_X1_buildFixed [0, 0, 0] (z' := (53, [some (.ref k_p), some (.int v1), some (.int v2)], [.int v2, .ref k_p], ([sCa k_p k_a g_p k_images k_surroundings f_p x_p u7.1 k_fixedBuilt k_free k_freeStart k_freeBuilt k_sidesTally k_symmetriesTally k_holesTally k_tallied, sLa r g_p g_k, sAj x_p u7.2, sCe f_p f_a f_codes f_size] : List ZW).flatten)) rfl trivial ?_
          refine Go.put zk_X1_buildFixed 0 rfl rfl rfl rfl rfl (Nat.le_of_ble_eq_true rfl) ?_
          refine Go.eqz (z2 := (56, [some (.ref k_p), some (.int v1), some (.int v2)], [], ([sCa k_p k_a g_p k_images k_surroundings f_p x_p u7.1 v2 k_free k_freeStart k_freeBuilt k_sidesTally k_symmetriesTally k_holesTally k_tallied, sLa r g_p g_k, sAj x_p u7.2, sCe f_p f_a f_codes f_size] : List ZW).flatten)) rfl ?_
          refine Go.blk zk_X1_buildFixed [0, 0] (z' := (7, [some (.ref k_p), some (.int v1), some (.int (v2 + 1))], [], ([sCa k_p k_a g_p k_images k_surroundings f_p x_p u7.1 v2 k_free k_freeStart k_freeBuilt k_sidesTally k_symmetriesTally k_holesTally k_tallied, sLa r g_p g_k, sAj x_p u7.2, sCe f_p f_a f_codes f_size] : List ZW).flatten)) rfl trivial ?_
          exact ih _ _ _ _ _ _ _ h kk
        · rw [if_neg hc6] at h
          refine Go.br zk_X1_buildFixed rfl rfl (fun q => absurd q hc6) (fun _ => ?_)
          refine Go.blk zk_X1_buildFixed [0, 0] (z' := (48, [some (.ref k_p), some (.int v1), some (.int v2)], [.int v2, .ref k_p], ([sCa k_p k_a g_p k_images k_surroundings f_p x_p t5 k_fixedBuilt k_free k_freeStart k_freeBuilt k_sidesTally k_symmetriesTally k_holesTally k_tallied, sLa r g_p g_k, sAj x_p x_v, sCe f_p f_a f_codes f_size] : List ZW).flatten)) rfl trivial ?_
          obtain ⟨u8, hu8, h⟩ := z_bind h
          refine Go.vs zk_X1_buildFixed zm_X1_growInto [0, 1, 2, 3] [] 0 1 4 (S := [sCa k_p k_a g_p k_images k_surroundings f_p x_p t5 k_fixedBuilt k_free k_freeStart k_freeBuilt k_sidesTally k_symmetriesTally k_holesTally k_tallied, sLa r g_p g_k, sAj x_p x_v, sCe f_p f_a f_codes f_size]) (S2 := [sCa k_p k_a g_p k_images k_surroundings f_p x_p u8.1 k_fixedBuilt k_free k_freeStart k_freeBuilt k_sidesTally k_symmetriesTally k_holesTally k_tallied, sLa r g_p g_k, sAj x_p u8.2.1, sCe f_p f_a u8.2.2.1 u8.2.2.2]) (As := [.int v2]) (rest := []) (st2 := []) (v1 := none) rfl zl_X1_85 zv_X1_growInto ⟨Nat.le_of_ble_eq_true rfl, Nat.le_of_ble_eq_true rfl⟩ rfl (by decide) rfl rfl rfl rfl rfl (Nat.le_of_ble_eq_true rfl) (t_X1_growInto hk_g hu8) rfl rfl rfl ?_
          refine Go.blk zk_X1_buildFixed [0, 0] (z' := (53, [some (.ref k_p), some (.int v1), some (.int v2)], [.int v2, .ref k_p], ([sCa k_p k_a g_p k_images k_surroundings f_p x_p u8.1 k_fixedBuilt k_free k_freeStart k_freeBuilt k_sidesTally k_symmetriesTally k_holesTally k_tallied, sLa r g_p g_k, sAj x_p u8.2.1, sCe f_p f_a u8.2.2.1 u8.2.2.2] : List ZW).flatten)) rfl trivial ?_
          refine Go.put zk_X1_buildFixed 0 rfl rfl rfl rfl rfl (Nat.le_of_ble_eq_true rfl) ?_
          refine Go.eqz (z2 := (56, [some (.ref k_p), some (.int v1), some (.int v2)], [], ([sCa k_p k_a g_p k_images k_surroundings f_p x_p u8.1 v2 k_free k_freeStart k_freeBuilt k_sidesTally k_symmetriesTally k_holesTally k_tallied, sLa r g_p g_k, sAj x_p u8.2.1, sCe f_p f_a u8.2.2.1 u8.2.2.2] : List ZW).flatten)) rfl ?_
          refine Go.blk zk_X1_buildFixed [0, 0] (z' := (7, [some (.ref k_p), some (.int v1), some (.int (v2 + 1))], [], ([sCa k_p k_a g_p k_images k_surroundings f_p x_p u8.1 v2 k_free k_freeStart k_freeBuilt k_sidesTally k_symmetriesTally k_holesTally k_tallied, sLa r g_p g_k, sAj x_p u8.2.1, sCe f_p f_a u8.2.2.1 u8.2.2.2] : List ZW).flatten)) rfl trivial ?_
          exact ih _ _ _ _ _ _ _ h kk
set_option maxHeartbeats 4000000 in
set_option maxRecDepth 100000 in
theorem t_X1_buildFixed {N : Nat} {k_p : Nat} {k_a : Nat → Nat} {k_images : Nat} {k_surroundings : Nat} {k_fixedStart : List Int32} {k_fixedBuilt : Int32} {k_free : Nat} {k_freeStart : List Int32} {k_freeBuilt : Int32} {k_sidesTally : List Int32} {k_symmetriesTally : List Int32} {k_holesTally : List Int32} {k_tallied : Int32} {g_p : Nat} {g_k : Nat} {x_p : Nat} {x_v : List Int64} {f_p : Nat} {f_a : Nat → Nat} {f_codes : List Int32} {f_size : Int32} {i1 : Int32} {u : (List Int32) × Int32 × (List Int64) × (List Int32) × Int32} (hk_g : g_k < 3) (h : f_X1_buildFixed N i1 k_fixedStart k_fixedBuilt g_k x_v f_codes f_size = some u) : Ct l D r (z_rl xs) zm_X1_buildFixed 0 0 [.ref k_p, .int i1] ([sCa k_p k_a g_p k_images k_surroundings f_p x_p k_fixedStart k_fixedBuilt k_free k_freeStart k_freeBuilt k_sidesTally k_symmetriesTally k_holesTally k_tallied, sLa r g_p g_k, sAj x_p x_v, sCe f_p f_a f_codes f_size] : List ZW).flatten (fun v' w' => v' = none ∧ w' = ([sCa k_p k_a g_p k_images k_surroundings f_p x_p u.1 u.2.1 k_free k_freeStart k_freeBuilt k_sidesTally k_symmetriesTally k_holesTally k_tallied, sLa r g_p g_k, sAj x_p u.2.2.1, sCe f_p f_a u.2.2.2.1 u.2.2.2.2] : List ZW).flatten) := by
  refine Ct.of (by decide +kernel) rfl (fun q => absurd q (by decide)) (Nat.le_of_ble_eq_true rfl) ?_
  refine Go.eqz (z2 := (0, [some (.ref k_p), some (.int i1), none], [], ([sCa k_p k_a g_p k_images k_surroundings f_p x_p k_fixedStart k_fixedBuilt k_free k_freeStart k_freeBuilt k_sidesTally k_symmetriesTally k_holesTally k_tallied, sLa r g_p g_k, sAj x_p x_v, sCe f_p f_a f_codes f_size] : List ZW).flatten)) rfl ?_
  unfold f_X1_buildFixed at h
  refine Go.blk zk_X1_buildFixed [0, 0, 0, 0, 0] (z' := (7, [some (.ref k_p), some (.int i1), some (.int (k_fixedBuilt + 1))], [], ([sCa k_p k_a g_p k_images k_surroundings f_p x_p k_fixedStart k_fixedBuilt k_free k_freeStart k_freeBuilt k_sidesTally k_symmetriesTally k_holesTally k_tallied, sLa r g_p g_k, sAj x_p x_v, sCe f_p f_a f_codes f_size] : List ZW).flatten)) rfl ⟨rfl, trivial⟩ ?_
  obtain ⟨e9, he9, h⟩ := z_bind h
  refine t_X1_buildFixed_L7 hk_g N _ _ _ _ _ _ _ he9 ?_
  obtain rfl := Option.some.inj h
  exact Go.vret zk_X1_buildFixed rfl rfl ⟨rfl, rfl⟩
set_option maxHeartbeats 4000000 in
set_option maxRecDepth 100000 in
theorem t_X1_tallyFigure {N : Nat} {k_p : Nat} {k_a : Nat → Nat} {k_lattice : Nat} {k_images : Nat} {k_figure : Nat} {k_fixed : Nat} {k_fixedStart : List Int32} {k_fixedBuilt : Int32} {k_free : Nat} {k_freeStart : List Int32} {k_freeBuilt : Int32} {k_sidesTally : List Int32} {k_symmetriesTally : List Int32} {k_holesTally : List Int32} {k_tallied : Int32} {s_p : Nat} {s_a : Nat → Nat} {s_marks : List Int32} {s_queue : List Int32} {s_columns : Int32} {s_rows : Int32} {s_sides : Int32} {s_borderCells : Int32} {s_outerCells : Int32} {s_holes : Int32} {s_holeCells : Int32} {i1 : Int32} {u : (List Int32) × (List Int32)}  (h : f_X1_tallyFigure N i1 k_sidesTally k_holesTally s_sides s_holes = some u) : Ct l D r (z_rl xs) zm_X1_tallyFigure 0 0 [.ref k_p, .int i1] ([sCa k_p k_a k_lattice k_images s_p k_figure k_fixed k_fixedStart k_fixedBuilt k_free k_freeStart k_freeBuilt k_sidesTally k_symmetriesTally k_holesTally k_tallied, sSu s_p s_a s_marks s_queue s_columns s_rows s_sides s_borderCells s_outerCells s_holes s_holeCells] : List ZW).flatten (fun v' w' => v' = none ∧ w' = ([sCa k_p k_a k_lattice k_images s_p k_figure k_fixed k_fixedStart k_fixedBuilt k_free k_freeStart k_freeBuilt u.1 k_symmetriesTally u.2 k_tallied, sSu s_p s_a s_marks s_queue s_columns s_rows s_sides s_borderCells s_outerCells s_holes s_holeCells] : List ZW).flatten) := by
  refine Ct.of (by decide +kernel) rfl (fun q => absurd q (by decide)) (Nat.le_of_ble_eq_true rfl) ?_
  refine Go.eqz (z2 := (0, [some (.ref k_p), some (.int i1), none], [], ([sCa k_p k_a k_lattice k_images s_p k_figure k_fixed k_fixedStart k_fixedBuilt k_free k_freeStart k_freeBuilt k_sidesTally k_symmetriesTally k_holesTally k_tallied, sSu s_p s_a s_marks s_queue s_columns s_rows s_sides s_borderCells s_outerCells s_holes s_holeCells] : List ZW).flatten)) rfl ?_
  unfold f_X1_tallyFigure at h
  refine Go.blk zk_X1_tallyFigure [0, 0, 0, 0, 0, 6, 0, 0, 0, 0, 0, 3] (z' := (19, [some (.ref k_p), some (.int i1), some (.int ((i1 * 37) + s_sides))], [.int (Int32.ofNat (List.length k_sidesTally)), .int ((i1 * 37) + s_sides)], ([sCa k_p k_a k_lattice k_images s_p k_figure k_fixed k_fixedStart k_fixedBuilt k_free k_freeStart k_freeBuilt k_sidesTally k_symmetriesTally k_holesTally k_tallied, sSu s_p s_a s_marks s_queue s_columns s_rows s_sides s_borderCells s_outerCells s_holes s_holeCells] : List ZW).flatten)) rfl ⟨rfl, rfl, rfl, rfl, trivial⟩ ?_
  by_cases hc1 : ((i1 * 37) + s_sides) < (Int32.ofNat (List.length k_sidesTally))
  · rw [if_pos hc1] at h
    refine Go.br zk_X1_tallyFigure rfl rfl (fun _ => ?_) (fun q => absurd hc1 q)
    refine Go.blk zk_X1_tallyFigure [0, 0, 0, 0] (z' := (28, [some (.ref k_p), some (.int i1), some (.int ((i1 * 37) + s_sides))], [.int ((i1 * 37) + s_sides), .ref (k_a 2), .int ((i1 * 37) + s_sides), .ref (k_a 2)], ([sCa k_p k_a k_lattice k_images s_p k_figure k_fixed k_fixedStart k_fixedBuilt k_free k_freeStart k_freeBuilt k_sidesTally k_symmetriesTally k_holesTally k_tallied, sSu s_p s_a s_marks s_queue s_columns s_rows s_sides s_borderCells s_outerCells s_holes s_holeCells] : List ZW).flatten)) rfl ⟨rfl, trivial⟩ ?_
    obtain ⟨x2, hx2, h⟩ := z_bind h
    refine Go.iald zk_X1_tallyFigure 3 rfl rfl rfl hx2 ?_
    refine Go.blk zk_X1_tallyFigure [0, 0] (z' := (31, [some (.ref k_p), some (.int i1), some (.int ((i1 * 37) + s_sides))], [.int (x2 + 1), .int ((i1 * 37) + s_sides), .ref (k_a 2)], ([sCa k_p k_a k_lattice k_images s_p k_figure k_fixed k_fixedStart k_fixedBuilt k_free k_freeStart k_freeBuilt k_sidesTally k_symmetriesTally k_holesTally k_tallied, sSu s_p s_a s_marks s_queue s_columns s_rows s_sides s_borderCells s_outerCells s_holes s_holeCells] : List ZW).flatten)) rfl trivial ?_
    obtain ⟨t3, ht3, h⟩ := z_bind h
    refine Go.iast zk_X1_tallyFigure 3 rfl rfl rfl ht3 ?_
    refine Go.eqz (z2 := (32, [some (.ref k_p), some (.int i1), some (.int ((i1 * 37) + s_sides))], [], ([sCa k_p k_a k_lattice k_images s_p k_figure k_fixed k_fixedStart k_fixedBuilt k_free k_freeStart k_freeBuilt t3 k_symmetriesTally k_holesTally k_tallied, sSu s_p s_a s_marks s_queue s_columns s_rows s_sides s_borderCells s_outerCells s_holes s_holeCells] : List ZW).flatten)) rfl ?_
    refine Go.blk zk_X1_tallyFigure [0, 0, 6] (z' := (39, [some (.ref k_p), some (.int i1), some (.int ((i1 * 37) + s_sides))], [.int s_holes], ([sCa k_p k_a k_lattice k_images s_p k_figure k_fixed k_fixedStart k_fixedBuilt k_free k_freeStart k_freeBuilt t3 k_symmetriesTally k_holesTally k_tallied, sSu s_p s_a s_marks s_queue s_columns s_rows s_sides s_borderCells s_outerCells s_holes s_holeCells] : List ZW).flatten)) rfl ⟨rfl, rfl, trivial⟩ ?_
    by_cases hc4 : 0 < s_holes
    · rw [if_pos hc4] at h
      refine Go.br zk_X1_tallyFigure rfl rfl (fun _ => ?_) (fun q => absurd hc4 q)
      refine Go.blk zk_X1_tallyFigure [0, 0, 0, 0] (z' := (48, [some (.ref k_p), some (.int i1), some (.int ((i1 * 37) + s_sides))], [.int i1, .ref (k_a 4), .int i1, .ref (k_a 4)], ([sCa k_p k_a k_lattice k_images s_p k_figure k_fixed k_fixedStart k_fixedBuilt k_free k_freeStart k_freeBuilt t3 k_symmetriesTally k_holesTally k_tallied, sSu s_p s_a s_marks s_queue s_columns s_rows s_sides s_borderCells s_outerCells s_holes s_holeCells] : List ZW).flatten)) rfl ⟨rfl, trivial⟩ ?_
      obtain ⟨x5, hx5, h⟩ := z_bind h
      refine Go.iald zk_X1_tallyFigure 5 rfl rfl rfl hx5 ?_
      refine Go.blk zk_X1_tallyFigure [0, 0] (z' := (51, [some (.ref k_p), some (.int i1), some (.int ((i1 * 37) + s_sides))], [.int (x5 + 1), .int i1, .ref (k_a 4)], ([sCa k_p k_a k_lattice k_images s_p k_figure k_fixed k_fixedStart k_fixedBuilt k_free k_freeStart k_freeBuilt t3 k_symmetriesTally k_holesTally k_tallied, sSu s_p s_a s_marks s_queue s_columns s_rows s_sides s_borderCells s_outerCells s_holes s_holeCells] : List ZW).flatten)) rfl trivial ?_
      obtain ⟨t6, ht6, h⟩ := z_bind h
      refine Go.iast zk_X1_tallyFigure 5 rfl rfl rfl ht6 ?_
      refine Go.eqz (z2 := (52, [some (.ref k_p), some (.int i1), some (.int ((i1 * 37) + s_sides))], [], ([sCa k_p k_a k_lattice k_images s_p k_figure k_fixed k_fixedStart k_fixedBuilt k_free k_freeStart k_freeBuilt t3 k_symmetriesTally t6 k_tallied, sSu s_p s_a s_marks s_queue s_columns s_rows s_sides s_borderCells s_outerCells s_holes s_holeCells] : List ZW).flatten)) rfl ?_
      obtain rfl := Option.some.inj h
      exact Go.vret zk_X1_tallyFigure rfl rfl ⟨rfl, rfl⟩
    · rw [if_neg hc4] at h
      refine Go.br zk_X1_tallyFigure rfl rfl (fun q => absurd q hc4) (fun _ => ?_)
      obtain rfl := Option.some.inj h
      exact Go.vret zk_X1_tallyFigure rfl rfl ⟨rfl, rfl⟩
  · rw [if_neg hc1] at h
    refine Go.br zk_X1_tallyFigure rfl rfl (fun q => absurd q hc1) (fun _ => ?_)
    refine Go.blk zk_X1_tallyFigure [0, 0, 6] (z' := (39, [some (.ref k_p), some (.int i1), some (.int ((i1 * 37) + s_sides))], [.int s_holes], ([sCa k_p k_a k_lattice k_images s_p k_figure k_fixed k_fixedStart k_fixedBuilt k_free k_freeStart k_freeBuilt k_sidesTally k_symmetriesTally k_holesTally k_tallied, sSu s_p s_a s_marks s_queue s_columns s_rows s_sides s_borderCells s_outerCells s_holes s_holeCells] : List ZW).flatten)) rfl ⟨rfl, rfl, trivial⟩ ?_
    by_cases hc7 : 0 < s_holes
    · rw [if_pos hc7] at h
      refine Go.br zk_X1_tallyFigure rfl rfl (fun _ => ?_) (fun q => absurd hc7 q)
      refine Go.blk zk_X1_tallyFigure [0, 0, 0, 0] (z' := (48, [some (.ref k_p), some (.int i1), some (.int ((i1 * 37) + s_sides))], [.int i1, .ref (k_a 4), .int i1, .ref (k_a 4)], ([sCa k_p k_a k_lattice k_images s_p k_figure k_fixed k_fixedStart k_fixedBuilt k_free k_freeStart k_freeBuilt k_sidesTally k_symmetriesTally k_holesTally k_tallied, sSu s_p s_a s_marks s_queue s_columns s_rows s_sides s_borderCells s_outerCells s_holes s_holeCells] : List ZW).flatten)) rfl ⟨rfl, trivial⟩ ?_
      obtain ⟨x8, hx8, h⟩ := z_bind h
      refine Go.iald zk_X1_tallyFigure 5 rfl rfl rfl hx8 ?_
      refine Go.blk zk_X1_tallyFigure [0, 0] (z' := (51, [some (.ref k_p), some (.int i1), some (.int ((i1 * 37) + s_sides))], [.int (x8 + 1), .int i1, .ref (k_a 4)], ([sCa k_p k_a k_lattice k_images s_p k_figure k_fixed k_fixedStart k_fixedBuilt k_free k_freeStart k_freeBuilt k_sidesTally k_symmetriesTally k_holesTally k_tallied, sSu s_p s_a s_marks s_queue s_columns s_rows s_sides s_borderCells s_outerCells s_holes s_holeCells] : List ZW).flatten)) rfl trivial ?_
      obtain ⟨t9, ht9, h⟩ := z_bind h
      refine Go.iast zk_X1_tallyFigure 5 rfl rfl rfl ht9 ?_
      refine Go.eqz (z2 := (52, [some (.ref k_p), some (.int i1), some (.int ((i1 * 37) + s_sides))], [], ([sCa k_p k_a k_lattice k_images s_p k_figure k_fixed k_fixedStart k_fixedBuilt k_free k_freeStart k_freeBuilt k_sidesTally k_symmetriesTally t9 k_tallied, sSu s_p s_a s_marks s_queue s_columns s_rows s_sides s_borderCells s_outerCells s_holes s_holeCells] : List ZW).flatten)) rfl ?_
      obtain rfl := Option.some.inj h
      exact Go.vret zk_X1_tallyFigure rfl rfl ⟨rfl, rfl⟩
    · rw [if_neg hc7] at h
      refine Go.br zk_X1_tallyFigure rfl rfl (fun q => absurd q hc7) (fun _ => ?_)
      obtain rfl := Option.some.inj h
      exact Go.vret zk_X1_tallyFigure rfl rfl ⟨rfl, rfl⟩
set_option maxHeartbeats 4000000 in
set_option maxRecDepth 100000 in
theorem t_X1_buildTallies_L27 {N : Nat} {k_p : Nat} {k_a : Nat → Nat} {k_images : Nat} {k_fixedStart : List Int32} {k_fixedBuilt : Int32} {k_free : Nat} {k_freeStart : List Int32} {k_freeBuilt : Int32} {k_symmetriesTally : List Int32} {k_tallied : Int32} {g_p : Nat} {g_k : Nat} {x_p : Nat} {x_v : List Int64} {f_p : Nat} {f_a : Nat → Nat} {s_p : Nat} {s_a : Nat → Nat} {v1 : Int32} {v2 : Int32} (hk_g : g_k < 3) {Q : Option Value → ZW → Prop} : ∀ (fu : Nat) (v3 : Int32) (k_sidesTally : List Int32) (k_holesTally : List Int32) (f_codes : List Int32) (f_size : Int32) (s_marks : List Int32) (s_queue : List Int32) (s_columns : Int32) (s_rows : Int32) (s_sides : Int32) (s_borderCells : Int32) (s_outerCells : Int32) (s_holes : Int32) (s_holeCells : Int32) (e : (List Int32) × (List Int32) × (List Int32) × Int32 × (List Int32) × (List Int32) × Int32 × Int32 × Int32 × Int32 × Int32 × Int32 × Int32), f_X1_buildTallies_L27 N v2 k_fixedStart g_k x_v fu v3 k_sidesTally k_holesTally f_codes f_size s_marks s_queue s_columns s_rows s_sides s_borderCells s_outerCells s_holes s_holeCells = some e → (Go l D r (z_rl xs) zm_X1_buildTallies 0 0 (86, [some (.ref k_p), some (.int v1), some (.int v2), none], [], ([sCa k_p k_a g_p k_images s_p f_p x_p k_fixedStart k_fixedBuilt k_free k_freeStart k_freeBuilt e.1 k_symmetriesTally e.2.1 k_tallied, sLa r g_p g_k, sAj x_p x_v, sCe f_p f_a e.2.2.1 e.2.2.2.1, sSu s_p s_a e.2.2.2.2.1 e.2.2.2.2.2.1 e.2.2.2.2.2.2.1 e.2.2.2.2.2.2.2.1 e.2.2.2.2.2.2.2.2.1 e.2.2.2.2.2.2.2.2.2.1 e.2.2.2.2.2.2.2.2.2.2.1 e.2.2.2.2.2.2.2.2.2.2.2.1 e.2.2.2.2.2.2.2.2.2.2.2.2] : List ZW).flatten) Q) → Go l D r (z_rl xs) zm_X1_buildTallies 0 0 (27, [some (.ref k_p), some (.int v1), some (.int v2), some (.int v3)], [], ([sCa k_p k_a g_p k_images s_p f_p x_p k_fixedStart k_fixedBuilt k_free k_freeStart k_freeBuilt k_sidesTally k_symmetriesTally k_holesTally k_tallied, sLa r g_p g_k, sAj x_p x_v, sCe f_p f_a f_codes f_size, sSu s_p s_a s_marks s_queue s_columns s_rows s_sides s_borderCells s_outerCells s_holes s_holeCells] : List ZW).flatten) Q := by
  intro fu
  induction fu with
  | zero =>
    intro v3 k_sidesTally k_holesTally f_codes f_size s_marks s_queue s_columns s_rows s_sides s_borderCells s_outerCells s_holes s_holeCells e h
    simp only [f_X1_buildTallies_L27, reduceCtorEq] at h
  | succ fu ih =>
    intro v3 k_sidesTally k_holesTally f_codes f_size s_marks s_queue s_columns s_rows s_sides s_borderCells s_outerCells s_holes s_holeCells e h kk
    rw [f_X1_buildTallies_L27] at h
    refine Go.blk zk_X1_buildTallies [0, 0, 0, 0, 0, 0] (z' := (35, [some (.ref k_p), some (.int v1), some (.int v2), some (.int v3)], [.int (v2 + 1), .ref (k_a 0), .int v3], ([sCa k_p k_a g_p k_images s_p f_p x_p k_fixedStart k_fixedBuilt k_free k_freeStart k_freeBuilt k_sidesTally k_symmetriesTally k_holesTally k_tallied, sLa r g_p g_k, sAj x_p x_v, sCe f_p f_a f_codes f_size, sSu s_p s_a s_marks s_queue s_columns s_rows s_sides s_borderCells s_outerCells s_holes s_holeCells] : List ZW).flatten)) rfl ⟨rfl, trivial⟩ ?_
    obtain ⟨x4, hx4, h⟩ := z_bind h
    refine Go.iald zk_X1_buildTallies 1 rfl rfl rfl hx4 ?_
    by_cases hc5 : v3 < x4
    · rw [if_pos hc5] at h
      refine Go.br zk_X1_buildTallies rfl rfl (fun _ => ?_) (fun q => absurd hc5 q)
      refine Go.blk zk_X1_buildTallies [0, 0] (z' := (43, [some (.ref k_p), some (.int v1), some (.int v2), some (.int v3)], [.int 1100, .int v3], ([sCa k_p k_a g_p k_images s_p f_p x_p k_fixedStart k_fixedBuilt k_free k_freeStart k_freeBuilt k_sidesTally k_symmetriesTally k_holesTally k_tallied, sLa r g_p g_k, sAj x_p x_v, sCe f_p f_a f_codes f_size, sSu s_p s_a s_marks s_queue s_columns s_rows s_sides s_borderCells s_outerCells s_holes s_holeCells] : List ZW).flatten)) rfl trivial ?_
      by_cases hc6 : v3 < 1100
      · rw [if_pos hc6] at h
        refine Go.br zk_X1_buildTallies rfl rfl (fun _ => ?_) (fun q => absurd hc6 q)
        refine Go.blk zk_X1_buildTallies [0, 0, 0, 0, 0] (z' := (55, [some (.ref k_p), some (.int v1), some (.int v2), some (.int v3)], [.int v3, .ref x_p, .ref f_p], ([sCa k_p k_a g_p k_images s_p f_p x_p k_fixedStart k_fixedBuilt k_free k_freeStart k_freeBuilt k_sidesTally k_symmetriesTally k_holesTally k_tallied, sLa r g_p g_k, sAj x_p x_v, sCe f_p f_a f_codes f_size, sSu s_p s_a s_marks s_queue s_columns s_rows s_sides s_borderCells s_outerCells s_holes s_holeCells] : List ZW).flatten)) rfl ⟨rfl, rfl, trivial⟩ ?_
        obtain ⟨x7, hx7, h⟩ := z_bind h
        refine Go.lald zk_X1_buildTallies 7 rfl rfl rfl hx7 ?_
        refine Go.blk zk_X1_buildTallies [0] (z' := (57, [some (.ref k_p), some (.int v1), some (.int v2), some (.int v3)], [.int v2, .long x7, .ref f_p], ([sCa k_p k_a g_p k_images s_p f_p x_p k_fixedStart k_fixedBuilt k_free k_freeStart k_freeBuilt k_sidesTally k_symmetriesTally k_holesTally k_tallied, sLa r g_p g_k, sAj x_p x_v, sCe f_p f_a f_codes f_size, sSu s_p s_a s_marks s_queue s_columns s_rows s_sides s_borderCells s_outerCells s_holes s_holeCells] : List ZW).flatten)) rfl trivial ?_
        obtain ⟨u8, hu8, h⟩ := z_bind h
        refine Go.vs zk_X1_buildTallies zm_X2_unpack [3] [0, 1, 2, 4] 0 2 5 (S := [sCa k_p k_a g_p k_images s_p f_p x_p k_fixedStart k_fixedBuilt k_free k_freeStart k_freeBuilt k_sidesTally k_symmetriesTally k_holesTally k_tallied, sLa r g_p g_k, sAj x_p x_v, sCe f_p f_a f_codes f_size, sSu s_p s_a s_marks s_queue s_columns s_rows s_sides s_borderCells s_outerCells s_holes s_holeCells]) (S2 := [sCa k_p k_a g_p k_images s_p f_p x_p k_fixedStart k_fixedBuilt k_free k_freeStart k_freeBuilt k_sidesTally k_symmetriesTally k_holesTally k_tallied, sLa r g_p g_k, sAj x_p x_v, sCe f_p f_a u8.1 u8.2, sSu s_p s_a s_marks s_queue s_columns s_rows s_sides s_borderCells s_outerCells s_holes s_holeCells]) (As := [.long x7, .int v2]) (rest := []) (st2 := []) (v1 := none) rfl zl_X1_104 zv_X2_unpack ⟨Nat.le_of_ble_eq_true rfl, Nat.le_of_ble_eq_true rfl⟩ rfl (by decide) rfl rfl rfl rfl rfl (Nat.le_of_ble_eq_true rfl) (t_X2_unpack hu8) rfl rfl rfl ?_
        refine Go.blk zk_X1_buildTallies [0, 0, 0, 0, 0, 0] (z' := (72, [some (.ref k_p), some (.int v1), some (.int v2), some (.int v3)], [.ref g_p, .ref f_p, .ref s_p], ([sCa k_p k_a g_p k_images s_p f_p x_p k_fixedStart k_fixedBuilt k_free k_freeStart k_freeBuilt k_sidesTally k_symmetriesTally k_holesTally k_tallied, sLa r g_p g_k, sAj x_p x_v, sCe f_p f_a u8.1 u8.2, sSu s_p s_a s_marks s_queue s_columns s_rows s_sides s_borderCells s_outerCells s_holes s_holeCells] : List ZW).flatten)) rfl ⟨rfl, rfl, rfl, trivial⟩ ?_
        obtain ⟨u9, hu9, h⟩ := z_bind h
        refine Go.vs zk_X1_buildTallies zm_X9_look [4, 3, 1] [0, 2] 0 9 5 (S := [sCa k_p k_a g_p k_images s_p f_p x_p k_fixedStart k_fixedBuilt k_free k_freeStart k_freeBuilt k_sidesTally k_symmetriesTally k_holesTally k_tallied, sLa r g_p g_k, sAj x_p x_v, sCe f_p f_a u8.1 u8.2, sSu s_p s_a s_marks s_queue s_columns s_rows s_sides s_borderCells s_outerCells s_holes s_holeCells]) (S2 := [sCa k_p k_a g_p k_images s_p f_p x_p k_fixedStart k_fixedBuilt k_free k_freeStart k_freeBuilt k_sidesTally k_symmetriesTally k_holesTally k_tallied, sLa r g_p g_k, sAj x_p x_v, sCe f_p f_a u8.1 u8.2, sSu s_p s_a u9.1 u9.2.1 u9.2.2.1 u9.2.2.2.1 u9.2.2.2.2.1 u9.2.2.2.2.2.1 u9.2.2.2.2.2.2.1 u9.2.2.2.2.2.2.2.1 u9.2.2.2.2.2.2.2.2]) (As := [.ref f_p, .ref g_p]) (rest := []) (st2 := []) (v1 := none) rfl zl_X1_172 zv_X9_look ⟨Nat.le_of_ble_eq_true rfl, Nat.le_of_ble_eq_true rfl⟩ rfl (by decide) rfl rfl rfl rfl rfl (Nat.le_of_ble_eq_true rfl) (t_X9_look hk_g hu9) rfl rfl rfl ?_
        refine Go.blk zk_X1_buildTallies [0, 0] (z' := (77, [some (.ref k_p), some (.int v1), some (.int v2), some (.int v3)], [.int v2, .ref k_p], ([sCa k_p k_a g_p k_images s_p f_p x_p k_fixedStart k_fixedBuilt k_free k_freeStart k_freeBuilt k_sidesTally k_symmetriesTally k_holesTally k_tallied, sLa r g_p g_k, sAj x_p x_v, sCe f_p f_a u8.1 u8.2, sSu s_p s_a u9.1 u9.2.1 u9.2.2.1 u9.2.2.2.1 u9.2.2.2.2.1 u9.2.2.2.2.2.1 u9.2.2.2.2.2.2.1 u9.2.2.2.2.2.2.2.1 u9.2.2.2.2.2.2.2.2] : List ZW).flatten)) rfl trivial ?_
        obtain ⟨u10, hu10, h⟩ := z_bind h
        refine Go.vs zk_X1_buildTallies zm_X1_tallyFigure [0, 4] [1, 2, 3] 0 1 5 (S := [sCa k_p k_a g_p k_images s_p f_p x_p k_fixedStart k_fixedBuilt k_free k_freeStart k_freeBuilt k_sidesTally k_symmetriesTally k_holesTally k_tallied, sLa r g_p g_k, sAj x_p x_v, sCe f_p f_a u8.1 u8.2, sSu s_p s_a u9.1 u9.2.1 u9.2.2.1 u9.2.2.2.1 u9.2.2.2.2.1 u9.2.2.2.2.2.1 u9.2.2.2.2.2.2.1 u9.2.2.2.2.2.2.2.1 u9.2.2.2.2.2.2.2.2]) (S2 := [sCa k_p k_a g_p k_images s_p f_p x_p k_fixedStart k_fixedBuilt k_free k_freeStart k_freeBuilt u10.1 k_symmetriesTally u10.2 k_tallied, sLa r g_p g_k, sAj x_p x_v, sCe f_p f_a u8.1 u8.2, sSu s_p s_a u9.1 u9.2.1 u9.2.2.1 u9.2.2.2.1 u9.2.2.2.2.1 u9.2.2.2.2.2.1 u9.2.2.2.2.2.2.1 u9.2.2.2.2.2.2.2.1 u9.2.2.2.2.2.2.2.2]) (As := [.int v2]) (rest := []) (st2 := []) (v1 := none) rfl zl_X1_177 zv_X1_tallyFigure ⟨Nat.le_of_ble_eq_true rfl, Nat.le_of_ble_eq_true rfl⟩ rfl (by decide) rfl rfl rfl rfl rfl (Nat.le_of_ble_eq_true rfl) (t_X1_tallyFigure hu10) rfl rfl rfl ?_
        refine Go.blk zk_X1_buildTallies [0, 0] (z' := (27, [some (.ref k_p), some (.int v1), some (.int v2), some (.int (v3 + 1))], [], ([sCa k_p k_a g_p k_images s_p f_p x_p k_fixedStart k_fixedBuilt k_free k_freeStart k_freeBuilt u10.1 k_symmetriesTally u10.2 k_tallied, sLa r g_p g_k, sAj x_p x_v, sCe f_p f_a u8.1 u8.2, sSu s_p s_a u9.1 u9.2.1 u9.2.2.1 u9.2.2.2.1 u9.2.2.2.2.1 u9.2.2.2.2.2.1 u9.2.2.2.2.2.2.1 u9.2.2.2.2.2.2.2.1 u9.2.2.2.2.2.2.2.2] : List ZW).flatten)) rfl trivial ?_
        exact ih _ _ _ _ _ _ _ _ _ _ _ _ _ _ _ h kk
      · rw [if_neg hc6] at h
        refine Go.br zk_X1_buildTallies rfl rfl (fun q => absurd q hc6) (fun _ => ?_)
        obtain rfl := Option.some.inj h
        refine Go.weak (L := [some (.ref k_p), some (.int v1), some (.int v2), some (.int v3)]) (L' := [some (.ref k_p), some (.int v1), some (.int v2), none]) (And.intro rfl (And.intro rfl (And.intro rfl (trivial)))) ?_
        exact kk
    · rw [if_neg hc5] at h
      refine Go.br zk_X1_buildTallies rfl rfl (fun q => absurd q hc5) (fun _ => ?_)
      obtain rfl := Option.some.inj h
      refine Go.weak (L := [some (.ref k_p), some (.int v1), some (.int v2), some (.int v3)]) (L' := [some (.ref k_p), some (.int v1), some (.int v2), none]) (And.intro rfl (And.intro rfl (And.intro rfl (trivial)))) ?_
      exact kk
set_option maxHeartbeats 4000000 in
set_option maxRecDepth 100000 in
theorem t_X1_buildTallies_L7 {N : Nat} {k_p : Nat} {k_a : Nat → Nat} {k_images : Nat} {k_fixedStart : List Int32} {k_fixedBuilt : Int32} {k_free : Nat} {k_freeStart : List Int32} {k_freeBuilt : Int32} {k_symmetriesTally : List Int32} {g_p : Nat} {g_k : Nat} {x_p : Nat} {x_v : List Int64} {f_p : Nat} {f_a : Nat → Nat} {s_p : Nat} {s_a : Nat → Nat} {v1 : Int32} (hk_g : g_k < 3) {Q : Option Value → ZW → Prop} : ∀ (fu : Nat) (v2 : Int32) (k_sidesTally : List Int32) (k_holesTally : List Int32) (k_tallied : Int32) (f_codes : List Int32) (f_size : Int32) (s_marks : List Int32) (s_queue : List Int32) (s_columns : Int32) (s_rows : Int32) (s_sides : Int32) (s_borderCells : Int32) (s_outerCells : Int32) (s_holes : Int32) (s_holeCells : Int32) (e : (List Int32) × (List Int32) × Int32 × (List Int32) × Int32 × (List Int32) × (List Int32) × Int32 × Int32 × Int32 × Int32 × Int32 × Int32 × Int32), f_X1_buildTallies_L7 N v1 k_fixedStart k_fixedBuilt g_k x_v fu v2 k_sidesTally k_holesTally k_tallied f_codes f_size s_marks s_queue s_columns s_rows s_sides s_borderCells s_outerCells s_holes s_holeCells = some e → (Go l D r (z_rl xs) zm_X1_buildTallies 0 0 (97, [none, none, none, none], [], ([sCa k_p k_a g_p k_images s_p f_p x_p k_fixedStart k_fixedBuilt k_free k_freeStart k_freeBuilt e.1 k_symmetriesTally e.2.1 e.2.2.1, sLa r g_p g_k, sAj x_p x_v, sCe f_p f_a e.2.2.2.1 e.2.2.2.2.1, sSu s_p s_a e.2.2.2.2.2.1 e.2.2.2.2.2.2.1 e.2.2.2.2.2.2.2.1 e.2.2.2.2.2.2.2.2.1 e.2.2.2.2.2.2.2.2.2.1 e.2.2.2.2.2.2.2.2.2.2.1 e.2.2.2.2.2.2.2.2.2.2.2.1 e.2.2.2.2.2.2.2.2.2.2.2.2.1 e.2.2.2.2.2.2.2.2.2.2.2.2.2] : List ZW).flatten) Q) → Go l D r (z_rl xs) zm_X1_buildTallies 0 0 (7, [some (.ref k_p), some (.int v1), some (.int v2), none], [], ([sCa k_p k_a g_p k_images s_p f_p x_p k_fixedStart k_fixedBuilt k_free k_freeStart k_freeBuilt k_sidesTally k_symmetriesTally k_holesTally k_tallied, sLa r g_p g_k, sAj x_p x_v, sCe f_p f_a f_codes f_size, sSu s_p s_a s_marks s_queue s_columns s_rows s_sides s_borderCells s_outerCells s_holes s_holeCells] : List ZW).flatten) Q := by
  intro fu
  induction fu with
  | zero =>
    intro v2 k_sidesTally k_holesTally k_tallied f_codes f_size s_marks s_queue s_columns s_rows s_sides s_borderCells s_outerCells s_holes s_holeCells e h
    simp only [f_X1_buildTallies_L7, reduceCtorEq] at h
  | succ fu ih =>
    intro v2 k_sidesTally k_holesTally k_tallied f_codes f_size s_marks s_queue s_columns s_rows s_sides s_borderCells s_outerCells s_holes s_holeCells e h kk
    rw [f_X1_buildTallies_L7] at h
    refine Go.blk zk_X1_buildTallies [0, 0] (z' := (9, [some (.ref k_p), some (.int v1), some (.int v2), none], [.int v1, .int v2], ([sCa k_p k_a g_p k_images s_p f_p x_p k_fixedStart k_fixedBuilt k_free k_freeStart k_freeBuilt k_sidesTally k_symmetriesTally k_holesTally k_tallied, sLa r g_p g_k, sAj x_p x_v, sCe f_p f_a f_codes f_size, sSu s_p s_a s_marks s_queue s_columns s_rows s_sides s_borderCells s_outerCells s_holes s_holeCells] : List ZW).flatten)) rfl trivial ?_
    by_cases hc1 : v1 < v2
    · rw [if_pos hc1] at h
      refine Go.br zk_X1_buildTallies rfl rfl (fun _ => ?_) (fun q => absurd hc1 q)
      obtain rfl := Option.some.inj h
      refine Go.weak (L := [some (.ref k_p), some (.int v1), some (.int v2), none]) (L' := [none, none, none, none]) (trivial) ?_
      exact kk
    · rw [if_neg hc1] at h
      refine Go.br zk_X1_buildTallies rfl rfl (fun q => absurd q hc1) (fun _ => ?_)
      refine Go.blk zk_X1_buildTallies [0, 0, 0] (z' := (17, [some (.ref k_p), some (.int v1), some (.int v2), none], [.int k_fixedBuilt, .int v2], ([sCa k_p k_a g_p k_images s_p f_p x_p k_fixedStart k_fixedBuilt k_free k_freeStart k_freeBuilt k_sidesTally k_symmetriesTally k_holesTally k_tallied, sLa r g_p g_k, sAj x_p x_v, sCe f_p f_a f_codes f_size, sSu s_p s_a s_marks s_queue s_columns s_rows s_sides s_borderCells s_outerCells s_holes s_holeCells] : List ZW).flatten)) rfl ⟨rfl, trivial⟩ ?_
      by_cases hc2 : k_fixedBuilt < v2
      · rw [if_pos hc2] at h
        refine Go.br zk_X1_buildTallies rfl rfl (fun _ => ?_) (fun q => absurd hc2 q)
        obtain rfl := Option.some.inj h
        refine Go.weak (L := [some (.ref k_p), some (.int v1), some (.int v2), none]) (L' := [none, none, none, none]) (trivial) ?_
        exact kk
      · rw [if_neg hc2] at h
        refine Go.br zk_X1_buildTallies rfl rfl (fun q => absurd q hc2) (fun _ => ?_)
        refine Go.blk zk_X1_buildTallies [0, 0, 0] (z' := (25, [some (.ref k_p), some (.int v1), some (.int v2), none], [.int v2, .ref (k_a 0)], ([sCa k_p k_a g_p k_images s_p f_p x_p k_fixedStart k_fixedBuilt k_free k_freeStart k_freeBuilt k_sidesTally k_symmetriesTally k_holesTally k_tallied, sLa r g_p g_k, sAj x_p x_v, sCe f_p f_a f_codes f_size, sSu s_p s_a s_marks s_queue s_columns s_rows s_sides s_borderCells s_outerCells s_holes s_holeCells] : List ZW).flatten)) rfl ⟨rfl, trivial⟩ ?_
        obtain ⟨x3, hx3, h⟩ := z_bind h
        refine Go.iald zk_X1_buildTallies 1 rfl rfl rfl hx3 ?_
        refine Go.blk zk_X1_buildTallies [0] (z' := (27, [some (.ref k_p), some (.int v1), some (.int v2), some (.int x3)], [], ([sCa k_p k_a g_p k_images s_p f_p x_p k_fixedStart k_fixedBuilt k_free k_freeStart k_freeBuilt k_sidesTally k_symmetriesTally k_holesTally k_tallied, sLa r g_p g_k, sAj x_p x_v, sCe f_p f_a f_codes f_size, sSu s_p s_a s_marks s_queue s_columns s_rows s_sides s_borderCells s_outerCells s_holes s_holeCells] : List ZW).flatten)) rfl trivial ?_
        obtain ⟨e11, he11, h⟩ := z_bind h
        refine t_X1_buildTallies_L27 hk_g N _ _ _ _ _ _ _ _ _ _ _ _ _ _ _ he11 ?_
        refine Go.blk zk_X1_buildTallies [0, 0] (z' := (88, [some (.ref k_p), some (.int v1), some (.int v2), none], [.int v2, .ref k_p], ([sCa k_p k_a g_p k_images s_p f_p x_p k_fixedStart k_fixedBuilt k_free k_freeStart k_freeBuilt e11.1 k_symmetriesTally e11.2.1 k_tallied, sLa r g_p g_k, sAj x_p x_v, sCe f_p f_a e11.2.2.1 e11.2.2.2.1, sSu s_p s_a e11.2.2.2.2.1 e11.2.2.2.2.2.1 e11.2.2.2.2.2.2.1 e11.2.2.2.2.2.2.2.1 e11.2.2.2.2.2.2.2.2.1 e11.2.2.2.2.2.2.2.2.2.1 e11.2.2.2.2.2.2.2.2.2.2.1 e11.2.2.2.2.2.2.2.2.2.2.2.1 e11.2.2.2.2.2.2.2.2.2.2.2.2] : List ZW).flatten)) rfl trivial ?_
        refine Go.put zk_X1_buildTallies 0 rfl rfl rfl rfl rfl (Nat.le_of_ble_eq_true rfl) ?_
        refine Go.eqz (z2 := (91, [some (.ref k_p), some (.int v1), some (.int v2), none], [], ([sCa k_p k_a g_p k_images s_p f_p x_p k_fixedStart k_fixedBuilt k_free k_freeStart k_freeBuilt e11.1 k_symmetriesTally e11.2.1 v2, sLa r g_p g_k, sAj x_p x_v, sCe f_p f_a e11.2.2.1 e11.2.2.2.1, sSu s_p s_a e11.2.2.2.2.1 e11.2.2.2.2.2.1 e11.2.2.2.2.2.2.1 e11.2.2.2.2.2.2.2.1 e11.2.2.2.2.2.2.2.2.1 e11.2.2.2.2.2.2.2.2.2.1 e11.2.2.2.2.2.2.2.2.2.2.1 e11.2.2.2.2.2.2.2.2.2.2.2.1 e11.2.2.2.2.2.2.2.2.2.2.2.2] : List ZW).flatten)) rfl ?_
        refine Go.blk zk_X1_buildTallies [0, 0] (z' := (7, [some (.ref k_p), some (.int v1), some (.int (v2 + 1)), none], [], ([sCa k_p k_a g_p k_images s_p f_p x_p k_fixedStart k_fixedBuilt k_free k_freeStart k_freeBuilt e11.1 k_symmetriesTally e11.2.1 v2, sLa r g_p g_k, sAj x_p x_v, sCe f_p f_a e11.2.2.1 e11.2.2.2.1, sSu s_p s_a e11.2.2.2.2.1 e11.2.2.2.2.2.1 e11.2.2.2.2.2.2.1 e11.2.2.2.2.2.2.2.1 e11.2.2.2.2.2.2.2.2.1 e11.2.2.2.2.2.2.2.2.2.1 e11.2.2.2.2.2.2.2.2.2.2.1 e11.2.2.2.2.2.2.2.2.2.2.2.1 e11.2.2.2.2.2.2.2.2.2.2.2.2] : List ZW).flatten)) rfl trivial ?_
        exact ih _ _ _ _ _ _ _ _ _ _ _ _ _ _ _ _ h kk
set_option maxHeartbeats 4000000 in
set_option maxRecDepth 100000 in
theorem t_X1_buildTallies {N : Nat} {k_p : Nat} {k_a : Nat → Nat} {k_images : Nat} {k_fixedStart : List Int32} {k_fixedBuilt : Int32} {k_free : Nat} {k_freeStart : List Int32} {k_freeBuilt : Int32} {k_sidesTally : List Int32} {k_symmetriesTally : List Int32} {k_holesTally : List Int32} {k_tallied : Int32} {g_p : Nat} {g_k : Nat} {x_p : Nat} {x_v : List Int64} {f_p : Nat} {f_a : Nat → Nat} {f_codes : List Int32} {f_size : Int32} {s_p : Nat} {s_a : Nat → Nat} {s_marks : List Int32} {s_queue : List Int32} {s_columns : Int32} {s_rows : Int32} {s_sides : Int32} {s_borderCells : Int32} {s_outerCells : Int32} {s_holes : Int32} {s_holeCells : Int32} {i1 : Int32} {u : (List Int32) × (List Int32) × Int32 × (List Int32) × Int32 × (List Int32) × (List Int32) × Int32 × Int32 × Int32 × Int32 × Int32 × Int32 × Int32} (hk_g : g_k < 3) (h : f_X1_buildTallies N i1 k_fixedStart k_fixedBuilt k_sidesTally k_holesTally k_tallied g_k x_v f_codes f_size s_marks s_queue s_columns s_rows s_sides s_borderCells s_outerCells s_holes s_holeCells = some u) : Ct l D r (z_rl xs) zm_X1_buildTallies 0 0 [.ref k_p, .int i1] ([sCa k_p k_a g_p k_images s_p f_p x_p k_fixedStart k_fixedBuilt k_free k_freeStart k_freeBuilt k_sidesTally k_symmetriesTally k_holesTally k_tallied, sLa r g_p g_k, sAj x_p x_v, sCe f_p f_a f_codes f_size, sSu s_p s_a s_marks s_queue s_columns s_rows s_sides s_borderCells s_outerCells s_holes s_holeCells] : List ZW).flatten (fun v' w' => v' = none ∧ w' = ([sCa k_p k_a g_p k_images s_p f_p x_p k_fixedStart k_fixedBuilt k_free k_freeStart k_freeBuilt u.1 k_symmetriesTally u.2.1 u.2.2.1, sLa r g_p g_k, sAj x_p x_v, sCe f_p f_a u.2.2.2.1 u.2.2.2.2.1, sSu s_p s_a u.2.2.2.2.2.1 u.2.2.2.2.2.2.1 u.2.2.2.2.2.2.2.1 u.2.2.2.2.2.2.2.2.1 u.2.2.2.2.2.2.2.2.2.1 u.2.2.2.2.2.2.2.2.2.2.1 u.2.2.2.2.2.2.2.2.2.2.2.1 u.2.2.2.2.2.2.2.2.2.2.2.2.1 u.2.2.2.2.2.2.2.2.2.2.2.2.2] : List ZW).flatten) := by
  refine Ct.of (by decide +kernel) rfl (fun q => absurd q (by decide)) (Nat.le_of_ble_eq_true rfl) ?_
  refine Go.eqz (z2 := (0, [some (.ref k_p), some (.int i1), none, none], [], ([sCa k_p k_a g_p k_images s_p f_p x_p k_fixedStart k_fixedBuilt k_free k_freeStart k_freeBuilt k_sidesTally k_symmetriesTally k_holesTally k_tallied, sLa r g_p g_k, sAj x_p x_v, sCe f_p f_a f_codes f_size, sSu s_p s_a s_marks s_queue s_columns s_rows s_sides s_borderCells s_outerCells s_holes s_holeCells] : List ZW).flatten)) rfl ?_
  unfold f_X1_buildTallies at h
  refine Go.blk zk_X1_buildTallies [0, 0, 0, 0, 0] (z' := (7, [some (.ref k_p), some (.int i1), some (.int (k_tallied + 1)), none], [], ([sCa k_p k_a g_p k_images s_p f_p x_p k_fixedStart k_fixedBuilt k_free k_freeStart k_freeBuilt k_sidesTally k_symmetriesTally k_holesTally k_tallied, sLa r g_p g_k, sAj x_p x_v, sCe f_p f_a f_codes f_size, sSu s_p s_a s_marks s_queue s_columns s_rows s_sides s_borderCells s_outerCells s_holes s_holeCells] : List ZW).flatten)) rfl ⟨rfl, trivial⟩ ?_
  obtain ⟨e12, he12, h⟩ := z_bind h
  refine t_X1_buildTallies_L7 hk_g N _ _ _ _ _ _ _ _ _ _ _ _ _ _ _ _ he12 ?_
  obtain rfl := Option.some.inj h
  exact Go.vret zk_X1_buildTallies rfl rfl ⟨rfl, rfl⟩
set_option maxHeartbeats 4000000 in
set_option maxRecDepth 100000 in
theorem t_X1_appendFree {N : Nat} {k_p : Nat} {k_a : Nat → Nat} {k_surroundings : Nat} {k_fixed : Nat} {k_fixedStart : List Int32} {k_fixedBuilt : Int32} {k_freeStart : List Int32} {k_freeBuilt : Int32} {k_sidesTally : List Int32} {k_symmetriesTally : List Int32} {k_holesTally : List Int32} {k_tallied : Int32} {g_p : Nat} {g_k : Nat} {y_p : Nat} {y_v : List Int64} {f_p : Nat} {f_a : Nat → Nat} {f_codes : List Int32} {f_size : Int32} {m_p : Nat} {m_a : Nat → Nat} {m_forms : Nat → Nat} {m_number : Int32} {i_p : Nat} {i_a : Nat → Nat} {i_codes : List Int32} {i_size : Int32} {mf_a : Nat → Nat → Nat} {mf_v : Nat → List Int32 × Int32} {i1 : Int32} {j2 : Int64} {u : (List Int32) × (List Int32) × (List Int64) × Int32 × (List Int32) × Int32 × (Nat → List Int32 × Int32)} (hk_g : g_k < 3) (h : f_X1_appendFree N i1 j2 k_freeStart k_symmetriesTally g_k y_v f_codes f_size m_number i_codes i_size mf_v = some u) : Ct l D r (z_rl xs) zm_X1_appendFree 0 0 [.ref k_p, .int i1, .long j2] ([sCa k_p k_a g_p m_p k_surroundings f_p k_fixed k_fixedStart k_fixedBuilt y_p k_freeStart k_freeBuilt k_sidesTally k_symmetriesTally k_holesTally k_tallied, sLa r g_p g_k, sAj y_p y_v, sCe f_p f_a f_codes f_size, sIm m_p m_a m_forms i_p m_number, sCe i_p i_a i_codes i_size, sFo (List.range 12) m_forms mf_a mf_v] : List ZW).flatten (fun v' w' => v' = none ∧ w' = ([sCa k_p k_a g_p m_p k_surroundings f_p k_fixed k_fixedStart k_fixedBuilt y_p u.1 k_freeBuilt k_sidesTally u.2.1 k_holesTally k_tallied, sLa r g_p g_k, sAj y_p u.2.2.1, sCe f_p f_a f_codes f_size, sIm m_p m_a m_forms i_p u.2.2.2.1, sCe i_p i_a u.2.2.2.2.1 u.2.2.2.2.2.1, sFo (List.range 12) m_forms mf_a u.2.2.2.2.2.2] : List ZW).flatten) := by
  refine Ct.of (by decide +kernel) rfl (fun q => absurd q (by decide)) (Nat.le_of_ble_eq_true rfl) ?_
  refine Go.eqz (z2 := (0, [some (.ref k_p), some (.int i1), some (.long j2), none, none, none], [], ([sCa k_p k_a g_p m_p k_surroundings f_p k_fixed k_fixedStart k_fixedBuilt y_p k_freeStart k_freeBuilt k_sidesTally k_symmetriesTally k_holesTally k_tallied, sLa r g_p g_k, sAj y_p y_v, sCe f_p f_a f_codes f_size, sIm m_p m_a m_forms i_p m_number, sCe i_p i_a i_codes i_size, sFo (List.range 12) m_forms mf_a mf_v] : List ZW).flatten)) rfl ?_
  unfold f_X1_appendFree at h
  refine Go.blk zk_X1_appendFree [0, 0, 0, 0, 0] (z' := (7, [some (.ref k_p), some (.int i1), some (.long j2), none, none, none], [.int (i1 + 1), .ref (k_a 1)], ([sCa k_p k_a g_p m_p k_surroundings f_p k_fixed k_fixedStart k_fixedBuilt y_p k_freeStart k_freeBuilt k_sidesTally k_symmetriesTally k_holesTally k_tallied, sLa r g_p g_k, sAj y_p y_v, sCe f_p f_a f_codes f_size, sIm m_p m_a m_forms i_p m_number, sCe i_p i_a i_codes i_size, sFo (List.range 12) m_forms mf_a mf_v] : List ZW).flatten)) rfl ⟨rfl, trivial⟩ ?_
  obtain ⟨x1, hx1, h⟩ := z_bind h
  refine Go.iald zk_X1_appendFree 2 rfl rfl rfl hx1 ?_
  refine Go.blk zk_X1_appendFree [0, 0, 0] (z' := (15, [some (.ref k_p), some (.int i1), some (.long j2), none, some (.int x1), none], [.int 180, .int x1], ([sCa k_p k_a g_p m_p k_surroundings f_p k_fixed k_fixedStart k_fixedBuilt y_p k_freeStart k_freeBuilt k_sidesTally k_symmetriesTally k_holesTally k_tallied, sLa r g_p g_k, sAj y_p y_v, sCe f_p f_a f_codes f_size, sIm m_p m_a m_forms i_p m_number, sCe i_p i_a i_codes i_size, sFo (List.range 12) m_forms mf_a mf_v] : List ZW).flatten)) rfl trivial ?_
  by_cases hc2 : x1 < 180
  · rw [if_pos hc2] at h
    refine Go.br zk_X1_appendFree rfl rfl (fun _ => ?_) (fun q => absurd hc2 q)
    refine Go.blk zk_X1_appendFree [0, 0, 0, 0] (z' := (26, [some (.ref k_p), some (.int i1), some (.long j2), none, some (.int x1), none], [.long j2, .int x1, .ref y_p], ([sCa k_p k_a g_p m_p k_surroundings f_p k_fixed k_fixedStart k_fixedBuilt y_p k_freeStart k_freeBuilt k_sidesTally k_symmetriesTally k_holesTally k_tallied, sLa r g_p g_k, sAj y_p y_v, sCe f_p f_a f_codes f_size, sIm m_p m_a m_forms i_p m_number, sCe i_p i_a i_codes i_size, sFo (List.range 12) m_forms mf_a mf_v] : List ZW).flatten)) rfl ⟨rfl, trivial⟩ ?_
    obtain ⟨t3, ht3, h⟩ := z_bind h
    refine Go.last zk_X1_appendFree 7 rfl rfl rfl ht3 ?_
    refine Go.eqz (z2 := (27, [some (.ref k_p), some (.int i1), some (.long j2), none, some (.int x1), none], [], ([sCa k_p k_a g_p m_p k_surroundings f_p k_fixed k_fixedStart k_fixedBuilt y_p k_freeStart k_freeBuilt k_sidesTally k_symmetriesTally k_holesTally k_tallied, sLa r g_p g_k, sAj y_p t3, sCe f_p f_a f_codes f_size, sIm m_p m_a m_forms i_p m_number, sCe i_p i_a i_codes i_size, sFo (List.range 12) m_forms mf_a mf_v] : List ZW).flatten)) rfl ?_
    refine Go.blk zk_X1_appendFree [0, 0, 0, 0, 0, 0, 0, 0] (z' := (38, [some (.ref k_p), some (.int i1), some (.long j2), none, some (.int x1), none], [.int (x1 + 1), .int (i1 + 1), .ref (k_a 1)], ([sCa k_p k_a g_p m_p k_surroundings f_p k_fixed k_fixedStart k_fixedBuilt y_p k_freeStart k_freeBuilt k_sidesTally k_symmetriesTally k_holesTally k_tallied, sLa r g_p g_k, sAj y_p t3, sCe f_p f_a f_codes f_size, sIm m_p m_a m_forms i_p m_number, sCe i_p i_a i_codes i_size, sFo (List.range 12) m_forms mf_a mf_v] : List ZW).flatten)) rfl ⟨rfl, trivial⟩ ?_
    obtain ⟨t4, ht4, h⟩ := z_bind h
    refine Go.iast zk_X1_appendFree 2 rfl rfl rfl ht4 ?_
    refine Go.eqz (z2 := (39, [some (.ref k_p), some (.int i1), some (.long j2), none, some (.int x1), none], [], ([sCa k_p k_a g_p m_p k_surroundings f_p k_fixed k_fixedStart k_fixedBuilt y_p t4 k_freeBuilt k_sidesTally k_symmetriesTally k_holesTally k_tallied, sLa r g_p g_k, sAj y_p t3, sCe f_p f_a f_codes f_size, sIm m_p m_a m_forms i_p m_number, sCe i_p i_a i_codes i_size, sFo (List.range 12) m_forms mf_a mf_v] : List ZW).flatten)) rfl ?_
    refine Go.blk zk_X1_appendFree [0, 0, 0, 0, 0, 0] (z' := (51, [some (.ref k_p), some (.int i1), some (.long j2), none, some (.int x1), none], [.ref g_p, .ref f_p, .ref m_p], ([sCa k_p k_a g_p m_p k_surroundings f_p k_fixed k_fixedStart k_fixedBuilt y_p t4 k_freeBuilt k_sidesTally k_symmetriesTally k_holesTally k_tallied, sLa r g_p g_k, sAj y_p t3, sCe f_p f_a f_codes f_size, sIm m_p m_a m_forms i_p m_number, sCe i_p i_a i_codes i_size, sFo (List.range 12) m_forms mf_a mf_v] : List ZW).flatten)) rfl ⟨rfl, rfl, rfl, trivial⟩ ?_
    obtain ⟨u5, hu5, h⟩ := z_bind h
    refine Go.vs zk_X1_appendFree zm_X4_survey [4, 3, 1, 5, 6] [0, 2] 0 4 7 (S := [sCa k_p k_a g_p m_p k_surroundings f_p k_fixed k_fixedStart k_fixedBuilt y_p t4 k_freeBuilt k_sidesTally k_symmetriesTally k_holesTally k_tallied, sLa r g_p g_k, sAj y_p t3, sCe f_p f_a f_codes f_size, sIm m_p m_a m_forms i_p m_number, sCe i_p i_a i_codes i_size, sFo (List.range 12) m_forms mf_a mf_v]) (S2 := [sCa k_p k_a g_p m_p k_surroundings f_p k_fixed k_fixedStart k_fixedBuilt y_p t4 k_freeBuilt k_sidesTally k_symmetriesTally k_holesTally k_tallied, sLa r g_p g_k, sAj y_p t3, sCe f_p f_a f_codes f_size, sIm m_p m_a m_forms i_p u5.1, sCe i_p i_a u5.2.1 u5.2.2.1, sFo (List.range 12) m_forms mf_a u5.2.2.2]) (As := [.ref f_p, .ref g_p]) (rest := []) (st2 := []) (v1 := none) rfl zl_X1_161 zv_X4_survey ⟨Nat.le_of_ble_eq_true rfl, Nat.le_of_ble_eq_true rfl⟩ rfl (by decide) rfl rfl rfl rfl rfl (Nat.le_of_ble_eq_true rfl) (t_X4_survey hk_g hu5) rfl rfl rfl ?_
    refine Go.blk zk_X1_appendFree [0, 0, 0, 0, 0] (z' := (62, [some (.ref k_p), some (.int i1), some (.long j2), none, some (.int x1), none], [.ref m_p, .int (i1 * 13)], ([sCa k_p k_a g_p m_p k_surroundings f_p k_fixed k_fixedStart k_fixedBuilt y_p t4 k_freeBuilt k_sidesTally k_symmetriesTally k_holesTally k_tallied, sLa r g_p g_k, sAj y_p t3, sCe f_p f_a f_codes f_size, sIm m_p m_a m_forms i_p u5.1, sCe i_p i_a u5.2.1 u5.2.2.1, sFo (List.range 12) m_forms mf_a u5.2.2.2] : List ZW).flatten)) rfl ⟨rfl, trivial⟩ ?_
    obtain ⟨u6, hu6, h⟩ := z_bind h
    refine Go.vs zk_X1_appendFree zm_X4_symmetries [4, 6] [0, 1, 2, 3, 5] 0 4 7 (S := [sCa k_p k_a g_p m_p k_surroundings f_p k_fixed k_fixedStart k_fixedBuilt y_p t4 k_freeBuilt k_sidesTally k_symmetriesTally k_holesTally k_tallied, sLa r g_p g_k, sAj y_p t3, sCe f_p f_a f_codes f_size, sIm m_p m_a m_forms i_p u5.1, sCe i_p i_a u5.2.1 u5.2.2.1, sFo (List.range 12) m_forms mf_a u5.2.2.2]) (S2 := [sCa k_p k_a g_p m_p k_surroundings f_p k_fixed k_fixedStart k_fixedBuilt y_p t4 k_freeBuilt k_sidesTally k_symmetriesTally k_holesTally k_tallied, sLa r g_p g_k, sAj y_p t3, sCe f_p f_a f_codes f_size, sIm m_p m_a m_forms i_p u5.1, sCe i_p i_a u5.2.1 u5.2.2.1, sFo (List.range 12) m_forms mf_a u5.2.2.2]) (As := []) (rest := [.int (i1 * 13)]) (st2 := [.int u6, .int (i1 * 13)]) (v1 := some (.int u6)) rfl zl_X1_165 zv_X4_symmetries ⟨Nat.le_of_ble_eq_true rfl, Nat.le_of_ble_eq_true rfl⟩ rfl (by decide) rfl rfl rfl rfl rfl (Nat.le_of_ble_eq_true rfl) (t_X4_symmetries hu6) rfl rfl rfl ?_
    refine Go.blk zk_X1_appendFree [0, 0, 0, 0, 0, 4] (z' := (75, [some (.ref k_p), some (.int i1), some (.long j2), none, some (.int x1), some (.int ((i1 * 13) + u6))], [.int (Int32.ofNat (List.length k_symmetriesTally)), .int ((i1 * 13) + u6)], ([sCa k_p k_a g_p m_p k_surroundings f_p k_fixed k_fixedStart k_fixedBuilt y_p t4 k_freeBuilt k_sidesTally k_symmetriesTally k_holesTally k_tallied, sLa r g_p g_k, sAj y_p t3, sCe f_p f_a f_codes f_size, sIm m_p m_a m_forms i_p u5.1, sCe i_p i_a u5.2.1 u5.2.2.1, sFo (List.range 12) m_forms mf_a u5.2.2.2] : List ZW).flatten)) rfl ⟨rfl, rfl, trivial⟩ ?_
    by_cases hc7 : ((i1 * 13) + u6) < (Int32.ofNat (List.length k_symmetriesTally))
    · rw [if_pos hc7] at h
      refine Go.br zk_X1_appendFree rfl rfl (fun _ => ?_) (fun q => absurd hc7 q)
      refine Go.blk zk_X1_appendFree [0, 0, 0, 0] (z' := (85, [some (.ref k_p), some (.int i1), some (.long j2), none, some (.int x1), some (.int ((i1 * 13) + u6))], [.int ((i1 * 13) + u6), .ref (k_a 3), .int ((i1 * 13) + u6), .ref (k_a 3)], ([sCa k_p k_a g_p m_p k_surroundings f_p k_fixed k_fixedStart k_fixedBuilt y_p t4 k_freeBuilt k_sidesTally k_symmetriesTally k_holesTally k_tallied, sLa r g_p g_k, sAj y_p t3, sCe f_p f_a f_codes f_size, sIm m_p m_a m_forms i_p u5.1, sCe i_p i_a u5.2.1 u5.2.2.1, sFo (List.range 12) m_forms mf_a u5.2.2.2] : List ZW).flatten)) rfl ⟨rfl, trivial⟩ ?_
      obtain ⟨x8, hx8, h⟩ := z_bind h
      refine Go.iald zk_X1_appendFree 4 rfl rfl rfl hx8 ?_
      refine Go.blk zk_X1_appendFree [0, 0] (z' := (88, [some (.ref k_p), some (.int i1), some (.long j2), none, some (.int x1), some (.int ((i1 * 13) + u6))], [.int (x8 + 1), .int ((i1 * 13) + u6), .ref (k_a 3)], ([sCa k_p k_a g_p m_p k_surroundings f_p k_fixed k_fixedStart k_fixedBuilt y_p t4 k_freeBuilt k_sidesTally k_symmetriesTally k_holesTally k_tallied, sLa r g_p g_k, sAj y_p t3, sCe f_p f_a f_codes f_size, sIm m_p m_a m_forms i_p u5.1, sCe i_p i_a u5.2.1 u5.2.2.1, sFo (List.range 12) m_forms mf_a u5.2.2.2] : List ZW).flatten)) rfl trivial ?_
      obtain ⟨t9, ht9, h⟩ := z_bind h
      refine Go.iast zk_X1_appendFree 4 rfl rfl rfl ht9 ?_
      refine Go.eqz (z2 := (89, [some (.ref k_p), some (.int i1), some (.long j2), none, some (.int x1), some (.int ((i1 * 13) + u6))], [], ([sCa k_p k_a g_p m_p k_surroundings f_p k_fixed k_fixedStart k_fixedBuilt y_p t4 k_freeBuilt k_sidesTally t9 k_holesTally k_tallied, sLa r g_p g_k, sAj y_p t3, sCe f_p f_a f_codes f_size, sIm m_p m_a m_forms i_p u5.1, sCe i_p i_a u5.2.1 u5.2.2.1, sFo (List.range 12) m_forms mf_a u5.2.2.2] : List ZW).flatten)) rfl ?_
      obtain rfl := Option.some.inj h
      exact Go.vret zk_X1_appendFree rfl rfl ⟨rfl, rfl⟩
    · rw [if_neg hc7] at h
      refine Go.br zk_X1_appendFree rfl rfl (fun q => absurd q hc7) (fun _ => ?_)
      obtain rfl := Option.some.inj h
      exact Go.vret zk_X1_appendFree rfl rfl ⟨rfl, rfl⟩
  · rw [if_neg hc2] at h
    refine Go.br zk_X1_appendFree rfl rfl (fun q => absurd q hc2) (fun _ => ?_)
    obtain rfl := Option.some.inj h
    exact Go.vret zk_X1_appendFree rfl rfl ⟨rfl, rfl⟩
set_option maxHeartbeats 4000000 in
set_option maxRecDepth 100000 in
theorem t_X1_buildFree_L41 {N : Nat} {k_p : Nat} {k_a : Nat → Nat} {k_surroundings : Nat} {k_fixedStart : List Int32} {k_fixedBuilt : Int32} {k_freeBuilt : Int32} {k_sidesTally : List Int32} {k_holesTally : List Int32} {k_tallied : Int32} {g_p : Nat} {g_k : Nat} {x_p : Nat} {x_v : List Int64} {y_p : Nat} {f_p : Nat} {f_a : Nat → Nat} {m_p : Nat} {m_a : Nat → Nat} {m_forms : Nat → Nat} {i_p : Nat} {i_a : Nat → Nat} {mf_a : Nat → Nat → Nat} {v1 : Int32} {v2 : Int32} (hk_g : g_k < 3) {Q : Option Value → ZW → Prop} : ∀ (fu : Nat) (v3 : Int32) (k_freeStart : List Int32) (k_symmetriesTally : List Int32) (y_v : List Int64) (f_codes : List Int32) (f_size : Int32) (m_number : Int32) (i_codes : List Int32) (i_size : Int32) (mf_v : Nat → List Int32 × Int32) (e : (List Int32) × (List Int32) × (List Int64) × (List Int32) × Int32 × Int32 × (List Int32) × Int32 × (Nat → List Int32 × Int32)), f_X1_buildFree_L41 N v2 k_fixedStart g_k x_v fu v3 k_freeStart k_symmetriesTally y_v f_codes f_size m_number i_codes i_size mf_v = some e → (Go l D r (z_rl xs) zm_X1_buildFree 0 0 (109, [some (.ref k_p), some (.int v1), some (.int v2), none], [], ([sCa k_p k_a g_p m_p k_surroundings f_p x_p k_fixedStart k_fixedBuilt y_p e.1 k_freeBuilt k_sidesTally e.2.1 k_holesTally k_tallied, sLa r g_p g_k, sAj x_p x_v, sAj y_p e.2.2.1, sCe f_p f_a e.2.2.2.1 e.2.2.2.2.1, sIm m_p m_a m_forms i_p e.2.2.2.2.2.1, sCe i_p i_a e.2.2.2.2.2.2.1 e.2.2.2.2.2.2.2.1, sFo (List.range 12) m_forms mf_a e.2.2.2.2.2.2.2.2] : List ZW).flatten) Q) → Go l D r (z_rl xs) zm_X1_buildFree 0 0 (41, [some (.ref k_p), some (.int v1), some (.int v2), some (.int v3)], [], ([sCa k_p k_a g_p m_p k_surroundings f_p x_p k_fixedStart k_fixedBuilt y_p k_freeStart k_freeBuilt k_sidesTally k_symmetriesTally k_holesTally k_tallied, sLa r g_p g_k, sAj x_p x_v, sAj y_p y_v, sCe f_p f_a f_codes f_size, sIm m_p m_a m_forms i_p m_number, sCe i_p i_a i_codes i_size, sFo (List.range 12) m_forms mf_a mf_v] : List ZW).flatten) Q := by
  intro fu
  induction fu with
  | zero =>
    intro v3 k_freeStart k_symmetriesTally y_v f_codes f_size m_number i_codes i_size mf_v e h
    simp only [f_X1_buildFree_L41, reduceCtorEq] at h
  | succ fu ih =>
    intro v3 k_freeStart k_symmetriesTally y_v f_codes f_size m_number i_codes i_size mf_v e h kk
    rw [f_X1_buildFree_L41] at h
    refine Go.blk zk_X1_buildFree [0, 0, 0, 0, 0, 0] (z' := (49, [some (.ref k_p), some (.int v1), some (.int v2), some (.int v3)], [.int (v2 + 1), .ref (k_a 0), .int v3], ([sCa k_p k_a g_p m_p k_surroundings f_p x_p k_fixedStart k_fixedBuilt y_p k_freeStart k_freeBuilt k_sidesTally k_symmetriesTally k_holesTally k_tallied, sLa r g_p g_k, sAj x_p x_v, sAj y_p y_v, sCe f_p f_a f_codes f_size, sIm m_p m_a m_forms i_p m_number, sCe i_p i_a i_codes i_size, sFo (List.range 12) m_forms mf_a mf_v] : List ZW).flatten)) rfl ⟨rfl, trivial⟩ ?_
    obtain ⟨x6, hx6, h⟩ := z_bind h
    refine Go.iald zk_X1_buildFree 1 rfl rfl rfl hx6 ?_
    by_cases hc7 : v3 < x6
    · rw [if_pos hc7] at h
      refine Go.br zk_X1_buildFree rfl rfl (fun _ => ?_) (fun q => absurd hc7 q)
      refine Go.blk zk_X1_buildFree [0, 0] (z' := (57, [some (.ref k_p), some (.int v1), some (.int v2), some (.int v3)], [.int 1100, .int v3], ([sCa k_p k_a g_p m_p k_surroundings f_p x_p k_fixedStart k_fixedBuilt y_p k_freeStart k_freeBuilt k_sidesTally k_symmetriesTally k_holesTally k_tallied, sLa r g_p g_k, sAj x_p x_v, sAj y_p y_v, sCe f_p f_a f_codes f_size, sIm m_p m_a m_forms i_p m_number, sCe i_p i_a i_codes i_size, sFo (List.range 12) m_forms mf_a mf_v] : List ZW).flatten)) rfl trivial ?_
      by_cases hc8 : v3 < 1100
      · rw [if_pos hc8] at h
        refine Go.br zk_X1_buildFree rfl rfl (fun _ => ?_) (fun q => absurd hc8 q)
        refine Go.blk zk_X1_buildFree [0, 0, 0, 0, 0] (z' := (69, [some (.ref k_p), some (.int v1), some (.int v2), some (.int v3)], [.int v3, .ref x_p, .ref f_p], ([sCa k_p k_a g_p m_p k_surroundings f_p x_p k_fixedStart k_fixedBuilt y_p k_freeStart k_freeBuilt k_sidesTally k_symmetriesTally k_holesTally k_tallied, sLa r g_p g_k, sAj x_p x_v, sAj y_p y_v, sCe f_p f_a f_codes f_size, sIm m_p m_a m_forms i_p m_number, sCe i_p i_a i_codes i_size, sFo (List.range 12) m_forms mf_a mf_v] : List ZW).flatten)) rfl ⟨rfl, rfl, trivial⟩ ?_
        obtain ⟨x9, hx9, h⟩ := z_bind h
        refine Go.lald zk_X1_buildFree 7 rfl rfl rfl hx9 ?_
        refine Go.blk zk_X1_buildFree [0] (z' := (71, [some (.ref k_p), some (.int v1), some (.int v2), some (.int v3)], [.int v2, .long x9, .ref f_p], ([sCa k_p k_a g_p m_p k_surroundings f_p x_p k_fixedStart k_fixedBuilt y_p k_freeStart k_freeBuilt k_sidesTally k_symmetriesTally k_holesTally k_tallied, sLa r g_p g_k, sAj x_p x_v, sAj y_p y_v, sCe f_p f_a f_codes f_size, sIm m_p m_a m_forms i_p m_number, sCe i_p i_a i_codes i_size, sFo (List.range 12) m_forms mf_a mf_v] : List ZW).flatten)) rfl trivial ?_
        obtain ⟨u10, hu10, h⟩ := z_bind h
        refine Go.vs zk_X1_buildFree zm_X2_unpack [4] [0, 1, 2, 3, 5, 6, 7] 0 2 8 (S := [sCa k_p k_a g_p m_p k_surroundings f_p x_p k_fixedStart k_fixedBuilt y_p k_freeStart k_freeBuilt k_sidesTally k_symmetriesTally k_holesTally k_tallied, sLa r g_p g_k, sAj x_p x_v, sAj y_p y_v, sCe f_p f_a f_codes f_size, sIm m_p m_a m_forms i_p m_number, sCe i_p i_a i_codes i_size, sFo (List.range 12) m_forms mf_a mf_v]) (S2 := [sCa k_p k_a g_p m_p k_surroundings f_p x_p k_fixedStart k_fixedBuilt y_p k_freeStart k_freeBuilt k_sidesTally k_symmetriesTally k_holesTally k_tallied, sLa r g_p g_k, sAj x_p x_v, sAj y_p y_v, sCe f_p f_a u10.1 u10.2, sIm m_p m_a m_forms i_p m_number, sCe i_p i_a i_codes i_size, sFo (List.range 12) m_forms mf_a mf_v]) (As := [.long x9, .int v2]) (rest := []) (st2 := []) (v1 := none) rfl zl_X1_104 zv_X2_unpack ⟨Nat.le_of_ble_eq_true rfl, Nat.le_of_ble_eq_true rfl⟩ rfl (by decide) rfl rfl rfl rfl rfl (Nat.le_of_ble_eq_true rfl) (t_X2_unpack hu10) rfl rfl rfl ?_
        refine Go.blk zk_X1_buildFree [0, 0, 0, 0, 0, 0] (z' := (86, [some (.ref k_p), some (.int v1), some (.int v2), some (.int v3)], [.ref g_p, .ref f_p, .ref m_p], ([sCa k_p k_a g_p m_p k_surroundings f_p x_p k_fixedStart k_fixedBuilt y_p k_freeStart k_freeBuilt k_sidesTally k_symmetriesTally k_holesTally k_tallied, sLa r g_p g_k, sAj x_p x_v, sAj y_p y_v, sCe f_p f_a u10.1 u10.2, sIm m_p m_a m_forms i_p m_number, sCe i_p i_a i_codes i_size, sFo (List.range 12) m_forms mf_a mf_v] : List ZW).flatten)) rfl ⟨rfl, rfl, rfl, trivial⟩ ?_
        obtain ⟨u11, hu11, h⟩ := z_bind h
        refine Go.vs zk_X1_buildFree zm_X4_isCanonical [5, 4, 1, 6] [0, 2, 3, 7] 0 4 8 (S := [sCa k_p k_a g_p m_p k_surroundings f_p x_p k_fixedStart k_fixedBuilt y_p k_freeStart k_freeBuilt k_sidesTally k_symmetriesTally k_holesTally k_tallied, sLa r g_p g_k, sAj x_p x_v, sAj y_p y_v, sCe f_p f_a u10.1 u10.2, sIm m_p m_a m_forms i_p m_number, sCe i_p i_a i_codes i_size, sFo (List.range 12) m_forms mf_a mf_v]) (S2 := [sCa k_p k_a g_p m_p k_surroundings f_p x_p k_fixedStart k_fixedBuilt y_p k_freeStart k_freeBuilt k_sidesTally k_symmetriesTally k_holesTally k_tallied, sLa r g_p g_k, sAj x_p x_v, sAj y_p y_v, sCe f_p f_a u10.1 u10.2, sIm m_p m_a m_forms i_p m_number, sCe i_p i_a u11.2.1 u11.2.2, sFo (List.range 12) m_forms mf_a mf_v]) (As := [.ref f_p, .ref g_p]) (rest := []) (st2 := [.int u11.1]) (v1 := some (.int u11.1)) rfl zl_X1_152 zv_X4_isCanonical ⟨Nat.le_of_ble_eq_true rfl, Nat.le_of_ble_eq_true rfl⟩ rfl (by decide) rfl rfl rfl rfl rfl (Nat.le_of_ble_eq_true rfl) (t_X4_isCanonical hk_g hu11) rfl rfl rfl ?_
        by_cases hc12 : u11.1 = 0
        · rw [if_pos hc12] at h
          refine Go.br zk_X1_buildFree rfl rfl (fun _ => ?_) (fun q => absurd hc12 q)
          refine Go.blk zk_X1_buildFree [0, 0] (z' := (41, [some (.ref k_p), some (.int v1), some (.int v2), some (.int (v3 + 1))], [], ([sCa k_p k_a g_p m_p k_surroundings f_p x_p k_fixedStart k_fixedBuilt y_p k_freeStart k_freeBuilt k_sidesTally k_symmetriesTally k_holesTally k_tallied, sLa r g_p g_k, sAj x_p x_v, sAj y_p y_v, sCe f_p f_a u10.1 u10.2, sIm m_p m_a m_forms i_p m_number, sCe i_p i_a u11.2.1 u11.2.2, sFo (List.range 12) m_forms mf_a mf_v] : List ZW).flatten)) rfl trivial ?_
          exact ih _ _ _ _ _ _ _ _ _ _ _ h kk
        · rw [if_neg hc12] at h
          refine Go.br zk_X1_buildFree rfl rfl (fun q => absurd q hc12) (fun _ => ?_)
          refine Go.blk zk_X1_buildFree [0, 0, 0, 0, 0] (z' := (99, [some (.ref k_p), some (.int v1), some (.int v2), some (.int v3)], [.int v3, .ref x_p, .int v2, .ref k_p], ([sCa k_p k_a g_p m_p k_surroundings f_p x_p k_fixedStart k_fixedBuilt y_p k_freeStart k_freeBuilt k_sidesTally k_symmetriesTally k_holesTally k_tallied, sLa r g_p g_k, sAj x_p x_v, sAj y_p y_v, sCe f_p f_a u10.1 u10.2, sIm m_p m_a m_forms i_p m_number, sCe i_p i_a u11.2.1 u11.2.2, sFo (List.range 12) m_forms mf_a mf_v] : List ZW).flatten)) rfl ⟨rfl, trivial⟩ ?_
          obtain ⟨x13, hx13, h⟩ := z_bind h
          refine Go.lald zk_X1_buildFree 7 rfl rfl rfl hx13 ?_
          obtain ⟨u14, hu14, h⟩ := z_bind h
          refine Go.vs zk_X1_buildFree zm_X1_appendFree [0, 1, 3, 4, 5, 6, 7] [2] 0 1 8 (S := [sCa k_p k_a g_p m_p k_surroundings f_p x_p k_fixedStart k_fixedBuilt y_p k_freeStart k_freeBuilt k_sidesTally k_symmetriesTally k_holesTally k_tallied, sLa r g_p g_k, sAj x_p x_v, sAj y_p y_v, sCe f_p f_a u10.1 u10.2, sIm m_p m_a m_forms i_p m_number, sCe i_p i_a u11.2.1 u11.2.2, sFo (List.range 12) m_forms mf_a mf_v]) (S2 := [sCa k_p k_a g_p m_p k_surroundings f_p x_p k_fixedStart k_fixedBuilt y_p u14.1 k_freeBuilt k_sidesTally u14.2.1 k_holesTally k_tallied, sLa r g_p g_k, sAj x_p x_v, sAj y_p u14.2.2.1, sCe f_p f_a u10.1 u10.2, sIm m_p m_a m_forms i_p u14.2.2.2.1, sCe i_p i_a u14.2.2.2.2.1 u14.2.2.2.2.2.1, sFo (List.range 12) m_forms mf_a u14.2.2.2.2.2.2]) (As := [.int v2, .long x13]) (rest := []) (st2 := []) (v1 := none) rfl zl_X1_158 zv_X1_appendFree ⟨Nat.le_of_ble_eq_true rfl, Nat.le_of_ble_eq_true rfl⟩ rfl (by decide) rfl rfl rfl rfl rfl (Nat.le_of_ble_eq_true rfl) (t_X1_appendFree hk_g hu14) rfl rfl rfl ?_
          refine Go.blk zk_X1_buildFree [0, 0] (z' := (41, [some (.ref k_p), some (.int v1), some (.int v2), some (.int (v3 + 1))], [], ([sCa k_p k_a g_p m_p k_surroundings f_p x_p k_fixedStart k_fixedBuilt y_p u14.1 k_freeBuilt k_sidesTally u14.2.1 k_holesTally k_tallied, sLa r g_p g_k, sAj x_p x_v, sAj y_p u14.2.2.1, sCe f_p f_a u10.1 u10.2, sIm m_p m_a m_forms i_p u14.2.2.2.1, sCe i_p i_a u14.2.2.2.2.1 u14.2.2.2.2.2.1, sFo (List.range 12) m_forms mf_a u14.2.2.2.2.2.2] : List ZW).flatten)) rfl trivial ?_
          exact ih _ _ _ _ _ _ _ _ _ _ _ h kk
      · rw [if_neg hc8] at h
        refine Go.br zk_X1_buildFree rfl rfl (fun q => absurd q hc8) (fun _ => ?_)
        obtain rfl := Option.some.inj h
        refine Go.weak (L := [some (.ref k_p), some (.int v1), some (.int v2), some (.int v3)]) (L' := [some (.ref k_p), some (.int v1), some (.int v2), none]) (And.intro rfl (And.intro rfl (And.intro rfl (trivial)))) ?_
        exact kk
    · rw [if_neg hc7] at h
      refine Go.br zk_X1_buildFree rfl rfl (fun q => absurd q hc7) (fun _ => ?_)
      obtain rfl := Option.some.inj h
      refine Go.weak (L := [some (.ref k_p), some (.int v1), some (.int v2), some (.int v3)]) (L' := [some (.ref k_p), some (.int v1), some (.int v2), none]) (And.intro rfl (And.intro rfl (And.intro rfl (trivial)))) ?_
      exact kk
set_option maxHeartbeats 4000000 in
set_option maxRecDepth 100000 in
theorem t_X1_buildFree_L7 {N : Nat} {k_p : Nat} {k_a : Nat → Nat} {k_surroundings : Nat} {k_fixedStart : List Int32} {k_fixedBuilt : Int32} {k_sidesTally : List Int32} {k_holesTally : List Int32} {k_tallied : Int32} {g_p : Nat} {g_k : Nat} {x_p : Nat} {x_v : List Int64} {y_p : Nat} {f_p : Nat} {f_a : Nat → Nat} {m_p : Nat} {m_a : Nat → Nat} {m_forms : Nat → Nat} {i_p : Nat} {i_a : Nat → Nat} {mf_a : Nat → Nat → Nat} {v1 : Int32} (hk_g : g_k < 3) {Q : Option Value → ZW → Prop} : ∀ (fu : Nat) (v2 : Int32) (k_freeStart : List Int32) (k_freeBuilt : Int32) (k_symmetriesTally : List Int32) (y_v : List Int64) (f_codes : List Int32) (f_size : Int32) (m_number : Int32) (i_codes : List Int32) (i_size : Int32) (mf_v : Nat → List Int32 × Int32) (e : (List Int32) × Int32 × (List Int32) × (List Int64) × (List Int32) × Int32 × Int32 × (List Int32) × Int32 × (Nat → List Int32 × Int32)), f_X1_buildFree_L7 N v1 k_fixedStart k_fixedBuilt g_k x_v fu v2 k_freeStart k_freeBuilt k_symmetriesTally y_v f_codes f_size m_number i_codes i_size mf_v = some e → (Go l D r (z_rl xs) zm_X1_buildFree 0 0 (120, [none, none, none, none], [], ([sCa k_p k_a g_p m_p k_surroundings f_p x_p k_fixedStart k_fixedBuilt y_p e.1 e.2.1 k_sidesTally e.2.2.1 k_holesTally k_tallied, sLa r g_p g_k, sAj x_p x_v, sAj y_p e.2.2.2.1, sCe f_p f_a e.2.2.2.2.1 e.2.2.2.2.2.1, sIm m_p m_a m_forms i_p e.2.2.2.2.2.2.1, sCe i_p i_a e.2.2.2.2.2.2.2.1 e.2.2.2.2.2.2.2.2.1, sFo (List.range 12) m_forms mf_a e.2.2.2.2.2.2.2.2.2] : List ZW).flatten) Q) → Go l D r (z_rl xs) zm_X1_buildFree 0 0 (7, [some (.ref k_p), some (.int v1), some (.int v2), none], [], ([sCa k_p k_a g_p m_p k_surroundings f_p x_p k_fixedStart k_fixedBuilt y_p k_freeStart k_freeBuilt k_sidesTally k_symmetriesTally k_holesTally k_tallied, sLa r g_p g_k, sAj x_p x_v, sAj y_p y_v, sCe f_p f_a f_codes f_size, sIm m_p m_a m_forms i_p m_number, sCe i_p i_a i_codes i_size, sFo (List.range 12) m_forms mf_a mf_v] : List ZW).flatten) Q := by
  intro fu
  induction fu with
  | zero =>
    intro v2 k_freeStart k_freeBuilt k_symmetriesTally y_v f_codes f_size m_number i_codes i_size mf_v e h
    simp only [f_X1_buildFree_L7, reduceCtorEq] at h
  | succ fu ih =>
    intro v2 k_freeStart k_freeBuilt k_symmetriesTally y_v f_codes f_size m_number i_codes i_size mf_v e h kk
    rw [f_X1_buildFree_L7] at h
    refine Go.blk zk_X1_buildFree [0, 0] (z' := (9, [some (.ref k_p), some (.int v1), some (.int v2), none], [.int v1, .int v2], ([sCa k_p k_a g_p m_p k_surroundings f_p x_p k_fixedStart k_fixedBuilt y_p k_freeStart k_freeBuilt k_sidesTally k_symmetriesTally k_holesTally k_tallied, sLa r g_p g_k, sAj x_p x_v, sAj y_p y_v, sCe f_p f_a f_codes f_size, sIm m_p m_a m_forms i_p m_number, sCe i_p i_a i_codes i_size, sFo (List.range 12) m_forms mf_a mf_v] : List ZW).flatten)) rfl trivial ?_
    by_cases hc1 : v1 < v2
    · rw [if_pos hc1] at h
      refine Go.br zk_X1_buildFree rfl rfl (fun _ => ?_) (fun q => absurd hc1 q)
      obtain rfl := Option.some.inj h
      refine Go.weak (L := [some (.ref k_p), some (.int v1), some (.int v2), none]) (L' := [none, none, none, none]) (trivial) ?_
      exact kk
    · rw [if_neg hc1] at h
      refine Go.br zk_X1_buildFree rfl rfl (fun q => absurd q hc1) (fun _ => ?_)
      refine Go.blk zk_X1_buildFree [0, 0, 0] (z' := (17, [some (.ref k_p), some (.int v1), some (.int v2), none], [.int k_fixedBuilt, .int v2], ([sCa k_p k_a g_p m_p k_surroundings f_p x_p k_fixedStart k_fixedBuilt y_p k_freeStart k_freeBuilt k_sidesTally k_symmetriesTally k_holesTally k_tallied, sLa r g_p g_k, sAj x_p x_v, sAj y_p y_v, sCe f_p f_a f_codes f_size, sIm m_p m_a m_forms i_p m_number, sCe i_p i_a i_codes i_size, sFo (List.range 12) m_forms mf_a mf_v] : List ZW).flatten)) rfl ⟨rfl, trivial⟩ ?_
      by_cases hc2 : k_fixedBuilt < v2
      · rw [if_pos hc2] at h
        refine Go.br zk_X1_buildFree rfl rfl (fun _ => ?_) (fun q => absurd hc2 q)
        obtain rfl := Option.some.inj h
        refine Go.weak (L := [some (.ref k_p), some (.int v1), some (.int v2), none]) (L' := [none, none, none, none]) (trivial) ?_
        exact kk
      · rw [if_neg hc2] at h
        refine Go.br zk_X1_buildFree rfl rfl (fun q => absurd q hc2) (fun _ => ?_)
        refine Go.blk zk_X1_buildFree [0, 0, 0, 0, 0, 0, 0, 0] (z' := (32, [some (.ref k_p), some (.int v1), some (.int v2), none], [.int v2, .ref (k_a 1), .int (v2 + 1), .ref (k_a 1)], ([sCa k_p k_a g_p m_p k_surroundings f_p x_p k_fixedStart k_fixedBuilt y_p k_freeStart k_freeBuilt k_sidesTally k_symmetriesTally k_holesTally k_tallied, sLa r g_p g_k, sAj x_p x_v, sAj y_p y_v, sCe f_p f_a f_codes f_size, sIm m_p m_a m_forms i_p m_number, sCe i_p i_a i_codes i_size, sFo (List.range 12) m_forms mf_a mf_v] : List ZW).flatten)) rfl ⟨rfl, rfl, trivial⟩ ?_
        obtain ⟨x3, hx3, h⟩ := z_bind h
        refine Go.iald zk_X1_buildFree 2 rfl rfl rfl hx3 ?_
        obtain ⟨t4, ht4, h⟩ := z_bind h
        refine Go.iast zk_X1_buildFree 2 rfl rfl rfl ht4 ?_
        refine Go.eqz (z2 := (34, [some (.ref k_p), some (.int v1), some (.int v2), none], [], ([sCa k_p k_a g_p m_p k_surroundings f_p x_p k_fixedStart k_fixedBuilt y_p t4 k_freeBuilt k_sidesTally k_symmetriesTally k_holesTally k_tallied, sLa r g_p g_k, sAj x_p x_v, sAj y_p y_v, sCe f_p f_a f_codes f_size, sIm m_p m_a m_forms i_p m_number, sCe i_p i_a i_codes i_size, sFo (List.range 12) m_forms mf_a mf_v] : List ZW).flatten)) rfl ?_
        refine Go.blk zk_X1_buildFree [0, 0, 0] (z' := (39, [some (.ref k_p), some (.int v1), some (.int v2), none], [.int v2, .ref (k_a 0)], ([sCa k_p k_a g_p m_p k_surroundings f_p x_p k_fixedStart k_fixedBuilt y_p t4 k_freeBuilt k_sidesTally k_symmetriesTally k_holesTally k_tallied, sLa r g_p g_k, sAj x_p x_v, sAj y_p y_v, sCe f_p f_a f_codes f_size, sIm m_p m_a m_forms i_p m_number, sCe i_p i_a i_codes i_size, sFo (List.range 12) m_forms mf_a mf_v] : List ZW).flatten)) rfl ⟨rfl, trivial⟩ ?_
        obtain ⟨x5, hx5, h⟩ := z_bind h
        refine Go.iald zk_X1_buildFree 1 rfl rfl rfl hx5 ?_
        refine Go.blk zk_X1_buildFree [0] (z' := (41, [some (.ref k_p), some (.int v1), some (.int v2), some (.int x5)], [], ([sCa k_p k_a g_p m_p k_surroundings f_p x_p k_fixedStart k_fixedBuilt y_p t4 k_freeBuilt k_sidesTally k_symmetriesTally k_holesTally k_tallied, sLa r g_p g_k, sAj x_p x_v, sAj y_p y_v, sCe f_p f_a f_codes f_size, sIm m_p m_a m_forms i_p m_number, sCe i_p i_a i_codes i_size, sFo (List.range 12) m_forms mf_a mf_v] : List ZW).flatten)) rfl trivial ?_
        obtain ⟨e15, he15, h⟩ := z_bind h
        refine t_X1_buildFree_L41 hk_g N _ _ _ _ _ _ _ _ _ _ _ he15 ?_
        refine Go.blk zk_X1_buildFree [0, 0] (z' := (111, [some (.ref k_p), some (.int v1), some (.int v2), none], [.int v2, .ref k_p], ([sCa k_p k_a g_p m_p k_surroundings f_p x_p k_fixedStart k_fixedBuilt y_p e15.1 k_freeBuilt k_sidesTally e15.2.1 k_holesTally k_tallied, sLa r g_p g_k, sAj x_p x_v, sAj y_p e15.2.2.1, sCe f_p f_a e15.2.2.2.1 e15.2.2.2.2.1, sIm m_p m_a m_forms i_p e15.2.2.2.2.2.1, sCe i_p i_a e15.2.2.2.2.2.2.1 e15.2.2.2.2.2.2.2.1, sFo (List.range 12) m_forms mf_a e15.2.2.2.2.2.2.2.2] : List ZW).flatten)) rfl trivial ?_
        refine Go.put zk_X1_buildFree 0 rfl rfl rfl rfl rfl (Nat.le_of_ble_eq_true rfl) ?_
        refine Go.eqz (z2 := (114, [some (.ref k_p), some (.int v1), some (.int v2), none], [], ([sCa k_p k_a g_p m_p k_surroundings f_p x_p k_fixedStart k_fixedBuilt y_p e15.1 v2 k_sidesTally e15.2.1 k_holesTally k_tallied, sLa r g_p g_k, sAj x_p x_v, sAj y_p e15.2.2.1, sCe f_p f_a e15.2.2.2.1 e15.2.2.2.2.1, sIm m_p m_a m_forms i_p e15.2.2.2.2.2.1, sCe i_p i_a e15.2.2.2.2.2.2.1 e15.2.2.2.2.2.2.2.1, sFo (List.range 12) m_forms mf_a e15.2.2.2.2.2.2.2.2] : List ZW).flatten)) rfl ?_
        refine Go.blk zk_X1_buildFree [0, 0] (z' := (7, [some (.ref k_p), some (.int v1), some (.int (v2 + 1)), none], [], ([sCa k_p k_a g_p m_p k_surroundings f_p x_p k_fixedStart k_fixedBuilt y_p e15.1 v2 k_sidesTally e15.2.1 k_holesTally k_tallied, sLa r g_p g_k, sAj x_p x_v, sAj y_p e15.2.2.1, sCe f_p f_a e15.2.2.2.1 e15.2.2.2.2.1, sIm m_p m_a m_forms i_p e15.2.2.2.2.2.1, sCe i_p i_a e15.2.2.2.2.2.2.1 e15.2.2.2.2.2.2.2.1, sFo (List.range 12) m_forms mf_a e15.2.2.2.2.2.2.2.2] : List ZW).flatten)) rfl trivial ?_
        exact ih _ _ _ _ _ _ _ _ _ _ _ _ h kk
set_option maxHeartbeats 4000000 in
set_option maxRecDepth 100000 in
theorem t_X1_buildFree {N : Nat} {k_p : Nat} {k_a : Nat → Nat} {k_surroundings : Nat} {k_fixedStart : List Int32} {k_fixedBuilt : Int32} {k_freeStart : List Int32} {k_freeBuilt : Int32} {k_sidesTally : List Int32} {k_symmetriesTally : List Int32} {k_holesTally : List Int32} {k_tallied : Int32} {g_p : Nat} {g_k : Nat} {x_p : Nat} {x_v : List Int64} {y_p : Nat} {y_v : List Int64} {f_p : Nat} {f_a : Nat → Nat} {f_codes : List Int32} {f_size : Int32} {m_p : Nat} {m_a : Nat → Nat} {m_forms : Nat → Nat} {m_number : Int32} {i_p : Nat} {i_a : Nat → Nat} {i_codes : List Int32} {i_size : Int32} {mf_a : Nat → Nat → Nat} {mf_v : Nat → List Int32 × Int32} {i1 : Int32} {u : (List Int32) × Int32 × (List Int32) × (List Int64) × (List Int32) × Int32 × Int32 × (List Int32) × Int32 × (Nat → List Int32 × Int32)} (hk_g : g_k < 3) (h : f_X1_buildFree N i1 k_fixedStart k_fixedBuilt k_freeStart k_freeBuilt k_symmetriesTally g_k x_v y_v f_codes f_size m_number i_codes i_size mf_v = some u) : Ct l D r (z_rl xs) zm_X1_buildFree 0 0 [.ref k_p, .int i1] ([sCa k_p k_a g_p m_p k_surroundings f_p x_p k_fixedStart k_fixedBuilt y_p k_freeStart k_freeBuilt k_sidesTally k_symmetriesTally k_holesTally k_tallied, sLa r g_p g_k, sAj x_p x_v, sAj y_p y_v, sCe f_p f_a f_codes f_size, sIm m_p m_a m_forms i_p m_number, sCe i_p i_a i_codes i_size, sFo (List.range 12) m_forms mf_a mf_v] : List ZW).flatten (fun v' w' => v' = none ∧ w' = ([sCa k_p k_a g_p m_p k_surroundings f_p x_p k_fixedStart k_fixedBuilt y_p u.1 u.2.1 k_sidesTally u.2.2.1 k_holesTally k_tallied, sLa r g_p g_k, sAj x_p x_v, sAj y_p u.2.2.2.1, sCe f_p f_a u.2.2.2.2.1 u.2.2.2.2.2.1, sIm m_p m_a m_forms i_p u.2.2.2.2.2.2.1, sCe i_p i_a u.2.2.2.2.2.2.2.1 u.2.2.2.2.2.2.2.2.1, sFo (List.range 12) m_forms mf_a u.2.2.2.2.2.2.2.2.2] : List ZW).flatten) := by
  refine Ct.of (by decide +kernel) rfl (fun q => absurd q (by decide)) (Nat.le_of_ble_eq_true rfl) ?_
  refine Go.eqz (z2 := (0, [some (.ref k_p), some (.int i1), none, none], [], ([sCa k_p k_a g_p m_p k_surroundings f_p x_p k_fixedStart k_fixedBuilt y_p k_freeStart k_freeBuilt k_sidesTally k_symmetriesTally k_holesTally k_tallied, sLa r g_p g_k, sAj x_p x_v, sAj y_p y_v, sCe f_p f_a f_codes f_size, sIm m_p m_a m_forms i_p m_number, sCe i_p i_a i_codes i_size, sFo (List.range 12) m_forms mf_a mf_v] : List ZW).flatten)) rfl ?_
  unfold f_X1_buildFree at h
  refine Go.blk zk_X1_buildFree [0, 0, 0, 0, 0] (z' := (7, [some (.ref k_p), some (.int i1), some (.int (k_freeBuilt + 1)), none], [], ([sCa k_p k_a g_p m_p k_surroundings f_p x_p k_fixedStart k_fixedBuilt y_p k_freeStart k_freeBuilt k_sidesTally k_symmetriesTally k_holesTally k_tallied, sLa r g_p g_k, sAj x_p x_v, sAj y_p y_v, sCe f_p f_a f_codes f_size, sIm m_p m_a m_forms i_p m_number, sCe i_p i_a i_codes i_size, sFo (List.range 12) m_forms mf_a mf_v] : List ZW).flatten)) rfl ⟨rfl, trivial⟩ ?_
  obtain ⟨e16, he16, h⟩ := z_bind h
  refine t_X1_buildFree_L7 hk_g N _ _ _ _ _ _ _ _ _ _ _ _ he16 ?_
  obtain rfl := Option.some.inj h
  exact Go.vret zk_X1_buildFree rfl rfl ⟨rfl, rfl⟩
end
