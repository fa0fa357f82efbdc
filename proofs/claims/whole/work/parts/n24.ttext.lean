section
variable {l : Launch} {D : va_G} {r : Nat → Nat} {xs : List Int32}
set_option maxHeartbeats 4000000 in
set_option maxRecDepth 100000 in
theorem t_X10_isFull {N : Nat} {x_p : Nat} {x_a : Nat → Nat} {x_characters : List Int32} {x_length : Int32} {x_start : Int32} {x_end : Int32} {x_kind : Int32} {x_digit : Int32} {x_lastQ : Int32} {x_lastR : Int32} {x_lastT : Int32} {u : Int32}  (h : f_X10_isFull N x_length = some u) : Ct l D r (z_rl xs) zm_X10_isFull 0 0 [.ref x_p] ([sTx x_p x_a x_characters x_length x_start x_end x_kind x_digit x_lastQ x_lastR x_lastT] : List ZW).flatten (fun v' w' => v' = some (.int u) ∧ w' = ([sTx x_p x_a x_characters x_length x_start x_end x_kind x_digit x_lastQ x_lastR x_lastT] : List ZW).flatten) := by
  refine Ct.of (by decide +kernel) rfl (fun q => absurd q (by decide)) (Nat.le_of_ble_eq_true rfl) ?_
  refine Go.eqz (z2 := (0, [some (.ref x_p)], [], ([sTx x_p x_a x_characters x_length x_start x_end x_kind x_digit x_lastQ x_lastR x_lastT] : List ZW).flatten)) rfl ?_
  unfold f_X10_isFull at h
  refine Go.blk zk_X10_isFull [0, 0, 0] (z' := (6, [some (.ref x_p)], [.int 80, .int x_length], ([sTx x_p x_a x_characters x_length x_start x_end x_kind x_digit x_lastQ x_lastR x_lastT] : List ZW).flatten)) rfl ⟨rfl, trivial⟩ ?_
  by_cases hc1 : x_length < 80
  · rw [if_pos hc1] at h
    refine Go.br zk_X10_isFull rfl rfl (fun _ => ?_) (fun q => absurd hc1 q)
    refine Go.blk zk_X10_isFull [0] (z' := (14, [some (.ref x_p)], [.int 0], ([sTx x_p x_a x_characters x_length x_start x_end x_kind x_digit x_lastQ x_lastR x_lastT] : List ZW).flatten)) rfl trivial ?_
    obtain rfl := Option.some.inj h
    exact Go.iret zk_X10_isFull rfl rfl rfl ⟨rfl, rfl⟩
  · rw [if_neg hc1] at h
    refine Go.br zk_X10_isFull rfl rfl (fun q => absurd q hc1) (fun _ => ?_)
    refine Go.blk zk_X10_isFull [0, 0] (z' := (14, [some (.ref x_p)], [.int 1], ([sTx x_p x_a x_characters x_length x_start x_end x_kind x_digit x_lastQ x_lastR x_lastT] : List ZW).flatten)) rfl trivial ?_
    obtain rfl := Option.some.inj h
    exact Go.iret zk_X10_isFull rfl rfl rfl ⟨rfl, rfl⟩
set_option maxHeartbeats 4000000 in
set_option maxRecDepth 100000 in
theorem t_X10_put {N : Nat} {x_p : Nat} {x_a : Nat → Nat} {x_characters : List Int32} {x_length : Int32} {x_start : Int32} {x_end : Int32} {x_kind : Int32} {x_digit : Int32} {x_lastQ : Int32} {x_lastR : Int32} {x_lastT : Int32} {i1 : Int32} {u : (List Int32) × Int32}  (h : f_X10_put N i1 x_characters x_length = some u) : Ct l D r (z_rl xs) zm_X10_put 0 0 [.ref x_p, .int i1] ([sTx x_p x_a x_characters x_length x_start x_end x_kind x_digit x_lastQ x_lastR x_lastT] : List ZW).flatten (fun v' w' => v' = none ∧ w' = ([sTx x_p x_a u.1 u.2 x_start x_end x_kind x_digit x_lastQ x_lastR x_lastT] : List ZW).flatten) := by
  refine Ct.of (by decide +kernel) rfl (fun q => absurd q (by decide)) (Nat.le_of_ble_eq_true rfl) ?_
  refine Go.eqz (z2 := (0, [some (.ref x_p), some (.int i1)], [], ([sTx x_p x_a x_characters x_length x_start x_end x_kind x_digit x_lastQ x_lastR x_lastT] : List ZW).flatten)) rfl ?_
  unfold f_X10_put at h
  refine Go.blk zk_X10_put [0, 0, 0] (z' := (6, [some (.ref x_p), some (.int i1)], [.int 80, .int x_length], ([sTx x_p x_a x_characters x_length x_start x_end x_kind x_digit x_lastQ x_lastR x_lastT] : List ZW).flatten)) rfl ⟨rfl, trivial⟩ ?_
  by_cases hc1 : x_length < 80
  · rw [if_pos hc1] at h
    refine Go.br zk_X10_put rfl rfl (fun _ => ?_) (fun q => absurd hc1 q)
    refine Go.blk zk_X10_put [0, 0, 0, 0, 0] (z' := (18, [some (.ref x_p), some (.int i1)], [.int i1, .int x_length, .ref (x_a 0)], ([sTx x_p x_a x_characters x_length x_start x_end x_kind x_digit x_lastQ x_lastR x_lastT] : List ZW).flatten)) rfl ⟨rfl, rfl, trivial⟩ ?_
    obtain ⟨t2, ht2, h⟩ := z_bind h
    refine Go.iast zk_X10_put 1 rfl rfl rfl ht2 ?_
    refine Go.eqz (z2 := (19, [some (.ref x_p), some (.int i1)], [], ([sTx x_p x_a t2 x_length x_start x_end x_kind x_digit x_lastQ x_lastR x_lastT] : List ZW).flatten)) rfl ?_
    refine Go.blk zk_X10_put [0, 0, 0, 0, 0] (z' := (26, [some (.ref x_p), some (.int i1)], [.int (x_length + 1), .ref x_p], ([sTx x_p x_a t2 x_length x_start x_end x_kind x_digit x_lastQ x_lastR x_lastT] : List ZW).flatten)) rfl ⟨rfl, trivial⟩ ?_
    refine Go.put zk_X10_put 0 rfl rfl rfl rfl rfl (Nat.le_of_ble_eq_true rfl) ?_
    refine Go.eqz (z2 := (29, [some (.ref x_p), some (.int i1)], [], ([sTx x_p x_a t2 (x_length + 1) x_start x_end x_kind x_digit x_lastQ x_lastR x_lastT] : List ZW).flatten)) rfl ?_
    obtain rfl := Option.some.inj h
    exact Go.vret zk_X10_put rfl rfl ⟨rfl, rfl⟩
  · rw [if_neg hc1] at h
    refine Go.br zk_X10_put rfl rfl (fun q => absurd q hc1) (fun _ => ?_)
    obtain rfl := Option.some.inj h
    exact Go.vret zk_X10_put rfl rfl ⟨rfl, rfl⟩
set_option maxHeartbeats 4000000 in
set_option maxRecDepth 100000 in
theorem t_X10_wipe {N : Nat} {x_p : Nat} {x_a : Nat → Nat} {x_characters : List Int32} {x_length : Int32} {x_start : Int32} {x_end : Int32} {x_kind : Int32} {x_digit : Int32} {x_lastQ : Int32} {x_lastR : Int32} {x_lastT : Int32} {u : Int32}  (h : f_X10_wipe N  = some u) : Ct l D r (z_rl xs) zm_X10_wipe 0 0 [.ref x_p] ([sTx x_p x_a x_characters x_length x_start x_end x_kind x_digit x_lastQ x_lastR x_lastT] : List ZW).flatten (fun v' w' => v' = none ∧ w' = ([sTx x_p x_a x_characters u x_start x_end x_kind x_digit x_lastQ x_lastR x_lastT] : List ZW).flatten) := by
  refine Ct.of (by decide +kernel) rfl (fun q => absurd q (by decide)) (Nat.le_of_ble_eq_true rfl) ?_
  refine Go.eqz (z2 := (0, [some (.ref x_p)], [], ([sTx x_p x_a x_characters x_length x_start x_end x_kind x_digit x_lastQ x_lastR x_lastT] : List ZW).flatten)) rfl ?_
  unfold f_X10_wipe at h
  refine Go.blk zk_X10_wipe [0, 0] (z' := (2, [some (.ref x_p)], [.int 0, .ref x_p], ([sTx x_p x_a x_characters x_length x_start x_end x_kind x_digit x_lastQ x_lastR x_lastT] : List ZW).flatten)) rfl trivial ?_
  refine Go.put zk_X10_wipe 0 rfl rfl rfl rfl rfl (Nat.le_of_ble_eq_true rfl) ?_
  refine Go.eqz (z2 := (5, [some (.ref x_p)], [], ([sTx x_p x_a x_characters 0 x_start x_end x_kind x_digit x_lastQ x_lastR x_lastT] : List ZW).flatten)) rfl ?_
  obtain rfl := Option.some.inj h
  exact Go.vret zk_X10_wipe rfl rfl ⟨rfl, rfl⟩
set_option maxHeartbeats 4000000 in
set_option maxRecDepth 100000 in
theorem t_X10_characterAt {N : Nat} {x_p : Nat} {x_a : Nat → Nat} {x_characters : List Int32} {x_length : Int32} {x_start : Int32} {x_end : Int32} {x_kind : Int32} {x_digit : Int32} {x_lastQ : Int32} {x_lastR : Int32} {x_lastT : Int32} {i1 : Int32} {u : Int32}  (h : f_X10_characterAt N i1 x_characters x_length = some u) : Ct l D r (z_rl xs) zm_X10_characterAt 0 0 [.ref x_p, .int i1] ([sTx x_p x_a x_characters x_length x_start x_end x_kind x_digit x_lastQ x_lastR x_lastT] : List ZW).flatten (fun v' w' => v' = some (.int u) ∧ w' = ([sTx x_p x_a x_characters x_length x_start x_end x_kind x_digit x_lastQ x_lastR x_lastT] : List ZW).flatten) := by
  refine Ct.of (by decide +kernel) rfl (fun q => absurd q (by decide)) (Nat.le_of_ble_eq_true rfl) ?_
  refine Go.eqz (z2 := (0, [some (.ref x_p), some (.int i1)], [], ([sTx x_p x_a x_characters x_length x_start x_end x_kind x_digit x_lastQ x_lastR x_lastT] : List ZW).flatten)) rfl ?_
  unfold f_X10_characterAt at h
  refine Go.blk zk_X10_characterAt [0] (z' := (1, [some (.ref x_p), some (.int i1)], [.int i1], ([sTx x_p x_a x_characters x_length x_start x_end x_kind x_digit x_lastQ x_lastR x_lastT] : List ZW).flatten)) rfl trivial ?_
  by_cases hc1 : i1 < 0
  · rw [if_pos hc1] at h
    refine Go.br zk_X10_characterAt rfl rfl (fun _ => ?_) (fun q => absurd hc1 q)
    refine Go.blk zk_X10_characterAt [0] (z' := (22, [some (.ref x_p), some (.int i1)], [.int 0], ([sTx x_p x_a x_characters x_length x_start x_end x_kind x_digit x_lastQ x_lastR x_lastT] : List ZW).flatten)) rfl trivial ?_
    obtain rfl := Option.some.inj h
    exact Go.iret zk_X10_characterAt rfl rfl rfl ⟨rfl, rfl⟩
  · rw [if_neg hc1] at h
    refine Go.br zk_X10_characterAt rfl rfl (fun q => absurd q hc1) (fun _ => ?_)
    refine Go.blk zk_X10_characterAt [0, 0, 0] (z' := (9, [some (.ref x_p), some (.int i1)], [.int x_length, .int i1], ([sTx x_p x_a x_characters x_length x_start x_end x_kind x_digit x_lastQ x_lastR x_lastT] : List ZW).flatten)) rfl ⟨rfl, trivial⟩ ?_
    by_cases hc2 : i1 < x_length
    · rw [if_pos hc2] at h
      refine Go.br zk_X10_characterAt rfl rfl (fun _ => ?_) (fun q => absurd hc2 q)
      refine Go.blk zk_X10_characterAt [0, 0, 0] (z' := (17, [some (.ref x_p), some (.int i1)], [.int i1, .ref (x_a 0)], ([sTx x_p x_a x_characters x_length x_start x_end x_kind x_digit x_lastQ x_lastR x_lastT] : List ZW).flatten)) rfl ⟨rfl, trivial⟩ ?_
      obtain ⟨x3, hx3, h⟩ := z_bind h
      refine Go.iald zk_X10_characterAt 1 rfl rfl rfl hx3 ?_
      refine Go.blk zk_X10_characterAt [0] (z' := (22, [some (.ref x_p), some (.int i1)], [.int x3], ([sTx x_p x_a x_characters x_length x_start x_end x_kind x_digit x_lastQ x_lastR x_lastT] : List ZW).flatten)) rfl trivial ?_
      obtain rfl := Option.some.inj h
      exact Go.iret zk_X10_characterAt rfl rfl rfl ⟨rfl, rfl⟩
    · rw [if_neg hc2] at h
      refine Go.br zk_X10_characterAt rfl rfl (fun q => absurd q hc2) (fun _ => ?_)
      refine Go.blk zk_X10_characterAt [0] (z' := (22, [some (.ref x_p), some (.int i1)], [.int 0], ([sTx x_p x_a x_characters x_length x_start x_end x_kind x_digit x_lastQ x_lastR x_lastT] : List ZW).flatten)) rfl trivial ?_
      obtain rfl := Option.some.inj h
      exact Go.iret zk_X10_characterAt rfl rfl rfl ⟨rfl, rfl⟩
set_option maxHeartbeats 4000000 in
set_option maxRecDepth 100000 in
theorem t_X10_isLetter {N : Nat} {i1 : Int32} {u : Int32}  (h : f_X10_isLetter N i1 = some u) : Ct l D r (z_rl xs) zm_X10_isLetter 0 0 [.int i1] ([] : List ZW).flatten (fun v' w' => v' = some (.int u) ∧ w' = ([] : List ZW).flatten) := by
  refine Ct.of (by decide +kernel) rfl (fun q => absurd q (by decide)) (Nat.le_of_ble_eq_true rfl) ?_
  refine Go.eqz (z2 := (0, [some (.int i1)], [], ([] : List ZW).flatten)) rfl ?_
  unfold f_X10_isLetter at h
  refine Go.blk zk_X10_isLetter [0, 0] (z' := (3, [some (.int i1)], [.int 97, .int i1], ([] : List ZW).flatten)) rfl trivial ?_
  by_cases hc1 : i1 < 97
  · rw [if_pos hc1] at h
    refine Go.br zk_X10_isLetter rfl rfl (fun _ => ?_) (fun q => absurd hc1 q)
    refine Go.blk zk_X10_isLetter [0] (z' := (17, [some (.int i1)], [.int 0], ([] : List ZW).flatten)) rfl trivial ?_
    obtain rfl := Option.some.inj h
    exact Go.iret zk_X10_isLetter rfl rfl rfl ⟨rfl, rfl⟩
  · rw [if_neg hc1] at h
    refine Go.br zk_X10_isLetter rfl rfl (fun q => absurd q hc1) (fun _ => ?_)
    refine Go.blk zk_X10_isLetter [0, 0] (z' := (9, [some (.int i1)], [.int 122, .int i1], ([] : List ZW).flatten)) rfl trivial ?_
    by_cases hc2 : 122 < i1
    · rw [if_pos hc2] at h
      refine Go.br zk_X10_isLetter rfl rfl (fun _ => ?_) (fun q => absurd hc2 q)
      refine Go.blk zk_X10_isLetter [0] (z' := (17, [some (.int i1)], [.int 0], ([] : List ZW).flatten)) rfl trivial ?_
      obtain rfl := Option.some.inj h
      exact Go.iret zk_X10_isLetter rfl rfl rfl ⟨rfl, rfl⟩
    · rw [if_neg hc2] at h
      refine Go.br zk_X10_isLetter rfl rfl (fun q => absurd q hc2) (fun _ => ?_)
      refine Go.blk zk_X10_isLetter [0, 0] (z' := (17, [some (.int i1)], [.int 1], ([] : List ZW).flatten)) rfl trivial ?_
      obtain rfl := Option.some.inj h
      exact Go.iret zk_X10_isLetter rfl rfl rfl ⟨rfl, rfl⟩
set_option maxHeartbeats 4000000 in
set_option maxRecDepth 100000 in
theorem t_X10_isWord {N : Nat} {x_p : Nat} {x_a : Nat → Nat} {x_characters : List Int32} {x_length : Int32} {x_start : Int32} {x_end : Int32} {x_kind : Int32} {x_digit : Int32} {x_lastQ : Int32} {x_lastR : Int32} {x_lastT : Int32} {i1 : Int32} {i2 : Int32} {u : Int32}  (h : f_X10_isWord N i1 i2 x_characters x_length x_start x_end = some u) : Ct l D r (z_rl xs) zm_X10_isWord 0 0 [.ref x_p, .int i1, .int i2] ([sTx x_p x_a x_characters x_length x_start x_end x_kind x_digit x_lastQ x_lastR x_lastT] : List ZW).flatten (fun v' w' => v' = some (.int u) ∧ w' = ([sTx x_p x_a x_characters x_length x_start x_end x_kind x_digit x_lastQ x_lastR x_lastT] : List ZW).flatten) := by
  refine Ct.of (by decide +kernel) rfl (fun q => absurd q (by decide)) (Nat.le_of_ble_eq_true rfl) ?_
  refine Go.eqz (z2 := (0, [some (.ref x_p), some (.int i1), some (.int i2)], [], ([sTx x_p x_a x_characters x_length x_start x_end x_kind x_digit x_lastQ x_lastR x_lastT] : List ZW).flatten)) rfl ?_
  unfold f_X10_isWord at h
  refine Go.blk zk_X10_isWord [0, 0, 0, 0, 0, 0] (z' := (10, [some (.ref x_p), some (.int i1), some (.int i2)], [.int 2, .int (x_end - x_start)], ([sTx x_p x_a x_characters x_length x_start x_end x_kind x_digit x_lastQ x_lastR x_lastT] : List ZW).flatten)) rfl ⟨rfl, rfl, trivial⟩ ?_
  by_cases hc1 : (x_end - x_start) = 2
  · rw [if_pos hc1] at h
    refine Go.br zk_X10_isWord rfl rfl (fun _ => ?_) (fun q => absurd hc1 q)
    refine Go.blk zk_X10_isWord [0, 0, 0] (z' := (18, [some (.ref x_p), some (.int i1), some (.int i2)], [.int x_start, .ref x_p], ([sTx x_p x_a x_characters x_length x_start x_end x_kind x_digit x_lastQ x_lastR x_lastT] : List ZW).flatten)) rfl ⟨rfl, trivial⟩ ?_
    obtain ⟨u2, hu2, h⟩ := z_bind h
    refine Go.vs zk_X10_isWord zm_X10_characterAt [0] [] 0 10 1 (S := [sTx x_p x_a x_characters x_length x_start x_end x_kind x_digit x_lastQ x_lastR x_lastT]) (S2 := [sTx x_p x_a x_characters x_length x_start x_end x_kind x_digit x_lastQ x_lastR x_lastT]) (As := [.int x_start]) (rest := []) (st2 := [.int u2]) (v1 := some (.int u2)) rfl zl_X10_97 zv_X10_characterAt ⟨Nat.le_of_ble_eq_true rfl, Nat.le_of_ble_eq_true rfl⟩ rfl (by decide) rfl rfl rfl rfl rfl (Nat.le_of_ble_eq_true rfl) (t_X10_characterAt hu2) rfl rfl rfl ?_
    refine Go.blk zk_X10_isWord [0] (z' := (22, [some (.ref x_p), some (.int i1), some (.int i2)], [.int i1, .int u2], ([sTx x_p x_a x_characters x_length x_start x_end x_kind x_digit x_lastQ x_lastR x_lastT] : List ZW).flatten)) rfl trivial ?_
    by_cases hc3 : u2 = i1
    · rw [if_pos hc3] at h
      refine Go.br zk_X10_isWord rfl rfl (fun _ => ?_) (fun q => absurd hc3 q)
      refine Go.blk zk_X10_isWord [0, 0, 0, 0, 0] (z' := (32, [some (.ref x_p), some (.int i1), some (.int i2)], [.int (x_start + 1), .ref x_p], ([sTx x_p x_a x_characters x_length x_start x_end x_kind x_digit x_lastQ x_lastR x_lastT] : List ZW).flatten)) rfl ⟨rfl, trivial⟩ ?_
      obtain ⟨u4, hu4, h⟩ := z_bind h
      refine Go.vs zk_X10_isWord zm_X10_characterAt [0] [] 0 10 1 (S := [sTx x_p x_a x_characters x_length x_start x_end x_kind x_digit x_lastQ x_lastR x_lastT]) (S2 := [sTx x_p x_a x_characters x_length x_start x_end x_kind x_digit x_lastQ x_lastR x_lastT]) (As := [.int (x_start + 1)]) (rest := []) (st2 := [.int u4]) (v1 := some (.int u4)) rfl zl_X10_97 zv_X10_characterAt ⟨Nat.le_of_ble_eq_true rfl, Nat.le_of_ble_eq_true rfl⟩ rfl (by decide) rfl rfl rfl rfl rfl (Nat.le_of_ble_eq_true rfl) (t_X10_characterAt hu4) rfl rfl rfl ?_
      refine Go.blk zk_X10_isWord [0] (z' := (36, [some (.ref x_p), some (.int i1), some (.int i2)], [.int i2, .int u4], ([sTx x_p x_a x_characters x_length x_start x_end x_kind x_digit x_lastQ x_lastR x_lastT] : List ZW).flatten)) rfl trivial ?_
      by_cases hc5 : u4 = i2
      · rw [if_pos hc5] at h
        refine Go.br zk_X10_isWord rfl rfl (fun _ => ?_) (fun q => absurd hc5 q)
        refine Go.blk zk_X10_isWord [0, 0] (z' := (44, [some (.ref x_p), some (.int i1), some (.int i2)], [.int 1], ([sTx x_p x_a x_characters x_length x_start x_end x_kind x_digit x_lastQ x_lastR x_lastT] : List ZW).flatten)) rfl trivial ?_
        obtain rfl := Option.some.inj h
        exact Go.iret zk_X10_isWord rfl rfl rfl ⟨rfl, rfl⟩
      · rw [if_neg hc5] at h
        refine Go.br zk_X10_isWord rfl rfl (fun q => absurd q hc5) (fun _ => ?_)
        refine Go.blk zk_X10_isWord [0] (z' := (44, [some (.ref x_p), some (.int i1), some (.int i2)], [.int 0], ([sTx x_p x_a x_characters x_length x_start x_end x_kind x_digit x_lastQ x_lastR x_lastT] : List ZW).flatten)) rfl trivial ?_
        obtain rfl := Option.some.inj h
        exact Go.iret zk_X10_isWord rfl rfl rfl ⟨rfl, rfl⟩
    · rw [if_neg hc3] at h
      refine Go.br zk_X10_isWord rfl rfl (fun q => absurd q hc3) (fun _ => ?_)
      refine Go.blk zk_X10_isWord [0] (z' := (44, [some (.ref x_p), some (.int i1), some (.int i2)], [.int 0], ([sTx x_p x_a x_characters x_length x_start x_end x_kind x_digit x_lastQ x_lastR x_lastT] : List ZW).flatten)) rfl trivial ?_
      obtain rfl := Option.some.inj h
      exact Go.iret zk_X10_isWord rfl rfl rfl ⟨rfl, rfl⟩
  · rw [if_neg hc1] at h
    refine Go.br zk_X10_isWord rfl rfl (fun q => absurd q hc1) (fun _ => ?_)
    refine Go.blk zk_X10_isWord [0] (z' := (44, [some (.ref x_p), some (.int i1), some (.int i2)], [.int 0], ([sTx x_p x_a x_characters x_length x_start x_end x_kind x_digit x_lastQ x_lastR x_lastT] : List ZW).flatten)) rfl trivial ?_
    obtain rfl := Option.some.inj h
    exact Go.iret zk_X10_isWord rfl rfl rfl ⟨rfl, rfl⟩
set_option maxHeartbeats 4000000 in
set_option maxRecDepth 100000 in
theorem t_X10_nextToken_L8 {N : Nat} {x_p : Nat} {x_a : Nat → Nat} {x_characters : List Int32} {x_length : Int32} {x_end : Int32} {x_kind : Int32} {x_digit : Int32} {x_lastQ : Int32} {x_lastR : Int32} {x_lastT : Int32}  {Q : Option Value → ZW → Prop} : ∀ (fu : Nat) (x_start : Int32) (e : Int32), f_X10_nextToken_L8 N x_characters x_length fu x_start = some e → (Go l D r (z_rl xs) zm_X10_nextToken 0 0 (45, [some (.ref x_p), none], [], ([sTx x_p x_a x_characters x_length e x_end x_kind x_digit x_lastQ x_lastR x_lastT] : List ZW).flatten) Q) → Go l D r (z_rl xs) zm_X10_nextToken 0 0 (8, [some (.ref x_p), none], [], ([sTx x_p x_a x_characters x_length x_start x_end x_kind x_digit x_lastQ x_lastR x_lastT] : List ZW).flatten) Q := by
  intro fu
  induction fu with
  | zero =>
    intro x_start e h
    simp only [f_X10_nextToken_L8, reduceCtorEq] at h
  | succ fu ih =>
    intro x_start e h kk
    rw [f_X10_nextToken_L8] at h
    refine Go.blk zk_X10_nextToken [0, 0, 0, 0] (z' := (16, [some (.ref x_p), none], [.int x_length, .int x_start], ([sTx x_p x_a x_characters x_length x_start x_end x_kind x_digit x_lastQ x_lastR x_lastT] : List ZW).flatten)) rfl ⟨rfl, rfl, trivial⟩ ?_
    by_cases hc1 : x_start < x_length
    · rw [if_pos hc1] at h
      refine Go.br zk_X10_nextToken rfl rfl (fun _ => ?_) (fun q => absurd hc1 q)
      refine Go.blk zk_X10_nextToken [0, 0, 0] (z' := (24, [some (.ref x_p), none], [.int x_start, .ref x_p], ([sTx x_p x_a x_characters x_length x_start x_end x_kind x_digit x_lastQ x_lastR x_lastT] : List ZW).flatten)) rfl ⟨rfl, trivial⟩ ?_
      obtain ⟨u2, hu2, h⟩ := z_bind h
      refine Go.vs zk_X10_nextToken zm_X10_characterAt [0] [] 0 10 1 (S := [sTx x_p x_a x_characters x_length x_start x_end x_kind x_digit x_lastQ x_lastR x_lastT]) (S2 := [sTx x_p x_a x_characters x_length x_start x_end x_kind x_digit x_lastQ x_lastR x_lastT]) (As := [.int x_start]) (rest := []) (st2 := [.int u2]) (v1 := some (.int u2)) rfl zl_X10_97 zv_X10_characterAt ⟨Nat.le_of_ble_eq_true rfl, Nat.le_of_ble_eq_true rfl⟩ rfl (by decide) rfl rfl rfl rfl rfl (Nat.le_of_ble_eq_true rfl) (t_X10_characterAt hu2) rfl rfl rfl ?_
      refine Go.blk zk_X10_nextToken [0] (z' := (29, [some (.ref x_p), none], [.int 32, .int u2], ([sTx x_p x_a x_characters x_length x_start x_end x_kind x_digit x_lastQ x_lastR x_lastT] : List ZW).flatten)) rfl trivial ?_
      by_cases hc3 : u2 = 32
      · rw [if_pos hc3] at h
        refine Go.br zk_X10_nextToken rfl rfl (fun _ => ?_) (fun q => absurd hc3 q)
        refine Go.blk zk_X10_nextToken [0, 0, 0, 0, 0] (z' := (39, [some (.ref x_p), none], [.int (x_start + 1), .ref x_p], ([sTx x_p x_a x_characters x_length x_start x_end x_kind x_digit x_lastQ x_lastR x_lastT] : List ZW).flatten)) rfl ⟨rfl, trivial⟩ ?_
        refine Go.put zk_X10_nextToken 0 rfl rfl rfl rfl rfl (Nat.le_of_ble_eq_true rfl) ?_
        refine Go.eqz (z2 := (42, [some (.ref x_p), none], [], ([sTx x_p x_a x_characters x_length (x_start + 1) x_end x_kind x_digit x_lastQ x_lastR x_lastT] : List ZW).flatten)) rfl ?_
        refine Go.blk zk_X10_nextToken [0] (z' := (8, [some (.ref x_p), none], [], ([sTx x_p x_a x_characters x_length (x_start + 1) x_end x_kind x_digit x_lastQ x_lastR x_lastT] : List ZW).flatten)) rfl trivial ?_
        exact ih _ _ h kk
      · rw [if_neg hc3] at h
        refine Go.br zk_X10_nextToken rfl rfl (fun q => absurd q hc3) (fun _ => ?_)
        obtain rfl := Option.some.inj h
        exact kk
    · rw [if_neg hc1] at h
      refine Go.br zk_X10_nextToken rfl rfl (fun q => absurd q hc1) (fun _ => ?_)
      obtain rfl := Option.some.inj h
      exact kk
set_option maxHeartbeats 4000000 in
set_option maxRecDepth 100000 in
theorem t_X10_nextToken_L139 {N : Nat} {x_p : Nat} {x_a : Nat → Nat} {x_characters : List Int32} {x_length : Int32} {x_start : Int32} {x_kind : Int32} {x_digit : Int32} {x_lastQ : Int32} {x_lastR : Int32} {x_lastT : Int32}  {Q : Option Value → ZW → Prop} : ∀ (fu : Nat) (x_end : Int32) (e : Int32), f_X10_nextToken_L139 N x_characters x_length fu x_end = some e → (Go l D r (z_rl xs) zm_X10_nextToken 0 0 (177, [some (.ref x_p), none], [], ([sTx x_p x_a x_characters x_length x_start e x_kind x_digit x_lastQ x_lastR x_lastT] : List ZW).flatten) Q) → Go l D r (z_rl xs) zm_X10_nextToken 0 0 (139, [some (.ref x_p), none], [], ([sTx x_p x_a x_characters x_length x_start x_end x_kind x_digit x_lastQ x_lastR x_lastT] : List ZW).flatten) Q := by
  intro fu
  induction fu with
  | zero =>
    intro x_end e h
    simp only [f_X10_nextToken_L139, reduceCtorEq] at h
  | succ fu ih =>
    intro x_end e h kk
    rw [f_X10_nextToken_L139] at h
    refine Go.blk zk_X10_nextToken [0, 0, 0, 0] (z' := (147, [some (.ref x_p), none], [.int x_length, .int x_end], ([sTx x_p x_a x_characters x_length x_start x_end x_kind x_digit x_lastQ x_lastR x_lastT] : List ZW).flatten)) rfl ⟨rfl, rfl, trivial⟩ ?_
    by_cases hc11 : x_end < x_length
    · rw [if_pos hc11] at h
      refine Go.br zk_X10_nextToken rfl rfl (fun _ => ?_) (fun q => absurd hc11 q)
      refine Go.blk zk_X10_nextToken [0, 0, 0] (z' := (155, [some (.ref x_p), none], [.int x_end, .ref x_p], ([sTx x_p x_a x_characters x_length x_start x_end x_kind x_digit x_lastQ x_lastR x_lastT] : List ZW).flatten)) rfl ⟨rfl, trivial⟩ ?_
      obtain ⟨u12, hu12, h⟩ := z_bind h
      refine Go.vs zk_X10_nextToken zm_X10_characterAt [0] [] 0 10 1 (S := [sTx x_p x_a x_characters x_length x_start x_end x_kind x_digit x_lastQ x_lastR x_lastT]) (S2 := [sTx x_p x_a x_characters x_length x_start x_end x_kind x_digit x_lastQ x_lastR x_lastT]) (As := [.int x_end]) (rest := []) (st2 := [.int u12]) (v1 := some (.int u12)) rfl zl_X10_97 zv_X10_characterAt ⟨Nat.le_of_ble_eq_true rfl, Nat.le_of_ble_eq_true rfl⟩ rfl (by decide) rfl rfl rfl rfl rfl (Nat.le_of_ble_eq_true rfl) (t_X10_characterAt hu12) rfl rfl rfl ?_
      obtain ⟨u13, hu13, h⟩ := z_bind h
      refine Go.ss zk_X10_nextToken zm_X10_isLetter [] [0] 1 (S := [sTx x_p x_a x_characters x_length x_start x_end x_kind x_digit x_lastQ x_lastR x_lastT]) (S2 := [sTx x_p x_a x_characters x_length x_start x_end x_kind x_digit x_lastQ x_lastR x_lastT]) (As := [.int u12]) (rest := []) (st2 := [.int u13]) (v1 := some (.int u13)) rfl zl_X10_106 zs_X10_isLetter ⟨Nat.le_of_ble_eq_true rfl, Nat.le_of_ble_eq_true rfl⟩ rfl (by decide) rfl rfl (Nat.le_of_ble_eq_true rfl) (t_X10_isLetter hu13) rfl rfl rfl ?_
      by_cases hc14 : u13 = 0
      · rw [if_pos hc14] at h
        refine Go.br zk_X10_nextToken rfl rfl (fun _ => ?_) (fun q => absurd hc14 q)
        obtain rfl := Option.some.inj h
        exact kk
      · rw [if_neg hc14] at h
        refine Go.br zk_X10_nextToken rfl rfl (fun q => absurd q hc14) (fun _ => ?_)
        refine Go.blk zk_X10_nextToken [0, 0, 0, 0, 0] (z' := (171, [some (.ref x_p), none], [.int (x_end + 1), .ref x_p], ([sTx x_p x_a x_characters x_length x_start x_end x_kind x_digit x_lastQ x_lastR x_lastT] : List ZW).flatten)) rfl ⟨rfl, trivial⟩ ?_
        refine Go.put zk_X10_nextToken 0 rfl rfl rfl rfl rfl (Nat.le_of_ble_eq_true rfl) ?_
        refine Go.eqz (z2 := (174, [some (.ref x_p), none], [], ([sTx x_p x_a x_characters x_length x_start (x_end + 1) x_kind x_digit x_lastQ x_lastR x_lastT] : List ZW).flatten)) rfl ?_
        refine Go.blk zk_X10_nextToken [0] (z' := (139, [some (.ref x_p), none], [], ([sTx x_p x_a x_characters x_length x_start (x_end + 1) x_kind x_digit x_lastQ x_lastR x_lastT] : List ZW).flatten)) rfl trivial ?_
        exact ih _ _ h kk
    · rw [if_neg hc11] at h
      refine Go.br zk_X10_nextToken rfl rfl (fun q => absurd q hc11) (fun _ => ?_)
      obtain rfl := Option.some.inj h
      exact kk
set_option maxHeartbeats 4000000 in
set_option maxRecDepth 100000 in
theorem t_X10_nextToken {N : Nat} {x_p : Nat} {x_a : Nat → Nat} {x_characters : List Int32} {x_length : Int32} {x_start : Int32} {x_end : Int32} {x_kind : Int32} {x_digit : Int32} {x_lastQ : Int32} {x_lastR : Int32} {x_lastT : Int32} {u : Int32 × Int32 × Int32 × Int32}  (h : f_X10_nextToken N x_characters x_length x_end x_digit = some u) : Ct l D r (z_rl xs) zm_X10_nextToken 0 0 [.ref x_p] ([sTx x_p x_a x_characters x_length x_start x_end x_kind x_digit x_lastQ x_lastR x_lastT] : List ZW).flatten (fun v' w' => v' = none ∧ w' = ([sTx x_p x_a x_characters x_length u.1 u.2.1 u.2.2.1 u.2.2.2 x_lastQ x_lastR x_lastT] : List ZW).flatten) := by
  refine Ct.of (by decide +kernel) rfl (fun q => absurd q (by decide)) (Nat.le_of_ble_eq_true rfl) ?_
  refine Go.eqz (z2 := (0, [some (.ref x_p), none], [], ([sTx x_p x_a x_characters x_length x_start x_end x_kind x_digit x_lastQ x_lastR x_lastT] : List ZW).flatten)) rfl ?_
  unfold f_X10_nextToken at h
  refine Go.blk zk_X10_nextToken [0, 0, 0] (z' := (5, [some (.ref x_p), none], [.int x_end, .ref x_p], ([sTx x_p x_a x_characters x_length x_start x_end x_kind x_digit x_lastQ x_lastR x_lastT] : List ZW).flatten)) rfl ⟨rfl, trivial⟩ ?_
  refine Go.put zk_X10_nextToken 0 rfl rfl rfl rfl rfl (Nat.le_of_ble_eq_true rfl) ?_
  refine Go.eqz (z2 := (8, [some (.ref x_p), none], [], ([sTx x_p x_a x_characters x_length x_end x_end x_kind x_digit x_lastQ x_lastR x_lastT] : List ZW).flatten)) rfl ?_
  obtain ⟨e4, he4, h⟩ := z_bind h
  refine t_X10_nextToken_L8 N _ _ he4 ?_
  refine Go.blk zk_X10_nextToken [0, 0, 0] (z' := (50, [some (.ref x_p), none], [.int e4, .ref x_p], ([sTx x_p x_a x_characters x_length e4 x_end x_kind x_digit x_lastQ x_lastR x_lastT] : List ZW).flatten)) rfl ⟨rfl, trivial⟩ ?_
  obtain ⟨u5, hu5, h⟩ := z_bind h
  refine Go.vs zk_X10_nextToken zm_X10_characterAt [0] [] 0 10 1 (S := [sTx x_p x_a x_characters x_length e4 x_end x_kind x_digit x_lastQ x_lastR x_lastT]) (S2 := [sTx x_p x_a x_characters x_length e4 x_end x_kind x_digit x_lastQ x_lastR x_lastT]) (As := [.int e4]) (rest := []) (st2 := [.int u5]) (v1 := some (.int u5)) rfl zl_X10_97 zv_X10_characterAt ⟨Nat.le_of_ble_eq_true rfl, Nat.le_of_ble_eq_true rfl⟩ rfl (by decide) rfl rfl rfl rfl rfl (Nat.le_of_ble_eq_true rfl) (t_X10_characterAt hu5) rfl rfl rfl ?_
  refine Go.blk zk_X10_nextToken [0, 0, 0, 0, 0, 0, 0, 0] (z' := (65, [some (.ref x_p), some (.int u5)], [.int x_length, .int (e4 + 1), .ref x_p], ([sTx x_p x_a x_characters x_length e4 x_end x_kind x_digit x_lastQ x_lastR x_lastT] : List ZW).flatten)) rfl ⟨rfl, rfl, trivial⟩ ?_
  refine Go.mmin zk_X10_nextToken rfl zl_X10_100 ⟨Nat.le_of_ble_eq_true rfl, Nat.le_of_ble_eq_true rfl⟩ zw_min ?_
  refine Go.put zk_X10_nextToken 0 rfl rfl rfl rfl rfl (Nat.le_of_ble_eq_true rfl) ?_
  refine Go.eqz (z2 := (71, [some (.ref x_p), some (.int u5)], [], ([sTx x_p x_a x_characters x_length e4 (if x_length < (e4 + 1) then x_length else e4 + 1) x_kind x_digit x_lastQ x_lastR x_lastT] : List ZW).flatten)) rfl ?_
  refine Go.blk zk_X10_nextToken [0, 0, 0, 0] (z' := (79, [some (.ref x_p), some (.int u5)], [.int x_length, .int e4], ([sTx x_p x_a x_characters x_length e4 (if x_length < (e4 + 1) then x_length else e4 + 1) x_kind x_digit x_lastQ x_lastR x_lastT] : List ZW).flatten)) rfl ⟨rfl, rfl, trivial⟩ ?_
  by_cases hc6 : e4 < x_length
  · rw [if_pos hc6] at h
    refine Go.br zk_X10_nextToken rfl rfl (fun _ => ?_) (fun q => absurd hc6 q)
    refine Go.blk zk_X10_nextToken [0, 0] (z' := (93, [some (.ref x_p), some (.int u5)], [.int 48, .int u5], ([sTx x_p x_a x_characters x_length e4 (if x_length < (e4 + 1) then x_length else e4 + 1) x_kind x_digit x_lastQ x_lastR x_lastT] : List ZW).flatten)) rfl trivial ?_
    by_cases hc7 : u5 < 48
    · rw [if_pos hc7] at h
      refine Go.br zk_X10_nextToken rfl rfl (fun _ => ?_) (fun q => absurd hc7 q)
      refine Go.blk zk_X10_nextToken [0, 0] (z' := (121, [some (.ref x_p), some (.int u5)], [.int 59, .int u5], ([sTx x_p x_a x_characters x_length e4 (if x_length < (e4 + 1) then x_length else e4 + 1) x_kind x_digit x_lastQ x_lastR x_lastT] : List ZW).flatten)) rfl trivial ?_
      by_cases hc8 : u5 = 59
      · rw [if_pos hc8] at h
        refine Go.br zk_X10_nextToken rfl rfl (fun _ => ?_) (fun q => absurd hc8 q)
        refine Go.blk zk_X10_nextToken [0, 0] (z' := (126, [some (.ref x_p), some (.int u5)], [.int 4, .ref x_p], ([sTx x_p x_a x_characters x_length e4 (if x_length < (e4 + 1) then x_length else e4 + 1) x_kind x_digit x_lastQ x_lastR x_lastT] : List ZW).flatten)) rfl trivial ?_
        refine Go.put zk_X10_nextToken 0 rfl rfl rfl rfl rfl (Nat.le_of_ble_eq_true rfl) ?_
        refine Go.eqz (z2 := (129, [some (.ref x_p), some (.int u5)], [], ([sTx x_p x_a x_characters x_length e4 (if x_length < (e4 + 1) then x_length else e4 + 1) 4 x_digit x_lastQ x_lastR x_lastT] : List ZW).flatten)) rfl ?_
        refine Go.blk zk_X10_nextToken [0] (z' := (220, [some (.ref x_p), some (.int u5)], [], ([sTx x_p x_a x_characters x_length e4 (if x_length < (e4 + 1) then x_length else e4 + 1) 4 x_digit x_lastQ x_lastR x_lastT] : List ZW).flatten)) rfl trivial ?_
        obtain rfl := Option.some.inj h
        exact Go.vret zk_X10_nextToken rfl rfl ⟨rfl, rfl⟩
      · rw [if_neg hc8] at h
        refine Go.br zk_X10_nextToken rfl rfl (fun q => absurd q hc8) (fun _ => ?_)
        refine Go.blk zk_X10_nextToken [0] (z' := (133, [some (.ref x_p), some (.int u5)], [.int u5], ([sTx x_p x_a x_characters x_length e4 (if x_length < (e4 + 1) then x_length else e4 + 1) x_kind x_digit x_lastQ x_lastR x_lastT] : List ZW).flatten)) rfl trivial ?_
        obtain ⟨u9, hu9, h⟩ := z_bind h
        refine Go.ss zk_X10_nextToken zm_X10_isLetter [] [0] 1 (S := [sTx x_p x_a x_characters x_length e4 (if x_length < (e4 + 1) then x_length else e4 + 1) x_kind x_digit x_lastQ x_lastR x_lastT]) (S2 := [sTx x_p x_a x_characters x_length e4 (if x_length < (e4 + 1) then x_length else e4 + 1) x_kind x_digit x_lastQ x_lastR x_lastT]) (As := [.int u5]) (rest := []) (st2 := [.int u9]) (v1 := some (.int u9)) rfl zl_X10_106 zs_X10_isLetter ⟨Nat.le_of_ble_eq_true rfl, Nat.le_of_ble_eq_true rfl⟩ rfl (by decide) rfl rfl (Nat.le_of_ble_eq_true rfl) (t_X10_isLetter hu9) rfl rfl rfl ?_
        by_cases hc10 : u9 = 0
        · rw [if_pos hc10] at h
          refine Go.br zk_X10_nextToken rfl rfl (fun _ => ?_) (fun q => absurd hc10 q)
          refine Go.blk zk_X10_nextToken [0, 0] (z' := (217, [some (.ref x_p), some (.int u5)], [.int 5, .ref x_p], ([sTx x_p x_a x_characters x_length e4 (if x_length < (e4 + 1) then x_length else e4 + 1) x_kind x_digit x_lastQ x_lastR x_lastT] : List ZW).flatten)) rfl trivial ?_
          refine Go.put zk_X10_nextToken 0 rfl rfl rfl rfl rfl (Nat.le_of_ble_eq_true rfl) ?_
          refine Go.eqz (z2 := (220, [some (.ref x_p), some (.int u5)], [], ([sTx x_p x_a x_characters x_length e4 (if x_length < (e4 + 1) then x_length else e4 + 1) 5 x_digit x_lastQ x_lastR x_lastT] : List ZW).flatten)) rfl ?_
          obtain rfl := Option.some.inj h
          exact Go.vret zk_X10_nextToken rfl rfl ⟨rfl, rfl⟩
        · rw [if_neg hc10] at h
          refine Go.br zk_X10_nextToken rfl rfl (fun q => absurd q hc10) (fun _ => ?_)
          refine Go.weak (L := [some (.ref x_p), some (.int u5)]) (L' := [some (.ref x_p), none]) (And.intro rfl (trivial)) ?_
          obtain ⟨e15, he15, h⟩ := z_bind h
          refine t_X10_nextToken_L139 N _ _ he15 ?_
          refine Go.blk zk_X10_nextToken [0, 0, 0, 0] (z' := (183, [some (.ref x_p), none], [.int 116, .int 97, .ref x_p, .ref x_p], ([sTx x_p x_a x_characters x_length e4 e15 x_kind x_digit x_lastQ x_lastR x_lastT] : List ZW).flatten)) rfl trivial ?_
          obtain ⟨u16, hu16, h⟩ := z_bind h
          refine Go.vs zk_X10_nextToken zm_X10_isWord [0] [] 0 10 1 (S := [sTx x_p x_a x_characters x_length e4 e15 x_kind x_digit x_lastQ x_lastR x_lastT]) (S2 := [sTx x_p x_a x_characters x_length e4 e15 x_kind x_digit x_lastQ x_lastR x_lastT]) (As := [.int 97, .int 116]) (rest := [.ref x_p]) (st2 := [.int u16, .ref x_p]) (v1 := some (.int u16)) rfl zl_X10_110 zv_X10_isWord ⟨Nat.le_of_ble_eq_true rfl, Nat.le_of_ble_eq_true rfl⟩ rfl (by decide) rfl rfl rfl rfl rfl (Nat.le_of_ble_eq_true rfl) (t_X10_isWord hu16) rfl rfl rfl ?_
          by_cases hc17 : u16 = 0
          · rw [if_pos hc17] at h
            refine Go.br zk_X10_nextToken rfl rfl (fun _ => ?_) (fun q => absurd hc17 q)
            refine Go.blk zk_X10_nextToken [0, 0, 0] (z' := (198, [some (.ref x_p), none], [.int 111, .int 103, .ref x_p, .ref x_p], ([sTx x_p x_a x_characters x_length e4 e15 x_kind x_digit x_lastQ x_lastR x_lastT] : List ZW).flatten)) rfl trivial ?_
            obtain ⟨u18, hu18, h⟩ := z_bind h
            refine Go.vs zk_X10_nextToken zm_X10_isWord [0] [] 0 10 1 (S := [sTx x_p x_a x_characters x_length e4 e15 x_kind x_digit x_lastQ x_lastR x_lastT]) (S2 := [sTx x_p x_a x_characters x_length e4 e15 x_kind x_digit x_lastQ x_lastR x_lastT]) (As := [.int 103, .int 111]) (rest := [.ref x_p]) (st2 := [.int u18, .ref x_p]) (v1 := some (.int u18)) rfl zl_X10_110 zv_X10_isWord ⟨Nat.le_of_ble_eq_true rfl, Nat.le_of_ble_eq_true rfl⟩ rfl (by decide) rfl rfl rfl rfl rfl (Nat.le_of_ble_eq_true rfl) (t_X10_isWord hu18) rfl rfl rfl ?_
            by_cases hc19 : u18 = 0
            · rw [if_pos hc19] at h
              refine Go.br zk_X10_nextToken rfl rfl (fun _ => ?_) (fun q => absurd hc19 q)
              refine Go.blk zk_X10_nextToken [0] (z' := (209, [some (.ref x_p), none], [.int 5, .ref x_p], ([sTx x_p x_a x_characters x_length e4 e15 x_kind x_digit x_lastQ x_lastR x_lastT] : List ZW).flatten)) rfl trivial ?_
              refine Go.put zk_X10_nextToken 0 rfl rfl rfl rfl rfl (Nat.le_of_ble_eq_true rfl) ?_
              refine Go.eqz (z2 := (212, [some (.ref x_p), none], [], ([sTx x_p x_a x_characters x_length e4 e15 5 x_digit x_lastQ x_lastR x_lastT] : List ZW).flatten)) rfl ?_
              refine Go.blk zk_X10_nextToken [0] (z' := (220, [some (.ref x_p), none], [], ([sTx x_p x_a x_characters x_length e4 e15 5 x_digit x_lastQ x_lastR x_lastT] : List ZW).flatten)) rfl trivial ?_
              obtain rfl := Option.some.inj h
              exact Go.vret zk_X10_nextToken rfl rfl ⟨rfl, rfl⟩
            · rw [if_neg hc19] at h
              refine Go.br zk_X10_nextToken rfl rfl (fun q => absurd q hc19) (fun _ => ?_)
              refine Go.blk zk_X10_nextToken [0, 0] (z' := (209, [some (.ref x_p), none], [.int 2, .ref x_p], ([sTx x_p x_a x_characters x_length e4 e15 x_kind x_digit x_lastQ x_lastR x_lastT] : List ZW).flatten)) rfl trivial ?_
              refine Go.put zk_X10_nextToken 0 rfl rfl rfl rfl rfl (Nat.le_of_ble_eq_true rfl) ?_
              refine Go.eqz (z2 := (212, [some (.ref x_p), none], [], ([sTx x_p x_a x_characters x_length e4 e15 2 x_digit x_lastQ x_lastR x_lastT] : List ZW).flatten)) rfl ?_
              refine Go.blk zk_X10_nextToken [0] (z' := (220, [some (.ref x_p), none], [], ([sTx x_p x_a x_characters x_length e4 e15 2 x_digit x_lastQ x_lastR x_lastT] : List ZW).flatten)) rfl trivial ?_
              obtain rfl := Option.some.inj h
              exact Go.vret zk_X10_nextToken rfl rfl ⟨rfl, rfl⟩
          · rw [if_neg hc17] at h
            refine Go.br zk_X10_nextToken rfl rfl (fun q => absurd q hc17) (fun _ => ?_)
            refine Go.blk zk_X10_nextToken [0, 0] (z' := (209, [some (.ref x_p), none], [.int 1, .ref x_p], ([sTx x_p x_a x_characters x_length e4 e15 x_kind x_digit x_lastQ x_lastR x_lastT] : List ZW).flatten)) rfl trivial ?_
            refine Go.put zk_X10_nextToken 0 rfl rfl rfl rfl rfl (Nat.le_of_ble_eq_true rfl) ?_
            refine Go.eqz (z2 := (212, [some (.ref x_p), none], [], ([sTx x_p x_a x_characters x_length e4 e15 1 x_digit x_lastQ x_lastR x_lastT] : List ZW).flatten)) rfl ?_
            refine Go.blk zk_X10_nextToken [0] (z' := (220, [some (.ref x_p), none], [], ([sTx x_p x_a x_characters x_length e4 e15 1 x_digit x_lastQ x_lastR x_lastT] : List ZW).flatten)) rfl trivial ?_
            obtain rfl := Option.some.inj h
            exact Go.vret zk_X10_nextToken rfl rfl ⟨rfl, rfl⟩
    · rw [if_neg hc7] at h
      refine Go.br zk_X10_nextToken rfl rfl (fun q => absurd q hc7) (fun _ => ?_)
      refine Go.blk zk_X10_nextToken [0, 0] (z' := (99, [some (.ref x_p), some (.int u5)], [.int 57, .int u5], ([sTx x_p x_a x_characters x_length e4 (if x_length < (e4 + 1) then x_length else e4 + 1) x_kind x_digit x_lastQ x_lastR x_lastT] : List ZW).flatten)) rfl trivial ?_
      by_cases hc20 : 57 < u5
      · rw [if_pos hc20] at h
        refine Go.br zk_X10_nextToken rfl rfl (fun _ => ?_) (fun q => absurd hc20 q)
        refine Go.blk zk_X10_nextToken [0, 0] (z' := (121, [some (.ref x_p), some (.int u5)], [.int 59, .int u5], ([sTx x_p x_a x_characters x_length e4 (if x_length < (e4 + 1) then x_length else e4 + 1) x_kind x_digit x_lastQ x_lastR x_lastT] : List ZW).flatten)) rfl trivial ?_
        by_cases hc21 : u5 = 59
        · rw [if_pos hc21] at h
          refine Go.br zk_X10_nextToken rfl rfl (fun _ => ?_) (fun q => absurd hc21 q)
          refine Go.blk zk_X10_nextToken [0, 0] (z' := (126, [some (.ref x_p), some (.int u5)], [.int 4, .ref x_p], ([sTx x_p x_a x_characters x_length e4 (if x_length < (e4 + 1) then x_length else e4 + 1) x_kind x_digit x_lastQ x_lastR x_lastT] : List ZW).flatten)) rfl trivial ?_
          refine Go.put zk_X10_nextToken 0 rfl rfl rfl rfl rfl (Nat.le_of_ble_eq_true rfl) ?_
          refine Go.eqz (z2 := (129, [some (.ref x_p), some (.int u5)], [], ([sTx x_p x_a x_characters x_length e4 (if x_length < (e4 + 1) then x_length else e4 + 1) 4 x_digit x_lastQ x_lastR x_lastT] : List ZW).flatten)) rfl ?_
          refine Go.blk zk_X10_nextToken [0] (z' := (220, [some (.ref x_p), some (.int u5)], [], ([sTx x_p x_a x_characters x_length e4 (if x_length < (e4 + 1) then x_length else e4 + 1) 4 x_digit x_lastQ x_lastR x_lastT] : List ZW).flatten)) rfl trivial ?_
          obtain rfl := Option.some.inj h
          exact Go.vret zk_X10_nextToken rfl rfl ⟨rfl, rfl⟩
        · rw [if_neg hc21] at h
          refine Go.br zk_X10_nextToken rfl rfl (fun q => absurd q hc21) (fun _ => ?_)
          refine Go.blk zk_X10_nextToken [0] (z' := (133, [some (.ref x_p), some (.int u5)], [.int u5], ([sTx x_p x_a x_characters x_length e4 (if x_length < (e4 + 1) then x_length else e4 + 1) x_kind x_digit x_lastQ x_lastR x_lastT] : List ZW).flatten)) rfl trivial ?_
          obtain ⟨u22, hu22, h⟩ := z_bind h
          refine Go.ss zk_X10_nextToken zm_X10_isLetter [] [0] 1 (S := [sTx x_p x_a x_characters x_length e4 (if x_length < (e4 + 1) then x_length else e4 + 1) x_kind x_digit x_lastQ x_lastR x_lastT]) (S2 := [sTx x_p x_a x_characters x_length e4 (if x_length < (e4 + 1) then x_length else e4 + 1) x_kind x_digit x_lastQ x_lastR x_lastT]) (As := [.int u5]) (rest := []) (st2 := [.int u22]) (v1 := some (.int u22)) rfl zl_X10_106 zs_X10_isLetter ⟨Nat.le_of_ble_eq_true rfl, Nat.le_of_ble_eq_true rfl⟩ rfl (by decide) rfl rfl (Nat.le_of_ble_eq_true rfl) (t_X10_isLetter hu22) rfl rfl rfl ?_
          by_cases hc23 : u22 = 0
          · rw [if_pos hc23] at h
            refine Go.br zk_X10_nextToken rfl rfl (fun _ => ?_) (fun q => absurd hc23 q)
            refine Go.blk zk_X10_nextToken [0, 0] (z' := (217, [some (.ref x_p), some (.int u5)], [.int 5, .ref x_p], ([sTx x_p x_a x_characters x_length e4 (if x_length < (e4 + 1) then x_length else e4 + 1) x_kind x_digit x_lastQ x_lastR x_lastT] : List ZW).flatten)) rfl trivial ?_
            refine Go.put zk_X10_nextToken 0 rfl rfl rfl rfl rfl (Nat.le_of_ble_eq_true rfl) ?_
            refine Go.eqz (z2 := (220, [some (.ref x_p), some (.int u5)], [], ([sTx x_p x_a x_characters x_length e4 (if x_length < (e4 + 1) then x_length else e4 + 1) 5 x_digit x_lastQ x_lastR x_lastT] : List ZW).flatten)) rfl ?_
            obtain rfl := Option.some.inj h
            exact Go.vret zk_X10_nextToken rfl rfl ⟨rfl, rfl⟩
          · rw [if_neg hc23] at h
            refine Go.br zk_X10_nextToken rfl rfl (fun q => absurd q hc23) (fun _ => ?_)
            refine Go.weak (L := [some (.ref x_p), some (.int u5)]) (L' := [some (.ref x_p), none]) (And.intro rfl (trivial)) ?_
            obtain ⟨e24, he24, h⟩ := z_bind h
            refine t_X10_nextToken_L139 N _ _ he24 ?_
            refine Go.blk zk_X10_nextToken [0, 0, 0, 0] (z' := (183, [some (.ref x_p), none], [.int 116, .int 97, .ref x_p, .ref x_p], ([sTx x_p x_a x_characters x_length e4 e24 x_kind x_digit x_lastQ x_lastR x_lastT] : List ZW).flatten)) rfl trivial ?_
            obtain ⟨u25, hu25, h⟩ := z_bind h
            refine Go.vs zk_X10_nextToken zm_X10_isWord [0] [] 0 10 1 (S := [sTx x_p x_a x_characters x_length e4 e24 x_kind x_digit x_lastQ x_lastR x_lastT]) (S2 := [sTx x_p x_a x_characters x_length e4 e24 x_kind x_digit x_lastQ x_lastR x_lastT]) (As := [.int 97, .int 116]) (rest := [.ref x_p]) (st2 := [.int u25, .ref x_p]) (v1 := some (.int u25)) rfl zl_X10_110 zv_X10_isWord ⟨Nat.le_of_ble_eq_true rfl, Nat.le_of_ble_eq_true rfl⟩ rfl (by decide) rfl rfl rfl rfl rfl (Nat.le_of_ble_eq_true rfl) (t_X10_isWord hu25) rfl rfl rfl ?_
            by_cases hc26 : u25 = 0
            · rw [if_pos hc26] at h
              refine Go.br zk_X10_nextToken rfl rfl (fun _ => ?_) (fun q => absurd hc26 q)
              refine Go.blk zk_X10_nextToken [0, 0, 0] (z' := (198, [some (.ref x_p), none], [.int 111, .int 103, .ref x_p, .ref x_p], ([sTx x_p x_a x_characters x_length e4 e24 x_kind x_digit x_lastQ x_lastR x_lastT] : List ZW).flatten)) rfl trivial ?_
              obtain ⟨u27, hu27, h⟩ := z_bind h
              refine Go.vs zk_X10_nextToken zm_X10_isWord [0] [] 0 10 1 (S := [sTx x_p x_a x_characters x_length e4 e24 x_kind x_digit x_lastQ x_lastR x_lastT]) (S2 := [sTx x_p x_a x_characters x_length e4 e24 x_kind x_digit x_lastQ x_lastR x_lastT]) (As := [.int 103, .int 111]) (rest := [.ref x_p]) (st2 := [.int u27, .ref x_p]) (v1 := some (.int u27)) rfl zl_X10_110 zv_X10_isWord ⟨Nat.le_of_ble_eq_true rfl, Nat.le_of_ble_eq_true rfl⟩ rfl (by decide) rfl rfl rfl rfl rfl (Nat.le_of_ble_eq_true rfl) (t_X10_isWord hu27) rfl rfl rfl ?_
              by_cases hc28 : u27 = 0
              · rw [if_pos hc28] at h
                refine Go.br zk_X10_nextToken rfl rfl (fun _ => ?_) (fun q => absurd hc28 q)
                refine Go.blk zk_X10_nextToken [0] (z' := (209, [some (.ref x_p), none], [.int 5, .ref x_p], ([sTx x_p x_a x_characters x_length e4 e24 x_kind x_digit x_lastQ x_lastR x_lastT] : List ZW).flatten)) rfl trivial ?_
                refine Go.put zk_X10_nextToken 0 rfl rfl rfl rfl rfl (Nat.le_of_ble_eq_true rfl) ?_
                refine Go.eqz (z2 := (212, [some (.ref x_p), none], [], ([sTx x_p x_a x_characters x_length e4 e24 5 x_digit x_lastQ x_lastR x_lastT] : List ZW).flatten)) rfl ?_
                refine Go.blk zk_X10_nextToken [0] (z' := (220, [some (.ref x_p), none], [], ([sTx x_p x_a x_characters x_length e4 e24 5 x_digit x_lastQ x_lastR x_lastT] : List ZW).flatten)) rfl trivial ?_
                obtain rfl := Option.some.inj h
                exact Go.vret zk_X10_nextToken rfl rfl ⟨rfl, rfl⟩
              · rw [if_neg hc28] at h
                refine Go.br zk_X10_nextToken rfl rfl (fun q => absurd q hc28) (fun _ => ?_)
                refine Go.blk zk_X10_nextToken [0, 0] (z' := (209, [some (.ref x_p), none], [.int 2, .ref x_p], ([sTx x_p x_a x_characters x_length e4 e24 x_kind x_digit x_lastQ x_lastR x_lastT] : List ZW).flatten)) rfl trivial ?_
                refine Go.put zk_X10_nextToken 0 rfl rfl rfl rfl rfl (Nat.le_of_ble_eq_true rfl) ?_
                refine Go.eqz (z2 := (212, [some (.ref x_p), none], [], ([sTx x_p x_a x_characters x_length e4 e24 2 x_digit x_lastQ x_lastR x_lastT] : List ZW).flatten)) rfl ?_
                refine Go.blk zk_X10_nextToken [0] (z' := (220, [some (.ref x_p), none], [], ([sTx x_p x_a x_characters x_length e4 e24 2 x_digit x_lastQ x_lastR x_lastT] : List ZW).flatten)) rfl trivial ?_
                obtain rfl := Option.some.inj h
                exact Go.vret zk_X10_nextToken rfl rfl ⟨rfl, rfl⟩
            · rw [if_neg hc26] at h
              refine Go.br zk_X10_nextToken rfl rfl (fun q => absurd q hc26) (fun _ => ?_)
              refine Go.blk zk_X10_nextToken [0, 0] (z' := (209, [some (.ref x_p), none], [.int 1, .ref x_p], ([sTx x_p x_a x_characters x_length e4 e24 x_kind x_digit x_lastQ x_lastR x_lastT] : List ZW).flatten)) rfl trivial ?_
              refine Go.put zk_X10_nextToken 0 rfl rfl rfl rfl rfl (Nat.le_of_ble_eq_true rfl) ?_
              refine Go.eqz (z2 := (212, [some (.ref x_p), none], [], ([sTx x_p x_a x_characters x_length e4 e24 1 x_digit x_lastQ x_lastR x_lastT] : List ZW).flatten)) rfl ?_
              refine Go.blk zk_X10_nextToken [0] (z' := (220, [some (.ref x_p), none], [], ([sTx x_p x_a x_characters x_length e4 e24 1 x_digit x_lastQ x_lastR x_lastT] : List ZW).flatten)) rfl trivial ?_
              obtain rfl := Option.some.inj h
              exact Go.vret zk_X10_nextToken rfl rfl ⟨rfl, rfl⟩
      · rw [if_neg hc20] at h
        refine Go.br zk_X10_nextToken rfl rfl (fun q => absurd q hc20) (fun _ => ?_)
        refine Go.blk zk_X10_nextToken [0, 0] (z' := (104, [some (.ref x_p), some (.int u5)], [.int 3, .ref x_p], ([sTx x_p x_a x_characters x_length e4 (if x_length < (e4 + 1) then x_length else e4 + 1) x_kind x_digit x_lastQ x_lastR x_lastT] : List ZW).flatten)) rfl trivial ?_
        refine Go.put zk_X10_nextToken 0 rfl rfl rfl rfl rfl (Nat.le_of_ble_eq_true rfl) ?_
        refine Go.eqz (z2 := (107, [some (.ref x_p), some (.int u5)], [], ([sTx x_p x_a x_characters x_length e4 (if x_length < (e4 + 1) then x_length else e4 + 1) 3 x_digit x_lastQ x_lastR x_lastT] : List ZW).flatten)) rfl ?_
        refine Go.blk zk_X10_nextToken [0, 0, 0, 0] (z' := (112, [some (.ref x_p), some (.int u5)], [.int (u5 - 48), .ref x_p], ([sTx x_p x_a x_characters x_length e4 (if x_length < (e4 + 1) then x_length else e4 + 1) 3 x_digit x_lastQ x_lastR x_lastT] : List ZW).flatten)) rfl trivial ?_
        refine Go.put zk_X10_nextToken 0 rfl rfl rfl rfl rfl (Nat.le_of_ble_eq_true rfl) ?_
        refine Go.eqz (z2 := (115, [some (.ref x_p), some (.int u5)], [], ([sTx x_p x_a x_characters x_length e4 (if x_length < (e4 + 1) then x_length else e4 + 1) 3 (u5 - 48) x_lastQ x_lastR x_lastT] : List ZW).flatten)) rfl ?_
        refine Go.blk zk_X10_nextToken [0] (z' := (220, [some (.ref x_p), some (.int u5)], [], ([sTx x_p x_a x_characters x_length e4 (if x_length < (e4 + 1) then x_length else e4 + 1) 3 (u5 - 48) x_lastQ x_lastR x_lastT] : List ZW).flatten)) rfl trivial ?_
        obtain rfl := Option.some.inj h
        exact Go.vret zk_X10_nextToken rfl rfl ⟨rfl, rfl⟩
  · rw [if_neg hc6] at h
    refine Go.br zk_X10_nextToken rfl rfl (fun q => absurd q hc6) (fun _ => ?_)
    refine Go.blk zk_X10_nextToken [0, 0] (z' := (84, [some (.ref x_p), some (.int u5)], [.int 0, .ref x_p], ([sTx x_p x_a x_characters x_length e4 (if x_length < (e4 + 1) then x_length else e4 + 1) x_kind x_digit x_lastQ x_lastR x_lastT] : List ZW).flatten)) rfl trivial ?_
    refine Go.put zk_X10_nextToken 0 rfl rfl rfl rfl rfl (Nat.le_of_ble_eq_true rfl) ?_
    refine Go.eqz (z2 := (87, [some (.ref x_p), some (.int u5)], [], ([sTx x_p x_a x_characters x_length e4 (if x_length < (e4 + 1) then x_length else e4 + 1) 0 x_digit x_lastQ x_lastR x_lastT] : List ZW).flatten)) rfl ?_
    refine Go.blk zk_X10_nextToken [0] (z' := (220, [some (.ref x_p), some (.int u5)], [], ([sTx x_p x_a x_characters x_length e4 (if x_length < (e4 + 1) then x_length else e4 + 1) 0 x_digit x_lastQ x_lastR x_lastT] : List ZW).flatten)) rfl trivial ?_
    obtain rfl := Option.some.inj h
    exact Go.vret zk_X10_nextToken rfl rfl ⟨rfl, rfl⟩
set_option maxHeartbeats 4000000 in
set_option maxRecDepth 100000 in
theorem t_X10_nextDigit {N : Nat} {x_p : Nat} {x_a : Nat → Nat} {x_characters : List Int32} {x_length : Int32} {x_start : Int32} {x_end : Int32} {x_kind : Int32} {x_digit : Int32} {x_lastQ : Int32} {x_lastR : Int32} {x_lastT : Int32} {u : Int32 × Int32 × Int32 × Int32 × Int32}  (h : f_X10_nextDigit N x_characters x_length x_end x_digit = some u) : Ct l D r (z_rl xs) zm_X10_nextDigit 0 0 [.ref x_p] ([sTx x_p x_a x_characters x_length x_start x_end x_kind x_digit x_lastQ x_lastR x_lastT] : List ZW).flatten (fun v' w' => v' = some (.int u.1) ∧ w' = ([sTx x_p x_a x_characters x_length u.2.1 u.2.2.1 u.2.2.2.1 u.2.2.2.2 x_lastQ x_lastR x_lastT] : List ZW).flatten) := by
  refine Ct.of (by decide +kernel) rfl (fun q => absurd q (by decide)) (Nat.le_of_ble_eq_true rfl) ?_
  refine Go.eqz (z2 := (0, [some (.ref x_p)], [], ([sTx x_p x_a x_characters x_length x_start x_end x_kind x_digit x_lastQ x_lastR x_lastT] : List ZW).flatten)) rfl ?_
  unfold f_X10_nextDigit at h
  refine Go.blk zk_X10_nextDigit [0] (z' := (1, [some (.ref x_p)], [.ref x_p], ([sTx x_p x_a x_characters x_length x_start x_end x_kind x_digit x_lastQ x_lastR x_lastT] : List ZW).flatten)) rfl trivial ?_
  obtain ⟨u1, hu1, h⟩ := z_bind h
  refine Go.vs zk_X10_nextDigit zm_X10_nextToken [0] [] 0 10 1 (S := [sTx x_p x_a x_characters x_length x_start x_end x_kind x_digit x_lastQ x_lastR x_lastT]) (S2 := [sTx x_p x_a x_characters x_length u1.1 u1.2.1 u1.2.2.1 u1.2.2.2 x_lastQ x_lastR x_lastT]) (As := []) (rest := []) (st2 := []) (v1 := none) rfl zl_X10_25 zv_X10_nextToken ⟨Nat.le_of_ble_eq_true rfl, Nat.le_of_ble_eq_true rfl⟩ rfl (by decide) rfl rfl rfl rfl rfl (Nat.le_of_ble_eq_true rfl) (t_X10_nextToken hu1) rfl rfl rfl ?_
  refine Go.blk zk_X10_nextDigit [0, 0, 0] (z' := (9, [some (.ref x_p)], [.int 3, .int u1.2.2.1], ([sTx x_p x_a x_characters x_length u1.1 u1.2.1 u1.2.2.1 u1.2.2.2 x_lastQ x_lastR x_lastT] : List ZW).flatten)) rfl ⟨rfl, trivial⟩ ?_
  by_cases hc2 : u1.2.2.1 = 3
  · rw [if_pos hc2] at h
    refine Go.br zk_X10_nextDigit rfl rfl (fun _ => ?_) (fun q => absurd hc2 q)
    refine Go.blk zk_X10_nextDigit [0, 0] (z' := (17, [some (.ref x_p)], [.int 1], ([sTx x_p x_a x_characters x_length u1.1 u1.2.1 u1.2.2.1 u1.2.2.2 x_lastQ x_lastR x_lastT] : List ZW).flatten)) rfl trivial ?_
    obtain rfl := Option.some.inj h
    exact Go.iret zk_X10_nextDigit rfl rfl rfl ⟨rfl, rfl⟩
  · rw [if_neg hc2] at h
    refine Go.br zk_X10_nextDigit rfl rfl (fun q => absurd q hc2) (fun _ => ?_)
    refine Go.blk zk_X10_nextDigit [0] (z' := (17, [some (.ref x_p)], [.int 0], ([sTx x_p x_a x_characters x_length u1.1 u1.2.1 u1.2.2.1 u1.2.2.2 x_lastQ x_lastR x_lastT] : List ZW).flatten)) rfl trivial ?_
    obtain rfl := Option.some.inj h
    exact Go.iret zk_X10_nextDigit rfl rfl rfl ⟨rfl, rfl⟩
set_option maxHeartbeats 4000000 in
set_option maxRecDepth 100000 in
theorem t_X10_comeTo {N : Nat} {x_p : Nat} {x_a : Nat → Nat} {x_characters : List Int32} {x_length : Int32} {x_start : Int32} {x_end : Int32} {x_kind : Int32} {x_digit : Int32} {x_lastQ : Int32} {x_lastR : Int32} {x_lastT : Int32} {g_p : Nat} {g_k : Nat} {c_p : Nat} {c_a : Nat → Nat} {c_codes : List Int32} {c_size : Int32} {i1 : Int32} {i2 : Int32} {i3 : Int32} {u : Int32 × Int32 × Int32 × Int32 × (List Int32) × Int32} (hk_g : g_k < 3) (h : f_X10_comeTo N i1 i2 i3 x_lastQ x_lastR x_lastT g_k c_codes c_size = some u) : Ct l D r (z_rl xs) zm_X10_comeTo 0 0 [.ref x_p, .int i1, .int i2, .int i3, .ref g_p, .ref c_p] ([sTx x_p x_a x_characters x_length x_start x_end x_kind x_digit x_lastQ x_lastR x_lastT, sLa r g_p g_k, sCe c_p c_a c_codes c_size] : List ZW).flatten (fun v' w' => v' = some (.int u.1) ∧ w' = ([sTx x_p x_a x_characters x_length x_start x_end x_kind x_digit u.2.1 u.2.2.1 u.2.2.2.1, sLa r g_p g_k, sCe c_p c_a u.2.2.2.2.1 u.2.2.2.2.2] : List ZW).flatten) := by
  refine Ct.of (by decide +kernel) rfl (fun q => absurd q (by decide)) (Nat.le_of_ble_eq_true rfl) ?_
  refine Go.eqz (z2 := (0, [some (.ref x_p), some (.int i1), some (.int i2), some (.int i3), some (.ref g_p), some (.ref c_p)], [], ([sTx x_p x_a x_characters x_length x_start x_end x_kind x_digit x_lastQ x_lastR x_lastT, sLa r g_p g_k, sCe c_p c_a c_codes c_size] : List ZW).flatten)) rfl ?_
  unfold f_X10_comeTo at h
  refine Go.blk zk_X10_comeTo [0, 0, 0, 0] (z' := (5, [some (.ref x_p), some (.int i1), some (.int i2), some (.int i3), some (.ref g_p), some (.ref c_p)], [.int i3, .int i2, .int i1, .ref g_p], ([sTx x_p x_a x_characters x_length x_start x_end x_kind x_digit x_lastQ x_lastR x_lastT, sLa r g_p g_k, sCe c_p c_a c_codes c_size] : List ZW).flatten)) rfl trivial ?_
  obtain ⟨u1, hu1, h⟩ := z_bind h
  refine Go.vs zk_X10_comeTo zm_X6_hasKey [1] [0, 2] 0 6 3 (S := [sTx x_p x_a x_characters x_length x_start x_end x_kind x_digit x_lastQ x_lastR x_lastT, sLa r g_p g_k, sCe c_p c_a c_codes c_size]) (S2 := [sTx x_p x_a x_characters x_length x_start x_end x_kind x_digit x_lastQ x_lastR x_lastT, sLa r g_p g_k, sCe c_p c_a c_codes c_size]) (As := [.int i1, .int i2, .int i3]) (rest := []) (st2 := [.int u1]) (v1 := some (.int u1)) rfl zl_X10_54 zv_X6_hasKey ⟨Nat.le_of_ble_eq_true rfl, Nat.le_of_ble_eq_true rfl⟩ rfl (by decide) rfl rfl rfl rfl rfl (Nat.le_of_ble_eq_true rfl) (t_X6_hasKey hk_g hu1) rfl rfl rfl ?_
  by_cases hc2 : u1 = 0
  · rw [if_pos hc2] at h
    refine Go.br zk_X10_comeTo rfl rfl (fun _ => ?_) (fun q => absurd hc2 q)
    refine Go.blk zk_X10_comeTo [0] (z' := (12, [some (.ref x_p), some (.int i1), some (.int i2), some (.int i3), some (.ref g_p), some (.ref c_p)], [.int 0], ([sTx x_p x_a x_characters x_length x_start x_end x_kind x_digit x_lastQ x_lastR x_lastT, sLa r g_p g_k, sCe c_p c_a c_codes c_size] : List ZW).flatten)) rfl trivial ?_
    obtain rfl := Option.some.inj h
    exact Go.iret zk_X10_comeTo rfl rfl rfl ⟨rfl, rfl⟩
  · rw [if_neg hc2] at h
    refine Go.br zk_X10_comeTo rfl rfl (fun q => absurd q hc2) (fun _ => ?_)
    refine Go.blk zk_X10_comeTo [0, 0, 0, 0] (z' := (18, [some (.ref x_p), some (.int i1), some (.int i2), some (.int i3), some (.ref g_p), some (.ref c_p)], [.int i3, .int i2, .int i1, .ref c_p], ([sTx x_p x_a x_characters x_length x_start x_end x_kind x_digit x_lastQ x_lastR x_lastT, sLa r g_p g_k, sCe c_p c_a c_codes c_size] : List ZW).flatten)) rfl trivial ?_
    obtain ⟨u3, hu3, h⟩ := z_bind h
    refine Go.vs zk_X10_comeTo zm_X2_find [2] [0, 1] 0 2 3 (S := [sTx x_p x_a x_characters x_length x_start x_end x_kind x_digit x_lastQ x_lastR x_lastT, sLa r g_p g_k, sCe c_p c_a c_codes c_size]) (S2 := [sTx x_p x_a x_characters x_length x_start x_end x_kind x_digit x_lastQ x_lastR x_lastT, sLa r g_p g_k, sCe c_p c_a c_codes c_size]) (As := [.int i1, .int i2, .int i3]) (rest := []) (st2 := [.int u3]) (v1 := some (.int u3)) rfl zl_X10_60 zv_X2_find ⟨Nat.le_of_ble_eq_true rfl, Nat.le_of_ble_eq_true rfl⟩ rfl (by decide) rfl rfl rfl rfl rfl (Nat.le_of_ble_eq_true rfl) (t_X2_find hu3) rfl rfl rfl ?_
    by_cases hc4 : u3 < 0
    · rw [if_pos hc4] at h
      refine Go.br zk_X10_comeTo rfl rfl (fun _ => ?_) (fun q => absurd hc4 q)
      refine Go.blk zk_X10_comeTo [0] (z' := (26, [some (.ref x_p), some (.int i1), some (.int i2), some (.int i3), some (.ref g_p), some (.ref c_p)], [.ref c_p], ([sTx x_p x_a x_characters x_length x_start x_end x_kind x_digit x_lastQ x_lastR x_lastT, sLa r g_p g_k, sCe c_p c_a c_codes c_size] : List ZW).flatten)) rfl trivial ?_
      obtain ⟨u5, hu5, h⟩ := z_bind h
      refine Go.vs zk_X10_comeTo zm_X2_isFull [2] [0, 1] 0 2 3 (S := [sTx x_p x_a x_characters x_length x_start x_end x_kind x_digit x_lastQ x_lastR x_lastT, sLa r g_p g_k, sCe c_p c_a c_codes c_size]) (S2 := [sTx x_p x_a x_characters x_length x_start x_end x_kind x_digit x_lastQ x_lastR x_lastT, sLa r g_p g_k, sCe c_p c_a c_codes c_size]) (As := []) (rest := []) (st2 := [.int u5]) (v1 := some (.int u5)) rfl zl_X10_90 zv_X2_isFull ⟨Nat.le_of_ble_eq_true rfl, Nat.le_of_ble_eq_true rfl⟩ rfl (by decide) rfl rfl rfl rfl rfl (Nat.le_of_ble_eq_true rfl) (t_X2_isFull hu5) rfl rfl rfl ?_
      by_cases hc6 : u5 = 0
      · rw [if_pos hc6] at h
        refine Go.br zk_X10_comeTo rfl rfl (fun _ => ?_) (fun q => absurd hc6 q)
        refine Go.blk zk_X10_comeTo [0, 0, 0, 0] (z' := (39, [some (.ref x_p), some (.int i1), some (.int i2), some (.int i3), some (.ref g_p), some (.ref c_p)], [.int i3, .int i2, .int i1, .ref c_p], ([sTx x_p x_a x_characters x_length x_start x_end x_kind x_digit x_lastQ x_lastR x_lastT, sLa r g_p g_k, sCe c_p c_a c_codes c_size] : List ZW).flatten)) rfl trivial ?_
        obtain ⟨u7, hu7, h⟩ := z_bind h
        refine Go.vs zk_X10_comeTo zm_X2_add [2] [0, 1] 0 2 3 (S := [sTx x_p x_a x_characters x_length x_start x_end x_kind x_digit x_lastQ x_lastR x_lastT, sLa r g_p g_k, sCe c_p c_a c_codes c_size]) (S2 := [sTx x_p x_a x_characters x_length x_start x_end x_kind x_digit x_lastQ x_lastR x_lastT, sLa r g_p g_k, sCe c_p c_a u7.1 u7.2]) (As := [.int i1, .int i2, .int i3]) (rest := []) (st2 := []) (v1 := none) rfl zl_X10_93 zv_X2_add ⟨Nat.le_of_ble_eq_true rfl, Nat.le_of_ble_eq_true rfl⟩ rfl (by decide) rfl rfl rfl rfl rfl (Nat.le_of_ble_eq_true rfl) (t_X2_add hu7) rfl rfl rfl ?_
        refine Go.blk zk_X10_comeTo [0, 0] (z' := (44, [some (.ref x_p), some (.int i1), some (.int i2), some (.int i3), some (.ref g_p), some (.ref c_p)], [.int i1, .ref x_p], ([sTx x_p x_a x_characters x_length x_start x_end x_kind x_digit x_lastQ x_lastR x_lastT, sLa r g_p g_k, sCe c_p c_a u7.1 u7.2] : List ZW).flatten)) rfl trivial ?_
        refine Go.put zk_X10_comeTo 0 rfl rfl rfl rfl rfl (Nat.le_of_ble_eq_true rfl) ?_
        refine Go.eqz (z2 := (47, [some (.ref x_p), some (.int i1), some (.int i2), some (.int i3), some (.ref g_p), some (.ref c_p)], [], ([sTx x_p x_a x_characters x_length x_start x_end x_kind x_digit i1 x_lastR x_lastT, sLa r g_p g_k, sCe c_p c_a u7.1 u7.2] : List ZW).flatten)) rfl ?_
        refine Go.blk zk_X10_comeTo [0, 0] (z' := (49, [some (.ref x_p), some (.int i1), some (.int i2), some (.int i3), some (.ref g_p), some (.ref c_p)], [.int i2, .ref x_p], ([sTx x_p x_a x_characters x_length x_start x_end x_kind x_digit i1 x_lastR x_lastT, sLa r g_p g_k, sCe c_p c_a u7.1 u7.2] : List ZW).flatten)) rfl trivial ?_
        refine Go.put zk_X10_comeTo 0 rfl rfl rfl rfl rfl (Nat.le_of_ble_eq_true rfl) ?_
        refine Go.eqz (z2 := (52, [some (.ref x_p), some (.int i1), some (.int i2), some (.int i3), some (.ref g_p), some (.ref c_p)], [], ([sTx x_p x_a x_characters x_length x_start x_end x_kind x_digit i1 i2 x_lastT, sLa r g_p g_k, sCe c_p c_a u7.1 u7.2] : List ZW).flatten)) rfl ?_
        refine Go.blk zk_X10_comeTo [0, 0] (z' := (54, [some (.ref x_p), some (.int i1), some (.int i2), some (.int i3), some (.ref g_p), some (.ref c_p)], [.int i3, .ref x_p], ([sTx x_p x_a x_characters x_length x_start x_end x_kind x_digit i1 i2 x_lastT, sLa r g_p g_k, sCe c_p c_a u7.1 u7.2] : List ZW).flatten)) rfl trivial ?_
        refine Go.put zk_X10_comeTo 0 rfl rfl rfl rfl rfl (Nat.le_of_ble_eq_true rfl) ?_
        refine Go.eqz (z2 := (57, [some (.ref x_p), some (.int i1), some (.int i2), some (.int i3), some (.ref g_p), some (.ref c_p)], [], ([sTx x_p x_a x_characters x_length x_start x_end x_kind x_digit i1 i2 i3, sLa r g_p g_k, sCe c_p c_a u7.1 u7.2] : List ZW).flatten)) rfl ?_
        refine Go.blk zk_X10_comeTo [0] (z' := (58, [some (.ref x_p), some (.int i1), some (.int i2), some (.int i3), some (.ref g_p), some (.ref c_p)], [.int 1], ([sTx x_p x_a x_characters x_length x_start x_end x_kind x_digit i1 i2 i3, sLa r g_p g_k, sCe c_p c_a u7.1 u7.2] : List ZW).flatten)) rfl trivial ?_
        obtain rfl := Option.some.inj h
        exact Go.iret zk_X10_comeTo rfl rfl rfl ⟨rfl, rfl⟩
      · rw [if_neg hc6] at h
        refine Go.br zk_X10_comeTo rfl rfl (fun q => absurd q hc6) (fun _ => ?_)
        refine Go.blk zk_X10_comeTo [0] (z' := (33, [some (.ref x_p), some (.int i1), some (.int i2), some (.int i3), some (.ref g_p), some (.ref c_p)], [.int 0], ([sTx x_p x_a x_characters x_length x_start x_end x_kind x_digit x_lastQ x_lastR x_lastT, sLa r g_p g_k, sCe c_p c_a c_codes c_size] : List ZW).flatten)) rfl trivial ?_
        obtain rfl := Option.some.inj h
        exact Go.iret zk_X10_comeTo rfl rfl rfl ⟨rfl, rfl⟩
    · rw [if_neg hc4] at h
      refine Go.br zk_X10_comeTo rfl rfl (fun q => absurd q hc4) (fun _ => ?_)
      refine Go.blk zk_X10_comeTo [0, 0] (z' := (44, [some (.ref x_p), some (.int i1), some (.int i2), some (.int i3), some (.ref g_p), some (.ref c_p)], [.int i1, .ref x_p], ([sTx x_p x_a x_characters x_length x_start x_end x_kind x_digit x_lastQ x_lastR x_lastT, sLa r g_p g_k, sCe c_p c_a c_codes c_size] : List ZW).flatten)) rfl trivial ?_
      refine Go.put zk_X10_comeTo 0 rfl rfl rfl rfl rfl (Nat.le_of_ble_eq_true rfl) ?_
      refine Go.eqz (z2 := (47, [some (.ref x_p), some (.int i1), some (.int i2), some (.int i3), some (.ref g_p), some (.ref c_p)], [], ([sTx x_p x_a x_characters x_length x_start x_end x_kind x_digit i1 x_lastR x_lastT, sLa r g_p g_k, sCe c_p c_a c_codes c_size] : List ZW).flatten)) rfl ?_
      refine Go.blk zk_X10_comeTo [0, 0] (z' := (49, [some (.ref x_p), some (.int i1), some (.int i2), some (.int i3), some (.ref g_p), some (.ref c_p)], [.int i2, .ref x_p], ([sTx x_p x_a x_characters x_length x_start x_end x_kind x_digit i1 x_lastR x_lastT, sLa r g_p g_k, sCe c_p c_a c_codes c_size] : List ZW).flatten)) rfl trivial ?_
      refine Go.put zk_X10_comeTo 0 rfl rfl rfl rfl rfl (Nat.le_of_ble_eq_true rfl) ?_
      refine Go.eqz (z2 := (52, [some (.ref x_p), some (.int i1), some (.int i2), some (.int i3), some (.ref g_p), some (.ref c_p)], [], ([sTx x_p x_a x_characters x_length x_start x_end x_kind x_digit i1 i2 x_lastT, sLa r g_p g_k, sCe c_p c_a c_codes c_size] : List ZW).flatten)) rfl ?_
      refine Go.blk zk_X10_comeTo [0, 0] (z' := (54, [some (.ref x_p), some (.int i1), some (.int i2), some (.int i3), some (.ref g_p), some (.ref c_p)], [.int i3, .ref x_p], ([sTx x_p x_a x_characters x_length x_start x_end x_kind x_digit i1 i2 x_lastT, sLa r g_p g_k, sCe c_p c_a c_codes c_size] : List ZW).flatten)) rfl trivial ?_
      refine Go.put zk_X10_comeTo 0 rfl rfl rfl rfl rfl (Nat.le_of_ble_eq_true rfl) ?_
      refine Go.eqz (z2 := (57, [some (.ref x_p), some (.int i1), some (.int i2), some (.int i3), some (.ref g_p), some (.ref c_p)], [], ([sTx x_p x_a x_characters x_length x_start x_end x_kind x_digit i1 i2 i3, sLa r g_p g_k, sCe c_p c_a c_codes c_size] : List ZW).flatten)) rfl ?_
      refine Go.blk zk_X10_comeTo [0] (z' := (58, [some (.ref x_p), some (.int i1), some (.int i2), some (.int i3), some (.ref g_p), some (.ref c_p)], [.int 1], ([sTx x_p x_a x_characters x_length x_start x_end x_kind x_digit i1 i2 i3, sLa r g_p g_k, sCe c_p c_a c_codes c_size] : List ZW).flatten)) rfl trivial ?_
      obtain rfl := Option.some.inj h
      exact Go.iret zk_X10_comeTo rfl rfl rfl ⟨rfl, rfl⟩
set_option maxHeartbeats 4000000 in
set_option maxRecDepth 100000 in
theorem t_X10_readAt {N : Nat} {x_p : Nat} {x_a : Nat → Nat} {x_characters : List Int32} {x_length : Int32} {x_start : Int32} {x_end : Int32} {x_kind : Int32} {x_digit : Int32} {x_lastQ : Int32} {x_lastR : Int32} {x_lastT : Int32} {g_p : Nat} {g_k : Nat} {c_p : Nat} {c_a : Nat → Nat} {c_codes : List Int32} {c_size : Int32} {u : Int32 × Int32 × Int32 × Int32 × Int32 × Int32 × Int32 × Int32 × (List Int32) × Int32} (hk_g : g_k < 3) (h : f_X10_readAt N x_characters x_length x_end x_digit x_lastQ x_lastR x_lastT g_k c_codes c_size = some u) : Ct l D r (z_rl xs) zm_X10_readAt 0 0 [.ref x_p, .ref g_p, .ref c_p] ([sTx x_p x_a x_characters x_length x_start x_end x_kind x_digit x_lastQ x_lastR x_lastT, sLa r g_p g_k, sCe c_p c_a c_codes c_size] : List ZW).flatten (fun v' w' => v' = some (.int u.1) ∧ w' = ([sTx x_p x_a x_characters x_length u.2.1 u.2.2.1 u.2.2.2.1 u.2.2.2.2.1 u.2.2.2.2.2.1 u.2.2.2.2.2.2.1 u.2.2.2.2.2.2.2.1, sLa r g_p g_k, sCe c_p c_a u.2.2.2.2.2.2.2.2.1 u.2.2.2.2.2.2.2.2.2] : List ZW).flatten) := by
  refine Ct.of (by decide +kernel) rfl (fun q => absurd q (by decide)) (Nat.le_of_ble_eq_true rfl) ?_
  refine Go.eqz (z2 := (0, [some (.ref x_p), some (.ref g_p), some (.ref c_p), none, none], [], ([sTx x_p x_a x_characters x_length x_start x_end x_kind x_digit x_lastQ x_lastR x_lastT, sLa r g_p g_k, sCe c_p c_a c_codes c_size] : List ZW).flatten)) rfl ?_
  unfold f_X10_readAt at h
  refine Go.blk zk_X10_readAt [0] (z' := (1, [some (.ref x_p), some (.ref g_p), some (.ref c_p), none, none], [.ref x_p], ([sTx x_p x_a x_characters x_length x_start x_end x_kind x_digit x_lastQ x_lastR x_lastT, sLa r g_p g_k, sCe c_p c_a c_codes c_size] : List ZW).flatten)) rfl trivial ?_
  obtain ⟨u1, hu1, h⟩ := z_bind h
  refine Go.vs zk_X10_readAt zm_X10_nextDigit [0] [1, 2] 0 10 3 (S := [sTx x_p x_a x_characters x_length x_start x_end x_kind x_digit x_lastQ x_lastR x_lastT, sLa r g_p g_k, sCe c_p c_a c_codes c_size]) (S2 := [sTx x_p x_a x_characters x_length u1.2.1 u1.2.2.1 u1.2.2.2.1 u1.2.2.2.2 x_lastQ x_lastR x_lastT, sLa r g_p g_k, sCe c_p c_a c_codes c_size]) (As := []) (rest := []) (st2 := [.int u1.1]) (v1 := some (.int u1.1)) rfl zl_X10_47 zv_X10_nextDigit ⟨Nat.le_of_ble_eq_true rfl, Nat.le_of_ble_eq_true rfl⟩ rfl (by decide) rfl rfl rfl rfl rfl (Nat.le_of_ble_eq_true rfl) (t_X10_nextDigit hu1) rfl rfl rfl ?_
  by_cases hc2 : u1.1 = 0
  · rw [if_pos hc2] at h
    refine Go.br zk_X10_readAt rfl rfl (fun _ => ?_) (fun q => absurd hc2 q)
    refine Go.blk zk_X10_readAt [0] (z' := (8, [some (.ref x_p), some (.ref g_p), some (.ref c_p), none, none], [.int 0], ([sTx x_p x_a x_characters x_length u1.2.1 u1.2.2.1 u1.2.2.2.1 u1.2.2.2.2 x_lastQ x_lastR x_lastT, sLa r g_p g_k, sCe c_p c_a c_codes c_size] : List ZW).flatten)) rfl trivial ?_
    obtain rfl := Option.some.inj h
    exact Go.iret zk_X10_readAt rfl rfl rfl ⟨rfl, rfl⟩
  · rw [if_neg hc2] at h
    refine Go.br zk_X10_readAt rfl rfl (fun q => absurd q hc2) (fun _ => ?_)
    refine Go.blk zk_X10_readAt [0, 0, 0, 0] (z' := (15, [some (.ref x_p), some (.ref g_p), some (.ref c_p), some (.int u1.2.2.2.2), none], [.ref x_p], ([sTx x_p x_a x_characters x_length u1.2.1 u1.2.2.1 u1.2.2.2.1 u1.2.2.2.2 x_lastQ x_lastR x_lastT, sLa r g_p g_k, sCe c_p c_a c_codes c_size] : List ZW).flatten)) rfl ⟨rfl, trivial⟩ ?_
    obtain ⟨u3, hu3, h⟩ := z_bind h
    refine Go.vs zk_X10_readAt zm_X10_nextDigit [0] [1, 2] 0 10 3 (S := [sTx x_p x_a x_characters x_length u1.2.1 u1.2.2.1 u1.2.2.2.1 u1.2.2.2.2 x_lastQ x_lastR x_lastT, sLa r g_p g_k, sCe c_p c_a c_codes c_size]) (S2 := [sTx x_p x_a x_characters x_length u3.2.1 u3.2.2.1 u3.2.2.2.1 u3.2.2.2.2 x_lastQ x_lastR x_lastT, sLa r g_p g_k, sCe c_p c_a c_codes c_size]) (As := []) (rest := []) (st2 := [.int u3.1]) (v1 := some (.int u3.1)) rfl zl_X10_47 zv_X10_nextDigit ⟨Nat.le_of_ble_eq_true rfl, Nat.le_of_ble_eq_true rfl⟩ rfl (by decide) rfl rfl rfl rfl rfl (Nat.le_of_ble_eq_true rfl) (t_X10_nextDigit hu3) rfl rfl rfl ?_
    by_cases hc4 : u3.1 = 0
    · rw [if_pos hc4] at h
      refine Go.br zk_X10_readAt rfl rfl (fun _ => ?_) (fun q => absurd hc4 q)
      refine Go.blk zk_X10_readAt [0] (z' := (22, [some (.ref x_p), some (.ref g_p), some (.ref c_p), some (.int u1.2.2.2.2), none], [.int 0], ([sTx x_p x_a x_characters x_length u3.2.1 u3.2.2.1 u3.2.2.2.1 u3.2.2.2.2 x_lastQ x_lastR x_lastT, sLa r g_p g_k, sCe c_p c_a c_codes c_size] : List ZW).flatten)) rfl trivial ?_
      obtain rfl := Option.some.inj h
      exact Go.iret zk_X10_readAt rfl rfl rfl ⟨rfl, rfl⟩
    · rw [if_neg hc4] at h
      refine Go.br zk_X10_readAt rfl rfl (fun q => absurd q hc4) (fun _ => ?_)
      refine Go.blk zk_X10_readAt [0, 0, 0, 0] (z' := (30, [some (.ref x_p), some (.ref g_p), some (.ref c_p), some (.int u1.2.2.2.2), some (.int u3.2.2.2.2)], [.ref x_p], ([sTx x_p x_a x_characters x_length u3.2.1 u3.2.2.1 u3.2.2.2.1 u3.2.2.2.2 x_lastQ x_lastR x_lastT, sLa r g_p g_k, sCe c_p c_a c_codes c_size] : List ZW).flatten)) rfl ⟨rfl, trivial⟩ ?_
      obtain ⟨u5, hu5, h⟩ := z_bind h
      refine Go.vs zk_X10_readAt zm_X10_nextDigit [0] [1, 2] 0 10 3 (S := [sTx x_p x_a x_characters x_length u3.2.1 u3.2.2.1 u3.2.2.2.1 u3.2.2.2.2 x_lastQ x_lastR x_lastT, sLa r g_p g_k, sCe c_p c_a c_codes c_size]) (S2 := [sTx x_p x_a x_characters x_length u5.2.1 u5.2.2.1 u5.2.2.2.1 u5.2.2.2.2 x_lastQ x_lastR x_lastT, sLa r g_p g_k, sCe c_p c_a c_codes c_size]) (As := []) (rest := []) (st2 := [.int u5.1]) (v1 := some (.int u5.1)) rfl zl_X10_47 zv_X10_nextDigit ⟨Nat.le_of_ble_eq_true rfl, Nat.le_of_ble_eq_true rfl⟩ rfl (by decide) rfl rfl rfl rfl rfl (Nat.le_of_ble_eq_true rfl) (t_X10_nextDigit hu5) rfl rfl rfl ?_
      by_cases hc6 : u5.1 = 0
      · rw [if_pos hc6] at h
        refine Go.br zk_X10_readAt rfl rfl (fun _ => ?_) (fun q => absurd hc6 q)
        refine Go.blk zk_X10_readAt [0] (z' := (81, [some (.ref x_p), some (.ref g_p), some (.ref c_p), some (.int u1.2.2.2.2), some (.int u3.2.2.2.2)], [.int 0], ([sTx x_p x_a x_characters x_length u5.2.1 u5.2.2.1 u5.2.2.2.1 u5.2.2.2.2 x_lastQ x_lastR x_lastT, sLa r g_p g_k, sCe c_p c_a c_codes c_size] : List ZW).flatten)) rfl trivial ?_
        obtain rfl := Option.some.inj h
        exact Go.iret zk_X10_readAt rfl rfl rfl ⟨rfl, rfl⟩
      · rw [if_neg hc6] at h
        refine Go.br zk_X10_readAt rfl rfl (fun q => absurd q hc6) (fun _ => ?_)
        refine Go.blk zk_X10_readAt [0, 0, 0, 0, 0] (z' := (44, [some (.ref x_p), some (.ref g_p), some (.ref c_p), some (.int u1.2.2.2.2), some (.int u3.2.2.2.2)], [.int u5.2.2.2.2, .int u3.2.2.2.2, .int u1.2.2.2.2, .ref g_p], ([sTx x_p x_a x_characters x_length u5.2.1 u5.2.2.1 u5.2.2.2.1 u5.2.2.2.2 x_lastQ x_lastR x_lastT, sLa r g_p g_k, sCe c_p c_a c_codes c_size] : List ZW).flatten)) rfl ⟨rfl, trivial⟩ ?_
        obtain ⟨u7, hu7, h⟩ := z_bind h
        refine Go.vs zk_X10_readAt zm_X6_hasKey [1] [0, 2] 0 6 3 (S := [sTx x_p x_a x_characters x_length u5.2.1 u5.2.2.1 u5.2.2.2.1 u5.2.2.2.2 x_lastQ x_lastR x_lastT, sLa r g_p g_k, sCe c_p c_a c_codes c_size]) (S2 := [sTx x_p x_a x_characters x_length u5.2.1 u5.2.2.1 u5.2.2.2.1 u5.2.2.2.2 x_lastQ x_lastR x_lastT, sLa r g_p g_k, sCe c_p c_a c_codes c_size]) (As := [.int u1.2.2.2.2, .int u3.2.2.2.2, .int u5.2.2.2.2]) (rest := []) (st2 := [.int u7]) (v1 := some (.int u7)) rfl zl_X10_54 zv_X6_hasKey ⟨Nat.le_of_ble_eq_true rfl, Nat.le_of_ble_eq_true rfl⟩ rfl (by decide) rfl rfl rfl rfl rfl (Nat.le_of_ble_eq_true rfl) (t_X6_hasKey hk_g hu7) rfl rfl rfl ?_
        by_cases hc8 : u7 = 0
        · rw [if_pos hc8] at h
          refine Go.br zk_X10_readAt rfl rfl (fun _ => ?_) (fun q => absurd hc8 q)
          refine Go.blk zk_X10_readAt [0] (z' := (81, [some (.ref x_p), some (.ref g_p), some (.ref c_p), some (.int u1.2.2.2.2), some (.int u3.2.2.2.2)], [.int 0], ([sTx x_p x_a x_characters x_length u5.2.1 u5.2.2.1 u5.2.2.2.1 u5.2.2.2.2 x_lastQ x_lastR x_lastT, sLa r g_p g_k, sCe c_p c_a c_codes c_size] : List ZW).flatten)) rfl trivial ?_
          obtain rfl := Option.some.inj h
          exact Go.iret zk_X10_readAt rfl rfl rfl ⟨rfl, rfl⟩
        · rw [if_neg hc8] at h
          refine Go.br zk_X10_readAt rfl rfl (fun q => absurd q hc8) (fun _ => ?_)
          refine Go.blk zk_X10_readAt [0, 0, 0, 0, 0] (z' := (58, [some (.ref x_p), some (.ref g_p), some (.ref c_p), some (.int u1.2.2.2.2), some (.int u3.2.2.2.2)], [.int u5.2.2.2.2, .int u3.2.2.2.2, .int u1.2.2.2.2, .ref c_p], ([sTx x_p x_a x_characters x_length u5.2.1 u5.2.2.1 u5.2.2.2.1 u5.2.2.2.2 x_lastQ x_lastR x_lastT, sLa r g_p g_k, sCe c_p c_a c_codes c_size] : List ZW).flatten)) rfl ⟨rfl, trivial⟩ ?_
          obtain ⟨u9, hu9, h⟩ := z_bind h
          refine Go.vs zk_X10_readAt zm_X2_find [2] [0, 1] 0 2 3 (S := [sTx x_p x_a x_characters x_length u5.2.1 u5.2.2.1 u5.2.2.2.1 u5.2.2.2.2 x_lastQ x_lastR x_lastT, sLa r g_p g_k, sCe c_p c_a c_codes c_size]) (S2 := [sTx x_p x_a x_characters x_length u5.2.1 u5.2.2.1 u5.2.2.2.1 u5.2.2.2.2 x_lastQ x_lastR x_lastT, sLa r g_p g_k, sCe c_p c_a c_codes c_size]) (As := [.int u1.2.2.2.2, .int u3.2.2.2.2, .int u5.2.2.2.2]) (rest := []) (st2 := [.int u9]) (v1 := some (.int u9)) rfl zl_X10_60 zv_X2_find ⟨Nat.le_of_ble_eq_true rfl, Nat.le_of_ble_eq_true rfl⟩ rfl (by decide) rfl rfl rfl rfl rfl (Nat.le_of_ble_eq_true rfl) (t_X2_find hu9) rfl rfl rfl ?_
          by_cases hc10 : u9 < 0
          · rw [if_pos hc10] at h
            refine Go.br zk_X10_readAt rfl rfl (fun _ => ?_) (fun q => absurd hc10 q)
            refine Go.blk zk_X10_readAt [0, 0, 0, 0, 0, 0, 0] (z' := (74, [some (.ref x_p), some (.ref g_p), some (.ref c_p), some (.int u1.2.2.2.2), some (.int u3.2.2.2.2)], [.ref c_p, .ref g_p, .int u5.2.2.2.2, .int u3.2.2.2.2, .int u1.2.2.2.2, .ref x_p], ([sTx x_p x_a x_characters x_length u5.2.1 u5.2.2.1 u5.2.2.2.1 u5.2.2.2.2 x_lastQ x_lastR x_lastT, sLa r g_p g_k, sCe c_p c_a c_codes c_size] : List ZW).flatten)) rfl ⟨rfl, trivial⟩ ?_
            obtain ⟨u11, hu11, h⟩ := z_bind h
            refine Go.vs zk_X10_readAt zm_X10_comeTo [0, 1, 2] [] 0 10 3 (S := [sTx x_p x_a x_characters x_length u5.2.1 u5.2.2.1 u5.2.2.2.1 u5.2.2.2.2 x_lastQ x_lastR x_lastT, sLa r g_p g_k, sCe c_p c_a c_codes c_size]) (S2 := [sTx x_p x_a x_characters x_length u5.2.1 u5.2.2.1 u5.2.2.2.1 u5.2.2.2.2 u11.2.1 u11.2.2.1 u11.2.2.2.1, sLa r g_p g_k, sCe c_p c_a u11.2.2.2.2.1 u11.2.2.2.2.2]) (As := [.int u1.2.2.2.2, .int u3.2.2.2.2, .int u5.2.2.2.2, .ref g_p, .ref c_p]) (rest := []) (st2 := [.int u11.1]) (v1 := some (.int u11.1)) rfl zl_X10_64 zv_X10_comeTo ⟨Nat.le_of_ble_eq_true rfl, Nat.le_of_ble_eq_true rfl⟩ rfl (by decide) rfl rfl rfl rfl rfl (Nat.le_of_ble_eq_true rfl) (t_X10_comeTo hk_g hu11) rfl rfl rfl ?_
            by_cases hc12 : u11.1 = 0
            · rw [if_pos hc12] at h
              refine Go.br zk_X10_readAt rfl rfl (fun _ => ?_) (fun q => absurd hc12 q)
              refine Go.blk zk_X10_readAt [0] (z' := (81, [some (.ref x_p), some (.ref g_p), some (.ref c_p), some (.int u1.2.2.2.2), some (.int u3.2.2.2.2)], [.int 0], ([sTx x_p x_a x_characters x_length u5.2.1 u5.2.2.1 u5.2.2.2.1 u5.2.2.2.2 u11.2.1 u11.2.2.1 u11.2.2.2.1, sLa r g_p g_k, sCe c_p c_a u11.2.2.2.2.1 u11.2.2.2.2.2] : List ZW).flatten)) rfl trivial ?_
              obtain rfl := Option.some.inj h
              exact Go.iret zk_X10_readAt rfl rfl rfl ⟨rfl, rfl⟩
            · rw [if_neg hc12] at h
              refine Go.br zk_X10_readAt rfl rfl (fun q => absurd q hc12) (fun _ => ?_)
              refine Go.blk zk_X10_readAt [0] (z' := (83, [some (.ref x_p), some (.ref g_p), some (.ref c_p), some (.int u1.2.2.2.2), some (.int u3.2.2.2.2)], [.ref x_p], ([sTx x_p x_a x_characters x_length u5.2.1 u5.2.2.1 u5.2.2.2.1 u5.2.2.2.2 u11.2.1 u11.2.2.1 u11.2.2.2.1, sLa r g_p g_k, sCe c_p c_a u11.2.2.2.2.1 u11.2.2.2.2.2] : List ZW).flatten)) rfl trivial ?_
              obtain ⟨u13, hu13, h⟩ := z_bind h
              refine Go.vs zk_X10_readAt zm_X10_nextToken [0] [1, 2] 0 10 3 (S := [sTx x_p x_a x_characters x_length u5.2.1 u5.2.2.1 u5.2.2.2.1 u5.2.2.2.2 u11.2.1 u11.2.2.1 u11.2.2.2.1, sLa r g_p g_k, sCe c_p c_a u11.2.2.2.2.1 u11.2.2.2.2.2]) (S2 := [sTx x_p x_a x_characters x_length u13.1 u13.2.1 u13.2.2.1 u13.2.2.2 u11.2.1 u11.2.2.1 u11.2.2.2.1, sLa r g_p g_k, sCe c_p c_a u11.2.2.2.2.1 u11.2.2.2.2.2]) (As := []) (rest := []) (st2 := []) (v1 := none) rfl zl_X10_25 zv_X10_nextToken ⟨Nat.le_of_ble_eq_true rfl, Nat.le_of_ble_eq_true rfl⟩ rfl (by decide) rfl rfl rfl rfl rfl (Nat.le_of_ble_eq_true rfl) (t_X10_nextToken hu13) rfl rfl rfl ?_
              refine Go.blk zk_X10_readAt [0, 0, 0] (z' := (91, [some (.ref x_p), some (.ref g_p), some (.ref c_p), some (.int u1.2.2.2.2), some (.int u3.2.2.2.2)], [.int 4, .int u13.2.2.1], ([sTx x_p x_a x_characters x_length u13.1 u13.2.1 u13.2.2.1 u13.2.2.2 u11.2.1 u11.2.2.1 u11.2.2.2.1, sLa r g_p g_k, sCe c_p c_a u11.2.2.2.2.1 u11.2.2.2.2.2] : List ZW).flatten)) rfl ⟨rfl, trivial⟩ ?_
              by_cases hc14 : u13.2.2.1 = 4
              · rw [if_pos hc14] at h
                refine Go.br zk_X10_readAt rfl rfl (fun _ => ?_) (fun q => absurd hc14 q)
                refine Go.blk zk_X10_readAt [0, 0] (z' := (99, [some (.ref x_p), some (.ref g_p), some (.ref c_p), some (.int u1.2.2.2.2), some (.int u3.2.2.2.2)], [.int 1], ([sTx x_p x_a x_characters x_length u13.1 u13.2.1 u13.2.2.1 u13.2.2.2 u11.2.1 u11.2.2.1 u11.2.2.2.1, sLa r g_p g_k, sCe c_p c_a u11.2.2.2.2.1 u11.2.2.2.2.2] : List ZW).flatten)) rfl trivial ?_
                obtain rfl := Option.some.inj h
                exact Go.iret zk_X10_readAt rfl rfl rfl ⟨rfl, rfl⟩
              · rw [if_neg hc14] at h
                refine Go.br zk_X10_readAt rfl rfl (fun q => absurd q hc14) (fun _ => ?_)
                refine Go.blk zk_X10_readAt [0] (z' := (99, [some (.ref x_p), some (.ref g_p), some (.ref c_p), some (.int u1.2.2.2.2), some (.int u3.2.2.2.2)], [.int 0], ([sTx x_p x_a x_characters x_length u13.1 u13.2.1 u13.2.2.1 u13.2.2.2 u11.2.1 u11.2.2.1 u11.2.2.2.1, sLa r g_p g_k, sCe c_p c_a u11.2.2.2.2.1 u11.2.2.2.2.2] : List ZW).flatten)) rfl trivial ?_
                obtain rfl := Option.some.inj h
                exact Go.iret zk_X10_readAt rfl rfl rfl ⟨rfl, rfl⟩
          · rw [if_neg hc10] at h
            refine Go.br zk_X10_readAt rfl rfl (fun q => absurd q hc10) (fun _ => ?_)
            refine Go.blk zk_X10_readAt [0] (z' := (81, [some (.ref x_p), some (.ref g_p), some (.ref c_p), some (.int u1.2.2.2.2), some (.int u3.2.2.2.2)], [.int 0], ([sTx x_p x_a x_characters x_length u5.2.1 u5.2.2.1 u5.2.2.2.1 u5.2.2.2.2 x_lastQ x_lastR x_lastT, sLa r g_p g_k, sCe c_p c_a c_codes c_size] : List ZW).flatten)) rfl trivial ?_
            obtain rfl := Option.some.inj h
            exact Go.iret zk_X10_readAt rfl rfl rfl ⟨rfl, rfl⟩
set_option maxHeartbeats 4000000 in
set_option maxRecDepth 100000 in
theorem t_X10_readGo_L11 {N : Nat} {x_p : Nat} {x_a : Nat → Nat} {x_characters : List Int32} {x_length : Int32} {g_p : Nat} {g_k : Nat} {c_p : Nat} {c_a : Nat → Nat} (hk_g : g_k < 3) {Q : Option Value → ZW → Prop} : ∀ (fu : Nat) (v3 : Int32) (x_start : Int32) (x_end : Int32) (x_kind : Int32) (x_digit : Int32) (x_lastQ : Int32) (x_lastR : Int32) (x_lastT : Int32) (c_codes : List Int32) (c_size : Int32) (o : (Int32 × Int32 × Int32 × Int32 × Int32 × Int32 × Int32 × (List Int32) × Int32) ⊕ (Int32 × Int32 × Int32 × Int32 × Int32 × Int32 × Int32 × Int32 × (List Int32) × Int32)), f_X10_readGo_L11 N x_characters x_length g_k fu v3 x_start x_end x_kind x_digit x_lastQ x_lastR x_lastT c_codes c_size = some o → (∀ e, o = .inl e → Go l D r (z_rl xs) zm_X10_readGo 0 0 (107, [some (.ref x_p), none, none, none, none, none], [], ([sTx x_p x_a x_characters x_length e.1 e.2.1 e.2.2.1 e.2.2.2.1 e.2.2.2.2.1 e.2.2.2.2.2.1 e.2.2.2.2.2.2.1, sLa r g_p g_k, sCe c_p c_a e.2.2.2.2.2.2.2.1 e.2.2.2.2.2.2.2.2] : List ZW).flatten) Q) → (∀ e, o = .inr e → Q (some (.int e.1)) ([sTx x_p x_a x_characters x_length e.2.1 e.2.2.1 e.2.2.2.1 e.2.2.2.2.1 e.2.2.2.2.2.1 e.2.2.2.2.2.2.1 e.2.2.2.2.2.2.2.1, sLa r g_p g_k, sCe c_p c_a e.2.2.2.2.2.2.2.2.1 e.2.2.2.2.2.2.2.2.2] : List ZW).flatten) → Go l D r (z_rl xs) zm_X10_readGo 0 0 (11, [some (.ref x_p), some (.ref g_p), some (.ref c_p), some (.int v3), none, none], [], ([sTx x_p x_a x_characters x_length x_start x_end x_kind x_digit x_lastQ x_lastR x_lastT, sLa r g_p g_k, sCe c_p c_a c_codes c_size] : List ZW).flatten) Q := by
  intro fu
  induction fu with
  | zero =>
    intro v3 x_start x_end x_kind x_digit x_lastQ x_lastR x_lastT c_codes c_size o h
    simp only [f_X10_readGo_L11, reduceCtorEq] at h
  | succ fu ih =>
    intro v3 x_start x_end x_kind x_digit x_lastQ x_lastR x_lastT c_codes c_size o h k1 k2
    rw [f_X10_readGo_L11] at h
    refine Go.blk zk_X10_readGo [0, 0] (z' := (14, [some (.ref x_p), some (.ref g_p), some (.ref c_p), some (.int v3), none, none], [.int 80, .int v3], ([sTx x_p x_a x_characters x_length x_start x_end x_kind x_digit x_lastQ x_lastR x_lastT, sLa r g_p g_k, sCe c_p c_a c_codes c_size] : List ZW).flatten)) rfl trivial ?_
    by_cases hc3 : v3 < 80
    · rw [if_pos hc3] at h
      refine Go.br zk_X10_readGo rfl rfl (fun _ => ?_) (fun q => absurd hc3 q)
      refine Go.blk zk_X10_readGo [0, 0, 0] (z' := (22, [some (.ref x_p), some (.ref g_p), some (.ref c_p), some (.int v3), none, none], [.int 3, .int x_kind], ([sTx x_p x_a x_characters x_length x_start x_end x_kind x_digit x_lastQ x_lastR x_lastT, sLa r g_p g_k, sCe c_p c_a c_codes c_size] : List ZW).flatten)) rfl ⟨rfl, trivial⟩ ?_
      by_cases hc4 : x_kind = 3
      · rw [if_pos hc4] at h
        refine Go.br zk_X10_readGo rfl rfl (fun _ => ?_) (fun q => absurd hc4 q)
        refine Go.blk zk_X10_readGo [0, 0, 0, 2] (z' := (33, [some (.ref x_p), some (.ref g_p), some (.ref c_p), some (.int v3), none, none], [.int (zdeg g_k), .int x_digit], ([sTx x_p x_a x_characters x_length x_start x_end x_kind x_digit x_lastQ x_lastR x_lastT, sLa r g_p g_k, sCe c_p c_a c_codes c_size] : List ZW).flatten)) rfl ⟨rfl, rfl, trivial⟩ ?_
        by_cases hc5 : x_digit < (zdeg g_k)
        · rw [if_pos hc5] at h
          refine Go.br zk_X10_readGo rfl rfl (fun _ => ?_) (fun q => absurd hc5 q)
          refine Go.blk zk_X10_readGo [0, 0, 0, 0, 0, 0, 0] (z' := (51, [some (.ref x_p), some (.ref g_p), some (.ref c_p), some (.int v3), none, none], [.int x_digit, .int x_lastT, .int x_lastQ, .ref g_p], ([sTx x_p x_a x_characters x_length x_start x_end x_kind x_digit x_lastQ x_lastR x_lastT, sLa r g_p g_k, sCe c_p c_a c_codes c_size] : List ZW).flatten)) rfl ⟨rfl, rfl, rfl, trivial⟩ ?_
          obtain ⟨u6, hu6, h⟩ := z_bind h
          refine Go.vs zk_X10_readGo zm_X6_neighbourQ [1] [0, 2] 0 6 3 (S := [sTx x_p x_a x_characters x_length x_start x_end x_kind x_digit x_lastQ x_lastR x_lastT, sLa r g_p g_k, sCe c_p c_a c_codes c_size]) (S2 := [sTx x_p x_a x_characters x_length x_start x_end x_kind x_digit x_lastQ x_lastR x_lastT, sLa r g_p g_k, sCe c_p c_a c_codes c_size]) (As := [.int x_lastQ, .int x_lastT, .int x_digit]) (rest := []) (st2 := [.int u6]) (v1 := some (.int u6)) rfl zl_X10_77 zv_X6_neighbourQ ⟨Nat.le_of_ble_eq_true rfl, Nat.le_of_ble_eq_true rfl⟩ rfl (by decide) rfl rfl rfl rfl rfl (Nat.le_of_ble_eq_true rfl) (t_X6_neighbourQ hk_g hu6) rfl rfl rfl ?_
          refine Go.blk zk_X10_readGo [0, 0, 0, 0, 0, 0, 0, 0] (z' := (69, [some (.ref x_p), some (.ref g_p), some (.ref c_p), some (.int v3), some (.int u6), none], [.int x_digit, .int x_lastT, .int x_lastR, .ref g_p], ([sTx x_p x_a x_characters x_length x_start x_end x_kind x_digit x_lastQ x_lastR x_lastT, sLa r g_p g_k, sCe c_p c_a c_codes c_size] : List ZW).flatten)) rfl ⟨rfl, rfl, rfl, trivial⟩ ?_
          obtain ⟨u7, hu7, h⟩ := z_bind h
          refine Go.vs zk_X10_readGo zm_X6_neighbourR [1] [0, 2] 0 6 3 (S := [sTx x_p x_a x_characters x_length x_start x_end x_kind x_digit x_lastQ x_lastR x_lastT, sLa r g_p g_k, sCe c_p c_a c_codes c_size]) (S2 := [sTx x_p x_a x_characters x_length x_start x_end x_kind x_digit x_lastQ x_lastR x_lastT, sLa r g_p g_k, sCe c_p c_a c_codes c_size]) (As := [.int x_lastR, .int x_lastT, .int x_digit]) (rest := []) (st2 := [.int u7]) (v1 := some (.int u7)) rfl zl_X10_83 zv_X6_neighbourR ⟨Nat.le_of_ble_eq_true rfl, Nat.le_of_ble_eq_true rfl⟩ rfl (by decide) rfl rfl rfl rfl rfl (Nat.le_of_ble_eq_true rfl) (t_X6_neighbourR hk_g hu7) rfl rfl rfl ?_
          refine Go.blk zk_X10_readGo [0, 0, 0, 0, 0, 0, 0] (z' := (84, [some (.ref x_p), some (.ref g_p), some (.ref c_p), some (.int v3), some (.int u6), some (.int u7)], [.int x_lastT, .ref g_p, .int u7, .int u6, .ref x_p], ([sTx x_p x_a x_characters x_length x_start x_end x_kind x_digit x_lastQ x_lastR x_lastT, sLa r g_p g_k, sCe c_p c_a c_codes c_size] : List ZW).flatten)) rfl ⟨rfl, trivial⟩ ?_
          obtain ⟨u8, hu8, h⟩ := z_bind h
          refine Go.vs zk_X10_readGo zm_X6_neighbourT [1] [0, 2] 0 6 3 (S := [sTx x_p x_a x_characters x_length x_start x_end x_kind x_digit x_lastQ x_lastR x_lastT, sLa r g_p g_k, sCe c_p c_a c_codes c_size]) (S2 := [sTx x_p x_a x_characters x_length x_start x_end x_kind x_digit x_lastQ x_lastR x_lastT, sLa r g_p g_k, sCe c_p c_a c_codes c_size]) (As := [.int x_lastT]) (rest := [.int u7, .int u6, .ref x_p]) (st2 := [.int u8, .int u7, .int u6, .ref x_p]) (v1 := some (.int u8)) rfl zl_X10_86 zv_X6_neighbourT ⟨Nat.le_of_ble_eq_true rfl, Nat.le_of_ble_eq_true rfl⟩ rfl (by decide) rfl rfl rfl rfl rfl (Nat.le_of_ble_eq_true rfl) (t_X6_neighbourT hk_g hu8) rfl rfl rfl ?_
          refine Go.blk zk_X10_readGo [0, 0] (z' := (89, [some (.ref x_p), some (.ref g_p), some (.ref c_p), some (.int v3), some (.int u6), some (.int u7)], [.ref c_p, .ref g_p, .int u8, .int u7, .int u6, .ref x_p], ([sTx x_p x_a x_characters x_length x_start x_end x_kind x_digit x_lastQ x_lastR x_lastT, sLa r g_p g_k, sCe c_p c_a c_codes c_size] : List ZW).flatten)) rfl trivial ?_
          obtain ⟨u9, hu9, h⟩ := z_bind h
          refine Go.vs zk_X10_readGo zm_X10_comeTo [0, 1, 2] [] 0 10 3 (S := [sTx x_p x_a x_characters x_length x_start x_end x_kind x_digit x_lastQ x_lastR x_lastT, sLa r g_p g_k, sCe c_p c_a c_codes c_size]) (S2 := [sTx x_p x_a x_characters x_length x_start x_end x_kind x_digit u9.2.1 u9.2.2.1 u9.2.2.2.1, sLa r g_p g_k, sCe c_p c_a u9.2.2.2.2.1 u9.2.2.2.2.2]) (As := [.int u6, .int u7, .int u8, .ref g_p, .ref c_p]) (rest := []) (st2 := [.int u9.1]) (v1 := some (.int u9.1)) rfl zl_X10_64 zv_X10_comeTo ⟨Nat.le_of_ble_eq_true rfl, Nat.le_of_ble_eq_true rfl⟩ rfl (by decide) rfl rfl rfl rfl rfl (Nat.le_of_ble_eq_true rfl) (t_X10_comeTo hk_g hu9) rfl rfl rfl ?_
          by_cases hc10 : u9.1 = 0
          · rw [if_pos hc10] at h
            refine Go.br zk_X10_readGo rfl rfl (fun _ => ?_) (fun q => absurd hc10 q)
            refine Go.blk zk_X10_readGo [0] (z' := (96, [some (.ref x_p), some (.ref g_p), some (.ref c_p), some (.int v3), some (.int u6), some (.int u7)], [.int 0], ([sTx x_p x_a x_characters x_length x_start x_end x_kind x_digit u9.2.1 u9.2.2.1 u9.2.2.2.1, sLa r g_p g_k, sCe c_p c_a u9.2.2.2.2.1 u9.2.2.2.2.2] : List ZW).flatten)) rfl trivial ?_
            obtain rfl := Option.some.inj h
            exact Go.iret zk_X10_readGo rfl rfl rfl (k2 _ rfl)
          · rw [if_neg hc10] at h
            refine Go.br zk_X10_readGo rfl rfl (fun q => absurd q hc10) (fun _ => ?_)
            refine Go.blk zk_X10_readGo [0] (z' := (98, [some (.ref x_p), some (.ref g_p), some (.ref c_p), some (.int v3), some (.int u6), some (.int u7)], [.ref x_p], ([sTx x_p x_a x_characters x_length x_start x_end x_kind x_digit u9.2.1 u9.2.2.1 u9.2.2.2.1, sLa r g_p g_k, sCe c_p c_a u9.2.2.2.2.1 u9.2.2.2.2.2] : List ZW).flatten)) rfl trivial ?_
            obtain ⟨u11, hu11, h⟩ := z_bind h
            refine Go.vs zk_X10_readGo zm_X10_nextToken [0] [1, 2] 0 10 3 (S := [sTx x_p x_a x_characters x_length x_start x_end x_kind x_digit u9.2.1 u9.2.2.1 u9.2.2.2.1, sLa r g_p g_k, sCe c_p c_a u9.2.2.2.2.1 u9.2.2.2.2.2]) (S2 := [sTx x_p x_a x_characters x_length u11.1 u11.2.1 u11.2.2.1 u11.2.2.2 u9.2.1 u9.2.2.1 u9.2.2.2.1, sLa r g_p g_k, sCe c_p c_a u9.2.2.2.2.1 u9.2.2.2.2.2]) (As := []) (rest := []) (st2 := []) (v1 := none) rfl zl_X10_25 zv_X10_nextToken ⟨Nat.le_of_ble_eq_true rfl, Nat.le_of_ble_eq_true rfl⟩ rfl (by decide) rfl rfl rfl rfl rfl (Nat.le_of_ble_eq_true rfl) (t_X10_nextToken hu11) rfl rfl rfl ?_
            refine Go.blk zk_X10_readGo [0, 0] (z' := (11, [some (.ref x_p), some (.ref g_p), some (.ref c_p), some (.int (v3 + 1)), some (.int u6), some (.int u7)], [], ([sTx x_p x_a x_characters x_length u11.1 u11.2.1 u11.2.2.1 u11.2.2.2 u9.2.1 u9.2.2.1 u9.2.2.2.1, sLa r g_p g_k, sCe c_p c_a u9.2.2.2.2.1 u9.2.2.2.2.2] : List ZW).flatten)) rfl trivial ?_
            refine Go.weak (L := [some (.ref x_p), some (.ref g_p), some (.ref c_p), some (.int (v3 + 1)), some (.int u6), some (.int u7)]) (L' := [some (.ref x_p), some (.ref g_p), some (.ref c_p), some (.int (v3 + 1)), none, none]) (And.intro rfl (And.intro rfl (And.intro rfl (And.intro rfl (trivial))))) ?_
            exact ih _ _ _ _ _ _ _ _ _ _ _ h k1 k2
        · rw [if_neg hc5] at h
          refine Go.br zk_X10_readGo rfl rfl (fun q => absurd q hc5) (fun _ => ?_)
          refine Go.blk zk_X10_readGo [0] (z' := (37, [some (.ref x_p), some (.ref g_p), some (.ref c_p), some (.int v3), none, none], [.int 0], ([sTx x_p x_a x_characters x_length x_start x_end x_kind x_digit x_lastQ x_lastR x_lastT, sLa r g_p g_k, sCe c_p c_a c_codes c_size] : List ZW).flatten)) rfl trivial ?_
          obtain rfl := Option.some.inj h
          exact Go.iret zk_X10_readGo rfl rfl rfl (k2 _ rfl)
      · rw [if_neg hc4] at h
        refine Go.br zk_X10_readGo rfl rfl (fun q => absurd q hc4) (fun _ => ?_)
        obtain rfl := Option.some.inj h
        refine Go.weak (L := [some (.ref x_p), some (.ref g_p), some (.ref c_p), some (.int v3), none, none]) (L' := [some (.ref x_p), none, none, none, none, none]) (And.intro rfl (trivial)) ?_
        exact k1 _ rfl
    · rw [if_neg hc3] at h
      refine Go.br zk_X10_readGo rfl rfl (fun q => absurd q hc3) (fun _ => ?_)
      obtain rfl := Option.some.inj h
      refine Go.weak (L := [some (.ref x_p), some (.ref g_p), some (.ref c_p), some (.int v3), none, none]) (L' := [some (.ref x_p), none, none, none, none, none]) (And.intro rfl (trivial)) ?_
      exact k1 _ rfl
set_option maxHeartbeats 4000000 in
set_option maxRecDepth 100000 in
theorem t_X10_readGo {N : Nat} {x_p : Nat} {x_a : Nat → Nat} {x_characters : List Int32} {x_length : Int32} {x_start : Int32} {x_end : Int32} {x_kind : Int32} {x_digit : Int32} {x_lastQ : Int32} {x_lastR : Int32} {x_lastT : Int32} {g_p : Nat} {g_k : Nat} {c_p : Nat} {c_a : Nat → Nat} {c_codes : List Int32} {c_size : Int32} {u : Int32 × Int32 × Int32 × Int32 × Int32 × Int32 × Int32 × Int32 × (List Int32) × Int32} (hk_g : g_k < 3) (h : f_X10_readGo N x_characters x_length x_end x_digit x_lastQ x_lastR x_lastT g_k c_codes c_size = some u) : Ct l D r (z_rl xs) zm_X10_readGo 0 0 [.ref x_p, .ref g_p, .ref c_p] ([sTx x_p x_a x_characters x_length x_start x_end x_kind x_digit x_lastQ x_lastR x_lastT, sLa r g_p g_k, sCe c_p c_a c_codes c_size] : List ZW).flatten (fun v' w' => v' = some (.int u.1) ∧ w' = ([sTx x_p x_a x_characters x_length u.2.1 u.2.2.1 u.2.2.2.1 u.2.2.2.2.1 u.2.2.2.2.2.1 u.2.2.2.2.2.2.1 u.2.2.2.2.2.2.2.1, sLa r g_p g_k, sCe c_p c_a u.2.2.2.2.2.2.2.2.1 u.2.2.2.2.2.2.2.2.2] : List ZW).flatten) := by
  refine Ct.of (by decide +kernel) rfl (fun q => absurd q (by decide)) (Nat.le_of_ble_eq_true rfl) ?_
  refine Go.eqz (z2 := (0, [some (.ref x_p), some (.ref g_p), some (.ref c_p), none, none, none], [], ([sTx x_p x_a x_characters x_length x_start x_end x_kind x_digit x_lastQ x_lastR x_lastT, sLa r g_p g_k, sCe c_p c_a c_codes c_size] : List ZW).flatten)) rfl ?_
  unfold f_X10_readGo at h
  refine Go.blk zk_X10_readGo [0] (z' := (1, [some (.ref x_p), some (.ref g_p), some (.ref c_p), none, none, none], [.ref x_p], ([sTx x_p x_a x_characters x_length x_start x_end x_kind x_digit x_lastQ x_lastR x_lastT, sLa r g_p g_k, sCe c_p c_a c_codes c_size] : List ZW).flatten)) rfl trivial ?_
  obtain ⟨u1, hu1, h⟩ := z_bind h
  refine Go.vs zk_X10_readGo zm_X10_nextDigit [0] [1, 2] 0 10 3 (S := [sTx x_p x_a x_characters x_length x_start x_end x_kind x_digit x_lastQ x_lastR x_lastT, sLa r g_p g_k, sCe c_p c_a c_codes c_size]) (S2 := [sTx x_p x_a x_characters x_length u1.2.1 u1.2.2.1 u1.2.2.2.1 u1.2.2.2.2 x_lastQ x_lastR x_lastT, sLa r g_p g_k, sCe c_p c_a c_codes c_size]) (As := []) (rest := []) (st2 := [.int u1.1]) (v1 := some (.int u1.1)) rfl zl_X10_47 zv_X10_nextDigit ⟨Nat.le_of_ble_eq_true rfl, Nat.le_of_ble_eq_true rfl⟩ rfl (by decide) rfl rfl rfl rfl rfl (Nat.le_of_ble_eq_true rfl) (t_X10_nextDigit hu1) rfl rfl rfl ?_
  by_cases hc2 : u1.1 = 0
  · rw [if_pos hc2] at h
    refine Go.br zk_X10_readGo rfl rfl (fun _ => ?_) (fun q => absurd hc2 q)
    refine Go.blk zk_X10_readGo [0] (z' := (8, [some (.ref x_p), some (.ref g_p), some (.ref c_p), none, none, none], [.int 0], ([sTx x_p x_a x_characters x_length u1.2.1 u1.2.2.1 u1.2.2.2.1 u1.2.2.2.2 x_lastQ x_lastR x_lastT, sLa r g_p g_k, sCe c_p c_a c_codes c_size] : List ZW).flatten)) rfl trivial ?_
    obtain rfl := Option.some.inj h
    exact Go.iret zk_X10_readGo rfl rfl rfl ⟨rfl, rfl⟩
  · rw [if_neg hc2] at h
    refine Go.br zk_X10_readGo rfl rfl (fun q => absurd q hc2) (fun _ => ?_)
    refine Go.blk zk_X10_readGo [0, 0] (z' := (11, [some (.ref x_p), some (.ref g_p), some (.ref c_p), some (.int 0), none, none], [], ([sTx x_p x_a x_characters x_length u1.2.1 u1.2.2.1 u1.2.2.2.1 u1.2.2.2.2 x_lastQ x_lastR x_lastT, sLa r g_p g_k, sCe c_p c_a c_codes c_size] : List ZW).flatten)) rfl trivial ?_
    obtain ⟨o13, he12, h⟩ := z_bind h
    cases o13 with
    | inl e12 =>
      simp only [Sum.elim_inl] at h
      refine t_X10_readGo_L11 hk_g N _ _ _ _ _ _ _ _ _ _ _ he12 (fun _ q => ?_) (fun _ q => nomatch q)
      obtain rfl := Sum.inl.inj q
      refine Go.blk zk_X10_readGo [0, 0, 0] (z' := (112, [some (.ref x_p), none, none, none, none, none], [.int 4, .int e12.2.2.1], ([sTx x_p x_a x_characters x_length e12.1 e12.2.1 e12.2.2.1 e12.2.2.2.1 e12.2.2.2.2.1 e12.2.2.2.2.2.1 e12.2.2.2.2.2.2.1, sLa r g_p g_k, sCe c_p c_a e12.2.2.2.2.2.2.2.1 e12.2.2.2.2.2.2.2.2] : List ZW).flatten)) rfl ⟨rfl, trivial⟩ ?_
      by_cases hc15 : e12.2.2.1 = 4
      · rw [if_pos hc15] at h
        refine Go.br zk_X10_readGo rfl rfl (fun _ => ?_) (fun q => absurd hc15 q)
        refine Go.blk zk_X10_readGo [0, 0] (z' := (120, [some (.ref x_p), none, none, none, none, none], [.int 1], ([sTx x_p x_a x_characters x_length e12.1 e12.2.1 e12.2.2.1 e12.2.2.2.1 e12.2.2.2.2.1 e12.2.2.2.2.2.1 e12.2.2.2.2.2.2.1, sLa r g_p g_k, sCe c_p c_a e12.2.2.2.2.2.2.2.1 e12.2.2.2.2.2.2.2.2] : List ZW).flatten)) rfl trivial ?_
        obtain rfl := Option.some.inj h
        exact Go.iret zk_X10_readGo rfl rfl rfl ⟨rfl, rfl⟩
      · rw [if_neg hc15] at h
        refine Go.br zk_X10_readGo rfl rfl (fun q => absurd q hc15) (fun _ => ?_)
        refine Go.blk zk_X10_readGo [0] (z' := (120, [some (.ref x_p), none, none, none, none, none], [.int 0], ([sTx x_p x_a x_characters x_length e12.1 e12.2.1 e12.2.2.1 e12.2.2.2.1 e12.2.2.2.2.1 e12.2.2.2.2.2.1 e12.2.2.2.2.2.2.1, sLa r g_p g_k, sCe c_p c_a e12.2.2.2.2.2.2.2.1 e12.2.2.2.2.2.2.2.2] : List ZW).flatten)) rfl trivial ?_
        obtain rfl := Option.some.inj h
        exact Go.iret zk_X10_readGo rfl rfl rfl ⟨rfl, rfl⟩
    | inr u14 =>
      simp only [Sum.elim_inr] at h
      obtain rfl := Option.some.inj h
      refine t_X10_readGo_L11 hk_g N _ _ _ _ _ _ _ _ _ _ _ he12 (fun _ q => nomatch q) (fun _ q => ?_)
      obtain rfl := Sum.inr.inj q
      exact ⟨rfl, rfl⟩
set_option maxHeartbeats 4000000 in
set_option maxRecDepth 100000 in
theorem t_X10_readItem {N : Nat} {x_p : Nat} {x_a : Nat → Nat} {x_characters : List Int32} {x_length : Int32} {x_start : Int32} {x_end : Int32} {x_kind : Int32} {x_digit : Int32} {x_lastQ : Int32} {x_lastR : Int32} {x_lastT : Int32} {g_p : Nat} {g_k : Nat} {c_p : Nat} {c_a : Nat → Nat} {c_codes : List Int32} {c_size : Int32} {u : Int32 × Int32 × Int32 × Int32 × Int32 × Int32 × Int32 × Int32 × (List Int32) × Int32} (hk_g : g_k < 3) (h : f_X10_readItem N x_characters x_length x_start x_end x_kind x_digit x_lastQ x_lastR x_lastT g_k c_codes c_size = some u) : Ct l D r (z_rl xs) zm_X10_readItem 0 0 [.ref x_p, .ref g_p, .ref c_p] ([sTx x_p x_a x_characters x_length x_start x_end x_kind x_digit x_lastQ x_lastR x_lastT, sLa r g_p g_k, sCe c_p c_a c_codes c_size] : List ZW).flatten (fun v' w' => v' = some (.int u.1) ∧ w' = ([sTx x_p x_a x_characters x_length u.2.1 u.2.2.1 u.2.2.2.1 u.2.2.2.2.1 u.2.2.2.2.2.1 u.2.2.2.2.2.2.1 u.2.2.2.2.2.2.2.1, sLa r g_p g_k, sCe c_p c_a u.2.2.2.2.2.2.2.2.1 u.2.2.2.2.2.2.2.2.2] : List ZW).flatten) := by
  refine Ct.of (by decide +kernel) rfl (fun q => absurd q (by decide)) (Nat.le_of_ble_eq_true rfl) ?_
  refine Go.eqz (z2 := (0, [some (.ref x_p), some (.ref g_p), some (.ref c_p)], [], ([sTx x_p x_a x_characters x_length x_start x_end x_kind x_digit x_lastQ x_lastR x_lastT, sLa r g_p g_k, sCe c_p c_a c_codes c_size] : List ZW).flatten)) rfl ?_
  unfold f_X10_readItem at h
  refine Go.blk zk_X10_readItem [0, 0, 0] (z' := (5, [some (.ref x_p), some (.ref g_p), some (.ref c_p)], [.int 1, .int x_kind], ([sTx x_p x_a x_characters x_length x_start x_end x_kind x_digit x_lastQ x_lastR x_lastT, sLa r g_p g_k, sCe c_p c_a c_codes c_size] : List ZW).flatten)) rfl ⟨rfl, trivial⟩ ?_
  by_cases hc1 : x_kind = 1
  · rw [if_pos hc1] at h
    refine Go.br zk_X10_readItem rfl rfl (fun _ => ?_) (fun q => absurd hc1 q)
    refine Go.blk zk_X10_readItem [0, 0, 0] (z' := (11, [some (.ref x_p), some (.ref g_p), some (.ref c_p)], [.ref c_p, .ref g_p, .ref x_p], ([sTx x_p x_a x_characters x_length x_start x_end x_kind x_digit x_lastQ x_lastR x_lastT, sLa r g_p g_k, sCe c_p c_a c_codes c_size] : List ZW).flatten)) rfl trivial ?_
    obtain ⟨u2, hu2, h⟩ := z_bind h
    refine Go.vs zk_X10_readItem zm_X10_readAt [0, 1, 2] [] 0 10 3 (S := [sTx x_p x_a x_characters x_length x_start x_end x_kind x_digit x_lastQ x_lastR x_lastT, sLa r g_p g_k, sCe c_p c_a c_codes c_size]) (S2 := [sTx x_p x_a x_characters x_length u2.2.1 u2.2.2.1 u2.2.2.2.1 u2.2.2.2.2.1 u2.2.2.2.2.2.1 u2.2.2.2.2.2.2.1 u2.2.2.2.2.2.2.2.1, sLa r g_p g_k, sCe c_p c_a u2.2.2.2.2.2.2.2.2.1 u2.2.2.2.2.2.2.2.2.2]) (As := [.ref g_p, .ref c_p]) (rest := []) (st2 := [.int u2.1]) (v1 := some (.int u2.1)) rfl zl_X10_38 zv_X10_readAt ⟨Nat.le_of_ble_eq_true rfl, Nat.le_of_ble_eq_true rfl⟩ rfl (by decide) rfl rfl rfl rfl rfl (Nat.le_of_ble_eq_true rfl) (t_X10_readAt hk_g hu2) rfl rfl rfl ?_
    by_cases hb3 : u2.1 = 0 ∨ u2.1 = 1
    case neg => rw [if_neg hb3] at h; cases h
    rw [if_pos hb3] at h
    obtain rfl := Option.some.inj h
    exact Go.iret zk_X10_readItem rfl rfl (z_nrb hb3) ⟨rfl, rfl⟩
  · rw [if_neg hc1] at h
    refine Go.br zk_X10_readItem rfl rfl (fun q => absurd q hc1) (fun _ => ?_)
    refine Go.blk zk_X10_readItem [0, 0, 0] (z' := (20, [some (.ref x_p), some (.ref g_p), some (.ref c_p)], [.int 2, .int x_kind], ([sTx x_p x_a x_characters x_length x_start x_end x_kind x_digit x_lastQ x_lastR x_lastT, sLa r g_p g_k, sCe c_p c_a c_codes c_size] : List ZW).flatten)) rfl ⟨rfl, trivial⟩ ?_
    by_cases hc4 : x_kind = 2
    · rw [if_pos hc4] at h
      refine Go.br zk_X10_readItem rfl rfl (fun _ => ?_) (fun q => absurd hc4 q)
      refine Go.blk zk_X10_readItem [0, 3] (z' := (27, [some (.ref x_p), some (.ref g_p), some (.ref c_p)], [.int c_size], ([sTx x_p x_a x_characters x_length x_start x_end x_kind x_digit x_lastQ x_lastR x_lastT, sLa r g_p g_k, sCe c_p c_a c_codes c_size] : List ZW).flatten)) rfl ⟨rfl, trivial⟩ ?_
      by_cases hc5 : 0 < c_size
      · rw [if_pos hc5] at h
        refine Go.br zk_X10_readItem rfl rfl (fun _ => ?_) (fun q => absurd hc5 q)
        refine Go.blk zk_X10_readItem [0, 0, 0] (z' := (33, [some (.ref x_p), some (.ref g_p), some (.ref c_p)], [.ref c_p, .ref g_p, .ref x_p], ([sTx x_p x_a x_characters x_length x_start x_end x_kind x_digit x_lastQ x_lastR x_lastT, sLa r g_p g_k, sCe c_p c_a c_codes c_size] : List ZW).flatten)) rfl trivial ?_
        obtain ⟨u6, hu6, h⟩ := z_bind h
        refine Go.vs zk_X10_readItem zm_X10_readGo [0, 1, 2] [] 0 10 3 (S := [sTx x_p x_a x_characters x_length x_start x_end x_kind x_digit x_lastQ x_lastR x_lastT, sLa r g_p g_k, sCe c_p c_a c_codes c_size]) (S2 := [sTx x_p x_a x_characters x_length u6.2.1 u6.2.2.1 u6.2.2.2.1 u6.2.2.2.2.1 u6.2.2.2.2.2.1 u6.2.2.2.2.2.2.1 u6.2.2.2.2.2.2.2.1, sLa r g_p g_k, sCe c_p c_a u6.2.2.2.2.2.2.2.2.1 u6.2.2.2.2.2.2.2.2.2]) (As := [.ref g_p, .ref c_p]) (rest := []) (st2 := [.int u6.1]) (v1 := some (.int u6.1)) rfl zl_X10_44 zv_X10_readGo ⟨Nat.le_of_ble_eq_true rfl, Nat.le_of_ble_eq_true rfl⟩ rfl (by decide) rfl rfl rfl rfl rfl (Nat.le_of_ble_eq_true rfl) (t_X10_readGo hk_g hu6) rfl rfl rfl ?_
        by_cases hc7 : u6.1 = 0
        · rw [if_pos hc7] at h
          refine Go.br zk_X10_readItem rfl rfl (fun _ => ?_) (fun q => absurd hc7 q)
          refine Go.blk zk_X10_readItem [0] (z' := (44, [some (.ref x_p), some (.ref g_p), some (.ref c_p)], [.int 0], ([sTx x_p x_a x_characters x_length u6.2.1 u6.2.2.1 u6.2.2.2.1 u6.2.2.2.2.1 u6.2.2.2.2.2.1 u6.2.2.2.2.2.2.1 u6.2.2.2.2.2.2.2.1, sLa r g_p g_k, sCe c_p c_a u6.2.2.2.2.2.2.2.2.1 u6.2.2.2.2.2.2.2.2.2] : List ZW).flatten)) rfl trivial ?_
          obtain rfl := Option.some.inj h
          exact Go.iret zk_X10_readItem rfl rfl rfl ⟨rfl, rfl⟩
        · rw [if_neg hc7] at h
          refine Go.br zk_X10_readItem rfl rfl (fun q => absurd q hc7) (fun _ => ?_)
          refine Go.blk zk_X10_readItem [0, 0] (z' := (44, [some (.ref x_p), some (.ref g_p), some (.ref c_p)], [.int 1], ([sTx x_p x_a x_characters x_length u6.2.1 u6.2.2.1 u6.2.2.2.1 u6.2.2.2.2.1 u6.2.2.2.2.2.1 u6.2.2.2.2.2.2.1 u6.2.2.2.2.2.2.2.1, sLa r g_p g_k, sCe c_p c_a u6.2.2.2.2.2.2.2.2.1 u6.2.2.2.2.2.2.2.2.2] : List ZW).flatten)) rfl trivial ?_
          obtain rfl := Option.some.inj h
          exact Go.iret zk_X10_readItem rfl rfl rfl ⟨rfl, rfl⟩
      · rw [if_neg hc5] at h
        refine Go.br zk_X10_readItem rfl rfl (fun q => absurd q hc5) (fun _ => ?_)
        refine Go.blk zk_X10_readItem [0] (z' := (44, [some (.ref x_p), some (.ref g_p), some (.ref c_p)], [.int 0], ([sTx x_p x_a x_characters x_length x_start x_end x_kind x_digit x_lastQ x_lastR x_lastT, sLa r g_p g_k, sCe c_p c_a c_codes c_size] : List ZW).flatten)) rfl trivial ?_
        obtain rfl := Option.some.inj h
        exact Go.iret zk_X10_readItem rfl rfl rfl ⟨rfl, rfl⟩
    · rw [if_neg hc4] at h
      refine Go.br zk_X10_readItem rfl rfl (fun q => absurd q hc4) (fun _ => ?_)
      refine Go.blk zk_X10_readItem [0] (z' := (44, [some (.ref x_p), some (.ref g_p), some (.ref c_p)], [.int 0], ([sTx x_p x_a x_characters x_length x_start x_end x_kind x_digit x_lastQ x_lastR x_lastT, sLa r g_p g_k, sCe c_p c_a c_codes c_size] : List ZW).flatten)) rfl trivial ?_
      obtain rfl := Option.some.inj h
      exact Go.iret zk_X10_readItem rfl rfl rfl ⟨rfl, rfl⟩
set_option maxHeartbeats 4000000 in
set_option maxRecDepth 100000 in
theorem t_X10_read_L11 {N : Nat} {x_p : Nat} {x_a : Nat → Nat} {x_characters : List Int32} {x_length : Int32} {g_p : Nat} {g_k : Nat} {c_p : Nat} {c_a : Nat → Nat} (hk_g : g_k < 3) {Q : Option Value → ZW → Prop} : ∀ (fu : Nat) (v3 : Int32) (x_start : Int32) (x_end : Int32) (x_kind : Int32) (x_digit : Int32) (x_lastQ : Int32) (x_lastR : Int32) (x_lastT : Int32) (c_codes : List Int32) (c_size : Int32) (o : (Int32 × Int32 × Int32 × Int32 × Int32 × Int32 × Int32 × (List Int32) × Int32) ⊕ (Int32 × Int32 × Int32 × Int32 × Int32 × Int32 × Int32 × Int32 × (List Int32) × Int32)), f_X10_read_L11 N x_characters x_length g_k fu v3 x_start x_end x_kind x_digit x_lastQ x_lastR x_lastT c_codes c_size = some o → (∀ e, o = .inl e → Go l D r (z_rl xs) zm_X10_read 0 0 (50, [some (.ref x_p), none, none, none], [], ([sTx x_p x_a x_characters x_length e.1 e.2.1 e.2.2.1 e.2.2.2.1 e.2.2.2.2.1 e.2.2.2.2.2.1 e.2.2.2.2.2.2.1, sLa r g_p g_k, sCe c_p c_a e.2.2.2.2.2.2.2.1 e.2.2.2.2.2.2.2.2] : List ZW).flatten) Q) → (∀ e, o = .inr e → Q (some (.int e.1)) ([sTx x_p x_a x_characters x_length e.2.1 e.2.2.1 e.2.2.2.1 e.2.2.2.2.1 e.2.2.2.2.2.1 e.2.2.2.2.2.2.1 e.2.2.2.2.2.2.2.1, sLa r g_p g_k, sCe c_p c_a e.2.2.2.2.2.2.2.2.1 e.2.2.2.2.2.2.2.2.2] : List ZW).flatten) → Go l D r (z_rl xs) zm_X10_read 0 0 (11, [some (.ref x_p), some (.ref g_p), some (.ref c_p), some (.int v3)], [], ([sTx x_p x_a x_characters x_length x_start x_end x_kind x_digit x_lastQ x_lastR x_lastT, sLa r g_p g_k, sCe c_p c_a c_codes c_size] : List ZW).flatten) Q := by
  intro fu
  induction fu with
  | zero =>
    intro v3 x_start x_end x_kind x_digit x_lastQ x_lastR x_lastT c_codes c_size o h
    simp only [f_X10_read_L11, reduceCtorEq] at h
  | succ fu ih =>
    intro v3 x_start x_end x_kind x_digit x_lastQ x_lastR x_lastT c_codes c_size o h k1 k2
    rw [f_X10_read_L11] at h
    refine Go.blk zk_X10_read [0, 0] (z' := (14, [some (.ref x_p), some (.ref g_p), some (.ref c_p), some (.int v3)], [.int 80, .int v3], ([sTx x_p x_a x_characters x_length x_start x_end x_kind x_digit x_lastQ x_lastR x_lastT, sLa r g_p g_k, sCe c_p c_a c_codes c_size] : List ZW).flatten)) rfl trivial ?_
    by_cases hc2 : 80 < v3
    · rw [if_pos hc2] at h
      refine Go.br zk_X10_read rfl rfl (fun _ => ?_) (fun q => absurd hc2 q)
      obtain rfl := Option.some.inj h
      refine Go.weak (L := [some (.ref x_p), some (.ref g_p), some (.ref c_p), some (.int v3)]) (L' := [some (.ref x_p), none, none, none]) (And.intro rfl (trivial)) ?_
      exact k1 _ rfl
    · rw [if_neg hc2] at h
      refine Go.br zk_X10_read rfl rfl (fun q => absurd q hc2) (fun _ => ?_)
      refine Go.blk zk_X10_read [0] (z' := (18, [some (.ref x_p), some (.ref g_p), some (.ref c_p), some (.int v3)], [.ref x_p], ([sTx x_p x_a x_characters x_length x_start x_end x_kind x_digit x_lastQ x_lastR x_lastT, sLa r g_p g_k, sCe c_p c_a c_codes c_size] : List ZW).flatten)) rfl trivial ?_
      obtain ⟨u3, hu3, h⟩ := z_bind h
      refine Go.vs zk_X10_read zm_X10_nextToken [0] [1, 2] 0 10 3 (S := [sTx x_p x_a x_characters x_length x_start x_end x_kind x_digit x_lastQ x_lastR x_lastT, sLa r g_p g_k, sCe c_p c_a c_codes c_size]) (S2 := [sTx x_p x_a x_characters x_length u3.1 u3.2.1 u3.2.2.1 u3.2.2.2 x_lastQ x_lastR x_lastT, sLa r g_p g_k, sCe c_p c_a c_codes c_size]) (As := []) (rest := []) (st2 := []) (v1 := none) rfl zl_X10_25 zv_X10_nextToken ⟨Nat.le_of_ble_eq_true rfl, Nat.le_of_ble_eq_true rfl⟩ rfl (by decide) rfl rfl rfl rfl rfl (Nat.le_of_ble_eq_true rfl) (t_X10_nextToken hu3) rfl rfl rfl ?_
      refine Go.blk zk_X10_read [0, 0] (z' := (25, [some (.ref x_p), some (.ref g_p), some (.ref c_p), some (.int v3)], [.int u3.2.2.1], ([sTx x_p x_a x_characters x_length u3.1 u3.2.1 u3.2.2.1 u3.2.2.2 x_lastQ x_lastR x_lastT, sLa r g_p g_k, sCe c_p c_a c_codes c_size] : List ZW).flatten)) rfl ⟨rfl, trivial⟩ ?_
      by_cases hc4 : u3.2.2.1 = 0
      · rw [if_pos hc4] at h
        refine Go.br zk_X10_read rfl rfl (fun _ => ?_) (fun q => absurd hc4 q)
        refine Go.blk zk_X10_read [0] (z' := (29, [some (.ref x_p), some (.ref g_p), some (.ref c_p), some (.int v3)], [.int (-1)], ([sTx x_p x_a x_characters x_length u3.1 u3.2.1 u3.2.2.1 u3.2.2.2 x_lastQ x_lastR x_lastT, sLa r g_p g_k, sCe c_p c_a c_codes c_size] : List ZW).flatten)) rfl trivial ?_
        obtain rfl := Option.some.inj h
        exact Go.iret zk_X10_read rfl rfl rfl (k2 _ rfl)
      · rw [if_neg hc4] at h
        refine Go.br zk_X10_read rfl rfl (fun q => absurd q hc4) (fun _ => ?_)
        refine Go.blk zk_X10_read [0, 0, 0] (z' := (33, [some (.ref x_p), some (.ref g_p), some (.ref c_p), some (.int v3)], [.ref c_p, .ref g_p, .ref x_p], ([sTx x_p x_a x_characters x_length u3.1 u3.2.1 u3.2.2.1 u3.2.2.2 x_lastQ x_lastR x_lastT, sLa r g_p g_k, sCe c_p c_a c_codes c_size] : List ZW).flatten)) rfl trivial ?_
        obtain ⟨u5, hu5, h⟩ := z_bind h
        refine Go.vs zk_X10_read zm_X10_readItem [0, 1, 2] [] 0 10 3 (S := [sTx x_p x_a x_characters x_length u3.1 u3.2.1 u3.2.2.1 u3.2.2.2 x_lastQ x_lastR x_lastT, sLa r g_p g_k, sCe c_p c_a c_codes c_size]) (S2 := [sTx x_p x_a x_characters x_length u5.2.1 u5.2.2.1 u5.2.2.2.1 u5.2.2.2.2.1 u5.2.2.2.2.2.1 u5.2.2.2.2.2.2.1 u5.2.2.2.2.2.2.2.1, sLa r g_p g_k, sCe c_p c_a u5.2.2.2.2.2.2.2.2.1 u5.2.2.2.2.2.2.2.2.2]) (As := [.ref g_p, .ref c_p]) (rest := []) (st2 := [.int u5.1]) (v1 := some (.int u5.1)) rfl zl_X10_31 zv_X10_readItem ⟨Nat.le_of_ble_eq_true rfl, Nat.le_of_ble_eq_true rfl⟩ rfl (by decide) rfl rfl rfl rfl rfl (Nat.le_of_ble_eq_true rfl) (t_X10_readItem hk_g hu5) rfl rfl rfl ?_
        by_cases hc6 : u5.1 = 0
        · rw [if_pos hc6] at h
          refine Go.br zk_X10_read rfl rfl (fun _ => ?_) (fun q => absurd hc6 q)
          refine Go.blk zk_X10_read [0, 0] (z' := (43, [some (.ref x_p), some (.ref g_p), some (.ref c_p), some (.int v3)], [.int u5.2.1], ([sTx x_p x_a x_characters x_length u5.2.1 u5.2.2.1 u5.2.2.2.1 u5.2.2.2.2.1 u5.2.2.2.2.2.1 u5.2.2.2.2.2.2.1 u5.2.2.2.2.2.2.2.1, sLa r g_p g_k, sCe c_p c_a u5.2.2.2.2.2.2.2.2.1 u5.2.2.2.2.2.2.2.2.2] : List ZW).flatten)) rfl ⟨rfl, trivial⟩ ?_
          obtain rfl := Option.some.inj h
          exact Go.iret zk_X10_read rfl rfl rfl (k2 _ rfl)
        · rw [if_neg hc6] at h
          refine Go.br zk_X10_read rfl rfl (fun q => absurd q hc6) (fun _ => ?_)
          refine Go.blk zk_X10_read [0, 0] (z' := (11, [some (.ref x_p), some (.ref g_p), some (.ref c_p), some (.int (v3 + 1))], [], ([sTx x_p x_a x_characters x_length u5.2.1 u5.2.2.1 u5.2.2.2.1 u5.2.2.2.2.1 u5.2.2.2.2.2.1 u5.2.2.2.2.2.2.1 u5.2.2.2.2.2.2.2.1, sLa r g_p g_k, sCe c_p c_a u5.2.2.2.2.2.2.2.2.1 u5.2.2.2.2.2.2.2.2.2] : List ZW).flatten)) rfl trivial ?_
          exact ih _ _ _ _ _ _ _ _ _ _ _ h k1 k2
set_option maxHeartbeats 4000000 in
set_option maxRecDepth 100000 in
theorem t_X10_read {N : Nat} {x_p : Nat} {x_a : Nat → Nat} {x_characters : List Int32} {x_length : Int32} {x_start : Int32} {x_end : Int32} {x_kind : Int32} {x_digit : Int32} {x_lastQ : Int32} {x_lastR : Int32} {x_lastT : Int32} {g_p : Nat} {g_k : Nat} {c_p : Nat} {c_a : Nat → Nat} {c_codes : List Int32} {c_size : Int32} {u : Int32 × Int32 × Int32 × Int32 × Int32 × Int32 × Int32 × Int32 × (List Int32) × Int32} (hk_g : g_k < 3) (h : f_X10_read N x_characters x_length x_start x_kind x_digit x_lastQ x_lastR x_lastT g_k c_codes = some u) : Ct l D r (z_rl xs) zm_X10_read 0 0 [.ref x_p, .ref g_p, .ref c_p] ([sTx x_p x_a x_characters x_length x_start x_end x_kind x_digit x_lastQ x_lastR x_lastT, sLa r g_p g_k, sCe c_p c_a c_codes c_size] : List ZW).flatten (fun v' w' => v' = some (.int u.1) ∧ w' = ([sTx x_p x_a x_characters x_length u.2.1 u.2.2.1 u.2.2.2.1 u.2.2.2.2.1 u.2.2.2.2.2.1 u.2.2.2.2.2.2.1 u.2.2.2.2.2.2.2.1, sLa r g_p g_k, sCe c_p c_a u.2.2.2.2.2.2.2.2.1 u.2.2.2.2.2.2.2.2.2] : List ZW).flatten) := by
  refine Ct.of (by decide +kernel) rfl (fun q => absurd q (by decide)) (Nat.le_of_ble_eq_true rfl) ?_
  refine Go.eqz (z2 := (0, [some (.ref x_p), some (.ref g_p), some (.ref c_p), none], [], ([sTx x_p x_a x_characters x_length x_start x_end x_kind x_digit x_lastQ x_lastR x_lastT, sLa r g_p g_k, sCe c_p c_a c_codes c_size] : List ZW).flatten)) rfl ?_
  unfold f_X10_read at h
  refine Go.blk zk_X10_read [0] (z' := (1, [some (.ref x_p), some (.ref g_p), some (.ref c_p), none], [.ref c_p], ([sTx x_p x_a x_characters x_length x_start x_end x_kind x_digit x_lastQ x_lastR x_lastT, sLa r g_p g_k, sCe c_p c_a c_codes c_size] : List ZW).flatten)) rfl trivial ?_
  obtain ⟨u1, hu1, h⟩ := z_bind h
  refine Go.vs zk_X10_read zm_X2_clear [2] [0, 1] 0 2 3 (S := [sTx x_p x_a x_characters x_length x_start x_end x_kind x_digit x_lastQ x_lastR x_lastT, sLa r g_p g_k, sCe c_p c_a c_codes c_size]) (S2 := [sTx x_p x_a x_characters x_length x_start x_end x_kind x_digit x_lastQ x_lastR x_lastT, sLa r g_p g_k, sCe c_p c_a c_codes u1]) (As := []) (rest := []) (st2 := []) (v1 := none) rfl zl_X10_17 zv_X2_clear ⟨Nat.le_of_ble_eq_true rfl, Nat.le_of_ble_eq_true rfl⟩ rfl (by decide) rfl rfl rfl rfl rfl (Nat.le_of_ble_eq_true rfl) (t_X2_clear hu1) rfl rfl rfl ?_
  refine Go.blk zk_X10_read [0, 0] (z' := (6, [some (.ref x_p), some (.ref g_p), some (.ref c_p), none], [.int 0, .ref x_p], ([sTx x_p x_a x_characters x_length x_start x_end x_kind x_digit x_lastQ x_lastR x_lastT, sLa r g_p g_k, sCe c_p c_a c_codes u1] : List ZW).flatten)) rfl trivial ?_
  refine Go.put zk_X10_read 0 rfl rfl rfl rfl rfl (Nat.le_of_ble_eq_true rfl) ?_
  refine Go.eqz (z2 := (9, [some (.ref x_p), some (.ref g_p), some (.ref c_p), none], [], ([sTx x_p x_a x_characters x_length x_start 0 x_kind x_digit x_lastQ x_lastR x_lastT, sLa r g_p g_k, sCe c_p c_a c_codes u1] : List ZW).flatten)) rfl ?_
  refine Go.blk zk_X10_read [0, 0] (z' := (11, [some (.ref x_p), some (.ref g_p), some (.ref c_p), some (.int 0)], [], ([sTx x_p x_a x_characters x_length x_start 0 x_kind x_digit x_lastQ x_lastR x_lastT, sLa r g_p g_k, sCe c_p c_a c_codes u1] : List ZW).flatten)) rfl trivial ?_
  obtain ⟨o8, he7, h⟩ := z_bind h
  cases o8 with
  | inl e7 =>
    simp only [Sum.elim_inl] at h
    refine t_X10_read_L11 hk_g N _ _ _ _ _ _ _ _ _ _ _ he7 (fun _ q => ?_) (fun _ q => nomatch q)
    obtain rfl := Sum.inl.inj q
    refine Go.blk zk_X10_read [0, 0] (z' := (54, [some (.ref x_p), none, none, none], [.int e7.1], ([sTx x_p x_a x_characters x_length e7.1 e7.2.1 e7.2.2.1 e7.2.2.2.1 e7.2.2.2.2.1 e7.2.2.2.2.2.1 e7.2.2.2.2.2.2.1, sLa r g_p g_k, sCe c_p c_a e7.2.2.2.2.2.2.2.1 e7.2.2.2.2.2.2.2.2] : List ZW).flatten)) rfl ⟨rfl, trivial⟩ ?_
    obtain rfl := Option.some.inj h
    exact Go.iret zk_X10_read rfl rfl rfl ⟨rfl, rfl⟩
  | inr u9 =>
    simp only [Sum.elim_inr] at h
    obtain rfl := Option.some.inj h
    refine t_X10_read_L11 hk_g N _ _ _ _ _ _ _ _ _ _ _ he7 (fun _ q => nomatch q) (fun _ q => ?_)
    obtain rfl := Sum.inr.inj q
    exact ⟨rfl, rfl⟩
end
