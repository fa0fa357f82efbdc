section
variable {l : Launch} {D : va_G} {r : Nat → Nat} {xs : List Int32}
set_option maxHeartbeats 4000000 in
set_option maxRecDepth 100000 in
theorem t_X12_in {N : Nat} {i1 : Int32} {i2 : Int32} {i3 : Int32} {u : Int32}  (h : f_X12_in N i1 i2 i3 = some u) : Ct l D r (z_rl xs) zm_X12_in 0 0 [.int i1, .int i2, .int i3] ([] : List ZW).flatten (fun v' w' => v' = some (.int u) ∧ w' = ([] : List ZW).flatten) := by
  refine Ct.of (by decide +kernel) rfl (fun q => absurd q (by decide)) (Nat.le_of_ble_eq_true rfl) ?_
  refine Go.eqz (z2 := (0, [some (.int i1), some (.int i2), some (.int i3)], [], ([] : List ZW).flatten)) rfl ?_
  unfold f_X12_in at h
  refine Go.blk zk_X12_in [0, 0] (z' := (2, [some (.int i1), some (.int i2), some (.int i3)], [.int i2, .int i1], ([] : List ZW).flatten)) rfl trivial ?_
  by_cases hc1 : i1 < i2
  · rw [if_pos hc1] at h
    refine Go.br zk_X12_in rfl rfl (fun _ => ?_) (fun q => absurd hc1 q)
    refine Go.blk zk_X12_in [0] (z' := (15, [some (.int i1), some (.int i2), some (.int i3)], [.int 0], ([] : List ZW).flatten)) rfl trivial ?_
    obtain rfl := Option.some.inj h
    exact Go.iret zk_X12_in rfl rfl rfl ⟨rfl, rfl⟩
  · rw [if_neg hc1] at h
    refine Go.br zk_X12_in rfl rfl (fun q => absurd q hc1) (fun _ => ?_)
    refine Go.blk zk_X12_in [0, 0] (z' := (7, [some (.int i1), some (.int i2), some (.int i3)], [.int i3, .int i1], ([] : List ZW).flatten)) rfl trivial ?_
    by_cases hc2 : i3 < i1
    · rw [if_pos hc2] at h
      refine Go.br zk_X12_in rfl rfl (fun _ => ?_) (fun q => absurd hc2 q)
      refine Go.blk zk_X12_in [0] (z' := (15, [some (.int i1), some (.int i2), some (.int i3)], [.int 0], ([] : List ZW).flatten)) rfl trivial ?_
      obtain rfl := Option.some.inj h
      exact Go.iret zk_X12_in rfl rfl rfl ⟨rfl, rfl⟩
    · rw [if_neg hc2] at h
      refine Go.br zk_X12_in rfl rfl (fun q => absurd q hc2) (fun _ => ?_)
      refine Go.blk zk_X12_in [0, 0] (z' := (15, [some (.int i1), some (.int i2), some (.int i3)], [.int 1], ([] : List ZW).flatten)) rfl trivial ?_
      obtain rfl := Option.some.inj h
      exact Go.iret zk_X12_in rfl rfl rfl ⟨rfl, rfl⟩
set_option maxHeartbeats 4000000 in
set_option maxRecDepth 100000 in
theorem t_X12_directions {N : Nat} {m_p : Nat} {m_a : Nat → Nat} {m_d : List Int32} {m_was : List Int32} {m_kept : Int32} {m_read : List Int32} {m_text : List Int32} {m_typed : Int32} {m_n : Int32} {m_q : List Int32} {m_r : List Int32} {m_t : List Int32} {m_heldQ : List Int32} {m_heldR : List Int32} {m_heldT : List Int32} {m_heldN : Int32} {m_image : List Int32} {m_built : Int32} {m_fixed : List Int64} {m_isFree : List Int32} {m_from : List Int32} {m_some : List Int64} {m_field : List Int32} {m_queue : List Int32} {m_near : List Int32} {m_open : List Int32} {m_closed : List Int32} {m_at : Int32} {m_begin : Int32} {m_sort : Int32} {m_lastQ : Int32} {m_lastR : Int32} {m_lastT : Int32} {m_readN : Int32} {u : Int32}  (h : f_X12_directions N m_d = some u) : Ct l D r (z_rl xs) zm_X12_directions 0 0 [.ref m_p] ([sMo m_p m_a m_d m_was m_kept m_read m_text m_typed m_n m_q m_r m_t m_heldQ m_heldR m_heldT m_heldN m_image m_built m_fixed m_isFree m_from m_some m_field m_queue m_near m_open m_closed m_at m_begin m_sort m_lastQ m_lastR m_lastT m_readN] : List ZW).flatten (fun v' w' => v' = some (.int u) ∧ w' = ([sMo m_p m_a m_d m_was m_kept m_read m_text m_typed m_n m_q m_r m_t m_heldQ m_heldR m_heldT m_heldN m_image m_built m_fixed m_isFree m_from m_some m_field m_queue m_near m_open m_closed m_at m_begin m_sort m_lastQ m_lastR m_lastT m_readN] : List ZW).flatten) := by
  refine Ct.of (by decide +kernel) rfl (fun q => absurd q (by decide)) (Nat.le_of_ble_eq_true rfl) ?_
  refine Go.eqz (z2 := (0, [some (.ref m_p)], [], ([sMo m_p m_a m_d m_was m_kept m_read m_text m_typed m_n m_q m_r m_t m_heldQ m_heldR m_heldT m_heldN m_image m_built m_fixed m_isFree m_from m_some m_field m_queue m_near m_open m_closed m_at m_begin m_sort m_lastQ m_lastR m_lastT m_readN] : List ZW).flatten)) rfl ?_
  unfold f_X12_directions at h
  refine Go.blk zk_X12_directions [0, 0, 0] (z' := (5, [some (.ref m_p)], [.int 0, .ref (m_a 0)], ([sMo m_p m_a m_d m_was m_kept m_read m_text m_typed m_n m_q m_r m_t m_heldQ m_heldR m_heldT m_heldN m_image m_built m_fixed m_isFree m_from m_some m_field m_queue m_near m_open m_closed m_at m_begin m_sort m_lastQ m_lastR m_lastT m_readN] : List ZW).flatten)) rfl ⟨rfl, trivial⟩ ?_
  obtain ⟨x1, hx1, h⟩ := z_bind h
  refine Go.iald zk_X12_directions 1 rfl rfl rfl hx1 ?_
  by_cases hc2 : x1 = 0
  · rw [if_pos hc2] at h
    refine Go.br zk_X12_directions rfl rfl (fun _ => ?_) (fun q => absurd hc2 q)
    refine Go.blk zk_X12_directions [0, 0] (z' := (29, [some (.ref m_p)], [.int 4], ([sMo m_p m_a m_d m_was m_kept m_read m_text m_typed m_n m_q m_r m_t m_heldQ m_heldR m_heldT m_heldN m_image m_built m_fixed m_isFree m_from m_some m_field m_queue m_near m_open m_closed m_at m_begin m_sort m_lastQ m_lastR m_lastT m_readN] : List ZW).flatten)) rfl trivial ?_
    obtain rfl := Option.some.inj h
    exact Go.iret zk_X12_directions rfl rfl rfl ⟨rfl, rfl⟩
  · rw [if_neg hc2] at h
    refine Go.br zk_X12_directions rfl rfl (fun q => absurd q hc2) (fun _ => ?_)
    refine Go.blk zk_X12_directions [0, 0, 0] (z' := (18, [some (.ref m_p)], [.int 0, .ref (m_a 0)], ([sMo m_p m_a m_d m_was m_kept m_read m_text m_typed m_n m_q m_r m_t m_heldQ m_heldR m_heldT m_heldN m_image m_built m_fixed m_isFree m_from m_some m_field m_queue m_near m_open m_closed m_at m_begin m_sort m_lastQ m_lastR m_lastT m_readN] : List ZW).flatten)) rfl ⟨rfl, trivial⟩ ?_
    obtain ⟨x3, hx3, h⟩ := z_bind h
    refine Go.iald zk_X12_directions 1 rfl rfl rfl hx3 ?_
    refine Go.blk zk_X12_directions [0] (z' := (20, [some (.ref m_p)], [.int 1, .int x3], ([sMo m_p m_a m_d m_was m_kept m_read m_text m_typed m_n m_q m_r m_t m_heldQ m_heldR m_heldT m_heldN m_image m_built m_fixed m_isFree m_from m_some m_field m_queue m_near m_open m_closed m_at m_begin m_sort m_lastQ m_lastR m_lastT m_readN] : List ZW).flatten)) rfl trivial ?_
    by_cases hc4 : x3 = 1
    · rw [if_pos hc4] at h
      refine Go.br zk_X12_directions rfl rfl (fun _ => ?_) (fun q => absurd hc4 q)
      refine Go.blk zk_X12_directions [0, 0] (z' := (29, [some (.ref m_p)], [.int 3], ([sMo m_p m_a m_d m_was m_kept m_read m_text m_typed m_n m_q m_r m_t m_heldQ m_heldR m_heldT m_heldN m_image m_built m_fixed m_isFree m_from m_some m_field m_queue m_near m_open m_closed m_at m_begin m_sort m_lastQ m_lastR m_lastT m_readN] : List ZW).flatten)) rfl trivial ?_
      obtain rfl := Option.some.inj h
      exact Go.iret zk_X12_directions rfl rfl rfl ⟨rfl, rfl⟩
    · rw [if_neg hc4] at h
      refine Go.br zk_X12_directions rfl rfl (fun q => absurd q hc4) (fun _ => ?_)
      refine Go.blk zk_X12_directions [0] (z' := (29, [some (.ref m_p)], [.int 6], ([sMo m_p m_a m_d m_was m_kept m_read m_text m_typed m_n m_q m_r m_t m_heldQ m_heldR m_heldT m_heldN m_image m_built m_fixed m_isFree m_from m_some m_field m_queue m_near m_open m_closed m_at m_begin m_sort m_lastQ m_lastR m_lastT m_readN] : List ZW).flatten)) rfl trivial ?_
      obtain rfl := Option.some.inj h
      exact Go.iret zk_X12_directions rfl rfl rfl ⟨rfl, rfl⟩
set_option maxHeartbeats 4000000 in
set_option maxRecDepth 100000 in
theorem t_X12_greatest {N : Nat} {m_p : Nat} {m_a : Nat → Nat} {m_d : List Int32} {m_was : List Int32} {m_kept : Int32} {m_read : List Int32} {m_text : List Int32} {m_typed : Int32} {m_n : Int32} {m_q : List Int32} {m_r : List Int32} {m_t : List Int32} {m_heldQ : List Int32} {m_heldR : List Int32} {m_heldT : List Int32} {m_heldN : Int32} {m_image : List Int32} {m_built : Int32} {m_fixed : List Int64} {m_isFree : List Int32} {m_from : List Int32} {m_some : List Int64} {m_field : List Int32} {m_queue : List Int32} {m_near : List Int32} {m_open : List Int32} {m_closed : List Int32} {m_at : Int32} {m_begin : Int32} {m_sort : Int32} {m_lastQ : Int32} {m_lastR : Int32} {m_lastT : Int32} {m_readN : Int32} {u : Int32}  (h : f_X12_greatest N m_d = some u) : Ct l D r (z_rl xs) zm_X12_greatest 0 0 [.ref m_p] ([sMo m_p m_a m_d m_was m_kept m_read m_text m_typed m_n m_q m_r m_t m_heldQ m_heldR m_heldT m_heldN m_image m_built m_fixed m_isFree m_from m_some m_field m_queue m_near m_open m_closed m_at m_begin m_sort m_lastQ m_lastR m_lastT m_readN] : List ZW).flatten (fun v' w' => v' = some (.int u) ∧ w' = ([sMo m_p m_a m_d m_was m_kept m_read m_text m_typed m_n m_q m_r m_t m_heldQ m_heldR m_heldT m_heldN m_image m_built m_fixed m_isFree m_from m_some m_field m_queue m_near m_open m_closed m_at m_begin m_sort m_lastQ m_lastR m_lastT m_readN] : List ZW).flatten) := by
  refine Ct.of (by decide +kernel) rfl (fun q => absurd q (by decide)) (Nat.le_of_ble_eq_true rfl) ?_
  refine Go.eqz (z2 := (0, [some (.ref m_p)], [], ([sMo m_p m_a m_d m_was m_kept m_read m_text m_typed m_n m_q m_r m_t m_heldQ m_heldR m_heldT m_heldN m_image m_built m_fixed m_isFree m_from m_some m_field m_queue m_near m_open m_closed m_at m_begin m_sort m_lastQ m_lastR m_lastT m_readN] : List ZW).flatten)) rfl ?_
  unfold f_X12_greatest at h
  refine Go.blk zk_X12_greatest [0, 0, 0] (z' := (5, [some (.ref m_p)], [.int 0, .ref (m_a 0)], ([sMo m_p m_a m_d m_was m_kept m_read m_text m_typed m_n m_q m_r m_t m_heldQ m_heldR m_heldT m_heldN m_image m_built m_fixed m_isFree m_from m_some m_field m_queue m_near m_open m_closed m_at m_begin m_sort m_lastQ m_lastR m_lastT m_readN] : List ZW).flatten)) rfl ⟨rfl, trivial⟩ ?_
  obtain ⟨x1, hx1, h⟩ := z_bind h
  refine Go.iald zk_X12_greatest 1 rfl rfl rfl hx1 ?_
  by_cases hc2 : x1 = 0
  · rw [if_pos hc2] at h
    refine Go.br zk_X12_greatest rfl rfl (fun _ => ?_) (fun q => absurd hc2 q)
    refine Go.blk zk_X12_greatest [0, 0] (z' := (31, [some (.ref m_p)], [.int 7], ([sMo m_p m_a m_d m_was m_kept m_read m_text m_typed m_n m_q m_r m_t m_heldQ m_heldR m_heldT m_heldN m_image m_built m_fixed m_isFree m_from m_some m_field m_queue m_near m_open m_closed m_at m_begin m_sort m_lastQ m_lastR m_lastT m_readN] : List ZW).flatten)) rfl trivial ?_
    obtain rfl := Option.some.inj h
    exact Go.iret zk_X12_greatest rfl rfl rfl ⟨rfl, rfl⟩
  · rw [if_neg hc2] at h
    refine Go.br zk_X12_greatest rfl rfl (fun q => absurd q hc2) (fun _ => ?_)
    refine Go.blk zk_X12_greatest [0, 0, 0] (z' := (19, [some (.ref m_p)], [.int 0, .ref (m_a 0)], ([sMo m_p m_a m_d m_was m_kept m_read m_text m_typed m_n m_q m_r m_t m_heldQ m_heldR m_heldT m_heldN m_image m_built m_fixed m_isFree m_from m_some m_field m_queue m_near m_open m_closed m_at m_begin m_sort m_lastQ m_lastR m_lastT m_readN] : List ZW).flatten)) rfl ⟨rfl, trivial⟩ ?_
    obtain ⟨x3, hx3, h⟩ := z_bind h
    refine Go.iald zk_X12_greatest 1 rfl rfl rfl hx3 ?_
    refine Go.blk zk_X12_greatest [0] (z' := (21, [some (.ref m_p)], [.int 1, .int x3], ([sMo m_p m_a m_d m_was m_kept m_read m_text m_typed m_n m_q m_r m_t m_heldQ m_heldR m_heldT m_heldN m_image m_built m_fixed m_isFree m_from m_some m_field m_queue m_near m_open m_closed m_at m_begin m_sort m_lastQ m_lastR m_lastT m_readN] : List ZW).flatten)) rfl trivial ?_
    by_cases hc4 : x3 = 1
    · rw [if_pos hc4] at h
      refine Go.br zk_X12_greatest rfl rfl (fun _ => ?_) (fun q => absurd hc4 q)
      refine Go.blk zk_X12_greatest [0, 0] (z' := (31, [some (.ref m_p)], [.int 8], ([sMo m_p m_a m_d m_was m_kept m_read m_text m_typed m_n m_q m_r m_t m_heldQ m_heldR m_heldT m_heldN m_image m_built m_fixed m_isFree m_from m_some m_field m_queue m_near m_open m_closed m_at m_begin m_sort m_lastQ m_lastR m_lastT m_readN] : List ZW).flatten)) rfl trivial ?_
      obtain rfl := Option.some.inj h
      exact Go.iret zk_X12_greatest rfl rfl rfl ⟨rfl, rfl⟩
    · rw [if_neg hc4] at h
      refine Go.br zk_X12_greatest rfl rfl (fun q => absurd q hc4) (fun _ => ?_)
      refine Go.blk zk_X12_greatest [0] (z' := (31, [some (.ref m_p)], [.int 6], ([sMo m_p m_a m_d m_was m_kept m_read m_text m_typed m_n m_q m_r m_t m_heldQ m_heldR m_heldT m_heldN m_image m_built m_fixed m_isFree m_from m_some m_field m_queue m_near m_open m_closed m_at m_begin m_sort m_lastQ m_lastR m_lastT m_readN] : List ZW).flatten)) rfl trivial ?_
      obtain rfl := Option.some.inj h
      exact Go.iret zk_X12_greatest rfl rfl rfl ⟨rfl, rfl⟩
set_option maxHeartbeats 4000000 in
set_option maxRecDepth 100000 in
theorem t_X12_turnsOf {N : Nat} {m_p : Nat} {m_a : Nat → Nat} {m_d : List Int32} {m_was : List Int32} {m_kept : Int32} {m_read : List Int32} {m_text : List Int32} {m_typed : Int32} {m_n : Int32} {m_q : List Int32} {m_r : List Int32} {m_t : List Int32} {m_heldQ : List Int32} {m_heldR : List Int32} {m_heldT : List Int32} {m_heldN : Int32} {m_image : List Int32} {m_built : Int32} {m_fixed : List Int64} {m_isFree : List Int32} {m_from : List Int32} {m_some : List Int64} {m_field : List Int32} {m_queue : List Int32} {m_near : List Int32} {m_open : List Int32} {m_closed : List Int32} {m_at : Int32} {m_begin : Int32} {m_sort : Int32} {m_lastQ : Int32} {m_lastR : Int32} {m_lastT : Int32} {m_readN : Int32} {u : Int32}  (h : f_X12_turnsOf N m_d = some u) : Ct l D r (z_rl xs) zm_X12_turnsOf 0 0 [.ref m_p] ([sMo m_p m_a m_d m_was m_kept m_read m_text m_typed m_n m_q m_r m_t m_heldQ m_heldR m_heldT m_heldN m_image m_built m_fixed m_isFree m_from m_some m_field m_queue m_near m_open m_closed m_at m_begin m_sort m_lastQ m_lastR m_lastT m_readN] : List ZW).flatten (fun v' w' => v' = some (.int u) ∧ w' = ([sMo m_p m_a m_d m_was m_kept m_read m_text m_typed m_n m_q m_r m_t m_heldQ m_heldR m_heldT m_heldN m_image m_built m_fixed m_isFree m_from m_some m_field m_queue m_near m_open m_closed m_at m_begin m_sort m_lastQ m_lastR m_lastT m_readN] : List ZW).flatten) := by
  refine Ct.of (by decide +kernel) rfl (fun q => absurd q (by decide)) (Nat.le_of_ble_eq_true rfl) ?_
  refine Go.eqz (z2 := (0, [some (.ref m_p)], [], ([sMo m_p m_a m_d m_was m_kept m_read m_text m_typed m_n m_q m_r m_t m_heldQ m_heldR m_heldT m_heldN m_image m_built m_fixed m_isFree m_from m_some m_field m_queue m_near m_open m_closed m_at m_begin m_sort m_lastQ m_lastR m_lastT m_readN] : List ZW).flatten)) rfl ?_
  unfold f_X12_turnsOf at h
  refine Go.blk zk_X12_turnsOf [0, 0, 0] (z' := (5, [some (.ref m_p)], [.int 0, .ref (m_a 0)], ([sMo m_p m_a m_d m_was m_kept m_read m_text m_typed m_n m_q m_r m_t m_heldQ m_heldR m_heldT m_heldN m_image m_built m_fixed m_isFree m_from m_some m_field m_queue m_near m_open m_closed m_at m_begin m_sort m_lastQ m_lastR m_lastT m_readN] : List ZW).flatten)) rfl ⟨rfl, trivial⟩ ?_
  obtain ⟨x1, hx1, h⟩ := z_bind h
  refine Go.iald zk_X12_turnsOf 1 rfl rfl rfl hx1 ?_
  by_cases hc2 : x1 = 0
  · rw [if_pos hc2] at h
    refine Go.br zk_X12_turnsOf rfl rfl (fun _ => ?_) (fun q => absurd hc2 q)
    refine Go.blk zk_X12_turnsOf [0, 0] (z' := (15, [some (.ref m_p)], [.int 4], ([sMo m_p m_a m_d m_was m_kept m_read m_text m_typed m_n m_q m_r m_t m_heldQ m_heldR m_heldT m_heldN m_image m_built m_fixed m_isFree m_from m_some m_field m_queue m_near m_open m_closed m_at m_begin m_sort m_lastQ m_lastR m_lastT m_readN] : List ZW).flatten)) rfl trivial ?_
    obtain rfl := Option.some.inj h
    exact Go.iret zk_X12_turnsOf rfl rfl rfl ⟨rfl, rfl⟩
  · rw [if_neg hc2] at h
    refine Go.br zk_X12_turnsOf rfl rfl (fun q => absurd q hc2) (fun _ => ?_)
    refine Go.blk zk_X12_turnsOf [0] (z' := (15, [some (.ref m_p)], [.int 6], ([sMo m_p m_a m_d m_was m_kept m_read m_text m_typed m_n m_q m_r m_t m_heldQ m_heldR m_heldT m_heldN m_image m_built m_fixed m_isFree m_from m_some m_field m_queue m_near m_open m_closed m_at m_begin m_sort m_lastQ m_lastR m_lastT m_readN] : List ZW).flatten)) rfl trivial ?_
    obtain rfl := Option.some.inj h
    exact Go.iret zk_X12_turnsOf rfl rfl rfl ⟨rfl, rfl⟩
set_option maxHeartbeats 4000000 in
set_option maxRecDepth 100000 in
theorem t_X12_stepQ {N : Nat} {m_p : Nat} {m_a : Nat → Nat} {m_d : List Int32} {m_was : List Int32} {m_kept : Int32} {m_read : List Int32} {m_text : List Int32} {m_typed : Int32} {m_n : Int32} {m_q : List Int32} {m_r : List Int32} {m_t : List Int32} {m_heldQ : List Int32} {m_heldR : List Int32} {m_heldT : List Int32} {m_heldN : Int32} {m_image : List Int32} {m_built : Int32} {m_fixed : List Int64} {m_isFree : List Int32} {m_from : List Int32} {m_some : List Int64} {m_field : List Int32} {m_queue : List Int32} {m_near : List Int32} {m_open : List Int32} {m_closed : List Int32} {m_at : Int32} {m_begin : Int32} {m_sort : Int32} {m_lastQ : Int32} {m_lastR : Int32} {m_lastT : Int32} {m_readN : Int32} {i1 : Int32} {i2 : Int32} {u : Int32}  (h : f_X12_stepQ N i1 i2 m_d = some u) : Ct l D r (z_rl xs) zm_X12_stepQ 0 0 [.ref m_p, .int i1, .int i2] ([sMo m_p m_a m_d m_was m_kept m_read m_text m_typed m_n m_q m_r m_t m_heldQ m_heldR m_heldT m_heldN m_image m_built m_fixed m_isFree m_from m_some m_field m_queue m_near m_open m_closed m_at m_begin m_sort m_lastQ m_lastR m_lastT m_readN] : List ZW).flatten (fun v' w' => v' = some (.int u) ∧ w' = ([sMo m_p m_a m_d m_was m_kept m_read m_text m_typed m_n m_q m_r m_t m_heldQ m_heldR m_heldT m_heldN m_image m_built m_fixed m_isFree m_from m_some m_field m_queue m_near m_open m_closed m_at m_begin m_sort m_lastQ m_lastR m_lastT m_readN] : List ZW).flatten) := by
  refine Ct.of (by decide +kernel) rfl (fun q => absurd q (by decide)) (Nat.le_of_ble_eq_true rfl) ?_
  refine Go.eqz (z2 := (0, [some (.ref m_p), some (.int i1), some (.int i2)], [], ([sMo m_p m_a m_d m_was m_kept m_read m_text m_typed m_n m_q m_r m_t m_heldQ m_heldR m_heldT m_heldN m_image m_built m_fixed m_isFree m_from m_some m_field m_queue m_near m_open m_closed m_at m_begin m_sort m_lastQ m_lastR m_lastT m_readN] : List ZW).flatten)) rfl ?_
  unfold f_X12_stepQ at h
  refine Go.blk zk_X12_stepQ [0, 0, 0] (z' := (5, [some (.ref m_p), some (.int i1), some (.int i2)], [.int 0, .ref (m_a 0)], ([sMo m_p m_a m_d m_was m_kept m_read m_text m_typed m_n m_q m_r m_t m_heldQ m_heldR m_heldT m_heldN m_image m_built m_fixed m_isFree m_from m_some m_field m_queue m_near m_open m_closed m_at m_begin m_sort m_lastQ m_lastR m_lastT m_readN] : List ZW).flatten)) rfl ⟨rfl, trivial⟩ ?_
  obtain ⟨x1, hx1, h⟩ := z_bind h
  refine Go.iald zk_X12_stepQ 1 rfl rfl rfl hx1 ?_
  refine Go.blk zk_X12_stepQ [0] (z' := (7, [some (.ref m_p), some (.int i1), some (.int i2)], [.int 1, .int x1], ([sMo m_p m_a m_d m_was m_kept m_read m_text m_typed m_n m_q m_r m_t m_heldQ m_heldR m_heldT m_heldN m_image m_built m_fixed m_isFree m_from m_some m_field m_queue m_near m_open m_closed m_at m_begin m_sort m_lastQ m_lastR m_lastT m_readN] : List ZW).flatten)) rfl trivial ?_
  by_cases hc2 : x1 = 1
  · rw [if_pos hc2] at h
    refine Go.br zk_X12_stepQ rfl rfl (fun _ => ?_) (fun q => absurd hc2 q)
    refine Go.blk zk_X12_stepQ [0, 0] (z' := (12, [some (.ref m_p), some (.int i1), some (.int i2)], [.int 1, .int i1], ([sMo m_p m_a m_d m_was m_kept m_read m_text m_typed m_n m_q m_r m_t m_heldQ m_heldR m_heldT m_heldN m_image m_built m_fixed m_isFree m_from m_some m_field m_queue m_near m_open m_closed m_at m_begin m_sort m_lastQ m_lastR m_lastT m_readN] : List ZW).flatten)) rfl trivial ?_
    by_cases hc3 : i1 = 1
    · rw [if_pos hc3] at h
      refine Go.br zk_X12_stepQ rfl rfl (fun _ => ?_) (fun q => absurd hc3 q)
      refine Go.blk zk_X12_stepQ [0] (z' := (16, [some (.ref m_p), some (.int i1), some (.int i2)], [.int i2], ([sMo m_p m_a m_d m_was m_kept m_read m_text m_typed m_n m_q m_r m_t m_heldQ m_heldR m_heldT m_heldN m_image m_built m_fixed m_isFree m_from m_some m_field m_queue m_near m_open m_closed m_at m_begin m_sort m_lastQ m_lastR m_lastT m_readN] : List ZW).flatten)) rfl trivial ?_
      by_cases hc4 : i2 = 0
      · rw [if_pos hc4] at h
        refine Go.br zk_X12_stepQ rfl rfl (fun _ => ?_) (fun q => absurd hc4 q)
        refine Go.blk zk_X12_stepQ [0, 0] (z' := (28, [some (.ref m_p), some (.int i1), some (.int i2)], [.int (-1)], ([sMo m_p m_a m_d m_was m_kept m_read m_text m_typed m_n m_q m_r m_t m_heldQ m_heldR m_heldT m_heldN m_image m_built m_fixed m_isFree m_from m_some m_field m_queue m_near m_open m_closed m_at m_begin m_sort m_lastQ m_lastR m_lastT m_readN] : List ZW).flatten)) rfl trivial ?_
        obtain rfl := Option.some.inj h
        exact Go.iret zk_X12_stepQ rfl rfl rfl ⟨rfl, rfl⟩
      · rw [if_neg hc4] at h
        refine Go.br zk_X12_stepQ rfl rfl (fun q => absurd q hc4) (fun _ => ?_)
        refine Go.blk zk_X12_stepQ [0, 0] (z' := (28, [some (.ref m_p), some (.int i1), some (.int i2)], [.int 1], ([sMo m_p m_a m_d m_was m_kept m_read m_text m_typed m_n m_q m_r m_t m_heldQ m_heldR m_heldT m_heldN m_image m_built m_fixed m_isFree m_from m_some m_field m_queue m_near m_open m_closed m_at m_begin m_sort m_lastQ m_lastR m_lastT m_readN] : List ZW).flatten)) rfl trivial ?_
        obtain rfl := Option.some.inj h
        exact Go.iret zk_X12_stepQ rfl rfl rfl ⟨rfl, rfl⟩
    · rw [if_neg hc3] at h
      refine Go.br zk_X12_stepQ rfl rfl (fun q => absurd q hc3) (fun _ => ?_)
      refine Go.blk zk_X12_stepQ [0] (z' := (28, [some (.ref m_p), some (.int i1), some (.int i2)], [.int 0], ([sMo m_p m_a m_d m_was m_kept m_read m_text m_typed m_n m_q m_r m_t m_heldQ m_heldR m_heldT m_heldN m_image m_built m_fixed m_isFree m_from m_some m_field m_queue m_near m_open m_closed m_at m_begin m_sort m_lastQ m_lastR m_lastT m_readN] : List ZW).flatten)) rfl trivial ?_
      obtain rfl := Option.some.inj h
      exact Go.iret zk_X12_stepQ rfl rfl rfl ⟨rfl, rfl⟩
  · rw [if_neg hc2] at h
    refine Go.br zk_X12_stepQ rfl rfl (fun q => absurd q hc2) (fun _ => ?_)
    refine Go.blk zk_X12_stepQ [0, 0, 0] (z' := (34, [some (.ref m_p), some (.int i1), some (.int i2)], [.int 0, .ref (m_a 0)], ([sMo m_p m_a m_d m_was m_kept m_read m_text m_typed m_n m_q m_r m_t m_heldQ m_heldR m_heldT m_heldN m_image m_built m_fixed m_isFree m_from m_some m_field m_queue m_near m_open m_closed m_at m_begin m_sort m_lastQ m_lastR m_lastT m_readN] : List ZW).flatten)) rfl ⟨rfl, trivial⟩ ?_
    obtain ⟨x5, hx5, h⟩ := z_bind h
    refine Go.iald zk_X12_stepQ 1 rfl rfl rfl hx5 ?_
    by_cases hc6 : x5 = 0
    · rw [if_pos hc6] at h
      refine Go.br zk_X12_stepQ rfl rfl (fun _ => ?_) (fun q => absurd hc6 q)
      refine Go.blk zk_X12_stepQ [0] (z' := (39, [some (.ref m_p), some (.int i1), some (.int i2)], [.int i1], ([sMo m_p m_a m_d m_was m_kept m_read m_text m_typed m_n m_q m_r m_t m_heldQ m_heldR m_heldT m_heldN m_image m_built m_fixed m_isFree m_from m_some m_field m_queue m_near m_open m_closed m_at m_begin m_sort m_lastQ m_lastR m_lastT m_readN] : List ZW).flatten)) rfl trivial ?_
      by_cases hc7 : i1 = 0
      · rw [if_pos hc7] at h
        refine Go.br zk_X12_stepQ rfl rfl (fun _ => ?_) (fun q => absurd hc7 q)
        refine Go.blk zk_X12_stepQ [0, 0] (z' := (56, [some (.ref m_p), some (.int i1), some (.int i2)], [.int 1], ([sMo m_p m_a m_d m_was m_kept m_read m_text m_typed m_n m_q m_r m_t m_heldQ m_heldR m_heldT m_heldN m_image m_built m_fixed m_isFree m_from m_some m_field m_queue m_near m_open m_closed m_at m_begin m_sort m_lastQ m_lastR m_lastT m_readN] : List ZW).flatten)) rfl trivial ?_
        obtain rfl := Option.some.inj h
        exact Go.iret zk_X12_stepQ rfl rfl rfl ⟨rfl, rfl⟩
      · rw [if_neg hc7] at h
        refine Go.br zk_X12_stepQ rfl rfl (fun q => absurd q hc7) (fun _ => ?_)
        refine Go.blk zk_X12_stepQ [0, 0] (z' := (48, [some (.ref m_p), some (.int i1), some (.int i2)], [.int 2, .int i1], ([sMo m_p m_a m_d m_was m_kept m_read m_text m_typed m_n m_q m_r m_t m_heldQ m_heldR m_heldT m_heldN m_image m_built m_fixed m_isFree m_from m_some m_field m_queue m_near m_open m_closed m_at m_begin m_sort m_lastQ m_lastR m_lastT m_readN] : List ZW).flatten)) rfl trivial ?_
        by_cases hc8 : i1 = 2
        · rw [if_pos hc8] at h
          refine Go.br zk_X12_stepQ rfl rfl (fun _ => ?_) (fun q => absurd hc8 q)
          refine Go.blk zk_X12_stepQ [0, 0] (z' := (56, [some (.ref m_p), some (.int i1), some (.int i2)], [.int (-1)], ([sMo m_p m_a m_d m_was m_kept m_read m_text m_typed m_n m_q m_r m_t m_heldQ m_heldR m_heldT m_heldN m_image m_built m_fixed m_isFree m_from m_some m_field m_queue m_near m_open m_closed m_at m_begin m_sort m_lastQ m_lastR m_lastT m_readN] : List ZW).flatten)) rfl trivial ?_
          obtain rfl := Option.some.inj h
          exact Go.iret zk_X12_stepQ rfl rfl rfl ⟨rfl, rfl⟩
        · rw [if_neg hc8] at h
          refine Go.br zk_X12_stepQ rfl rfl (fun q => absurd q hc8) (fun _ => ?_)
          refine Go.blk zk_X12_stepQ [0] (z' := (56, [some (.ref m_p), some (.int i1), some (.int i2)], [.int 0], ([sMo m_p m_a m_d m_was m_kept m_read m_text m_typed m_n m_q m_r m_t m_heldQ m_heldR m_heldT m_heldN m_image m_built m_fixed m_isFree m_from m_some m_field m_queue m_near m_open m_closed m_at m_begin m_sort m_lastQ m_lastR m_lastT m_readN] : List ZW).flatten)) rfl trivial ?_
          obtain rfl := Option.some.inj h
          exact Go.iret zk_X12_stepQ rfl rfl rfl ⟨rfl, rfl⟩
    · rw [if_neg hc6] at h
      refine Go.br zk_X12_stepQ rfl rfl (fun q => absurd q hc6) (fun _ => ?_)
      refine Go.blk zk_X12_stepQ [0] (z' := (58, [some (.ref m_p), some (.int i1), some (.int i2)], [.int i1], ([sMo m_p m_a m_d m_was m_kept m_read m_text m_typed m_n m_q m_r m_t m_heldQ m_heldR m_heldT m_heldN m_image m_built m_fixed m_isFree m_from m_some m_field m_queue m_near m_open m_closed m_at m_begin m_sort m_lastQ m_lastR m_lastT m_readN] : List ZW).flatten)) rfl trivial ?_
      by_cases hc9 : i1 = 0
      · rw [if_pos hc9] at h
        refine Go.br zk_X12_stepQ rfl rfl (fun _ => ?_) (fun q => absurd hc9 q)
        refine Go.blk zk_X12_stepQ [0, 0] (z' := (85, [some (.ref m_p), some (.int i1), some (.int i2)], [.int 1], ([sMo m_p m_a m_d m_was m_kept m_read m_text m_typed m_n m_q m_r m_t m_heldQ m_heldR m_heldT m_heldN m_image m_built m_fixed m_isFree m_from m_some m_field m_queue m_near m_open m_closed m_at m_begin m_sort m_lastQ m_lastR m_lastT m_readN] : List ZW).flatten)) rfl trivial ?_
        obtain rfl := Option.some.inj h
        exact Go.iret zk_X12_stepQ rfl rfl rfl ⟨rfl, rfl⟩
      · rw [if_neg hc9] at h
        refine Go.br zk_X12_stepQ rfl rfl (fun q => absurd q hc9) (fun _ => ?_)
        refine Go.blk zk_X12_stepQ [0, 0] (z' := (63, [some (.ref m_p), some (.int i1), some (.int i2)], [.int 5, .int i1], ([sMo m_p m_a m_d m_was m_kept m_read m_text m_typed m_n m_q m_r m_t m_heldQ m_heldR m_heldT m_heldN m_image m_built m_fixed m_isFree m_from m_some m_field m_queue m_near m_open m_closed m_at m_begin m_sort m_lastQ m_lastR m_lastT m_readN] : List ZW).flatten)) rfl trivial ?_
        by_cases hc10 : i1 = 5
        · rw [if_pos hc10] at h
          refine Go.br zk_X12_stepQ rfl rfl (fun _ => ?_) (fun q => absurd hc10 q)
          refine Go.blk zk_X12_stepQ [0, 0] (z' := (85, [some (.ref m_p), some (.int i1), some (.int i2)], [.int 1], ([sMo m_p m_a m_d m_was m_kept m_read m_text m_typed m_n m_q m_r m_t m_heldQ m_heldR m_heldT m_heldN m_image m_built m_fixed m_isFree m_from m_some m_field m_queue m_near m_open m_closed m_at m_begin m_sort m_lastQ m_lastR m_lastT m_readN] : List ZW).flatten)) rfl trivial ?_
          obtain rfl := Option.some.inj h
          exact Go.iret zk_X12_stepQ rfl rfl rfl ⟨rfl, rfl⟩
        · rw [if_neg hc10] at h
          refine Go.br zk_X12_stepQ rfl rfl (fun q => absurd q hc10) (fun _ => ?_)
          refine Go.blk zk_X12_stepQ [0, 0] (z' := (72, [some (.ref m_p), some (.int i1), some (.int i2)], [.int 2, .int i1], ([sMo m_p m_a m_d m_was m_kept m_read m_text m_typed m_n m_q m_r m_t m_heldQ m_heldR m_heldT m_heldN m_image m_built m_fixed m_isFree m_from m_some m_field m_queue m_near m_open m_closed m_at m_begin m_sort m_lastQ m_lastR m_lastT m_readN] : List ZW).flatten)) rfl trivial ?_
          by_cases hc11 : i1 = 2
          · rw [if_pos hc11] at h
            refine Go.br zk_X12_stepQ rfl rfl (fun _ => ?_) (fun q => absurd hc11 q)
            refine Go.blk zk_X12_stepQ [0, 0] (z' := (85, [some (.ref m_p), some (.int i1), some (.int i2)], [.int (-1)], ([sMo m_p m_a m_d m_was m_kept m_read m_text m_typed m_n m_q m_r m_t m_heldQ m_heldR m_heldT m_heldN m_image m_built m_fixed m_isFree m_from m_some m_field m_queue m_near m_open m_closed m_at m_begin m_sort m_lastQ m_lastR m_lastT m_readN] : List ZW).flatten)) rfl trivial ?_
            obtain rfl := Option.some.inj h
            exact Go.iret zk_X12_stepQ rfl rfl rfl ⟨rfl, rfl⟩
          · rw [if_neg hc11] at h
            refine Go.br zk_X12_stepQ rfl rfl (fun q => absurd q hc11) (fun _ => ?_)
            refine Go.blk zk_X12_stepQ [0, 0] (z' := (77, [some (.ref m_p), some (.int i1), some (.int i2)], [.int 3, .int i1], ([sMo m_p m_a m_d m_was m_kept m_read m_text m_typed m_n m_q m_r m_t m_heldQ m_heldR m_heldT m_heldN m_image m_built m_fixed m_isFree m_from m_some m_field m_queue m_near m_open m_closed m_at m_begin m_sort m_lastQ m_lastR m_lastT m_readN] : List ZW).flatten)) rfl trivial ?_
            by_cases hc12 : i1 = 3
            · rw [if_pos hc12] at h
              refine Go.br zk_X12_stepQ rfl rfl (fun _ => ?_) (fun q => absurd hc12 q)
              refine Go.blk zk_X12_stepQ [0, 0] (z' := (85, [some (.ref m_p), some (.int i1), some (.int i2)], [.int (-1)], ([sMo m_p m_a m_d m_was m_kept m_read m_text m_typed m_n m_q m_r m_t m_heldQ m_heldR m_heldT m_heldN m_image m_built m_fixed m_isFree m_from m_some m_field m_queue m_near m_open m_closed m_at m_begin m_sort m_lastQ m_lastR m_lastT m_readN] : List ZW).flatten)) rfl trivial ?_
              obtain rfl := Option.some.inj h
              exact Go.iret zk_X12_stepQ rfl rfl rfl ⟨rfl, rfl⟩
            · rw [if_neg hc12] at h
              refine Go.br zk_X12_stepQ rfl rfl (fun q => absurd q hc12) (fun _ => ?_)
              refine Go.blk zk_X12_stepQ [0] (z' := (85, [some (.ref m_p), some (.int i1), some (.int i2)], [.int 0], ([sMo m_p m_a m_d m_was m_kept m_read m_text m_typed m_n m_q m_r m_t m_heldQ m_heldR m_heldT m_heldN m_image m_built m_fixed m_isFree m_from m_some m_field m_queue m_near m_open m_closed m_at m_begin m_sort m_lastQ m_lastR m_lastT m_readN] : List ZW).flatten)) rfl trivial ?_
              obtain rfl := Option.some.inj h
              exact Go.iret zk_X12_stepQ rfl rfl rfl ⟨rfl, rfl⟩
set_option maxHeartbeats 4000000 in
set_option maxRecDepth 100000 in
theorem t_X12_stepR {N : Nat} {m_p : Nat} {m_a : Nat → Nat} {m_d : List Int32} {m_was : List Int32} {m_kept : Int32} {m_read : List Int32} {m_text : List Int32} {m_typed : Int32} {m_n : Int32} {m_q : List Int32} {m_r : List Int32} {m_t : List Int32} {m_heldQ : List Int32} {m_heldR : List Int32} {m_heldT : List Int32} {m_heldN : Int32} {m_image : List Int32} {m_built : Int32} {m_fixed : List Int64} {m_isFree : List Int32} {m_from : List Int32} {m_some : List Int64} {m_field : List Int32} {m_queue : List Int32} {m_near : List Int32} {m_open : List Int32} {m_closed : List Int32} {m_at : Int32} {m_begin : Int32} {m_sort : Int32} {m_lastQ : Int32} {m_lastR : Int32} {m_lastT : Int32} {m_readN : Int32} {i1 : Int32} {i2 : Int32} {u : Int32}  (h : f_X12_stepR N i1 i2 m_d = some u) : Ct l D r (z_rl xs) zm_X12_stepR 0 0 [.ref m_p, .int i1, .int i2] ([sMo m_p m_a m_d m_was m_kept m_read m_text m_typed m_n m_q m_r m_t m_heldQ m_heldR m_heldT m_heldN m_image m_built m_fixed m_isFree m_from m_some m_field m_queue m_near m_open m_closed m_at m_begin m_sort m_lastQ m_lastR m_lastT m_readN] : List ZW).flatten (fun v' w' => v' = some (.int u) ∧ w' = ([sMo m_p m_a m_d m_was m_kept m_read m_text m_typed m_n m_q m_r m_t m_heldQ m_heldR m_heldT m_heldN m_image m_built m_fixed m_isFree m_from m_some m_field m_queue m_near m_open m_closed m_at m_begin m_sort m_lastQ m_lastR m_lastT m_readN] : List ZW).flatten) := by
  refine Ct.of (by decide +kernel) rfl (fun q => absurd q (by decide)) (Nat.le_of_ble_eq_true rfl) ?_
  refine Go.eqz (z2 := (0, [some (.ref m_p), some (.int i1), some (.int i2)], [], ([sMo m_p m_a m_d m_was m_kept m_read m_text m_typed m_n m_q m_r m_t m_heldQ m_heldR m_heldT m_heldN m_image m_built m_fixed m_isFree m_from m_some m_field m_queue m_near m_open m_closed m_at m_begin m_sort m_lastQ m_lastR m_lastT m_readN] : List ZW).flatten)) rfl ?_
  unfold f_X12_stepR at h
  refine Go.blk zk_X12_stepR [0, 0, 0] (z' := (5, [some (.ref m_p), some (.int i1), some (.int i2)], [.int 0, .ref (m_a 0)], ([sMo m_p m_a m_d m_was m_kept m_read m_text m_typed m_n m_q m_r m_t m_heldQ m_heldR m_heldT m_heldN m_image m_built m_fixed m_isFree m_from m_some m_field m_queue m_near m_open m_closed m_at m_begin m_sort m_lastQ m_lastR m_lastT m_readN] : List ZW).flatten)) rfl ⟨rfl, trivial⟩ ?_
  obtain ⟨x1, hx1, h⟩ := z_bind h
  refine Go.iald zk_X12_stepR 1 rfl rfl rfl hx1 ?_
  refine Go.blk zk_X12_stepR [0] (z' := (7, [some (.ref m_p), some (.int i1), some (.int i2)], [.int 1, .int x1], ([sMo m_p m_a m_d m_was m_kept m_read m_text m_typed m_n m_q m_r m_t m_heldQ m_heldR m_heldT m_heldN m_image m_built m_fixed m_isFree m_from m_some m_field m_queue m_near m_open m_closed m_at m_begin m_sort m_lastQ m_lastR m_lastT m_readN] : List ZW).flatten)) rfl trivial ?_
  by_cases hc2 : x1 = 1
  · rw [if_pos hc2] at h
    refine Go.br zk_X12_stepR rfl rfl (fun _ => ?_) (fun q => absurd hc2 q)
    refine Go.blk zk_X12_stepR [0, 0] (z' := (12, [some (.ref m_p), some (.int i1), some (.int i2)], [.int 2, .int i1], ([sMo m_p m_a m_d m_was m_kept m_read m_text m_typed m_n m_q m_r m_t m_heldQ m_heldR m_heldT m_heldN m_image m_built m_fixed m_isFree m_from m_some m_field m_queue m_near m_open m_closed m_at m_begin m_sort m_lastQ m_lastR m_lastT m_readN] : List ZW).flatten)) rfl trivial ?_
    by_cases hc3 : i1 = 2
    · rw [if_pos hc3] at h
      refine Go.br zk_X12_stepR rfl rfl (fun _ => ?_) (fun q => absurd hc3 q)
      refine Go.blk zk_X12_stepR [0] (z' := (16, [some (.ref m_p), some (.int i1), some (.int i2)], [.int i2], ([sMo m_p m_a m_d m_was m_kept m_read m_text m_typed m_n m_q m_r m_t m_heldQ m_heldR m_heldT m_heldN m_image m_built m_fixed m_isFree m_from m_some m_field m_queue m_near m_open m_closed m_at m_begin m_sort m_lastQ m_lastR m_lastT m_readN] : List ZW).flatten)) rfl trivial ?_
      by_cases hc4 : i2 = 0
      · rw [if_pos hc4] at h
        refine Go.br zk_X12_stepR rfl rfl (fun _ => ?_) (fun q => absurd hc4 q)
        refine Go.blk zk_X12_stepR [0, 0] (z' := (28, [some (.ref m_p), some (.int i1), some (.int i2)], [.int (-1)], ([sMo m_p m_a m_d m_was m_kept m_read m_text m_typed m_n m_q m_r m_t m_heldQ m_heldR m_heldT m_heldN m_image m_built m_fixed m_isFree m_from m_some m_field m_queue m_near m_open m_closed m_at m_begin m_sort m_lastQ m_lastR m_lastT m_readN] : List ZW).flatten)) rfl trivial ?_
        obtain rfl := Option.some.inj h
        exact Go.iret zk_X12_stepR rfl rfl rfl ⟨rfl, rfl⟩
      · rw [if_neg hc4] at h
        refine Go.br zk_X12_stepR rfl rfl (fun q => absurd q hc4) (fun _ => ?_)
        refine Go.blk zk_X12_stepR [0, 0] (z' := (28, [some (.ref m_p), some (.int i1), some (.int i2)], [.int 1], ([sMo m_p m_a m_d m_was m_kept m_read m_text m_typed m_n m_q m_r m_t m_heldQ m_heldR m_heldT m_heldN m_image m_built m_fixed m_isFree m_from m_some m_field m_queue m_near m_open m_closed m_at m_begin m_sort m_lastQ m_lastR m_lastT m_readN] : List ZW).flatten)) rfl trivial ?_
        obtain rfl := Option.some.inj h
        exact Go.iret zk_X12_stepR rfl rfl rfl ⟨rfl, rfl⟩
    · rw [if_neg hc3] at h
      refine Go.br zk_X12_stepR rfl rfl (fun q => absurd q hc3) (fun _ => ?_)
      refine Go.blk zk_X12_stepR [0] (z' := (28, [some (.ref m_p), some (.int i1), some (.int i2)], [.int 0], ([sMo m_p m_a m_d m_was m_kept m_read m_text m_typed m_n m_q m_r m_t m_heldQ m_heldR m_heldT m_heldN m_image m_built m_fixed m_isFree m_from m_some m_field m_queue m_near m_open m_closed m_at m_begin m_sort m_lastQ m_lastR m_lastT m_readN] : List ZW).flatten)) rfl trivial ?_
      obtain rfl := Option.some.inj h
      exact Go.iret zk_X12_stepR rfl rfl rfl ⟨rfl, rfl⟩
  · rw [if_neg hc2] at h
    refine Go.br zk_X12_stepR rfl rfl (fun q => absurd q hc2) (fun _ => ?_)
    refine Go.blk zk_X12_stepR [0, 0, 0] (z' := (34, [some (.ref m_p), some (.int i1), some (.int i2)], [.int 0, .ref (m_a 0)], ([sMo m_p m_a m_d m_was m_kept m_read m_text m_typed m_n m_q m_r m_t m_heldQ m_heldR m_heldT m_heldN m_image m_built m_fixed m_isFree m_from m_some m_field m_queue m_near m_open m_closed m_at m_begin m_sort m_lastQ m_lastR m_lastT m_readN] : List ZW).flatten)) rfl ⟨rfl, trivial⟩ ?_
    obtain ⟨x5, hx5, h⟩ := z_bind h
    refine Go.iald zk_X12_stepR 1 rfl rfl rfl hx5 ?_
    by_cases hc6 : x5 = 0
    · rw [if_pos hc6] at h
      refine Go.br zk_X12_stepR rfl rfl (fun _ => ?_) (fun q => absurd hc6 q)
      refine Go.blk zk_X12_stepR [0, 0] (z' := (40, [some (.ref m_p), some (.int i1), some (.int i2)], [.int 1, .int i1], ([sMo m_p m_a m_d m_was m_kept m_read m_text m_typed m_n m_q m_r m_t m_heldQ m_heldR m_heldT m_heldN m_image m_built m_fixed m_isFree m_from m_some m_field m_queue m_near m_open m_closed m_at m_begin m_sort m_lastQ m_lastR m_lastT m_readN] : List ZW).flatten)) rfl trivial ?_
      by_cases hc7 : i1 = 1
      · rw [if_pos hc7] at h
        refine Go.br zk_X12_stepR rfl rfl (fun _ => ?_) (fun q => absurd hc7 q)
        refine Go.blk zk_X12_stepR [0, 0] (z' := (57, [some (.ref m_p), some (.int i1), some (.int i2)], [.int 1], ([sMo m_p m_a m_d m_was m_kept m_read m_text m_typed m_n m_q m_r m_t m_heldQ m_heldR m_heldT m_heldN m_image m_built m_fixed m_isFree m_from m_some m_field m_queue m_near m_open m_closed m_at m_begin m_sort m_lastQ m_lastR m_lastT m_readN] : List ZW).flatten)) rfl trivial ?_
        obtain rfl := Option.some.inj h
        exact Go.iret zk_X12_stepR rfl rfl rfl ⟨rfl, rfl⟩
      · rw [if_neg hc7] at h
        refine Go.br zk_X12_stepR rfl rfl (fun q => absurd q hc7) (fun _ => ?_)
        refine Go.blk zk_X12_stepR [0, 0] (z' := (49, [some (.ref m_p), some (.int i1), some (.int i2)], [.int 3, .int i1], ([sMo m_p m_a m_d m_was m_kept m_read m_text m_typed m_n m_q m_r m_t m_heldQ m_heldR m_heldT m_heldN m_image m_built m_fixed m_isFree m_from m_some m_field m_queue m_near m_open m_closed m_at m_begin m_sort m_lastQ m_lastR m_lastT m_readN] : List ZW).flatten)) rfl trivial ?_
        by_cases hc8 : i1 = 3
        · rw [if_pos hc8] at h
          refine Go.br zk_X12_stepR rfl rfl (fun _ => ?_) (fun q => absurd hc8 q)
          refine Go.blk zk_X12_stepR [0, 0] (z' := (57, [some (.ref m_p), some (.int i1), some (.int i2)], [.int (-1)], ([sMo m_p m_a m_d m_was m_kept m_read m_text m_typed m_n m_q m_r m_t m_heldQ m_heldR m_heldT m_heldN m_image m_built m_fixed m_isFree m_from m_some m_field m_queue m_near m_open m_closed m_at m_begin m_sort m_lastQ m_lastR m_lastT m_readN] : List ZW).flatten)) rfl trivial ?_
          obtain rfl := Option.some.inj h
          exact Go.iret zk_X12_stepR rfl rfl rfl ⟨rfl, rfl⟩
        · rw [if_neg hc8] at h
          refine Go.br zk_X12_stepR rfl rfl (fun q => absurd q hc8) (fun _ => ?_)
          refine Go.blk zk_X12_stepR [0] (z' := (57, [some (.ref m_p), some (.int i1), some (.int i2)], [.int 0], ([sMo m_p m_a m_d m_was m_kept m_read m_text m_typed m_n m_q m_r m_t m_heldQ m_heldR m_heldT m_heldN m_image m_built m_fixed m_isFree m_from m_some m_field m_queue m_near m_open m_closed m_at m_begin m_sort m_lastQ m_lastR m_lastT m_readN] : List ZW).flatten)) rfl trivial ?_
          obtain rfl := Option.some.inj h
          exact Go.iret zk_X12_stepR rfl rfl rfl ⟨rfl, rfl⟩
    · rw [if_neg hc6] at h
      refine Go.br zk_X12_stepR rfl rfl (fun q => absurd q hc6) (fun _ => ?_)
      refine Go.blk zk_X12_stepR [0, 0] (z' := (60, [some (.ref m_p), some (.int i1), some (.int i2)], [.int 1, .int i1], ([sMo m_p m_a m_d m_was m_kept m_read m_text m_typed m_n m_q m_r m_t m_heldQ m_heldR m_heldT m_heldN m_image m_built m_fixed m_isFree m_from m_some m_field m_queue m_near m_open m_closed m_at m_begin m_sort m_lastQ m_lastR m_lastT m_readN] : List ZW).flatten)) rfl trivial ?_
      by_cases hc9 : i1 = 1
      · rw [if_pos hc9] at h
        refine Go.br zk_X12_stepR rfl rfl (fun _ => ?_) (fun q => absurd hc9 q)
        refine Go.blk zk_X12_stepR [0, 0] (z' := (87, [some (.ref m_p), some (.int i1), some (.int i2)], [.int 1], ([sMo m_p m_a m_d m_was m_kept m_read m_text m_typed m_n m_q m_r m_t m_heldQ m_heldR m_heldT m_heldN m_image m_built m_fixed m_isFree m_from m_some m_field m_queue m_near m_open m_closed m_at m_begin m_sort m_lastQ m_lastR m_lastT m_readN] : List ZW).flatten)) rfl trivial ?_
        obtain rfl := Option.some.inj h
        exact Go.iret zk_X12_stepR rfl rfl rfl ⟨rfl, rfl⟩
      · rw [if_neg hc9] at h
        refine Go.br zk_X12_stepR rfl rfl (fun q => absurd q hc9) (fun _ => ?_)
        refine Go.blk zk_X12_stepR [0, 0] (z' := (65, [some (.ref m_p), some (.int i1), some (.int i2)], [.int 2, .int i1], ([sMo m_p m_a m_d m_was m_kept m_read m_text m_typed m_n m_q m_r m_t m_heldQ m_heldR m_heldT m_heldN m_image m_built m_fixed m_isFree m_from m_some m_field m_queue m_near m_open m_closed m_at m_begin m_sort m_lastQ m_lastR m_lastT m_readN] : List ZW).flatten)) rfl trivial ?_
        by_cases hc10 : i1 = 2
        · rw [if_pos hc10] at h
          refine Go.br zk_X12_stepR rfl rfl (fun _ => ?_) (fun q => absurd hc10 q)
          refine Go.blk zk_X12_stepR [0, 0] (z' := (87, [some (.ref m_p), some (.int i1), some (.int i2)], [.int 1], ([sMo m_p m_a m_d m_was m_kept m_read m_text m_typed m_n m_q m_r m_t m_heldQ m_heldR m_heldT m_heldN m_image m_built m_fixed m_isFree m_from m_some m_field m_queue m_near m_open m_closed m_at m_begin m_sort m_lastQ m_lastR m_lastT m_readN] : List ZW).flatten)) rfl trivial ?_
          obtain rfl := Option.some.inj h
          exact Go.iret zk_X12_stepR rfl rfl rfl ⟨rfl, rfl⟩
        · rw [if_neg hc10] at h
          refine Go.br zk_X12_stepR rfl rfl (fun q => absurd q hc10) (fun _ => ?_)
          refine Go.blk zk_X12_stepR [0, 0] (z' := (74, [some (.ref m_p), some (.int i1), some (.int i2)], [.int 4, .int i1], ([sMo m_p m_a m_d m_was m_kept m_read m_text m_typed m_n m_q m_r m_t m_heldQ m_heldR m_heldT m_heldN m_image m_built m_fixed m_isFree m_from m_some m_field m_queue m_near m_open m_closed m_at m_begin m_sort m_lastQ m_lastR m_lastT m_readN] : List ZW).flatten)) rfl trivial ?_
          by_cases hc11 : i1 = 4
          · rw [if_pos hc11] at h
            refine Go.br zk_X12_stepR rfl rfl (fun _ => ?_) (fun q => absurd hc11 q)
            refine Go.blk zk_X12_stepR [0, 0] (z' := (87, [some (.ref m_p), some (.int i1), some (.int i2)], [.int (-1)], ([sMo m_p m_a m_d m_was m_kept m_read m_text m_typed m_n m_q m_r m_t m_heldQ m_heldR m_heldT m_heldN m_image m_built m_fixed m_isFree m_from m_some m_field m_queue m_near m_open m_closed m_at m_begin m_sort m_lastQ m_lastR m_lastT m_readN] : List ZW).flatten)) rfl trivial ?_
            obtain rfl := Option.some.inj h
            exact Go.iret zk_X12_stepR rfl rfl rfl ⟨rfl, rfl⟩
          · rw [if_neg hc11] at h
            refine Go.br zk_X12_stepR rfl rfl (fun q => absurd q hc11) (fun _ => ?_)
            refine Go.blk zk_X12_stepR [0, 0] (z' := (79, [some (.ref m_p), some (.int i1), some (.int i2)], [.int 5, .int i1], ([sMo m_p m_a m_d m_was m_kept m_read m_text m_typed m_n m_q m_r m_t m_heldQ m_heldR m_heldT m_heldN m_image m_built m_fixed m_isFree m_from m_some m_field m_queue m_near m_open m_closed m_at m_begin m_sort m_lastQ m_lastR m_lastT m_readN] : List ZW).flatten)) rfl trivial ?_
            by_cases hc12 : i1 = 5
            · rw [if_pos hc12] at h
              refine Go.br zk_X12_stepR rfl rfl (fun _ => ?_) (fun q => absurd hc12 q)
              refine Go.blk zk_X12_stepR [0, 0] (z' := (87, [some (.ref m_p), some (.int i1), some (.int i2)], [.int (-1)], ([sMo m_p m_a m_d m_was m_kept m_read m_text m_typed m_n m_q m_r m_t m_heldQ m_heldR m_heldT m_heldN m_image m_built m_fixed m_isFree m_from m_some m_field m_queue m_near m_open m_closed m_at m_begin m_sort m_lastQ m_lastR m_lastT m_readN] : List ZW).flatten)) rfl trivial ?_
              obtain rfl := Option.some.inj h
              exact Go.iret zk_X12_stepR rfl rfl rfl ⟨rfl, rfl⟩
            · rw [if_neg hc12] at h
              refine Go.br zk_X12_stepR rfl rfl (fun q => absurd q hc12) (fun _ => ?_)
              refine Go.blk zk_X12_stepR [0] (z' := (87, [some (.ref m_p), some (.int i1), some (.int i2)], [.int 0], ([sMo m_p m_a m_d m_was m_kept m_read m_text m_typed m_n m_q m_r m_t m_heldQ m_heldR m_heldT m_heldN m_image m_built m_fixed m_isFree m_from m_some m_field m_queue m_near m_open m_closed m_at m_begin m_sort m_lastQ m_lastR m_lastT m_readN] : List ZW).flatten)) rfl trivial ?_
              obtain rfl := Option.some.inj h
              exact Go.iret zk_X12_stepR rfl rfl rfl ⟨rfl, rfl⟩
set_option maxHeartbeats 4000000 in
set_option maxRecDepth 100000 in
theorem t_X12_sideOf {N : Nat} {m_p : Nat} {m_a : Nat → Nat} {m_d : List Int32} {m_was : List Int32} {m_kept : Int32} {m_read : List Int32} {m_text : List Int32} {m_typed : Int32} {m_n : Int32} {m_q : List Int32} {m_r : List Int32} {m_t : List Int32} {m_heldQ : List Int32} {m_heldR : List Int32} {m_heldT : List Int32} {m_heldN : Int32} {m_image : List Int32} {m_built : Int32} {m_fixed : List Int64} {m_isFree : List Int32} {m_from : List Int32} {m_some : List Int64} {m_field : List Int32} {m_queue : List Int32} {m_near : List Int32} {m_open : List Int32} {m_closed : List Int32} {m_at : Int32} {m_begin : Int32} {m_sort : Int32} {m_lastQ : Int32} {m_lastR : Int32} {m_lastT : Int32} {m_readN : Int32} {i1 : Int32} {u : Int32}  (h : f_X12_sideOf N i1 m_d = some u) : Ct l D r (z_rl xs) zm_X12_sideOf 0 0 [.ref m_p, .int i1] ([sMo m_p m_a m_d m_was m_kept m_read m_text m_typed m_n m_q m_r m_t m_heldQ m_heldR m_heldT m_heldN m_image m_built m_fixed m_isFree m_from m_some m_field m_queue m_near m_open m_closed m_at m_begin m_sort m_lastQ m_lastR m_lastT m_readN] : List ZW).flatten (fun v' w' => v' = some (.int u) ∧ w' = ([sMo m_p m_a m_d m_was m_kept m_read m_text m_typed m_n m_q m_r m_t m_heldQ m_heldR m_heldT m_heldN m_image m_built m_fixed m_isFree m_from m_some m_field m_queue m_near m_open m_closed m_at m_begin m_sort m_lastQ m_lastR m_lastT m_readN] : List ZW).flatten) := by
  refine Ct.of (by decide +kernel) rfl (fun q => absurd q (by decide)) (Nat.le_of_ble_eq_true rfl) ?_
  refine Go.eqz (z2 := (0, [some (.ref m_p), some (.int i1)], [], ([sMo m_p m_a m_d m_was m_kept m_read m_text m_typed m_n m_q m_r m_t m_heldQ m_heldR m_heldT m_heldN m_image m_built m_fixed m_isFree m_from m_some m_field m_queue m_near m_open m_closed m_at m_begin m_sort m_lastQ m_lastR m_lastT m_readN] : List ZW).flatten)) rfl ?_
  unfold f_X12_sideOf at h
  refine Go.blk zk_X12_sideOf [0, 0, 0] (z' := (5, [some (.ref m_p), some (.int i1)], [.int 0, .ref (m_a 0)], ([sMo m_p m_a m_d m_was m_kept m_read m_text m_typed m_n m_q m_r m_t m_heldQ m_heldR m_heldT m_heldN m_image m_built m_fixed m_isFree m_from m_some m_field m_queue m_near m_open m_closed m_at m_begin m_sort m_lastQ m_lastR m_lastT m_readN] : List ZW).flatten)) rfl ⟨rfl, trivial⟩ ?_
  obtain ⟨x1, hx1, h⟩ := z_bind h
  refine Go.iald zk_X12_sideOf 1 rfl rfl rfl hx1 ?_
  refine Go.blk zk_X12_sideOf [0] (z' := (7, [some (.ref m_p), some (.int i1)], [.int 1, .int x1], ([sMo m_p m_a m_d m_was m_kept m_read m_text m_typed m_n m_q m_r m_t m_heldQ m_heldR m_heldT m_heldN m_image m_built m_fixed m_isFree m_from m_some m_field m_queue m_near m_open m_closed m_at m_begin m_sort m_lastQ m_lastR m_lastT m_readN] : List ZW).flatten)) rfl trivial ?_
  by_cases hc2 : x1 = 1
  · rw [if_pos hc2] at h
    refine Go.br zk_X12_sideOf rfl rfl (fun _ => ?_) (fun q => absurd hc2 q)
    refine Go.blk zk_X12_sideOf [0, 0, 0, 0] (z' := (17, [some (.ref m_p), some (.int i1)], [.int (1 - i1)], ([sMo m_p m_a m_d m_was m_kept m_read m_text m_typed m_n m_q m_r m_t m_heldQ m_heldR m_heldT m_heldN m_image m_built m_fixed m_isFree m_from m_some m_field m_queue m_near m_open m_closed m_at m_begin m_sort m_lastQ m_lastR m_lastT m_readN] : List ZW).flatten)) rfl trivial ?_
    obtain rfl := Option.some.inj h
    exact Go.iret zk_X12_sideOf rfl rfl rfl ⟨rfl, rfl⟩
  · rw [if_neg hc2] at h
    refine Go.br zk_X12_sideOf rfl rfl (fun q => absurd q hc2) (fun _ => ?_)
    refine Go.blk zk_X12_sideOf [0] (z' := (17, [some (.ref m_p), some (.int i1)], [.int 0], ([sMo m_p m_a m_d m_was m_kept m_read m_text m_typed m_n m_q m_r m_t m_heldQ m_heldR m_heldT m_heldN m_image m_built m_fixed m_isFree m_from m_some m_field m_queue m_near m_open m_closed m_at m_begin m_sort m_lastQ m_lastR m_lastT m_readN] : List ZW).flatten)) rfl trivial ?_
    obtain rfl := Option.some.inj h
    exact Go.iret zk_X12_sideOf rfl rfl rfl ⟨rfl, rfl⟩
set_option maxHeartbeats 4000000 in
set_option maxRecDepth 100000 in
theorem t_X12_takesKey {N : Nat} {m_p : Nat} {m_a : Nat → Nat} {m_d : List Int32} {m_was : List Int32} {m_kept : Int32} {m_read : List Int32} {m_text : List Int32} {m_typed : Int32} {m_n : Int32} {m_q : List Int32} {m_r : List Int32} {m_t : List Int32} {m_heldQ : List Int32} {m_heldR : List Int32} {m_heldT : List Int32} {m_heldN : Int32} {m_image : List Int32} {m_built : Int32} {m_fixed : List Int64} {m_isFree : List Int32} {m_from : List Int32} {m_some : List Int64} {m_field : List Int32} {m_queue : List Int32} {m_near : List Int32} {m_open : List Int32} {m_closed : List Int32} {m_at : Int32} {m_begin : Int32} {m_sort : Int32} {m_lastQ : Int32} {m_lastR : Int32} {m_lastT : Int32} {m_readN : Int32} {i1 : Int32} {i2 : Int32} {u : (List Int32) × (List Int32) × (List Int32)}  (h : f_X12_takesKey N i1 i2 m_q m_r m_t = some u) : Ct l D r (z_rl xs) zm_X12_takesKey 0 0 [.ref m_p, .int i1, .int i2] ([sMo m_p m_a m_d m_was m_kept m_read m_text m_typed m_n m_q m_r m_t m_heldQ m_heldR m_heldT m_heldN m_image m_built m_fixed m_isFree m_from m_some m_field m_queue m_near m_open m_closed m_at m_begin m_sort m_lastQ m_lastR m_lastT m_readN] : List ZW).flatten (fun v' w' => v' = none ∧ w' = ([sMo m_p m_a m_d m_was m_kept m_read m_text m_typed m_n u.1 u.2.1 u.2.2 m_heldQ m_heldR m_heldT m_heldN m_image m_built m_fixed m_isFree m_from m_some m_field m_queue m_near m_open m_closed m_at m_begin m_sort m_lastQ m_lastR m_lastT m_readN] : List ZW).flatten) := by
  refine Ct.of (by decide +kernel) rfl (fun q => absurd q (by decide)) (Nat.le_of_ble_eq_true rfl) ?_
  refine Go.eqz (z2 := (0, [some (.ref m_p), some (.int i1), some (.int i2)], [], ([sMo m_p m_a m_d m_was m_kept m_read m_text m_typed m_n m_q m_r m_t m_heldQ m_heldR m_heldT m_heldN m_image m_built m_fixed m_isFree m_from m_some m_field m_queue m_near m_open m_closed m_at m_begin m_sort m_lastQ m_lastR m_lastT m_readN] : List ZW).flatten)) rfl ?_
  unfold f_X12_takesKey at h
  refine Go.blk zk_X12_takesKey [0, 0, 0, 0, 0, 0, 0, 0] (z' := (11, [some (.ref m_p), some (.int i1), some (.int i2)], [.int ((i2 - i2 / 20 * 20) / 2), .int i1, .ref (m_a 4)], ([sMo m_p m_a m_d m_was m_kept m_read m_text m_typed m_n m_q m_r m_t m_heldQ m_heldR m_heldT m_heldN m_image m_built m_fixed m_isFree m_from m_some m_field m_queue m_near m_open m_closed m_at m_begin m_sort m_lastQ m_lastR m_lastT m_readN] : List ZW).flatten)) rfl ⟨rfl, by decide, by decide, trivial⟩ ?_
  obtain ⟨t1, ht1, h⟩ := z_bind h
  refine Go.iast zk_X12_takesKey 5 rfl rfl rfl ht1 ?_
  refine Go.eqz (z2 := (12, [some (.ref m_p), some (.int i1), some (.int i2)], [], ([sMo m_p m_a m_d m_was m_kept m_read m_text m_typed m_n t1 m_r m_t m_heldQ m_heldR m_heldT m_heldN m_image m_built m_fixed m_isFree m_from m_some m_field m_queue m_near m_open m_closed m_at m_begin m_sort m_lastQ m_lastR m_lastT m_readN] : List ZW).flatten)) rfl ?_
  refine Go.blk zk_X12_takesKey [0, 0, 0, 0, 0, 0] (z' := (21, [some (.ref m_p), some (.int i1), some (.int i2)], [.int (i2 / 20), .int i1, .ref (m_a 5)], ([sMo m_p m_a m_d m_was m_kept m_read m_text m_typed m_n t1 m_r m_t m_heldQ m_heldR m_heldT m_heldN m_image m_built m_fixed m_isFree m_from m_some m_field m_queue m_near m_open m_closed m_at m_begin m_sort m_lastQ m_lastR m_lastT m_readN] : List ZW).flatten)) rfl ⟨rfl, by decide, trivial⟩ ?_
  obtain ⟨t2, ht2, h⟩ := z_bind h
  refine Go.iast zk_X12_takesKey 6 rfl rfl rfl ht2 ?_
  refine Go.eqz (z2 := (22, [some (.ref m_p), some (.int i1), some (.int i2)], [], ([sMo m_p m_a m_d m_was m_kept m_read m_text m_typed m_n t1 t2 m_t m_heldQ m_heldR m_heldT m_heldN m_image m_built m_fixed m_isFree m_from m_some m_field m_queue m_near m_open m_closed m_at m_begin m_sort m_lastQ m_lastR m_lastT m_readN] : List ZW).flatten)) rfl ?_
  refine Go.blk zk_X12_takesKey [0, 0, 0, 0, 0, 0] (z' := (30, [some (.ref m_p), some (.int i1), some (.int i2)], [.int (i2 - i2 / 2 * 2), .int i1, .ref (m_a 6)], ([sMo m_p m_a m_d m_was m_kept m_read m_text m_typed m_n t1 t2 m_t m_heldQ m_heldR m_heldT m_heldN m_image m_built m_fixed m_isFree m_from m_some m_field m_queue m_near m_open m_closed m_at m_begin m_sort m_lastQ m_lastR m_lastT m_readN] : List ZW).flatten)) rfl ⟨rfl, by decide, trivial⟩ ?_
  obtain ⟨t3, ht3, h⟩ := z_bind h
  refine Go.iast zk_X12_takesKey 7 rfl rfl rfl ht3 ?_
  refine Go.eqz (z2 := (31, [some (.ref m_p), some (.int i1), some (.int i2)], [], ([sMo m_p m_a m_d m_was m_kept m_read m_text m_typed m_n t1 t2 t3 m_heldQ m_heldR m_heldT m_heldN m_image m_built m_fixed m_isFree m_from m_some m_field m_queue m_near m_open m_closed m_at m_begin m_sort m_lastQ m_lastR m_lastT m_readN] : List ZW).flatten)) rfl ?_
  obtain rfl := Option.some.inj h
  exact Go.vret zk_X12_takesKey rfl rfl ⟨rfl, rfl⟩
set_option maxHeartbeats 4000000 in
set_option maxRecDepth 100000 in
theorem t_X12_takesDraft_L12 {N : Nat} {m_p : Nat} {m_a : Nat → Nat} {m_d : List Int32} {m_was : List Int32} {m_kept : Int32} {m_read : List Int32} {m_text : List Int32} {m_typed : Int32} {m_n : Int32} {m_heldQ : List Int32} {m_heldR : List Int32} {m_heldT : List Int32} {m_heldN : Int32} {m_image : List Int32} {m_built : Int32} {m_fixed : List Int64} {m_isFree : List Int32} {m_from : List Int32} {m_some : List Int64} {m_field : List Int32} {m_queue : List Int32} {m_near : List Int32} {m_open : List Int32} {m_closed : List Int32} {m_at : Int32} {m_begin : Int32} {m_sort : Int32} {m_lastQ : Int32} {m_lastR : Int32} {m_lastT : Int32} {m_readN : Int32}  {Q : Option Value → ZW → Prop} : ∀ (fu : Nat) (v1 : Int32) (m_q : List Int32) (m_r : List Int32) (m_t : List Int32) (e : (List Int32) × (List Int32) × (List Int32)), f_X12_takesDraft_L12 N m_d m_n fu v1 m_q m_r m_t = some e → (Go l D r (z_rl xs) zm_X12_takesDraft 0 0 (39, [none, none], [], ([sMo m_p m_a m_d m_was m_kept m_read m_text m_typed m_n e.1 e.2.1 e.2.2 m_heldQ m_heldR m_heldT m_heldN m_image m_built m_fixed m_isFree m_from m_some m_field m_queue m_near m_open m_closed m_at m_begin m_sort m_lastQ m_lastR m_lastT m_readN] : List ZW).flatten) Q) → Go l D r (z_rl xs) zm_X12_takesDraft 0 0 (12, [some (.ref m_p), some (.int v1)], [], ([sMo m_p m_a m_d m_was m_kept m_read m_text m_typed m_n m_q m_r m_t m_heldQ m_heldR m_heldT m_heldN m_image m_built m_fixed m_isFree m_from m_some m_field m_queue m_near m_open m_closed m_at m_begin m_sort m_lastQ m_lastR m_lastT m_readN] : List ZW).flatten) Q := by
  intro fu
  induction fu with
  | zero =>
    intro v1 m_q m_r m_t e h
    simp only [f_X12_takesDraft_L12, reduceCtorEq] at h
  | succ fu ih =>
    intro v1 m_q m_r m_t e h kk
    rw [f_X12_takesDraft_L12] at h
    refine Go.blk zk_X12_takesDraft [0, 0, 0] (z' := (17, [some (.ref m_p), some (.int v1)], [.int m_n, .int v1], ([sMo m_p m_a m_d m_was m_kept m_read m_text m_typed m_n m_q m_r m_t m_heldQ m_heldR m_heldT m_heldN m_image m_built m_fixed m_isFree m_from m_some m_field m_queue m_near m_open m_closed m_at m_begin m_sort m_lastQ m_lastR m_lastT m_readN] : List ZW).flatten)) rfl ⟨rfl, trivial⟩ ?_
    by_cases hc2 : v1 < m_n
    · rw [if_pos hc2] at h
      refine Go.br zk_X12_takesDraft rfl rfl (fun _ => ?_) (fun q => absurd hc2 q)
      refine Go.blk zk_X12_takesDraft [0, 0, 0, 0, 0, 0, 0] (z' := (29, [some (.ref m_p), some (.int v1)], [.int (2 + v1), .ref (m_a 0), .int v1, .ref m_p], ([sMo m_p m_a m_d m_was m_kept m_read m_text m_typed m_n m_q m_r m_t m_heldQ m_heldR m_heldT m_heldN m_image m_built m_fixed m_isFree m_from m_some m_field m_queue m_near m_open m_closed m_at m_begin m_sort m_lastQ m_lastR m_lastT m_readN] : List ZW).flatten)) rfl ⟨rfl, trivial⟩ ?_
      obtain ⟨x3, hx3, h⟩ := z_bind h
      refine Go.iald zk_X12_takesDraft 1 rfl rfl rfl hx3 ?_
      obtain ⟨u4, hu4, h⟩ := z_bind h
      refine Go.vs zk_X12_takesDraft zm_X12_takesKey [0] [] 0 12 1 (S := [sMo m_p m_a m_d m_was m_kept m_read m_text m_typed m_n m_q m_r m_t m_heldQ m_heldR m_heldT m_heldN m_image m_built m_fixed m_isFree m_from m_some m_field m_queue m_near m_open m_closed m_at m_begin m_sort m_lastQ m_lastR m_lastT m_readN]) (S2 := [sMo m_p m_a m_d m_was m_kept m_read m_text m_typed m_n u4.1 u4.2.1 u4.2.2 m_heldQ m_heldR m_heldT m_heldN m_image m_built m_fixed m_isFree m_from m_some m_field m_queue m_near m_open m_closed m_at m_begin m_sort m_lastQ m_lastR m_lastT m_readN]) (As := [.int v1, .int x3]) (rest := []) (st2 := []) (v1 := none) rfl zl_X12_80 zv_X12_takesKey ⟨Nat.le_of_ble_eq_true rfl, Nat.le_of_ble_eq_true rfl⟩ rfl (by decide) rfl rfl rfl rfl rfl (Nat.le_of_ble_eq_true rfl) (t_X12_takesKey hu4) rfl rfl rfl ?_
      refine Go.blk zk_X12_takesDraft [0, 0] (z' := (12, [some (.ref m_p), some (.int (v1 + 1))], [], ([sMo m_p m_a m_d m_was m_kept m_read m_text m_typed m_n u4.1 u4.2.1 u4.2.2 m_heldQ m_heldR m_heldT m_heldN m_image m_built m_fixed m_isFree m_from m_some m_field m_queue m_near m_open m_closed m_at m_begin m_sort m_lastQ m_lastR m_lastT m_readN] : List ZW).flatten)) rfl trivial ?_
      exact ih _ _ _ _ _ h kk
    · rw [if_neg hc2] at h
      refine Go.br zk_X12_takesDraft rfl rfl (fun q => absurd q hc2) (fun _ => ?_)
      obtain rfl := Option.some.inj h
      refine Go.weak (L := [some (.ref m_p), some (.int v1)]) (L' := [none, none]) (trivial) ?_
      exact kk
set_option maxHeartbeats 4000000 in
set_option maxRecDepth 100000 in
theorem t_X12_takesDraft {N : Nat} {m_p : Nat} {m_a : Nat → Nat} {m_d : List Int32} {m_was : List Int32} {m_kept : Int32} {m_read : List Int32} {m_text : List Int32} {m_typed : Int32} {m_n : Int32} {m_q : List Int32} {m_r : List Int32} {m_t : List Int32} {m_heldQ : List Int32} {m_heldR : List Int32} {m_heldT : List Int32} {m_heldN : Int32} {m_image : List Int32} {m_built : Int32} {m_fixed : List Int64} {m_isFree : List Int32} {m_from : List Int32} {m_some : List Int64} {m_field : List Int32} {m_queue : List Int32} {m_near : List Int32} {m_open : List Int32} {m_closed : List Int32} {m_at : Int32} {m_begin : Int32} {m_sort : Int32} {m_lastQ : Int32} {m_lastR : Int32} {m_lastT : Int32} {m_readN : Int32} {u : Int32 × (List Int32) × (List Int32) × (List Int32)}  (h : f_X12_takesDraft N m_d m_q m_r m_t = some u) : Ct l D r (z_rl xs) zm_X12_takesDraft 0 0 [.ref m_p] ([sMo m_p m_a m_d m_was m_kept m_read m_text m_typed m_n m_q m_r m_t m_heldQ m_heldR m_heldT m_heldN m_image m_built m_fixed m_isFree m_from m_some m_field m_queue m_near m_open m_closed m_at m_begin m_sort m_lastQ m_lastR m_lastT m_readN] : List ZW).flatten (fun v' w' => v' = none ∧ w' = ([sMo m_p m_a m_d m_was m_kept m_read m_text m_typed u.1 u.2.1 u.2.2.1 u.2.2.2 m_heldQ m_heldR m_heldT m_heldN m_image m_built m_fixed m_isFree m_from m_some m_field m_queue m_near m_open m_closed m_at m_begin m_sort m_lastQ m_lastR m_lastT m_readN] : List ZW).flatten) := by
  refine Ct.of (by decide +kernel) rfl (fun q => absurd q (by decide)) (Nat.le_of_ble_eq_true rfl) ?_
  refine Go.eqz (z2 := (0, [some (.ref m_p), none], [], ([sMo m_p m_a m_d m_was m_kept m_read m_text m_typed m_n m_q m_r m_t m_heldQ m_heldR m_heldT m_heldN m_image m_built m_fixed m_isFree m_from m_some m_field m_queue m_near m_open m_closed m_at m_begin m_sort m_lastQ m_lastR m_lastT m_readN] : List ZW).flatten)) rfl ?_
  unfold f_X12_takesDraft at h
  refine Go.blk zk_X12_takesDraft [0, 0, 0, 0] (z' := (6, [some (.ref m_p), none], [.int 1, .ref (m_a 0), .ref m_p], ([sMo m_p m_a m_d m_was m_kept m_read m_text m_typed m_n m_q m_r m_t m_heldQ m_heldR m_heldT m_heldN m_image m_built m_fixed m_isFree m_from m_some m_field m_queue m_near m_open m_closed m_at m_begin m_sort m_lastQ m_lastR m_lastT m_readN] : List ZW).flatten)) rfl ⟨rfl, trivial⟩ ?_
  obtain ⟨x1, hx1, h⟩ := z_bind h
  refine Go.iald zk_X12_takesDraft 1 rfl rfl rfl hx1 ?_
  refine Go.put zk_X12_takesDraft 0 rfl rfl rfl rfl rfl (Nat.le_of_ble_eq_true rfl) ?_
  refine Go.eqz (z2 := (10, [some (.ref m_p), none], [], ([sMo m_p m_a m_d m_was m_kept m_read m_text m_typed x1 m_q m_r m_t m_heldQ m_heldR m_heldT m_heldN m_image m_built m_fixed m_isFree m_from m_some m_field m_queue m_near m_open m_closed m_at m_begin m_sort m_lastQ m_lastR m_lastT m_readN] : List ZW).flatten)) rfl ?_
  refine Go.blk zk_X12_takesDraft [0, 0] (z' := (12, [some (.ref m_p), some (.int 0)], [], ([sMo m_p m_a m_d m_was m_kept m_read m_text m_typed x1 m_q m_r m_t m_heldQ m_heldR m_heldT m_heldN m_image m_built m_fixed m_isFree m_from m_some m_field m_queue m_near m_open m_closed m_at m_begin m_sort m_lastQ m_lastR m_lastT m_readN] : List ZW).flatten)) rfl trivial ?_
  obtain ⟨e5, he5, h⟩ := z_bind h
  refine t_X12_takesDraft_L12 N _ _ _ _ _ he5 ?_
  obtain rfl := Option.some.inj h
  exact Go.vret zk_X12_takesDraft rfl rfl ⟨rfl, rfl⟩
set_option maxHeartbeats 4000000 in
set_option maxRecDepth 100000 in
theorem t_X12_takesFigure_L13 {N : Nat} {m_p : Nat} {m_a : Nat → Nat} {m_d : List Int32} {m_was : List Int32} {m_kept : Int32} {m_read : List Int32} {m_text : List Int32} {m_typed : Int32} {m_n : Int32} {m_heldQ : List Int32} {m_heldR : List Int32} {m_heldT : List Int32} {m_heldN : Int32} {m_image : List Int32} {m_built : Int32} {m_fixed : List Int64} {m_isFree : List Int32} {m_from : List Int32} {m_some : List Int64} {m_field : List Int32} {m_queue : List Int32} {m_near : List Int32} {m_open : List Int32} {m_closed : List Int32} {m_at : Int32} {m_begin : Int32} {m_sort : Int32} {m_lastQ : Int32} {m_lastR : Int32} {m_lastT : Int32} {m_readN : Int32}  {Q : Option Value → ZW → Prop} : ∀ (fu : Nat) (v4 : Int64) (v6 : Int32) (m_q : List Int32) (m_r : List Int32) (m_t : List Int32) (e : (List Int32) × (List Int32) × (List Int32)), f_X12_takesFigure_L13 N  fu v4 v6 m_q m_r m_t = some e → (Go l D r (z_rl xs) zm_X12_takesFigure 0 0 (44, [none, none, none, none, none, none, none], [], ([sMo m_p m_a m_d m_was m_kept m_read m_text m_typed m_n e.1 e.2.1 e.2.2 m_heldQ m_heldR m_heldT m_heldN m_image m_built m_fixed m_isFree m_from m_some m_field m_queue m_near m_open m_closed m_at m_begin m_sort m_lastQ m_lastR m_lastT m_readN] : List ZW).flatten) Q) → Go l D r (z_rl xs) zm_X12_takesFigure 0 0 (13, [some (.ref m_p), none, none, none, some (.long v4), none, some (.int v6)], [], ([sMo m_p m_a m_d m_was m_kept m_read m_text m_typed m_n m_q m_r m_t m_heldQ m_heldR m_heldT m_heldN m_image m_built m_fixed m_isFree m_from m_some m_field m_queue m_near m_open m_closed m_at m_begin m_sort m_lastQ m_lastR m_lastT m_readN] : List ZW).flatten) Q := by
  intro fu
  induction fu with
  | zero =>
    intro v4 v6 m_q m_r m_t e h
    simp only [f_X12_takesFigure_L13, reduceCtorEq] at h
  | succ fu ih =>
    intro v4 v6 m_q m_r m_t e h kk
    rw [f_X12_takesFigure_L13] at h
    refine Go.blk zk_X12_takesFigure [0] (z' := (15, [some (.ref m_p), none, none, none, some (.long v4), none, some (.int v6)], [.int v6], ([sMo m_p m_a m_d m_was m_kept m_read m_text m_typed m_n m_q m_r m_t m_heldQ m_heldR m_heldT m_heldN m_image m_built m_fixed m_isFree m_from m_some m_field m_queue m_near m_open m_closed m_at m_begin m_sort m_lastQ m_lastR m_lastT m_readN] : List ZW).flatten)) rfl trivial ?_
    by_cases hc1 : v6 < 0
    · rw [if_pos hc1] at h
      refine Go.br zk_X12_takesFigure rfl rfl (fun _ => ?_) (fun q => absurd hc1 q)
      obtain rfl := Option.some.inj h
      refine Go.weak (L := [some (.ref m_p), none, none, none, some (.long v4), none, some (.int v6)]) (L' := [none, none, none, none, none, none, none]) (trivial) ?_
      exact kk
    · rw [if_neg hc1] at h
      refine Go.br zk_X12_takesFigure rfl rfl (fun q => absurd q hc1) (fun _ => ?_)
      refine Go.blk zk_X12_takesFigure [0, 0, 0, 0, 0, 0] (z' := (28, [some (.ref m_p), none, none, none, some (.long v4), none, some (.int v6)], [.int (Int64.toInt32 (v4 &&& 255)), .int v6, .ref m_p], ([sMo m_p m_a m_d m_was m_kept m_read m_text m_typed m_n m_q m_r m_t m_heldQ m_heldR m_heldT m_heldN m_image m_built m_fixed m_isFree m_from m_some m_field m_queue m_near m_open m_closed m_at m_begin m_sort m_lastQ m_lastR m_lastT m_readN] : List ZW).flatten)) rfl trivial ?_
      obtain ⟨u2, hu2, h⟩ := z_bind h
      refine Go.vs zk_X12_takesFigure zm_X12_takesKey [0] [] 0 12 1 (S := [sMo m_p m_a m_d m_was m_kept m_read m_text m_typed m_n m_q m_r m_t m_heldQ m_heldR m_heldT m_heldN m_image m_built m_fixed m_isFree m_from m_some m_field m_queue m_near m_open m_closed m_at m_begin m_sort m_lastQ m_lastR m_lastT m_readN]) (S2 := [sMo m_p m_a m_d m_was m_kept m_read m_text m_typed m_n u2.1 u2.2.1 u2.2.2 m_heldQ m_heldR m_heldT m_heldN m_image m_built m_fixed m_isFree m_from m_some m_field m_queue m_near m_open m_closed m_at m_begin m_sort m_lastQ m_lastR m_lastT m_readN]) (As := [.int v6, .int (Int64.toInt32 (v4 &&& 255))]) (rest := []) (st2 := []) (v1 := none) rfl zl_X12_80 zv_X12_takesKey ⟨Nat.le_of_ble_eq_true rfl, Nat.le_of_ble_eq_true rfl⟩ rfl (by decide) rfl rfl rfl rfl rfl (Nat.le_of_ble_eq_true rfl) (t_X12_takesKey hu2) rfl rfl rfl ?_
      refine Go.blk zk_X12_takesFigure [0, 0, 0, 0, 0, 0] (z' := (13, [some (.ref m_p), none, none, none, some (.long ((Int64.toUInt64 v4 >>> ((Int32.toInt64 8).toUInt64 &&& Int64.toUInt64 63)).toInt64)), none, some (.int (v6 + (-1)))], [], ([sMo m_p m_a m_d m_was m_kept m_read m_text m_typed m_n u2.1 u2.2.1 u2.2.2 m_heldQ m_heldR m_heldT m_heldN m_image m_built m_fixed m_isFree m_from m_some m_field m_queue m_near m_open m_closed m_at m_begin m_sort m_lastQ m_lastR m_lastT m_readN] : List ZW).flatten)) rfl trivial ?_
      exact ih _ _ _ _ _ _ h kk
set_option maxHeartbeats 4000000 in
set_option maxRecDepth 100000 in
theorem t_X12_takesFigure {N : Nat} {m_p : Nat} {m_a : Nat → Nat} {m_d : List Int32} {m_was : List Int32} {m_kept : Int32} {m_read : List Int32} {m_text : List Int32} {m_typed : Int32} {m_n : Int32} {m_q : List Int32} {m_r : List Int32} {m_t : List Int32} {m_heldQ : List Int32} {m_heldR : List Int32} {m_heldT : List Int32} {m_heldN : Int32} {m_image : List Int32} {m_built : Int32} {m_fixed : List Int64} {m_isFree : List Int32} {m_from : List Int32} {m_some : List Int64} {m_field : List Int32} {m_queue : List Int32} {m_near : List Int32} {m_open : List Int32} {m_closed : List Int32} {m_at : Int32} {m_begin : Int32} {m_sort : Int32} {m_lastQ : Int32} {m_lastR : Int32} {m_lastT : Int32} {m_readN : Int32} {j1 : Int64} {i2 : Int32} {u : Int32 × (List Int32) × (List Int32) × (List Int32)}  (h : f_X12_takesFigure N j1 i2 m_q m_r m_t = some u) : Ct l D r (z_rl xs) zm_X12_takesFigure 0 0 [.ref m_p, .long j1, .int i2] ([sMo m_p m_a m_d m_was m_kept m_read m_text m_typed m_n m_q m_r m_t m_heldQ m_heldR m_heldT m_heldN m_image m_built m_fixed m_isFree m_from m_some m_field m_queue m_near m_open m_closed m_at m_begin m_sort m_lastQ m_lastR m_lastT m_readN] : List ZW).flatten (fun v' w' => v' = none ∧ w' = ([sMo m_p m_a m_d m_was m_kept m_read m_text m_typed u.1 u.2.1 u.2.2.1 u.2.2.2 m_heldQ m_heldR m_heldT m_heldN m_image m_built m_fixed m_isFree m_from m_some m_field m_queue m_near m_open m_closed m_at m_begin m_sort m_lastQ m_lastR m_lastT m_readN] : List ZW).flatten) := by
  refine Ct.of (by decide +kernel) rfl (fun q => absurd q (by decide)) (Nat.le_of_ble_eq_true rfl) ?_
  refine Go.eqz (z2 := (0, [some (.ref m_p), some (.long j1), none, some (.int i2), none, none, none], [], ([sMo m_p m_a m_d m_was m_kept m_read m_text m_typed m_n m_q m_r m_t m_heldQ m_heldR m_heldT m_heldN m_image m_built m_fixed m_isFree m_from m_some m_field m_queue m_near m_open m_closed m_at m_begin m_sort m_lastQ m_lastR m_lastT m_readN] : List ZW).flatten)) rfl ?_
  unfold f_X12_takesFigure at h
  refine Go.blk zk_X12_takesFigure [0, 0] (z' := (2, [some (.ref m_p), some (.long j1), none, some (.int i2), none, none, none], [.int i2, .ref m_p], ([sMo m_p m_a m_d m_was m_kept m_read m_text m_typed m_n m_q m_r m_t m_heldQ m_heldR m_heldT m_heldN m_image m_built m_fixed m_isFree m_from m_some m_field m_queue m_near m_open m_closed m_at m_begin m_sort m_lastQ m_lastR m_lastT m_readN] : List ZW).flatten)) rfl trivial ?_
  refine Go.put zk_X12_takesFigure 0 rfl rfl rfl rfl rfl (Nat.le_of_ble_eq_true rfl) ?_
  refine Go.eqz (z2 := (5, [some (.ref m_p), some (.long j1), none, some (.int i2), none, none, none], [], ([sMo m_p m_a m_d m_was m_kept m_read m_text m_typed i2 m_q m_r m_t m_heldQ m_heldR m_heldT m_heldN m_image m_built m_fixed m_isFree m_from m_some m_field m_queue m_near m_open m_closed m_at m_begin m_sort m_lastQ m_lastR m_lastT m_readN] : List ZW).flatten)) rfl ?_
  refine Go.blk zk_X12_takesFigure [0, 0, 0, 0, 0, 0] (z' := (13, [some (.ref m_p), some (.long j1), none, some (.int i2), some (.long j1), none, some (.int (i2 - 1))], [], ([sMo m_p m_a m_d m_was m_kept m_read m_text m_typed i2 m_q m_r m_t m_heldQ m_heldR m_heldT m_heldN m_image m_built m_fixed m_isFree m_from m_some m_field m_queue m_near m_open m_closed m_at m_begin m_sort m_lastQ m_lastR m_lastT m_readN] : List ZW).flatten)) rfl trivial ?_
  refine Go.weak (L := [some (.ref m_p), some (.long j1), none, some (.int i2), some (.long j1), none, some (.int (i2 - 1))]) (L' := [some (.ref m_p), none, none, none, some (.long j1), none, some (.int (i2 - 1))]) (And.intro rfl (And.intro rfl (And.intro rfl (trivial)))) ?_
  obtain ⟨e3, he3, h⟩ := z_bind h
  refine t_X12_takesFigure_L13 N _ _ _ _ _ _ he3 ?_
  obtain rfl := Option.some.inj h
  exact Go.vret zk_X12_takesFigure rfl rfl ⟨rfl, rfl⟩
set_option maxHeartbeats 4000000 in
set_option maxRecDepth 100000 in
theorem t_X12_find_L3 {N : Nat} {m_p : Nat} {m_a : Nat → Nat} {m_d : List Int32} {m_was : List Int32} {m_kept : Int32} {m_read : List Int32} {m_text : List Int32} {m_typed : Int32} {m_n : Int32} {m_q : List Int32} {m_r : List Int32} {m_t : List Int32} {m_heldQ : List Int32} {m_heldR : List Int32} {m_heldT : List Int32} {m_heldN : Int32} {m_image : List Int32} {m_built : Int32} {m_fixed : List Int64} {m_isFree : List Int32} {m_from : List Int32} {m_some : List Int64} {m_field : List Int32} {m_queue : List Int32} {m_near : List Int32} {m_open : List Int32} {m_closed : List Int32} {m_at : Int32} {m_begin : Int32} {m_sort : Int32} {m_lastQ : Int32} {m_lastR : Int32} {m_lastT : Int32} {m_readN : Int32} {v1 : Int32} {v2 : Int32} {v3 : Int32}  {Q : Option Value → ZW → Prop} : ∀ (fu : Nat) (v4 : Int32) (o : (Unit) ⊕ (Int32)), f_X12_find_L3 N v1 v2 v3 m_n m_q m_r m_t fu v4 = some o → (∀ e, o = .inl e → Go l D r (z_rl xs) zm_X12_find 0 0 (54, [none, none, none, none, none], [], ([sMo m_p m_a m_d m_was m_kept m_read m_text m_typed m_n m_q m_r m_t m_heldQ m_heldR m_heldT m_heldN m_image m_built m_fixed m_isFree m_from m_some m_field m_queue m_near m_open m_closed m_at m_begin m_sort m_lastQ m_lastR m_lastT m_readN] : List ZW).flatten) Q) → (∀ e, o = .inr e → Q (some (.int e)) ([sMo m_p m_a m_d m_was m_kept m_read m_text m_typed m_n m_q m_r m_t m_heldQ m_heldR m_heldT m_heldN m_image m_built m_fixed m_isFree m_from m_some m_field m_queue m_near m_open m_closed m_at m_begin m_sort m_lastQ m_lastR m_lastT m_readN] : List ZW).flatten) → Go l D r (z_rl xs) zm_X12_find 0 0 (3, [some (.ref m_p), some (.int v1), some (.int v2), some (.int v3), some (.int v4)], [], ([sMo m_p m_a m_d m_was m_kept m_read m_text m_typed m_n m_q m_r m_t m_heldQ m_heldR m_heldT m_heldN m_image m_built m_fixed m_isFree m_from m_some m_field m_queue m_near m_open m_closed m_at m_begin m_sort m_lastQ m_lastR m_lastT m_readN] : List ZW).flatten) Q := by
  intro fu
  induction fu with
  | zero =>
    intro v4 o h
    simp only [f_X12_find_L3, reduceCtorEq] at h
  | succ fu ih =>
    intro v4 o h k1 k2
    rw [f_X12_find_L3] at h
    refine Go.blk zk_X12_find [0, 0, 0] (z' := (9, [some (.ref m_p), some (.int v1), some (.int v2), some (.int v3), some (.int v4)], [.int m_n, .int v4], ([sMo m_p m_a m_d m_was m_kept m_read m_text m_typed m_n m_q m_r m_t m_heldQ m_heldR m_heldT m_heldN m_image m_built m_fixed m_isFree m_from m_some m_field m_queue m_near m_open m_closed m_at m_begin m_sort m_lastQ m_lastR m_lastT m_readN] : List ZW).flatten)) rfl ⟨rfl, trivial⟩ ?_
    by_cases hc1 : v4 < m_n
    · rw [if_pos hc1] at h
      refine Go.br zk_X12_find rfl rfl (fun _ => ?_) (fun q => absurd hc1 q)
      refine Go.blk zk_X12_find [0, 0, 0] (z' := (18, [some (.ref m_p), some (.int v1), some (.int v2), some (.int v3), some (.int v4)], [.int v4, .ref (m_a 4)], ([sMo m_p m_a m_d m_was m_kept m_read m_text m_typed m_n m_q m_r m_t m_heldQ m_heldR m_heldT m_heldN m_image m_built m_fixed m_isFree m_from m_some m_field m_queue m_near m_open m_closed m_at m_begin m_sort m_lastQ m_lastR m_lastT m_readN] : List ZW).flatten)) rfl ⟨rfl, trivial⟩ ?_
      obtain ⟨x2, hx2, h⟩ := z_bind h
      refine Go.iald zk_X12_find 5 rfl rfl rfl hx2 ?_
      refine Go.blk zk_X12_find [0] (z' := (20, [some (.ref m_p), some (.int v1), some (.int v2), some (.int v3), some (.int v4)], [.int v1, .int x2], ([sMo m_p m_a m_d m_was m_kept m_read m_text m_typed m_n m_q m_r m_t m_heldQ m_heldR m_heldT m_heldN m_image m_built m_fixed m_isFree m_from m_some m_field m_queue m_near m_open m_closed m_at m_begin m_sort m_lastQ m_lastR m_lastT m_readN] : List ZW).flatten)) rfl trivial ?_
      by_cases hc3 : x2 = v1
      · rw [if_pos hc3] at h
        refine Go.br zk_X12_find rfl rfl (fun _ => ?_) (fun q => absurd hc3 q)
        refine Go.blk zk_X12_find [0, 0, 0] (z' := (29, [some (.ref m_p), some (.int v1), some (.int v2), some (.int v3), some (.int v4)], [.int v4, .ref (m_a 5)], ([sMo m_p m_a m_d m_was m_kept m_read m_text m_typed m_n m_q m_r m_t m_heldQ m_heldR m_heldT m_heldN m_image m_built m_fixed m_isFree m_from m_some m_field m_queue m_near m_open m_closed m_at m_begin m_sort m_lastQ m_lastR m_lastT m_readN] : List ZW).flatten)) rfl ⟨rfl, trivial⟩ ?_
        obtain ⟨x4, hx4, h⟩ := z_bind h
        refine Go.iald zk_X12_find 6 rfl rfl rfl hx4 ?_
        refine Go.blk zk_X12_find [0] (z' := (31, [some (.ref m_p), some (.int v1), some (.int v2), some (.int v3), some (.int v4)], [.int v2, .int x4], ([sMo m_p m_a m_d m_was m_kept m_read m_text m_typed m_n m_q m_r m_t m_heldQ m_heldR m_heldT m_heldN m_image m_built m_fixed m_isFree m_from m_some m_field m_queue m_near m_open m_closed m_at m_begin m_sort m_lastQ m_lastR m_lastT m_readN] : List ZW).flatten)) rfl trivial ?_
        by_cases hc5 : x4 = v2
        · rw [if_pos hc5] at h
          refine Go.br zk_X12_find rfl rfl (fun _ => ?_) (fun q => absurd hc5 q)
          refine Go.blk zk_X12_find [0, 0, 0] (z' := (40, [some (.ref m_p), some (.int v1), some (.int v2), some (.int v3), some (.int v4)], [.int v4, .ref (m_a 6)], ([sMo m_p m_a m_d m_was m_kept m_read m_text m_typed m_n m_q m_r m_t m_heldQ m_heldR m_heldT m_heldN m_image m_built m_fixed m_isFree m_from m_some m_field m_queue m_near m_open m_closed m_at m_begin m_sort m_lastQ m_lastR m_lastT m_readN] : List ZW).flatten)) rfl ⟨rfl, trivial⟩ ?_
          obtain ⟨x6, hx6, h⟩ := z_bind h
          refine Go.iald zk_X12_find 7 rfl rfl rfl hx6 ?_
          refine Go.blk zk_X12_find [0] (z' := (42, [some (.ref m_p), some (.int v1), some (.int v2), some (.int v3), some (.int v4)], [.int v3, .int x6], ([sMo m_p m_a m_d m_was m_kept m_read m_text m_typed m_n m_q m_r m_t m_heldQ m_heldR m_heldT m_heldN m_image m_built m_fixed m_isFree m_from m_some m_field m_queue m_near m_open m_closed m_at m_begin m_sort m_lastQ m_lastR m_lastT m_readN] : List ZW).flatten)) rfl trivial ?_
          by_cases hc7 : x6 = v3
          · rw [if_pos hc7] at h
            refine Go.br zk_X12_find rfl rfl (fun _ => ?_) (fun q => absurd hc7 q)
            refine Go.blk zk_X12_find [0] (z' := (47, [some (.ref m_p), some (.int v1), some (.int v2), some (.int v3), some (.int v4)], [.int v4], ([sMo m_p m_a m_d m_was m_kept m_read m_text m_typed m_n m_q m_r m_t m_heldQ m_heldR m_heldT m_heldN m_image m_built m_fixed m_isFree m_from m_some m_field m_queue m_near m_open m_closed m_at m_begin m_sort m_lastQ m_lastR m_lastT m_readN] : List ZW).flatten)) rfl trivial ?_
            obtain rfl := Option.some.inj h
            exact Go.iret zk_X12_find rfl rfl rfl (k2 _ rfl)
          · rw [if_neg hc7] at h
            refine Go.br zk_X12_find rfl rfl (fun q => absurd q hc7) (fun _ => ?_)
            refine Go.blk zk_X12_find [0, 0] (z' := (3, [some (.ref m_p), some (.int v1), some (.int v2), some (.int v3), some (.int (v4 + 1))], [], ([sMo m_p m_a m_d m_was m_kept m_read m_text m_typed m_n m_q m_r m_t m_heldQ m_heldR m_heldT m_heldN m_image m_built m_fixed m_isFree m_from m_some m_field m_queue m_near m_open m_closed m_at m_begin m_sort m_lastQ m_lastR m_lastT m_readN] : List ZW).flatten)) rfl trivial ?_
            exact ih _ _ h k1 k2
        · rw [if_neg hc5] at h
          refine Go.br zk_X12_find rfl rfl (fun q => absurd q hc5) (fun _ => ?_)
          refine Go.blk zk_X12_find [0, 0] (z' := (3, [some (.ref m_p), some (.int v1), some (.int v2), some (.int v3), some (.int (v4 + 1))], [], ([sMo m_p m_a m_d m_was m_kept m_read m_text m_typed m_n m_q m_r m_t m_heldQ m_heldR m_heldT m_heldN m_image m_built m_fixed m_isFree m_from m_some m_field m_queue m_near m_open m_closed m_at m_begin m_sort m_lastQ m_lastR m_lastT m_readN] : List ZW).flatten)) rfl trivial ?_
          exact ih _ _ h k1 k2
      · rw [if_neg hc3] at h
        refine Go.br zk_X12_find rfl rfl (fun q => absurd q hc3) (fun _ => ?_)
        refine Go.blk zk_X12_find [0, 0] (z' := (3, [some (.ref m_p), some (.int v1), some (.int v2), some (.int v3), some (.int (v4 + 1))], [], ([sMo m_p m_a m_d m_was m_kept m_read m_text m_typed m_n m_q m_r m_t m_heldQ m_heldR m_heldT m_heldN m_image m_built m_fixed m_isFree m_from m_some m_field m_queue m_near m_open m_closed m_at m_begin m_sort m_lastQ m_lastR m_lastT m_readN] : List ZW).flatten)) rfl trivial ?_
        exact ih _ _ h k1 k2
    · rw [if_neg hc1] at h
      refine Go.br zk_X12_find rfl rfl (fun q => absurd q hc1) (fun _ => ?_)
      obtain rfl := Option.some.inj h
      refine Go.weak (L := [some (.ref m_p), some (.int v1), some (.int v2), some (.int v3), some (.int v4)]) (L' := [none, none, none, none, none]) (trivial) ?_
      exact k1 _ rfl
set_option maxHeartbeats 4000000 in
set_option maxRecDepth 100000 in
theorem t_X12_find {N : Nat} {m_p : Nat} {m_a : Nat → Nat} {m_d : List Int32} {m_was : List Int32} {m_kept : Int32} {m_read : List Int32} {m_text : List Int32} {m_typed : Int32} {m_n : Int32} {m_q : List Int32} {m_r : List Int32} {m_t : List Int32} {m_heldQ : List Int32} {m_heldR : List Int32} {m_heldT : List Int32} {m_heldN : Int32} {m_image : List Int32} {m_built : Int32} {m_fixed : List Int64} {m_isFree : List Int32} {m_from : List Int32} {m_some : List Int64} {m_field : List Int32} {m_queue : List Int32} {m_near : List Int32} {m_open : List Int32} {m_closed : List Int32} {m_at : Int32} {m_begin : Int32} {m_sort : Int32} {m_lastQ : Int32} {m_lastR : Int32} {m_lastT : Int32} {m_readN : Int32} {i1 : Int32} {i2 : Int32} {i3 : Int32} {u : Int32}  (h : f_X12_find N i1 i2 i3 m_n m_q m_r m_t = some u) : Ct l D r (z_rl xs) zm_X12_find 0 0 [.ref m_p, .int i1, .int i2, .int i3] ([sMo m_p m_a m_d m_was m_kept m_read m_text m_typed m_n m_q m_r m_t m_heldQ m_heldR m_heldT m_heldN m_image m_built m_fixed m_isFree m_from m_some m_field m_queue m_near m_open m_closed m_at m_begin m_sort m_lastQ m_lastR m_lastT m_readN] : List ZW).flatten (fun v' w' => v' = some (.int u) ∧ w' = ([sMo m_p m_a m_d m_was m_kept m_read m_text m_typed m_n m_q m_r m_t m_heldQ m_heldR m_heldT m_heldN m_image m_built m_fixed m_isFree m_from m_some m_field m_queue m_near m_open m_closed m_at m_begin m_sort m_lastQ m_lastR m_lastT m_readN] : List ZW).flatten) := by
  refine Ct.of (by decide +kernel) rfl (fun q => absurd q (by decide)) (Nat.le_of_ble_eq_true rfl) ?_
  refine Go.eqz (z2 := (0, [some (.ref m_p), some (.int i1), some (.int i2), some (.int i3), none], [], ([sMo m_p m_a m_d m_was m_kept m_read m_text m_typed m_n m_q m_r m_t m_heldQ m_heldR m_heldT m_heldN m_image m_built m_fixed m_isFree m_from m_some m_field m_queue m_near m_open m_closed m_at m_begin m_sort m_lastQ m_lastR m_lastT m_readN] : List ZW).flatten)) rfl ?_
  unfold f_X12_find at h
  refine Go.blk zk_X12_find [0, 0] (z' := (3, [some (.ref m_p), some (.int i1), some (.int i2), some (.int i3), some (.int 0)], [], ([sMo m_p m_a m_d m_was m_kept m_read m_text m_typed m_n m_q m_r m_t m_heldQ m_heldR m_heldT m_heldN m_image m_built m_fixed m_isFree m_from m_some m_field m_queue m_near m_open m_closed m_at m_begin m_sort m_lastQ m_lastR m_lastT m_readN] : List ZW).flatten)) rfl trivial ?_
  obtain ⟨o9, he8, h⟩ := z_bind h
  cases o9 with
  | inl e8 =>
    simp only [Sum.elim_inl] at h
    refine t_X12_find_L3 N _ _ he8 (fun _ q => ?_) (fun _ q => nomatch q)
    obtain rfl := Sum.inl.inj q
    refine Go.blk zk_X12_find [0] (z' := (55, [none, none, none, none, none], [.int (-1)], ([sMo m_p m_a m_d m_was m_kept m_read m_text m_typed m_n m_q m_r m_t m_heldQ m_heldR m_heldT m_heldN m_image m_built m_fixed m_isFree m_from m_some m_field m_queue m_near m_open m_closed m_at m_begin m_sort m_lastQ m_lastR m_lastT m_readN] : List ZW).flatten)) rfl trivial ?_
    obtain rfl := Option.some.inj h
    exact Go.iret zk_X12_find rfl rfl rfl ⟨rfl, rfl⟩
  | inr u10 =>
    simp only [Sum.elim_inr] at h
    obtain rfl := Option.some.inj h
    refine t_X12_find_L3 N _ _ he8 (fun _ q => nomatch q) (fun _ q => ?_)
    obtain rfl := Sum.inr.inj q
    exact ⟨rfl, rfl⟩
set_option maxHeartbeats 4000000 in
set_option maxRecDepth 100000 in
theorem t_X12_isConnected_L45 {N : Nat} {m_p : Nat} {m_a : Nat → Nat} {m_d : List Int32} {m_was : List Int32} {m_kept : Int32} {m_read : List Int32} {m_text : List Int32} {m_typed : Int32} {m_n : Int32} {m_q : List Int32} {m_r : List Int32} {m_t : List Int32} {m_heldQ : List Int32} {m_heldR : List Int32} {m_heldT : List Int32} {m_heldN : Int32} {m_image : List Int32} {m_built : Int32} {m_fixed : List Int64} {m_isFree : List Int32} {m_from : List Int32} {m_some : List Int64} {m_field : List Int32} {m_queue : List Int32} {m_near : List Int32} {m_open : List Int32} {m_closed : List Int32} {m_at : Int32} {m_begin : Int32} {m_sort : Int32} {m_lastQ : Int32} {m_lastR : Int32} {m_lastT : Int32} {m_readN : Int32} {v3 : Int32}  {Q : Option Value → ZW → Prop} : ∀ (fu : Nat) (v1 : Int32) (v2 : Int32) (v4 : Int32) (e : Int32 × Int32), f_X12_isConnected_L45 N v3 m_d m_n m_q m_r m_t fu v1 v2 v4 = some e → (Go l D r (z_rl xs) zm_X12_isConnected 0 0 (146, [some (.ref m_p), some (.int e.1), some (.int e.2), some (.int v3), none, none], [], ([sMo m_p m_a m_d m_was m_kept m_read m_text m_typed m_n m_q m_r m_t m_heldQ m_heldR m_heldT m_heldN m_image m_built m_fixed m_isFree m_from m_some m_field m_queue m_near m_open m_closed m_at m_begin m_sort m_lastQ m_lastR m_lastT m_readN] : List ZW).flatten) Q) → Go l D r (z_rl xs) zm_X12_isConnected 0 0 (45, [some (.ref m_p), some (.int v1), some (.int v2), some (.int v3), some (.int v4), none], [], ([sMo m_p m_a m_d m_was m_kept m_read m_text m_typed m_n m_q m_r m_t m_heldQ m_heldR m_heldT m_heldN m_image m_built m_fixed m_isFree m_from m_some m_field m_queue m_near m_open m_closed m_at m_begin m_sort m_lastQ m_lastR m_lastT m_readN] : List ZW).flatten) Q := by
  intro fu
  induction fu with
  | zero =>
    intro v1 v2 v4 e h
    simp only [f_X12_isConnected_L45, reduceCtorEq] at h
  | succ fu ih =>
    intro v1 v2 v4 e h kk
    rw [f_X12_isConnected_L45] at h
    refine Go.blk zk_X12_isConnected [0, 0] (z' := (48, [some (.ref m_p), some (.int v1), some (.int v2), some (.int v3), some (.int v4), none], [.ref m_p, .int v4], ([sMo m_p m_a m_d m_was m_kept m_read m_text m_typed m_n m_q m_r m_t m_heldQ m_heldR m_heldT m_heldN m_image m_built m_fixed m_isFree m_from m_some m_field m_queue m_near m_open m_closed m_at m_begin m_sort m_lastQ m_lastR m_lastT m_readN] : List ZW).flatten)) rfl trivial ?_
    obtain ⟨u5, hu5, h⟩ := z_bind h
    refine Go.vs zk_X12_isConnected zm_X12_directions [0] [] 0 12 1 (S := [sMo m_p m_a m_d m_was m_kept m_read m_text m_typed m_n m_q m_r m_t m_heldQ m_heldR m_heldT m_heldN m_image m_built m_fixed m_isFree m_from m_some m_field m_queue m_near m_open m_closed m_at m_begin m_sort m_lastQ m_lastR m_lastT m_readN]) (S2 := [sMo m_p m_a m_d m_was m_kept m_read m_text m_typed m_n m_q m_r m_t m_heldQ m_heldR m_heldT m_heldN m_image m_built m_fixed m_isFree m_from m_some m_field m_queue m_near m_open m_closed m_at m_begin m_sort m_lastQ m_lastR m_lastT m_readN]) (As := []) (rest := [.int v4]) (st2 := [.int u5, .int v4]) (v1 := some (.int u5)) rfl zl_X12_86 zv_X12_directions ⟨Nat.le_of_ble_eq_true rfl, Nat.le_of_ble_eq_true rfl⟩ rfl (by decide) rfl rfl rfl rfl rfl (Nat.le_of_ble_eq_true rfl) (t_X12_directions hu5) rfl rfl rfl ?_
    by_cases hc6 : v4 < u5
    · rw [if_pos hc6] at h
      refine Go.br zk_X12_isConnected rfl rfl (fun _ => ?_) (fun q => absurd hc6 q)
      refine Go.blk zk_X12_isConnected [0, 0, 0, 0, 0, 0] (z' := (60, [some (.ref m_p), some (.int v1), some (.int v2), some (.int v3), some (.int v4), none], [.int 1, .int ((v1 >>> (v3 &&& 31)) &&& 1)], ([sMo m_p m_a m_d m_was m_kept m_read m_text m_typed m_n m_q m_r m_t m_heldQ m_heldR m_heldT m_heldN m_image m_built m_fixed m_isFree m_from m_some m_field m_queue m_near m_open m_closed m_at m_begin m_sort m_lastQ m_lastR m_lastT m_readN] : List ZW).flatten)) rfl trivial ?_
      by_cases hc7 : ((v1 >>> (v3 &&& 31)) &&& 1) = 1
      · rw [if_pos hc7] at h
        refine Go.br zk_X12_isConnected rfl rfl (fun _ => ?_) (fun q => absurd hc7 q)
        refine Go.blk zk_X12_isConnected [0, 0, 0, 0] (z' := (69, [some (.ref m_p), some (.int v1), some (.int v2), some (.int v3), some (.int v4), none], [.int v3, .ref (m_a 4), .ref m_p], ([sMo m_p m_a m_d m_was m_kept m_read m_text m_typed m_n m_q m_r m_t m_heldQ m_heldR m_heldT m_heldN m_image m_built m_fixed m_isFree m_from m_some m_field m_queue m_near m_open m_closed m_at m_begin m_sort m_lastQ m_lastR m_lastT m_readN] : List ZW).flatten)) rfl ⟨rfl, trivial⟩ ?_
        obtain ⟨x8, hx8, h⟩ := z_bind h
        refine Go.iald zk_X12_isConnected 5 rfl rfl rfl hx8 ?_
        refine Go.blk zk_X12_isConnected [0, 0, 0, 0, 0] (z' := (78, [some (.ref m_p), some (.int v1), some (.int v2), some (.int v3), some (.int v4), none], [.int v3, .ref (m_a 6), .int v4, .ref m_p, .int x8, .ref m_p], ([sMo m_p m_a m_d m_was m_kept m_read m_text m_typed m_n m_q m_r m_t m_heldQ m_heldR m_heldT m_heldN m_image m_built m_fixed m_isFree m_from m_some m_field m_queue m_near m_open m_closed m_at m_begin m_sort m_lastQ m_lastR m_lastT m_readN] : List ZW).flatten)) rfl ⟨rfl, trivial⟩ ?_
        obtain ⟨x9, hx9, h⟩ := z_bind h
        refine Go.iald zk_X12_isConnected 7 rfl rfl rfl hx9 ?_
        obtain ⟨u10, hu10, h⟩ := z_bind h
        refine Go.vs zk_X12_isConnected zm_X12_stepQ [0] [] 0 12 1 (S := [sMo m_p m_a m_d m_was m_kept m_read m_text m_typed m_n m_q m_r m_t m_heldQ m_heldR m_heldT m_heldN m_image m_built m_fixed m_isFree m_from m_some m_field m_queue m_near m_open m_closed m_at m_begin m_sort m_lastQ m_lastR m_lastT m_readN]) (S2 := [sMo m_p m_a m_d m_was m_kept m_read m_text m_typed m_n m_q m_r m_t m_heldQ m_heldR m_heldT m_heldN m_image m_built m_fixed m_isFree m_from m_some m_field m_queue m_near m_open m_closed m_at m_begin m_sort m_lastQ m_lastR m_lastT m_readN]) (As := [.int v4, .int x9]) (rest := [.int x8, .ref m_p]) (st2 := [.int u10, .int x8, .ref m_p]) (v1 := some (.int u10)) rfl zl_X12_90 zv_X12_stepQ ⟨Nat.le_of_ble_eq_true rfl, Nat.le_of_ble_eq_true rfl⟩ rfl (by decide) rfl rfl rfl rfl rfl (Nat.le_of_ble_eq_true rfl) (t_X12_stepQ hu10) rfl rfl rfl ?_
        refine Go.blk zk_X12_isConnected [0, 0, 0, 0] (z' := (88, [some (.ref m_p), some (.int v1), some (.int v2), some (.int v3), some (.int v4), none], [.int v3, .ref (m_a 5), .int (x8 + u10), .ref m_p], ([sMo m_p m_a m_d m_was m_kept m_read m_text m_typed m_n m_q m_r m_t m_heldQ m_heldR m_heldT m_heldN m_image m_built m_fixed m_isFree m_from m_some m_field m_queue m_near m_open m_closed m_at m_begin m_sort m_lastQ m_lastR m_lastT m_readN] : List ZW).flatten)) rfl ⟨rfl, trivial⟩ ?_
        obtain ⟨x11, hx11, h⟩ := z_bind h
        refine Go.iald zk_X12_isConnected 6 rfl rfl rfl hx11 ?_
        refine Go.blk zk_X12_isConnected [0, 0, 0, 0, 0] (z' := (97, [some (.ref m_p), some (.int v1), some (.int v2), some (.int v3), some (.int v4), none], [.int v3, .ref (m_a 6), .int v4, .ref m_p, .int x11, .int (x8 + u10), .ref m_p], ([sMo m_p m_a m_d m_was m_kept m_read m_text m_typed m_n m_q m_r m_t m_heldQ m_heldR m_heldT m_heldN m_image m_built m_fixed m_isFree m_from m_some m_field m_queue m_near m_open m_closed m_at m_begin m_sort m_lastQ m_lastR m_lastT m_readN] : List ZW).flatten)) rfl ⟨rfl, trivial⟩ ?_
        obtain ⟨x12, hx12, h⟩ := z_bind h
        refine Go.iald zk_X12_isConnected 7 rfl rfl rfl hx12 ?_
        obtain ⟨u13, hu13, h⟩ := z_bind h
        refine Go.vs zk_X12_isConnected zm_X12_stepR [0] [] 0 12 1 (S := [sMo m_p m_a m_d m_was m_kept m_read m_text m_typed m_n m_q m_r m_t m_heldQ m_heldR m_heldT m_heldN m_image m_built m_fixed m_isFree m_from m_some m_field m_queue m_near m_open m_closed m_at m_begin m_sort m_lastQ m_lastR m_lastT m_readN]) (S2 := [sMo m_p m_a m_d m_was m_kept m_read m_text m_typed m_n m_q m_r m_t m_heldQ m_heldR m_heldT m_heldN m_image m_built m_fixed m_isFree m_from m_some m_field m_queue m_near m_open m_closed m_at m_begin m_sort m_lastQ m_lastR m_lastT m_readN]) (As := [.int v4, .int x12]) (rest := [.int x11, .int (x8 + u10), .ref m_p]) (st2 := [.int u13, .int x11, .int (x8 + u10), .ref m_p]) (v1 := some (.int u13)) rfl zl_X12_94 zv_X12_stepR ⟨Nat.le_of_ble_eq_true rfl, Nat.le_of_ble_eq_true rfl⟩ rfl (by decide) rfl rfl rfl rfl rfl (Nat.le_of_ble_eq_true rfl) (t_X12_stepR hu13) rfl rfl rfl ?_
        refine Go.blk zk_X12_isConnected [0, 0, 0, 0, 0] (z' := (108, [some (.ref m_p), some (.int v1), some (.int v2), some (.int v3), some (.int v4), none], [.int v3, .ref (m_a 6), .ref m_p, .int (x11 + u13), .int (x8 + u10), .ref m_p], ([sMo m_p m_a m_d m_was m_kept m_read m_text m_typed m_n m_q m_r m_t m_heldQ m_heldR m_heldT m_heldN m_image m_built m_fixed m_isFree m_from m_some m_field m_queue m_near m_open m_closed m_at m_begin m_sort m_lastQ m_lastR m_lastT m_readN] : List ZW).flatten)) rfl ⟨rfl, trivial⟩ ?_
        obtain ⟨x14, hx14, h⟩ := z_bind h
        refine Go.iald zk_X12_isConnected 7 rfl rfl rfl hx14 ?_
        obtain ⟨u15, hu15, h⟩ := z_bind h
        refine Go.vs zk_X12_isConnected zm_X12_sideOf [0] [] 0 12 1 (S := [sMo m_p m_a m_d m_was m_kept m_read m_text m_typed m_n m_q m_r m_t m_heldQ m_heldR m_heldT m_heldN m_image m_built m_fixed m_isFree m_from m_some m_field m_queue m_near m_open m_closed m_at m_begin m_sort m_lastQ m_lastR m_lastT m_readN]) (S2 := [sMo m_p m_a m_d m_was m_kept m_read m_text m_typed m_n m_q m_r m_t m_heldQ m_heldR m_heldT m_heldN m_image m_built m_fixed m_isFree m_from m_some m_field m_queue m_near m_open m_closed m_at m_begin m_sort m_lastQ m_lastR m_lastT m_readN]) (As := [.int x14]) (rest := [.int (x11 + u13), .int (x8 + u10), .ref m_p]) (st2 := [.int u15, .int (x11 + u13), .int (x8 + u10), .ref m_p]) (v1 := some (.int u15)) rfl zl_X12_97 zv_X12_sideOf ⟨Nat.le_of_ble_eq_true rfl, Nat.le_of_ble_eq_true rfl⟩ rfl (by decide) rfl rfl rfl rfl rfl (Nat.le_of_ble_eq_true rfl) (t_X12_sideOf hu15) rfl rfl rfl ?_
        obtain ⟨u16, hu16, h⟩ := z_bind h
        refine Go.vs zk_X12_isConnected zm_X12_find [0] [] 0 12 1 (S := [sMo m_p m_a m_d m_was m_kept m_read m_text m_typed m_n m_q m_r m_t m_heldQ m_heldR m_heldT m_heldN m_image m_built m_fixed m_isFree m_from m_some m_field m_queue m_near m_open m_closed m_at m_begin m_sort m_lastQ m_lastR m_lastT m_readN]) (S2 := [sMo m_p m_a m_d m_was m_kept m_read m_text m_typed m_n m_q m_r m_t m_heldQ m_heldR m_heldT m_heldN m_image m_built m_fixed m_isFree m_from m_some m_field m_queue m_near m_open m_closed m_at m_begin m_sort m_lastQ m_lastR m_lastT m_readN]) (As := [.int (x8 + u10), .int (x11 + u13), .int u15]) (rest := []) (st2 := [.int u16]) (v1 := some (.int u16)) rfl zl_X12_101 zv_X12_find ⟨Nat.le_of_ble_eq_true rfl, Nat.le_of_ble_eq_true rfl⟩ rfl (by decide) rfl rfl rfl rfl rfl (Nat.le_of_ble_eq_true rfl) (t_X12_find hu16) rfl rfl rfl ?_
        refine Go.blk zk_X12_isConnected [0, 0] (z' := (119, [some (.ref m_p), some (.int v1), some (.int v2), some (.int v3), some (.int v4), some (.int u16)], [.int u16], ([sMo m_p m_a m_d m_was m_kept m_read m_text m_typed m_n m_q m_r m_t m_heldQ m_heldR m_heldT m_heldN m_image m_built m_fixed m_isFree m_from m_some m_field m_queue m_near m_open m_closed m_at m_begin m_sort m_lastQ m_lastR m_lastT m_readN] : List ZW).flatten)) rfl trivial ?_
        by_cases hc17 : u16 < 0
        · rw [if_pos hc17] at h
          refine Go.br zk_X12_isConnected rfl rfl (fun _ => ?_) (fun q => absurd hc17 q)
          refine Go.blk zk_X12_isConnected [0, 0] (z' := (45, [some (.ref m_p), some (.int v1), some (.int v2), some (.int v3), some (.int (v4 + 1)), some (.int u16)], [], ([sMo m_p m_a m_d m_was m_kept m_read m_text m_typed m_n m_q m_r m_t m_heldQ m_heldR m_heldT m_heldN m_image m_built m_fixed m_isFree m_from m_some m_field m_queue m_near m_open m_closed m_at m_begin m_sort m_lastQ m_lastR m_lastT m_readN] : List ZW).flatten)) rfl trivial ?_
          refine Go.weak (L := [some (.ref m_p), some (.int v1), some (.int v2), some (.int v3), some (.int (v4 + 1)), some (.int u16)]) (L' := [some (.ref m_p), some (.int v1), some (.int v2), some (.int v3), some (.int (v4 + 1)), none]) (And.intro rfl (And.intro rfl (And.intro rfl (And.intro rfl (And.intro rfl (trivial)))))) ?_
          exact ih _ _ _ _ h kk
        · rw [if_neg hc17] at h
          refine Go.br zk_X12_isConnected rfl rfl (fun q => absurd q hc17) (fun _ => ?_)
          refine Go.blk zk_X12_isConnected [0, 0, 0, 0, 0] (z' := (128, [some (.ref m_p), some (.int v1), some (.int v2), some (.int v3), some (.int v4), some (.int u16)], [.int ((v1 >>> (u16 &&& 31)) &&& 1)], ([sMo m_p m_a m_d m_was m_kept m_read m_text m_typed m_n m_q m_r m_t m_heldQ m_heldR m_heldT m_heldN m_image m_built m_fixed m_isFree m_from m_some m_field m_queue m_near m_open m_closed m_at m_begin m_sort m_lastQ m_lastR m_lastT m_readN] : List ZW).flatten)) rfl trivial ?_
          by_cases hc18 : ((v1 >>> (u16 &&& 31)) &&& 1) = 0
          · rw [if_pos hc18] at h
            refine Go.br zk_X12_isConnected rfl rfl (fun _ => ?_) (fun q => absurd hc18 q)
            refine Go.blk zk_X12_isConnected [0, 0, 0, 0, 0, 0, 0, 0, 0, 0] (z' := (45, [some (.ref m_p), some (.int (v1 ||| (1 <<< (u16 &&& 31)))), some (.int 1), some (.int v3), some (.int (v4 + 1)), some (.int u16)], [], ([sMo m_p m_a m_d m_was m_kept m_read m_text m_typed m_n m_q m_r m_t m_heldQ m_heldR m_heldT m_heldN m_image m_built m_fixed m_isFree m_from m_some m_field m_queue m_near m_open m_closed m_at m_begin m_sort m_lastQ m_lastR m_lastT m_readN] : List ZW).flatten)) rfl trivial ?_
            refine Go.weak (L := [some (.ref m_p), some (.int (v1 ||| (1 <<< (u16 &&& 31)))), some (.int 1), some (.int v3), some (.int (v4 + 1)), some (.int u16)]) (L' := [some (.ref m_p), some (.int (v1 ||| (1 <<< (u16 &&& 31)))), some (.int 1), some (.int v3), some (.int (v4 + 1)), none]) (And.intro rfl (And.intro rfl (And.intro rfl (And.intro rfl (And.intro rfl (trivial)))))) ?_
            exact ih _ _ _ _ h kk
          · rw [if_neg hc18] at h
            refine Go.br zk_X12_isConnected rfl rfl (fun q => absurd q hc18) (fun _ => ?_)
            refine Go.blk zk_X12_isConnected [0, 0] (z' := (45, [some (.ref m_p), some (.int v1), some (.int v2), some (.int v3), some (.int (v4 + 1)), some (.int u16)], [], ([sMo m_p m_a m_d m_was m_kept m_read m_text m_typed m_n m_q m_r m_t m_heldQ m_heldR m_heldT m_heldN m_image m_built m_fixed m_isFree m_from m_some m_field m_queue m_near m_open m_closed m_at m_begin m_sort m_lastQ m_lastR m_lastT m_readN] : List ZW).flatten)) rfl trivial ?_
            refine Go.weak (L := [some (.ref m_p), some (.int v1), some (.int v2), some (.int v3), some (.int (v4 + 1)), some (.int u16)]) (L' := [some (.ref m_p), some (.int v1), some (.int v2), some (.int v3), some (.int (v4 + 1)), none]) (And.intro rfl (And.intro rfl (And.intro rfl (And.intro rfl (And.intro rfl (trivial)))))) ?_
            exact ih _ _ _ _ h kk
      · rw [if_neg hc7] at h
        refine Go.br zk_X12_isConnected rfl rfl (fun q => absurd q hc7) (fun _ => ?_)
        obtain rfl := Option.some.inj h
        refine Go.weak (L := [some (.ref m_p), some (.int v1), some (.int v2), some (.int v3), some (.int v4), none]) (L' := [some (.ref m_p), some (.int v1), some (.int v2), some (.int v3), none, none]) (And.intro rfl (And.intro rfl (And.intro rfl (And.intro rfl (trivial))))) ?_
        exact kk
    · rw [if_neg hc6] at h
      refine Go.br zk_X12_isConnected rfl rfl (fun q => absurd q hc6) (fun _ => ?_)
      obtain rfl := Option.some.inj h
      refine Go.weak (L := [some (.ref m_p), some (.int v1), some (.int v2), some (.int v3), some (.int v4), none]) (L' := [some (.ref m_p), some (.int v1), some (.int v2), some (.int v3), none, none]) (And.intro rfl (And.intro rfl (And.intro rfl (And.intro rfl (trivial))))) ?_
      exact kk
set_option maxHeartbeats 4000000 in
set_option maxRecDepth 100000 in
theorem t_X12_isConnected_L34 {N : Nat} {m_p : Nat} {m_a : Nat → Nat} {m_d : List Int32} {m_was : List Int32} {m_kept : Int32} {m_read : List Int32} {m_text : List Int32} {m_typed : Int32} {m_n : Int32} {m_q : List Int32} {m_r : List Int32} {m_t : List Int32} {m_heldQ : List Int32} {m_heldR : List Int32} {m_heldT : List Int32} {m_heldN : Int32} {m_image : List Int32} {m_built : Int32} {m_fixed : List Int64} {m_isFree : List Int32} {m_from : List Int32} {m_some : List Int64} {m_field : List Int32} {m_queue : List Int32} {m_near : List Int32} {m_open : List Int32} {m_closed : List Int32} {m_at : Int32} {m_begin : Int32} {m_sort : Int32} {m_lastQ : Int32} {m_lastR : Int32} {m_lastT : Int32} {m_readN : Int32}  {Q : Option Value → ZW → Prop} : ∀ (fu : Nat) (v1 : Int32) (v2 : Int32) (v3 : Int32) (e : Int32 × Int32), f_X12_isConnected_L34 N m_d m_n m_q m_r m_t fu v1 v2 v3 = some e → (Go l D r (z_rl xs) zm_X12_isConnected 0 0 (152, [some (.ref m_p), some (.int e.1), some (.int e.2), none, none, none], [], ([sMo m_p m_a m_d m_was m_kept m_read m_text m_typed m_n m_q m_r m_t m_heldQ m_heldR m_heldT m_heldN m_image m_built m_fixed m_isFree m_from m_some m_field m_queue m_near m_open m_closed m_at m_begin m_sort m_lastQ m_lastR m_lastT m_readN] : List ZW).flatten) Q) → Go l D r (z_rl xs) zm_X12_isConnected 0 0 (34, [some (.ref m_p), some (.int v1), some (.int v2), some (.int v3), none, none], [], ([sMo m_p m_a m_d m_was m_kept m_read m_text m_typed m_n m_q m_r m_t m_heldQ m_heldR m_heldT m_heldN m_image m_built m_fixed m_isFree m_from m_some m_field m_queue m_near m_open m_closed m_at m_begin m_sort m_lastQ m_lastR m_lastT m_readN] : List ZW).flatten) Q := by
  intro fu
  induction fu with
  | zero =>
    intro v1 v2 v3 e h
    simp only [f_X12_isConnected_L34, reduceCtorEq] at h
  | succ fu ih =>
    intro v1 v2 v3 e h kk
    rw [f_X12_isConnected_L34] at h
    refine Go.blk zk_X12_isConnected [0, 0, 0] (z' := (39, [some (.ref m_p), some (.int v1), some (.int v2), some (.int v3), none, none], [.int m_n, .int v3], ([sMo m_p m_a m_d m_was m_kept m_read m_text m_typed m_n m_q m_r m_t m_heldQ m_heldR m_heldT m_heldN m_image m_built m_fixed m_isFree m_from m_some m_field m_queue m_near m_open m_closed m_at m_begin m_sort m_lastQ m_lastR m_lastT m_readN] : List ZW).flatten)) rfl ⟨rfl, trivial⟩ ?_
    by_cases hc4 : v3 < m_n
    · rw [if_pos hc4] at h
      refine Go.br zk_X12_isConnected rfl rfl (fun _ => ?_) (fun q => absurd hc4 q)
      refine Go.blk zk_X12_isConnected [0, 0] (z' := (45, [some (.ref m_p), some (.int v1), some (.int v2), some (.int v3), some (.int 0), none], [], ([sMo m_p m_a m_d m_was m_kept m_read m_text m_typed m_n m_q m_r m_t m_heldQ m_heldR m_heldT m_heldN m_image m_built m_fixed m_isFree m_from m_some m_field m_queue m_near m_open m_closed m_at m_begin m_sort m_lastQ m_lastR m_lastT m_readN] : List ZW).flatten)) rfl trivial ?_
      obtain ⟨e19, he19, h⟩ := z_bind h
      refine t_X12_isConnected_L45 N _ _ _ _ he19 ?_
      refine Go.blk zk_X12_isConnected [0, 0] (z' := (34, [some (.ref m_p), some (.int e19.1), some (.int e19.2), some (.int (v3 + 1)), none, none], [], ([sMo m_p m_a m_d m_was m_kept m_read m_text m_typed m_n m_q m_r m_t m_heldQ m_heldR m_heldT m_heldN m_image m_built m_fixed m_isFree m_from m_some m_field m_queue m_near m_open m_closed m_at m_begin m_sort m_lastQ m_lastR m_lastT m_readN] : List ZW).flatten)) rfl trivial ?_
      exact ih _ _ _ _ h kk
    · rw [if_neg hc4] at h
      refine Go.br zk_X12_isConnected rfl rfl (fun q => absurd q hc4) (fun _ => ?_)
      obtain rfl := Option.some.inj h
      refine Go.weak (L := [some (.ref m_p), some (.int v1), some (.int v2), some (.int v3), none, none]) (L' := [some (.ref m_p), some (.int v1), some (.int v2), none, none, none]) (And.intro rfl (And.intro rfl (And.intro rfl (trivial)))) ?_
      exact kk
set_option maxHeartbeats 4000000 in
set_option maxRecDepth 100000 in
theorem t_X12_isConnected_L26 {N : Nat} {m_p : Nat} {m_a : Nat → Nat} {m_d : List Int32} {m_was : List Int32} {m_kept : Int32} {m_read : List Int32} {m_text : List Int32} {m_typed : Int32} {m_n : Int32} {m_q : List Int32} {m_r : List Int32} {m_t : List Int32} {m_heldQ : List Int32} {m_heldR : List Int32} {m_heldT : List Int32} {m_heldN : Int32} {m_image : List Int32} {m_built : Int32} {m_fixed : List Int64} {m_isFree : List Int32} {m_from : List Int32} {m_some : List Int64} {m_field : List Int32} {m_queue : List Int32} {m_near : List Int32} {m_open : List Int32} {m_closed : List Int32} {m_at : Int32} {m_begin : Int32} {m_sort : Int32} {m_lastQ : Int32} {m_lastR : Int32} {m_lastT : Int32} {m_readN : Int32}  {Q : Option Value → ZW → Prop} : ∀ (fu : Nat) (v1 : Int32) (v2 : Int32) (e : Int32), f_X12_isConnected_L26 N m_d m_n m_q m_r m_t fu v1 v2 = some e → (Go l D r (z_rl xs) zm_X12_isConnected 0 0 (155, [some (.ref m_p), some (.int e), none, none, none, none], [], ([sMo m_p m_a m_d m_was m_kept m_read m_text m_typed m_n m_q m_r m_t m_heldQ m_heldR m_heldT m_heldN m_image m_built m_fixed m_isFree m_from m_some m_field m_queue m_near m_open m_closed m_at m_begin m_sort m_lastQ m_lastR m_lastT m_readN] : List ZW).flatten) Q) → Go l D r (z_rl xs) zm_X12_isConnected 0 0 (26, [some (.ref m_p), some (.int v1), some (.int v2), none, none, none], [], ([sMo m_p m_a m_d m_was m_kept m_read m_text m_typed m_n m_q m_r m_t m_heldQ m_heldR m_heldT m_heldN m_image m_built m_fixed m_isFree m_from m_some m_field m_queue m_near m_open m_closed m_at m_begin m_sort m_lastQ m_lastR m_lastT m_readN] : List ZW).flatten) Q := by
  intro fu
  induction fu with
  | zero =>
    intro v1 v2 e h
    simp only [f_X12_isConnected_L26, reduceCtorEq] at h
  | succ fu ih =>
    intro v1 v2 e h kk
    rw [f_X12_isConnected_L26] at h
    refine Go.blk zk_X12_isConnected [0] (z' := (27, [some (.ref m_p), some (.int v1), some (.int v2), none, none, none], [.int v2], ([sMo m_p m_a m_d m_was m_kept m_read m_text m_typed m_n m_q m_r m_t m_heldQ m_heldR m_heldT m_heldN m_image m_built m_fixed m_isFree m_from m_some m_field m_queue m_near m_open m_closed m_at m_begin m_sort m_lastQ m_lastR m_lastT m_readN] : List ZW).flatten)) rfl trivial ?_
    by_cases hc3 : v2 = 0
    · rw [if_pos hc3] at h
      refine Go.br zk_X12_isConnected rfl rfl (fun _ => ?_) (fun q => absurd hc3 q)
      obtain rfl := Option.some.inj h
      refine Go.weak (L := [some (.ref m_p), some (.int v1), some (.int v2), none, none, none]) (L' := [some (.ref m_p), some (.int v1), none, none, none, none]) (And.intro rfl (And.intro rfl (trivial))) ?_
      exact kk
    · rw [if_neg hc3] at h
      refine Go.br zk_X12_isConnected rfl rfl (fun q => absurd q hc3) (fun _ => ?_)
      refine Go.blk zk_X12_isConnected [0, 0, 0, 0] (z' := (34, [some (.ref m_p), some (.int v1), some (.int 0), some (.int 0), none, none], [], ([sMo m_p m_a m_d m_was m_kept m_read m_text m_typed m_n m_q m_r m_t m_heldQ m_heldR m_heldT m_heldN m_image m_built m_fixed m_isFree m_from m_some m_field m_queue m_near m_open m_closed m_at m_begin m_sort m_lastQ m_lastR m_lastT m_readN] : List ZW).flatten)) rfl trivial ?_
      obtain ⟨e20, he20, h⟩ := z_bind h
      refine t_X12_isConnected_L34 N _ _ _ _ he20 ?_
      refine Go.blk zk_X12_isConnected [0] (z' := (26, [some (.ref m_p), some (.int e20.1), some (.int e20.2), none, none, none], [], ([sMo m_p m_a m_d m_was m_kept m_read m_text m_typed m_n m_q m_r m_t m_heldQ m_heldR m_heldT m_heldN m_image m_built m_fixed m_isFree m_from m_some m_field m_queue m_near m_open m_closed m_at m_begin m_sort m_lastQ m_lastR m_lastT m_readN] : List ZW).flatten)) rfl trivial ?_
      exact ih _ _ _ h kk
set_option maxHeartbeats 4000000 in
set_option maxRecDepth 100000 in
theorem t_X12_isConnected {N : Nat} {m_p : Nat} {m_a : Nat → Nat} {m_d : List Int32} {m_was : List Int32} {m_kept : Int32} {m_read : List Int32} {m_text : List Int32} {m_typed : Int32} {m_n : Int32} {m_q : List Int32} {m_r : List Int32} {m_t : List Int32} {m_heldQ : List Int32} {m_heldR : List Int32} {m_heldT : List Int32} {m_heldN : Int32} {m_image : List Int32} {m_built : Int32} {m_fixed : List Int64} {m_isFree : List Int32} {m_from : List Int32} {m_some : List Int64} {m_field : List Int32} {m_queue : List Int32} {m_near : List Int32} {m_open : List Int32} {m_closed : List Int32} {m_at : Int32} {m_begin : Int32} {m_sort : Int32} {m_lastQ : Int32} {m_lastR : Int32} {m_lastT : Int32} {m_readN : Int32} {u : Int32}  (h : f_X12_isConnected N m_d m_n m_q m_r m_t = some u) : Ct l D r (z_rl xs) zm_X12_isConnected 0 0 [.ref m_p] ([sMo m_p m_a m_d m_was m_kept m_read m_text m_typed m_n m_q m_r m_t m_heldQ m_heldR m_heldT m_heldN m_image m_built m_fixed m_isFree m_from m_some m_field m_queue m_near m_open m_closed m_at m_begin m_sort m_lastQ m_lastR m_lastT m_readN] : List ZW).flatten (fun v' w' => v' = some (.int u) ∧ w' = ([sMo m_p m_a m_d m_was m_kept m_read m_text m_typed m_n m_q m_r m_t m_heldQ m_heldR m_heldT m_heldN m_image m_built m_fixed m_isFree m_from m_some m_field m_queue m_near m_open m_closed m_at m_begin m_sort m_lastQ m_lastR m_lastT m_readN] : List ZW).flatten) := by
  refine Ct.of (by decide +kernel) rfl (fun q => absurd q (by decide)) (Nat.le_of_ble_eq_true rfl) ?_
  refine Go.eqz (z2 := (0, [some (.ref m_p), none, none, none, none, none], [], ([sMo m_p m_a m_d m_was m_kept m_read m_text m_typed m_n m_q m_r m_t m_heldQ m_heldR m_heldT m_heldN m_image m_built m_fixed m_isFree m_from m_some m_field m_queue m_near m_open m_closed m_at m_begin m_sort m_lastQ m_lastR m_lastT m_readN] : List ZW).flatten)) rfl ?_
  unfold f_X12_isConnected at h
  refine Go.blk zk_X12_isConnected [0, 0] (z' := (4, [some (.ref m_p), none, none, none, none, none], [.int m_n], ([sMo m_p m_a m_d m_was m_kept m_read m_text m_typed m_n m_q m_r m_t m_heldQ m_heldR m_heldT m_heldN m_image m_built m_fixed m_isFree m_from m_some m_field m_queue m_near m_open m_closed m_at m_begin m_sort m_lastQ m_lastR m_lastT m_readN] : List ZW).flatten)) rfl ⟨rfl, trivial⟩ ?_
  by_cases hc1 : 0 < m_n
  · rw [if_pos hc1] at h
    refine Go.br zk_X12_isConnected rfl rfl (fun _ => ?_) (fun q => absurd hc1 q)
    refine Go.blk zk_X12_isConnected [0, 0, 0, 0, 0] (z' := (17, [some (.ref m_p), some (.int 1), none, none, none, none], [.int m_n], ([sMo m_p m_a m_d m_was m_kept m_read m_text m_typed m_n m_q m_r m_t m_heldQ m_heldR m_heldT m_heldN m_image m_built m_fixed m_isFree m_from m_some m_field m_queue m_near m_open m_closed m_at m_begin m_sort m_lastQ m_lastR m_lastT m_readN] : List ZW).flatten)) rfl ⟨rfl, trivial⟩ ?_
    by_cases hc2 : 0 < m_n
    · rw [if_pos hc2] at h
      refine Go.br zk_X12_isConnected rfl rfl (fun _ => ?_) (fun q => absurd hc2 q)
      refine Go.blk zk_X12_isConnected [0, 0, 0] (z' := (26, [some (.ref m_p), some (.int 1), some (.int 1), none, none, none], [], ([sMo m_p m_a m_d m_was m_kept m_read m_text m_typed m_n m_q m_r m_t m_heldQ m_heldR m_heldT m_heldN m_image m_built m_fixed m_isFree m_from m_some m_field m_queue m_near m_open m_closed m_at m_begin m_sort m_lastQ m_lastR m_lastT m_readN] : List ZW).flatten)) rfl trivial ?_
      obtain ⟨e21, he21, h⟩ := z_bind h
      refine t_X12_isConnected_L26 N _ _ _ he21 ?_
      refine Go.blk zk_X12_isConnected [0, 0] (z' := (159, [some (.ref m_p), some (.int e21), none, none, none, none], [.int m_n], ([sMo m_p m_a m_d m_was m_kept m_read m_text m_typed m_n m_q m_r m_t m_heldQ m_heldR m_heldT m_heldN m_image m_built m_fixed m_isFree m_from m_some m_field m_queue m_near m_open m_closed m_at m_begin m_sort m_lastQ m_lastR m_lastT m_readN] : List ZW).flatten)) rfl ⟨rfl, trivial⟩ ?_
      by_cases hc22 : 0 < m_n
      · rw [if_pos hc22] at h
        refine Go.br zk_X12_isConnected rfl rfl (fun _ => ?_) (fun q => absurd hc22 q)
        refine Go.blk zk_X12_isConnected [0, 0, 0, 0, 0, 0, 0] (z' := (171, [some (.ref m_p), some (.int e21), none, none, none, none], [.int ((1 <<< (m_n &&& 31)) - 1), .int e21], ([sMo m_p m_a m_d m_was m_kept m_read m_text m_typed m_n m_q m_r m_t m_heldQ m_heldR m_heldT m_heldN m_image m_built m_fixed m_isFree m_from m_some m_field m_queue m_near m_open m_closed m_at m_begin m_sort m_lastQ m_lastR m_lastT m_readN] : List ZW).flatten)) rfl ⟨rfl, trivial⟩ ?_
        by_cases hc23 : e21 = ((1 <<< (m_n &&& 31)) - 1)
        · rw [if_pos hc23] at h
          refine Go.br zk_X12_isConnected rfl rfl (fun _ => ?_) (fun q => absurd hc23 q)
          refine Go.blk zk_X12_isConnected [0, 0] (z' := (179, [some (.ref m_p), some (.int e21), none, none, none, none], [.int 1], ([sMo m_p m_a m_d m_was m_kept m_read m_text m_typed m_n m_q m_r m_t m_heldQ m_heldR m_heldT m_heldN m_image m_built m_fixed m_isFree m_from m_some m_field m_queue m_near m_open m_closed m_at m_begin m_sort m_lastQ m_lastR m_lastT m_readN] : List ZW).flatten)) rfl trivial ?_
          obtain rfl := Option.some.inj h
          exact Go.iret zk_X12_isConnected rfl rfl rfl ⟨rfl, rfl⟩
        · rw [if_neg hc23] at h
          refine Go.br zk_X12_isConnected rfl rfl (fun q => absurd q hc23) (fun _ => ?_)
          refine Go.blk zk_X12_isConnected [0] (z' := (179, [some (.ref m_p), some (.int e21), none, none, none, none], [.int 0], ([sMo m_p m_a m_d m_was m_kept m_read m_text m_typed m_n m_q m_r m_t m_heldQ m_heldR m_heldT m_heldN m_image m_built m_fixed m_isFree m_from m_some m_field m_queue m_near m_open m_closed m_at m_begin m_sort m_lastQ m_lastR m_lastT m_readN] : List ZW).flatten)) rfl trivial ?_
          obtain rfl := Option.some.inj h
          exact Go.iret zk_X12_isConnected rfl rfl rfl ⟨rfl, rfl⟩
      · rw [if_neg hc22] at h
        refine Go.br zk_X12_isConnected rfl rfl (fun q => absurd q hc22) (fun _ => ?_)
        refine Go.blk zk_X12_isConnected [0] (z' := (179, [some (.ref m_p), some (.int e21), none, none, none, none], [.int 0], ([sMo m_p m_a m_d m_was m_kept m_read m_text m_typed m_n m_q m_r m_t m_heldQ m_heldR m_heldT m_heldN m_image m_built m_fixed m_isFree m_from m_some m_field m_queue m_near m_open m_closed m_at m_begin m_sort m_lastQ m_lastR m_lastT m_readN] : List ZW).flatten)) rfl trivial ?_
        obtain rfl := Option.some.inj h
        exact Go.iret zk_X12_isConnected rfl rfl rfl ⟨rfl, rfl⟩
    · rw [if_neg hc2] at h
      refine Go.br zk_X12_isConnected rfl rfl (fun q => absurd q hc2) (fun _ => ?_)
      refine Go.blk zk_X12_isConnected [0, 0] (z' := (26, [some (.ref m_p), some (.int 1), some (.int 0), none, none, none], [], ([sMo m_p m_a m_d m_was m_kept m_read m_text m_typed m_n m_q m_r m_t m_heldQ m_heldR m_heldT m_heldN m_image m_built m_fixed m_isFree m_from m_some m_field m_queue m_near m_open m_closed m_at m_begin m_sort m_lastQ m_lastR m_lastT m_readN] : List ZW).flatten)) rfl trivial ?_
      obtain ⟨e24, he24, h⟩ := z_bind h
      refine t_X12_isConnected_L26 N _ _ _ he24 ?_
      refine Go.blk zk_X12_isConnected [0, 0] (z' := (159, [some (.ref m_p), some (.int e24), none, none, none, none], [.int m_n], ([sMo m_p m_a m_d m_was m_kept m_read m_text m_typed m_n m_q m_r m_t m_heldQ m_heldR m_heldT m_heldN m_image m_built m_fixed m_isFree m_from m_some m_field m_queue m_near m_open m_closed m_at m_begin m_sort m_lastQ m_lastR m_lastT m_readN] : List ZW).flatten)) rfl ⟨rfl, trivial⟩ ?_
      by_cases hc25 : 0 < m_n
      · rw [if_pos hc25] at h
        refine Go.br zk_X12_isConnected rfl rfl (fun _ => ?_) (fun q => absurd hc25 q)
        refine Go.blk zk_X12_isConnected [0, 0, 0, 0, 0, 0, 0] (z' := (171, [some (.ref m_p), some (.int e24), none, none, none, none], [.int ((1 <<< (m_n &&& 31)) - 1), .int e24], ([sMo m_p m_a m_d m_was m_kept m_read m_text m_typed m_n m_q m_r m_t m_heldQ m_heldR m_heldT m_heldN m_image m_built m_fixed m_isFree m_from m_some m_field m_queue m_near m_open m_closed m_at m_begin m_sort m_lastQ m_lastR m_lastT m_readN] : List ZW).flatten)) rfl ⟨rfl, trivial⟩ ?_
        by_cases hc26 : e24 = ((1 <<< (m_n &&& 31)) - 1)
        · rw [if_pos hc26] at h
          refine Go.br zk_X12_isConnected rfl rfl (fun _ => ?_) (fun q => absurd hc26 q)
          refine Go.blk zk_X12_isConnected [0, 0] (z' := (179, [some (.ref m_p), some (.int e24), none, none, none, none], [.int 1], ([sMo m_p m_a m_d m_was m_kept m_read m_text m_typed m_n m_q m_r m_t m_heldQ m_heldR m_heldT m_heldN m_image m_built m_fixed m_isFree m_from m_some m_field m_queue m_near m_open m_closed m_at m_begin m_sort m_lastQ m_lastR m_lastT m_readN] : List ZW).flatten)) rfl trivial ?_
          obtain rfl := Option.some.inj h
          exact Go.iret zk_X12_isConnected rfl rfl rfl ⟨rfl, rfl⟩
        · rw [if_neg hc26] at h
          refine Go.br zk_X12_isConnected rfl rfl (fun q => absurd q hc26) (fun _ => ?_)
          refine Go.blk zk_X12_isConnected [0] (z' := (179, [some (.ref m_p), some (.int e24), none, none, none, none], [.int 0], ([sMo m_p m_a m_d m_was m_kept m_read m_text m_typed m_n m_q m_r m_t m_heldQ m_heldR m_heldT m_heldN m_image m_built m_fixed m_isFree m_from m_some m_field m_queue m_near m_open m_closed m_at m_begin m_sort m_lastQ m_lastR m_lastT m_readN] : List ZW).flatten)) rfl trivial ?_
          obtain rfl := Option.some.inj h
          exact Go.iret zk_X12_isConnected rfl rfl rfl ⟨rfl, rfl⟩
      · rw [if_neg hc25] at h
        refine Go.br zk_X12_isConnected rfl rfl (fun q => absurd q hc25) (fun _ => ?_)
        refine Go.blk zk_X12_isConnected [0] (z' := (179, [some (.ref m_p), some (.int e24), none, none, none, none], [.int 0], ([sMo m_p m_a m_d m_was m_kept m_read m_text m_typed m_n m_q m_r m_t m_heldQ m_heldR m_heldT m_heldN m_image m_built m_fixed m_isFree m_from m_some m_field m_queue m_near m_open m_closed m_at m_begin m_sort m_lastQ m_lastR m_lastT m_readN] : List ZW).flatten)) rfl trivial ?_
        obtain rfl := Option.some.inj h
        exact Go.iret zk_X12_isConnected rfl rfl rfl ⟨rfl, rfl⟩
  · rw [if_neg hc1] at h
    refine Go.br zk_X12_isConnected rfl rfl (fun q => absurd q hc1) (fun _ => ?_)
    refine Go.blk zk_X12_isConnected [0, 0, 0, 0] (z' := (17, [some (.ref m_p), some (.int 0), none, none, none, none], [.int m_n], ([sMo m_p m_a m_d m_was m_kept m_read m_text m_typed m_n m_q m_r m_t m_heldQ m_heldR m_heldT m_heldN m_image m_built m_fixed m_isFree m_from m_some m_field m_queue m_near m_open m_closed m_at m_begin m_sort m_lastQ m_lastR m_lastT m_readN] : List ZW).flatten)) rfl ⟨rfl, trivial⟩ ?_
    by_cases hc27 : 0 < m_n
    · rw [if_pos hc27] at h
      refine Go.br zk_X12_isConnected rfl rfl (fun _ => ?_) (fun q => absurd hc27 q)
      refine Go.blk zk_X12_isConnected [0, 0, 0] (z' := (26, [some (.ref m_p), some (.int 0), some (.int 1), none, none, none], [], ([sMo m_p m_a m_d m_was m_kept m_read m_text m_typed m_n m_q m_r m_t m_heldQ m_heldR m_heldT m_heldN m_image m_built m_fixed m_isFree m_from m_some m_field m_queue m_near m_open m_closed m_at m_begin m_sort m_lastQ m_lastR m_lastT m_readN] : List ZW).flatten)) rfl trivial ?_
      obtain ⟨e28, he28, h⟩ := z_bind h
      refine t_X12_isConnected_L26 N _ _ _ he28 ?_
      refine Go.blk zk_X12_isConnected [0, 0] (z' := (159, [some (.ref m_p), some (.int e28), none, none, none, none], [.int m_n], ([sMo m_p m_a m_d m_was m_kept m_read m_text m_typed m_n m_q m_r m_t m_heldQ m_heldR m_heldT m_heldN m_image m_built m_fixed m_isFree m_from m_some m_field m_queue m_near m_open m_closed m_at m_begin m_sort m_lastQ m_lastR m_lastT m_readN] : List ZW).flatten)) rfl ⟨rfl, trivial⟩ ?_
      by_cases hc29 : 0 < m_n
      · rw [if_pos hc29] at h
        refine Go.br zk_X12_isConnected rfl rfl (fun _ => ?_) (fun q => absurd hc29 q)
        refine Go.blk zk_X12_isConnected [0, 0, 0, 0, 0, 0, 0] (z' := (171, [some (.ref m_p), some (.int e28), none, none, none, none], [.int ((1 <<< (m_n &&& 31)) - 1), .int e28], ([sMo m_p m_a m_d m_was m_kept m_read m_text m_typed m_n m_q m_r m_t m_heldQ m_heldR m_heldT m_heldN m_image m_built m_fixed m_isFree m_from m_some m_field m_queue m_near m_open m_closed m_at m_begin m_sort m_lastQ m_lastR m_lastT m_readN] : List ZW).flatten)) rfl ⟨rfl, trivial⟩ ?_
        by_cases hc30 : e28 = ((1 <<< (m_n &&& 31)) - 1)
        · rw [if_pos hc30] at h
          refine Go.br zk_X12_isConnected rfl rfl (fun _ => ?_) (fun q => absurd hc30 q)
          refine Go.blk zk_X12_isConnected [0, 0] (z' := (179, [some (.ref m_p), some (.int e28), none, none, none, none], [.int 1], ([sMo m_p m_a m_d m_was m_kept m_read m_text m_typed m_n m_q m_r m_t m_heldQ m_heldR m_heldT m_heldN m_image m_built m_fixed m_isFree m_from m_some m_field m_queue m_near m_open m_closed m_at m_begin m_sort m_lastQ m_lastR m_lastT m_readN] : List ZW).flatten)) rfl trivial ?_
          obtain rfl := Option.some.inj h
          exact Go.iret zk_X12_isConnected rfl rfl rfl ⟨rfl, rfl⟩
        · rw [if_neg hc30] at h
          refine Go.br zk_X12_isConnected rfl rfl (fun q => absurd q hc30) (fun _ => ?_)
          refine Go.blk zk_X12_isConnected [0] (z' := (179, [some (.ref m_p), some (.int e28), none, none, none, none], [.int 0], ([sMo m_p m_a m_d m_was m_kept m_read m_text m_typed m_n m_q m_r m_t m_heldQ m_heldR m_heldT m_heldN m_image m_built m_fixed m_isFree m_from m_some m_field m_queue m_near m_open m_closed m_at m_begin m_sort m_lastQ m_lastR m_lastT m_readN] : List ZW).flatten)) rfl trivial ?_
          obtain rfl := Option.some.inj h
          exact Go.iret zk_X12_isConnected rfl rfl rfl ⟨rfl, rfl⟩
      · rw [if_neg hc29] at h
        refine Go.br zk_X12_isConnected rfl rfl (fun q => absurd q hc29) (fun _ => ?_)
        refine Go.blk zk_X12_isConnected [0] (z' := (179, [some (.ref m_p), some (.int e28), none, none, none, none], [.int 0], ([sMo m_p m_a m_d m_was m_kept m_read m_text m_typed m_n m_q m_r m_t m_heldQ m_heldR m_heldT m_heldN m_image m_built m_fixed m_isFree m_from m_some m_field m_queue m_near m_open m_closed m_at m_begin m_sort m_lastQ m_lastR m_lastT m_readN] : List ZW).flatten)) rfl trivial ?_
        obtain rfl := Option.some.inj h
        exact Go.iret zk_X12_isConnected rfl rfl rfl ⟨rfl, rfl⟩
    · rw [if_neg hc27] at h
      refine Go.br zk_X12_isConnected rfl rfl (fun q => absurd q hc27) (fun _ => ?_)
      refine Go.blk zk_X12_isConnected [0, 0] (z' := (26, [some (.ref m_p), some (.int 0), some (.int 0), none, none, none], [], ([sMo m_p m_a m_d m_was m_kept m_read m_text m_typed m_n m_q m_r m_t m_heldQ m_heldR m_heldT m_heldN m_image m_built m_fixed m_isFree m_from m_some m_field m_queue m_near m_open m_closed m_at m_begin m_sort m_lastQ m_lastR m_lastT m_readN] : List ZW).flatten)) rfl trivial ?_
      obtain ⟨e31, he31, h⟩ := z_bind h
      refine t_X12_isConnected_L26 N _ _ _ he31 ?_
      refine Go.blk zk_X12_isConnected [0, 0] (z' := (159, [some (.ref m_p), some (.int e31), none, none, none, none], [.int m_n], ([sMo m_p m_a m_d m_was m_kept m_read m_text m_typed m_n m_q m_r m_t m_heldQ m_heldR m_heldT m_heldN m_image m_built m_fixed m_isFree m_from m_some m_field m_queue m_near m_open m_closed m_at m_begin m_sort m_lastQ m_lastR m_lastT m_readN] : List ZW).flatten)) rfl ⟨rfl, trivial⟩ ?_
      by_cases hc32 : 0 < m_n
      · rw [if_pos hc32] at h
        refine Go.br zk_X12_isConnected rfl rfl (fun _ => ?_) (fun q => absurd hc32 q)
        refine Go.blk zk_X12_isConnected [0, 0, 0, 0, 0, 0, 0] (z' := (171, [some (.ref m_p), some (.int e31), none, none, none, none], [.int ((1 <<< (m_n &&& 31)) - 1), .int e31], ([sMo m_p m_a m_d m_was m_kept m_read m_text m_typed m_n m_q m_r m_t m_heldQ m_heldR m_heldT m_heldN m_image m_built m_fixed m_isFree m_from m_some m_field m_queue m_near m_open m_closed m_at m_begin m_sort m_lastQ m_lastR m_lastT m_readN] : List ZW).flatten)) rfl ⟨rfl, trivial⟩ ?_
        by_cases hc33 : e31 = ((1 <<< (m_n &&& 31)) - 1)
        · rw [if_pos hc33] at h
          refine Go.br zk_X12_isConnected rfl rfl (fun _ => ?_) (fun q => absurd hc33 q)
          refine Go.blk zk_X12_isConnected [0, 0] (z' := (179, [some (.ref m_p), some (.int e31), none, none, none, none], [.int 1], ([sMo m_p m_a m_d m_was m_kept m_read m_text m_typed m_n m_q m_r m_t m_heldQ m_heldR m_heldT m_heldN m_image m_built m_fixed m_isFree m_from m_some m_field m_queue m_near m_open m_closed m_at m_begin m_sort m_lastQ m_lastR m_lastT m_readN] : List ZW).flatten)) rfl trivial ?_
          obtain rfl := Option.some.inj h
          exact Go.iret zk_X12_isConnected rfl rfl rfl ⟨rfl, rfl⟩
        · rw [if_neg hc33] at h
          refine Go.br zk_X12_isConnected rfl rfl (fun q => absurd q hc33) (fun _ => ?_)
          refine Go.blk zk_X12_isConnected [0] (z' := (179, [some (.ref m_p), some (.int e31), none, none, none, none], [.int 0], ([sMo m_p m_a m_d m_was m_kept m_read m_text m_typed m_n m_q m_r m_t m_heldQ m_heldR m_heldT m_heldN m_image m_built m_fixed m_isFree m_from m_some m_field m_queue m_near m_open m_closed m_at m_begin m_sort m_lastQ m_lastR m_lastT m_readN] : List ZW).flatten)) rfl trivial ?_
          obtain rfl := Option.some.inj h
          exact Go.iret zk_X12_isConnected rfl rfl rfl ⟨rfl, rfl⟩
      · rw [if_neg hc32] at h
        refine Go.br zk_X12_isConnected rfl rfl (fun q => absurd q hc32) (fun _ => ?_)
        refine Go.blk zk_X12_isConnected [0] (z' := (179, [some (.ref m_p), some (.int e31), none, none, none, none], [.int 0], ([sMo m_p m_a m_d m_was m_kept m_read m_text m_typed m_n m_q m_r m_t m_heldQ m_heldR m_heldT m_heldN m_image m_built m_fixed m_isFree m_from m_some m_field m_queue m_near m_open m_closed m_at m_begin m_sort m_lastQ m_lastR m_lastT m_readN] : List ZW).flatten)) rfl trivial ?_
        obtain rfl := Option.some.inj h
        exact Go.iret zk_X12_isConnected rfl rfl rfl ⟨rfl, rfl⟩
set_option maxHeartbeats 4000000 in
set_option maxRecDepth 100000 in
theorem t_X12_turns_L2 {N : Nat} {m_p : Nat} {m_a : Nat → Nat} {m_d : List Int32} {m_was : List Int32} {m_kept : Int32} {m_read : List Int32} {m_text : List Int32} {m_typed : Int32} {m_n : Int32} {m_heldQ : List Int32} {m_heldR : List Int32} {m_heldT : List Int32} {m_heldN : Int32} {m_image : List Int32} {m_built : Int32} {m_fixed : List Int64} {m_isFree : List Int32} {m_from : List Int32} {m_some : List Int64} {m_field : List Int32} {m_queue : List Int32} {m_near : List Int32} {m_open : List Int32} {m_closed : List Int32} {m_at : Int32} {m_begin : Int32} {m_sort : Int32} {m_lastQ : Int32} {m_lastR : Int32} {m_lastT : Int32} {m_readN : Int32}  {Q : Option Value → ZW → Prop} : ∀ (fu : Nat) (v1 : Int32) (m_q : List Int32) (m_r : List Int32) (m_t : List Int32) (e : (List Int32) × (List Int32) × (List Int32)), f_X12_turns_L2 N m_d m_n fu v1 m_q m_r m_t = some e → (Go l D r (z_rl xs) zm_X12_turns 0 0 (113, [none, none, none, none], [], ([sMo m_p m_a m_d m_was m_kept m_read m_text m_typed m_n e.1 e.2.1 e.2.2 m_heldQ m_heldR m_heldT m_heldN m_image m_built m_fixed m_isFree m_from m_some m_field m_queue m_near m_open m_closed m_at m_begin m_sort m_lastQ m_lastR m_lastT m_readN] : List ZW).flatten) Q) → Go l D r (z_rl xs) zm_X12_turns 0 0 (2, [some (.ref m_p), some (.int v1), none, none], [], ([sMo m_p m_a m_d m_was m_kept m_read m_text m_typed m_n m_q m_r m_t m_heldQ m_heldR m_heldT m_heldN m_image m_built m_fixed m_isFree m_from m_some m_field m_queue m_near m_open m_closed m_at m_begin m_sort m_lastQ m_lastR m_lastT m_readN] : List ZW).flatten) Q := by
  intro fu
  induction fu with
  | zero =>
    intro v1 m_q m_r m_t e h
    simp only [f_X12_turns_L2, reduceCtorEq] at h
  | succ fu ih =>
    intro v1 m_q m_r m_t e h kk
    rw [f_X12_turns_L2] at h
    refine Go.blk zk_X12_turns [0, 0, 0] (z' := (7, [some (.ref m_p), some (.int v1), none, none], [.int m_n, .int v1], ([sMo m_p m_a m_d m_was m_kept m_read m_text m_typed m_n m_q m_r m_t m_heldQ m_heldR m_heldT m_heldN m_image m_built m_fixed m_isFree m_from m_some m_field m_queue m_near m_open m_closed m_at m_begin m_sort m_lastQ m_lastR m_lastT m_readN] : List ZW).flatten)) rfl ⟨rfl, trivial⟩ ?_
    by_cases hc1 : v1 < m_n
    · rw [if_pos hc1] at h
      refine Go.br zk_X12_turns rfl rfl (fun _ => ?_) (fun q => absurd hc1 q)
      refine Go.blk zk_X12_turns [0, 0, 0] (z' := (15, [some (.ref m_p), some (.int v1), none, none], [.int v1, .ref (m_a 4)], ([sMo m_p m_a m_d m_was m_kept m_read m_text m_typed m_n m_q m_r m_t m_heldQ m_heldR m_heldT m_heldN m_image m_built m_fixed m_isFree m_from m_some m_field m_queue m_near m_open m_closed m_at m_begin m_sort m_lastQ m_lastR m_lastT m_readN] : List ZW).flatten)) rfl ⟨rfl, trivial⟩ ?_
      obtain ⟨x2, hx2, h⟩ := z_bind h
      refine Go.iald zk_X12_turns 5 rfl rfl rfl hx2 ?_
      refine Go.blk zk_X12_turns [0, 0, 0, 0] (z' := (22, [some (.ref m_p), some (.int v1), some (.int x2), none], [.int v1, .ref (m_a 5)], ([sMo m_p m_a m_d m_was m_kept m_read m_text m_typed m_n m_q m_r m_t m_heldQ m_heldR m_heldT m_heldN m_image m_built m_fixed m_isFree m_from m_some m_field m_queue m_near m_open m_closed m_at m_begin m_sort m_lastQ m_lastR m_lastT m_readN] : List ZW).flatten)) rfl ⟨rfl, trivial⟩ ?_
      obtain ⟨x3, hx3, h⟩ := z_bind h
      refine Go.iald zk_X12_turns 6 rfl rfl rfl hx3 ?_
      refine Go.blk zk_X12_turns [0, 0, 0, 0] (z' := (29, [some (.ref m_p), some (.int v1), some (.int x2), some (.int x3)], [.int 0, .ref (m_a 0)], ([sMo m_p m_a m_d m_was m_kept m_read m_text m_typed m_n m_q m_r m_t m_heldQ m_heldR m_heldT m_heldN m_image m_built m_fixed m_isFree m_from m_some m_field m_queue m_near m_open m_closed m_at m_begin m_sort m_lastQ m_lastR m_lastT m_readN] : List ZW).flatten)) rfl ⟨rfl, trivial⟩ ?_
      obtain ⟨x4, hx4, h⟩ := z_bind h
      refine Go.iald zk_X12_turns 1 rfl rfl rfl hx4 ?_
      refine Go.blk zk_X12_turns [0] (z' := (31, [some (.ref m_p), some (.int v1), some (.int x2), some (.int x3)], [.int 1, .int x4], ([sMo m_p m_a m_d m_was m_kept m_read m_text m_typed m_n m_q m_r m_t m_heldQ m_heldR m_heldT m_heldN m_image m_built m_fixed m_isFree m_from m_some m_field m_queue m_near m_open m_closed m_at m_begin m_sort m_lastQ m_lastR m_lastT m_readN] : List ZW).flatten)) rfl trivial ?_
      by_cases hc5 : x4 = 1
      · rw [if_pos hc5] at h
        refine Go.br zk_X12_turns rfl rfl (fun _ => ?_) (fun q => absurd hc5 q)
        refine Go.blk zk_X12_turns [0, 0, 0, 0, 0, 0, 0] (z' := (43, [some (.ref m_p), some (.int v1), some (.int x2), some (.int x3)], [.int ((-x3) - 1), .int v1, .ref (m_a 4)], ([sMo m_p m_a m_d m_was m_kept m_read m_text m_typed m_n m_q m_r m_t m_heldQ m_heldR m_heldT m_heldN m_image m_built m_fixed m_isFree m_from m_some m_field m_queue m_near m_open m_closed m_at m_begin m_sort m_lastQ m_lastR m_lastT m_readN] : List ZW).flatten)) rfl ⟨rfl, trivial⟩ ?_
        obtain ⟨t6, ht6, h⟩ := z_bind h
        refine Go.iast zk_X12_turns 5 rfl rfl rfl ht6 ?_
        refine Go.eqz (z2 := (44, [some (.ref m_p), some (.int v1), some (.int x2), some (.int x3)], [], ([sMo m_p m_a m_d m_was m_kept m_read m_text m_typed m_n t6 m_r m_t m_heldQ m_heldR m_heldT m_heldN m_image m_built m_fixed m_isFree m_from m_some m_field m_queue m_near m_open m_closed m_at m_begin m_sort m_lastQ m_lastR m_lastT m_readN] : List ZW).flatten)) rfl ?_
        refine Go.blk zk_X12_turns [0, 0, 0, 0, 0, 0, 0, 0, 0] (z' := (57, [some (.ref m_p), some (.int v1), some (.int x2), some (.int x3)], [.int v1, .ref (m_a 6), .int (x2 + x3), .int v1, .ref (m_a 5)], ([sMo m_p m_a m_d m_was m_kept m_read m_text m_typed m_n t6 m_r m_t m_heldQ m_heldR m_heldT m_heldN m_image m_built m_fixed m_isFree m_from m_some m_field m_queue m_near m_open m_closed m_at m_begin m_sort m_lastQ m_lastR m_lastT m_readN] : List ZW).flatten)) rfl ⟨rfl, rfl, trivial⟩ ?_
        obtain ⟨x7, hx7, h⟩ := z_bind h
        refine Go.iald zk_X12_turns 7 rfl rfl rfl hx7 ?_
        refine Go.blk zk_X12_turns [0] (z' := (59, [some (.ref m_p), some (.int v1), some (.int x2), some (.int x3)], [.int ((x2 + x3) + x7), .int v1, .ref (m_a 5)], ([sMo m_p m_a m_d m_was m_kept m_read m_text m_typed m_n t6 m_r m_t m_heldQ m_heldR m_heldT m_heldN m_image m_built m_fixed m_isFree m_from m_some m_field m_queue m_near m_open m_closed m_at m_begin m_sort m_lastQ m_lastR m_lastT m_readN] : List ZW).flatten)) rfl trivial ?_
        obtain ⟨t8, ht8, h⟩ := z_bind h
        refine Go.iast zk_X12_turns 6 rfl rfl rfl ht8 ?_
        refine Go.eqz (z2 := (60, [some (.ref m_p), some (.int v1), some (.int x2), some (.int x3)], [], ([sMo m_p m_a m_d m_was m_kept m_read m_text m_typed m_n t6 t8 m_t m_heldQ m_heldR m_heldT m_heldN m_image m_built m_fixed m_isFree m_from m_some m_field m_queue m_near m_open m_closed m_at m_begin m_sort m_lastQ m_lastR m_lastT m_readN] : List ZW).flatten)) rfl ?_
        refine Go.blk zk_X12_turns [0, 0, 0, 0, 0, 0, 0] (z' := (71, [some (.ref m_p), some (.int v1), some (.int x2), some (.int x3)], [.int v1, .ref (m_a 6), .int 1, .int v1, .ref (m_a 6)], ([sMo m_p m_a m_d m_was m_kept m_read m_text m_typed m_n t6 t8 m_t m_heldQ m_heldR m_heldT m_heldN m_image m_built m_fixed m_isFree m_from m_some m_field m_queue m_near m_open m_closed m_at m_begin m_sort m_lastQ m_lastR m_lastT m_readN] : List ZW).flatten)) rfl ⟨rfl, rfl, trivial⟩ ?_
        obtain ⟨x9, hx9, h⟩ := z_bind h
        refine Go.iald zk_X12_turns 7 rfl rfl rfl hx9 ?_
        refine Go.blk zk_X12_turns [0] (z' := (73, [some (.ref m_p), some (.int v1), some (.int x2), some (.int x3)], [.int (1 - x9), .int v1, .ref (m_a 6)], ([sMo m_p m_a m_d m_was m_kept m_read m_text m_typed m_n t6 t8 m_t m_heldQ m_heldR m_heldT m_heldN m_image m_built m_fixed m_isFree m_from m_some m_field m_queue m_near m_open m_closed m_at m_begin m_sort m_lastQ m_lastR m_lastT m_readN] : List ZW).flatten)) rfl trivial ?_
        obtain ⟨t10, ht10, h⟩ := z_bind h
        refine Go.iast zk_X12_turns 7 rfl rfl rfl ht10 ?_
        refine Go.eqz (z2 := (74, [some (.ref m_p), some (.int v1), some (.int x2), some (.int x3)], [], ([sMo m_p m_a m_d m_was m_kept m_read m_text m_typed m_n t6 t8 t10 m_heldQ m_heldR m_heldT m_heldN m_image m_built m_fixed m_isFree m_from m_some m_field m_queue m_near m_open m_closed m_at m_begin m_sort m_lastQ m_lastR m_lastT m_readN] : List ZW).flatten)) rfl ?_
        refine Go.blk zk_X12_turns [0, 0, 0] (z' := (2, [some (.ref m_p), some (.int (v1 + 1)), some (.int x2), some (.int x3)], [], ([sMo m_p m_a m_d m_was m_kept m_read m_text m_typed m_n t6 t8 t10 m_heldQ m_heldR m_heldT m_heldN m_image m_built m_fixed m_isFree m_from m_some m_field m_queue m_near m_open m_closed m_at m_begin m_sort m_lastQ m_lastR m_lastT m_readN] : List ZW).flatten)) rfl trivial ?_
        refine Go.weak (L := [some (.ref m_p), some (.int (v1 + 1)), some (.int x2), some (.int x3)]) (L' := [some (.ref m_p), some (.int (v1 + 1)), none, none]) (And.intro rfl (And.intro rfl (trivial))) ?_
        exact ih _ _ _ _ _ h kk
      · rw [if_neg hc5] at h
        refine Go.br zk_X12_turns rfl rfl (fun q => absurd q hc5) (fun _ => ?_)
        refine Go.blk zk_X12_turns [0, 0, 0, 0, 0] (z' := (84, [some (.ref m_p), some (.int v1), some (.int x2), some (.int x3)], [.int (-x3), .int v1, .ref (m_a 4)], ([sMo m_p m_a m_d m_was m_kept m_read m_text m_typed m_n m_q m_r m_t m_heldQ m_heldR m_heldT m_heldN m_image m_built m_fixed m_isFree m_from m_some m_field m_queue m_near m_open m_closed m_at m_begin m_sort m_lastQ m_lastR m_lastT m_readN] : List ZW).flatten)) rfl ⟨rfl, trivial⟩ ?_
        obtain ⟨t11, ht11, h⟩ := z_bind h
        refine Go.iast zk_X12_turns 5 rfl rfl rfl ht11 ?_
        refine Go.eqz (z2 := (85, [some (.ref m_p), some (.int v1), some (.int x2), some (.int x3)], [], ([sMo m_p m_a m_d m_was m_kept m_read m_text m_typed m_n t11 m_r m_t m_heldQ m_heldR m_heldT m_heldN m_image m_built m_fixed m_isFree m_from m_some m_field m_queue m_near m_open m_closed m_at m_begin m_sort m_lastQ m_lastR m_lastT m_readN] : List ZW).flatten)) rfl ?_
        refine Go.blk zk_X12_turns [0, 0, 0, 0, 0, 0] (z' := (95, [some (.ref m_p), some (.int v1), some (.int x2), some (.int x3)], [.int 0, .ref (m_a 0), .int v1, .ref (m_a 5)], ([sMo m_p m_a m_d m_was m_kept m_read m_text m_typed m_n t11 m_r m_t m_heldQ m_heldR m_heldT m_heldN m_image m_built m_fixed m_isFree m_from m_some m_field m_queue m_near m_open m_closed m_at m_begin m_sort m_lastQ m_lastR m_lastT m_readN] : List ZW).flatten)) rfl ⟨rfl, rfl, trivial⟩ ?_
        obtain ⟨x12, hx12, h⟩ := z_bind h
        refine Go.iald zk_X12_turns 1 rfl rfl rfl hx12 ?_
        by_cases hc13 : x12 = 0
        · rw [if_pos hc13] at h
          refine Go.br zk_X12_turns rfl rfl (fun _ => ?_) (fun q => absurd hc13 q)
          refine Go.blk zk_X12_turns [0, 0] (z' := (106, [some (.ref m_p), some (.int v1), some (.int x2), some (.int x3)], [.int x2, .int v1, .ref (m_a 5)], ([sMo m_p m_a m_d m_was m_kept m_read m_text m_typed m_n t11 m_r m_t m_heldQ m_heldR m_heldT m_heldN m_image m_built m_fixed m_isFree m_from m_some m_field m_queue m_near m_open m_closed m_at m_begin m_sort m_lastQ m_lastR m_lastT m_readN] : List ZW).flatten)) rfl trivial ?_
          obtain ⟨t14, ht14, h⟩ := z_bind h
          refine Go.iast zk_X12_turns 6 rfl rfl rfl ht14 ?_
          refine Go.eqz (z2 := (107, [some (.ref m_p), some (.int v1), some (.int x2), some (.int x3)], [], ([sMo m_p m_a m_d m_was m_kept m_read m_text m_typed m_n t11 t14 m_t m_heldQ m_heldR m_heldT m_heldN m_image m_built m_fixed m_isFree m_from m_some m_field m_queue m_near m_open m_closed m_at m_begin m_sort m_lastQ m_lastR m_lastT m_readN] : List ZW).flatten)) rfl ?_
          refine Go.blk zk_X12_turns [0, 0] (z' := (2, [some (.ref m_p), some (.int (v1 + 1)), some (.int x2), some (.int x3)], [], ([sMo m_p m_a m_d m_was m_kept m_read m_text m_typed m_n t11 t14 m_t m_heldQ m_heldR m_heldT m_heldN m_image m_built m_fixed m_isFree m_from m_some m_field m_queue m_near m_open m_closed m_at m_begin m_sort m_lastQ m_lastR m_lastT m_readN] : List ZW).flatten)) rfl trivial ?_
          refine Go.weak (L := [some (.ref m_p), some (.int (v1 + 1)), some (.int x2), some (.int x3)]) (L' := [some (.ref m_p), some (.int (v1 + 1)), none, none]) (And.intro rfl (And.intro rfl (trivial))) ?_
          exact ih _ _ _ _ _ h kk
        · rw [if_neg hc13] at h
          refine Go.br zk_X12_turns rfl rfl (fun q => absurd q hc13) (fun _ => ?_)
          refine Go.blk zk_X12_turns [0, 0, 0] (z' := (106, [some (.ref m_p), some (.int v1), some (.int x2), some (.int x3)], [.int (x2 + x3), .int v1, .ref (m_a 5)], ([sMo m_p m_a m_d m_was m_kept m_read m_text m_typed m_n t11 m_r m_t m_heldQ m_heldR m_heldT m_heldN m_image m_built m_fixed m_isFree m_from m_some m_field m_queue m_near m_open m_closed m_at m_begin m_sort m_lastQ m_lastR m_lastT m_readN] : List ZW).flatten)) rfl trivial ?_
          obtain ⟨t15, ht15, h⟩ := z_bind h
          refine Go.iast zk_X12_turns 6 rfl rfl rfl ht15 ?_
          refine Go.eqz (z2 := (107, [some (.ref m_p), some (.int v1), some (.int x2), some (.int x3)], [], ([sMo m_p m_a m_d m_was m_kept m_read m_text m_typed m_n t11 t15 m_t m_heldQ m_heldR m_heldT m_heldN m_image m_built m_fixed m_isFree m_from m_some m_field m_queue m_near m_open m_closed m_at m_begin m_sort m_lastQ m_lastR m_lastT m_readN] : List ZW).flatten)) rfl ?_
          refine Go.blk zk_X12_turns [0, 0] (z' := (2, [some (.ref m_p), some (.int (v1 + 1)), some (.int x2), some (.int x3)], [], ([sMo m_p m_a m_d m_was m_kept m_read m_text m_typed m_n t11 t15 m_t m_heldQ m_heldR m_heldT m_heldN m_image m_built m_fixed m_isFree m_from m_some m_field m_queue m_near m_open m_closed m_at m_begin m_sort m_lastQ m_lastR m_lastT m_readN] : List ZW).flatten)) rfl trivial ?_
          refine Go.weak (L := [some (.ref m_p), some (.int (v1 + 1)), some (.int x2), some (.int x3)]) (L' := [some (.ref m_p), some (.int (v1 + 1)), none, none]) (And.intro rfl (And.intro rfl (trivial))) ?_
          exact ih _ _ _ _ _ h kk
    · rw [if_neg hc1] at h
      refine Go.br zk_X12_turns rfl rfl (fun q => absurd q hc1) (fun _ => ?_)
      obtain rfl := Option.some.inj h
      refine Go.weak (L := [some (.ref m_p), some (.int v1), none, none]) (L' := [none, none, none, none]) (trivial) ?_
      exact kk
set_option maxHeartbeats 4000000 in
set_option maxRecDepth 100000 in
theorem t_X12_turns {N : Nat} {m_p : Nat} {m_a : Nat → Nat} {m_d : List Int32} {m_was : List Int32} {m_kept : Int32} {m_read : List Int32} {m_text : List Int32} {m_typed : Int32} {m_n : Int32} {m_q : List Int32} {m_r : List Int32} {m_t : List Int32} {m_heldQ : List Int32} {m_heldR : List Int32} {m_heldT : List Int32} {m_heldN : Int32} {m_image : List Int32} {m_built : Int32} {m_fixed : List Int64} {m_isFree : List Int32} {m_from : List Int32} {m_some : List Int64} {m_field : List Int32} {m_queue : List Int32} {m_near : List Int32} {m_open : List Int32} {m_closed : List Int32} {m_at : Int32} {m_begin : Int32} {m_sort : Int32} {m_lastQ : Int32} {m_lastR : Int32} {m_lastT : Int32} {m_readN : Int32} {u : (List Int32) × (List Int32) × (List Int32)}  (h : f_X12_turns N m_d m_n m_q m_r m_t = some u) : Ct l D r (z_rl xs) zm_X12_turns 0 0 [.ref m_p] ([sMo m_p m_a m_d m_was m_kept m_read m_text m_typed m_n m_q m_r m_t m_heldQ m_heldR m_heldT m_heldN m_image m_built m_fixed m_isFree m_from m_some m_field m_queue m_near m_open m_closed m_at m_begin m_sort m_lastQ m_lastR m_lastT m_readN] : List ZW).flatten (fun v' w' => v' = none ∧ w' = ([sMo m_p m_a m_d m_was m_kept m_read m_text m_typed m_n u.1 u.2.1 u.2.2 m_heldQ m_heldR m_heldT m_heldN m_image m_built m_fixed m_isFree m_from m_some m_field m_queue m_near m_open m_closed m_at m_begin m_sort m_lastQ m_lastR m_lastT m_readN] : List ZW).flatten) := by
  refine Ct.of (by decide +kernel) rfl (fun q => absurd q (by decide)) (Nat.le_of_ble_eq_true rfl) ?_
  refine Go.eqz (z2 := (0, [some (.ref m_p), none, none, none], [], ([sMo m_p m_a m_d m_was m_kept m_read m_text m_typed m_n m_q m_r m_t m_heldQ m_heldR m_heldT m_heldN m_image m_built m_fixed m_isFree m_from m_some m_field m_queue m_near m_open m_closed m_at m_begin m_sort m_lastQ m_lastR m_lastT m_readN] : List ZW).flatten)) rfl ?_
  unfold f_X12_turns at h
  refine Go.blk zk_X12_turns [0, 0] (z' := (2, [some (.ref m_p), some (.int 0), none, none], [], ([sMo m_p m_a m_d m_was m_kept m_read m_text m_typed m_n m_q m_r m_t m_heldQ m_heldR m_heldT m_heldN m_image m_built m_fixed m_isFree m_from m_some m_field m_queue m_near m_open m_closed m_at m_begin m_sort m_lastQ m_lastR m_lastT m_readN] : List ZW).flatten)) rfl trivial ?_
  obtain ⟨e16, he16, h⟩ := z_bind h
  refine t_X12_turns_L2 N _ _ _ _ _ he16 ?_
  obtain rfl := Option.some.inj h
  exact Go.vret zk_X12_turns rfl rfl ⟨rfl, rfl⟩
set_option maxHeartbeats 4000000 in
set_option maxRecDepth 100000 in
theorem t_X12_mirrors_L2 {N : Nat} {m_p : Nat} {m_a : Nat → Nat} {m_d : List Int32} {m_was : List Int32} {m_kept : Int32} {m_read : List Int32} {m_text : List Int32} {m_typed : Int32} {m_n : Int32} {m_t : List Int32} {m_heldQ : List Int32} {m_heldR : List Int32} {m_heldT : List Int32} {m_heldN : Int32} {m_image : List Int32} {m_built : Int32} {m_fixed : List Int64} {m_isFree : List Int32} {m_from : List Int32} {m_some : List Int64} {m_field : List Int32} {m_queue : List Int32} {m_near : List Int32} {m_open : List Int32} {m_closed : List Int32} {m_at : Int32} {m_begin : Int32} {m_sort : Int32} {m_lastQ : Int32} {m_lastR : Int32} {m_lastT : Int32} {m_readN : Int32}  {Q : Option Value → ZW → Prop} : ∀ (fu : Nat) (v1 : Int32) (m_q : List Int32) (m_r : List Int32) (e : (List Int32) × (List Int32)), f_X12_mirrors_L2 N m_n fu v1 m_q m_r = some e → (Go l D r (z_rl xs) zm_X12_mirrors 0 0 (42, [none, none, none], [], ([sMo m_p m_a m_d m_was m_kept m_read m_text m_typed m_n e.1 e.2 m_t m_heldQ m_heldR m_heldT m_heldN m_image m_built m_fixed m_isFree m_from m_some m_field m_queue m_near m_open m_closed m_at m_begin m_sort m_lastQ m_lastR m_lastT m_readN] : List ZW).flatten) Q) → Go l D r (z_rl xs) zm_X12_mirrors 0 0 (2, [some (.ref m_p), some (.int v1), none], [], ([sMo m_p m_a m_d m_was m_kept m_read m_text m_typed m_n m_q m_r m_t m_heldQ m_heldR m_heldT m_heldN m_image m_built m_fixed m_isFree m_from m_some m_field m_queue m_near m_open m_closed m_at m_begin m_sort m_lastQ m_lastR m_lastT m_readN] : List ZW).flatten) Q := by
  intro fu
  induction fu with
  | zero =>
    intro v1 m_q m_r e h
    simp only [f_X12_mirrors_L2, reduceCtorEq] at h
  | succ fu ih =>
    intro v1 m_q m_r e h kk
    rw [f_X12_mirrors_L2] at h
    refine Go.blk zk_X12_mirrors [0, 0, 0] (z' := (7, [some (.ref m_p), some (.int v1), none], [.int m_n, .int v1], ([sMo m_p m_a m_d m_was m_kept m_read m_text m_typed m_n m_q m_r m_t m_heldQ m_heldR m_heldT m_heldN m_image m_built m_fixed m_isFree m_from m_some m_field m_queue m_near m_open m_closed m_at m_begin m_sort m_lastQ m_lastR m_lastT m_readN] : List ZW).flatten)) rfl ⟨rfl, trivial⟩ ?_
    by_cases hc1 : v1 < m_n
    · rw [if_pos hc1] at h
      refine Go.br zk_X12_mirrors rfl rfl (fun _ => ?_) (fun q => absurd hc1 q)
      refine Go.blk zk_X12_mirrors [0, 0, 0] (z' := (15, [some (.ref m_p), some (.int v1), none], [.int v1, .ref (m_a 4)], ([sMo m_p m_a m_d m_was m_kept m_read m_text m_typed m_n m_q m_r m_t m_heldQ m_heldR m_heldT m_heldN m_image m_built m_fixed m_isFree m_from m_some m_field m_queue m_near m_open m_closed m_at m_begin m_sort m_lastQ m_lastR m_lastT m_readN] : List ZW).flatten)) rfl ⟨rfl, trivial⟩ ?_
      obtain ⟨x2, hx2, h⟩ := z_bind h
      refine Go.iald zk_X12_mirrors 5 rfl rfl rfl hx2 ?_
      refine Go.blk zk_X12_mirrors [0, 0, 0, 0, 0, 0, 0] (z' := (27, [some (.ref m_p), some (.int v1), some (.int x2)], [.int v1, .ref (m_a 5), .int v1, .ref (m_a 4)], ([sMo m_p m_a m_d m_was m_kept m_read m_text m_typed m_n m_q m_r m_t m_heldQ m_heldR m_heldT m_heldN m_image m_built m_fixed m_isFree m_from m_some m_field m_queue m_near m_open m_closed m_at m_begin m_sort m_lastQ m_lastR m_lastT m_readN] : List ZW).flatten)) rfl ⟨rfl, rfl, trivial⟩ ?_
      obtain ⟨x3, hx3, h⟩ := z_bind h
      refine Go.iald zk_X12_mirrors 6 rfl rfl rfl hx3 ?_
      obtain ⟨t4, ht4, h⟩ := z_bind h
      refine Go.iast zk_X12_mirrors 5 rfl rfl rfl ht4 ?_
      refine Go.eqz (z2 := (29, [some (.ref m_p), some (.int v1), some (.int x2)], [], ([sMo m_p m_a m_d m_was m_kept m_read m_text m_typed m_n t4 m_r m_t m_heldQ m_heldR m_heldT m_heldN m_image m_built m_fixed m_isFree m_from m_some m_field m_queue m_near m_open m_closed m_at m_begin m_sort m_lastQ m_lastR m_lastT m_readN] : List ZW).flatten)) rfl ?_
      refine Go.blk zk_X12_mirrors [0, 0, 0, 0] (z' := (35, [some (.ref m_p), some (.int v1), some (.int x2)], [.int x2, .int v1, .ref (m_a 5)], ([sMo m_p m_a m_d m_was m_kept m_read m_text m_typed m_n t4 m_r m_t m_heldQ m_heldR m_heldT m_heldN m_image m_built m_fixed m_isFree m_from m_some m_field m_queue m_near m_open m_closed m_at m_begin m_sort m_lastQ m_lastR m_lastT m_readN] : List ZW).flatten)) rfl ⟨rfl, trivial⟩ ?_
      obtain ⟨t5, ht5, h⟩ := z_bind h
      refine Go.iast zk_X12_mirrors 6 rfl rfl rfl ht5 ?_
      refine Go.eqz (z2 := (36, [some (.ref m_p), some (.int v1), some (.int x2)], [], ([sMo m_p m_a m_d m_was m_kept m_read m_text m_typed m_n t4 t5 m_t m_heldQ m_heldR m_heldT m_heldN m_image m_built m_fixed m_isFree m_from m_some m_field m_queue m_near m_open m_closed m_at m_begin m_sort m_lastQ m_lastR m_lastT m_readN] : List ZW).flatten)) rfl ?_
      refine Go.blk zk_X12_mirrors [0, 0] (z' := (2, [some (.ref m_p), some (.int (v1 + 1)), some (.int x2)], [], ([sMo m_p m_a m_d m_was m_kept m_read m_text m_typed m_n t4 t5 m_t m_heldQ m_heldR m_heldT m_heldN m_image m_built m_fixed m_isFree m_from m_some m_field m_queue m_near m_open m_closed m_at m_begin m_sort m_lastQ m_lastR m_lastT m_readN] : List ZW).flatten)) rfl trivial ?_
      refine Go.weak (L := [some (.ref m_p), some (.int (v1 + 1)), some (.int x2)]) (L' := [some (.ref m_p), some (.int (v1 + 1)), none]) (And.intro rfl (And.intro rfl (trivial))) ?_
      exact ih _ _ _ _ h kk
    · rw [if_neg hc1] at h
      refine Go.br zk_X12_mirrors rfl rfl (fun q => absurd q hc1) (fun _ => ?_)
      obtain rfl := Option.some.inj h
      refine Go.weak (L := [some (.ref m_p), some (.int v1), none]) (L' := [none, none, none]) (trivial) ?_
      exact kk
set_option maxHeartbeats 4000000 in
set_option maxRecDepth 100000 in
theorem t_X12_mirrors {N : Nat} {m_p : Nat} {m_a : Nat → Nat} {m_d : List Int32} {m_was : List Int32} {m_kept : Int32} {m_read : List Int32} {m_text : List Int32} {m_typed : Int32} {m_n : Int32} {m_q : List Int32} {m_r : List Int32} {m_t : List Int32} {m_heldQ : List Int32} {m_heldR : List Int32} {m_heldT : List Int32} {m_heldN : Int32} {m_image : List Int32} {m_built : Int32} {m_fixed : List Int64} {m_isFree : List Int32} {m_from : List Int32} {m_some : List Int64} {m_field : List Int32} {m_queue : List Int32} {m_near : List Int32} {m_open : List Int32} {m_closed : List Int32} {m_at : Int32} {m_begin : Int32} {m_sort : Int32} {m_lastQ : Int32} {m_lastR : Int32} {m_lastT : Int32} {m_readN : Int32} {u : (List Int32) × (List Int32)}  (h : f_X12_mirrors N m_n m_q m_r = some u) : Ct l D r (z_rl xs) zm_X12_mirrors 0 0 [.ref m_p] ([sMo m_p m_a m_d m_was m_kept m_read m_text m_typed m_n m_q m_r m_t m_heldQ m_heldR m_heldT m_heldN m_image m_built m_fixed m_isFree m_from m_some m_field m_queue m_near m_open m_closed m_at m_begin m_sort m_lastQ m_lastR m_lastT m_readN] : List ZW).flatten (fun v' w' => v' = none ∧ w' = ([sMo m_p m_a m_d m_was m_kept m_read m_text m_typed m_n u.1 u.2 m_t m_heldQ m_heldR m_heldT m_heldN m_image m_built m_fixed m_isFree m_from m_some m_field m_queue m_near m_open m_closed m_at m_begin m_sort m_lastQ m_lastR m_lastT m_readN] : List ZW).flatten) := by
  refine Ct.of (by decide +kernel) rfl (fun q => absurd q (by decide)) (Nat.le_of_ble_eq_true rfl) ?_
  refine Go.eqz (z2 := (0, [some (.ref m_p), none, none], [], ([sMo m_p m_a m_d m_was m_kept m_read m_text m_typed m_n m_q m_r m_t m_heldQ m_heldR m_heldT m_heldN m_image m_built m_fixed m_isFree m_from m_some m_field m_queue m_near m_open m_closed m_at m_begin m_sort m_lastQ m_lastR m_lastT m_readN] : List ZW).flatten)) rfl ?_
  unfold f_X12_mirrors at h
  refine Go.blk zk_X12_mirrors [0, 0] (z' := (2, [some (.ref m_p), some (.int 0), none], [], ([sMo m_p m_a m_d m_was m_kept m_read m_text m_typed m_n m_q m_r m_t m_heldQ m_heldR m_heldT m_heldN m_image m_built m_fixed m_isFree m_from m_some m_field m_queue m_near m_open m_closed m_at m_begin m_sort m_lastQ m_lastR m_lastT m_readN] : List ZW).flatten)) rfl trivial ?_
  obtain ⟨e6, he6, h⟩ := z_bind h
  refine t_X12_mirrors_L2 N _ _ _ _ he6 ?_
  obtain rfl := Option.some.inj h
  exact Go.vret zk_X12_mirrors rfl rfl ⟨rfl, rfl⟩
set_option maxHeartbeats 4000000 in
set_option maxRecDepth 100000 in
theorem t_X12_place {N : Nat} {m_p : Nat} {m_a : Nat → Nat} {m_d : List Int32} {m_was : List Int32} {m_kept : Int32} {m_read : List Int32} {m_text : List Int32} {m_typed : Int32} {m_n : Int32} {m_q : List Int32} {m_r : List Int32} {m_t : List Int32} {m_heldQ : List Int32} {m_heldR : List Int32} {m_heldT : List Int32} {m_heldN : Int32} {m_image : List Int32} {m_built : Int32} {m_fixed : List Int64} {m_isFree : List Int32} {m_from : List Int32} {m_some : List Int64} {m_field : List Int32} {m_queue : List Int32} {m_near : List Int32} {m_open : List Int32} {m_closed : List Int32} {m_at : Int32} {m_begin : Int32} {m_sort : Int32} {m_lastQ : Int32} {m_lastR : Int32} {m_lastT : Int32} {m_readN : Int32} {i1 : Int32} {u : Int32}  (h : f_X12_place N i1 m_q m_r m_t = some u) : Ct l D r (z_rl xs) zm_X12_place 0 0 [.ref m_p, .int i1] ([sMo m_p m_a m_d m_was m_kept m_read m_text m_typed m_n m_q m_r m_t m_heldQ m_heldR m_heldT m_heldN m_image m_built m_fixed m_isFree m_from m_some m_field m_queue m_near m_open m_closed m_at m_begin m_sort m_lastQ m_lastR m_lastT m_readN] : List ZW).flatten (fun v' w' => v' = some (.int u) ∧ w' = ([sMo m_p m_a m_d m_was m_kept m_read m_text m_typed m_n m_q m_r m_t m_heldQ m_heldR m_heldT m_heldN m_image m_built m_fixed m_isFree m_from m_some m_field m_queue m_near m_open m_closed m_at m_begin m_sort m_lastQ m_lastR m_lastT m_readN] : List ZW).flatten) := by
  refine Ct.of (by decide +kernel) rfl (fun q => absurd q (by decide)) (Nat.le_of_ble_eq_true rfl) ?_
  refine Go.eqz (z2 := (0, [some (.ref m_p), some (.int i1)], [], ([sMo m_p m_a m_d m_was m_kept m_read m_text m_typed m_n m_q m_r m_t m_heldQ m_heldR m_heldT m_heldN m_image m_built m_fixed m_isFree m_from m_some m_field m_queue m_near m_open m_closed m_at m_begin m_sort m_lastQ m_lastR m_lastT m_readN] : List ZW).flatten)) rfl ?_
  unfold f_X12_place at h
  refine Go.blk zk_X12_place [0, 0, 0, 0] (z' := (7, [some (.ref m_p), some (.int i1)], [.int i1, .ref (m_a 5), .int 64], ([sMo m_p m_a m_d m_was m_kept m_read m_text m_typed m_n m_q m_r m_t m_heldQ m_heldR m_heldT m_heldN m_image m_built m_fixed m_isFree m_from m_some m_field m_queue m_near m_open m_closed m_at m_begin m_sort m_lastQ m_lastR m_lastT m_readN] : List ZW).flatten)) rfl ⟨rfl, trivial⟩ ?_
  obtain ⟨x1, hx1, h⟩ := z_bind h
  refine Go.iald zk_X12_place 6 rfl rfl rfl hx1 ?_
  refine Go.blk zk_X12_place [0, 0, 0, 0, 0] (z' := (15, [some (.ref m_p), some (.int i1)], [.int i1, .ref (m_a 4), .int 2, .int (64 * x1)], ([sMo m_p m_a m_d m_was m_kept m_read m_text m_typed m_n m_q m_r m_t m_heldQ m_heldR m_heldT m_heldN m_image m_built m_fixed m_isFree m_from m_some m_field m_queue m_near m_open m_closed m_at m_begin m_sort m_lastQ m_lastR m_lastT m_readN] : List ZW).flatten)) rfl ⟨rfl, trivial⟩ ?_
  obtain ⟨x2, hx2, h⟩ := z_bind h
  refine Go.iald zk_X12_place 5 rfl rfl rfl hx2 ?_
  refine Go.blk zk_X12_place [0, 0, 0, 0, 0] (z' := (23, [some (.ref m_p), some (.int i1)], [.int i1, .ref (m_a 6), .int ((64 * x1) + (2 * x2))], ([sMo m_p m_a m_d m_was m_kept m_read m_text m_typed m_n m_q m_r m_t m_heldQ m_heldR m_heldT m_heldN m_image m_built m_fixed m_isFree m_from m_some m_field m_queue m_near m_open m_closed m_at m_begin m_sort m_lastQ m_lastR m_lastT m_readN] : List ZW).flatten)) rfl ⟨rfl, trivial⟩ ?_
  obtain ⟨x3, hx3, h⟩ := z_bind h
  refine Go.iald zk_X12_place 7 rfl rfl rfl hx3 ?_
  refine Go.blk zk_X12_place [0] (z' := (25, [some (.ref m_p), some (.int i1)], [.int (((64 * x1) + (2 * x2)) + x3)], ([sMo m_p m_a m_d m_was m_kept m_read m_text m_typed m_n m_q m_r m_t m_heldQ m_heldR m_heldT m_heldN m_image m_built m_fixed m_isFree m_from m_some m_field m_queue m_near m_open m_closed m_at m_begin m_sort m_lastQ m_lastR m_lastT m_readN] : List ZW).flatten)) rfl trivial ?_
  obtain rfl := Option.some.inj h
  exact Go.iret zk_X12_place rfl rfl rfl ⟨rfl, rfl⟩
set_option maxHeartbeats 4000000 in
set_option maxRecDepth 100000 in
theorem t_X12_exchanges {N : Nat} {m_p : Nat} {m_a : Nat → Nat} {m_d : List Int32} {m_was : List Int32} {m_kept : Int32} {m_read : List Int32} {m_text : List Int32} {m_typed : Int32} {m_n : Int32} {m_q : List Int32} {m_r : List Int32} {m_t : List Int32} {m_heldQ : List Int32} {m_heldR : List Int32} {m_heldT : List Int32} {m_heldN : Int32} {m_image : List Int32} {m_built : Int32} {m_fixed : List Int64} {m_isFree : List Int32} {m_from : List Int32} {m_some : List Int64} {m_field : List Int32} {m_queue : List Int32} {m_near : List Int32} {m_open : List Int32} {m_closed : List Int32} {m_at : Int32} {m_begin : Int32} {m_sort : Int32} {m_lastQ : Int32} {m_lastR : Int32} {m_lastT : Int32} {m_readN : Int32} {i1 : Int32} {i2 : Int32} {u : (List Int32) × (List Int32) × (List Int32)}  (h : f_X12_exchanges N i1 i2 m_q m_r m_t = some u) : Ct l D r (z_rl xs) zm_X12_exchanges 0 0 [.ref m_p, .int i1, .int i2] ([sMo m_p m_a m_d m_was m_kept m_read m_text m_typed m_n m_q m_r m_t m_heldQ m_heldR m_heldT m_heldN m_image m_built m_fixed m_isFree m_from m_some m_field m_queue m_near m_open m_closed m_at m_begin m_sort m_lastQ m_lastR m_lastT m_readN] : List ZW).flatten (fun v' w' => v' = none ∧ w' = ([sMo m_p m_a m_d m_was m_kept m_read m_text m_typed m_n u.1 u.2.1 u.2.2 m_heldQ m_heldR m_heldT m_heldN m_image m_built m_fixed m_isFree m_from m_some m_field m_queue m_near m_open m_closed m_at m_begin m_sort m_lastQ m_lastR m_lastT m_readN] : List ZW).flatten) := by
  refine Ct.of (by decide +kernel) rfl (fun q => absurd q (by decide)) (Nat.le_of_ble_eq_true rfl) ?_
  refine Go.eqz (z2 := (0, [some (.ref m_p), some (.int i1), some (.int i2), none, none, none], [], ([sMo m_p m_a m_d m_was m_kept m_read m_text m_typed m_n m_q m_r m_t m_heldQ m_heldR m_heldT m_heldN m_image m_built m_fixed m_isFree m_from m_some m_field m_queue m_near m_open m_closed m_at m_begin m_sort m_lastQ m_lastR m_lastT m_readN] : List ZW).flatten)) rfl ?_
  unfold f_X12_exchanges at h
  refine Go.blk zk_X12_exchanges [0, 0, 0] (z' := (5, [some (.ref m_p), some (.int i1), some (.int i2), none, none, none], [.int i1, .ref (m_a 4)], ([sMo m_p m_a m_d m_was m_kept m_read m_text m_typed m_n m_q m_r m_t m_heldQ m_heldR m_heldT m_heldN m_image m_built m_fixed m_isFree m_from m_some m_field m_queue m_near m_open m_closed m_at m_begin m_sort m_lastQ m_lastR m_lastT m_readN] : List ZW).flatten)) rfl ⟨rfl, trivial⟩ ?_
  obtain ⟨x1, hx1, h⟩ := z_bind h
  refine Go.iald zk_X12_exchanges 5 rfl rfl rfl hx1 ?_
  refine Go.blk zk_X12_exchanges [0, 0, 0, 0] (z' := (12, [some (.ref m_p), some (.int i1), some (.int i2), some (.int x1), none, none], [.int i1, .ref (m_a 5)], ([sMo m_p m_a m_d m_was m_kept m_read m_text m_typed m_n m_q m_r m_t m_heldQ m_heldR m_heldT m_heldN m_image m_built m_fixed m_isFree m_from m_some m_field m_queue m_near m_open m_closed m_at m_begin m_sort m_lastQ m_lastR m_lastT m_readN] : List ZW).flatten)) rfl ⟨rfl, trivial⟩ ?_
  obtain ⟨x2, hx2, h⟩ := z_bind h
  refine Go.iald zk_X12_exchanges 6 rfl rfl rfl hx2 ?_
  refine Go.blk zk_X12_exchanges [0, 0, 0, 0] (z' := (20, [some (.ref m_p), some (.int i1), some (.int i2), some (.int x1), some (.int x2), none], [.int i1, .ref (m_a 6)], ([sMo m_p m_a m_d m_was m_kept m_read m_text m_typed m_n m_q m_r m_t m_heldQ m_heldR m_heldT m_heldN m_image m_built m_fixed m_isFree m_from m_some m_field m_queue m_near m_open m_closed m_at m_begin m_sort m_lastQ m_lastR m_lastT m_readN] : List ZW).flatten)) rfl ⟨rfl, trivial⟩ ?_
  obtain ⟨x3, hx3, h⟩ := z_bind h
  refine Go.iald zk_X12_exchanges 7 rfl rfl rfl hx3 ?_
  refine Go.blk zk_X12_exchanges [0, 0, 0, 0, 0, 0, 0] (z' := (33, [some (.ref m_p), some (.int i1), some (.int i2), some (.int x1), some (.int x2), some (.int x3)], [.int i2, .ref (m_a 4), .int i1, .ref (m_a 4)], ([sMo m_p m_a m_d m_was m_kept m_read m_text m_typed m_n m_q m_r m_t m_heldQ m_heldR m_heldT m_heldN m_image m_built m_fixed m_isFree m_from m_some m_field m_queue m_near m_open m_closed m_at m_begin m_sort m_lastQ m_lastR m_lastT m_readN] : List ZW).flatten)) rfl ⟨rfl, rfl, trivial⟩ ?_
  obtain ⟨x4, hx4, h⟩ := z_bind h
  refine Go.iald zk_X12_exchanges 5 rfl rfl rfl hx4 ?_
  obtain ⟨t5, ht5, h⟩ := z_bind h
  refine Go.iast zk_X12_exchanges 5 rfl rfl rfl ht5 ?_
  refine Go.eqz (z2 := (35, [some (.ref m_p), some (.int i1), some (.int i2), some (.int x1), some (.int x2), some (.int x3)], [], ([sMo m_p m_a m_d m_was m_kept m_read m_text m_typed m_n t5 m_r m_t m_heldQ m_heldR m_heldT m_heldN m_image m_built m_fixed m_isFree m_from m_some m_field m_queue m_near m_open m_closed m_at m_begin m_sort m_lastQ m_lastR m_lastT m_readN] : List ZW).flatten)) rfl ?_
  refine Go.blk zk_X12_exchanges [0, 0, 0, 0, 0, 0] (z' := (45, [some (.ref m_p), some (.int i1), some (.int i2), some (.int x1), some (.int x2), some (.int x3)], [.int i2, .ref (m_a 5), .int i1, .ref (m_a 5)], ([sMo m_p m_a m_d m_was m_kept m_read m_text m_typed m_n t5 m_r m_t m_heldQ m_heldR m_heldT m_heldN m_image m_built m_fixed m_isFree m_from m_some m_field m_queue m_near m_open m_closed m_at m_begin m_sort m_lastQ m_lastR m_lastT m_readN] : List ZW).flatten)) rfl ⟨rfl, rfl, trivial⟩ ?_
  obtain ⟨x6, hx6, h⟩ := z_bind h
  refine Go.iald zk_X12_exchanges 6 rfl rfl rfl hx6 ?_
  obtain ⟨t7, ht7, h⟩ := z_bind h
  refine Go.iast zk_X12_exchanges 6 rfl rfl rfl ht7 ?_
  refine Go.eqz (z2 := (47, [some (.ref m_p), some (.int i1), some (.int i2), some (.int x1), some (.int x2), some (.int x3)], [], ([sMo m_p m_a m_d m_was m_kept m_read m_text m_typed m_n t5 t7 m_t m_heldQ m_heldR m_heldT m_heldN m_image m_built m_fixed m_isFree m_from m_some m_field m_queue m_near m_open m_closed m_at m_begin m_sort m_lastQ m_lastR m_lastT m_readN] : List ZW).flatten)) rfl ?_
  refine Go.blk zk_X12_exchanges [0, 0, 0, 0, 0, 0] (z' := (57, [some (.ref m_p), some (.int i1), some (.int i2), some (.int x1), some (.int x2), some (.int x3)], [.int i2, .ref (m_a 6), .int i1, .ref (m_a 6)], ([sMo m_p m_a m_d m_was m_kept m_read m_text m_typed m_n t5 t7 m_t m_heldQ m_heldR m_heldT m_heldN m_image m_built m_fixed m_isFree m_from m_some m_field m_queue m_near m_open m_closed m_at m_begin m_sort m_lastQ m_lastR m_lastT m_readN] : List ZW).flatten)) rfl ⟨rfl, rfl, trivial⟩ ?_
  obtain ⟨x8, hx8, h⟩ := z_bind h
  refine Go.iald zk_X12_exchanges 7 rfl rfl rfl hx8 ?_
  obtain ⟨t9, ht9, h⟩ := z_bind h
  refine Go.iast zk_X12_exchanges 7 rfl rfl rfl ht9 ?_
  refine Go.eqz (z2 := (59, [some (.ref m_p), some (.int i1), some (.int i2), some (.int x1), some (.int x2), some (.int x3)], [], ([sMo m_p m_a m_d m_was m_kept m_read m_text m_typed m_n t5 t7 t9 m_heldQ m_heldR m_heldT m_heldN m_image m_built m_fixed m_isFree m_from m_some m_field m_queue m_near m_open m_closed m_at m_begin m_sort m_lastQ m_lastR m_lastT m_readN] : List ZW).flatten)) rfl ?_
  refine Go.blk zk_X12_exchanges [0, 0, 0, 0] (z' := (65, [some (.ref m_p), some (.int i1), some (.int i2), some (.int x1), some (.int x2), some (.int x3)], [.int x1, .int i2, .ref (m_a 4)], ([sMo m_p m_a m_d m_was m_kept m_read m_text m_typed m_n t5 t7 t9 m_heldQ m_heldR m_heldT m_heldN m_image m_built m_fixed m_isFree m_from m_some m_field m_queue m_near m_open m_closed m_at m_begin m_sort m_lastQ m_lastR m_lastT m_readN] : List ZW).flatten)) rfl ⟨rfl, trivial⟩ ?_
  obtain ⟨t10, ht10, h⟩ := z_bind h
  refine Go.iast zk_X12_exchanges 5 rfl rfl rfl ht10 ?_
  refine Go.eqz (z2 := (66, [some (.ref m_p), some (.int i1), some (.int i2), some (.int x1), some (.int x2), some (.int x3)], [], ([sMo m_p m_a m_d m_was m_kept m_read m_text m_typed m_n t10 t7 t9 m_heldQ m_heldR m_heldT m_heldN m_image m_built m_fixed m_isFree m_from m_some m_field m_queue m_near m_open m_closed m_at m_begin m_sort m_lastQ m_lastR m_lastT m_readN] : List ZW).flatten)) rfl ?_
  refine Go.blk zk_X12_exchanges [0, 0, 0, 0] (z' := (73, [some (.ref m_p), some (.int i1), some (.int i2), some (.int x1), some (.int x2), some (.int x3)], [.int x2, .int i2, .ref (m_a 5)], ([sMo m_p m_a m_d m_was m_kept m_read m_text m_typed m_n t10 t7 t9 m_heldQ m_heldR m_heldT m_heldN m_image m_built m_fixed m_isFree m_from m_some m_field m_queue m_near m_open m_closed m_at m_begin m_sort m_lastQ m_lastR m_lastT m_readN] : List ZW).flatten)) rfl ⟨rfl, trivial⟩ ?_
  obtain ⟨t11, ht11, h⟩ := z_bind h
  refine Go.iast zk_X12_exchanges 6 rfl rfl rfl ht11 ?_
  refine Go.eqz (z2 := (74, [some (.ref m_p), some (.int i1), some (.int i2), some (.int x1), some (.int x2), some (.int x3)], [], ([sMo m_p m_a m_d m_was m_kept m_read m_text m_typed m_n t10 t11 t9 m_heldQ m_heldR m_heldT m_heldN m_image m_built m_fixed m_isFree m_from m_some m_field m_queue m_near m_open m_closed m_at m_begin m_sort m_lastQ m_lastR m_lastT m_readN] : List ZW).flatten)) rfl ?_
  refine Go.blk zk_X12_exchanges [0, 0, 0, 0] (z' := (81, [some (.ref m_p), some (.int i1), some (.int i2), some (.int x1), some (.int x2), some (.int x3)], [.int x3, .int i2, .ref (m_a 6)], ([sMo m_p m_a m_d m_was m_kept m_read m_text m_typed m_n t10 t11 t9 m_heldQ m_heldR m_heldT m_heldN m_image m_built m_fixed m_isFree m_from m_some m_field m_queue m_near m_open m_closed m_at m_begin m_sort m_lastQ m_lastR m_lastT m_readN] : List ZW).flatten)) rfl ⟨rfl, trivial⟩ ?_
  obtain ⟨t12, ht12, h⟩ := z_bind h
  refine Go.iast zk_X12_exchanges 7 rfl rfl rfl ht12 ?_
  refine Go.eqz (z2 := (82, [some (.ref m_p), some (.int i1), some (.int i2), some (.int x1), some (.int x2), some (.int x3)], [], ([sMo m_p m_a m_d m_was m_kept m_read m_text m_typed m_n t10 t11 t12 m_heldQ m_heldR m_heldT m_heldN m_image m_built m_fixed m_isFree m_from m_some m_field m_queue m_near m_open m_closed m_at m_begin m_sort m_lastQ m_lastR m_lastT m_readN] : List ZW).flatten)) rfl ?_
  obtain rfl := Option.some.inj h
  exact Go.vret zk_X12_exchanges rfl rfl ⟨rfl, rfl⟩
set_option maxHeartbeats 4000000 in
set_option maxRecDepth 100000 in
theorem t_X12_settles_L16 {N : Nat} {m_p : Nat} {m_a : Nat → Nat} {m_d : List Int32} {m_was : List Int32} {m_kept : Int32} {m_read : List Int32} {m_text : List Int32} {m_typed : Int32} {m_n : Int32} {m_q : List Int32} {m_r : List Int32} {m_t : List Int32} {m_heldQ : List Int32} {m_heldR : List Int32} {m_heldT : List Int32} {m_heldN : Int32} {m_image : List Int32} {m_built : Int32} {m_fixed : List Int64} {m_isFree : List Int32} {m_from : List Int32} {m_some : List Int64} {m_field : List Int32} {m_queue : List Int32} {m_near : List Int32} {m_open : List Int32} {m_closed : List Int32} {m_at : Int32} {m_begin : Int32} {m_sort : Int32} {m_lastQ : Int32} {m_lastR : Int32} {m_lastT : Int32} {m_readN : Int32}  {Q : Option Value → ZW → Prop} : ∀ (fu : Nat) (v1 : Int32) (v2 : Int32) (v3 : Int32) (e : Int32 × Int32), f_X12_settles_L16 N m_n m_q m_r fu v1 v2 v3 = some e → (Go l D r (z_rl xs) zm_X12_settles 0 0 (72, [some (.ref m_p), some (.int e.1), some (.int e.2), none, none], [], ([sMo m_p m_a m_d m_was m_kept m_read m_text m_typed m_n m_q m_r m_t m_heldQ m_heldR m_heldT m_heldN m_image m_built m_fixed m_isFree m_from m_some m_field m_queue m_near m_open m_closed m_at m_begin m_sort m_lastQ m_lastR m_lastT m_readN] : List ZW).flatten) Q) → Go l D r (z_rl xs) zm_X12_settles 0 0 (16, [some (.ref m_p), some (.int v1), some (.int v2), some (.int v3), none], [], ([sMo m_p m_a m_d m_was m_kept m_read m_text m_typed m_n m_q m_r m_t m_heldQ m_heldR m_heldT m_heldN m_image m_built m_fixed m_isFree m_from m_some m_field m_queue m_near m_open m_closed m_at m_begin m_sort m_lastQ m_lastR m_lastT m_readN] : List ZW).flatten) Q := by
  intro fu
  induction fu with
  | zero =>
    intro v1 v2 v3 e h
    simp only [f_X12_settles_L16, reduceCtorEq] at h
  | succ fu ih =>
    intro v1 v2 v3 e h kk
    rw [f_X12_settles_L16] at h
    refine Go.blk zk_X12_settles [0, 0, 0] (z' := (21, [some (.ref m_p), some (.int v1), some (.int v2), some (.int v3), none], [.int m_n, .int v3], ([sMo m_p m_a m_d m_was m_kept m_read m_text m_typed m_n m_q m_r m_t m_heldQ m_heldR m_heldT m_heldN m_image m_built m_fixed m_isFree m_from m_some m_field m_queue m_near m_open m_closed m_at m_begin m_sort m_lastQ m_lastR m_lastT m_readN] : List ZW).flatten)) rfl ⟨rfl, trivial⟩ ?_
    by_cases hc3 : v3 < m_n
    · rw [if_pos hc3] at h
      refine Go.br zk_X12_settles rfl rfl (fun _ => ?_) (fun q => absurd hc3 q)
      refine Go.blk zk_X12_settles [0, 0, 0] (z' := (29, [some (.ref m_p), some (.int v1), some (.int v2), some (.int v3), none], [.int v3, .ref (m_a 4)], ([sMo m_p m_a m_d m_was m_kept m_read m_text m_typed m_n m_q m_r m_t m_heldQ m_heldR m_heldT m_heldN m_image m_built m_fixed m_isFree m_from m_some m_field m_queue m_near m_open m_closed m_at m_begin m_sort m_lastQ m_lastR m_lastT m_readN] : List ZW).flatten)) rfl ⟨rfl, trivial⟩ ?_
      obtain ⟨x4, hx4, h⟩ := z_bind h
      refine Go.iald zk_X12_settles 5 rfl rfl rfl hx4 ?_
      refine Go.blk zk_X12_settles [0] (z' := (31, [some (.ref m_p), some (.int v1), some (.int v2), some (.int v3), none], [.int v1, .int x4], ([sMo m_p m_a m_d m_was m_kept m_read m_text m_typed m_n m_q m_r m_t m_heldQ m_heldR m_heldT m_heldN m_image m_built m_fixed m_isFree m_from m_some m_field m_queue m_near m_open m_closed m_at m_begin m_sort m_lastQ m_lastR m_lastT m_readN] : List ZW).flatten)) rfl trivial ?_
      by_cases hc5 : x4 < v1
      · rw [if_pos hc5] at h
        refine Go.br zk_X12_settles rfl rfl (fun _ => ?_) (fun q => absurd hc5 q)
        refine Go.blk zk_X12_settles [0, 0, 0] (z' := (39, [some (.ref m_p), some (.int v1), some (.int v2), some (.int v3), none], [.int v3, .ref (m_a 4)], ([sMo m_p m_a m_d m_was m_kept m_read m_text m_typed m_n m_q m_r m_t m_heldQ m_heldR m_heldT m_heldN m_image m_built m_fixed m_isFree m_from m_some m_field m_queue m_near m_open m_closed m_at m_begin m_sort m_lastQ m_lastR m_lastT m_readN] : List ZW).flatten)) rfl ⟨rfl, trivial⟩ ?_
        obtain ⟨x6, hx6, h⟩ := z_bind h
        refine Go.iald zk_X12_settles 5 rfl rfl rfl hx6 ?_
        refine Go.blk zk_X12_settles [0, 0, 0, 0, 0] (z' := (50, [some (.ref m_p), some (.int x6), some (.int v2), some (.int v3), none], [.int v3, .ref (m_a 5)], ([sMo m_p m_a m_d m_was m_kept m_read m_text m_typed m_n m_q m_r m_t m_heldQ m_heldR m_heldT m_heldN m_image m_built m_fixed m_isFree m_from m_some m_field m_queue m_near m_open m_closed m_at m_begin m_sort m_lastQ m_lastR m_lastT m_readN] : List ZW).flatten)) rfl ⟨rfl, trivial⟩ ?_
        obtain ⟨x7, hx7, h⟩ := z_bind h
        refine Go.iald zk_X12_settles 6 rfl rfl rfl hx7 ?_
        refine Go.blk zk_X12_settles [0] (z' := (52, [some (.ref m_p), some (.int x6), some (.int v2), some (.int v3), none], [.int v2, .int x7], ([sMo m_p m_a m_d m_was m_kept m_read m_text m_typed m_n m_q m_r m_t m_heldQ m_heldR m_heldT m_heldN m_image m_built m_fixed m_isFree m_from m_some m_field m_queue m_near m_open m_closed m_at m_begin m_sort m_lastQ m_lastR m_lastT m_readN] : List ZW).flatten)) rfl trivial ?_
        by_cases hc8 : x7 < v2
        · rw [if_pos hc8] at h
          refine Go.br zk_X12_settles rfl rfl (fun _ => ?_) (fun q => absurd hc8 q)
          refine Go.blk zk_X12_settles [0, 0, 0] (z' := (60, [some (.ref m_p), some (.int x6), some (.int v2), some (.int v3), none], [.int v3, .ref (m_a 5)], ([sMo m_p m_a m_d m_was m_kept m_read m_text m_typed m_n m_q m_r m_t m_heldQ m_heldR m_heldT m_heldN m_image m_built m_fixed m_isFree m_from m_some m_field m_queue m_near m_open m_closed m_at m_begin m_sort m_lastQ m_lastR m_lastT m_readN] : List ZW).flatten)) rfl ⟨rfl, trivial⟩ ?_
          obtain ⟨x9, hx9, h⟩ := z_bind h
          refine Go.iald zk_X12_settles 6 rfl rfl rfl hx9 ?_
          refine Go.blk zk_X12_settles [0, 0, 0, 0] (z' := (16, [some (.ref m_p), some (.int x6), some (.int x9), some (.int (v3 + 1)), none], [], ([sMo m_p m_a m_d m_was m_kept m_read m_text m_typed m_n m_q m_r m_t m_heldQ m_heldR m_heldT m_heldN m_image m_built m_fixed m_isFree m_from m_some m_field m_queue m_near m_open m_closed m_at m_begin m_sort m_lastQ m_lastR m_lastT m_readN] : List ZW).flatten)) rfl trivial ?_
          exact ih _ _ _ _ h kk
        · rw [if_neg hc8] at h
          refine Go.br zk_X12_settles rfl rfl (fun q => absurd q hc8) (fun _ => ?_)
          refine Go.blk zk_X12_settles [0, 0, 0, 0] (z' := (16, [some (.ref m_p), some (.int x6), some (.int v2), some (.int (v3 + 1)), none], [], ([sMo m_p m_a m_d m_was m_kept m_read m_text m_typed m_n m_q m_r m_t m_heldQ m_heldR m_heldT m_heldN m_image m_built m_fixed m_isFree m_from m_some m_field m_queue m_near m_open m_closed m_at m_begin m_sort m_lastQ m_lastR m_lastT m_readN] : List ZW).flatten)) rfl trivial ?_
          exact ih _ _ _ _ h kk
      · rw [if_neg hc5] at h
        refine Go.br zk_X12_settles rfl rfl (fun q => absurd q hc5) (fun _ => ?_)
        refine Go.blk zk_X12_settles [0, 0, 0, 0, 0] (z' := (50, [some (.ref m_p), some (.int v1), some (.int v2), some (.int v3), none], [.int v3, .ref (m_a 5)], ([sMo m_p m_a m_d m_was m_kept m_read m_text m_typed m_n m_q m_r m_t m_heldQ m_heldR m_heldT m_heldN m_image m_built m_fixed m_isFree m_from m_some m_field m_queue m_near m_open m_closed m_at m_begin m_sort m_lastQ m_lastR m_lastT m_readN] : List ZW).flatten)) rfl ⟨rfl, trivial⟩ ?_
        obtain ⟨x10, hx10, h⟩ := z_bind h
        refine Go.iald zk_X12_settles 6 rfl rfl rfl hx10 ?_
        refine Go.blk zk_X12_settles [0] (z' := (52, [some (.ref m_p), some (.int v1), some (.int v2), some (.int v3), none], [.int v2, .int x10], ([sMo m_p m_a m_d m_was m_kept m_read m_text m_typed m_n m_q m_r m_t m_heldQ m_heldR m_heldT m_heldN m_image m_built m_fixed m_isFree m_from m_some m_field m_queue m_near m_open m_closed m_at m_begin m_sort m_lastQ m_lastR m_lastT m_readN] : List ZW).flatten)) rfl trivial ?_
        by_cases hc11 : x10 < v2
        · rw [if_pos hc11] at h
          refine Go.br zk_X12_settles rfl rfl (fun _ => ?_) (fun q => absurd hc11 q)
          refine Go.blk zk_X12_settles [0, 0, 0] (z' := (60, [some (.ref m_p), some (.int v1), some (.int v2), some (.int v3), none], [.int v3, .ref (m_a 5)], ([sMo m_p m_a m_d m_was m_kept m_read m_text m_typed m_n m_q m_r m_t m_heldQ m_heldR m_heldT m_heldN m_image m_built m_fixed m_isFree m_from m_some m_field m_queue m_near m_open m_closed m_at m_begin m_sort m_lastQ m_lastR m_lastT m_readN] : List ZW).flatten)) rfl ⟨rfl, trivial⟩ ?_
          obtain ⟨x12, hx12, h⟩ := z_bind h
          refine Go.iald zk_X12_settles 6 rfl rfl rfl hx12 ?_
          refine Go.blk zk_X12_settles [0, 0, 0, 0] (z' := (16, [some (.ref m_p), some (.int v1), some (.int x12), some (.int (v3 + 1)), none], [], ([sMo m_p m_a m_d m_was m_kept m_read m_text m_typed m_n m_q m_r m_t m_heldQ m_heldR m_heldT m_heldN m_image m_built m_fixed m_isFree m_from m_some m_field m_queue m_near m_open m_closed m_at m_begin m_sort m_lastQ m_lastR m_lastT m_readN] : List ZW).flatten)) rfl trivial ?_
          exact ih _ _ _ _ h kk
        · rw [if_neg hc11] at h
          refine Go.br zk_X12_settles rfl rfl (fun q => absurd q hc11) (fun _ => ?_)
          refine Go.blk zk_X12_settles [0, 0, 0, 0] (z' := (16, [some (.ref m_p), some (.int v1), some (.int v2), some (.int (v3 + 1)), none], [], ([sMo m_p m_a m_d m_was m_kept m_read m_text m_typed m_n m_q m_r m_t m_heldQ m_heldR m_heldT m_heldN m_image m_built m_fixed m_isFree m_from m_some m_field m_queue m_near m_open m_closed m_at m_begin m_sort m_lastQ m_lastR m_lastT m_readN] : List ZW).flatten)) rfl trivial ?_
          exact ih _ _ _ _ h kk
    · rw [if_neg hc3] at h
      refine Go.br zk_X12_settles rfl rfl (fun q => absurd q hc3) (fun _ => ?_)
      obtain rfl := Option.some.inj h
      refine Go.weak (L := [some (.ref m_p), some (.int v1), some (.int v2), some (.int v3), none]) (L' := [some (.ref m_p), some (.int v1), some (.int v2), none, none]) (And.intro rfl (And.intro rfl (And.intro rfl (trivial)))) ?_
      exact kk
set_option maxHeartbeats 4000000 in
set_option maxRecDepth 100000 in
theorem t_X12_settles_L74 {N : Nat} {m_p : Nat} {m_a : Nat → Nat} {m_d : List Int32} {m_was : List Int32} {m_kept : Int32} {m_read : List Int32} {m_text : List Int32} {m_typed : Int32} {m_n : Int32} {m_t : List Int32} {m_heldQ : List Int32} {m_heldR : List Int32} {m_heldT : List Int32} {m_heldN : Int32} {m_image : List Int32} {m_built : Int32} {m_fixed : List Int64} {m_isFree : List Int32} {m_from : List Int32} {m_some : List Int64} {m_field : List Int32} {m_queue : List Int32} {m_near : List Int32} {m_open : List Int32} {m_closed : List Int32} {m_at : Int32} {m_begin : Int32} {m_sort : Int32} {m_lastQ : Int32} {m_lastR : Int32} {m_lastT : Int32} {m_readN : Int32} {v1 : Int32} {v2 : Int32}  {Q : Option Value → ZW → Prop} : ∀ (fu : Nat) (v3 : Int32) (m_q : List Int32) (m_r : List Int32) (e : (List Int32) × (List Int32)), f_X12_settles_L74 N v1 v2 m_n fu v3 m_q m_r = some e → (Go l D r (z_rl xs) zm_X12_settles 0 0 (108, [some (.ref m_p), none, none, none, none], [], ([sMo m_p m_a m_d m_was m_kept m_read m_text m_typed m_n e.1 e.2 m_t m_heldQ m_heldR m_heldT m_heldN m_image m_built m_fixed m_isFree m_from m_some m_field m_queue m_near m_open m_closed m_at m_begin m_sort m_lastQ m_lastR m_lastT m_readN] : List ZW).flatten) Q) → Go l D r (z_rl xs) zm_X12_settles 0 0 (74, [some (.ref m_p), some (.int v1), some (.int v2), some (.int v3), none], [], ([sMo m_p m_a m_d m_was m_kept m_read m_text m_typed m_n m_q m_r m_t m_heldQ m_heldR m_heldT m_heldN m_image m_built m_fixed m_isFree m_from m_some m_field m_queue m_near m_open m_closed m_at m_begin m_sort m_lastQ m_lastR m_lastT m_readN] : List ZW).flatten) Q := by
  intro fu
  induction fu with
  | zero =>
    intro v3 m_q m_r e h
    simp only [f_X12_settles_L74, reduceCtorEq] at h
  | succ fu ih =>
    intro v3 m_q m_r e h kk
    rw [f_X12_settles_L74] at h
    refine Go.blk zk_X12_settles [0, 0, 0] (z' := (79, [some (.ref m_p), some (.int v1), some (.int v2), some (.int v3), none], [.int m_n, .int v3], ([sMo m_p m_a m_d m_was m_kept m_read m_text m_typed m_n m_q m_r m_t m_heldQ m_heldR m_heldT m_heldN m_image m_built m_fixed m_isFree m_from m_some m_field m_queue m_near m_open m_closed m_at m_begin m_sort m_lastQ m_lastR m_lastT m_readN] : List ZW).flatten)) rfl ⟨rfl, trivial⟩ ?_
    by_cases hc14 : v3 < m_n
    · rw [if_pos hc14] at h
      refine Go.br zk_X12_settles rfl rfl (fun _ => ?_) (fun q => absurd hc14 q)
      refine Go.blk zk_X12_settles [0, 0, 0, 0] (z' := (88, [some (.ref m_p), some (.int v1), some (.int v2), some (.int v3), none], [.int v3, .ref (m_a 4), .int v3, .ref (m_a 4)], ([sMo m_p m_a m_d m_was m_kept m_read m_text m_typed m_n m_q m_r m_t m_heldQ m_heldR m_heldT m_heldN m_image m_built m_fixed m_isFree m_from m_some m_field m_queue m_near m_open m_closed m_at m_begin m_sort m_lastQ m_lastR m_lastT m_readN] : List ZW).flatten)) rfl ⟨rfl, trivial⟩ ?_
      obtain ⟨x15, hx15, h⟩ := z_bind h
      refine Go.iald zk_X12_settles 5 rfl rfl rfl hx15 ?_
      refine Go.blk zk_X12_settles [0, 0] (z' := (91, [some (.ref m_p), some (.int v1), some (.int v2), some (.int v3), none], [.int (x15 - v1), .int v3, .ref (m_a 4)], ([sMo m_p m_a m_d m_was m_kept m_read m_text m_typed m_n m_q m_r m_t m_heldQ m_heldR m_heldT m_heldN m_image m_built m_fixed m_isFree m_from m_some m_field m_queue m_near m_open m_closed m_at m_begin m_sort m_lastQ m_lastR m_lastT m_readN] : List ZW).flatten)) rfl trivial ?_
      obtain ⟨t16, ht16, h⟩ := z_bind h
      refine Go.iast zk_X12_settles 5 rfl rfl rfl ht16 ?_
      refine Go.eqz (z2 := (92, [some (.ref m_p), some (.int v1), some (.int v2), some (.int v3), none], [], ([sMo m_p m_a m_d m_was m_kept m_read m_text m_typed m_n t16 m_r m_t m_heldQ m_heldR m_heldT m_heldN m_image m_built m_fixed m_isFree m_from m_some m_field m_queue m_near m_open m_closed m_at m_begin m_sort m_lastQ m_lastR m_lastT m_readN] : List ZW).flatten)) rfl ?_
      refine Go.blk zk_X12_settles [0, 0, 0, 0] (z' := (98, [some (.ref m_p), some (.int v1), some (.int v2), some (.int v3), none], [.int v3, .ref (m_a 5), .int v3, .ref (m_a 5)], ([sMo m_p m_a m_d m_was m_kept m_read m_text m_typed m_n t16 m_r m_t m_heldQ m_heldR m_heldT m_heldN m_image m_built m_fixed m_isFree m_from m_some m_field m_queue m_near m_open m_closed m_at m_begin m_sort m_lastQ m_lastR m_lastT m_readN] : List ZW).flatten)) rfl ⟨rfl, trivial⟩ ?_
      obtain ⟨x17, hx17, h⟩ := z_bind h
      refine Go.iald zk_X12_settles 6 rfl rfl rfl hx17 ?_
      refine Go.blk zk_X12_settles [0, 0] (z' := (101, [some (.ref m_p), some (.int v1), some (.int v2), some (.int v3), none], [.int (x17 - v2), .int v3, .ref (m_a 5)], ([sMo m_p m_a m_d m_was m_kept m_read m_text m_typed m_n t16 m_r m_t m_heldQ m_heldR m_heldT m_heldN m_image m_built m_fixed m_isFree m_from m_some m_field m_queue m_near m_open m_closed m_at m_begin m_sort m_lastQ m_lastR m_lastT m_readN] : List ZW).flatten)) rfl trivial ?_
      obtain ⟨t18, ht18, h⟩ := z_bind h
      refine Go.iast zk_X12_settles 6 rfl rfl rfl ht18 ?_
      refine Go.eqz (z2 := (102, [some (.ref m_p), some (.int v1), some (.int v2), some (.int v3), none], [], ([sMo m_p m_a m_d m_was m_kept m_read m_text m_typed m_n t16 t18 m_t m_heldQ m_heldR m_heldT m_heldN m_image m_built m_fixed m_isFree m_from m_some m_field m_queue m_near m_open m_closed m_at m_begin m_sort m_lastQ m_lastR m_lastT m_readN] : List ZW).flatten)) rfl ?_
      refine Go.blk zk_X12_settles [0, 0] (z' := (74, [some (.ref m_p), some (.int v1), some (.int v2), some (.int (v3 + 1)), none], [], ([sMo m_p m_a m_d m_was m_kept m_read m_text m_typed m_n t16 t18 m_t m_heldQ m_heldR m_heldT m_heldN m_image m_built m_fixed m_isFree m_from m_some m_field m_queue m_near m_open m_closed m_at m_begin m_sort m_lastQ m_lastR m_lastT m_readN] : List ZW).flatten)) rfl trivial ?_
      exact ih _ _ _ _ h kk
    · rw [if_neg hc14] at h
      refine Go.br zk_X12_settles rfl rfl (fun q => absurd q hc14) (fun _ => ?_)
      obtain rfl := Option.some.inj h
      refine Go.weak (L := [some (.ref m_p), some (.int v1), some (.int v2), some (.int v3), none]) (L' := [some (.ref m_p), none, none, none, none]) (And.intro rfl (trivial)) ?_
      exact kk
set_option maxHeartbeats 4000000 in
set_option maxRecDepth 100000 in
theorem t_X12_settles_L121 {N : Nat} {m_p : Nat} {m_a : Nat → Nat} {m_d : List Int32} {m_was : List Int32} {m_kept : Int32} {m_read : List Int32} {m_text : List Int32} {m_typed : Int32} {m_n : Int32} {m_heldQ : List Int32} {m_heldR : List Int32} {m_heldT : List Int32} {m_heldN : Int32} {m_image : List Int32} {m_built : Int32} {m_fixed : List Int64} {m_isFree : List Int32} {m_from : List Int32} {m_some : List Int64} {m_field : List Int32} {m_queue : List Int32} {m_near : List Int32} {m_open : List Int32} {m_closed : List Int32} {m_at : Int32} {m_begin : Int32} {m_sort : Int32} {m_lastQ : Int32} {m_lastR : Int32} {m_lastT : Int32} {m_readN : Int32} {v3 : Int32}  {Q : Option Value → ZW → Prop} : ∀ (fu : Nat) (v4 : Int32) (m_q : List Int32) (m_r : List Int32) (m_t : List Int32) (e : (List Int32) × (List Int32) × (List Int32)), f_X12_settles_L121 N  fu v4 m_q m_r m_t = some e → (Go l D r (z_rl xs) zm_X12_settles 0 0 (159, [some (.ref m_p), none, none, some (.int v3), none], [], ([sMo m_p m_a m_d m_was m_kept m_read m_text m_typed m_n e.1 e.2.1 e.2.2 m_heldQ m_heldR m_heldT m_heldN m_image m_built m_fixed m_isFree m_from m_some m_field m_queue m_near m_open m_closed m_at m_begin m_sort m_lastQ m_lastR m_lastT m_readN] : List ZW).flatten) Q) → Go l D r (z_rl xs) zm_X12_settles 0 0 (121, [some (.ref m_p), none, none, some (.int v3), some (.int v4)], [], ([sMo m_p m_a m_d m_was m_kept m_read m_text m_typed m_n m_q m_r m_t m_heldQ m_heldR m_heldT m_heldN m_image m_built m_fixed m_isFree m_from m_some m_field m_queue m_near m_open m_closed m_at m_begin m_sort m_lastQ m_lastR m_lastT m_readN] : List ZW).flatten) Q := by
  intro fu
  induction fu with
  | zero =>
    intro v4 m_q m_r m_t e h
    simp only [f_X12_settles_L121, reduceCtorEq] at h
  | succ fu ih =>
    intro v4 m_q m_r m_t e h kk
    rw [f_X12_settles_L121] at h
    refine Go.blk zk_X12_settles [0] (z' := (123, [some (.ref m_p), none, none, some (.int v3), some (.int v4)], [.int v4], ([sMo m_p m_a m_d m_was m_kept m_read m_text m_typed m_n m_q m_r m_t m_heldQ m_heldR m_heldT m_heldN m_image m_built m_fixed m_isFree m_from m_some m_field m_queue m_near m_open m_closed m_at m_begin m_sort m_lastQ m_lastR m_lastT m_readN] : List ZW).flatten)) rfl trivial ?_
    by_cases hc21 : 0 < v4
    · rw [if_pos hc21] at h
      refine Go.br zk_X12_settles rfl rfl (fun _ => ?_) (fun q => absurd hc21 q)
      refine Go.blk zk_X12_settles [0, 0, 0, 0] (z' := (131, [some (.ref m_p), none, none, some (.int v3), some (.int v4)], [.int (v4 - 1), .ref m_p], ([sMo m_p m_a m_d m_was m_kept m_read m_text m_typed m_n m_q m_r m_t m_heldQ m_heldR m_heldT m_heldN m_image m_built m_fixed m_isFree m_from m_some m_field m_queue m_near m_open m_closed m_at m_begin m_sort m_lastQ m_lastR m_lastT m_readN] : List ZW).flatten)) rfl trivial ?_
      obtain ⟨u22, hu22, h⟩ := z_bind h
      refine Go.vs zk_X12_settles zm_X12_place [0] [] 0 12 1 (S := [sMo m_p m_a m_d m_was m_kept m_read m_text m_typed m_n m_q m_r m_t m_heldQ m_heldR m_heldT m_heldN m_image m_built m_fixed m_isFree m_from m_some m_field m_queue m_near m_open m_closed m_at m_begin m_sort m_lastQ m_lastR m_lastT m_readN]) (S2 := [sMo m_p m_a m_d m_was m_kept m_read m_text m_typed m_n m_q m_r m_t m_heldQ m_heldR m_heldT m_heldN m_image m_built m_fixed m_isFree m_from m_some m_field m_queue m_near m_open m_closed m_at m_begin m_sort m_lastQ m_lastR m_lastT m_readN]) (As := [.int (v4 - 1)]) (rest := []) (st2 := [.int u22]) (v1 := some (.int u22)) rfl zl_X12_105 zv_X12_place ⟨Nat.le_of_ble_eq_true rfl, Nat.le_of_ble_eq_true rfl⟩ rfl (by decide) rfl rfl rfl rfl rfl (Nat.le_of_ble_eq_true rfl) (t_X12_place hu22) rfl rfl rfl ?_
      refine Go.blk zk_X12_settles [0, 0] (z' := (137, [some (.ref m_p), none, none, some (.int v3), some (.int v4)], [.int v4, .ref m_p, .int u22], ([sMo m_p m_a m_d m_was m_kept m_read m_text m_typed m_n m_q m_r m_t m_heldQ m_heldR m_heldT m_heldN m_image m_built m_fixed m_isFree m_from m_some m_field m_queue m_near m_open m_closed m_at m_begin m_sort m_lastQ m_lastR m_lastT m_readN] : List ZW).flatten)) rfl trivial ?_
      obtain ⟨u23, hu23, h⟩ := z_bind h
      refine Go.vs zk_X12_settles zm_X12_place [0] [] 0 12 1 (S := [sMo m_p m_a m_d m_was m_kept m_read m_text m_typed m_n m_q m_r m_t m_heldQ m_heldR m_heldT m_heldN m_image m_built m_fixed m_isFree m_from m_some m_field m_queue m_near m_open m_closed m_at m_begin m_sort m_lastQ m_lastR m_lastT m_readN]) (S2 := [sMo m_p m_a m_d m_was m_kept m_read m_text m_typed m_n m_q m_r m_t m_heldQ m_heldR m_heldT m_heldN m_image m_built m_fixed m_isFree m_from m_some m_field m_queue m_near m_open m_closed m_at m_begin m_sort m_lastQ m_lastR m_lastT m_readN]) (As := [.int v4]) (rest := [.int u22]) (st2 := [.int u23, .int u22]) (v1 := some (.int u23)) rfl zl_X12_105 zv_X12_place ⟨Nat.le_of_ble_eq_true rfl, Nat.le_of_ble_eq_true rfl⟩ rfl (by decide) rfl rfl rfl rfl rfl (Nat.le_of_ble_eq_true rfl) (t_X12_place hu23) rfl rfl rfl ?_
      by_cases hc24 : u23 < u22
      · rw [if_pos hc24] at h
        refine Go.br zk_X12_settles rfl rfl (fun _ => ?_) (fun q => absurd hc24 q)
        refine Go.blk zk_X12_settles [0, 0, 0, 0, 0] (z' := (150, [some (.ref m_p), none, none, some (.int v3), some (.int v4)], [.int v4, .int (v4 - 1), .ref m_p], ([sMo m_p m_a m_d m_was m_kept m_read m_text m_typed m_n m_q m_r m_t m_heldQ m_heldR m_heldT m_heldN m_image m_built m_fixed m_isFree m_from m_some m_field m_queue m_near m_open m_closed m_at m_begin m_sort m_lastQ m_lastR m_lastT m_readN] : List ZW).flatten)) rfl trivial ?_
        obtain ⟨u25, hu25, h⟩ := z_bind h
        refine Go.vs zk_X12_settles zm_X12_exchanges [0] [] 0 12 1 (S := [sMo m_p m_a m_d m_was m_kept m_read m_text m_typed m_n m_q m_r m_t m_heldQ m_heldR m_heldT m_heldN m_image m_built m_fixed m_isFree m_from m_some m_field m_queue m_near m_open m_closed m_at m_begin m_sort m_lastQ m_lastR m_lastT m_readN]) (S2 := [sMo m_p m_a m_d m_was m_kept m_read m_text m_typed m_n u25.1 u25.2.1 u25.2.2 m_heldQ m_heldR m_heldT m_heldN m_image m_built m_fixed m_isFree m_from m_some m_field m_queue m_near m_open m_closed m_at m_begin m_sort m_lastQ m_lastR m_lastT m_readN]) (As := [.int (v4 - 1), .int v4]) (rest := []) (st2 := []) (v1 := none) rfl zl_X12_108 zv_X12_exchanges ⟨Nat.le_of_ble_eq_true rfl, Nat.le_of_ble_eq_true rfl⟩ rfl (by decide) rfl rfl rfl rfl rfl (Nat.le_of_ble_eq_true rfl) (t_X12_exchanges hu25) rfl rfl rfl ?_
        refine Go.blk zk_X12_settles [0, 0] (z' := (121, [some (.ref m_p), none, none, some (.int v3), some (.int (v4 + (-1)))], [], ([sMo m_p m_a m_d m_was m_kept m_read m_text m_typed m_n u25.1 u25.2.1 u25.2.2 m_heldQ m_heldR m_heldT m_heldN m_image m_built m_fixed m_isFree m_from m_some m_field m_queue m_near m_open m_closed m_at m_begin m_sort m_lastQ m_lastR m_lastT m_readN] : List ZW).flatten)) rfl trivial ?_
        exact ih _ _ _ _ _ h kk
      · rw [if_neg hc24] at h
        refine Go.br zk_X12_settles rfl rfl (fun q => absurd q hc24) (fun _ => ?_)
        obtain rfl := Option.some.inj h
        refine Go.weak (L := [some (.ref m_p), none, none, some (.int v3), some (.int v4)]) (L' := [some (.ref m_p), none, none, some (.int v3), none]) (And.intro rfl (And.intro rfl (trivial))) ?_
        exact kk
    · rw [if_neg hc21] at h
      refine Go.br zk_X12_settles rfl rfl (fun q => absurd q hc21) (fun _ => ?_)
      obtain rfl := Option.some.inj h
      refine Go.weak (L := [some (.ref m_p), none, none, some (.int v3), some (.int v4)]) (L' := [some (.ref m_p), none, none, some (.int v3), none]) (And.intro rfl (And.intro rfl (trivial))) ?_
      exact kk
set_option maxHeartbeats 4000000 in
set_option maxRecDepth 100000 in
theorem t_X12_settles_L110 {N : Nat} {m_p : Nat} {m_a : Nat → Nat} {m_d : List Int32} {m_was : List Int32} {m_kept : Int32} {m_read : List Int32} {m_text : List Int32} {m_typed : Int32} {m_n : Int32} {m_heldQ : List Int32} {m_heldR : List Int32} {m_heldT : List Int32} {m_heldN : Int32} {m_image : List Int32} {m_built : Int32} {m_fixed : List Int64} {m_isFree : List Int32} {m_from : List Int32} {m_some : List Int64} {m_field : List Int32} {m_queue : List Int32} {m_near : List Int32} {m_open : List Int32} {m_closed : List Int32} {m_at : Int32} {m_begin : Int32} {m_sort : Int32} {m_lastQ : Int32} {m_lastR : Int32} {m_lastT : Int32} {m_readN : Int32}  {Q : Option Value → ZW → Prop} : ∀ (fu : Nat) (v3 : Int32) (m_q : List Int32) (m_r : List Int32) (m_t : List Int32) (e : (List Int32) × (List Int32) × (List Int32)), f_X12_settles_L110 N m_n fu v3 m_q m_r m_t = some e → (Go l D r (z_rl xs) zm_X12_settles 0 0 (165, [none, none, none, none, none], [], ([sMo m_p m_a m_d m_was m_kept m_read m_text m_typed m_n e.1 e.2.1 e.2.2 m_heldQ m_heldR m_heldT m_heldN m_image m_built m_fixed m_isFree m_from m_some m_field m_queue m_near m_open m_closed m_at m_begin m_sort m_lastQ m_lastR m_lastT m_readN] : List ZW).flatten) Q) → Go l D r (z_rl xs) zm_X12_settles 0 0 (110, [some (.ref m_p), none, none, some (.int v3), none], [], ([sMo m_p m_a m_d m_was m_kept m_read m_text m_typed m_n m_q m_r m_t m_heldQ m_heldR m_heldT m_heldN m_image m_built m_fixed m_isFree m_from m_some m_field m_queue m_near m_open m_closed m_at m_begin m_sort m_lastQ m_lastR m_lastT m_readN] : List ZW).flatten) Q := by
  intro fu
  induction fu with
  | zero =>
    intro v3 m_q m_r m_t e h
    simp only [f_X12_settles_L110, reduceCtorEq] at h
  | succ fu ih =>
    intro v3 m_q m_r m_t e h kk
    rw [f_X12_settles_L110] at h
    refine Go.blk zk_X12_settles [0, 0, 0] (z' := (115, [some (.ref m_p), none, none, some (.int v3), none], [.int m_n, .int v3], ([sMo m_p m_a m_d m_was m_kept m_read m_text m_typed m_n m_q m_r m_t m_heldQ m_heldR m_heldT m_heldN m_image m_built m_fixed m_isFree m_from m_some m_field m_queue m_near m_open m_closed m_at m_begin m_sort m_lastQ m_lastR m_lastT m_readN] : List ZW).flatten)) rfl ⟨rfl, trivial⟩ ?_
    by_cases hc20 : v3 < m_n
    · rw [if_pos hc20] at h
      refine Go.br zk_X12_settles rfl rfl (fun _ => ?_) (fun q => absurd hc20 q)
      refine Go.blk zk_X12_settles [0, 0] (z' := (121, [some (.ref m_p), none, none, some (.int v3), some (.int v3)], [], ([sMo m_p m_a m_d m_was m_kept m_read m_text m_typed m_n m_q m_r m_t m_heldQ m_heldR m_heldT m_heldN m_image m_built m_fixed m_isFree m_from m_some m_field m_queue m_near m_open m_closed m_at m_begin m_sort m_lastQ m_lastR m_lastT m_readN] : List ZW).flatten)) rfl trivial ?_
      obtain ⟨e26, he26, h⟩ := z_bind h
      refine t_X12_settles_L121 N _ _ _ _ _ he26 ?_
      refine Go.blk zk_X12_settles [0, 0] (z' := (110, [some (.ref m_p), none, none, some (.int (v3 + 1)), none], [], ([sMo m_p m_a m_d m_was m_kept m_read m_text m_typed m_n e26.1 e26.2.1 e26.2.2 m_heldQ m_heldR m_heldT m_heldN m_image m_built m_fixed m_isFree m_from m_some m_field m_queue m_near m_open m_closed m_at m_begin m_sort m_lastQ m_lastR m_lastT m_readN] : List ZW).flatten)) rfl trivial ?_
      exact ih _ _ _ _ _ h kk
    · rw [if_neg hc20] at h
      refine Go.br zk_X12_settles rfl rfl (fun q => absurd q hc20) (fun _ => ?_)
      obtain rfl := Option.some.inj h
      refine Go.weak (L := [some (.ref m_p), none, none, some (.int v3), none]) (L' := [none, none, none, none, none]) (trivial) ?_
      exact kk
set_option maxHeartbeats 4000000 in
set_option maxRecDepth 100000 in
theorem t_X12_settles {N : Nat} {m_p : Nat} {m_a : Nat → Nat} {m_d : List Int32} {m_was : List Int32} {m_kept : Int32} {m_read : List Int32} {m_text : List Int32} {m_typed : Int32} {m_n : Int32} {m_q : List Int32} {m_r : List Int32} {m_t : List Int32} {m_heldQ : List Int32} {m_heldR : List Int32} {m_heldT : List Int32} {m_heldN : Int32} {m_image : List Int32} {m_built : Int32} {m_fixed : List Int64} {m_isFree : List Int32} {m_from : List Int32} {m_some : List Int64} {m_field : List Int32} {m_queue : List Int32} {m_near : List Int32} {m_open : List Int32} {m_closed : List Int32} {m_at : Int32} {m_begin : Int32} {m_sort : Int32} {m_lastQ : Int32} {m_lastR : Int32} {m_lastT : Int32} {m_readN : Int32} {u : (List Int32) × (List Int32) × (List Int32)}  (h : f_X12_settles N m_n m_q m_r m_t = some u) : Ct l D r (z_rl xs) zm_X12_settles 0 0 [.ref m_p] ([sMo m_p m_a m_d m_was m_kept m_read m_text m_typed m_n m_q m_r m_t m_heldQ m_heldR m_heldT m_heldN m_image m_built m_fixed m_isFree m_from m_some m_field m_queue m_near m_open m_closed m_at m_begin m_sort m_lastQ m_lastR m_lastT m_readN] : List ZW).flatten (fun v' w' => v' = none ∧ w' = ([sMo m_p m_a m_d m_was m_kept m_read m_text m_typed m_n u.1 u.2.1 u.2.2 m_heldQ m_heldR m_heldT m_heldN m_image m_built m_fixed m_isFree m_from m_some m_field m_queue m_near m_open m_closed m_at m_begin m_sort m_lastQ m_lastR m_lastT m_readN] : List ZW).flatten) := by
  refine Ct.of (by decide +kernel) rfl (fun q => absurd q (by decide)) (Nat.le_of_ble_eq_true rfl) ?_
  refine Go.eqz (z2 := (0, [some (.ref m_p), none, none, none, none], [], ([sMo m_p m_a m_d m_was m_kept m_read m_text m_typed m_n m_q m_r m_t m_heldQ m_heldR m_heldT m_heldN m_image m_built m_fixed m_isFree m_from m_some m_field m_queue m_near m_open m_closed m_at m_begin m_sort m_lastQ m_lastR m_lastT m_readN] : List ZW).flatten)) rfl ?_
  unfold f_X12_settles at h
  refine Go.blk zk_X12_settles [0, 0, 0] (z' := (5, [some (.ref m_p), none, none, none, none], [.int 0, .ref (m_a 4)], ([sMo m_p m_a m_d m_was m_kept m_read m_text m_typed m_n m_q m_r m_t m_heldQ m_heldR m_heldT m_heldN m_image m_built m_fixed m_isFree m_from m_some m_field m_queue m_near m_open m_closed m_at m_begin m_sort m_lastQ m_lastR m_lastT m_readN] : List ZW).flatten)) rfl ⟨rfl, trivial⟩ ?_
  obtain ⟨x1, hx1, h⟩ := z_bind h
  refine Go.iald zk_X12_settles 5 rfl rfl rfl hx1 ?_
  refine Go.blk zk_X12_settles [0, 0, 0, 0] (z' := (12, [some (.ref m_p), some (.int x1), none, none, none], [.int 0, .ref (m_a 5)], ([sMo m_p m_a m_d m_was m_kept m_read m_text m_typed m_n m_q m_r m_t m_heldQ m_heldR m_heldT m_heldN m_image m_built m_fixed m_isFree m_from m_some m_field m_queue m_near m_open m_closed m_at m_begin m_sort m_lastQ m_lastR m_lastT m_readN] : List ZW).flatten)) rfl ⟨rfl, trivial⟩ ?_
  obtain ⟨x2, hx2, h⟩ := z_bind h
  refine Go.iald zk_X12_settles 6 rfl rfl rfl hx2 ?_
  refine Go.blk zk_X12_settles [0, 0, 0] (z' := (16, [some (.ref m_p), some (.int x1), some (.int x2), some (.int 1), none], [], ([sMo m_p m_a m_d m_was m_kept m_read m_text m_typed m_n m_q m_r m_t m_heldQ m_heldR m_heldT m_heldN m_image m_built m_fixed m_isFree m_from m_some m_field m_queue m_near m_open m_closed m_at m_begin m_sort m_lastQ m_lastR m_lastT m_readN] : List ZW).flatten)) rfl trivial ?_
  obtain ⟨e13, he13, h⟩ := z_bind h
  refine t_X12_settles_L16 N _ _ _ _ he13 ?_
  refine Go.blk zk_X12_settles [0, 0] (z' := (74, [some (.ref m_p), some (.int e13.1), some (.int e13.2), some (.int 0), none], [], ([sMo m_p m_a m_d m_was m_kept m_read m_text m_typed m_n m_q m_r m_t m_heldQ m_heldR m_heldT m_heldN m_image m_built m_fixed m_isFree m_from m_some m_field m_queue m_near m_open m_closed m_at m_begin m_sort m_lastQ m_lastR m_lastT m_readN] : List ZW).flatten)) rfl trivial ?_
  obtain ⟨e19, he19, h⟩ := z_bind h
  refine t_X12_settles_L74 N _ _ _ _ he19 ?_
  refine Go.blk zk_X12_settles [0, 0] (z' := (110, [some (.ref m_p), none, none, some (.int 1), none], [], ([sMo m_p m_a m_d m_was m_kept m_read m_text m_typed m_n e19.1 e19.2 m_t m_heldQ m_heldR m_heldT m_heldN m_image m_built m_fixed m_isFree m_from m_some m_field m_queue m_near m_open m_closed m_at m_begin m_sort m_lastQ m_lastR m_lastT m_readN] : List ZW).flatten)) rfl trivial ?_
  obtain ⟨e27, he27, h⟩ := z_bind h
  refine t_X12_settles_L110 N _ _ _ _ _ he27 ?_
  obtain rfl := Option.some.inj h
  exact Go.vret zk_X12_settles rfl rfl ⟨rfl, rfl⟩
set_option maxHeartbeats 4000000 in
set_option maxRecDepth 100000 in
theorem t_X12_isWide_L4 {N : Nat} {m_p : Nat} {m_a : Nat → Nat} {m_d : List Int32} {m_was : List Int32} {m_kept : Int32} {m_read : List Int32} {m_text : List Int32} {m_typed : Int32} {m_n : Int32} {m_q : List Int32} {m_r : List Int32} {m_t : List Int32} {m_heldQ : List Int32} {m_heldR : List Int32} {m_heldT : List Int32} {m_heldN : Int32} {m_image : List Int32} {m_built : Int32} {m_fixed : List Int64} {m_isFree : List Int32} {m_from : List Int32} {m_some : List Int64} {m_field : List Int32} {m_queue : List Int32} {m_near : List Int32} {m_open : List Int32} {m_closed : List Int32} {m_at : Int32} {m_begin : Int32} {m_sort : Int32} {m_lastQ : Int32} {m_lastR : Int32} {m_lastT : Int32} {m_readN : Int32}  {Q : Option Value → ZW → Prop} : ∀ (fu : Nat) (v1 : Int32) (v2 : Int32) (e : Int32), f_X12_isWide_L4 N m_n m_q m_r fu v1 v2 = some e → (Go l D r (z_rl xs) zm_X12_isWide 0 0 (50, [none, some (.int e), none], [], ([sMo m_p m_a m_d m_was m_kept m_read m_text m_typed m_n m_q m_r m_t m_heldQ m_heldR m_heldT m_heldN m_image m_built m_fixed m_isFree m_from m_some m_field m_queue m_near m_open m_closed m_at m_begin m_sort m_lastQ m_lastR m_lastT m_readN] : List ZW).flatten) Q) → Go l D r (z_rl xs) zm_X12_isWide 0 0 (4, [some (.ref m_p), some (.int v1), some (.int v2)], [], ([sMo m_p m_a m_d m_was m_kept m_read m_text m_typed m_n m_q m_r m_t m_heldQ m_heldR m_heldT m_heldN m_image m_built m_fixed m_isFree m_from m_some m_field m_queue m_near m_open m_closed m_at m_begin m_sort m_lastQ m_lastR m_lastT m_readN] : List ZW).flatten) Q := by
  intro fu
  induction fu with
  | zero =>
    intro v1 v2 e h
    simp only [f_X12_isWide_L4, reduceCtorEq] at h
  | succ fu ih =>
    intro v1 v2 e h kk
    rw [f_X12_isWide_L4] at h
    refine Go.blk zk_X12_isWide [0, 0, 0] (z' := (9, [some (.ref m_p), some (.int v1), some (.int v2)], [.int m_n, .int v2], ([sMo m_p m_a m_d m_was m_kept m_read m_text m_typed m_n m_q m_r m_t m_heldQ m_heldR m_heldT m_heldN m_image m_built m_fixed m_isFree m_from m_some m_field m_queue m_near m_open m_closed m_at m_begin m_sort m_lastQ m_lastR m_lastT m_readN] : List ZW).flatten)) rfl ⟨rfl, trivial⟩ ?_
    by_cases hc1 : v2 < m_n
    · rw [if_pos hc1] at h
      refine Go.br zk_X12_isWide rfl rfl (fun _ => ?_) (fun q => absurd hc1 q)
      refine Go.blk zk_X12_isWide [0] (z' := (13, [some (.ref m_p), some (.int v1), some (.int v2)], [.int v1], ([sMo m_p m_a m_d m_was m_kept m_read m_text m_typed m_n m_q m_r m_t m_heldQ m_heldR m_heldT m_heldN m_image m_built m_fixed m_isFree m_from m_some m_field m_queue m_near m_open m_closed m_at m_begin m_sort m_lastQ m_lastR m_lastT m_readN] : List ZW).flatten)) rfl trivial ?_
      by_cases hc2 : v1 = 0
      · rw [if_pos hc2] at h
        refine Go.br zk_X12_isWide rfl rfl (fun _ => ?_) (fun q => absurd hc2 q)
        refine Go.blk zk_X12_isWide [0, 0, 0] (z' := (21, [some (.ref m_p), some (.int v1), some (.int v2)], [.int v2, .ref (m_a 4)], ([sMo m_p m_a m_d m_was m_kept m_read m_text m_typed m_n m_q m_r m_t m_heldQ m_heldR m_heldT m_heldN m_image m_built m_fixed m_isFree m_from m_some m_field m_queue m_near m_open m_closed m_at m_begin m_sort m_lastQ m_lastR m_lastT m_readN] : List ZW).flatten)) rfl ⟨rfl, trivial⟩ ?_
        obtain ⟨x3, hx3, h⟩ := z_bind h
        refine Go.iald zk_X12_isWide 5 rfl rfl rfl hx3 ?_
        refine Go.blk zk_X12_isWide [0] (z' := (24, [some (.ref m_p), some (.int v1), some (.int v2)], [.int 9, .int x3], ([sMo m_p m_a m_d m_was m_kept m_read m_text m_typed m_n m_q m_r m_t m_heldQ m_heldR m_heldT m_heldN m_image m_built m_fixed m_isFree m_from m_some m_field m_queue m_near m_open m_closed m_at m_begin m_sort m_lastQ m_lastR m_lastT m_readN] : List ZW).flatten)) rfl trivial ?_
        by_cases hc4 : 9 < x3
        · rw [if_pos hc4] at h
          refine Go.br zk_X12_isWide rfl rfl (fun _ => ?_) (fun q => absurd hc4 q)
          refine Go.blk zk_X12_isWide [0, 0, 0, 0, 0] (z' := (4, [some (.ref m_p), some (.int 1), some (.int (v2 + 1))], [], ([sMo m_p m_a m_d m_was m_kept m_read m_text m_typed m_n m_q m_r m_t m_heldQ m_heldR m_heldT m_heldN m_image m_built m_fixed m_isFree m_from m_some m_field m_queue m_near m_open m_closed m_at m_begin m_sort m_lastQ m_lastR m_lastT m_readN] : List ZW).flatten)) rfl trivial ?_
          exact ih _ _ _ h kk
        · rw [if_neg hc4] at h
          refine Go.br zk_X12_isWide rfl rfl (fun q => absurd q hc4) (fun _ => ?_)
          refine Go.blk zk_X12_isWide [0, 0, 0] (z' := (32, [some (.ref m_p), some (.int v1), some (.int v2)], [.int v2, .ref (m_a 5)], ([sMo m_p m_a m_d m_was m_kept m_read m_text m_typed m_n m_q m_r m_t m_heldQ m_heldR m_heldT m_heldN m_image m_built m_fixed m_isFree m_from m_some m_field m_queue m_near m_open m_closed m_at m_begin m_sort m_lastQ m_lastR m_lastT m_readN] : List ZW).flatten)) rfl ⟨rfl, trivial⟩ ?_
          obtain ⟨x5, hx5, h⟩ := z_bind h
          refine Go.iald zk_X12_isWide 6 rfl rfl rfl hx5 ?_
          refine Go.blk zk_X12_isWide [0] (z' := (35, [some (.ref m_p), some (.int v1), some (.int v2)], [.int 9, .int x5], ([sMo m_p m_a m_d m_was m_kept m_read m_text m_typed m_n m_q m_r m_t m_heldQ m_heldR m_heldT m_heldN m_image m_built m_fixed m_isFree m_from m_some m_field m_queue m_near m_open m_closed m_at m_begin m_sort m_lastQ m_lastR m_lastT m_readN] : List ZW).flatten)) rfl trivial ?_
          by_cases hc6 : 9 < x5
          · rw [if_pos hc6] at h
            refine Go.br zk_X12_isWide rfl rfl (fun _ => ?_) (fun q => absurd hc6 q)
            refine Go.blk zk_X12_isWide [0, 0, 0, 0, 0] (z' := (4, [some (.ref m_p), some (.int 1), some (.int (v2 + 1))], [], ([sMo m_p m_a m_d m_was m_kept m_read m_text m_typed m_n m_q m_r m_t m_heldQ m_heldR m_heldT m_heldN m_image m_built m_fixed m_isFree m_from m_some m_field m_queue m_near m_open m_closed m_at m_begin m_sort m_lastQ m_lastR m_lastT m_readN] : List ZW).flatten)) rfl trivial ?_
            exact ih _ _ _ h kk
          · rw [if_neg hc6] at h
            refine Go.br zk_X12_isWide rfl rfl (fun q => absurd q hc6) (fun _ => ?_)
            refine Go.blk zk_X12_isWide [0, 0, 0, 0] (z' := (4, [some (.ref m_p), some (.int 0), some (.int (v2 + 1))], [], ([sMo m_p m_a m_d m_was m_kept m_read m_text m_typed m_n m_q m_r m_t m_heldQ m_heldR m_heldT m_heldN m_image m_built m_fixed m_isFree m_from m_some m_field m_queue m_near m_open m_closed m_at m_begin m_sort m_lastQ m_lastR m_lastT m_readN] : List ZW).flatten)) rfl trivial ?_
            exact ih _ _ _ h kk
      · rw [if_neg hc2] at h
        refine Go.br zk_X12_isWide rfl rfl (fun q => absurd q hc2) (fun _ => ?_)
        refine Go.blk zk_X12_isWide [0, 0, 0, 0, 0] (z' := (4, [some (.ref m_p), some (.int 1), some (.int (v2 + 1))], [], ([sMo m_p m_a m_d m_was m_kept m_read m_text m_typed m_n m_q m_r m_t m_heldQ m_heldR m_heldT m_heldN m_image m_built m_fixed m_isFree m_from m_some m_field m_queue m_near m_open m_closed m_at m_begin m_sort m_lastQ m_lastR m_lastT m_readN] : List ZW).flatten)) rfl trivial ?_
        exact ih _ _ _ h kk
    · rw [if_neg hc1] at h
      refine Go.br zk_X12_isWide rfl rfl (fun q => absurd q hc1) (fun _ => ?_)
      obtain rfl := Option.some.inj h
      refine Go.weak (L := [some (.ref m_p), some (.int v1), some (.int v2)]) (L' := [none, some (.int v1), none]) (And.intro rfl (trivial)) ?_
      exact kk
set_option maxHeartbeats 4000000 in
set_option maxRecDepth 100000 in
theorem t_X12_isWide {N : Nat} {m_p : Nat} {m_a : Nat → Nat} {m_d : List Int32} {m_was : List Int32} {m_kept : Int32} {m_read : List Int32} {m_text : List Int32} {m_typed : Int32} {m_n : Int32} {m_q : List Int32} {m_r : List Int32} {m_t : List Int32} {m_heldQ : List Int32} {m_heldR : List Int32} {m_heldT : List Int32} {m_heldN : Int32} {m_image : List Int32} {m_built : Int32} {m_fixed : List Int64} {m_isFree : List Int32} {m_from : List Int32} {m_some : List Int64} {m_field : List Int32} {m_queue : List Int32} {m_near : List Int32} {m_open : List Int32} {m_closed : List Int32} {m_at : Int32} {m_begin : Int32} {m_sort : Int32} {m_lastQ : Int32} {m_lastR : Int32} {m_lastT : Int32} {m_readN : Int32} {u : Int32}  (h : f_X12_isWide N m_n m_q m_r = some u) : Ct l D r (z_rl xs) zm_X12_isWide 0 0 [.ref m_p] ([sMo m_p m_a m_d m_was m_kept m_read m_text m_typed m_n m_q m_r m_t m_heldQ m_heldR m_heldT m_heldN m_image m_built m_fixed m_isFree m_from m_some m_field m_queue m_near m_open m_closed m_at m_begin m_sort m_lastQ m_lastR m_lastT m_readN] : List ZW).flatten (fun v' w' => v' = some (.int u) ∧ w' = ([sMo m_p m_a m_d m_was m_kept m_read m_text m_typed m_n m_q m_r m_t m_heldQ m_heldR m_heldT m_heldN m_image m_built m_fixed m_isFree m_from m_some m_field m_queue m_near m_open m_closed m_at m_begin m_sort m_lastQ m_lastR m_lastT m_readN] : List ZW).flatten) := by
  refine Ct.of (by decide +kernel) rfl (fun q => absurd q (by decide)) (Nat.le_of_ble_eq_true rfl) ?_
  refine Go.eqz (z2 := (0, [some (.ref m_p), none, none], [], ([sMo m_p m_a m_d m_was m_kept m_read m_text m_typed m_n m_q m_r m_t m_heldQ m_heldR m_heldT m_heldN m_image m_built m_fixed m_isFree m_from m_some m_field m_queue m_near m_open m_closed m_at m_begin m_sort m_lastQ m_lastR m_lastT m_readN] : List ZW).flatten)) rfl ?_
  unfold f_X12_isWide at h
  refine Go.blk zk_X12_isWide [0, 0, 0, 0] (z' := (4, [some (.ref m_p), some (.int 0), some (.int 0)], [], ([sMo m_p m_a m_d m_was m_kept m_read m_text m_typed m_n m_q m_r m_t m_heldQ m_heldR m_heldT m_heldN m_image m_built m_fixed m_isFree m_from m_some m_field m_queue m_near m_open m_closed m_at m_begin m_sort m_lastQ m_lastR m_lastT m_readN] : List ZW).flatten)) rfl trivial ?_
  obtain ⟨e7, he7, h⟩ := z_bind h
  refine t_X12_isWide_L4 N _ _ _ he7 ?_
  refine Go.blk zk_X12_isWide [0] (z' := (51, [none, some (.int e7), none], [.int e7], ([sMo m_p m_a m_d m_was m_kept m_read m_text m_typed m_n m_q m_r m_t m_heldQ m_heldR m_heldT m_heldN m_image m_built m_fixed m_isFree m_from m_some m_field m_queue m_near m_open m_closed m_at m_begin m_sort m_lastQ m_lastR m_lastT m_readN] : List ZW).flatten)) rfl trivial ?_
  by_cases hb8 : e7 = 0 ∨ e7 = 1
  case neg => rw [if_neg hb8] at h; cases h
  rw [if_pos hb8] at h
  obtain rfl := Option.some.inj h
  exact Go.iret zk_X12_isWide rfl rfl (z_nrb hb8) ⟨rfl, rfl⟩
set_option maxHeartbeats 4000000 in
set_option maxRecDepth 100000 in
theorem t_X12_keyOf {N : Nat} {m_p : Nat} {m_a : Nat → Nat} {m_d : List Int32} {m_was : List Int32} {m_kept : Int32} {m_read : List Int32} {m_text : List Int32} {m_typed : Int32} {m_n : Int32} {m_q : List Int32} {m_r : List Int32} {m_t : List Int32} {m_heldQ : List Int32} {m_heldR : List Int32} {m_heldT : List Int32} {m_heldN : Int32} {m_image : List Int32} {m_built : Int32} {m_fixed : List Int64} {m_isFree : List Int32} {m_from : List Int32} {m_some : List Int64} {m_field : List Int32} {m_queue : List Int32} {m_near : List Int32} {m_open : List Int32} {m_closed : List Int32} {m_at : Int32} {m_begin : Int32} {m_sort : Int32} {m_lastQ : Int32} {m_lastR : Int32} {m_lastT : Int32} {m_readN : Int32} {i1 : Int32} {u : Int32}  (h : f_X12_keyOf N i1 m_q m_r m_t = some u) : Ct l D r (z_rl xs) zm_X12_keyOf 0 0 [.ref m_p, .int i1] ([sMo m_p m_a m_d m_was m_kept m_read m_text m_typed m_n m_q m_r m_t m_heldQ m_heldR m_heldT m_heldN m_image m_built m_fixed m_isFree m_from m_some m_field m_queue m_near m_open m_closed m_at m_begin m_sort m_lastQ m_lastR m_lastT m_readN] : List ZW).flatten (fun v' w' => v' = some (.int u) ∧ w' = ([sMo m_p m_a m_d m_was m_kept m_read m_text m_typed m_n m_q m_r m_t m_heldQ m_heldR m_heldT m_heldN m_image m_built m_fixed m_isFree m_from m_some m_field m_queue m_near m_open m_closed m_at m_begin m_sort m_lastQ m_lastR m_lastT m_readN] : List ZW).flatten) := by
  refine Ct.of (by decide +kernel) rfl (fun q => absurd q (by decide)) (Nat.le_of_ble_eq_true rfl) ?_
  refine Go.eqz (z2 := (0, [some (.ref m_p), some (.int i1)], [], ([sMo m_p m_a m_d m_was m_kept m_read m_text m_typed m_n m_q m_r m_t m_heldQ m_heldR m_heldT m_heldN m_image m_built m_fixed m_isFree m_from m_some m_field m_queue m_near m_open m_closed m_at m_begin m_sort m_lastQ m_lastR m_lastT m_readN] : List ZW).flatten)) rfl ?_
  unfold f_X12_keyOf at h
  refine Go.blk zk_X12_keyOf [0, 0, 0, 0] (z' := (7, [some (.ref m_p), some (.int i1)], [.int i1, .ref (m_a 5), .int 20], ([sMo m_p m_a m_d m_was m_kept m_read m_text m_typed m_n m_q m_r m_t m_heldQ m_heldR m_heldT m_heldN m_image m_built m_fixed m_isFree m_from m_some m_field m_queue m_near m_open m_closed m_at m_begin m_sort m_lastQ m_lastR m_lastT m_readN] : List ZW).flatten)) rfl ⟨rfl, trivial⟩ ?_
  obtain ⟨x1, hx1, h⟩ := z_bind h
  refine Go.iald zk_X12_keyOf 6 rfl rfl rfl hx1 ?_
  refine Go.blk zk_X12_keyOf [0, 0, 0, 0, 0] (z' := (15, [some (.ref m_p), some (.int i1)], [.int i1, .ref (m_a 4), .int 2, .int (20 * x1)], ([sMo m_p m_a m_d m_was m_kept m_read m_text m_typed m_n m_q m_r m_t m_heldQ m_heldR m_heldT m_heldN m_image m_built m_fixed m_isFree m_from m_some m_field m_queue m_near m_open m_closed m_at m_begin m_sort m_lastQ m_lastR m_lastT m_readN] : List ZW).flatten)) rfl ⟨rfl, trivial⟩ ?_
  obtain ⟨x2, hx2, h⟩ := z_bind h
  refine Go.iald zk_X12_keyOf 5 rfl rfl rfl hx2 ?_
  refine Go.blk zk_X12_keyOf [0, 0, 0, 0, 0] (z' := (23, [some (.ref m_p), some (.int i1)], [.int i1, .ref (m_a 6), .int ((20 * x1) + (2 * x2))], ([sMo m_p m_a m_d m_was m_kept m_read m_text m_typed m_n m_q m_r m_t m_heldQ m_heldR m_heldT m_heldN m_image m_built m_fixed m_isFree m_from m_some m_field m_queue m_near m_open m_closed m_at m_begin m_sort m_lastQ m_lastR m_lastT m_readN] : List ZW).flatten)) rfl ⟨rfl, trivial⟩ ?_
  obtain ⟨x3, hx3, h⟩ := z_bind h
  refine Go.iald zk_X12_keyOf 7 rfl rfl rfl hx3 ?_
  refine Go.blk zk_X12_keyOf [0] (z' := (25, [some (.ref m_p), some (.int i1)], [.int (((20 * x1) + (2 * x2)) + x3)], ([sMo m_p m_a m_d m_was m_kept m_read m_text m_typed m_n m_q m_r m_t m_heldQ m_heldR m_heldT m_heldN m_image m_built m_fixed m_isFree m_from m_some m_field m_queue m_near m_open m_closed m_at m_begin m_sort m_lastQ m_lastR m_lastT m_readN] : List ZW).flatten)) rfl trivial ?_
  obtain rfl := Option.some.inj h
  exact Go.iret zk_X12_keyOf rfl rfl rfl ⟨rfl, rfl⟩
set_option maxHeartbeats 4000000 in
set_option maxRecDepth 100000 in
theorem t_X12_packs_L4 {N : Nat} {m_p : Nat} {m_a : Nat → Nat} {m_d : List Int32} {m_was : List Int32} {m_kept : Int32} {m_read : List Int32} {m_text : List Int32} {m_typed : Int32} {m_n : Int32} {m_q : List Int32} {m_r : List Int32} {m_t : List Int32} {m_heldQ : List Int32} {m_heldR : List Int32} {m_heldT : List Int32} {m_heldN : Int32} {m_image : List Int32} {m_built : Int32} {m_fixed : List Int64} {m_isFree : List Int32} {m_from : List Int32} {m_some : List Int64} {m_field : List Int32} {m_queue : List Int32} {m_near : List Int32} {m_open : List Int32} {m_closed : List Int32} {m_at : Int32} {m_begin : Int32} {m_sort : Int32} {m_lastQ : Int32} {m_lastR : Int32} {m_lastT : Int32} {m_readN : Int32}  {Q : Option Value → ZW → Prop} : ∀ (fu : Nat) (v1 : Int64) (v3 : Int32) (e : Int64), f_X12_packs_L4 N m_n m_q m_r m_t fu v1 v3 = some e → (Go l D r (z_rl xs) zm_X12_packs 0 0 (30, [none, some (.long e), none, none], [], ([sMo m_p m_a m_d m_was m_kept m_read m_text m_typed m_n m_q m_r m_t m_heldQ m_heldR m_heldT m_heldN m_image m_built m_fixed m_isFree m_from m_some m_field m_queue m_near m_open m_closed m_at m_begin m_sort m_lastQ m_lastR m_lastT m_readN] : List ZW).flatten) Q) → Go l D r (z_rl xs) zm_X12_packs 0 0 (4, [some (.ref m_p), some (.long v1), none, some (.int v3)], [], ([sMo m_p m_a m_d m_was m_kept m_read m_text m_typed m_n m_q m_r m_t m_heldQ m_heldR m_heldT m_heldN m_image m_built m_fixed m_isFree m_from m_some m_field m_queue m_near m_open m_closed m_at m_begin m_sort m_lastQ m_lastR m_lastT m_readN] : List ZW).flatten) Q := by
  intro fu
  induction fu with
  | zero =>
    intro v1 v3 e h
    simp only [f_X12_packs_L4, reduceCtorEq] at h
  | succ fu ih =>
    intro v1 v3 e h kk
    rw [f_X12_packs_L4] at h
    refine Go.blk zk_X12_packs [0, 0, 0] (z' := (9, [some (.ref m_p), some (.long v1), none, some (.int v3)], [.int m_n, .int v3], ([sMo m_p m_a m_d m_was m_kept m_read m_text m_typed m_n m_q m_r m_t m_heldQ m_heldR m_heldT m_heldN m_image m_built m_fixed m_isFree m_from m_some m_field m_queue m_near m_open m_closed m_at m_begin m_sort m_lastQ m_lastR m_lastT m_readN] : List ZW).flatten)) rfl ⟨rfl, trivial⟩ ?_
    by_cases hc1 : v3 < m_n
    · rw [if_pos hc1] at h
      refine Go.br zk_X12_packs rfl rfl (fun _ => ?_) (fun q => absurd hc1 q)
      refine Go.blk zk_X12_packs [0, 0, 0, 0, 0] (z' := (18, [some (.ref m_p), some (.long v1), none, some (.int v3)], [.int v3, .ref m_p, .long (v1 <<< (Int32.toInt64 8 &&& 63))], ([sMo m_p m_a m_d m_was m_kept m_read m_text m_typed m_n m_q m_r m_t m_heldQ m_heldR m_heldT m_heldN m_image m_built m_fixed m_isFree m_from m_some m_field m_queue m_near m_open m_closed m_at m_begin m_sort m_lastQ m_lastR m_lastT m_readN] : List ZW).flatten)) rfl trivial ?_
      obtain ⟨u2, hu2, h⟩ := z_bind h
      refine Go.vs zk_X12_packs zm_X12_keyOf [0] [] 0 12 1 (S := [sMo m_p m_a m_d m_was m_kept m_read m_text m_typed m_n m_q m_r m_t m_heldQ m_heldR m_heldT m_heldN m_image m_built m_fixed m_isFree m_from m_some m_field m_queue m_near m_open m_closed m_at m_begin m_sort m_lastQ m_lastR m_lastT m_readN]) (S2 := [sMo m_p m_a m_d m_was m_kept m_read m_text m_typed m_n m_q m_r m_t m_heldQ m_heldR m_heldT m_heldN m_image m_built m_fixed m_isFree m_from m_some m_field m_queue m_near m_open m_closed m_at m_begin m_sort m_lastQ m_lastR m_lastT m_readN]) (As := [.int v3]) (rest := [.long (v1 <<< (Int32.toInt64 8 &&& 63))]) (st2 := [.int u2, .long (v1 <<< (Int32.toInt64 8 &&& 63))]) (v1 := some (.int u2)) rfl zl_X12_111 zv_X12_keyOf ⟨Nat.le_of_ble_eq_true rfl, Nat.le_of_ble_eq_true rfl⟩ rfl (by decide) rfl rfl rfl rfl rfl (Nat.le_of_ble_eq_true rfl) (t_X12_keyOf hu2) rfl rfl rfl ?_
      refine Go.blk zk_X12_packs [0, 0, 0, 0, 0] (z' := (4, [some (.ref m_p), some (.long ((v1 <<< (Int32.toInt64 8 &&& 63)) ||| (Int32.toInt64 u2))), none, some (.int (v3 + 1))], [], ([sMo m_p m_a m_d m_was m_kept m_read m_text m_typed m_n m_q m_r m_t m_heldQ m_heldR m_heldT m_heldN m_image m_built m_fixed m_isFree m_from m_some m_field m_queue m_near m_open m_closed m_at m_begin m_sort m_lastQ m_lastR m_lastT m_readN] : List ZW).flatten)) rfl trivial ?_
      exact ih _ _ _ h kk
    · rw [if_neg hc1] at h
      refine Go.br zk_X12_packs rfl rfl (fun q => absurd q hc1) (fun _ => ?_)
      obtain rfl := Option.some.inj h
      refine Go.weak (L := [some (.ref m_p), some (.long v1), none, some (.int v3)]) (L' := [none, some (.long v1), none, none]) (And.intro rfl (trivial)) ?_
      exact kk
set_option maxHeartbeats 4000000 in
set_option maxRecDepth 100000 in
theorem t_X12_packs {N : Nat} {m_p : Nat} {m_a : Nat → Nat} {m_d : List Int32} {m_was : List Int32} {m_kept : Int32} {m_read : List Int32} {m_text : List Int32} {m_typed : Int32} {m_n : Int32} {m_q : List Int32} {m_r : List Int32} {m_t : List Int32} {m_heldQ : List Int32} {m_heldR : List Int32} {m_heldT : List Int32} {m_heldN : Int32} {m_image : List Int32} {m_built : Int32} {m_fixed : List Int64} {m_isFree : List Int32} {m_from : List Int32} {m_some : List Int64} {m_field : List Int32} {m_queue : List Int32} {m_near : List Int32} {m_open : List Int32} {m_closed : List Int32} {m_at : Int32} {m_begin : Int32} {m_sort : Int32} {m_lastQ : Int32} {m_lastR : Int32} {m_lastT : Int32} {m_readN : Int32} {u : Int64}  (h : f_X12_packs N m_n m_q m_r m_t = some u) : Ct l D r (z_rl xs) zm_X12_packs 0 0 [.ref m_p] ([sMo m_p m_a m_d m_was m_kept m_read m_text m_typed m_n m_q m_r m_t m_heldQ m_heldR m_heldT m_heldN m_image m_built m_fixed m_isFree m_from m_some m_field m_queue m_near m_open m_closed m_at m_begin m_sort m_lastQ m_lastR m_lastT m_readN] : List ZW).flatten (fun v' w' => v' = some (.long u) ∧ w' = ([sMo m_p m_a m_d m_was m_kept m_read m_text m_typed m_n m_q m_r m_t m_heldQ m_heldR m_heldT m_heldN m_image m_built m_fixed m_isFree m_from m_some m_field m_queue m_near m_open m_closed m_at m_begin m_sort m_lastQ m_lastR m_lastT m_readN] : List ZW).flatten) := by
  refine Ct.of (by decide +kernel) rfl (fun q => absurd q (by decide)) (Nat.le_of_ble_eq_true rfl) ?_
  refine Go.eqz (z2 := (0, [some (.ref m_p), none, none, none], [], ([sMo m_p m_a m_d m_was m_kept m_read m_text m_typed m_n m_q m_r m_t m_heldQ m_heldR m_heldT m_heldN m_image m_built m_fixed m_isFree m_from m_some m_field m_queue m_near m_open m_closed m_at m_begin m_sort m_lastQ m_lastR m_lastT m_readN] : List ZW).flatten)) rfl ?_
  unfold f_X12_packs at h
  refine Go.blk zk_X12_packs [0, 0, 0, 0] (z' := (4, [some (.ref m_p), some (.long 0), none, some (.int 0)], [], ([sMo m_p m_a m_d m_was m_kept m_read m_text m_typed m_n m_q m_r m_t m_heldQ m_heldR m_heldT m_heldN m_image m_built m_fixed m_isFree m_from m_some m_field m_queue m_near m_open m_closed m_at m_begin m_sort m_lastQ m_lastR m_lastT m_readN] : List ZW).flatten)) rfl trivial ?_
  obtain ⟨e3, he3, h⟩ := z_bind h
  refine t_X12_packs_L4 N _ _ _ he3 ?_
  refine Go.blk zk_X12_packs [0] (z' := (31, [none, some (.long e3), none, none], [.long e3], ([sMo m_p m_a m_d m_was m_kept m_read m_text m_typed m_n m_q m_r m_t m_heldQ m_heldR m_heldT m_heldN m_image m_built m_fixed m_isFree m_from m_some m_field m_queue m_near m_open m_closed m_at m_begin m_sort m_lastQ m_lastR m_lastT m_readN] : List ZW).flatten)) rfl trivial ?_
  obtain rfl := Option.some.inj h
  exact Go.lret zk_X12_packs rfl rfl ⟨rfl, rfl⟩
set_option maxHeartbeats 4000000 in
set_option maxRecDepth 100000 in
theorem t_X12_holds_L10 {N : Nat} {m_p : Nat} {m_a : Nat → Nat} {m_d : List Int32} {m_was : List Int32} {m_kept : Int32} {m_read : List Int32} {m_text : List Int32} {m_typed : Int32} {m_n : Int32} {m_q : List Int32} {m_r : List Int32} {m_t : List Int32} {m_heldN : Int32} {m_image : List Int32} {m_built : Int32} {m_fixed : List Int64} {m_isFree : List Int32} {m_from : List Int32} {m_some : List Int64} {m_field : List Int32} {m_queue : List Int32} {m_near : List Int32} {m_open : List Int32} {m_closed : List Int32} {m_at : Int32} {m_begin : Int32} {m_sort : Int32} {m_lastQ : Int32} {m_lastR : Int32} {m_lastT : Int32} {m_readN : Int32}  {Q : Option Value → ZW → Prop} : ∀ (fu : Nat) (v1 : Int32) (m_heldQ : List Int32) (m_heldR : List Int32) (m_heldT : List Int32) (e : (List Int32) × (List Int32) × (List Int32)), f_X12_holds_L10 N m_n m_q m_r m_t fu v1 m_heldQ m_heldR m_heldT = some e → (Go l D r (z_rl xs) zm_X12_holds 0 0 (60, [none, none], [], ([sMo m_p m_a m_d m_was m_kept m_read m_text m_typed m_n m_q m_r m_t e.1 e.2.1 e.2.2 m_heldN m_image m_built m_fixed m_isFree m_from m_some m_field m_queue m_near m_open m_closed m_at m_begin m_sort m_lastQ m_lastR m_lastT m_readN] : List ZW).flatten) Q) → Go l D r (z_rl xs) zm_X12_holds 0 0 (10, [some (.ref m_p), some (.int v1)], [], ([sMo m_p m_a m_d m_was m_kept m_read m_text m_typed m_n m_q m_r m_t m_heldQ m_heldR m_heldT m_heldN m_image m_built m_fixed m_isFree m_from m_some m_field m_queue m_near m_open m_closed m_at m_begin m_sort m_lastQ m_lastR m_lastT m_readN] : List ZW).flatten) Q := by
  intro fu
  induction fu with
  | zero =>
    intro v1 m_heldQ m_heldR m_heldT e h
    simp only [f_X12_holds_L10, reduceCtorEq] at h
  | succ fu ih =>
    intro v1 m_heldQ m_heldR m_heldT e h kk
    rw [f_X12_holds_L10] at h
    refine Go.blk zk_X12_holds [0, 0, 0] (z' := (15, [some (.ref m_p), some (.int v1)], [.int m_n, .int v1], ([sMo m_p m_a m_d m_was m_kept m_read m_text m_typed m_n m_q m_r m_t m_heldQ m_heldR m_heldT m_heldN m_image m_built m_fixed m_isFree m_from m_some m_field m_queue m_near m_open m_closed m_at m_begin m_sort m_lastQ m_lastR m_lastT m_readN] : List ZW).flatten)) rfl ⟨rfl, trivial⟩ ?_
    by_cases hc1 : v1 < m_n
    · rw [if_pos hc1] at h
      refine Go.br zk_X12_holds rfl rfl (fun _ => ?_) (fun q => absurd hc1 q)
      refine Go.blk zk_X12_holds [0, 0, 0, 0, 0, 0] (z' := (28, [some (.ref m_p), some (.int v1)], [.int v1, .ref (m_a 4), .int v1, .ref (m_a 7)], ([sMo m_p m_a m_d m_was m_kept m_read m_text m_typed m_n m_q m_r m_t m_heldQ m_heldR m_heldT m_heldN m_image m_built m_fixed m_isFree m_from m_some m_field m_queue m_near m_open m_closed m_at m_begin m_sort m_lastQ m_lastR m_lastT m_readN] : List ZW).flatten)) rfl ⟨rfl, rfl, trivial⟩ ?_
      obtain ⟨x2, hx2, h⟩ := z_bind h
      refine Go.iald zk_X12_holds 5 rfl rfl rfl hx2 ?_
      obtain ⟨t3, ht3, h⟩ := z_bind h
      refine Go.iast zk_X12_holds 8 rfl rfl rfl ht3 ?_
      refine Go.eqz (z2 := (30, [some (.ref m_p), some (.int v1)], [], ([sMo m_p m_a m_d m_was m_kept m_read m_text m_typed m_n m_q m_r m_t t3 m_heldR m_heldT m_heldN m_image m_built m_fixed m_isFree m_from m_some m_field m_queue m_near m_open m_closed m_at m_begin m_sort m_lastQ m_lastR m_lastT m_readN] : List ZW).flatten)) rfl ?_
      refine Go.blk zk_X12_holds [0, 0, 0, 0, 0, 0] (z' := (40, [some (.ref m_p), some (.int v1)], [.int v1, .ref (m_a 5), .int v1, .ref (m_a 8)], ([sMo m_p m_a m_d m_was m_kept m_read m_text m_typed m_n m_q m_r m_t t3 m_heldR m_heldT m_heldN m_image m_built m_fixed m_isFree m_from m_some m_field m_queue m_near m_open m_closed m_at m_begin m_sort m_lastQ m_lastR m_lastT m_readN] : List ZW).flatten)) rfl ⟨rfl, rfl, trivial⟩ ?_
      obtain ⟨x4, hx4, h⟩ := z_bind h
      refine Go.iald zk_X12_holds 6 rfl rfl rfl hx4 ?_
      obtain ⟨t5, ht5, h⟩ := z_bind h
      refine Go.iast zk_X12_holds 9 rfl rfl rfl ht5 ?_
      refine Go.eqz (z2 := (42, [some (.ref m_p), some (.int v1)], [], ([sMo m_p m_a m_d m_was m_kept m_read m_text m_typed m_n m_q m_r m_t t3 t5 m_heldT m_heldN m_image m_built m_fixed m_isFree m_from m_some m_field m_queue m_near m_open m_closed m_at m_begin m_sort m_lastQ m_lastR m_lastT m_readN] : List ZW).flatten)) rfl ?_
      refine Go.blk zk_X12_holds [0, 0, 0, 0, 0, 0] (z' := (52, [some (.ref m_p), some (.int v1)], [.int v1, .ref (m_a 6), .int v1, .ref (m_a 9)], ([sMo m_p m_a m_d m_was m_kept m_read m_text m_typed m_n m_q m_r m_t t3 t5 m_heldT m_heldN m_image m_built m_fixed m_isFree m_from m_some m_field m_queue m_near m_open m_closed m_at m_begin m_sort m_lastQ m_lastR m_lastT m_readN] : List ZW).flatten)) rfl ⟨rfl, rfl, trivial⟩ ?_
      obtain ⟨x6, hx6, h⟩ := z_bind h
      refine Go.iald zk_X12_holds 7 rfl rfl rfl hx6 ?_
      obtain ⟨t7, ht7, h⟩ := z_bind h
      refine Go.iast zk_X12_holds 10 rfl rfl rfl ht7 ?_
      refine Go.eqz (z2 := (54, [some (.ref m_p), some (.int v1)], [], ([sMo m_p m_a m_d m_was m_kept m_read m_text m_typed m_n m_q m_r m_t t3 t5 t7 m_heldN m_image m_built m_fixed m_isFree m_from m_some m_field m_queue m_near m_open m_closed m_at m_begin m_sort m_lastQ m_lastR m_lastT m_readN] : List ZW).flatten)) rfl ?_
      refine Go.blk zk_X12_holds [0, 0] (z' := (10, [some (.ref m_p), some (.int (v1 + 1))], [], ([sMo m_p m_a m_d m_was m_kept m_read m_text m_typed m_n m_q m_r m_t t3 t5 t7 m_heldN m_image m_built m_fixed m_isFree m_from m_some m_field m_queue m_near m_open m_closed m_at m_begin m_sort m_lastQ m_lastR m_lastT m_readN] : List ZW).flatten)) rfl trivial ?_
      exact ih _ _ _ _ _ h kk
    · rw [if_neg hc1] at h
      refine Go.br zk_X12_holds rfl rfl (fun q => absurd q hc1) (fun _ => ?_)
      obtain rfl := Option.some.inj h
      refine Go.weak (L := [some (.ref m_p), some (.int v1)]) (L' := [none, none]) (trivial) ?_
      exact kk
set_option maxHeartbeats 4000000 in
set_option maxRecDepth 100000 in
theorem t_X12_holds {N : Nat} {m_p : Nat} {m_a : Nat → Nat} {m_d : List Int32} {m_was : List Int32} {m_kept : Int32} {m_read : List Int32} {m_text : List Int32} {m_typed : Int32} {m_n : Int32} {m_q : List Int32} {m_r : List Int32} {m_t : List Int32} {m_heldQ : List Int32} {m_heldR : List Int32} {m_heldT : List Int32} {m_heldN : Int32} {m_image : List Int32} {m_built : Int32} {m_fixed : List Int64} {m_isFree : List Int32} {m_from : List Int32} {m_some : List Int64} {m_field : List Int32} {m_queue : List Int32} {m_near : List Int32} {m_open : List Int32} {m_closed : List Int32} {m_at : Int32} {m_begin : Int32} {m_sort : Int32} {m_lastQ : Int32} {m_lastR : Int32} {m_lastT : Int32} {m_readN : Int32} {u : (List Int32) × (List Int32) × (List Int32) × Int32}  (h : f_X12_holds N m_n m_q m_r m_t m_heldQ m_heldR m_heldT = some u) : Ct l D r (z_rl xs) zm_X12_holds 0 0 [.ref m_p] ([sMo m_p m_a m_d m_was m_kept m_read m_text m_typed m_n m_q m_r m_t m_heldQ m_heldR m_heldT m_heldN m_image m_built m_fixed m_isFree m_from m_some m_field m_queue m_near m_open m_closed m_at m_begin m_sort m_lastQ m_lastR m_lastT m_readN] : List ZW).flatten (fun v' w' => v' = none ∧ w' = ([sMo m_p m_a m_d m_was m_kept m_read m_text m_typed m_n m_q m_r m_t u.1 u.2.1 u.2.2.1 u.2.2.2 m_image m_built m_fixed m_isFree m_from m_some m_field m_queue m_near m_open m_closed m_at m_begin m_sort m_lastQ m_lastR m_lastT m_readN] : List ZW).flatten) := by
  refine Ct.of (by decide +kernel) rfl (fun q => absurd q (by decide)) (Nat.le_of_ble_eq_true rfl) ?_
  refine Go.eqz (z2 := (0, [some (.ref m_p), none], [], ([sMo m_p m_a m_d m_was m_kept m_read m_text m_typed m_n m_q m_r m_t m_heldQ m_heldR m_heldT m_heldN m_image m_built m_fixed m_isFree m_from m_some m_field m_queue m_near m_open m_closed m_at m_begin m_sort m_lastQ m_lastR m_lastT m_readN] : List ZW).flatten)) rfl ?_
  unfold f_X12_holds at h
  refine Go.blk zk_X12_holds [0, 0, 0] (z' := (5, [some (.ref m_p), none], [.int m_n, .ref m_p], ([sMo m_p m_a m_d m_was m_kept m_read m_text m_typed m_n m_q m_r m_t m_heldQ m_heldR m_heldT m_heldN m_image m_built m_fixed m_isFree m_from m_some m_field m_queue m_near m_open m_closed m_at m_begin m_sort m_lastQ m_lastR m_lastT m_readN] : List ZW).flatten)) rfl ⟨rfl, trivial⟩ ?_
  refine Go.put zk_X12_holds 0 rfl rfl rfl rfl rfl (Nat.le_of_ble_eq_true rfl) ?_
  refine Go.eqz (z2 := (8, [some (.ref m_p), none], [], ([sMo m_p m_a m_d m_was m_kept m_read m_text m_typed m_n m_q m_r m_t m_heldQ m_heldR m_heldT m_n m_image m_built m_fixed m_isFree m_from m_some m_field m_queue m_near m_open m_closed m_at m_begin m_sort m_lastQ m_lastR m_lastT m_readN] : List ZW).flatten)) rfl ?_
  refine Go.blk zk_X12_holds [0, 0] (z' := (10, [some (.ref m_p), some (.int 0)], [], ([sMo m_p m_a m_d m_was m_kept m_read m_text m_typed m_n m_q m_r m_t m_heldQ m_heldR m_heldT m_n m_image m_built m_fixed m_isFree m_from m_some m_field m_queue m_near m_open m_closed m_at m_begin m_sort m_lastQ m_lastR m_lastT m_readN] : List ZW).flatten)) rfl trivial ?_
  obtain ⟨e8, he8, h⟩ := z_bind h
  refine t_X12_holds_L10 N _ _ _ _ _ he8 ?_
  obtain rfl := Option.some.inj h
  exact Go.vret zk_X12_holds rfl rfl ⟨rfl, rfl⟩
set_option maxHeartbeats 4000000 in
set_option maxRecDepth 100000 in
theorem t_X12_takesHeld_L10 {N : Nat} {m_p : Nat} {m_a : Nat → Nat} {m_d : List Int32} {m_was : List Int32} {m_kept : Int32} {m_read : List Int32} {m_text : List Int32} {m_typed : Int32} {m_n : Int32} {m_heldQ : List Int32} {m_heldR : List Int32} {m_heldT : List Int32} {m_heldN : Int32} {m_image : List Int32} {m_built : Int32} {m_fixed : List Int64} {m_isFree : List Int32} {m_from : List Int32} {m_some : List Int64} {m_field : List Int32} {m_queue : List Int32} {m_near : List Int32} {m_open : List Int32} {m_closed : List Int32} {m_at : Int32} {m_begin : Int32} {m_sort : Int32} {m_lastQ : Int32} {m_lastR : Int32} {m_lastT : Int32} {m_readN : Int32}  {Q : Option Value → ZW → Prop} : ∀ (fu : Nat) (v1 : Int32) (m_q : List Int32) (m_r : List Int32) (m_t : List Int32) (e : (List Int32) × (List Int32) × (List Int32)), f_X12_takesHeld_L10 N m_n m_heldQ m_heldR m_heldT fu v1 m_q m_r m_t = some e → (Go l D r (z_rl xs) zm_X12_takesHeld 0 0 (60, [none, none], [], ([sMo m_p m_a m_d m_was m_kept m_read m_text m_typed m_n e.1 e.2.1 e.2.2 m_heldQ m_heldR m_heldT m_heldN m_image m_built m_fixed m_isFree m_from m_some m_field m_queue m_near m_open m_closed m_at m_begin m_sort m_lastQ m_lastR m_lastT m_readN] : List ZW).flatten) Q) → Go l D r (z_rl xs) zm_X12_takesHeld 0 0 (10, [some (.ref m_p), some (.int v1)], [], ([sMo m_p m_a m_d m_was m_kept m_read m_text m_typed m_n m_q m_r m_t m_heldQ m_heldR m_heldT m_heldN m_image m_built m_fixed m_isFree m_from m_some m_field m_queue m_near m_open m_closed m_at m_begin m_sort m_lastQ m_lastR m_lastT m_readN] : List ZW).flatten) Q := by
  intro fu
  induction fu with
  | zero =>
    intro v1 m_q m_r m_t e h
    simp only [f_X12_takesHeld_L10, reduceCtorEq] at h
  | succ fu ih =>
    intro v1 m_q m_r m_t e h kk
    rw [f_X12_takesHeld_L10] at h
    refine Go.blk zk_X12_takesHeld [0, 0, 0] (z' := (15, [some (.ref m_p), some (.int v1)], [.int m_n, .int v1], ([sMo m_p m_a m_d m_was m_kept m_read m_text m_typed m_n m_q m_r m_t m_heldQ m_heldR m_heldT m_heldN m_image m_built m_fixed m_isFree m_from m_some m_field m_queue m_near m_open m_closed m_at m_begin m_sort m_lastQ m_lastR m_lastT m_readN] : List ZW).flatten)) rfl ⟨rfl, trivial⟩ ?_
    by_cases hc1 : v1 < m_n
    · rw [if_pos hc1] at h
      refine Go.br zk_X12_takesHeld rfl rfl (fun _ => ?_) (fun q => absurd hc1 q)
      refine Go.blk zk_X12_takesHeld [0, 0, 0, 0, 0, 0] (z' := (28, [some (.ref m_p), some (.int v1)], [.int v1, .ref (m_a 7), .int v1, .ref (m_a 4)], ([sMo m_p m_a m_d m_was m_kept m_read m_text m_typed m_n m_q m_r m_t m_heldQ m_heldR m_heldT m_heldN m_image m_built m_fixed m_isFree m_from m_some m_field m_queue m_near m_open m_closed m_at m_begin m_sort m_lastQ m_lastR m_lastT m_readN] : List ZW).flatten)) rfl ⟨rfl, rfl, trivial⟩ ?_
      obtain ⟨x2, hx2, h⟩ := z_bind h
      refine Go.iald zk_X12_takesHeld 8 rfl rfl rfl hx2 ?_
      obtain ⟨t3, ht3, h⟩ := z_bind h
      refine Go.iast zk_X12_takesHeld 5 rfl rfl rfl ht3 ?_
      refine Go.eqz (z2 := (30, [some (.ref m_p), some (.int v1)], [], ([sMo m_p m_a m_d m_was m_kept m_read m_text m_typed m_n t3 m_r m_t m_heldQ m_heldR m_heldT m_heldN m_image m_built m_fixed m_isFree m_from m_some m_field m_queue m_near m_open m_closed m_at m_begin m_sort m_lastQ m_lastR m_lastT m_readN] : List ZW).flatten)) rfl ?_
      refine Go.blk zk_X12_takesHeld [0, 0, 0, 0, 0, 0] (z' := (40, [some (.ref m_p), some (.int v1)], [.int v1, .ref (m_a 8), .int v1, .ref (m_a 5)], ([sMo m_p m_a m_d m_was m_kept m_read m_text m_typed m_n t3 m_r m_t m_heldQ m_heldR m_heldT m_heldN m_image m_built m_fixed m_isFree m_from m_some m_field m_queue m_near m_open m_closed m_at m_begin m_sort m_lastQ m_lastR m_lastT m_readN] : List ZW).flatten)) rfl ⟨rfl, rfl, trivial⟩ ?_
      obtain ⟨x4, hx4, h⟩ := z_bind h
      refine Go.iald zk_X12_takesHeld 9 rfl rfl rfl hx4 ?_
      obtain ⟨t5, ht5, h⟩ := z_bind h
      refine Go.iast zk_X12_takesHeld 6 rfl rfl rfl ht5 ?_
      refine Go.eqz (z2 := (42, [some (.ref m_p), some (.int v1)], [], ([sMo m_p m_a m_d m_was m_kept m_read m_text m_typed m_n t3 t5 m_t m_heldQ m_heldR m_heldT m_heldN m_image m_built m_fixed m_isFree m_from m_some m_field m_queue m_near m_open m_closed m_at m_begin m_sort m_lastQ m_lastR m_lastT m_readN] : List ZW).flatten)) rfl ?_
      refine Go.blk zk_X12_takesHeld [0, 0, 0, 0, 0, 0] (z' := (52, [some (.ref m_p), some (.int v1)], [.int v1, .ref (m_a 9), .int v1, .ref (m_a 6)], ([sMo m_p m_a m_d m_was m_kept m_read m_text m_typed m_n t3 t5 m_t m_heldQ m_heldR m_heldT m_heldN m_image m_built m_fixed m_isFree m_from m_some m_field m_queue m_near m_open m_closed m_at m_begin m_sort m_lastQ m_lastR m_lastT m_readN] : List ZW).flatten)) rfl ⟨rfl, rfl, trivial⟩ ?_
      obtain ⟨x6, hx6, h⟩ := z_bind h
      refine Go.iald zk_X12_takesHeld 10 rfl rfl rfl hx6 ?_
      obtain ⟨t7, ht7, h⟩ := z_bind h
      refine Go.iast zk_X12_takesHeld 7 rfl rfl rfl ht7 ?_
      refine Go.eqz (z2 := (54, [some (.ref m_p), some (.int v1)], [], ([sMo m_p m_a m_d m_was m_kept m_read m_text m_typed m_n t3 t5 t7 m_heldQ m_heldR m_heldT m_heldN m_image m_built m_fixed m_isFree m_from m_some m_field m_queue m_near m_open m_closed m_at m_begin m_sort m_lastQ m_lastR m_lastT m_readN] : List ZW).flatten)) rfl ?_
      refine Go.blk zk_X12_takesHeld [0, 0] (z' := (10, [some (.ref m_p), some (.int (v1 + 1))], [], ([sMo m_p m_a m_d m_was m_kept m_read m_text m_typed m_n t3 t5 t7 m_heldQ m_heldR m_heldT m_heldN m_image m_built m_fixed m_isFree m_from m_some m_field m_queue m_near m_open m_closed m_at m_begin m_sort m_lastQ m_lastR m_lastT m_readN] : List ZW).flatten)) rfl trivial ?_
      exact ih _ _ _ _ _ h kk
    · rw [if_neg hc1] at h
      refine Go.br zk_X12_takesHeld rfl rfl (fun q => absurd q hc1) (fun _ => ?_)
      obtain rfl := Option.some.inj h
      refine Go.weak (L := [some (.ref m_p), some (.int v1)]) (L' := [none, none]) (trivial) ?_
      exact kk
set_option maxHeartbeats 4000000 in
set_option maxRecDepth 100000 in
theorem t_X12_takesHeld {N : Nat} {m_p : Nat} {m_a : Nat → Nat} {m_d : List Int32} {m_was : List Int32} {m_kept : Int32} {m_read : List Int32} {m_text : List Int32} {m_typed : Int32} {m_n : Int32} {m_q : List Int32} {m_r : List Int32} {m_t : List Int32} {m_heldQ : List Int32} {m_heldR : List Int32} {m_heldT : List Int32} {m_heldN : Int32} {m_image : List Int32} {m_built : Int32} {m_fixed : List Int64} {m_isFree : List Int32} {m_from : List Int32} {m_some : List Int64} {m_field : List Int32} {m_queue : List Int32} {m_near : List Int32} {m_open : List Int32} {m_closed : List Int32} {m_at : Int32} {m_begin : Int32} {m_sort : Int32} {m_lastQ : Int32} {m_lastR : Int32} {m_lastT : Int32} {m_readN : Int32} {u : Int32 × (List Int32) × (List Int32) × (List Int32)}  (h : f_X12_takesHeld N m_q m_r m_t m_heldQ m_heldR m_heldT m_heldN = some u) : Ct l D r (z_rl xs) zm_X12_takesHeld 0 0 [.ref m_p] ([sMo m_p m_a m_d m_was m_kept m_read m_text m_typed m_n m_q m_r m_t m_heldQ m_heldR m_heldT m_heldN m_image m_built m_fixed m_isFree m_from m_some m_field m_queue m_near m_open m_closed m_at m_begin m_sort m_lastQ m_lastR m_lastT m_readN] : List ZW).flatten (fun v' w' => v' = none ∧ w' = ([sMo m_p m_a m_d m_was m_kept m_read m_text m_typed u.1 u.2.1 u.2.2.1 u.2.2.2 m_heldQ m_heldR m_heldT m_heldN m_image m_built m_fixed m_isFree m_from m_some m_field m_queue m_near m_open m_closed m_at m_begin m_sort m_lastQ m_lastR m_lastT m_readN] : List ZW).flatten) := by
  refine Ct.of (by decide +kernel) rfl (fun q => absurd q (by decide)) (Nat.le_of_ble_eq_true rfl) ?_
  refine Go.eqz (z2 := (0, [some (.ref m_p), none], [], ([sMo m_p m_a m_d m_was m_kept m_read m_text m_typed m_n m_q m_r m_t m_heldQ m_heldR m_heldT m_heldN m_image m_built m_fixed m_isFree m_from m_some m_field m_queue m_near m_open m_closed m_at m_begin m_sort m_lastQ m_lastR m_lastT m_readN] : List ZW).flatten)) rfl ?_
  unfold f_X12_takesHeld at h
  refine Go.blk zk_X12_takesHeld [0, 0, 0] (z' := (5, [some (.ref m_p), none], [.int m_heldN, .ref m_p], ([sMo m_p m_a m_d m_was m_kept m_read m_text m_typed m_n m_q m_r m_t m_heldQ m_heldR m_heldT m_heldN m_image m_built m_fixed m_isFree m_from m_some m_field m_queue m_near m_open m_closed m_at m_begin m_sort m_lastQ m_lastR m_lastT m_readN] : List ZW).flatten)) rfl ⟨rfl, trivial⟩ ?_
  refine Go.put zk_X12_takesHeld 0 rfl rfl rfl rfl rfl (Nat.le_of_ble_eq_true rfl) ?_
  refine Go.eqz (z2 := (8, [some (.ref m_p), none], [], ([sMo m_p m_a m_d m_was m_kept m_read m_text m_typed m_heldN m_q m_r m_t m_heldQ m_heldR m_heldT m_heldN m_image m_built m_fixed m_isFree m_from m_some m_field m_queue m_near m_open m_closed m_at m_begin m_sort m_lastQ m_lastR m_lastT m_readN] : List ZW).flatten)) rfl ?_
  refine Go.blk zk_X12_takesHeld [0, 0] (z' := (10, [some (.ref m_p), some (.int 0)], [], ([sMo m_p m_a m_d m_was m_kept m_read m_text m_typed m_heldN m_q m_r m_t m_heldQ m_heldR m_heldT m_heldN m_image m_built m_fixed m_isFree m_from m_some m_field m_queue m_near m_open m_closed m_at m_begin m_sort m_lastQ m_lastR m_lastT m_readN] : List ZW).flatten)) rfl trivial ?_
  obtain ⟨e8, he8, h⟩ := z_bind h
  refine t_X12_takesHeld_L10 N _ _ _ _ _ he8 ?_
  obtain rfl := Option.some.inj h
  exact Go.vret zk_X12_takesHeld rfl rfl ⟨rfl, rfl⟩
set_option maxHeartbeats 4000000 in
set_option maxRecDepth 100000 in
theorem t_X12_images_L32 {N : Nat} {m_p : Nat} {m_a : Nat → Nat} {m_d : List Int32} {m_was : List Int32} {m_kept : Int32} {m_read : List Int32} {m_text : List Int32} {m_typed : Int32} {m_n : Int32} {m_heldQ : List Int32} {m_heldR : List Int32} {m_heldT : List Int32} {m_heldN : Int32} {m_image : List Int32} {m_built : Int32} {m_fixed : List Int64} {m_isFree : List Int32} {m_from : List Int32} {m_some : List Int64} {m_field : List Int32} {m_queue : List Int32} {m_near : List Int32} {m_open : List Int32} {m_closed : List Int32} {m_at : Int32} {m_begin : Int32} {m_sort : Int32} {m_lastQ : Int32} {m_lastR : Int32} {m_lastT : Int32} {m_readN : Int32} {v1 : Int32} {v2 : Int32}  {Q : Option Value → ZW → Prop} : ∀ (fu : Nat) (v3 : Int32) (m_q : List Int32) (m_r : List Int32) (m_t : List Int32) (e : (List Int32) × (List Int32) × (List Int32)), f_X12_images_L32 N v2 m_d m_n fu v3 m_q m_r m_t = some e → (Go l D r (z_rl xs) zm_X12_images 0 0 (52, [some (.ref m_p), some (.int v1), some (.int v2), none], [], ([sMo m_p m_a m_d m_was m_kept m_read m_text m_typed m_n e.1 e.2.1 e.2.2 m_heldQ m_heldR m_heldT m_heldN m_image m_built m_fixed m_isFree m_from m_some m_field m_queue m_near m_open m_closed m_at m_begin m_sort m_lastQ m_lastR m_lastT m_readN] : List ZW).flatten) Q) → Go l D r (z_rl xs) zm_X12_images 0 0 (32, [some (.ref m_p), some (.int v1), some (.int v2), some (.int v3)], [], ([sMo m_p m_a m_d m_was m_kept m_read m_text m_typed m_n m_q m_r m_t m_heldQ m_heldR m_heldT m_heldN m_image m_built m_fixed m_isFree m_from m_some m_field m_queue m_near m_open m_closed m_at m_begin m_sort m_lastQ m_lastR m_lastT m_readN] : List ZW).flatten) Q := by
  intro fu
  induction fu with
  | zero =>
    intro v3 m_q m_r m_t e h
    simp only [f_X12_images_L32, reduceCtorEq] at h
  | succ fu ih =>
    intro v3 m_q m_r m_t e h kk
    rw [f_X12_images_L32] at h
    refine Go.blk zk_X12_images [0, 0, 0] (z' := (35, [some (.ref m_p), some (.int v1), some (.int v2), some (.int v3)], [.ref m_p, .int v2, .int v3], ([sMo m_p m_a m_d m_was m_kept m_read m_text m_typed m_n m_q m_r m_t m_heldQ m_heldR m_heldT m_heldN m_image m_built m_fixed m_isFree m_from m_some m_field m_queue m_near m_open m_closed m_at m_begin m_sort m_lastQ m_lastR m_lastT m_readN] : List ZW).flatten)) rfl trivial ?_
    obtain ⟨u6, hu6, h⟩ := z_bind h
    refine Go.vs zk_X12_images zm_X12_turnsOf [0] [] 0 12 1 (S := [sMo m_p m_a m_d m_was m_kept m_read m_text m_typed m_n m_q m_r m_t m_heldQ m_heldR m_heldT m_heldN m_image m_built m_fixed m_isFree m_from m_some m_field m_queue m_near m_open m_closed m_at m_begin m_sort m_lastQ m_lastR m_lastT m_readN]) (S2 := [sMo m_p m_a m_d m_was m_kept m_read m_text m_typed m_n m_q m_r m_t m_heldQ m_heldR m_heldT m_heldN m_image m_built m_fixed m_isFree m_from m_some m_field m_queue m_near m_open m_closed m_at m_begin m_sort m_lastQ m_lastR m_lastT m_readN]) (As := []) (rest := [.int v2, .int v3]) (st2 := [.int u6, .int v2, .int v3]) (v1 := some (.int u6)) rfl zl_X12_117 zv_X12_turnsOf ⟨Nat.le_of_ble_eq_true rfl, Nat.le_of_ble_eq_true rfl⟩ rfl (by decide) rfl rfl rfl rfl rfl (Nat.le_of_ble_eq_true rfl) (t_X12_turnsOf hu6) rfl rfl rfl ?_
    by_cases hg7 : u6 = 0
    · rw [if_pos hg7] at h; cases h
    rw [if_neg hg7] at h
    refine Go.blk zk_X12_images [0] (z' := (39, [some (.ref m_p), some (.int v1), some (.int v2), some (.int v3)], [.int (v2 - v2 / u6 * u6), .int v3], ([sMo m_p m_a m_d m_was m_kept m_read m_text m_typed m_n m_q m_r m_t m_heldQ m_heldR m_heldT m_heldN m_image m_built m_fixed m_isFree m_from m_some m_field m_queue m_near m_open m_closed m_at m_begin m_sort m_lastQ m_lastR m_lastT m_readN] : List ZW).flatten)) rfl ⟨hg7, trivial⟩ ?_
    by_cases hc8 : v3 < (v2 - v2 / u6 * u6)
    · rw [if_pos hc8] at h
      refine Go.br zk_X12_images rfl rfl (fun _ => ?_) (fun q => absurd hc8 q)
      refine Go.blk zk_X12_images [0] (z' := (43, [some (.ref m_p), some (.int v1), some (.int v2), some (.int v3)], [.ref m_p], ([sMo m_p m_a m_d m_was m_kept m_read m_text m_typed m_n m_q m_r m_t m_heldQ m_heldR m_heldT m_heldN m_image m_built m_fixed m_isFree m_from m_some m_field m_queue m_near m_open m_closed m_at m_begin m_sort m_lastQ m_lastR m_lastT m_readN] : List ZW).flatten)) rfl trivial ?_
      obtain ⟨u9, hu9, h⟩ := z_bind h
      refine Go.vs zk_X12_images zm_X12_turns [0] [] 0 12 1 (S := [sMo m_p m_a m_d m_was m_kept m_read m_text m_typed m_n m_q m_r m_t m_heldQ m_heldR m_heldT m_heldN m_image m_built m_fixed m_isFree m_from m_some m_field m_queue m_near m_open m_closed m_at m_begin m_sort m_lastQ m_lastR m_lastT m_readN]) (S2 := [sMo m_p m_a m_d m_was m_kept m_read m_text m_typed m_n u9.1 u9.2.1 u9.2.2 m_heldQ m_heldR m_heldT m_heldN m_image m_built m_fixed m_isFree m_from m_some m_field m_queue m_near m_open m_closed m_at m_begin m_sort m_lastQ m_lastR m_lastT m_readN]) (As := []) (rest := []) (st2 := []) (v1 := none) rfl zl_X12_126 zv_X12_turns ⟨Nat.le_of_ble_eq_true rfl, Nat.le_of_ble_eq_true rfl⟩ rfl (by decide) rfl rfl rfl rfl rfl (Nat.le_of_ble_eq_true rfl) (t_X12_turns hu9) rfl rfl rfl ?_
      refine Go.blk zk_X12_images [0, 0] (z' := (32, [some (.ref m_p), some (.int v1), some (.int v2), some (.int (v3 + 1))], [], ([sMo m_p m_a m_d m_was m_kept m_read m_text m_typed m_n u9.1 u9.2.1 u9.2.2 m_heldQ m_heldR m_heldT m_heldN m_image m_built m_fixed m_isFree m_from m_some m_field m_queue m_near m_open m_closed m_at m_begin m_sort m_lastQ m_lastR m_lastT m_readN] : List ZW).flatten)) rfl trivial ?_
      exact ih _ _ _ _ _ h kk
    · rw [if_neg hc8] at h
      refine Go.br zk_X12_images rfl rfl (fun q => absurd q hc8) (fun _ => ?_)
      obtain rfl := Option.some.inj h
      refine Go.weak (L := [some (.ref m_p), some (.int v1), some (.int v2), some (.int v3)]) (L' := [some (.ref m_p), some (.int v1), some (.int v2), none]) (And.intro rfl (And.intro rfl (And.intro rfl (trivial)))) ?_
      exact kk
set_option maxHeartbeats 4000000 in
set_option maxRecDepth 100000 in
theorem t_X12_images_L75 {N : Nat} {m_p : Nat} {m_a : Nat → Nat} {m_d : List Int32} {m_was : List Int32} {m_kept : Int32} {m_read : List Int32} {m_text : List Int32} {m_typed : Int32} {m_n : Int32} {m_q : List Int32} {m_r : List Int32} {m_t : List Int32} {m_heldQ : List Int32} {m_heldR : List Int32} {m_heldT : List Int32} {m_heldN : Int32} {m_built : Int32} {m_fixed : List Int64} {m_isFree : List Int32} {m_from : List Int32} {m_some : List Int64} {m_field : List Int32} {m_queue : List Int32} {m_near : List Int32} {m_open : List Int32} {m_closed : List Int32} {m_at : Int32} {m_begin : Int32} {m_sort : Int32} {m_lastQ : Int32} {m_lastR : Int32} {m_lastT : Int32} {m_readN : Int32} {v1 : Int32} {v2 : Int32}  {Q : Option Value → ZW → Prop} : ∀ (fu : Nat) (v3 : Int32) (m_image : List Int32) (e : (List Int32)), f_X12_images_L75 N v2 m_n m_q m_r m_t fu v3 m_image = some e → (Go l D r (z_rl xs) zm_X12_images 0 0 (105, [some (.ref m_p), some (.int v1), some (.int v2), none], [], ([sMo m_p m_a m_d m_was m_kept m_read m_text m_typed m_n m_q m_r m_t m_heldQ m_heldR m_heldT m_heldN e m_built m_fixed m_isFree m_from m_some m_field m_queue m_near m_open m_closed m_at m_begin m_sort m_lastQ m_lastR m_lastT m_readN] : List ZW).flatten) Q) → Go l D r (z_rl xs) zm_X12_images 0 0 (75, [some (.ref m_p), some (.int v1), some (.int v2), some (.int v3)], [], ([sMo m_p m_a m_d m_was m_kept m_read m_text m_typed m_n m_q m_r m_t m_heldQ m_heldR m_heldT m_heldN m_image m_built m_fixed m_isFree m_from m_some m_field m_queue m_near m_open m_closed m_at m_begin m_sort m_lastQ m_lastR m_lastT m_readN] : List ZW).flatten) Q := by
  intro fu
  induction fu with
  | zero =>
    intro v3 m_image e h
    simp only [f_X12_images_L75, reduceCtorEq] at h
  | succ fu ih =>
    intro v3 m_image e h kk
    rw [f_X12_images_L75] at h
    refine Go.blk zk_X12_images [0, 0, 0] (z' := (80, [some (.ref m_p), some (.int v1), some (.int v2), some (.int v3)], [.int m_n, .int v3], ([sMo m_p m_a m_d m_was m_kept m_read m_text m_typed m_n m_q m_r m_t m_heldQ m_heldR m_heldT m_heldN m_image m_built m_fixed m_isFree m_from m_some m_field m_queue m_near m_open m_closed m_at m_begin m_sort m_lastQ m_lastR m_lastT m_readN] : List ZW).flatten)) rfl ⟨rfl, trivial⟩ ?_
    by_cases hc15 : v3 < m_n
    · rw [if_pos hc15] at h
      refine Go.br zk_X12_images rfl rfl (fun _ => ?_) (fun q => absurd hc15 q)
      refine Go.blk zk_X12_images [0, 0, 0, 0, 0, 0, 0, 0, 0] (z' := (95, [some (.ref m_p), some (.int v1), some (.int v2), some (.int v3)], [.int v3, .ref m_p, .int ((12 * v2) + v3), .ref (m_a 10)], ([sMo m_p m_a m_d m_was m_kept m_read m_text m_typed m_n m_q m_r m_t m_heldQ m_heldR m_heldT m_heldN m_image m_built m_fixed m_isFree m_from m_some m_field m_queue m_near m_open m_closed m_at m_begin m_sort m_lastQ m_lastR m_lastT m_readN] : List ZW).flatten)) rfl ⟨rfl, trivial⟩ ?_
      obtain ⟨u16, hu16, h⟩ := z_bind h
      refine Go.vs zk_X12_images zm_X12_place [0] [] 0 12 1 (S := [sMo m_p m_a m_d m_was m_kept m_read m_text m_typed m_n m_q m_r m_t m_heldQ m_heldR m_heldT m_heldN m_image m_built m_fixed m_isFree m_from m_some m_field m_queue m_near m_open m_closed m_at m_begin m_sort m_lastQ m_lastR m_lastT m_readN]) (S2 := [sMo m_p m_a m_d m_was m_kept m_read m_text m_typed m_n m_q m_r m_t m_heldQ m_heldR m_heldT m_heldN m_image m_built m_fixed m_isFree m_from m_some m_field m_queue m_near m_open m_closed m_at m_begin m_sort m_lastQ m_lastR m_lastT m_readN]) (As := [.int v3]) (rest := [.int ((12 * v2) + v3), .ref (m_a 10)]) (st2 := [.int u16, .int ((12 * v2) + v3), .ref (m_a 10)]) (v1 := some (.int u16)) rfl zl_X12_105 zv_X12_place ⟨Nat.le_of_ble_eq_true rfl, Nat.le_of_ble_eq_true rfl⟩ rfl (by decide) rfl rfl rfl rfl rfl (Nat.le_of_ble_eq_true rfl) (t_X12_place hu16) rfl rfl rfl ?_
      obtain ⟨t17, ht17, h⟩ := z_bind h
      refine Go.iast zk_X12_images 11 rfl rfl rfl ht17 ?_
      refine Go.eqz (z2 := (99, [some (.ref m_p), some (.int v1), some (.int v2), some (.int v3)], [], ([sMo m_p m_a m_d m_was m_kept m_read m_text m_typed m_n m_q m_r m_t m_heldQ m_heldR m_heldT m_heldN t17 m_built m_fixed m_isFree m_from m_some m_field m_queue m_near m_open m_closed m_at m_begin m_sort m_lastQ m_lastR m_lastT m_readN] : List ZW).flatten)) rfl ?_
      refine Go.blk zk_X12_images [0, 0] (z' := (75, [some (.ref m_p), some (.int v1), some (.int v2), some (.int (v3 + 1))], [], ([sMo m_p m_a m_d m_was m_kept m_read m_text m_typed m_n m_q m_r m_t m_heldQ m_heldR m_heldT m_heldN t17 m_built m_fixed m_isFree m_from m_some m_field m_queue m_near m_open m_closed m_at m_begin m_sort m_lastQ m_lastR m_lastT m_readN] : List ZW).flatten)) rfl trivial ?_
      exact ih _ _ _ h kk
    · rw [if_neg hc15] at h
      refine Go.br zk_X12_images rfl rfl (fun q => absurd q hc15) (fun _ => ?_)
      obtain rfl := Option.some.inj h
      refine Go.weak (L := [some (.ref m_p), some (.int v1), some (.int v2), some (.int v3)]) (L' := [some (.ref m_p), some (.int v1), some (.int v2), none]) (And.intro rfl (And.intro rfl (And.intro rfl (trivial)))) ?_
      exact kk
set_option maxHeartbeats 4000000 in
set_option maxRecDepth 100000 in
theorem t_X12_images_L4 {N : Nat} {m_p : Nat} {m_a : Nat → Nat} {m_d : List Int32} {m_was : List Int32} {m_kept : Int32} {m_read : List Int32} {m_text : List Int32} {m_typed : Int32} {m_heldQ : List Int32} {m_heldR : List Int32} {m_heldT : List Int32} {m_heldN : Int32} {m_built : Int32} {m_fixed : List Int64} {m_isFree : List Int32} {m_from : List Int32} {m_some : List Int64} {m_field : List Int32} {m_queue : List Int32} {m_near : List Int32} {m_open : List Int32} {m_closed : List Int32} {m_at : Int32} {m_begin : Int32} {m_sort : Int32} {m_lastQ : Int32} {m_lastR : Int32} {m_lastT : Int32} {m_readN : Int32}  {Q : Option Value → ZW → Prop} : ∀ (fu : Nat) (v1 : Int32) (v2 : Int32) (m_n : Int32) (m_q : List Int32) (m_r : List Int32) (m_t : List Int32) (m_image : List Int32) (e : Int32 × Int32 × (List Int32) × (List Int32) × (List Int32) × (List Int32)), f_X12_images_L4 N m_d m_heldQ m_heldR m_heldT m_heldN fu v1 v2 m_n m_q m_r m_t m_image = some e → (Go l D r (z_rl xs) zm_X12_images 0 0 (111, [none, some (.int e.1), none, none], [], ([sMo m_p m_a m_d m_was m_kept m_read m_text m_typed e.2.1 e.2.2.1 e.2.2.2.1 e.2.2.2.2.1 m_heldQ m_heldR m_heldT m_heldN e.2.2.2.2.2 m_built m_fixed m_isFree m_from m_some m_field m_queue m_near m_open m_closed m_at m_begin m_sort m_lastQ m_lastR m_lastT m_readN] : List ZW).flatten) Q) → Go l D r (z_rl xs) zm_X12_images 0 0 (4, [some (.ref m_p), some (.int v1), some (.int v2), none], [], ([sMo m_p m_a m_d m_was m_kept m_read m_text m_typed m_n m_q m_r m_t m_heldQ m_heldR m_heldT m_heldN m_image m_built m_fixed m_isFree m_from m_some m_field m_queue m_near m_open m_closed m_at m_begin m_sort m_lastQ m_lastR m_lastT m_readN] : List ZW).flatten) Q := by
  intro fu
  induction fu with
  | zero =>
    intro v1 v2 m_n m_q m_r m_t m_image e h
    simp only [f_X12_images_L4, reduceCtorEq] at h
  | succ fu ih =>
    intro v1 v2 m_n m_q m_r m_t m_image e h kk
    rw [f_X12_images_L4] at h
    refine Go.blk zk_X12_images [0, 0, 0] (z' := (7, [some (.ref m_p), some (.int v1), some (.int v2), none], [.ref m_p, .int 2, .int v2], ([sMo m_p m_a m_d m_was m_kept m_read m_text m_typed m_n m_q m_r m_t m_heldQ m_heldR m_heldT m_heldN m_image m_built m_fixed m_isFree m_from m_some m_field m_queue m_near m_open m_closed m_at m_begin m_sort m_lastQ m_lastR m_lastT m_readN] : List ZW).flatten)) rfl trivial ?_
    obtain ⟨u1, hu1, h⟩ := z_bind h
    refine Go.vs zk_X12_images zm_X12_turnsOf [0] [] 0 12 1 (S := [sMo m_p m_a m_d m_was m_kept m_read m_text m_typed m_n m_q m_r m_t m_heldQ m_heldR m_heldT m_heldN m_image m_built m_fixed m_isFree m_from m_some m_field m_queue m_near m_open m_closed m_at m_begin m_sort m_lastQ m_lastR m_lastT m_readN]) (S2 := [sMo m_p m_a m_d m_was m_kept m_read m_text m_typed m_n m_q m_r m_t m_heldQ m_heldR m_heldT m_heldN m_image m_built m_fixed m_isFree m_from m_some m_field m_queue m_near m_open m_closed m_at m_begin m_sort m_lastQ m_lastR m_lastT m_readN]) (As := []) (rest := [.int 2, .int v2]) (st2 := [.int u1, .int 2, .int v2]) (v1 := some (.int u1)) rfl zl_X12_117 zv_X12_turnsOf ⟨Nat.le_of_ble_eq_true rfl, Nat.le_of_ble_eq_true rfl⟩ rfl (by decide) rfl rfl rfl rfl rfl (Nat.le_of_ble_eq_true rfl) (t_X12_turnsOf hu1) rfl rfl rfl ?_
    refine Go.blk zk_X12_images [0] (z' := (11, [some (.ref m_p), some (.int v1), some (.int v2), none], [.int (2 * u1), .int v2], ([sMo m_p m_a m_d m_was m_kept m_read m_text m_typed m_n m_q m_r m_t m_heldQ m_heldR m_heldT m_heldN m_image m_built m_fixed m_isFree m_from m_some m_field m_queue m_near m_open m_closed m_at m_begin m_sort m_lastQ m_lastR m_lastT m_readN] : List ZW).flatten)) rfl trivial ?_
    by_cases hc2 : v2 < (2 * u1)
    · rw [if_pos hc2] at h
      refine Go.br zk_X12_images rfl rfl (fun _ => ?_) (fun q => absurd hc2 q)
      refine Go.blk zk_X12_images [0] (z' := (15, [some (.ref m_p), some (.int v1), some (.int v2), none], [.ref m_p], ([sMo m_p m_a m_d m_was m_kept m_read m_text m_typed m_n m_q m_r m_t m_heldQ m_heldR m_heldT m_heldN m_image m_built m_fixed m_isFree m_from m_some m_field m_queue m_near m_open m_closed m_at m_begin m_sort m_lastQ m_lastR m_lastT m_readN] : List ZW).flatten)) rfl trivial ?_
      obtain ⟨u3, hu3, h⟩ := z_bind h
      refine Go.vs zk_X12_images zm_X12_takesHeld [0] [] 0 12 1 (S := [sMo m_p m_a m_d m_was m_kept m_read m_text m_typed m_n m_q m_r m_t m_heldQ m_heldR m_heldT m_heldN m_image m_built m_fixed m_isFree m_from m_some m_field m_queue m_near m_open m_closed m_at m_begin m_sort m_lastQ m_lastR m_lastT m_readN]) (S2 := [sMo m_p m_a m_d m_was m_kept m_read m_text m_typed u3.1 u3.2.1 u3.2.2.1 u3.2.2.2 m_heldQ m_heldR m_heldT m_heldN m_image m_built m_fixed m_isFree m_from m_some m_field m_queue m_near m_open m_closed m_at m_begin m_sort m_lastQ m_lastR m_lastT m_readN]) (As := []) (rest := []) (st2 := []) (v1 := none) rfl zl_X12_120 zv_X12_takesHeld ⟨Nat.le_of_ble_eq_true rfl, Nat.le_of_ble_eq_true rfl⟩ rfl (by decide) rfl rfl rfl rfl rfl (Nat.le_of_ble_eq_true rfl) (t_X12_takesHeld hu3) rfl rfl rfl ?_
      refine Go.blk zk_X12_images [0, 0] (z' := (20, [some (.ref m_p), some (.int v1), some (.int v2), none], [.ref m_p, .int v2], ([sMo m_p m_a m_d m_was m_kept m_read m_text m_typed u3.1 u3.2.1 u3.2.2.1 u3.2.2.2 m_heldQ m_heldR m_heldT m_heldN m_image m_built m_fixed m_isFree m_from m_some m_field m_queue m_near m_open m_closed m_at m_begin m_sort m_lastQ m_lastR m_lastT m_readN] : List ZW).flatten)) rfl trivial ?_
      obtain ⟨u4, hu4, h⟩ := z_bind h
      refine Go.vs zk_X12_images zm_X12_turnsOf [0] [] 0 12 1 (S := [sMo m_p m_a m_d m_was m_kept m_read m_text m_typed u3.1 u3.2.1 u3.2.2.1 u3.2.2.2 m_heldQ m_heldR m_heldT m_heldN m_image m_built m_fixed m_isFree m_from m_some m_field m_queue m_near m_open m_closed m_at m_begin m_sort m_lastQ m_lastR m_lastT m_readN]) (S2 := [sMo m_p m_a m_d m_was m_kept m_read m_text m_typed u3.1 u3.2.1 u3.2.2.1 u3.2.2.2 m_heldQ m_heldR m_heldT m_heldN m_image m_built m_fixed m_isFree m_from m_some m_field m_queue m_near m_open m_closed m_at m_begin m_sort m_lastQ m_lastR m_lastT m_readN]) (As := []) (rest := [.int v2]) (st2 := [.int u4, .int v2]) (v1 := some (.int u4)) rfl zl_X12_117 zv_X12_turnsOf ⟨Nat.le_of_ble_eq_true rfl, Nat.le_of_ble_eq_true rfl⟩ rfl (by decide) rfl rfl rfl rfl rfl (Nat.le_of_ble_eq_true rfl) (t_X12_turnsOf hu4) rfl rfl rfl ?_
      by_cases hc5 : v2 < u4
      · rw [if_pos hc5] at h
        refine Go.br zk_X12_images rfl rfl (fun _ => ?_) (fun q => absurd hc5 q)
        refine Go.blk zk_X12_images [0, 0] (z' := (32, [some (.ref m_p), some (.int v1), some (.int v2), some (.int 0)], [], ([sMo m_p m_a m_d m_was m_kept m_read m_text m_typed u3.1 u3.2.1 u3.2.2.1 u3.2.2.2 m_heldQ m_heldR m_heldT m_heldN m_image m_built m_fixed m_isFree m_from m_some m_field m_queue m_near m_open m_closed m_at m_begin m_sort m_lastQ m_lastR m_lastT m_readN] : List ZW).flatten)) rfl trivial ?_
        obtain ⟨e10, he10, h⟩ := z_bind h
        refine t_X12_images_L32 N _ _ _ _ _ he10 ?_
        refine Go.blk zk_X12_images [0] (z' := (53, [some (.ref m_p), some (.int v1), some (.int v2), none], [.ref m_p], ([sMo m_p m_a m_d m_was m_kept m_read m_text m_typed u3.1 e10.1 e10.2.1 e10.2.2 m_heldQ m_heldR m_heldT m_heldN m_image m_built m_fixed m_isFree m_from m_some m_field m_queue m_near m_open m_closed m_at m_begin m_sort m_lastQ m_lastR m_lastT m_readN] : List ZW).flatten)) rfl trivial ?_
        obtain ⟨u11, hu11, h⟩ := z_bind h
        refine Go.vs zk_X12_images zm_X12_settles [0] [] 0 12 1 (S := [sMo m_p m_a m_d m_was m_kept m_read m_text m_typed u3.1 e10.1 e10.2.1 e10.2.2 m_heldQ m_heldR m_heldT m_heldN m_image m_built m_fixed m_isFree m_from m_some m_field m_queue m_near m_open m_closed m_at m_begin m_sort m_lastQ m_lastR m_lastT m_readN]) (S2 := [sMo m_p m_a m_d m_was m_kept m_read m_text m_typed u3.1 u11.1 u11.2.1 u11.2.2 m_heldQ m_heldR m_heldT m_heldN m_image m_built m_fixed m_isFree m_from m_some m_field m_queue m_near m_open m_closed m_at m_begin m_sort m_lastQ m_lastR m_lastT m_readN]) (As := []) (rest := []) (st2 := []) (v1 := none) rfl zl_X12_129 zv_X12_settles ⟨Nat.le_of_ble_eq_true rfl, Nat.le_of_ble_eq_true rfl⟩ rfl (by decide) rfl rfl rfl rfl rfl (Nat.le_of_ble_eq_true rfl) (t_X12_settles hu11) rfl rfl rfl ?_
        refine Go.blk zk_X12_images [0] (z' := (57, [some (.ref m_p), some (.int v1), some (.int v2), none], [.int v1], ([sMo m_p m_a m_d m_was m_kept m_read m_text m_typed u3.1 u11.1 u11.2.1 u11.2.2 m_heldQ m_heldR m_heldT m_heldN m_image m_built m_fixed m_isFree m_from m_some m_field m_queue m_near m_open m_closed m_at m_begin m_sort m_lastQ m_lastR m_lastT m_readN] : List ZW).flatten)) rfl trivial ?_
        by_cases hc12 : v1 = 0
        · rw [if_pos hc12] at h
          refine Go.br zk_X12_images rfl rfl (fun _ => ?_) (fun q => absurd hc12 q)
          refine Go.blk zk_X12_images [0] (z' := (61, [some (.ref m_p), some (.int v1), some (.int v2), none], [.ref m_p], ([sMo m_p m_a m_d m_was m_kept m_read m_text m_typed u3.1 u11.1 u11.2.1 u11.2.2 m_heldQ m_heldR m_heldT m_heldN m_image m_built m_fixed m_isFree m_from m_some m_field m_queue m_near m_open m_closed m_at m_begin m_sort m_lastQ m_lastR m_lastT m_readN] : List ZW).flatten)) rfl trivial ?_
          obtain ⟨u13, hu13, h⟩ := z_bind h
          refine Go.vs zk_X12_images zm_X12_isWide [0] [] 0 12 1 (S := [sMo m_p m_a m_d m_was m_kept m_read m_text m_typed u3.1 u11.1 u11.2.1 u11.2.2 m_heldQ m_heldR m_heldT m_heldN m_image m_built m_fixed m_isFree m_from m_some m_field m_queue m_near m_open m_closed m_at m_begin m_sort m_lastQ m_lastR m_lastT m_readN]) (S2 := [sMo m_p m_a m_d m_was m_kept m_read m_text m_typed u3.1 u11.1 u11.2.1 u11.2.2 m_heldQ m_heldR m_heldT m_heldN m_image m_built m_fixed m_isFree m_from m_some m_field m_queue m_near m_open m_closed m_at m_begin m_sort m_lastQ m_lastR m_lastT m_readN]) (As := []) (rest := []) (st2 := [.int u13]) (v1 := some (.int u13)) rfl zl_X12_132 zv_X12_isWide ⟨Nat.le_of_ble_eq_true rfl, Nat.le_of_ble_eq_true rfl⟩ rfl (by decide) rfl rfl rfl rfl rfl (Nat.le_of_ble_eq_true rfl) (t_X12_isWide hu13) rfl rfl rfl ?_
          by_cases hc14 : u13 = 0
          · rw [if_pos hc14] at h
            refine Go.br zk_X12_images rfl rfl (fun _ => ?_) (fun q => absurd hc14 q)
            refine Go.blk zk_X12_images [0, 0, 0, 0] (z' := (75, [some (.ref m_p), some (.int 0), some (.int v2), some (.int 0)], [], ([sMo m_p m_a m_d m_was m_kept m_read m_text m_typed u3.1 u11.1 u11.2.1 u11.2.2 m_heldQ m_heldR m_heldT m_heldN m_image m_built m_fixed m_isFree m_from m_some m_field m_queue m_near m_open m_closed m_at m_begin m_sort m_lastQ m_lastR m_lastT m_readN] : List ZW).flatten)) rfl trivial ?_
            obtain ⟨e18, he18, h⟩ := z_bind h
            refine t_X12_images_L75 N _ _ _ he18 ?_
            refine Go.blk zk_X12_images [0, 0] (z' := (4, [some (.ref m_p), some (.int 0), some (.int (v2 + 1)), none], [], ([sMo m_p m_a m_d m_was m_kept m_read m_text m_typed u3.1 u11.1 u11.2.1 u11.2.2 m_heldQ m_heldR m_heldT m_heldN e18 m_built m_fixed m_isFree m_from m_some m_field m_queue m_near m_open m_closed m_at m_begin m_sort m_lastQ m_lastR m_lastT m_readN] : List ZW).flatten)) rfl trivial ?_
            exact ih _ _ _ _ _ _ _ _ h kk
          · rw [if_neg hc14] at h
            refine Go.br zk_X12_images rfl rfl (fun q => absurd q hc14) (fun _ => ?_)
            refine Go.blk zk_X12_images [0, 0, 0, 0, 0] (z' := (75, [some (.ref m_p), some (.int 1), some (.int v2), some (.int 0)], [], ([sMo m_p m_a m_d m_was m_kept m_read m_text m_typed u3.1 u11.1 u11.2.1 u11.2.2 m_heldQ m_heldR m_heldT m_heldN m_image m_built m_fixed m_isFree m_from m_some m_field m_queue m_near m_open m_closed m_at m_begin m_sort m_lastQ m_lastR m_lastT m_readN] : List ZW).flatten)) rfl trivial ?_
            obtain ⟨e19, he19, h⟩ := z_bind h
            refine t_X12_images_L75 N _ _ _ he19 ?_
            refine Go.blk zk_X12_images [0, 0] (z' := (4, [some (.ref m_p), some (.int 1), some (.int (v2 + 1)), none], [], ([sMo m_p m_a m_d m_was m_kept m_read m_text m_typed u3.1 u11.1 u11.2.1 u11.2.2 m_heldQ m_heldR m_heldT m_heldN e19 m_built m_fixed m_isFree m_from m_some m_field m_queue m_near m_open m_closed m_at m_begin m_sort m_lastQ m_lastR m_lastT m_readN] : List ZW).flatten)) rfl trivial ?_
            exact ih _ _ _ _ _ _ _ _ h kk
        · rw [if_neg hc12] at h
          refine Go.br zk_X12_images rfl rfl (fun q => absurd q hc12) (fun _ => ?_)
          refine Go.blk zk_X12_images [0, 0, 0, 0, 0] (z' := (75, [some (.ref m_p), some (.int 1), some (.int v2), some (.int 0)], [], ([sMo m_p m_a m_d m_was m_kept m_read m_text m_typed u3.1 u11.1 u11.2.1 u11.2.2 m_heldQ m_heldR m_heldT m_heldN m_image m_built m_fixed m_isFree m_from m_some m_field m_queue m_near m_open m_closed m_at m_begin m_sort m_lastQ m_lastR m_lastT m_readN] : List ZW).flatten)) rfl trivial ?_
          obtain ⟨e20, he20, h⟩ := z_bind h
          refine t_X12_images_L75 N _ _ _ he20 ?_
          refine Go.blk zk_X12_images [0, 0] (z' := (4, [some (.ref m_p), some (.int 1), some (.int (v2 + 1)), none], [], ([sMo m_p m_a m_d m_was m_kept m_read m_text m_typed u3.1 u11.1 u11.2.1 u11.2.2 m_heldQ m_heldR m_heldT m_heldN e20 m_built m_fixed m_isFree m_from m_some m_field m_queue m_near m_open m_closed m_at m_begin m_sort m_lastQ m_lastR m_lastT m_readN] : List ZW).flatten)) rfl trivial ?_
          exact ih _ _ _ _ _ _ _ _ h kk
      · rw [if_neg hc5] at h
        refine Go.br zk_X12_images rfl rfl (fun q => absurd q hc5) (fun _ => ?_)
        refine Go.blk zk_X12_images [0] (z' := (27, [some (.ref m_p), some (.int v1), some (.int v2), none], [.ref m_p], ([sMo m_p m_a m_d m_was m_kept m_read m_text m_typed u3.1 u3.2.1 u3.2.2.1 u3.2.2.2 m_heldQ m_heldR m_heldT m_heldN m_image m_built m_fixed m_isFree m_from m_some m_field m_queue m_near m_open m_closed m_at m_begin m_sort m_lastQ m_lastR m_lastT m_readN] : List ZW).flatten)) rfl trivial ?_
        obtain ⟨u21, hu21, h⟩ := z_bind h
        refine Go.vs zk_X12_images zm_X12_mirrors [0] [] 0 12 1 (S := [sMo m_p m_a m_d m_was m_kept m_read m_text m_typed u3.1 u3.2.1 u3.2.2.1 u3.2.2.2 m_heldQ m_heldR m_heldT m_heldN m_image m_built m_fixed m_isFree m_from m_some m_field m_queue m_near m_open m_closed m_at m_begin m_sort m_lastQ m_lastR m_lastT m_readN]) (S2 := [sMo m_p m_a m_d m_was m_kept m_read m_text m_typed u3.1 u21.1 u21.2 u3.2.2.2 m_heldQ m_heldR m_heldT m_heldN m_image m_built m_fixed m_isFree m_from m_some m_field m_queue m_near m_open m_closed m_at m_begin m_sort m_lastQ m_lastR m_lastT m_readN]) (As := []) (rest := []) (st2 := []) (v1 := none) rfl zl_X12_123 zv_X12_mirrors ⟨Nat.le_of_ble_eq_true rfl, Nat.le_of_ble_eq_true rfl⟩ rfl (by decide) rfl rfl rfl rfl rfl (Nat.le_of_ble_eq_true rfl) (t_X12_mirrors hu21) rfl rfl rfl ?_
        refine Go.blk zk_X12_images [0, 0] (z' := (32, [some (.ref m_p), some (.int v1), some (.int v2), some (.int 0)], [], ([sMo m_p m_a m_d m_was m_kept m_read m_text m_typed u3.1 u21.1 u21.2 u3.2.2.2 m_heldQ m_heldR m_heldT m_heldN m_image m_built m_fixed m_isFree m_from m_some m_field m_queue m_near m_open m_closed m_at m_begin m_sort m_lastQ m_lastR m_lastT m_readN] : List ZW).flatten)) rfl trivial ?_
        obtain ⟨e22, he22, h⟩ := z_bind h
        refine t_X12_images_L32 N _ _ _ _ _ he22 ?_
        refine Go.blk zk_X12_images [0] (z' := (53, [some (.ref m_p), some (.int v1), some (.int v2), none], [.ref m_p], ([sMo m_p m_a m_d m_was m_kept m_read m_text m_typed u3.1 e22.1 e22.2.1 e22.2.2 m_heldQ m_heldR m_heldT m_heldN m_image m_built m_fixed m_isFree m_from m_some m_field m_queue m_near m_open m_closed m_at m_begin m_sort m_lastQ m_lastR m_lastT m_readN] : List ZW).flatten)) rfl trivial ?_
        obtain ⟨u23, hu23, h⟩ := z_bind h
        refine Go.vs zk_X12_images zm_X12_settles [0] [] 0 12 1 (S := [sMo m_p m_a m_d m_was m_kept m_read m_text m_typed u3.1 e22.1 e22.2.1 e22.2.2 m_heldQ m_heldR m_heldT m_heldN m_image m_built m_fixed m_isFree m_from m_some m_field m_queue m_near m_open m_closed m_at m_begin m_sort m_lastQ m_lastR m_lastT m_readN]) (S2 := [sMo m_p m_a m_d m_was m_kept m_read m_text m_typed u3.1 u23.1 u23.2.1 u23.2.2 m_heldQ m_heldR m_heldT m_heldN m_image m_built m_fixed m_isFree m_from m_some m_field m_queue m_near m_open m_closed m_at m_begin m_sort m_lastQ m_lastR m_lastT m_readN]) (As := []) (rest := []) (st2 := []) (v1 := none) rfl zl_X12_129 zv_X12_settles ⟨Nat.le_of_ble_eq_true rfl, Nat.le_of_ble_eq_true rfl⟩ rfl (by decide) rfl rfl rfl rfl rfl (Nat.le_of_ble_eq_true rfl) (t_X12_settles hu23) rfl rfl rfl ?_
        refine Go.blk zk_X12_images [0] (z' := (57, [some (.ref m_p), some (.int v1), some (.int v2), none], [.int v1], ([sMo m_p m_a m_d m_was m_kept m_read m_text m_typed u3.1 u23.1 u23.2.1 u23.2.2 m_heldQ m_heldR m_heldT m_heldN m_image m_built m_fixed m_isFree m_from m_some m_field m_queue m_near m_open m_closed m_at m_begin m_sort m_lastQ m_lastR m_lastT m_readN] : List ZW).flatten)) rfl trivial ?_
        by_cases hc24 : v1 = 0
        · rw [if_pos hc24] at h
          refine Go.br zk_X12_images rfl rfl (fun _ => ?_) (fun q => absurd hc24 q)
          refine Go.blk zk_X12_images [0] (z' := (61, [some (.ref m_p), some (.int v1), some (.int v2), none], [.ref m_p], ([sMo m_p m_a m_d m_was m_kept m_read m_text m_typed u3.1 u23.1 u23.2.1 u23.2.2 m_heldQ m_heldR m_heldT m_heldN m_image m_built m_fixed m_isFree m_from m_some m_field m_queue m_near m_open m_closed m_at m_begin m_sort m_lastQ m_lastR m_lastT m_readN] : List ZW).flatten)) rfl trivial ?_
          obtain ⟨u25, hu25, h⟩ := z_bind h
          refine Go.vs zk_X12_images zm_X12_isWide [0] [] 0 12 1 (S := [sMo m_p m_a m_d m_was m_kept m_read m_text m_typed u3.1 u23.1 u23.2.1 u23.2.2 m_heldQ m_heldR m_heldT m_heldN m_image m_built m_fixed m_isFree m_from m_some m_field m_queue m_near m_open m_closed m_at m_begin m_sort m_lastQ m_lastR m_lastT m_readN]) (S2 := [sMo m_p m_a m_d m_was m_kept m_read m_text m_typed u3.1 u23.1 u23.2.1 u23.2.2 m_heldQ m_heldR m_heldT m_heldN m_image m_built m_fixed m_isFree m_from m_some m_field m_queue m_near m_open m_closed m_at m_begin m_sort m_lastQ m_lastR m_lastT m_readN]) (As := []) (rest := []) (st2 := [.int u25]) (v1 := some (.int u25)) rfl zl_X12_132 zv_X12_isWide ⟨Nat.le_of_ble_eq_true rfl, Nat.le_of_ble_eq_true rfl⟩ rfl (by decide) rfl rfl rfl rfl rfl (Nat.le_of_ble_eq_true rfl) (t_X12_isWide hu25) rfl rfl rfl ?_
          by_cases hc26 : u25 = 0
          · rw [if_pos hc26] at h
            refine Go.br zk_X12_images rfl rfl (fun _ => ?_) (fun q => absurd hc26 q)
            refine Go.blk zk_X12_images [0, 0, 0, 0] (z' := (75, [some (.ref m_p), some (.int 0), some (.int v2), some (.int 0)], [], ([sMo m_p m_a m_d m_was m_kept m_read m_text m_typed u3.1 u23.1 u23.2.1 u23.2.2 m_heldQ m_heldR m_heldT m_heldN m_image m_built m_fixed m_isFree m_from m_some m_field m_queue m_near m_open m_closed m_at m_begin m_sort m_lastQ m_lastR m_lastT m_readN] : List ZW).flatten)) rfl trivial ?_
            obtain ⟨e27, he27, h⟩ := z_bind h
            refine t_X12_images_L75 N _ _ _ he27 ?_
            refine Go.blk zk_X12_images [0, 0] (z' := (4, [some (.ref m_p), some (.int 0), some (.int (v2 + 1)), none], [], ([sMo m_p m_a m_d m_was m_kept m_read m_text m_typed u3.1 u23.1 u23.2.1 u23.2.2 m_heldQ m_heldR m_heldT m_heldN e27 m_built m_fixed m_isFree m_from m_some m_field m_queue m_near m_open m_closed m_at m_begin m_sort m_lastQ m_lastR m_lastT m_readN] : List ZW).flatten)) rfl trivial ?_
            exact ih _ _ _ _ _ _ _ _ h kk
          · rw [if_neg hc26] at h
            refine Go.br zk_X12_images rfl rfl (fun q => absurd q hc26) (fun _ => ?_)
            refine Go.blk zk_X12_images [0, 0, 0, 0, 0] (z' := (75, [some (.ref m_p), some (.int 1), some (.int v2), some (.int 0)], [], ([sMo m_p m_a m_d m_was m_kept m_read m_text m_typed u3.1 u23.1 u23.2.1 u23.2.2 m_heldQ m_heldR m_heldT m_heldN m_image m_built m_fixed m_isFree m_from m_some m_field m_queue m_near m_open m_closed m_at m_begin m_sort m_lastQ m_lastR m_lastT m_readN] : List ZW).flatten)) rfl trivial ?_
            obtain ⟨e28, he28, h⟩ := z_bind h
            refine t_X12_images_L75 N _ _ _ he28 ?_
            refine Go.blk zk_X12_images [0, 0] (z' := (4, [some (.ref m_p), some (.int 1), some (.int (v2 + 1)), none], [], ([sMo m_p m_a m_d m_was m_kept m_read m_text m_typed u3.1 u23.1 u23.2.1 u23.2.2 m_heldQ m_heldR m_heldT m_heldN e28 m_built m_fixed m_isFree m_from m_some m_field m_queue m_near m_open m_closed m_at m_begin m_sort m_lastQ m_lastR m_lastT m_readN] : List ZW).flatten)) rfl trivial ?_
            exact ih _ _ _ _ _ _ _ _ h kk
        · rw [if_neg hc24] at h
          refine Go.br zk_X12_images rfl rfl (fun q => absurd q hc24) (fun _ => ?_)
          refine Go.blk zk_X12_images [0, 0, 0, 0, 0] (z' := (75, [some (.ref m_p), some (.int 1), some (.int v2), some (.int 0)], [], ([sMo m_p m_a m_d m_was m_kept m_read m_text m_typed u3.1 u23.1 u23.2.1 u23.2.2 m_heldQ m_heldR m_heldT m_heldN m_image m_built m_fixed m_isFree m_from m_some m_field m_queue m_near m_open m_closed m_at m_begin m_sort m_lastQ m_lastR m_lastT m_readN] : List ZW).flatten)) rfl trivial ?_
          obtain ⟨e29, he29, h⟩ := z_bind h
          refine t_X12_images_L75 N _ _ _ he29 ?_
          refine Go.blk zk_X12_images [0, 0] (z' := (4, [some (.ref m_p), some (.int 1), some (.int (v2 + 1)), none], [], ([sMo m_p m_a m_d m_was m_kept m_read m_text m_typed u3.1 u23.1 u23.2.1 u23.2.2 m_heldQ m_heldR m_heldT m_heldN e29 m_built m_fixed m_isFree m_from m_some m_field m_queue m_near m_open m_closed m_at m_begin m_sort m_lastQ m_lastR m_lastT m_readN] : List ZW).flatten)) rfl trivial ?_
          exact ih _ _ _ _ _ _ _ _ h kk
    · rw [if_neg hc2] at h
      refine Go.br zk_X12_images rfl rfl (fun q => absurd q hc2) (fun _ => ?_)
      obtain rfl := Option.some.inj h
      refine Go.weak (L := [some (.ref m_p), some (.int v1), some (.int v2), none]) (L' := [none, some (.int v1), none, none]) (And.intro rfl (trivial)) ?_
      exact kk
set_option maxHeartbeats 4000000 in
set_option maxRecDepth 100000 in
theorem t_X12_images {N : Nat} {m_p : Nat} {m_a : Nat → Nat} {m_d : List Int32} {m_was : List Int32} {m_kept : Int32} {m_read : List Int32} {m_text : List Int32} {m_typed : Int32} {m_n : Int32} {m_q : List Int32} {m_r : List Int32} {m_t : List Int32} {m_heldQ : List Int32} {m_heldR : List Int32} {m_heldT : List Int32} {m_heldN : Int32} {m_image : List Int32} {m_built : Int32} {m_fixed : List Int64} {m_isFree : List Int32} {m_from : List Int32} {m_some : List Int64} {m_field : List Int32} {m_queue : List Int32} {m_near : List Int32} {m_open : List Int32} {m_closed : List Int32} {m_at : Int32} {m_begin : Int32} {m_sort : Int32} {m_lastQ : Int32} {m_lastR : Int32} {m_lastT : Int32} {m_readN : Int32} {u : Int32 × Int32 × (List Int32) × (List Int32) × (List Int32) × (List Int32)}  (h : f_X12_images N m_d m_n m_q m_r m_t m_heldQ m_heldR m_heldT m_heldN m_image = some u) : Ct l D r (z_rl xs) zm_X12_images 0 0 [.ref m_p] ([sMo m_p m_a m_d m_was m_kept m_read m_text m_typed m_n m_q m_r m_t m_heldQ m_heldR m_heldT m_heldN m_image m_built m_fixed m_isFree m_from m_some m_field m_queue m_near m_open m_closed m_at m_begin m_sort m_lastQ m_lastR m_lastT m_readN] : List ZW).flatten (fun v' w' => v' = some (.int u.1) ∧ w' = ([sMo m_p m_a m_d m_was m_kept m_read m_text m_typed u.2.1 u.2.2.1 u.2.2.2.1 u.2.2.2.2.1 m_heldQ m_heldR m_heldT m_heldN u.2.2.2.2.2 m_built m_fixed m_isFree m_from m_some m_field m_queue m_near m_open m_closed m_at m_begin m_sort m_lastQ m_lastR m_lastT m_readN] : List ZW).flatten) := by
  refine Ct.of (by decide +kernel) rfl (fun q => absurd q (by decide)) (Nat.le_of_ble_eq_true rfl) ?_
  refine Go.eqz (z2 := (0, [some (.ref m_p), none, none, none], [], ([sMo m_p m_a m_d m_was m_kept m_read m_text m_typed m_n m_q m_r m_t m_heldQ m_heldR m_heldT m_heldN m_image m_built m_fixed m_isFree m_from m_some m_field m_queue m_near m_open m_closed m_at m_begin m_sort m_lastQ m_lastR m_lastT m_readN] : List ZW).flatten)) rfl ?_
  unfold f_X12_images at h
  refine Go.blk zk_X12_images [0, 0, 0, 0] (z' := (4, [some (.ref m_p), some (.int 0), some (.int 0), none], [], ([sMo m_p m_a m_d m_was m_kept m_read m_text m_typed m_n m_q m_r m_t m_heldQ m_heldR m_heldT m_heldN m_image m_built m_fixed m_isFree m_from m_some m_field m_queue m_near m_open m_closed m_at m_begin m_sort m_lastQ m_lastR m_lastT m_readN] : List ZW).flatten)) rfl trivial ?_
  obtain ⟨e30, he30, h⟩ := z_bind h
  refine t_X12_images_L4 N _ _ _ _ _ _ _ _ he30 ?_
  refine Go.blk zk_X12_images [0] (z' := (112, [none, some (.int e30.1), none, none], [.int e30.1], ([sMo m_p m_a m_d m_was m_kept m_read m_text m_typed e30.2.1 e30.2.2.1 e30.2.2.2.1 e30.2.2.2.2.1 m_heldQ m_heldR m_heldT m_heldN e30.2.2.2.2.2 m_built m_fixed m_isFree m_from m_some m_field m_queue m_near m_open m_closed m_at m_begin m_sort m_lastQ m_lastR m_lastT m_readN] : List ZW).flatten)) rfl trivial ?_
  by_cases hb31 : e30.1 = 0 ∨ e30.1 = 1
  case neg => rw [if_neg hb31] at h; cases h
  rw [if_pos hb31] at h
  obtain rfl := Option.some.inj h
  exact Go.iret zk_X12_images rfl rfl (z_nrb hb31) ⟨rfl, rfl⟩
set_option maxHeartbeats 4000000 in
set_option maxRecDepth 100000 in
theorem t_X12_compared_L2 {N : Nat} {m_p : Nat} {m_a : Nat → Nat} {m_d : List Int32} {m_was : List Int32} {m_kept : Int32} {m_read : List Int32} {m_text : List Int32} {m_typed : Int32} {m_n : Int32} {m_q : List Int32} {m_r : List Int32} {m_t : List Int32} {m_heldQ : List Int32} {m_heldR : List Int32} {m_heldT : List Int32} {m_heldN : Int32} {m_image : List Int32} {m_built : Int32} {m_fixed : List Int64} {m_isFree : List Int32} {m_from : List Int32} {m_some : List Int64} {m_field : List Int32} {m_queue : List Int32} {m_near : List Int32} {m_open : List Int32} {m_closed : List Int32} {m_at : Int32} {m_begin : Int32} {m_sort : Int32} {m_lastQ : Int32} {m_lastR : Int32} {m_lastT : Int32} {m_readN : Int32} {v1 : Int32} {v2 : Int32}  {Q : Option Value → ZW → Prop} : ∀ (fu : Nat) (v3 : Int32) (o : (Unit) ⊕ (Int32)), f_X12_compared_L2 N v1 v2 m_heldN m_image fu v3 = some o → (∀ e, o = .inl e → Go l D r (z_rl xs) zm_X12_compared 0 0 (49, [none, none, none, none, none], [], ([sMo m_p m_a m_d m_was m_kept m_read m_text m_typed m_n m_q m_r m_t m_heldQ m_heldR m_heldT m_heldN m_image m_built m_fixed m_isFree m_from m_some m_field m_queue m_near m_open m_closed m_at m_begin m_sort m_lastQ m_lastR m_lastT m_readN] : List ZW).flatten) Q) → (∀ e, o = .inr e → Q (some (.int e)) ([sMo m_p m_a m_d m_was m_kept m_read m_text m_typed m_n m_q m_r m_t m_heldQ m_heldR m_heldT m_heldN m_image m_built m_fixed m_isFree m_from m_some m_field m_queue m_near m_open m_closed m_at m_begin m_sort m_lastQ m_lastR m_lastT m_readN] : List ZW).flatten) → Go l D r (z_rl xs) zm_X12_compared 0 0 (2, [some (.ref m_p), some (.int v1), some (.int v2), some (.int v3), none], [], ([sMo m_p m_a m_d m_was m_kept m_read m_text m_typed m_n m_q m_r m_t m_heldQ m_heldR m_heldT m_heldN m_image m_built m_fixed m_isFree m_from m_some m_field m_queue m_near m_open m_closed m_at m_begin m_sort m_lastQ m_lastR m_lastT m_readN] : List ZW).flatten) Q := by
  intro fu
  induction fu with
  | zero =>
    intro v3 o h
    simp only [f_X12_compared_L2, reduceCtorEq] at h
  | succ fu ih =>
    intro v3 o h k1 k2
    rw [f_X12_compared_L2] at h
    refine Go.blk zk_X12_compared [0, 0, 0] (z' := (7, [some (.ref m_p), some (.int v1), some (.int v2), some (.int v3), none], [.int m_heldN, .int v3], ([sMo m_p m_a m_d m_was m_kept m_read m_text m_typed m_n m_q m_r m_t m_heldQ m_heldR m_heldT m_heldN m_image m_built m_fixed m_isFree m_from m_some m_field m_queue m_near m_open m_closed m_at m_begin m_sort m_lastQ m_lastR m_lastT m_readN] : List ZW).flatten)) rfl ⟨rfl, trivial⟩ ?_
    by_cases hc1 : v3 < m_heldN
    · rw [if_pos hc1] at h
      refine Go.br zk_X12_compared rfl rfl (fun _ => ?_) (fun q => absurd hc1 q)
      refine Go.blk zk_X12_compared [0, 0, 0, 0, 0, 0, 0] (z' := (20, [some (.ref m_p), some (.int v1), some (.int v2), some (.int v3), none], [.int ((12 * v1) + v3), .ref (m_a 10)], ([sMo m_p m_a m_d m_was m_kept m_read m_text m_typed m_n m_q m_r m_t m_heldQ m_heldR m_heldT m_heldN m_image m_built m_fixed m_isFree m_from m_some m_field m_queue m_near m_open m_closed m_at m_begin m_sort m_lastQ m_lastR m_lastT m_readN] : List ZW).flatten)) rfl ⟨rfl, trivial⟩ ?_
      obtain ⟨x2, hx2, h⟩ := z_bind h
      refine Go.iald zk_X12_compared 11 rfl rfl rfl hx2 ?_
      refine Go.blk zk_X12_compared [0, 0, 0, 0, 0, 0, 0] (z' := (31, [some (.ref m_p), some (.int v1), some (.int v2), some (.int v3), none], [.int ((12 * v2) + v3), .ref (m_a 10), .int x2], ([sMo m_p m_a m_d m_was m_kept m_read m_text m_typed m_n m_q m_r m_t m_heldQ m_heldR m_heldT m_heldN m_image m_built m_fixed m_isFree m_from m_some m_field m_queue m_near m_open m_closed m_at m_begin m_sort m_lastQ m_lastR m_lastT m_readN] : List ZW).flatten)) rfl ⟨rfl, trivial⟩ ?_
      obtain ⟨x3, hx3, h⟩ := z_bind h
      refine Go.iald zk_X12_compared 11 rfl rfl rfl hx3 ?_
      refine Go.blk zk_X12_compared [0, 0, 0] (z' := (37, [some (.ref m_p), some (.int v1), some (.int v2), some (.int v3), some (.int (x2 - x3))], [.int (x2 - x3)], ([sMo m_p m_a m_d m_was m_kept m_read m_text m_typed m_n m_q m_r m_t m_heldQ m_heldR m_heldT m_heldN m_image m_built m_fixed m_isFree m_from m_some m_field m_queue m_near m_open m_closed m_at m_begin m_sort m_lastQ m_lastR m_lastT m_readN] : List ZW).flatten)) rfl trivial ?_
      by_cases hc4 : (x2 - x3) = 0
      · rw [if_pos hc4] at h
        refine Go.br zk_X12_compared rfl rfl (fun _ => ?_) (fun q => absurd hc4 q)
        refine Go.blk zk_X12_compared [0, 0] (z' := (2, [some (.ref m_p), some (.int v1), some (.int v2), some (.int (v3 + 1)), some (.int (x2 - x3))], [], ([sMo m_p m_a m_d m_was m_kept m_read m_text m_typed m_n m_q m_r m_t m_heldQ m_heldR m_heldT m_heldN m_image m_built m_fixed m_isFree m_from m_some m_field m_queue m_near m_open m_closed m_at m_begin m_sort m_lastQ m_lastR m_lastT m_readN] : List ZW).flatten)) rfl trivial ?_
        refine Go.weak (L := [some (.ref m_p), some (.int v1), some (.int v2), some (.int (v3 + 1)), some (.int (x2 - x3))]) (L' := [some (.ref m_p), some (.int v1), some (.int v2), some (.int (v3 + 1)), none]) (And.intro rfl (And.intro rfl (And.intro rfl (And.intro rfl (trivial))))) ?_
        exact ih _ _ h k1 k2
      · rw [if_neg hc4] at h
        refine Go.br zk_X12_compared rfl rfl (fun q => absurd q hc4) (fun _ => ?_)
        refine Go.blk zk_X12_compared [0] (z' := (42, [some (.ref m_p), some (.int v1), some (.int v2), some (.int v3), some (.int (x2 - x3))], [.int (x2 - x3)], ([sMo m_p m_a m_d m_was m_kept m_read m_text m_typed m_n m_q m_r m_t m_heldQ m_heldR m_heldT m_heldN m_image m_built m_fixed m_isFree m_from m_some m_field m_queue m_near m_open m_closed m_at m_begin m_sort m_lastQ m_lastR m_lastT m_readN] : List ZW).flatten)) rfl trivial ?_
        obtain rfl := Option.some.inj h
        exact Go.iret zk_X12_compared rfl rfl rfl (k2 _ rfl)
    · rw [if_neg hc1] at h
      refine Go.br zk_X12_compared rfl rfl (fun q => absurd q hc1) (fun _ => ?_)
      obtain rfl := Option.some.inj h
      refine Go.weak (L := [some (.ref m_p), some (.int v1), some (.int v2), some (.int v3), none]) (L' := [none, none, none, none, none]) (trivial) ?_
      exact k1 _ rfl
set_option maxHeartbeats 4000000 in
set_option maxRecDepth 100000 in
theorem t_X12_compared {N : Nat} {m_p : Nat} {m_a : Nat → Nat} {m_d : List Int32} {m_was : List Int32} {m_kept : Int32} {m_read : List Int32} {m_text : List Int32} {m_typed : Int32} {m_n : Int32} {m_q : List Int32} {m_r : List Int32} {m_t : List Int32} {m_heldQ : List Int32} {m_heldR : List Int32} {m_heldT : List Int32} {m_heldN : Int32} {m_image : List Int32} {m_built : Int32} {m_fixed : List Int64} {m_isFree : List Int32} {m_from : List Int32} {m_some : List Int64} {m_field : List Int32} {m_queue : List Int32} {m_near : List Int32} {m_open : List Int32} {m_closed : List Int32} {m_at : Int32} {m_begin : Int32} {m_sort : Int32} {m_lastQ : Int32} {m_lastR : Int32} {m_lastT : Int32} {m_readN : Int32} {i1 : Int32} {i2 : Int32} {u : Int32}  (h : f_X12_compared N i1 i2 m_heldN m_image = some u) : Ct l D r (z_rl xs) zm_X12_compared 0 0 [.ref m_p, .int i1, .int i2] ([sMo m_p m_a m_d m_was m_kept m_read m_text m_typed m_n m_q m_r m_t m_heldQ m_heldR m_heldT m_heldN m_image m_built m_fixed m_isFree m_from m_some m_field m_queue m_near m_open m_closed m_at m_begin m_sort m_lastQ m_lastR m_lastT m_readN] : List ZW).flatten (fun v' w' => v' = some (.int u) ∧ w' = ([sMo m_p m_a m_d m_was m_kept m_read m_text m_typed m_n m_q m_r m_t m_heldQ m_heldR m_heldT m_heldN m_image m_built m_fixed m_isFree m_from m_some m_field m_queue m_near m_open m_closed m_at m_begin m_sort m_lastQ m_lastR m_lastT m_readN] : List ZW).flatten) := by
  refine Ct.of (by decide +kernel) rfl (fun q => absurd q (by decide)) (Nat.le_of_ble_eq_true rfl) ?_
  refine Go.eqz (z2 := (0, [some (.ref m_p), some (.int i1), some (.int i2), none, none], [], ([sMo m_p m_a m_d m_was m_kept m_read m_text m_typed m_n m_q m_r m_t m_heldQ m_heldR m_heldT m_heldN m_image m_built m_fixed m_isFree m_from m_some m_field m_queue m_near m_open m_closed m_at m_begin m_sort m_lastQ m_lastR m_lastT m_readN] : List ZW).flatten)) rfl ?_
  unfold f_X12_compared at h
  refine Go.blk zk_X12_compared [0, 0] (z' := (2, [some (.ref m_p), some (.int i1), some (.int i2), some (.int 0), none], [], ([sMo m_p m_a m_d m_was m_kept m_read m_text m_typed m_n m_q m_r m_t m_heldQ m_heldR m_heldT m_heldN m_image m_built m_fixed m_isFree m_from m_some m_field m_queue m_near m_open m_closed m_at m_begin m_sort m_lastQ m_lastR m_lastT m_readN] : List ZW).flatten)) rfl trivial ?_
  obtain ⟨o6, he5, h⟩ := z_bind h
  cases o6 with
  | inl e5 =>
    simp only [Sum.elim_inl] at h
    refine t_X12_compared_L2 N _ _ he5 (fun _ q => ?_) (fun _ q => nomatch q)
    obtain rfl := Sum.inl.inj q
    refine Go.blk zk_X12_compared [0] (z' := (50, [none, none, none, none, none], [.int 0], ([sMo m_p m_a m_d m_was m_kept m_read m_text m_typed m_n m_q m_r m_t m_heldQ m_heldR m_heldT m_heldN m_image m_built m_fixed m_isFree m_from m_some m_field m_queue m_near m_open m_closed m_at m_begin m_sort m_lastQ m_lastR m_lastT m_readN] : List ZW).flatten)) rfl trivial ?_
    obtain rfl := Option.some.inj h
    exact Go.iret zk_X12_compared rfl rfl rfl ⟨rfl, rfl⟩
  | inr u7 =>
    simp only [Sum.elim_inr] at h
    obtain rfl := Option.some.inj h
    refine t_X12_compared_L2 N _ _ he5 (fun _ q => nomatch q) (fun _ q => ?_)
    obtain rfl := Sum.inr.inj q
    exact ⟨rfl, rfl⟩
set_option maxHeartbeats 4000000 in
set_option maxRecDepth 100000 in
theorem t_X12_symmetries_L4 {N : Nat} {m_p : Nat} {m_a : Nat → Nat} {m_d : List Int32} {m_was : List Int32} {m_kept : Int32} {m_read : List Int32} {m_text : List Int32} {m_typed : Int32} {m_n : Int32} {m_q : List Int32} {m_r : List Int32} {m_t : List Int32} {m_heldQ : List Int32} {m_heldR : List Int32} {m_heldT : List Int32} {m_heldN : Int32} {m_image : List Int32} {m_built : Int32} {m_fixed : List Int64} {m_isFree : List Int32} {m_from : List Int32} {m_some : List Int64} {m_field : List Int32} {m_queue : List Int32} {m_near : List Int32} {m_open : List Int32} {m_closed : List Int32} {m_at : Int32} {m_begin : Int32} {m_sort : Int32} {m_lastQ : Int32} {m_lastR : Int32} {m_lastT : Int32} {m_readN : Int32}  {Q : Option Value → ZW → Prop} : ∀ (fu : Nat) (v1 : Int32) (v2 : Int32) (e : Int32), f_X12_symmetries_L4 N m_d m_heldN m_image fu v1 v2 = some e → (Go l D r (z_rl xs) zm_X12_symmetries 0 0 (37, [none, some (.int e), none], [], ([sMo m_p m_a m_d m_was m_kept m_read m_text m_typed m_n m_q m_r m_t m_heldQ m_heldR m_heldT m_heldN m_image m_built m_fixed m_isFree m_from m_some m_field m_queue m_near m_open m_closed m_at m_begin m_sort m_lastQ m_lastR m_lastT m_readN] : List ZW).flatten) Q) → Go l D r (z_rl xs) zm_X12_symmetries 0 0 (4, [some (.ref m_p), some (.int v1), some (.int v2)], [], ([sMo m_p m_a m_d m_was m_kept m_read m_text m_typed m_n m_q m_r m_t m_heldQ m_heldR m_heldT m_heldN m_image m_built m_fixed m_isFree m_from m_some m_field m_queue m_near m_open m_closed m_at m_begin m_sort m_lastQ m_lastR m_lastT m_readN] : List ZW).flatten) Q := by
  intro fu
  induction fu with
  | zero =>
    intro v1 v2 e h
    simp only [f_X12_symmetries_L4, reduceCtorEq] at h
  | succ fu ih =>
    intro v1 v2 e h kk
    rw [f_X12_symmetries_L4] at h
    refine Go.blk zk_X12_symmetries [0, 0, 0] (z' := (7, [some (.ref m_p), some (.int v1), some (.int v2)], [.ref m_p, .int 2, .int v2], ([sMo m_p m_a m_d m_was m_kept m_read m_text m_typed m_n m_q m_r m_t m_heldQ m_heldR m_heldT m_heldN m_image m_built m_fixed m_isFree m_from m_some m_field m_queue m_near m_open m_closed m_at m_begin m_sort m_lastQ m_lastR m_lastT m_readN] : List ZW).flatten)) rfl trivial ?_
    obtain ⟨u1, hu1, h⟩ := z_bind h
    refine Go.vs zk_X12_symmetries zm_X12_turnsOf [0] [] 0 12 1 (S := [sMo m_p m_a m_d m_was m_kept m_read m_text m_typed m_n m_q m_r m_t m_heldQ m_heldR m_heldT m_heldN m_image m_built m_fixed m_isFree m_from m_some m_field m_queue m_near m_open m_closed m_at m_begin m_sort m_lastQ m_lastR m_lastT m_readN]) (S2 := [sMo m_p m_a m_d m_was m_kept m_read m_text m_typed m_n m_q m_r m_t m_heldQ m_heldR m_heldT m_heldN m_image m_built m_fixed m_isFree m_from m_some m_field m_queue m_near m_open m_closed m_at m_begin m_sort m_lastQ m_lastR m_lastT m_readN]) (As := []) (rest := [.int 2, .int v2]) (st2 := [.int u1, .int 2, .int v2]) (v1 := some (.int u1)) rfl zl_X12_117 zv_X12_turnsOf ⟨Nat.le_of_ble_eq_true rfl, Nat.le_of_ble_eq_true rfl⟩ rfl (by decide) rfl rfl rfl rfl rfl (Nat.le_of_ble_eq_true rfl) (t_X12_turnsOf hu1) rfl rfl rfl ?_
    refine Go.blk zk_X12_symmetries [0] (z' := (11, [some (.ref m_p), some (.int v1), some (.int v2)], [.int (2 * u1), .int v2], ([sMo m_p m_a m_d m_was m_kept m_read m_text m_typed m_n m_q m_r m_t m_heldQ m_heldR m_heldT m_heldN m_image m_built m_fixed m_isFree m_from m_some m_field m_queue m_near m_open m_closed m_at m_begin m_sort m_lastQ m_lastR m_lastT m_readN] : List ZW).flatten)) rfl trivial ?_
    by_cases hc2 : v2 < (2 * u1)
    · rw [if_pos hc2] at h
      refine Go.br zk_X12_symmetries rfl rfl (fun _ => ?_) (fun q => absurd hc2 q)
      refine Go.blk zk_X12_symmetries [0, 0, 0, 0] (z' := (18, [some (.ref m_p), some (.int v1), some (.int v2)], [.int 0, .int v2, .ref m_p, .int v1], ([sMo m_p m_a m_d m_was m_kept m_read m_text m_typed m_n m_q m_r m_t m_heldQ m_heldR m_heldT m_heldN m_image m_built m_fixed m_isFree m_from m_some m_field m_queue m_near m_open m_closed m_at m_begin m_sort m_lastQ m_lastR m_lastT m_readN] : List ZW).flatten)) rfl trivial ?_
      obtain ⟨u3, hu3, h⟩ := z_bind h
      refine Go.vs zk_X12_symmetries zm_X12_compared [0] [] 0 12 1 (S := [sMo m_p m_a m_d m_was m_kept m_read m_text m_typed m_n m_q m_r m_t m_heldQ m_heldR m_heldT m_heldN m_image m_built m_fixed m_isFree m_from m_some m_field m_queue m_near m_open m_closed m_at m_begin m_sort m_lastQ m_lastR m_lastT m_readN]) (S2 := [sMo m_p m_a m_d m_was m_kept m_read m_text m_typed m_n m_q m_r m_t m_heldQ m_heldR m_heldT m_heldN m_image m_built m_fixed m_isFree m_from m_some m_field m_queue m_near m_open m_closed m_at m_begin m_sort m_lastQ m_lastR m_lastT m_readN]) (As := [.int v2, .int 0]) (rest := [.int v1]) (st2 := [.int u3, .int v1]) (v1 := some (.int u3)) rfl zl_X12_136 zv_X12_compared ⟨Nat.le_of_ble_eq_true rfl, Nat.le_of_ble_eq_true rfl⟩ rfl (by decide) rfl rfl rfl rfl rfl (Nat.le_of_ble_eq_true rfl) (t_X12_compared hu3) rfl rfl rfl ?_
      by_cases hc4 : u3 = 0
      · rw [if_pos hc4] at h
        refine Go.br zk_X12_symmetries rfl rfl (fun _ => ?_) (fun q => absurd hc4 q)
        refine Go.blk zk_X12_symmetries [0, 0, 0, 0, 0, 0] (z' := (4, [some (.ref m_p), some (.int (v1 + 1)), some (.int (v2 + 1))], [], ([sMo m_p m_a m_d m_was m_kept m_read m_text m_typed m_n m_q m_r m_t m_heldQ m_heldR m_heldT m_heldN m_image m_built m_fixed m_isFree m_from m_some m_field m_queue m_near m_open m_closed m_at m_begin m_sort m_lastQ m_lastR m_lastT m_readN] : List ZW).flatten)) rfl trivial ?_
        exact ih _ _ _ h kk
      · rw [if_neg hc4] at h
        refine Go.br zk_X12_symmetries rfl rfl (fun q => absurd q hc4) (fun _ => ?_)
        refine Go.blk zk_X12_symmetries [0, 0, 0, 0, 0] (z' := (4, [some (.ref m_p), some (.int (v1 + 0)), some (.int (v2 + 1))], [], ([sMo m_p m_a m_d m_was m_kept m_read m_text m_typed m_n m_q m_r m_t m_heldQ m_heldR m_heldT m_heldN m_image m_built m_fixed m_isFree m_from m_some m_field m_queue m_near m_open m_closed m_at m_begin m_sort m_lastQ m_lastR m_lastT m_readN] : List ZW).flatten)) rfl trivial ?_
        exact ih _ _ _ h kk
    · rw [if_neg hc2] at h
      refine Go.br zk_X12_symmetries rfl rfl (fun q => absurd q hc2) (fun _ => ?_)
      obtain rfl := Option.some.inj h
      refine Go.weak (L := [some (.ref m_p), some (.int v1), some (.int v2)]) (L' := [none, some (.int v1), none]) (And.intro rfl (trivial)) ?_
      exact kk
set_option maxHeartbeats 4000000 in
set_option maxRecDepth 100000 in
theorem t_X12_symmetries {N : Nat} {m_p : Nat} {m_a : Nat → Nat} {m_d : List Int32} {m_was : List Int32} {m_kept : Int32} {m_read : List Int32} {m_text : List Int32} {m_typed : Int32} {m_n : Int32} {m_q : List Int32} {m_r : List Int32} {m_t : List Int32} {m_heldQ : List Int32} {m_heldR : List Int32} {m_heldT : List Int32} {m_heldN : Int32} {m_image : List Int32} {m_built : Int32} {m_fixed : List Int64} {m_isFree : List Int32} {m_from : List Int32} {m_some : List Int64} {m_field : List Int32} {m_queue : List Int32} {m_near : List Int32} {m_open : List Int32} {m_closed : List Int32} {m_at : Int32} {m_begin : Int32} {m_sort : Int32} {m_lastQ : Int32} {m_lastR : Int32} {m_lastT : Int32} {m_readN : Int32} {u : Int32}  (h : f_X12_symmetries N m_d m_heldN m_image = some u) : Ct l D r (z_rl xs) zm_X12_symmetries 0 0 [.ref m_p] ([sMo m_p m_a m_d m_was m_kept m_read m_text m_typed m_n m_q m_r m_t m_heldQ m_heldR m_heldT m_heldN m_image m_built m_fixed m_isFree m_from m_some m_field m_queue m_near m_open m_closed m_at m_begin m_sort m_lastQ m_lastR m_lastT m_readN] : List ZW).flatten (fun v' w' => v' = some (.int u) ∧ w' = ([sMo m_p m_a m_d m_was m_kept m_read m_text m_typed m_n m_q m_r m_t m_heldQ m_heldR m_heldT m_heldN m_image m_built m_fixed m_isFree m_from m_some m_field m_queue m_near m_open m_closed m_at m_begin m_sort m_lastQ m_lastR m_lastT m_readN] : List ZW).flatten) := by
  refine Ct.of (by decide +kernel) rfl (fun q => absurd q (by decide)) (Nat.le_of_ble_eq_true rfl) ?_
  refine Go.eqz (z2 := (0, [some (.ref m_p), none, none], [], ([sMo m_p m_a m_d m_was m_kept m_read m_text m_typed m_n m_q m_r m_t m_heldQ m_heldR m_heldT m_heldN m_image m_built m_fixed m_isFree m_from m_some m_field m_queue m_near m_open m_closed m_at m_begin m_sort m_lastQ m_lastR m_lastT m_readN] : List ZW).flatten)) rfl ?_
  unfold f_X12_symmetries at h
  refine Go.blk zk_X12_symmetries [0, 0, 0, 0] (z' := (4, [some (.ref m_p), some (.int 0), some (.int 0)], [], ([sMo m_p m_a m_d m_was m_kept m_read m_text m_typed m_n m_q m_r m_t m_heldQ m_heldR m_heldT m_heldN m_image m_built m_fixed m_isFree m_from m_some m_field m_queue m_near m_open m_closed m_at m_begin m_sort m_lastQ m_lastR m_lastT m_readN] : List ZW).flatten)) rfl trivial ?_
  obtain ⟨e5, he5, h⟩ := z_bind h
  refine t_X12_symmetries_L4 N _ _ _ he5 ?_
  refine Go.blk zk_X12_symmetries [0] (z' := (38, [none, some (.int e5), none], [.int e5], ([sMo m_p m_a m_d m_was m_kept m_read m_text m_typed m_n m_q m_r m_t m_heldQ m_heldR m_heldT m_heldN m_image m_built m_fixed m_isFree m_from m_some m_field m_queue m_near m_open m_closed m_at m_begin m_sort m_lastQ m_lastR m_lastT m_readN] : List ZW).flatten)) rfl trivial ?_
  obtain rfl := Option.some.inj h
  exact Go.iret zk_X12_symmetries rfl rfl rfl ⟨rfl, rfl⟩
set_option maxHeartbeats 4000000 in
set_option maxRecDepth 100000 in
theorem t_X12_differentImages_L19 {N : Nat} {m_p : Nat} {m_a : Nat → Nat} {m_d : List Int32} {m_was : List Int32} {m_kept : Int32} {m_read : List Int32} {m_text : List Int32} {m_typed : Int32} {m_n : Int32} {m_q : List Int32} {m_r : List Int32} {m_t : List Int32} {m_heldQ : List Int32} {m_heldR : List Int32} {m_heldT : List Int32} {m_heldN : Int32} {m_image : List Int32} {m_built : Int32} {m_fixed : List Int64} {m_isFree : List Int32} {m_from : List Int32} {m_some : List Int64} {m_field : List Int32} {m_queue : List Int32} {m_near : List Int32} {m_open : List Int32} {m_closed : List Int32} {m_at : Int32} {m_begin : Int32} {m_sort : Int32} {m_lastQ : Int32} {m_lastR : Int32} {m_lastT : Int32} {m_readN : Int32} {v1 : Int32} {v2 : Int32}  {Q : Option Value → ZW → Prop} : ∀ (fu : Nat) (v3 : Int32) (v4 : Int32) (e : Int32), f_X12_differentImages_L19 N v2 m_heldN m_image fu v3 v4 = some e → (Go l D r (z_rl xs) zm_X12_differentImages 0 0 (51, [some (.ref m_p), some (.int v1), some (.int v2), some (.int e), none], [], ([sMo m_p m_a m_d m_was m_kept m_read m_text m_typed m_n m_q m_r m_t m_heldQ m_heldR m_heldT m_heldN m_image m_built m_fixed m_isFree m_from m_some m_field m_queue m_near m_open m_closed m_at m_begin m_sort m_lastQ m_lastR m_lastT m_readN] : List ZW).flatten) Q) → Go l D r (z_rl xs) zm_X12_differentImages 0 0 (19, [some (.ref m_p), some (.int v1), some (.int v2), some (.int v3), some (.int v4)], [], ([sMo m_p m_a m_d m_was m_kept m_read m_text m_typed m_n m_q m_r m_t m_heldQ m_heldR m_heldT m_heldN m_image m_built m_fixed m_isFree m_from m_some m_field m_queue m_near m_open m_closed m_at m_begin m_sort m_lastQ m_lastR m_lastT m_readN] : List ZW).flatten) Q := by
  intro fu
  induction fu with
  | zero =>
    intro v3 v4 e h
    simp only [f_X12_differentImages_L19, reduceCtorEq] at h
  | succ fu ih =>
    intro v3 v4 e h kk
    rw [f_X12_differentImages_L19] at h
    refine Go.blk zk_X12_differentImages [0, 0] (z' := (22, [some (.ref m_p), some (.int v1), some (.int v2), some (.int v3), some (.int v4)], [.int v2, .int v4], ([sMo m_p m_a m_d m_was m_kept m_read m_text m_typed m_n m_q m_r m_t m_heldQ m_heldR m_heldT m_heldN m_image m_built m_fixed m_isFree m_from m_some m_field m_queue m_near m_open m_closed m_at m_begin m_sort m_lastQ m_lastR m_lastT m_readN] : List ZW).flatten)) rfl trivial ?_
    by_cases hc3 : v4 < v2
    · rw [if_pos hc3] at h
      refine Go.br zk_X12_differentImages rfl rfl (fun _ => ?_) (fun q => absurd hc3 q)
      refine Go.blk zk_X12_differentImages [0] (z' := (26, [some (.ref m_p), some (.int v1), some (.int v2), some (.int v3), some (.int v4)], [.int v3], ([sMo m_p m_a m_d m_was m_kept m_read m_text m_typed m_n m_q m_r m_t m_heldQ m_heldR m_heldT m_heldN m_image m_built m_fixed m_isFree m_from m_some m_field m_queue m_near m_open m_closed m_at m_begin m_sort m_lastQ m_lastR m_lastT m_readN] : List ZW).flatten)) rfl trivial ?_
      by_cases hc4 : v3 = 0
      · rw [if_pos hc4] at h
        refine Go.br zk_X12_differentImages rfl rfl (fun _ => ?_) (fun q => absurd hc4 q)
        refine Go.blk zk_X12_differentImages [0, 0, 0, 0] (z' := (19, [some (.ref m_p), some (.int v1), some (.int v2), some (.int 0), some (.int (v4 + 1))], [], ([sMo m_p m_a m_d m_was m_kept m_read m_text m_typed m_n m_q m_r m_t m_heldQ m_heldR m_heldT m_heldN m_image m_built m_fixed m_isFree m_from m_some m_field m_queue m_near m_open m_closed m_at m_begin m_sort m_lastQ m_lastR m_lastT m_readN] : List ZW).flatten)) rfl trivial ?_
        exact ih _ _ _ h kk
      · rw [if_neg hc4] at h
        refine Go.br zk_X12_differentImages rfl rfl (fun q => absurd q hc4) (fun _ => ?_)
        refine Go.blk zk_X12_differentImages [0, 0, 0] (z' := (33, [some (.ref m_p), some (.int v1), some (.int v2), some (.int v3), some (.int v4)], [.int v4, .int v2, .ref m_p], ([sMo m_p m_a m_d m_was m_kept m_read m_text m_typed m_n m_q m_r m_t m_heldQ m_heldR m_heldT m_heldN m_image m_built m_fixed m_isFree m_from m_some m_field m_queue m_near m_open m_closed m_at m_begin m_sort m_lastQ m_lastR m_lastT m_readN] : List ZW).flatten)) rfl trivial ?_
        obtain ⟨u5, hu5, h⟩ := z_bind h
        refine Go.vs zk_X12_differentImages zm_X12_compared [0] [] 0 12 1 (S := [sMo m_p m_a m_d m_was m_kept m_read m_text m_typed m_n m_q m_r m_t m_heldQ m_heldR m_heldT m_heldN m_image m_built m_fixed m_isFree m_from m_some m_field m_queue m_near m_open m_closed m_at m_begin m_sort m_lastQ m_lastR m_lastT m_readN]) (S2 := [sMo m_p m_a m_d m_was m_kept m_read m_text m_typed m_n m_q m_r m_t m_heldQ m_heldR m_heldT m_heldN m_image m_built m_fixed m_isFree m_from m_some m_field m_queue m_near m_open m_closed m_at m_begin m_sort m_lastQ m_lastR m_lastT m_readN]) (As := [.int v2, .int v4]) (rest := []) (st2 := [.int u5]) (v1 := some (.int u5)) rfl zl_X12_136 zv_X12_compared ⟨Nat.le_of_ble_eq_true rfl, Nat.le_of_ble_eq_true rfl⟩ rfl (by decide) rfl rfl rfl rfl rfl (Nat.le_of_ble_eq_true rfl) (t_X12_compared hu5) rfl rfl rfl ?_
        by_cases hc6 : u5 = 0
        · rw [if_pos hc6] at h
          refine Go.br zk_X12_differentImages rfl rfl (fun _ => ?_) (fun q => absurd hc6 q)
          refine Go.blk zk_X12_differentImages [0, 0, 0, 0] (z' := (19, [some (.ref m_p), some (.int v1), some (.int v2), some (.int 0), some (.int (v4 + 1))], [], ([sMo m_p m_a m_d m_was m_kept m_read m_text m_typed m_n m_q m_r m_t m_heldQ m_heldR m_heldT m_heldN m_image m_built m_fixed m_isFree m_from m_some m_field m_queue m_near m_open m_closed m_at m_begin m_sort m_lastQ m_lastR m_lastT m_readN] : List ZW).flatten)) rfl trivial ?_
          exact ih _ _ _ h kk
        · rw [if_neg hc6] at h
          refine Go.br zk_X12_differentImages rfl rfl (fun q => absurd q hc6) (fun _ => ?_)
          refine Go.blk zk_X12_differentImages [0, 0, 0, 0, 0] (z' := (19, [some (.ref m_p), some (.int v1), some (.int v2), some (.int 1), some (.int (v4 + 1))], [], ([sMo m_p m_a m_d m_was m_kept m_read m_text m_typed m_n m_q m_r m_t m_heldQ m_heldR m_heldT m_heldN m_image m_built m_fixed m_isFree m_from m_some m_field m_queue m_near m_open m_closed m_at m_begin m_sort m_lastQ m_lastR m_lastT m_readN] : List ZW).flatten)) rfl trivial ?_
          exact ih _ _ _ h kk
    · rw [if_neg hc3] at h
      refine Go.br zk_X12_differentImages rfl rfl (fun q => absurd q hc3) (fun _ => ?_)
      obtain rfl := Option.some.inj h
      refine Go.weak (L := [some (.ref m_p), some (.int v1), some (.int v2), some (.int v3), some (.int v4)]) (L' := [some (.ref m_p), some (.int v1), some (.int v2), some (.int v3), none]) (And.intro rfl (And.intro rfl (And.intro rfl (And.intro rfl (trivial))))) ?_
      exact kk
set_option maxHeartbeats 4000000 in
set_option maxRecDepth 100000 in
theorem t_X12_differentImages_L4 {N : Nat} {m_p : Nat} {m_a : Nat → Nat} {m_d : List Int32} {m_was : List Int32} {m_kept : Int32} {m_read : List Int32} {m_text : List Int32} {m_typed : Int32} {m_n : Int32} {m_q : List Int32} {m_r : List Int32} {m_t : List Int32} {m_heldQ : List Int32} {m_heldR : List Int32} {m_heldT : List Int32} {m_heldN : Int32} {m_image : List Int32} {m_built : Int32} {m_fixed : List Int64} {m_isFree : List Int32} {m_from : List Int32} {m_some : List Int64} {m_field : List Int32} {m_queue : List Int32} {m_near : List Int32} {m_open : List Int32} {m_closed : List Int32} {m_at : Int32} {m_begin : Int32} {m_sort : Int32} {m_lastQ : Int32} {m_lastR : Int32} {m_lastT : Int32} {m_readN : Int32}  {Q : Option Value → ZW → Prop} : ∀ (fu : Nat) (v1 : Int32) (v2 : Int32) (e : Int32), f_X12_differentImages_L4 N m_d m_heldN m_image fu v1 v2 = some e → (Go l D r (z_rl xs) zm_X12_differentImages 0 0 (69, [none, some (.int e), none, none, none], [], ([sMo m_p m_a m_d m_was m_kept m_read m_text m_typed m_n m_q m_r m_t m_heldQ m_heldR m_heldT m_heldN m_image m_built m_fixed m_isFree m_from m_some m_field m_queue m_near m_open m_closed m_at m_begin m_sort m_lastQ m_lastR m_lastT m_readN] : List ZW).flatten) Q) → Go l D r (z_rl xs) zm_X12_differentImages 0 0 (4, [some (.ref m_p), some (.int v1), some (.int v2), none, none], [], ([sMo m_p m_a m_d m_was m_kept m_read m_text m_typed m_n m_q m_r m_t m_heldQ m_heldR m_heldT m_heldN m_image m_built m_fixed m_isFree m_from m_some m_field m_queue m_near m_open m_closed m_at m_begin m_sort m_lastQ m_lastR m_lastT m_readN] : List ZW).flatten) Q := by
  intro fu
  induction fu with
  | zero =>
    intro v1 v2 e h
    simp only [f_X12_differentImages_L4, reduceCtorEq] at h
  | succ fu ih =>
    intro v1 v2 e h kk
    rw [f_X12_differentImages_L4] at h
    refine Go.blk zk_X12_differentImages [0, 0, 0] (z' := (7, [some (.ref m_p), some (.int v1), some (.int v2), none, none], [.ref m_p, .int 2, .int v2], ([sMo m_p m_a m_d m_was m_kept m_read m_text m_typed m_n m_q m_r m_t m_heldQ m_heldR m_heldT m_heldN m_image m_built m_fixed m_isFree m_from m_some m_field m_queue m_near m_open m_closed m_at m_begin m_sort m_lastQ m_lastR m_lastT m_readN] : List ZW).flatten)) rfl trivial ?_
    obtain ⟨u1, hu1, h⟩ := z_bind h
    refine Go.vs zk_X12_differentImages zm_X12_turnsOf [0] [] 0 12 1 (S := [sMo m_p m_a m_d m_was m_kept m_read m_text m_typed m_n m_q m_r m_t m_heldQ m_heldR m_heldT m_heldN m_image m_built m_fixed m_isFree m_from m_some m_field m_queue m_near m_open m_closed m_at m_begin m_sort m_lastQ m_lastR m_lastT m_readN]) (S2 := [sMo m_p m_a m_d m_was m_kept m_read m_text m_typed m_n m_q m_r m_t m_heldQ m_heldR m_heldT m_heldN m_image m_built m_fixed m_isFree m_from m_some m_field m_queue m_near m_open m_closed m_at m_begin m_sort m_lastQ m_lastR m_lastT m_readN]) (As := []) (rest := [.int 2, .int v2]) (st2 := [.int u1, .int 2, .int v2]) (v1 := some (.int u1)) rfl zl_X12_117 zv_X12_turnsOf ⟨Nat.le_of_ble_eq_true rfl, Nat.le_of_ble_eq_true rfl⟩ rfl (by decide) rfl rfl rfl rfl rfl (Nat.le_of_ble_eq_true rfl) (t_X12_turnsOf hu1) rfl rfl rfl ?_
    refine Go.blk zk_X12_differentImages [0] (z' := (11, [some (.ref m_p), some (.int v1), some (.int v2), none, none], [.int (2 * u1), .int v2], ([sMo m_p m_a m_d m_was m_kept m_read m_text m_typed m_n m_q m_r m_t m_heldQ m_heldR m_heldT m_heldN m_image m_built m_fixed m_isFree m_from m_some m_field m_queue m_near m_open m_closed m_at m_begin m_sort m_lastQ m_lastR m_lastT m_readN] : List ZW).flatten)) rfl trivial ?_
    by_cases hc2 : v2 < (2 * u1)
    · rw [if_pos hc2] at h
      refine Go.br zk_X12_differentImages rfl rfl (fun _ => ?_) (fun q => absurd hc2 q)
      refine Go.blk zk_X12_differentImages [0, 0, 0, 0] (z' := (19, [some (.ref m_p), some (.int v1), some (.int v2), some (.int 1), some (.int 0)], [], ([sMo m_p m_a m_d m_was m_kept m_read m_text m_typed m_n m_q m_r m_t m_heldQ m_heldR m_heldT m_heldN m_image m_built m_fixed m_isFree m_from m_some m_field m_queue m_near m_open m_closed m_at m_begin m_sort m_lastQ m_lastR m_lastT m_readN] : List ZW).flatten)) rfl trivial ?_
      obtain ⟨e7, he7, h⟩ := z_bind h
      refine t_X12_differentImages_L19 N _ _ _ he7 ?_
      refine Go.blk zk_X12_differentImages [0, 0] (z' := (53, [some (.ref m_p), some (.int v1), some (.int v2), some (.int e7), none], [.int e7, .int v1], ([sMo m_p m_a m_d m_was m_kept m_read m_text m_typed m_n m_q m_r m_t m_heldQ m_heldR m_heldT m_heldN m_image m_built m_fixed m_isFree m_from m_some m_field m_queue m_near m_open m_closed m_at m_begin m_sort m_lastQ m_lastR m_lastT m_readN] : List ZW).flatten)) rfl trivial ?_
      by_cases hc8 : e7 = 0
      · rw [if_pos hc8] at h
        refine Go.br zk_X12_differentImages rfl rfl (fun _ => ?_) (fun q => absurd hc8 q)
        refine Go.blk zk_X12_differentImages [0, 0, 0, 0, 0] (z' := (4, [some (.ref m_p), some (.int (v1 + 0)), some (.int (v2 + 1)), some (.int e7), none], [], ([sMo m_p m_a m_d m_was m_kept m_read m_text m_typed m_n m_q m_r m_t m_heldQ m_heldR m_heldT m_heldN m_image m_built m_fixed m_isFree m_from m_some m_field m_queue m_near m_open m_closed m_at m_begin m_sort m_lastQ m_lastR m_lastT m_readN] : List ZW).flatten)) rfl trivial ?_
        refine Go.weak (L := [some (.ref m_p), some (.int (v1 + 0)), some (.int (v2 + 1)), some (.int e7), none]) (L' := [some (.ref m_p), some (.int (v1 + 0)), some (.int (v2 + 1)), none, none]) (And.intro rfl (And.intro rfl (And.intro rfl (trivial)))) ?_
        exact ih _ _ _ h kk
      · rw [if_neg hc8] at h
        refine Go.br zk_X12_differentImages rfl rfl (fun q => absurd q hc8) (fun _ => ?_)
        refine Go.blk zk_X12_differentImages [0, 0, 0, 0, 0, 0] (z' := (4, [some (.ref m_p), some (.int (v1 + 1)), some (.int (v2 + 1)), some (.int e7), none], [], ([sMo m_p m_a m_d m_was m_kept m_read m_text m_typed m_n m_q m_r m_t m_heldQ m_heldR m_heldT m_heldN m_image m_built m_fixed m_isFree m_from m_some m_field m_queue m_near m_open m_closed m_at m_begin m_sort m_lastQ m_lastR m_lastT m_readN] : List ZW).flatten)) rfl trivial ?_
        refine Go.weak (L := [some (.ref m_p), some (.int (v1 + 1)), some (.int (v2 + 1)), some (.int e7), none]) (L' := [some (.ref m_p), some (.int (v1 + 1)), some (.int (v2 + 1)), none, none]) (And.intro rfl (And.intro rfl (And.intro rfl (trivial)))) ?_
        exact ih _ _ _ h kk
    · rw [if_neg hc2] at h
      refine Go.br zk_X12_differentImages rfl rfl (fun q => absurd q hc2) (fun _ => ?_)
      obtain rfl := Option.some.inj h
      refine Go.weak (L := [some (.ref m_p), some (.int v1), some (.int v2), none, none]) (L' := [none, some (.int v1), none, none, none]) (And.intro rfl (trivial)) ?_
      exact kk
set_option maxHeartbeats 4000000 in
set_option maxRecDepth 100000 in
theorem t_X12_differentImages {N : Nat} {m_p : Nat} {m_a : Nat → Nat} {m_d : List Int32} {m_was : List Int32} {m_kept : Int32} {m_read : List Int32} {m_text : List Int32} {m_typed : Int32} {m_n : Int32} {m_q : List Int32} {m_r : List Int32} {m_t : List Int32} {m_heldQ : List Int32} {m_heldR : List Int32} {m_heldT : List Int32} {m_heldN : Int32} {m_image : List Int32} {m_built : Int32} {m_fixed : List Int64} {m_isFree : List Int32} {m_from : List Int32} {m_some : List Int64} {m_field : List Int32} {m_queue : List Int32} {m_near : List Int32} {m_open : List Int32} {m_closed : List Int32} {m_at : Int32} {m_begin : Int32} {m_sort : Int32} {m_lastQ : Int32} {m_lastR : Int32} {m_lastT : Int32} {m_readN : Int32} {u : Int32}  (h : f_X12_differentImages N m_d m_heldN m_image = some u) : Ct l D r (z_rl xs) zm_X12_differentImages 0 0 [.ref m_p] ([sMo m_p m_a m_d m_was m_kept m_read m_text m_typed m_n m_q m_r m_t m_heldQ m_heldR m_heldT m_heldN m_image m_built m_fixed m_isFree m_from m_some m_field m_queue m_near m_open m_closed m_at m_begin m_sort m_lastQ m_lastR m_lastT m_readN] : List ZW).flatten (fun v' w' => v' = some (.int u) ∧ w' = ([sMo m_p m_a m_d m_was m_kept m_read m_text m_typed m_n m_q m_r m_t m_heldQ m_heldR m_heldT m_heldN m_image m_built m_fixed m_isFree m_from m_some m_field m_queue m_near m_open m_closed m_at m_begin m_sort m_lastQ m_lastR m_lastT m_readN] : List ZW).flatten) := by
  refine Ct.of (by decide +kernel) rfl (fun q => absurd q (by decide)) (Nat.le_of_ble_eq_true rfl) ?_
  refine Go.eqz (z2 := (0, [some (.ref m_p), none, none, none, none], [], ([sMo m_p m_a m_d m_was m_kept m_read m_text m_typed m_n m_q m_r m_t m_heldQ m_heldR m_heldT m_heldN m_image m_built m_fixed m_isFree m_from m_some m_field m_queue m_near m_open m_closed m_at m_begin m_sort m_lastQ m_lastR m_lastT m_readN] : List ZW).flatten)) rfl ?_
  unfold f_X12_differentImages at h
  refine Go.blk zk_X12_differentImages [0, 0, 0, 0] (z' := (4, [some (.ref m_p), some (.int 0), some (.int 0), none, none], [], ([sMo m_p m_a m_d m_was m_kept m_read m_text m_typed m_n m_q m_r m_t m_heldQ m_heldR m_heldT m_heldN m_image m_built m_fixed m_isFree m_from m_some m_field m_queue m_near m_open m_closed m_at m_begin m_sort m_lastQ m_lastR m_lastT m_readN] : List ZW).flatten)) rfl trivial ?_
  obtain ⟨e9, he9, h⟩ := z_bind h
  refine t_X12_differentImages_L4 N _ _ _ he9 ?_
  refine Go.blk zk_X12_differentImages [0] (z' := (70, [none, some (.int e9), none, none, none], [.int e9], ([sMo m_p m_a m_d m_was m_kept m_read m_text m_typed m_n m_q m_r m_t m_heldQ m_heldR m_heldT m_heldN m_image m_built m_fixed m_isFree m_from m_some m_field m_queue m_near m_open m_closed m_at m_begin m_sort m_lastQ m_lastR m_lastT m_readN] : List ZW).flatten)) rfl trivial ?_
  obtain rfl := Option.some.inj h
  exact Go.iret zk_X12_differentImages rfl rfl rfl ⟨rfl, rfl⟩
set_option maxHeartbeats 4000000 in
set_option maxRecDepth 100000 in
theorem t_X12_leastImage_L4 {N : Nat} {m_p : Nat} {m_a : Nat → Nat} {m_d : List Int32} {m_was : List Int32} {m_kept : Int32} {m_read : List Int32} {m_text : List Int32} {m_typed : Int32} {m_n : Int32} {m_q : List Int32} {m_r : List Int32} {m_t : List Int32} {m_heldQ : List Int32} {m_heldR : List Int32} {m_heldT : List Int32} {m_heldN : Int32} {m_image : List Int32} {m_built : Int32} {m_fixed : List Int64} {m_isFree : List Int32} {m_from : List Int32} {m_some : List Int64} {m_field : List Int32} {m_queue : List Int32} {m_near : List Int32} {m_open : List Int32} {m_closed : List Int32} {m_at : Int32} {m_begin : Int32} {m_sort : Int32} {m_lastQ : Int32} {m_lastR : Int32} {m_lastT : Int32} {m_readN : Int32}  {Q : Option Value → ZW → Prop} : ∀ (fu : Nat) (v1 : Int32) (v2 : Int32) (e : Int32), f_X12_leastImage_L4 N m_d m_heldN m_image fu v1 v2 = some e → (Go l D r (z_rl xs) zm_X12_leastImage 0 0 (35, [none, some (.int e), none], [], ([sMo m_p m_a m_d m_was m_kept m_read m_text m_typed m_n m_q m_r m_t m_heldQ m_heldR m_heldT m_heldN m_image m_built m_fixed m_isFree m_from m_some m_field m_queue m_near m_open m_closed m_at m_begin m_sort m_lastQ m_lastR m_lastT m_readN] : List ZW).flatten) Q) → Go l D r (z_rl xs) zm_X12_leastImage 0 0 (4, [some (.ref m_p), some (.int v1), some (.int v2)], [], ([sMo m_p m_a m_d m_was m_kept m_read m_text m_typed m_n m_q m_r m_t m_heldQ m_heldR m_heldT m_heldN m_image m_built m_fixed m_isFree m_from m_some m_field m_queue m_near m_open m_closed m_at m_begin m_sort m_lastQ m_lastR m_lastT m_readN] : List ZW).flatten) Q := by
  intro fu
  induction fu with
  | zero =>
    intro v1 v2 e h
    simp only [f_X12_leastImage_L4, reduceCtorEq] at h
  | succ fu ih =>
    intro v1 v2 e h kk
    rw [f_X12_leastImage_L4] at h
    refine Go.blk zk_X12_leastImage [0, 0, 0] (z' := (7, [some (.ref m_p), some (.int v1), some (.int v2)], [.ref m_p, .int 2, .int v2], ([sMo m_p m_a m_d m_was m_kept m_read m_text m_typed m_n m_q m_r m_t m_heldQ m_heldR m_heldT m_heldN m_image m_built m_fixed m_isFree m_from m_some m_field m_queue m_near m_open m_closed m_at m_begin m_sort m_lastQ m_lastR m_lastT m_readN] : List ZW).flatten)) rfl trivial ?_
    obtain ⟨u1, hu1, h⟩ := z_bind h
    refine Go.vs zk_X12_leastImage zm_X12_turnsOf [0] [] 0 12 1 (S := [sMo m_p m_a m_d m_was m_kept m_read m_text m_typed m_n m_q m_r m_t m_heldQ m_heldR m_heldT m_heldN m_image m_built m_fixed m_isFree m_from m_some m_field m_queue m_near m_open m_closed m_at m_begin m_sort m_lastQ m_lastR m_lastT m_readN]) (S2 := [sMo m_p m_a m_d m_was m_kept m_read m_text m_typed m_n m_q m_r m_t m_heldQ m_heldR m_heldT m_heldN m_image m_built m_fixed m_isFree m_from m_some m_field m_queue m_near m_open m_closed m_at m_begin m_sort m_lastQ m_lastR m_lastT m_readN]) (As := []) (rest := [.int 2, .int v2]) (st2 := [.int u1, .int 2, .int v2]) (v1 := some (.int u1)) rfl zl_X12_117 zv_X12_turnsOf ⟨Nat.le_of_ble_eq_true rfl, Nat.le_of_ble_eq_true rfl⟩ rfl (by decide) rfl rfl rfl rfl rfl (Nat.le_of_ble_eq_true rfl) (t_X12_turnsOf hu1) rfl rfl rfl ?_
    refine Go.blk zk_X12_leastImage [0] (z' := (11, [some (.ref m_p), some (.int v1), some (.int v2)], [.int (2 * u1), .int v2], ([sMo m_p m_a m_d m_was m_kept m_read m_text m_typed m_n m_q m_r m_t m_heldQ m_heldR m_heldT m_heldN m_image m_built m_fixed m_isFree m_from m_some m_field m_queue m_near m_open m_closed m_at m_begin m_sort m_lastQ m_lastR m_lastT m_readN] : List ZW).flatten)) rfl trivial ?_
    by_cases hc2 : v2 < (2 * u1)
    · rw [if_pos hc2] at h
      refine Go.br zk_X12_leastImage rfl rfl (fun _ => ?_) (fun q => absurd hc2 q)
      refine Go.blk zk_X12_leastImage [0, 0, 0] (z' := (17, [some (.ref m_p), some (.int v1), some (.int v2)], [.int v1, .int v2, .ref m_p], ([sMo m_p m_a m_d m_was m_kept m_read m_text m_typed m_n m_q m_r m_t m_heldQ m_heldR m_heldT m_heldN m_image m_built m_fixed m_isFree m_from m_some m_field m_queue m_near m_open m_closed m_at m_begin m_sort m_lastQ m_lastR m_lastT m_readN] : List ZW).flatten)) rfl trivial ?_
      obtain ⟨u3, hu3, h⟩ := z_bind h
      refine Go.vs zk_X12_leastImage zm_X12_compared [0] [] 0 12 1 (S := [sMo m_p m_a m_d m_was m_kept m_read m_text m_typed m_n m_q m_r m_t m_heldQ m_heldR m_heldT m_heldN m_image m_built m_fixed m_isFree m_from m_some m_field m_queue m_near m_open m_closed m_at m_begin m_sort m_lastQ m_lastR m_lastT m_readN]) (S2 := [sMo m_p m_a m_d m_was m_kept m_read m_text m_typed m_n m_q m_r m_t m_heldQ m_heldR m_heldT m_heldN m_image m_built m_fixed m_isFree m_from m_some m_field m_queue m_near m_open m_closed m_at m_begin m_sort m_lastQ m_lastR m_lastT m_readN]) (As := [.int v2, .int v1]) (rest := []) (st2 := [.int u3]) (v1 := some (.int u3)) rfl zl_X12_136 zv_X12_compared ⟨Nat.le_of_ble_eq_true rfl, Nat.le_of_ble_eq_true rfl⟩ rfl (by decide) rfl rfl rfl rfl rfl (Nat.le_of_ble_eq_true rfl) (t_X12_compared hu3) rfl rfl rfl ?_
      by_cases hc4 : u3 < 0
      · rw [if_pos hc4] at h
        refine Go.br zk_X12_leastImage rfl rfl (fun _ => ?_) (fun q => absurd hc4 q)
        refine Go.blk zk_X12_leastImage [0, 0, 0, 0, 0] (z' := (4, [some (.ref m_p), some (.int v2), some (.int (v2 + 1))], [], ([sMo m_p m_a m_d m_was m_kept m_read m_text m_typed m_n m_q m_r m_t m_heldQ m_heldR m_heldT m_heldN m_image m_built m_fixed m_isFree m_from m_some m_field m_queue m_near m_open m_closed m_at m_begin m_sort m_lastQ m_lastR m_lastT m_readN] : List ZW).flatten)) rfl trivial ?_
        exact ih _ _ _ h kk
      · rw [if_neg hc4] at h
        refine Go.br zk_X12_leastImage rfl rfl (fun q => absurd q hc4) (fun _ => ?_)
        refine Go.blk zk_X12_leastImage [0, 0, 0, 0] (z' := (4, [some (.ref m_p), some (.int v1), some (.int (v2 + 1))], [], ([sMo m_p m_a m_d m_was m_kept m_read m_text m_typed m_n m_q m_r m_t m_heldQ m_heldR m_heldT m_heldN m_image m_built m_fixed m_isFree m_from m_some m_field m_queue m_near m_open m_closed m_at m_begin m_sort m_lastQ m_lastR m_lastT m_readN] : List ZW).flatten)) rfl trivial ?_
        exact ih _ _ _ h kk
    · rw [if_neg hc2] at h
      refine Go.br zk_X12_leastImage rfl rfl (fun q => absurd q hc2) (fun _ => ?_)
      obtain rfl := Option.some.inj h
      refine Go.weak (L := [some (.ref m_p), some (.int v1), some (.int v2)]) (L' := [none, some (.int v1), none]) (And.intro rfl (trivial)) ?_
      exact kk
set_option maxHeartbeats 4000000 in
set_option maxRecDepth 100000 in
theorem t_X12_leastImage {N : Nat} {m_p : Nat} {m_a : Nat → Nat} {m_d : List Int32} {m_was : List Int32} {m_kept : Int32} {m_read : List Int32} {m_text : List Int32} {m_typed : Int32} {m_n : Int32} {m_q : List Int32} {m_r : List Int32} {m_t : List Int32} {m_heldQ : List Int32} {m_heldR : List Int32} {m_heldT : List Int32} {m_heldN : Int32} {m_image : List Int32} {m_built : Int32} {m_fixed : List Int64} {m_isFree : List Int32} {m_from : List Int32} {m_some : List Int64} {m_field : List Int32} {m_queue : List Int32} {m_near : List Int32} {m_open : List Int32} {m_closed : List Int32} {m_at : Int32} {m_begin : Int32} {m_sort : Int32} {m_lastQ : Int32} {m_lastR : Int32} {m_lastT : Int32} {m_readN : Int32} {u : Int32}  (h : f_X12_leastImage N m_d m_heldN m_image = some u) : Ct l D r (z_rl xs) zm_X12_leastImage 0 0 [.ref m_p] ([sMo m_p m_a m_d m_was m_kept m_read m_text m_typed m_n m_q m_r m_t m_heldQ m_heldR m_heldT m_heldN m_image m_built m_fixed m_isFree m_from m_some m_field m_queue m_near m_open m_closed m_at m_begin m_sort m_lastQ m_lastR m_lastT m_readN] : List ZW).flatten (fun v' w' => v' = some (.int u) ∧ w' = ([sMo m_p m_a m_d m_was m_kept m_read m_text m_typed m_n m_q m_r m_t m_heldQ m_heldR m_heldT m_heldN m_image m_built m_fixed m_isFree m_from m_some m_field m_queue m_near m_open m_closed m_at m_begin m_sort m_lastQ m_lastR m_lastT m_readN] : List ZW).flatten) := by
  refine Ct.of (by decide +kernel) rfl (fun q => absurd q (by decide)) (Nat.le_of_ble_eq_true rfl) ?_
  refine Go.eqz (z2 := (0, [some (.ref m_p), none, none], [], ([sMo m_p m_a m_d m_was m_kept m_read m_text m_typed m_n m_q m_r m_t m_heldQ m_heldR m_heldT m_heldN m_image m_built m_fixed m_isFree m_from m_some m_field m_queue m_near m_open m_closed m_at m_begin m_sort m_lastQ m_lastR m_lastT m_readN] : List ZW).flatten)) rfl ?_
  unfold f_X12_leastImage at h
  refine Go.blk zk_X12_leastImage [0, 0, 0, 0] (z' := (4, [some (.ref m_p), some (.int 0), some (.int 1)], [], ([sMo m_p m_a m_d m_was m_kept m_read m_text m_typed m_n m_q m_r m_t m_heldQ m_heldR m_heldT m_heldN m_image m_built m_fixed m_isFree m_from m_some m_field m_queue m_near m_open m_closed m_at m_begin m_sort m_lastQ m_lastR m_lastT m_readN] : List ZW).flatten)) rfl trivial ?_
  obtain ⟨e5, he5, h⟩ := z_bind h
  refine t_X12_leastImage_L4 N _ _ _ he5 ?_
  refine Go.blk zk_X12_leastImage [0] (z' := (36, [none, some (.int e5), none], [.int e5], ([sMo m_p m_a m_d m_was m_kept m_read m_text m_typed m_n m_q m_r m_t m_heldQ m_heldR m_heldT m_heldN m_image m_built m_fixed m_isFree m_from m_some m_field m_queue m_near m_open m_closed m_at m_begin m_sort m_lastQ m_lastR m_lastT m_readN] : List ZW).flatten)) rfl trivial ?_
  obtain rfl := Option.some.inj h
  exact Go.iret zk_X12_leastImage rfl rfl rfl ⟨rfl, rfl⟩
set_option maxHeartbeats 4000000 in
set_option maxRecDepth 100000 in
theorem t_X12_takesImage_L10 {N : Nat} {m_p : Nat} {m_a : Nat → Nat} {m_d : List Int32} {m_was : List Int32} {m_kept : Int32} {m_read : List Int32} {m_text : List Int32} {m_typed : Int32} {m_n : Int32} {m_heldQ : List Int32} {m_heldR : List Int32} {m_heldT : List Int32} {m_heldN : Int32} {m_image : List Int32} {m_built : Int32} {m_fixed : List Int64} {m_isFree : List Int32} {m_from : List Int32} {m_some : List Int64} {m_field : List Int32} {m_queue : List Int32} {m_near : List Int32} {m_open : List Int32} {m_closed : List Int32} {m_at : Int32} {m_begin : Int32} {m_sort : Int32} {m_lastQ : Int32} {m_lastR : Int32} {m_lastT : Int32} {m_readN : Int32} {v1 : Int32}  {Q : Option Value → ZW → Prop} : ∀ (fu : Nat) (v2 : Int32) (m_q : List Int32) (m_r : List Int32) (m_t : List Int32) (e : (List Int32) × (List Int32) × (List Int32)), f_X12_takesImage_L10 N v1 m_n m_image fu v2 m_q m_r m_t = some e → (Go l D r (z_rl xs) zm_X12_takesImage 0 0 (67, [none, none, none, none], [], ([sMo m_p m_a m_d m_was m_kept m_read m_text m_typed m_n e.1 e.2.1 e.2.2 m_heldQ m_heldR m_heldT m_heldN m_image m_built m_fixed m_isFree m_from m_some m_field m_queue m_near m_open m_closed m_at m_begin m_sort m_lastQ m_lastR m_lastT m_readN] : List ZW).flatten) Q) → Go l D r (z_rl xs) zm_X12_takesImage 0 0 (10, [some (.ref m_p), some (.int v1), some (.int v2), none], [], ([sMo m_p m_a m_d m_was m_kept m_read m_text m_typed m_n m_q m_r m_t m_heldQ m_heldR m_heldT m_heldN m_image m_built m_fixed m_isFree m_from m_some m_field m_queue m_near m_open m_closed m_at m_begin m_sort m_lastQ m_lastR m_lastT m_readN] : List ZW).flatten) Q := by
  intro fu
  induction fu with
  | zero =>
    intro v2 m_q m_r m_t e h
    simp only [f_X12_takesImage_L10, reduceCtorEq] at h
  | succ fu ih =>
    intro v2 m_q m_r m_t e h kk
    rw [f_X12_takesImage_L10] at h
    refine Go.blk zk_X12_takesImage [0, 0, 0] (z' := (15, [some (.ref m_p), some (.int v1), some (.int v2), none], [.int m_n, .int v2], ([sMo m_p m_a m_d m_was m_kept m_read m_text m_typed m_n m_q m_r m_t m_heldQ m_heldR m_heldT m_heldN m_image m_built m_fixed m_isFree m_from m_some m_field m_queue m_near m_open m_closed m_at m_begin m_sort m_lastQ m_lastR m_lastT m_readN] : List ZW).flatten)) rfl ⟨rfl, trivial⟩ ?_
    by_cases hc1 : v2 < m_n
    · rw [if_pos hc1] at h
      refine Go.br zk_X12_takesImage rfl rfl (fun _ => ?_) (fun q => absurd hc1 q)
      refine Go.blk zk_X12_takesImage [0, 0, 0, 0, 0, 0, 0] (z' := (28, [some (.ref m_p), some (.int v1), some (.int v2), none], [.int ((12 * v1) + v2), .ref (m_a 10)], ([sMo m_p m_a m_d m_was m_kept m_read m_text m_typed m_n m_q m_r m_t m_heldQ m_heldR m_heldT m_heldN m_image m_built m_fixed m_isFree m_from m_some m_field m_queue m_near m_open m_closed m_at m_begin m_sort m_lastQ m_lastR m_lastT m_readN] : List ZW).flatten)) rfl ⟨rfl, trivial⟩ ?_
      obtain ⟨x2, hx2, h⟩ := z_bind h
      refine Go.iald zk_X12_takesImage 11 rfl rfl rfl hx2 ?_
      refine Go.blk zk_X12_takesImage [0, 0, 0, 0, 0, 0, 0] (z' := (39, [some (.ref m_p), some (.int v1), some (.int v2), some (.int x2)], [.int (x2 / 64), .int v2, .ref (m_a 5)], ([sMo m_p m_a m_d m_was m_kept m_read m_text m_typed m_n m_q m_r m_t m_heldQ m_heldR m_heldT m_heldN m_image m_built m_fixed m_isFree m_from m_some m_field m_queue m_near m_open m_closed m_at m_begin m_sort m_lastQ m_lastR m_lastT m_readN] : List ZW).flatten)) rfl ⟨rfl, by decide, trivial⟩ ?_
      obtain ⟨t3, ht3, h⟩ := z_bind h
      refine Go.iast zk_X12_takesImage 6 rfl rfl rfl ht3 ?_
      refine Go.eqz (z2 := (40, [some (.ref m_p), some (.int v1), some (.int v2), some (.int x2)], [], ([sMo m_p m_a m_d m_was m_kept m_read m_text m_typed m_n m_q t3 m_t m_heldQ m_heldR m_heldT m_heldN m_image m_built m_fixed m_isFree m_from m_some m_field m_queue m_near m_open m_closed m_at m_begin m_sort m_lastQ m_lastR m_lastT m_readN] : List ZW).flatten)) rfl ?_
      refine Go.blk zk_X12_takesImage [0, 0, 0, 0, 0, 0, 0, 0] (z' := (51, [some (.ref m_p), some (.int v1), some (.int v2), some (.int x2)], [.int ((x2 - x2 / 64 * 64) / 2), .int v2, .ref (m_a 4)], ([sMo m_p m_a m_d m_was m_kept m_read m_text m_typed m_n m_q t3 m_t m_heldQ m_heldR m_heldT m_heldN m_image m_built m_fixed m_isFree m_from m_some m_field m_queue m_near m_open m_closed m_at m_begin m_sort m_lastQ m_lastR m_lastT m_readN] : List ZW).flatten)) rfl ⟨rfl, by decide, by decide, trivial⟩ ?_
      obtain ⟨t4, ht4, h⟩ := z_bind h
      refine Go.iast zk_X12_takesImage 5 rfl rfl rfl ht4 ?_
      refine Go.eqz (z2 := (52, [some (.ref m_p), some (.int v1), some (.int v2), some (.int x2)], [], ([sMo m_p m_a m_d m_was m_kept m_read m_text m_typed m_n t4 t3 m_t m_heldQ m_heldR m_heldT m_heldN m_image m_built m_fixed m_isFree m_from m_some m_field m_queue m_near m_open m_closed m_at m_begin m_sort m_lastQ m_lastR m_lastT m_readN] : List ZW).flatten)) rfl ?_
      refine Go.blk zk_X12_takesImage [0, 0, 0, 0, 0, 0] (z' := (60, [some (.ref m_p), some (.int v1), some (.int v2), some (.int x2)], [.int (x2 - x2 / 2 * 2), .int v2, .ref (m_a 6)], ([sMo m_p m_a m_d m_was m_kept m_read m_text m_typed m_n t4 t3 m_t m_heldQ m_heldR m_heldT m_heldN m_image m_built m_fixed m_isFree m_from m_some m_field m_queue m_near m_open m_closed m_at m_begin m_sort m_lastQ m_lastR m_lastT m_readN] : List ZW).flatten)) rfl ⟨rfl, by decide, trivial⟩ ?_
      obtain ⟨t5, ht5, h⟩ := z_bind h
      refine Go.iast zk_X12_takesImage 7 rfl rfl rfl ht5 ?_
      refine Go.eqz (z2 := (61, [some (.ref m_p), some (.int v1), some (.int v2), some (.int x2)], [], ([sMo m_p m_a m_d m_was m_kept m_read m_text m_typed m_n t4 t3 t5 m_heldQ m_heldR m_heldT m_heldN m_image m_built m_fixed m_isFree m_from m_some m_field m_queue m_near m_open m_closed m_at m_begin m_sort m_lastQ m_lastR m_lastT m_readN] : List ZW).flatten)) rfl ?_
      refine Go.blk zk_X12_takesImage [0, 0] (z' := (10, [some (.ref m_p), some (.int v1), some (.int (v2 + 1)), some (.int x2)], [], ([sMo m_p m_a m_d m_was m_kept m_read m_text m_typed m_n t4 t3 t5 m_heldQ m_heldR m_heldT m_heldN m_image m_built m_fixed m_isFree m_from m_some m_field m_queue m_near m_open m_closed m_at m_begin m_sort m_lastQ m_lastR m_lastT m_readN] : List ZW).flatten)) rfl trivial ?_
      refine Go.weak (L := [some (.ref m_p), some (.int v1), some (.int (v2 + 1)), some (.int x2)]) (L' := [some (.ref m_p), some (.int v1), some (.int (v2 + 1)), none]) (And.intro rfl (And.intro rfl (And.intro rfl (trivial)))) ?_
      exact ih _ _ _ _ _ h kk
    · rw [if_neg hc1] at h
      refine Go.br zk_X12_takesImage rfl rfl (fun q => absurd q hc1) (fun _ => ?_)
      obtain rfl := Option.some.inj h
      refine Go.weak (L := [some (.ref m_p), some (.int v1), some (.int v2), none]) (L' := [none, none, none, none]) (trivial) ?_
      exact kk
set_option maxHeartbeats 4000000 in
set_option maxRecDepth 100000 in
theorem t_X12_takesImage {N : Nat} {m_p : Nat} {m_a : Nat → Nat} {m_d : List Int32} {m_was : List Int32} {m_kept : Int32} {m_read : List Int32} {m_text : List Int32} {m_typed : Int32} {m_n : Int32} {m_q : List Int32} {m_r : List Int32} {m_t : List Int32} {m_heldQ : List Int32} {m_heldR : List Int32} {m_heldT : List Int32} {m_heldN : Int32} {m_image : List Int32} {m_built : Int32} {m_fixed : List Int64} {m_isFree : List Int32} {m_from : List Int32} {m_some : List Int64} {m_field : List Int32} {m_queue : List Int32} {m_near : List Int32} {m_open : List Int32} {m_closed : List Int32} {m_at : Int32} {m_begin : Int32} {m_sort : Int32} {m_lastQ : Int32} {m_lastR : Int32} {m_lastT : Int32} {m_readN : Int32} {i1 : Int32} {u : Int32 × (List Int32) × (List Int32) × (List Int32)}  (h : f_X12_takesImage N i1 m_q m_r m_t m_heldN m_image = some u) : Ct l D r (z_rl xs) zm_X12_takesImage 0 0 [.ref m_p, .int i1] ([sMo m_p m_a m_d m_was m_kept m_read m_text m_typed m_n m_q m_r m_t m_heldQ m_heldR m_heldT m_heldN m_image m_built m_fixed m_isFree m_from m_some m_field m_queue m_near m_open m_closed m_at m_begin m_sort m_lastQ m_lastR m_lastT m_readN] : List ZW).flatten (fun v' w' => v' = none ∧ w' = ([sMo m_p m_a m_d m_was m_kept m_read m_text m_typed u.1 u.2.1 u.2.2.1 u.2.2.2 m_heldQ m_heldR m_heldT m_heldN m_image m_built m_fixed m_isFree m_from m_some m_field m_queue m_near m_open m_closed m_at m_begin m_sort m_lastQ m_lastR m_lastT m_readN] : List ZW).flatten) := by
  refine Ct.of (by decide +kernel) rfl (fun q => absurd q (by decide)) (Nat.le_of_ble_eq_true rfl) ?_
  refine Go.eqz (z2 := (0, [some (.ref m_p), some (.int i1), none, none], [], ([sMo m_p m_a m_d m_was m_kept m_read m_text m_typed m_n m_q m_r m_t m_heldQ m_heldR m_heldT m_heldN m_image m_built m_fixed m_isFree m_from m_some m_field m_queue m_near m_open m_closed m_at m_begin m_sort m_lastQ m_lastR m_lastT m_readN] : List ZW).flatten)) rfl ?_
  unfold f_X12_takesImage at h
  refine Go.blk zk_X12_takesImage [0, 0, 0] (z' := (5, [some (.ref m_p), some (.int i1), none, none], [.int m_heldN, .ref m_p], ([sMo m_p m_a m_d m_was m_kept m_read m_text m_typed m_n m_q m_r m_t m_heldQ m_heldR m_heldT m_heldN m_image m_built m_fixed m_isFree m_from m_some m_field m_queue m_near m_open m_closed m_at m_begin m_sort m_lastQ m_lastR m_lastT m_readN] : List ZW).flatten)) rfl ⟨rfl, trivial⟩ ?_
  refine Go.put zk_X12_takesImage 0 rfl rfl rfl rfl rfl (Nat.le_of_ble_eq_true rfl) ?_
  refine Go.eqz (z2 := (8, [some (.ref m_p), some (.int i1), none, none], [], ([sMo m_p m_a m_d m_was m_kept m_read m_text m_typed m_heldN m_q m_r m_t m_heldQ m_heldR m_heldT m_heldN m_image m_built m_fixed m_isFree m_from m_some m_field m_queue m_near m_open m_closed m_at m_begin m_sort m_lastQ m_lastR m_lastT m_readN] : List ZW).flatten)) rfl ?_
  refine Go.blk zk_X12_takesImage [0, 0] (z' := (10, [some (.ref m_p), some (.int i1), some (.int 0), none], [], ([sMo m_p m_a m_d m_was m_kept m_read m_text m_typed m_heldN m_q m_r m_t m_heldQ m_heldR m_heldT m_heldN m_image m_built m_fixed m_isFree m_from m_some m_field m_queue m_near m_open m_closed m_at m_begin m_sort m_lastQ m_lastR m_lastT m_readN] : List ZW).flatten)) rfl trivial ?_
  obtain ⟨e6, he6, h⟩ := z_bind h
  refine t_X12_takesImage_L10 N _ _ _ _ _ he6 ?_
  obtain rfl := Option.some.inj h
  exact Go.vret zk_X12_takesImage rfl rfl ⟨rfl, rfl⟩
set_option maxHeartbeats 4000000 in
set_option maxRecDepth 100000 in
theorem t_X12_canonical {N : Nat} {m_p : Nat} {m_a : Nat → Nat} {m_d : List Int32} {m_was : List Int32} {m_kept : Int32} {m_read : List Int32} {m_text : List Int32} {m_typed : Int32} {m_n : Int32} {m_q : List Int32} {m_r : List Int32} {m_t : List Int32} {m_heldQ : List Int32} {m_heldR : List Int32} {m_heldT : List Int32} {m_heldN : Int32} {m_image : List Int32} {m_built : Int32} {m_fixed : List Int64} {m_isFree : List Int32} {m_from : List Int32} {m_some : List Int64} {m_field : List Int32} {m_queue : List Int32} {m_near : List Int32} {m_open : List Int32} {m_closed : List Int32} {m_at : Int32} {m_begin : Int32} {m_sort : Int32} {m_lastQ : Int32} {m_lastR : Int32} {m_lastT : Int32} {m_readN : Int32} {u : Int64 × Int32 × (List Int32) × (List Int32) × (List Int32) × (List Int32) × (List Int32) × (List Int32) × Int32 × (List Int32)}  (h : f_X12_canonical N m_d m_n m_q m_r m_t m_heldQ m_heldR m_heldT m_image = some u) : Ct l D r (z_rl xs) zm_X12_canonical 0 0 [.ref m_p] ([sMo m_p m_a m_d m_was m_kept m_read m_text m_typed m_n m_q m_r m_t m_heldQ m_heldR m_heldT m_heldN m_image m_built m_fixed m_isFree m_from m_some m_field m_queue m_near m_open m_closed m_at m_begin m_sort m_lastQ m_lastR m_lastT m_readN] : List ZW).flatten (fun v' w' => v' = some (.long u.1) ∧ w' = ([sMo m_p m_a m_d m_was m_kept m_read m_text m_typed u.2.1 u.2.2.1 u.2.2.2.1 u.2.2.2.2.1 u.2.2.2.2.2.1 u.2.2.2.2.2.2.1 u.2.2.2.2.2.2.2.1 u.2.2.2.2.2.2.2.2.1 u.2.2.2.2.2.2.2.2.2 m_built m_fixed m_isFree m_from m_some m_field m_queue m_near m_open m_closed m_at m_begin m_sort m_lastQ m_lastR m_lastT m_readN] : List ZW).flatten) := by
  refine Ct.of (by decide +kernel) rfl (fun q => absurd q (by decide)) (Nat.le_of_ble_eq_true rfl) ?_
  refine Go.eqz (z2 := (0, [some (.ref m_p)], [], ([sMo m_p m_a m_d m_was m_kept m_read m_text m_typed m_n m_q m_r m_t m_heldQ m_heldR m_heldT m_heldN m_image m_built m_fixed m_isFree m_from m_some m_field m_queue m_near m_open m_closed m_at m_begin m_sort m_lastQ m_lastR m_lastT m_readN] : List ZW).flatten)) rfl ?_
  unfold f_X12_canonical at h
  refine Go.blk zk_X12_canonical [0] (z' := (1, [some (.ref m_p)], [.ref m_p], ([sMo m_p m_a m_d m_was m_kept m_read m_text m_typed m_n m_q m_r m_t m_heldQ m_heldR m_heldT m_heldN m_image m_built m_fixed m_isFree m_from m_some m_field m_queue m_near m_open m_closed m_at m_begin m_sort m_lastQ m_lastR m_lastT m_readN] : List ZW).flatten)) rfl trivial ?_
  obtain ⟨u1, hu1, h⟩ := z_bind h
  refine Go.vs zk_X12_canonical zm_X12_holds [0] [] 0 12 1 (S := [sMo m_p m_a m_d m_was m_kept m_read m_text m_typed m_n m_q m_r m_t m_heldQ m_heldR m_heldT m_heldN m_image m_built m_fixed m_isFree m_from m_some m_field m_queue m_near m_open m_closed m_at m_begin m_sort m_lastQ m_lastR m_lastT m_readN]) (S2 := [sMo m_p m_a m_d m_was m_kept m_read m_text m_typed m_n m_q m_r m_t u1.1 u1.2.1 u1.2.2.1 u1.2.2.2 m_image m_built m_fixed m_isFree m_from m_some m_field m_queue m_near m_open m_closed m_at m_begin m_sort m_lastQ m_lastR m_lastT m_readN]) (As := []) (rest := []) (st2 := []) (v1 := none) rfl zl_X12_139 zv_X12_holds ⟨Nat.le_of_ble_eq_true rfl, Nat.le_of_ble_eq_true rfl⟩ rfl (by decide) rfl rfl rfl rfl rfl (Nat.le_of_ble_eq_true rfl) (t_X12_holds hu1) rfl rfl rfl ?_
  refine Go.blk zk_X12_canonical [0] (z' := (5, [some (.ref m_p)], [.ref m_p], ([sMo m_p m_a m_d m_was m_kept m_read m_text m_typed m_n m_q m_r m_t u1.1 u1.2.1 u1.2.2.1 u1.2.2.2 m_image m_built m_fixed m_isFree m_from m_some m_field m_queue m_near m_open m_closed m_at m_begin m_sort m_lastQ m_lastR m_lastT m_readN] : List ZW).flatten)) rfl trivial ?_
  obtain ⟨u2, hu2, h⟩ := z_bind h
  refine Go.vs zk_X12_canonical zm_X12_images [0] [] 0 12 1 (S := [sMo m_p m_a m_d m_was m_kept m_read m_text m_typed m_n m_q m_r m_t u1.1 u1.2.1 u1.2.2.1 u1.2.2.2 m_image m_built m_fixed m_isFree m_from m_some m_field m_queue m_near m_open m_closed m_at m_begin m_sort m_lastQ m_lastR m_lastT m_readN]) (S2 := [sMo m_p m_a m_d m_was m_kept m_read m_text m_typed u2.2.1 u2.2.2.1 u2.2.2.2.1 u2.2.2.2.2.1 u1.1 u1.2.1 u1.2.2.1 u1.2.2.2 u2.2.2.2.2.2 m_built m_fixed m_isFree m_from m_some m_field m_queue m_near m_open m_closed m_at m_begin m_sort m_lastQ m_lastR m_lastT m_readN]) (As := []) (rest := []) (st2 := [.int u2.1]) (v1 := some (.int u2.1)) rfl zl_X12_142 zv_X12_images ⟨Nat.le_of_ble_eq_true rfl, Nat.le_of_ble_eq_true rfl⟩ rfl (by decide) rfl rfl rfl rfl rfl (Nat.le_of_ble_eq_true rfl) (t_X12_images hu2) rfl rfl rfl ?_
  refine Go.blk zk_X12_canonical [0, 0, 0] (z' := (11, [some (.ref m_p)], [.ref m_p, .ref m_p], ([sMo m_p m_a m_d m_was m_kept m_read m_text m_typed u2.2.1 u2.2.2.1 u2.2.2.2.1 u2.2.2.2.2.1 u1.1 u1.2.1 u1.2.2.1 u1.2.2.2 u2.2.2.2.2.2 m_built m_fixed m_isFree m_from m_some m_field m_queue m_near m_open m_closed m_at m_begin m_sort m_lastQ m_lastR m_lastT m_readN] : List ZW).flatten)) rfl trivial ?_
  obtain ⟨u3, hu3, h⟩ := z_bind h
  refine Go.vs zk_X12_canonical zm_X12_leastImage [0] [] 0 12 1 (S := [sMo m_p m_a m_d m_was m_kept m_read m_text m_typed u2.2.1 u2.2.2.1 u2.2.2.2.1 u2.2.2.2.2.1 u1.1 u1.2.1 u1.2.2.1 u1.2.2.2 u2.2.2.2.2.2 m_built m_fixed m_isFree m_from m_some m_field m_queue m_near m_open m_closed m_at m_begin m_sort m_lastQ m_lastR m_lastT m_readN]) (S2 := [sMo m_p m_a m_d m_was m_kept m_read m_text m_typed u2.2.1 u2.2.2.1 u2.2.2.2.1 u2.2.2.2.2.1 u1.1 u1.2.1 u1.2.2.1 u1.2.2.2 u2.2.2.2.2.2 m_built m_fixed m_isFree m_from m_some m_field m_queue m_near m_open m_closed m_at m_begin m_sort m_lastQ m_lastR m_lastT m_readN]) (As := []) (rest := [.ref m_p]) (st2 := [.int u3, .ref m_p]) (v1 := some (.int u3)) rfl zl_X12_145 zv_X12_leastImage ⟨Nat.le_of_ble_eq_true rfl, Nat.le_of_ble_eq_true rfl⟩ rfl (by decide) rfl rfl rfl rfl rfl (Nat.le_of_ble_eq_true rfl) (t_X12_leastImage hu3) rfl rfl rfl ?_
  obtain ⟨u4, hu4, h⟩ := z_bind h
  refine Go.vs zk_X12_canonical zm_X12_takesImage [0] [] 0 12 1 (S := [sMo m_p m_a m_d m_was m_kept m_read m_text m_typed u2.2.1 u2.2.2.1 u2.2.2.2.1 u2.2.2.2.2.1 u1.1 u1.2.1 u1.2.2.1 u1.2.2.2 u2.2.2.2.2.2 m_built m_fixed m_isFree m_from m_some m_field m_queue m_near m_open m_closed m_at m_begin m_sort m_lastQ m_lastR m_lastT m_readN]) (S2 := [sMo m_p m_a m_d m_was m_kept m_read m_text m_typed u4.1 u4.2.1 u4.2.2.1 u4.2.2.2 u1.1 u1.2.1 u1.2.2.1 u1.2.2.2 u2.2.2.2.2.2 m_built m_fixed m_isFree m_from m_some m_field m_queue m_near m_open m_closed m_at m_begin m_sort m_lastQ m_lastR m_lastT m_readN]) (As := [.int u3]) (rest := []) (st2 := []) (v1 := none) rfl zl_X12_148 zv_X12_takesImage ⟨Nat.le_of_ble_eq_true rfl, Nat.le_of_ble_eq_true rfl⟩ rfl (by decide) rfl rfl rfl rfl rfl (Nat.le_of_ble_eq_true rfl) (t_X12_takesImage hu4) rfl rfl rfl ?_
  refine Go.blk zk_X12_canonical [0] (z' := (18, [some (.ref m_p)], [.ref m_p], ([sMo m_p m_a m_d m_was m_kept m_read m_text m_typed u4.1 u4.2.1 u4.2.2.1 u4.2.2.2 u1.1 u1.2.1 u1.2.2.1 u1.2.2.2 u2.2.2.2.2.2 m_built m_fixed m_isFree m_from m_some m_field m_queue m_near m_open m_closed m_at m_begin m_sort m_lastQ m_lastR m_lastT m_readN] : List ZW).flatten)) rfl trivial ?_
  obtain ⟨u5, hu5, h⟩ := z_bind h
  refine Go.vs zk_X12_canonical zm_X12_packs [0] [] 0 12 1 (S := [sMo m_p m_a m_d m_was m_kept m_read m_text m_typed u4.1 u4.2.1 u4.2.2.1 u4.2.2.2 u1.1 u1.2.1 u1.2.2.1 u1.2.2.2 u2.2.2.2.2.2 m_built m_fixed m_isFree m_from m_some m_field m_queue m_near m_open m_closed m_at m_begin m_sort m_lastQ m_lastR m_lastT m_readN]) (S2 := [sMo m_p m_a m_d m_was m_kept m_read m_text m_typed u4.1 u4.2.1 u4.2.2.1 u4.2.2.2 u1.1 u1.2.1 u1.2.2.1 u1.2.2.2 u2.2.2.2.2.2 m_built m_fixed m_isFree m_from m_some m_field m_queue m_near m_open m_closed m_at m_begin m_sort m_lastQ m_lastR m_lastT m_readN]) (As := []) (rest := []) (st2 := [.long u5]) (v1 := some (.long u5)) rfl zl_X12_152 zv_X12_packs ⟨Nat.le_of_ble_eq_true rfl, Nat.le_of_ble_eq_true rfl⟩ rfl (by decide) rfl rfl rfl rfl rfl (Nat.le_of_ble_eq_true rfl) (t_X12_packs hu5) rfl rfl rfl ?_
  obtain rfl := Option.some.inj h
  exact Go.lret zk_X12_canonical rfl rfl ⟨rfl, rfl⟩
set_option maxHeartbeats 4000000 in
set_option maxRecDepth 100000 in
theorem t_X12_puts_L7 {N : Nat} {m_p : Nat} {m_a : Nat → Nat} {m_d : List Int32} {m_was : List Int32} {m_kept : Int32} {m_read : List Int32} {m_text : List Int32} {m_typed : Int32} {m_n : Int32} {m_q : List Int32} {m_r : List Int32} {m_t : List Int32} {m_heldQ : List Int32} {m_heldR : List Int32} {m_heldT : List Int32} {m_heldN : Int32} {m_image : List Int32} {m_built : Int32} {m_fixed : List Int64} {m_isFree : List Int32} {m_from : List Int32} {m_some : List Int64} {m_field : List Int32} {m_queue : List Int32} {m_near : List Int32} {m_open : List Int32} {m_closed : List Int32} {m_at : Int32} {m_begin : Int32} {m_sort : Int32} {m_lastQ : Int32} {m_lastR : Int32} {m_lastT : Int32} {m_readN : Int32} {v1 : Int64} {v4 : Int32}  {Q : Option Value → ZW → Prop} : ∀ (fu : Nat) (v5 : Int32) (v6 : Int32) (e : Int32), f_X12_puts_L7 N v1 m_fixed fu v5 v6 = some e → (Go l D r (z_rl xs) zm_X12_puts 0 0 (51, [some (.ref m_p), some (.long v1), none, none, some (.int v4), some (.int e), none, none], [], ([sMo m_p m_a m_d m_was m_kept m_read m_text m_typed m_n m_q m_r m_t m_heldQ m_heldR m_heldT m_heldN m_image m_built m_fixed m_isFree m_from m_some m_field m_queue m_near m_open m_closed m_at m_begin m_sort m_lastQ m_lastR m_lastT m_readN] : List ZW).flatten) Q) → Go l D r (z_rl xs) zm_X12_puts 0 0 (7, [some (.ref m_p), some (.long v1), none, none, some (.int v4), some (.int v5), some (.int v6), none], [], ([sMo m_p m_a m_d m_was m_kept m_read m_text m_typed m_n m_q m_r m_t m_heldQ m_heldR m_heldT m_heldN m_image m_built m_fixed m_isFree m_from m_some m_field m_queue m_near m_open m_closed m_at m_begin m_sort m_lastQ m_lastR m_lastT m_readN] : List ZW).flatten) Q := by
  intro fu
  induction fu with
  | zero =>
    intro v5 v6 e h
    simp only [f_X12_puts_L7, reduceCtorEq] at h
  | succ fu ih =>
    intro v5 v6 e h kk
    rw [f_X12_puts_L7] at h
    refine Go.blk zk_X12_puts [0, 0] (z' := (11, [some (.ref m_p), some (.long v1), none, none, some (.int v4), some (.int v5), some (.int v6), none], [.int v6, .int v5], ([sMo m_p m_a m_d m_was m_kept m_read m_text m_typed m_n m_q m_r m_t m_heldQ m_heldR m_heldT m_heldN m_image m_built m_fixed m_isFree m_from m_some m_field m_queue m_near m_open m_closed m_at m_begin m_sort m_lastQ m_lastR m_lastT m_readN] : List ZW).flatten)) rfl trivial ?_
    by_cases hc1 : v5 < v6
    · rw [if_pos hc1] at h
      refine Go.br zk_X12_puts rfl rfl (fun _ => ?_) (fun q => absurd hc1 q)
      refine Go.blk zk_X12_puts [0, 0, 0, 0, 0, 0, 0, 0, 0] (z' := (29, [some (.ref m_p), some (.long v1), none, none, some (.int v4), some (.int v5), some (.int v6), some (.int ((v5 + v6) / 2))], [.int ((v5 + v6) / 2), .ref (m_a 11)], ([sMo m_p m_a m_d m_was m_kept m_read m_text m_typed m_n m_q m_r m_t m_heldQ m_heldR m_heldT m_heldN m_image m_built m_fixed m_isFree m_from m_some m_field m_queue m_near m_open m_closed m_at m_begin m_sort m_lastQ m_lastR m_lastT m_readN] : List ZW).flatten)) rfl ⟨by decide, rfl, trivial⟩ ?_
      obtain ⟨x2, hx2, h⟩ := z_bind h
      refine Go.lald zk_X12_puts 12 rfl rfl rfl hx2 ?_
      refine Go.blk zk_X12_puts [0, 0] (z' := (32, [some (.ref m_p), some (.long v1), none, none, some (.int v4), some (.int v5), some (.int v6), some (.int ((v5 + v6) / 2))], [.int (lg_cmp x2 v1)], ([sMo m_p m_a m_d m_was m_kept m_read m_text m_typed m_n m_q m_r m_t m_heldQ m_heldR m_heldT m_heldN m_image m_built m_fixed m_isFree m_from m_some m_field m_queue m_near m_open m_closed m_at m_begin m_sort m_lastQ m_lastR m_lastT m_readN] : List ZW).flatten)) rfl trivial ?_
      by_cases hc3 : (lg_cmp x2 v1) < 0
      · rw [if_pos hc3] at h
        refine Go.br zk_X12_puts rfl rfl (fun _ => ?_) (fun q => absurd hc3 q)
        refine Go.blk zk_X12_puts [0, 0, 0, 0, 0, 0] (z' := (7, [some (.ref m_p), some (.long v1), none, none, some (.int v4), some (.int (((v5 + v6) / 2) + 1)), some (.int v6), some (.int ((v5 + v6) / 2))], [], ([sMo m_p m_a m_d m_was m_kept m_read m_text m_typed m_n m_q m_r m_t m_heldQ m_heldR m_heldT m_heldN m_image m_built m_fixed m_isFree m_from m_some m_field m_queue m_near m_open m_closed m_at m_begin m_sort m_lastQ m_lastR m_lastT m_readN] : List ZW).flatten)) rfl trivial ?_
        refine Go.weak (L := [some (.ref m_p), some (.long v1), none, none, some (.int v4), some (.int (((v5 + v6) / 2) + 1)), some (.int v6), some (.int ((v5 + v6) / 2))]) (L' := [some (.ref m_p), some (.long v1), none, none, some (.int v4), some (.int (((v5 + v6) / 2) + 1)), some (.int v6), none]) (And.intro rfl (And.intro rfl (And.intro rfl (And.intro rfl (And.intro rfl (trivial)))))) ?_
        exact ih _ _ _ h kk
      · rw [if_neg hc3] at h
        refine Go.br zk_X12_puts rfl rfl (fun q => absurd q hc3) (fun _ => ?_)
        refine Go.blk zk_X12_puts [0, 0, 0] (z' := (7, [some (.ref m_p), some (.long v1), none, none, some (.int v4), some (.int v5), some (.int ((v5 + v6) / 2)), some (.int ((v5 + v6) / 2))], [], ([sMo m_p m_a m_d m_was m_kept m_read m_text m_typed m_n m_q m_r m_t m_heldQ m_heldR m_heldT m_heldN m_image m_built m_fixed m_isFree m_from m_some m_field m_queue m_near m_open m_closed m_at m_begin m_sort m_lastQ m_lastR m_lastT m_readN] : List ZW).flatten)) rfl trivial ?_
        refine Go.weak (L := [some (.ref m_p), some (.long v1), none, none, some (.int v4), some (.int v5), some (.int ((v5 + v6) / 2)), some (.int ((v5 + v6) / 2))]) (L' := [some (.ref m_p), some (.long v1), none, none, some (.int v4), some (.int v5), some (.int ((v5 + v6) / 2)), none]) (And.intro rfl (And.intro rfl (And.intro rfl (And.intro rfl (And.intro rfl (trivial)))))) ?_
        exact ih _ _ _ h kk
    · rw [if_neg hc1] at h
      refine Go.br zk_X12_puts rfl rfl (fun q => absurd q hc1) (fun _ => ?_)
      obtain rfl := Option.some.inj h
      refine Go.weak (L := [some (.ref m_p), some (.long v1), none, none, some (.int v4), some (.int v5), some (.int v6), none]) (L' := [some (.ref m_p), some (.long v1), none, none, some (.int v4), some (.int v5), none, none]) (And.intro rfl (And.intro rfl (And.intro rfl (And.intro rfl (trivial))))) ?_
      exact kk
set_option maxHeartbeats 4000000 in
set_option maxRecDepth 100000 in
theorem t_X12_puts_L77 {N : Nat} {m_p : Nat} {m_a : Nat → Nat} {m_d : List Int32} {m_was : List Int32} {m_kept : Int32} {m_read : List Int32} {m_text : List Int32} {m_typed : Int32} {m_n : Int32} {m_q : List Int32} {m_r : List Int32} {m_t : List Int32} {m_heldQ : List Int32} {m_heldR : List Int32} {m_heldT : List Int32} {m_heldN : Int32} {m_image : List Int32} {m_built : Int32} {m_isFree : List Int32} {m_from : List Int32} {m_some : List Int64} {m_field : List Int32} {m_queue : List Int32} {m_near : List Int32} {m_open : List Int32} {m_closed : List Int32} {m_at : Int32} {m_begin : Int32} {m_sort : Int32} {m_lastQ : Int32} {m_lastR : Int32} {m_lastT : Int32} {m_readN : Int32} {v1 : Int64} {v4 : Int32} {v5 : Int32}  {Q : Option Value → ZW → Prop} : ∀ (fu : Nat) (v7 : Int32) (m_fixed : List Int64) (e : (List Int64)), f_X12_puts_L77 N v5 fu v7 m_fixed = some e → (Go l D r (z_rl xs) zm_X12_puts 0 0 (106, [some (.ref m_p), some (.long v1), none, none, some (.int v4), some (.int v5), none, none], [], ([sMo m_p m_a m_d m_was m_kept m_read m_text m_typed m_n m_q m_r m_t m_heldQ m_heldR m_heldT m_heldN m_image m_built e m_isFree m_from m_some m_field m_queue m_near m_open m_closed m_at m_begin m_sort m_lastQ m_lastR m_lastT m_readN] : List ZW).flatten) Q) → Go l D r (z_rl xs) zm_X12_puts 0 0 (77, [some (.ref m_p), some (.long v1), none, none, some (.int v4), some (.int v5), none, some (.int v7)], [], ([sMo m_p m_a m_d m_was m_kept m_read m_text m_typed m_n m_q m_r m_t m_heldQ m_heldR m_heldT m_heldN m_image m_built m_fixed m_isFree m_from m_some m_field m_queue m_near m_open m_closed m_at m_begin m_sort m_lastQ m_lastR m_lastT m_readN] : List ZW).flatten) Q := by
  intro fu
  induction fu with
  | zero =>
    intro v7 m_fixed e h
    simp only [f_X12_puts_L77, reduceCtorEq] at h
  | succ fu ih =>
    intro v7 m_fixed e h kk
    rw [f_X12_puts_L77] at h
    refine Go.blk zk_X12_puts [0, 0] (z' := (81, [some (.ref m_p), some (.long v1), none, none, some (.int v4), some (.int v5), none, some (.int v7)], [.int v5, .int v7], ([sMo m_p m_a m_d m_was m_kept m_read m_text m_typed m_n m_q m_r m_t m_heldQ m_heldR m_heldT m_heldN m_image m_built m_fixed m_isFree m_from m_some m_field m_queue m_near m_open m_closed m_at m_begin m_sort m_lastQ m_lastR m_lastT m_readN] : List ZW).flatten)) rfl trivial ?_
    by_cases hc8 : v5 < v7
    · rw [if_pos hc8] at h
      refine Go.br zk_X12_puts rfl rfl (fun _ => ?_) (fun q => absurd hc8 q)
      refine Go.blk zk_X12_puts [0, 0, 0, 0, 0, 0, 0, 0] (z' := (98, [some (.ref m_p), some (.long v1), none, none, some (.int v4), some (.int v5), none, some (.int v7)], [.int (v7 - 1), .ref (m_a 11), .int v7, .ref (m_a 11)], ([sMo m_p m_a m_d m_was m_kept m_read m_text m_typed m_n m_q m_r m_t m_heldQ m_heldR m_heldT m_heldN m_image m_built m_fixed m_isFree m_from m_some m_field m_queue m_near m_open m_closed m_at m_begin m_sort m_lastQ m_lastR m_lastT m_readN] : List ZW).flatten)) rfl ⟨rfl, rfl, trivial⟩ ?_
      obtain ⟨x9, hx9, h⟩ := z_bind h
      refine Go.lald zk_X12_puts 12 rfl rfl rfl hx9 ?_
      obtain ⟨t10, ht10, h⟩ := z_bind h
      refine Go.last zk_X12_puts 12 rfl rfl rfl ht10 ?_
      refine Go.eqz (z2 := (100, [some (.ref m_p), some (.long v1), none, none, some (.int v4), some (.int v5), none, some (.int v7)], [], ([sMo m_p m_a m_d m_was m_kept m_read m_text m_typed m_n m_q m_r m_t m_heldQ m_heldR m_heldT m_heldN m_image m_built t10 m_isFree m_from m_some m_field m_queue m_near m_open m_closed m_at m_begin m_sort m_lastQ m_lastR m_lastT m_readN] : List ZW).flatten)) rfl ?_
      refine Go.blk zk_X12_puts [0, 0] (z' := (77, [some (.ref m_p), some (.long v1), none, none, some (.int v4), some (.int v5), none, some (.int (v7 + (-1)))], [], ([sMo m_p m_a m_d m_was m_kept m_read m_text m_typed m_n m_q m_r m_t m_heldQ m_heldR m_heldT m_heldN m_image m_built t10 m_isFree m_from m_some m_field m_queue m_near m_open m_closed m_at m_begin m_sort m_lastQ m_lastR m_lastT m_readN] : List ZW).flatten)) rfl trivial ?_
      exact ih _ _ _ h kk
    · rw [if_neg hc8] at h
      refine Go.br zk_X12_puts rfl rfl (fun q => absurd q hc8) (fun _ => ?_)
      obtain rfl := Option.some.inj h
      refine Go.weak (L := [some (.ref m_p), some (.long v1), none, none, some (.int v4), some (.int v5), none, some (.int v7)]) (L' := [some (.ref m_p), some (.long v1), none, none, some (.int v4), some (.int v5), none, none]) (And.intro rfl (And.intro rfl (And.intro rfl (And.intro rfl (trivial))))) ?_
      exact kk
set_option maxHeartbeats 4000000 in
set_option maxRecDepth 100000 in
theorem t_X12_puts {N : Nat} {m_p : Nat} {m_a : Nat → Nat} {m_d : List Int32} {m_was : List Int32} {m_kept : Int32} {m_read : List Int32} {m_text : List Int32} {m_typed : Int32} {m_n : Int32} {m_q : List Int32} {m_r : List Int32} {m_t : List Int32} {m_heldQ : List Int32} {m_heldR : List Int32} {m_heldT : List Int32} {m_heldN : Int32} {m_image : List Int32} {m_built : Int32} {m_fixed : List Int64} {m_isFree : List Int32} {m_from : List Int32} {m_some : List Int64} {m_field : List Int32} {m_queue : List Int32} {m_near : List Int32} {m_open : List Int32} {m_closed : List Int32} {m_at : Int32} {m_begin : Int32} {m_sort : Int32} {m_lastQ : Int32} {m_lastR : Int32} {m_lastT : Int32} {m_readN : Int32} {j1 : Int64} {i2 : Int32} {i3 : Int32} {u : Int32 × (List Int64)}  (h : f_X12_puts N j1 i2 i3 m_fixed = some u) : Ct l D r (z_rl xs) zm_X12_puts 0 0 [.ref m_p, .long j1, .int i2, .int i3] ([sMo m_p m_a m_d m_was m_kept m_read m_text m_typed m_n m_q m_r m_t m_heldQ m_heldR m_heldT m_heldN m_image m_built m_fixed m_isFree m_from m_some m_field m_queue m_near m_open m_closed m_at m_begin m_sort m_lastQ m_lastR m_lastT m_readN] : List ZW).flatten (fun v' w' => v' = some (.int u.1) ∧ w' = ([sMo m_p m_a m_d m_was m_kept m_read m_text m_typed m_n m_q m_r m_t m_heldQ m_heldR m_heldT m_heldN m_image m_built u.2 m_isFree m_from m_some m_field m_queue m_near m_open m_closed m_at m_begin m_sort m_lastQ m_lastR m_lastT m_readN] : List ZW).flatten) := by
  refine Ct.of (by decide +kernel) rfl (fun q => absurd q (by decide)) (Nat.le_of_ble_eq_true rfl) ?_
  refine Go.eqz (z2 := (0, [some (.ref m_p), some (.long j1), none, some (.int i2), some (.int i3), none, none, none], [], ([sMo m_p m_a m_d m_was m_kept m_read m_text m_typed m_n m_q m_r m_t m_heldQ m_heldR m_heldT m_heldN m_image m_built m_fixed m_isFree m_from m_some m_field m_queue m_near m_open m_closed m_at m_begin m_sort m_lastQ m_lastR m_lastT m_readN] : List ZW).flatten)) rfl ?_
  unfold f_X12_puts at h
  refine Go.blk zk_X12_puts [0, 0, 0, 0] (z' := (7, [some (.ref m_p), some (.long j1), none, some (.int i2), some (.int i3), some (.int i2), some (.int i3), none], [], ([sMo m_p m_a m_d m_was m_kept m_read m_text m_typed m_n m_q m_r m_t m_heldQ m_heldR m_heldT m_heldN m_image m_built m_fixed m_isFree m_from m_some m_field m_queue m_near m_open m_closed m_at m_begin m_sort m_lastQ m_lastR m_lastT m_readN] : List ZW).flatten)) rfl trivial ?_
  refine Go.weak (L := [some (.ref m_p), some (.long j1), none, some (.int i2), some (.int i3), some (.int i2), some (.int i3), none]) (L' := [some (.ref m_p), some (.long j1), none, none, some (.int i3), some (.int i2), some (.int i3), none]) (And.intro rfl (And.intro rfl (And.intro rfl (And.intro rfl (And.intro rfl (trivial)))))) ?_
  obtain ⟨e4, he4, h⟩ := z_bind h
  refine t_X12_puts_L7 N _ _ _ he4 ?_
  refine Go.blk zk_X12_puts [0, 0] (z' := (55, [some (.ref m_p), some (.long j1), none, none, some (.int i3), some (.int e4), none, none], [.int i3, .int e4], ([sMo m_p m_a m_d m_was m_kept m_read m_text m_typed m_n m_q m_r m_t m_heldQ m_heldR m_heldT m_heldN m_image m_built m_fixed m_isFree m_from m_some m_field m_queue m_near m_open m_closed m_at m_begin m_sort m_lastQ m_lastR m_lastT m_readN] : List ZW).flatten)) rfl trivial ?_
  by_cases hc5 : e4 < i3
  · rw [if_pos hc5] at h
    refine Go.br zk_X12_puts rfl rfl (fun _ => ?_) (fun q => absurd hc5 q)
    refine Go.blk zk_X12_puts [0, 0, 0] (z' := (64, [some (.ref m_p), some (.long j1), none, none, some (.int i3), some (.int e4), none, none], [.int e4, .ref (m_a 11)], ([sMo m_p m_a m_d m_was m_kept m_read m_text m_typed m_n m_q m_r m_t m_heldQ m_heldR m_heldT m_heldN m_image m_built m_fixed m_isFree m_from m_some m_field m_queue m_near m_open m_closed m_at m_begin m_sort m_lastQ m_lastR m_lastT m_readN] : List ZW).flatten)) rfl ⟨rfl, trivial⟩ ?_
    obtain ⟨x6, hx6, h⟩ := z_bind h
    refine Go.lald zk_X12_puts 12 rfl rfl rfl hx6 ?_
    refine Go.blk zk_X12_puts [0, 0] (z' := (67, [some (.ref m_p), some (.long j1), none, none, some (.int i3), some (.int e4), none, none], [.int (lg_cmp x6 j1)], ([sMo m_p m_a m_d m_was m_kept m_read m_text m_typed m_n m_q m_r m_t m_heldQ m_heldR m_heldT m_heldN m_image m_built m_fixed m_isFree m_from m_some m_field m_queue m_near m_open m_closed m_at m_begin m_sort m_lastQ m_lastR m_lastT m_readN] : List ZW).flatten)) rfl trivial ?_
    by_cases hc7 : (lg_cmp x6 j1) = 0
    · rw [if_pos hc7] at h
      refine Go.br zk_X12_puts rfl rfl (fun _ => ?_) (fun q => absurd hc7 q)
      refine Go.blk zk_X12_puts [0] (z' := (72, [some (.ref m_p), some (.long j1), none, none, some (.int i3), some (.int e4), none, none], [.int i3], ([sMo m_p m_a m_d m_was m_kept m_read m_text m_typed m_n m_q m_r m_t m_heldQ m_heldR m_heldT m_heldN m_image m_built m_fixed m_isFree m_from m_some m_field m_queue m_near m_open m_closed m_at m_begin m_sort m_lastQ m_lastR m_lastT m_readN] : List ZW).flatten)) rfl trivial ?_
      obtain rfl := Option.some.inj h
      exact Go.iret zk_X12_puts rfl rfl rfl ⟨rfl, rfl⟩
    · rw [if_neg hc7] at h
      refine Go.br zk_X12_puts rfl rfl (fun q => absurd q hc7) (fun _ => ?_)
      refine Go.blk zk_X12_puts [0, 0] (z' := (77, [some (.ref m_p), some (.long j1), none, none, some (.int i3), some (.int e4), none, some (.int i3)], [], ([sMo m_p m_a m_d m_was m_kept m_read m_text m_typed m_n m_q m_r m_t m_heldQ m_heldR m_heldT m_heldN m_image m_built m_fixed m_isFree m_from m_some m_field m_queue m_near m_open m_closed m_at m_begin m_sort m_lastQ m_lastR m_lastT m_readN] : List ZW).flatten)) rfl trivial ?_
      obtain ⟨e11, he11, h⟩ := z_bind h
      refine t_X12_puts_L77 N _ _ _ he11 ?_
      refine Go.blk zk_X12_puts [0, 0, 0, 0] (z' := (113, [some (.ref m_p), some (.long j1), none, none, some (.int i3), some (.int e4), none, none], [.long j1, .int e4, .ref (m_a 11)], ([sMo m_p m_a m_d m_was m_kept m_read m_text m_typed m_n m_q m_r m_t m_heldQ m_heldR m_heldT m_heldN m_image m_built e11 m_isFree m_from m_some m_field m_queue m_near m_open m_closed m_at m_begin m_sort m_lastQ m_lastR m_lastT m_readN] : List ZW).flatten)) rfl ⟨rfl, trivial⟩ ?_
      obtain ⟨t12, ht12, h⟩ := z_bind h
      refine Go.last zk_X12_puts 12 rfl rfl rfl ht12 ?_
      refine Go.eqz (z2 := (114, [some (.ref m_p), some (.long j1), none, none, some (.int i3), some (.int e4), none, none], [], ([sMo m_p m_a m_d m_was m_kept m_read m_text m_typed m_n m_q m_r m_t m_heldQ m_heldR m_heldT m_heldN m_image m_built t12 m_isFree m_from m_some m_field m_queue m_near m_open m_closed m_at m_begin m_sort m_lastQ m_lastR m_lastT m_readN] : List ZW).flatten)) rfl ?_
      refine Go.blk zk_X12_puts [0, 0, 0] (z' := (118, [some (.ref m_p), some (.long j1), none, none, some (.int i3), some (.int e4), none, none], [.int (i3 + 1)], ([sMo m_p m_a m_d m_was m_kept m_read m_text m_typed m_n m_q m_r m_t m_heldQ m_heldR m_heldT m_heldN m_image m_built t12 m_isFree m_from m_some m_field m_queue m_near m_open m_closed m_at m_begin m_sort m_lastQ m_lastR m_lastT m_readN] : List ZW).flatten)) rfl trivial ?_
      obtain rfl := Option.some.inj h
      exact Go.iret zk_X12_puts rfl rfl rfl ⟨rfl, rfl⟩
  · rw [if_neg hc5] at h
    refine Go.br zk_X12_puts rfl rfl (fun q => absurd q hc5) (fun _ => ?_)
    refine Go.blk zk_X12_puts [0, 0] (z' := (77, [some (.ref m_p), some (.long j1), none, none, some (.int i3), some (.int e4), none, some (.int i3)], [], ([sMo m_p m_a m_d m_was m_kept m_read m_text m_typed m_n m_q m_r m_t m_heldQ m_heldR m_heldT m_heldN m_image m_built m_fixed m_isFree m_from m_some m_field m_queue m_near m_open m_closed m_at m_begin m_sort m_lastQ m_lastR m_lastT m_readN] : List ZW).flatten)) rfl trivial ?_
    obtain ⟨e13, he13, h⟩ := z_bind h
    refine t_X12_puts_L77 N _ _ _ he13 ?_
    refine Go.blk zk_X12_puts [0, 0, 0, 0] (z' := (113, [some (.ref m_p), some (.long j1), none, none, some (.int i3), some (.int e4), none, none], [.long j1, .int e4, .ref (m_a 11)], ([sMo m_p m_a m_d m_was m_kept m_read m_text m_typed m_n m_q m_r m_t m_heldQ m_heldR m_heldT m_heldN m_image m_built e13 m_isFree m_from m_some m_field m_queue m_near m_open m_closed m_at m_begin m_sort m_lastQ m_lastR m_lastT m_readN] : List ZW).flatten)) rfl ⟨rfl, trivial⟩ ?_
    obtain ⟨t14, ht14, h⟩ := z_bind h
    refine Go.last zk_X12_puts 12 rfl rfl rfl ht14 ?_
    refine Go.eqz (z2 := (114, [some (.ref m_p), some (.long j1), none, none, some (.int i3), some (.int e4), none, none], [], ([sMo m_p m_a m_d m_was m_kept m_read m_text m_typed m_n m_q m_r m_t m_heldQ m_heldR m_heldT m_heldN m_image m_built t14 m_isFree m_from m_some m_field m_queue m_near m_open m_closed m_at m_begin m_sort m_lastQ m_lastR m_lastT m_readN] : List ZW).flatten)) rfl ?_
    refine Go.blk zk_X12_puts [0, 0, 0] (z' := (118, [some (.ref m_p), some (.long j1), none, none, some (.int i3), some (.int e4), none, none], [.int (i3 + 1)], ([sMo m_p m_a m_d m_was m_kept m_read m_text m_typed m_n m_q m_r m_t m_heldQ m_heldR m_heldT m_heldN m_image m_built t14 m_isFree m_from m_some m_field m_queue m_near m_open m_closed m_at m_begin m_sort m_lastQ m_lastR m_lastT m_readN] : List ZW).flatten)) rfl trivial ?_
    obtain rfl := Option.some.inj h
    exact Go.iret zk_X12_puts rfl rfl rfl ⟨rfl, rfl⟩
set_option maxHeartbeats 4000000 in
set_option maxRecDepth 100000 in
theorem t_X12_adds {N : Nat} {m_p : Nat} {m_a : Nat → Nat} {m_d : List Int32} {m_was : List Int32} {m_kept : Int32} {m_read : List Int32} {m_text : List Int32} {m_typed : Int32} {m_n : Int32} {m_q : List Int32} {m_r : List Int32} {m_t : List Int32} {m_heldQ : List Int32} {m_heldR : List Int32} {m_heldT : List Int32} {m_heldN : Int32} {m_image : List Int32} {m_built : Int32} {m_fixed : List Int64} {m_isFree : List Int32} {m_from : List Int32} {m_some : List Int64} {m_field : List Int32} {m_queue : List Int32} {m_near : List Int32} {m_open : List Int32} {m_closed : List Int32} {m_at : Int32} {m_begin : Int32} {m_sort : Int32} {m_lastQ : Int32} {m_lastR : Int32} {m_lastT : Int32} {m_readN : Int32} {i1 : Int32} {i2 : Int32} {u : Int32 × Int32 × (List Int32) × (List Int32) × (List Int32)}  (h : f_X12_adds N i1 i2 m_d m_n m_q m_r m_t = some u) : Ct l D r (z_rl xs) zm_X12_adds 0 0 [.ref m_p, .int i1, .int i2] ([sMo m_p m_a m_d m_was m_kept m_read m_text m_typed m_n m_q m_r m_t m_heldQ m_heldR m_heldT m_heldN m_image m_built m_fixed m_isFree m_from m_some m_field m_queue m_near m_open m_closed m_at m_begin m_sort m_lastQ m_lastR m_lastT m_readN] : List ZW).flatten (fun v' w' => v' = some (.int u.1) ∧ w' = ([sMo m_p m_a m_d m_was m_kept m_read m_text m_typed u.2.1 u.2.2.1 u.2.2.2.1 u.2.2.2.2 m_heldQ m_heldR m_heldT m_heldN m_image m_built m_fixed m_isFree m_from m_some m_field m_queue m_near m_open m_closed m_at m_begin m_sort m_lastQ m_lastR m_lastT m_readN] : List ZW).flatten) := by
  refine Ct.of (by decide +kernel) rfl (fun q => absurd q (by decide)) (Nat.le_of_ble_eq_true rfl) ?_
  refine Go.eqz (z2 := (0, [some (.ref m_p), some (.int i1), some (.int i2), none, none, none], [], ([sMo m_p m_a m_d m_was m_kept m_read m_text m_typed m_n m_q m_r m_t m_heldQ m_heldR m_heldT m_heldN m_image m_built m_fixed m_isFree m_from m_some m_field m_queue m_near m_open m_closed m_at m_begin m_sort m_lastQ m_lastR m_lastT m_readN] : List ZW).flatten)) rfl ?_
  unfold f_X12_adds at h
  refine Go.blk zk_X12_adds [0, 0, 0] (z' := (5, [some (.ref m_p), some (.int i1), some (.int i2), none, none, none], [.int i1, .ref (m_a 4)], ([sMo m_p m_a m_d m_was m_kept m_read m_text m_typed m_n m_q m_r m_t m_heldQ m_heldR m_heldT m_heldN m_image m_built m_fixed m_isFree m_from m_some m_field m_queue m_near m_open m_closed m_at m_begin m_sort m_lastQ m_lastR m_lastT m_readN] : List ZW).flatten)) rfl ⟨rfl, trivial⟩ ?_
  obtain ⟨x1, hx1, h⟩ := z_bind h
  refine Go.iald zk_X12_adds 5 rfl rfl rfl hx1 ?_
  refine Go.blk zk_X12_adds [0, 0, 0, 0, 0] (z' := (13, [some (.ref m_p), some (.int i1), some (.int i2), none, none, none], [.int i1, .ref (m_a 6), .int i2, .ref m_p, .int x1], ([sMo m_p m_a m_d m_was m_kept m_read m_text m_typed m_n m_q m_r m_t m_heldQ m_heldR m_heldT m_heldN m_image m_built m_fixed m_isFree m_from m_some m_field m_queue m_near m_open m_closed m_at m_begin m_sort m_lastQ m_lastR m_lastT m_readN] : List ZW).flatten)) rfl ⟨rfl, trivial⟩ ?_
  obtain ⟨x2, hx2, h⟩ := z_bind h
  refine Go.iald zk_X12_adds 7 rfl rfl rfl hx2 ?_
  obtain ⟨u3, hu3, h⟩ := z_bind h
  refine Go.vs zk_X12_adds zm_X12_stepQ [0] [] 0 12 1 (S := [sMo m_p m_a m_d m_was m_kept m_read m_text m_typed m_n m_q m_r m_t m_heldQ m_heldR m_heldT m_heldN m_image m_built m_fixed m_isFree m_from m_some m_field m_queue m_near m_open m_closed m_at m_begin m_sort m_lastQ m_lastR m_lastT m_readN]) (S2 := [sMo m_p m_a m_d m_was m_kept m_read m_text m_typed m_n m_q m_r m_t m_heldQ m_heldR m_heldT m_heldN m_image m_built m_fixed m_isFree m_from m_some m_field m_queue m_near m_open m_closed m_at m_begin m_sort m_lastQ m_lastR m_lastT m_readN]) (As := [.int i2, .int x2]) (rest := [.int x1]) (st2 := [.int u3, .int x1]) (v1 := some (.int u3)) rfl zl_X12_90 zv_X12_stepQ ⟨Nat.le_of_ble_eq_true rfl, Nat.le_of_ble_eq_true rfl⟩ rfl (by decide) rfl rfl rfl rfl rfl (Nat.le_of_ble_eq_true rfl) (t_X12_stepQ hu3) rfl rfl rfl ?_
  refine Go.blk zk_X12_adds [0, 0, 0, 0, 0] (z' := (24, [some (.ref m_p), some (.int i1), some (.int i2), some (.int (x1 + u3)), none, none], [.int i1, .ref (m_a 5)], ([sMo m_p m_a m_d m_was m_kept m_read m_text m_typed m_n m_q m_r m_t m_heldQ m_heldR m_heldT m_heldN m_image m_built m_fixed m_isFree m_from m_some m_field m_queue m_near m_open m_closed m_at m_begin m_sort m_lastQ m_lastR m_lastT m_readN] : List ZW).flatten)) rfl ⟨rfl, trivial⟩ ?_
  obtain ⟨x4, hx4, h⟩ := z_bind h
  refine Go.iald zk_X12_adds 6 rfl rfl rfl hx4 ?_
  refine Go.blk zk_X12_adds [0, 0, 0, 0, 0] (z' := (32, [some (.ref m_p), some (.int i1), some (.int i2), some (.int (x1 + u3)), none, none], [.int i1, .ref (m_a 6), .int i2, .ref m_p, .int x4], ([sMo m_p m_a m_d m_was m_kept m_read m_text m_typed m_n m_q m_r m_t m_heldQ m_heldR m_heldT m_heldN m_image m_built m_fixed m_isFree m_from m_some m_field m_queue m_near m_open m_closed m_at m_begin m_sort m_lastQ m_lastR m_lastT m_readN] : List ZW).flatten)) rfl ⟨rfl, trivial⟩ ?_
  obtain ⟨x5, hx5, h⟩ := z_bind h
  refine Go.iald zk_X12_adds 7 rfl rfl rfl hx5 ?_
  obtain ⟨u6, hu6, h⟩ := z_bind h
  refine Go.vs zk_X12_adds zm_X12_stepR [0] [] 0 12 1 (S := [sMo m_p m_a m_d m_was m_kept m_read m_text m_typed m_n m_q m_r m_t m_heldQ m_heldR m_heldT m_heldN m_image m_built m_fixed m_isFree m_from m_some m_field m_queue m_near m_open m_closed m_at m_begin m_sort m_lastQ m_lastR m_lastT m_readN]) (S2 := [sMo m_p m_a m_d m_was m_kept m_read m_text m_typed m_n m_q m_r m_t m_heldQ m_heldR m_heldT m_heldN m_image m_built m_fixed m_isFree m_from m_some m_field m_queue m_near m_open m_closed m_at m_begin m_sort m_lastQ m_lastR m_lastT m_readN]) (As := [.int i2, .int x5]) (rest := [.int x4]) (st2 := [.int u6, .int x4]) (v1 := some (.int u6)) rfl zl_X12_94 zv_X12_stepR ⟨Nat.le_of_ble_eq_true rfl, Nat.le_of_ble_eq_true rfl⟩ rfl (by decide) rfl rfl rfl rfl rfl (Nat.le_of_ble_eq_true rfl) (t_X12_stepR hu6) rfl rfl rfl ?_
  refine Go.blk zk_X12_adds [0, 0, 0, 0, 0, 0] (z' := (45, [some (.ref m_p), some (.int i1), some (.int i2), some (.int (x1 + u3)), some (.int (x4 + u6)), none], [.int i1, .ref (m_a 6), .ref m_p], ([sMo m_p m_a m_d m_was m_kept m_read m_text m_typed m_n m_q m_r m_t m_heldQ m_heldR m_heldT m_heldN m_image m_built m_fixed m_isFree m_from m_some m_field m_queue m_near m_open m_closed m_at m_begin m_sort m_lastQ m_lastR m_lastT m_readN] : List ZW).flatten)) rfl ⟨rfl, trivial⟩ ?_
  obtain ⟨x7, hx7, h⟩ := z_bind h
  refine Go.iald zk_X12_adds 7 rfl rfl rfl hx7 ?_
  obtain ⟨u8, hu8, h⟩ := z_bind h
  refine Go.vs zk_X12_adds zm_X12_sideOf [0] [] 0 12 1 (S := [sMo m_p m_a m_d m_was m_kept m_read m_text m_typed m_n m_q m_r m_t m_heldQ m_heldR m_heldT m_heldN m_image m_built m_fixed m_isFree m_from m_some m_field m_queue m_near m_open m_closed m_at m_begin m_sort m_lastQ m_lastR m_lastT m_readN]) (S2 := [sMo m_p m_a m_d m_was m_kept m_read m_text m_typed m_n m_q m_r m_t m_heldQ m_heldR m_heldT m_heldN m_image m_built m_fixed m_isFree m_from m_some m_field m_queue m_near m_open m_closed m_at m_begin m_sort m_lastQ m_lastR m_lastT m_readN]) (As := [.int x7]) (rest := []) (st2 := [.int u8]) (v1 := some (.int u8)) rfl zl_X12_97 zv_X12_sideOf ⟨Nat.le_of_ble_eq_true rfl, Nat.le_of_ble_eq_true rfl⟩ rfl (by decide) rfl rfl rfl rfl rfl (Nat.le_of_ble_eq_true rfl) (t_X12_sideOf hu8) rfl rfl rfl ?_
  refine Go.blk zk_X12_adds [0, 0, 0, 0, 0] (z' := (57, [some (.ref m_p), some (.int i1), some (.int i2), some (.int (x1 + u3)), some (.int (x4 + u6)), some (.int u8)], [.int u8, .int (x4 + u6), .int (x1 + u3), .ref m_p], ([sMo m_p m_a m_d m_was m_kept m_read m_text m_typed m_n m_q m_r m_t m_heldQ m_heldR m_heldT m_heldN m_image m_built m_fixed m_isFree m_from m_some m_field m_queue m_near m_open m_closed m_at m_begin m_sort m_lastQ m_lastR m_lastT m_readN] : List ZW).flatten)) rfl trivial ?_
  obtain ⟨u9, hu9, h⟩ := z_bind h
  refine Go.vs zk_X12_adds zm_X12_find [0] [] 0 12 1 (S := [sMo m_p m_a m_d m_was m_kept m_read m_text m_typed m_n m_q m_r m_t m_heldQ m_heldR m_heldT m_heldN m_image m_built m_fixed m_isFree m_from m_some m_field m_queue m_near m_open m_closed m_at m_begin m_sort m_lastQ m_lastR m_lastT m_readN]) (S2 := [sMo m_p m_a m_d m_was m_kept m_read m_text m_typed m_n m_q m_r m_t m_heldQ m_heldR m_heldT m_heldN m_image m_built m_fixed m_isFree m_from m_some m_field m_queue m_near m_open m_closed m_at m_begin m_sort m_lastQ m_lastR m_lastT m_readN]) (As := [.int (x1 + u3), .int (x4 + u6), .int u8]) (rest := []) (st2 := [.int u9]) (v1 := some (.int u9)) rfl zl_X12_101 zv_X12_find ⟨Nat.le_of_ble_eq_true rfl, Nat.le_of_ble_eq_true rfl⟩ rfl (by decide) rfl rfl rfl rfl rfl (Nat.le_of_ble_eq_true rfl) (t_X12_find hu9) rfl rfl rfl ?_
  by_cases hc10 : u9 < 0
  · rw [if_pos hc10] at h
    refine Go.br zk_X12_adds rfl rfl (fun _ => ?_) (fun q => absurd hc10 q)
    refine Go.blk zk_X12_adds [0, 0, 0, 0, 0] (z' := (74, [some (.ref m_p), some (.int i1), some (.int i2), some (.int (x1 + u3)), some (.int (x4 + u6)), some (.int u8)], [.int (x1 + u3), .int m_n, .ref (m_a 4)], ([sMo m_p m_a m_d m_was m_kept m_read m_text m_typed m_n m_q m_r m_t m_heldQ m_heldR m_heldT m_heldN m_image m_built m_fixed m_isFree m_from m_some m_field m_queue m_near m_open m_closed m_at m_begin m_sort m_lastQ m_lastR m_lastT m_readN] : List ZW).flatten)) rfl ⟨rfl, rfl, trivial⟩ ?_
    obtain ⟨t11, ht11, h⟩ := z_bind h
    refine Go.iast zk_X12_adds 5 rfl rfl rfl ht11 ?_
    refine Go.eqz (z2 := (75, [some (.ref m_p), some (.int i1), some (.int i2), some (.int (x1 + u3)), some (.int (x4 + u6)), some (.int u8)], [], ([sMo m_p m_a m_d m_was m_kept m_read m_text m_typed m_n t11 m_r m_t m_heldQ m_heldR m_heldT m_heldN m_image m_built m_fixed m_isFree m_from m_some m_field m_queue m_near m_open m_closed m_at m_begin m_sort m_lastQ m_lastR m_lastT m_readN] : List ZW).flatten)) rfl ?_
    refine Go.blk zk_X12_adds [0, 0, 0, 0, 0] (z' := (85, [some (.ref m_p), some (.int i1), some (.int i2), some (.int (x1 + u3)), some (.int (x4 + u6)), some (.int u8)], [.int (x4 + u6), .int m_n, .ref (m_a 5)], ([sMo m_p m_a m_d m_was m_kept m_read m_text m_typed m_n t11 m_r m_t m_heldQ m_heldR m_heldT m_heldN m_image m_built m_fixed m_isFree m_from m_some m_field m_queue m_near m_open m_closed m_at m_begin m_sort m_lastQ m_lastR m_lastT m_readN] : List ZW).flatten)) rfl ⟨rfl, rfl, trivial⟩ ?_
    obtain ⟨t12, ht12, h⟩ := z_bind h
    refine Go.iast zk_X12_adds 6 rfl rfl rfl ht12 ?_
    refine Go.eqz (z2 := (86, [some (.ref m_p), some (.int i1), some (.int i2), some (.int (x1 + u3)), some (.int (x4 + u6)), some (.int u8)], [], ([sMo m_p m_a m_d m_was m_kept m_read m_text m_typed m_n t11 t12 m_t m_heldQ m_heldR m_heldT m_heldN m_image m_built m_fixed m_isFree m_from m_some m_field m_queue m_near m_open m_closed m_at m_begin m_sort m_lastQ m_lastR m_lastT m_readN] : List ZW).flatten)) rfl ?_
    refine Go.blk zk_X12_adds [0, 0, 0, 0, 0] (z' := (96, [some (.ref m_p), some (.int i1), some (.int i2), some (.int (x1 + u3)), some (.int (x4 + u6)), some (.int u8)], [.int u8, .int m_n, .ref (m_a 6)], ([sMo m_p m_a m_d m_was m_kept m_read m_text m_typed m_n t11 t12 m_t m_heldQ m_heldR m_heldT m_heldN m_image m_built m_fixed m_isFree m_from m_some m_field m_queue m_near m_open m_closed m_at m_begin m_sort m_lastQ m_lastR m_lastT m_readN] : List ZW).flatten)) rfl ⟨rfl, rfl, trivial⟩ ?_
    obtain ⟨t13, ht13, h⟩ := z_bind h
    refine Go.iast zk_X12_adds 7 rfl rfl rfl ht13 ?_
    refine Go.eqz (z2 := (97, [some (.ref m_p), some (.int i1), some (.int i2), some (.int (x1 + u3)), some (.int (x4 + u6)), some (.int u8)], [], ([sMo m_p m_a m_d m_was m_kept m_read m_text m_typed m_n t11 t12 t13 m_heldQ m_heldR m_heldT m_heldN m_image m_built m_fixed m_isFree m_from m_some m_field m_queue m_near m_open m_closed m_at m_begin m_sort m_lastQ m_lastR m_lastT m_readN] : List ZW).flatten)) rfl ?_
    refine Go.blk zk_X12_adds [0, 0, 0, 0, 0] (z' := (104, [some (.ref m_p), some (.int i1), some (.int i2), some (.int (x1 + u3)), some (.int (x4 + u6)), some (.int u8)], [.int (m_n + 1), .ref m_p], ([sMo m_p m_a m_d m_was m_kept m_read m_text m_typed m_n t11 t12 t13 m_heldQ m_heldR m_heldT m_heldN m_image m_built m_fixed m_isFree m_from m_some m_field m_queue m_near m_open m_closed m_at m_begin m_sort m_lastQ m_lastR m_lastT m_readN] : List ZW).flatten)) rfl ⟨rfl, trivial⟩ ?_
    refine Go.put zk_X12_adds 0 rfl rfl rfl rfl rfl (Nat.le_of_ble_eq_true rfl) ?_
    refine Go.eqz (z2 := (107, [some (.ref m_p), some (.int i1), some (.int i2), some (.int (x1 + u3)), some (.int (x4 + u6)), some (.int u8)], [], ([sMo m_p m_a m_d m_was m_kept m_read m_text m_typed (m_n + 1) t11 t12 t13 m_heldQ m_heldR m_heldT m_heldN m_image m_built m_fixed m_isFree m_from m_some m_field m_queue m_near m_open m_closed m_at m_begin m_sort m_lastQ m_lastR m_lastT m_readN] : List ZW).flatten)) rfl ?_
    refine Go.blk zk_X12_adds [0] (z' := (108, [some (.ref m_p), some (.int i1), some (.int i2), some (.int (x1 + u3)), some (.int (x4 + u6)), some (.int u8)], [.int 1], ([sMo m_p m_a m_d m_was m_kept m_read m_text m_typed (m_n + 1) t11 t12 t13 m_heldQ m_heldR m_heldT m_heldN m_image m_built m_fixed m_isFree m_from m_some m_field m_queue m_near m_open m_closed m_at m_begin m_sort m_lastQ m_lastR m_lastT m_readN] : List ZW).flatten)) rfl trivial ?_
    obtain rfl := Option.some.inj h
    exact Go.iret zk_X12_adds rfl rfl rfl ⟨rfl, rfl⟩
  · rw [if_neg hc10] at h
    refine Go.br zk_X12_adds rfl rfl (fun q => absurd q hc10) (fun _ => ?_)
    refine Go.blk zk_X12_adds [0] (z' := (64, [some (.ref m_p), some (.int i1), some (.int i2), some (.int (x1 + u3)), some (.int (x4 + u6)), some (.int u8)], [.int 0], ([sMo m_p m_a m_d m_was m_kept m_read m_text m_typed m_n m_q m_r m_t m_heldQ m_heldR m_heldT m_heldN m_image m_built m_fixed m_isFree m_from m_some m_field m_queue m_near m_open m_closed m_at m_begin m_sort m_lastQ m_lastR m_lastT m_readN] : List ZW).flatten)) rfl trivial ?_
    obtain rfl := Option.some.inj h
    exact Go.iret zk_X12_adds rfl rfl rfl ⟨rfl, rfl⟩
set_option maxHeartbeats 4000000 in
set_option maxRecDepth 100000 in
theorem t_X12_grows_L7 {N : Nat} {m_p : Nat} {m_a : Nat → Nat} {m_d : List Int32} {m_was : List Int32} {m_kept : Int32} {m_read : List Int32} {m_text : List Int32} {m_typed : Int32} {m_heldQ : List Int32} {m_heldR : List Int32} {m_heldT : List Int32} {m_heldN : Int32} {m_image : List Int32} {m_built : Int32} {m_isFree : List Int32} {m_from : List Int32} {m_some : List Int64} {m_field : List Int32} {m_queue : List Int32} {m_near : List Int32} {m_open : List Int32} {m_closed : List Int32} {m_at : Int32} {m_begin : Int32} {m_sort : Int32} {m_lastQ : Int32} {m_lastR : Int32} {m_lastT : Int32} {m_readN : Int32} {v1 : Int64} {v3 : Int32} {v4 : Int32}  {Q : Option Value → ZW → Prop} : ∀ (fu : Nat) (v6 : Int32) (v7 : Int32) (m_n : Int32) (m_q : List Int32) (m_r : List Int32) (m_t : List Int32) (m_fixed : List Int64) (e : Int32 × Int32 × (List Int32) × (List Int32) × (List Int32) × (List Int64)), f_X12_grows_L7 N v1 v3 v4 m_d fu v6 v7 m_n m_q m_r m_t m_fixed = some e → (Go l D r (z_rl xs) zm_X12_grows 0 0 (73, [none, none, none, none, none, none, some (.int e.1), none], [], ([sMo m_p m_a m_d m_was m_kept m_read m_text m_typed e.2.1 e.2.2.1 e.2.2.2.1 e.2.2.2.2.1 m_heldQ m_heldR m_heldT m_heldN m_image m_built e.2.2.2.2.2 m_isFree m_from m_some m_field m_queue m_near m_open m_closed m_at m_begin m_sort m_lastQ m_lastR m_lastT m_readN] : List ZW).flatten) Q) → Go l D r (z_rl xs) zm_X12_grows 0 0 (7, [some (.ref m_p), some (.long v1), none, some (.int v3), some (.int v4), none, some (.int v6), some (.int v7)], [], ([sMo m_p m_a m_d m_was m_kept m_read m_text m_typed m_n m_q m_r m_t m_heldQ m_heldR m_heldT m_heldN m_image m_built m_fixed m_isFree m_from m_some m_field m_queue m_near m_open m_closed m_at m_begin m_sort m_lastQ m_lastR m_lastT m_readN] : List ZW).flatten) Q := by
  intro fu
  induction fu with
  | zero =>
    intro v6 v7 m_n m_q m_r m_t m_fixed e h
    simp only [f_X12_grows_L7, reduceCtorEq] at h
  | succ fu ih =>
    intro v6 v7 m_n m_q m_r m_t m_fixed e h kk
    rw [f_X12_grows_L7] at h
    refine Go.blk zk_X12_grows [0, 0, 0, 0, 0] (z' := (13, [some (.ref m_p), some (.long v1), none, some (.int v3), some (.int v4), none, some (.int v6), some (.int v7)], [.ref m_p, .int (v3 - 1), .int v7], ([sMo m_p m_a m_d m_was m_kept m_read m_text m_typed m_n m_q m_r m_t m_heldQ m_heldR m_heldT m_heldN m_image m_built m_fixed m_isFree m_from m_some m_field m_queue m_near m_open m_closed m_at m_begin m_sort m_lastQ m_lastR m_lastT m_readN] : List ZW).flatten)) rfl trivial ?_
    obtain ⟨u1, hu1, h⟩ := z_bind h
    refine Go.vs zk_X12_grows zm_X12_directions [0] [] 0 12 1 (S := [sMo m_p m_a m_d m_was m_kept m_read m_text m_typed m_n m_q m_r m_t m_heldQ m_heldR m_heldT m_heldN m_image m_built m_fixed m_isFree m_from m_some m_field m_queue m_near m_open m_closed m_at m_begin m_sort m_lastQ m_lastR m_lastT m_readN]) (S2 := [sMo m_p m_a m_d m_was m_kept m_read m_text m_typed m_n m_q m_r m_t m_heldQ m_heldR m_heldT m_heldN m_image m_built m_fixed m_isFree m_from m_some m_field m_queue m_near m_open m_closed m_at m_begin m_sort m_lastQ m_lastR m_lastT m_readN]) (As := []) (rest := [.int (v3 - 1), .int v7]) (st2 := [.int u1, .int (v3 - 1), .int v7]) (v1 := some (.int u1)) rfl zl_X12_86 zv_X12_directions ⟨Nat.le_of_ble_eq_true rfl, Nat.le_of_ble_eq_true rfl⟩ rfl (by decide) rfl rfl rfl rfl rfl (Nat.le_of_ble_eq_true rfl) (t_X12_directions hu1) rfl rfl rfl ?_
    refine Go.blk zk_X12_grows [0] (z' := (17, [some (.ref m_p), some (.long v1), none, some (.int v3), some (.int v4), none, some (.int v6), some (.int v7)], [.int ((v3 - 1) * u1), .int v7], ([sMo m_p m_a m_d m_was m_kept m_read m_text m_typed m_n m_q m_r m_t m_heldQ m_heldR m_heldT m_heldN m_image m_built m_fixed m_isFree m_from m_some m_field m_queue m_near m_open m_closed m_at m_begin m_sort m_lastQ m_lastR m_lastT m_readN] : List ZW).flatten)) rfl trivial ?_
    by_cases hc2 : v7 < ((v3 - 1) * u1)
    · rw [if_pos hc2] at h
      refine Go.br zk_X12_grows rfl rfl (fun _ => ?_) (fun q => absurd hc2 q)
      refine Go.blk zk_X12_grows [0, 0, 0, 0, 0] (z' := (25, [some (.ref m_p), some (.long v1), none, some (.int v3), some (.int v4), none, some (.int v6), some (.int v7)], [.int (v3 - 1), .long v1, .ref m_p], ([sMo m_p m_a m_d m_was m_kept m_read m_text m_typed m_n m_q m_r m_t m_heldQ m_heldR m_heldT m_heldN m_image m_built m_fixed m_isFree m_from m_some m_field m_queue m_near m_open m_closed m_at m_begin m_sort m_lastQ m_lastR m_lastT m_readN] : List ZW).flatten)) rfl trivial ?_
      obtain ⟨u3, hu3, h⟩ := z_bind h
      refine Go.vs zk_X12_grows zm_X12_takesFigure [0] [] 0 12 1 (S := [sMo m_p m_a m_d m_was m_kept m_read m_text m_typed m_n m_q m_r m_t m_heldQ m_heldR m_heldT m_heldN m_image m_built m_fixed m_isFree m_from m_some m_field m_queue m_near m_open m_closed m_at m_begin m_sort m_lastQ m_lastR m_lastT m_readN]) (S2 := [sMo m_p m_a m_d m_was m_kept m_read m_text m_typed u3.1 u3.2.1 u3.2.2.1 u3.2.2.2 m_heldQ m_heldR m_heldT m_heldN m_image m_built m_fixed m_isFree m_from m_some m_field m_queue m_near m_open m_closed m_at m_begin m_sort m_lastQ m_lastR m_lastT m_readN]) (As := [.long v1, .int (v3 - 1)]) (rest := []) (st2 := []) (v1 := none) rfl zl_X12_167 zv_X12_takesFigure ⟨Nat.le_of_ble_eq_true rfl, Nat.le_of_ble_eq_true rfl⟩ rfl (by decide) rfl rfl rfl rfl rfl (Nat.le_of_ble_eq_true rfl) (t_X12_takesFigure hu3) rfl rfl rfl ?_
      refine Go.blk zk_X12_grows [0, 0, 0] (z' := (32, [some (.ref m_p), some (.long v1), none, some (.int v3), some (.int v4), none, some (.int v6), some (.int v7)], [.ref m_p, .int v7, .ref m_p], ([sMo m_p m_a m_d m_was m_kept m_read m_text m_typed u3.1 u3.2.1 u3.2.2.1 u3.2.2.2 m_heldQ m_heldR m_heldT m_heldN m_image m_built m_fixed m_isFree m_from m_some m_field m_queue m_near m_open m_closed m_at m_begin m_sort m_lastQ m_lastR m_lastT m_readN] : List ZW).flatten)) rfl trivial ?_
      obtain ⟨u4, hu4, h⟩ := z_bind h
      refine Go.vs zk_X12_grows zm_X12_directions [0] [] 0 12 1 (S := [sMo m_p m_a m_d m_was m_kept m_read m_text m_typed u3.1 u3.2.1 u3.2.2.1 u3.2.2.2 m_heldQ m_heldR m_heldT m_heldN m_image m_built m_fixed m_isFree m_from m_some m_field m_queue m_near m_open m_closed m_at m_begin m_sort m_lastQ m_lastR m_lastT m_readN]) (S2 := [sMo m_p m_a m_d m_was m_kept m_read m_text m_typed u3.1 u3.2.1 u3.2.2.1 u3.2.2.2 m_heldQ m_heldR m_heldT m_heldN m_image m_built m_fixed m_isFree m_from m_some m_field m_queue m_near m_open m_closed m_at m_begin m_sort m_lastQ m_lastR m_lastT m_readN]) (As := []) (rest := [.int v7, .ref m_p]) (st2 := [.int u4, .int v7, .ref m_p]) (v1 := some (.int u4)) rfl zl_X12_86 zv_X12_directions ⟨Nat.le_of_ble_eq_true rfl, Nat.le_of_ble_eq_true rfl⟩ rfl (by decide) rfl rfl rfl rfl rfl (Nat.le_of_ble_eq_true rfl) (t_X12_directions hu4) rfl rfl rfl ?_
      by_cases hg5 : u4 = 0
      · rw [if_pos hg5] at h; cases h
      rw [if_neg hg5] at h
      refine Go.blk zk_X12_grows [0] (z' := (36, [some (.ref m_p), some (.long v1), none, some (.int v3), some (.int v4), none, some (.int v6), some (.int v7)], [.int (v7 / u4), .ref m_p], ([sMo m_p m_a m_d m_was m_kept m_read m_text m_typed u3.1 u3.2.1 u3.2.2.1 u3.2.2.2 m_heldQ m_heldR m_heldT m_heldN m_image m_built m_fixed m_isFree m_from m_some m_field m_queue m_near m_open m_closed m_at m_begin m_sort m_lastQ m_lastR m_lastT m_readN] : List ZW).flatten)) rfl ⟨hg5, trivial⟩ ?_
      refine Go.blk zk_X12_grows [0, 0] (z' := (39, [some (.ref m_p), some (.long v1), none, some (.int v3), some (.int v4), none, some (.int v6), some (.int v7)], [.ref m_p, .int v7, .int (v7 / u4), .ref m_p], ([sMo m_p m_a m_d m_was m_kept m_read m_text m_typed u3.1 u3.2.1 u3.2.2.1 u3.2.2.2 m_heldQ m_heldR m_heldT m_heldN m_image m_built m_fixed m_isFree m_from m_some m_field m_queue m_near m_open m_closed m_at m_begin m_sort m_lastQ m_lastR m_lastT m_readN] : List ZW).flatten)) rfl trivial ?_
      obtain ⟨u6, hu6, h⟩ := z_bind h
      refine Go.vs zk_X12_grows zm_X12_directions [0] [] 0 12 1 (S := [sMo m_p m_a m_d m_was m_kept m_read m_text m_typed u3.1 u3.2.1 u3.2.2.1 u3.2.2.2 m_heldQ m_heldR m_heldT m_heldN m_image m_built m_fixed m_isFree m_from m_some m_field m_queue m_near m_open m_closed m_at m_begin m_sort m_lastQ m_lastR m_lastT m_readN]) (S2 := [sMo m_p m_a m_d m_was m_kept m_read m_text m_typed u3.1 u3.2.1 u3.2.2.1 u3.2.2.2 m_heldQ m_heldR m_heldT m_heldN m_image m_built m_fixed m_isFree m_from m_some m_field m_queue m_near m_open m_closed m_at m_begin m_sort m_lastQ m_lastR m_lastT m_readN]) (As := []) (rest := [.int v7, .int (v7 / u4), .ref m_p]) (st2 := [.int u6, .int v7, .int (v7 / u4), .ref m_p]) (v1 := some (.int u6)) rfl zl_X12_86 zv_X12_directions ⟨Nat.le_of_ble_eq_true rfl, Nat.le_of_ble_eq_true rfl⟩ rfl (by decide) rfl rfl rfl rfl rfl (Nat.le_of_ble_eq_true rfl) (t_X12_directions hu6) rfl rfl rfl ?_
      by_cases hg7 : u6 = 0
      · rw [if_pos hg7] at h; cases h
      rw [if_neg hg7] at h
      refine Go.blk zk_X12_grows [0] (z' := (43, [some (.ref m_p), some (.long v1), none, some (.int v3), some (.int v4), none, some (.int v6), some (.int v7)], [.int (v7 - v7 / u6 * u6), .int (v7 / u4), .ref m_p], ([sMo m_p m_a m_d m_was m_kept m_read m_text m_typed u3.1 u3.2.1 u3.2.2.1 u3.2.2.2 m_heldQ m_heldR m_heldT m_heldN m_image m_built m_fixed m_isFree m_from m_some m_field m_queue m_near m_open m_closed m_at m_begin m_sort m_lastQ m_lastR m_lastT m_readN] : List ZW).flatten)) rfl ⟨hg7, trivial⟩ ?_
      obtain ⟨u8, hu8, h⟩ := z_bind h
      refine Go.vs zk_X12_grows zm_X12_adds [0] [] 0 12 1 (S := [sMo m_p m_a m_d m_was m_kept m_read m_text m_typed u3.1 u3.2.1 u3.2.2.1 u3.2.2.2 m_heldQ m_heldR m_heldT m_heldN m_image m_built m_fixed m_isFree m_from m_some m_field m_queue m_near m_open m_closed m_at m_begin m_sort m_lastQ m_lastR m_lastT m_readN]) (S2 := [sMo m_p m_a m_d m_was m_kept m_read m_text m_typed u8.2.1 u8.2.2.1 u8.2.2.2.1 u8.2.2.2.2 m_heldQ m_heldR m_heldT m_heldN m_image m_built m_fixed m_isFree m_from m_some m_field m_queue m_near m_open m_closed m_at m_begin m_sort m_lastQ m_lastR m_lastT m_readN]) (As := [.int (v7 / u4), .int (v7 - v7 / u6 * u6)]) (rest := []) (st2 := [.int u8.1]) (v1 := some (.int u8.1)) rfl zl_X12_174 zv_X12_adds ⟨Nat.le_of_ble_eq_true rfl, Nat.le_of_ble_eq_true rfl⟩ rfl (by decide) rfl rfl rfl rfl rfl (Nat.le_of_ble_eq_true rfl) (t_X12_adds hu8) rfl rfl rfl ?_
      by_cases hc9 : u8.1 = 0
      · rw [if_pos hc9] at h
        refine Go.br zk_X12_grows rfl rfl (fun _ => ?_) (fun q => absurd hc9 q)
        refine Go.blk zk_X12_grows [0, 0] (z' := (7, [some (.ref m_p), some (.long v1), none, some (.int v3), some (.int v4), none, some (.int v6), some (.int (v7 + 1))], [], ([sMo m_p m_a m_d m_was m_kept m_read m_text m_typed u8.2.1 u8.2.2.1 u8.2.2.2.1 u8.2.2.2.2 m_heldQ m_heldR m_heldT m_heldN m_image m_built m_fixed m_isFree m_from m_some m_field m_queue m_near m_open m_closed m_at m_begin m_sort m_lastQ m_lastR m_lastT m_readN] : List ZW).flatten)) rfl trivial ?_
        exact ih _ _ _ _ _ _ _ _ h kk
      · rw [if_neg hc9] at h
        refine Go.br zk_X12_grows rfl rfl (fun q => absurd q hc9) (fun _ => ?_)
        refine Go.blk zk_X12_grows [0] (z' := (50, [some (.ref m_p), some (.long v1), none, some (.int v3), some (.int v4), none, some (.int v6), some (.int v7)], [.ref m_p], ([sMo m_p m_a m_d m_was m_kept m_read m_text m_typed u8.2.1 u8.2.2.1 u8.2.2.2.1 u8.2.2.2.2 m_heldQ m_heldR m_heldT m_heldN m_image m_built m_fixed m_isFree m_from m_some m_field m_queue m_near m_open m_closed m_at m_begin m_sort m_lastQ m_lastR m_lastT m_readN] : List ZW).flatten)) rfl trivial ?_
        obtain ⟨u10, hu10, h⟩ := z_bind h
        refine Go.vs zk_X12_grows zm_X12_settles [0] [] 0 12 1 (S := [sMo m_p m_a m_d m_was m_kept m_read m_text m_typed u8.2.1 u8.2.2.1 u8.2.2.2.1 u8.2.2.2.2 m_heldQ m_heldR m_heldT m_heldN m_image m_built m_fixed m_isFree m_from m_some m_field m_queue m_near m_open m_closed m_at m_begin m_sort m_lastQ m_lastR m_lastT m_readN]) (S2 := [sMo m_p m_a m_d m_was m_kept m_read m_text m_typed u8.2.1 u10.1 u10.2.1 u10.2.2 m_heldQ m_heldR m_heldT m_heldN m_image m_built m_fixed m_isFree m_from m_some m_field m_queue m_near m_open m_closed m_at m_begin m_sort m_lastQ m_lastR m_lastT m_readN]) (As := []) (rest := []) (st2 := []) (v1 := none) rfl zl_X12_129 zv_X12_settles ⟨Nat.le_of_ble_eq_true rfl, Nat.le_of_ble_eq_true rfl⟩ rfl (by decide) rfl rfl rfl rfl rfl (Nat.le_of_ble_eq_true rfl) (t_X12_settles hu10) rfl rfl rfl ?_
        refine Go.blk zk_X12_grows [0, 0] (z' := (55, [some (.ref m_p), some (.long v1), none, some (.int v3), some (.int v4), none, some (.int v6), some (.int v7)], [.ref m_p, .ref m_p], ([sMo m_p m_a m_d m_was m_kept m_read m_text m_typed u8.2.1 u10.1 u10.2.1 u10.2.2 m_heldQ m_heldR m_heldT m_heldN m_image m_built m_fixed m_isFree m_from m_some m_field m_queue m_near m_open m_closed m_at m_begin m_sort m_lastQ m_lastR m_lastT m_readN] : List ZW).flatten)) rfl trivial ?_
        obtain ⟨u11, hu11, h⟩ := z_bind h
        refine Go.vs zk_X12_grows zm_X12_packs [0] [] 0 12 1 (S := [sMo m_p m_a m_d m_was m_kept m_read m_text m_typed u8.2.1 u10.1 u10.2.1 u10.2.2 m_heldQ m_heldR m_heldT m_heldN m_image m_built m_fixed m_isFree m_from m_some m_field m_queue m_near m_open m_closed m_at m_begin m_sort m_lastQ m_lastR m_lastT m_readN]) (S2 := [sMo m_p m_a m_d m_was m_kept m_read m_text m_typed u8.2.1 u10.1 u10.2.1 u10.2.2 m_heldQ m_heldR m_heldT m_heldN m_image m_built m_fixed m_isFree m_from m_some m_field m_queue m_near m_open m_closed m_at m_begin m_sort m_lastQ m_lastR m_lastT m_readN]) (As := []) (rest := [.ref m_p]) (st2 := [.long u11, .ref m_p]) (v1 := some (.long u11)) rfl zl_X12_152 zv_X12_packs ⟨Nat.le_of_ble_eq_true rfl, Nat.le_of_ble_eq_true rfl⟩ rfl (by decide) rfl rfl rfl rfl rfl (Nat.le_of_ble_eq_true rfl) (t_X12_packs hu11) rfl rfl rfl ?_
        refine Go.blk zk_X12_grows [0, 0] (z' := (62, [some (.ref m_p), some (.long v1), none, some (.int v3), some (.int v4), none, some (.int v6), some (.int v7)], [.int v6, .int v4, .long u11, .ref m_p], ([sMo m_p m_a m_d m_was m_kept m_read m_text m_typed u8.2.1 u10.1 u10.2.1 u10.2.2 m_heldQ m_heldR m_heldT m_heldN m_image m_built m_fixed m_isFree m_from m_some m_field m_queue m_near m_open m_closed m_at m_begin m_sort m_lastQ m_lastR m_lastT m_readN] : List ZW).flatten)) rfl trivial ?_
        obtain ⟨u12, hu12, h⟩ := z_bind h
        refine Go.vs zk_X12_grows zm_X12_puts [0] [] 0 12 1 (S := [sMo m_p m_a m_d m_was m_kept m_read m_text m_typed u8.2.1 u10.1 u10.2.1 u10.2.2 m_heldQ m_heldR m_heldT m_heldN m_image m_built m_fixed m_isFree m_from m_some m_field m_queue m_near m_open m_closed m_at m_begin m_sort m_lastQ m_lastR m_lastT m_readN]) (S2 := [sMo m_p m_a m_d m_was m_kept m_read m_text m_typed u8.2.1 u10.1 u10.2.1 u10.2.2 m_heldQ m_heldR m_heldT m_heldN m_image m_built u12.2 m_isFree m_from m_some m_field m_queue m_near m_open m_closed m_at m_begin m_sort m_lastQ m_lastR m_lastT m_readN]) (As := [.long u11, .int v4, .int v6]) (rest := []) (st2 := [.int u12.1]) (v1 := some (.int u12.1)) rfl zl_X12_156 zv_X12_puts ⟨Nat.le_of_ble_eq_true rfl, Nat.le_of_ble_eq_true rfl⟩ rfl (by decide) rfl rfl rfl rfl rfl (Nat.le_of_ble_eq_true rfl) (t_X12_puts hu12) rfl rfl rfl ?_
        refine Go.blk zk_X12_grows [0, 0, 0] (z' := (7, [some (.ref m_p), some (.long v1), none, some (.int v3), some (.int v4), none, some (.int u12.1), some (.int (v7 + 1))], [], ([sMo m_p m_a m_d m_was m_kept m_read m_text m_typed u8.2.1 u10.1 u10.2.1 u10.2.2 m_heldQ m_heldR m_heldT m_heldN m_image m_built u12.2 m_isFree m_from m_some m_field m_queue m_near m_open m_closed m_at m_begin m_sort m_lastQ m_lastR m_lastT m_readN] : List ZW).flatten)) rfl trivial ?_
        exact ih _ _ _ _ _ _ _ _ h kk
    · rw [if_neg hc2] at h
      refine Go.br zk_X12_grows rfl rfl (fun q => absurd q hc2) (fun _ => ?_)
      obtain rfl := Option.some.inj h
      refine Go.weak (L := [some (.ref m_p), some (.long v1), none, some (.int v3), some (.int v4), none, some (.int v6), some (.int v7)]) (L' := [none, none, none, none, none, none, some (.int v6), none]) (And.intro rfl (trivial)) ?_
      exact kk
set_option maxHeartbeats 4000000 in
set_option maxRecDepth 100000 in
theorem t_X12_grows {N : Nat} {m_p : Nat} {m_a : Nat → Nat} {m_d : List Int32} {m_was : List Int32} {m_kept : Int32} {m_read : List Int32} {m_text : List Int32} {m_typed : Int32} {m_n : Int32} {m_q : List Int32} {m_r : List Int32} {m_t : List Int32} {m_heldQ : List Int32} {m_heldR : List Int32} {m_heldT : List Int32} {m_heldN : Int32} {m_image : List Int32} {m_built : Int32} {m_fixed : List Int64} {m_isFree : List Int32} {m_from : List Int32} {m_some : List Int64} {m_field : List Int32} {m_queue : List Int32} {m_near : List Int32} {m_open : List Int32} {m_closed : List Int32} {m_at : Int32} {m_begin : Int32} {m_sort : Int32} {m_lastQ : Int32} {m_lastR : Int32} {m_lastT : Int32} {m_readN : Int32} {j1 : Int64} {i2 : Int32} {i3 : Int32} {i4 : Int32} {u : Int32 × Int32 × (List Int32) × (List Int32) × (List Int32) × (List Int64)}  (h : f_X12_grows N j1 i2 i3 i4 m_d m_n m_q m_r m_t m_fixed = some u) : Ct l D r (z_rl xs) zm_X12_grows 0 0 [.ref m_p, .long j1, .int i2, .int i3, .int i4] ([sMo m_p m_a m_d m_was m_kept m_read m_text m_typed m_n m_q m_r m_t m_heldQ m_heldR m_heldT m_heldN m_image m_built m_fixed m_isFree m_from m_some m_field m_queue m_near m_open m_closed m_at m_begin m_sort m_lastQ m_lastR m_lastT m_readN] : List ZW).flatten (fun v' w' => v' = some (.int u.1) ∧ w' = ([sMo m_p m_a m_d m_was m_kept m_read m_text m_typed u.2.1 u.2.2.1 u.2.2.2.1 u.2.2.2.2.1 m_heldQ m_heldR m_heldT m_heldN m_image m_built u.2.2.2.2.2 m_isFree m_from m_some m_field m_queue m_near m_open m_closed m_at m_begin m_sort m_lastQ m_lastR m_lastT m_readN] : List ZW).flatten) := by
  refine Ct.of (by decide +kernel) rfl (fun q => absurd q (by decide)) (Nat.le_of_ble_eq_true rfl) ?_
  refine Go.eqz (z2 := (0, [some (.ref m_p), some (.long j1), none, some (.int i2), some (.int i3), some (.int i4), none, none], [], ([sMo m_p m_a m_d m_was m_kept m_read m_text m_typed m_n m_q m_r m_t m_heldQ m_heldR m_heldT m_heldN m_image m_built m_fixed m_isFree m_from m_some m_field m_queue m_near m_open m_closed m_at m_begin m_sort m_lastQ m_lastR m_lastT m_readN] : List ZW).flatten)) rfl ?_
  unfold f_X12_grows at h
  refine Go.blk zk_X12_grows [0, 0, 0, 0] (z' := (7, [some (.ref m_p), some (.long j1), none, some (.int i2), some (.int i3), some (.int i4), some (.int i4), some (.int 0)], [], ([sMo m_p m_a m_d m_was m_kept m_read m_text m_typed m_n m_q m_r m_t m_heldQ m_heldR m_heldT m_heldN m_image m_built m_fixed m_isFree m_from m_some m_field m_queue m_near m_open m_closed m_at m_begin m_sort m_lastQ m_lastR m_lastT m_readN] : List ZW).flatten)) rfl trivial ?_
  refine Go.weak (L := [some (.ref m_p), some (.long j1), none, some (.int i2), some (.int i3), some (.int i4), some (.int i4), some (.int 0)]) (L' := [some (.ref m_p), some (.long j1), none, some (.int i2), some (.int i3), none, some (.int i4), some (.int 0)]) (And.intro rfl (And.intro rfl (And.intro rfl (And.intro rfl (And.intro rfl (And.intro rfl (trivial))))))) ?_
  obtain ⟨e13, he13, h⟩ := z_bind h
  refine t_X12_grows_L7 N _ _ _ _ _ _ _ _ he13 ?_
  refine Go.blk zk_X12_grows [0] (z' := (75, [none, none, none, none, none, none, some (.int e13.1), none], [.int e13.1], ([sMo m_p m_a m_d m_was m_kept m_read m_text m_typed e13.2.1 e13.2.2.1 e13.2.2.2.1 e13.2.2.2.2.1 m_heldQ m_heldR m_heldT m_heldN m_image m_built e13.2.2.2.2.2 m_isFree m_from m_some m_field m_queue m_near m_open m_closed m_at m_begin m_sort m_lastQ m_lastR m_lastT m_readN] : List ZW).flatten)) rfl trivial ?_
  obtain rfl := Option.some.inj h
  exact Go.iret zk_X12_grows rfl rfl rfl ⟨rfl, rfl⟩
set_option maxHeartbeats 4000000 in
set_option maxRecDepth 100000 in
theorem t_X12_builds_L93 {N : Nat} {m_p : Nat} {m_a : Nat → Nat} {m_d : List Int32} {m_was : List Int32} {m_kept : Int32} {m_read : List Int32} {m_text : List Int32} {m_typed : Int32} {m_heldQ : List Int32} {m_heldR : List Int32} {m_heldT : List Int32} {m_heldN : Int32} {m_image : List Int32} {m_built : Int32} {m_isFree : List Int32} {m_from : List Int32} {m_some : List Int64} {m_field : List Int32} {m_queue : List Int32} {m_near : List Int32} {m_open : List Int32} {m_closed : List Int32} {m_at : Int32} {m_begin : Int32} {m_sort : Int32} {m_lastQ : Int32} {m_lastR : Int32} {m_lastT : Int32} {m_readN : Int32} {v2 : Int32} {v3 : Int32}  {Q : Option Value → ZW → Prop} : ∀ (fu : Nat) (v1 : Int32) (v4 : Int32) (m_n : Int32) (m_q : List Int32) (m_r : List Int32) (m_t : List Int32) (m_fixed : List Int64) (e : Int32 × Int32 × (List Int32) × (List Int32) × (List Int32) × (List Int64)), f_X12_builds_L93 N v2 v3 m_d fu v1 v4 m_n m_q m_r m_t m_fixed = some e → (Go l D r (z_rl xs) zm_X12_builds 0 0 (120, [some (.ref m_p), some (.int e.1), some (.int v2), none, none], [], ([sMo m_p m_a m_d m_was m_kept m_read m_text m_typed e.2.1 e.2.2.1 e.2.2.2.1 e.2.2.2.2.1 m_heldQ m_heldR m_heldT m_heldN m_image m_built e.2.2.2.2.2 m_isFree m_from m_some m_field m_queue m_near m_open m_closed m_at m_begin m_sort m_lastQ m_lastR m_lastT m_readN] : List ZW).flatten) Q) → Go l D r (z_rl xs) zm_X12_builds 0 0 (93, [some (.ref m_p), some (.int v1), some (.int v2), some (.int v3), some (.int v4)], [], ([sMo m_p m_a m_d m_was m_kept m_read m_text m_typed m_n m_q m_r m_t m_heldQ m_heldR m_heldT m_heldN m_image m_built m_fixed m_isFree m_from m_some m_field m_queue m_near m_open m_closed m_at m_begin m_sort m_lastQ m_lastR m_lastT m_readN] : List ZW).flatten) Q := by
  intro fu
  induction fu with
  | zero =>
    intro v1 v4 m_n m_q m_r m_t m_fixed e h
    simp only [f_X12_builds_L93, reduceCtorEq] at h
  | succ fu ih =>
    intro v1 v4 m_n m_q m_r m_t m_fixed e h kk
    rw [f_X12_builds_L93] at h
    refine Go.blk zk_X12_builds [0, 0] (z' := (96, [some (.ref m_p), some (.int v1), some (.int v2), some (.int v3), some (.int v4)], [.int v3, .int v4], ([sMo m_p m_a m_d m_was m_kept m_read m_text m_typed m_n m_q m_r m_t m_heldQ m_heldR m_heldT m_heldN m_image m_built m_fixed m_isFree m_from m_some m_field m_queue m_near m_open m_closed m_at m_begin m_sort m_lastQ m_lastR m_lastT m_readN] : List ZW).flatten)) rfl trivial ?_
    by_cases hc14 : v4 < v3
    · rw [if_pos hc14] at h
      refine Go.br zk_X12_builds rfl rfl (fun _ => ?_) (fun q => absurd hc14 q)
      refine Go.blk zk_X12_builds [0, 0, 0, 0] (z' := (106, [some (.ref m_p), some (.int v1), some (.int v2), some (.int v3), some (.int v4)], [.int v4, .ref (m_a 11), .ref m_p], ([sMo m_p m_a m_d m_was m_kept m_read m_text m_typed m_n m_q m_r m_t m_heldQ m_heldR m_heldT m_heldN m_image m_built m_fixed m_isFree m_from m_some m_field m_queue m_near m_open m_closed m_at m_begin m_sort m_lastQ m_lastR m_lastT m_readN] : List ZW).flatten)) rfl ⟨rfl, trivial⟩ ?_
      obtain ⟨x15, hx15, h⟩ := z_bind h
      refine Go.lald zk_X12_builds 12 rfl rfl rfl hx15 ?_
      refine Go.blk zk_X12_builds [0, 0, 0] (z' := (110, [some (.ref m_p), some (.int v1), some (.int v2), some (.int v3), some (.int v4)], [.int v1, .int v3, .int v2, .long x15, .ref m_p], ([sMo m_p m_a m_d m_was m_kept m_read m_text m_typed m_n m_q m_r m_t m_heldQ m_heldR m_heldT m_heldN m_image m_built m_fixed m_isFree m_from m_some m_field m_queue m_near m_open m_closed m_at m_begin m_sort m_lastQ m_lastR m_lastT m_readN] : List ZW).flatten)) rfl trivial ?_
      obtain ⟨u16, hu16, h⟩ := z_bind h
      refine Go.vs zk_X12_builds zm_X12_grows [0] [] 0 12 1 (S := [sMo m_p m_a m_d m_was m_kept m_read m_text m_typed m_n m_q m_r m_t m_heldQ m_heldR m_heldT m_heldN m_image m_built m_fixed m_isFree m_from m_some m_field m_queue m_near m_open m_closed m_at m_begin m_sort m_lastQ m_lastR m_lastT m_readN]) (S2 := [sMo m_p m_a m_d m_was m_kept m_read m_text m_typed u16.2.1 u16.2.2.1 u16.2.2.2.1 u16.2.2.2.2.1 m_heldQ m_heldR m_heldT m_heldN m_image m_built u16.2.2.2.2.2 m_isFree m_from m_some m_field m_queue m_near m_open m_closed m_at m_begin m_sort m_lastQ m_lastR m_lastT m_readN]) (As := [.long x15, .int v2, .int v3, .int v1]) (rest := []) (st2 := [.int u16.1]) (v1 := some (.int u16.1)) rfl zl_X12_163 zv_X12_grows ⟨Nat.le_of_ble_eq_true rfl, Nat.le_of_ble_eq_true rfl⟩ rfl (by decide) rfl rfl rfl rfl rfl (Nat.le_of_ble_eq_true rfl) (t_X12_grows hu16) rfl rfl rfl ?_
      refine Go.blk zk_X12_builds [0, 0, 0] (z' := (93, [some (.ref m_p), some (.int u16.1), some (.int v2), some (.int v3), some (.int (v4 + 1))], [], ([sMo m_p m_a m_d m_was m_kept m_read m_text m_typed u16.2.1 u16.2.2.1 u16.2.2.2.1 u16.2.2.2.2.1 m_heldQ m_heldR m_heldT m_heldN m_image m_built u16.2.2.2.2.2 m_isFree m_from m_some m_field m_queue m_near m_open m_closed m_at m_begin m_sort m_lastQ m_lastR m_lastT m_readN] : List ZW).flatten)) rfl trivial ?_
      exact ih _ _ _ _ _ _ _ _ h kk
    · rw [if_neg hc14] at h
      refine Go.br zk_X12_builds rfl rfl (fun q => absurd q hc14) (fun _ => ?_)
      obtain rfl := Option.some.inj h
      refine Go.weak (L := [some (.ref m_p), some (.int v1), some (.int v2), some (.int v3), some (.int v4)]) (L' := [some (.ref m_p), some (.int v1), some (.int v2), none, none]) (And.intro rfl (And.intro rfl (And.intro rfl (trivial)))) ?_
      exact kk
set_option maxHeartbeats 4000000 in
set_option maxRecDepth 100000 in
theorem t_X12_builds_L66 {N : Nat} {m_p : Nat} {m_a : Nat → Nat} {m_d : List Int32} {m_was : List Int32} {m_kept : Int32} {m_read : List Int32} {m_text : List Int32} {m_typed : Int32} {m_heldQ : List Int32} {m_heldR : List Int32} {m_heldT : List Int32} {m_heldN : Int32} {m_image : List Int32} {m_built : Int32} {m_isFree : List Int32} {m_some : List Int64} {m_field : List Int32} {m_queue : List Int32} {m_near : List Int32} {m_open : List Int32} {m_closed : List Int32} {m_at : Int32} {m_begin : Int32} {m_sort : Int32} {m_lastQ : Int32} {m_lastR : Int32} {m_lastT : Int32} {m_readN : Int32}  {Q : Option Value → ZW → Prop} : ∀ (fu : Nat) (v2 : Int32) (m_n : Int32) (m_q : List Int32) (m_r : List Int32) (m_t : List Int32) (m_fixed : List Int64) (m_from : List Int32) (e : Int32 × (List Int32) × (List Int32) × (List Int32) × (List Int64) × (List Int32)), f_X12_builds_L66 N m_d fu v2 m_n m_q m_r m_t m_fixed m_from = some e → (Go l D r (z_rl xs) zm_X12_builds 0 0 (135, [some (.ref m_p), none, none, none, none], [], ([sMo m_p m_a m_d m_was m_kept m_read m_text m_typed e.1 e.2.1 e.2.2.1 e.2.2.2.1 m_heldQ m_heldR m_heldT m_heldN m_image m_built e.2.2.2.2.1 m_isFree e.2.2.2.2.2 m_some m_field m_queue m_near m_open m_closed m_at m_begin m_sort m_lastQ m_lastR m_lastT m_readN] : List ZW).flatten) Q) → Go l D r (z_rl xs) zm_X12_builds 0 0 (66, [some (.ref m_p), none, some (.int v2), none, none], [], ([sMo m_p m_a m_d m_was m_kept m_read m_text m_typed m_n m_q m_r m_t m_heldQ m_heldR m_heldT m_heldN m_image m_built m_fixed m_isFree m_from m_some m_field m_queue m_near m_open m_closed m_at m_begin m_sort m_lastQ m_lastR m_lastT m_readN] : List ZW).flatten) Q := by
  intro fu
  induction fu with
  | zero =>
    intro v2 m_n m_q m_r m_t m_fixed m_from e h
    simp only [f_X12_builds_L66, reduceCtorEq] at h
  | succ fu ih =>
    intro v2 m_n m_q m_r m_t m_fixed m_from e h kk
    rw [f_X12_builds_L66] at h
    refine Go.blk zk_X12_builds [0, 0] (z' := (68, [some (.ref m_p), none, some (.int v2), none, none], [.ref m_p, .int v2], ([sMo m_p m_a m_d m_was m_kept m_read m_text m_typed m_n m_q m_r m_t m_heldQ m_heldR m_heldT m_heldN m_image m_built m_fixed m_isFree m_from m_some m_field m_queue m_near m_open m_closed m_at m_begin m_sort m_lastQ m_lastR m_lastT m_readN] : List ZW).flatten)) rfl trivial ?_
    obtain ⟨u10, hu10, h⟩ := z_bind h
    refine Go.vs zk_X12_builds zm_X12_greatest [0] [] 0 12 1 (S := [sMo m_p m_a m_d m_was m_kept m_read m_text m_typed m_n m_q m_r m_t m_heldQ m_heldR m_heldT m_heldN m_image m_built m_fixed m_isFree m_from m_some m_field m_queue m_near m_open m_closed m_at m_begin m_sort m_lastQ m_lastR m_lastT m_readN]) (S2 := [sMo m_p m_a m_d m_was m_kept m_read m_text m_typed m_n m_q m_r m_t m_heldQ m_heldR m_heldT m_heldN m_image m_built m_fixed m_isFree m_from m_some m_field m_queue m_near m_open m_closed m_at m_begin m_sort m_lastQ m_lastR m_lastT m_readN]) (As := []) (rest := [.int v2]) (st2 := [.int u10, .int v2]) (v1 := some (.int u10)) rfl zl_X12_160 zv_X12_greatest ⟨Nat.le_of_ble_eq_true rfl, Nat.le_of_ble_eq_true rfl⟩ rfl (by decide) rfl rfl rfl rfl rfl (Nat.le_of_ble_eq_true rfl) (t_X12_greatest hu10) rfl rfl rfl ?_
    by_cases hc11 : u10 < v2
    · rw [if_pos hc11] at h
      refine Go.br zk_X12_builds rfl rfl (fun _ => ?_) (fun q => absurd hc11 q)
      obtain rfl := Option.some.inj h
      refine Go.weak (L := [some (.ref m_p), none, some (.int v2), none, none]) (L' := [some (.ref m_p), none, none, none, none]) (And.intro rfl (trivial)) ?_
      exact kk
    · rw [if_neg hc11] at h
      refine Go.br zk_X12_builds rfl rfl (fun q => absurd q hc11) (fun _ => ?_)
      refine Go.blk zk_X12_builds [0, 0, 0] (z' := (79, [some (.ref m_p), none, some (.int v2), none, none], [.int v2, .ref (m_a 13)], ([sMo m_p m_a m_d m_was m_kept m_read m_text m_typed m_n m_q m_r m_t m_heldQ m_heldR m_heldT m_heldN m_image m_built m_fixed m_isFree m_from m_some m_field m_queue m_near m_open m_closed m_at m_begin m_sort m_lastQ m_lastR m_lastT m_readN] : List ZW).flatten)) rfl ⟨rfl, trivial⟩ ?_
      obtain ⟨x12, hx12, h⟩ := z_bind h
      refine Go.iald zk_X12_builds 14 rfl rfl rfl hx12 ?_
      refine Go.blk zk_X12_builds [0, 0, 0, 0, 0, 0, 0, 0] (z' := (90, [some (.ref m_p), some (.int x12), some (.int v2), some (.int x12), none], [.int (v2 - 1), .ref (m_a 13)], ([sMo m_p m_a m_d m_was m_kept m_read m_text m_typed m_n m_q m_r m_t m_heldQ m_heldR m_heldT m_heldN m_image m_built m_fixed m_isFree m_from m_some m_field m_queue m_near m_open m_closed m_at m_begin m_sort m_lastQ m_lastR m_lastT m_readN] : List ZW).flatten)) rfl ⟨rfl, trivial⟩ ?_
      obtain ⟨x13, hx13, h⟩ := z_bind h
      refine Go.iald zk_X12_builds 14 rfl rfl rfl hx13 ?_
      refine Go.blk zk_X12_builds [0] (z' := (93, [some (.ref m_p), some (.int x12), some (.int v2), some (.int x12), some (.int x13)], [], ([sMo m_p m_a m_d m_was m_kept m_read m_text m_typed m_n m_q m_r m_t m_heldQ m_heldR m_heldT m_heldN m_image m_built m_fixed m_isFree m_from m_some m_field m_queue m_near m_open m_closed m_at m_begin m_sort m_lastQ m_lastR m_lastT m_readN] : List ZW).flatten)) rfl trivial ?_
      obtain ⟨e17, he17, h⟩ := z_bind h
      refine t_X12_builds_L93 N _ _ _ _ _ _ _ _ he17 ?_
      refine Go.blk zk_X12_builds [0, 0, 0, 0, 0, 0] (z' := (128, [some (.ref m_p), some (.int e17.1), some (.int v2), none, none], [.int e17.1, .int (v2 + 1), .ref (m_a 13)], ([sMo m_p m_a m_d m_was m_kept m_read m_text m_typed e17.2.1 e17.2.2.1 e17.2.2.2.1 e17.2.2.2.2.1 m_heldQ m_heldR m_heldT m_heldN m_image m_built e17.2.2.2.2.2 m_isFree m_from m_some m_field m_queue m_near m_open m_closed m_at m_begin m_sort m_lastQ m_lastR m_lastT m_readN] : List ZW).flatten)) rfl ⟨rfl, trivial⟩ ?_
      obtain ⟨t18, ht18, h⟩ := z_bind h
      refine Go.iast zk_X12_builds 14 rfl rfl rfl ht18 ?_
      refine Go.eqz (z2 := (129, [some (.ref m_p), some (.int e17.1), some (.int v2), none, none], [], ([sMo m_p m_a m_d m_was m_kept m_read m_text m_typed e17.2.1 e17.2.2.1 e17.2.2.2.1 e17.2.2.2.2.1 m_heldQ m_heldR m_heldT m_heldN m_image m_built e17.2.2.2.2.2 m_isFree t18 m_some m_field m_queue m_near m_open m_closed m_at m_begin m_sort m_lastQ m_lastR m_lastT m_readN] : List ZW).flatten)) rfl ?_
      refine Go.blk zk_X12_builds [0, 0] (z' := (66, [some (.ref m_p), some (.int e17.1), some (.int (v2 + 1)), none, none], [], ([sMo m_p m_a m_d m_was m_kept m_read m_text m_typed e17.2.1 e17.2.2.1 e17.2.2.2.1 e17.2.2.2.2.1 m_heldQ m_heldR m_heldT m_heldN m_image m_built e17.2.2.2.2.2 m_isFree t18 m_some m_field m_queue m_near m_open m_closed m_at m_begin m_sort m_lastQ m_lastR m_lastT m_readN] : List ZW).flatten)) rfl trivial ?_
      refine Go.weak (L := [some (.ref m_p), some (.int e17.1), some (.int (v2 + 1)), none, none]) (L' := [some (.ref m_p), none, some (.int (v2 + 1)), none, none]) (And.intro rfl (And.intro rfl (trivial))) ?_
      exact ih _ _ _ _ _ _ _ _ h kk
set_option maxHeartbeats 4000000 in
set_option maxRecDepth 100000 in
theorem t_X12_builds_L152 {N : Nat} {m_p : Nat} {m_a : Nat → Nat} {m_d : List Int32} {m_was : List Int32} {m_kept : Int32} {m_read : List Int32} {m_text : List Int32} {m_typed : Int32} {m_built : Int32} {m_fixed : List Int64} {m_from : List Int32} {m_some : List Int64} {m_field : List Int32} {m_queue : List Int32} {m_near : List Int32} {m_open : List Int32} {m_closed : List Int32} {m_at : Int32} {m_begin : Int32} {m_sort : Int32} {m_lastQ : Int32} {m_lastR : Int32} {m_lastT : Int32} {m_readN : Int32} {v2 : Int32}  {Q : Option Value → ZW → Prop} : ∀ (fu : Nat) (v3 : Int32) (m_n : Int32) (m_q : List Int32) (m_r : List Int32) (m_t : List Int32) (m_heldQ : List Int32) (m_heldR : List Int32) (m_heldT : List Int32) (m_heldN : Int32) (m_image : List Int32) (m_isFree : List Int32) (e : Int32 × (List Int32) × (List Int32) × (List Int32) × (List Int32) × (List Int32) × (List Int32) × Int32 × (List Int32) × (List Int32)), f_X12_builds_L152 N v2 m_d m_fixed m_from fu v3 m_n m_q m_r m_t m_heldQ m_heldR m_heldT m_heldN m_image m_isFree = some e → (Go l D r (z_rl xs) zm_X12_builds 0 0 (206, [some (.ref m_p), none, some (.int v2), none, none], [], ([sMo m_p m_a m_d m_was m_kept m_read m_text m_typed e.1 e.2.1 e.2.2.1 e.2.2.2.1 e.2.2.2.2.1 e.2.2.2.2.2.1 e.2.2.2.2.2.2.1 e.2.2.2.2.2.2.2.1 e.2.2.2.2.2.2.2.2.1 m_built m_fixed e.2.2.2.2.2.2.2.2.2 m_from m_some m_field m_queue m_near m_open m_closed m_at m_begin m_sort m_lastQ m_lastR m_lastT m_readN] : List ZW).flatten) Q) → Go l D r (z_rl xs) zm_X12_builds 0 0 (152, [some (.ref m_p), none, some (.int v2), some (.int v3), none], [], ([sMo m_p m_a m_d m_was m_kept m_read m_text m_typed m_n m_q m_r m_t m_heldQ m_heldR m_heldT m_heldN m_image m_built m_fixed m_isFree m_from m_some m_field m_queue m_near m_open m_closed m_at m_begin m_sort m_lastQ m_lastR m_lastT m_readN] : List ZW).flatten) Q := by
  intro fu
  induction fu with
  | zero =>
    intro v3 m_n m_q m_r m_t m_heldQ m_heldR m_heldT m_heldN m_image m_isFree e h
    simp only [f_X12_builds_L152, reduceCtorEq] at h
  | succ fu ih =>
    intro v3 m_n m_q m_r m_t m_heldQ m_heldR m_heldT m_heldN m_image m_isFree e h kk
    rw [f_X12_builds_L152] at h
    refine Go.blk zk_X12_builds [0, 0, 0, 0, 0, 0] (z' := (160, [some (.ref m_p), none, some (.int v2), some (.int v3), none], [.int (v2 + 1), .ref (m_a 13), .int v3], ([sMo m_p m_a m_d m_was m_kept m_read m_text m_typed m_n m_q m_r m_t m_heldQ m_heldR m_heldT m_heldN m_image m_built m_fixed m_isFree m_from m_some m_field m_queue m_near m_open m_closed m_at m_begin m_sort m_lastQ m_lastR m_lastT m_readN] : List ZW).flatten)) rfl ⟨rfl, trivial⟩ ?_
    obtain ⟨x23, hx23, h⟩ := z_bind h
    refine Go.iald zk_X12_builds 14 rfl rfl rfl hx23 ?_
    by_cases hc24 : v3 < x23
    · rw [if_pos hc24] at h
      refine Go.br zk_X12_builds rfl rfl (fun _ => ?_) (fun q => absurd hc24 q)
      refine Go.blk zk_X12_builds [0, 0, 0, 0] (z' := (170, [some (.ref m_p), none, some (.int v2), some (.int v3), none], [.int v3, .ref (m_a 11), .ref m_p], ([sMo m_p m_a m_d m_was m_kept m_read m_text m_typed m_n m_q m_r m_t m_heldQ m_heldR m_heldT m_heldN m_image m_built m_fixed m_isFree m_from m_some m_field m_queue m_near m_open m_closed m_at m_begin m_sort m_lastQ m_lastR m_lastT m_readN] : List ZW).flatten)) rfl ⟨rfl, trivial⟩ ?_
      obtain ⟨x25, hx25, h⟩ := z_bind h
      refine Go.lald zk_X12_builds 12 rfl rfl rfl hx25 ?_
      refine Go.blk zk_X12_builds [0] (z' := (172, [some (.ref m_p), none, some (.int v2), some (.int v3), none], [.int v2, .long x25, .ref m_p], ([sMo m_p m_a m_d m_was m_kept m_read m_text m_typed m_n m_q m_r m_t m_heldQ m_heldR m_heldT m_heldN m_image m_built m_fixed m_isFree m_from m_some m_field m_queue m_near m_open m_closed m_at m_begin m_sort m_lastQ m_lastR m_lastT m_readN] : List ZW).flatten)) rfl trivial ?_
      obtain ⟨u26, hu26, h⟩ := z_bind h
      refine Go.vs zk_X12_builds zm_X12_takesFigure [0] [] 0 12 1 (S := [sMo m_p m_a m_d m_was m_kept m_read m_text m_typed m_n m_q m_r m_t m_heldQ m_heldR m_heldT m_heldN m_image m_built m_fixed m_isFree m_from m_some m_field m_queue m_near m_open m_closed m_at m_begin m_sort m_lastQ m_lastR m_lastT m_readN]) (S2 := [sMo m_p m_a m_d m_was m_kept m_read m_text m_typed u26.1 u26.2.1 u26.2.2.1 u26.2.2.2 m_heldQ m_heldR m_heldT m_heldN m_image m_built m_fixed m_isFree m_from m_some m_field m_queue m_near m_open m_closed m_at m_begin m_sort m_lastQ m_lastR m_lastT m_readN]) (As := [.long x25, .int v2]) (rest := []) (st2 := []) (v1 := none) rfl zl_X12_167 zv_X12_takesFigure ⟨Nat.le_of_ble_eq_true rfl, Nat.le_of_ble_eq_true rfl⟩ rfl (by decide) rfl rfl rfl rfl rfl (Nat.le_of_ble_eq_true rfl) (t_X12_takesFigure hu26) rfl rfl rfl ?_
      refine Go.blk zk_X12_builds [0, 0, 0, 0] (z' := (181, [some (.ref m_p), none, some (.int v2), some (.int v3), none], [.ref m_p, .int v3, .ref (m_a 12)], ([sMo m_p m_a m_d m_was m_kept m_read m_text m_typed u26.1 u26.2.1 u26.2.2.1 u26.2.2.2 m_heldQ m_heldR m_heldT m_heldN m_image m_built m_fixed m_isFree m_from m_some m_field m_queue m_near m_open m_closed m_at m_begin m_sort m_lastQ m_lastR m_lastT m_readN] : List ZW).flatten)) rfl ⟨rfl, trivial⟩ ?_
      obtain ⟨u27, hu27, h⟩ := z_bind h
      refine Go.vs zk_X12_builds zm_X12_canonical [0] [] 0 12 1 (S := [sMo m_p m_a m_d m_was m_kept m_read m_text m_typed u26.1 u26.2.1 u26.2.2.1 u26.2.2.2 m_heldQ m_heldR m_heldT m_heldN m_image m_built m_fixed m_isFree m_from m_some m_field m_queue m_near m_open m_closed m_at m_begin m_sort m_lastQ m_lastR m_lastT m_readN]) (S2 := [sMo m_p m_a m_d m_was m_kept m_read m_text m_typed u27.2.1 u27.2.2.1 u27.2.2.2.1 u27.2.2.2.2.1 u27.2.2.2.2.2.1 u27.2.2.2.2.2.2.1 u27.2.2.2.2.2.2.2.1 u27.2.2.2.2.2.2.2.2.1 u27.2.2.2.2.2.2.2.2.2 m_built m_fixed m_isFree m_from m_some m_field m_queue m_near m_open m_closed m_at m_begin m_sort m_lastQ m_lastR m_lastT m_readN]) (As := []) (rest := [.int v3, .ref (m_a 12)]) (st2 := [.long u27.1, .int v3, .ref (m_a 12)]) (v1 := some (.long u27.1)) rfl zl_X12_171 zv_X12_canonical ⟨Nat.le_of_ble_eq_true rfl, Nat.le_of_ble_eq_true rfl⟩ rfl (by decide) rfl rfl rfl rfl rfl (Nat.le_of_ble_eq_true rfl) (t_X12_canonical hu27) rfl rfl rfl ?_
      refine Go.blk zk_X12_builds [0, 0, 0] (z' := (189, [some (.ref m_p), none, some (.int v2), some (.int v3), none], [.int v3, .ref (m_a 11), .long u27.1, .int v3, .ref (m_a 12)], ([sMo m_p m_a m_d m_was m_kept m_read m_text m_typed u27.2.1 u27.2.2.1 u27.2.2.2.1 u27.2.2.2.2.1 u27.2.2.2.2.2.1 u27.2.2.2.2.2.2.1 u27.2.2.2.2.2.2.2.1 u27.2.2.2.2.2.2.2.2.1 u27.2.2.2.2.2.2.2.2.2 m_built m_fixed m_isFree m_from m_some m_field m_queue m_near m_open m_closed m_at m_begin m_sort m_lastQ m_lastR m_lastT m_readN] : List ZW).flatten)) rfl ⟨rfl, trivial⟩ ?_
      obtain ⟨x28, hx28, h⟩ := z_bind h
      refine Go.lald zk_X12_builds 12 rfl rfl rfl hx28 ?_
      refine Go.blk zk_X12_builds [0] (z' := (191, [some (.ref m_p), none, some (.int v2), some (.int v3), none], [.int (lg_cmp u27.1 x28), .int v3, .ref (m_a 12)], ([sMo m_p m_a m_d m_was m_kept m_read m_text m_typed u27.2.1 u27.2.2.1 u27.2.2.2.1 u27.2.2.2.2.1 u27.2.2.2.2.2.1 u27.2.2.2.2.2.2.1 u27.2.2.2.2.2.2.2.1 u27.2.2.2.2.2.2.2.2.1 u27.2.2.2.2.2.2.2.2.2 m_built m_fixed m_isFree m_from m_some m_field m_queue m_near m_open m_closed m_at m_begin m_sort m_lastQ m_lastR m_lastT m_readN] : List ZW).flatten)) rfl trivial ?_
      by_cases hc29 : (lg_cmp u27.1 x28) = 0
      · rw [if_pos hc29] at h
        refine Go.br zk_X12_builds rfl rfl (fun _ => ?_) (fun q => absurd hc29 q)
        refine Go.blk zk_X12_builds [0, 0] (z' := (199, [some (.ref m_p), none, some (.int v2), some (.int v3), none], [.int 1, .int v3, .ref (m_a 12)], ([sMo m_p m_a m_d m_was m_kept m_read m_text m_typed u27.2.1 u27.2.2.1 u27.2.2.2.1 u27.2.2.2.2.1 u27.2.2.2.2.2.1 u27.2.2.2.2.2.2.1 u27.2.2.2.2.2.2.2.1 u27.2.2.2.2.2.2.2.2.1 u27.2.2.2.2.2.2.2.2.2 m_built m_fixed m_isFree m_from m_some m_field m_queue m_near m_open m_closed m_at m_begin m_sort m_lastQ m_lastR m_lastT m_readN] : List ZW).flatten)) rfl trivial ?_
        obtain ⟨t30, ht30, h⟩ := z_bind h
        refine Go.zast zk_X12_builds 13 rfl rfl rfl ht30 ?_
        refine Go.eqz (z2 := (200, [some (.ref m_p), none, some (.int v2), some (.int v3), none], [], ([sMo m_p m_a m_d m_was m_kept m_read m_text m_typed u27.2.1 u27.2.2.1 u27.2.2.2.1 u27.2.2.2.2.1 u27.2.2.2.2.2.1 u27.2.2.2.2.2.2.1 u27.2.2.2.2.2.2.2.1 u27.2.2.2.2.2.2.2.2.1 u27.2.2.2.2.2.2.2.2.2 m_built m_fixed t30 m_from m_some m_field m_queue m_near m_open m_closed m_at m_begin m_sort m_lastQ m_lastR m_lastT m_readN] : List ZW).flatten)) rfl ?_
        refine Go.blk zk_X12_builds [0, 0] (z' := (152, [some (.ref m_p), none, some (.int v2), some (.int (v3 + 1)), none], [], ([sMo m_p m_a m_d m_was m_kept m_read m_text m_typed u27.2.1 u27.2.2.1 u27.2.2.2.1 u27.2.2.2.2.1 u27.2.2.2.2.2.1 u27.2.2.2.2.2.2.1 u27.2.2.2.2.2.2.2.1 u27.2.2.2.2.2.2.2.2.1 u27.2.2.2.2.2.2.2.2.2 m_built m_fixed t30 m_from m_some m_field m_queue m_near m_open m_closed m_at m_begin m_sort m_lastQ m_lastR m_lastT m_readN] : List ZW).flatten)) rfl trivial ?_
        exact ih _ _ _ _ _ _ _ _ _ _ _ _ h kk
      · rw [if_neg hc29] at h
        refine Go.br zk_X12_builds rfl rfl (fun q => absurd q hc29) (fun _ => ?_)
        refine Go.blk zk_X12_builds [0] (z' := (199, [some (.ref m_p), none, some (.int v2), some (.int v3), none], [.int 0, .int v3, .ref (m_a 12)], ([sMo m_p m_a m_d m_was m_kept m_read m_text m_typed u27.2.1 u27.2.2.1 u27.2.2.2.1 u27.2.2.2.2.1 u27.2.2.2.2.2.1 u27.2.2.2.2.2.2.1 u27.2.2.2.2.2.2.2.1 u27.2.2.2.2.2.2.2.2.1 u27.2.2.2.2.2.2.2.2.2 m_built m_fixed m_isFree m_from m_some m_field m_queue m_near m_open m_closed m_at m_begin m_sort m_lastQ m_lastR m_lastT m_readN] : List ZW).flatten)) rfl trivial ?_
        obtain ⟨t31, ht31, h⟩ := z_bind h
        refine Go.zast zk_X12_builds 13 rfl rfl rfl ht31 ?_
        refine Go.eqz (z2 := (200, [some (.ref m_p), none, some (.int v2), some (.int v3), none], [], ([sMo m_p m_a m_d m_was m_kept m_read m_text m_typed u27.2.1 u27.2.2.1 u27.2.2.2.1 u27.2.2.2.2.1 u27.2.2.2.2.2.1 u27.2.2.2.2.2.2.1 u27.2.2.2.2.2.2.2.1 u27.2.2.2.2.2.2.2.2.1 u27.2.2.2.2.2.2.2.2.2 m_built m_fixed t31 m_from m_some m_field m_queue m_near m_open m_closed m_at m_begin m_sort m_lastQ m_lastR m_lastT m_readN] : List ZW).flatten)) rfl ?_
        refine Go.blk zk_X12_builds [0, 0] (z' := (152, [some (.ref m_p), none, some (.int v2), some (.int (v3 + 1)), none], [], ([sMo m_p m_a m_d m_was m_kept m_read m_text m_typed u27.2.1 u27.2.2.1 u27.2.2.2.1 u27.2.2.2.2.1 u27.2.2.2.2.2.1 u27.2.2.2.2.2.2.1 u27.2.2.2.2.2.2.2.1 u27.2.2.2.2.2.2.2.2.1 u27.2.2.2.2.2.2.2.2.2 m_built m_fixed t31 m_from m_some m_field m_queue m_near m_open m_closed m_at m_begin m_sort m_lastQ m_lastR m_lastT m_readN] : List ZW).flatten)) rfl trivial ?_
        exact ih _ _ _ _ _ _ _ _ _ _ _ _ h kk
    · rw [if_neg hc24] at h
      refine Go.br zk_X12_builds rfl rfl (fun q => absurd q hc24) (fun _ => ?_)
      obtain rfl := Option.some.inj h
      refine Go.weak (L := [some (.ref m_p), none, some (.int v2), some (.int v3), none]) (L' := [some (.ref m_p), none, some (.int v2), none, none]) (And.intro rfl (And.intro rfl (trivial))) ?_
      exact kk
set_option maxHeartbeats 4000000 in
set_option maxRecDepth 100000 in
theorem t_X12_builds_L137 {N : Nat} {m_p : Nat} {m_a : Nat → Nat} {m_d : List Int32} {m_was : List Int32} {m_kept : Int32} {m_read : List Int32} {m_text : List Int32} {m_typed : Int32} {m_built : Int32} {m_fixed : List Int64} {m_from : List Int32} {m_some : List Int64} {m_field : List Int32} {m_queue : List Int32} {m_near : List Int32} {m_open : List Int32} {m_closed : List Int32} {m_at : Int32} {m_begin : Int32} {m_sort : Int32} {m_lastQ : Int32} {m_lastR : Int32} {m_lastT : Int32} {m_readN : Int32}  {Q : Option Value → ZW → Prop} : ∀ (fu : Nat) (v2 : Int32) (m_n : Int32) (m_q : List Int32) (m_r : List Int32) (m_t : List Int32) (m_heldQ : List Int32) (m_heldR : List Int32) (m_heldT : List Int32) (m_heldN : Int32) (m_image : List Int32) (m_isFree : List Int32) (e : Int32 × (List Int32) × (List Int32) × (List Int32) × (List Int32) × (List Int32) × (List Int32) × Int32 × (List Int32) × (List Int32)), f_X12_builds_L137 N m_d m_fixed m_from fu v2 m_n m_q m_r m_t m_heldQ m_heldR m_heldT m_heldN m_image m_isFree = some e → (Go l D r (z_rl xs) zm_X12_builds 0 0 (212, [none, none, none, none, none], [], ([sMo m_p m_a m_d m_was m_kept m_read m_text m_typed e.1 e.2.1 e.2.2.1 e.2.2.2.1 e.2.2.2.2.1 e.2.2.2.2.2.1 e.2.2.2.2.2.2.1 e.2.2.2.2.2.2.2.1 e.2.2.2.2.2.2.2.2.1 m_built m_fixed e.2.2.2.2.2.2.2.2.2 m_from m_some m_field m_queue m_near m_open m_closed m_at m_begin m_sort m_lastQ m_lastR m_lastT m_readN] : List ZW).flatten) Q) → Go l D r (z_rl xs) zm_X12_builds 0 0 (137, [some (.ref m_p), none, some (.int v2), none, none], [], ([sMo m_p m_a m_d m_was m_kept m_read m_text m_typed m_n m_q m_r m_t m_heldQ m_heldR m_heldT m_heldN m_image m_built m_fixed m_isFree m_from m_some m_field m_queue m_near m_open m_closed m_at m_begin m_sort m_lastQ m_lastR m_lastT m_readN] : List ZW).flatten) Q := by
  intro fu
  induction fu with
  | zero =>
    intro v2 m_n m_q m_r m_t m_heldQ m_heldR m_heldT m_heldN m_image m_isFree e h
    simp only [f_X12_builds_L137, reduceCtorEq] at h
  | succ fu ih =>
    intro v2 m_n m_q m_r m_t m_heldQ m_heldR m_heldT m_heldN m_image m_isFree e h kk
    rw [f_X12_builds_L137] at h
    refine Go.blk zk_X12_builds [0, 0] (z' := (139, [some (.ref m_p), none, some (.int v2), none, none], [.ref m_p, .int v2], ([sMo m_p m_a m_d m_was m_kept m_read m_text m_typed m_n m_q m_r m_t m_heldQ m_heldR m_heldT m_heldN m_image m_built m_fixed m_isFree m_from m_some m_field m_queue m_near m_open m_closed m_at m_begin m_sort m_lastQ m_lastR m_lastT m_readN] : List ZW).flatten)) rfl trivial ?_
    obtain ⟨u20, hu20, h⟩ := z_bind h
    refine Go.vs zk_X12_builds zm_X12_greatest [0] [] 0 12 1 (S := [sMo m_p m_a m_d m_was m_kept m_read m_text m_typed m_n m_q m_r m_t m_heldQ m_heldR m_heldT m_heldN m_image m_built m_fixed m_isFree m_from m_some m_field m_queue m_near m_open m_closed m_at m_begin m_sort m_lastQ m_lastR m_lastT m_readN]) (S2 := [sMo m_p m_a m_d m_was m_kept m_read m_text m_typed m_n m_q m_r m_t m_heldQ m_heldR m_heldT m_heldN m_image m_built m_fixed m_isFree m_from m_some m_field m_queue m_near m_open m_closed m_at m_begin m_sort m_lastQ m_lastR m_lastT m_readN]) (As := []) (rest := [.int v2]) (st2 := [.int u20, .int v2]) (v1 := some (.int u20)) rfl zl_X12_160 zv_X12_greatest ⟨Nat.le_of_ble_eq_true rfl, Nat.le_of_ble_eq_true rfl⟩ rfl (by decide) rfl rfl rfl rfl rfl (Nat.le_of_ble_eq_true rfl) (t_X12_greatest hu20) rfl rfl rfl ?_
    by_cases hc21 : u20 < v2
    · rw [if_pos hc21] at h
      refine Go.br zk_X12_builds rfl rfl (fun _ => ?_) (fun q => absurd hc21 q)
      obtain rfl := Option.some.inj h
      refine Go.weak (L := [some (.ref m_p), none, some (.int v2), none, none]) (L' := [none, none, none, none, none]) (trivial) ?_
      exact kk
    · rw [if_neg hc21] at h
      refine Go.br zk_X12_builds rfl rfl (fun q => absurd q hc21) (fun _ => ?_)
      refine Go.blk zk_X12_builds [0, 0, 0] (z' := (150, [some (.ref m_p), none, some (.int v2), none, none], [.int v2, .ref (m_a 13)], ([sMo m_p m_a m_d m_was m_kept m_read m_text m_typed m_n m_q m_r m_t m_heldQ m_heldR m_heldT m_heldN m_image m_built m_fixed m_isFree m_from m_some m_field m_queue m_near m_open m_closed m_at m_begin m_sort m_lastQ m_lastR m_lastT m_readN] : List ZW).flatten)) rfl ⟨rfl, trivial⟩ ?_
      obtain ⟨x22, hx22, h⟩ := z_bind h
      refine Go.iald zk_X12_builds 14 rfl rfl rfl hx22 ?_
      refine Go.blk zk_X12_builds [0] (z' := (152, [some (.ref m_p), none, some (.int v2), some (.int x22), none], [], ([sMo m_p m_a m_d m_was m_kept m_read m_text m_typed m_n m_q m_r m_t m_heldQ m_heldR m_heldT m_heldN m_image m_built m_fixed m_isFree m_from m_some m_field m_queue m_near m_open m_closed m_at m_begin m_sort m_lastQ m_lastR m_lastT m_readN] : List ZW).flatten)) rfl trivial ?_
      obtain ⟨e32, he32, h⟩ := z_bind h
      refine t_X12_builds_L152 N _ _ _ _ _ _ _ _ _ _ _ _ he32 ?_
      refine Go.blk zk_X12_builds [0, 0] (z' := (137, [some (.ref m_p), none, some (.int (v2 + 1)), none, none], [], ([sMo m_p m_a m_d m_was m_kept m_read m_text m_typed e32.1 e32.2.1 e32.2.2.1 e32.2.2.2.1 e32.2.2.2.2.1 e32.2.2.2.2.2.1 e32.2.2.2.2.2.2.1 e32.2.2.2.2.2.2.2.1 e32.2.2.2.2.2.2.2.2.1 m_built m_fixed e32.2.2.2.2.2.2.2.2.2 m_from m_some m_field m_queue m_near m_open m_closed m_at m_begin m_sort m_lastQ m_lastR m_lastT m_readN] : List ZW).flatten)) rfl trivial ?_
      exact ih _ _ _ _ _ _ _ _ _ _ _ _ h kk
set_option maxHeartbeats 4000000 in
set_option maxRecDepth 100000 in
theorem t_X12_builds {N : Nat} {m_p : Nat} {m_a : Nat → Nat} {m_d : List Int32} {m_was : List Int32} {m_kept : Int32} {m_read : List Int32} {m_text : List Int32} {m_typed : Int32} {m_n : Int32} {m_q : List Int32} {m_r : List Int32} {m_t : List Int32} {m_heldQ : List Int32} {m_heldR : List Int32} {m_heldT : List Int32} {m_heldN : Int32} {m_image : List Int32} {m_built : Int32} {m_fixed : List Int64} {m_isFree : List Int32} {m_from : List Int32} {m_some : List Int64} {m_field : List Int32} {m_queue : List Int32} {m_near : List Int32} {m_open : List Int32} {m_closed : List Int32} {m_at : Int32} {m_begin : Int32} {m_sort : Int32} {m_lastQ : Int32} {m_lastR : Int32} {m_lastT : Int32} {m_readN : Int32} {u : Int32 × (List Int32) × (List Int32) × (List Int32) × (List Int32) × (List Int32) × (List Int32) × Int32 × (List Int32) × Int32 × (List Int64) × (List Int32) × (List Int32)}  (h : f_X12_builds N m_d m_n m_q m_r m_t m_heldQ m_heldR m_heldT m_heldN m_image m_built m_fixed m_isFree m_from = some u) : Ct l D r (z_rl xs) zm_X12_builds 0 0 [.ref m_p] ([sMo m_p m_a m_d m_was m_kept m_read m_text m_typed m_n m_q m_r m_t m_heldQ m_heldR m_heldT m_heldN m_image m_built m_fixed m_isFree m_from m_some m_field m_queue m_near m_open m_closed m_at m_begin m_sort m_lastQ m_lastR m_lastT m_readN] : List ZW).flatten (fun v' w' => v' = none ∧ w' = ([sMo m_p m_a m_d m_was m_kept m_read m_text m_typed u.1 u.2.1 u.2.2.1 u.2.2.2.1 u.2.2.2.2.1 u.2.2.2.2.2.1 u.2.2.2.2.2.2.1 u.2.2.2.2.2.2.2.1 u.2.2.2.2.2.2.2.2.1 u.2.2.2.2.2.2.2.2.2.1 u.2.2.2.2.2.2.2.2.2.2.1 u.2.2.2.2.2.2.2.2.2.2.2.1 u.2.2.2.2.2.2.2.2.2.2.2.2 m_some m_field m_queue m_near m_open m_closed m_at m_begin m_sort m_lastQ m_lastR m_lastT m_readN] : List ZW).flatten) := by
  refine Ct.of (by decide +kernel) rfl (fun q => absurd q (by decide)) (Nat.le_of_ble_eq_true rfl) ?_
  refine Go.eqz (z2 := (0, [some (.ref m_p), none, none, none, none], [], ([sMo m_p m_a m_d m_was m_kept m_read m_text m_typed m_n m_q m_r m_t m_heldQ m_heldR m_heldT m_heldN m_image m_built m_fixed m_isFree m_from m_some m_field m_queue m_near m_open m_closed m_at m_begin m_sort m_lastQ m_lastR m_lastT m_readN] : List ZW).flatten)) rfl ?_
  unfold f_X12_builds at h
  refine Go.blk zk_X12_builds [0, 0, 0, 0, 0] (z' := (9, [some (.ref m_p), none, none, none, none], [.int 0, .ref (m_a 0), .int m_built], ([sMo m_p m_a m_d m_was m_kept m_read m_text m_typed m_n m_q m_r m_t m_heldQ m_heldR m_heldT m_heldN m_image m_built m_fixed m_isFree m_from m_some m_field m_queue m_near m_open m_closed m_at m_begin m_sort m_lastQ m_lastR m_lastT m_readN] : List ZW).flatten)) rfl ⟨rfl, rfl, trivial⟩ ?_
  obtain ⟨x1, hx1, h⟩ := z_bind h
  refine Go.iald zk_X12_builds 1 rfl rfl rfl hx1 ?_
  by_cases hc2 : m_built = x1
  · rw [if_pos hc2] at h
    refine Go.br zk_X12_builds rfl rfl (fun _ => ?_) (fun q => absurd hc2 q)
    obtain rfl := Option.some.inj h
    exact Go.vret zk_X12_builds rfl rfl ⟨rfl, rfl⟩
  · rw [if_neg hc2] at h
    refine Go.br zk_X12_builds rfl rfl (fun q => absurd q hc2) (fun _ => ?_)
    refine Go.blk zk_X12_builds [0, 0, 0, 0] (z' := (20, [some (.ref m_p), none, none, none, none], [.int 0, .ref (m_a 0), .ref m_p], ([sMo m_p m_a m_d m_was m_kept m_read m_text m_typed m_n m_q m_r m_t m_heldQ m_heldR m_heldT m_heldN m_image m_built m_fixed m_isFree m_from m_some m_field m_queue m_near m_open m_closed m_at m_begin m_sort m_lastQ m_lastR m_lastT m_readN] : List ZW).flatten)) rfl ⟨rfl, trivial⟩ ?_
    obtain ⟨x3, hx3, h⟩ := z_bind h
    refine Go.iald zk_X12_builds 1 rfl rfl rfl hx3 ?_
    refine Go.put zk_X12_builds 0 rfl rfl rfl rfl rfl (Nat.le_of_ble_eq_true rfl) ?_
    refine Go.eqz (z2 := (24, [some (.ref m_p), none, none, none, none], [], ([sMo m_p m_a m_d m_was m_kept m_read m_text m_typed m_n m_q m_r m_t m_heldQ m_heldR m_heldT m_heldN m_image x3 m_fixed m_isFree m_from m_some m_field m_queue m_near m_open m_closed m_at m_begin m_sort m_lastQ m_lastR m_lastT m_readN] : List ZW).flatten)) rfl ?_
    refine Go.blk zk_X12_builds [0, 0, 0, 0] (z' := (30, [some (.ref m_p), none, none, none, none], [.int 0, .int 1, .ref (m_a 13)], ([sMo m_p m_a m_d m_was m_kept m_read m_text m_typed m_n m_q m_r m_t m_heldQ m_heldR m_heldT m_heldN m_image x3 m_fixed m_isFree m_from m_some m_field m_queue m_near m_open m_closed m_at m_begin m_sort m_lastQ m_lastR m_lastT m_readN] : List ZW).flatten)) rfl ⟨rfl, trivial⟩ ?_
    obtain ⟨t4, ht4, h⟩ := z_bind h
    refine Go.iast zk_X12_builds 14 rfl rfl rfl ht4 ?_
    refine Go.eqz (z2 := (31, [some (.ref m_p), none, none, none, none], [], ([sMo m_p m_a m_d m_was m_kept m_read m_text m_typed m_n m_q m_r m_t m_heldQ m_heldR m_heldT m_heldN m_image x3 m_fixed m_isFree t4 m_some m_field m_queue m_near m_open m_closed m_at m_begin m_sort m_lastQ m_lastR m_lastT m_readN] : List ZW).flatten)) rfl ?_
    refine Go.blk zk_X12_builds [0, 0, 0, 0] (z' := (35, [some (.ref m_p), none, none, none, none], [.int 0, .int 0, .long 0, .ref m_p], ([sMo m_p m_a m_d m_was m_kept m_read m_text m_typed m_n m_q m_r m_t m_heldQ m_heldR m_heldT m_heldN m_image x3 m_fixed m_isFree t4 m_some m_field m_queue m_near m_open m_closed m_at m_begin m_sort m_lastQ m_lastR m_lastT m_readN] : List ZW).flatten)) rfl trivial ?_
    obtain ⟨u5, hu5, h⟩ := z_bind h
    refine Go.vs zk_X12_builds zm_X12_puts [0] [] 0 12 1 (S := [sMo m_p m_a m_d m_was m_kept m_read m_text m_typed m_n m_q m_r m_t m_heldQ m_heldR m_heldT m_heldN m_image x3 m_fixed m_isFree t4 m_some m_field m_queue m_near m_open m_closed m_at m_begin m_sort m_lastQ m_lastR m_lastT m_readN]) (S2 := [sMo m_p m_a m_d m_was m_kept m_read m_text m_typed m_n m_q m_r m_t m_heldQ m_heldR m_heldT m_heldN m_image x3 u5.2 m_isFree t4 m_some m_field m_queue m_near m_open m_closed m_at m_begin m_sort m_lastQ m_lastR m_lastT m_readN]) (As := [.long 0, .int 0, .int 0]) (rest := []) (st2 := [.int u5.1]) (v1 := some (.int u5.1)) rfl zl_X12_156 zv_X12_puts ⟨Nat.le_of_ble_eq_true rfl, Nat.le_of_ble_eq_true rfl⟩ rfl (by decide) rfl rfl rfl rfl rfl (Nat.le_of_ble_eq_true rfl) (t_X12_puts hu5) rfl rfl rfl ?_
    refine Go.blk zk_X12_builds [0, 0, 0, 0] (z' := (44, [some (.ref m_p), some (.int u5.1), none, none, none], [.int 0, .ref (m_a 0)], ([sMo m_p m_a m_d m_was m_kept m_read m_text m_typed m_n m_q m_r m_t m_heldQ m_heldR m_heldT m_heldN m_image x3 u5.2 m_isFree t4 m_some m_field m_queue m_near m_open m_closed m_at m_begin m_sort m_lastQ m_lastR m_lastT m_readN] : List ZW).flatten)) rfl ⟨rfl, trivial⟩ ?_
    obtain ⟨x6, hx6, h⟩ := z_bind h
    refine Go.iald zk_X12_builds 1 rfl rfl rfl hx6 ?_
    refine Go.blk zk_X12_builds [0] (z' := (46, [some (.ref m_p), some (.int u5.1), none, none, none], [.int 1, .int x6], ([sMo m_p m_a m_d m_was m_kept m_read m_text m_typed m_n m_q m_r m_t m_heldQ m_heldR m_heldT m_heldN m_image x3 u5.2 m_isFree t4 m_some m_field m_queue m_near m_open m_closed m_at m_begin m_sort m_lastQ m_lastR m_lastT m_readN] : List ZW).flatten)) rfl trivial ?_
    by_cases hc7 : x6 = 1
    · rw [if_pos hc7] at h
      refine Go.br zk_X12_builds rfl rfl (fun _ => ?_) (fun q => absurd hc7 q)
      refine Go.blk zk_X12_builds [0, 0, 0, 0] (z' := (53, [some (.ref m_p), some (.int u5.1), none, none, none], [.int u5.1, .int 0, .long 1, .ref m_p], ([sMo m_p m_a m_d m_was m_kept m_read m_text m_typed m_n m_q m_r m_t m_heldQ m_heldR m_heldT m_heldN m_image x3 u5.2 m_isFree t4 m_some m_field m_queue m_near m_open m_closed m_at m_begin m_sort m_lastQ m_lastR m_lastT m_readN] : List ZW).flatten)) rfl trivial ?_
      obtain ⟨u8, hu8, h⟩ := z_bind h
      refine Go.vs zk_X12_builds zm_X12_puts [0] [] 0 12 1 (S := [sMo m_p m_a m_d m_was m_kept m_read m_text m_typed m_n m_q m_r m_t m_heldQ m_heldR m_heldT m_heldN m_image x3 u5.2 m_isFree t4 m_some m_field m_queue m_near m_open m_closed m_at m_begin m_sort m_lastQ m_lastR m_lastT m_readN]) (S2 := [sMo m_p m_a m_d m_was m_kept m_read m_text m_typed m_n m_q m_r m_t m_heldQ m_heldR m_heldT m_heldN m_image x3 u8.2 m_isFree t4 m_some m_field m_queue m_near m_open m_closed m_at m_begin m_sort m_lastQ m_lastR m_lastT m_readN]) (As := [.long 1, .int 0, .int u5.1]) (rest := []) (st2 := [.int u8.1]) (v1 := some (.int u8.1)) rfl zl_X12_156 zv_X12_puts ⟨Nat.le_of_ble_eq_true rfl, Nat.le_of_ble_eq_true rfl⟩ rfl (by decide) rfl rfl rfl rfl rfl (Nat.le_of_ble_eq_true rfl) (t_X12_puts hu8) rfl rfl rfl ?_
      refine Go.blk zk_X12_builds [0, 0, 0, 0, 0] (z' := (63, [some (.ref m_p), some (.int u8.1), none, none, none], [.int u8.1, .int 2, .ref (m_a 13)], ([sMo m_p m_a m_d m_was m_kept m_read m_text m_typed m_n m_q m_r m_t m_heldQ m_heldR m_heldT m_heldN m_image x3 u8.2 m_isFree t4 m_some m_field m_queue m_near m_open m_closed m_at m_begin m_sort m_lastQ m_lastR m_lastT m_readN] : List ZW).flatten)) rfl ⟨rfl, trivial⟩ ?_
      obtain ⟨t9, ht9, h⟩ := z_bind h
      refine Go.iast zk_X12_builds 14 rfl rfl rfl ht9 ?_
      refine Go.eqz (z2 := (64, [some (.ref m_p), some (.int u8.1), none, none, none], [], ([sMo m_p m_a m_d m_was m_kept m_read m_text m_typed m_n m_q m_r m_t m_heldQ m_heldR m_heldT m_heldN m_image x3 u8.2 m_isFree t9 m_some m_field m_queue m_near m_open m_closed m_at m_begin m_sort m_lastQ m_lastR m_lastT m_readN] : List ZW).flatten)) rfl ?_
      refine Go.blk zk_X12_builds [0, 0] (z' := (66, [some (.ref m_p), some (.int u8.1), some (.int 2), none, none], [], ([sMo m_p m_a m_d m_was m_kept m_read m_text m_typed m_n m_q m_r m_t m_heldQ m_heldR m_heldT m_heldN m_image x3 u8.2 m_isFree t9 m_some m_field m_queue m_near m_open m_closed m_at m_begin m_sort m_lastQ m_lastR m_lastT m_readN] : List ZW).flatten)) rfl trivial ?_
      refine Go.weak (L := [some (.ref m_p), some (.int u8.1), some (.int 2), none, none]) (L' := [some (.ref m_p), none, some (.int 2), none, none]) (And.intro rfl (And.intro rfl (trivial))) ?_
      obtain ⟨e19, he19, h⟩ := z_bind h
      refine t_X12_builds_L66 N _ _ _ _ _ _ _ _ he19 ?_
      refine Go.blk zk_X12_builds [0, 0] (z' := (137, [some (.ref m_p), none, some (.int 1), none, none], [], ([sMo m_p m_a m_d m_was m_kept m_read m_text m_typed e19.1 e19.2.1 e19.2.2.1 e19.2.2.2.1 m_heldQ m_heldR m_heldT m_heldN m_image x3 e19.2.2.2.2.1 m_isFree e19.2.2.2.2.2 m_some m_field m_queue m_near m_open m_closed m_at m_begin m_sort m_lastQ m_lastR m_lastT m_readN] : List ZW).flatten)) rfl trivial ?_
      obtain ⟨e33, he33, h⟩ := z_bind h
      refine t_X12_builds_L137 N _ _ _ _ _ _ _ _ _ _ _ _ he33 ?_
      obtain rfl := Option.some.inj h
      exact Go.vret zk_X12_builds rfl rfl ⟨rfl, rfl⟩
    · rw [if_neg hc7] at h
      refine Go.br zk_X12_builds rfl rfl (fun q => absurd q hc7) (fun _ => ?_)
      refine Go.blk zk_X12_builds [0, 0, 0, 0] (z' := (63, [some (.ref m_p), some (.int u5.1), none, none, none], [.int u5.1, .int 2, .ref (m_a 13)], ([sMo m_p m_a m_d m_was m_kept m_read m_text m_typed m_n m_q m_r m_t m_heldQ m_heldR m_heldT m_heldN m_image x3 u5.2 m_isFree t4 m_some m_field m_queue m_near m_open m_closed m_at m_begin m_sort m_lastQ m_lastR m_lastT m_readN] : List ZW).flatten)) rfl ⟨rfl, trivial⟩ ?_
      obtain ⟨t34, ht34, h⟩ := z_bind h
      refine Go.iast zk_X12_builds 14 rfl rfl rfl ht34 ?_
      refine Go.eqz (z2 := (64, [some (.ref m_p), some (.int u5.1), none, none, none], [], ([sMo m_p m_a m_d m_was m_kept m_read m_text m_typed m_n m_q m_r m_t m_heldQ m_heldR m_heldT m_heldN m_image x3 u5.2 m_isFree t34 m_some m_field m_queue m_near m_open m_closed m_at m_begin m_sort m_lastQ m_lastR m_lastT m_readN] : List ZW).flatten)) rfl ?_
      refine Go.blk zk_X12_builds [0, 0] (z' := (66, [some (.ref m_p), some (.int u5.1), some (.int 2), none, none], [], ([sMo m_p m_a m_d m_was m_kept m_read m_text m_typed m_n m_q m_r m_t m_heldQ m_heldR m_heldT m_heldN m_image x3 u5.2 m_isFree t34 m_some m_field m_queue m_near m_open m_closed m_at m_begin m_sort m_lastQ m_lastR m_lastT m_readN] : List ZW).flatten)) rfl trivial ?_
      refine Go.weak (L := [some (.ref m_p), some (.int u5.1), some (.int 2), none, none]) (L' := [some (.ref m_p), none, some (.int 2), none, none]) (And.intro rfl (And.intro rfl (trivial))) ?_
      obtain ⟨e35, he35, h⟩ := z_bind h
      refine t_X12_builds_L66 N _ _ _ _ _ _ _ _ he35 ?_
      refine Go.blk zk_X12_builds [0, 0] (z' := (137, [some (.ref m_p), none, some (.int 1), none, none], [], ([sMo m_p m_a m_d m_was m_kept m_read m_text m_typed e35.1 e35.2.1 e35.2.2.1 e35.2.2.2.1 m_heldQ m_heldR m_heldT m_heldN m_image x3 e35.2.2.2.2.1 m_isFree e35.2.2.2.2.2 m_some m_field m_queue m_near m_open m_closed m_at m_begin m_sort m_lastQ m_lastR m_lastT m_readN] : List ZW).flatten)) rfl trivial ?_
      obtain ⟨e36, he36, h⟩ := z_bind h
      refine t_X12_builds_L137 N _ _ _ _ _ _ _ _ _ _ _ _ he36 ?_
      obtain rfl := Option.some.inj h
      exact Go.vret zk_X12_builds rfl rfl ⟨rfl, rfl⟩
set_option maxHeartbeats 4000000 in
set_option maxRecDepth 100000 in
theorem t_X12_placeOf_L15 {N : Nat} {m_p : Nat} {m_a : Nat → Nat} {m_d : List Int32} {m_was : List Int32} {m_kept : Int32} {m_read : List Int32} {m_text : List Int32} {m_typed : Int32} {m_n : Int32} {m_q : List Int32} {m_r : List Int32} {m_t : List Int32} {m_heldQ : List Int32} {m_heldR : List Int32} {m_heldT : List Int32} {m_heldN : Int32} {m_image : List Int32} {m_built : Int32} {m_fixed : List Int64} {m_isFree : List Int32} {m_from : List Int32} {m_some : List Int64} {m_field : List Int32} {m_queue : List Int32} {m_near : List Int32} {m_open : List Int32} {m_closed : List Int32} {m_at : Int32} {m_begin : Int32} {m_sort : Int32} {m_lastQ : Int32} {m_lastR : Int32} {m_lastT : Int32} {m_readN : Int32} {v1 : Int32} {v2 : Int32}  {Q : Option Value → ZW → Prop} : ∀ (fu : Nat) (v4 : Int32) (v5 : Int32) (o : (Unit) ⊕ (Int32 × Int32 × (List Int32) × (List Int32) × (List Int32) × (List Int32) × (List Int32) × (List Int32) × Int32 × (List Int32) × Int32 × (List Int64) × (List Int32) × (List Int32))), f_X12_placeOf_L15 N v1 v2 m_n m_q m_r m_t m_heldQ m_heldR m_heldT m_heldN m_image m_built m_fixed m_isFree m_from fu v4 v5 = some o → (∀ e, o = .inl e → Go l D r (z_rl xs) zm_X12_placeOf 0 0 (59, [none, none, none, none, none, none], [], ([sMo m_p m_a m_d m_was m_kept m_read m_text m_typed m_n m_q m_r m_t m_heldQ m_heldR m_heldT m_heldN m_image m_built m_fixed m_isFree m_from m_some m_field m_queue m_near m_open m_closed m_at m_begin m_sort m_lastQ m_lastR m_lastT m_readN] : List ZW).flatten) Q) → (∀ e, o = .inr e → Q (some (.int e.1)) ([sMo m_p m_a m_d m_was m_kept m_read m_text m_typed e.2.1 e.2.2.1 e.2.2.2.1 e.2.2.2.2.1 e.2.2.2.2.2.1 e.2.2.2.2.2.2.1 e.2.2.2.2.2.2.2.1 e.2.2.2.2.2.2.2.2.1 e.2.2.2.2.2.2.2.2.2.1 e.2.2.2.2.2.2.2.2.2.2.1 e.2.2.2.2.2.2.2.2.2.2.2.1 e.2.2.2.2.2.2.2.2.2.2.2.2.1 e.2.2.2.2.2.2.2.2.2.2.2.2.2 m_some m_field m_queue m_near m_open m_closed m_at m_begin m_sort m_lastQ m_lastR m_lastT m_readN] : List ZW).flatten) → Go l D r (z_rl xs) zm_X12_placeOf 0 0 (15, [some (.ref m_p), some (.int v1), some (.int v2), none, some (.int v4), some (.int v5)], [], ([sMo m_p m_a m_d m_was m_kept m_read m_text m_typed m_n m_q m_r m_t m_heldQ m_heldR m_heldT m_heldN m_image m_built m_fixed m_isFree m_from m_some m_field m_queue m_near m_open m_closed m_at m_begin m_sort m_lastQ m_lastR m_lastT m_readN] : List ZW).flatten) Q := by
  intro fu
  induction fu with
  | zero =>
    intro v4 v5 o h
    simp only [f_X12_placeOf_L15, reduceCtorEq] at h
  | succ fu ih =>
    intro v4 v5 o h k1 k2
    rw [f_X12_placeOf_L15] at h
    refine Go.blk zk_X12_placeOf [0, 0, 0, 0, 0, 0] (z' := (24, [some (.ref m_p), some (.int v1), some (.int v2), none, some (.int v4), some (.int v5)], [.int (v2 + 1), .ref (m_a 13), .int v5], ([sMo m_p m_a m_d m_was m_kept m_read m_text m_typed m_n m_q m_r m_t m_heldQ m_heldR m_heldT m_heldN m_image m_built m_fixed m_isFree m_from m_some m_field m_queue m_near m_open m_closed m_at m_begin m_sort m_lastQ m_lastR m_lastT m_readN] : List ZW).flatten)) rfl ⟨rfl, trivial⟩ ?_
    obtain ⟨x3, hx3, h⟩ := z_bind h
    refine Go.iald zk_X12_placeOf 14 rfl rfl rfl hx3 ?_
    by_cases hc4 : v5 < x3
    · rw [if_pos hc4] at h
      refine Go.br zk_X12_placeOf rfl rfl (fun _ => ?_) (fun q => absurd hc4 q)
      refine Go.blk zk_X12_placeOf [0] (z' := (29, [some (.ref m_p), some (.int v1), some (.int v2), none, some (.int v4), some (.int v5)], [.int v1], ([sMo m_p m_a m_d m_was m_kept m_read m_text m_typed m_n m_q m_r m_t m_heldQ m_heldR m_heldT m_heldN m_image m_built m_fixed m_isFree m_from m_some m_field m_queue m_near m_open m_closed m_at m_begin m_sort m_lastQ m_lastR m_lastT m_readN] : List ZW).flatten)) rfl trivial ?_
      by_cases hc5 : v1 = 0
      · rw [if_pos hc5] at h
        refine Go.br zk_X12_placeOf rfl rfl (fun _ => ?_) (fun q => absurd hc5 q)
        refine Go.blk zk_X12_placeOf [0] (z' := (44, [some (.ref m_p), some (.int v1), some (.int v2), none, some (.int v4), some (.int v5)], [.int v4], ([sMo m_p m_a m_d m_was m_kept m_read m_text m_typed m_n m_q m_r m_t m_heldQ m_heldR m_heldT m_heldN m_image m_built m_fixed m_isFree m_from m_some m_field m_queue m_near m_open m_closed m_at m_begin m_sort m_lastQ m_lastR m_lastT m_readN] : List ZW).flatten)) rfl trivial ?_
        by_cases hc6 : v4 = 0
        · rw [if_pos hc6] at h
          refine Go.br zk_X12_placeOf rfl rfl (fun _ => ?_) (fun q => absurd hc6 q)
          refine Go.blk zk_X12_placeOf [0] (z' := (49, [some (.ref m_p), some (.int v1), some (.int v2), none, some (.int v4), some (.int v5)], [.int v5], ([sMo m_p m_a m_d m_was m_kept m_read m_text m_typed m_n m_q m_r m_t m_heldQ m_heldR m_heldT m_heldN m_image m_built m_fixed m_isFree m_from m_some m_field m_queue m_near m_open m_closed m_at m_begin m_sort m_lastQ m_lastR m_lastT m_readN] : List ZW).flatten)) rfl trivial ?_
          obtain rfl := Option.some.inj h
          exact Go.iret zk_X12_placeOf rfl rfl rfl (k2 _ rfl)
        · rw [if_neg hc6] at h
          refine Go.br zk_X12_placeOf rfl rfl (fun q => absurd q hc6) (fun _ => ?_)
          refine Go.blk zk_X12_placeOf [0, 0, 0] (z' := (15, [some (.ref m_p), some (.int v1), some (.int v2), none, some (.int (v4 + (-1))), some (.int (v5 + 1))], [], ([sMo m_p m_a m_d m_was m_kept m_read m_text m_typed m_n m_q m_r m_t m_heldQ m_heldR m_heldT m_heldN m_image m_built m_fixed m_isFree m_from m_some m_field m_queue m_near m_open m_closed m_at m_begin m_sort m_lastQ m_lastR m_lastT m_readN] : List ZW).flatten)) rfl trivial ?_
          exact ih _ _ _ h k1 k2
      · rw [if_neg hc5] at h
        refine Go.br zk_X12_placeOf rfl rfl (fun q => absurd q hc5) (fun _ => ?_)
        refine Go.blk zk_X12_placeOf [0, 0, 0] (z' := (38, [some (.ref m_p), some (.int v1), some (.int v2), none, some (.int v4), some (.int v5)], [.int v5, .ref (m_a 12)], ([sMo m_p m_a m_d m_was m_kept m_read m_text m_typed m_n m_q m_r m_t m_heldQ m_heldR m_heldT m_heldN m_image m_built m_fixed m_isFree m_from m_some m_field m_queue m_near m_open m_closed m_at m_begin m_sort m_lastQ m_lastR m_lastT m_readN] : List ZW).flatten)) rfl ⟨rfl, trivial⟩ ?_
        obtain ⟨x7, hx7, h⟩ := z_bind h
        refine Go.zald zk_X12_placeOf 13 rfl rfl rfl hx7 ?_
        by_cases hc8 : x7 = 0
        · rw [if_pos hc8] at h
          refine Go.br zk_X12_placeOf rfl rfl (fun _ => ?_) (fun q => absurd hc8 q)
          refine Go.blk zk_X12_placeOf [0, 0] (z' := (15, [some (.ref m_p), some (.int v1), some (.int v2), none, some (.int v4), some (.int (v5 + 1))], [], ([sMo m_p m_a m_d m_was m_kept m_read m_text m_typed m_n m_q m_r m_t m_heldQ m_heldR m_heldT m_heldN m_image m_built m_fixed m_isFree m_from m_some m_field m_queue m_near m_open m_closed m_at m_begin m_sort m_lastQ m_lastR m_lastT m_readN] : List ZW).flatten)) rfl trivial ?_
          exact ih _ _ _ h k1 k2
        · rw [if_neg hc8] at h
          refine Go.br zk_X12_placeOf rfl rfl (fun q => absurd q hc8) (fun _ => ?_)
          refine Go.blk zk_X12_placeOf [0] (z' := (44, [some (.ref m_p), some (.int v1), some (.int v2), none, some (.int v4), some (.int v5)], [.int v4], ([sMo m_p m_a m_d m_was m_kept m_read m_text m_typed m_n m_q m_r m_t m_heldQ m_heldR m_heldT m_heldN m_image m_built m_fixed m_isFree m_from m_some m_field m_queue m_near m_open m_closed m_at m_begin m_sort m_lastQ m_lastR m_lastT m_readN] : List ZW).flatten)) rfl trivial ?_
          by_cases hc9 : v4 = 0
          · rw [if_pos hc9] at h
            refine Go.br zk_X12_placeOf rfl rfl (fun _ => ?_) (fun q => absurd hc9 q)
            refine Go.blk zk_X12_placeOf [0] (z' := (49, [some (.ref m_p), some (.int v1), some (.int v2), none, some (.int v4), some (.int v5)], [.int v5], ([sMo m_p m_a m_d m_was m_kept m_read m_text m_typed m_n m_q m_r m_t m_heldQ m_heldR m_heldT m_heldN m_image m_built m_fixed m_isFree m_from m_some m_field m_queue m_near m_open m_closed m_at m_begin m_sort m_lastQ m_lastR m_lastT m_readN] : List ZW).flatten)) rfl trivial ?_
            obtain rfl := Option.some.inj h
            exact Go.iret zk_X12_placeOf rfl rfl rfl (k2 _ rfl)
          · rw [if_neg hc9] at h
            refine Go.br zk_X12_placeOf rfl rfl (fun q => absurd q hc9) (fun _ => ?_)
            refine Go.blk zk_X12_placeOf [0, 0, 0] (z' := (15, [some (.ref m_p), some (.int v1), some (.int v2), none, some (.int (v4 + (-1))), some (.int (v5 + 1))], [], ([sMo m_p m_a m_d m_was m_kept m_read m_text m_typed m_n m_q m_r m_t m_heldQ m_heldR m_heldT m_heldN m_image m_built m_fixed m_isFree m_from m_some m_field m_queue m_near m_open m_closed m_at m_begin m_sort m_lastQ m_lastR m_lastT m_readN] : List ZW).flatten)) rfl trivial ?_
            exact ih _ _ _ h k1 k2
    · rw [if_neg hc4] at h
      refine Go.br zk_X12_placeOf rfl rfl (fun q => absurd q hc4) (fun _ => ?_)
      obtain rfl := Option.some.inj h
      refine Go.weak (L := [some (.ref m_p), some (.int v1), some (.int v2), none, some (.int v4), some (.int v5)]) (L' := [none, none, none, none, none, none]) (trivial) ?_
      exact k1 _ rfl
set_option maxHeartbeats 4000000 in
set_option maxRecDepth 100000 in
theorem t_X12_placeOf {N : Nat} {m_p : Nat} {m_a : Nat → Nat} {m_d : List Int32} {m_was : List Int32} {m_kept : Int32} {m_read : List Int32} {m_text : List Int32} {m_typed : Int32} {m_n : Int32} {m_q : List Int32} {m_r : List Int32} {m_t : List Int32} {m_heldQ : List Int32} {m_heldR : List Int32} {m_heldT : List Int32} {m_heldN : Int32} {m_image : List Int32} {m_built : Int32} {m_fixed : List Int64} {m_isFree : List Int32} {m_from : List Int32} {m_some : List Int64} {m_field : List Int32} {m_queue : List Int32} {m_near : List Int32} {m_open : List Int32} {m_closed : List Int32} {m_at : Int32} {m_begin : Int32} {m_sort : Int32} {m_lastQ : Int32} {m_lastR : Int32} {m_lastT : Int32} {m_readN : Int32} {i1 : Int32} {i2 : Int32} {i3 : Int32} {u : Int32 × Int32 × (List Int32) × (List Int32) × (List Int32) × (List Int32) × (List Int32) × (List Int32) × Int32 × (List Int32) × Int32 × (List Int64) × (List Int32) × (List Int32)}  (h : f_X12_placeOf N i1 i2 i3 m_d m_n m_q m_r m_t m_heldQ m_heldR m_heldT m_heldN m_image m_built m_fixed m_isFree m_from = some u) : Ct l D r (z_rl xs) zm_X12_placeOf 0 0 [.ref m_p, .int i1, .int i2, .int i3] ([sMo m_p m_a m_d m_was m_kept m_read m_text m_typed m_n m_q m_r m_t m_heldQ m_heldR m_heldT m_heldN m_image m_built m_fixed m_isFree m_from m_some m_field m_queue m_near m_open m_closed m_at m_begin m_sort m_lastQ m_lastR m_lastT m_readN] : List ZW).flatten (fun v' w' => v' = some (.int u.1) ∧ w' = ([sMo m_p m_a m_d m_was m_kept m_read m_text m_typed u.2.1 u.2.2.1 u.2.2.2.1 u.2.2.2.2.1 u.2.2.2.2.2.1 u.2.2.2.2.2.2.1 u.2.2.2.2.2.2.2.1 u.2.2.2.2.2.2.2.2.1 u.2.2.2.2.2.2.2.2.2.1 u.2.2.2.2.2.2.2.2.2.2.1 u.2.2.2.2.2.2.2.2.2.2.2.1 u.2.2.2.2.2.2.2.2.2.2.2.2.1 u.2.2.2.2.2.2.2.2.2.2.2.2.2 m_some m_field m_queue m_near m_open m_closed m_at m_begin m_sort m_lastQ m_lastR m_lastT m_readN] : List ZW).flatten) := by
  refine Ct.of (by decide +kernel) rfl (fun q => absurd q (by decide)) (Nat.le_of_ble_eq_true rfl) ?_
  refine Go.eqz (z2 := (0, [some (.ref m_p), some (.int i1), some (.int i2), some (.int i3), none, none], [], ([sMo m_p m_a m_d m_was m_kept m_read m_text m_typed m_n m_q m_r m_t m_heldQ m_heldR m_heldT m_heldN m_image m_built m_fixed m_isFree m_from m_some m_field m_queue m_near m_open m_closed m_at m_begin m_sort m_lastQ m_lastR m_lastT m_readN] : List ZW).flatten)) rfl ?_
  unfold f_X12_placeOf at h
  refine Go.blk zk_X12_placeOf [0] (z' := (1, [some (.ref m_p), some (.int i1), some (.int i2), some (.int i3), none, none], [.ref m_p], ([sMo m_p m_a m_d m_was m_kept m_read m_text m_typed m_n m_q m_r m_t m_heldQ m_heldR m_heldT m_heldN m_image m_built m_fixed m_isFree m_from m_some m_field m_queue m_near m_open m_closed m_at m_begin m_sort m_lastQ m_lastR m_lastT m_readN] : List ZW).flatten)) rfl trivial ?_
  obtain ⟨u1, hu1, h⟩ := z_bind h
  refine Go.vs zk_X12_placeOf zm_X12_builds [0] [] 0 12 1 (S := [sMo m_p m_a m_d m_was m_kept m_read m_text m_typed m_n m_q m_r m_t m_heldQ m_heldR m_heldT m_heldN m_image m_built m_fixed m_isFree m_from m_some m_field m_queue m_near m_open m_closed m_at m_begin m_sort m_lastQ m_lastR m_lastT m_readN]) (S2 := [sMo m_p m_a m_d m_was m_kept m_read m_text m_typed u1.1 u1.2.1 u1.2.2.1 u1.2.2.2.1 u1.2.2.2.2.1 u1.2.2.2.2.2.1 u1.2.2.2.2.2.2.1 u1.2.2.2.2.2.2.2.1 u1.2.2.2.2.2.2.2.2.1 u1.2.2.2.2.2.2.2.2.2.1 u1.2.2.2.2.2.2.2.2.2.2.1 u1.2.2.2.2.2.2.2.2.2.2.2.1 u1.2.2.2.2.2.2.2.2.2.2.2.2 m_some m_field m_queue m_near m_open m_closed m_at m_begin m_sort m_lastQ m_lastR m_lastT m_readN]) (As := []) (rest := []) (st2 := []) (v1 := none) rfl zl_X12_178 zv_X12_builds ⟨Nat.le_of_ble_eq_true rfl, Nat.le_of_ble_eq_true rfl⟩ rfl (by decide) rfl rfl rfl rfl rfl (Nat.le_of_ble_eq_true rfl) (t_X12_builds hu1) rfl rfl rfl ?_
  refine Go.blk zk_X12_placeOf [0, 0, 0, 0, 0] (z' := (12, [some (.ref m_p), some (.int i1), some (.int i2), some (.int i3), some (.int i3), none], [.int i2, .ref (m_a 13)], ([sMo m_p m_a m_d m_was m_kept m_read m_text m_typed u1.1 u1.2.1 u1.2.2.1 u1.2.2.2.1 u1.2.2.2.2.1 u1.2.2.2.2.2.1 u1.2.2.2.2.2.2.1 u1.2.2.2.2.2.2.2.1 u1.2.2.2.2.2.2.2.2.1 u1.2.2.2.2.2.2.2.2.2.1 u1.2.2.2.2.2.2.2.2.2.2.1 u1.2.2.2.2.2.2.2.2.2.2.2.1 u1.2.2.2.2.2.2.2.2.2.2.2.2 m_some m_field m_queue m_near m_open m_closed m_at m_begin m_sort m_lastQ m_lastR m_lastT m_readN] : List ZW).flatten)) rfl ⟨rfl, trivial⟩ ?_
  obtain ⟨x2, hx2, h⟩ := z_bind h
  refine Go.iald zk_X12_placeOf 14 rfl rfl rfl hx2 ?_
  refine Go.blk zk_X12_placeOf [0] (z' := (15, [some (.ref m_p), some (.int i1), some (.int i2), some (.int i3), some (.int i3), some (.int x2)], [], ([sMo m_p m_a m_d m_was m_kept m_read m_text m_typed u1.1 u1.2.1 u1.2.2.1 u1.2.2.2.1 u1.2.2.2.2.1 u1.2.2.2.2.2.1 u1.2.2.2.2.2.2.1 u1.2.2.2.2.2.2.2.1 u1.2.2.2.2.2.2.2.2.1 u1.2.2.2.2.2.2.2.2.2.1 u1.2.2.2.2.2.2.2.2.2.2.1 u1.2.2.2.2.2.2.2.2.2.2.2.1 u1.2.2.2.2.2.2.2.2.2.2.2.2 m_some m_field m_queue m_near m_open m_closed m_at m_begin m_sort m_lastQ m_lastR m_lastT m_readN] : List ZW).flatten)) rfl trivial ?_
  refine Go.weak (L := [some (.ref m_p), some (.int i1), some (.int i2), some (.int i3), some (.int i3), some (.int x2)]) (L' := [some (.ref m_p), some (.int i1), some (.int i2), none, some (.int i3), some (.int x2)]) (And.intro rfl (And.intro rfl (And.intro rfl (And.intro rfl (And.intro rfl (trivial)))))) ?_
  obtain ⟨o11, he10, h⟩ := z_bind h
  cases o11 with
  | inl e10 =>
    simp only [Sum.elim_inl] at h
    refine t_X12_placeOf_L15 N _ _ _ he10 (fun _ q => ?_) (fun _ q => nomatch q)
    obtain rfl := Sum.inl.inj q
    refine Go.blk zk_X12_placeOf [0] (z' := (60, [none, none, none, none, none, none], [.int (-1)], ([sMo m_p m_a m_d m_was m_kept m_read m_text m_typed u1.1 u1.2.1 u1.2.2.1 u1.2.2.2.1 u1.2.2.2.2.1 u1.2.2.2.2.2.1 u1.2.2.2.2.2.2.1 u1.2.2.2.2.2.2.2.1 u1.2.2.2.2.2.2.2.2.1 u1.2.2.2.2.2.2.2.2.2.1 u1.2.2.2.2.2.2.2.2.2.2.1 u1.2.2.2.2.2.2.2.2.2.2.2.1 u1.2.2.2.2.2.2.2.2.2.2.2.2 m_some m_field m_queue m_near m_open m_closed m_at m_begin m_sort m_lastQ m_lastR m_lastT m_readN] : List ZW).flatten)) rfl trivial ?_
    obtain rfl := Option.some.inj h
    exact Go.iret zk_X12_placeOf rfl rfl rfl ⟨rfl, rfl⟩
  | inr u12 =>
    simp only [Sum.elim_inr] at h
    obtain rfl := Option.some.inj h
    refine t_X12_placeOf_L15 N _ _ _ he10 (fun _ q => nomatch q) (fun _ q => ?_)
    obtain rfl := Sum.inr.inj q
    exact ⟨rfl, rfl⟩
set_option maxHeartbeats 4000000 in
set_option maxRecDepth 100000 in
theorem t_X12_records_L11 {N : Nat} {m_p : Nat} {m_a : Nat → Nat} {m_d : List Int32} {m_kept : Int32} {m_read : List Int32} {m_text : List Int32} {m_typed : Int32} {m_n : Int32} {m_q : List Int32} {m_r : List Int32} {m_t : List Int32} {m_heldQ : List Int32} {m_heldR : List Int32} {m_heldT : List Int32} {m_heldN : Int32} {m_image : List Int32} {m_built : Int32} {m_fixed : List Int64} {m_isFree : List Int32} {m_from : List Int32} {m_some : List Int64} {m_field : List Int32} {m_queue : List Int32} {m_near : List Int32} {m_open : List Int32} {m_closed : List Int32} {m_at : Int32} {m_begin : Int32} {m_sort : Int32} {m_lastQ : Int32} {m_lastR : Int32} {m_lastT : Int32} {m_readN : Int32}  {Q : Option Value → ZW → Prop} : ∀ (fu : Nat) (v1 : Int32) (m_was : List Int32) (e : (List Int32)), f_X12_records_L11 N  fu v1 m_was = some e → (Go l D r (z_rl xs) zm_X12_records 0 0 (38, [some (.ref m_p), none], [], ([sMo m_p m_a m_d e m_kept m_read m_text m_typed m_n m_q m_r m_t m_heldQ m_heldR m_heldT m_heldN m_image m_built m_fixed m_isFree m_from m_some m_field m_queue m_near m_open m_closed m_at m_begin m_sort m_lastQ m_lastR m_lastT m_readN] : List ZW).flatten) Q) → Go l D r (z_rl xs) zm_X12_records 0 0 (11, [some (.ref m_p), some (.int v1)], [], ([sMo m_p m_a m_d m_was m_kept m_read m_text m_typed m_n m_q m_r m_t m_heldQ m_heldR m_heldT m_heldN m_image m_built m_fixed m_isFree m_from m_some m_field m_queue m_near m_open m_closed m_at m_begin m_sort m_lastQ m_lastR m_lastT m_readN] : List ZW).flatten) Q := by
  intro fu
  induction fu with
  | zero =>
    intro v1 m_was e h
    simp only [f_X12_records_L11, reduceCtorEq] at h
  | succ fu ih =>
    intro v1 m_was e h kk
    rw [f_X12_records_L11] at h
    refine Go.blk zk_X12_records [0, 0] (z' := (14, [some (.ref m_p), some (.int v1)], [.int 70, .int v1], ([sMo m_p m_a m_d m_was m_kept m_read m_text m_typed m_n m_q m_r m_t m_heldQ m_heldR m_heldT m_heldN m_image m_built m_fixed m_isFree m_from m_some m_field m_queue m_near m_open m_closed m_at m_begin m_sort m_lastQ m_lastR m_lastT m_readN] : List ZW).flatten)) rfl trivial ?_
    by_cases hc2 : v1 < 70
    · rw [if_pos hc2] at h
      refine Go.br zk_X12_records rfl rfl (fun _ => ?_) (fun q => absurd hc2 q)
      refine Go.blk zk_X12_records [0, 0, 0, 0, 0, 0, 0, 0] (z' := (30, [some (.ref m_p), some (.int v1)], [.int (v1 + 14), .ref (m_a 1), .int v1, .ref (m_a 1)], ([sMo m_p m_a m_d m_was m_kept m_read m_text m_typed m_n m_q m_r m_t m_heldQ m_heldR m_heldT m_heldN m_image m_built m_fixed m_isFree m_from m_some m_field m_queue m_near m_open m_closed m_at m_begin m_sort m_lastQ m_lastR m_lastT m_readN] : List ZW).flatten)) rfl ⟨rfl, rfl, trivial⟩ ?_
      obtain ⟨x3, hx3, h⟩ := z_bind h
      refine Go.iald zk_X12_records 2 rfl rfl rfl hx3 ?_
      obtain ⟨t4, ht4, h⟩ := z_bind h
      refine Go.iast zk_X12_records 2 rfl rfl rfl ht4 ?_
      refine Go.eqz (z2 := (32, [some (.ref m_p), some (.int v1)], [], ([sMo m_p m_a m_d t4 m_kept m_read m_text m_typed m_n m_q m_r m_t m_heldQ m_heldR m_heldT m_heldN m_image m_built m_fixed m_isFree m_from m_some m_field m_queue m_near m_open m_closed m_at m_begin m_sort m_lastQ m_lastR m_lastT m_readN] : List ZW).flatten)) rfl ?_
      refine Go.blk zk_X12_records [0, 0] (z' := (11, [some (.ref m_p), some (.int (v1 + 1))], [], ([sMo m_p m_a m_d t4 m_kept m_read m_text m_typed m_n m_q m_r m_t m_heldQ m_heldR m_heldT m_heldN m_image m_built m_fixed m_isFree m_from m_some m_field m_queue m_near m_open m_closed m_at m_begin m_sort m_lastQ m_lastR m_lastT m_readN] : List ZW).flatten)) rfl trivial ?_
      exact ih _ _ _ h kk
    · rw [if_neg hc2] at h
      refine Go.br zk_X12_records rfl rfl (fun q => absurd q hc2) (fun _ => ?_)
      obtain rfl := Option.some.inj h
      refine Go.weak (L := [some (.ref m_p), some (.int v1)]) (L' := [some (.ref m_p), none]) (And.intro rfl (trivial)) ?_
      exact kk
set_option maxHeartbeats 4000000 in
set_option maxRecDepth 100000 in
theorem t_X12_records_L50 {N : Nat} {m_p : Nat} {m_a : Nat → Nat} {m_d : List Int32} {m_kept : Int32} {m_read : List Int32} {m_text : List Int32} {m_typed : Int32} {m_n : Int32} {m_q : List Int32} {m_r : List Int32} {m_t : List Int32} {m_heldQ : List Int32} {m_heldR : List Int32} {m_heldT : List Int32} {m_heldN : Int32} {m_image : List Int32} {m_built : Int32} {m_fixed : List Int64} {m_isFree : List Int32} {m_from : List Int32} {m_some : List Int64} {m_field : List Int32} {m_queue : List Int32} {m_near : List Int32} {m_open : List Int32} {m_closed : List Int32} {m_at : Int32} {m_begin : Int32} {m_sort : Int32} {m_lastQ : Int32} {m_lastR : Int32} {m_lastT : Int32} {m_readN : Int32}  {Q : Option Value → ZW → Prop} : ∀ (fu : Nat) (v1 : Int32) (m_was : List Int32) (e : (List Int32)), f_X12_records_L50 N m_d m_kept fu v1 m_was = some e → (Go l D r (z_rl xs) zm_X12_records 0 0 (82, [some (.ref m_p), none], [], ([sMo m_p m_a m_d e m_kept m_read m_text m_typed m_n m_q m_r m_t m_heldQ m_heldR m_heldT m_heldN m_image m_built m_fixed m_isFree m_from m_some m_field m_queue m_near m_open m_closed m_at m_begin m_sort m_lastQ m_lastR m_lastT m_readN] : List ZW).flatten) Q) → Go l D r (z_rl xs) zm_X12_records 0 0 (50, [some (.ref m_p), some (.int v1)], [], ([sMo m_p m_a m_d m_was m_kept m_read m_text m_typed m_n m_q m_r m_t m_heldQ m_heldR m_heldT m_heldN m_image m_built m_fixed m_isFree m_from m_some m_field m_queue m_near m_open m_closed m_at m_begin m_sort m_lastQ m_lastR m_lastT m_readN] : List ZW).flatten) Q := by
  intro fu
  induction fu with
  | zero =>
    intro v1 m_was e h
    simp only [f_X12_records_L50, reduceCtorEq] at h
  | succ fu ih =>
    intro v1 m_was e h kk
    rw [f_X12_records_L50] at h
    refine Go.blk zk_X12_records [0, 0] (z' := (53, [some (.ref m_p), some (.int v1)], [.int 14, .int v1], ([sMo m_p m_a m_d m_was m_kept m_read m_text m_typed m_n m_q m_r m_t m_heldQ m_heldR m_heldT m_heldN m_image m_built m_fixed m_isFree m_from m_some m_field m_queue m_near m_open m_closed m_at m_begin m_sort m_lastQ m_lastR m_lastT m_readN] : List ZW).flatten)) rfl trivial ?_
    by_cases hc6 : v1 < 14
    · rw [if_pos hc6] at h
      refine Go.br zk_X12_records rfl rfl (fun _ => ?_) (fun q => absurd hc6 q)
      refine Go.blk zk_X12_records [0, 0, 0, 0, 0, 0, 0, 0, 0, 0, 0] (z' := (74, [some (.ref m_p), some (.int v1)], [.int v1, .ref (m_a 0), .int ((14 * m_kept) + v1), .ref (m_a 1)], ([sMo m_p m_a m_d m_was m_kept m_read m_text m_typed m_n m_q m_r m_t m_heldQ m_heldR m_heldT m_heldN m_image m_built m_fixed m_isFree m_from m_some m_field m_queue m_near m_open m_closed m_at m_begin m_sort m_lastQ m_lastR m_lastT m_readN] : List ZW).flatten)) rfl ⟨rfl, rfl, rfl, trivial⟩ ?_
      obtain ⟨x7, hx7, h⟩ := z_bind h
      refine Go.iald zk_X12_records 1 rfl rfl rfl hx7 ?_
      obtain ⟨t8, ht8, h⟩ := z_bind h
      refine Go.iast zk_X12_records 2 rfl rfl rfl ht8 ?_
      refine Go.eqz (z2 := (76, [some (.ref m_p), some (.int v1)], [], ([sMo m_p m_a m_d t8 m_kept m_read m_text m_typed m_n m_q m_r m_t m_heldQ m_heldR m_heldT m_heldN m_image m_built m_fixed m_isFree m_from m_some m_field m_queue m_near m_open m_closed m_at m_begin m_sort m_lastQ m_lastR m_lastT m_readN] : List ZW).flatten)) rfl ?_
      refine Go.blk zk_X12_records [0, 0] (z' := (50, [some (.ref m_p), some (.int (v1 + 1))], [], ([sMo m_p m_a m_d t8 m_kept m_read m_text m_typed m_n m_q m_r m_t m_heldQ m_heldR m_heldT m_heldN m_image m_built m_fixed m_isFree m_from m_some m_field m_queue m_near m_open m_closed m_at m_begin m_sort m_lastQ m_lastR m_lastT m_readN] : List ZW).flatten)) rfl trivial ?_
      exact ih _ _ _ h kk
    · rw [if_neg hc6] at h
      refine Go.br zk_X12_records rfl rfl (fun q => absurd q hc6) (fun _ => ?_)
      obtain rfl := Option.some.inj h
      refine Go.weak (L := [some (.ref m_p), some (.int v1)]) (L' := [some (.ref m_p), none]) (And.intro rfl (trivial)) ?_
      exact kk
set_option maxHeartbeats 4000000 in
set_option maxRecDepth 100000 in
theorem t_X12_records {N : Nat} {m_p : Nat} {m_a : Nat → Nat} {m_d : List Int32} {m_was : List Int32} {m_kept : Int32} {m_read : List Int32} {m_text : List Int32} {m_typed : Int32} {m_n : Int32} {m_q : List Int32} {m_r : List Int32} {m_t : List Int32} {m_heldQ : List Int32} {m_heldR : List Int32} {m_heldT : List Int32} {m_heldN : Int32} {m_image : List Int32} {m_built : Int32} {m_fixed : List Int64} {m_isFree : List Int32} {m_from : List Int32} {m_some : List Int64} {m_field : List Int32} {m_queue : List Int32} {m_near : List Int32} {m_open : List Int32} {m_closed : List Int32} {m_at : Int32} {m_begin : Int32} {m_sort : Int32} {m_lastQ : Int32} {m_lastR : Int32} {m_lastT : Int32} {m_readN : Int32} {u : (List Int32) × Int32}  (h : f_X12_records N m_d m_was m_kept = some u) : Ct l D r (z_rl xs) zm_X12_records 0 0 [.ref m_p] ([sMo m_p m_a m_d m_was m_kept m_read m_text m_typed m_n m_q m_r m_t m_heldQ m_heldR m_heldT m_heldN m_image m_built m_fixed m_isFree m_from m_some m_field m_queue m_near m_open m_closed m_at m_begin m_sort m_lastQ m_lastR m_lastT m_readN] : List ZW).flatten (fun v' w' => v' = none ∧ w' = ([sMo m_p m_a m_d u.1 u.2 m_read m_text m_typed m_n m_q m_r m_t m_heldQ m_heldR m_heldT m_heldN m_image m_built m_fixed m_isFree m_from m_some m_field m_queue m_near m_open m_closed m_at m_begin m_sort m_lastQ m_lastR m_lastT m_readN] : List ZW).flatten) := by
  refine Ct.of (by decide +kernel) rfl (fun q => absurd q (by decide)) (Nat.le_of_ble_eq_true rfl) ?_
  refine Go.eqz (z2 := (0, [some (.ref m_p), none], [], ([sMo m_p m_a m_d m_was m_kept m_read m_text m_typed m_n m_q m_r m_t m_heldQ m_heldR m_heldT m_heldN m_image m_built m_fixed m_isFree m_from m_some m_field m_queue m_near m_open m_closed m_at m_begin m_sort m_lastQ m_lastR m_lastT m_readN] : List ZW).flatten)) rfl ?_
  unfold f_X12_records at h
  refine Go.blk zk_X12_records [0, 0, 0] (z' := (6, [some (.ref m_p), none], [.int 6, .int m_kept], ([sMo m_p m_a m_d m_was m_kept m_read m_text m_typed m_n m_q m_r m_t m_heldQ m_heldR m_heldT m_heldN m_image m_built m_fixed m_isFree m_from m_some m_field m_queue m_near m_open m_closed m_at m_begin m_sort m_lastQ m_lastR m_lastT m_readN] : List ZW).flatten)) rfl ⟨rfl, trivial⟩ ?_
  by_cases hc1 : m_kept = 6
  · rw [if_pos hc1] at h
    refine Go.br zk_X12_records rfl rfl (fun _ => ?_) (fun q => absurd hc1 q)
    refine Go.blk zk_X12_records [0, 0] (z' := (11, [some (.ref m_p), some (.int 0)], [], ([sMo m_p m_a m_d m_was m_kept m_read m_text m_typed m_n m_q m_r m_t m_heldQ m_heldR m_heldT m_heldN m_image m_built m_fixed m_isFree m_from m_some m_field m_queue m_near m_open m_closed m_at m_begin m_sort m_lastQ m_lastR m_lastT m_readN] : List ZW).flatten)) rfl trivial ?_
    obtain ⟨e5, he5, h⟩ := z_bind h
    refine t_X12_records_L11 N _ _ _ he5 ?_
    refine Go.blk zk_X12_records [0, 0, 0, 0, 0] (z' := (45, [some (.ref m_p), none], [.int (m_kept - 1), .ref m_p], ([sMo m_p m_a m_d e5 m_kept m_read m_text m_typed m_n m_q m_r m_t m_heldQ m_heldR m_heldT m_heldN m_image m_built m_fixed m_isFree m_from m_some m_field m_queue m_near m_open m_closed m_at m_begin m_sort m_lastQ m_lastR m_lastT m_readN] : List ZW).flatten)) rfl ⟨rfl, trivial⟩ ?_
    refine Go.put zk_X12_records 0 rfl rfl rfl rfl rfl (Nat.le_of_ble_eq_true rfl) ?_
    refine Go.eqz (z2 := (48, [some (.ref m_p), none], [], ([sMo m_p m_a m_d e5 (m_kept - 1) m_read m_text m_typed m_n m_q m_r m_t m_heldQ m_heldR m_heldT m_heldN m_image m_built m_fixed m_isFree m_from m_some m_field m_queue m_near m_open m_closed m_at m_begin m_sort m_lastQ m_lastR m_lastT m_readN] : List ZW).flatten)) rfl ?_
    refine Go.blk zk_X12_records [0, 0] (z' := (50, [some (.ref m_p), some (.int 0)], [], ([sMo m_p m_a m_d e5 (m_kept - 1) m_read m_text m_typed m_n m_q m_r m_t m_heldQ m_heldR m_heldT m_heldN m_image m_built m_fixed m_isFree m_from m_some m_field m_queue m_near m_open m_closed m_at m_begin m_sort m_lastQ m_lastR m_lastT m_readN] : List ZW).flatten)) rfl trivial ?_
    obtain ⟨e9, he9, h⟩ := z_bind h
    refine t_X12_records_L50 N _ _ _ he9 ?_
    refine Go.blk zk_X12_records [0, 0, 0, 0, 0] (z' := (89, [some (.ref m_p), none], [.int ((m_kept - 1) + 1), .ref m_p], ([sMo m_p m_a m_d e9 (m_kept - 1) m_read m_text m_typed m_n m_q m_r m_t m_heldQ m_heldR m_heldT m_heldN m_image m_built m_fixed m_isFree m_from m_some m_field m_queue m_near m_open m_closed m_at m_begin m_sort m_lastQ m_lastR m_lastT m_readN] : List ZW).flatten)) rfl ⟨rfl, trivial⟩ ?_
    refine Go.put zk_X12_records 0 rfl rfl rfl rfl rfl (Nat.le_of_ble_eq_true rfl) ?_
    refine Go.eqz (z2 := (92, [some (.ref m_p), none], [], ([sMo m_p m_a m_d e9 ((m_kept - 1) + 1) m_read m_text m_typed m_n m_q m_r m_t m_heldQ m_heldR m_heldT m_heldN m_image m_built m_fixed m_isFree m_from m_some m_field m_queue m_near m_open m_closed m_at m_begin m_sort m_lastQ m_lastR m_lastT m_readN] : List ZW).flatten)) rfl ?_
    obtain rfl := Option.some.inj h
    exact Go.vret zk_X12_records rfl rfl ⟨rfl, rfl⟩
  · rw [if_neg hc1] at h
    refine Go.br zk_X12_records rfl rfl (fun q => absurd q hc1) (fun _ => ?_)
    refine Go.blk zk_X12_records [0, 0] (z' := (50, [some (.ref m_p), some (.int 0)], [], ([sMo m_p m_a m_d m_was m_kept m_read m_text m_typed m_n m_q m_r m_t m_heldQ m_heldR m_heldT m_heldN m_image m_built m_fixed m_isFree m_from m_some m_field m_queue m_near m_open m_closed m_at m_begin m_sort m_lastQ m_lastR m_lastT m_readN] : List ZW).flatten)) rfl trivial ?_
    obtain ⟨e10, he10, h⟩ := z_bind h
    refine t_X12_records_L50 N _ _ _ he10 ?_
    refine Go.blk zk_X12_records [0, 0, 0, 0, 0] (z' := (89, [some (.ref m_p), none], [.int (m_kept + 1), .ref m_p], ([sMo m_p m_a m_d e10 m_kept m_read m_text m_typed m_n m_q m_r m_t m_heldQ m_heldR m_heldT m_heldN m_image m_built m_fixed m_isFree m_from m_some m_field m_queue m_near m_open m_closed m_at m_begin m_sort m_lastQ m_lastR m_lastT m_readN] : List ZW).flatten)) rfl ⟨rfl, trivial⟩ ?_
    refine Go.put zk_X12_records 0 rfl rfl rfl rfl rfl (Nat.le_of_ble_eq_true rfl) ?_
    refine Go.eqz (z2 := (92, [some (.ref m_p), none], [], ([sMo m_p m_a m_d e10 (m_kept + 1) m_read m_text m_typed m_n m_q m_r m_t m_heldQ m_heldR m_heldT m_heldN m_image m_built m_fixed m_isFree m_from m_some m_field m_queue m_near m_open m_closed m_at m_begin m_sort m_lastQ m_lastR m_lastT m_readN] : List ZW).flatten)) rfl ?_
    obtain rfl := Option.some.inj h
    exact Go.vret zk_X12_records rfl rfl ⟨rfl, rfl⟩
set_option maxHeartbeats 4000000 in
set_option maxRecDepth 100000 in
theorem t_X12_lays_L12 {N : Nat} {m_p : Nat} {m_a : Nat → Nat} {m_was : List Int32} {m_kept : Int32} {m_read : List Int32} {m_text : List Int32} {m_typed : Int32} {m_n : Int32} {m_q : List Int32} {m_r : List Int32} {m_t : List Int32} {m_heldQ : List Int32} {m_heldR : List Int32} {m_heldT : List Int32} {m_heldN : Int32} {m_image : List Int32} {m_built : Int32} {m_fixed : List Int64} {m_isFree : List Int32} {m_from : List Int32} {m_some : List Int64} {m_field : List Int32} {m_queue : List Int32} {m_near : List Int32} {m_open : List Int32} {m_closed : List Int32} {m_at : Int32} {m_begin : Int32} {m_sort : Int32} {m_lastQ : Int32} {m_lastR : Int32} {m_lastT : Int32} {m_readN : Int32}  {Q : Option Value → ZW → Prop} : ∀ (fu : Nat) (v1 : Int32) (m_d : List Int32) (e : (List Int32)), f_X12_lays_L12 N m_n m_q m_r m_t fu v1 m_d = some e → (Go l D r (z_rl xs) zm_X12_lays 0 0 (39, [none, none], [], ([sMo m_p m_a e m_was m_kept m_read m_text m_typed m_n m_q m_r m_t m_heldQ m_heldR m_heldT m_heldN m_image m_built m_fixed m_isFree m_from m_some m_field m_queue m_near m_open m_closed m_at m_begin m_sort m_lastQ m_lastR m_lastT m_readN] : List ZW).flatten) Q) → Go l D r (z_rl xs) zm_X12_lays 0 0 (12, [some (.ref m_p), some (.int v1)], [], ([sMo m_p m_a m_d m_was m_kept m_read m_text m_typed m_n m_q m_r m_t m_heldQ m_heldR m_heldT m_heldN m_image m_built m_fixed m_isFree m_from m_some m_field m_queue m_near m_open m_closed m_at m_begin m_sort m_lastQ m_lastR m_lastT m_readN] : List ZW).flatten) Q := by
  intro fu
  induction fu with
  | zero =>
    intro v1 m_d e h
    simp only [f_X12_lays_L12, reduceCtorEq] at h
  | succ fu ih =>
    intro v1 m_d e h kk
    rw [f_X12_lays_L12] at h
    refine Go.blk zk_X12_lays [0, 0, 0] (z' := (17, [some (.ref m_p), some (.int v1)], [.int m_n, .int v1], ([sMo m_p m_a m_d m_was m_kept m_read m_text m_typed m_n m_q m_r m_t m_heldQ m_heldR m_heldT m_heldN m_image m_built m_fixed m_isFree m_from m_some m_field m_queue m_near m_open m_closed m_at m_begin m_sort m_lastQ m_lastR m_lastT m_readN] : List ZW).flatten)) rfl ⟨rfl, trivial⟩ ?_
    by_cases hc2 : v1 < m_n
    · rw [if_pos hc2] at h
      refine Go.br zk_X12_lays rfl rfl (fun _ => ?_) (fun q => absurd hc2 q)
      refine Go.blk zk_X12_lays [0, 0, 0, 0, 0, 0, 0] (z' := (29, [some (.ref m_p), some (.int v1)], [.int v1, .ref m_p, .int (2 + v1), .ref (m_a 0)], ([sMo m_p m_a m_d m_was m_kept m_read m_text m_typed m_n m_q m_r m_t m_heldQ m_heldR m_heldT m_heldN m_image m_built m_fixed m_isFree m_from m_some m_field m_queue m_near m_open m_closed m_at m_begin m_sort m_lastQ m_lastR m_lastT m_readN] : List ZW).flatten)) rfl ⟨rfl, trivial⟩ ?_
      obtain ⟨u3, hu3, h⟩ := z_bind h
      refine Go.vs zk_X12_lays zm_X12_keyOf [0] [] 0 12 1 (S := [sMo m_p m_a m_d m_was m_kept m_read m_text m_typed m_n m_q m_r m_t m_heldQ m_heldR m_heldT m_heldN m_image m_built m_fixed m_isFree m_from m_some m_field m_queue m_near m_open m_closed m_at m_begin m_sort m_lastQ m_lastR m_lastT m_readN]) (S2 := [sMo m_p m_a m_d m_was m_kept m_read m_text m_typed m_n m_q m_r m_t m_heldQ m_heldR m_heldT m_heldN m_image m_built m_fixed m_isFree m_from m_some m_field m_queue m_near m_open m_closed m_at m_begin m_sort m_lastQ m_lastR m_lastT m_readN]) (As := [.int v1]) (rest := [.int (2 + v1), .ref (m_a 0)]) (st2 := [.int u3, .int (2 + v1), .ref (m_a 0)]) (v1 := some (.int u3)) rfl zl_X12_111 zv_X12_keyOf ⟨Nat.le_of_ble_eq_true rfl, Nat.le_of_ble_eq_true rfl⟩ rfl (by decide) rfl rfl rfl rfl rfl (Nat.le_of_ble_eq_true rfl) (t_X12_keyOf hu3) rfl rfl rfl ?_
      obtain ⟨t4, ht4, h⟩ := z_bind h
      refine Go.iast zk_X12_lays 1 rfl rfl rfl ht4 ?_
      refine Go.eqz (z2 := (33, [some (.ref m_p), some (.int v1)], [], ([sMo m_p m_a t4 m_was m_kept m_read m_text m_typed m_n m_q m_r m_t m_heldQ m_heldR m_heldT m_heldN m_image m_built m_fixed m_isFree m_from m_some m_field m_queue m_near m_open m_closed m_at m_begin m_sort m_lastQ m_lastR m_lastT m_readN] : List ZW).flatten)) rfl ?_
      refine Go.blk zk_X12_lays [0, 0] (z' := (12, [some (.ref m_p), some (.int (v1 + 1))], [], ([sMo m_p m_a t4 m_was m_kept m_read m_text m_typed m_n m_q m_r m_t m_heldQ m_heldR m_heldT m_heldN m_image m_built m_fixed m_isFree m_from m_some m_field m_queue m_near m_open m_closed m_at m_begin m_sort m_lastQ m_lastR m_lastT m_readN] : List ZW).flatten)) rfl trivial ?_
      exact ih _ _ _ h kk
    · rw [if_neg hc2] at h
      refine Go.br zk_X12_lays rfl rfl (fun q => absurd q hc2) (fun _ => ?_)
      obtain rfl := Option.some.inj h
      refine Go.weak (L := [some (.ref m_p), some (.int v1)]) (L' := [none, none]) (trivial) ?_
      exact kk
set_option maxHeartbeats 4000000 in
set_option maxRecDepth 100000 in
theorem t_X12_lays {N : Nat} {m_p : Nat} {m_a : Nat → Nat} {m_d : List Int32} {m_was : List Int32} {m_kept : Int32} {m_read : List Int32} {m_text : List Int32} {m_typed : Int32} {m_n : Int32} {m_q : List Int32} {m_r : List Int32} {m_t : List Int32} {m_heldQ : List Int32} {m_heldR : List Int32} {m_heldT : List Int32} {m_heldN : Int32} {m_image : List Int32} {m_built : Int32} {m_fixed : List Int64} {m_isFree : List Int32} {m_from : List Int32} {m_some : List Int64} {m_field : List Int32} {m_queue : List Int32} {m_near : List Int32} {m_open : List Int32} {m_closed : List Int32} {m_at : Int32} {m_begin : Int32} {m_sort : Int32} {m_lastQ : Int32} {m_lastR : Int32} {m_lastT : Int32} {m_readN : Int32} {u : (List Int32)}  (h : f_X12_lays N m_d m_n m_q m_r m_t = some u) : Ct l D r (z_rl xs) zm_X12_lays 0 0 [.ref m_p] ([sMo m_p m_a m_d m_was m_kept m_read m_text m_typed m_n m_q m_r m_t m_heldQ m_heldR m_heldT m_heldN m_image m_built m_fixed m_isFree m_from m_some m_field m_queue m_near m_open m_closed m_at m_begin m_sort m_lastQ m_lastR m_lastT m_readN] : List ZW).flatten (fun v' w' => v' = none ∧ w' = ([sMo m_p m_a u m_was m_kept m_read m_text m_typed m_n m_q m_r m_t m_heldQ m_heldR m_heldT m_heldN m_image m_built m_fixed m_isFree m_from m_some m_field m_queue m_near m_open m_closed m_at m_begin m_sort m_lastQ m_lastR m_lastT m_readN] : List ZW).flatten) := by
  refine Ct.of (by decide +kernel) rfl (fun q => absurd q (by decide)) (Nat.le_of_ble_eq_true rfl) ?_
  refine Go.eqz (z2 := (0, [some (.ref m_p), none], [], ([sMo m_p m_a m_d m_was m_kept m_read m_text m_typed m_n m_q m_r m_t m_heldQ m_heldR m_heldT m_heldN m_image m_built m_fixed m_isFree m_from m_some m_field m_queue m_near m_open m_closed m_at m_begin m_sort m_lastQ m_lastR m_lastT m_readN] : List ZW).flatten)) rfl ?_
  unfold f_X12_lays at h
  refine Go.blk zk_X12_lays [0, 0, 0, 0, 0] (z' := (9, [some (.ref m_p), none], [.int m_n, .int 1, .ref (m_a 0)], ([sMo m_p m_a m_d m_was m_kept m_read m_text m_typed m_n m_q m_r m_t m_heldQ m_heldR m_heldT m_heldN m_image m_built m_fixed m_isFree m_from m_some m_field m_queue m_near m_open m_closed m_at m_begin m_sort m_lastQ m_lastR m_lastT m_readN] : List ZW).flatten)) rfl ⟨rfl, rfl, trivial⟩ ?_
  obtain ⟨t1, ht1, h⟩ := z_bind h
  refine Go.iast zk_X12_lays 1 rfl rfl rfl ht1 ?_
  refine Go.eqz (z2 := (10, [some (.ref m_p), none], [], ([sMo m_p m_a t1 m_was m_kept m_read m_text m_typed m_n m_q m_r m_t m_heldQ m_heldR m_heldT m_heldN m_image m_built m_fixed m_isFree m_from m_some m_field m_queue m_near m_open m_closed m_at m_begin m_sort m_lastQ m_lastR m_lastT m_readN] : List ZW).flatten)) rfl ?_
  refine Go.blk zk_X12_lays [0, 0] (z' := (12, [some (.ref m_p), some (.int 0)], [], ([sMo m_p m_a t1 m_was m_kept m_read m_text m_typed m_n m_q m_r m_t m_heldQ m_heldR m_heldT m_heldN m_image m_built m_fixed m_isFree m_from m_some m_field m_queue m_near m_open m_closed m_at m_begin m_sort m_lastQ m_lastR m_lastT m_readN] : List ZW).flatten)) rfl trivial ?_
  obtain ⟨e5, he5, h⟩ := z_bind h
  refine t_X12_lays_L12 N _ _ _ he5 ?_
  obtain rfl := Option.some.inj h
  exact Go.vret zk_X12_lays rfl rfl ⟨rfl, rfl⟩
set_option maxHeartbeats 4000000 in
set_option maxRecDepth 100000 in
theorem t_X12_setLattice {N : Nat} {m_p : Nat} {m_a : Nat → Nat} {m_d : List Int32} {m_was : List Int32} {m_kept : Int32} {m_read : List Int32} {m_text : List Int32} {m_typed : Int32} {m_n : Int32} {m_q : List Int32} {m_r : List Int32} {m_t : List Int32} {m_heldQ : List Int32} {m_heldR : List Int32} {m_heldT : List Int32} {m_heldN : Int32} {m_image : List Int32} {m_built : Int32} {m_fixed : List Int64} {m_isFree : List Int32} {m_from : List Int32} {m_some : List Int64} {m_field : List Int32} {m_queue : List Int32} {m_near : List Int32} {m_open : List Int32} {m_closed : List Int32} {m_at : Int32} {m_begin : Int32} {m_sort : Int32} {m_lastQ : Int32} {m_lastR : Int32} {m_lastT : Int32} {m_readN : Int32} {i1 : Int32} {u : Int32 × (List Int32) × (List Int32) × Int32}  (h : f_X12_setLattice N i1 m_d m_was m_kept = some u) : Ct l D r (z_rl xs) zm_X12_setLattice 0 0 [.ref m_p, .int i1] ([sMo m_p m_a m_d m_was m_kept m_read m_text m_typed m_n m_q m_r m_t m_heldQ m_heldR m_heldT m_heldN m_image m_built m_fixed m_isFree m_from m_some m_field m_queue m_near m_open m_closed m_at m_begin m_sort m_lastQ m_lastR m_lastT m_readN] : List ZW).flatten (fun v' w' => v' = some (.int u.1) ∧ w' = ([sMo m_p m_a u.2.1 u.2.2.1 u.2.2.2 m_read m_text m_typed m_n m_q m_r m_t m_heldQ m_heldR m_heldT m_heldN m_image m_built m_fixed m_isFree m_from m_some m_field m_queue m_near m_open m_closed m_at m_begin m_sort m_lastQ m_lastR m_lastT m_readN] : List ZW).flatten) := by
  refine Ct.of (by decide +kernel) rfl (fun q => absurd q (by decide)) (Nat.le_of_ble_eq_true rfl) ?_
  refine Go.eqz (z2 := (0, [some (.ref m_p), some (.int i1), none], [], ([sMo m_p m_a m_d m_was m_kept m_read m_text m_typed m_n m_q m_r m_t m_heldQ m_heldR m_heldT m_heldN m_image m_built m_fixed m_isFree m_from m_some m_field m_queue m_near m_open m_closed m_at m_begin m_sort m_lastQ m_lastR m_lastT m_readN] : List ZW).flatten)) rfl ?_
  unfold f_X12_setLattice at h
  refine Go.blk zk_X12_setLattice [0, 0, 0] (z' := (3, [some (.ref m_p), some (.int i1), none], [.int 2, .int 0, .int i1], ([sMo m_p m_a m_d m_was m_kept m_read m_text m_typed m_n m_q m_r m_t m_heldQ m_heldR m_heldT m_heldN m_image m_built m_fixed m_isFree m_from m_some m_field m_queue m_near m_open m_closed m_at m_begin m_sort m_lastQ m_lastR m_lastT m_readN] : List ZW).flatten)) rfl trivial ?_
  obtain ⟨u1, hu1, h⟩ := z_bind h
  refine Go.ss zk_X12_setLattice zm_X12_in [] [0] 1 (S := [sMo m_p m_a m_d m_was m_kept m_read m_text m_typed m_n m_q m_r m_t m_heldQ m_heldR m_heldT m_heldN m_image m_built m_fixed m_isFree m_from m_some m_field m_queue m_near m_open m_closed m_at m_begin m_sort m_lastQ m_lastR m_lastT m_readN]) (S2 := [sMo m_p m_a m_d m_was m_kept m_read m_text m_typed m_n m_q m_r m_t m_heldQ m_heldR m_heldT m_heldN m_image m_built m_fixed m_isFree m_from m_some m_field m_queue m_near m_open m_closed m_at m_begin m_sort m_lastQ m_lastR m_lastT m_readN]) (As := [.int i1, .int 0, .int 2]) (rest := []) (st2 := [.int u1]) (v1 := some (.int u1)) rfl zl_X12_184 zs_X12_in ⟨Nat.le_of_ble_eq_true rfl, Nat.le_of_ble_eq_true rfl⟩ rfl (by decide) rfl rfl (Nat.le_of_ble_eq_true rfl) (t_X12_in hu1) rfl rfl rfl ?_
  by_cases hc2 : u1 = 0
  · rw [if_pos hc2] at h
    refine Go.br zk_X12_setLattice rfl rfl (fun _ => ?_) (fun q => absurd hc2 q)
    refine Go.blk zk_X12_setLattice [0] (z' := (10, [some (.ref m_p), some (.int i1), none], [.int (-1)], ([sMo m_p m_a m_d m_was m_kept m_read m_text m_typed m_n m_q m_r m_t m_heldQ m_heldR m_heldT m_heldN m_image m_built m_fixed m_isFree m_from m_some m_field m_queue m_near m_open m_closed m_at m_begin m_sort m_lastQ m_lastR m_lastT m_readN] : List ZW).flatten)) rfl trivial ?_
    obtain rfl := Option.some.inj h
    exact Go.iret zk_X12_setLattice rfl rfl rfl ⟨rfl, rfl⟩
  · rw [if_neg hc2] at h
    refine Go.br zk_X12_setLattice rfl rfl (fun q => absurd q hc2) (fun _ => ?_)
    refine Go.blk zk_X12_setLattice [0] (z' := (12, [some (.ref m_p), some (.int i1), none], [.ref m_p], ([sMo m_p m_a m_d m_was m_kept m_read m_text m_typed m_n m_q m_r m_t m_heldQ m_heldR m_heldT m_heldN m_image m_built m_fixed m_isFree m_from m_some m_field m_queue m_near m_open m_closed m_at m_begin m_sort m_lastQ m_lastR m_lastT m_readN] : List ZW).flatten)) rfl trivial ?_
    obtain ⟨u3, hu3, h⟩ := z_bind h
    refine Go.vs zk_X12_setLattice zm_X12_records [0] [] 0 12 1 (S := [sMo m_p m_a m_d m_was m_kept m_read m_text m_typed m_n m_q m_r m_t m_heldQ m_heldR m_heldT m_heldN m_image m_built m_fixed m_isFree m_from m_some m_field m_queue m_near m_open m_closed m_at m_begin m_sort m_lastQ m_lastR m_lastT m_readN]) (S2 := [sMo m_p m_a m_d u3.1 u3.2 m_read m_text m_typed m_n m_q m_r m_t m_heldQ m_heldR m_heldT m_heldN m_image m_built m_fixed m_isFree m_from m_some m_field m_queue m_near m_open m_closed m_at m_begin m_sort m_lastQ m_lastR m_lastT m_readN]) (As := []) (rest := []) (st2 := []) (v1 := none) rfl zl_X12_188 zv_X12_records ⟨Nat.le_of_ble_eq_true rfl, Nat.le_of_ble_eq_true rfl⟩ rfl (by decide) rfl rfl rfl rfl rfl (Nat.le_of_ble_eq_true rfl) (t_X12_records hu3) rfl rfl rfl ?_
    refine Go.blk zk_X12_setLattice [0, 0, 0] (z' := (20, [some (.ref m_p), some (.int i1), none], [.int 0, .ref (m_a 0)], ([sMo m_p m_a m_d u3.1 u3.2 m_read m_text m_typed m_n m_q m_r m_t m_heldQ m_heldR m_heldT m_heldN m_image m_built m_fixed m_isFree m_from m_some m_field m_queue m_near m_open m_closed m_at m_begin m_sort m_lastQ m_lastR m_lastT m_readN] : List ZW).flatten)) rfl ⟨rfl, trivial⟩ ?_
    obtain ⟨x4, hx4, h⟩ := z_bind h
    refine Go.iald zk_X12_setLattice 1 rfl rfl rfl hx4 ?_
    refine Go.blk zk_X12_setLattice [0, 0, 0, 0, 0] (z' := (28, [some (.ref m_p), some (.int i1), some (.int x4)], [.int i1, .int 0, .ref (m_a 0)], ([sMo m_p m_a m_d u3.1 u3.2 m_read m_text m_typed m_n m_q m_r m_t m_heldQ m_heldR m_heldT m_heldN m_image m_built m_fixed m_isFree m_from m_some m_field m_queue m_near m_open m_closed m_at m_begin m_sort m_lastQ m_lastR m_lastT m_readN] : List ZW).flatten)) rfl ⟨rfl, trivial⟩ ?_
    obtain ⟨t5, ht5, h⟩ := z_bind h
    refine Go.iast zk_X12_setLattice 1 rfl rfl rfl ht5 ?_
    refine Go.eqz (z2 := (29, [some (.ref m_p), some (.int i1), some (.int x4)], [], ([sMo m_p m_a t5 u3.1 u3.2 m_read m_text m_typed m_n m_q m_r m_t m_heldQ m_heldR m_heldT m_heldN m_image m_built m_fixed m_isFree m_from m_some m_field m_queue m_near m_open m_closed m_at m_begin m_sort m_lastQ m_lastR m_lastT m_readN] : List ZW).flatten)) rfl ?_
    refine Go.blk zk_X12_setLattice [0, 0, 0, 0] (z' := (35, [some (.ref m_p), some (.int i1), some (.int x4)], [.int 0, .int 1, .ref (m_a 0)], ([sMo m_p m_a t5 u3.1 u3.2 m_read m_text m_typed m_n m_q m_r m_t m_heldQ m_heldR m_heldT m_heldN m_image m_built m_fixed m_isFree m_from m_some m_field m_queue m_near m_open m_closed m_at m_begin m_sort m_lastQ m_lastR m_lastT m_readN] : List ZW).flatten)) rfl ⟨rfl, trivial⟩ ?_
    obtain ⟨t6, ht6, h⟩ := z_bind h
    refine Go.iast zk_X12_setLattice 1 rfl rfl rfl ht6 ?_
    refine Go.eqz (z2 := (36, [some (.ref m_p), some (.int i1), some (.int x4)], [], ([sMo m_p m_a t6 u3.1 u3.2 m_read m_text m_typed m_n m_q m_r m_t m_heldQ m_heldR m_heldT m_heldN m_image m_built m_fixed m_isFree m_from m_some m_field m_queue m_near m_open m_closed m_at m_begin m_sort m_lastQ m_lastR m_lastT m_readN] : List ZW).flatten)) rfl ?_
    refine Go.blk zk_X12_setLattice [0] (z' := (37, [some (.ref m_p), some (.int i1), some (.int x4)], [.int x4], ([sMo m_p m_a t6 u3.1 u3.2 m_read m_text m_typed m_n m_q m_r m_t m_heldQ m_heldR m_heldT m_heldN m_image m_built m_fixed m_isFree m_from m_some m_field m_queue m_near m_open m_closed m_at m_begin m_sort m_lastQ m_lastR m_lastT m_readN] : List ZW).flatten)) rfl trivial ?_
    obtain rfl := Option.some.inj h
    exact Go.iret zk_X12_setLattice rfl rfl rfl ⟨rfl, rfl⟩
set_option maxHeartbeats 4000000 in
set_option maxRecDepth 100000 in
theorem t_X12_isCell {N : Nat} {m_p : Nat} {m_a : Nat → Nat} {m_d : List Int32} {m_was : List Int32} {m_kept : Int32} {m_read : List Int32} {m_text : List Int32} {m_typed : Int32} {m_n : Int32} {m_q : List Int32} {m_r : List Int32} {m_t : List Int32} {m_heldQ : List Int32} {m_heldR : List Int32} {m_heldT : List Int32} {m_heldN : Int32} {m_image : List Int32} {m_built : Int32} {m_fixed : List Int64} {m_isFree : List Int32} {m_from : List Int32} {m_some : List Int64} {m_field : List Int32} {m_queue : List Int32} {m_near : List Int32} {m_open : List Int32} {m_closed : List Int32} {m_at : Int32} {m_begin : Int32} {m_sort : Int32} {m_lastQ : Int32} {m_lastR : Int32} {m_lastT : Int32} {m_readN : Int32} {i1 : Int32} {i2 : Int32} {i3 : Int32} {u : Int32}  (h : f_X12_isCell N i1 i2 i3 m_d = some u) : Ct l D r (z_rl xs) zm_X12_isCell 0 0 [.ref m_p, .int i1, .int i2, .int i3] ([sMo m_p m_a m_d m_was m_kept m_read m_text m_typed m_n m_q m_r m_t m_heldQ m_heldR m_heldT m_heldN m_image m_built m_fixed m_isFree m_from m_some m_field m_queue m_near m_open m_closed m_at m_begin m_sort m_lastQ m_lastR m_lastT m_readN] : List ZW).flatten (fun v' w' => v' = some (.int u) ∧ w' = ([sMo m_p m_a m_d m_was m_kept m_read m_text m_typed m_n m_q m_r m_t m_heldQ m_heldR m_heldT m_heldN m_image m_built m_fixed m_isFree m_from m_some m_field m_queue m_near m_open m_closed m_at m_begin m_sort m_lastQ m_lastR m_lastT m_readN] : List ZW).flatten) := by
  refine Ct.of (by decide +kernel) rfl (fun q => absurd q (by decide)) (Nat.le_of_ble_eq_true rfl) ?_
  refine Go.eqz (z2 := (0, [some (.ref m_p), some (.int i1), some (.int i2), some (.int i3)], [], ([sMo m_p m_a m_d m_was m_kept m_read m_text m_typed m_n m_q m_r m_t m_heldQ m_heldR m_heldT m_heldN m_image m_built m_fixed m_isFree m_from m_some m_field m_queue m_near m_open m_closed m_at m_begin m_sort m_lastQ m_lastR m_lastT m_readN] : List ZW).flatten)) rfl ?_
  unfold f_X12_isCell at h
  refine Go.blk zk_X12_isCell [0, 0, 0] (z' := (4, [some (.ref m_p), some (.int i1), some (.int i2), some (.int i3)], [.int 9, .int 0, .int i1], ([sMo m_p m_a m_d m_was m_kept m_read m_text m_typed m_n m_q m_r m_t m_heldQ m_heldR m_heldT m_heldN m_image m_built m_fixed m_isFree m_from m_some m_field m_queue m_near m_open m_closed m_at m_begin m_sort m_lastQ m_lastR m_lastT m_readN] : List ZW).flatten)) rfl trivial ?_
  obtain ⟨u1, hu1, h⟩ := z_bind h
  refine Go.ss zk_X12_isCell zm_X12_in [] [0] 1 (S := [sMo m_p m_a m_d m_was m_kept m_read m_text m_typed m_n m_q m_r m_t m_heldQ m_heldR m_heldT m_heldN m_image m_built m_fixed m_isFree m_from m_some m_field m_queue m_near m_open m_closed m_at m_begin m_sort m_lastQ m_lastR m_lastT m_readN]) (S2 := [sMo m_p m_a m_d m_was m_kept m_read m_text m_typed m_n m_q m_r m_t m_heldQ m_heldR m_heldT m_heldN m_image m_built m_fixed m_isFree m_from m_some m_field m_queue m_near m_open m_closed m_at m_begin m_sort m_lastQ m_lastR m_lastT m_readN]) (As := [.int i1, .int 0, .int 9]) (rest := []) (st2 := [.int u1]) (v1 := some (.int u1)) rfl zl_X12_184 zs_X12_in ⟨Nat.le_of_ble_eq_true rfl, Nat.le_of_ble_eq_true rfl⟩ rfl (by decide) rfl rfl (Nat.le_of_ble_eq_true rfl) (t_X12_in hu1) rfl rfl rfl ?_
  by_cases hc2 : u1 = 0
  · rw [if_pos hc2] at h
    refine Go.br zk_X12_isCell rfl rfl (fun _ => ?_) (fun q => absurd hc2 q)
    refine Go.blk zk_X12_isCell [0] (z' := (48, [some (.ref m_p), some (.int i1), some (.int i2), some (.int i3)], [.int 0], ([sMo m_p m_a m_d m_was m_kept m_read m_text m_typed m_n m_q m_r m_t m_heldQ m_heldR m_heldT m_heldN m_image m_built m_fixed m_isFree m_from m_some m_field m_queue m_near m_open m_closed m_at m_begin m_sort m_lastQ m_lastR m_lastT m_readN] : List ZW).flatten)) rfl trivial ?_
    obtain rfl := Option.some.inj h
    exact Go.iret zk_X12_isCell rfl rfl rfl ⟨rfl, rfl⟩
  · rw [if_neg hc2] at h
    refine Go.br zk_X12_isCell rfl rfl (fun q => absurd q hc2) (fun _ => ?_)
    refine Go.blk zk_X12_isCell [0, 0, 0] (z' := (14, [some (.ref m_p), some (.int i1), some (.int i2), some (.int i3)], [.int 9, .int 0, .int i2], ([sMo m_p m_a m_d m_was m_kept m_read m_text m_typed m_n m_q m_r m_t m_heldQ m_heldR m_heldT m_heldN m_image m_built m_fixed m_isFree m_from m_some m_field m_queue m_near m_open m_closed m_at m_begin m_sort m_lastQ m_lastR m_lastT m_readN] : List ZW).flatten)) rfl trivial ?_
    obtain ⟨u3, hu3, h⟩ := z_bind h
    refine Go.ss zk_X12_isCell zm_X12_in [] [0] 1 (S := [sMo m_p m_a m_d m_was m_kept m_read m_text m_typed m_n m_q m_r m_t m_heldQ m_heldR m_heldT m_heldN m_image m_built m_fixed m_isFree m_from m_some m_field m_queue m_near m_open m_closed m_at m_begin m_sort m_lastQ m_lastR m_lastT m_readN]) (S2 := [sMo m_p m_a m_d m_was m_kept m_read m_text m_typed m_n m_q m_r m_t m_heldQ m_heldR m_heldT m_heldN m_image m_built m_fixed m_isFree m_from m_some m_field m_queue m_near m_open m_closed m_at m_begin m_sort m_lastQ m_lastR m_lastT m_readN]) (As := [.int i2, .int 0, .int 9]) (rest := []) (st2 := [.int u3]) (v1 := some (.int u3)) rfl zl_X12_184 zs_X12_in ⟨Nat.le_of_ble_eq_true rfl, Nat.le_of_ble_eq_true rfl⟩ rfl (by decide) rfl rfl (Nat.le_of_ble_eq_true rfl) (t_X12_in hu3) rfl rfl rfl ?_
    by_cases hc4 : u3 = 0
    · rw [if_pos hc4] at h
      refine Go.br zk_X12_isCell rfl rfl (fun _ => ?_) (fun q => absurd hc4 q)
      refine Go.blk zk_X12_isCell [0] (z' := (48, [some (.ref m_p), some (.int i1), some (.int i2), some (.int i3)], [.int 0], ([sMo m_p m_a m_d m_was m_kept m_read m_text m_typed m_n m_q m_r m_t m_heldQ m_heldR m_heldT m_heldN m_image m_built m_fixed m_isFree m_from m_some m_field m_queue m_near m_open m_closed m_at m_begin m_sort m_lastQ m_lastR m_lastT m_readN] : List ZW).flatten)) rfl trivial ?_
      obtain rfl := Option.some.inj h
      exact Go.iret zk_X12_isCell rfl rfl rfl ⟨rfl, rfl⟩
    · rw [if_neg hc4] at h
      refine Go.br zk_X12_isCell rfl rfl (fun q => absurd q hc4) (fun _ => ?_)
      refine Go.blk zk_X12_isCell [0, 0, 0, 0, 0] (z' := (27, [some (.ref m_p), some (.int i1), some (.int i2), some (.int i3)], [.int 0, .ref (m_a 0), .int 0, .int i3], ([sMo m_p m_a m_d m_was m_kept m_read m_text m_typed m_n m_q m_r m_t m_heldQ m_heldR m_heldT m_heldN m_image m_built m_fixed m_isFree m_from m_some m_field m_queue m_near m_open m_closed m_at m_begin m_sort m_lastQ m_lastR m_lastT m_readN] : List ZW).flatten)) rfl ⟨rfl, trivial⟩ ?_
      obtain ⟨x5, hx5, h⟩ := z_bind h
      refine Go.iald zk_X12_isCell 1 rfl rfl rfl hx5 ?_
      refine Go.blk zk_X12_isCell [0] (z' := (29, [some (.ref m_p), some (.int i1), some (.int i2), some (.int i3)], [.int 1, .int x5, .int 0, .int i3], ([sMo m_p m_a m_d m_was m_kept m_read m_text m_typed m_n m_q m_r m_t m_heldQ m_heldR m_heldT m_heldN m_image m_built m_fixed m_isFree m_from m_some m_field m_queue m_near m_open m_closed m_at m_begin m_sort m_lastQ m_lastR m_lastT m_readN] : List ZW).flatten)) rfl trivial ?_
      by_cases hc6 : x5 = 1
      · rw [if_pos hc6] at h
        refine Go.br zk_X12_isCell rfl rfl (fun _ => ?_) (fun q => absurd hc6 q)
        refine Go.blk zk_X12_isCell [0, 0] (z' := (37, [some (.ref m_p), some (.int i1), some (.int i2), some (.int i3)], [.int 1, .int 0, .int i3], ([sMo m_p m_a m_d m_was m_kept m_read m_text m_typed m_n m_q m_r m_t m_heldQ m_heldR m_heldT m_heldN m_image m_built m_fixed m_isFree m_from m_some m_field m_queue m_near m_open m_closed m_at m_begin m_sort m_lastQ m_lastR m_lastT m_readN] : List ZW).flatten)) rfl trivial ?_
        obtain ⟨u7, hu7, h⟩ := z_bind h
        refine Go.ss zk_X12_isCell zm_X12_in [] [0] 1 (S := [sMo m_p m_a m_d m_was m_kept m_read m_text m_typed m_n m_q m_r m_t m_heldQ m_heldR m_heldT m_heldN m_image m_built m_fixed m_isFree m_from m_some m_field m_queue m_near m_open m_closed m_at m_begin m_sort m_lastQ m_lastR m_lastT m_readN]) (S2 := [sMo m_p m_a m_d m_was m_kept m_read m_text m_typed m_n m_q m_r m_t m_heldQ m_heldR m_heldT m_heldN m_image m_built m_fixed m_isFree m_from m_some m_field m_queue m_near m_open m_closed m_at m_begin m_sort m_lastQ m_lastR m_lastT m_readN]) (As := [.int i3, .int 0, .int 1]) (rest := []) (st2 := [.int u7]) (v1 := some (.int u7)) rfl zl_X12_184 zs_X12_in ⟨Nat.le_of_ble_eq_true rfl, Nat.le_of_ble_eq_true rfl⟩ rfl (by decide) rfl rfl (Nat.le_of_ble_eq_true rfl) (t_X12_in hu7) rfl rfl rfl ?_
        by_cases hc8 : u7 = 0
        · rw [if_pos hc8] at h
          refine Go.br zk_X12_isCell rfl rfl (fun _ => ?_) (fun q => absurd hc8 q)
          refine Go.blk zk_X12_isCell [0] (z' := (48, [some (.ref m_p), some (.int i1), some (.int i2), some (.int i3)], [.int 0], ([sMo m_p m_a m_d m_was m_kept m_read m_text m_typed m_n m_q m_r m_t m_heldQ m_heldR m_heldT m_heldN m_image m_built m_fixed m_isFree m_from m_some m_field m_queue m_near m_open m_closed m_at m_begin m_sort m_lastQ m_lastR m_lastT m_readN] : List ZW).flatten)) rfl trivial ?_
          obtain rfl := Option.some.inj h
          exact Go.iret zk_X12_isCell rfl rfl rfl ⟨rfl, rfl⟩
        · rw [if_neg hc8] at h
          refine Go.br zk_X12_isCell rfl rfl (fun q => absurd q hc8) (fun _ => ?_)
          refine Go.blk zk_X12_isCell [0, 0] (z' := (48, [some (.ref m_p), some (.int i1), some (.int i2), some (.int i3)], [.int 1], ([sMo m_p m_a m_d m_was m_kept m_read m_text m_typed m_n m_q m_r m_t m_heldQ m_heldR m_heldT m_heldN m_image m_built m_fixed m_isFree m_from m_some m_field m_queue m_near m_open m_closed m_at m_begin m_sort m_lastQ m_lastR m_lastT m_readN] : List ZW).flatten)) rfl trivial ?_
          obtain rfl := Option.some.inj h
          exact Go.iret zk_X12_isCell rfl rfl rfl ⟨rfl, rfl⟩
      · rw [if_neg hc6] at h
        refine Go.br zk_X12_isCell rfl rfl (fun q => absurd q hc6) (fun _ => ?_)
        refine Go.blk zk_X12_isCell [0] (z' := (37, [some (.ref m_p), some (.int i1), some (.int i2), some (.int i3)], [.int 0, .int 0, .int i3], ([sMo m_p m_a m_d m_was m_kept m_read m_text m_typed m_n m_q m_r m_t m_heldQ m_heldR m_heldT m_heldN m_image m_built m_fixed m_isFree m_from m_some m_field m_queue m_near m_open m_closed m_at m_begin m_sort m_lastQ m_lastR m_lastT m_readN] : List ZW).flatten)) rfl trivial ?_
        obtain ⟨u9, hu9, h⟩ := z_bind h
        refine Go.ss zk_X12_isCell zm_X12_in [] [0] 1 (S := [sMo m_p m_a m_d m_was m_kept m_read m_text m_typed m_n m_q m_r m_t m_heldQ m_heldR m_heldT m_heldN m_image m_built m_fixed m_isFree m_from m_some m_field m_queue m_near m_open m_closed m_at m_begin m_sort m_lastQ m_lastR m_lastT m_readN]) (S2 := [sMo m_p m_a m_d m_was m_kept m_read m_text m_typed m_n m_q m_r m_t m_heldQ m_heldR m_heldT m_heldN m_image m_built m_fixed m_isFree m_from m_some m_field m_queue m_near m_open m_closed m_at m_begin m_sort m_lastQ m_lastR m_lastT m_readN]) (As := [.int i3, .int 0, .int 0]) (rest := []) (st2 := [.int u9]) (v1 := some (.int u9)) rfl zl_X12_184 zs_X12_in ⟨Nat.le_of_ble_eq_true rfl, Nat.le_of_ble_eq_true rfl⟩ rfl (by decide) rfl rfl (Nat.le_of_ble_eq_true rfl) (t_X12_in hu9) rfl rfl rfl ?_
        by_cases hc10 : u9 = 0
        · rw [if_pos hc10] at h
          refine Go.br zk_X12_isCell rfl rfl (fun _ => ?_) (fun q => absurd hc10 q)
          refine Go.blk zk_X12_isCell [0] (z' := (48, [some (.ref m_p), some (.int i1), some (.int i2), some (.int i3)], [.int 0], ([sMo m_p m_a m_d m_was m_kept m_read m_text m_typed m_n m_q m_r m_t m_heldQ m_heldR m_heldT m_heldN m_image m_built m_fixed m_isFree m_from m_some m_field m_queue m_near m_open m_closed m_at m_begin m_sort m_lastQ m_lastR m_lastT m_readN] : List ZW).flatten)) rfl trivial ?_
          obtain rfl := Option.some.inj h
          exact Go.iret zk_X12_isCell rfl rfl rfl ⟨rfl, rfl⟩
        · rw [if_neg hc10] at h
          refine Go.br zk_X12_isCell rfl rfl (fun q => absurd q hc10) (fun _ => ?_)
          refine Go.blk zk_X12_isCell [0, 0] (z' := (48, [some (.ref m_p), some (.int i1), some (.int i2), some (.int i3)], [.int 1], ([sMo m_p m_a m_d m_was m_kept m_read m_text m_typed m_n m_q m_r m_t m_heldQ m_heldR m_heldT m_heldN m_image m_built m_fixed m_isFree m_from m_some m_field m_queue m_near m_open m_closed m_at m_begin m_sort m_lastQ m_lastR m_lastT m_readN] : List ZW).flatten)) rfl trivial ?_
          obtain rfl := Option.some.inj h
          exact Go.iret zk_X12_isCell rfl rfl rfl ⟨rfl, rfl⟩
set_option maxHeartbeats 4000000 in
set_option maxRecDepth 100000 in
theorem t_X12_standsAt_L2 {N : Nat} {m_p : Nat} {m_a : Nat → Nat} {m_d : List Int32} {m_was : List Int32} {m_kept : Int32} {m_read : List Int32} {m_text : List Int32} {m_typed : Int32} {m_n : Int32} {m_q : List Int32} {m_r : List Int32} {m_t : List Int32} {m_heldQ : List Int32} {m_heldR : List Int32} {m_heldT : List Int32} {m_heldN : Int32} {m_image : List Int32} {m_built : Int32} {m_fixed : List Int64} {m_isFree : List Int32} {m_from : List Int32} {m_some : List Int64} {m_field : List Int32} {m_queue : List Int32} {m_near : List Int32} {m_open : List Int32} {m_closed : List Int32} {m_at : Int32} {m_begin : Int32} {m_sort : Int32} {m_lastQ : Int32} {m_lastR : Int32} {m_lastT : Int32} {m_readN : Int32} {v1 : Int32}  {Q : Option Value → ZW → Prop} : ∀ (fu : Nat) (v2 : Int32) (o : (Unit) ⊕ (Int32)), f_X12_standsAt_L2 N v1 m_d fu v2 = some o → (∀ e, o = .inl e → Go l D r (z_rl xs) zm_X12_standsAt 0 0 (32, [none, none, none], [], ([sMo m_p m_a m_d m_was m_kept m_read m_text m_typed m_n m_q m_r m_t m_heldQ m_heldR m_heldT m_heldN m_image m_built m_fixed m_isFree m_from m_some m_field m_queue m_near m_open m_closed m_at m_begin m_sort m_lastQ m_lastR m_lastT m_readN] : List ZW).flatten) Q) → (∀ e, o = .inr e → Q (some (.int e)) ([sMo m_p m_a m_d m_was m_kept m_read m_text m_typed m_n m_q m_r m_t m_heldQ m_heldR m_heldT m_heldN m_image m_built m_fixed m_isFree m_from m_some m_field m_queue m_near m_open m_closed m_at m_begin m_sort m_lastQ m_lastR m_lastT m_readN] : List ZW).flatten) → Go l D r (z_rl xs) zm_X12_standsAt 0 0 (2, [some (.ref m_p), some (.int v1), some (.int v2)], [], ([sMo m_p m_a m_d m_was m_kept m_read m_text m_typed m_n m_q m_r m_t m_heldQ m_heldR m_heldT m_heldN m_image m_built m_fixed m_isFree m_from m_some m_field m_queue m_near m_open m_closed m_at m_begin m_sort m_lastQ m_lastR m_lastT m_readN] : List ZW).flatten) Q := by
  intro fu
  induction fu with
  | zero =>
    intro v2 o h
    simp only [f_X12_standsAt_L2, reduceCtorEq] at h
  | succ fu ih =>
    intro v2 o h k1 k2
    rw [f_X12_standsAt_L2] at h
    refine Go.blk zk_X12_standsAt [0, 0, 0, 0] (z' := (8, [some (.ref m_p), some (.int v1), some (.int v2)], [.int 1, .ref (m_a 0), .int v2], ([sMo m_p m_a m_d m_was m_kept m_read m_text m_typed m_n m_q m_r m_t m_heldQ m_heldR m_heldT m_heldN m_image m_built m_fixed m_isFree m_from m_some m_field m_queue m_near m_open m_closed m_at m_begin m_sort m_lastQ m_lastR m_lastT m_readN] : List ZW).flatten)) rfl ⟨rfl, trivial⟩ ?_
    obtain ⟨x1, hx1, h⟩ := z_bind h
    refine Go.iald zk_X12_standsAt 1 rfl rfl rfl hx1 ?_
    by_cases hc2 : v2 < x1
    · rw [if_pos hc2] at h
      refine Go.br zk_X12_standsAt rfl rfl (fun _ => ?_) (fun q => absurd hc2 q)
      refine Go.blk zk_X12_standsAt [0, 0, 0, 0, 0] (z' := (19, [some (.ref m_p), some (.int v1), some (.int v2)], [.int (2 + v2), .ref (m_a 0)], ([sMo m_p m_a m_d m_was m_kept m_read m_text m_typed m_n m_q m_r m_t m_heldQ m_heldR m_heldT m_heldN m_image m_built m_fixed m_isFree m_from m_some m_field m_queue m_near m_open m_closed m_at m_begin m_sort m_lastQ m_lastR m_lastT m_readN] : List ZW).flatten)) rfl ⟨rfl, trivial⟩ ?_
      obtain ⟨x3, hx3, h⟩ := z_bind h
      refine Go.iald zk_X12_standsAt 1 rfl rfl rfl hx3 ?_
      refine Go.blk zk_X12_standsAt [0] (z' := (21, [some (.ref m_p), some (.int v1), some (.int v2)], [.int v1, .int x3], ([sMo m_p m_a m_d m_was m_kept m_read m_text m_typed m_n m_q m_r m_t m_heldQ m_heldR m_heldT m_heldN m_image m_built m_fixed m_isFree m_from m_some m_field m_queue m_near m_open m_closed m_at m_begin m_sort m_lastQ m_lastR m_lastT m_readN] : List ZW).flatten)) rfl trivial ?_
      by_cases hc4 : x3 = v1
      · rw [if_pos hc4] at h
        refine Go.br zk_X12_standsAt rfl rfl (fun _ => ?_) (fun q => absurd hc4 q)
        refine Go.blk zk_X12_standsAt [0] (z' := (25, [some (.ref m_p), some (.int v1), some (.int v2)], [.int v2], ([sMo m_p m_a m_d m_was m_kept m_read m_text m_typed m_n m_q m_r m_t m_heldQ m_heldR m_heldT m_heldN m_image m_built m_fixed m_isFree m_from m_some m_field m_queue m_near m_open m_closed m_at m_begin m_sort m_lastQ m_lastR m_lastT m_readN] : List ZW).flatten)) rfl trivial ?_
        obtain rfl := Option.some.inj h
        exact Go.iret zk_X12_standsAt rfl rfl rfl (k2 _ rfl)
      · rw [if_neg hc4] at h
        refine Go.br zk_X12_standsAt rfl rfl (fun q => absurd q hc4) (fun _ => ?_)
        refine Go.blk zk_X12_standsAt [0, 0] (z' := (2, [some (.ref m_p), some (.int v1), some (.int (v2 + 1))], [], ([sMo m_p m_a m_d m_was m_kept m_read m_text m_typed m_n m_q m_r m_t m_heldQ m_heldR m_heldT m_heldN m_image m_built m_fixed m_isFree m_from m_some m_field m_queue m_near m_open m_closed m_at m_begin m_sort m_lastQ m_lastR m_lastT m_readN] : List ZW).flatten)) rfl trivial ?_
        exact ih _ _ h k1 k2
    · rw [if_neg hc2] at h
      refine Go.br zk_X12_standsAt rfl rfl (fun q => absurd q hc2) (fun _ => ?_)
      obtain rfl := Option.some.inj h
      refine Go.weak (L := [some (.ref m_p), some (.int v1), some (.int v2)]) (L' := [none, none, none]) (trivial) ?_
      exact k1 _ rfl
set_option maxHeartbeats 4000000 in
set_option maxRecDepth 100000 in
theorem t_X12_standsAt {N : Nat} {m_p : Nat} {m_a : Nat → Nat} {m_d : List Int32} {m_was : List Int32} {m_kept : Int32} {m_read : List Int32} {m_text : List Int32} {m_typed : Int32} {m_n : Int32} {m_q : List Int32} {m_r : List Int32} {m_t : List Int32} {m_heldQ : List Int32} {m_heldR : List Int32} {m_heldT : List Int32} {m_heldN : Int32} {m_image : List Int32} {m_built : Int32} {m_fixed : List Int64} {m_isFree : List Int32} {m_from : List Int32} {m_some : List Int64} {m_field : List Int32} {m_queue : List Int32} {m_near : List Int32} {m_open : List Int32} {m_closed : List Int32} {m_at : Int32} {m_begin : Int32} {m_sort : Int32} {m_lastQ : Int32} {m_lastR : Int32} {m_lastT : Int32} {m_readN : Int32} {i1 : Int32} {u : Int32}  (h : f_X12_standsAt N i1 m_d = some u) : Ct l D r (z_rl xs) zm_X12_standsAt 0 0 [.ref m_p, .int i1] ([sMo m_p m_a m_d m_was m_kept m_read m_text m_typed m_n m_q m_r m_t m_heldQ m_heldR m_heldT m_heldN m_image m_built m_fixed m_isFree m_from m_some m_field m_queue m_near m_open m_closed m_at m_begin m_sort m_lastQ m_lastR m_lastT m_readN] : List ZW).flatten (fun v' w' => v' = some (.int u) ∧ w' = ([sMo m_p m_a m_d m_was m_kept m_read m_text m_typed m_n m_q m_r m_t m_heldQ m_heldR m_heldT m_heldN m_image m_built m_fixed m_isFree m_from m_some m_field m_queue m_near m_open m_closed m_at m_begin m_sort m_lastQ m_lastR m_lastT m_readN] : List ZW).flatten) := by
  refine Ct.of (by decide +kernel) rfl (fun q => absurd q (by decide)) (Nat.le_of_ble_eq_true rfl) ?_
  refine Go.eqz (z2 := (0, [some (.ref m_p), some (.int i1), none], [], ([sMo m_p m_a m_d m_was m_kept m_read m_text m_typed m_n m_q m_r m_t m_heldQ m_heldR m_heldT m_heldN m_image m_built m_fixed m_isFree m_from m_some m_field m_queue m_near m_open m_closed m_at m_begin m_sort m_lastQ m_lastR m_lastT m_readN] : List ZW).flatten)) rfl ?_
  unfold f_X12_standsAt at h
  refine Go.blk zk_X12_standsAt [0, 0] (z' := (2, [some (.ref m_p), some (.int i1), some (.int 0)], [], ([sMo m_p m_a m_d m_was m_kept m_read m_text m_typed m_n m_q m_r m_t m_heldQ m_heldR m_heldT m_heldN m_image m_built m_fixed m_isFree m_from m_some m_field m_queue m_near m_open m_closed m_at m_begin m_sort m_lastQ m_lastR m_lastT m_readN] : List ZW).flatten)) rfl trivial ?_
  obtain ⟨o6, he5, h⟩ := z_bind h
  cases o6 with
  | inl e5 =>
    simp only [Sum.elim_inl] at h
    refine t_X12_standsAt_L2 N _ _ he5 (fun _ q => ?_) (fun _ q => nomatch q)
    obtain rfl := Sum.inl.inj q
    refine Go.blk zk_X12_standsAt [0] (z' := (33, [none, none, none], [.int (-1)], ([sMo m_p m_a m_d m_was m_kept m_read m_text m_typed m_n m_q m_r m_t m_heldQ m_heldR m_heldT m_heldN m_image m_built m_fixed m_isFree m_from m_some m_field m_queue m_near m_open m_closed m_at m_begin m_sort m_lastQ m_lastR m_lastT m_readN] : List ZW).flatten)) rfl trivial ?_
    obtain rfl := Option.some.inj h
    exact Go.iret zk_X12_standsAt rfl rfl rfl ⟨rfl, rfl⟩
  | inr u7 =>
    simp only [Sum.elim_inr] at h
    obtain rfl := Option.some.inj h
    refine t_X12_standsAt_L2 N _ _ he5 (fun _ q => nomatch q) (fun _ q => ?_)
    obtain rfl := Sum.inr.inj q
    exact ⟨rfl, rfl⟩
set_option maxHeartbeats 4000000 in
set_option maxRecDepth 100000 in
theorem t_X12_addCell {N : Nat} {m_p : Nat} {m_a : Nat → Nat} {m_d : List Int32} {m_was : List Int32} {m_kept : Int32} {m_read : List Int32} {m_text : List Int32} {m_typed : Int32} {m_n : Int32} {m_q : List Int32} {m_r : List Int32} {m_t : List Int32} {m_heldQ : List Int32} {m_heldR : List Int32} {m_heldT : List Int32} {m_heldN : Int32} {m_image : List Int32} {m_built : Int32} {m_fixed : List Int64} {m_isFree : List Int32} {m_from : List Int32} {m_some : List Int64} {m_field : List Int32} {m_queue : List Int32} {m_near : List Int32} {m_open : List Int32} {m_closed : List Int32} {m_at : Int32} {m_begin : Int32} {m_sort : Int32} {m_lastQ : Int32} {m_lastR : Int32} {m_lastT : Int32} {m_readN : Int32} {i1 : Int32} {i2 : Int32} {i3 : Int32} {u : Int32 × (List Int32) × (List Int32) × Int32}  (h : f_X12_addCell N i1 i2 i3 m_d m_was m_kept = some u) : Ct l D r (z_rl xs) zm_X12_addCell 0 0 [.ref m_p, .int i1, .int i2, .int i3] ([sMo m_p m_a m_d m_was m_kept m_read m_text m_typed m_n m_q m_r m_t m_heldQ m_heldR m_heldT m_heldN m_image m_built m_fixed m_isFree m_from m_some m_field m_queue m_near m_open m_closed m_at m_begin m_sort m_lastQ m_lastR m_lastT m_readN] : List ZW).flatten (fun v' w' => v' = some (.int u.1) ∧ w' = ([sMo m_p m_a u.2.1 u.2.2.1 u.2.2.2 m_read m_text m_typed m_n m_q m_r m_t m_heldQ m_heldR m_heldT m_heldN m_image m_built m_fixed m_isFree m_from m_some m_field m_queue m_near m_open m_closed m_at m_begin m_sort m_lastQ m_lastR m_lastT m_readN] : List ZW).flatten) := by
  refine Ct.of (by decide +kernel) rfl (fun q => absurd q (by decide)) (Nat.le_of_ble_eq_true rfl) ?_
  refine Go.eqz (z2 := (0, [some (.ref m_p), some (.int i1), some (.int i2), some (.int i3), none], [], ([sMo m_p m_a m_d m_was m_kept m_read m_text m_typed m_n m_q m_r m_t m_heldQ m_heldR m_heldT m_heldN m_image m_built m_fixed m_isFree m_from m_some m_field m_queue m_near m_open m_closed m_at m_begin m_sort m_lastQ m_lastR m_lastT m_readN] : List ZW).flatten)) rfl ?_
  unfold f_X12_addCell at h
  refine Go.blk zk_X12_addCell [0, 0, 0, 0] (z' := (4, [some (.ref m_p), some (.int i1), some (.int i2), some (.int i3), none], [.int i3, .int i2, .int i1, .ref m_p], ([sMo m_p m_a m_d m_was m_kept m_read m_text m_typed m_n m_q m_r m_t m_heldQ m_heldR m_heldT m_heldN m_image m_built m_fixed m_isFree m_from m_some m_field m_queue m_near m_open m_closed m_at m_begin m_sort m_lastQ m_lastR m_lastT m_readN] : List ZW).flatten)) rfl trivial ?_
  obtain ⟨u1, hu1, h⟩ := z_bind h
  refine Go.vs zk_X12_addCell zm_X12_isCell [0] [] 0 12 1 (S := [sMo m_p m_a m_d m_was m_kept m_read m_text m_typed m_n m_q m_r m_t m_heldQ m_heldR m_heldT m_heldN m_image m_built m_fixed m_isFree m_from m_some m_field m_queue m_near m_open m_closed m_at m_begin m_sort m_lastQ m_lastR m_lastT m_readN]) (S2 := [sMo m_p m_a m_d m_was m_kept m_read m_text m_typed m_n m_q m_r m_t m_heldQ m_heldR m_heldT m_heldN m_image m_built m_fixed m_isFree m_from m_some m_field m_queue m_near m_open m_closed m_at m_begin m_sort m_lastQ m_lastR m_lastT m_readN]) (As := [.int i1, .int i2, .int i3]) (rest := []) (st2 := [.int u1]) (v1 := some (.int u1)) rfl zl_X12_191 zv_X12_isCell ⟨Nat.le_of_ble_eq_true rfl, Nat.le_of_ble_eq_true rfl⟩ rfl (by decide) rfl rfl rfl rfl rfl (Nat.le_of_ble_eq_true rfl) (t_X12_isCell hu1) rfl rfl rfl ?_
  by_cases hc2 : u1 = 0
  · rw [if_pos hc2] at h
    refine Go.br zk_X12_addCell rfl rfl (fun _ => ?_) (fun q => absurd hc2 q)
    refine Go.blk zk_X12_addCell [0] (z' := (11, [some (.ref m_p), some (.int i1), some (.int i2), some (.int i3), none], [.int (-1)], ([sMo m_p m_a m_d m_was m_kept m_read m_text m_typed m_n m_q m_r m_t m_heldQ m_heldR m_heldT m_heldN m_image m_built m_fixed m_isFree m_from m_some m_field m_queue m_near m_open m_closed m_at m_begin m_sort m_lastQ m_lastR m_lastT m_readN] : List ZW).flatten)) rfl trivial ?_
    obtain rfl := Option.some.inj h
    exact Go.iret zk_X12_addCell rfl rfl rfl ⟨rfl, rfl⟩
  · rw [if_neg hc2] at h
    refine Go.br zk_X12_addCell rfl rfl (fun q => absurd q hc2) (fun _ => ?_)
    refine Go.blk zk_X12_addCell [0, 0, 0, 0, 0, 0, 0, 0, 0, 0, 0, 0] (z' := (27, [some (.ref m_p), some (.int i1), some (.int i2), some (.int i3), some (.int (((20 * i2) + (2 * i1)) + i3))], [.int (((20 * i2) + (2 * i1)) + i3), .ref m_p], ([sMo m_p m_a m_d m_was m_kept m_read m_text m_typed m_n m_q m_r m_t m_heldQ m_heldR m_heldT m_heldN m_image m_built m_fixed m_isFree m_from m_some m_field m_queue m_near m_open m_closed m_at m_begin m_sort m_lastQ m_lastR m_lastT m_readN] : List ZW).flatten)) rfl trivial ?_
    obtain ⟨u3, hu3, h⟩ := z_bind h
    refine Go.vs zk_X12_addCell zm_X12_standsAt [0] [] 0 12 1 (S := [sMo m_p m_a m_d m_was m_kept m_read m_text m_typed m_n m_q m_r m_t m_heldQ m_heldR m_heldT m_heldN m_image m_built m_fixed m_isFree m_from m_some m_field m_queue m_near m_open m_closed m_at m_begin m_sort m_lastQ m_lastR m_lastT m_readN]) (S2 := [sMo m_p m_a m_d m_was m_kept m_read m_text m_typed m_n m_q m_r m_t m_heldQ m_heldR m_heldT m_heldN m_image m_built m_fixed m_isFree m_from m_some m_field m_queue m_near m_open m_closed m_at m_begin m_sort m_lastQ m_lastR m_lastT m_readN]) (As := [.int (((20 * i2) + (2 * i1)) + i3)]) (rest := []) (st2 := [.int u3]) (v1 := some (.int u3)) rfl zl_X12_194 zv_X12_standsAt ⟨Nat.le_of_ble_eq_true rfl, Nat.le_of_ble_eq_true rfl⟩ rfl (by decide) rfl rfl rfl rfl rfl (Nat.le_of_ble_eq_true rfl) (t_X12_standsAt hu3) rfl rfl rfl ?_
    by_cases hc4 : u3 < 0
    · rw [if_pos hc4] at h
      refine Go.br zk_X12_addCell rfl rfl (fun _ => ?_) (fun q => absurd hc4 q)
      refine Go.blk zk_X12_addCell [0, 0, 0] (z' := (41, [some (.ref m_p), some (.int i1), some (.int i2), some (.int i3), some (.int (((20 * i2) + (2 * i1)) + i3))], [.int 1, .ref (m_a 0)], ([sMo m_p m_a m_d m_was m_kept m_read m_text m_typed m_n m_q m_r m_t m_heldQ m_heldR m_heldT m_heldN m_image m_built m_fixed m_isFree m_from m_some m_field m_queue m_near m_open m_closed m_at m_begin m_sort m_lastQ m_lastR m_lastT m_readN] : List ZW).flatten)) rfl ⟨rfl, trivial⟩ ?_
      obtain ⟨x5, hx5, h⟩ := z_bind h
      refine Go.iald zk_X12_addCell 1 rfl rfl rfl hx5 ?_
      refine Go.blk zk_X12_addCell [0] (z' := (44, [some (.ref m_p), some (.int i1), some (.int i2), some (.int i3), some (.int (((20 * i2) + (2 * i1)) + i3))], [.int 12, .int x5], ([sMo m_p m_a m_d m_was m_kept m_read m_text m_typed m_n m_q m_r m_t m_heldQ m_heldR m_heldT m_heldN m_image m_built m_fixed m_isFree m_from m_some m_field m_queue m_near m_open m_closed m_at m_begin m_sort m_lastQ m_lastR m_lastT m_readN] : List ZW).flatten)) rfl trivial ?_
      by_cases hc6 : x5 = 12
      · rw [if_pos hc6] at h
        refine Go.br zk_X12_addCell rfl rfl (fun _ => ?_) (fun q => absurd hc6 q)
        refine Go.blk zk_X12_addCell [0] (z' := (49, [some (.ref m_p), some (.int i1), some (.int i2), some (.int i3), some (.int (((20 * i2) + (2 * i1)) + i3))], [.int (-3)], ([sMo m_p m_a m_d m_was m_kept m_read m_text m_typed m_n m_q m_r m_t m_heldQ m_heldR m_heldT m_heldN m_image m_built m_fixed m_isFree m_from m_some m_field m_queue m_near m_open m_closed m_at m_begin m_sort m_lastQ m_lastR m_lastT m_readN] : List ZW).flatten)) rfl trivial ?_
        obtain rfl := Option.some.inj h
        exact Go.iret zk_X12_addCell rfl rfl rfl ⟨rfl, rfl⟩
      · rw [if_neg hc6] at h
        refine Go.br zk_X12_addCell rfl rfl (fun q => absurd q hc6) (fun _ => ?_)
        refine Go.blk zk_X12_addCell [0] (z' := (51, [some (.ref m_p), some (.int i1), some (.int i2), some (.int i3), some (.int (((20 * i2) + (2 * i1)) + i3))], [.ref m_p], ([sMo m_p m_a m_d m_was m_kept m_read m_text m_typed m_n m_q m_r m_t m_heldQ m_heldR m_heldT m_heldN m_image m_built m_fixed m_isFree m_from m_some m_field m_queue m_near m_open m_closed m_at m_begin m_sort m_lastQ m_lastR m_lastT m_readN] : List ZW).flatten)) rfl trivial ?_
        obtain ⟨u7, hu7, h⟩ := z_bind h
        refine Go.vs zk_X12_addCell zm_X12_records [0] [] 0 12 1 (S := [sMo m_p m_a m_d m_was m_kept m_read m_text m_typed m_n m_q m_r m_t m_heldQ m_heldR m_heldT m_heldN m_image m_built m_fixed m_isFree m_from m_some m_field m_queue m_near m_open m_closed m_at m_begin m_sort m_lastQ m_lastR m_lastT m_readN]) (S2 := [sMo m_p m_a m_d u7.1 u7.2 m_read m_text m_typed m_n m_q m_r m_t m_heldQ m_heldR m_heldT m_heldN m_image m_built m_fixed m_isFree m_from m_some m_field m_queue m_near m_open m_closed m_at m_begin m_sort m_lastQ m_lastR m_lastT m_readN]) (As := []) (rest := []) (st2 := []) (v1 := none) rfl zl_X12_188 zv_X12_records ⟨Nat.le_of_ble_eq_true rfl, Nat.le_of_ble_eq_true rfl⟩ rfl (by decide) rfl rfl rfl rfl rfl (Nat.le_of_ble_eq_true rfl) (t_X12_records hu7) rfl rfl rfl ?_
        refine Go.blk zk_X12_addCell [0, 0, 0, 0, 0, 0] (z' := (64, [some (.ref m_p), some (.int i1), some (.int i2), some (.int i3), some (.int (((20 * i2) + (2 * i1)) + i3))], [.int 1, .ref (m_a 0), .int 2, .ref (m_a 0)], ([sMo m_p m_a m_d u7.1 u7.2 m_read m_text m_typed m_n m_q m_r m_t m_heldQ m_heldR m_heldT m_heldN m_image m_built m_fixed m_isFree m_from m_some m_field m_queue m_near m_open m_closed m_at m_begin m_sort m_lastQ m_lastR m_lastT m_readN] : List ZW).flatten)) rfl ⟨rfl, rfl, trivial⟩ ?_
        obtain ⟨x8, hx8, h⟩ := z_bind h
        refine Go.iald zk_X12_addCell 1 rfl rfl rfl hx8 ?_
        refine Go.blk zk_X12_addCell [0, 0] (z' := (68, [some (.ref m_p), some (.int i1), some (.int i2), some (.int i3), some (.int (((20 * i2) + (2 * i1)) + i3))], [.int (((20 * i2) + (2 * i1)) + i3), .int (2 + x8), .ref (m_a 0)], ([sMo m_p m_a m_d u7.1 u7.2 m_read m_text m_typed m_n m_q m_r m_t m_heldQ m_heldR m_heldT m_heldN m_image m_built m_fixed m_isFree m_from m_some m_field m_queue m_near m_open m_closed m_at m_begin m_sort m_lastQ m_lastR m_lastT m_readN] : List ZW).flatten)) rfl trivial ?_
        obtain ⟨t9, ht9, h⟩ := z_bind h
        refine Go.iast zk_X12_addCell 1 rfl rfl rfl ht9 ?_
        refine Go.eqz (z2 := (69, [some (.ref m_p), some (.int i1), some (.int i2), some (.int i3), some (.int (((20 * i2) + (2 * i1)) + i3))], [], ([sMo m_p m_a t9 u7.1 u7.2 m_read m_text m_typed m_n m_q m_r m_t m_heldQ m_heldR m_heldT m_heldN m_image m_built m_fixed m_isFree m_from m_some m_field m_queue m_near m_open m_closed m_at m_begin m_sort m_lastQ m_lastR m_lastT m_readN] : List ZW).flatten)) rfl ?_
        refine Go.blk zk_X12_addCell [0, 0, 0, 0] (z' := (75, [some (.ref m_p), some (.int i1), some (.int i2), some (.int i3), some (.int (((20 * i2) + (2 * i1)) + i3))], [.int 1, .ref (m_a 0), .int 1, .ref (m_a 0)], ([sMo m_p m_a t9 u7.1 u7.2 m_read m_text m_typed m_n m_q m_r m_t m_heldQ m_heldR m_heldT m_heldN m_image m_built m_fixed m_isFree m_from m_some m_field m_queue m_near m_open m_closed m_at m_begin m_sort m_lastQ m_lastR m_lastT m_readN] : List ZW).flatten)) rfl ⟨rfl, trivial⟩ ?_
        obtain ⟨x10, hx10, h⟩ := z_bind h
        refine Go.iald zk_X12_addCell 1 rfl rfl rfl hx10 ?_
        refine Go.blk zk_X12_addCell [0, 0] (z' := (78, [some (.ref m_p), some (.int i1), some (.int i2), some (.int i3), some (.int (((20 * i2) + (2 * i1)) + i3))], [.int (x10 + 1), .int 1, .ref (m_a 0)], ([sMo m_p m_a t9 u7.1 u7.2 m_read m_text m_typed m_n m_q m_r m_t m_heldQ m_heldR m_heldT m_heldN m_image m_built m_fixed m_isFree m_from m_some m_field m_queue m_near m_open m_closed m_at m_begin m_sort m_lastQ m_lastR m_lastT m_readN] : List ZW).flatten)) rfl trivial ?_
        obtain ⟨t11, ht11, h⟩ := z_bind h
        refine Go.iast zk_X12_addCell 1 rfl rfl rfl ht11 ?_
        refine Go.eqz (z2 := (79, [some (.ref m_p), some (.int i1), some (.int i2), some (.int i3), some (.int (((20 * i2) + (2 * i1)) + i3))], [], ([sMo m_p m_a t11 u7.1 u7.2 m_read m_text m_typed m_n m_q m_r m_t m_heldQ m_heldR m_heldT m_heldN m_image m_built m_fixed m_isFree m_from m_some m_field m_queue m_near m_open m_closed m_at m_begin m_sort m_lastQ m_lastR m_lastT m_readN] : List ZW).flatten)) rfl ?_
        refine Go.blk zk_X12_addCell [0, 0, 0] (z' := (84, [some (.ref m_p), some (.int i1), some (.int i2), some (.int i3), some (.int (((20 * i2) + (2 * i1)) + i3))], [.int 1, .ref (m_a 0)], ([sMo m_p m_a t11 u7.1 u7.2 m_read m_text m_typed m_n m_q m_r m_t m_heldQ m_heldR m_heldT m_heldN m_image m_built m_fixed m_isFree m_from m_some m_field m_queue m_near m_open m_closed m_at m_begin m_sort m_lastQ m_lastR m_lastT m_readN] : List ZW).flatten)) rfl ⟨rfl, trivial⟩ ?_
        obtain ⟨x12, hx12, h⟩ := z_bind h
        refine Go.iald zk_X12_addCell 1 rfl rfl rfl hx12 ?_
        obtain rfl := Option.some.inj h
        exact Go.iret zk_X12_addCell rfl rfl rfl ⟨rfl, rfl⟩
    · rw [if_neg hc4] at h
      refine Go.br zk_X12_addCell rfl rfl (fun q => absurd q hc4) (fun _ => ?_)
      refine Go.blk zk_X12_addCell [0] (z' := (35, [some (.ref m_p), some (.int i1), some (.int i2), some (.int i3), some (.int (((20 * i2) + (2 * i1)) + i3))], [.int (-2)], ([sMo m_p m_a m_d m_was m_kept m_read m_text m_typed m_n m_q m_r m_t m_heldQ m_heldR m_heldT m_heldN m_image m_built m_fixed m_isFree m_from m_some m_field m_queue m_near m_open m_closed m_at m_begin m_sort m_lastQ m_lastR m_lastT m_readN] : List ZW).flatten)) rfl trivial ?_
      obtain rfl := Option.some.inj h
      exact Go.iret zk_X12_addCell rfl rfl rfl ⟨rfl, rfl⟩
set_option maxHeartbeats 4000000 in
set_option maxRecDepth 100000 in
theorem t_X12_removeCell {N : Nat} {m_p : Nat} {m_a : Nat → Nat} {m_d : List Int32} {m_was : List Int32} {m_kept : Int32} {m_read : List Int32} {m_text : List Int32} {m_typed : Int32} {m_n : Int32} {m_q : List Int32} {m_r : List Int32} {m_t : List Int32} {m_heldQ : List Int32} {m_heldR : List Int32} {m_heldT : List Int32} {m_heldN : Int32} {m_image : List Int32} {m_built : Int32} {m_fixed : List Int64} {m_isFree : List Int32} {m_from : List Int32} {m_some : List Int64} {m_field : List Int32} {m_queue : List Int32} {m_near : List Int32} {m_open : List Int32} {m_closed : List Int32} {m_at : Int32} {m_begin : Int32} {m_sort : Int32} {m_lastQ : Int32} {m_lastR : Int32} {m_lastT : Int32} {m_readN : Int32} {i1 : Int32} {i2 : Int32} {i3 : Int32} {u : Int32 × (List Int32) × (List Int32) × Int32}  (h : f_X12_removeCell N i1 i2 i3 m_d m_was m_kept = some u) : Ct l D r (z_rl xs) zm_X12_removeCell 0 0 [.ref m_p, .int i1, .int i2, .int i3] ([sMo m_p m_a m_d m_was m_kept m_read m_text m_typed m_n m_q m_r m_t m_heldQ m_heldR m_heldT m_heldN m_image m_built m_fixed m_isFree m_from m_some m_field m_queue m_near m_open m_closed m_at m_begin m_sort m_lastQ m_lastR m_lastT m_readN] : List ZW).flatten (fun v' w' => v' = some (.int u.1) ∧ w' = ([sMo m_p m_a u.2.1 u.2.2.1 u.2.2.2 m_read m_text m_typed m_n m_q m_r m_t m_heldQ m_heldR m_heldT m_heldN m_image m_built m_fixed m_isFree m_from m_some m_field m_queue m_near m_open m_closed m_at m_begin m_sort m_lastQ m_lastR m_lastT m_readN] : List ZW).flatten) := by
  refine Ct.of (by decide +kernel) rfl (fun q => absurd q (by decide)) (Nat.le_of_ble_eq_true rfl) ?_
  refine Go.eqz (z2 := (0, [some (.ref m_p), some (.int i1), some (.int i2), some (.int i3), none], [], ([sMo m_p m_a m_d m_was m_kept m_read m_text m_typed m_n m_q m_r m_t m_heldQ m_heldR m_heldT m_heldN m_image m_built m_fixed m_isFree m_from m_some m_field m_queue m_near m_open m_closed m_at m_begin m_sort m_lastQ m_lastR m_lastT m_readN] : List ZW).flatten)) rfl ?_
  unfold f_X12_removeCell at h
  refine Go.blk zk_X12_removeCell [0, 0, 0, 0] (z' := (4, [some (.ref m_p), some (.int i1), some (.int i2), some (.int i3), none], [.int i3, .int i2, .int i1, .ref m_p], ([sMo m_p m_a m_d m_was m_kept m_read m_text m_typed m_n m_q m_r m_t m_heldQ m_heldR m_heldT m_heldN m_image m_built m_fixed m_isFree m_from m_some m_field m_queue m_near m_open m_closed m_at m_begin m_sort m_lastQ m_lastR m_lastT m_readN] : List ZW).flatten)) rfl trivial ?_
  obtain ⟨u1, hu1, h⟩ := z_bind h
  refine Go.vs zk_X12_removeCell zm_X12_isCell [0] [] 0 12 1 (S := [sMo m_p m_a m_d m_was m_kept m_read m_text m_typed m_n m_q m_r m_t m_heldQ m_heldR m_heldT m_heldN m_image m_built m_fixed m_isFree m_from m_some m_field m_queue m_near m_open m_closed m_at m_begin m_sort m_lastQ m_lastR m_lastT m_readN]) (S2 := [sMo m_p m_a m_d m_was m_kept m_read m_text m_typed m_n m_q m_r m_t m_heldQ m_heldR m_heldT m_heldN m_image m_built m_fixed m_isFree m_from m_some m_field m_queue m_near m_open m_closed m_at m_begin m_sort m_lastQ m_lastR m_lastT m_readN]) (As := [.int i1, .int i2, .int i3]) (rest := []) (st2 := [.int u1]) (v1 := some (.int u1)) rfl zl_X12_191 zv_X12_isCell ⟨Nat.le_of_ble_eq_true rfl, Nat.le_of_ble_eq_true rfl⟩ rfl (by decide) rfl rfl rfl rfl rfl (Nat.le_of_ble_eq_true rfl) (t_X12_isCell hu1) rfl rfl rfl ?_
  by_cases hc2 : u1 = 0
  · rw [if_pos hc2] at h
    refine Go.br zk_X12_removeCell rfl rfl (fun _ => ?_) (fun q => absurd hc2 q)
    refine Go.blk zk_X12_removeCell [0] (z' := (11, [some (.ref m_p), some (.int i1), some (.int i2), some (.int i3), none], [.int (-1)], ([sMo m_p m_a m_d m_was m_kept m_read m_text m_typed m_n m_q m_r m_t m_heldQ m_heldR m_heldT m_heldN m_image m_built m_fixed m_isFree m_from m_some m_field m_queue m_near m_open m_closed m_at m_begin m_sort m_lastQ m_lastR m_lastT m_readN] : List ZW).flatten)) rfl trivial ?_
    obtain rfl := Option.some.inj h
    exact Go.iret zk_X12_removeCell rfl rfl rfl ⟨rfl, rfl⟩
  · rw [if_neg hc2] at h
    refine Go.br zk_X12_removeCell rfl rfl (fun q => absurd q hc2) (fun _ => ?_)
    refine Go.blk zk_X12_removeCell [0, 0, 0, 0, 0, 0, 0, 0, 0, 0] (z' := (23, [some (.ref m_p), some (.int i1), some (.int i2), some (.int i3), none], [.int (((20 * i2) + (2 * i1)) + i3), .ref m_p], ([sMo m_p m_a m_d m_was m_kept m_read m_text m_typed m_n m_q m_r m_t m_heldQ m_heldR m_heldT m_heldN m_image m_built m_fixed m_isFree m_from m_some m_field m_queue m_near m_open m_closed m_at m_begin m_sort m_lastQ m_lastR m_lastT m_readN] : List ZW).flatten)) rfl trivial ?_
    obtain ⟨u3, hu3, h⟩ := z_bind h
    refine Go.vs zk_X12_removeCell zm_X12_standsAt [0] [] 0 12 1 (S := [sMo m_p m_a m_d m_was m_kept m_read m_text m_typed m_n m_q m_r m_t m_heldQ m_heldR m_heldT m_heldN m_image m_built m_fixed m_isFree m_from m_some m_field m_queue m_near m_open m_closed m_at m_begin m_sort m_lastQ m_lastR m_lastT m_readN]) (S2 := [sMo m_p m_a m_d m_was m_kept m_read m_text m_typed m_n m_q m_r m_t m_heldQ m_heldR m_heldT m_heldN m_image m_built m_fixed m_isFree m_from m_some m_field m_queue m_near m_open m_closed m_at m_begin m_sort m_lastQ m_lastR m_lastT m_readN]) (As := [.int (((20 * i2) + (2 * i1)) + i3)]) (rest := []) (st2 := [.int u3]) (v1 := some (.int u3)) rfl zl_X12_194 zv_X12_standsAt ⟨Nat.le_of_ble_eq_true rfl, Nat.le_of_ble_eq_true rfl⟩ rfl (by decide) rfl rfl rfl rfl rfl (Nat.le_of_ble_eq_true rfl) (t_X12_standsAt hu3) rfl rfl rfl ?_
    refine Go.blk zk_X12_removeCell [0, 0] (z' := (30, [some (.ref m_p), some (.int i1), some (.int i2), some (.int i3), some (.int u3)], [.int u3], ([sMo m_p m_a m_d m_was m_kept m_read m_text m_typed m_n m_q m_r m_t m_heldQ m_heldR m_heldT m_heldN m_image m_built m_fixed m_isFree m_from m_some m_field m_queue m_near m_open m_closed m_at m_begin m_sort m_lastQ m_lastR m_lastT m_readN] : List ZW).flatten)) rfl trivial ?_
    by_cases hc4 : u3 < 0
    · rw [if_pos hc4] at h
      refine Go.br zk_X12_removeCell rfl rfl (fun _ => ?_) (fun q => absurd hc4 q)
      refine Go.blk zk_X12_removeCell [0] (z' := (35, [some (.ref m_p), some (.int i1), some (.int i2), some (.int i3), some (.int u3)], [.int (-2)], ([sMo m_p m_a m_d m_was m_kept m_read m_text m_typed m_n m_q m_r m_t m_heldQ m_heldR m_heldT m_heldN m_image m_built m_fixed m_isFree m_from m_some m_field m_queue m_near m_open m_closed m_at m_begin m_sort m_lastQ m_lastR m_lastT m_readN] : List ZW).flatten)) rfl trivial ?_
      obtain rfl := Option.some.inj h
      exact Go.iret zk_X12_removeCell rfl rfl rfl ⟨rfl, rfl⟩
    · rw [if_neg hc4] at h
      refine Go.br zk_X12_removeCell rfl rfl (fun q => absurd q hc4) (fun _ => ?_)
      refine Go.blk zk_X12_removeCell [0] (z' := (37, [some (.ref m_p), some (.int i1), some (.int i2), some (.int i3), some (.int u3)], [.ref m_p], ([sMo m_p m_a m_d m_was m_kept m_read m_text m_typed m_n m_q m_r m_t m_heldQ m_heldR m_heldT m_heldN m_image m_built m_fixed m_isFree m_from m_some m_field m_queue m_near m_open m_closed m_at m_begin m_sort m_lastQ m_lastR m_lastT m_readN] : List ZW).flatten)) rfl trivial ?_
      obtain ⟨u5, hu5, h⟩ := z_bind h
      refine Go.vs zk_X12_removeCell zm_X12_records [0] [] 0 12 1 (S := [sMo m_p m_a m_d m_was m_kept m_read m_text m_typed m_n m_q m_r m_t m_heldQ m_heldR m_heldT m_heldN m_image m_built m_fixed m_isFree m_from m_some m_field m_queue m_near m_open m_closed m_at m_begin m_sort m_lastQ m_lastR m_lastT m_readN]) (S2 := [sMo m_p m_a m_d u5.1 u5.2 m_read m_text m_typed m_n m_q m_r m_t m_heldQ m_heldR m_heldT m_heldN m_image m_built m_fixed m_isFree m_from m_some m_field m_queue m_near m_open m_closed m_at m_begin m_sort m_lastQ m_lastR m_lastT m_readN]) (As := []) (rest := []) (st2 := []) (v1 := none) rfl zl_X12_188 zv_X12_records ⟨Nat.le_of_ble_eq_true rfl, Nat.le_of_ble_eq_true rfl⟩ rfl (by decide) rfl rfl rfl rfl rfl (Nat.le_of_ble_eq_true rfl) (t_X12_records hu5) rfl rfl rfl ?_
      refine Go.blk zk_X12_removeCell [0, 0, 0, 0] (z' := (46, [some (.ref m_p), some (.int i1), some (.int i2), some (.int i3), some (.int u3)], [.int 1, .ref (m_a 0), .int 1, .ref (m_a 0)], ([sMo m_p m_a m_d u5.1 u5.2 m_read m_text m_typed m_n m_q m_r m_t m_heldQ m_heldR m_heldT m_heldN m_image m_built m_fixed m_isFree m_from m_some m_field m_queue m_near m_open m_closed m_at m_begin m_sort m_lastQ m_lastR m_lastT m_readN] : List ZW).flatten)) rfl ⟨rfl, trivial⟩ ?_
      obtain ⟨x6, hx6, h⟩ := z_bind h
      refine Go.iald zk_X12_removeCell 1 rfl rfl rfl hx6 ?_
      refine Go.blk zk_X12_removeCell [0, 0] (z' := (49, [some (.ref m_p), some (.int i1), some (.int i2), some (.int i3), some (.int u3)], [.int (x6 - 1), .int 1, .ref (m_a 0)], ([sMo m_p m_a m_d u5.1 u5.2 m_read m_text m_typed m_n m_q m_r m_t m_heldQ m_heldR m_heldT m_heldN m_image m_built m_fixed m_isFree m_from m_some m_field m_queue m_near m_open m_closed m_at m_begin m_sort m_lastQ m_lastR m_lastT m_readN] : List ZW).flatten)) rfl trivial ?_
      obtain ⟨t7, ht7, h⟩ := z_bind h
      refine Go.iast zk_X12_removeCell 1 rfl rfl rfl ht7 ?_
      refine Go.eqz (z2 := (50, [some (.ref m_p), some (.int i1), some (.int i2), some (.int i3), some (.int u3)], [], ([sMo m_p m_a t7 u5.1 u5.2 m_read m_text m_typed m_n m_q m_r m_t m_heldQ m_heldR m_heldT m_heldN m_image m_built m_fixed m_isFree m_from m_some m_field m_queue m_near m_open m_closed m_at m_begin m_sort m_lastQ m_lastR m_lastT m_readN] : List ZW).flatten)) rfl ?_
      refine Go.blk zk_X12_removeCell [0, 0, 0, 0, 0, 0, 0, 0, 0, 0, 0] (z' := (68, [some (.ref m_p), some (.int i1), some (.int i2), some (.int i3), some (.int u3)], [.int 1, .ref (m_a 0), .int 2, .ref (m_a 0), .int (2 + u3), .ref (m_a 0)], ([sMo m_p m_a t7 u5.1 u5.2 m_read m_text m_typed m_n m_q m_r m_t m_heldQ m_heldR m_heldT m_heldN m_image m_built m_fixed m_isFree m_from m_some m_field m_queue m_near m_open m_closed m_at m_begin m_sort m_lastQ m_lastR m_lastT m_readN] : List ZW).flatten)) rfl ⟨rfl, rfl, rfl, trivial⟩ ?_
      obtain ⟨x8, hx8, h⟩ := z_bind h
      refine Go.iald zk_X12_removeCell 1 rfl rfl rfl hx8 ?_
      refine Go.blk zk_X12_removeCell [0] (z' := (70, [some (.ref m_p), some (.int i1), some (.int i2), some (.int i3), some (.int u3)], [.int (2 + x8), .ref (m_a 0), .int (2 + u3), .ref (m_a 0)], ([sMo m_p m_a t7 u5.1 u5.2 m_read m_text m_typed m_n m_q m_r m_t m_heldQ m_heldR m_heldT m_heldN m_image m_built m_fixed m_isFree m_from m_some m_field m_queue m_near m_open m_closed m_at m_begin m_sort m_lastQ m_lastR m_lastT m_readN] : List ZW).flatten)) rfl trivial ?_
      obtain ⟨x9, hx9, h⟩ := z_bind h
      refine Go.iald zk_X12_removeCell 1 rfl rfl rfl hx9 ?_
      obtain ⟨t10, ht10, h⟩ := z_bind h
      refine Go.iast zk_X12_removeCell 1 rfl rfl rfl ht10 ?_
      refine Go.eqz (z2 := (72, [some (.ref m_p), some (.int i1), some (.int i2), some (.int i3), some (.int u3)], [], ([sMo m_p m_a t10 u5.1 u5.2 m_read m_text m_typed m_n m_q m_r m_t m_heldQ m_heldR m_heldT m_heldN m_image m_built m_fixed m_isFree m_from m_some m_field m_queue m_near m_open m_closed m_at m_begin m_sort m_lastQ m_lastR m_lastT m_readN] : List ZW).flatten)) rfl ?_
      refine Go.blk zk_X12_removeCell [0, 0, 0] (z' := (77, [some (.ref m_p), some (.int i1), some (.int i2), some (.int i3), some (.int u3)], [.int 1, .ref (m_a 0)], ([sMo m_p m_a t10 u5.1 u5.2 m_read m_text m_typed m_n m_q m_r m_t m_heldQ m_heldR m_heldT m_heldN m_image m_built m_fixed m_isFree m_from m_some m_field m_queue m_near m_open m_closed m_at m_begin m_sort m_lastQ m_lastR m_lastT m_readN] : List ZW).flatten)) rfl ⟨rfl, trivial⟩ ?_
      obtain ⟨x11, hx11, h⟩ := z_bind h
      refine Go.iald zk_X12_removeCell 1 rfl rfl rfl hx11 ?_
      obtain rfl := Option.some.inj h
      exact Go.iret zk_X12_removeCell rfl rfl rfl ⟨rfl, rfl⟩
set_option maxHeartbeats 4000000 in
set_option maxRecDepth 100000 in
theorem t_X12_move_L45 {N : Nat} {m_p : Nat} {m_a : Nat → Nat} {m_d : List Int32} {m_was : List Int32} {m_kept : Int32} {m_read : List Int32} {m_text : List Int32} {m_typed : Int32} {m_n : Int32} {m_heldQ : List Int32} {m_heldR : List Int32} {m_heldT : List Int32} {m_heldN : Int32} {m_image : List Int32} {m_built : Int32} {m_fixed : List Int64} {m_isFree : List Int32} {m_from : List Int32} {m_some : List Int64} {m_field : List Int32} {m_queue : List Int32} {m_near : List Int32} {m_open : List Int32} {m_closed : List Int32} {m_at : Int32} {m_begin : Int32} {m_sort : Int32} {m_lastQ : Int32} {m_lastR : Int32} {m_lastT : Int32} {m_readN : Int32} {v2 : Int32}  {Q : Option Value → ZW → Prop} : ∀ (fu : Nat) (v3 : Int32) (m_q : List Int32) (m_r : List Int32) (m_t : List Int32) (e : (List Int32) × (List Int32) × (List Int32)), f_X12_move_L45 N v2 m_d m_n fu v3 m_q m_r m_t = some e → (Go l D r (z_rl xs) zm_X12_move 0 0 (60, [some (.ref m_p), none, none, none], [], ([sMo m_p m_a m_d m_was m_kept m_read m_text m_typed m_n e.1 e.2.1 e.2.2 m_heldQ m_heldR m_heldT m_heldN m_image m_built m_fixed m_isFree m_from m_some m_field m_queue m_near m_open m_closed m_at m_begin m_sort m_lastQ m_lastR m_lastT m_readN] : List ZW).flatten) Q) → Go l D r (z_rl xs) zm_X12_move 0 0 (45, [some (.ref m_p), none, some (.int v2), some (.int v3)], [], ([sMo m_p m_a m_d m_was m_kept m_read m_text m_typed m_n m_q m_r m_t m_heldQ m_heldR m_heldT m_heldN m_image m_built m_fixed m_isFree m_from m_some m_field m_queue m_near m_open m_closed m_at m_begin m_sort m_lastQ m_lastR m_lastT m_readN] : List ZW).flatten) Q := by
  intro fu
  induction fu with
  | zero =>
    intro v3 m_q m_r m_t e h
    simp only [f_X12_move_L45, reduceCtorEq] at h
  | succ fu ih =>
    intro v3 m_q m_r m_t e h kk
    rw [f_X12_move_L45] at h
    refine Go.blk zk_X12_move [0, 0] (z' := (47, [some (.ref m_p), none, some (.int v2), some (.int v3)], [.int v2, .int v3], ([sMo m_p m_a m_d m_was m_kept m_read m_text m_typed m_n m_q m_r m_t m_heldQ m_heldR m_heldT m_heldN m_image m_built m_fixed m_isFree m_from m_some m_field m_queue m_near m_open m_closed m_at m_begin m_sort m_lastQ m_lastR m_lastT m_readN] : List ZW).flatten)) rfl trivial ?_
    by_cases hc10 : v3 < v2
    · rw [if_pos hc10] at h
      refine Go.br zk_X12_move rfl rfl (fun _ => ?_) (fun q => absurd hc10 q)
      refine Go.blk zk_X12_move [0] (z' := (51, [some (.ref m_p), none, some (.int v2), some (.int v3)], [.ref m_p], ([sMo m_p m_a m_d m_was m_kept m_read m_text m_typed m_n m_q m_r m_t m_heldQ m_heldR m_heldT m_heldN m_image m_built m_fixed m_isFree m_from m_some m_field m_queue m_near m_open m_closed m_at m_begin m_sort m_lastQ m_lastR m_lastT m_readN] : List ZW).flatten)) rfl trivial ?_
      obtain ⟨u11, hu11, h⟩ := z_bind h
      refine Go.vs zk_X12_move zm_X12_turns [0] [] 0 12 1 (S := [sMo m_p m_a m_d m_was m_kept m_read m_text m_typed m_n m_q m_r m_t m_heldQ m_heldR m_heldT m_heldN m_image m_built m_fixed m_isFree m_from m_some m_field m_queue m_near m_open m_closed m_at m_begin m_sort m_lastQ m_lastR m_lastT m_readN]) (S2 := [sMo m_p m_a m_d m_was m_kept m_read m_text m_typed m_n u11.1 u11.2.1 u11.2.2 m_heldQ m_heldR m_heldT m_heldN m_image m_built m_fixed m_isFree m_from m_some m_field m_queue m_near m_open m_closed m_at m_begin m_sort m_lastQ m_lastR m_lastT m_readN]) (As := []) (rest := []) (st2 := []) (v1 := none) rfl zl_X12_126 zv_X12_turns ⟨Nat.le_of_ble_eq_true rfl, Nat.le_of_ble_eq_true rfl⟩ rfl (by decide) rfl rfl rfl rfl rfl (Nat.le_of_ble_eq_true rfl) (t_X12_turns hu11) rfl rfl rfl ?_
      refine Go.blk zk_X12_move [0, 0] (z' := (45, [some (.ref m_p), none, some (.int v2), some (.int (v3 + 1))], [], ([sMo m_p m_a m_d m_was m_kept m_read m_text m_typed m_n u11.1 u11.2.1 u11.2.2 m_heldQ m_heldR m_heldT m_heldN m_image m_built m_fixed m_isFree m_from m_some m_field m_queue m_near m_open m_closed m_at m_begin m_sort m_lastQ m_lastR m_lastT m_readN] : List ZW).flatten)) rfl trivial ?_
      exact ih _ _ _ _ _ h kk
    · rw [if_neg hc10] at h
      refine Go.br zk_X12_move rfl rfl (fun q => absurd q hc10) (fun _ => ?_)
      obtain rfl := Option.some.inj h
      refine Go.weak (L := [some (.ref m_p), none, some (.int v2), some (.int v3)]) (L' := [some (.ref m_p), none, none, none]) (And.intro rfl (trivial)) ?_
      exact kk
set_option maxHeartbeats 4000000 in
set_option maxRecDepth 100000 in
theorem t_X12_move {N : Nat} {m_p : Nat} {m_a : Nat → Nat} {m_d : List Int32} {m_was : List Int32} {m_kept : Int32} {m_read : List Int32} {m_text : List Int32} {m_typed : Int32} {m_n : Int32} {m_q : List Int32} {m_r : List Int32} {m_t : List Int32} {m_heldQ : List Int32} {m_heldR : List Int32} {m_heldT : List Int32} {m_heldN : Int32} {m_image : List Int32} {m_built : Int32} {m_fixed : List Int64} {m_isFree : List Int32} {m_from : List Int32} {m_some : List Int64} {m_field : List Int32} {m_queue : List Int32} {m_near : List Int32} {m_open : List Int32} {m_closed : List Int32} {m_at : Int32} {m_begin : Int32} {m_sort : Int32} {m_lastQ : Int32} {m_lastR : Int32} {m_lastT : Int32} {m_readN : Int32} {i1 : Int32} {i2 : Int32} {u : Int32 × (List Int32) × (List Int32) × Int32 × Int32 × (List Int32) × (List Int32) × (List Int32)}  (h : f_X12_move N i1 i2 m_d m_was m_kept m_n m_q m_r m_t = some u) : Ct l D r (z_rl xs) zm_X12_move 0 0 [.ref m_p, .int i1, .int i2] ([sMo m_p m_a m_d m_was m_kept m_read m_text m_typed m_n m_q m_r m_t m_heldQ m_heldR m_heldT m_heldN m_image m_built m_fixed m_isFree m_from m_some m_field m_queue m_near m_open m_closed m_at m_begin m_sort m_lastQ m_lastR m_lastT m_readN] : List ZW).flatten (fun v' w' => v' = some (.int u.1) ∧ w' = ([sMo m_p m_a u.2.1 u.2.2.1 u.2.2.2.1 m_read m_text m_typed u.2.2.2.2.1 u.2.2.2.2.2.1 u.2.2.2.2.2.2.1 u.2.2.2.2.2.2.2 m_heldQ m_heldR m_heldT m_heldN m_image m_built m_fixed m_isFree m_from m_some m_field m_queue m_near m_open m_closed m_at m_begin m_sort m_lastQ m_lastR m_lastT m_readN] : List ZW).flatten) := by
  refine Ct.of (by decide +kernel) rfl (fun q => absurd q (by decide)) (Nat.le_of_ble_eq_true rfl) ?_
  refine Go.eqz (z2 := (0, [some (.ref m_p), some (.int i1), some (.int i2), none], [], ([sMo m_p m_a m_d m_was m_kept m_read m_text m_typed m_n m_q m_r m_t m_heldQ m_heldR m_heldT m_heldN m_image m_built m_fixed m_isFree m_from m_some m_field m_queue m_near m_open m_closed m_at m_begin m_sort m_lastQ m_lastR m_lastT m_readN] : List ZW).flatten)) rfl ?_
  unfold f_X12_move at h
  refine Go.blk zk_X12_move [0, 0, 0] (z' := (3, [some (.ref m_p), some (.int i1), some (.int i2), none], [.int 1, .int 0, .int i1], ([sMo m_p m_a m_d m_was m_kept m_read m_text m_typed m_n m_q m_r m_t m_heldQ m_heldR m_heldT m_heldN m_image m_built m_fixed m_isFree m_from m_some m_field m_queue m_near m_open m_closed m_at m_begin m_sort m_lastQ m_lastR m_lastT m_readN] : List ZW).flatten)) rfl trivial ?_
  obtain ⟨u1, hu1, h⟩ := z_bind h
  refine Go.ss zk_X12_move zm_X12_in [] [0] 1 (S := [sMo m_p m_a m_d m_was m_kept m_read m_text m_typed m_n m_q m_r m_t m_heldQ m_heldR m_heldT m_heldN m_image m_built m_fixed m_isFree m_from m_some m_field m_queue m_near m_open m_closed m_at m_begin m_sort m_lastQ m_lastR m_lastT m_readN]) (S2 := [sMo m_p m_a m_d m_was m_kept m_read m_text m_typed m_n m_q m_r m_t m_heldQ m_heldR m_heldT m_heldN m_image m_built m_fixed m_isFree m_from m_some m_field m_queue m_near m_open m_closed m_at m_begin m_sort m_lastQ m_lastR m_lastT m_readN]) (As := [.int i1, .int 0, .int 1]) (rest := []) (st2 := [.int u1]) (v1 := some (.int u1)) rfl zl_X12_184 zs_X12_in ⟨Nat.le_of_ble_eq_true rfl, Nat.le_of_ble_eq_true rfl⟩ rfl (by decide) rfl rfl (Nat.le_of_ble_eq_true rfl) (t_X12_in hu1) rfl rfl rfl ?_
  by_cases hc2 : u1 = 0
  · rw [if_pos hc2] at h
    refine Go.br zk_X12_move rfl rfl (fun _ => ?_) (fun q => absurd hc2 q)
    refine Go.blk zk_X12_move [0] (z' := (19, [some (.ref m_p), some (.int i1), some (.int i2), none], [.int (-1)], ([sMo m_p m_a m_d m_was m_kept m_read m_text m_typed m_n m_q m_r m_t m_heldQ m_heldR m_heldT m_heldN m_image m_built m_fixed m_isFree m_from m_some m_field m_queue m_near m_open m_closed m_at m_begin m_sort m_lastQ m_lastR m_lastT m_readN] : List ZW).flatten)) rfl trivial ?_
    obtain rfl := Option.some.inj h
    exact Go.iret zk_X12_move rfl rfl rfl ⟨rfl, rfl⟩
  · rw [if_neg hc2] at h
    refine Go.br zk_X12_move rfl rfl (fun q => absurd q hc2) (fun _ => ?_)
    refine Go.blk zk_X12_move [0, 0, 0] (z' := (12, [some (.ref m_p), some (.int i1), some (.int i2), none], [.int 5, .int 0, .int i2], ([sMo m_p m_a m_d m_was m_kept m_read m_text m_typed m_n m_q m_r m_t m_heldQ m_heldR m_heldT m_heldN m_image m_built m_fixed m_isFree m_from m_some m_field m_queue m_near m_open m_closed m_at m_begin m_sort m_lastQ m_lastR m_lastT m_readN] : List ZW).flatten)) rfl trivial ?_
    obtain ⟨u3, hu3, h⟩ := z_bind h
    refine Go.ss zk_X12_move zm_X12_in [] [0] 1 (S := [sMo m_p m_a m_d m_was m_kept m_read m_text m_typed m_n m_q m_r m_t m_heldQ m_heldR m_heldT m_heldN m_image m_built m_fixed m_isFree m_from m_some m_field m_queue m_near m_open m_closed m_at m_begin m_sort m_lastQ m_lastR m_lastT m_readN]) (S2 := [sMo m_p m_a m_d m_was m_kept m_read m_text m_typed m_n m_q m_r m_t m_heldQ m_heldR m_heldT m_heldN m_image m_built m_fixed m_isFree m_from m_some m_field m_queue m_near m_open m_closed m_at m_begin m_sort m_lastQ m_lastR m_lastT m_readN]) (As := [.int i2, .int 0, .int 5]) (rest := []) (st2 := [.int u3]) (v1 := some (.int u3)) rfl zl_X12_184 zs_X12_in ⟨Nat.le_of_ble_eq_true rfl, Nat.le_of_ble_eq_true rfl⟩ rfl (by decide) rfl rfl (Nat.le_of_ble_eq_true rfl) (t_X12_in hu3) rfl rfl rfl ?_
    by_cases hc4 : u3 = 0
    · rw [if_pos hc4] at h
      refine Go.br zk_X12_move rfl rfl (fun _ => ?_) (fun q => absurd hc4 q)
      refine Go.blk zk_X12_move [0] (z' := (19, [some (.ref m_p), some (.int i1), some (.int i2), none], [.int (-1)], ([sMo m_p m_a m_d m_was m_kept m_read m_text m_typed m_n m_q m_r m_t m_heldQ m_heldR m_heldT m_heldN m_image m_built m_fixed m_isFree m_from m_some m_field m_queue m_near m_open m_closed m_at m_begin m_sort m_lastQ m_lastR m_lastT m_readN] : List ZW).flatten)) rfl trivial ?_
      obtain rfl := Option.some.inj h
      exact Go.iret zk_X12_move rfl rfl rfl ⟨rfl, rfl⟩
    · rw [if_neg hc4] at h
      refine Go.br zk_X12_move rfl rfl (fun q => absurd q hc4) (fun _ => ?_)
      refine Go.blk zk_X12_move [0] (z' := (21, [some (.ref m_p), some (.int i1), some (.int i2), none], [.ref m_p], ([sMo m_p m_a m_d m_was m_kept m_read m_text m_typed m_n m_q m_r m_t m_heldQ m_heldR m_heldT m_heldN m_image m_built m_fixed m_isFree m_from m_some m_field m_queue m_near m_open m_closed m_at m_begin m_sort m_lastQ m_lastR m_lastT m_readN] : List ZW).flatten)) rfl trivial ?_
      obtain ⟨u5, hu5, h⟩ := z_bind h
      refine Go.vs zk_X12_move zm_X12_takesDraft [0] [] 0 12 1 (S := [sMo m_p m_a m_d m_was m_kept m_read m_text m_typed m_n m_q m_r m_t m_heldQ m_heldR m_heldT m_heldN m_image m_built m_fixed m_isFree m_from m_some m_field m_queue m_near m_open m_closed m_at m_begin m_sort m_lastQ m_lastR m_lastT m_readN]) (S2 := [sMo m_p m_a m_d m_was m_kept m_read m_text m_typed u5.1 u5.2.1 u5.2.2.1 u5.2.2.2 m_heldQ m_heldR m_heldT m_heldN m_image m_built m_fixed m_isFree m_from m_some m_field m_queue m_near m_open m_closed m_at m_begin m_sort m_lastQ m_lastR m_lastT m_readN]) (As := []) (rest := []) (st2 := []) (v1 := none) rfl zl_X12_197 zv_X12_takesDraft ⟨Nat.le_of_ble_eq_true rfl, Nat.le_of_ble_eq_true rfl⟩ rfl (by decide) rfl rfl rfl rfl rfl (Nat.le_of_ble_eq_true rfl) (t_X12_takesDraft hu5) rfl rfl rfl ?_
      refine Go.blk zk_X12_move [0] (z' := (25, [some (.ref m_p), some (.int i1), some (.int i2), none], [.ref m_p], ([sMo m_p m_a m_d m_was m_kept m_read m_text m_typed u5.1 u5.2.1 u5.2.2.1 u5.2.2.2 m_heldQ m_heldR m_heldT m_heldN m_image m_built m_fixed m_isFree m_from m_some m_field m_queue m_near m_open m_closed m_at m_begin m_sort m_lastQ m_lastR m_lastT m_readN] : List ZW).flatten)) rfl trivial ?_
      obtain ⟨u6, hu6, h⟩ := z_bind h
      refine Go.vs zk_X12_move zm_X12_isConnected [0] [] 0 12 1 (S := [sMo m_p m_a m_d m_was m_kept m_read m_text m_typed u5.1 u5.2.1 u5.2.2.1 u5.2.2.2 m_heldQ m_heldR m_heldT m_heldN m_image m_built m_fixed m_isFree m_from m_some m_field m_queue m_near m_open m_closed m_at m_begin m_sort m_lastQ m_lastR m_lastT m_readN]) (S2 := [sMo m_p m_a m_d m_was m_kept m_read m_text m_typed u5.1 u5.2.1 u5.2.2.1 u5.2.2.2 m_heldQ m_heldR m_heldT m_heldN m_image m_built m_fixed m_isFree m_from m_some m_field m_queue m_near m_open m_closed m_at m_begin m_sort m_lastQ m_lastR m_lastT m_readN]) (As := []) (rest := []) (st2 := [.int u6]) (v1 := some (.int u6)) rfl zl_X12_200 zv_X12_isConnected ⟨Nat.le_of_ble_eq_true rfl, Nat.le_of_ble_eq_true rfl⟩ rfl (by decide) rfl rfl rfl rfl rfl (Nat.le_of_ble_eq_true rfl) (t_X12_isConnected hu6) rfl rfl rfl ?_
      by_cases hc7 : u6 = 0
      · rw [if_pos hc7] at h
        refine Go.br zk_X12_move rfl rfl (fun _ => ?_) (fun q => absurd hc7 q)
        refine Go.blk zk_X12_move [0] (z' := (33, [some (.ref m_p), some (.int i1), some (.int i2), none], [.int (-2)], ([sMo m_p m_a m_d m_was m_kept m_read m_text m_typed u5.1 u5.2.1 u5.2.2.1 u5.2.2.2 m_heldQ m_heldR m_heldT m_heldN m_image m_built m_fixed m_isFree m_from m_some m_field m_queue m_near m_open m_closed m_at m_begin m_sort m_lastQ m_lastR m_lastT m_readN] : List ZW).flatten)) rfl trivial ?_
        obtain rfl := Option.some.inj h
        exact Go.iret zk_X12_move rfl rfl rfl ⟨rfl, rfl⟩
      · rw [if_neg hc7] at h
        refine Go.br zk_X12_move rfl rfl (fun q => absurd q hc7) (fun _ => ?_)
        refine Go.blk zk_X12_move [0, 0] (z' := (36, [some (.ref m_p), some (.int i1), some (.int i2), none], [.int 1, .int i1], ([sMo m_p m_a m_d m_was m_kept m_read m_text m_typed u5.1 u5.2.1 u5.2.2.1 u5.2.2.2 m_heldQ m_heldR m_heldT m_heldN m_image m_built m_fixed m_isFree m_from m_some m_field m_queue m_near m_open m_closed m_at m_begin m_sort m_lastQ m_lastR m_lastT m_readN] : List ZW).flatten)) rfl trivial ?_
        by_cases hc8 : i1 = 1
        · rw [if_pos hc8] at h
          refine Go.br zk_X12_move rfl rfl (fun _ => ?_) (fun q => absurd hc8 q)
          refine Go.blk zk_X12_move [0] (z' := (40, [some (.ref m_p), some (.int i1), some (.int i2), none], [.ref m_p], ([sMo m_p m_a m_d m_was m_kept m_read m_text m_typed u5.1 u5.2.1 u5.2.2.1 u5.2.2.2 m_heldQ m_heldR m_heldT m_heldN m_image m_built m_fixed m_isFree m_from m_some m_field m_queue m_near m_open m_closed m_at m_begin m_sort m_lastQ m_lastR m_lastT m_readN] : List ZW).flatten)) rfl trivial ?_
          obtain ⟨u9, hu9, h⟩ := z_bind h
          refine Go.vs zk_X12_move zm_X12_mirrors [0] [] 0 12 1 (S := [sMo m_p m_a m_d m_was m_kept m_read m_text m_typed u5.1 u5.2.1 u5.2.2.1 u5.2.2.2 m_heldQ m_heldR m_heldT m_heldN m_image m_built m_fixed m_isFree m_from m_some m_field m_queue m_near m_open m_closed m_at m_begin m_sort m_lastQ m_lastR m_lastT m_readN]) (S2 := [sMo m_p m_a m_d m_was m_kept m_read m_text m_typed u5.1 u9.1 u9.2 u5.2.2.2 m_heldQ m_heldR m_heldT m_heldN m_image m_built m_fixed m_isFree m_from m_some m_field m_queue m_near m_open m_closed m_at m_begin m_sort m_lastQ m_lastR m_lastT m_readN]) (As := []) (rest := []) (st2 := []) (v1 := none) rfl zl_X12_123 zv_X12_mirrors ⟨Nat.le_of_ble_eq_true rfl, Nat.le_of_ble_eq_true rfl⟩ rfl (by decide) rfl rfl rfl rfl rfl (Nat.le_of_ble_eq_true rfl) (t_X12_mirrors hu9) rfl rfl rfl ?_
          refine Go.blk zk_X12_move [0, 0] (z' := (45, [some (.ref m_p), some (.int i1), some (.int i2), some (.int 0)], [], ([sMo m_p m_a m_d m_was m_kept m_read m_text m_typed u5.1 u9.1 u9.2 u5.2.2.2 m_heldQ m_heldR m_heldT m_heldN m_image m_built m_fixed m_isFree m_from m_some m_field m_queue m_near m_open m_closed m_at m_begin m_sort m_lastQ m_lastR m_lastT m_readN] : List ZW).flatten)) rfl trivial ?_
          refine Go.weak (L := [some (.ref m_p), some (.int i1), some (.int i2), some (.int 0)]) (L' := [some (.ref m_p), none, some (.int i2), some (.int 0)]) (And.intro rfl (And.intro rfl (And.intro rfl (trivial)))) ?_
          obtain ⟨e12, he12, h⟩ := z_bind h
          refine t_X12_move_L45 N _ _ _ _ _ he12 ?_
          refine Go.blk zk_X12_move [0] (z' := (61, [some (.ref m_p), none, none, none], [.ref m_p], ([sMo m_p m_a m_d m_was m_kept m_read m_text m_typed u5.1 e12.1 e12.2.1 e12.2.2 m_heldQ m_heldR m_heldT m_heldN m_image m_built m_fixed m_isFree m_from m_some m_field m_queue m_near m_open m_closed m_at m_begin m_sort m_lastQ m_lastR m_lastT m_readN] : List ZW).flatten)) rfl trivial ?_
          obtain ⟨u13, hu13, h⟩ := z_bind h
          refine Go.vs zk_X12_move zm_X12_settles [0] [] 0 12 1 (S := [sMo m_p m_a m_d m_was m_kept m_read m_text m_typed u5.1 e12.1 e12.2.1 e12.2.2 m_heldQ m_heldR m_heldT m_heldN m_image m_built m_fixed m_isFree m_from m_some m_field m_queue m_near m_open m_closed m_at m_begin m_sort m_lastQ m_lastR m_lastT m_readN]) (S2 := [sMo m_p m_a m_d m_was m_kept m_read m_text m_typed u5.1 u13.1 u13.2.1 u13.2.2 m_heldQ m_heldR m_heldT m_heldN m_image m_built m_fixed m_isFree m_from m_some m_field m_queue m_near m_open m_closed m_at m_begin m_sort m_lastQ m_lastR m_lastT m_readN]) (As := []) (rest := []) (st2 := []) (v1 := none) rfl zl_X12_129 zv_X12_settles ⟨Nat.le_of_ble_eq_true rfl, Nat.le_of_ble_eq_true rfl⟩ rfl (by decide) rfl rfl rfl rfl rfl (Nat.le_of_ble_eq_true rfl) (t_X12_settles hu13) rfl rfl rfl ?_
          refine Go.blk zk_X12_move [0] (z' := (65, [some (.ref m_p), none, none, none], [.ref m_p], ([sMo m_p m_a m_d m_was m_kept m_read m_text m_typed u5.1 u13.1 u13.2.1 u13.2.2 m_heldQ m_heldR m_heldT m_heldN m_image m_built m_fixed m_isFree m_from m_some m_field m_queue m_near m_open m_closed m_at m_begin m_sort m_lastQ m_lastR m_lastT m_readN] : List ZW).flatten)) rfl trivial ?_
          obtain ⟨u14, hu14, h⟩ := z_bind h
          refine Go.vs zk_X12_move zm_X12_isWide [0] [] 0 12 1 (S := [sMo m_p m_a m_d m_was m_kept m_read m_text m_typed u5.1 u13.1 u13.2.1 u13.2.2 m_heldQ m_heldR m_heldT m_heldN m_image m_built m_fixed m_isFree m_from m_some m_field m_queue m_near m_open m_closed m_at m_begin m_sort m_lastQ m_lastR m_lastT m_readN]) (S2 := [sMo m_p m_a m_d m_was m_kept m_read m_text m_typed u5.1 u13.1 u13.2.1 u13.2.2 m_heldQ m_heldR m_heldT m_heldN m_image m_built m_fixed m_isFree m_from m_some m_field m_queue m_near m_open m_closed m_at m_begin m_sort m_lastQ m_lastR m_lastT m_readN]) (As := []) (rest := []) (st2 := [.int u14]) (v1 := some (.int u14)) rfl zl_X12_132 zv_X12_isWide ⟨Nat.le_of_ble_eq_true rfl, Nat.le_of_ble_eq_true rfl⟩ rfl (by decide) rfl rfl rfl rfl rfl (Nat.le_of_ble_eq_true rfl) (t_X12_isWide hu14) rfl rfl rfl ?_
          by_cases hc15 : u14 = 0
          · rw [if_pos hc15] at h
            refine Go.br zk_X12_move rfl rfl (fun _ => ?_) (fun q => absurd hc15 q)
            refine Go.blk zk_X12_move [0] (z' := (75, [some (.ref m_p), none, none, none], [.ref m_p], ([sMo m_p m_a m_d m_was m_kept m_read m_text m_typed u5.1 u13.1 u13.2.1 u13.2.2 m_heldQ m_heldR m_heldT m_heldN m_image m_built m_fixed m_isFree m_from m_some m_field m_queue m_near m_open m_closed m_at m_begin m_sort m_lastQ m_lastR m_lastT m_readN] : List ZW).flatten)) rfl trivial ?_
            obtain ⟨u16, hu16, h⟩ := z_bind h
            refine Go.vs zk_X12_move zm_X12_records [0] [] 0 12 1 (S := [sMo m_p m_a m_d m_was m_kept m_read m_text m_typed u5.1 u13.1 u13.2.1 u13.2.2 m_heldQ m_heldR m_heldT m_heldN m_image m_built m_fixed m_isFree m_from m_some m_field m_queue m_near m_open m_closed m_at m_begin m_sort m_lastQ m_lastR m_lastT m_readN]) (S2 := [sMo m_p m_a m_d u16.1 u16.2 m_read m_text m_typed u5.1 u13.1 u13.2.1 u13.2.2 m_heldQ m_heldR m_heldT m_heldN m_image m_built m_fixed m_isFree m_from m_some m_field m_queue m_near m_open m_closed m_at m_begin m_sort m_lastQ m_lastR m_lastT m_readN]) (As := []) (rest := []) (st2 := []) (v1 := none) rfl zl_X12_188 zv_X12_records ⟨Nat.le_of_ble_eq_true rfl, Nat.le_of_ble_eq_true rfl⟩ rfl (by decide) rfl rfl rfl rfl rfl (Nat.le_of_ble_eq_true rfl) (t_X12_records hu16) rfl rfl rfl ?_
            refine Go.blk zk_X12_move [0] (z' := (79, [some (.ref m_p), none, none, none], [.ref m_p], ([sMo m_p m_a m_d u16.1 u16.2 m_read m_text m_typed u5.1 u13.1 u13.2.1 u13.2.2 m_heldQ m_heldR m_heldT m_heldN m_image m_built m_fixed m_isFree m_from m_some m_field m_queue m_near m_open m_closed m_at m_begin m_sort m_lastQ m_lastR m_lastT m_readN] : List ZW).flatten)) rfl trivial ?_
            obtain ⟨u17, hu17, h⟩ := z_bind h
            refine Go.vs zk_X12_move zm_X12_lays [0] [] 0 12 1 (S := [sMo m_p m_a m_d u16.1 u16.2 m_read m_text m_typed u5.1 u13.1 u13.2.1 u13.2.2 m_heldQ m_heldR m_heldT m_heldN m_image m_built m_fixed m_isFree m_from m_some m_field m_queue m_near m_open m_closed m_at m_begin m_sort m_lastQ m_lastR m_lastT m_readN]) (S2 := [sMo m_p m_a u17 u16.1 u16.2 m_read m_text m_typed u5.1 u13.1 u13.2.1 u13.2.2 m_heldQ m_heldR m_heldT m_heldN m_image m_built m_fixed m_isFree m_from m_some m_field m_queue m_near m_open m_closed m_at m_begin m_sort m_lastQ m_lastR m_lastT m_readN]) (As := []) (rest := []) (st2 := []) (v1 := none) rfl zl_X12_203 zv_X12_lays ⟨Nat.le_of_ble_eq_true rfl, Nat.le_of_ble_eq_true rfl⟩ rfl (by decide) rfl rfl rfl rfl rfl (Nat.le_of_ble_eq_true rfl) (t_X12_lays hu17) rfl rfl rfl ?_
            refine Go.blk zk_X12_move [0, 0, 0] (z' := (87, [some (.ref m_p), none, none, none], [.int 2, .ref (m_a 0)], ([sMo m_p m_a u17 u16.1 u16.2 m_read m_text m_typed u5.1 u13.1 u13.2.1 u13.2.2 m_heldQ m_heldR m_heldT m_heldN m_image m_built m_fixed m_isFree m_from m_some m_field m_queue m_near m_open m_closed m_at m_begin m_sort m_lastQ m_lastR m_lastT m_readN] : List ZW).flatten)) rfl ⟨rfl, trivial⟩ ?_
            obtain ⟨x18, hx18, h⟩ := z_bind h
            refine Go.iald zk_X12_move 1 rfl rfl rfl hx18 ?_
            obtain rfl := Option.some.inj h
            exact Go.iret zk_X12_move rfl rfl rfl ⟨rfl, rfl⟩
          · rw [if_neg hc15] at h
            refine Go.br zk_X12_move rfl rfl (fun q => absurd q hc15) (fun _ => ?_)
            refine Go.blk zk_X12_move [0] (z' := (73, [some (.ref m_p), none, none, none], [.int (-2)], ([sMo m_p m_a m_d m_was m_kept m_read m_text m_typed u5.1 u13.1 u13.2.1 u13.2.2 m_heldQ m_heldR m_heldT m_heldN m_image m_built m_fixed m_isFree m_from m_some m_field m_queue m_near m_open m_closed m_at m_begin m_sort m_lastQ m_lastR m_lastT m_readN] : List ZW).flatten)) rfl trivial ?_
            obtain rfl := Option.some.inj h
            exact Go.iret zk_X12_move rfl rfl rfl ⟨rfl, rfl⟩
        · rw [if_neg hc8] at h
          refine Go.br zk_X12_move rfl rfl (fun q => absurd q hc8) (fun _ => ?_)
          refine Go.blk zk_X12_move [0, 0] (z' := (45, [some (.ref m_p), some (.int i1), some (.int i2), some (.int 0)], [], ([sMo m_p m_a m_d m_was m_kept m_read m_text m_typed u5.1 u5.2.1 u5.2.2.1 u5.2.2.2 m_heldQ m_heldR m_heldT m_heldN m_image m_built m_fixed m_isFree m_from m_some m_field m_queue m_near m_open m_closed m_at m_begin m_sort m_lastQ m_lastR m_lastT m_readN] : List ZW).flatten)) rfl trivial ?_
          refine Go.weak (L := [some (.ref m_p), some (.int i1), some (.int i2), some (.int 0)]) (L' := [some (.ref m_p), none, some (.int i2), some (.int 0)]) (And.intro rfl (And.intro rfl (And.intro rfl (trivial)))) ?_
          obtain ⟨e19, he19, h⟩ := z_bind h
          refine t_X12_move_L45 N _ _ _ _ _ he19 ?_
          refine Go.blk zk_X12_move [0] (z' := (61, [some (.ref m_p), none, none, none], [.ref m_p], ([sMo m_p m_a m_d m_was m_kept m_read m_text m_typed u5.1 e19.1 e19.2.1 e19.2.2 m_heldQ m_heldR m_heldT m_heldN m_image m_built m_fixed m_isFree m_from m_some m_field m_queue m_near m_open m_closed m_at m_begin m_sort m_lastQ m_lastR m_lastT m_readN] : List ZW).flatten)) rfl trivial ?_
          obtain ⟨u20, hu20, h⟩ := z_bind h
          refine Go.vs zk_X12_move zm_X12_settles [0] [] 0 12 1 (S := [sMo m_p m_a m_d m_was m_kept m_read m_text m_typed u5.1 e19.1 e19.2.1 e19.2.2 m_heldQ m_heldR m_heldT m_heldN m_image m_built m_fixed m_isFree m_from m_some m_field m_queue m_near m_open m_closed m_at m_begin m_sort m_lastQ m_lastR m_lastT m_readN]) (S2 := [sMo m_p m_a m_d m_was m_kept m_read m_text m_typed u5.1 u20.1 u20.2.1 u20.2.2 m_heldQ m_heldR m_heldT m_heldN m_image m_built m_fixed m_isFree m_from m_some m_field m_queue m_near m_open m_closed m_at m_begin m_sort m_lastQ m_lastR m_lastT m_readN]) (As := []) (rest := []) (st2 := []) (v1 := none) rfl zl_X12_129 zv_X12_settles ⟨Nat.le_of_ble_eq_true rfl, Nat.le_of_ble_eq_true rfl⟩ rfl (by decide) rfl rfl rfl rfl rfl (Nat.le_of_ble_eq_true rfl) (t_X12_settles hu20) rfl rfl rfl ?_
          refine Go.blk zk_X12_move [0] (z' := (65, [some (.ref m_p), none, none, none], [.ref m_p], ([sMo m_p m_a m_d m_was m_kept m_read m_text m_typed u5.1 u20.1 u20.2.1 u20.2.2 m_heldQ m_heldR m_heldT m_heldN m_image m_built m_fixed m_isFree m_from m_some m_field m_queue m_near m_open m_closed m_at m_begin m_sort m_lastQ m_lastR m_lastT m_readN] : List ZW).flatten)) rfl trivial ?_
          obtain ⟨u21, hu21, h⟩ := z_bind h
          refine Go.vs zk_X12_move zm_X12_isWide [0] [] 0 12 1 (S := [sMo m_p m_a m_d m_was m_kept m_read m_text m_typed u5.1 u20.1 u20.2.1 u20.2.2 m_heldQ m_heldR m_heldT m_heldN m_image m_built m_fixed m_isFree m_from m_some m_field m_queue m_near m_open m_closed m_at m_begin m_sort m_lastQ m_lastR m_lastT m_readN]) (S2 := [sMo m_p m_a m_d m_was m_kept m_read m_text m_typed u5.1 u20.1 u20.2.1 u20.2.2 m_heldQ m_heldR m_heldT m_heldN m_image m_built m_fixed m_isFree m_from m_some m_field m_queue m_near m_open m_closed m_at m_begin m_sort m_lastQ m_lastR m_lastT m_readN]) (As := []) (rest := []) (st2 := [.int u21]) (v1 := some (.int u21)) rfl zl_X12_132 zv_X12_isWide ⟨Nat.le_of_ble_eq_true rfl, Nat.le_of_ble_eq_true rfl⟩ rfl (by decide) rfl rfl rfl rfl rfl (Nat.le_of_ble_eq_true rfl) (t_X12_isWide hu21) rfl rfl rfl ?_
          by_cases hc22 : u21 = 0
          · rw [if_pos hc22] at h
            refine Go.br zk_X12_move rfl rfl (fun _ => ?_) (fun q => absurd hc22 q)
            refine Go.blk zk_X12_move [0] (z' := (75, [some (.ref m_p), none, none, none], [.ref m_p], ([sMo m_p m_a m_d m_was m_kept m_read m_text m_typed u5.1 u20.1 u20.2.1 u20.2.2 m_heldQ m_heldR m_heldT m_heldN m_image m_built m_fixed m_isFree m_from m_some m_field m_queue m_near m_open m_closed m_at m_begin m_sort m_lastQ m_lastR m_lastT m_readN] : List ZW).flatten)) rfl trivial ?_
            obtain ⟨u23, hu23, h⟩ := z_bind h
            refine Go.vs zk_X12_move zm_X12_records [0] [] 0 12 1 (S := [sMo m_p m_a m_d m_was m_kept m_read m_text m_typed u5.1 u20.1 u20.2.1 u20.2.2 m_heldQ m_heldR m_heldT m_heldN m_image m_built m_fixed m_isFree m_from m_some m_field m_queue m_near m_open m_closed m_at m_begin m_sort m_lastQ m_lastR m_lastT m_readN]) (S2 := [sMo m_p m_a m_d u23.1 u23.2 m_read m_text m_typed u5.1 u20.1 u20.2.1 u20.2.2 m_heldQ m_heldR m_heldT m_heldN m_image m_built m_fixed m_isFree m_from m_some m_field m_queue m_near m_open m_closed m_at m_begin m_sort m_lastQ m_lastR m_lastT m_readN]) (As := []) (rest := []) (st2 := []) (v1 := none) rfl zl_X12_188 zv_X12_records ⟨Nat.le_of_ble_eq_true rfl, Nat.le_of_ble_eq_true rfl⟩ rfl (by decide) rfl rfl rfl rfl rfl (Nat.le_of_ble_eq_true rfl) (t_X12_records hu23) rfl rfl rfl ?_
            refine Go.blk zk_X12_move [0] (z' := (79, [some (.ref m_p), none, none, none], [.ref m_p], ([sMo m_p m_a m_d u23.1 u23.2 m_read m_text m_typed u5.1 u20.1 u20.2.1 u20.2.2 m_heldQ m_heldR m_heldT m_heldN m_image m_built m_fixed m_isFree m_from m_some m_field m_queue m_near m_open m_closed m_at m_begin m_sort m_lastQ m_lastR m_lastT m_readN] : List ZW).flatten)) rfl trivial ?_
            obtain ⟨u24, hu24, h⟩ := z_bind h
            refine Go.vs zk_X12_move zm_X12_lays [0] [] 0 12 1 (S := [sMo m_p m_a m_d u23.1 u23.2 m_read m_text m_typed u5.1 u20.1 u20.2.1 u20.2.2 m_heldQ m_heldR m_heldT m_heldN m_image m_built m_fixed m_isFree m_from m_some m_field m_queue m_near m_open m_closed m_at m_begin m_sort m_lastQ m_lastR m_lastT m_readN]) (S2 := [sMo m_p m_a u24 u23.1 u23.2 m_read m_text m_typed u5.1 u20.1 u20.2.1 u20.2.2 m_heldQ m_heldR m_heldT m_heldN m_image m_built m_fixed m_isFree m_from m_some m_field m_queue m_near m_open m_closed m_at m_begin m_sort m_lastQ m_lastR m_lastT m_readN]) (As := []) (rest := []) (st2 := []) (v1 := none) rfl zl_X12_203 zv_X12_lays ⟨Nat.le_of_ble_eq_true rfl, Nat.le_of_ble_eq_true rfl⟩ rfl (by decide) rfl rfl rfl rfl rfl (Nat.le_of_ble_eq_true rfl) (t_X12_lays hu24) rfl rfl rfl ?_
            refine Go.blk zk_X12_move [0, 0, 0] (z' := (87, [some (.ref m_p), none, none, none], [.int 2, .ref (m_a 0)], ([sMo m_p m_a u24 u23.1 u23.2 m_read m_text m_typed u5.1 u20.1 u20.2.1 u20.2.2 m_heldQ m_heldR m_heldT m_heldN m_image m_built m_fixed m_isFree m_from m_some m_field m_queue m_near m_open m_closed m_at m_begin m_sort m_lastQ m_lastR m_lastT m_readN] : List ZW).flatten)) rfl ⟨rfl, trivial⟩ ?_
            obtain ⟨x25, hx25, h⟩ := z_bind h
            refine Go.iald zk_X12_move 1 rfl rfl rfl hx25 ?_
            obtain rfl := Option.some.inj h
            exact Go.iret zk_X12_move rfl rfl rfl ⟨rfl, rfl⟩
          · rw [if_neg hc22] at h
            refine Go.br zk_X12_move rfl rfl (fun q => absurd q hc22) (fun _ => ?_)
            refine Go.blk zk_X12_move [0] (z' := (73, [some (.ref m_p), none, none, none], [.int (-2)], ([sMo m_p m_a m_d m_was m_kept m_read m_text m_typed u5.1 u20.1 u20.2.1 u20.2.2 m_heldQ m_heldR m_heldT m_heldN m_image m_built m_fixed m_isFree m_from m_some m_field m_queue m_near m_open m_closed m_at m_begin m_sort m_lastQ m_lastR m_lastT m_readN] : List ZW).flatten)) rfl trivial ?_
            obtain rfl := Option.some.inj h
            exact Go.iret zk_X12_move rfl rfl rfl ⟨rfl, rfl⟩
set_option maxHeartbeats 4000000 in
set_option maxRecDepth 100000 in
theorem t_X12_take {N : Nat} {m_p : Nat} {m_a : Nat → Nat} {m_d : List Int32} {m_was : List Int32} {m_kept : Int32} {m_read : List Int32} {m_text : List Int32} {m_typed : Int32} {m_n : Int32} {m_q : List Int32} {m_r : List Int32} {m_t : List Int32} {m_heldQ : List Int32} {m_heldR : List Int32} {m_heldT : List Int32} {m_heldN : Int32} {m_image : List Int32} {m_built : Int32} {m_fixed : List Int64} {m_isFree : List Int32} {m_from : List Int32} {m_some : List Int64} {m_field : List Int32} {m_queue : List Int32} {m_near : List Int32} {m_open : List Int32} {m_closed : List Int32} {m_at : Int32} {m_begin : Int32} {m_sort : Int32} {m_lastQ : Int32} {m_lastR : Int32} {m_lastT : Int32} {m_readN : Int32} {i1 : Int32} {i2 : Int32} {u : Int32 × (List Int32) × (List Int32) × Int32 × Int32 × (List Int32) × (List Int32) × (List Int32) × (List Int32) × (List Int32) × (List Int32) × Int32 × (List Int32) × Int32 × (List Int64) × (List Int32) × (List Int32)}  (h : f_X12_take N i1 i2 m_d m_was m_kept m_n m_q m_r m_t m_heldQ m_heldR m_heldT m_heldN m_image m_built m_fixed m_isFree m_from = some u) : Ct l D r (z_rl xs) zm_X12_take 0 0 [.ref m_p, .int i1, .int i2] ([sMo m_p m_a m_d m_was m_kept m_read m_text m_typed m_n m_q m_r m_t m_heldQ m_heldR m_heldT m_heldN m_image m_built m_fixed m_isFree m_from m_some m_field m_queue m_near m_open m_closed m_at m_begin m_sort m_lastQ m_lastR m_lastT m_readN] : List ZW).flatten (fun v' w' => v' = some (.int u.1) ∧ w' = ([sMo m_p m_a u.2.1 u.2.2.1 u.2.2.2.1 m_read m_text m_typed u.2.2.2.2.1 u.2.2.2.2.2.1 u.2.2.2.2.2.2.1 u.2.2.2.2.2.2.2.1 u.2.2.2.2.2.2.2.2.1 u.2.2.2.2.2.2.2.2.2.1 u.2.2.2.2.2.2.2.2.2.2.1 u.2.2.2.2.2.2.2.2.2.2.2.1 u.2.2.2.2.2.2.2.2.2.2.2.2.1 u.2.2.2.2.2.2.2.2.2.2.2.2.2.1 u.2.2.2.2.2.2.2.2.2.2.2.2.2.2.1 u.2.2.2.2.2.2.2.2.2.2.2.2.2.2.2.1 u.2.2.2.2.2.2.2.2.2.2.2.2.2.2.2.2 m_some m_field m_queue m_near m_open m_closed m_at m_begin m_sort m_lastQ m_lastR m_lastT m_readN] : List ZW).flatten) := by
  refine Ct.of (by decide +kernel) rfl (fun q => absurd q (by decide)) (Nat.le_of_ble_eq_true rfl) ?_
  refine Go.eqz (z2 := (0, [some (.ref m_p), some (.int i1), some (.int i2), none], [], ([sMo m_p m_a m_d m_was m_kept m_read m_text m_typed m_n m_q m_r m_t m_heldQ m_heldR m_heldT m_heldN m_image m_built m_fixed m_isFree m_from m_some m_field m_queue m_near m_open m_closed m_at m_begin m_sort m_lastQ m_lastR m_lastT m_readN] : List ZW).flatten)) rfl ?_
  unfold f_X12_take at h
  refine Go.blk zk_X12_take [0, 0, 0] (z' := (3, [some (.ref m_p), some (.int i1), some (.int i2), none], [.ref m_p, .int 1, .int i1], ([sMo m_p m_a m_d m_was m_kept m_read m_text m_typed m_n m_q m_r m_t m_heldQ m_heldR m_heldT m_heldN m_image m_built m_fixed m_isFree m_from m_some m_field m_queue m_near m_open m_closed m_at m_begin m_sort m_lastQ m_lastR m_lastT m_readN] : List ZW).flatten)) rfl trivial ?_
  obtain ⟨u1, hu1, h⟩ := z_bind h
  refine Go.vs zk_X12_take zm_X12_greatest [0] [] 0 12 1 (S := [sMo m_p m_a m_d m_was m_kept m_read m_text m_typed m_n m_q m_r m_t m_heldQ m_heldR m_heldT m_heldN m_image m_built m_fixed m_isFree m_from m_some m_field m_queue m_near m_open m_closed m_at m_begin m_sort m_lastQ m_lastR m_lastT m_readN]) (S2 := [sMo m_p m_a m_d m_was m_kept m_read m_text m_typed m_n m_q m_r m_t m_heldQ m_heldR m_heldT m_heldN m_image m_built m_fixed m_isFree m_from m_some m_field m_queue m_near m_open m_closed m_at m_begin m_sort m_lastQ m_lastR m_lastT m_readN]) (As := []) (rest := [.int 1, .int i1]) (st2 := [.int u1, .int 1, .int i1]) (v1 := some (.int u1)) rfl zl_X12_160 zv_X12_greatest ⟨Nat.le_of_ble_eq_true rfl, Nat.le_of_ble_eq_true rfl⟩ rfl (by decide) rfl rfl rfl rfl rfl (Nat.le_of_ble_eq_true rfl) (t_X12_greatest hu1) rfl rfl rfl ?_
  obtain ⟨u2, hu2, h⟩ := z_bind h
  refine Go.ss zk_X12_take zm_X12_in [] [0] 1 (S := [sMo m_p m_a m_d m_was m_kept m_read m_text m_typed m_n m_q m_r m_t m_heldQ m_heldR m_heldT m_heldN m_image m_built m_fixed m_isFree m_from m_some m_field m_queue m_near m_open m_closed m_at m_begin m_sort m_lastQ m_lastR m_lastT m_readN]) (S2 := [sMo m_p m_a m_d m_was m_kept m_read m_text m_typed m_n m_q m_r m_t m_heldQ m_heldR m_heldT m_heldN m_image m_built m_fixed m_isFree m_from m_some m_field m_queue m_near m_open m_closed m_at m_begin m_sort m_lastQ m_lastR m_lastT m_readN]) (As := [.int i1, .int 1, .int u1]) (rest := []) (st2 := [.int u2]) (v1 := some (.int u2)) rfl zl_X12_184 zs_X12_in ⟨Nat.le_of_ble_eq_true rfl, Nat.le_of_ble_eq_true rfl⟩ rfl (by decide) rfl rfl (Nat.le_of_ble_eq_true rfl) (t_X12_in hu2) rfl rfl rfl ?_
  by_cases hc3 : u2 = 0
  · rw [if_pos hc3] at h
    refine Go.br zk_X12_take rfl rfl (fun _ => ?_) (fun q => absurd hc3 q)
    refine Go.blk zk_X12_take [0] (z' := (17, [some (.ref m_p), some (.int i1), some (.int i2), none], [.int (-1)], ([sMo m_p m_a m_d m_was m_kept m_read m_text m_typed m_n m_q m_r m_t m_heldQ m_heldR m_heldT m_heldN m_image m_built m_fixed m_isFree m_from m_some m_field m_queue m_near m_open m_closed m_at m_begin m_sort m_lastQ m_lastR m_lastT m_readN] : List ZW).flatten)) rfl trivial ?_
    obtain rfl := Option.some.inj h
    exact Go.iret zk_X12_take rfl rfl rfl ⟨rfl, rfl⟩
  · rw [if_neg hc3] at h
    refine Go.br zk_X12_take rfl rfl (fun q => absurd q hc3) (fun _ => ?_)
    refine Go.blk zk_X12_take [0] (z' := (13, [some (.ref m_p), some (.int i1), some (.int i2), none], [.int i2], ([sMo m_p m_a m_d m_was m_kept m_read m_text m_typed m_n m_q m_r m_t m_heldQ m_heldR m_heldT m_heldN m_image m_built m_fixed m_isFree m_from m_some m_field m_queue m_near m_open m_closed m_at m_begin m_sort m_lastQ m_lastR m_lastT m_readN] : List ZW).flatten)) rfl trivial ?_
    by_cases hc4 : i2 < 0
    · rw [if_pos hc4] at h
      refine Go.br zk_X12_take rfl rfl (fun _ => ?_) (fun q => absurd hc4 q)
      refine Go.blk zk_X12_take [0] (z' := (17, [some (.ref m_p), some (.int i1), some (.int i2), none], [.int (-1)], ([sMo m_p m_a m_d m_was m_kept m_read m_text m_typed m_n m_q m_r m_t m_heldQ m_heldR m_heldT m_heldN m_image m_built m_fixed m_isFree m_from m_some m_field m_queue m_near m_open m_closed m_at m_begin m_sort m_lastQ m_lastR m_lastT m_readN] : List ZW).flatten)) rfl trivial ?_
      obtain rfl := Option.some.inj h
      exact Go.iret zk_X12_take rfl rfl rfl ⟨rfl, rfl⟩
    · rw [if_neg hc4] at h
      refine Go.br zk_X12_take rfl rfl (fun q => absurd q hc4) (fun _ => ?_)
      refine Go.blk zk_X12_take [0, 0, 0, 0] (z' := (22, [some (.ref m_p), some (.int i1), some (.int i2), none], [.int i2, .int i1, .int 1, .ref m_p], ([sMo m_p m_a m_d m_was m_kept m_read m_text m_typed m_n m_q m_r m_t m_heldQ m_heldR m_heldT m_heldN m_image m_built m_fixed m_isFree m_from m_some m_field m_queue m_near m_open m_closed m_at m_begin m_sort m_lastQ m_lastR m_lastT m_readN] : List ZW).flatten)) rfl trivial ?_
      obtain ⟨u5, hu5, h⟩ := z_bind h
      refine Go.vs zk_X12_take zm_X12_placeOf [0] [] 0 12 1 (S := [sMo m_p m_a m_d m_was m_kept m_read m_text m_typed m_n m_q m_r m_t m_heldQ m_heldR m_heldT m_heldN m_image m_built m_fixed m_isFree m_from m_some m_field m_queue m_near m_open m_closed m_at m_begin m_sort m_lastQ m_lastR m_lastT m_readN]) (S2 := [sMo m_p m_a m_d m_was m_kept m_read m_text m_typed u5.2.1 u5.2.2.1 u5.2.2.2.1 u5.2.2.2.2.1 u5.2.2.2.2.2.1 u5.2.2.2.2.2.2.1 u5.2.2.2.2.2.2.2.1 u5.2.2.2.2.2.2.2.2.1 u5.2.2.2.2.2.2.2.2.2.1 u5.2.2.2.2.2.2.2.2.2.2.1 u5.2.2.2.2.2.2.2.2.2.2.2.1 u5.2.2.2.2.2.2.2.2.2.2.2.2.1 u5.2.2.2.2.2.2.2.2.2.2.2.2.2 m_some m_field m_queue m_near m_open m_closed m_at m_begin m_sort m_lastQ m_lastR m_lastT m_readN]) (As := [.int 1, .int i1, .int i2]) (rest := []) (st2 := [.int u5.1]) (v1 := some (.int u5.1)) rfl zl_X12_206 zv_X12_placeOf ⟨Nat.le_of_ble_eq_true rfl, Nat.le_of_ble_eq_true rfl⟩ rfl (by decide) rfl rfl rfl rfl rfl (Nat.le_of_ble_eq_true rfl) (t_X12_placeOf hu5) rfl rfl rfl ?_
      refine Go.blk zk_X12_take [0, 0] (z' := (27, [some (.ref m_p), some (.int i1), some (.int i2), some (.int u5.1)], [.int u5.1], ([sMo m_p m_a m_d m_was m_kept m_read m_text m_typed u5.2.1 u5.2.2.1 u5.2.2.2.1 u5.2.2.2.2.1 u5.2.2.2.2.2.1 u5.2.2.2.2.2.2.1 u5.2.2.2.2.2.2.2.1 u5.2.2.2.2.2.2.2.2.1 u5.2.2.2.2.2.2.2.2.2.1 u5.2.2.2.2.2.2.2.2.2.2.1 u5.2.2.2.2.2.2.2.2.2.2.2.1 u5.2.2.2.2.2.2.2.2.2.2.2.2.1 u5.2.2.2.2.2.2.2.2.2.2.2.2.2 m_some m_field m_queue m_near m_open m_closed m_at m_begin m_sort m_lastQ m_lastR m_lastT m_readN] : List ZW).flatten)) rfl trivial ?_
      by_cases hc6 : u5.1 < 0
      · rw [if_pos hc6] at h
        refine Go.br zk_X12_take rfl rfl (fun _ => ?_) (fun q => absurd hc6 q)
        refine Go.blk zk_X12_take [0] (z' := (32, [some (.ref m_p), some (.int i1), some (.int i2), some (.int u5.1)], [.int (-9)], ([sMo m_p m_a m_d m_was m_kept m_read m_text m_typed u5.2.1 u5.2.2.1 u5.2.2.2.1 u5.2.2.2.2.1 u5.2.2.2.2.2.1 u5.2.2.2.2.2.2.1 u5.2.2.2.2.2.2.2.1 u5.2.2.2.2.2.2.2.2.1 u5.2.2.2.2.2.2.2.2.2.1 u5.2.2.2.2.2.2.2.2.2.2.1 u5.2.2.2.2.2.2.2.2.2.2.2.1 u5.2.2.2.2.2.2.2.2.2.2.2.2.1 u5.2.2.2.2.2.2.2.2.2.2.2.2.2 m_some m_field m_queue m_near m_open m_closed m_at m_begin m_sort m_lastQ m_lastR m_lastT m_readN] : List ZW).flatten)) rfl trivial ?_
        obtain rfl := Option.some.inj h
        exact Go.iret zk_X12_take rfl rfl rfl ⟨rfl, rfl⟩
      · rw [if_neg hc6] at h
        refine Go.br zk_X12_take rfl rfl (fun q => absurd q hc6) (fun _ => ?_)
        refine Go.blk zk_X12_take [0] (z' := (34, [some (.ref m_p), some (.int i1), some (.int i2), some (.int u5.1)], [.ref m_p], ([sMo m_p m_a m_d m_was m_kept m_read m_text m_typed u5.2.1 u5.2.2.1 u5.2.2.2.1 u5.2.2.2.2.1 u5.2.2.2.2.2.1 u5.2.2.2.2.2.2.1 u5.2.2.2.2.2.2.2.1 u5.2.2.2.2.2.2.2.2.1 u5.2.2.2.2.2.2.2.2.2.1 u5.2.2.2.2.2.2.2.2.2.2.1 u5.2.2.2.2.2.2.2.2.2.2.2.1 u5.2.2.2.2.2.2.2.2.2.2.2.2.1 u5.2.2.2.2.2.2.2.2.2.2.2.2.2 m_some m_field m_queue m_near m_open m_closed m_at m_begin m_sort m_lastQ m_lastR m_lastT m_readN] : List ZW).flatten)) rfl trivial ?_
        obtain ⟨u7, hu7, h⟩ := z_bind h
        refine Go.vs zk_X12_take zm_X12_records [0] [] 0 12 1 (S := [sMo m_p m_a m_d m_was m_kept m_read m_text m_typed u5.2.1 u5.2.2.1 u5.2.2.2.1 u5.2.2.2.2.1 u5.2.2.2.2.2.1 u5.2.2.2.2.2.2.1 u5.2.2.2.2.2.2.2.1 u5.2.2.2.2.2.2.2.2.1 u5.2.2.2.2.2.2.2.2.2.1 u5.2.2.2.2.2.2.2.2.2.2.1 u5.2.2.2.2.2.2.2.2.2.2.2.1 u5.2.2.2.2.2.2.2.2.2.2.2.2.1 u5.2.2.2.2.2.2.2.2.2.2.2.2.2 m_some m_field m_queue m_near m_open m_closed m_at m_begin m_sort m_lastQ m_lastR m_lastT m_readN]) (S2 := [sMo m_p m_a m_d u7.1 u7.2 m_read m_text m_typed u5.2.1 u5.2.2.1 u5.2.2.2.1 u5.2.2.2.2.1 u5.2.2.2.2.2.1 u5.2.2.2.2.2.2.1 u5.2.2.2.2.2.2.2.1 u5.2.2.2.2.2.2.2.2.1 u5.2.2.2.2.2.2.2.2.2.1 u5.2.2.2.2.2.2.2.2.2.2.1 u5.2.2.2.2.2.2.2.2.2.2.2.1 u5.2.2.2.2.2.2.2.2.2.2.2.2.1 u5.2.2.2.2.2.2.2.2.2.2.2.2.2 m_some m_field m_queue m_near m_open m_closed m_at m_begin m_sort m_lastQ m_lastR m_lastT m_readN]) (As := []) (rest := []) (st2 := []) (v1 := none) rfl zl_X12_188 zv_X12_records ⟨Nat.le_of_ble_eq_true rfl, Nat.le_of_ble_eq_true rfl⟩ rfl (by decide) rfl rfl rfl rfl rfl (Nat.le_of_ble_eq_true rfl) (t_X12_records hu7) rfl rfl rfl ?_
        refine Go.blk zk_X12_take [0, 0, 0, 0] (z' := (43, [some (.ref m_p), some (.int i1), some (.int i2), some (.int u5.1)], [.int u5.1, .ref (m_a 11), .ref m_p], ([sMo m_p m_a m_d u7.1 u7.2 m_read m_text m_typed u5.2.1 u5.2.2.1 u5.2.2.2.1 u5.2.2.2.2.1 u5.2.2.2.2.2.1 u5.2.2.2.2.2.2.1 u5.2.2.2.2.2.2.2.1 u5.2.2.2.2.2.2.2.2.1 u5.2.2.2.2.2.2.2.2.2.1 u5.2.2.2.2.2.2.2.2.2.2.1 u5.2.2.2.2.2.2.2.2.2.2.2.1 u5.2.2.2.2.2.2.2.2.2.2.2.2.1 u5.2.2.2.2.2.2.2.2.2.2.2.2.2 m_some m_field m_queue m_near m_open m_closed m_at m_begin m_sort m_lastQ m_lastR m_lastT m_readN] : List ZW).flatten)) rfl ⟨rfl, trivial⟩ ?_
        obtain ⟨x8, hx8, h⟩ := z_bind h
        refine Go.lald zk_X12_take 12 rfl rfl rfl hx8 ?_
        refine Go.blk zk_X12_take [0] (z' := (45, [some (.ref m_p), some (.int i1), some (.int i2), some (.int u5.1)], [.int i1, .long x8, .ref m_p], ([sMo m_p m_a m_d u7.1 u7.2 m_read m_text m_typed u5.2.1 u5.2.2.1 u5.2.2.2.1 u5.2.2.2.2.1 u5.2.2.2.2.2.1 u5.2.2.2.2.2.2.1 u5.2.2.2.2.2.2.2.1 u5.2.2.2.2.2.2.2.2.1 u5.2.2.2.2.2.2.2.2.2.1 u5.2.2.2.2.2.2.2.2.2.2.1 u5.2.2.2.2.2.2.2.2.2.2.2.1 u5.2.2.2.2.2.2.2.2.2.2.2.2.1 u5.2.2.2.2.2.2.2.2.2.2.2.2.2 m_some m_field m_queue m_near m_open m_closed m_at m_begin m_sort m_lastQ m_lastR m_lastT m_readN] : List ZW).flatten)) rfl trivial ?_
        obtain ⟨u9, hu9, h⟩ := z_bind h
        refine Go.vs zk_X12_take zm_X12_takesFigure [0] [] 0 12 1 (S := [sMo m_p m_a m_d u7.1 u7.2 m_read m_text m_typed u5.2.1 u5.2.2.1 u5.2.2.2.1 u5.2.2.2.2.1 u5.2.2.2.2.2.1 u5.2.2.2.2.2.2.1 u5.2.2.2.2.2.2.2.1 u5.2.2.2.2.2.2.2.2.1 u5.2.2.2.2.2.2.2.2.2.1 u5.2.2.2.2.2.2.2.2.2.2.1 u5.2.2.2.2.2.2.2.2.2.2.2.1 u5.2.2.2.2.2.2.2.2.2.2.2.2.1 u5.2.2.2.2.2.2.2.2.2.2.2.2.2 m_some m_field m_queue m_near m_open m_closed m_at m_begin m_sort m_lastQ m_lastR m_lastT m_readN]) (S2 := [sMo m_p m_a m_d u7.1 u7.2 m_read m_text m_typed u9.1 u9.2.1 u9.2.2.1 u9.2.2.2 u5.2.2.2.2.2.1 u5.2.2.2.2.2.2.1 u5.2.2.2.2.2.2.2.1 u5.2.2.2.2.2.2.2.2.1 u5.2.2.2.2.2.2.2.2.2.1 u5.2.2.2.2.2.2.2.2.2.2.1 u5.2.2.2.2.2.2.2.2.2.2.2.1 u5.2.2.2.2.2.2.2.2.2.2.2.2.1 u5.2.2.2.2.2.2.2.2.2.2.2.2.2 m_some m_field m_queue m_near m_open m_closed m_at m_begin m_sort m_lastQ m_lastR m_lastT m_readN]) (As := [.long x8, .int i1]) (rest := []) (st2 := []) (v1 := none) rfl zl_X12_167 zv_X12_takesFigure ⟨Nat.le_of_ble_eq_true rfl, Nat.le_of_ble_eq_true rfl⟩ rfl (by decide) rfl rfl rfl rfl rfl (Nat.le_of_ble_eq_true rfl) (t_X12_takesFigure hu9) rfl rfl rfl ?_
        refine Go.blk zk_X12_take [0] (z' := (49, [some (.ref m_p), some (.int i1), some (.int i2), some (.int u5.1)], [.ref m_p], ([sMo m_p m_a m_d u7.1 u7.2 m_read m_text m_typed u9.1 u9.2.1 u9.2.2.1 u9.2.2.2 u5.2.2.2.2.2.1 u5.2.2.2.2.2.2.1 u5.2.2.2.2.2.2.2.1 u5.2.2.2.2.2.2.2.2.1 u5.2.2.2.2.2.2.2.2.2.1 u5.2.2.2.2.2.2.2.2.2.2.1 u5.2.2.2.2.2.2.2.2.2.2.2.1 u5.2.2.2.2.2.2.2.2.2.2.2.2.1 u5.2.2.2.2.2.2.2.2.2.2.2.2.2 m_some m_field m_queue m_near m_open m_closed m_at m_begin m_sort m_lastQ m_lastR m_lastT m_readN] : List ZW).flatten)) rfl trivial ?_
        obtain ⟨u10, hu10, h⟩ := z_bind h
        refine Go.vs zk_X12_take zm_X12_lays [0] [] 0 12 1 (S := [sMo m_p m_a m_d u7.1 u7.2 m_read m_text m_typed u9.1 u9.2.1 u9.2.2.1 u9.2.2.2 u5.2.2.2.2.2.1 u5.2.2.2.2.2.2.1 u5.2.2.2.2.2.2.2.1 u5.2.2.2.2.2.2.2.2.1 u5.2.2.2.2.2.2.2.2.2.1 u5.2.2.2.2.2.2.2.2.2.2.1 u5.2.2.2.2.2.2.2.2.2.2.2.1 u5.2.2.2.2.2.2.2.2.2.2.2.2.1 u5.2.2.2.2.2.2.2.2.2.2.2.2.2 m_some m_field m_queue m_near m_open m_closed m_at m_begin m_sort m_lastQ m_lastR m_lastT m_readN]) (S2 := [sMo m_p m_a u10 u7.1 u7.2 m_read m_text m_typed u9.1 u9.2.1 u9.2.2.1 u9.2.2.2 u5.2.2.2.2.2.1 u5.2.2.2.2.2.2.1 u5.2.2.2.2.2.2.2.1 u5.2.2.2.2.2.2.2.2.1 u5.2.2.2.2.2.2.2.2.2.1 u5.2.2.2.2.2.2.2.2.2.2.1 u5.2.2.2.2.2.2.2.2.2.2.2.1 u5.2.2.2.2.2.2.2.2.2.2.2.2.1 u5.2.2.2.2.2.2.2.2.2.2.2.2.2 m_some m_field m_queue m_near m_open m_closed m_at m_begin m_sort m_lastQ m_lastR m_lastT m_readN]) (As := []) (rest := []) (st2 := []) (v1 := none) rfl zl_X12_203 zv_X12_lays ⟨Nat.le_of_ble_eq_true rfl, Nat.le_of_ble_eq_true rfl⟩ rfl (by decide) rfl rfl rfl rfl rfl (Nat.le_of_ble_eq_true rfl) (t_X12_lays hu10) rfl rfl rfl ?_
        refine Go.blk zk_X12_take [0] (z' := (53, [some (.ref m_p), some (.int i1), some (.int i2), some (.int u5.1)], [.ref m_p], ([sMo m_p m_a u10 u7.1 u7.2 m_read m_text m_typed u9.1 u9.2.1 u9.2.2.1 u9.2.2.2 u5.2.2.2.2.2.1 u5.2.2.2.2.2.2.1 u5.2.2.2.2.2.2.2.1 u5.2.2.2.2.2.2.2.2.1 u5.2.2.2.2.2.2.2.2.2.1 u5.2.2.2.2.2.2.2.2.2.2.1 u5.2.2.2.2.2.2.2.2.2.2.2.1 u5.2.2.2.2.2.2.2.2.2.2.2.2.1 u5.2.2.2.2.2.2.2.2.2.2.2.2.2 m_some m_field m_queue m_near m_open m_closed m_at m_begin m_sort m_lastQ m_lastR m_lastT m_readN] : List ZW).flatten)) rfl trivial ?_
        obtain ⟨u11, hu11, h⟩ := z_bind h
        refine Go.vs zk_X12_take zm_X12_holds [0] [] 0 12 1 (S := [sMo m_p m_a u10 u7.1 u7.2 m_read m_text m_typed u9.1 u9.2.1 u9.2.2.1 u9.2.2.2 u5.2.2.2.2.2.1 u5.2.2.2.2.2.2.1 u5.2.2.2.2.2.2.2.1 u5.2.2.2.2.2.2.2.2.1 u5.2.2.2.2.2.2.2.2.2.1 u5.2.2.2.2.2.2.2.2.2.2.1 u5.2.2.2.2.2.2.2.2.2.2.2.1 u5.2.2.2.2.2.2.2.2.2.2.2.2.1 u5.2.2.2.2.2.2.2.2.2.2.2.2.2 m_some m_field m_queue m_near m_open m_closed m_at m_begin m_sort m_lastQ m_lastR m_lastT m_readN]) (S2 := [sMo m_p m_a u10 u7.1 u7.2 m_read m_text m_typed u9.1 u9.2.1 u9.2.2.1 u9.2.2.2 u11.1 u11.2.1 u11.2.2.1 u11.2.2.2 u5.2.2.2.2.2.2.2.2.2.1 u5.2.2.2.2.2.2.2.2.2.2.1 u5.2.2.2.2.2.2.2.2.2.2.2.1 u5.2.2.2.2.2.2.2.2.2.2.2.2.1 u5.2.2.2.2.2.2.2.2.2.2.2.2.2 m_some m_field m_queue m_near m_open m_closed m_at m_begin m_sort m_lastQ m_lastR m_lastT m_readN]) (As := []) (rest := []) (st2 := []) (v1 := none) rfl zl_X12_139 zv_X12_holds ⟨Nat.le_of_ble_eq_true rfl, Nat.le_of_ble_eq_true rfl⟩ rfl (by decide) rfl rfl rfl rfl rfl (Nat.le_of_ble_eq_true rfl) (t_X12_holds hu11) rfl rfl rfl ?_
        refine Go.blk zk_X12_take [0] (z' := (57, [some (.ref m_p), some (.int i1), some (.int i2), some (.int u5.1)], [.ref m_p], ([sMo m_p m_a u10 u7.1 u7.2 m_read m_text m_typed u9.1 u9.2.1 u9.2.2.1 u9.2.2.2 u11.1 u11.2.1 u11.2.2.1 u11.2.2.2 u5.2.2.2.2.2.2.2.2.2.1 u5.2.2.2.2.2.2.2.2.2.2.1 u5.2.2.2.2.2.2.2.2.2.2.2.1 u5.2.2.2.2.2.2.2.2.2.2.2.2.1 u5.2.2.2.2.2.2.2.2.2.2.2.2.2 m_some m_field m_queue m_near m_open m_closed m_at m_begin m_sort m_lastQ m_lastR m_lastT m_readN] : List ZW).flatten)) rfl trivial ?_
        obtain ⟨u12, hu12, h⟩ := z_bind h
        refine Go.vs zk_X12_take zm_X12_images [0] [] 0 12 1 (S := [sMo m_p m_a u10 u7.1 u7.2 m_read m_text m_typed u9.1 u9.2.1 u9.2.2.1 u9.2.2.2 u11.1 u11.2.1 u11.2.2.1 u11.2.2.2 u5.2.2.2.2.2.2.2.2.2.1 u5.2.2.2.2.2.2.2.2.2.2.1 u5.2.2.2.2.2.2.2.2.2.2.2.1 u5.2.2.2.2.2.2.2.2.2.2.2.2.1 u5.2.2.2.2.2.2.2.2.2.2.2.2.2 m_some m_field m_queue m_near m_open m_closed m_at m_begin m_sort m_lastQ m_lastR m_lastT m_readN]) (S2 := [sMo m_p m_a u10 u7.1 u7.2 m_read m_text m_typed u12.2.1 u12.2.2.1 u12.2.2.2.1 u12.2.2.2.2.1 u11.1 u11.2.1 u11.2.2.1 u11.2.2.2 u12.2.2.2.2.2 u5.2.2.2.2.2.2.2.2.2.2.1 u5.2.2.2.2.2.2.2.2.2.2.2.1 u5.2.2.2.2.2.2.2.2.2.2.2.2.1 u5.2.2.2.2.2.2.2.2.2.2.2.2.2 m_some m_field m_queue m_near m_open m_closed m_at m_begin m_sort m_lastQ m_lastR m_lastT m_readN]) (As := []) (rest := []) (st2 := [.int u12.1]) (v1 := some (.int u12.1)) rfl zl_X12_142 zv_X12_images ⟨Nat.le_of_ble_eq_true rfl, Nat.le_of_ble_eq_true rfl⟩ rfl (by decide) rfl rfl rfl rfl rfl (Nat.le_of_ble_eq_true rfl) (t_X12_images hu12) rfl rfl rfl ?_
        refine Go.blk zk_X12_take [0, 0] (z' := (62, [some (.ref m_p), some (.int i1), some (.int i2), some (.int u5.1)], [.ref m_p], ([sMo m_p m_a u10 u7.1 u7.2 m_read m_text m_typed u12.2.1 u12.2.2.1 u12.2.2.2.1 u12.2.2.2.2.1 u11.1 u11.2.1 u11.2.2.1 u11.2.2.2 u12.2.2.2.2.2 u5.2.2.2.2.2.2.2.2.2.2.1 u5.2.2.2.2.2.2.2.2.2.2.2.1 u5.2.2.2.2.2.2.2.2.2.2.2.2.1 u5.2.2.2.2.2.2.2.2.2.2.2.2.2 m_some m_field m_queue m_near m_open m_closed m_at m_begin m_sort m_lastQ m_lastR m_lastT m_readN] : List ZW).flatten)) rfl trivial ?_
        obtain ⟨u13, hu13, h⟩ := z_bind h
        refine Go.vs zk_X12_take zm_X12_symmetries [0] [] 0 12 1 (S := [sMo m_p m_a u10 u7.1 u7.2 m_read m_text m_typed u12.2.1 u12.2.2.1 u12.2.2.2.1 u12.2.2.2.2.1 u11.1 u11.2.1 u11.2.2.1 u11.2.2.2 u12.2.2.2.2.2 u5.2.2.2.2.2.2.2.2.2.2.1 u5.2.2.2.2.2.2.2.2.2.2.2.1 u5.2.2.2.2.2.2.2.2.2.2.2.2.1 u5.2.2.2.2.2.2.2.2.2.2.2.2.2 m_some m_field m_queue m_near m_open m_closed m_at m_begin m_sort m_lastQ m_lastR m_lastT m_readN]) (S2 := [sMo m_p m_a u10 u7.1 u7.2 m_read m_text m_typed u12.2.1 u12.2.2.1 u12.2.2.2.1 u12.2.2.2.2.1 u11.1 u11.2.1 u11.2.2.1 u11.2.2.2 u12.2.2.2.2.2 u5.2.2.2.2.2.2.2.2.2.2.1 u5.2.2.2.2.2.2.2.2.2.2.2.1 u5.2.2.2.2.2.2.2.2.2.2.2.2.1 u5.2.2.2.2.2.2.2.2.2.2.2.2.2 m_some m_field m_queue m_near m_open m_closed m_at m_begin m_sort m_lastQ m_lastR m_lastT m_readN]) (As := []) (rest := []) (st2 := [.int u13]) (v1 := some (.int u13)) rfl zl_X12_209 zv_X12_symmetries ⟨Nat.le_of_ble_eq_true rfl, Nat.le_of_ble_eq_true rfl⟩ rfl (by decide) rfl rfl rfl rfl rfl (Nat.le_of_ble_eq_true rfl) (t_X12_symmetries hu13) rfl rfl rfl ?_
        obtain rfl := Option.some.inj h
        exact Go.iret zk_X12_take rfl rfl rfl ⟨rfl, rfl⟩
set_option maxHeartbeats 4000000 in
set_option maxRecDepth 100000 in
theorem t_X12_undo_L22 {N : Nat} {m_p : Nat} {m_a : Nat → Nat} {m_was : List Int32} {m_kept : Int32} {m_read : List Int32} {m_text : List Int32} {m_typed : Int32} {m_n : Int32} {m_q : List Int32} {m_r : List Int32} {m_t : List Int32} {m_heldQ : List Int32} {m_heldR : List Int32} {m_heldT : List Int32} {m_heldN : Int32} {m_image : List Int32} {m_built : Int32} {m_fixed : List Int64} {m_isFree : List Int32} {m_from : List Int32} {m_some : List Int64} {m_field : List Int32} {m_queue : List Int32} {m_near : List Int32} {m_open : List Int32} {m_closed : List Int32} {m_at : Int32} {m_begin : Int32} {m_sort : Int32} {m_lastQ : Int32} {m_lastR : Int32} {m_lastT : Int32} {m_readN : Int32}  {Q : Option Value → ZW → Prop} : ∀ (fu : Nat) (v1 : Int32) (m_d : List Int32) (e : (List Int32)), f_X12_undo_L22 N m_was m_kept fu v1 m_d = some e → (Go l D r (z_rl xs) zm_X12_undo 0 0 (54, [some (.ref m_p), none], [], ([sMo m_p m_a e m_was m_kept m_read m_text m_typed m_n m_q m_r m_t m_heldQ m_heldR m_heldT m_heldN m_image m_built m_fixed m_isFree m_from m_some m_field m_queue m_near m_open m_closed m_at m_begin m_sort m_lastQ m_lastR m_lastT m_readN] : List ZW).flatten) Q) → Go l D r (z_rl xs) zm_X12_undo 0 0 (22, [some (.ref m_p), some (.int v1)], [], ([sMo m_p m_a m_d m_was m_kept m_read m_text m_typed m_n m_q m_r m_t m_heldQ m_heldR m_heldT m_heldN m_image m_built m_fixed m_isFree m_from m_some m_field m_queue m_near m_open m_closed m_at m_begin m_sort m_lastQ m_lastR m_lastT m_readN] : List ZW).flatten) Q := by
  intro fu
  induction fu with
  | zero =>
    intro v1 m_d e h
    simp only [f_X12_undo_L22, reduceCtorEq] at h
  | succ fu ih =>
    intro v1 m_d e h kk
    rw [f_X12_undo_L22] at h
    refine Go.blk zk_X12_undo [0, 0] (z' := (25, [some (.ref m_p), some (.int v1)], [.int 14, .int v1], ([sMo m_p m_a m_d m_was m_kept m_read m_text m_typed m_n m_q m_r m_t m_heldQ m_heldR m_heldT m_heldN m_image m_built m_fixed m_isFree m_from m_some m_field m_queue m_near m_open m_closed m_at m_begin m_sort m_lastQ m_lastR m_lastT m_readN] : List ZW).flatten)) rfl trivial ?_
    by_cases hc2 : v1 < 14
    · rw [if_pos hc2] at h
      refine Go.br zk_X12_undo rfl rfl (fun _ => ?_) (fun q => absurd hc2 q)
      refine Go.blk zk_X12_undo [0, 0, 0, 0, 0, 0, 0, 0, 0, 0, 0] (z' := (46, [some (.ref m_p), some (.int v1)], [.int ((14 * m_kept) + v1), .ref (m_a 1), .int v1, .ref (m_a 0)], ([sMo m_p m_a m_d m_was m_kept m_read m_text m_typed m_n m_q m_r m_t m_heldQ m_heldR m_heldT m_heldN m_image m_built m_fixed m_isFree m_from m_some m_field m_queue m_near m_open m_closed m_at m_begin m_sort m_lastQ m_lastR m_lastT m_readN] : List ZW).flatten)) rfl ⟨rfl, rfl, rfl, trivial⟩ ?_
      obtain ⟨x3, hx3, h⟩ := z_bind h
      refine Go.iald zk_X12_undo 2 rfl rfl rfl hx3 ?_
      obtain ⟨t4, ht4, h⟩ := z_bind h
      refine Go.iast zk_X12_undo 1 rfl rfl rfl ht4 ?_
      refine Go.eqz (z2 := (48, [some (.ref m_p), some (.int v1)], [], ([sMo m_p m_a t4 m_was m_kept m_read m_text m_typed m_n m_q m_r m_t m_heldQ m_heldR m_heldT m_heldN m_image m_built m_fixed m_isFree m_from m_some m_field m_queue m_near m_open m_closed m_at m_begin m_sort m_lastQ m_lastR m_lastT m_readN] : List ZW).flatten)) rfl ?_
      refine Go.blk zk_X12_undo [0, 0] (z' := (22, [some (.ref m_p), some (.int (v1 + 1))], [], ([sMo m_p m_a t4 m_was m_kept m_read m_text m_typed m_n m_q m_r m_t m_heldQ m_heldR m_heldT m_heldN m_image m_built m_fixed m_isFree m_from m_some m_field m_queue m_near m_open m_closed m_at m_begin m_sort m_lastQ m_lastR m_lastT m_readN] : List ZW).flatten)) rfl trivial ?_
      exact ih _ _ _ h kk
    · rw [if_neg hc2] at h
      refine Go.br zk_X12_undo rfl rfl (fun q => absurd q hc2) (fun _ => ?_)
      obtain rfl := Option.some.inj h
      refine Go.weak (L := [some (.ref m_p), some (.int v1)]) (L' := [some (.ref m_p), none]) (And.intro rfl (trivial)) ?_
      exact kk
set_option maxHeartbeats 4000000 in
set_option maxRecDepth 100000 in
theorem t_X12_undo {N : Nat} {m_p : Nat} {m_a : Nat → Nat} {m_d : List Int32} {m_was : List Int32} {m_kept : Int32} {m_read : List Int32} {m_text : List Int32} {m_typed : Int32} {m_n : Int32} {m_q : List Int32} {m_r : List Int32} {m_t : List Int32} {m_heldQ : List Int32} {m_heldR : List Int32} {m_heldT : List Int32} {m_heldN : Int32} {m_image : List Int32} {m_built : Int32} {m_fixed : List Int64} {m_isFree : List Int32} {m_from : List Int32} {m_some : List Int64} {m_field : List Int32} {m_queue : List Int32} {m_near : List Int32} {m_open : List Int32} {m_closed : List Int32} {m_at : Int32} {m_begin : Int32} {m_sort : Int32} {m_lastQ : Int32} {m_lastR : Int32} {m_lastT : Int32} {m_readN : Int32} {u : Int32 × (List Int32) × Int32}  (h : f_X12_undo N m_d m_was m_kept = some u) : Ct l D r (z_rl xs) zm_X12_undo 0 0 [.ref m_p] ([sMo m_p m_a m_d m_was m_kept m_read m_text m_typed m_n m_q m_r m_t m_heldQ m_heldR m_heldT m_heldN m_image m_built m_fixed m_isFree m_from m_some m_field m_queue m_near m_open m_closed m_at m_begin m_sort m_lastQ m_lastR m_lastT m_readN] : List ZW).flatten (fun v' w' => v' = some (.int u.1) ∧ w' = ([sMo m_p m_a u.2.1 m_was u.2.2 m_read m_text m_typed m_n m_q m_r m_t m_heldQ m_heldR m_heldT m_heldN m_image m_built m_fixed m_isFree m_from m_some m_field m_queue m_near m_open m_closed m_at m_begin m_sort m_lastQ m_lastR m_lastT m_readN] : List ZW).flatten) := by
  refine Ct.of (by decide +kernel) rfl (fun q => absurd q (by decide)) (Nat.le_of_ble_eq_true rfl) ?_
  refine Go.eqz (z2 := (0, [some (.ref m_p), none], [], ([sMo m_p m_a m_d m_was m_kept m_read m_text m_typed m_n m_q m_r m_t m_heldQ m_heldR m_heldT m_heldN m_image m_built m_fixed m_isFree m_from m_some m_field m_queue m_near m_open m_closed m_at m_begin m_sort m_lastQ m_lastR m_lastT m_readN] : List ZW).flatten)) rfl ?_
  unfold f_X12_undo at h
  refine Go.blk zk_X12_undo [0, 0] (z' := (4, [some (.ref m_p), none], [.int m_kept], ([sMo m_p m_a m_d m_was m_kept m_read m_text m_typed m_n m_q m_r m_t m_heldQ m_heldR m_heldT m_heldN m_image m_built m_fixed m_isFree m_from m_some m_field m_queue m_near m_open m_closed m_at m_begin m_sort m_lastQ m_lastR m_lastT m_readN] : List ZW).flatten)) rfl ⟨rfl, trivial⟩ ?_
  by_cases hc1 : m_kept = 0
  · rw [if_pos hc1] at h
    refine Go.br zk_X12_undo rfl rfl (fun _ => ?_) (fun q => absurd hc1 q)
    refine Go.blk zk_X12_undo [0] (z' := (9, [some (.ref m_p), none], [.int (-2)], ([sMo m_p m_a m_d m_was m_kept m_read m_text m_typed m_n m_q m_r m_t m_heldQ m_heldR m_heldT m_heldN m_image m_built m_fixed m_isFree m_from m_some m_field m_queue m_near m_open m_closed m_at m_begin m_sort m_lastQ m_lastR m_lastT m_readN] : List ZW).flatten)) rfl trivial ?_
    obtain rfl := Option.some.inj h
    exact Go.iret zk_X12_undo rfl rfl rfl ⟨rfl, rfl⟩
  · rw [if_neg hc1] at h
    refine Go.br zk_X12_undo rfl rfl (fun q => absurd q hc1) (fun _ => ?_)
    refine Go.blk zk_X12_undo [0, 0, 0, 0, 0] (z' := (17, [some (.ref m_p), none], [.int (m_kept - 1), .ref m_p], ([sMo m_p m_a m_d m_was m_kept m_read m_text m_typed m_n m_q m_r m_t m_heldQ m_heldR m_heldT m_heldN m_image m_built m_fixed m_isFree m_from m_some m_field m_queue m_near m_open m_closed m_at m_begin m_sort m_lastQ m_lastR m_lastT m_readN] : List ZW).flatten)) rfl ⟨rfl, trivial⟩ ?_
    refine Go.put zk_X12_undo 0 rfl rfl rfl rfl rfl (Nat.le_of_ble_eq_true rfl) ?_
    refine Go.eqz (z2 := (20, [some (.ref m_p), none], [], ([sMo m_p m_a m_d m_was (m_kept - 1) m_read m_text m_typed m_n m_q m_r m_t m_heldQ m_heldR m_heldT m_heldN m_image m_built m_fixed m_isFree m_from m_some m_field m_queue m_near m_open m_closed m_at m_begin m_sort m_lastQ m_lastR m_lastT m_readN] : List ZW).flatten)) rfl ?_
    refine Go.blk zk_X12_undo [0, 0] (z' := (22, [some (.ref m_p), some (.int 0)], [], ([sMo m_p m_a m_d m_was (m_kept - 1) m_read m_text m_typed m_n m_q m_r m_t m_heldQ m_heldR m_heldT m_heldN m_image m_built m_fixed m_isFree m_from m_some m_field m_queue m_near m_open m_closed m_at m_begin m_sort m_lastQ m_lastR m_lastT m_readN] : List ZW).flatten)) rfl trivial ?_
    obtain ⟨e5, he5, h⟩ := z_bind h
    refine t_X12_undo_L22 N _ _ _ he5 ?_
    refine Go.blk zk_X12_undo [0, 0] (z' := (58, [some (.ref m_p), none], [.int (m_kept - 1)], ([sMo m_p m_a e5 m_was (m_kept - 1) m_read m_text m_typed m_n m_q m_r m_t m_heldQ m_heldR m_heldT m_heldN m_image m_built m_fixed m_isFree m_from m_some m_field m_queue m_near m_open m_closed m_at m_begin m_sort m_lastQ m_lastR m_lastT m_readN] : List ZW).flatten)) rfl ⟨rfl, trivial⟩ ?_
    obtain rfl := Option.some.inj h
    exact Go.iret zk_X12_undo rfl rfl rfl ⟨rfl, rfl⟩
set_option maxHeartbeats 4000000 in
set_option maxRecDepth 100000 in
theorem t_X12_isFigure {N : Nat} {m_p : Nat} {m_a : Nat → Nat} {m_d : List Int32} {m_was : List Int32} {m_kept : Int32} {m_read : List Int32} {m_text : List Int32} {m_typed : Int32} {m_n : Int32} {m_q : List Int32} {m_r : List Int32} {m_t : List Int32} {m_heldQ : List Int32} {m_heldR : List Int32} {m_heldT : List Int32} {m_heldN : Int32} {m_image : List Int32} {m_built : Int32} {m_fixed : List Int64} {m_isFree : List Int32} {m_from : List Int32} {m_some : List Int64} {m_field : List Int32} {m_queue : List Int32} {m_near : List Int32} {m_open : List Int32} {m_closed : List Int32} {m_at : Int32} {m_begin : Int32} {m_sort : Int32} {m_lastQ : Int32} {m_lastR : Int32} {m_lastT : Int32} {m_readN : Int32} {u : Int32 × Int32 × (List Int32) × (List Int32) × (List Int32)}  (h : f_X12_isFigure N m_d m_q m_r m_t = some u) : Ct l D r (z_rl xs) zm_X12_isFigure 0 0 [.ref m_p] ([sMo m_p m_a m_d m_was m_kept m_read m_text m_typed m_n m_q m_r m_t m_heldQ m_heldR m_heldT m_heldN m_image m_built m_fixed m_isFree m_from m_some m_field m_queue m_near m_open m_closed m_at m_begin m_sort m_lastQ m_lastR m_lastT m_readN] : List ZW).flatten (fun v' w' => v' = some (.int u.1) ∧ w' = ([sMo m_p m_a m_d m_was m_kept m_read m_text m_typed u.2.1 u.2.2.1 u.2.2.2.1 u.2.2.2.2 m_heldQ m_heldR m_heldT m_heldN m_image m_built m_fixed m_isFree m_from m_some m_field m_queue m_near m_open m_closed m_at m_begin m_sort m_lastQ m_lastR m_lastT m_readN] : List ZW).flatten) := by
  refine Ct.of (by decide +kernel) rfl (fun q => absurd q (by decide)) (Nat.le_of_ble_eq_true rfl) ?_
  refine Go.eqz (z2 := (0, [some (.ref m_p)], [], ([sMo m_p m_a m_d m_was m_kept m_read m_text m_typed m_n m_q m_r m_t m_heldQ m_heldR m_heldT m_heldN m_image m_built m_fixed m_isFree m_from m_some m_field m_queue m_near m_open m_closed m_at m_begin m_sort m_lastQ m_lastR m_lastT m_readN] : List ZW).flatten)) rfl ?_
  unfold f_X12_isFigure at h
  refine Go.blk zk_X12_isFigure [0] (z' := (1, [some (.ref m_p)], [.ref m_p], ([sMo m_p m_a m_d m_was m_kept m_read m_text m_typed m_n m_q m_r m_t m_heldQ m_heldR m_heldT m_heldN m_image m_built m_fixed m_isFree m_from m_some m_field m_queue m_near m_open m_closed m_at m_begin m_sort m_lastQ m_lastR m_lastT m_readN] : List ZW).flatten)) rfl trivial ?_
  obtain ⟨u1, hu1, h⟩ := z_bind h
  refine Go.vs zk_X12_isFigure zm_X12_takesDraft [0] [] 0 12 1 (S := [sMo m_p m_a m_d m_was m_kept m_read m_text m_typed m_n m_q m_r m_t m_heldQ m_heldR m_heldT m_heldN m_image m_built m_fixed m_isFree m_from m_some m_field m_queue m_near m_open m_closed m_at m_begin m_sort m_lastQ m_lastR m_lastT m_readN]) (S2 := [sMo m_p m_a m_d m_was m_kept m_read m_text m_typed u1.1 u1.2.1 u1.2.2.1 u1.2.2.2 m_heldQ m_heldR m_heldT m_heldN m_image m_built m_fixed m_isFree m_from m_some m_field m_queue m_near m_open m_closed m_at m_begin m_sort m_lastQ m_lastR m_lastT m_readN]) (As := []) (rest := []) (st2 := []) (v1 := none) rfl zl_X12_197 zv_X12_takesDraft ⟨Nat.le_of_ble_eq_true rfl, Nat.le_of_ble_eq_true rfl⟩ rfl (by decide) rfl rfl rfl rfl rfl (Nat.le_of_ble_eq_true rfl) (t_X12_takesDraft hu1) rfl rfl rfl ?_
  refine Go.blk zk_X12_isFigure [0] (z' := (5, [some (.ref m_p)], [.ref m_p], ([sMo m_p m_a m_d m_was m_kept m_read m_text m_typed u1.1 u1.2.1 u1.2.2.1 u1.2.2.2 m_heldQ m_heldR m_heldT m_heldN m_image m_built m_fixed m_isFree m_from m_some m_field m_queue m_near m_open m_closed m_at m_begin m_sort m_lastQ m_lastR m_lastT m_readN] : List ZW).flatten)) rfl trivial ?_
  obtain ⟨u2, hu2, h⟩ := z_bind h
  refine Go.vs zk_X12_isFigure zm_X12_isConnected [0] [] 0 12 1 (S := [sMo m_p m_a m_d m_was m_kept m_read m_text m_typed u1.1 u1.2.1 u1.2.2.1 u1.2.2.2 m_heldQ m_heldR m_heldT m_heldN m_image m_built m_fixed m_isFree m_from m_some m_field m_queue m_near m_open m_closed m_at m_begin m_sort m_lastQ m_lastR m_lastT m_readN]) (S2 := [sMo m_p m_a m_d m_was m_kept m_read m_text m_typed u1.1 u1.2.1 u1.2.2.1 u1.2.2.2 m_heldQ m_heldR m_heldT m_heldN m_image m_built m_fixed m_isFree m_from m_some m_field m_queue m_near m_open m_closed m_at m_begin m_sort m_lastQ m_lastR m_lastT m_readN]) (As := []) (rest := []) (st2 := [.int u2]) (v1 := some (.int u2)) rfl zl_X12_200 zv_X12_isConnected ⟨Nat.le_of_ble_eq_true rfl, Nat.le_of_ble_eq_true rfl⟩ rfl (by decide) rfl rfl rfl rfl rfl (Nat.le_of_ble_eq_true rfl) (t_X12_isConnected hu2) rfl rfl rfl ?_
  by_cases hb3 : u2 = 0 ∨ u2 = 1
  case neg => rw [if_neg hb3] at h; cases h
  rw [if_pos hb3] at h
  obtain rfl := Option.some.inj h
  exact Go.iret zk_X12_isFigure rfl rfl (z_nrb hb3) ⟨rfl, rfl⟩
end
