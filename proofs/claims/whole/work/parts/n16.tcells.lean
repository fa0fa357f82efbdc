section
variable {l : Launch} {D : va_G} {r : Nat → Nat} {xs : List Int32}
set_option maxHeartbeats 4000000 in
set_option maxRecDepth 100000 in
theorem t_X6_hasKey {N : Nat} {g_p : Nat} {g_k : Nat} {i1 : Int32} {i2 : Int32} {i3 : Int32} {u : Int32} (hk_g : g_k < 3) (h : f_X6_hasKey N i1 i2 i3 g_k = some u) : Ct l D r (z_rl xs) zm_X6_hasKey 0 0 [.ref g_p, .int i1, .int i2, .int i3] ([sLa r g_p g_k] : List ZW).flatten (fun v' w' => v' = some (.int u) ∧ w' = ([sLa r g_p g_k] : List ZW).flatten) := by
  refine Ct.of (by decide +kernel) rfl (fun q => absurd q (by decide)) (Nat.le_of_ble_eq_true rfl) ?_
  refine Go.eqz (z2 := (0, [some (.ref g_p), some (.int i1), some (.int i2), some (.int i3)], [], ([sLa r g_p g_k] : List ZW).flatten)) rfl ?_
  unfold f_X6_hasKey at h
  refine Go.blk zk_X6_hasKey [0] (z' := (1, [some (.ref g_p), some (.int i1), some (.int i2), some (.int i3)], [.int i1], ([sLa r g_p g_k] : List ZW).flatten)) rfl trivial ?_
  by_cases hc1 : i1 < 0
  · rw [if_pos hc1] at h
    refine Go.br zk_X6_hasKey rfl rfl (fun _ => ?_) (fun q => absurd hc1 q)
    refine Go.blk zk_X6_hasKey [0] (z' := (37, [some (.ref g_p), some (.int i1), some (.int i2), some (.int i3)], [.int 0], ([sLa r g_p g_k] : List ZW).flatten)) rfl trivial ?_
    obtain rfl := Option.some.inj h
    exact Go.iret zk_X6_hasKey rfl rfl rfl ⟨rfl, rfl⟩
  · rw [if_neg hc1] at h
    refine Go.br zk_X6_hasKey rfl rfl (fun q => absurd q hc1) (fun _ => ?_)
    refine Go.blk zk_X6_hasKey [0, 0] (z' := (7, [some (.ref g_p), some (.int i1), some (.int i2), some (.int i3)], [.int 10, .int i1], ([sLa r g_p g_k] : List ZW).flatten)) rfl trivial ?_
    by_cases hc2 : i1 < 10
    · rw [if_pos hc2] at h
      refine Go.br zk_X6_hasKey rfl rfl (fun _ => ?_) (fun q => absurd hc2 q)
      refine Go.blk zk_X6_hasKey [0] (z' := (11, [some (.ref g_p), some (.int i1), some (.int i2), some (.int i3)], [.int i2], ([sLa r g_p g_k] : List ZW).flatten)) rfl trivial ?_
      by_cases hc3 : i2 < 0
      · rw [if_pos hc3] at h
        refine Go.br zk_X6_hasKey rfl rfl (fun _ => ?_) (fun q => absurd hc3 q)
        refine Go.blk zk_X6_hasKey [0] (z' := (37, [some (.ref g_p), some (.int i1), some (.int i2), some (.int i3)], [.int 0], ([sLa r g_p g_k] : List ZW).flatten)) rfl trivial ?_
        obtain rfl := Option.some.inj h
        exact Go.iret zk_X6_hasKey rfl rfl rfl ⟨rfl, rfl⟩
      · rw [if_neg hc3] at h
        refine Go.br zk_X6_hasKey rfl rfl (fun q => absurd q hc3) (fun _ => ?_)
        refine Go.blk zk_X6_hasKey [0, 0] (z' := (17, [some (.ref g_p), some (.int i1), some (.int i2), some (.int i3)], [.int 10, .int i2], ([sLa r g_p g_k] : List ZW).flatten)) rfl trivial ?_
        by_cases hc4 : i2 < 10
        · rw [if_pos hc4] at h
          refine Go.br zk_X6_hasKey rfl rfl (fun _ => ?_) (fun q => absurd hc4 q)
          refine Go.blk zk_X6_hasKey [0] (z' := (21, [some (.ref g_p), some (.int i1), some (.int i2), some (.int i3)], [.int i3], ([sLa r g_p g_k] : List ZW).flatten)) rfl trivial ?_
          by_cases hc5 : i3 < 0
          · rw [if_pos hc5] at h
            refine Go.br zk_X6_hasKey rfl rfl (fun _ => ?_) (fun q => absurd hc5 q)
            refine Go.blk zk_X6_hasKey [0] (z' := (37, [some (.ref g_p), some (.int i1), some (.int i2), some (.int i3)], [.int 0], ([sLa r g_p g_k] : List ZW).flatten)) rfl trivial ?_
            obtain rfl := Option.some.inj h
            exact Go.iret zk_X6_hasKey rfl rfl rfl ⟨rfl, rfl⟩
          · rw [if_neg hc5] at h
            refine Go.br zk_X6_hasKey rfl rfl (fun q => absurd q hc5) (fun _ => ?_)
            refine Go.blk zk_X6_hasKey [0, 0, 0] (z' := (29, [some (.ref g_p), some (.int i1), some (.int i2), some (.int i3)], [.int (zkin g_k), .int i3], ([sLa r g_p g_k] : List ZW).flatten)) rfl ⟨rfl, trivial⟩ ?_
            by_cases hc6 : i3 < (zkin g_k)
            · rw [if_pos hc6] at h
              refine Go.br zk_X6_hasKey rfl rfl (fun _ => ?_) (fun q => absurd hc6 q)
              refine Go.blk zk_X6_hasKey [0, 0] (z' := (37, [some (.ref g_p), some (.int i1), some (.int i2), some (.int i3)], [.int 1], ([sLa r g_p g_k] : List ZW).flatten)) rfl trivial ?_
              obtain rfl := Option.some.inj h
              exact Go.iret zk_X6_hasKey rfl rfl rfl ⟨rfl, rfl⟩
            · rw [if_neg hc6] at h
              refine Go.br zk_X6_hasKey rfl rfl (fun q => absurd q hc6) (fun _ => ?_)
              refine Go.blk zk_X6_hasKey [0] (z' := (37, [some (.ref g_p), some (.int i1), some (.int i2), some (.int i3)], [.int 0], ([sLa r g_p g_k] : List ZW).flatten)) rfl trivial ?_
              obtain rfl := Option.some.inj h
              exact Go.iret zk_X6_hasKey rfl rfl rfl ⟨rfl, rfl⟩
        · rw [if_neg hc4] at h
          refine Go.br zk_X6_hasKey rfl rfl (fun q => absurd q hc4) (fun _ => ?_)
          refine Go.blk zk_X6_hasKey [0] (z' := (37, [some (.ref g_p), some (.int i1), some (.int i2), some (.int i3)], [.int 0], ([sLa r g_p g_k] : List ZW).flatten)) rfl trivial ?_
          obtain rfl := Option.some.inj h
          exact Go.iret zk_X6_hasKey rfl rfl rfl ⟨rfl, rfl⟩
    · rw [if_neg hc2] at h
      refine Go.br zk_X6_hasKey rfl rfl (fun q => absurd q hc2) (fun _ => ?_)
      refine Go.blk zk_X6_hasKey [0] (z' := (37, [some (.ref g_p), some (.int i1), some (.int i2), some (.int i3)], [.int 0], ([sLa r g_p g_k] : List ZW).flatten)) rfl trivial ?_
      obtain rfl := Option.some.inj h
      exact Go.iret zk_X6_hasKey rfl rfl rfl ⟨rfl, rfl⟩
set_option maxHeartbeats 4000000 in
set_option maxRecDepth 100000 in
theorem t_X6_neighbourQ {N : Nat} {g_p : Nat} {g_k : Nat} {i1 : Int32} {i2 : Int32} {i3 : Int32} {u : Int32} (hk_g : g_k < 3) (h : f_X6_neighbourQ N i1 i2 i3 g_k = some u) : Ct l D r (z_rl xs) zm_X6_neighbourQ 0 0 [.ref g_p, .int i1, .int i2, .int i3] ([sLa r g_p g_k] : List ZW).flatten (fun v' w' => v' = some (.int u) ∧ w' = ([sLa r g_p g_k] : List ZW).flatten) := by
  refine Ct.of (by decide +kernel) rfl (fun q => absurd q (by decide)) (Nat.le_of_ble_eq_true rfl) ?_
  refine Go.eqz (z2 := (0, [some (.ref g_p), some (.int i1), some (.int i2), some (.int i3), none], [], ([sLa r g_p g_k] : List ZW).flatten)) rfl ?_
  unfold f_X6_neighbourQ at h
  refine Go.blk zk_X6_neighbourQ [0, 0, 0, 0, 0, 0, 0, 0] (z' := (12, [some (.ref g_p), some (.int i1), some (.int i2), some (.int i3), some (.int ((i2 * (zdeg g_k)) + i3))], [.int ((i2 * (zdeg g_k)) + i3)], ([sLa r g_p g_k] : List ZW).flatten)) rfl ⟨rfl, trivial⟩ ?_
  by_cases hc1 : ((i2 * (zdeg g_k)) + i3) < 0
  · rw [if_pos hc1] at h
    refine Go.br zk_X6_neighbourQ rfl rfl (fun _ => ?_) (fun q => absurd hc1 q)
    refine Go.blk zk_X6_neighbourQ [0] (z' := (38, [some (.ref g_p), some (.int i1), some (.int i2), some (.int i3), some (.int ((i2 * (zdeg g_k)) + i3))], [.int i1], ([sLa r g_p g_k] : List ZW).flatten)) rfl trivial ?_
    obtain rfl := Option.some.inj h
    exact Go.iret zk_X6_neighbourQ rfl rfl rfl ⟨rfl, rfl⟩
  · rw [if_neg hc1] at h
    refine Go.br zk_X6_neighbourQ rfl rfl (fun q => absurd q hc1) (fun _ => ?_)
    refine Go.blk zk_X6_neighbourQ [0, 0, 0] (z' := (21, [some (.ref g_p), some (.int i1), some (.int i2), some (.int i3), some (.int ((i2 * (zdeg g_k)) + i3))], [.ref (r (2 * g_k + 1)), .int ((i2 * (zdeg g_k)) + i3)], ([sLa r g_p g_k] : List ZW).flatten)) rfl ⟨rfl, trivial⟩ ?_
    refine Go.rlen zk_X6_neighbourQ (2 * g_k + 1) (by omega) rfl rfl ?_
    refine Go.eqz (z2 := (22, [some (.ref g_p), some (.int i1), some (.int i2), some (.int i3), some (.int ((i2 * (zdeg g_k)) + i3))], [.int (Int32.ofNat (List.length (zq (2 * g_k)))), .int ((i2 * (zdeg g_k)) + i3)], ([sLa r g_p g_k] : List ZW).flatten)) rfl ?_
    by_cases hc2 : ((i2 * (zdeg g_k)) + i3) < (Int32.ofNat (List.length (zq (2 * g_k))))
    · rw [if_pos hc2] at h
      refine Go.br zk_X6_neighbourQ rfl rfl (fun _ => ?_) (fun q => absurd hc2 q)
      refine Go.blk zk_X6_neighbourQ [0, 0, 0, 0] (z' := (32, [some (.ref g_p), some (.int i1), some (.int i2), some (.int i3), some (.int ((i2 * (zdeg g_k)) + i3))], [.int ((i2 * (zdeg g_k)) + i3), .ref (r (2 * g_k + 1)), .int i1], ([sLa r g_p g_k] : List ZW).flatten)) rfl ⟨rfl, trivial⟩ ?_
      obtain ⟨x3, hx3, h⟩ := z_bind h
      refine Go.rald zk_X6_neighbourQ (2 * g_k + 1) (by omega) rfl rfl hx3 ?_
      refine Go.blk zk_X6_neighbourQ [0, 0] (z' := (38, [some (.ref g_p), some (.int i1), some (.int i2), some (.int i3), some (.int ((i2 * (zdeg g_k)) + i3))], [.int (i1 + x3)], ([sLa r g_p g_k] : List ZW).flatten)) rfl trivial ?_
      obtain rfl := Option.some.inj h
      exact Go.iret zk_X6_neighbourQ rfl rfl rfl ⟨rfl, rfl⟩
    · rw [if_neg hc2] at h
      refine Go.br zk_X6_neighbourQ rfl rfl (fun q => absurd q hc2) (fun _ => ?_)
      refine Go.blk zk_X6_neighbourQ [0] (z' := (38, [some (.ref g_p), some (.int i1), some (.int i2), some (.int i3), some (.int ((i2 * (zdeg g_k)) + i3))], [.int i1], ([sLa r g_p g_k] : List ZW).flatten)) rfl trivial ?_
      obtain rfl := Option.some.inj h
      exact Go.iret zk_X6_neighbourQ rfl rfl rfl ⟨rfl, rfl⟩
set_option maxHeartbeats 4000000 in
set_option maxRecDepth 100000 in
theorem t_X6_neighbourR {N : Nat} {g_p : Nat} {g_k : Nat} {i1 : Int32} {i2 : Int32} {i3 : Int32} {u : Int32} (hk_g : g_k < 3) (h : f_X6_neighbourR N i1 i2 i3 g_k = some u) : Ct l D r (z_rl xs) zm_X6_neighbourR 0 0 [.ref g_p, .int i1, .int i2, .int i3] ([sLa r g_p g_k] : List ZW).flatten (fun v' w' => v' = some (.int u) ∧ w' = ([sLa r g_p g_k] : List ZW).flatten) := by
  refine Ct.of (by decide +kernel) rfl (fun q => absurd q (by decide)) (Nat.le_of_ble_eq_true rfl) ?_
  refine Go.eqz (z2 := (0, [some (.ref g_p), some (.int i1), some (.int i2), some (.int i3), none], [], ([sLa r g_p g_k] : List ZW).flatten)) rfl ?_
  unfold f_X6_neighbourR at h
  refine Go.blk zk_X6_neighbourR [0, 0, 0, 0, 0, 0, 0, 0] (z' := (12, [some (.ref g_p), some (.int i1), some (.int i2), some (.int i3), some (.int ((i2 * (zdeg g_k)) + i3))], [.int ((i2 * (zdeg g_k)) + i3)], ([sLa r g_p g_k] : List ZW).flatten)) rfl ⟨rfl, trivial⟩ ?_
  by_cases hc1 : ((i2 * (zdeg g_k)) + i3) < 0
  · rw [if_pos hc1] at h
    refine Go.br zk_X6_neighbourR rfl rfl (fun _ => ?_) (fun q => absurd hc1 q)
    refine Go.blk zk_X6_neighbourR [0] (z' := (38, [some (.ref g_p), some (.int i1), some (.int i2), some (.int i3), some (.int ((i2 * (zdeg g_k)) + i3))], [.int i1], ([sLa r g_p g_k] : List ZW).flatten)) rfl trivial ?_
    obtain rfl := Option.some.inj h
    exact Go.iret zk_X6_neighbourR rfl rfl rfl ⟨rfl, rfl⟩
  · rw [if_neg hc1] at h
    refine Go.br zk_X6_neighbourR rfl rfl (fun q => absurd q hc1) (fun _ => ?_)
    refine Go.blk zk_X6_neighbourR [0, 0, 0] (z' := (21, [some (.ref g_p), some (.int i1), some (.int i2), some (.int i3), some (.int ((i2 * (zdeg g_k)) + i3))], [.ref (r (2 * g_k + 2)), .int ((i2 * (zdeg g_k)) + i3)], ([sLa r g_p g_k] : List ZW).flatten)) rfl ⟨rfl, trivial⟩ ?_
    refine Go.rlen zk_X6_neighbourR (2 * g_k + 2) (by omega) rfl rfl ?_
    refine Go.eqz (z2 := (22, [some (.ref g_p), some (.int i1), some (.int i2), some (.int i3), some (.int ((i2 * (zdeg g_k)) + i3))], [.int (Int32.ofNat (List.length (zq (2 * g_k + 1)))), .int ((i2 * (zdeg g_k)) + i3)], ([sLa r g_p g_k] : List ZW).flatten)) rfl ?_
    by_cases hc2 : ((i2 * (zdeg g_k)) + i3) < (Int32.ofNat (List.length (zq (2 * g_k + 1))))
    · rw [if_pos hc2] at h
      refine Go.br zk_X6_neighbourR rfl rfl (fun _ => ?_) (fun q => absurd hc2 q)
      refine Go.blk zk_X6_neighbourR [0, 0, 0, 0] (z' := (32, [some (.ref g_p), some (.int i1), some (.int i2), some (.int i3), some (.int ((i2 * (zdeg g_k)) + i3))], [.int ((i2 * (zdeg g_k)) + i3), .ref (r (2 * g_k + 2)), .int i1], ([sLa r g_p g_k] : List ZW).flatten)) rfl ⟨rfl, trivial⟩ ?_
      obtain ⟨x3, hx3, h⟩ := z_bind h
      refine Go.rald zk_X6_neighbourR (2 * g_k + 2) (by omega) rfl rfl hx3 ?_
      refine Go.blk zk_X6_neighbourR [0, 0] (z' := (38, [some (.ref g_p), some (.int i1), some (.int i2), some (.int i3), some (.int ((i2 * (zdeg g_k)) + i3))], [.int (i1 + x3)], ([sLa r g_p g_k] : List ZW).flatten)) rfl trivial ?_
      obtain rfl := Option.some.inj h
      exact Go.iret zk_X6_neighbourR rfl rfl rfl ⟨rfl, rfl⟩
    · rw [if_neg hc2] at h
      refine Go.br zk_X6_neighbourR rfl rfl (fun q => absurd q hc2) (fun _ => ?_)
      refine Go.blk zk_X6_neighbourR [0] (z' := (38, [some (.ref g_p), some (.int i1), some (.int i2), some (.int i3), some (.int ((i2 * (zdeg g_k)) + i3))], [.int i1], ([sLa r g_p g_k] : List ZW).flatten)) rfl trivial ?_
      obtain rfl := Option.some.inj h
      exact Go.iret zk_X6_neighbourR rfl rfl rfl ⟨rfl, rfl⟩
set_option maxHeartbeats 4000000 in
set_option maxRecDepth 100000 in
theorem t_X6_neighbourT {N : Nat} {g_p : Nat} {g_k : Nat} {i1 : Int32} {u : Int32} (hk_g : g_k < 3) (h : f_X6_neighbourT N i1 g_k = some u) : Ct l D r (z_rl xs) zm_X6_neighbourT 0 0 [.ref g_p, .int i1] ([sLa r g_p g_k] : List ZW).flatten (fun v' w' => v' = some (.int u) ∧ w' = ([sLa r g_p g_k] : List ZW).flatten) := by
  refine Ct.of (by decide +kernel) rfl (fun q => absurd q (by decide)) (Nat.le_of_ble_eq_true rfl) ?_
  refine Go.eqz (z2 := (0, [some (.ref g_p), some (.int i1)], [], ([sLa r g_p g_k] : List ZW).flatten)) rfl ?_
  unfold f_X6_neighbourT at h
  refine Go.blk zk_X6_neighbourT [0, 0, 0, 0, 0, 0] (z' := (8, [some (.ref g_p), some (.int i1)], [.int (((zkin g_k) - 1) - i1)], ([sLa r g_p g_k] : List ZW).flatten)) rfl ⟨rfl, trivial⟩ ?_
  obtain rfl := Option.some.inj h
  exact Go.iret zk_X6_neighbourT rfl rfl rfl ⟨rfl, rfl⟩
set_option maxHeartbeats 4000000 in
set_option maxRecDepth 100000 in
theorem t_X2_codeOf {N : Nat} {i1 : Int32} {i2 : Int32} {i3 : Int32} {u : Int32}  (h : f_X2_codeOf N i1 i2 i3 = some u) : Ct l D r (z_rl xs) zm_X2_codeOf 0 0 [.int i1, .int i2, .int i3] ([] : List ZW).flatten (fun v' w' => v' = some (.int u) ∧ w' = ([] : List ZW).flatten) := by
  refine Ct.of (by decide +kernel) rfl (fun q => absurd q (by decide)) (Nat.le_of_ble_eq_true rfl) ?_
  refine Go.eqz (z2 := (0, [some (.int i1), some (.int i2), some (.int i3)], [], ([] : List ZW).flatten)) rfl ?_
  unfold f_X2_codeOf at h
  refine Go.blk zk_X2_codeOf [0, 0, 0, 0, 0, 0, 0, 0, 0, 0, 0, 0, 0] (z' := (16, [some (.int i1), some (.int i2), some (.int i3)], [.int ((((i2 + 32) <<< (7 &&& 31)) + ((i1 + 32) <<< (1 &&& 31))) + i3)], ([] : List ZW).flatten)) rfl trivial ?_
  obtain rfl := Option.some.inj h
  exact Go.iret zk_X2_codeOf rfl rfl rfl ⟨rfl, rfl⟩
set_option maxHeartbeats 4000000 in
set_option maxRecDepth 100000 in
theorem t_X2_keyOf {N : Nat} {i1 : Int32} {i2 : Int32} {i3 : Int32} {u : Int32}  (h : f_X2_keyOf N i1 i2 i3 = some u) : Ct l D r (z_rl xs) zm_X2_keyOf 0 0 [.int i1, .int i2, .int i3] ([] : List ZW).flatten (fun v' w' => v' = some (.int u) ∧ w' = ([] : List ZW).flatten) := by
  refine Ct.of (by decide +kernel) rfl (fun q => absurd q (by decide)) (Nat.le_of_ble_eq_true rfl) ?_
  refine Go.eqz (z2 := (0, [some (.int i1), some (.int i2), some (.int i3)], [], ([] : List ZW).flatten)) rfl ?_
  unfold f_X2_keyOf at h
  refine Go.blk zk_X2_keyOf [0, 0, 0, 0, 0, 0, 0, 0, 0] (z' := (10, [some (.int i1), some (.int i2), some (.int i3)], [.int (((20 * i2) + (2 * i1)) + i3)], ([] : List ZW).flatten)) rfl trivial ?_
  obtain rfl := Option.some.inj h
  exact Go.iret zk_X2_keyOf rfl rfl rfl ⟨rfl, rfl⟩
set_option maxHeartbeats 4000000 in
set_option maxRecDepth 100000 in
theorem t_X2_qAt {N : Nat} {c_p : Nat} {c_a : Nat → Nat} {c_codes : List Int32} {c_size : Int32} {i1 : Int32} {u : Int32}  (h : f_X2_qAt N i1 c_codes c_size = some u) : Ct l D r (z_rl xs) zm_X2_qAt 0 0 [.ref c_p, .int i1] ([sCe c_p c_a c_codes c_size] : List ZW).flatten (fun v' w' => v' = some (.int u) ∧ w' = ([sCe c_p c_a c_codes c_size] : List ZW).flatten) := by
  refine Ct.of (by decide +kernel) rfl (fun q => absurd q (by decide)) (Nat.le_of_ble_eq_true rfl) ?_
  refine Go.eqz (z2 := (0, [some (.ref c_p), some (.int i1)], [], ([sCe c_p c_a c_codes c_size] : List ZW).flatten)) rfl ?_
  unfold f_X2_qAt at h
  refine Go.blk zk_X2_qAt [0] (z' := (1, [some (.ref c_p), some (.int i1)], [.int i1], ([sCe c_p c_a c_codes c_size] : List ZW).flatten)) rfl trivial ?_
  by_cases hc1 : i1 < 0
  · rw [if_pos hc1] at h
    refine Go.br zk_X2_qAt rfl rfl (fun _ => ?_) (fun q => absurd hc1 q)
    refine Go.blk zk_X2_qAt [0] (z' := (30, [some (.ref c_p), some (.int i1)], [.int 0], ([sCe c_p c_a c_codes c_size] : List ZW).flatten)) rfl trivial ?_
    obtain rfl := Option.some.inj h
    exact Go.iret zk_X2_qAt rfl rfl rfl ⟨rfl, rfl⟩
  · rw [if_neg hc1] at h
    refine Go.br zk_X2_qAt rfl rfl (fun q => absurd q hc1) (fun _ => ?_)
    refine Go.blk zk_X2_qAt [0, 0, 0] (z' := (9, [some (.ref c_p), some (.int i1)], [.int c_size, .int i1], ([sCe c_p c_a c_codes c_size] : List ZW).flatten)) rfl ⟨rfl, trivial⟩ ?_
    by_cases hc2 : i1 < c_size
    · rw [if_pos hc2] at h
      refine Go.br zk_X2_qAt rfl rfl (fun _ => ?_) (fun q => absurd hc2 q)
      refine Go.blk zk_X2_qAt [0, 0, 0] (z' := (17, [some (.ref c_p), some (.int i1)], [.int i1, .ref (c_a 0)], ([sCe c_p c_a c_codes c_size] : List ZW).flatten)) rfl ⟨rfl, trivial⟩ ?_
      obtain ⟨x3, hx3, h⟩ := z_bind h
      refine Go.iald zk_X2_qAt 1 rfl rfl rfl hx3 ?_
      refine Go.blk zk_X2_qAt [0, 0, 0, 0, 0, 0, 0] (z' := (30, [some (.ref c_p), some (.int i1)], [.int (((x3 >>> (1 &&& 31)) &&& 63) - 32)], ([sCe c_p c_a c_codes c_size] : List ZW).flatten)) rfl trivial ?_
      obtain rfl := Option.some.inj h
      exact Go.iret zk_X2_qAt rfl rfl rfl ⟨rfl, rfl⟩
    · rw [if_neg hc2] at h
      refine Go.br zk_X2_qAt rfl rfl (fun q => absurd q hc2) (fun _ => ?_)
      refine Go.blk zk_X2_qAt [0] (z' := (30, [some (.ref c_p), some (.int i1)], [.int 0], ([sCe c_p c_a c_codes c_size] : List ZW).flatten)) rfl trivial ?_
      obtain rfl := Option.some.inj h
      exact Go.iret zk_X2_qAt rfl rfl rfl ⟨rfl, rfl⟩
set_option maxHeartbeats 4000000 in
set_option maxRecDepth 100000 in
theorem t_X2_rAt {N : Nat} {c_p : Nat} {c_a : Nat → Nat} {c_codes : List Int32} {c_size : Int32} {i1 : Int32} {u : Int32}  (h : f_X2_rAt N i1 c_codes c_size = some u) : Ct l D r (z_rl xs) zm_X2_rAt 0 0 [.ref c_p, .int i1] ([sCe c_p c_a c_codes c_size] : List ZW).flatten (fun v' w' => v' = some (.int u) ∧ w' = ([sCe c_p c_a c_codes c_size] : List ZW).flatten) := by
  refine Ct.of (by decide +kernel) rfl (fun q => absurd q (by decide)) (Nat.le_of_ble_eq_true rfl) ?_
  refine Go.eqz (z2 := (0, [some (.ref c_p), some (.int i1)], [], ([sCe c_p c_a c_codes c_size] : List ZW).flatten)) rfl ?_
  unfold f_X2_rAt at h
  refine Go.blk zk_X2_rAt [0] (z' := (1, [some (.ref c_p), some (.int i1)], [.int i1], ([sCe c_p c_a c_codes c_size] : List ZW).flatten)) rfl trivial ?_
  by_cases hc1 : i1 < 0
  · rw [if_pos hc1] at h
    refine Go.br zk_X2_rAt rfl rfl (fun _ => ?_) (fun q => absurd hc1 q)
    refine Go.blk zk_X2_rAt [0] (z' := (28, [some (.ref c_p), some (.int i1)], [.int 0], ([sCe c_p c_a c_codes c_size] : List ZW).flatten)) rfl trivial ?_
    obtain rfl := Option.some.inj h
    exact Go.iret zk_X2_rAt rfl rfl rfl ⟨rfl, rfl⟩
  · rw [if_neg hc1] at h
    refine Go.br zk_X2_rAt rfl rfl (fun q => absurd q hc1) (fun _ => ?_)
    refine Go.blk zk_X2_rAt [0, 0, 0] (z' := (9, [some (.ref c_p), some (.int i1)], [.int c_size, .int i1], ([sCe c_p c_a c_codes c_size] : List ZW).flatten)) rfl ⟨rfl, trivial⟩ ?_
    by_cases hc2 : i1 < c_size
    · rw [if_pos hc2] at h
      refine Go.br zk_X2_rAt rfl rfl (fun _ => ?_) (fun q => absurd hc2 q)
      refine Go.blk zk_X2_rAt [0, 0, 0] (z' := (17, [some (.ref c_p), some (.int i1)], [.int i1, .ref (c_a 0)], ([sCe c_p c_a c_codes c_size] : List ZW).flatten)) rfl ⟨rfl, trivial⟩ ?_
      obtain ⟨x3, hx3, h⟩ := z_bind h
      refine Go.iald zk_X2_rAt 1 rfl rfl rfl hx3 ?_
      refine Go.blk zk_X2_rAt [0, 0, 0, 0, 0] (z' := (28, [some (.ref c_p), some (.int i1)], [.int ((x3 >>> (7 &&& 31)) - 32)], ([sCe c_p c_a c_codes c_size] : List ZW).flatten)) rfl trivial ?_
      obtain rfl := Option.some.inj h
      exact Go.iret zk_X2_rAt rfl rfl rfl ⟨rfl, rfl⟩
    · rw [if_neg hc2] at h
      refine Go.br zk_X2_rAt rfl rfl (fun q => absurd q hc2) (fun _ => ?_)
      refine Go.blk zk_X2_rAt [0] (z' := (28, [some (.ref c_p), some (.int i1)], [.int 0], ([sCe c_p c_a c_codes c_size] : List ZW).flatten)) rfl trivial ?_
      obtain rfl := Option.some.inj h
      exact Go.iret zk_X2_rAt rfl rfl rfl ⟨rfl, rfl⟩
set_option maxHeartbeats 4000000 in
set_option maxRecDepth 100000 in
theorem t_X2_tAt {N : Nat} {c_p : Nat} {c_a : Nat → Nat} {c_codes : List Int32} {c_size : Int32} {i1 : Int32} {u : Int32}  (h : f_X2_tAt N i1 c_codes c_size = some u) : Ct l D r (z_rl xs) zm_X2_tAt 0 0 [.ref c_p, .int i1] ([sCe c_p c_a c_codes c_size] : List ZW).flatten (fun v' w' => v' = some (.int u) ∧ w' = ([sCe c_p c_a c_codes c_size] : List ZW).flatten) := by
  refine Ct.of (by decide +kernel) rfl (fun q => absurd q (by decide)) (Nat.le_of_ble_eq_true rfl) ?_
  refine Go.eqz (z2 := (0, [some (.ref c_p), some (.int i1)], [], ([sCe c_p c_a c_codes c_size] : List ZW).flatten)) rfl ?_
  unfold f_X2_tAt at h
  refine Go.blk zk_X2_tAt [0] (z' := (1, [some (.ref c_p), some (.int i1)], [.int i1], ([sCe c_p c_a c_codes c_size] : List ZW).flatten)) rfl trivial ?_
  by_cases hc1 : i1 < 0
  · rw [if_pos hc1] at h
    refine Go.br zk_X2_tAt rfl rfl (fun _ => ?_) (fun q => absurd hc1 q)
    refine Go.blk zk_X2_tAt [0] (z' := (24, [some (.ref c_p), some (.int i1)], [.int 0], ([sCe c_p c_a c_codes c_size] : List ZW).flatten)) rfl trivial ?_
    obtain rfl := Option.some.inj h
    exact Go.iret zk_X2_tAt rfl rfl rfl ⟨rfl, rfl⟩
  · rw [if_neg hc1] at h
    refine Go.br zk_X2_tAt rfl rfl (fun q => absurd q hc1) (fun _ => ?_)
    refine Go.blk zk_X2_tAt [0, 0, 0] (z' := (9, [some (.ref c_p), some (.int i1)], [.int c_size, .int i1], ([sCe c_p c_a c_codes c_size] : List ZW).flatten)) rfl ⟨rfl, trivial⟩ ?_
    by_cases hc2 : i1 < c_size
    · rw [if_pos hc2] at h
      refine Go.br zk_X2_tAt rfl rfl (fun _ => ?_) (fun q => absurd hc2 q)
      refine Go.blk zk_X2_tAt [0, 0, 0] (z' := (17, [some (.ref c_p), some (.int i1)], [.int i1, .ref (c_a 0)], ([sCe c_p c_a c_codes c_size] : List ZW).flatten)) rfl ⟨rfl, trivial⟩ ?_
      obtain ⟨x3, hx3, h⟩ := z_bind h
      refine Go.iald zk_X2_tAt 1 rfl rfl rfl hx3 ?_
      refine Go.blk zk_X2_tAt [0, 0, 0] (z' := (24, [some (.ref c_p), some (.int i1)], [.int (x3 &&& 1)], ([sCe c_p c_a c_codes c_size] : List ZW).flatten)) rfl trivial ?_
      obtain rfl := Option.some.inj h
      exact Go.iret zk_X2_tAt rfl rfl rfl ⟨rfl, rfl⟩
    · rw [if_neg hc2] at h
      refine Go.br zk_X2_tAt rfl rfl (fun q => absurd q hc2) (fun _ => ?_)
      refine Go.blk zk_X2_tAt [0] (z' := (24, [some (.ref c_p), some (.int i1)], [.int 0], ([sCe c_p c_a c_codes c_size] : List ZW).flatten)) rfl trivial ?_
      obtain rfl := Option.some.inj h
      exact Go.iret zk_X2_tAt rfl rfl rfl ⟨rfl, rfl⟩
set_option maxHeartbeats 4000000 in
set_option maxRecDepth 100000 in
theorem t_X2_keyAt {N : Nat} {c_p : Nat} {c_a : Nat → Nat} {c_codes : List Int32} {c_size : Int32} {i1 : Int32} {u : Int32}  (h : f_X2_keyAt N i1 c_codes c_size = some u) : Ct l D r (z_rl xs) zm_X2_keyAt 0 0 [.ref c_p, .int i1] ([sCe c_p c_a c_codes c_size] : List ZW).flatten (fun v' w' => v' = some (.int u) ∧ w' = ([sCe c_p c_a c_codes c_size] : List ZW).flatten) := by
  refine Ct.of (by decide +kernel) rfl (fun q => absurd q (by decide)) (Nat.le_of_ble_eq_true rfl) ?_
  refine Go.eqz (z2 := (0, [some (.ref c_p), some (.int i1)], [], ([sCe c_p c_a c_codes c_size] : List ZW).flatten)) rfl ?_
  unfold f_X2_keyAt at h
  refine Go.blk zk_X2_keyAt [0, 0] (z' := (2, [some (.ref c_p), some (.int i1)], [.int i1, .ref c_p], ([sCe c_p c_a c_codes c_size] : List ZW).flatten)) rfl trivial ?_
  obtain ⟨u1, hu1, h⟩ := z_bind h
  refine Go.vs zk_X2_keyAt zm_X2_qAt [0] [] 0 2 1 (S := [sCe c_p c_a c_codes c_size]) (S2 := [sCe c_p c_a c_codes c_size]) (As := [.int i1]) (rest := []) (st2 := [.int u1]) (v1 := some (.int u1)) rfl zl_X2_25 zv_X2_qAt ⟨Nat.le_of_ble_eq_true rfl, Nat.le_of_ble_eq_true rfl⟩ rfl (by decide) rfl rfl rfl rfl rfl (Nat.le_of_ble_eq_true rfl) (t_X2_qAt hu1) rfl rfl rfl ?_
  refine Go.blk zk_X2_keyAt [0, 0] (z' := (7, [some (.ref c_p), some (.int i1)], [.int i1, .ref c_p, .int u1], ([sCe c_p c_a c_codes c_size] : List ZW).flatten)) rfl trivial ?_
  obtain ⟨u2, hu2, h⟩ := z_bind h
  refine Go.vs zk_X2_keyAt zm_X2_rAt [0] [] 0 2 1 (S := [sCe c_p c_a c_codes c_size]) (S2 := [sCe c_p c_a c_codes c_size]) (As := [.int i1]) (rest := [.int u1]) (st2 := [.int u2, .int u1]) (v1 := some (.int u2)) rfl zl_X2_29 zv_X2_rAt ⟨Nat.le_of_ble_eq_true rfl, Nat.le_of_ble_eq_true rfl⟩ rfl (by decide) rfl rfl rfl rfl rfl (Nat.le_of_ble_eq_true rfl) (t_X2_rAt hu2) rfl rfl rfl ?_
  refine Go.blk zk_X2_keyAt [0, 0] (z' := (12, [some (.ref c_p), some (.int i1)], [.int i1, .ref c_p, .int u2, .int u1], ([sCe c_p c_a c_codes c_size] : List ZW).flatten)) rfl trivial ?_
  obtain ⟨u3, hu3, h⟩ := z_bind h
  refine Go.vs zk_X2_keyAt zm_X2_tAt [0] [] 0 2 1 (S := [sCe c_p c_a c_codes c_size]) (S2 := [sCe c_p c_a c_codes c_size]) (As := [.int i1]) (rest := [.int u2, .int u1]) (st2 := [.int u3, .int u2, .int u1]) (v1 := some (.int u3)) rfl zl_X2_32 zv_X2_tAt ⟨Nat.le_of_ble_eq_true rfl, Nat.le_of_ble_eq_true rfl⟩ rfl (by decide) rfl rfl rfl rfl rfl (Nat.le_of_ble_eq_true rfl) (t_X2_tAt hu3) rfl rfl rfl ?_
  obtain ⟨u4, hu4, h⟩ := z_bind h
  refine Go.ss zk_X2_keyAt zm_X2_keyOf [] [0] 1 (S := [sCe c_p c_a c_codes c_size]) (S2 := [sCe c_p c_a c_codes c_size]) (As := [.int u1, .int u2, .int u3]) (rest := []) (st2 := [.int u4]) (v1 := some (.int u4)) rfl zl_X2_35 zs_X2_keyOf ⟨Nat.le_of_ble_eq_true rfl, Nat.le_of_ble_eq_true rfl⟩ rfl (by decide) rfl rfl (Nat.le_of_ble_eq_true rfl) (t_X2_keyOf hu4) rfl rfl rfl ?_
  obtain rfl := Option.some.inj h
  exact Go.iret zk_X2_keyAt rfl rfl rfl ⟨rfl, rfl⟩
set_option maxHeartbeats 4000000 in
set_option maxRecDepth 100000 in
theorem t_X2_isFull {N : Nat} {c_p : Nat} {c_a : Nat → Nat} {c_codes : List Int32} {c_size : Int32} {u : Int32}  (h : f_X2_isFull N c_codes c_size = some u) : Ct l D r (z_rl xs) zm_X2_isFull 0 0 [.ref c_p] ([sCe c_p c_a c_codes c_size] : List ZW).flatten (fun v' w' => v' = some (.int u) ∧ w' = ([sCe c_p c_a c_codes c_size] : List ZW).flatten) := by
  refine Ct.of (by decide +kernel) rfl (fun q => absurd q (by decide)) (Nat.le_of_ble_eq_true rfl) ?_
  refine Go.eqz (z2 := (0, [some (.ref c_p)], [], ([sCe c_p c_a c_codes c_size] : List ZW).flatten)) rfl ?_
  unfold f_X2_isFull at h
  refine Go.blk zk_X2_isFull [0, 0, 0, 0, 1] (z' := (9, [some (.ref c_p)], [.int (Int32.ofNat (List.length c_codes)), .int c_size], ([sCe c_p c_a c_codes c_size] : List ZW).flatten)) rfl ⟨rfl, rfl, rfl, trivial⟩ ?_
  by_cases hc1 : c_size < (Int32.ofNat (List.length c_codes))
  · rw [if_pos hc1] at h
    refine Go.br zk_X2_isFull rfl rfl (fun _ => ?_) (fun q => absurd hc1 q)
    refine Go.blk zk_X2_isFull [0] (z' := (17, [some (.ref c_p)], [.int 0], ([sCe c_p c_a c_codes c_size] : List ZW).flatten)) rfl trivial ?_
    obtain rfl := Option.some.inj h
    exact Go.iret zk_X2_isFull rfl rfl rfl ⟨rfl, rfl⟩
  · rw [if_neg hc1] at h
    refine Go.br zk_X2_isFull rfl rfl (fun q => absurd q hc1) (fun _ => ?_)
    refine Go.blk zk_X2_isFull [0, 0] (z' := (17, [some (.ref c_p)], [.int 1], ([sCe c_p c_a c_codes c_size] : List ZW).flatten)) rfl trivial ?_
    obtain rfl := Option.some.inj h
    exact Go.iret zk_X2_isFull rfl rfl rfl ⟨rfl, rfl⟩
set_option maxHeartbeats 4000000 in
set_option maxRecDepth 100000 in
theorem t_X2_clear {N : Nat} {c_p : Nat} {c_a : Nat → Nat} {c_codes : List Int32} {c_size : Int32} {u : Int32}  (h : f_X2_clear N  = some u) : Ct l D r (z_rl xs) zm_X2_clear 0 0 [.ref c_p] ([sCe c_p c_a c_codes c_size] : List ZW).flatten (fun v' w' => v' = none ∧ w' = ([sCe c_p c_a c_codes u] : List ZW).flatten) := by
  refine Ct.of (by decide +kernel) rfl (fun q => absurd q (by decide)) (Nat.le_of_ble_eq_true rfl) ?_
  refine Go.eqz (z2 := (0, [some (.ref c_p)], [], ([sCe c_p c_a c_codes c_size] : List ZW).flatten)) rfl ?_
  unfold f_X2_clear at h
  refine Go.blk zk_X2_clear [0, 0] (z' := (2, [some (.ref c_p)], [.int 0, .ref c_p], ([sCe c_p c_a c_codes c_size] : List ZW).flatten)) rfl trivial ?_
  refine Go.put zk_X2_clear 0 rfl rfl rfl rfl rfl (Nat.le_of_ble_eq_true rfl) ?_
  refine Go.eqz (z2 := (5, [some (.ref c_p)], [], ([sCe c_p c_a c_codes 0] : List ZW).flatten)) rfl ?_
  obtain rfl := Option.some.inj h
  exact Go.vret zk_X2_clear rfl rfl ⟨rfl, rfl⟩
set_option maxHeartbeats 4000000 in
set_option maxRecDepth 100000 in
theorem t_X2_add {N : Nat} {c_p : Nat} {c_a : Nat → Nat} {c_codes : List Int32} {c_size : Int32} {i1 : Int32} {i2 : Int32} {i3 : Int32} {u : (List Int32) × Int32}  (h : f_X2_add N i1 i2 i3 c_codes c_size = some u) : Ct l D r (z_rl xs) zm_X2_add 0 0 [.ref c_p, .int i1, .int i2, .int i3] ([sCe c_p c_a c_codes c_size] : List ZW).flatten (fun v' w' => v' = none ∧ w' = ([sCe c_p c_a u.1 u.2] : List ZW).flatten) := by
  refine Ct.of (by decide +kernel) rfl (fun q => absurd q (by decide)) (Nat.le_of_ble_eq_true rfl) ?_
  refine Go.eqz (z2 := (0, [some (.ref c_p), some (.int i1), some (.int i2), some (.int i3)], [], ([sCe c_p c_a c_codes c_size] : List ZW).flatten)) rfl ?_
  unfold f_X2_add at h
  refine Go.blk zk_X2_add [0, 0, 0, 0, 1] (z' := (9, [some (.ref c_p), some (.int i1), some (.int i2), some (.int i3)], [.int (Int32.ofNat (List.length c_codes)), .int c_size], ([sCe c_p c_a c_codes c_size] : List ZW).flatten)) rfl ⟨rfl, rfl, rfl, trivial⟩ ?_
  by_cases hc1 : c_size < (Int32.ofNat (List.length c_codes))
  · rw [if_pos hc1] at h
    refine Go.br zk_X2_add rfl rfl (fun _ => ?_) (fun q => absurd hc1 q)
    refine Go.blk zk_X2_add [0, 0, 0, 0, 0, 0, 0] (z' := (23, [some (.ref c_p), some (.int i1), some (.int i2), some (.int i3)], [.int i3, .int i2, .int i1, .int c_size, .ref (c_a 0)], ([sCe c_p c_a c_codes c_size] : List ZW).flatten)) rfl ⟨rfl, rfl, trivial⟩ ?_
    obtain ⟨u2, hu2, h⟩ := z_bind h
    refine Go.ss zk_X2_add zm_X2_codeOf [] [0] 1 (S := [sCe c_p c_a c_codes c_size]) (S2 := [sCe c_p c_a c_codes c_size]) (As := [.int i1, .int i2, .int i3]) (rest := [.int c_size, .ref (c_a 0)]) (st2 := [.int u2, .int c_size, .ref (c_a 0)]) (v1 := some (.int u2)) rfl zl_X2_39 zs_X2_codeOf ⟨Nat.le_of_ble_eq_true rfl, Nat.le_of_ble_eq_true rfl⟩ rfl (by decide) rfl rfl (Nat.le_of_ble_eq_true rfl) (t_X2_codeOf hu2) rfl rfl rfl ?_
    obtain ⟨t3, ht3, h⟩ := z_bind h
    refine Go.iast zk_X2_add 1 rfl rfl rfl ht3 ?_
    refine Go.eqz (z2 := (27, [some (.ref c_p), some (.int i1), some (.int i2), some (.int i3)], [], ([sCe c_p c_a t3 c_size] : List ZW).flatten)) rfl ?_
    refine Go.blk zk_X2_add [0, 0, 0, 0, 0] (z' := (34, [some (.ref c_p), some (.int i1), some (.int i2), some (.int i3)], [.int (c_size + 1), .ref c_p], ([sCe c_p c_a t3 c_size] : List ZW).flatten)) rfl ⟨rfl, trivial⟩ ?_
    refine Go.put zk_X2_add 0 rfl rfl rfl rfl rfl (Nat.le_of_ble_eq_true rfl) ?_
    refine Go.eqz (z2 := (37, [some (.ref c_p), some (.int i1), some (.int i2), some (.int i3)], [], ([sCe c_p c_a t3 (c_size + 1)] : List ZW).flatten)) rfl ?_
    obtain rfl := Option.some.inj h
    exact Go.vret zk_X2_add rfl rfl ⟨rfl, rfl⟩
  · rw [if_neg hc1] at h
    refine Go.br zk_X2_add rfl rfl (fun q => absurd q hc1) (fun _ => ?_)
    obtain rfl := Option.some.inj h
    exact Go.vret zk_X2_add rfl rfl ⟨rfl, rfl⟩
set_option maxHeartbeats 4000000 in
set_option maxRecDepth 100000 in
theorem t_X2_remove {N : Nat} {c_p : Nat} {c_a : Nat → Nat} {c_codes : List Int32} {c_size : Int32} {i1 : Int32} {u : (List Int32) × Int32}  (h : f_X2_remove N i1 c_codes c_size = some u) : Ct l D r (z_rl xs) zm_X2_remove 0 0 [.ref c_p, .int i1] ([sCe c_p c_a c_codes c_size] : List ZW).flatten (fun v' w' => v' = none ∧ w' = ([sCe c_p c_a u.1 u.2] : List ZW).flatten) := by
  refine Ct.of (by decide +kernel) rfl (fun q => absurd q (by decide)) (Nat.le_of_ble_eq_true rfl) ?_
  refine Go.eqz (z2 := (0, [some (.ref c_p), some (.int i1)], [], ([sCe c_p c_a c_codes c_size] : List ZW).flatten)) rfl ?_
  unfold f_X2_remove at h
  refine Go.blk zk_X2_remove [0] (z' := (1, [some (.ref c_p), some (.int i1)], [.int i1], ([sCe c_p c_a c_codes c_size] : List ZW).flatten)) rfl trivial ?_
  by_cases hc1 : i1 < 0
  · rw [if_pos hc1] at h
    refine Go.br zk_X2_remove rfl rfl (fun _ => ?_) (fun q => absurd hc1 q)
    obtain rfl := Option.some.inj h
    exact Go.vret zk_X2_remove rfl rfl ⟨rfl, rfl⟩
  · rw [if_neg hc1] at h
    refine Go.br zk_X2_remove rfl rfl (fun q => absurd q hc1) (fun _ => ?_)
    refine Go.blk zk_X2_remove [0, 0, 0] (z' := (9, [some (.ref c_p), some (.int i1)], [.int c_size, .int i1], ([sCe c_p c_a c_codes c_size] : List ZW).flatten)) rfl ⟨rfl, trivial⟩ ?_
    by_cases hc2 : i1 < c_size
    · rw [if_pos hc2] at h
      refine Go.br zk_X2_remove rfl rfl (fun _ => ?_) (fun q => absurd hc2 q)
      refine Go.blk zk_X2_remove [0, 0, 0, 0, 0, 0, 0, 0, 0] (z' := (27, [some (.ref c_p), some (.int i1)], [.int (c_size - 1), .ref (c_a 0), .int i1, .ref (c_a 0)], ([sCe c_p c_a c_codes c_size] : List ZW).flatten)) rfl ⟨rfl, rfl, rfl, trivial⟩ ?_
      obtain ⟨x3, hx3, h⟩ := z_bind h
      refine Go.iald zk_X2_remove 1 rfl rfl rfl hx3 ?_
      obtain ⟨t4, ht4, h⟩ := z_bind h
      refine Go.iast zk_X2_remove 1 rfl rfl rfl ht4 ?_
      refine Go.eqz (z2 := (29, [some (.ref c_p), some (.int i1)], [], ([sCe c_p c_a t4 c_size] : List ZW).flatten)) rfl ?_
      refine Go.blk zk_X2_remove [0, 0, 0, 0, 0] (z' := (36, [some (.ref c_p), some (.int i1)], [.int (c_size - 1), .ref c_p], ([sCe c_p c_a t4 c_size] : List ZW).flatten)) rfl ⟨rfl, trivial⟩ ?_
      refine Go.put zk_X2_remove 0 rfl rfl rfl rfl rfl (Nat.le_of_ble_eq_true rfl) ?_
      refine Go.eqz (z2 := (39, [some (.ref c_p), some (.int i1)], [], ([sCe c_p c_a t4 (c_size - 1)] : List ZW).flatten)) rfl ?_
      obtain rfl := Option.some.inj h
      exact Go.vret zk_X2_remove rfl rfl ⟨rfl, rfl⟩
    · rw [if_neg hc2] at h
      refine Go.br zk_X2_remove rfl rfl (fun q => absurd q hc2) (fun _ => ?_)
      obtain rfl := Option.some.inj h
      exact Go.vret zk_X2_remove rfl rfl ⟨rfl, rfl⟩
set_option maxHeartbeats 4000000 in
set_option maxRecDepth 100000 in
theorem t_X2_find_L11 {N : Nat} {c_p : Nat} {c_a : Nat → Nat} {c_codes : List Int32} {c_size : Int32} {v4 : Int32}  {Q : Option Value → ZW → Prop} : ∀ (fu : Nat) (v5 : Int32) (o : (Unit) ⊕ (Int32)), f_X2_find_L11 N v4 c_codes c_size fu v5 = some o → (∀ e, o = .inl e → Go l D r (z_rl xs) zm_X2_find 0 0 (41, [none, none, none, none, none, none], [], ([sCe c_p c_a c_codes c_size] : List ZW).flatten) Q) → (∀ e, o = .inr e → Q (some (.int e)) ([sCe c_p c_a c_codes c_size] : List ZW).flatten) → Go l D r (z_rl xs) zm_X2_find 0 0 (11, [some (.ref c_p), none, none, none, some (.int v4), some (.int v5)], [], ([sCe c_p c_a c_codes c_size] : List ZW).flatten) Q := by
  intro fu
  induction fu with
  | zero =>
    intro v5 o h
    simp only [f_X2_find_L11, reduceCtorEq] at h
  | succ fu ih =>
    intro v5 o h k1 k2
    rw [f_X2_find_L11] at h
    refine Go.blk zk_X2_find [0, 0, 0] (z' := (17, [some (.ref c_p), none, none, none, some (.int v4), some (.int v5)], [.int c_size, .int v5], ([sCe c_p c_a c_codes c_size] : List ZW).flatten)) rfl ⟨rfl, trivial⟩ ?_
    by_cases hc2 : v5 < c_size
    · rw [if_pos hc2] at h
      refine Go.br zk_X2_find rfl rfl (fun _ => ?_) (fun q => absurd hc2 q)
      refine Go.blk zk_X2_find [0, 0, 0] (z' := (26, [some (.ref c_p), none, none, none, some (.int v4), some (.int v5)], [.int v5, .ref (c_a 0)], ([sCe c_p c_a c_codes c_size] : List ZW).flatten)) rfl ⟨rfl, trivial⟩ ?_
      obtain ⟨x3, hx3, h⟩ := z_bind h
      refine Go.iald zk_X2_find 1 rfl rfl rfl hx3 ?_
      refine Go.blk zk_X2_find [0] (z' := (29, [some (.ref c_p), none, none, none, some (.int v4), some (.int v5)], [.int v4, .int x3], ([sCe c_p c_a c_codes c_size] : List ZW).flatten)) rfl trivial ?_
      by_cases hc4 : x3 = v4
      · rw [if_pos hc4] at h
        refine Go.br zk_X2_find rfl rfl (fun _ => ?_) (fun q => absurd hc4 q)
        refine Go.blk zk_X2_find [0] (z' := (34, [some (.ref c_p), none, none, none, some (.int v4), some (.int v5)], [.int v5], ([sCe c_p c_a c_codes c_size] : List ZW).flatten)) rfl trivial ?_
        obtain rfl := Option.some.inj h
        exact Go.iret zk_X2_find rfl rfl rfl (k2 _ rfl)
      · rw [if_neg hc4] at h
        refine Go.br zk_X2_find rfl rfl (fun q => absurd q hc4) (fun _ => ?_)
        refine Go.blk zk_X2_find [0, 0] (z' := (11, [some (.ref c_p), none, none, none, some (.int v4), some (.int (v5 + 1))], [], ([sCe c_p c_a c_codes c_size] : List ZW).flatten)) rfl trivial ?_
        exact ih _ _ h k1 k2
    · rw [if_neg hc2] at h
      refine Go.br zk_X2_find rfl rfl (fun q => absurd q hc2) (fun _ => ?_)
      obtain rfl := Option.some.inj h
      refine Go.weak (L := [some (.ref c_p), none, none, none, some (.int v4), some (.int v5)]) (L' := [none, none, none, none, none, none]) (trivial) ?_
      exact k1 _ rfl
set_option maxHeartbeats 4000000 in
set_option maxRecDepth 100000 in
theorem t_X2_find {N : Nat} {c_p : Nat} {c_a : Nat → Nat} {c_codes : List Int32} {c_size : Int32} {i1 : Int32} {i2 : Int32} {i3 : Int32} {u : Int32}  (h : f_X2_find N i1 i2 i3 c_codes c_size = some u) : Ct l D r (z_rl xs) zm_X2_find 0 0 [.ref c_p, .int i1, .int i2, .int i3] ([sCe c_p c_a c_codes c_size] : List ZW).flatten (fun v' w' => v' = some (.int u) ∧ w' = ([sCe c_p c_a c_codes c_size] : List ZW).flatten) := by
  refine Ct.of (by decide +kernel) rfl (fun q => absurd q (by decide)) (Nat.le_of_ble_eq_true rfl) ?_
  refine Go.eqz (z2 := (0, [some (.ref c_p), some (.int i1), some (.int i2), some (.int i3), none, none], [], ([sCe c_p c_a c_codes c_size] : List ZW).flatten)) rfl ?_
  unfold f_X2_find at h
  refine Go.blk zk_X2_find [0, 0, 0] (z' := (3, [some (.ref c_p), some (.int i1), some (.int i2), some (.int i3), none, none], [.int i3, .int i2, .int i1], ([sCe c_p c_a c_codes c_size] : List ZW).flatten)) rfl trivial ?_
  obtain ⟨u1, hu1, h⟩ := z_bind h
  refine Go.ss zk_X2_find zm_X2_codeOf [] [0] 1 (S := [sCe c_p c_a c_codes c_size]) (S2 := [sCe c_p c_a c_codes c_size]) (As := [.int i1, .int i2, .int i3]) (rest := []) (st2 := [.int u1]) (v1 := some (.int u1)) rfl zl_X2_39 zs_X2_codeOf ⟨Nat.le_of_ble_eq_true rfl, Nat.le_of_ble_eq_true rfl⟩ rfl (by decide) rfl rfl (Nat.le_of_ble_eq_true rfl) (t_X2_codeOf hu1) rfl rfl rfl ?_
  refine Go.blk zk_X2_find [0, 0, 0] (z' := (11, [some (.ref c_p), some (.int i1), some (.int i2), some (.int i3), some (.int u1), some (.int 0)], [], ([sCe c_p c_a c_codes c_size] : List ZW).flatten)) rfl trivial ?_
  refine Go.weak (L := [some (.ref c_p), some (.int i1), some (.int i2), some (.int i3), some (.int u1), some (.int 0)]) (L' := [some (.ref c_p), none, none, none, some (.int u1), some (.int 0)]) (And.intro rfl (And.intro rfl (And.intro rfl (trivial)))) ?_
  obtain ⟨o6, he5, h⟩ := z_bind h
  cases o6 with
  | inl e5 =>
    simp only [Sum.elim_inl] at h
    refine t_X2_find_L11 N _ _ he5 (fun _ q => ?_) (fun _ q => nomatch q)
    obtain rfl := Sum.inl.inj q
    refine Go.blk zk_X2_find [0] (z' := (42, [none, none, none, none, none, none], [.int (-1)], ([sCe c_p c_a c_codes c_size] : List ZW).flatten)) rfl trivial ?_
    obtain rfl := Option.some.inj h
    exact Go.iret zk_X2_find rfl rfl rfl ⟨rfl, rfl⟩
  | inr u7 =>
    simp only [Sum.elim_inr] at h
    obtain rfl := Option.some.inj h
    refine t_X2_find_L11 N _ _ he5 (fun _ q => nomatch q) (fun _ q => ?_)
    obtain rfl := Sum.inr.inj q
    exact ⟨rfl, rfl⟩
set_option maxHeartbeats 4000000 in
set_option maxRecDepth 100000 in
theorem t_X2_copy_L18 {N : Nat} {c_p : Nat} {c_a : Nat → Nat} {c_size : Int32} {d_p : Nat} {d_a : Nat → Nat} {d_codes : List Int32} {d_size : Int32}  {Q : Option Value → ZW → Prop} : ∀ (fu : Nat) (v2 : Int32) (c_codes : List Int32) (e : (List Int32)), f_X2_copy_L18 N c_size d_codes fu v2 c_codes = some e → (Go l D r (z_rl xs) zm_X2_copy 0 0 (44, [none, none, none], [], ([sCe c_p c_a e c_size, sCe d_p d_a d_codes d_size] : List ZW).flatten) Q) → Go l D r (z_rl xs) zm_X2_copy 0 0 (18, [some (.ref c_p), some (.ref d_p), some (.int v2)], [], ([sCe c_p c_a c_codes c_size, sCe d_p d_a d_codes d_size] : List ZW).flatten) Q := by
  intro fu
  induction fu with
  | zero =>
    intro v2 c_codes e h
    simp only [f_X2_copy_L18, reduceCtorEq] at h
  | succ fu ih =>
    intro v2 c_codes e h kk
    rw [f_X2_copy_L18] at h
    refine Go.blk zk_X2_copy [0, 0, 0] (z' := (23, [some (.ref c_p), some (.ref d_p), some (.int v2)], [.int c_size, .int v2], ([sCe c_p c_a c_codes c_size, sCe d_p d_a d_codes d_size] : List ZW).flatten)) rfl ⟨rfl, trivial⟩ ?_
    by_cases hc1 : v2 < c_size
    · rw [if_pos hc1] at h
      refine Go.br zk_X2_copy rfl rfl (fun _ => ?_) (fun q => absurd hc1 q)
      refine Go.blk zk_X2_copy [0, 0, 0, 0, 2, 0] (z' := (36, [some (.ref c_p), some (.ref d_p), some (.int v2)], [.int v2, .ref (d_a 0), .int v2, .ref (c_a 0)], ([sCe c_p c_a c_codes c_size, sCe d_p d_a d_codes d_size] : List ZW).flatten)) rfl ⟨rfl, rfl, trivial⟩ ?_
      obtain ⟨x2, hx2, h⟩ := z_bind h
      refine Go.iald zk_X2_copy 3 rfl rfl rfl hx2 ?_
      obtain ⟨t3, ht3, h⟩ := z_bind h
      refine Go.iast zk_X2_copy 1 rfl rfl rfl ht3 ?_
      refine Go.eqz (z2 := (38, [some (.ref c_p), some (.ref d_p), some (.int v2)], [], ([sCe c_p c_a t3 c_size, sCe d_p d_a d_codes d_size] : List ZW).flatten)) rfl ?_
      refine Go.blk zk_X2_copy [0, 0] (z' := (18, [some (.ref c_p), some (.ref d_p), some (.int (v2 + 1))], [], ([sCe c_p c_a t3 c_size, sCe d_p d_a d_codes d_size] : List ZW).flatten)) rfl trivial ?_
      exact ih _ _ _ h kk
    · rw [if_neg hc1] at h
      refine Go.br zk_X2_copy rfl rfl (fun q => absurd q hc1) (fun _ => ?_)
      obtain rfl := Option.some.inj h
      refine Go.weak (L := [some (.ref c_p), some (.ref d_p), some (.int v2)]) (L' := [none, none, none]) (trivial) ?_
      exact kk
set_option maxHeartbeats 4000000 in
set_option maxRecDepth 100000 in
theorem t_X2_copy {N : Nat} {c_p : Nat} {c_a : Nat → Nat} {c_codes : List Int32} {c_size : Int32} {d_p : Nat} {d_a : Nat → Nat} {d_codes : List Int32} {d_size : Int32} {u : (List Int32) × Int32}  (h : f_X2_copy N c_codes d_codes d_size = some u) : Ct l D r (z_rl xs) zm_X2_copy 0 0 [.ref c_p, .ref d_p] ([sCe c_p c_a c_codes c_size, sCe d_p d_a d_codes d_size] : List ZW).flatten (fun v' w' => v' = none ∧ w' = ([sCe c_p c_a u.1 u.2, sCe d_p d_a d_codes d_size] : List ZW).flatten) := by
  refine Ct.of (by decide +kernel) rfl (fun q => absurd q (by decide)) (Nat.le_of_ble_eq_true rfl) ?_
  refine Go.eqz (z2 := (0, [some (.ref c_p), some (.ref d_p), none], [], ([sCe c_p c_a c_codes c_size, sCe d_p d_a d_codes d_size] : List ZW).flatten)) rfl ?_
  unfold f_X2_copy at h
  refine Go.blk zk_X2_copy [0, 0, 2, 0, 0, 1] (z' := (10, [some (.ref c_p), some (.ref d_p), none], [.int (Int32.ofNat (List.length c_codes)), .int d_size, .ref c_p], ([sCe c_p c_a c_codes c_size, sCe d_p d_a d_codes d_size] : List ZW).flatten)) rfl ⟨rfl, rfl, rfl, trivial⟩ ?_
  refine Go.mmin zk_X2_copy rfl zl_X2_42 ⟨Nat.le_of_ble_eq_true rfl, Nat.le_of_ble_eq_true rfl⟩ zw_min ?_
  refine Go.put zk_X2_copy 0 rfl rfl rfl rfl rfl (Nat.le_of_ble_eq_true rfl) ?_
  refine Go.eqz (z2 := (16, [some (.ref c_p), some (.ref d_p), none], [], ([sCe c_p c_a c_codes (if (Int32.ofNat (List.length c_codes)) < d_size then Int32.ofNat (List.length c_codes) else d_size), sCe d_p d_a d_codes d_size] : List ZW).flatten)) rfl ?_
  refine Go.blk zk_X2_copy [0, 0] (z' := (18, [some (.ref c_p), some (.ref d_p), some (.int 0)], [], ([sCe c_p c_a c_codes (if (Int32.ofNat (List.length c_codes)) < d_size then Int32.ofNat (List.length c_codes) else d_size), sCe d_p d_a d_codes d_size] : List ZW).flatten)) rfl trivial ?_
  obtain ⟨e4, he4, h⟩ := z_bind h
  refine t_X2_copy_L18 N _ _ _ he4 ?_
  obtain rfl := Option.some.inj h
  exact Go.vret zk_X2_copy rfl rfl ⟨rfl, rfl⟩
set_option maxHeartbeats 4000000 in
set_option maxRecDepth 100000 in
theorem t_X2_mirror_L2 {N : Nat} {c_p : Nat} {c_a : Nat → Nat} {c_size : Int32}  {Q : Option Value → ZW → Prop} : ∀ (fu : Nat) (v1 : Int32) (c_codes : List Int32) (e : (List Int32)), f_X2_mirror_L2 N c_size fu v1 c_codes = some e → (Go l D r (z_rl xs) zm_X2_mirror 0 0 (40, [none, none], [], ([sCe c_p c_a e c_size] : List ZW).flatten) Q) → Go l D r (z_rl xs) zm_X2_mirror 0 0 (2, [some (.ref c_p), some (.int v1)], [], ([sCe c_p c_a c_codes c_size] : List ZW).flatten) Q := by
  intro fu
  induction fu with
  | zero =>
    intro v1 c_codes e h
    simp only [f_X2_mirror_L2, reduceCtorEq] at h
  | succ fu ih =>
    intro v1 c_codes e h kk
    rw [f_X2_mirror_L2] at h
    refine Go.blk zk_X2_mirror [0, 0, 0] (z' := (7, [some (.ref c_p), some (.int v1)], [.int c_size, .int v1], ([sCe c_p c_a c_codes c_size] : List ZW).flatten)) rfl ⟨rfl, trivial⟩ ?_
    by_cases hc1 : v1 < c_size
    · rw [if_pos hc1] at h
      refine Go.br zk_X2_mirror rfl rfl (fun _ => ?_) (fun q => absurd hc1 q)
      refine Go.blk zk_X2_mirror [0, 0, 0, 0, 0] (z' := (17, [some (.ref c_p), some (.int v1)], [.int v1, .ref c_p, .int v1, .ref (c_a 0)], ([sCe c_p c_a c_codes c_size] : List ZW).flatten)) rfl ⟨rfl, trivial⟩ ?_
      obtain ⟨u2, hu2, h⟩ := z_bind h
      refine Go.vs zk_X2_mirror zm_X2_rAt [0] [] 0 2 1 (S := [sCe c_p c_a c_codes c_size]) (S2 := [sCe c_p c_a c_codes c_size]) (As := [.int v1]) (rest := [.int v1, .ref (c_a 0)]) (st2 := [.int u2, .int v1, .ref (c_a 0)]) (v1 := some (.int u2)) rfl zl_X2_29 zv_X2_rAt ⟨Nat.le_of_ble_eq_true rfl, Nat.le_of_ble_eq_true rfl⟩ rfl (by decide) rfl rfl rfl rfl rfl (Nat.le_of_ble_eq_true rfl) (t_X2_rAt hu2) rfl rfl rfl ?_
      refine Go.blk zk_X2_mirror [0, 0] (z' := (22, [some (.ref c_p), some (.int v1)], [.int v1, .ref c_p, .int u2, .int v1, .ref (c_a 0)], ([sCe c_p c_a c_codes c_size] : List ZW).flatten)) rfl trivial ?_
      obtain ⟨u3, hu3, h⟩ := z_bind h
      refine Go.vs zk_X2_mirror zm_X2_qAt [0] [] 0 2 1 (S := [sCe c_p c_a c_codes c_size]) (S2 := [sCe c_p c_a c_codes c_size]) (As := [.int v1]) (rest := [.int u2, .int v1, .ref (c_a 0)]) (st2 := [.int u3, .int u2, .int v1, .ref (c_a 0)]) (v1 := some (.int u3)) rfl zl_X2_25 zv_X2_qAt ⟨Nat.le_of_ble_eq_true rfl, Nat.le_of_ble_eq_true rfl⟩ rfl (by decide) rfl rfl rfl rfl rfl (Nat.le_of_ble_eq_true rfl) (t_X2_qAt hu3) rfl rfl rfl ?_
      refine Go.blk zk_X2_mirror [0, 0] (z' := (27, [some (.ref c_p), some (.int v1)], [.int v1, .ref c_p, .int u3, .int u2, .int v1, .ref (c_a 0)], ([sCe c_p c_a c_codes c_size] : List ZW).flatten)) rfl trivial ?_
      obtain ⟨u4, hu4, h⟩ := z_bind h
      refine Go.vs zk_X2_mirror zm_X2_tAt [0] [] 0 2 1 (S := [sCe c_p c_a c_codes c_size]) (S2 := [sCe c_p c_a c_codes c_size]) (As := [.int v1]) (rest := [.int u3, .int u2, .int v1, .ref (c_a 0)]) (st2 := [.int u4, .int u3, .int u2, .int v1, .ref (c_a 0)]) (v1 := some (.int u4)) rfl zl_X2_32 zv_X2_tAt ⟨Nat.le_of_ble_eq_true rfl, Nat.le_of_ble_eq_true rfl⟩ rfl (by decide) rfl rfl rfl rfl rfl (Nat.le_of_ble_eq_true rfl) (t_X2_tAt hu4) rfl rfl rfl ?_
      obtain ⟨u5, hu5, h⟩ := z_bind h
      refine Go.ss zk_X2_mirror zm_X2_codeOf [] [0] 1 (S := [sCe c_p c_a c_codes c_size]) (S2 := [sCe c_p c_a c_codes c_size]) (As := [.int u2, .int u3, .int u4]) (rest := [.int v1, .ref (c_a 0)]) (st2 := [.int u5, .int v1, .ref (c_a 0)]) (v1 := some (.int u5)) rfl zl_X2_39 zs_X2_codeOf ⟨Nat.le_of_ble_eq_true rfl, Nat.le_of_ble_eq_true rfl⟩ rfl (by decide) rfl rfl (Nat.le_of_ble_eq_true rfl) (t_X2_codeOf hu5) rfl rfl rfl ?_
      obtain ⟨t6, ht6, h⟩ := z_bind h
      refine Go.iast zk_X2_mirror 1 rfl rfl rfl ht6 ?_
      refine Go.eqz (z2 := (34, [some (.ref c_p), some (.int v1)], [], ([sCe c_p c_a t6 c_size] : List ZW).flatten)) rfl ?_
      refine Go.blk zk_X2_mirror [0, 0] (z' := (2, [some (.ref c_p), some (.int (v1 + 1))], [], ([sCe c_p c_a t6 c_size] : List ZW).flatten)) rfl trivial ?_
      exact ih _ _ _ h kk
    · rw [if_neg hc1] at h
      refine Go.br zk_X2_mirror rfl rfl (fun q => absurd q hc1) (fun _ => ?_)
      obtain rfl := Option.some.inj h
      refine Go.weak (L := [some (.ref c_p), some (.int v1)]) (L' := [none, none]) (trivial) ?_
      exact kk
set_option maxHeartbeats 4000000 in
set_option maxRecDepth 100000 in
theorem t_X2_mirror {N : Nat} {c_p : Nat} {c_a : Nat → Nat} {c_codes : List Int32} {c_size : Int32} {u : (List Int32)}  (h : f_X2_mirror N c_codes c_size = some u) : Ct l D r (z_rl xs) zm_X2_mirror 0 0 [.ref c_p] ([sCe c_p c_a c_codes c_size] : List ZW).flatten (fun v' w' => v' = none ∧ w' = ([sCe c_p c_a u c_size] : List ZW).flatten) := by
  refine Ct.of (by decide +kernel) rfl (fun q => absurd q (by decide)) (Nat.le_of_ble_eq_true rfl) ?_
  refine Go.eqz (z2 := (0, [some (.ref c_p), none], [], ([sCe c_p c_a c_codes c_size] : List ZW).flatten)) rfl ?_
  unfold f_X2_mirror at h
  refine Go.blk zk_X2_mirror [0, 0] (z' := (2, [some (.ref c_p), some (.int 0)], [], ([sCe c_p c_a c_codes c_size] : List ZW).flatten)) rfl trivial ?_
  obtain ⟨e7, he7, h⟩ := z_bind h
  refine t_X2_mirror_L2 N _ _ _ he7 ?_
  obtain rfl := Option.some.inj h
  exact Go.vret zk_X2_mirror rfl rfl ⟨rfl, rfl⟩
set_option maxHeartbeats 4000000 in
set_option maxRecDepth 100000 in
theorem t_X2_turn_L2 {N : Nat} {c_p : Nat} {c_a : Nat → Nat} {c_size : Int32} {v1 : Int32}  {Q : Option Value → ZW → Prop} : ∀ (fu : Nat) (v2 : Int32) (c_codes : List Int32) (e : (List Int32)), f_X2_turn_L2 N v1 c_size fu v2 c_codes = some e → (Go l D r (z_rl xs) zm_X2_turn 0 0 (107, [none, none, none, none, none, none], [], ([sCe c_p c_a e c_size] : List ZW).flatten) Q) → Go l D r (z_rl xs) zm_X2_turn 0 0 (2, [some (.ref c_p), some (.int v1), some (.int v2), none, none, none], [], ([sCe c_p c_a c_codes c_size] : List ZW).flatten) Q := by
  intro fu
  induction fu with
  | zero =>
    intro v2 c_codes e h
    simp only [f_X2_turn_L2, reduceCtorEq] at h
  | succ fu ih =>
    intro v2 c_codes e h kk
    rw [f_X2_turn_L2] at h
    refine Go.blk zk_X2_turn [0, 0, 0] (z' := (7, [some (.ref c_p), some (.int v1), some (.int v2), none, none, none], [.int c_size, .int v2], ([sCe c_p c_a c_codes c_size] : List ZW).flatten)) rfl ⟨rfl, trivial⟩ ?_
    by_cases hc1 : v2 < c_size
    · rw [if_pos hc1] at h
      refine Go.br zk_X2_turn rfl rfl (fun _ => ?_) (fun q => absurd hc1 q)
      refine Go.blk zk_X2_turn [0, 0] (z' := (12, [some (.ref c_p), some (.int v1), some (.int v2), none, none, none], [.int v2, .ref c_p], ([sCe c_p c_a c_codes c_size] : List ZW).flatten)) rfl trivial ?_
      obtain ⟨u2, hu2, h⟩ := z_bind h
      refine Go.vs zk_X2_turn zm_X2_qAt [0] [] 0 2 1 (S := [sCe c_p c_a c_codes c_size]) (S2 := [sCe c_p c_a c_codes c_size]) (As := [.int v2]) (rest := []) (st2 := [.int u2]) (v1 := some (.int u2)) rfl zl_X2_25 zv_X2_qAt ⟨Nat.le_of_ble_eq_true rfl, Nat.le_of_ble_eq_true rfl⟩ rfl (by decide) rfl rfl rfl rfl rfl (Nat.le_of_ble_eq_true rfl) (t_X2_qAt hu2) rfl rfl rfl ?_
      refine Go.blk zk_X2_turn [0, 0, 0] (z' := (18, [some (.ref c_p), some (.int v1), some (.int v2), some (.int u2), none, none], [.int v2, .ref c_p], ([sCe c_p c_a c_codes c_size] : List ZW).flatten)) rfl trivial ?_
      obtain ⟨u3, hu3, h⟩ := z_bind h
      refine Go.vs zk_X2_turn zm_X2_rAt [0] [] 0 2 1 (S := [sCe c_p c_a c_codes c_size]) (S2 := [sCe c_p c_a c_codes c_size]) (As := [.int v2]) (rest := []) (st2 := [.int u3]) (v1 := some (.int u3)) rfl zl_X2_29 zv_X2_rAt ⟨Nat.le_of_ble_eq_true rfl, Nat.le_of_ble_eq_true rfl⟩ rfl (by decide) rfl rfl rfl rfl rfl (Nat.le_of_ble_eq_true rfl) (t_X2_rAt hu3) rfl rfl rfl ?_
      refine Go.blk zk_X2_turn [0, 0, 0] (z' := (25, [some (.ref c_p), some (.int v1), some (.int v2), some (.int u2), some (.int u3), none], [.int v2, .ref c_p], ([sCe c_p c_a c_codes c_size] : List ZW).flatten)) rfl trivial ?_
      obtain ⟨u4, hu4, h⟩ := z_bind h
      refine Go.vs zk_X2_turn zm_X2_tAt [0] [] 0 2 1 (S := [sCe c_p c_a c_codes c_size]) (S2 := [sCe c_p c_a c_codes c_size]) (As := [.int v2]) (rest := []) (st2 := [.int u4]) (v1 := some (.int u4)) rfl zl_X2_32 zv_X2_tAt ⟨Nat.le_of_ble_eq_true rfl, Nat.le_of_ble_eq_true rfl⟩ rfl (by decide) rfl rfl rfl rfl rfl (Nat.le_of_ble_eq_true rfl) (t_X2_tAt hu4) rfl rfl rfl ?_
      refine Go.blk zk_X2_turn [0, 0] (z' := (31, [some (.ref c_p), some (.int v1), some (.int v2), some (.int u2), some (.int u3), some (.int u4)], [.int v1], ([sCe c_p c_a c_codes c_size] : List ZW).flatten)) rfl trivial ?_
      by_cases hc5 : v1 = 0
      · rw [if_pos hc5] at h
        refine Go.br zk_X2_turn rfl rfl (fun _ => ?_) (fun q => absurd hc5 q)
        refine Go.blk zk_X2_turn [0, 0, 0, 0, 0, 0, 0] (z' := (44, [some (.ref c_p), some (.int v1), some (.int v2), some (.int u2), some (.int u3), some (.int u4)], [.int 0, .int u2, .int (-u3), .int v2, .ref (c_a 0)], ([sCe c_p c_a c_codes c_size] : List ZW).flatten)) rfl ⟨rfl, trivial⟩ ?_
        obtain ⟨u6, hu6, h⟩ := z_bind h
        refine Go.ss zk_X2_turn zm_X2_codeOf [] [0] 1 (S := [sCe c_p c_a c_codes c_size]) (S2 := [sCe c_p c_a c_codes c_size]) (As := [.int (-u3), .int u2, .int 0]) (rest := [.int v2, .ref (c_a 0)]) (st2 := [.int u6, .int v2, .ref (c_a 0)]) (v1 := some (.int u6)) rfl zl_X2_39 zs_X2_codeOf ⟨Nat.le_of_ble_eq_true rfl, Nat.le_of_ble_eq_true rfl⟩ rfl (by decide) rfl rfl (Nat.le_of_ble_eq_true rfl) (t_X2_codeOf hu6) rfl rfl rfl ?_
        obtain ⟨t7, ht7, h⟩ := z_bind h
        refine Go.iast zk_X2_turn 1 rfl rfl rfl ht7 ?_
        refine Go.eqz (z2 := (48, [some (.ref c_p), some (.int v1), some (.int v2), some (.int u2), some (.int u3), some (.int u4)], [], ([sCe c_p c_a t7 c_size] : List ZW).flatten)) rfl ?_
        refine Go.blk zk_X2_turn [0, 0, 0] (z' := (2, [some (.ref c_p), some (.int v1), some (.int (v2 + 1)), some (.int u2), some (.int u3), some (.int u4)], [], ([sCe c_p c_a t7 c_size] : List ZW).flatten)) rfl trivial ?_
        refine Go.weak (L := [some (.ref c_p), some (.int v1), some (.int (v2 + 1)), some (.int u2), some (.int u3), some (.int u4)]) (L' := [some (.ref c_p), some (.int v1), some (.int (v2 + 1)), none, none, none]) (And.intro rfl (And.intro rfl (And.intro rfl (trivial)))) ?_
        exact ih _ _ _ h kk
      · rw [if_neg hc5] at h
        refine Go.br zk_X2_turn rfl rfl (fun q => absurd q hc5) (fun _ => ?_)
        refine Go.blk zk_X2_turn [0, 0] (z' := (53, [some (.ref c_p), some (.int v1), some (.int v2), some (.int u2), some (.int u3), some (.int u4)], [.int 1, .int v1], ([sCe c_p c_a c_codes c_size] : List ZW).flatten)) rfl trivial ?_
        by_cases hc8 : v1 = 1
        · rw [if_pos hc8] at h
          refine Go.br zk_X2_turn rfl rfl (fun _ => ?_) (fun q => absurd hc8 q)
          refine Go.blk zk_X2_turn [0, 0, 0, 0, 0, 0, 0, 0, 0, 0, 0, 0, 0, 0, 0] (z' := (77, [some (.ref c_p), some (.int v1), some (.int v2), some (.int u2), some (.int u3), some (.int u4)], [.int (1 - u4), .int ((u2 + u3) + u4), .int ((-u3) - 1), .int v2, .ref (c_a 0)], ([sCe c_p c_a c_codes c_size] : List ZW).flatten)) rfl ⟨rfl, trivial⟩ ?_
          obtain ⟨u9, hu9, h⟩ := z_bind h
          refine Go.ss zk_X2_turn zm_X2_codeOf [] [0] 1 (S := [sCe c_p c_a c_codes c_size]) (S2 := [sCe c_p c_a c_codes c_size]) (As := [.int ((-u3) - 1), .int ((u2 + u3) + u4), .int (1 - u4)]) (rest := [.int v2, .ref (c_a 0)]) (st2 := [.int u9, .int v2, .ref (c_a 0)]) (v1 := some (.int u9)) rfl zl_X2_39 zs_X2_codeOf ⟨Nat.le_of_ble_eq_true rfl, Nat.le_of_ble_eq_true rfl⟩ rfl (by decide) rfl rfl (Nat.le_of_ble_eq_true rfl) (t_X2_codeOf hu9) rfl rfl rfl ?_
          obtain ⟨t10, ht10, h⟩ := z_bind h
          refine Go.iast zk_X2_turn 1 rfl rfl rfl ht10 ?_
          refine Go.eqz (z2 := (81, [some (.ref c_p), some (.int v1), some (.int v2), some (.int u2), some (.int u3), some (.int u4)], [], ([sCe c_p c_a t10 c_size] : List ZW).flatten)) rfl ?_
          refine Go.blk zk_X2_turn [0, 0, 0] (z' := (2, [some (.ref c_p), some (.int v1), some (.int (v2 + 1)), some (.int u2), some (.int u3), some (.int u4)], [], ([sCe c_p c_a t10 c_size] : List ZW).flatten)) rfl trivial ?_
          refine Go.weak (L := [some (.ref c_p), some (.int v1), some (.int (v2 + 1)), some (.int u2), some (.int u3), some (.int u4)]) (L' := [some (.ref c_p), some (.int v1), some (.int (v2 + 1)), none, none, none]) (And.intro rfl (And.intro rfl (And.intro rfl (trivial)))) ?_
          exact ih _ _ _ h kk
        · rw [if_neg hc8] at h
          refine Go.br zk_X2_turn rfl rfl (fun q => absurd q hc8) (fun _ => ?_)
          refine Go.blk zk_X2_turn [0, 0, 0, 0, 0, 0, 0, 0, 0] (z' := (97, [some (.ref c_p), some (.int v1), some (.int v2), some (.int u2), some (.int u3), some (.int u4)], [.int 0, .int (u2 + u3), .int (-u3), .int v2, .ref (c_a 0)], ([sCe c_p c_a c_codes c_size] : List ZW).flatten)) rfl ⟨rfl, trivial⟩ ?_
          obtain ⟨u11, hu11, h⟩ := z_bind h
          refine Go.ss zk_X2_turn zm_X2_codeOf [] [0] 1 (S := [sCe c_p c_a c_codes c_size]) (S2 := [sCe c_p c_a c_codes c_size]) (As := [.int (-u3), .int (u2 + u3), .int 0]) (rest := [.int v2, .ref (c_a 0)]) (st2 := [.int u11, .int v2, .ref (c_a 0)]) (v1 := some (.int u11)) rfl zl_X2_39 zs_X2_codeOf ⟨Nat.le_of_ble_eq_true rfl, Nat.le_of_ble_eq_true rfl⟩ rfl (by decide) rfl rfl (Nat.le_of_ble_eq_true rfl) (t_X2_codeOf hu11) rfl rfl rfl ?_
          obtain ⟨t12, ht12, h⟩ := z_bind h
          refine Go.iast zk_X2_turn 1 rfl rfl rfl ht12 ?_
          refine Go.eqz (z2 := (101, [some (.ref c_p), some (.int v1), some (.int v2), some (.int u2), some (.int u3), some (.int u4)], [], ([sCe c_p c_a t12 c_size] : List ZW).flatten)) rfl ?_
          refine Go.blk zk_X2_turn [0, 0] (z' := (2, [some (.ref c_p), some (.int v1), some (.int (v2 + 1)), some (.int u2), some (.int u3), some (.int u4)], [], ([sCe c_p c_a t12 c_size] : List ZW).flatten)) rfl trivial ?_
          refine Go.weak (L := [some (.ref c_p), some (.int v1), some (.int (v2 + 1)), some (.int u2), some (.int u3), some (.int u4)]) (L' := [some (.ref c_p), some (.int v1), some (.int (v2 + 1)), none, none, none]) (And.intro rfl (And.intro rfl (And.intro rfl (trivial)))) ?_
          exact ih _ _ _ h kk
    · rw [if_neg hc1] at h
      refine Go.br zk_X2_turn rfl rfl (fun q => absurd q hc1) (fun _ => ?_)
      obtain rfl := Option.some.inj h
      refine Go.weak (L := [some (.ref c_p), some (.int v1), some (.int v2), none, none, none]) (L' := [none, none, none, none, none, none]) (trivial) ?_
      exact kk
set_option maxHeartbeats 4000000 in
set_option maxRecDepth 100000 in
theorem t_X2_turn {N : Nat} {c_p : Nat} {c_a : Nat → Nat} {c_codes : List Int32} {c_size : Int32} {i1 : Int32} {u : (List Int32)}  (h : f_X2_turn N i1 c_codes c_size = some u) : Ct l D r (z_rl xs) zm_X2_turn 0 0 [.ref c_p, .int i1] ([sCe c_p c_a c_codes c_size] : List ZW).flatten (fun v' w' => v' = none ∧ w' = ([sCe c_p c_a u c_size] : List ZW).flatten) := by
  refine Ct.of (by decide +kernel) rfl (fun q => absurd q (by decide)) (Nat.le_of_ble_eq_true rfl) ?_
  refine Go.eqz (z2 := (0, [some (.ref c_p), some (.int i1), none, none, none, none], [], ([sCe c_p c_a c_codes c_size] : List ZW).flatten)) rfl ?_
  unfold f_X2_turn at h
  refine Go.blk zk_X2_turn [0, 0] (z' := (2, [some (.ref c_p), some (.int i1), some (.int 0), none, none, none], [], ([sCe c_p c_a c_codes c_size] : List ZW).flatten)) rfl trivial ?_
  obtain ⟨e13, he13, h⟩ := z_bind h
  refine t_X2_turn_L2 N _ _ _ he13 ?_
  obtain rfl := Option.some.inj h
  exact Go.vret zk_X2_turn rfl rfl ⟨rfl, rfl⟩
set_option maxHeartbeats 4000000 in
set_option maxRecDepth 100000 in
theorem t_X2_normalise_L8 {N : Nat} {c_p : Nat} {c_a : Nat → Nat} {c_codes : List Int32} {c_size : Int32}  {Q : Option Value → ZW → Prop} : ∀ (fu : Nat) (v1 : Int32) (v2 : Int32) (v3 : Int32) (e : Int32 × Int32), f_X2_normalise_L8 N c_codes c_size fu v1 v2 v3 = some e → (Go l D r (z_rl xs) zm_X2_normalise 0 0 (42, [some (.ref c_p), some (.int e.1), some (.int e.2), none, none, none, none], [], ([sCe c_p c_a c_codes c_size] : List ZW).flatten) Q) → Go l D r (z_rl xs) zm_X2_normalise 0 0 (8, [some (.ref c_p), some (.int v1), some (.int v2), some (.int v3), none, none, none], [], ([sCe c_p c_a c_codes c_size] : List ZW).flatten) Q := by
  intro fu
  induction fu with
  | zero =>
    intro v1 v2 v3 e h
    simp only [f_X2_normalise_L8, reduceCtorEq] at h
  | succ fu ih =>
    intro v1 v2 v3 e h kk
    rw [f_X2_normalise_L8] at h
    refine Go.blk zk_X2_normalise [0, 0, 0] (z' := (13, [some (.ref c_p), some (.int v1), some (.int v2), some (.int v3), none, none, none], [.int c_size, .int v3], ([sCe c_p c_a c_codes c_size] : List ZW).flatten)) rfl ⟨rfl, trivial⟩ ?_
    by_cases hc1 : v3 < c_size
    · rw [if_pos hc1] at h
      refine Go.br zk_X2_normalise rfl rfl (fun _ => ?_) (fun q => absurd hc1 q)
      refine Go.blk zk_X2_normalise [0, 0, 0] (z' := (19, [some (.ref c_p), some (.int v1), some (.int v2), some (.int v3), none, none, none], [.int v3, .ref c_p, .int v1], ([sCe c_p c_a c_codes c_size] : List ZW).flatten)) rfl trivial ?_
      obtain ⟨u2, hu2, h⟩ := z_bind h
      refine Go.vs zk_X2_normalise zm_X2_qAt [0] [] 0 2 1 (S := [sCe c_p c_a c_codes c_size]) (S2 := [sCe c_p c_a c_codes c_size]) (As := [.int v3]) (rest := [.int v1]) (st2 := [.int u2, .int v1]) (v1 := some (.int u2)) rfl zl_X2_25 zv_X2_qAt ⟨Nat.le_of_ble_eq_true rfl, Nat.le_of_ble_eq_true rfl⟩ rfl (by decide) rfl rfl rfl rfl rfl (Nat.le_of_ble_eq_true rfl) (t_X2_qAt hu2) rfl rfl rfl ?_
      refine Go.mmin zk_X2_normalise rfl zl_X2_42 ⟨Nat.le_of_ble_eq_true rfl, Nat.le_of_ble_eq_true rfl⟩ zw_min ?_
      refine Go.blk zk_X2_normalise [0, 0, 0, 0] (z' := (29, [some (.ref c_p), some (.int (if u2 < v1 then u2 else v1)), some (.int v2), some (.int v3), none, none, none], [.int v3, .ref c_p, .int v2], ([sCe c_p c_a c_codes c_size] : List ZW).flatten)) rfl trivial ?_
      obtain ⟨u3, hu3, h⟩ := z_bind h
      refine Go.vs zk_X2_normalise zm_X2_rAt [0] [] 0 2 1 (S := [sCe c_p c_a c_codes c_size]) (S2 := [sCe c_p c_a c_codes c_size]) (As := [.int v3]) (rest := [.int v2]) (st2 := [.int u3, .int v2]) (v1 := some (.int u3)) rfl zl_X2_29 zv_X2_rAt ⟨Nat.le_of_ble_eq_true rfl, Nat.le_of_ble_eq_true rfl⟩ rfl (by decide) rfl rfl rfl rfl rfl (Nat.le_of_ble_eq_true rfl) (t_X2_rAt hu3) rfl rfl rfl ?_
      refine Go.mmin zk_X2_normalise rfl zl_X2_42 ⟨Nat.le_of_ble_eq_true rfl, Nat.le_of_ble_eq_true rfl⟩ zw_min ?_
      refine Go.blk zk_X2_normalise [0, 0, 0] (z' := (8, [some (.ref c_p), some (.int (if u2 < v1 then u2 else v1)), some (.int (if u3 < v2 then u3 else v2)), some (.int (v3 + 1)), none, none, none], [], ([sCe c_p c_a c_codes c_size] : List ZW).flatten)) rfl trivial ?_
      exact ih _ _ _ _ h kk
    · rw [if_neg hc1] at h
      refine Go.br zk_X2_normalise rfl rfl (fun q => absurd q hc1) (fun _ => ?_)
      obtain rfl := Option.some.inj h
      refine Go.weak (L := [some (.ref c_p), some (.int v1), some (.int v2), some (.int v3), none, none, none]) (L' := [some (.ref c_p), some (.int v1), some (.int v2), none, none, none, none]) (And.intro rfl (And.intro rfl (And.intro rfl (trivial)))) ?_
      exact kk
set_option maxHeartbeats 4000000 in
set_option maxRecDepth 100000 in
theorem t_X2_normalise_L78 {N : Nat} {c_p : Nat} {c_a : Nat → Nat} {c_size : Int32} {v3 : Int32} {v4 : Int32} {v5 : Int32}  {Q : Option Value → ZW → Prop} : ∀ (fu : Nat) (v6 : Int32) (c_codes : List Int32) (e : Int32 × (List Int32)), f_X2_normalise_L78 N v5 fu v6 c_codes = some e → (Go l D r (z_rl xs) zm_X2_normalise 0 0 (119, [some (.ref c_p), none, none, some (.int v3), some (.int v4), some (.int v5), some (.int e.1)], [], ([sCe c_p c_a e.2 c_size] : List ZW).flatten) Q) → Go l D r (z_rl xs) zm_X2_normalise 0 0 (78, [some (.ref c_p), none, none, some (.int v3), some (.int v4), some (.int v5), some (.int v6)], [], ([sCe c_p c_a c_codes c_size] : List ZW).flatten) Q := by
  intro fu
  induction fu with
  | zero =>
    intro v6 c_codes e h
    simp only [f_X2_normalise_L78, reduceCtorEq] at h
  | succ fu ih =>
    intro v6 c_codes e h kk
    rw [f_X2_normalise_L78] at h
    refine Go.blk zk_X2_normalise [0] (z' := (80, [some (.ref c_p), none, none, some (.int v3), some (.int v4), some (.int v5), some (.int v6)], [.int v6], ([sCe c_p c_a c_codes c_size] : List ZW).flatten)) rfl trivial ?_
    by_cases hc7 : 0 < v6
    · rw [if_pos hc7] at h
      refine Go.br zk_X2_normalise rfl rfl (fun _ => ?_) (fun q => absurd hc7 q)
      refine Go.blk zk_X2_normalise [0, 0, 0, 0, 0] (z' := (91, [some (.ref c_p), none, none, some (.int v3), some (.int v4), some (.int v5), some (.int v6)], [.int (v6 - 1), .ref (c_a 0)], ([sCe c_p c_a c_codes c_size] : List ZW).flatten)) rfl ⟨rfl, trivial⟩ ?_
      obtain ⟨x8, hx8, h⟩ := z_bind h
      refine Go.iald zk_X2_normalise 1 rfl rfl rfl hx8 ?_
      refine Go.blk zk_X2_normalise [0] (z' := (94, [some (.ref c_p), none, none, some (.int v3), some (.int v4), some (.int v5), some (.int v6)], [.int v5, .int x8], ([sCe c_p c_a c_codes c_size] : List ZW).flatten)) rfl trivial ?_
      by_cases hc9 : v5 < x8
      · rw [if_pos hc9] at h
        refine Go.br zk_X2_normalise rfl rfl (fun _ => ?_) (fun q => absurd hc9 q)
        refine Go.blk zk_X2_normalise [0, 0, 0, 0, 0, 0, 0, 0] (z' := (111, [some (.ref c_p), none, none, some (.int v3), some (.int v4), some (.int v5), some (.int v6)], [.int (v6 - 1), .ref (c_a 0), .int v6, .ref (c_a 0)], ([sCe c_p c_a c_codes c_size] : List ZW).flatten)) rfl ⟨rfl, rfl, trivial⟩ ?_
        obtain ⟨x10, hx10, h⟩ := z_bind h
        refine Go.iald zk_X2_normalise 1 rfl rfl rfl hx10 ?_
        obtain ⟨t11, ht11, h⟩ := z_bind h
        refine Go.iast zk_X2_normalise 1 rfl rfl rfl ht11 ?_
        refine Go.eqz (z2 := (113, [some (.ref c_p), none, none, some (.int v3), some (.int v4), some (.int v5), some (.int v6)], [], ([sCe c_p c_a t11 c_size] : List ZW).flatten)) rfl ?_
        refine Go.blk zk_X2_normalise [0, 0] (z' := (78, [some (.ref c_p), none, none, some (.int v3), some (.int v4), some (.int v5), some (.int (v6 + (-1)))], [], ([sCe c_p c_a t11 c_size] : List ZW).flatten)) rfl trivial ?_
        exact ih _ _ _ h kk
      · rw [if_neg hc9] at h
        refine Go.br zk_X2_normalise rfl rfl (fun q => absurd q hc9) (fun _ => ?_)
        obtain rfl := Option.some.inj h
        exact kk
    · rw [if_neg hc7] at h
      refine Go.br zk_X2_normalise rfl rfl (fun q => absurd q hc7) (fun _ => ?_)
      obtain rfl := Option.some.inj h
      exact kk
set_option maxHeartbeats 4000000 in
set_option maxRecDepth 100000 in
theorem t_X2_normalise_L54 {N : Nat} {c_p : Nat} {c_a : Nat → Nat} {c_size : Int32} {v3 : Int32}  {Q : Option Value → ZW → Prop} : ∀ (fu : Nat) (v4 : Int32) (c_codes : List Int32) (e : (List Int32)), f_X2_normalise_L54 N v3 c_size fu v4 c_codes = some e → (Go l D r (z_rl xs) zm_X2_normalise 0 0 (134, [none, none, none, none, none, none, none], [], ([sCe c_p c_a e c_size] : List ZW).flatten) Q) → Go l D r (z_rl xs) zm_X2_normalise 0 0 (54, [some (.ref c_p), none, none, some (.int v3), some (.int v4), none, none], [], ([sCe c_p c_a c_codes c_size] : List ZW).flatten) Q := by
  intro fu
  induction fu with
  | zero =>
    intro v4 c_codes e h
    simp only [f_X2_normalise_L54, reduceCtorEq] at h
  | succ fu ih =>
    intro v4 c_codes e h kk
    rw [f_X2_normalise_L54] at h
    refine Go.blk zk_X2_normalise [0, 0, 0] (z' := (60, [some (.ref c_p), none, none, some (.int v3), some (.int v4), none, none], [.int c_size, .int v4], ([sCe c_p c_a c_codes c_size] : List ZW).flatten)) rfl ⟨rfl, trivial⟩ ?_
    by_cases hc5 : v4 < c_size
    · rw [if_pos hc5] at h
      refine Go.br zk_X2_normalise rfl rfl (fun _ => ?_) (fun q => absurd hc5 q)
      refine Go.blk zk_X2_normalise [0, 0, 0] (z' := (69, [some (.ref c_p), none, none, some (.int v3), some (.int v4), none, none], [.int v4, .ref (c_a 0)], ([sCe c_p c_a c_codes c_size] : List ZW).flatten)) rfl ⟨rfl, trivial⟩ ?_
      obtain ⟨x6, hx6, h⟩ := z_bind h
      refine Go.iald zk_X2_normalise 1 rfl rfl rfl hx6 ?_
      refine Go.blk zk_X2_normalise [0, 0, 0, 0, 0] (z' := (78, [some (.ref c_p), none, none, some (.int v3), some (.int v4), some (.int (x6 - v3)), some (.int v4)], [], ([sCe c_p c_a c_codes c_size] : List ZW).flatten)) rfl trivial ?_
      obtain ⟨e12, he12, h⟩ := z_bind h
      refine t_X2_normalise_L78 N _ _ _ he12 ?_
      refine Go.blk zk_X2_normalise [0, 0, 0, 0] (z' := (127, [some (.ref c_p), none, none, some (.int v3), some (.int v4), some (.int (x6 - v3)), some (.int e12.1)], [.int (x6 - v3), .int e12.1, .ref (c_a 0)], ([sCe c_p c_a e12.2 c_size] : List ZW).flatten)) rfl ⟨rfl, trivial⟩ ?_
      obtain ⟨t13, ht13, h⟩ := z_bind h
      refine Go.iast zk_X2_normalise 1 rfl rfl rfl ht13 ?_
      refine Go.eqz (z2 := (128, [some (.ref c_p), none, none, some (.int v3), some (.int v4), some (.int (x6 - v3)), some (.int e12.1)], [], ([sCe c_p c_a t13 c_size] : List ZW).flatten)) rfl ?_
      refine Go.blk zk_X2_normalise [0, 0] (z' := (54, [some (.ref c_p), none, none, some (.int v3), some (.int (v4 + 1)), some (.int (x6 - v3)), some (.int e12.1)], [], ([sCe c_p c_a t13 c_size] : List ZW).flatten)) rfl trivial ?_
      refine Go.weak (L := [some (.ref c_p), none, none, some (.int v3), some (.int (v4 + 1)), some (.int (x6 - v3)), some (.int e12.1)]) (L' := [some (.ref c_p), none, none, some (.int v3), some (.int (v4 + 1)), none, none]) (And.intro rfl (And.intro rfl (And.intro rfl (trivial)))) ?_
      exact ih _ _ _ h kk
    · rw [if_neg hc5] at h
      refine Go.br zk_X2_normalise rfl rfl (fun q => absurd q hc5) (fun _ => ?_)
      obtain rfl := Option.some.inj h
      refine Go.weak (L := [some (.ref c_p), none, none, some (.int v3), some (.int v4), none, none]) (L' := [none, none, none, none, none, none, none]) (trivial) ?_
      exact kk
set_option maxHeartbeats 4000000 in
set_option maxRecDepth 100000 in
theorem t_X2_normalise {N : Nat} {c_p : Nat} {c_a : Nat → Nat} {c_codes : List Int32} {c_size : Int32} {u : (List Int32)}  (h : f_X2_normalise N c_codes c_size = some u) : Ct l D r (z_rl xs) zm_X2_normalise 0 0 [.ref c_p] ([sCe c_p c_a c_codes c_size] : List ZW).flatten (fun v' w' => v' = none ∧ w' = ([sCe c_p c_a u c_size] : List ZW).flatten) := by
  refine Ct.of (by decide +kernel) rfl (fun q => absurd q (by decide)) (Nat.le_of_ble_eq_true rfl) ?_
  refine Go.eqz (z2 := (0, [some (.ref c_p), none, none, none, none, none, none], [], ([sCe c_p c_a c_codes c_size] : List ZW).flatten)) rfl ?_
  unfold f_X2_normalise at h
  refine Go.blk zk_X2_normalise [0, 0, 0, 0, 0, 0] (z' := (8, [some (.ref c_p), some (.int 2147483647), some (.int 2147483647), some (.int 0), none, none, none], [], ([sCe c_p c_a c_codes c_size] : List ZW).flatten)) rfl trivial ?_
  obtain ⟨e4, he4, h⟩ := z_bind h
  refine t_X2_normalise_L8 N _ _ _ _ he4 ?_
  refine Go.blk zk_X2_normalise [0, 0, 0, 0, 0, 0, 0, 0, 0, 0] (z' := (54, [some (.ref c_p), some (.int e4.1), some (.int e4.2), some (.int ((e4.2 <<< (7 &&& 31)) + (e4.1 <<< (1 &&& 31)))), some (.int 0), none, none], [], ([sCe c_p c_a c_codes c_size] : List ZW).flatten)) rfl trivial ?_
  refine Go.weak (L := [some (.ref c_p), some (.int e4.1), some (.int e4.2), some (.int ((e4.2 <<< (7 &&& 31)) + (e4.1 <<< (1 &&& 31)))), some (.int 0), none, none]) (L' := [some (.ref c_p), none, none, some (.int ((e4.2 <<< (7 &&& 31)) + (e4.1 <<< (1 &&& 31)))), some (.int 0), none, none]) (And.intro rfl (And.intro rfl (And.intro rfl (trivial)))) ?_
  obtain ⟨e14, he14, h⟩ := z_bind h
  refine t_X2_normalise_L54 N _ _ _ he14 ?_
  obtain rfl := Option.some.inj h
  exact Go.vret zk_X2_normalise rfl rfl ⟨rfl, rfl⟩
set_option maxHeartbeats 4000000 in
set_option maxRecDepth 100000 in
theorem t_X2_compareWith_L2 {N : Nat} {c_p : Nat} {c_a : Nat → Nat} {c_codes : List Int32} {c_size : Int32} {d_p : Nat} {d_a : Nat → Nat} {d_codes : List Int32} {d_size : Int32}  {Q : Option Value → ZW → Prop} : ∀ (fu : Nat) (v2 : Int32) (o : (Unit) ⊕ (Int32)), f_X2_compareWith_L2 N c_codes c_size d_codes d_size fu v2 = some o → (∀ e, o = .inl e → Go l D r (z_rl xs) zm_X2_compareWith 0 0 (44, [none, none, none, none], [], ([sCe c_p c_a c_codes c_size, sCe d_p d_a d_codes d_size] : List ZW).flatten) Q) → (∀ e, o = .inr e → Q (some (.int e)) ([sCe c_p c_a c_codes c_size, sCe d_p d_a d_codes d_size] : List ZW).flatten) → Go l D r (z_rl xs) zm_X2_compareWith 0 0 (2, [some (.ref c_p), some (.ref d_p), some (.int v2), none], [], ([sCe c_p c_a c_codes c_size, sCe d_p d_a d_codes d_size] : List ZW).flatten) Q := by
  intro fu
  induction fu with
  | zero =>
    intro v2 o h
    simp only [f_X2_compareWith_L2, reduceCtorEq] at h
  | succ fu ih =>
    intro v2 o h k1 k2
    rw [f_X2_compareWith_L2] at h
    refine Go.blk zk_X2_compareWith [0, 0, 0] (z' := (7, [some (.ref c_p), some (.ref d_p), some (.int v2), none], [.int c_size, .int v2], ([sCe c_p c_a c_codes c_size, sCe d_p d_a d_codes d_size] : List ZW).flatten)) rfl ⟨rfl, trivial⟩ ?_
    by_cases hc1 : v2 < c_size
    · rw [if_pos hc1] at h
      refine Go.br zk_X2_compareWith rfl rfl (fun _ => ?_) (fun q => absurd hc1 q)
      refine Go.blk zk_X2_compareWith [0, 0, 2] (z' := (15, [some (.ref c_p), some (.ref d_p), some (.int v2), none], [.int d_size, .int v2], ([sCe c_p c_a c_codes c_size, sCe d_p d_a d_codes d_size] : List ZW).flatten)) rfl ⟨rfl, trivial⟩ ?_
      by_cases hc2 : v2 < d_size
      · rw [if_pos hc2] at h
        refine Go.br zk_X2_compareWith rfl rfl (fun _ => ?_) (fun q => absurd hc2 q)
        refine Go.blk zk_X2_compareWith [0, 0, 0] (z' := (23, [some (.ref c_p), some (.ref d_p), some (.int v2), none], [.int v2, .ref (c_a 0)], ([sCe c_p c_a c_codes c_size, sCe d_p d_a d_codes d_size] : List ZW).flatten)) rfl ⟨rfl, trivial⟩ ?_
        obtain ⟨x3, hx3, h⟩ := z_bind h
        refine Go.iald zk_X2_compareWith 1 rfl rfl rfl hx3 ?_
        refine Go.blk zk_X2_compareWith [0, 2, 0] (z' := (29, [some (.ref c_p), some (.ref d_p), some (.int v2), none], [.int v2, .ref (d_a 0), .int x3], ([sCe c_p c_a c_codes c_size, sCe d_p d_a d_codes d_size] : List ZW).flatten)) rfl ⟨rfl, trivial⟩ ?_
        obtain ⟨x4, hx4, h⟩ := z_bind h
        refine Go.iald zk_X2_compareWith 3 rfl rfl rfl hx4 ?_
        refine Go.blk zk_X2_compareWith [0, 0, 0] (z' := (33, [some (.ref c_p), some (.ref d_p), some (.int v2), some (.int (x3 - x4))], [.int (x3 - x4)], ([sCe c_p c_a c_codes c_size, sCe d_p d_a d_codes d_size] : List ZW).flatten)) rfl trivial ?_
        by_cases hc5 : (x3 - x4) = 0
        · rw [if_pos hc5] at h
          refine Go.br zk_X2_compareWith rfl rfl (fun _ => ?_) (fun q => absurd hc5 q)
          refine Go.blk zk_X2_compareWith [0, 0] (z' := (2, [some (.ref c_p), some (.ref d_p), some (.int (v2 + 1)), some (.int (x3 - x4))], [], ([sCe c_p c_a c_codes c_size, sCe d_p d_a d_codes d_size] : List ZW).flatten)) rfl trivial ?_
          refine Go.weak (L := [some (.ref c_p), some (.ref d_p), some (.int (v2 + 1)), some (.int (x3 - x4))]) (L' := [some (.ref c_p), some (.ref d_p), some (.int (v2 + 1)), none]) (And.intro rfl (And.intro rfl (And.intro rfl (trivial)))) ?_
          exact ih _ _ h k1 k2
        · rw [if_neg hc5] at h
          refine Go.br zk_X2_compareWith rfl rfl (fun q => absurd q hc5) (fun _ => ?_)
          refine Go.blk zk_X2_compareWith [0] (z' := (37, [some (.ref c_p), some (.ref d_p), some (.int v2), some (.int (x3 - x4))], [.int (x3 - x4)], ([sCe c_p c_a c_codes c_size, sCe d_p d_a d_codes d_size] : List ZW).flatten)) rfl trivial ?_
          obtain rfl := Option.some.inj h
          exact Go.iret zk_X2_compareWith rfl rfl rfl (k2 _ rfl)
      · rw [if_neg hc2] at h
        refine Go.br zk_X2_compareWith rfl rfl (fun q => absurd q hc2) (fun _ => ?_)
        obtain rfl := Option.some.inj h
        refine Go.weak (L := [some (.ref c_p), some (.ref d_p), some (.int v2), none]) (L' := [none, none, none, none]) (trivial) ?_
        exact k1 _ rfl
    · rw [if_neg hc1] at h
      refine Go.br zk_X2_compareWith rfl rfl (fun q => absurd q hc1) (fun _ => ?_)
      obtain rfl := Option.some.inj h
      refine Go.weak (L := [some (.ref c_p), some (.ref d_p), some (.int v2), none]) (L' := [none, none, none, none]) (trivial) ?_
      exact k1 _ rfl
set_option maxHeartbeats 4000000 in
set_option maxRecDepth 100000 in
theorem t_X2_compareWith {N : Nat} {c_p : Nat} {c_a : Nat → Nat} {c_codes : List Int32} {c_size : Int32} {d_p : Nat} {d_a : Nat → Nat} {d_codes : List Int32} {d_size : Int32} {u : Int32}  (h : f_X2_compareWith N c_codes c_size d_codes d_size = some u) : Ct l D r (z_rl xs) zm_X2_compareWith 0 0 [.ref c_p, .ref d_p] ([sCe c_p c_a c_codes c_size, sCe d_p d_a d_codes d_size] : List ZW).flatten (fun v' w' => v' = some (.int u) ∧ w' = ([sCe c_p c_a c_codes c_size, sCe d_p d_a d_codes d_size] : List ZW).flatten) := by
  refine Ct.of (by decide +kernel) rfl (fun q => absurd q (by decide)) (Nat.le_of_ble_eq_true rfl) ?_
  refine Go.eqz (z2 := (0, [some (.ref c_p), some (.ref d_p), none, none], [], ([sCe c_p c_a c_codes c_size, sCe d_p d_a d_codes d_size] : List ZW).flatten)) rfl ?_
  unfold f_X2_compareWith at h
  refine Go.blk zk_X2_compareWith [0, 0] (z' := (2, [some (.ref c_p), some (.ref d_p), some (.int 0), none], [], ([sCe c_p c_a c_codes c_size, sCe d_p d_a d_codes d_size] : List ZW).flatten)) rfl trivial ?_
  obtain ⟨o7, he6, h⟩ := z_bind h
  cases o7 with
  | inl e6 =>
    simp only [Sum.elim_inl] at h
    refine t_X2_compareWith_L2 N _ _ he6 (fun _ q => ?_) (fun _ q => nomatch q)
    obtain rfl := Sum.inl.inj q
    refine Go.blk zk_X2_compareWith [0] (z' := (45, [none, none, none, none], [.int 0], ([sCe c_p c_a c_codes c_size, sCe d_p d_a d_codes d_size] : List ZW).flatten)) rfl trivial ?_
    obtain rfl := Option.some.inj h
    exact Go.iret zk_X2_compareWith rfl rfl rfl ⟨rfl, rfl⟩
  | inr u8 =>
    simp only [Sum.elim_inr] at h
    obtain rfl := Option.some.inj h
    refine t_X2_compareWith_L2 N _ _ he6 (fun _ q => nomatch q) (fun _ q => ?_)
    obtain rfl := Sum.inr.inj q
    exact ⟨rfl, rfl⟩
set_option maxHeartbeats 4000000 in
set_option maxRecDepth 100000 in
theorem t_X2_compareWith_s_L2 {N : Nat} {c_p : Nat} {c_a : Nat → Nat} {c_codes : List Int32} {c_size : Int32}  {Q : Option Value → ZW → Prop} : ∀ (fu : Nat) (v2 : Int32) (o : (Unit) ⊕ (Int32)), f_X2_compareWith_s_L2 N c_codes c_size fu v2 = some o → (∀ e, o = .inl e → Go l D r (z_rl xs) zm_X2_compareWith 0 0 (44, [none, none, none, none], [], ([sCe c_p c_a c_codes c_size] : List ZW).flatten) Q) → (∀ e, o = .inr e → Q (some (.int e)) ([sCe c_p c_a c_codes c_size] : List ZW).flatten) → Go l D r (z_rl xs) zm_X2_compareWith 0 0 (2, [some (.ref c_p), some (.ref c_p), some (.int v2), none], [], ([sCe c_p c_a c_codes c_size] : List ZW).flatten) Q := by
  intro fu
  induction fu with
  | zero =>
    intro v2 o h
    simp only [f_X2_compareWith_s_L2, reduceCtorEq] at h
  | succ fu ih =>
    intro v2 o h k1 k2
    rw [f_X2_compareWith_s_L2] at h
    refine Go.blk zk_X2_compareWith [0, 0, 0] (z' := (7, [some (.ref c_p), some (.ref c_p), some (.int v2), none], [.int c_size, .int v2], ([sCe c_p c_a c_codes c_size] : List ZW).flatten)) rfl ⟨rfl, trivial⟩ ?_
    by_cases hc1 : v2 < c_size
    · rw [if_pos hc1] at h
      refine Go.br zk_X2_compareWith rfl rfl (fun _ => ?_) (fun q => absurd hc1 q)
      refine Go.blk zk_X2_compareWith [0, 0, 0] (z' := (15, [some (.ref c_p), some (.ref c_p), some (.int v2), none], [.int c_size, .int v2], ([sCe c_p c_a c_codes c_size] : List ZW).flatten)) rfl ⟨rfl, trivial⟩ ?_
      by_cases hc2 : v2 < c_size
      · rw [if_pos hc2] at h
        refine Go.br zk_X2_compareWith rfl rfl (fun _ => ?_) (fun q => absurd hc2 q)
        refine Go.blk zk_X2_compareWith [0, 0, 0] (z' := (23, [some (.ref c_p), some (.ref c_p), some (.int v2), none], [.int v2, .ref (c_a 0)], ([sCe c_p c_a c_codes c_size] : List ZW).flatten)) rfl ⟨rfl, trivial⟩ ?_
        obtain ⟨x3, hx3, h⟩ := z_bind h
        refine Go.iald zk_X2_compareWith 1 rfl rfl rfl hx3 ?_
        refine Go.blk zk_X2_compareWith [0, 0, 0] (z' := (29, [some (.ref c_p), some (.ref c_p), some (.int v2), none], [.int v2, .ref (c_a 0), .int x3], ([sCe c_p c_a c_codes c_size] : List ZW).flatten)) rfl ⟨rfl, trivial⟩ ?_
        obtain ⟨x4, hx4, h⟩ := z_bind h
        refine Go.iald zk_X2_compareWith 1 rfl rfl rfl hx4 ?_
        refine Go.blk zk_X2_compareWith [0, 0, 0] (z' := (33, [some (.ref c_p), some (.ref c_p), some (.int v2), some (.int (x3 - x4))], [.int (x3 - x4)], ([sCe c_p c_a c_codes c_size] : List ZW).flatten)) rfl trivial ?_
        by_cases hc5 : (x3 - x4) = 0
        · rw [if_pos hc5] at h
          refine Go.br zk_X2_compareWith rfl rfl (fun _ => ?_) (fun q => absurd hc5 q)
          refine Go.blk zk_X2_compareWith [0, 0] (z' := (2, [some (.ref c_p), some (.ref c_p), some (.int (v2 + 1)), some (.int (x3 - x4))], [], ([sCe c_p c_a c_codes c_size] : List ZW).flatten)) rfl trivial ?_
          refine Go.weak (L := [some (.ref c_p), some (.ref c_p), some (.int (v2 + 1)), some (.int (x3 - x4))]) (L' := [some (.ref c_p), some (.ref c_p), some (.int (v2 + 1)), none]) (And.intro rfl (And.intro rfl (And.intro rfl (trivial)))) ?_
          exact ih _ _ h k1 k2
        · rw [if_neg hc5] at h
          refine Go.br zk_X2_compareWith rfl rfl (fun q => absurd q hc5) (fun _ => ?_)
          refine Go.blk zk_X2_compareWith [0] (z' := (37, [some (.ref c_p), some (.ref c_p), some (.int v2), some (.int (x3 - x4))], [.int (x3 - x4)], ([sCe c_p c_a c_codes c_size] : List ZW).flatten)) rfl trivial ?_
          obtain rfl := Option.some.inj h
          exact Go.iret zk_X2_compareWith rfl rfl rfl (k2 _ rfl)
      · rw [if_neg hc2] at h
        refine Go.br zk_X2_compareWith rfl rfl (fun q => absurd q hc2) (fun _ => ?_)
        obtain rfl := Option.some.inj h
        refine Go.weak (L := [some (.ref c_p), some (.ref c_p), some (.int v2), none]) (L' := [none, none, none, none]) (trivial) ?_
        exact k1 _ rfl
    · rw [if_neg hc1] at h
      refine Go.br zk_X2_compareWith rfl rfl (fun q => absurd q hc1) (fun _ => ?_)
      obtain rfl := Option.some.inj h
      refine Go.weak (L := [some (.ref c_p), some (.ref c_p), some (.int v2), none]) (L' := [none, none, none, none]) (trivial) ?_
      exact k1 _ rfl
set_option maxHeartbeats 4000000 in
set_option maxRecDepth 100000 in
theorem t_X2_compareWith_s {N : Nat} {c_p : Nat} {c_a : Nat → Nat} {c_codes : List Int32} {c_size : Int32} {u : Int32}  (h : f_X2_compareWith_s N c_codes c_size = some u) : Ct l D r (z_rl xs) zm_X2_compareWith 0 0 [.ref c_p, .ref c_p] ([sCe c_p c_a c_codes c_size] : List ZW).flatten (fun v' w' => v' = some (.int u) ∧ w' = ([sCe c_p c_a c_codes c_size] : List ZW).flatten) := by
  refine Ct.of (by decide +kernel) rfl (fun q => absurd q (by decide)) (Nat.le_of_ble_eq_true rfl) ?_
  refine Go.eqz (z2 := (0, [some (.ref c_p), some (.ref c_p), none, none], [], ([sCe c_p c_a c_codes c_size] : List ZW).flatten)) rfl ?_
  unfold f_X2_compareWith_s at h
  refine Go.blk zk_X2_compareWith [0, 0] (z' := (2, [some (.ref c_p), some (.ref c_p), some (.int 0), none], [], ([sCe c_p c_a c_codes c_size] : List ZW).flatten)) rfl trivial ?_
  obtain ⟨o7, he6, h⟩ := z_bind h
  cases o7 with
  | inl e6 =>
    simp only [Sum.elim_inl] at h
    refine t_X2_compareWith_s_L2 N _ _ he6 (fun _ q => ?_) (fun _ q => nomatch q)
    obtain rfl := Sum.inl.inj q
    refine Go.blk zk_X2_compareWith [0] (z' := (45, [none, none, none, none], [.int 0], ([sCe c_p c_a c_codes c_size] : List ZW).flatten)) rfl trivial ?_
    obtain rfl := Option.some.inj h
    exact Go.iret zk_X2_compareWith rfl rfl rfl ⟨rfl, rfl⟩
  | inr u8 =>
    simp only [Sum.elim_inr] at h
    obtain rfl := Option.some.inj h
    refine t_X2_compareWith_s_L2 N _ _ he6 (fun _ q => nomatch q) (fun _ q => ?_)
    obtain rfl := Sum.inr.inj q
    exact ⟨rfl, rfl⟩
set_option maxHeartbeats 4000000 in
set_option maxRecDepth 100000 in
theorem t_X2_allHaveKeys_L2 {N : Nat} {c_p : Nat} {c_a : Nat → Nat} {c_codes : List Int32} {c_size : Int32}  {Q : Option Value → ZW → Prop} : ∀ (fu : Nat) (v1 : Int32) (o : (Unit) ⊕ (Int32)), f_X2_allHaveKeys_L2 N c_codes c_size fu v1 = some o → (∀ e, o = .inl e → Go l D r (z_rl xs) zm_X2_allHaveKeys 0 0 (38, [none, none], [], ([sCe c_p c_a c_codes c_size] : List ZW).flatten) Q) → (∀ e, o = .inr e → Q (some (.int e)) ([sCe c_p c_a c_codes c_size] : List ZW).flatten) → Go l D r (z_rl xs) zm_X2_allHaveKeys 0 0 (2, [some (.ref c_p), some (.int v1)], [], ([sCe c_p c_a c_codes c_size] : List ZW).flatten) Q := by
  intro fu
  induction fu with
  | zero =>
    intro v1 o h
    simp only [f_X2_allHaveKeys_L2, reduceCtorEq] at h
  | succ fu ih =>
    intro v1 o h k1 k2
    rw [f_X2_allHaveKeys_L2] at h
    refine Go.blk zk_X2_allHaveKeys [0, 0, 0] (z' := (7, [some (.ref c_p), some (.int v1)], [.int c_size, .int v1], ([sCe c_p c_a c_codes c_size] : List ZW).flatten)) rfl ⟨rfl, trivial⟩ ?_
    by_cases hc1 : v1 < c_size
    · rw [if_pos hc1] at h
      refine Go.br zk_X2_allHaveKeys rfl rfl (fun _ => ?_) (fun q => absurd hc1 q)
      refine Go.blk zk_X2_allHaveKeys [0, 0] (z' := (12, [some (.ref c_p), some (.int v1)], [.int v1, .ref c_p], ([sCe c_p c_a c_codes c_size] : List ZW).flatten)) rfl trivial ?_
      obtain ⟨u2, hu2, h⟩ := z_bind h
      refine Go.vs zk_X2_allHaveKeys zm_X2_qAt [0] [] 0 2 1 (S := [sCe c_p c_a c_codes c_size]) (S2 := [sCe c_p c_a c_codes c_size]) (As := [.int v1]) (rest := []) (st2 := [.int u2]) (v1 := some (.int u2)) rfl zl_X2_25 zv_X2_qAt ⟨Nat.le_of_ble_eq_true rfl, Nat.le_of_ble_eq_true rfl⟩ rfl (by decide) rfl rfl rfl rfl rfl (Nat.le_of_ble_eq_true rfl) (t_X2_qAt hu2) rfl rfl rfl ?_
      refine Go.blk zk_X2_allHaveKeys [0] (z' := (17, [some (.ref c_p), some (.int v1)], [.int 10, .int u2], ([sCe c_p c_a c_codes c_size] : List ZW).flatten)) rfl trivial ?_
      by_cases hc3 : u2 < 10
      · rw [if_pos hc3] at h
        refine Go.br zk_X2_allHaveKeys rfl rfl (fun _ => ?_) (fun q => absurd hc3 q)
        refine Go.blk zk_X2_allHaveKeys [0, 0] (z' := (22, [some (.ref c_p), some (.int v1)], [.int v1, .ref c_p], ([sCe c_p c_a c_codes c_size] : List ZW).flatten)) rfl trivial ?_
        obtain ⟨u4, hu4, h⟩ := z_bind h
        refine Go.vs zk_X2_allHaveKeys zm_X2_rAt [0] [] 0 2 1 (S := [sCe c_p c_a c_codes c_size]) (S2 := [sCe c_p c_a c_codes c_size]) (As := [.int v1]) (rest := []) (st2 := [.int u4]) (v1 := some (.int u4)) rfl zl_X2_29 zv_X2_rAt ⟨Nat.le_of_ble_eq_true rfl, Nat.le_of_ble_eq_true rfl⟩ rfl (by decide) rfl rfl rfl rfl rfl (Nat.le_of_ble_eq_true rfl) (t_X2_rAt hu4) rfl rfl rfl ?_
        refine Go.blk zk_X2_allHaveKeys [0] (z' := (27, [some (.ref c_p), some (.int v1)], [.int 10, .int u4], ([sCe c_p c_a c_codes c_size] : List ZW).flatten)) rfl trivial ?_
        by_cases hc5 : u4 < 10
        · rw [if_pos hc5] at h
          refine Go.br zk_X2_allHaveKeys rfl rfl (fun _ => ?_) (fun q => absurd hc5 q)
          refine Go.blk zk_X2_allHaveKeys [0, 0] (z' := (2, [some (.ref c_p), some (.int (v1 + 1))], [], ([sCe c_p c_a c_codes c_size] : List ZW).flatten)) rfl trivial ?_
          exact ih _ _ h k1 k2
        · rw [if_neg hc5] at h
          refine Go.br zk_X2_allHaveKeys rfl rfl (fun q => absurd q hc5) (fun _ => ?_)
          refine Go.blk zk_X2_allHaveKeys [0] (z' := (31, [some (.ref c_p), some (.int v1)], [.int 0], ([sCe c_p c_a c_codes c_size] : List ZW).flatten)) rfl trivial ?_
          obtain rfl := Option.some.inj h
          exact Go.iret zk_X2_allHaveKeys rfl rfl rfl (k2 _ rfl)
      · rw [if_neg hc3] at h
        refine Go.br zk_X2_allHaveKeys rfl rfl (fun q => absurd q hc3) (fun _ => ?_)
        refine Go.blk zk_X2_allHaveKeys [0] (z' := (31, [some (.ref c_p), some (.int v1)], [.int 0], ([sCe c_p c_a c_codes c_size] : List ZW).flatten)) rfl trivial ?_
        obtain rfl := Option.some.inj h
        exact Go.iret zk_X2_allHaveKeys rfl rfl rfl (k2 _ rfl)
    · rw [if_neg hc1] at h
      refine Go.br zk_X2_allHaveKeys rfl rfl (fun q => absurd q hc1) (fun _ => ?_)
      obtain rfl := Option.some.inj h
      refine Go.weak (L := [some (.ref c_p), some (.int v1)]) (L' := [none, none]) (trivial) ?_
      exact k1 _ rfl
set_option maxHeartbeats 4000000 in
set_option maxRecDepth 100000 in
theorem t_X2_allHaveKeys {N : Nat} {c_p : Nat} {c_a : Nat → Nat} {c_codes : List Int32} {c_size : Int32} {u : Int32}  (h : f_X2_allHaveKeys N c_codes c_size = some u) : Ct l D r (z_rl xs) zm_X2_allHaveKeys 0 0 [.ref c_p] ([sCe c_p c_a c_codes c_size] : List ZW).flatten (fun v' w' => v' = some (.int u) ∧ w' = ([sCe c_p c_a c_codes c_size] : List ZW).flatten) := by
  refine Ct.of (by decide +kernel) rfl (fun q => absurd q (by decide)) (Nat.le_of_ble_eq_true rfl) ?_
  refine Go.eqz (z2 := (0, [some (.ref c_p), none], [], ([sCe c_p c_a c_codes c_size] : List ZW).flatten)) rfl ?_
  unfold f_X2_allHaveKeys at h
  refine Go.blk zk_X2_allHaveKeys [0, 0] (z' := (2, [some (.ref c_p), some (.int 0)], [], ([sCe c_p c_a c_codes c_size] : List ZW).flatten)) rfl trivial ?_
  obtain ⟨o7, he6, h⟩ := z_bind h
  cases o7 with
  | inl e6 =>
    simp only [Sum.elim_inl] at h
    refine t_X2_allHaveKeys_L2 N _ _ he6 (fun _ q => ?_) (fun _ q => nomatch q)
    obtain rfl := Sum.inl.inj q
    refine Go.blk zk_X2_allHaveKeys [0] (z' := (39, [none, none], [.int 1], ([sCe c_p c_a c_codes c_size] : List ZW).flatten)) rfl trivial ?_
    obtain rfl := Option.some.inj h
    exact Go.iret zk_X2_allHaveKeys rfl rfl rfl ⟨rfl, rfl⟩
  | inr u8 =>
    simp only [Sum.elim_inr] at h
    obtain rfl := Option.some.inj h
    refine t_X2_allHaveKeys_L2 N _ _ he6 (fun _ q => nomatch q) (fun _ q => ?_)
    obtain rfl := Sum.inr.inj q
    exact ⟨rfl, rfl⟩
set_option maxHeartbeats 4000000 in
set_option maxRecDepth 100000 in
theorem t_X2_neighboursOf_L12 {N : Nat} {c_p : Nat} {c_a : Nat → Nat} {c_codes : List Int32} {c_size : Int32} {g_p : Nat} {g_k : Nat} {v1 : Int32} {v4 : Int32} (hk_g : g_k < 3) {Q : Option Value → ZW → Prop} : ∀ (fu : Nat) (v3 : Int32) (v5 : Int32) (e : Int32), f_X2_neighboursOf_L12 N v1 v4 c_codes c_size g_k fu v3 v5 = some e → (Go l D r (z_rl xs) zm_X2_neighboursOf 0 0 (85, [none, none, none, some (.int e), none, none, none, none, none], [], ([sCe c_p c_a c_codes c_size, sLa r g_p g_k] : List ZW).flatten) Q) → Go l D r (z_rl xs) zm_X2_neighboursOf 0 0 (12, [some (.ref c_p), some (.int v1), some (.ref g_p), some (.int v3), some (.int v4), some (.int v5), none, none, none], [], ([sCe c_p c_a c_codes c_size, sLa r g_p g_k] : List ZW).flatten) Q := by
  intro fu
  induction fu with
  | zero =>
    intro v3 v5 e h
    simp only [f_X2_neighboursOf_L12, reduceCtorEq] at h
  | succ fu ih =>
    intro v3 v5 e h kk
    rw [f_X2_neighboursOf_L12] at h
    refine Go.blk zk_X2_neighboursOf [0, 0, 2] (z' := (18, [some (.ref c_p), some (.int v1), some (.ref g_p), some (.int v3), some (.int v4), some (.int v5), none, none, none], [.int (zdeg g_k), .int v5], ([sCe c_p c_a c_codes c_size, sLa r g_p g_k] : List ZW).flatten)) rfl ⟨rfl, trivial⟩ ?_
    by_cases hc2 : v5 < (zdeg g_k)
    · rw [if_pos hc2] at h
      refine Go.br zk_X2_neighboursOf rfl rfl (fun _ => ?_) (fun q => absurd hc2 q)
      refine Go.blk zk_X2_neighboursOf [0, 0, 0] (z' := (24, [some (.ref c_p), some (.int v1), some (.ref g_p), some (.int v3), some (.int v4), some (.int v5), none, none, none], [.int v1, .ref c_p, .ref g_p], ([sCe c_p c_a c_codes c_size, sLa r g_p g_k] : List ZW).flatten)) rfl trivial ?_
      obtain ⟨u3, hu3, h⟩ := z_bind h
      refine Go.vs zk_X2_neighboursOf zm_X2_qAt [0] [1] 0 2 2 (S := [sCe c_p c_a c_codes c_size, sLa r g_p g_k]) (S2 := [sCe c_p c_a c_codes c_size, sLa r g_p g_k]) (As := [.int v1]) (rest := [.ref g_p]) (st2 := [.int u3, .ref g_p]) (v1 := some (.int u3)) rfl zl_X2_25 zv_X2_qAt ⟨Nat.le_of_ble_eq_true rfl, Nat.le_of_ble_eq_true rfl⟩ rfl (by decide) rfl rfl rfl rfl rfl (Nat.le_of_ble_eq_true rfl) (t_X2_qAt hu3) rfl rfl rfl ?_
      refine Go.blk zk_X2_neighboursOf [0, 0] (z' := (31, [some (.ref c_p), some (.int v1), some (.ref g_p), some (.int v3), some (.int v4), some (.int v5), none, none, none], [.int v5, .int v4, .int u3, .ref g_p], ([sCe c_p c_a c_codes c_size, sLa r g_p g_k] : List ZW).flatten)) rfl trivial ?_
      obtain ⟨u4, hu4, h⟩ := z_bind h
      refine Go.vs zk_X2_neighboursOf zm_X6_neighbourQ [1] [0] 0 6 2 (S := [sCe c_p c_a c_codes c_size, sLa r g_p g_k]) (S2 := [sCe c_p c_a c_codes c_size, sLa r g_p g_k]) (As := [.int u3, .int v4, .int v5]) (rest := []) (st2 := [.int u4]) (v1 := some (.int u4)) rfl zl_X2_63 zv_X6_neighbourQ ⟨Nat.le_of_ble_eq_true rfl, Nat.le_of_ble_eq_true rfl⟩ rfl (by decide) rfl rfl rfl rfl rfl (Nat.le_of_ble_eq_true rfl) (t_X6_neighbourQ hk_g hu4) rfl rfl rfl ?_
      refine Go.blk zk_X2_neighboursOf [0, 0, 0, 0] (z' := (39, [some (.ref c_p), some (.int v1), some (.ref g_p), some (.int v3), some (.int v4), some (.int v5), some (.int u4), none, none], [.int v1, .ref c_p, .ref g_p], ([sCe c_p c_a c_codes c_size, sLa r g_p g_k] : List ZW).flatten)) rfl trivial ?_
      obtain ⟨u5, hu5, h⟩ := z_bind h
      refine Go.vs zk_X2_neighboursOf zm_X2_rAt [0] [1] 0 2 2 (S := [sCe c_p c_a c_codes c_size, sLa r g_p g_k]) (S2 := [sCe c_p c_a c_codes c_size, sLa r g_p g_k]) (As := [.int v1]) (rest := [.ref g_p]) (st2 := [.int u5, .ref g_p]) (v1 := some (.int u5)) rfl zl_X2_29 zv_X2_rAt ⟨Nat.le_of_ble_eq_true rfl, Nat.le_of_ble_eq_true rfl⟩ rfl (by decide) rfl rfl rfl rfl rfl (Nat.le_of_ble_eq_true rfl) (t_X2_rAt hu5) rfl rfl rfl ?_
      refine Go.blk zk_X2_neighboursOf [0, 0] (z' := (46, [some (.ref c_p), some (.int v1), some (.ref g_p), some (.int v3), some (.int v4), some (.int v5), some (.int u4), none, none], [.int v5, .int v4, .int u5, .ref g_p], ([sCe c_p c_a c_codes c_size, sLa r g_p g_k] : List ZW).flatten)) rfl trivial ?_
      obtain ⟨u6, hu6, h⟩ := z_bind h
      refine Go.vs zk_X2_neighboursOf zm_X6_neighbourR [1] [0] 0 6 2 (S := [sCe c_p c_a c_codes c_size, sLa r g_p g_k]) (S2 := [sCe c_p c_a c_codes c_size, sLa r g_p g_k]) (As := [.int u5, .int v4, .int v5]) (rest := []) (st2 := [.int u6]) (v1 := some (.int u6)) rfl zl_X2_66 zv_X6_neighbourR ⟨Nat.le_of_ble_eq_true rfl, Nat.le_of_ble_eq_true rfl⟩ rfl (by decide) rfl rfl rfl rfl rfl (Nat.le_of_ble_eq_true rfl) (t_X6_neighbourR hk_g hu6) rfl rfl rfl ?_
      refine Go.blk zk_X2_neighboursOf [0, 0, 0, 0, 0, 0] (z' := (59, [some (.ref c_p), some (.int v1), some (.ref g_p), some (.int v3), some (.int v4), some (.int v5), some (.int u4), some (.int u6), none], [.int v4, .ref g_p, .int u6, .int u4, .ref c_p], ([sCe c_p c_a c_codes c_size, sLa r g_p g_k] : List ZW).flatten)) rfl trivial ?_
      obtain ⟨u7, hu7, h⟩ := z_bind h
      refine Go.vs zk_X2_neighboursOf zm_X6_neighbourT [1] [0] 0 6 2 (S := [sCe c_p c_a c_codes c_size, sLa r g_p g_k]) (S2 := [sCe c_p c_a c_codes c_size, sLa r g_p g_k]) (As := [.int v4]) (rest := [.int u6, .int u4, .ref c_p]) (st2 := [.int u7, .int u6, .int u4, .ref c_p]) (v1 := some (.int u7)) rfl zl_X2_69 zv_X6_neighbourT ⟨Nat.le_of_ble_eq_true rfl, Nat.le_of_ble_eq_true rfl⟩ rfl (by decide) rfl rfl rfl rfl rfl (Nat.le_of_ble_eq_true rfl) (t_X6_neighbourT hk_g hu7) rfl rfl rfl ?_
      obtain ⟨u8, hu8, h⟩ := z_bind h
      refine Go.vs zk_X2_neighboursOf zm_X2_find [0] [1] 0 2 2 (S := [sCe c_p c_a c_codes c_size, sLa r g_p g_k]) (S2 := [sCe c_p c_a c_codes c_size, sLa r g_p g_k]) (As := [.int u4, .int u6, .int u7]) (rest := []) (st2 := [.int u8]) (v1 := some (.int u8)) rfl zl_X2_72 zv_X2_find ⟨Nat.le_of_ble_eq_true rfl, Nat.le_of_ble_eq_true rfl⟩ rfl (by decide) rfl rfl rfl rfl rfl (Nat.le_of_ble_eq_true rfl) (t_X2_find hu8) rfl rfl rfl ?_
      refine Go.blk zk_X2_neighboursOf [0, 0] (z' := (69, [some (.ref c_p), some (.int v1), some (.ref g_p), some (.int v3), some (.int v4), some (.int v5), some (.int u4), some (.int u6), some (.int u8)], [.int u8], ([sCe c_p c_a c_codes c_size, sLa r g_p g_k] : List ZW).flatten)) rfl trivial ?_
      by_cases hc9 : u8 < 0
      · rw [if_pos hc9] at h
        refine Go.br zk_X2_neighboursOf rfl rfl (fun _ => ?_) (fun q => absurd hc9 q)
        refine Go.blk zk_X2_neighboursOf [0, 0] (z' := (12, [some (.ref c_p), some (.int v1), some (.ref g_p), some (.int v3), some (.int v4), some (.int (v5 + 1)), some (.int u4), some (.int u6), some (.int u8)], [], ([sCe c_p c_a c_codes c_size, sLa r g_p g_k] : List ZW).flatten)) rfl trivial ?_
        refine Go.weak (L := [some (.ref c_p), some (.int v1), some (.ref g_p), some (.int v3), some (.int v4), some (.int (v5 + 1)), some (.int u4), some (.int u6), some (.int u8)]) (L' := [some (.ref c_p), some (.int v1), some (.ref g_p), some (.int v3), some (.int v4), some (.int (v5 + 1)), none, none, none]) (And.intro rfl (And.intro rfl (And.intro rfl (And.intro rfl (And.intro rfl (And.intro rfl (trivial))))))) ?_
        exact ih _ _ _ h kk
      · rw [if_neg hc9] at h
        refine Go.br zk_X2_neighboursOf rfl rfl (fun q => absurd q hc9) (fun _ => ?_)
        refine Go.blk zk_X2_neighboursOf [0, 0, 0, 0, 0, 0, 0, 0] (z' := (12, [some (.ref c_p), some (.int v1), some (.ref g_p), some (.int (v3 ||| (1 <<< (u8 &&& 31)))), some (.int v4), some (.int (v5 + 1)), some (.int u4), some (.int u6), some (.int u8)], [], ([sCe c_p c_a c_codes c_size, sLa r g_p g_k] : List ZW).flatten)) rfl trivial ?_
        refine Go.weak (L := [some (.ref c_p), some (.int v1), some (.ref g_p), some (.int (v3 ||| (1 <<< (u8 &&& 31)))), some (.int v4), some (.int (v5 + 1)), some (.int u4), some (.int u6), some (.int u8)]) (L' := [some (.ref c_p), some (.int v1), some (.ref g_p), some (.int (v3 ||| (1 <<< (u8 &&& 31)))), some (.int v4), some (.int (v5 + 1)), none, none, none]) (And.intro rfl (And.intro rfl (And.intro rfl (And.intro rfl (And.intro rfl (And.intro rfl (trivial))))))) ?_
        exact ih _ _ _ h kk
    · rw [if_neg hc2] at h
      refine Go.br zk_X2_neighboursOf rfl rfl (fun q => absurd q hc2) (fun _ => ?_)
      obtain rfl := Option.some.inj h
      refine Go.weak (L := [some (.ref c_p), some (.int v1), some (.ref g_p), some (.int v3), some (.int v4), some (.int v5), none, none, none]) (L' := [none, none, none, some (.int v3), none, none, none, none, none]) (And.intro rfl (trivial)) ?_
      exact kk
set_option maxHeartbeats 4000000 in
set_option maxRecDepth 100000 in
theorem t_X2_neighboursOf {N : Nat} {c_p : Nat} {c_a : Nat → Nat} {c_codes : List Int32} {c_size : Int32} {g_p : Nat} {g_k : Nat} {i1 : Int32} {u : Int32} (hk_g : g_k < 3) (h : f_X2_neighboursOf N i1 c_codes c_size g_k = some u) : Ct l D r (z_rl xs) zm_X2_neighboursOf 0 0 [.ref c_p, .int i1, .ref g_p] ([sCe c_p c_a c_codes c_size, sLa r g_p g_k] : List ZW).flatten (fun v' w' => v' = some (.int u) ∧ w' = ([sCe c_p c_a c_codes c_size, sLa r g_p g_k] : List ZW).flatten) := by
  refine Ct.of (by decide +kernel) rfl (fun q => absurd q (by decide)) (Nat.le_of_ble_eq_true rfl) ?_
  refine Go.eqz (z2 := (0, [some (.ref c_p), some (.int i1), some (.ref g_p), none, none, none, none, none, none], [], ([sCe c_p c_a c_codes c_size, sLa r g_p g_k] : List ZW).flatten)) rfl ?_
  unfold f_X2_neighboursOf at h
  refine Go.blk zk_X2_neighboursOf [0, 0, 0, 0] (z' := (4, [some (.ref c_p), some (.int i1), some (.ref g_p), some (.int 0), none, none, none, none, none], [.int i1, .ref c_p], ([sCe c_p c_a c_codes c_size, sLa r g_p g_k] : List ZW).flatten)) rfl trivial ?_
  obtain ⟨u1, hu1, h⟩ := z_bind h
  refine Go.vs zk_X2_neighboursOf zm_X2_tAt [0] [1] 0 2 2 (S := [sCe c_p c_a c_codes c_size, sLa r g_p g_k]) (S2 := [sCe c_p c_a c_codes c_size, sLa r g_p g_k]) (As := [.int i1]) (rest := []) (st2 := [.int u1]) (v1 := some (.int u1)) rfl zl_X2_32 zv_X2_tAt ⟨Nat.le_of_ble_eq_true rfl, Nat.le_of_ble_eq_true rfl⟩ rfl (by decide) rfl rfl rfl rfl rfl (Nat.le_of_ble_eq_true rfl) (t_X2_tAt hu1) rfl rfl rfl ?_
  refine Go.blk zk_X2_neighboursOf [0, 0, 0] (z' := (12, [some (.ref c_p), some (.int i1), some (.ref g_p), some (.int 0), some (.int u1), some (.int 0), none, none, none], [], ([sCe c_p c_a c_codes c_size, sLa r g_p g_k] : List ZW).flatten)) rfl trivial ?_
  obtain ⟨e10, he10, h⟩ := z_bind h
  refine t_X2_neighboursOf_L12 hk_g N _ _ _ he10 ?_
  refine Go.blk zk_X2_neighboursOf [0] (z' := (86, [none, none, none, some (.int e10), none, none, none, none, none], [.int e10], ([sCe c_p c_a c_codes c_size, sLa r g_p g_k] : List ZW).flatten)) rfl trivial ?_
  obtain rfl := Option.some.inj h
  exact Go.iret zk_X2_neighboursOf rfl rfl rfl ⟨rfl, rfl⟩
set_option maxHeartbeats 4000000 in
set_option maxRecDepth 100000 in
theorem t_J6_numberOfTrailingZeros_0f7a4 {N : Nat} {i1 : Int32} {u : Int32}  (h : f_J6_numberOfTrailingZeros_0f7a4 N i1 = some u) : Ct l D r (z_rl xs) zm_J6_numberOfTrailingZeros_0f7a4 0 0 [.int i1] ([] : List ZW).flatten (fun v' w' => v' = some (.int u) ∧ w' = ([] : List ZW).flatten) := by
  refine Ct.of (by decide +kernel) rfl (fun q => absurd q (by decide)) (Nat.le_of_ble_eq_true rfl) ?_
  refine Go.eqz (z2 := (0, [some (.int i1), none], [], ([] : List ZW).flatten)) rfl ?_
  unfold f_J6_numberOfTrailingZeros_0f7a4 at h
  refine Go.blk zk_J6_numberOfTrailingZeros_0f7a4 [0, 0, 0, 0, 0, 0, 0, 0, 0] (z' := (9, [some (.int ((i1 ^^^ (-1)) &&& (i1 - 1))), none], [.int ((i1 ^^^ (-1)) &&& (i1 - 1))], ([] : List ZW).flatten)) rfl trivial ?_
  by_cases hc1 : 0 < ((i1 ^^^ (-1)) &&& (i1 - 1))
  · rw [if_pos hc1] at h
    refine Go.br zk_J6_numberOfTrailingZeros_0f7a4 rfl rfl (fun _ => ?_) (fun q => absurd hc1 q)
    refine Go.blk zk_J6_numberOfTrailingZeros_0f7a4 [0, 0, 0, 0] (z' := (23, [some (.int ((i1 ^^^ (-1)) &&& (i1 - 1))), some (.int 1)], [.int 65536, .int ((i1 ^^^ (-1)) &&& (i1 - 1))], ([] : List ZW).flatten)) rfl trivial ?_
    by_cases hc2 : 65536 < ((i1 ^^^ (-1)) &&& (i1 - 1))
    · rw [if_pos hc2] at h
      refine Go.br zk_J6_numberOfTrailingZeros_0f7a4 rfl rfl (fun _ => ?_) (fun q => absurd hc2 q)
      refine Go.blk zk_J6_numberOfTrailingZeros_0f7a4 [0, 0, 0, 0, 0, 0, 0] (z' := (38, [some (.int ((Int32.toUInt32 ((i1 ^^^ (-1)) &&& (i1 - 1)) >>> (Int32.toUInt32 16 &&& Int32.toUInt32 31)).toInt32)), some (.int (1 + 16))], [.int 256, .int ((Int32.toUInt32 ((i1 ^^^ (-1)) &&& (i1 - 1)) >>> (Int32.toUInt32 16 &&& Int32.toUInt32 31)).toInt32)], ([] : List ZW).flatten)) rfl trivial ?_
      by_cases hc3 : 256 < ((Int32.toUInt32 ((i1 ^^^ (-1)) &&& (i1 - 1)) >>> (Int32.toUInt32 16 &&& Int32.toUInt32 31)).toInt32)
      · rw [if_pos hc3] at h
        refine Go.br zk_J6_numberOfTrailingZeros_0f7a4 rfl rfl (fun _ => ?_) (fun q => absurd hc3 q)
        refine Go.blk zk_J6_numberOfTrailingZeros_0f7a4 [0, 0, 0, 0, 0, 0, 0] (z' := (52, [some (.int ((Int32.toUInt32 ((Int32.toUInt32 ((i1 ^^^ (-1)) &&& (i1 - 1)) >>> (Int32.toUInt32 16 &&& Int32.toUInt32 31)).toInt32) >>> (Int32.toUInt32 8 &&& Int32.toUInt32 31)).toInt32)), some (.int ((1 + 16) + 8))], [.int 16, .int ((Int32.toUInt32 ((Int32.toUInt32 ((i1 ^^^ (-1)) &&& (i1 - 1)) >>> (Int32.toUInt32 16 &&& Int32.toUInt32 31)).toInt32) >>> (Int32.toUInt32 8 &&& Int32.toUInt32 31)).toInt32)], ([] : List ZW).flatten)) rfl trivial ?_
        by_cases hc4 : 16 < ((Int32.toUInt32 ((Int32.toUInt32 ((i1 ^^^ (-1)) &&& (i1 - 1)) >>> (Int32.toUInt32 16 &&& Int32.toUInt32 31)).toInt32) >>> (Int32.toUInt32 8 &&& Int32.toUInt32 31)).toInt32)
        · rw [if_pos hc4] at h
          refine Go.br zk_J6_numberOfTrailingZeros_0f7a4 rfl rfl (fun _ => ?_) (fun q => absurd hc4 q)
          refine Go.blk zk_J6_numberOfTrailingZeros_0f7a4 [0, 0, 0, 0, 0, 0, 0] (z' := (64, [some (.int ((Int32.toUInt32 ((Int32.toUInt32 ((Int32.toUInt32 ((i1 ^^^ (-1)) &&& (i1 - 1)) >>> (Int32.toUInt32 16 &&& Int32.toUInt32 31)).toInt32) >>> (Int32.toUInt32 8 &&& Int32.toUInt32 31)).toInt32) >>> (Int32.toUInt32 4 &&& Int32.toUInt32 31)).toInt32)), some (.int (((1 + 16) + 8) + 4))], [.int 4, .int ((Int32.toUInt32 ((Int32.toUInt32 ((Int32.toUInt32 ((i1 ^^^ (-1)) &&& (i1 - 1)) >>> (Int32.toUInt32 16 &&& Int32.toUInt32 31)).toInt32) >>> (Int32.toUInt32 8 &&& Int32.toUInt32 31)).toInt32) >>> (Int32.toUInt32 4 &&& Int32.toUInt32 31)).toInt32)], ([] : List ZW).flatten)) rfl trivial ?_
          by_cases hc5 : 4 < ((Int32.toUInt32 ((Int32.toUInt32 ((Int32.toUInt32 ((i1 ^^^ (-1)) &&& (i1 - 1)) >>> (Int32.toUInt32 16 &&& Int32.toUInt32 31)).toInt32) >>> (Int32.toUInt32 8 &&& Int32.toUInt32 31)).toInt32) >>> (Int32.toUInt32 4 &&& Int32.toUInt32 31)).toInt32)
          · rw [if_pos hc5] at h
            refine Go.br zk_J6_numberOfTrailingZeros_0f7a4 rfl rfl (fun _ => ?_) (fun q => absurd hc5 q)
            refine Go.blk zk_J6_numberOfTrailingZeros_0f7a4 [0, 0, 0, 0, 0, 0, 0, 0, 0, 0] (z' := (79, [some (.int ((Int32.toUInt32 ((Int32.toUInt32 ((Int32.toUInt32 ((Int32.toUInt32 ((i1 ^^^ (-1)) &&& (i1 - 1)) >>> (Int32.toUInt32 16 &&& Int32.toUInt32 31)).toInt32) >>> (Int32.toUInt32 8 &&& Int32.toUInt32 31)).toInt32) >>> (Int32.toUInt32 4 &&& Int32.toUInt32 31)).toInt32) >>> (Int32.toUInt32 2 &&& Int32.toUInt32 31)).toInt32)), some (.int ((((1 + 16) + 8) + 4) + 2))], [.int (((((1 + 16) + 8) + 4) + 2) + ((Int32.toUInt32 ((Int32.toUInt32 ((Int32.toUInt32 ((Int32.toUInt32 ((Int32.toUInt32 ((i1 ^^^ (-1)) &&& (i1 - 1)) >>> (Int32.toUInt32 16 &&& Int32.toUInt32 31)).toInt32) >>> (Int32.toUInt32 8 &&& Int32.toUInt32 31)).toInt32) >>> (Int32.toUInt32 4 &&& Int32.toUInt32 31)).toInt32) >>> (Int32.toUInt32 2 &&& Int32.toUInt32 31)).toInt32) >>> (Int32.toUInt32 1 &&& Int32.toUInt32 31)).toInt32))], ([] : List ZW).flatten)) rfl trivial ?_
            obtain rfl := Option.some.inj h
            exact Go.iret zk_J6_numberOfTrailingZeros_0f7a4 rfl rfl rfl ⟨rfl, rfl⟩
          · rw [if_neg hc5] at h
            refine Go.br zk_J6_numberOfTrailingZeros_0f7a4 rfl rfl (fun q => absurd q hc5) (fun _ => ?_)
            refine Go.blk zk_J6_numberOfTrailingZeros_0f7a4 [0, 0, 0, 0, 0] (z' := (79, [some (.int ((Int32.toUInt32 ((Int32.toUInt32 ((Int32.toUInt32 ((i1 ^^^ (-1)) &&& (i1 - 1)) >>> (Int32.toUInt32 16 &&& Int32.toUInt32 31)).toInt32) >>> (Int32.toUInt32 8 &&& Int32.toUInt32 31)).toInt32) >>> (Int32.toUInt32 4 &&& Int32.toUInt32 31)).toInt32)), some (.int (((1 + 16) + 8) + 4))], [.int ((((1 + 16) + 8) + 4) + ((Int32.toUInt32 ((Int32.toUInt32 ((Int32.toUInt32 ((Int32.toUInt32 ((i1 ^^^ (-1)) &&& (i1 - 1)) >>> (Int32.toUInt32 16 &&& Int32.toUInt32 31)).toInt32) >>> (Int32.toUInt32 8 &&& Int32.toUInt32 31)).toInt32) >>> (Int32.toUInt32 4 &&& Int32.toUInt32 31)).toInt32) >>> (Int32.toUInt32 1 &&& Int32.toUInt32 31)).toInt32))], ([] : List ZW).flatten)) rfl trivial ?_
            obtain rfl := Option.some.inj h
            exact Go.iret zk_J6_numberOfTrailingZeros_0f7a4 rfl rfl rfl ⟨rfl, rfl⟩
        · rw [if_neg hc4] at h
          refine Go.br zk_J6_numberOfTrailingZeros_0f7a4 rfl rfl (fun q => absurd q hc4) (fun _ => ?_)
          refine Go.blk zk_J6_numberOfTrailingZeros_0f7a4 [0, 0] (z' := (64, [some (.int ((Int32.toUInt32 ((Int32.toUInt32 ((i1 ^^^ (-1)) &&& (i1 - 1)) >>> (Int32.toUInt32 16 &&& Int32.toUInt32 31)).toInt32) >>> (Int32.toUInt32 8 &&& Int32.toUInt32 31)).toInt32)), some (.int ((1 + 16) + 8))], [.int 4, .int ((Int32.toUInt32 ((Int32.toUInt32 ((i1 ^^^ (-1)) &&& (i1 - 1)) >>> (Int32.toUInt32 16 &&& Int32.toUInt32 31)).toInt32) >>> (Int32.toUInt32 8 &&& Int32.toUInt32 31)).toInt32)], ([] : List ZW).flatten)) rfl trivial ?_
          by_cases hc6 : 4 < ((Int32.toUInt32 ((Int32.toUInt32 ((i1 ^^^ (-1)) &&& (i1 - 1)) >>> (Int32.toUInt32 16 &&& Int32.toUInt32 31)).toInt32) >>> (Int32.toUInt32 8 &&& Int32.toUInt32 31)).toInt32)
          · rw [if_pos hc6] at h
            refine Go.br zk_J6_numberOfTrailingZeros_0f7a4 rfl rfl (fun _ => ?_) (fun q => absurd hc6 q)
            refine Go.blk zk_J6_numberOfTrailingZeros_0f7a4 [0, 0, 0, 0, 0, 0, 0, 0, 0, 0] (z' := (79, [some (.int ((Int32.toUInt32 ((Int32.toUInt32 ((Int32.toUInt32 ((i1 ^^^ (-1)) &&& (i1 - 1)) >>> (Int32.toUInt32 16 &&& Int32.toUInt32 31)).toInt32) >>> (Int32.toUInt32 8 &&& Int32.toUInt32 31)).toInt32) >>> (Int32.toUInt32 2 &&& Int32.toUInt32 31)).toInt32)), some (.int (((1 + 16) + 8) + 2))], [.int ((((1 + 16) + 8) + 2) + ((Int32.toUInt32 ((Int32.toUInt32 ((Int32.toUInt32 ((Int32.toUInt32 ((i1 ^^^ (-1)) &&& (i1 - 1)) >>> (Int32.toUInt32 16 &&& Int32.toUInt32 31)).toInt32) >>> (Int32.toUInt32 8 &&& Int32.toUInt32 31)).toInt32) >>> (Int32.toUInt32 2 &&& Int32.toUInt32 31)).toInt32) >>> (Int32.toUInt32 1 &&& Int32.toUInt32 31)).toInt32))], ([] : List ZW).flatten)) rfl trivial ?_
            obtain rfl := Option.some.inj h
            exact Go.iret zk_J6_numberOfTrailingZeros_0f7a4 rfl rfl rfl ⟨rfl, rfl⟩
          · rw [if_neg hc6] at h
            refine Go.br zk_J6_numberOfTrailingZeros_0f7a4 rfl rfl (fun q => absurd q hc6) (fun _ => ?_)
            refine Go.blk zk_J6_numberOfTrailingZeros_0f7a4 [0, 0, 0, 0, 0] (z' := (79, [some (.int ((Int32.toUInt32 ((Int32.toUInt32 ((i1 ^^^ (-1)) &&& (i1 - 1)) >>> (Int32.toUInt32 16 &&& Int32.toUInt32 31)).toInt32) >>> (Int32.toUInt32 8 &&& Int32.toUInt32 31)).toInt32)), some (.int ((1 + 16) + 8))], [.int (((1 + 16) + 8) + ((Int32.toUInt32 ((Int32.toUInt32 ((Int32.toUInt32 ((i1 ^^^ (-1)) &&& (i1 - 1)) >>> (Int32.toUInt32 16 &&& Int32.toUInt32 31)).toInt32) >>> (Int32.toUInt32 8 &&& Int32.toUInt32 31)).toInt32) >>> (Int32.toUInt32 1 &&& Int32.toUInt32 31)).toInt32))], ([] : List ZW).flatten)) rfl trivial ?_
            obtain rfl := Option.some.inj h
            exact Go.iret zk_J6_numberOfTrailingZeros_0f7a4 rfl rfl rfl ⟨rfl, rfl⟩
      · rw [if_neg hc3] at h
        refine Go.br zk_J6_numberOfTrailingZeros_0f7a4 rfl rfl (fun q => absurd q hc3) (fun _ => ?_)
        refine Go.blk zk_J6_numberOfTrailingZeros_0f7a4 [0, 0] (z' := (52, [some (.int ((Int32.toUInt32 ((i1 ^^^ (-1)) &&& (i1 - 1)) >>> (Int32.toUInt32 16 &&& Int32.toUInt32 31)).toInt32)), some (.int (1 + 16))], [.int 16, .int ((Int32.toUInt32 ((i1 ^^^ (-1)) &&& (i1 - 1)) >>> (Int32.toUInt32 16 &&& Int32.toUInt32 31)).toInt32)], ([] : List ZW).flatten)) rfl trivial ?_
        by_cases hc7 : 16 < ((Int32.toUInt32 ((i1 ^^^ (-1)) &&& (i1 - 1)) >>> (Int32.toUInt32 16 &&& Int32.toUInt32 31)).toInt32)
        · rw [if_pos hc7] at h
          refine Go.br zk_J6_numberOfTrailingZeros_0f7a4 rfl rfl (fun _ => ?_) (fun q => absurd hc7 q)
          refine Go.blk zk_J6_numberOfTrailingZeros_0f7a4 [0, 0, 0, 0, 0, 0, 0] (z' := (64, [some (.int ((Int32.toUInt32 ((Int32.toUInt32 ((i1 ^^^ (-1)) &&& (i1 - 1)) >>> (Int32.toUInt32 16 &&& Int32.toUInt32 31)).toInt32) >>> (Int32.toUInt32 4 &&& Int32.toUInt32 31)).toInt32)), some (.int ((1 + 16) + 4))], [.int 4, .int ((Int32.toUInt32 ((Int32.toUInt32 ((i1 ^^^ (-1)) &&& (i1 - 1)) >>> (Int32.toUInt32 16 &&& Int32.toUInt32 31)).toInt32) >>> (Int32.toUInt32 4 &&& Int32.toUInt32 31)).toInt32)], ([] : List ZW).flatten)) rfl trivial ?_
          by_cases hc8 : 4 < ((Int32.toUInt32 ((Int32.toUInt32 ((i1 ^^^ (-1)) &&& (i1 - 1)) >>> (Int32.toUInt32 16 &&& Int32.toUInt32 31)).toInt32) >>> (Int32.toUInt32 4 &&& Int32.toUInt32 31)).toInt32)
          · rw [if_pos hc8] at h
            refine Go.br zk_J6_numberOfTrailingZeros_0f7a4 rfl rfl (fun _ => ?_) (fun q => absurd hc8 q)
            refine Go.blk zk_J6_numberOfTrailingZeros_0f7a4 [0, 0, 0, 0, 0, 0, 0, 0, 0, 0] (z' := (79, [some (.int ((Int32.toUInt32 ((Int32.toUInt32 ((Int32.toUInt32 ((i1 ^^^ (-1)) &&& (i1 - 1)) >>> (Int32.toUInt32 16 &&& Int32.toUInt32 31)).toInt32) >>> (Int32.toUInt32 4 &&& Int32.toUInt32 31)).toInt32) >>> (Int32.toUInt32 2 &&& Int32.toUInt32 31)).toInt32)), some (.int (((1 + 16) + 4) + 2))], [.int ((((1 + 16) + 4) + 2) + ((Int32.toUInt32 ((Int32.toUInt32 ((Int32.toUInt32 ((Int32.toUInt32 ((i1 ^^^ (-1)) &&& (i1 - 1)) >>> (Int32.toUInt32 16 &&& Int32.toUInt32 31)).toInt32) >>> (Int32.toUInt32 4 &&& Int32.toUInt32 31)).toInt32) >>> (Int32.toUInt32 2 &&& Int32.toUInt32 31)).toInt32) >>> (Int32.toUInt32 1 &&& Int32.toUInt32 31)).toInt32))], ([] : List ZW).flatten)) rfl trivial ?_
            obtain rfl := Option.some.inj h
            exact Go.iret zk_J6_numberOfTrailingZeros_0f7a4 rfl rfl rfl ⟨rfl, rfl⟩
          · rw [if_neg hc8] at h
            refine Go.br zk_J6_numberOfTrailingZeros_0f7a4 rfl rfl (fun q => absurd q hc8) (fun _ => ?_)
            refine Go.blk zk_J6_numberOfTrailingZeros_0f7a4 [0, 0, 0, 0, 0] (z' := (79, [some (.int ((Int32.toUInt32 ((Int32.toUInt32 ((i1 ^^^ (-1)) &&& (i1 - 1)) >>> (Int32.toUInt32 16 &&& Int32.toUInt32 31)).toInt32) >>> (Int32.toUInt32 4 &&& Int32.toUInt32 31)).toInt32)), some (.int ((1 + 16) + 4))], [.int (((1 + 16) + 4) + ((Int32.toUInt32 ((Int32.toUInt32 ((Int32.toUInt32 ((i1 ^^^ (-1)) &&& (i1 - 1)) >>> (Int32.toUInt32 16 &&& Int32.toUInt32 31)).toInt32) >>> (Int32.toUInt32 4 &&& Int32.toUInt32 31)).toInt32) >>> (Int32.toUInt32 1 &&& Int32.toUInt32 31)).toInt32))], ([] : List ZW).flatten)) rfl trivial ?_
            obtain rfl := Option.some.inj h
            exact Go.iret zk_J6_numberOfTrailingZeros_0f7a4 rfl rfl rfl ⟨rfl, rfl⟩
        · rw [if_neg hc7] at h
          refine Go.br zk_J6_numberOfTrailingZeros_0f7a4 rfl rfl (fun q => absurd q hc7) (fun _ => ?_)
          refine Go.blk zk_J6_numberOfTrailingZeros_0f7a4 [0, 0] (z' := (64, [some (.int ((Int32.toUInt32 ((i1 ^^^ (-1)) &&& (i1 - 1)) >>> (Int32.toUInt32 16 &&& Int32.toUInt32 31)).toInt32)), some (.int (1 + 16))], [.int 4, .int ((Int32.toUInt32 ((i1 ^^^ (-1)) &&& (i1 - 1)) >>> (Int32.toUInt32 16 &&& Int32.toUInt32 31)).toInt32)], ([] : List ZW).flatten)) rfl trivial ?_
          by_cases hc9 : 4 < ((Int32.toUInt32 ((i1 ^^^ (-1)) &&& (i1 - 1)) >>> (Int32.toUInt32 16 &&& Int32.toUInt32 31)).toInt32)
          · rw [if_pos hc9] at h
            refine Go.br zk_J6_numberOfTrailingZeros_0f7a4 rfl rfl (fun _ => ?_) (fun q => absurd hc9 q)
            refine Go.blk zk_J6_numberOfTrailingZeros_0f7a4 [0, 0, 0, 0, 0, 0, 0, 0, 0, 0] (z' := (79, [some (.int ((Int32.toUInt32 ((Int32.toUInt32 ((i1 ^^^ (-1)) &&& (i1 - 1)) >>> (Int32.toUInt32 16 &&& Int32.toUInt32 31)).toInt32) >>> (Int32.toUInt32 2 &&& Int32.toUInt32 31)).toInt32)), some (.int ((1 + 16) + 2))], [.int (((1 + 16) + 2) + ((Int32.toUInt32 ((Int32.toUInt32 ((Int32.toUInt32 ((i1 ^^^ (-1)) &&& (i1 - 1)) >>> (Int32.toUInt32 16 &&& Int32.toUInt32 31)).toInt32) >>> (Int32.toUInt32 2 &&& Int32.toUInt32 31)).toInt32) >>> (Int32.toUInt32 1 &&& Int32.toUInt32 31)).toInt32))], ([] : List ZW).flatten)) rfl trivial ?_
            obtain rfl := Option.some.inj h
            exact Go.iret zk_J6_numberOfTrailingZeros_0f7a4 rfl rfl rfl ⟨rfl, rfl⟩
          · rw [if_neg hc9] at h
            refine Go.br zk_J6_numberOfTrailingZeros_0f7a4 rfl rfl (fun q => absurd q hc9) (fun _ => ?_)
            refine Go.blk zk_J6_numberOfTrailingZeros_0f7a4 [0, 0, 0, 0, 0] (z' := (79, [some (.int ((Int32.toUInt32 ((i1 ^^^ (-1)) &&& (i1 - 1)) >>> (Int32.toUInt32 16 &&& Int32.toUInt32 31)).toInt32)), some (.int (1 + 16))], [.int ((1 + 16) + ((Int32.toUInt32 ((Int32.toUInt32 ((i1 ^^^ (-1)) &&& (i1 - 1)) >>> (Int32.toUInt32 16 &&& Int32.toUInt32 31)).toInt32) >>> (Int32.toUInt32 1 &&& Int32.toUInt32 31)).toInt32))], ([] : List ZW).flatten)) rfl trivial ?_
            obtain rfl := Option.some.inj h
            exact Go.iret zk_J6_numberOfTrailingZeros_0f7a4 rfl rfl rfl ⟨rfl, rfl⟩
    · rw [if_neg hc2] at h
      refine Go.br zk_J6_numberOfTrailingZeros_0f7a4 rfl rfl (fun q => absurd q hc2) (fun _ => ?_)
      refine Go.blk zk_J6_numberOfTrailingZeros_0f7a4 [0, 0] (z' := (38, [some (.int ((i1 ^^^ (-1)) &&& (i1 - 1))), some (.int 1)], [.int 256, .int ((i1 ^^^ (-1)) &&& (i1 - 1))], ([] : List ZW).flatten)) rfl trivial ?_
      by_cases hc10 : 256 < ((i1 ^^^ (-1)) &&& (i1 - 1))
      · rw [if_pos hc10] at h
        refine Go.br zk_J6_numberOfTrailingZeros_0f7a4 rfl rfl (fun _ => ?_) (fun q => absurd hc10 q)
        refine Go.blk zk_J6_numberOfTrailingZeros_0f7a4 [0, 0, 0, 0, 0, 0, 0] (z' := (52, [some (.int ((Int32.toUInt32 ((i1 ^^^ (-1)) &&& (i1 - 1)) >>> (Int32.toUInt32 8 &&& Int32.toUInt32 31)).toInt32)), some (.int (1 + 8))], [.int 16, .int ((Int32.toUInt32 ((i1 ^^^ (-1)) &&& (i1 - 1)) >>> (Int32.toUInt32 8 &&& Int32.toUInt32 31)).toInt32)], ([] : List ZW).flatten)) rfl trivial ?_
        by_cases hc11 : 16 < ((Int32.toUInt32 ((i1 ^^^ (-1)) &&& (i1 - 1)) >>> (Int32.toUInt32 8 &&& Int32.toUInt32 31)).toInt32)
        · rw [if_pos hc11] at h
          refine Go.br zk_J6_numberOfTrailingZeros_0f7a4 rfl rfl (fun _ => ?_) (fun q => absurd hc11 q)
          refine Go.blk zk_J6_numberOfTrailingZeros_0f7a4 [0, 0, 0, 0, 0, 0, 0] (z' := (64, [some (.int ((Int32.toUInt32 ((Int32.toUInt32 ((i1 ^^^ (-1)) &&& (i1 - 1)) >>> (Int32.toUInt32 8 &&& Int32.toUInt32 31)).toInt32) >>> (Int32.toUInt32 4 &&& Int32.toUInt32 31)).toInt32)), some (.int ((1 + 8) + 4))], [.int 4, .int ((Int32.toUInt32 ((Int32.toUInt32 ((i1 ^^^ (-1)) &&& (i1 - 1)) >>> (Int32.toUInt32 8 &&& Int32.toUInt32 31)).toInt32) >>> (Int32.toUInt32 4 &&& Int32.toUInt32 31)).toInt32)], ([] : List ZW).flatten)) rfl trivial ?_
          by_cases hc12 : 4 < ((Int32.toUInt32 ((Int32.toUInt32 ((i1 ^^^ (-1)) &&& (i1 - 1)) >>> (Int32.toUInt32 8 &&& Int32.toUInt32 31)).toInt32) >>> (Int32.toUInt32 4 &&& Int32.toUInt32 31)).toInt32)
          · rw [if_pos hc12] at h
            refine Go.br zk_J6_numberOfTrailingZeros_0f7a4 rfl rfl (fun _ => ?_) (fun q => absurd hc12 q)
            refine Go.blk zk_J6_numberOfTrailingZeros_0f7a4 [0, 0, 0, 0, 0, 0, 0, 0, 0, 0] (z' := (79, [some (.int ((Int32.toUInt32 ((Int32.toUInt32 ((Int32.toUInt32 ((i1 ^^^ (-1)) &&& (i1 - 1)) >>> (Int32.toUInt32 8 &&& Int32.toUInt32 31)).toInt32) >>> (Int32.toUInt32 4 &&& Int32.toUInt32 31)).toInt32) >>> (Int32.toUInt32 2 &&& Int32.toUInt32 31)).toInt32)), some (.int (((1 + 8) + 4) + 2))], [.int ((((1 + 8) + 4) + 2) + ((Int32.toUInt32 ((Int32.toUInt32 ((Int32.toUInt32 ((Int32.toUInt32 ((i1 ^^^ (-1)) &&& (i1 - 1)) >>> (Int32.toUInt32 8 &&& Int32.toUInt32 31)).toInt32) >>> (Int32.toUInt32 4 &&& Int32.toUInt32 31)).toInt32) >>> (Int32.toUInt32 2 &&& Int32.toUInt32 31)).toInt32) >>> (Int32.toUInt32 1 &&& Int32.toUInt32 31)).toInt32))], ([] : List ZW).flatten)) rfl trivial ?_
            obtain rfl := Option.some.inj h
            exact Go.iret zk_J6_numberOfTrailingZeros_0f7a4 rfl rfl rfl ⟨rfl, rfl⟩
          · rw [if_neg hc12] at h
            refine Go.br zk_J6_numberOfTrailingZeros_0f7a4 rfl rfl (fun q => absurd q hc12) (fun _ => ?_)
            refine Go.blk zk_J6_numberOfTrailingZeros_0f7a4 [0, 0, 0, 0, 0] (z' := (79, [some (.int ((Int32.toUInt32 ((Int32.toUInt32 ((i1 ^^^ (-1)) &&& (i1 - 1)) >>> (Int32.toUInt32 8 &&& Int32.toUInt32 31)).toInt32) >>> (Int32.toUInt32 4 &&& Int32.toUInt32 31)).toInt32)), some (.int ((1 + 8) + 4))], [.int (((1 + 8) + 4) + ((Int32.toUInt32 ((Int32.toUInt32 ((Int32.toUInt32 ((i1 ^^^ (-1)) &&& (i1 - 1)) >>> (Int32.toUInt32 8 &&& Int32.toUInt32 31)).toInt32) >>> (Int32.toUInt32 4 &&& Int32.toUInt32 31)).toInt32) >>> (Int32.toUInt32 1 &&& Int32.toUInt32 31)).toInt32))], ([] : List ZW).flatten)) rfl trivial ?_
            obtain rfl := Option.some.inj h
            exact Go.iret zk_J6_numberOfTrailingZeros_0f7a4 rfl rfl rfl ⟨rfl, rfl⟩
        · rw [if_neg hc11] at h
          refine Go.br zk_J6_numberOfTrailingZeros_0f7a4 rfl rfl (fun q => absurd q hc11) (fun _ => ?_)
          refine Go.blk zk_J6_numberOfTrailingZeros_0f7a4 [0, 0] (z' := (64, [some (.int ((Int32.toUInt32 ((i1 ^^^ (-1)) &&& (i1 - 1)) >>> (Int32.toUInt32 8 &&& Int32.toUInt32 31)).toInt32)), some (.int (1 + 8))], [.int 4, .int ((Int32.toUInt32 ((i1 ^^^ (-1)) &&& (i1 - 1)) >>> (Int32.toUInt32 8 &&& Int32.toUInt32 31)).toInt32)], ([] : List ZW).flatten)) rfl trivial ?_
          by_cases hc13 : 4 < ((Int32.toUInt32 ((i1 ^^^ (-1)) &&& (i1 - 1)) >>> (Int32.toUInt32 8 &&& Int32.toUInt32 31)).toInt32)
          · rw [if_pos hc13] at h
            refine Go.br zk_J6_numberOfTrailingZeros_0f7a4 rfl rfl (fun _ => ?_) (fun q => absurd hc13 q)
            refine Go.blk zk_J6_numberOfTrailingZeros_0f7a4 [0, 0, 0, 0, 0, 0, 0, 0, 0, 0] (z' := (79, [some (.int ((Int32.toUInt32 ((Int32.toUInt32 ((i1 ^^^ (-1)) &&& (i1 - 1)) >>> (Int32.toUInt32 8 &&& Int32.toUInt32 31)).toInt32) >>> (Int32.toUInt32 2 &&& Int32.toUInt32 31)).toInt32)), some (.int ((1 + 8) + 2))], [.int (((1 + 8) + 2) + ((Int32.toUInt32 ((Int32.toUInt32 ((Int32.toUInt32 ((i1 ^^^ (-1)) &&& (i1 - 1)) >>> (Int32.toUInt32 8 &&& Int32.toUInt32 31)).toInt32) >>> (Int32.toUInt32 2 &&& Int32.toUInt32 31)).toInt32) >>> (Int32.toUInt32 1 &&& Int32.toUInt32 31)).toInt32))], ([] : List ZW).flatten)) rfl trivial ?_
            obtain rfl := Option.some.inj h
            exact Go.iret zk_J6_numberOfTrailingZeros_0f7a4 rfl rfl rfl ⟨rfl, rfl⟩
          · rw [if_neg hc13] at h
            refine Go.br zk_J6_numberOfTrailingZeros_0f7a4 rfl rfl (fun q => absurd q hc13) (fun _ => ?_)
            refine Go.blk zk_J6_numberOfTrailingZeros_0f7a4 [0, 0, 0, 0, 0] (z' := (79, [some (.int ((Int32.toUInt32 ((i1 ^^^ (-1)) &&& (i1 - 1)) >>> (Int32.toUInt32 8 &&& Int32.toUInt32 31)).toInt32)), some (.int (1 + 8))], [.int ((1 + 8) + ((Int32.toUInt32 ((Int32.toUInt32 ((i1 ^^^ (-1)) &&& (i1 - 1)) >>> (Int32.toUInt32 8 &&& Int32.toUInt32 31)).toInt32) >>> (Int32.toUInt32 1 &&& Int32.toUInt32 31)).toInt32))], ([] : List ZW).flatten)) rfl trivial ?_
            obtain rfl := Option.some.inj h
            exact Go.iret zk_J6_numberOfTrailingZeros_0f7a4 rfl rfl rfl ⟨rfl, rfl⟩
      · rw [if_neg hc10] at h
        refine Go.br zk_J6_numberOfTrailingZeros_0f7a4 rfl rfl (fun q => absurd q hc10) (fun _ => ?_)
        refine Go.blk zk_J6_numberOfTrailingZeros_0f7a4 [0, 0] (z' := (52, [some (.int ((i1 ^^^ (-1)) &&& (i1 - 1))), some (.int 1)], [.int 16, .int ((i1 ^^^ (-1)) &&& (i1 - 1))], ([] : List ZW).flatten)) rfl trivial ?_
        by_cases hc14 : 16 < ((i1 ^^^ (-1)) &&& (i1 - 1))
        · rw [if_pos hc14] at h
          refine Go.br zk_J6_numberOfTrailingZeros_0f7a4 rfl rfl (fun _ => ?_) (fun q => absurd hc14 q)
          refine Go.blk zk_J6_numberOfTrailingZeros_0f7a4 [0, 0, 0, 0, 0, 0, 0] (z' := (64, [some (.int ((Int32.toUInt32 ((i1 ^^^ (-1)) &&& (i1 - 1)) >>> (Int32.toUInt32 4 &&& Int32.toUInt32 31)).toInt32)), some (.int (1 + 4))], [.int 4, .int ((Int32.toUInt32 ((i1 ^^^ (-1)) &&& (i1 - 1)) >>> (Int32.toUInt32 4 &&& Int32.toUInt32 31)).toInt32)], ([] : List ZW).flatten)) rfl trivial ?_
          by_cases hc15 : 4 < ((Int32.toUInt32 ((i1 ^^^ (-1)) &&& (i1 - 1)) >>> (Int32.toUInt32 4 &&& Int32.toUInt32 31)).toInt32)
          · rw [if_pos hc15] at h
            refine Go.br zk_J6_numberOfTrailingZeros_0f7a4 rfl rfl (fun _ => ?_) (fun q => absurd hc15 q)
            refine Go.blk zk_J6_numberOfTrailingZeros_0f7a4 [0, 0, 0, 0, 0, 0, 0, 0, 0, 0] (z' := (79, [some (.int ((Int32.toUInt32 ((Int32.toUInt32 ((i1 ^^^ (-1)) &&& (i1 - 1)) >>> (Int32.toUInt32 4 &&& Int32.toUInt32 31)).toInt32) >>> (Int32.toUInt32 2 &&& Int32.toUInt32 31)).toInt32)), some (.int ((1 + 4) + 2))], [.int (((1 + 4) + 2) + ((Int32.toUInt32 ((Int32.toUInt32 ((Int32.toUInt32 ((i1 ^^^ (-1)) &&& (i1 - 1)) >>> (Int32.toUInt32 4 &&& Int32.toUInt32 31)).toInt32) >>> (Int32.toUInt32 2 &&& Int32.toUInt32 31)).toInt32) >>> (Int32.toUInt32 1 &&& Int32.toUInt32 31)).toInt32))], ([] : List ZW).flatten)) rfl trivial ?_
            obtain rfl := Option.some.inj h
            exact Go.iret zk_J6_numberOfTrailingZeros_0f7a4 rfl rfl rfl ⟨rfl, rfl⟩
          · rw [if_neg hc15] at h
            refine Go.br zk_J6_numberOfTrailingZeros_0f7a4 rfl rfl (fun q => absurd q hc15) (fun _ => ?_)
            refine Go.blk zk_J6_numberOfTrailingZeros_0f7a4 [0, 0, 0, 0, 0] (z' := (79, [some (.int ((Int32.toUInt32 ((i1 ^^^ (-1)) &&& (i1 - 1)) >>> (Int32.toUInt32 4 &&& Int32.toUInt32 31)).toInt32)), some (.int (1 + 4))], [.int ((1 + 4) + ((Int32.toUInt32 ((Int32.toUInt32 ((i1 ^^^ (-1)) &&& (i1 - 1)) >>> (Int32.toUInt32 4 &&& Int32.toUInt32 31)).toInt32) >>> (Int32.toUInt32 1 &&& Int32.toUInt32 31)).toInt32))], ([] : List ZW).flatten)) rfl trivial ?_
            obtain rfl := Option.some.inj h
            exact Go.iret zk_J6_numberOfTrailingZeros_0f7a4 rfl rfl rfl ⟨rfl, rfl⟩
        · rw [if_neg hc14] at h
          refine Go.br zk_J6_numberOfTrailingZeros_0f7a4 rfl rfl (fun q => absurd q hc14) (fun _ => ?_)
          refine Go.blk zk_J6_numberOfTrailingZeros_0f7a4 [0, 0] (z' := (64, [some (.int ((i1 ^^^ (-1)) &&& (i1 - 1))), some (.int 1)], [.int 4, .int ((i1 ^^^ (-1)) &&& (i1 - 1))], ([] : List ZW).flatten)) rfl trivial ?_
          by_cases hc16 : 4 < ((i1 ^^^ (-1)) &&& (i1 - 1))
          · rw [if_pos hc16] at h
            refine Go.br zk_J6_numberOfTrailingZeros_0f7a4 rfl rfl (fun _ => ?_) (fun q => absurd hc16 q)
            refine Go.blk zk_J6_numberOfTrailingZeros_0f7a4 [0, 0, 0, 0, 0, 0, 0, 0, 0, 0] (z' := (79, [some (.int ((Int32.toUInt32 ((i1 ^^^ (-1)) &&& (i1 - 1)) >>> (Int32.toUInt32 2 &&& Int32.toUInt32 31)).toInt32)), some (.int (1 + 2))], [.int ((1 + 2) + ((Int32.toUInt32 ((Int32.toUInt32 ((i1 ^^^ (-1)) &&& (i1 - 1)) >>> (Int32.toUInt32 2 &&& Int32.toUInt32 31)).toInt32) >>> (Int32.toUInt32 1 &&& Int32.toUInt32 31)).toInt32))], ([] : List ZW).flatten)) rfl trivial ?_
            obtain rfl := Option.some.inj h
            exact Go.iret zk_J6_numberOfTrailingZeros_0f7a4 rfl rfl rfl ⟨rfl, rfl⟩
          · rw [if_neg hc16] at h
            refine Go.br zk_J6_numberOfTrailingZeros_0f7a4 rfl rfl (fun q => absurd q hc16) (fun _ => ?_)
            refine Go.blk zk_J6_numberOfTrailingZeros_0f7a4 [0, 0, 0, 0, 0] (z' := (79, [some (.int ((i1 ^^^ (-1)) &&& (i1 - 1))), some (.int 1)], [.int (1 + ((Int32.toUInt32 ((i1 ^^^ (-1)) &&& (i1 - 1)) >>> (Int32.toUInt32 1 &&& Int32.toUInt32 31)).toInt32))], ([] : List ZW).flatten)) rfl trivial ?_
            obtain rfl := Option.some.inj h
            exact Go.iret zk_J6_numberOfTrailingZeros_0f7a4 rfl rfl rfl ⟨rfl, rfl⟩
  · rw [if_neg hc1] at h
    refine Go.br zk_J6_numberOfTrailingZeros_0f7a4 rfl rfl (fun q => absurd q hc1) (fun _ => ?_)
    refine Go.blk zk_J6_numberOfTrailingZeros_0f7a4 [0, 0, 0] (z' := (16, [some (.int ((i1 ^^^ (-1)) &&& (i1 - 1))), none], [.int (((i1 ^^^ (-1)) &&& (i1 - 1)) &&& 32)], ([] : List ZW).flatten)) rfl trivial ?_
    obtain rfl := Option.some.inj h
    exact Go.iret zk_J6_numberOfTrailingZeros_0f7a4 rfl rfl rfl ⟨rfl, rfl⟩
set_option maxHeartbeats 4000000 in
set_option maxRecDepth 100000 in
theorem t_J6_bitCount_0f7a4 {N : Nat} {i1 : Int32} {u : Int32}  (h : f_J6_bitCount_0f7a4 N i1 = some u) : Ct l D r (z_rl xs) zm_J6_bitCount_0f7a4 0 0 [.int i1] ([] : List ZW).flatten (fun v' w' => v' = some (.int u) ∧ w' = ([] : List ZW).flatten) := by
  refine Ct.of (by decide +kernel) rfl (fun q => absurd q (by decide)) (Nat.le_of_ble_eq_true rfl) ?_
  refine Go.eqz (z2 := (0, [some (.int i1)], [], ([] : List ZW).flatten)) rfl ?_
  unfold f_J6_bitCount_0f7a4 at h
  refine Go.blk zk_J6_bitCount_0f7a4 [0, 0, 0, 0, 0, 0, 0, 0, 0, 0, 0, 0, 0, 0, 0, 0, 0, 0, 0, 0, 0, 0, 0, 0, 0, 0, 0, 0, 0, 0, 0, 0, 0, 0, 0, 0, 0, 0, 0, 0, 0] (z' := (52, [some (.int (((((((i1 - (((Int32.toUInt32 i1 >>> (Int32.toUInt32 1 &&& Int32.toUInt32 31)).toInt32) &&& 1431655765)) &&& 858993459) + (((Int32.toUInt32 (i1 - (((Int32.toUInt32 i1 >>> (Int32.toUInt32 1 &&& Int32.toUInt32 31)).toInt32) &&& 1431655765)) >>> (Int32.toUInt32 2 &&& Int32.toUInt32 31)).toInt32) &&& 858993459)) + ((Int32.toUInt32 (((i1 - (((Int32.toUInt32 i1 >>> (Int32.toUInt32 1 &&& Int32.toUInt32 31)).toInt32) &&& 1431655765)) &&& 858993459) + (((Int32.toUInt32 (i1 - (((Int32.toUInt32 i1 >>> (Int32.toUInt32 1 &&& Int32.toUInt32 31)).toInt32) &&& 1431655765)) >>> (Int32.toUInt32 2 &&& Int32.toUInt32 31)).toInt32) &&& 858993459)) >>> (Int32.toUInt32 4 &&& Int32.toUInt32 31)).toInt32)) &&& 252645135) + ((Int32.toUInt32 (((((i1 - (((Int32.toUInt32 i1 >>> (Int32.toUInt32 1 &&& Int32.toUInt32 31)).toInt32) &&& 1431655765)) &&& 858993459) + (((Int32.toUInt32 (i1 - (((Int32.toUInt32 i1 >>> (Int32.toUInt32 1 &&& Int32.toUInt32 31)).toInt32) &&& 1431655765)) >>> (Int32.toUInt32 2 &&& Int32.toUInt32 31)).toInt32) &&& 858993459)) + ((Int32.toUInt32 (((i1 - (((Int32.toUInt32 i1 >>> (Int32.toUInt32 1 &&& Int32.toUInt32 31)).toInt32) &&& 1431655765)) &&& 858993459) + (((Int32.toUInt32 (i1 - (((Int32.toUInt32 i1 >>> (Int32.toUInt32 1 &&& Int32.toUInt32 31)).toInt32) &&& 1431655765)) >>> (Int32.toUInt32 2 &&& Int32.toUInt32 31)).toInt32) &&& 858993459)) >>> (Int32.toUInt32 4 &&& Int32.toUInt32 31)).toInt32)) &&& 252645135) >>> (Int32.toUInt32 8 &&& Int32.toUInt32 31)).toInt32)) + ((Int32.toUInt32 ((((((i1 - (((Int32.toUInt32 i1 >>> (Int32.toUInt32 1 &&& Int32.toUInt32 31)).toInt32) &&& 1431655765)) &&& 858993459) + (((Int32.toUInt32 (i1 - (((Int32.toUInt32 i1 >>> (Int32.toUInt32 1 &&& Int32.toUInt32 31)).toInt32) &&& 1431655765)) >>> (Int32.toUInt32 2 &&& Int32.toUInt32 31)).toInt32) &&& 858993459)) + ((Int32.toUInt32 (((i1 - (((Int32.toUInt32 i1 >>> (Int32.toUInt32 1 &&& Int32.toUInt32 31)).toInt32) &&& 1431655765)) &&& 858993459) + (((Int32.toUInt32 (i1 - (((Int32.toUInt32 i1 >>> (Int32.toUInt32 1 &&& Int32.toUInt32 31)).toInt32) &&& 1431655765)) >>> (Int32.toUInt32 2 &&& Int32.toUInt32 31)).toInt32) &&& 858993459)) >>> (Int32.toUInt32 4 &&& Int32.toUInt32 31)).toInt32)) &&& 252645135) + ((Int32.toUInt32 (((((i1 - (((Int32.toUInt32 i1 >>> (Int32.toUInt32 1 &&& Int32.toUInt32 31)).toInt32) &&& 1431655765)) &&& 858993459) + (((Int32.toUInt32 (i1 - (((Int32.toUInt32 i1 >>> (Int32.toUInt32 1 &&& Int32.toUInt32 31)).toInt32) &&& 1431655765)) >>> (Int32.toUInt32 2 &&& Int32.toUInt32 31)).toInt32) &&& 858993459)) + ((Int32.toUInt32 (((i1 - (((Int32.toUInt32 i1 >>> (Int32.toUInt32 1 &&& Int32.toUInt32 31)).toInt32) &&& 1431655765)) &&& 858993459) + (((Int32.toUInt32 (i1 - (((Int32.toUInt32 i1 >>> (Int32.toUInt32 1 &&& Int32.toUInt32 31)).toInt32) &&& 1431655765)) >>> (Int32.toUInt32 2 &&& Int32.toUInt32 31)).toInt32) &&& 858993459)) >>> (Int32.toUInt32 4 &&& Int32.toUInt32 31)).toInt32)) &&& 252645135) >>> (Int32.toUInt32 8 &&& Int32.toUInt32 31)).toInt32)) >>> (Int32.toUInt32 16 &&& Int32.toUInt32 31)).toInt32)))], [.int ((((((((i1 - (((Int32.toUInt32 i1 >>> (Int32.toUInt32 1 &&& Int32.toUInt32 31)).toInt32) &&& 1431655765)) &&& 858993459) + (((Int32.toUInt32 (i1 - (((Int32.toUInt32 i1 >>> (Int32.toUInt32 1 &&& Int32.toUInt32 31)).toInt32) &&& 1431655765)) >>> (Int32.toUInt32 2 &&& Int32.toUInt32 31)).toInt32) &&& 858993459)) + ((Int32.toUInt32 (((i1 - (((Int32.toUInt32 i1 >>> (Int32.toUInt32 1 &&& Int32.toUInt32 31)).toInt32) &&& 1431655765)) &&& 858993459) + (((Int32.toUInt32 (i1 - (((Int32.toUInt32 i1 >>> (Int32.toUInt32 1 &&& Int32.toUInt32 31)).toInt32) &&& 1431655765)) >>> (Int32.toUInt32 2 &&& Int32.toUInt32 31)).toInt32) &&& 858993459)) >>> (Int32.toUInt32 4 &&& Int32.toUInt32 31)).toInt32)) &&& 252645135) + ((Int32.toUInt32 (((((i1 - (((Int32.toUInt32 i1 >>> (Int32.toUInt32 1 &&& Int32.toUInt32 31)).toInt32) &&& 1431655765)) &&& 858993459) + (((Int32.toUInt32 (i1 - (((Int32.toUInt32 i1 >>> (Int32.toUInt32 1 &&& Int32.toUInt32 31)).toInt32) &&& 1431655765)) >>> (Int32.toUInt32 2 &&& Int32.toUInt32 31)).toInt32) &&& 858993459)) + ((Int32.toUInt32 (((i1 - (((Int32.toUInt32 i1 >>> (Int32.toUInt32 1 &&& Int32.toUInt32 31)).toInt32) &&& 1431655765)) &&& 858993459) + (((Int32.toUInt32 (i1 - (((Int32.toUInt32 i1 >>> (Int32.toUInt32 1 &&& Int32.toUInt32 31)).toInt32) &&& 1431655765)) >>> (Int32.toUInt32 2 &&& Int32.toUInt32 31)).toInt32) &&& 858993459)) >>> (Int32.toUInt32 4 &&& Int32.toUInt32 31)).toInt32)) &&& 252645135) >>> (Int32.toUInt32 8 &&& Int32.toUInt32 31)).toInt32)) + ((Int32.toUInt32 ((((((i1 - (((Int32.toUInt32 i1 >>> (Int32.toUInt32 1 &&& Int32.toUInt32 31)).toInt32) &&& 1431655765)) &&& 858993459) + (((Int32.toUInt32 (i1 - (((Int32.toUInt32 i1 >>> (Int32.toUInt32 1 &&& Int32.toUInt32 31)).toInt32) &&& 1431655765)) >>> (Int32.toUInt32 2 &&& Int32.toUInt32 31)).toInt32) &&& 858993459)) + ((Int32.toUInt32 (((i1 - (((Int32.toUInt32 i1 >>> (Int32.toUInt32 1 &&& Int32.toUInt32 31)).toInt32) &&& 1431655765)) &&& 858993459) + (((Int32.toUInt32 (i1 - (((Int32.toUInt32 i1 >>> (Int32.toUInt32 1 &&& Int32.toUInt32 31)).toInt32) &&& 1431655765)) >>> (Int32.toUInt32 2 &&& Int32.toUInt32 31)).toInt32) &&& 858993459)) >>> (Int32.toUInt32 4 &&& Int32.toUInt32 31)).toInt32)) &&& 252645135) + ((Int32.toUInt32 (((((i1 - (((Int32.toUInt32 i1 >>> (Int32.toUInt32 1 &&& Int32.toUInt32 31)).toInt32) &&& 1431655765)) &&& 858993459) + (((Int32.toUInt32 (i1 - (((Int32.toUInt32 i1 >>> (Int32.toUInt32 1 &&& Int32.toUInt32 31)).toInt32) &&& 1431655765)) >>> (Int32.toUInt32 2 &&& Int32.toUInt32 31)).toInt32) &&& 858993459)) + ((Int32.toUInt32 (((i1 - (((Int32.toUInt32 i1 >>> (Int32.toUInt32 1 &&& Int32.toUInt32 31)).toInt32) &&& 1431655765)) &&& 858993459) + (((Int32.toUInt32 (i1 - (((Int32.toUInt32 i1 >>> (Int32.toUInt32 1 &&& Int32.toUInt32 31)).toInt32) &&& 1431655765)) >>> (Int32.toUInt32 2 &&& Int32.toUInt32 31)).toInt32) &&& 858993459)) >>> (Int32.toUInt32 4 &&& Int32.toUInt32 31)).toInt32)) &&& 252645135) >>> (Int32.toUInt32 8 &&& Int32.toUInt32 31)).toInt32)) >>> (Int32.toUInt32 16 &&& Int32.toUInt32 31)).toInt32)) &&& 63)], ([] : List ZW).flatten)) rfl trivial ?_
  obtain rfl := Option.some.inj h
  exact Go.iret zk_J6_bitCount_0f7a4 rfl rfl rfl ⟨rfl, rfl⟩
set_option maxHeartbeats 4000000 in
set_option maxRecDepth 100000 in
theorem t_X2_areConnected_L16 {N : Nat} {c_p : Nat} {c_a : Nat → Nat} {c_codes : List Int32} {c_size : Int32} {g_p : Nat} {g_k : Nat} (hk_g : g_k < 3) {Q : Option Value → ZW → Prop} : ∀ (fu : Nat) (v2 : Int32) (v3 : Int32) (v4 : Int32) (e : Int32), f_X2_areConnected_L16 N c_codes c_size g_k fu v2 v3 v4 = some e → (Go l D r (z_rl xs) zm_X2_areConnected 0 0 (68, [some (.ref c_p), none, some (.int e), none, none, none, none], [], ([sCe c_p c_a c_codes c_size, sLa r g_p g_k] : List ZW).flatten) Q) → Go l D r (z_rl xs) zm_X2_areConnected 0 0 (16, [some (.ref c_p), some (.ref g_p), some (.int v2), some (.int v3), some (.int v4), none, none], [], ([sCe c_p c_a c_codes c_size, sLa r g_p g_k] : List ZW).flatten) Q := by
  intro fu
  induction fu with
  | zero =>
    intro v2 v3 v4 e h
    simp only [f_X2_areConnected_L16, reduceCtorEq] at h
  | succ fu ih =>
    intro v2 v3 v4 e h kk
    rw [f_X2_areConnected_L16] at h
    refine Go.blk zk_X2_areConnected [0, 0, 0] (z' := (22, [some (.ref c_p), some (.ref g_p), some (.int v2), some (.int v3), some (.int v4), none, none], [.int c_size, .int v4], ([sCe c_p c_a c_codes c_size, sLa r g_p g_k] : List ZW).flatten)) rfl ⟨rfl, trivial⟩ ?_
    by_cases hc2 : v4 < c_size
    · rw [if_pos hc2] at h
      refine Go.br zk_X2_areConnected rfl rfl (fun _ => ?_) (fun q => absurd hc2 q)
      refine Go.blk zk_X2_areConnected [0] (z' := (26, [some (.ref c_p), some (.ref g_p), some (.int v2), some (.int v3), some (.int v4), none, none], [.int v3], ([sCe c_p c_a c_codes c_size, sLa r g_p g_k] : List ZW).flatten)) rfl trivial ?_
      by_cases hc3 : v3 = 0
      · rw [if_pos hc3] at h
        refine Go.br zk_X2_areConnected rfl rfl (fun _ => ?_) (fun q => absurd hc3 q)
        obtain rfl := Option.some.inj h
        refine Go.weak (L := [some (.ref c_p), some (.ref g_p), some (.int v2), some (.int v3), some (.int v4), none, none]) (L' := [some (.ref c_p), none, some (.int v2), none, none, none, none]) (And.intro rfl (And.intro rfl (trivial))) ?_
        exact kk
      · rw [if_neg hc3] at h
        refine Go.br zk_X2_areConnected rfl rfl (fun q => absurd q hc3) (fun _ => ?_)
        refine Go.blk zk_X2_areConnected [0] (z' := (30, [some (.ref c_p), some (.ref g_p), some (.int v2), some (.int v3), some (.int v4), none, none], [.int v3], ([sCe c_p c_a c_codes c_size, sLa r g_p g_k] : List ZW).flatten)) rfl trivial ?_
        obtain ⟨u4, hu4, h⟩ := z_bind h
        refine Go.ss zk_X2_areConnected zm_J6_numberOfTrailingZeros_0f7a4 [] [0, 1] 2 (S := [sCe c_p c_a c_codes c_size, sLa r g_p g_k]) (S2 := [sCe c_p c_a c_codes c_size, sLa r g_p g_k]) (As := [.int v3]) (rest := []) (st2 := [.int u4]) (v1 := some (.int u4)) rfl zl_X2_48 zs_J6_numberOfTrailingZeros_0f7a4 ⟨Nat.le_of_ble_eq_true rfl, Nat.le_of_ble_eq_true rfl⟩ rfl (by decide) rfl rfl (Nat.le_of_ble_eq_true rfl) (t_J6_numberOfTrailingZeros_0f7a4 hu4) rfl rfl rfl ?_
        refine Go.blk zk_X2_areConnected [0, 0, 0, 0] (z' := (39, [some (.ref c_p), some (.ref g_p), some (.int v2), some (.int v3), some (.int v4), some (.int u4), none], [.ref g_p, .int u4, .ref c_p], ([sCe c_p c_a c_codes c_size, sLa r g_p g_k] : List ZW).flatten)) rfl trivial ?_
        obtain ⟨u5, hu5, h⟩ := z_bind h
        refine Go.vs zk_X2_areConnected zm_X2_neighboursOf [0, 1] [] 0 2 2 (S := [sCe c_p c_a c_codes c_size, sLa r g_p g_k]) (S2 := [sCe c_p c_a c_codes c_size, sLa r g_p g_k]) (As := [.int u4, .ref g_p]) (rest := []) (st2 := [.int u5]) (v1 := some (.int u5)) rfl zl_X2_51 zv_X2_neighboursOf ⟨Nat.le_of_ble_eq_true rfl, Nat.le_of_ble_eq_true rfl⟩ rfl (by decide) rfl rfl rfl rfl rfl (Nat.le_of_ble_eq_true rfl) (t_X2_neighboursOf hk_g hu5) rfl rfl rfl ?_
        refine Go.blk zk_X2_areConnected [0, 0, 0, 0, 0, 0, 0, 0, 0, 0, 0, 0, 0, 0, 0, 0, 0, 0, 0] (z' := (16, [some (.ref c_p), some (.ref g_p), some (.int (v2 ||| (u5 &&& (v2 ^^^ (-1))))), some (.int ((v3 &&& (v3 - 1)) ||| (u5 &&& (v2 ^^^ (-1))))), some (.int (v4 + 1)), some (.int u4), some (.int (u5 &&& (v2 ^^^ (-1))))], [], ([sCe c_p c_a c_codes c_size, sLa r g_p g_k] : List ZW).flatten)) rfl trivial ?_
        refine Go.weak (L := [some (.ref c_p), some (.ref g_p), some (.int (v2 ||| (u5 &&& (v2 ^^^ (-1))))), some (.int ((v3 &&& (v3 - 1)) ||| (u5 &&& (v2 ^^^ (-1))))), some (.int (v4 + 1)), some (.int u4), some (.int (u5 &&& (v2 ^^^ (-1))))]) (L' := [some (.ref c_p), some (.ref g_p), some (.int (v2 ||| (u5 &&& (v2 ^^^ (-1))))), some (.int ((v3 &&& (v3 - 1)) ||| (u5 &&& (v2 ^^^ (-1))))), some (.int (v4 + 1)), none, none]) (And.intro rfl (And.intro rfl (And.intro rfl (And.intro rfl (And.intro rfl (trivial)))))) ?_
        exact ih _ _ _ _ h kk
    · rw [if_neg hc2] at h
      refine Go.br zk_X2_areConnected rfl rfl (fun q => absurd q hc2) (fun _ => ?_)
      obtain rfl := Option.some.inj h
      refine Go.weak (L := [some (.ref c_p), some (.ref g_p), some (.int v2), some (.int v3), some (.int v4), none, none]) (L' := [some (.ref c_p), none, some (.int v2), none, none, none, none]) (And.intro rfl (And.intro rfl (trivial))) ?_
      exact kk
set_option maxHeartbeats 4000000 in
set_option maxRecDepth 100000 in
theorem t_X2_areConnected {N : Nat} {c_p : Nat} {c_a : Nat → Nat} {c_codes : List Int32} {c_size : Int32} {g_p : Nat} {g_k : Nat} {u : Int32} (hk_g : g_k < 3) (h : f_X2_areConnected N c_codes c_size g_k = some u) : Ct l D r (z_rl xs) zm_X2_areConnected 0 0 [.ref c_p, .ref g_p] ([sCe c_p c_a c_codes c_size, sLa r g_p g_k] : List ZW).flatten (fun v' w' => v' = some (.int u) ∧ w' = ([sCe c_p c_a c_codes c_size, sLa r g_p g_k] : List ZW).flatten) := by
  refine Ct.of (by decide +kernel) rfl (fun q => absurd q (by decide)) (Nat.le_of_ble_eq_true rfl) ?_
  refine Go.eqz (z2 := (0, [some (.ref c_p), some (.ref g_p), none, none, none, none, none], [], ([sCe c_p c_a c_codes c_size, sLa r g_p g_k] : List ZW).flatten)) rfl ?_
  unfold f_X2_areConnected at h
  refine Go.blk zk_X2_areConnected [0, 0] (z' := (4, [some (.ref c_p), some (.ref g_p), none, none, none, none, none], [.int c_size], ([sCe c_p c_a c_codes c_size, sLa r g_p g_k] : List ZW).flatten)) rfl ⟨rfl, trivial⟩ ?_
  by_cases hc1 : c_size = 0
  · rw [if_pos hc1] at h
    refine Go.br zk_X2_areConnected rfl rfl (fun _ => ?_) (fun q => absurd hc1 q)
    refine Go.blk zk_X2_areConnected [0] (z' := (8, [some (.ref c_p), some (.ref g_p), none, none, none, none, none], [.int 0], ([sCe c_p c_a c_codes c_size, sLa r g_p g_k] : List ZW).flatten)) rfl trivial ?_
    obtain rfl := Option.some.inj h
    exact Go.iret zk_X2_areConnected rfl rfl rfl ⟨rfl, rfl⟩
  · rw [if_neg hc1] at h
    refine Go.br zk_X2_areConnected rfl rfl (fun q => absurd q hc1) (fun _ => ?_)
    refine Go.blk zk_X2_areConnected [0, 0, 0, 0, 0, 0] (z' := (16, [some (.ref c_p), some (.ref g_p), some (.int 1), some (.int 1), some (.int 0), none, none], [], ([sCe c_p c_a c_codes c_size, sLa r g_p g_k] : List ZW).flatten)) rfl trivial ?_
    obtain ⟨e6, he6, h⟩ := z_bind h
    refine t_X2_areConnected_L16 hk_g N _ _ _ _ he6 ?_
    refine Go.blk zk_X2_areConnected [0] (z' := (69, [some (.ref c_p), none, some (.int e6), none, none, none, none], [.int e6], ([sCe c_p c_a c_codes c_size, sLa r g_p g_k] : List ZW).flatten)) rfl trivial ?_
    obtain ⟨u7, hu7, h⟩ := z_bind h
    refine Go.ss zk_X2_areConnected zm_J6_bitCount_0f7a4 [] [0, 1] 2 (S := [sCe c_p c_a c_codes c_size, sLa r g_p g_k]) (S2 := [sCe c_p c_a c_codes c_size, sLa r g_p g_k]) (As := [.int e6]) (rest := []) (st2 := [.int u7]) (v1 := some (.int u7)) rfl zl_X2_55 zs_J6_bitCount_0f7a4 ⟨Nat.le_of_ble_eq_true rfl, Nat.le_of_ble_eq_true rfl⟩ rfl (by decide) rfl rfl (Nat.le_of_ble_eq_true rfl) (t_J6_bitCount_0f7a4 hu7) rfl rfl rfl ?_
    refine Go.blk zk_X2_areConnected [0, 0] (z' := (76, [some (.ref c_p), none, some (.int e6), none, none, none, none], [.int c_size, .int u7], ([sCe c_p c_a c_codes c_size, sLa r g_p g_k] : List ZW).flatten)) rfl ⟨rfl, trivial⟩ ?_
    by_cases hc8 : u7 = c_size
    · rw [if_pos hc8] at h
      refine Go.br zk_X2_areConnected rfl rfl (fun _ => ?_) (fun q => absurd hc8 q)
      refine Go.blk zk_X2_areConnected [0, 0] (z' := (84, [some (.ref c_p), none, some (.int e6), none, none, none, none], [.int 1], ([sCe c_p c_a c_codes c_size, sLa r g_p g_k] : List ZW).flatten)) rfl trivial ?_
      obtain rfl := Option.some.inj h
      exact Go.iret zk_X2_areConnected rfl rfl rfl ⟨rfl, rfl⟩
    · rw [if_neg hc8] at h
      refine Go.br zk_X2_areConnected rfl rfl (fun q => absurd q hc8) (fun _ => ?_)
      refine Go.blk zk_X2_areConnected [0] (z' := (84, [some (.ref c_p), none, some (.int e6), none, none, none, none], [.int 0], ([sCe c_p c_a c_codes c_size, sLa r g_p g_k] : List ZW).flatten)) rfl trivial ?_
      obtain rfl := Option.some.inj h
      exact Go.iret zk_X2_areConnected rfl rfl rfl ⟨rfl, rfl⟩
set_option maxHeartbeats 4000000 in
set_option maxRecDepth 100000 in
theorem t_X2_packed_L4 {N : Nat} {c_p : Nat} {c_a : Nat → Nat} {c_codes : List Int32} {c_size : Int32}  {Q : Option Value → ZW → Prop} : ∀ (fu : Nat) (v1 : Int64) (v3 : Int32) (e : Int64), f_X2_packed_L4 N c_codes c_size fu v1 v3 = some e → (Go l D r (z_rl xs) zm_X2_packed 0 0 (30, [none, some (.long e), none, none], [], ([sCe c_p c_a c_codes c_size] : List ZW).flatten) Q) → Go l D r (z_rl xs) zm_X2_packed 0 0 (4, [some (.ref c_p), some (.long v1), none, some (.int v3)], [], ([sCe c_p c_a c_codes c_size] : List ZW).flatten) Q := by
  intro fu
  induction fu with
  | zero =>
    intro v1 v3 e h
    simp only [f_X2_packed_L4, reduceCtorEq] at h
  | succ fu ih =>
    intro v1 v3 e h kk
    rw [f_X2_packed_L4] at h
    refine Go.blk zk_X2_packed [0, 0, 0] (z' := (9, [some (.ref c_p), some (.long v1), none, some (.int v3)], [.int c_size, .int v3], ([sCe c_p c_a c_codes c_size] : List ZW).flatten)) rfl ⟨rfl, trivial⟩ ?_
    by_cases hc1 : v3 < c_size
    · rw [if_pos hc1] at h
      refine Go.br zk_X2_packed rfl rfl (fun _ => ?_) (fun q => absurd hc1 q)
      refine Go.blk zk_X2_packed [0, 0, 0, 0, 0] (z' := (18, [some (.ref c_p), some (.long v1), none, some (.int v3)], [.int v3, .ref c_p, .long (v1 <<< (Int32.toInt64 8 &&& 63))], ([sCe c_p c_a c_codes c_size] : List ZW).flatten)) rfl trivial ?_
      obtain ⟨u2, hu2, h⟩ := z_bind h
      refine Go.vs zk_X2_packed zm_X2_keyAt [0] [] 0 2 1 (S := [sCe c_p c_a c_codes c_size]) (S2 := [sCe c_p c_a c_codes c_size]) (As := [.int v3]) (rest := [.long (v1 <<< (Int32.toInt64 8 &&& 63))]) (st2 := [.int u2, .long (v1 <<< (Int32.toInt64 8 &&& 63))]) (v1 := some (.int u2)) rfl zl_X2_75 zv_X2_keyAt ⟨Nat.le_of_ble_eq_true rfl, Nat.le_of_ble_eq_true rfl⟩ rfl (by decide) rfl rfl rfl rfl rfl (Nat.le_of_ble_eq_true rfl) (t_X2_keyAt hu2) rfl rfl rfl ?_
      refine Go.blk zk_X2_packed [0, 0, 0, 0, 0] (z' := (4, [some (.ref c_p), some (.long ((v1 <<< (Int32.toInt64 8 &&& 63)) ||| (Int32.toInt64 u2))), none, some (.int (v3 + 1))], [], ([sCe c_p c_a c_codes c_size] : List ZW).flatten)) rfl trivial ?_
      exact ih _ _ _ h kk
    · rw [if_neg hc1] at h
      refine Go.br zk_X2_packed rfl rfl (fun q => absurd q hc1) (fun _ => ?_)
      obtain rfl := Option.some.inj h
      refine Go.weak (L := [some (.ref c_p), some (.long v1), none, some (.int v3)]) (L' := [none, some (.long v1), none, none]) (And.intro rfl (trivial)) ?_
      exact kk
set_option maxHeartbeats 4000000 in
set_option maxRecDepth 100000 in
theorem t_X2_packed {N : Nat} {c_p : Nat} {c_a : Nat → Nat} {c_codes : List Int32} {c_size : Int32} {u : Int64}  (h : f_X2_packed N c_codes c_size = some u) : Ct l D r (z_rl xs) zm_X2_packed 0 0 [.ref c_p] ([sCe c_p c_a c_codes c_size] : List ZW).flatten (fun v' w' => v' = some (.long u) ∧ w' = ([sCe c_p c_a c_codes c_size] : List ZW).flatten) := by
  refine Ct.of (by decide +kernel) rfl (fun q => absurd q (by decide)) (Nat.le_of_ble_eq_true rfl) ?_
  refine Go.eqz (z2 := (0, [some (.ref c_p), none, none, none], [], ([sCe c_p c_a c_codes c_size] : List ZW).flatten)) rfl ?_
  unfold f_X2_packed at h
  refine Go.blk zk_X2_packed [0, 0, 0, 0] (z' := (4, [some (.ref c_p), some (.long 0), none, some (.int 0)], [], ([sCe c_p c_a c_codes c_size] : List ZW).flatten)) rfl trivial ?_
  obtain ⟨e3, he3, h⟩ := z_bind h
  refine t_X2_packed_L4 N _ _ _ he3 ?_
  refine Go.blk zk_X2_packed [0] (z' := (31, [none, some (.long e3), none, none], [.long e3], ([sCe c_p c_a c_codes c_size] : List ZW).flatten)) rfl trivial ?_
  obtain rfl := Option.some.inj h
  exact Go.lret zk_X2_packed rfl rfl ⟨rfl, rfl⟩
set_option maxHeartbeats 4000000 in
set_option maxRecDepth 100000 in
theorem t_X2_packedWith_L38 {N : Nat} {c_p : Nat} {c_a : Nat → Nat} {c_codes : List Int32} {c_size : Int32} {v4 : Int32} {v5 : Int32}  {Q : Option Value → ZW → Prop} : ∀ (fu : Nat) (v6 : Int32) (v7 : Int64) (v9 : Int32) (e : Int32 × Int64), f_X2_packedWith_L38 N v4 v5 c_codes c_size fu v6 v7 v9 = some e → (Go l D r (z_rl xs) zm_X2_packedWith 0 0 (101, [none, none, none, none, none, some (.int v5), some (.int e.1), some (.long e.2), none, none, none], [], ([sCe c_p c_a c_codes c_size] : List ZW).flatten) Q) → Go l D r (z_rl xs) zm_X2_packedWith 0 0 (38, [some (.ref c_p), none, none, none, some (.int v4), some (.int v5), some (.int v6), some (.long v7), none, some (.int v9), none], [], ([sCe c_p c_a c_codes c_size] : List ZW).flatten) Q := by
  intro fu
  induction fu with
  | zero =>
    intro v6 v7 v9 e h
    simp only [f_X2_packedWith_L38, reduceCtorEq] at h
  | succ fu ih =>
    intro v6 v7 v9 e h kk
    rw [f_X2_packedWith_L38] at h
    refine Go.blk zk_X2_packedWith [0, 0, 0] (z' := (44, [some (.ref c_p), none, none, none, some (.int v4), some (.int v5), some (.int v6), some (.long v7), none, some (.int v9), none], [.int c_size, .int v9], ([sCe c_p c_a c_codes c_size] : List ZW).flatten)) rfl ⟨rfl, trivial⟩ ?_
    by_cases hc3 : v9 < c_size
    · rw [if_pos hc3] at h
      refine Go.br zk_X2_packedWith rfl rfl (fun _ => ?_) (fun q => absurd hc3 q)
      refine Go.blk zk_X2_packedWith [0, 0] (z' := (50, [some (.ref c_p), none, none, none, some (.int v4), some (.int v5), some (.int v6), some (.long v7), none, some (.int v9), none], [.int v9, .ref c_p], ([sCe c_p c_a c_codes c_size] : List ZW).flatten)) rfl trivial ?_
      obtain ⟨u4, hu4, h⟩ := z_bind h
      refine Go.vs zk_X2_packedWith zm_X2_keyAt [0] [] 0 2 1 (S := [sCe c_p c_a c_codes c_size]) (S2 := [sCe c_p c_a c_codes c_size]) (As := [.int v9]) (rest := []) (st2 := [.int u4]) (v1 := some (.int u4)) rfl zl_X2_75 zv_X2_keyAt ⟨Nat.le_of_ble_eq_true rfl, Nat.le_of_ble_eq_true rfl⟩ rfl (by decide) rfl rfl rfl rfl rfl (Nat.le_of_ble_eq_true rfl) (t_X2_keyAt hu4) rfl rfl rfl ?_
      refine Go.blk zk_X2_packedWith [0, 0, 0, 0] (z' := (60, [some (.ref c_p), none, none, none, some (.int v4), some (.int v5), some (.int v6), some (.long v7), none, some (.int v9), some (.int (u4 + v4))], [.int v6], ([sCe c_p c_a c_codes c_size] : List ZW).flatten)) rfl trivial ?_
      by_cases hc5 : v6 = 0
      · rw [if_pos hc5] at h
        refine Go.br zk_X2_packedWith rfl rfl (fun _ => ?_) (fun q => absurd hc5 q)
        refine Go.blk zk_X2_packedWith [0, 0] (z' := (67, [some (.ref c_p), none, none, none, some (.int v4), some (.int v5), some (.int v6), some (.long v7), none, some (.int v9), some (.int (u4 + v4))], [.int (u4 + v4), .int v5], ([sCe c_p c_a c_codes c_size] : List ZW).flatten)) rfl trivial ?_
        by_cases hc6 : v5 < (u4 + v4)
        · rw [if_pos hc6] at h
          refine Go.br zk_X2_packedWith rfl rfl (fun _ => ?_) (fun q => absurd hc6 q)
          refine Go.blk zk_X2_packedWith [0, 0, 0, 0, 0, 0, 0, 0, 0, 0, 0, 0, 0, 0, 0, 0, 0, 0] (z' := (38, [some (.ref c_p), none, none, none, some (.int v4), some (.int v5), some (.int 1), some (.long ((((v7 <<< (Int32.toInt64 8 &&& 63)) ||| (Int32.toInt64 v5)) <<< (Int32.toInt64 8 &&& 63)) ||| (Int32.toInt64 (u4 + v4)))), none, some (.int (v9 + 1)), some (.int (u4 + v4))], [], ([sCe c_p c_a c_codes c_size] : List ZW).flatten)) rfl trivial ?_
          refine Go.weak (L := [some (.ref c_p), none, none, none, some (.int v4), some (.int v5), some (.int 1), some (.long ((((v7 <<< (Int32.toInt64 8 &&& 63)) ||| (Int32.toInt64 v5)) <<< (Int32.toInt64 8 &&& 63)) ||| (Int32.toInt64 (u4 + v4)))), none, some (.int (v9 + 1)), some (.int (u4 + v4))]) (L' := [some (.ref c_p), none, none, none, some (.int v4), some (.int v5), some (.int 1), some (.long ((((v7 <<< (Int32.toInt64 8 &&& 63)) ||| (Int32.toInt64 v5)) <<< (Int32.toInt64 8 &&& 63)) ||| (Int32.toInt64 (u4 + v4)))), none, some (.int (v9 + 1)), none]) (And.intro rfl (And.intro rfl (And.intro rfl (And.intro rfl (And.intro rfl (And.intro rfl (trivial))))))) ?_
          exact ih _ _ _ _ h kk
        · rw [if_neg hc6] at h
          refine Go.br zk_X2_packedWith rfl rfl (fun q => absurd q hc6) (fun _ => ?_)
          refine Go.blk zk_X2_packedWith [0, 0, 0, 0, 0, 0, 0, 0, 0] (z' := (38, [some (.ref c_p), none, none, none, some (.int v4), some (.int v5), some (.int v6), some (.long ((v7 <<< (Int32.toInt64 8 &&& 63)) ||| (Int32.toInt64 (u4 + v4)))), none, some (.int (v9 + 1)), some (.int (u4 + v4))], [], ([sCe c_p c_a c_codes c_size] : List ZW).flatten)) rfl trivial ?_
          refine Go.weak (L := [some (.ref c_p), none, none, none, some (.int v4), some (.int v5), some (.int v6), some (.long ((v7 <<< (Int32.toInt64 8 &&& 63)) ||| (Int32.toInt64 (u4 + v4)))), none, some (.int (v9 + 1)), some (.int (u4 + v4))]) (L' := [some (.ref c_p), none, none, none, some (.int v4), some (.int v5), some (.int v6), some (.long ((v7 <<< (Int32.toInt64 8 &&& 63)) ||| (Int32.toInt64 (u4 + v4)))), none, some (.int (v9 + 1)), none]) (And.intro rfl (And.intro rfl (And.intro rfl (And.intro rfl (And.intro rfl (And.intro rfl (trivial))))))) ?_
          exact ih _ _ _ _ h kk
      · rw [if_neg hc5] at h
        refine Go.br zk_X2_packedWith rfl rfl (fun q => absurd q hc5) (fun _ => ?_)
        refine Go.blk zk_X2_packedWith [0, 0, 0, 0, 0, 0, 0, 0, 0] (z' := (38, [some (.ref c_p), none, none, none, some (.int v4), some (.int v5), some (.int v6), some (.long ((v7 <<< (Int32.toInt64 8 &&& 63)) ||| (Int32.toInt64 (u4 + v4)))), none, some (.int (v9 + 1)), some (.int (u4 + v4))], [], ([sCe c_p c_a c_codes c_size] : List ZW).flatten)) rfl trivial ?_
        refine Go.weak (L := [some (.ref c_p), none, none, none, some (.int v4), some (.int v5), some (.int v6), some (.long ((v7 <<< (Int32.toInt64 8 &&& 63)) ||| (Int32.toInt64 (u4 + v4)))), none, some (.int (v9 + 1)), some (.int (u4 + v4))]) (L' := [some (.ref c_p), none, none, none, some (.int v4), some (.int v5), some (.int v6), some (.long ((v7 <<< (Int32.toInt64 8 &&& 63)) ||| (Int32.toInt64 (u4 + v4)))), none, some (.int (v9 + 1)), none]) (And.intro rfl (And.intro rfl (And.intro rfl (And.intro rfl (And.intro rfl (And.intro rfl (trivial))))))) ?_
        exact ih _ _ _ _ h kk
    · rw [if_neg hc3] at h
      refine Go.br zk_X2_packedWith rfl rfl (fun q => absurd q hc3) (fun _ => ?_)
      obtain rfl := Option.some.inj h
      refine Go.weak (L := [some (.ref c_p), none, none, none, some (.int v4), some (.int v5), some (.int v6), some (.long v7), none, some (.int v9), none]) (L' := [none, none, none, none, none, some (.int v5), some (.int v6), some (.long v7), none, none, none]) (And.intro rfl (And.intro rfl (And.intro rfl (trivial)))) ?_
      exact kk
set_option maxHeartbeats 4000000 in
set_option maxRecDepth 100000 in
theorem t_X2_packedWith {N : Nat} {c_p : Nat} {c_a : Nat → Nat} {c_codes : List Int32} {c_size : Int32} {i1 : Int32} {i2 : Int32} {i3 : Int32} {u : Int64}  (h : f_X2_packedWith N i1 i2 i3 c_codes c_size = some u) : Ct l D r (z_rl xs) zm_X2_packedWith 0 0 [.ref c_p, .int i1, .int i2, .int i3] ([sCe c_p c_a c_codes c_size] : List ZW).flatten (fun v' w' => v' = some (.long u) ∧ w' = ([sCe c_p c_a c_codes c_size] : List ZW).flatten) := by
  refine Ct.of (by decide +kernel) rfl (fun q => absurd q (by decide)) (Nat.le_of_ble_eq_true rfl) ?_
  refine Go.eqz (z2 := (0, [some (.ref c_p), some (.int i1), some (.int i2), some (.int i3), none, none, none, none, none, none, none], [], ([sCe c_p c_a c_codes c_size] : List ZW).flatten)) rfl ?_
  unfold f_X2_packedWith at h
  refine Go.blk zk_X2_packedWith [0, 0, 0] (z' := (3, [some (.ref c_p), some (.int i1), some (.int i2), some (.int i3), none, none, none, none, none, none, none], [.int 0, .int (-i1)], ([sCe c_p c_a c_codes c_size] : List ZW).flatten)) rfl trivial ?_
  refine Go.mmax zk_X2_packedWith rfl zl_X2_9 ⟨Nat.le_of_ble_eq_true rfl, Nat.le_of_ble_eq_true rfl⟩ zw_max ?_
  refine Go.blk zk_X2_packedWith [0, 0, 0] (z' := (9, [some (.ref c_p), some (.int i1), some (.int i2), some (.int i3), none, none, none, none, none, none, none], [.int 0, .int (-i2), .int (if (-i1) < 0 then 0 else -i1)], ([sCe c_p c_a c_codes c_size] : List ZW).flatten)) rfl trivial ?_
  refine Go.mmax zk_X2_packedWith rfl zl_X2_9 ⟨Nat.le_of_ble_eq_true rfl, Nat.le_of_ble_eq_true rfl⟩ zw_max ?_
  refine Go.blk zk_X2_packedWith [0] (z' := (13, [some (.ref c_p), some (.int i1), some (.int i2), some (.int i3), none, none, none, none, none, none, none], [.int 0, .int (if (-i2) < 0 then 0 else -i2), .int (if (-i1) < 0 then 0 else -i1)], ([sCe c_p c_a c_codes c_size] : List ZW).flatten)) rfl trivial ?_
  obtain ⟨u1, hu1, h⟩ := z_bind h
  refine Go.ss zk_X2_packedWith zm_X2_keyOf [] [0] 1 (S := [sCe c_p c_a c_codes c_size]) (S2 := [sCe c_p c_a c_codes c_size]) (As := [.int (if (-i1) < 0 then 0 else -i1), .int (if (-i2) < 0 then 0 else -i2), .int 0]) (rest := []) (st2 := [.int u1]) (v1 := some (.int u1)) rfl zl_X2_35 zs_X2_keyOf ⟨Nat.le_of_ble_eq_true rfl, Nat.le_of_ble_eq_true rfl⟩ rfl (by decide) rfl rfl (Nat.le_of_ble_eq_true rfl) (t_X2_keyOf hu1) rfl rfl rfl ?_
  refine Go.blk zk_X2_packedWith [0, 0, 0, 0] (z' := (21, [some (.ref c_p), some (.int i1), some (.int i2), some (.int i3), some (.int u1), none, none, none, none, none, none], [.int i3, .int i2, .int i1], ([sCe c_p c_a c_codes c_size] : List ZW).flatten)) rfl trivial ?_
  obtain ⟨u2, hu2, h⟩ := z_bind h
  refine Go.ss zk_X2_packedWith zm_X2_keyOf [] [0] 1 (S := [sCe c_p c_a c_codes c_size]) (S2 := [sCe c_p c_a c_codes c_size]) (As := [.int i1, .int i2, .int i3]) (rest := []) (st2 := [.int u2]) (v1 := some (.int u2)) rfl zl_X2_35 zs_X2_keyOf ⟨Nat.le_of_ble_eq_true rfl, Nat.le_of_ble_eq_true rfl⟩ rfl (by decide) rfl rfl (Nat.le_of_ble_eq_true rfl) (t_X2_keyOf hu2) rfl rfl rfl ?_
  refine Go.blk zk_X2_packedWith [0, 0, 0, 0, 0, 0, 0, 0, 0] (z' := (38, [some (.ref c_p), some (.int i1), some (.int i2), some (.int i3), some (.int u1), some (.int (u2 + u1)), some (.int 0), some (.long 0), none, some (.int 0), none], [], ([sCe c_p c_a c_codes c_size] : List ZW).flatten)) rfl trivial ?_
  refine Go.weak (L := [some (.ref c_p), some (.int i1), some (.int i2), some (.int i3), some (.int u1), some (.int (u2 + u1)), some (.int 0), some (.long 0), none, some (.int 0), none]) (L' := [some (.ref c_p), none, none, none, some (.int u1), some (.int (u2 + u1)), some (.int 0), some (.long 0), none, some (.int 0), none]) (And.intro rfl (And.intro rfl (And.intro rfl (And.intro rfl (And.intro rfl (And.intro rfl (trivial))))))) ?_
  obtain ⟨e7, he7, h⟩ := z_bind h
  refine t_X2_packedWith_L38 N _ _ _ _ he7 ?_
  refine Go.blk zk_X2_packedWith [0] (z' := (103, [none, none, none, none, none, some (.int (u2 + u1)), some (.int e7.1), some (.long e7.2), none, none, none], [.int e7.1], ([sCe c_p c_a c_codes c_size] : List ZW).flatten)) rfl trivial ?_
  by_cases hc8 : e7.1 = 0
  · rw [if_pos hc8] at h
    refine Go.br zk_X2_packedWith rfl rfl (fun _ => ?_) (fun q => absurd hc8 q)
    refine Go.blk zk_X2_packedWith [0, 0, 0, 0, 0, 0] (z' := (120, [none, none, none, none, none, some (.int (u2 + u1)), some (.int e7.1), some (.long e7.2), none, none, none], [.long ((e7.2 <<< (Int32.toInt64 8 &&& 63)) ||| (Int32.toInt64 (u2 + u1)))], ([sCe c_p c_a c_codes c_size] : List ZW).flatten)) rfl trivial ?_
    obtain rfl := Option.some.inj h
    exact Go.lret zk_X2_packedWith rfl rfl ⟨rfl, rfl⟩
  · rw [if_neg hc8] at h
    refine Go.br zk_X2_packedWith rfl rfl (fun q => absurd q hc8) (fun _ => ?_)
    refine Go.blk zk_X2_packedWith [0, 0] (z' := (120, [none, none, none, none, none, some (.int (u2 + u1)), some (.int e7.1), some (.long e7.2), none, none, none], [.long e7.2], ([sCe c_p c_a c_codes c_size] : List ZW).flatten)) rfl trivial ?_
    obtain rfl := Option.some.inj h
    exact Go.lret zk_X2_packedWith rfl rfl ⟨rfl, rfl⟩
set_option maxHeartbeats 4000000 in
set_option maxRecDepth 100000 in
theorem t_X2_unpack_L28 {N : Nat} {c_p : Nat} {c_a : Nat → Nat} {c_size : Int32}  {Q : Option Value → ZW → Prop} : ∀ (fu : Nat) (v4 : Int64) (v6 : Int32) (c_codes : List Int32) (e : (List Int32)), f_X2_unpack_L28 N  fu v4 v6 c_codes = some e → (Go l D r (z_rl xs) zm_X2_unpack 0 0 (81, [none, none, none, none, none, none, none, none], [], ([sCe c_p c_a e c_size] : List ZW).flatten) Q) → Go l D r (z_rl xs) zm_X2_unpack 0 0 (28, [some (.ref c_p), none, none, none, some (.long v4), none, some (.int v6), none], [], ([sCe c_p c_a c_codes c_size] : List ZW).flatten) Q := by
  intro fu
  induction fu with
  | zero =>
    intro v4 v6 c_codes e h
    simp only [f_X2_unpack_L28, reduceCtorEq] at h
  | succ fu ih =>
    intro v4 v6 c_codes e h kk
    rw [f_X2_unpack_L28] at h
    refine Go.blk zk_X2_unpack [0] (z' := (30, [some (.ref c_p), none, none, none, some (.long v4), none, some (.int v6), none], [.int v6], ([sCe c_p c_a c_codes c_size] : List ZW).flatten)) rfl trivial ?_
    by_cases hc1 : v6 < 0
    · rw [if_pos hc1] at h
      refine Go.br zk_X2_unpack rfl rfl (fun _ => ?_) (fun q => absurd hc1 q)
      obtain rfl := Option.some.inj h
      refine Go.weak (L := [some (.ref c_p), none, none, none, some (.long v4), none, some (.int v6), none]) (L' := [none, none, none, none, none, none, none, none]) (trivial) ?_
      exact kk
    · rw [if_neg hc1] at h
      refine Go.br zk_X2_unpack rfl rfl (fun q => absurd q hc1) (fun _ => ?_)
      refine Go.blk zk_X2_unpack [0, 0, 0, 0, 0, 0, 0, 0, 0, 0, 0, 0, 0, 0, 0, 0, 0, 0, 0] (z' := (64, [some (.ref c_p), none, none, none, some (.long v4), none, some (.int v6), some (.int (Int64.toInt32 (v4 &&& 255)))], [.int ((Int64.toInt32 (v4 &&& 255)) &&& 1), .int ((Int64.toInt32 (v4 &&& 255)) / 20), .int (((Int64.toInt32 (v4 &&& 255)) - (Int64.toInt32 (v4 &&& 255)) / 20 * 20) / 2), .int v6, .ref (c_a 0)], ([sCe c_p c_a c_codes c_size] : List ZW).flatten)) rfl ⟨rfl, by decide, by decide, by decide, trivial⟩ ?_
      obtain ⟨u2, hu2, h⟩ := z_bind h
      refine Go.ss zk_X2_unpack zm_X2_codeOf [] [0] 1 (S := [sCe c_p c_a c_codes c_size]) (S2 := [sCe c_p c_a c_codes c_size]) (As := [.int (((Int64.toInt32 (v4 &&& 255)) - (Int64.toInt32 (v4 &&& 255)) / 20 * 20) / 2), .int ((Int64.toInt32 (v4 &&& 255)) / 20), .int ((Int64.toInt32 (v4 &&& 255)) &&& 1)]) (rest := [.int v6, .ref (c_a 0)]) (st2 := [.int u2, .int v6, .ref (c_a 0)]) (v1 := some (.int u2)) rfl zl_X2_39 zs_X2_codeOf ⟨Nat.le_of_ble_eq_true rfl, Nat.le_of_ble_eq_true rfl⟩ rfl (by decide) rfl rfl (Nat.le_of_ble_eq_true rfl) (t_X2_codeOf hu2) rfl rfl rfl ?_
      obtain ⟨t3, ht3, h⟩ := z_bind h
      refine Go.iast zk_X2_unpack 1 rfl rfl rfl ht3 ?_
      refine Go.eqz (z2 := (68, [some (.ref c_p), none, none, none, some (.long v4), none, some (.int v6), some (.int (Int64.toInt32 (v4 &&& 255)))], [], ([sCe c_p c_a t3 c_size] : List ZW).flatten)) rfl ?_
      refine Go.blk zk_X2_unpack [0, 0, 0, 0, 0, 0] (z' := (28, [some (.ref c_p), none, none, none, some (.long (v4 >>> (Int32.toInt64 8 &&& 63))), none, some (.int (v6 + (-1))), some (.int (Int64.toInt32 (v4 &&& 255)))], [], ([sCe c_p c_a t3 c_size] : List ZW).flatten)) rfl trivial ?_
      refine Go.weak (L := [some (.ref c_p), none, none, none, some (.long (v4 >>> (Int32.toInt64 8 &&& 63))), none, some (.int (v6 + (-1))), some (.int (Int64.toInt32 (v4 &&& 255)))]) (L' := [some (.ref c_p), none, none, none, some (.long (v4 >>> (Int32.toInt64 8 &&& 63))), none, some (.int (v6 + (-1))), none]) (And.intro rfl (And.intro rfl (And.intro rfl (trivial)))) ?_
      exact ih _ _ _ _ h kk
set_option maxHeartbeats 4000000 in
set_option maxRecDepth 100000 in
theorem t_X2_unpack {N : Nat} {c_p : Nat} {c_a : Nat → Nat} {c_codes : List Int32} {c_size : Int32} {j1 : Int64} {i2 : Int32} {u : (List Int32) × Int32}  (h : f_X2_unpack N j1 i2 c_codes = some u) : Ct l D r (z_rl xs) zm_X2_unpack 0 0 [.ref c_p, .long j1, .int i2] ([sCe c_p c_a c_codes c_size] : List ZW).flatten (fun v' w' => v' = none ∧ w' = ([sCe c_p c_a u.1 u.2] : List ZW).flatten) := by
  refine Ct.of (by decide +kernel) rfl (fun q => absurd q (by decide)) (Nat.le_of_ble_eq_true rfl) ?_
  refine Go.eqz (z2 := (0, [some (.ref c_p), some (.long j1), none, some (.int i2), none, none, none, none], [], ([sCe c_p c_a c_codes c_size] : List ZW).flatten)) rfl ?_
  unfold f_X2_unpack at h
  refine Go.blk zk_X2_unpack [0, 0, 0, 0, 0, 1] (z' := (8, [some (.ref c_p), some (.long j1), none, some (.int i2), none, none, none, none], [.int (Int32.ofNat (List.length c_codes)), .int i2, .int 0, .ref c_p], ([sCe c_p c_a c_codes c_size] : List ZW).flatten)) rfl ⟨rfl, rfl, trivial⟩ ?_
  refine Go.mmin zk_X2_unpack rfl zl_X2_42 ⟨Nat.le_of_ble_eq_true rfl, Nat.le_of_ble_eq_true rfl⟩ zw_min ?_
  refine Go.mmax zk_X2_unpack rfl zl_X2_9 ⟨Nat.le_of_ble_eq_true rfl, Nat.le_of_ble_eq_true rfl⟩ zw_max ?_
  refine Go.put zk_X2_unpack 0 rfl rfl rfl rfl rfl (Nat.le_of_ble_eq_true rfl) ?_
  refine Go.eqz (z2 := (17, [some (.ref c_p), some (.long j1), none, some (.int i2), none, none, none, none], [], ([sCe c_p c_a c_codes (if 0 < (if (Int32.ofNat (List.length c_codes)) < i2 then Int32.ofNat (List.length c_codes) else i2) then if (Int32.ofNat (List.length c_codes)) < i2 then Int32.ofNat (List.length c_codes) else i2 else 0)] : List ZW).flatten)) rfl ?_
  refine Go.blk zk_X2_unpack [0, 0, 0, 0, 0, 0, 0] (z' := (28, [some (.ref c_p), some (.long j1), none, some (.int i2), some (.long j1), none, some (.int ((if 0 < (if (Int32.ofNat (List.length c_codes)) < i2 then Int32.ofNat (List.length c_codes) else i2) then if (Int32.ofNat (List.length c_codes)) < i2 then Int32.ofNat (List.length c_codes) else i2 else 0) - 1)), none], [], ([sCe c_p c_a c_codes (if 0 < (if (Int32.ofNat (List.length c_codes)) < i2 then Int32.ofNat (List.length c_codes) else i2) then if (Int32.ofNat (List.length c_codes)) < i2 then Int32.ofNat (List.length c_codes) else i2 else 0)] : List ZW).flatten)) rfl ⟨rfl, trivial⟩ ?_
  refine Go.weak (L := [some (.ref c_p), some (.long j1), none, some (.int i2), some (.long j1), none, some (.int ((if 0 < (if (Int32.ofNat (List.length c_codes)) < i2 then Int32.ofNat (List.length c_codes) else i2) then if (Int32.ofNat (List.length c_codes)) < i2 then Int32.ofNat (List.length c_codes) else i2 else 0) - 1)), none]) (L' := [some (.ref c_p), none, none, none, some (.long j1), none, some (.int ((if 0 < (if (Int32.ofNat (List.length c_codes)) < i2 then Int32.ofNat (List.length c_codes) else i2) then if (Int32.ofNat (List.length c_codes)) < i2 then Int32.ofNat (List.length c_codes) else i2 else 0) - 1)), none]) (And.intro rfl (And.intro rfl (And.intro rfl (trivial)))) ?_
  obtain ⟨e4, he4, h⟩ := z_bind h
  refine t_X2_unpack_L28 N _ _ _ _ he4 ?_
  obtain rfl := Option.some.inj h
  exact Go.vret zk_X2_unpack rfl rfl ⟨rfl, rfl⟩
end
