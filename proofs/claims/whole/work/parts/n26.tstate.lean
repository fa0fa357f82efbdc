section
variable {l : Launch} {D : va_G} {r : Nat → Nat} {xs : List Int32}
set_option maxHeartbeats 4000000 in
set_option maxRecDepth 100000 in
theorem t_X8_copy {N : Nat} {s_p : Nat} {s_k : Nat} {o_p : Nat} {o_k : Nat} {c_p : Nat} {c_a : Nat → Nat} {c_codes : List Int32} {c_size : Int32} {d_p : Nat} {d_a : Nat → Nat} {d_codes : List Int32} {d_size : Int32} {gl : Nat → Nat} {u : Nat × (List Int32) × Int32}  (h : f_X8_copy N o_k c_codes d_codes d_size = some u) : Ct l D r (z_rl xs) zm_X8_copy 0 0 [.ref s_p, .ref o_p] ([sSk gl s_p s_k c_p, sSk gl o_p o_k d_p, sCe c_p c_a c_codes c_size, sCe d_p d_a d_codes d_size] : List ZW).flatten (fun v' w' => v' = none ∧ w' = ([sSk gl s_p u.1 c_p, sSk gl o_p o_k d_p, sCe c_p c_a u.2.1 u.2.2, sCe d_p d_a d_codes d_size] : List ZW).flatten) := by
  refine Ct.of (by decide +kernel) rfl (fun q => absurd q (by decide)) (Nat.le_of_ble_eq_true rfl) ?_
  refine Go.eqz (z2 := (0, [some (.ref s_p), some (.ref o_p)], [], ([sSk gl s_p s_k c_p, sSk gl o_p o_k d_p, sCe c_p c_a c_codes c_size, sCe d_p d_a d_codes d_size] : List ZW).flatten)) rfl ?_
  unfold f_X8_copy at h
  refine Go.blk zk_X8_copy [0, 0, 1] (z' := (5, [some (.ref s_p), some (.ref o_p)], [.ref (gl o_k), .ref s_p], ([sSk gl s_p s_k c_p, sSk gl o_p o_k d_p, sCe c_p c_a c_codes c_size, sCe d_p d_a d_codes d_size] : List ZW).flatten)) rfl ⟨rfl, trivial⟩ ?_
  refine Go.put zk_X8_copy 0 rfl rfl rfl rfl rfl (Nat.le_of_ble_eq_true rfl) ?_
  refine Go.eqz (z2 := (8, [some (.ref s_p), some (.ref o_p)], [], ([sSk gl s_p o_k c_p, sSk gl o_p o_k d_p, sCe c_p c_a c_codes c_size, sCe d_p d_a d_codes d_size] : List ZW).flatten)) rfl ?_
  refine Go.blk zk_X8_copy [0, 0, 0, 1] (z' := (16, [some (.ref s_p), some (.ref o_p)], [.ref d_p, .ref c_p], ([sSk gl s_p o_k c_p, sSk gl o_p o_k d_p, sCe c_p c_a c_codes c_size, sCe d_p d_a d_codes d_size] : List ZW).flatten)) rfl ⟨rfl, rfl, trivial⟩ ?_
  obtain ⟨u1, hu1, h⟩ := z_bind h
  refine Go.vs zk_X8_copy zm_X2_copy [2, 3] [0, 1] 0 2 4 (S := [sSk gl s_p o_k c_p, sSk gl o_p o_k d_p, sCe c_p c_a c_codes c_size, sCe d_p d_a d_codes d_size]) (S2 := [sSk gl s_p o_k c_p, sSk gl o_p o_k d_p, sCe c_p c_a u1.1 u1.2, sCe d_p d_a d_codes d_size]) (As := [.ref d_p]) (rest := []) (st2 := []) (v1 := none) rfl zl_X8_24 zv_X2_copy ⟨Nat.le_of_ble_eq_true rfl, Nat.le_of_ble_eq_true rfl⟩ rfl (by decide) rfl rfl rfl rfl rfl (Nat.le_of_ble_eq_true rfl) (t_X2_copy hu1) rfl rfl rfl ?_
  obtain rfl := Option.some.inj h
  exact Go.vret zk_X8_copy rfl rfl ⟨rfl, rfl⟩
set_option maxHeartbeats 4000000 in
set_option maxRecDepth 100000 in
theorem t_X3_keep {N : Nat} {h_p : Nat} {h_a : Nat → Nat} {h_states : Nat → Nat} {h_end : Int32} {h_length : Int32} {s_p : Nat} {s_k : Nat} {c_p : Nat} {c_a : Nat → Nat} {c_codes : List Int32} {c_size : Int32} {hf_c : Nat → Nat} {hf_a : Nat → Nat → Nat} {hf_v : Nat → Nat × List Int32 × Int32} {gl : Nat → Nat} {u : Int32 × Int32 × (Nat → Nat × List Int32 × Int32)}  (h : f_X3_keep N h_end h_length s_k c_codes c_size hf_v = some u) : Ct l D r (z_rl xs) zm_X3_keep 0 0 [.ref h_p, .ref s_p] ([sHi h_p h_a h_states h_end h_length, sSk gl s_p s_k c_p, sCe c_p c_a c_codes c_size, sFh gl (List.range 6) h_states hf_c hf_a hf_v] : List ZW).flatten (fun v' w' => v' = none ∧ w' = ([sHi h_p h_a h_states u.1 u.2.1, sSk gl s_p s_k c_p, sCe c_p c_a c_codes c_size, sFh gl (List.range 6) h_states hf_c hf_a u.2.2] : List ZW).flatten) := by
  refine Ct.of (by decide +kernel) rfl (fun q => absurd q (by decide)) (Nat.le_of_ble_eq_true rfl) ?_
  refine Go.eqz (z2 := (0, [some (.ref h_p), some (.ref s_p)], [], ([sHi h_p h_a h_states h_end h_length, sSk gl s_p s_k c_p, sCe c_p c_a c_codes c_size, sFh gl (List.range 6) h_states hf_c hf_a hf_v] : List ZW).flatten)) rfl ?_
  unfold f_X3_keep at h
  refine Go.blk zk_X3_keep [0, 0] (z' := (4, [some (.ref h_p), some (.ref s_p)], [.int h_end], ([sHi h_p h_a h_states h_end h_length, sSk gl s_p s_k c_p, sCe c_p c_a c_codes c_size, sFh gl (List.range 6) h_states hf_c hf_a hf_v] : List ZW).flatten)) rfl ⟨rfl, trivial⟩ ?_
  by_cases hc2 : h_end < 0
  · rw [if_pos hc2] at h
    refine Go.br zk_X3_keep rfl rfl (fun _ => ?_) (fun q => absurd hc2 q)
    refine Go.blk zk_X3_keep [0, 0, 0, 0, 0, 0] (z' := (38, [some (.ref h_p), some (.ref s_p)], [.int 6, .int (h_end + 1), .ref h_p], ([sHi h_p h_a h_states h_end h_length, sSk gl s_p s_k c_p, sCe c_p c_a c_codes c_size, sFh gl (List.range 6) h_states hf_c hf_a hf_v] : List ZW).flatten)) rfl ⟨rfl, trivial⟩ ?_
    by_cases hc3 : (h_end + 1) < 6
    · rw [if_pos hc3] at h
      refine Go.br zk_X3_keep rfl rfl (fun _ => ?_) (fun q => absurd hc3 q)
      refine Go.blk zk_X3_keep [0, 0, 0, 0, 0] (z' := (51, [some (.ref h_p), some (.ref s_p)], [.int (h_end + 1), .ref h_p], ([sHi h_p h_a h_states h_end h_length, sSk gl s_p s_k c_p, sCe c_p c_a c_codes c_size, sFh gl (List.range 6) h_states hf_c hf_a hf_v] : List ZW).flatten)) rfl ⟨rfl, trivial⟩ ?_
      refine Go.put zk_X3_keep 0 rfl rfl rfl rfl rfl (Nat.le_of_ble_eq_true rfl) ?_
      refine Go.eqz (z2 := (54, [some (.ref h_p), some (.ref s_p)], [], ([sHi h_p h_a h_states (h_end + 1) h_length, sSk gl s_p s_k c_p, sCe c_p c_a c_codes c_size, sFh gl (List.range 6) h_states hf_c hf_a hf_v] : List ZW).flatten)) rfl ?_
      refine Go.blk zk_X3_keep [0, 0, 0, 0, 0, 0] (z' := (63, [some (.ref h_p), some (.ref s_p)], [.int 6, .int (h_length + 1), .ref h_p], ([sHi h_p h_a h_states (h_end + 1) h_length, sSk gl s_p s_k c_p, sCe c_p c_a c_codes c_size, sFh gl (List.range 6) h_states hf_c hf_a hf_v] : List ZW).flatten)) rfl ⟨rfl, trivial⟩ ?_
      refine Go.mmin zk_X3_keep rfl zl_X3_29 ⟨Nat.le_of_ble_eq_true rfl, Nat.le_of_ble_eq_true rfl⟩ zw_min ?_
      refine Go.put zk_X3_keep 0 rfl rfl rfl rfl rfl (Nat.le_of_ble_eq_true rfl) ?_
      refine Go.eqz (z2 := (69, [some (.ref h_p), some (.ref s_p)], [], ([sHi h_p h_a h_states (h_end + 1) (if 6 < (h_length + 1) then 6 else h_length + 1), sSk gl s_p s_k c_p, sCe c_p c_a c_codes c_size, sFh gl (List.range 6) h_states hf_c hf_a hf_v] : List ZW).flatten)) rfl ?_
      obtain rfl := Option.some.inj h
      exact Go.vret zk_X3_keep rfl rfl ⟨rfl, rfl⟩
    · rw [if_neg hc3] at h
      refine Go.br zk_X3_keep rfl rfl (fun q => absurd q hc3) (fun _ => ?_)
      refine Go.blk zk_X3_keep [0] (z' := (51, [some (.ref h_p), some (.ref s_p)], [.int 0, .ref h_p], ([sHi h_p h_a h_states h_end h_length, sSk gl s_p s_k c_p, sCe c_p c_a c_codes c_size, sFh gl (List.range 6) h_states hf_c hf_a hf_v] : List ZW).flatten)) rfl trivial ?_
      refine Go.put zk_X3_keep 0 rfl rfl rfl rfl rfl (Nat.le_of_ble_eq_true rfl) ?_
      refine Go.eqz (z2 := (54, [some (.ref h_p), some (.ref s_p)], [], ([sHi h_p h_a h_states 0 h_length, sSk gl s_p s_k c_p, sCe c_p c_a c_codes c_size, sFh gl (List.range 6) h_states hf_c hf_a hf_v] : List ZW).flatten)) rfl ?_
      refine Go.blk zk_X3_keep [0, 0, 0, 0, 0, 0] (z' := (63, [some (.ref h_p), some (.ref s_p)], [.int 6, .int (h_length + 1), .ref h_p], ([sHi h_p h_a h_states 0 h_length, sSk gl s_p s_k c_p, sCe c_p c_a c_codes c_size, sFh gl (List.range 6) h_states hf_c hf_a hf_v] : List ZW).flatten)) rfl ⟨rfl, trivial⟩ ?_
      refine Go.mmin zk_X3_keep rfl zl_X3_29 ⟨Nat.le_of_ble_eq_true rfl, Nat.le_of_ble_eq_true rfl⟩ zw_min ?_
      refine Go.put zk_X3_keep 0 rfl rfl rfl rfl rfl (Nat.le_of_ble_eq_true rfl) ?_
      refine Go.eqz (z2 := (69, [some (.ref h_p), some (.ref s_p)], [], ([sHi h_p h_a h_states 0 (if 6 < (h_length + 1) then 6 else h_length + 1), sSk gl s_p s_k c_p, sCe c_p c_a c_codes c_size, sFh gl (List.range 6) h_states hf_c hf_a hf_v] : List ZW).flatten)) rfl ?_
      obtain rfl := Option.some.inj h
      exact Go.vret zk_X3_keep rfl rfl ⟨rfl, rfl⟩
  · rw [if_neg hc2] at h
    refine Go.br zk_X3_keep rfl rfl (fun q => absurd q hc2) (fun _ => ?_)
    refine Go.blk zk_X3_keep [0, 0, 0] (z' := (13, [some (.ref h_p), some (.ref s_p)], [.int 6, .int h_end], ([sHi h_p h_a h_states h_end h_length, sSk gl s_p s_k c_p, sCe c_p c_a c_codes c_size, sFh gl (List.range 6) h_states hf_c hf_a hf_v] : List ZW).flatten)) rfl ⟨rfl, trivial⟩ ?_
    by_cases hc4 : h_end < 6
    · rw [if_pos hc4] at h
      refine Go.br zk_X3_keep rfl rfl (fun _ => ?_) (fun q => absurd hc4 q)
      refine Go.blk zk_X3_keep [0, 0, 0, 0] (z' := (24, [some (.ref h_p), some (.ref s_p)], [.int h_end, .ref (h_a 0)], ([sHi h_p h_a h_states h_end h_length, sSk gl s_p s_k c_p, sCe c_p c_a c_codes c_size, sFh gl (List.range 6) h_states hf_c hf_a hf_v] : List ZW).flatten)) rfl ⟨rfl, rfl, trivial⟩ ?_
      obtain ⟨j5, hj5, h⟩ := z_bind h
      refine Go.aald zk_X3_keep 1 rfl rfl rfl (z_fl_get hj5) ?_
      refine Go.blk zk_X3_keep [0] (z' := (26, [some (.ref h_p), some (.ref s_p)], [.ref s_p, .ref (h_states j5)], ([sHi h_p h_a h_states h_end h_length, sSk gl s_p s_k c_p, sCe c_p c_a c_codes c_size, sFh gl (List.range 6) h_states hf_c hf_a hf_v] : List ZW).flatten)) rfl trivial ?_
      by_cases hj7 : j5 < 6
      case neg => rw [if_neg hj7] at h; cases h
      rw [if_pos hj7] at h
      refine Go.perm (w2 := ([sHi h_p h_a h_states h_end h_length, sSk gl s_p s_k c_p, sCe c_p c_a c_codes c_size, sSk gl (h_states j5) ((hf_v j5).1) (hf_c j5), sCe (hf_c j5) (hf_a j5) ((hf_v j5).2.1) ((hf_v j5).2.2), sFh gl (List.erase (List.range 6) j5) h_states hf_c hf_a hf_v] : List ZW).flatten) (z_focP (n := 6) (A := [sHi h_p h_a h_states h_end h_length, sSk gl s_p s_k c_p, sCe c_p c_a c_codes c_size]) (B := []) (E := [sSk gl (h_states j5) ((hf_v j5).1) (hf_c j5), sCe (hf_c j5) (hf_a j5) ((hf_v j5).2.1) ((hf_v j5).2.2)]) (X2 := sFh gl (List.erase (List.range 6) j5) h_states hf_c hf_a hf_v) (z_foFh (List.mem_range.mpr hj7)) [0, 1, 2, 3, 4, 5] rfl rfl (by decide) rfl) ?_
      obtain ⟨u8, hu8, h⟩ := z_bind h
      refine Go.vs zk_X3_keep zm_X8_copy [3, 1, 4, 2] [0, 5] 0 8 6 (S := [sHi h_p h_a h_states h_end h_length, sSk gl s_p s_k c_p, sCe c_p c_a c_codes c_size, sSk gl (h_states j5) ((hf_v j5).1) (hf_c j5), sCe (hf_c j5) (hf_a j5) ((hf_v j5).2.1) ((hf_v j5).2.2), sFh gl (List.erase (List.range 6) j5) h_states hf_c hf_a hf_v]) (S2 := [sHi h_p h_a h_states h_end h_length, sSk gl s_p s_k c_p, sCe c_p c_a c_codes c_size, sSk gl (h_states j5) u8.1 (hf_c j5), sCe (hf_c j5) (hf_a j5) u8.2.1 u8.2.2, sFh gl (List.erase (List.range 6) j5) h_states hf_c hf_a hf_v]) (As := [.ref s_p]) (rest := []) (st2 := []) (v1 := none) rfl zl_X3_22 zv_X8_copy ⟨Nat.le_of_ble_eq_true rfl, Nat.le_of_ble_eq_true rfl⟩ rfl (by decide) rfl rfl rfl rfl rfl (Nat.le_of_ble_eq_true rfl) (t_X8_copy hu8) rfl rfl rfl ?_
      refine Go.perm (w2 := ([sHi h_p h_a h_states h_end h_length, sSk gl s_p s_k c_p, sCe c_p c_a c_codes c_size, sFh gl (List.range 6) h_states hf_c hf_a (va_up hf_v j5 (u8.1, u8.2.1, u8.2.2))] : List ZW).flatten) (z_focP (n := 6) (A := [sHi h_p h_a h_states h_end h_length, sSk gl s_p s_k c_p, sCe c_p c_a c_codes c_size]) (B := []) (E := [sSk gl (h_states j5) u8.1 (hf_c j5), sCe (hf_c j5) (hf_a j5) u8.2.1 u8.2.2]) (X2 := sFh gl (List.erase (List.range 6) j5) h_states hf_c hf_a hf_v) (z_unFh (List.mem_range.mpr hj7) List.nodup_range) [0, 1, 2, 3, 4, 5] rfl rfl (by decide) rfl).symm ?_
      refine Go.blk zk_X3_keep [0, 0, 0, 0, 0, 0] (z' := (38, [some (.ref h_p), some (.ref s_p)], [.int 6, .int (h_end + 1), .ref h_p], ([sHi h_p h_a h_states h_end h_length, sSk gl s_p s_k c_p, sCe c_p c_a c_codes c_size, sFh gl (List.range 6) h_states hf_c hf_a (va_up hf_v j5 (u8.1, u8.2.1, u8.2.2))] : List ZW).flatten)) rfl ⟨rfl, trivial⟩ ?_
      by_cases hc9 : (h_end + 1) < 6
      · rw [if_pos hc9] at h
        refine Go.br zk_X3_keep rfl rfl (fun _ => ?_) (fun q => absurd hc9 q)
        refine Go.blk zk_X3_keep [0, 0, 0, 0, 0] (z' := (51, [some (.ref h_p), some (.ref s_p)], [.int (h_end + 1), .ref h_p], ([sHi h_p h_a h_states h_end h_length, sSk gl s_p s_k c_p, sCe c_p c_a c_codes c_size, sFh gl (List.range 6) h_states hf_c hf_a (va_up hf_v j5 (u8.1, u8.2.1, u8.2.2))] : List ZW).flatten)) rfl ⟨rfl, trivial⟩ ?_
        refine Go.put zk_X3_keep 0 rfl rfl rfl rfl rfl (Nat.le_of_ble_eq_true rfl) ?_
        refine Go.eqz (z2 := (54, [some (.ref h_p), some (.ref s_p)], [], ([sHi h_p h_a h_states (h_end + 1) h_length, sSk gl s_p s_k c_p, sCe c_p c_a c_codes c_size, sFh gl (List.range 6) h_states hf_c hf_a (va_up hf_v j5 (u8.1, u8.2.1, u8.2.2))] : List ZW).flatten)) rfl ?_
        refine Go.blk zk_X3_keep [0, 0, 0, 0, 0, 0] (z' := (63, [some (.ref h_p), some (.ref s_p)], [.int 6, .int (h_length + 1), .ref h_p], ([sHi h_p h_a h_states (h_end + 1) h_length, sSk gl s_p s_k c_p, sCe c_p c_a c_codes c_size, sFh gl (List.range 6) h_states hf_c hf_a (va_up hf_v j5 (u8.1, u8.2.1, u8.2.2))] : List ZW).flatten)) rfl ⟨rfl, trivial⟩ ?_
        refine Go.mmin zk_X3_keep rfl zl_X3_29 ⟨Nat.le_of_ble_eq_true rfl, Nat.le_of_ble_eq_true rfl⟩ zw_min ?_
        refine Go.put zk_X3_keep 0 rfl rfl rfl rfl rfl (Nat.le_of_ble_eq_true rfl) ?_
        refine Go.eqz (z2 := (69, [some (.ref h_p), some (.ref s_p)], [], ([sHi h_p h_a h_states (h_end + 1) (if 6 < (h_length + 1) then 6 else h_length + 1), sSk gl s_p s_k c_p, sCe c_p c_a c_codes c_size, sFh gl (List.range 6) h_states hf_c hf_a (va_up hf_v j5 (u8.1, u8.2.1, u8.2.2))] : List ZW).flatten)) rfl ?_
        obtain rfl := Option.some.inj h
        exact Go.vret zk_X3_keep rfl rfl ⟨rfl, rfl⟩
      · rw [if_neg hc9] at h
        refine Go.br zk_X3_keep rfl rfl (fun q => absurd q hc9) (fun _ => ?_)
        refine Go.blk zk_X3_keep [0] (z' := (51, [some (.ref h_p), some (.ref s_p)], [.int 0, .ref h_p], ([sHi h_p h_a h_states h_end h_length, sSk gl s_p s_k c_p, sCe c_p c_a c_codes c_size, sFh gl (List.range 6) h_states hf_c hf_a (va_up hf_v j5 (u8.1, u8.2.1, u8.2.2))] : List ZW).flatten)) rfl trivial ?_
        refine Go.put zk_X3_keep 0 rfl rfl rfl rfl rfl (Nat.le_of_ble_eq_true rfl) ?_
        refine Go.eqz (z2 := (54, [some (.ref h_p), some (.ref s_p)], [], ([sHi h_p h_a h_states 0 h_length, sSk gl s_p s_k c_p, sCe c_p c_a c_codes c_size, sFh gl (List.range 6) h_states hf_c hf_a (va_up hf_v j5 (u8.1, u8.2.1, u8.2.2))] : List ZW).flatten)) rfl ?_
        refine Go.blk zk_X3_keep [0, 0, 0, 0, 0, 0] (z' := (63, [some (.ref h_p), some (.ref s_p)], [.int 6, .int (h_length + 1), .ref h_p], ([sHi h_p h_a h_states 0 h_length, sSk gl s_p s_k c_p, sCe c_p c_a c_codes c_size, sFh gl (List.range 6) h_states hf_c hf_a (va_up hf_v j5 (u8.1, u8.2.1, u8.2.2))] : List ZW).flatten)) rfl ⟨rfl, trivial⟩ ?_
        refine Go.mmin zk_X3_keep rfl zl_X3_29 ⟨Nat.le_of_ble_eq_true rfl, Nat.le_of_ble_eq_true rfl⟩ zw_min ?_
        refine Go.put zk_X3_keep 0 rfl rfl rfl rfl rfl (Nat.le_of_ble_eq_true rfl) ?_
        refine Go.eqz (z2 := (69, [some (.ref h_p), some (.ref s_p)], [], ([sHi h_p h_a h_states 0 (if 6 < (h_length + 1) then 6 else h_length + 1), sSk gl s_p s_k c_p, sCe c_p c_a c_codes c_size, sFh gl (List.range 6) h_states hf_c hf_a (va_up hf_v j5 (u8.1, u8.2.1, u8.2.2))] : List ZW).flatten)) rfl ?_
        obtain rfl := Option.some.inj h
        exact Go.vret zk_X3_keep rfl rfl ⟨rfl, rfl⟩
    · rw [if_neg hc4] at h
      refine Go.br zk_X3_keep rfl rfl (fun q => absurd q hc4) (fun _ => ?_)
      refine Go.blk zk_X3_keep [0, 0, 0, 0, 0, 0] (z' := (38, [some (.ref h_p), some (.ref s_p)], [.int 6, .int (h_end + 1), .ref h_p], ([sHi h_p h_a h_states h_end h_length, sSk gl s_p s_k c_p, sCe c_p c_a c_codes c_size, sFh gl (List.range 6) h_states hf_c hf_a hf_v] : List ZW).flatten)) rfl ⟨rfl, trivial⟩ ?_
      by_cases hc10 : (h_end + 1) < 6
      · rw [if_pos hc10] at h
        refine Go.br zk_X3_keep rfl rfl (fun _ => ?_) (fun q => absurd hc10 q)
        refine Go.blk zk_X3_keep [0, 0, 0, 0, 0] (z' := (51, [some (.ref h_p), some (.ref s_p)], [.int (h_end + 1), .ref h_p], ([sHi h_p h_a h_states h_end h_length, sSk gl s_p s_k c_p, sCe c_p c_a c_codes c_size, sFh gl (List.range 6) h_states hf_c hf_a hf_v] : List ZW).flatten)) rfl ⟨rfl, trivial⟩ ?_
        refine Go.put zk_X3_keep 0 rfl rfl rfl rfl rfl (Nat.le_of_ble_eq_true rfl) ?_
        refine Go.eqz (z2 := (54, [some (.ref h_p), some (.ref s_p)], [], ([sHi h_p h_a h_states (h_end + 1) h_length, sSk gl s_p s_k c_p, sCe c_p c_a c_codes c_size, sFh gl (List.range 6) h_states hf_c hf_a hf_v] : List ZW).flatten)) rfl ?_
        refine Go.blk zk_X3_keep [0, 0, 0, 0, 0, 0] (z' := (63, [some (.ref h_p), some (.ref s_p)], [.int 6, .int (h_length + 1), .ref h_p], ([sHi h_p h_a h_states (h_end + 1) h_length, sSk gl s_p s_k c_p, sCe c_p c_a c_codes c_size, sFh gl (List.range 6) h_states hf_c hf_a hf_v] : List ZW).flatten)) rfl ⟨rfl, trivial⟩ ?_
        refine Go.mmin zk_X3_keep rfl zl_X3_29 ⟨Nat.le_of_ble_eq_true rfl, Nat.le_of_ble_eq_true rfl⟩ zw_min ?_
        refine Go.put zk_X3_keep 0 rfl rfl rfl rfl rfl (Nat.le_of_ble_eq_true rfl) ?_
        refine Go.eqz (z2 := (69, [some (.ref h_p), some (.ref s_p)], [], ([sHi h_p h_a h_states (h_end + 1) (if 6 < (h_length + 1) then 6 else h_length + 1), sSk gl s_p s_k c_p, sCe c_p c_a c_codes c_size, sFh gl (List.range 6) h_states hf_c hf_a hf_v] : List ZW).flatten)) rfl ?_
        obtain rfl := Option.some.inj h
        exact Go.vret zk_X3_keep rfl rfl ⟨rfl, rfl⟩
      · rw [if_neg hc10] at h
        refine Go.br zk_X3_keep rfl rfl (fun q => absurd q hc10) (fun _ => ?_)
        refine Go.blk zk_X3_keep [0] (z' := (51, [some (.ref h_p), some (.ref s_p)], [.int 0, .ref h_p], ([sHi h_p h_a h_states h_end h_length, sSk gl s_p s_k c_p, sCe c_p c_a c_codes c_size, sFh gl (List.range 6) h_states hf_c hf_a hf_v] : List ZW).flatten)) rfl trivial ?_
        refine Go.put zk_X3_keep 0 rfl rfl rfl rfl rfl (Nat.le_of_ble_eq_true rfl) ?_
        refine Go.eqz (z2 := (54, [some (.ref h_p), some (.ref s_p)], [], ([sHi h_p h_a h_states 0 h_length, sSk gl s_p s_k c_p, sCe c_p c_a c_codes c_size, sFh gl (List.range 6) h_states hf_c hf_a hf_v] : List ZW).flatten)) rfl ?_
        refine Go.blk zk_X3_keep [0, 0, 0, 0, 0, 0] (z' := (63, [some (.ref h_p), some (.ref s_p)], [.int 6, .int (h_length + 1), .ref h_p], ([sHi h_p h_a h_states 0 h_length, sSk gl s_p s_k c_p, sCe c_p c_a c_codes c_size, sFh gl (List.range 6) h_states hf_c hf_a hf_v] : List ZW).flatten)) rfl ⟨rfl, trivial⟩ ?_
        refine Go.mmin zk_X3_keep rfl zl_X3_29 ⟨Nat.le_of_ble_eq_true rfl, Nat.le_of_ble_eq_true rfl⟩ zw_min ?_
        refine Go.put zk_X3_keep 0 rfl rfl rfl rfl rfl (Nat.le_of_ble_eq_true rfl) ?_
        refine Go.eqz (z2 := (69, [some (.ref h_p), some (.ref s_p)], [], ([sHi h_p h_a h_states 0 (if 6 < (h_length + 1) then 6 else h_length + 1), sSk gl s_p s_k c_p, sCe c_p c_a c_codes c_size, sFh gl (List.range 6) h_states hf_c hf_a hf_v] : List ZW).flatten)) rfl ?_
        obtain rfl := Option.some.inj h
        exact Go.vret zk_X3_keep rfl rfl ⟨rfl, rfl⟩
set_option maxHeartbeats 4000000 in
set_option maxRecDepth 100000 in
theorem t_X3_restore {N : Nat} {h_p : Nat} {h_a : Nat → Nat} {h_states : Nat → Nat} {h_end : Int32} {h_length : Int32} {s_p : Nat} {s_k : Nat} {c_p : Nat} {c_a : Nat → Nat} {c_codes : List Int32} {c_size : Int32} {hf_c : Nat → Nat} {hf_a : Nat → Nat → Nat} {hf_v : Nat → Nat × List Int32 × Int32} {gl : Nat → Nat} {u : Int32 × Int32 × Nat × (List Int32) × Int32}  (h : f_X3_restore N h_end h_length s_k c_codes c_size hf_v = some u) : Ct l D r (z_rl xs) zm_X3_restore 0 0 [.ref h_p, .ref s_p] ([sHi h_p h_a h_states h_end h_length, sSk gl s_p s_k c_p, sCe c_p c_a c_codes c_size, sFh gl (List.range 6) h_states hf_c hf_a hf_v] : List ZW).flatten (fun v' w' => v' = none ∧ w' = ([sHi h_p h_a h_states u.1 u.2.1, sSk gl s_p u.2.2.1 c_p, sCe c_p c_a u.2.2.2.1 u.2.2.2.2, sFh gl (List.range 6) h_states hf_c hf_a hf_v] : List ZW).flatten) := by
  refine Ct.of (by decide +kernel) rfl (fun q => absurd q (by decide)) (Nat.le_of_ble_eq_true rfl) ?_
  refine Go.eqz (z2 := (0, [some (.ref h_p), some (.ref s_p)], [], ([sHi h_p h_a h_states h_end h_length, sSk gl s_p s_k c_p, sCe c_p c_a c_codes c_size, sFh gl (List.range 6) h_states hf_c hf_a hf_v] : List ZW).flatten)) rfl ?_
  unfold f_X3_restore at h
  refine Go.blk zk_X3_restore [0, 0] (z' := (4, [some (.ref h_p), some (.ref s_p)], [.int h_length], ([sHi h_p h_a h_states h_end h_length, sSk gl s_p s_k c_p, sCe c_p c_a c_codes c_size, sFh gl (List.range 6) h_states hf_c hf_a hf_v] : List ZW).flatten)) rfl ⟨rfl, trivial⟩ ?_
  by_cases hc2 : h_length = 0
  · rw [if_pos hc2] at h
    refine Go.br zk_X3_restore rfl rfl (fun _ => ?_) (fun q => absurd hc2 q)
    obtain rfl := Option.some.inj h
    exact Go.vret zk_X3_restore rfl rfl ⟨rfl, rfl⟩
  · rw [if_neg hc2] at h
    refine Go.br zk_X3_restore rfl rfl (fun q => absurd q hc2) (fun _ => ?_)
    refine Go.blk zk_X3_restore [0, 0, 0, 0, 0] (z' := (15, [some (.ref h_p), some (.ref s_p)], [.int (h_length - 1), .ref h_p], ([sHi h_p h_a h_states h_end h_length, sSk gl s_p s_k c_p, sCe c_p c_a c_codes c_size, sFh gl (List.range 6) h_states hf_c hf_a hf_v] : List ZW).flatten)) rfl ⟨rfl, trivial⟩ ?_
    refine Go.put zk_X3_restore 0 rfl rfl rfl rfl rfl (Nat.le_of_ble_eq_true rfl) ?_
    refine Go.eqz (z2 := (18, [some (.ref h_p), some (.ref s_p)], [], ([sHi h_p h_a h_states h_end (h_length - 1), sSk gl s_p s_k c_p, sCe c_p c_a c_codes c_size, sFh gl (List.range 6) h_states hf_c hf_a hf_v] : List ZW).flatten)) rfl ?_
    refine Go.blk zk_X3_restore [0, 0, 0] (z' := (23, [some (.ref h_p), some (.ref s_p)], [.int h_end, .ref h_p], ([sHi h_p h_a h_states h_end (h_length - 1), sSk gl s_p s_k c_p, sCe c_p c_a c_codes c_size, sFh gl (List.range 6) h_states hf_c hf_a hf_v] : List ZW).flatten)) rfl ⟨rfl, trivial⟩ ?_
    by_cases hc3 : 0 < h_end
    · rw [if_pos hc3] at h
      refine Go.br zk_X3_restore rfl rfl (fun _ => ?_) (fun q => absurd hc3 q)
      refine Go.blk zk_X3_restore [0, 0, 0, 0, 0] (z' := (36, [some (.ref h_p), some (.ref s_p)], [.int (h_end - 1), .ref h_p], ([sHi h_p h_a h_states h_end (h_length - 1), sSk gl s_p s_k c_p, sCe c_p c_a c_codes c_size, sFh gl (List.range 6) h_states hf_c hf_a hf_v] : List ZW).flatten)) rfl ⟨rfl, trivial⟩ ?_
      refine Go.put zk_X3_restore 0 rfl rfl rfl rfl rfl (Nat.le_of_ble_eq_true rfl) ?_
      refine Go.eqz (z2 := (39, [some (.ref h_p), some (.ref s_p)], [], ([sHi h_p h_a h_states (h_end - 1) (h_length - 1), sSk gl s_p s_k c_p, sCe c_p c_a c_codes c_size, sFh gl (List.range 6) h_states hf_c hf_a hf_v] : List ZW).flatten)) rfl ?_
      refine Go.blk zk_X3_restore [0, 0, 0] (z' := (45, [some (.ref h_p), some (.ref s_p)], [.int 6, .int (h_end - 1)], ([sHi h_p h_a h_states (h_end - 1) (h_length - 1), sSk gl s_p s_k c_p, sCe c_p c_a c_codes c_size, sFh gl (List.range 6) h_states hf_c hf_a hf_v] : List ZW).flatten)) rfl ⟨rfl, trivial⟩ ?_
      by_cases hc4 : (h_end - 1) < 6
      · rw [if_pos hc4] at h
        refine Go.br zk_X3_restore rfl rfl (fun _ => ?_) (fun q => absurd hc4 q)
        refine Go.blk zk_X3_restore [0, 0, 0, 0, 0] (z' := (57, [some (.ref h_p), some (.ref s_p)], [.int (h_end - 1), .ref (h_a 0), .ref s_p], ([sHi h_p h_a h_states (h_end - 1) (h_length - 1), sSk gl s_p s_k c_p, sCe c_p c_a c_codes c_size, sFh gl (List.range 6) h_states hf_c hf_a hf_v] : List ZW).flatten)) rfl ⟨rfl, rfl, trivial⟩ ?_
        obtain ⟨j5, hj5, h⟩ := z_bind h
        refine Go.aald zk_X3_restore 1 rfl rfl rfl (z_fl_get hj5) ?_
        by_cases hj7 : j5 < 6
        case neg => rw [if_neg hj7] at h; cases h
        rw [if_pos hj7] at h
        refine Go.perm (w2 := ([sHi h_p h_a h_states (h_end - 1) (h_length - 1), sSk gl s_p s_k c_p, sCe c_p c_a c_codes c_size, sSk gl (h_states j5) ((hf_v j5).1) (hf_c j5), sCe (hf_c j5) (hf_a j5) ((hf_v j5).2.1) ((hf_v j5).2.2), sFh gl (List.erase (List.range 6) j5) h_states hf_c hf_a hf_v] : List ZW).flatten) (z_focP (n := 6) (A := [sHi h_p h_a h_states (h_end - 1) (h_length - 1), sSk gl s_p s_k c_p, sCe c_p c_a c_codes c_size]) (B := []) (E := [sSk gl (h_states j5) ((hf_v j5).1) (hf_c j5), sCe (hf_c j5) (hf_a j5) ((hf_v j5).2.1) ((hf_v j5).2.2)]) (X2 := sFh gl (List.erase (List.range 6) j5) h_states hf_c hf_a hf_v) (z_foFh (List.mem_range.mpr hj7)) [0, 1, 2, 3, 4, 5] rfl rfl (by decide) rfl) ?_
        obtain ⟨u8, hu8, h⟩ := z_bind h
        refine Go.vs zk_X3_restore zm_X8_copy [1, 3, 2, 4] [0, 5] 0 8 6 (S := [sHi h_p h_a h_states (h_end - 1) (h_length - 1), sSk gl s_p s_k c_p, sCe c_p c_a c_codes c_size, sSk gl (h_states j5) ((hf_v j5).1) (hf_c j5), sCe (hf_c j5) (hf_a j5) ((hf_v j5).2.1) ((hf_v j5).2.2), sFh gl (List.erase (List.range 6) j5) h_states hf_c hf_a hf_v]) (S2 := [sHi h_p h_a h_states (h_end - 1) (h_length - 1), sSk gl s_p u8.1 c_p, sCe c_p c_a u8.2.1 u8.2.2, sSk gl (h_states j5) ((hf_v j5).1) (hf_c j5), sCe (hf_c j5) (hf_a j5) ((hf_v j5).2.1) ((hf_v j5).2.2), sFh gl (List.erase (List.range 6) j5) h_states hf_c hf_a hf_v]) (As := [.ref (h_states j5)]) (rest := []) (st2 := []) (v1 := none) rfl zl_X3_22 zv_X8_copy ⟨Nat.le_of_ble_eq_true rfl, Nat.le_of_ble_eq_true rfl⟩ rfl (by decide) rfl rfl rfl rfl rfl (Nat.le_of_ble_eq_true rfl) (t_X8_copy hu8) rfl rfl rfl ?_
        refine Go.perm (w2 := ([sHi h_p h_a h_states (h_end - 1) (h_length - 1), sSk gl s_p u8.1 c_p, sCe c_p c_a u8.2.1 u8.2.2, sFh gl (List.range 6) h_states hf_c hf_a hf_v] : List ZW).flatten) (z_focP (n := 6) (A := [sHi h_p h_a h_states (h_end - 1) (h_length - 1), sSk gl s_p u8.1 c_p, sCe c_p c_a u8.2.1 u8.2.2]) (B := []) (E := [sSk gl (h_states j5) ((hf_v j5).1) (hf_c j5), sCe (hf_c j5) (hf_a j5) ((hf_v j5).2.1) ((hf_v j5).2.2)]) (X2 := sFh gl (List.erase (List.range 6) j5) h_states hf_c hf_a hf_v) (z_foFh (List.mem_range.mpr hj7)) [0, 1, 2, 3, 4, 5] rfl rfl (by decide) rfl).symm ?_
        obtain rfl := Option.some.inj h
        exact Go.vret zk_X3_restore rfl rfl ⟨rfl, rfl⟩
      · rw [if_neg hc4] at h
        refine Go.br zk_X3_restore rfl rfl (fun q => absurd q hc4) (fun _ => ?_)
        obtain rfl := Option.some.inj h
        exact Go.vret zk_X3_restore rfl rfl ⟨rfl, rfl⟩
    · rw [if_neg hc3] at h
      refine Go.br zk_X3_restore rfl rfl (fun q => absurd q hc3) (fun _ => ?_)
      refine Go.blk zk_X3_restore [0] (z' := (36, [some (.ref h_p), some (.ref s_p)], [.int 5, .ref h_p], ([sHi h_p h_a h_states h_end (h_length - 1), sSk gl s_p s_k c_p, sCe c_p c_a c_codes c_size, sFh gl (List.range 6) h_states hf_c hf_a hf_v] : List ZW).flatten)) rfl trivial ?_
      refine Go.put zk_X3_restore 0 rfl rfl rfl rfl rfl (Nat.le_of_ble_eq_true rfl) ?_
      refine Go.eqz (z2 := (39, [some (.ref h_p), some (.ref s_p)], [], ([sHi h_p h_a h_states 5 (h_length - 1), sSk gl s_p s_k c_p, sCe c_p c_a c_codes c_size, sFh gl (List.range 6) h_states hf_c hf_a hf_v] : List ZW).flatten)) rfl ?_
      refine Go.blk zk_X3_restore [0, 0, 0] (z' := (45, [some (.ref h_p), some (.ref s_p)], [.int 6, .int 5], ([sHi h_p h_a h_states 5 (h_length - 1), sSk gl s_p s_k c_p, sCe c_p c_a c_codes c_size, sFh gl (List.range 6) h_states hf_c hf_a hf_v] : List ZW).flatten)) rfl ⟨rfl, trivial⟩ ?_
      refine Go.br zk_X3_restore rfl rfl (fun _ => ?_) (fun q => absurd (by decide) q)
      refine Go.blk zk_X3_restore [0, 0, 0, 0, 0] (z' := (57, [some (.ref h_p), some (.ref s_p)], [.int 5, .ref (h_a 0), .ref s_p], ([sHi h_p h_a h_states 5 (h_length - 1), sSk gl s_p s_k c_p, sCe c_p c_a c_codes c_size, sFh gl (List.range 6) h_states hf_c hf_a hf_v] : List ZW).flatten)) rfl ⟨rfl, rfl, trivial⟩ ?_
      refine Go.aald zk_X3_restore 1 rfl rfl rfl (z_fl_get (j := 5) rfl) ?_
      by_cases hj10 : 5 < 6
      case neg => rw [if_neg hj10] at h; cases h
      rw [if_pos hj10] at h
      refine Go.perm (w2 := ([sHi h_p h_a h_states 5 (h_length - 1), sSk gl s_p s_k c_p, sCe c_p c_a c_codes c_size, sSk gl (h_states 5) ((hf_v 5).1) (hf_c 5), sCe (hf_c 5) (hf_a 5) ((hf_v 5).2.1) ((hf_v 5).2.2), sFh gl (List.erase (List.range 6) 5) h_states hf_c hf_a hf_v] : List ZW).flatten) (z_focP (n := 6) (A := [sHi h_p h_a h_states 5 (h_length - 1), sSk gl s_p s_k c_p, sCe c_p c_a c_codes c_size]) (B := []) (E := [sSk gl (h_states 5) ((hf_v 5).1) (hf_c 5), sCe (hf_c 5) (hf_a 5) ((hf_v 5).2.1) ((hf_v 5).2.2)]) (X2 := sFh gl (List.erase (List.range 6) 5) h_states hf_c hf_a hf_v) (z_foFh (List.mem_range.mpr hj10)) [0, 1, 2, 3, 4, 5] rfl rfl (by decide) rfl) ?_
      obtain ⟨u11, hu11, h⟩ := z_bind h
      refine Go.vs zk_X3_restore zm_X8_copy [1, 3, 2, 4] [0, 5] 0 8 6 (S := [sHi h_p h_a h_states 5 (h_length - 1), sSk gl s_p s_k c_p, sCe c_p c_a c_codes c_size, sSk gl (h_states 5) ((hf_v 5).1) (hf_c 5), sCe (hf_c 5) (hf_a 5) ((hf_v 5).2.1) ((hf_v 5).2.2), sFh gl (List.erase (List.range 6) 5) h_states hf_c hf_a hf_v]) (S2 := [sHi h_p h_a h_states 5 (h_length - 1), sSk gl s_p u11.1 c_p, sCe c_p c_a u11.2.1 u11.2.2, sSk gl (h_states 5) ((hf_v 5).1) (hf_c 5), sCe (hf_c 5) (hf_a 5) ((hf_v 5).2.1) ((hf_v 5).2.2), sFh gl (List.erase (List.range 6) 5) h_states hf_c hf_a hf_v]) (As := [.ref (h_states 5)]) (rest := []) (st2 := []) (v1 := none) rfl zl_X3_22 zv_X8_copy ⟨Nat.le_of_ble_eq_true rfl, Nat.le_of_ble_eq_true rfl⟩ rfl (by decide) rfl rfl rfl rfl rfl (Nat.le_of_ble_eq_true rfl) (t_X8_copy hu11) rfl rfl rfl ?_
      refine Go.perm (w2 := ([sHi h_p h_a h_states 5 (h_length - 1), sSk gl s_p u11.1 c_p, sCe c_p c_a u11.2.1 u11.2.2, sFh gl (List.range 6) h_states hf_c hf_a hf_v] : List ZW).flatten) (z_focP (n := 6) (A := [sHi h_p h_a h_states 5 (h_length - 1), sSk gl s_p u11.1 c_p, sCe c_p c_a u11.2.1 u11.2.2]) (B := []) (E := [sSk gl (h_states 5) ((hf_v 5).1) (hf_c 5), sCe (hf_c 5) (hf_a 5) ((hf_v 5).2.1) ((hf_v 5).2.2)]) (X2 := sFh gl (List.erase (List.range 6) 5) h_states hf_c hf_a hf_v) (z_foFh (List.mem_range.mpr hj10)) [0, 1, 2, 3, 4, 5] rfl rfl (by decide) rfl).symm ?_
      obtain rfl := Option.some.inj h
      exact Go.vret zk_X3_restore rfl rfl ⟨rfl, rfl⟩
end
