section
variable {l : Launch} {D : va_G} {r : Nat → Nat} {xs : List Int32}
set_option maxHeartbeats 4000000 in
set_option maxRecDepth 100000 in
theorem t_X4_goOn {N : Nat} {m_p : Nat} {m_a : Nat → Nat} {m_forms : Nat → Nat} {m_number : Int32} {g_p : Nat} {g_k : Nat} {i_p : Nat} {i_a : Nat → Nat} {i_codes : List Int32} {i_size : Int32} {i2 : Int32} {u : (List Int32)} (hk_g : g_k < 3) (h : f_X4_goOn N i2 g_k i_codes i_size = some u) : Ct l D r (z_rl xs) zm_X4_goOn 0 0 [.ref m_p, .ref g_p, .int i2] ([sIm m_p m_a m_forms i_p m_number, sLa r g_p g_k, sCe i_p i_a i_codes i_size] : List ZW).flatten (fun v' w' => v' = none ∧ w' = ([sIm m_p m_a m_forms i_p m_number, sLa r g_p g_k, sCe i_p i_a u i_size] : List ZW).flatten) := by
  refine Ct.of (by decide +kernel) rfl (fun q => absurd q (by decide)) (Nat.le_of_ble_eq_true rfl) ?_
  refine Go.eqz (z2 := (0, [some (.ref m_p), some (.ref g_p), some (.int i2)], [], ([sIm m_p m_a m_forms i_p m_number, sLa r g_p g_k, sCe i_p i_a i_codes i_size] : List ZW).flatten)) rfl ?_
  unfold f_X4_goOn at h
  refine Go.blk zk_X4_goOn [0, 0, 0, 2] (z' := (8, [some (.ref m_p), some (.ref g_p), some (.int i2)], [.int (nI g_k), .ref i_p], ([sIm m_p m_a m_forms i_p m_number, sLa r g_p g_k, sCe i_p i_a i_codes i_size] : List ZW).flatten)) rfl ⟨rfl, rfl, trivial⟩ ?_
  obtain ⟨u1, hu1, h⟩ := z_bind h
  refine Go.vs zk_X4_goOn zm_X2_turn [2] [0, 1] 0 2 3 (S := [sIm m_p m_a m_forms i_p m_number, sLa r g_p g_k, sCe i_p i_a i_codes i_size]) (S2 := [sIm m_p m_a m_forms i_p m_number, sLa r g_p g_k, sCe i_p i_a u1 i_size]) (As := [.int (nI g_k)]) (rest := []) (st2 := []) (v1 := none) rfl zl_X4_51 zv_X2_turn ⟨Nat.le_of_ble_eq_true rfl, Nat.le_of_ble_eq_true rfl⟩ rfl (by decide) rfl rfl rfl rfl rfl (Nat.le_of_ble_eq_true rfl) (t_X2_turn hu1) rfl rfl rfl ?_
  refine Go.blk zk_X4_goOn [0, 0, 2, 0, 0] (z' := (18, [some (.ref m_p), some (.ref g_p), some (.int i2)], [.int ((ztur g_k) - 1), .int i2], ([sIm m_p m_a m_forms i_p m_number, sLa r g_p g_k, sCe i_p i_a u1 i_size] : List ZW).flatten)) rfl ⟨rfl, trivial⟩ ?_
  by_cases hc2 : i2 = ((ztur g_k) - 1)
  · rw [if_pos hc2] at h
    refine Go.br zk_X4_goOn rfl rfl (fun _ => ?_) (fun q => absurd hc2 q)
    refine Go.blk zk_X4_goOn [0, 0] (z' := (25, [some (.ref m_p), some (.ref g_p), some (.int i2)], [.ref i_p], ([sIm m_p m_a m_forms i_p m_number, sLa r g_p g_k, sCe i_p i_a u1 i_size] : List ZW).flatten)) rfl ⟨rfl, trivial⟩ ?_
    obtain ⟨u3, hu3, h⟩ := z_bind h
    refine Go.vs zk_X4_goOn zm_X2_mirror [2] [0, 1] 0 2 3 (S := [sIm m_p m_a m_forms i_p m_number, sLa r g_p g_k, sCe i_p i_a u1 i_size]) (S2 := [sIm m_p m_a m_forms i_p m_number, sLa r g_p g_k, sCe i_p i_a u3 i_size]) (As := []) (rest := []) (st2 := []) (v1 := none) rfl zl_X4_54 zv_X2_mirror ⟨Nat.le_of_ble_eq_true rfl, Nat.le_of_ble_eq_true rfl⟩ rfl (by decide) rfl rfl rfl rfl rfl (Nat.le_of_ble_eq_true rfl) (t_X2_mirror hu3) rfl rfl rfl ?_
    refine Go.blk zk_X4_goOn [0, 0] (z' := (32, [some (.ref m_p), some (.ref g_p), some (.int i2)], [.ref i_p], ([sIm m_p m_a m_forms i_p m_number, sLa r g_p g_k, sCe i_p i_a u3 i_size] : List ZW).flatten)) rfl ⟨rfl, trivial⟩ ?_
    obtain ⟨u4, hu4, h⟩ := z_bind h
    refine Go.vs zk_X4_goOn zm_X2_normalise [2] [0, 1] 0 2 3 (S := [sIm m_p m_a m_forms i_p m_number, sLa r g_p g_k, sCe i_p i_a u3 i_size]) (S2 := [sIm m_p m_a m_forms i_p m_number, sLa r g_p g_k, sCe i_p i_a u4 i_size]) (As := []) (rest := []) (st2 := []) (v1 := none) rfl zl_X4_43 zv_X2_normalise ⟨Nat.le_of_ble_eq_true rfl, Nat.le_of_ble_eq_true rfl⟩ rfl (by decide) rfl rfl rfl rfl rfl (Nat.le_of_ble_eq_true rfl) (t_X2_normalise hu4) rfl rfl rfl ?_
    obtain rfl := Option.some.inj h
    exact Go.vret zk_X4_goOn rfl rfl ⟨rfl, rfl⟩
  · rw [if_neg hc2] at h
    refine Go.br zk_X4_goOn rfl rfl (fun q => absurd q hc2) (fun _ => ?_)
    refine Go.blk zk_X4_goOn [0, 0] (z' := (32, [some (.ref m_p), some (.ref g_p), some (.int i2)], [.ref i_p], ([sIm m_p m_a m_forms i_p m_number, sLa r g_p g_k, sCe i_p i_a u1 i_size] : List ZW).flatten)) rfl ⟨rfl, trivial⟩ ?_
    obtain ⟨u5, hu5, h⟩ := z_bind h
    refine Go.vs zk_X4_goOn zm_X2_normalise [2] [0, 1] 0 2 3 (S := [sIm m_p m_a m_forms i_p m_number, sLa r g_p g_k, sCe i_p i_a u1 i_size]) (S2 := [sIm m_p m_a m_forms i_p m_number, sLa r g_p g_k, sCe i_p i_a u5 i_size]) (As := []) (rest := []) (st2 := []) (v1 := none) rfl zl_X4_43 zv_X2_normalise ⟨Nat.le_of_ble_eq_true rfl, Nat.le_of_ble_eq_true rfl⟩ rfl (by decide) rfl rfl rfl rfl rfl (Nat.le_of_ble_eq_true rfl) (t_X2_normalise hu5) rfl rfl rfl ?_
    obtain rfl := Option.some.inj h
    exact Go.vret zk_X4_goOn rfl rfl ⟨rfl, rfl⟩
set_option maxHeartbeats 4000000 in
set_option maxRecDepth 100000 in
theorem t_X4_isCanonical_L10 {N : Nat} {m_p : Nat} {m_a : Nat → Nat} {m_forms : Nat → Nat} {m_number : Int32} {c_p : Nat} {c_a : Nat → Nat} {c_codes : List Int32} {c_size : Int32} {g_p : Nat} {g_k : Nat} {i_p : Nat} {i_a : Nat → Nat} {i_size : Int32} (hk_g : g_k < 3) {Q : Option Value → ZW → Prop} : ∀ (fu : Nat) (v3 : Int32) (i_codes : List Int32) (o : ((List Int32)) ⊕ (Int32 × (List Int32) × Int32)), f_X4_isCanonical_L10 N c_codes c_size g_k i_size fu v3 i_codes = some o → (∀ e, o = .inl e → Go l D r (z_rl xs) zm_X4_isCanonical 0 0 (45, [none, none, none, none], [], ([sIm m_p m_a m_forms i_p m_number, sCe c_p c_a c_codes c_size, sLa r g_p g_k, sCe i_p i_a e i_size] : List ZW).flatten) Q) → (∀ e, o = .inr e → Q (some (.int e.1)) ([sIm m_p m_a m_forms i_p m_number, sCe c_p c_a c_codes c_size, sLa r g_p g_k, sCe i_p i_a e.2.1 e.2.2] : List ZW).flatten) → Go l D r (z_rl xs) zm_X4_isCanonical 0 0 (10, [some (.ref m_p), some (.ref c_p), some (.ref g_p), some (.int v3)], [], ([sIm m_p m_a m_forms i_p m_number, sCe c_p c_a c_codes c_size, sLa r g_p g_k, sCe i_p i_a i_codes i_size] : List ZW).flatten) Q := by
  intro fu
  induction fu with
  | zero =>
    intro v3 i_codes o h
    simp only [f_X4_isCanonical_L10, reduceCtorEq] at h
  | succ fu ih =>
    intro v3 i_codes o h k1 k2
    rw [f_X4_isCanonical_L10] at h
    refine Go.blk zk_X4_isCanonical [0, 0, 0, 4, 0] (z' := (17, [some (.ref m_p), some (.ref c_p), some (.ref g_p), some (.int v3)], [.int (2 * (ztur g_k)), .int v3], ([sIm m_p m_a m_forms i_p m_number, sCe c_p c_a c_codes c_size, sLa r g_p g_k, sCe i_p i_a i_codes i_size] : List ZW).flatten)) rfl ⟨rfl, trivial⟩ ?_
    by_cases hc2 : v3 < (2 * (ztur g_k))
    · rw [if_pos hc2] at h
      refine Go.br zk_X4_isCanonical rfl rfl (fun _ => ?_) (fun q => absurd hc2 q)
      refine Go.blk zk_X4_isCanonical [0, 0, 0] (z' := (25, [some (.ref m_p), some (.ref c_p), some (.ref g_p), some (.int v3)], [.ref c_p, .ref i_p], ([sIm m_p m_a m_forms i_p m_number, sCe c_p c_a c_codes c_size, sLa r g_p g_k, sCe i_p i_a i_codes i_size] : List ZW).flatten)) rfl ⟨rfl, trivial⟩ ?_
      obtain ⟨u3, hu3, h⟩ := z_bind h
      refine Go.vs zk_X4_isCanonical zm_X2_compareWith [3, 1] [0, 2] 0 2 4 (S := [sIm m_p m_a m_forms i_p m_number, sCe c_p c_a c_codes c_size, sLa r g_p g_k, sCe i_p i_a i_codes i_size]) (S2 := [sIm m_p m_a m_forms i_p m_number, sCe c_p c_a c_codes c_size, sLa r g_p g_k, sCe i_p i_a i_codes i_size]) (As := [.ref c_p]) (rest := []) (st2 := [.int u3]) (v1 := some (.int u3)) rfl zl_X4_57 zv_X2_compareWith ⟨Nat.le_of_ble_eq_true rfl, Nat.le_of_ble_eq_true rfl⟩ rfl (by decide) rfl rfl rfl rfl rfl (Nat.le_of_ble_eq_true rfl) (t_X2_compareWith hu3) rfl rfl rfl ?_
      by_cases hc4 : u3 < 0
      · rw [if_pos hc4] at h
        refine Go.br zk_X4_isCanonical rfl rfl (fun _ => ?_) (fun q => absurd hc4 q)
        refine Go.blk zk_X4_isCanonical [0] (z' := (32, [some (.ref m_p), some (.ref c_p), some (.ref g_p), some (.int v3)], [.int 0], ([sIm m_p m_a m_forms i_p m_number, sCe c_p c_a c_codes c_size, sLa r g_p g_k, sCe i_p i_a i_codes i_size] : List ZW).flatten)) rfl trivial ?_
        obtain rfl := Option.some.inj h
        exact Go.iret zk_X4_isCanonical rfl rfl rfl (k2 _ rfl)
      · rw [if_neg hc4] at h
        refine Go.br zk_X4_isCanonical rfl rfl (fun q => absurd q hc4) (fun _ => ?_)
        refine Go.blk zk_X4_isCanonical [0, 0, 0] (z' := (36, [some (.ref m_p), some (.ref c_p), some (.ref g_p), some (.int v3)], [.int v3, .ref g_p, .ref m_p], ([sIm m_p m_a m_forms i_p m_number, sCe c_p c_a c_codes c_size, sLa r g_p g_k, sCe i_p i_a i_codes i_size] : List ZW).flatten)) rfl trivial ?_
        obtain ⟨u5, hu5, h⟩ := z_bind h
        refine Go.vs zk_X4_isCanonical zm_X4_goOn [0, 2, 3] [1] 0 4 4 (S := [sIm m_p m_a m_forms i_p m_number, sCe c_p c_a c_codes c_size, sLa r g_p g_k, sCe i_p i_a i_codes i_size]) (S2 := [sIm m_p m_a m_forms i_p m_number, sCe c_p c_a c_codes c_size, sLa r g_p g_k, sCe i_p i_a u5 i_size]) (As := [.ref g_p, .int v3]) (rest := []) (st2 := []) (v1 := none) rfl zl_X4_46 zv_X4_goOn ⟨Nat.le_of_ble_eq_true rfl, Nat.le_of_ble_eq_true rfl⟩ rfl (by decide) rfl rfl rfl rfl rfl (Nat.le_of_ble_eq_true rfl) (t_X4_goOn hk_g hu5) rfl rfl rfl ?_
        refine Go.blk zk_X4_isCanonical [0, 0] (z' := (10, [some (.ref m_p), some (.ref c_p), some (.ref g_p), some (.int (v3 + 1))], [], ([sIm m_p m_a m_forms i_p m_number, sCe c_p c_a c_codes c_size, sLa r g_p g_k, sCe i_p i_a u5 i_size] : List ZW).flatten)) rfl trivial ?_
        exact ih _ _ _ h k1 k2
    · rw [if_neg hc2] at h
      refine Go.br zk_X4_isCanonical rfl rfl (fun q => absurd q hc2) (fun _ => ?_)
      obtain rfl := Option.some.inj h
      refine Go.weak (L := [some (.ref m_p), some (.ref c_p), some (.ref g_p), some (.int v3)]) (L' := [none, none, none, none]) (trivial) ?_
      exact k1 _ rfl
set_option maxHeartbeats 4000000 in
set_option maxRecDepth 100000 in
theorem t_X4_isCanonical {N : Nat} {m_p : Nat} {m_a : Nat → Nat} {m_forms : Nat → Nat} {m_number : Int32} {c_p : Nat} {c_a : Nat → Nat} {c_codes : List Int32} {c_size : Int32} {g_p : Nat} {g_k : Nat} {i_p : Nat} {i_a : Nat → Nat} {i_codes : List Int32} {i_size : Int32} {u : Int32 × (List Int32) × Int32} (hk_g : g_k < 3) (h : f_X4_isCanonical N c_codes c_size g_k i_codes = some u) : Ct l D r (z_rl xs) zm_X4_isCanonical 0 0 [.ref m_p, .ref c_p, .ref g_p] ([sIm m_p m_a m_forms i_p m_number, sCe c_p c_a c_codes c_size, sLa r g_p g_k, sCe i_p i_a i_codes i_size] : List ZW).flatten (fun v' w' => v' = some (.int u.1) ∧ w' = ([sIm m_p m_a m_forms i_p m_number, sCe c_p c_a c_codes c_size, sLa r g_p g_k, sCe i_p i_a u.2.1 u.2.2] : List ZW).flatten) := by
  refine Ct.of (by decide +kernel) rfl (fun q => absurd q (by decide)) (Nat.le_of_ble_eq_true rfl) ?_
  refine Go.eqz (z2 := (0, [some (.ref m_p), some (.ref c_p), some (.ref g_p), none], [], ([sIm m_p m_a m_forms i_p m_number, sCe c_p c_a c_codes c_size, sLa r g_p g_k, sCe i_p i_a i_codes i_size] : List ZW).flatten)) rfl ?_
  unfold f_X4_isCanonical at h
  refine Go.blk zk_X4_isCanonical [0, 0, 0] (z' := (5, [some (.ref m_p), some (.ref c_p), some (.ref g_p), none], [.ref c_p, .ref i_p], ([sIm m_p m_a m_forms i_p m_number, sCe c_p c_a c_codes c_size, sLa r g_p g_k, sCe i_p i_a i_codes i_size] : List ZW).flatten)) rfl ⟨rfl, trivial⟩ ?_
  obtain ⟨u1, hu1, h⟩ := z_bind h
  refine Go.vs zk_X4_isCanonical zm_X2_copy [3, 1] [0, 2] 0 2 4 (S := [sIm m_p m_a m_forms i_p m_number, sCe c_p c_a c_codes c_size, sLa r g_p g_k, sCe i_p i_a i_codes i_size]) (S2 := [sIm m_p m_a m_forms i_p m_number, sCe c_p c_a c_codes c_size, sLa r g_p g_k, sCe i_p i_a u1.1 u1.2]) (As := [.ref c_p]) (rest := []) (st2 := []) (v1 := none) rfl zl_X4_39 zv_X2_copy ⟨Nat.le_of_ble_eq_true rfl, Nat.le_of_ble_eq_true rfl⟩ rfl (by decide) rfl rfl rfl rfl rfl (Nat.le_of_ble_eq_true rfl) (t_X2_copy hu1) rfl rfl rfl ?_
  refine Go.blk zk_X4_isCanonical [0, 0] (z' := (10, [some (.ref m_p), some (.ref c_p), some (.ref g_p), some (.int 0)], [], ([sIm m_p m_a m_forms i_p m_number, sCe c_p c_a c_codes c_size, sLa r g_p g_k, sCe i_p i_a u1.1 u1.2] : List ZW).flatten)) rfl trivial ?_
  obtain ⟨o7, he6, h⟩ := z_bind h
  cases o7 with
  | inl e6 =>
    simp only [Sum.elim_inl] at h
    refine t_X4_isCanonical_L10 hk_g N _ _ _ he6 (fun _ q => ?_) (fun _ q => nomatch q)
    obtain rfl := Sum.inl.inj q
    refine Go.blk zk_X4_isCanonical [0] (z' := (46, [none, none, none, none], [.int 1], ([sIm m_p m_a m_forms i_p m_number, sCe c_p c_a c_codes c_size, sLa r g_p g_k, sCe i_p i_a e6 u1.2] : List ZW).flatten)) rfl trivial ?_
    obtain rfl := Option.some.inj h
    exact Go.iret zk_X4_isCanonical rfl rfl rfl ⟨rfl, rfl⟩
  | inr u8 =>
    simp only [Sum.elim_inr] at h
    obtain rfl := Option.some.inj h
    refine t_X4_isCanonical_L10 hk_g N _ _ _ he6 (fun _ q => nomatch q) (fun _ q => ?_)
    obtain rfl := Sum.inr.inj q
    exact ⟨rfl, rfl⟩
set_option maxHeartbeats 4000000 in
set_option maxRecDepth 100000 in
theorem t_X4_survey_L32 {N : Nat} {m_p : Nat} {m_a : Nat → Nat} {m_forms : Nat → Nat} {m_number : Int32} {c_p : Nat} {c_a : Nat → Nat} {c_codes : List Int32} {c_size : Int32} {g_p : Nat} {g_k : Nat} {i_p : Nat} {i_a : Nat → Nat} {i_size : Int32} {mf_a : Nat → Nat → Nat} (hk_g : g_k < 3) {Q : Option Value → ZW → Prop} : ∀ (fu : Nat) (v3 : Int32) (i_codes : List Int32) (mf_v : Nat → List Int32 × Int32) (e : (List Int32) × (Nat → List Int32 × Int32)), f_X4_survey_L32 N m_number g_k i_size fu v3 i_codes mf_v = some e → (Go l D r (z_rl xs) zm_X4_survey 0 0 (65, [none, none, none, none], [], ([sIm m_p m_a m_forms i_p m_number, sCe c_p c_a c_codes c_size, sLa r g_p g_k, sCe i_p i_a e.1 i_size, sFo (List.range 12) m_forms mf_a e.2] : List ZW).flatten) Q) → Go l D r (z_rl xs) zm_X4_survey 0 0 (32, [some (.ref m_p), none, some (.ref g_p), some (.int v3)], [], ([sIm m_p m_a m_forms i_p m_number, sCe c_p c_a c_codes c_size, sLa r g_p g_k, sCe i_p i_a i_codes i_size, sFo (List.range 12) m_forms mf_a mf_v] : List ZW).flatten) Q := by
  intro fu
  induction fu with
  | zero =>
    intro v3 i_codes mf_v e h
    simp only [f_X4_survey_L32, reduceCtorEq] at h
  | succ fu ih =>
    intro v3 i_codes mf_v e h kk
    rw [f_X4_survey_L32] at h
    refine Go.blk zk_X4_survey [0, 0, 0] (z' := (37, [some (.ref m_p), none, some (.ref g_p), some (.int v3)], [.int m_number, .int v3], ([sIm m_p m_a m_forms i_p m_number, sCe c_p c_a c_codes c_size, sLa r g_p g_k, sCe i_p i_a i_codes i_size, sFo (List.range 12) m_forms mf_a mf_v] : List ZW).flatten)) rfl ⟨rfl, trivial⟩ ?_
    by_cases hc4 : v3 < m_number
    · rw [if_pos hc4] at h
      refine Go.br zk_X4_survey rfl rfl (fun _ => ?_) (fun q => absurd hc4 q)
      refine Go.blk zk_X4_survey [0, 0, 0] (z' := (45, [some (.ref m_p), none, some (.ref g_p), some (.int v3)], [.int v3, .ref (m_a 0)], ([sIm m_p m_a m_forms i_p m_number, sCe c_p c_a c_codes c_size, sLa r g_p g_k, sCe i_p i_a i_codes i_size, sFo (List.range 12) m_forms mf_a mf_v] : List ZW).flatten)) rfl ⟨rfl, trivial⟩ ?_
      obtain ⟨j5, hj5, h⟩ := z_bind h
      refine Go.aald zk_X4_survey 1 rfl rfl rfl (z_fl_get hj5) ?_
      refine Go.blk zk_X4_survey [0, 0] (z' := (50, [some (.ref m_p), none, some (.ref g_p), some (.int v3)], [.ref i_p, .ref (m_forms j5)], ([sIm m_p m_a m_forms i_p m_number, sCe c_p c_a c_codes c_size, sLa r g_p g_k, sCe i_p i_a i_codes i_size, sFo (List.range 12) m_forms mf_a mf_v] : List ZW).flatten)) rfl ⟨rfl, trivial⟩ ?_
      by_cases hj7 : j5 < 12
      case neg => rw [if_neg hj7] at h; cases h
      rw [if_pos hj7] at h
      refine Go.perm (w2 := ([sIm m_p m_a m_forms i_p m_number, sCe c_p c_a c_codes c_size, sLa r g_p g_k, sCe i_p i_a i_codes i_size, sCe (m_forms j5) (mf_a j5) ((mf_v j5).1) ((mf_v j5).2), sFo (List.erase (List.range 12) j5) m_forms mf_a mf_v] : List ZW).flatten) (z_focP (n := 6) (A := [sIm m_p m_a m_forms i_p m_number, sCe c_p c_a c_codes c_size, sLa r g_p g_k, sCe i_p i_a i_codes i_size]) (B := []) (E := [sCe (m_forms j5) (mf_a j5) ((mf_v j5).1) ((mf_v j5).2)]) (X2 := sFo (List.erase (List.range 12) j5) m_forms mf_a mf_v) (z_foFo (List.mem_range.mpr hj7)) [0, 1, 2, 3, 4, 5] rfl rfl (by decide) rfl) ?_
      obtain ⟨u8, hu8, h⟩ := z_bind h
      refine Go.vs zk_X4_survey zm_X2_copy [4, 3] [0, 1, 2, 5] 0 2 6 (S := [sIm m_p m_a m_forms i_p m_number, sCe c_p c_a c_codes c_size, sLa r g_p g_k, sCe i_p i_a i_codes i_size, sCe (m_forms j5) (mf_a j5) ((mf_v j5).1) ((mf_v j5).2), sFo (List.erase (List.range 12) j5) m_forms mf_a mf_v]) (S2 := [sIm m_p m_a m_forms i_p m_number, sCe c_p c_a c_codes c_size, sLa r g_p g_k, sCe i_p i_a i_codes i_size, sCe (m_forms j5) (mf_a j5) u8.1 u8.2, sFo (List.erase (List.range 12) j5) m_forms mf_a mf_v]) (As := [.ref i_p]) (rest := []) (st2 := []) (v1 := none) rfl zl_X4_39 zv_X2_copy ⟨Nat.le_of_ble_eq_true rfl, Nat.le_of_ble_eq_true rfl⟩ rfl (by decide) rfl rfl rfl rfl rfl (Nat.le_of_ble_eq_true rfl) (t_X2_copy hu8) rfl rfl rfl ?_
      refine Go.perm (w2 := ([sIm m_p m_a m_forms i_p m_number, sCe c_p c_a c_codes c_size, sLa r g_p g_k, sCe i_p i_a i_codes i_size, sFo (List.range 12) m_forms mf_a (va_up mf_v j5 (u8.1, u8.2))] : List ZW).flatten) (z_focP (n := 6) (A := [sIm m_p m_a m_forms i_p m_number, sCe c_p c_a c_codes c_size, sLa r g_p g_k, sCe i_p i_a i_codes i_size]) (B := []) (E := [sCe (m_forms j5) (mf_a j5) u8.1 u8.2]) (X2 := sFo (List.erase (List.range 12) j5) m_forms mf_a mf_v) (z_unFo (List.mem_range.mpr hj7) List.nodup_range) [0, 1, 2, 3, 4, 5] rfl rfl (by decide) rfl).symm ?_
      refine Go.blk zk_X4_survey [0, 0, 0] (z' := (56, [some (.ref m_p), none, some (.ref g_p), some (.int v3)], [.int v3, .ref g_p, .ref m_p], ([sIm m_p m_a m_forms i_p m_number, sCe c_p c_a c_codes c_size, sLa r g_p g_k, sCe i_p i_a i_codes i_size, sFo (List.range 12) m_forms mf_a (va_up mf_v j5 (u8.1, u8.2))] : List ZW).flatten)) rfl trivial ?_
      obtain ⟨u9, hu9, h⟩ := z_bind h
      refine Go.vs zk_X4_survey zm_X4_goOn [0, 2, 3] [1, 4] 0 4 5 (S := [sIm m_p m_a m_forms i_p m_number, sCe c_p c_a c_codes c_size, sLa r g_p g_k, sCe i_p i_a i_codes i_size, sFo (List.range 12) m_forms mf_a (va_up mf_v j5 (u8.1, u8.2))]) (S2 := [sIm m_p m_a m_forms i_p m_number, sCe c_p c_a c_codes c_size, sLa r g_p g_k, sCe i_p i_a u9 i_size, sFo (List.range 12) m_forms mf_a (va_up mf_v j5 (u8.1, u8.2))]) (As := [.ref g_p, .int v3]) (rest := []) (st2 := []) (v1 := none) rfl zl_X4_46 zv_X4_goOn ⟨Nat.le_of_ble_eq_true rfl, Nat.le_of_ble_eq_true rfl⟩ rfl (by decide) rfl rfl rfl rfl rfl (Nat.le_of_ble_eq_true rfl) (t_X4_goOn hk_g hu9) rfl rfl rfl ?_
      refine Go.blk zk_X4_survey [0, 0] (z' := (32, [some (.ref m_p), none, some (.ref g_p), some (.int (v3 + 1))], [], ([sIm m_p m_a m_forms i_p m_number, sCe c_p c_a c_codes c_size, sLa r g_p g_k, sCe i_p i_a u9 i_size, sFo (List.range 12) m_forms mf_a (va_up mf_v j5 (u8.1, u8.2))] : List ZW).flatten)) rfl trivial ?_
      exact ih _ _ _ _ h kk
    · rw [if_neg hc4] at h
      refine Go.br zk_X4_survey rfl rfl (fun q => absurd q hc4) (fun _ => ?_)
      obtain rfl := Option.some.inj h
      refine Go.weak (L := [some (.ref m_p), none, some (.ref g_p), some (.int v3)]) (L' := [none, none, none, none]) (trivial) ?_
      exact kk
set_option maxHeartbeats 4000000 in
set_option maxRecDepth 100000 in
theorem t_X4_survey {N : Nat} {m_p : Nat} {m_a : Nat → Nat} {m_forms : Nat → Nat} {m_number : Int32} {c_p : Nat} {c_a : Nat → Nat} {c_codes : List Int32} {c_size : Int32} {g_p : Nat} {g_k : Nat} {i_p : Nat} {i_a : Nat → Nat} {i_codes : List Int32} {i_size : Int32} {mf_a : Nat → Nat → Nat} {mf_v : Nat → List Int32 × Int32} {u : Int32 × (List Int32) × Int32 × (Nat → List Int32 × Int32)} (hk_g : g_k < 3) (h : f_X4_survey N c_codes c_size g_k i_codes mf_v = some u) : Ct l D r (z_rl xs) zm_X4_survey 0 0 [.ref m_p, .ref c_p, .ref g_p] ([sIm m_p m_a m_forms i_p m_number, sCe c_p c_a c_codes c_size, sLa r g_p g_k, sCe i_p i_a i_codes i_size, sFo (List.range 12) m_forms mf_a mf_v] : List ZW).flatten (fun v' w' => v' = none ∧ w' = ([sIm m_p m_a m_forms i_p u.1, sCe c_p c_a c_codes c_size, sLa r g_p g_k, sCe i_p i_a u.2.1 u.2.2.1, sFo (List.range 12) m_forms mf_a u.2.2.2] : List ZW).flatten) := by
  refine Ct.of (by decide +kernel) rfl (fun q => absurd q (by decide)) (Nat.le_of_ble_eq_true rfl) ?_
  refine Go.eqz (z2 := (0, [some (.ref m_p), some (.ref c_p), some (.ref g_p), none], [], ([sIm m_p m_a m_forms i_p m_number, sCe c_p c_a c_codes c_size, sLa r g_p g_k, sCe i_p i_a i_codes i_size, sFo (List.range 12) m_forms mf_a mf_v] : List ZW).flatten)) rfl ?_
  unfold f_X4_survey at h
  refine Go.blk zk_X4_survey [0, 0, 0, 4, 0, 0] (z' := (9, [some (.ref m_p), some (.ref c_p), some (.ref g_p), none], [.int 12, .int (2 * (ztur g_k)), .ref m_p], ([sIm m_p m_a m_forms i_p m_number, sCe c_p c_a c_codes c_size, sLa r g_p g_k, sCe i_p i_a i_codes i_size, sFo (List.range 12) m_forms mf_a mf_v] : List ZW).flatten)) rfl ⟨rfl, trivial⟩ ?_
  refine Go.mmin zk_X4_survey rfl zl_X4_30 ⟨Nat.le_of_ble_eq_true rfl, Nat.le_of_ble_eq_true rfl⟩ zw_min ?_
  refine Go.put zk_X4_survey 0 rfl rfl rfl rfl rfl (Nat.le_of_ble_eq_true rfl) ?_
  refine Go.eqz (z2 := (15, [some (.ref m_p), some (.ref c_p), some (.ref g_p), none], [], ([sIm m_p m_a m_forms i_p (if 12 < (2 * (ztur g_k)) then 12 else 2 * (ztur g_k)), sCe c_p c_a c_codes c_size, sLa r g_p g_k, sCe i_p i_a i_codes i_size, sFo (List.range 12) m_forms mf_a mf_v] : List ZW).flatten)) rfl ?_
  refine Go.blk zk_X4_survey [0, 0, 0] (z' := (20, [some (.ref m_p), some (.ref c_p), some (.ref g_p), none], [.ref c_p, .ref i_p], ([sIm m_p m_a m_forms i_p (if 12 < (2 * (ztur g_k)) then 12 else 2 * (ztur g_k)), sCe c_p c_a c_codes c_size, sLa r g_p g_k, sCe i_p i_a i_codes i_size, sFo (List.range 12) m_forms mf_a mf_v] : List ZW).flatten)) rfl ⟨rfl, trivial⟩ ?_
  obtain ⟨u2, hu2, h⟩ := z_bind h
  refine Go.vs zk_X4_survey zm_X2_copy [3, 1] [0, 2, 4] 0 2 5 (S := [sIm m_p m_a m_forms i_p (if 12 < (2 * (ztur g_k)) then 12 else 2 * (ztur g_k)), sCe c_p c_a c_codes c_size, sLa r g_p g_k, sCe i_p i_a i_codes i_size, sFo (List.range 12) m_forms mf_a mf_v]) (S2 := [sIm m_p m_a m_forms i_p (if 12 < (2 * (ztur g_k)) then 12 else 2 * (ztur g_k)), sCe c_p c_a c_codes c_size, sLa r g_p g_k, sCe i_p i_a u2.1 u2.2, sFo (List.range 12) m_forms mf_a mf_v]) (As := [.ref c_p]) (rest := []) (st2 := []) (v1 := none) rfl zl_X4_39 zv_X2_copy ⟨Nat.le_of_ble_eq_true rfl, Nat.le_of_ble_eq_true rfl⟩ rfl (by decide) rfl rfl rfl rfl rfl (Nat.le_of_ble_eq_true rfl) (t_X2_copy hu2) rfl rfl rfl ?_
  refine Go.blk zk_X4_survey [0, 0] (z' := (27, [some (.ref m_p), some (.ref c_p), some (.ref g_p), none], [.ref i_p], ([sIm m_p m_a m_forms i_p (if 12 < (2 * (ztur g_k)) then 12 else 2 * (ztur g_k)), sCe c_p c_a c_codes c_size, sLa r g_p g_k, sCe i_p i_a u2.1 u2.2, sFo (List.range 12) m_forms mf_a mf_v] : List ZW).flatten)) rfl ⟨rfl, trivial⟩ ?_
  obtain ⟨u3, hu3, h⟩ := z_bind h
  refine Go.vs zk_X4_survey zm_X2_normalise [3] [0, 1, 2, 4] 0 2 5 (S := [sIm m_p m_a m_forms i_p (if 12 < (2 * (ztur g_k)) then 12 else 2 * (ztur g_k)), sCe c_p c_a c_codes c_size, sLa r g_p g_k, sCe i_p i_a u2.1 u2.2, sFo (List.range 12) m_forms mf_a mf_v]) (S2 := [sIm m_p m_a m_forms i_p (if 12 < (2 * (ztur g_k)) then 12 else 2 * (ztur g_k)), sCe c_p c_a c_codes c_size, sLa r g_p g_k, sCe i_p i_a u3 u2.2, sFo (List.range 12) m_forms mf_a mf_v]) (As := []) (rest := []) (st2 := []) (v1 := none) rfl zl_X4_43 zv_X2_normalise ⟨Nat.le_of_ble_eq_true rfl, Nat.le_of_ble_eq_true rfl⟩ rfl (by decide) rfl rfl rfl rfl rfl (Nat.le_of_ble_eq_true rfl) (t_X2_normalise hu3) rfl rfl rfl ?_
  refine Go.blk zk_X4_survey [0, 0] (z' := (32, [some (.ref m_p), some (.ref c_p), some (.ref g_p), some (.int 0)], [], ([sIm m_p m_a m_forms i_p (if 12 < (2 * (ztur g_k)) then 12 else 2 * (ztur g_k)), sCe c_p c_a c_codes c_size, sLa r g_p g_k, sCe i_p i_a u3 u2.2, sFo (List.range 12) m_forms mf_a mf_v] : List ZW).flatten)) rfl trivial ?_
  refine Go.weak (L := [some (.ref m_p), some (.ref c_p), some (.ref g_p), some (.int 0)]) (L' := [some (.ref m_p), none, some (.ref g_p), some (.int 0)]) (And.intro rfl (And.intro rfl (And.intro rfl (trivial)))) ?_
  obtain ⟨e10, he10, h⟩ := z_bind h
  refine t_X4_survey_L32 hk_g N _ _ _ _ he10 ?_
  obtain rfl := Option.some.inj h
  exact Go.vret zk_X4_survey rfl rfl ⟨rfl, rfl⟩
set_option maxHeartbeats 4000000 in
set_option maxRecDepth 100000 in
theorem t_X4_symmetries_L4 {N : Nat} {m_p : Nat} {m_a : Nat → Nat} {m_forms : Nat → Nat} {m_image : Nat} {m_number : Int32} {mf_a : Nat → Nat → Nat} {mf_v : Nat → List Int32 × Int32}  {Q : Option Value → ZW → Prop} : ∀ (fu : Nat) (v1 : Int32) (v2 : Int32) (e : Int32), f_X4_symmetries_L4 N m_number mf_v fu v1 v2 = some e → (Go l D r (z_rl xs) zm_X4_symmetries 0 0 (39, [none, some (.int e), none], [], ([sIm m_p m_a m_forms m_image m_number, sFo (List.range 12) m_forms mf_a mf_v] : List ZW).flatten) Q) → Go l D r (z_rl xs) zm_X4_symmetries 0 0 (4, [some (.ref m_p), some (.int v1), some (.int v2)], [], ([sIm m_p m_a m_forms m_image m_number, sFo (List.range 12) m_forms mf_a mf_v] : List ZW).flatten) Q := by
  intro fu
  induction fu with
  | zero =>
    intro v1 v2 e h
    simp only [f_X4_symmetries_L4, reduceCtorEq] at h
  | succ fu ih =>
    intro v1 v2 e h kk
    rw [f_X4_symmetries_L4] at h
    refine Go.blk zk_X4_symmetries [0, 0, 0] (z' := (9, [some (.ref m_p), some (.int v1), some (.int v2)], [.int m_number, .int v2], ([sIm m_p m_a m_forms m_image m_number, sFo (List.range 12) m_forms mf_a mf_v] : List ZW).flatten)) rfl ⟨rfl, trivial⟩ ?_
    by_cases hc2 : v2 < m_number
    · rw [if_pos hc2] at h
      refine Go.br zk_X4_symmetries rfl rfl (fun _ => ?_) (fun q => absurd hc2 q)
      refine Go.blk zk_X4_symmetries [0, 0, 0] (z' := (17, [some (.ref m_p), some (.int v1), some (.int v2)], [.int v2, .ref (m_a 0)], ([sIm m_p m_a m_forms m_image m_number, sFo (List.range 12) m_forms mf_a mf_v] : List ZW).flatten)) rfl ⟨rfl, trivial⟩ ?_
      obtain ⟨j3, hj3, h⟩ := z_bind h
      refine Go.aald zk_X4_symmetries 1 rfl rfl rfl (z_fl_get hj3) ?_
      refine Go.blk zk_X4_symmetries [0, 0, 0] (z' := (23, [some (.ref m_p), some (.int v1), some (.int v2)], [.int 0, .ref (m_a 0), .ref (m_forms j3)], ([sIm m_p m_a m_forms m_image m_number, sFo (List.range 12) m_forms mf_a mf_v] : List ZW).flatten)) rfl ⟨rfl, trivial⟩ ?_
      refine Go.aald zk_X4_symmetries 1 rfl rfl rfl (z_fl_get (j := 0) rfl) ?_
      by_cases hn4 : 0 = j3
      · rw [if_pos hn4] at h
        subst hn4
        by_cases hj6 : 0 < 12
        case neg => rw [if_neg hj6] at h; cases h
        rw [if_pos hj6] at h
        refine Go.perm (w2 := ([sIm m_p m_a m_forms m_image m_number, sCe (m_forms 0) (mf_a 0) ((mf_v 0).1) ((mf_v 0).2), sFo (List.erase (List.range 12) 0) m_forms mf_a mf_v] : List ZW).flatten) (z_focP (n := 3) (A := [sIm m_p m_a m_forms m_image m_number]) (B := []) (E := [sCe (m_forms 0) (mf_a 0) ((mf_v 0).1) ((mf_v 0).2)]) (X2 := sFo (List.erase (List.range 12) 0) m_forms mf_a mf_v) (z_foFo (List.mem_range.mpr hj6)) [0, 1, 2] rfl rfl (by decide) rfl) ?_
        obtain ⟨u7, hu7, h⟩ := z_bind h
        refine Go.vs zk_X4_symmetries zm_X2_compareWith [1] [0, 2] 0 2 3 (S := [sIm m_p m_a m_forms m_image m_number, sCe (m_forms 0) (mf_a 0) ((mf_v 0).1) ((mf_v 0).2), sFo (List.erase (List.range 12) 0) m_forms mf_a mf_v]) (S2 := [sIm m_p m_a m_forms m_image m_number, sCe (m_forms 0) (mf_a 0) ((mf_v 0).1) ((mf_v 0).2), sFo (List.erase (List.range 12) 0) m_forms mf_a mf_v]) (As := [.ref (m_forms 0)]) (rest := []) (st2 := [.int u7]) (v1 := some (.int u7)) rfl zl_X4_57 zv_X2_compareWith ⟨Nat.le_of_ble_eq_true rfl, Nat.le_of_ble_eq_true rfl⟩ rfl (by decide) rfl rfl rfl rfl rfl (Nat.le_of_ble_eq_true rfl) (t_X2_compareWith_s hu7) rfl rfl rfl ?_
        refine Go.perm (w2 := ([sIm m_p m_a m_forms m_image m_number, sFo (List.range 12) m_forms mf_a mf_v] : List ZW).flatten) (z_focP (n := 3) (A := [sIm m_p m_a m_forms m_image m_number]) (B := []) (E := [sCe (m_forms 0) (mf_a 0) ((mf_v 0).1) ((mf_v 0).2)]) (X2 := sFo (List.erase (List.range 12) 0) m_forms mf_a mf_v) (z_foFo (List.mem_range.mpr hj6)) [0, 1, 2] rfl rfl (by decide) rfl).symm ?_
        by_cases hc8 : u7 = 0
        · rw [if_pos hc8] at h
          refine Go.br zk_X4_symmetries rfl rfl (fun _ => ?_) (fun q => absurd hc8 q)
          refine Go.blk zk_X4_symmetries [0, 0, 0] (z' := (4, [some (.ref m_p), some (.int (v1 + 1)), some (.int (v2 + 1))], [], ([sIm m_p m_a m_forms m_image m_number, sFo (List.range 12) m_forms mf_a mf_v] : List ZW).flatten)) rfl trivial ?_
          exact ih _ _ _ h kk
        · rw [if_neg hc8] at h
          refine Go.br zk_X4_symmetries rfl rfl (fun q => absurd q hc8) (fun _ => ?_)
          refine Go.blk zk_X4_symmetries [0, 0] (z' := (4, [some (.ref m_p), some (.int v1), some (.int (v2 + 1))], [], ([sIm m_p m_a m_forms m_image m_number, sFo (List.range 12) m_forms mf_a mf_v] : List ZW).flatten)) rfl trivial ?_
          exact ih _ _ _ h kk
      rw [if_neg hn4] at h
      by_cases hj10 : j3 < 12
      case neg => rw [if_neg hj10] at h; cases h
      rw [if_pos hj10] at h
      refine Go.perm (w2 := ([sIm m_p m_a m_forms m_image m_number, sCe (m_forms j3) (mf_a j3) ((mf_v j3).1) ((mf_v j3).2), sFo (List.erase (List.range 12) j3) m_forms mf_a mf_v] : List ZW).flatten) (z_focP (n := 3) (A := [sIm m_p m_a m_forms m_image m_number]) (B := []) (E := [sCe (m_forms j3) (mf_a j3) ((mf_v j3).1) ((mf_v j3).2)]) (X2 := sFo (List.erase (List.range 12) j3) m_forms mf_a mf_v) (z_foFo (List.mem_range.mpr hj10)) [0, 1, 2] rfl rfl (by decide) rfl) ?_
      by_cases hj12 : 0 < 12
      case neg => rw [if_neg hj12] at h; cases h
      rw [if_pos hj12] at h
      refine Go.perm (w2 := ([sIm m_p m_a m_forms m_image m_number, sCe (m_forms j3) (mf_a j3) ((mf_v j3).1) ((mf_v j3).2), sCe (m_forms 0) (mf_a 0) ((mf_v 0).1) ((mf_v 0).2), sFo (List.erase (List.erase (List.range 12) j3) 0) m_forms mf_a mf_v] : List ZW).flatten) (z_focP (n := 4) (A := [sIm m_p m_a m_forms m_image m_number, sCe (m_forms j3) (mf_a j3) ((mf_v j3).1) ((mf_v j3).2)]) (B := []) (E := [sCe (m_forms 0) (mf_a 0) ((mf_v 0).1) ((mf_v 0).2)]) (X2 := sFo (List.erase (List.erase (List.range 12) j3) 0) m_forms mf_a mf_v) (z_foFo ((List.mem_erase_of_ne hn4).mpr (List.mem_range.mpr hj12))) [0, 1, 2, 3] rfl rfl (by decide) rfl) ?_
      obtain ⟨u13, hu13, h⟩ := z_bind h
      refine Go.vs zk_X4_symmetries zm_X2_compareWith [1, 2] [0, 3] 0 2 4 (S := [sIm m_p m_a m_forms m_image m_number, sCe (m_forms j3) (mf_a j3) ((mf_v j3).1) ((mf_v j3).2), sCe (m_forms 0) (mf_a 0) ((mf_v 0).1) ((mf_v 0).2), sFo (List.erase (List.erase (List.range 12) j3) 0) m_forms mf_a mf_v]) (S2 := [sIm m_p m_a m_forms m_image m_number, sCe (m_forms j3) (mf_a j3) ((mf_v j3).1) ((mf_v j3).2), sCe (m_forms 0) (mf_a 0) ((mf_v 0).1) ((mf_v 0).2), sFo (List.erase (List.erase (List.range 12) j3) 0) m_forms mf_a mf_v]) (As := [.ref (m_forms 0)]) (rest := []) (st2 := [.int u13]) (v1 := some (.int u13)) rfl zl_X4_57 zv_X2_compareWith ⟨Nat.le_of_ble_eq_true rfl, Nat.le_of_ble_eq_true rfl⟩ rfl (by decide) rfl rfl rfl rfl rfl (Nat.le_of_ble_eq_true rfl) (t_X2_compareWith hu13) rfl rfl rfl ?_
      refine Go.perm (w2 := ([sIm m_p m_a m_forms m_image m_number, sCe (m_forms j3) (mf_a j3) ((mf_v j3).1) ((mf_v j3).2), sFo (List.erase (List.range 12) j3) m_forms mf_a mf_v] : List ZW).flatten) (z_focP (n := 4) (A := [sIm m_p m_a m_forms m_image m_number, sCe (m_forms j3) (mf_a j3) ((mf_v j3).1) ((mf_v j3).2)]) (B := []) (E := [sCe (m_forms 0) (mf_a 0) ((mf_v 0).1) ((mf_v 0).2)]) (X2 := sFo (List.erase (List.erase (List.range 12) j3) 0) m_forms mf_a mf_v) (z_foFo ((List.mem_erase_of_ne hn4).mpr (List.mem_range.mpr hj12))) [0, 1, 2, 3] rfl rfl (by decide) rfl).symm ?_
      refine Go.perm (w2 := ([sIm m_p m_a m_forms m_image m_number, sFo (List.range 12) m_forms mf_a mf_v] : List ZW).flatten) (z_focP (n := 3) (A := [sIm m_p m_a m_forms m_image m_number]) (B := []) (E := [sCe (m_forms j3) (mf_a j3) ((mf_v j3).1) ((mf_v j3).2)]) (X2 := sFo (List.erase (List.range 12) j3) m_forms mf_a mf_v) (z_foFo (List.mem_range.mpr hj10)) [0, 1, 2] rfl rfl (by decide) rfl).symm ?_
      by_cases hc14 : u13 = 0
      · rw [if_pos hc14] at h
        refine Go.br zk_X4_symmetries rfl rfl (fun _ => ?_) (fun q => absurd hc14 q)
        refine Go.blk zk_X4_symmetries [0, 0, 0] (z' := (4, [some (.ref m_p), some (.int (v1 + 1)), some (.int (v2 + 1))], [], ([sIm m_p m_a m_forms m_image m_number, sFo (List.range 12) m_forms mf_a mf_v] : List ZW).flatten)) rfl trivial ?_
        exact ih _ _ _ h kk
      · rw [if_neg hc14] at h
        refine Go.br zk_X4_symmetries rfl rfl (fun q => absurd q hc14) (fun _ => ?_)
        refine Go.blk zk_X4_symmetries [0, 0] (z' := (4, [some (.ref m_p), some (.int v1), some (.int (v2 + 1))], [], ([sIm m_p m_a m_forms m_image m_number, sFo (List.range 12) m_forms mf_a mf_v] : List ZW).flatten)) rfl trivial ?_
        exact ih _ _ _ h kk
    · rw [if_neg hc2] at h
      refine Go.br zk_X4_symmetries rfl rfl (fun q => absurd q hc2) (fun _ => ?_)
      obtain rfl := Option.some.inj h
      refine Go.weak (L := [some (.ref m_p), some (.int v1), some (.int v2)]) (L' := [none, some (.int v1), none]) (And.intro rfl (trivial)) ?_
      exact kk
set_option maxHeartbeats 4000000 in
set_option maxRecDepth 100000 in
theorem t_X4_symmetries {N : Nat} {m_p : Nat} {m_a : Nat → Nat} {m_forms : Nat → Nat} {m_image : Nat} {m_number : Int32} {mf_a : Nat → Nat → Nat} {mf_v : Nat → List Int32 × Int32} {u : Int32}  (h : f_X4_symmetries N m_number mf_v = some u) : Ct l D r (z_rl xs) zm_X4_symmetries 0 0 [.ref m_p] ([sIm m_p m_a m_forms m_image m_number, sFo (List.range 12) m_forms mf_a mf_v] : List ZW).flatten (fun v' w' => v' = some (.int u) ∧ w' = ([sIm m_p m_a m_forms m_image m_number, sFo (List.range 12) m_forms mf_a mf_v] : List ZW).flatten) := by
  refine Ct.of (by decide +kernel) rfl (fun q => absurd q (by decide)) (Nat.le_of_ble_eq_true rfl) ?_
  refine Go.eqz (z2 := (0, [some (.ref m_p), none, none], [], ([sIm m_p m_a m_forms m_image m_number, sFo (List.range 12) m_forms mf_a mf_v] : List ZW).flatten)) rfl ?_
  unfold f_X4_symmetries at h
  refine Go.blk zk_X4_symmetries [0, 0, 0, 0] (z' := (4, [some (.ref m_p), some (.int 0), some (.int 0)], [], ([sIm m_p m_a m_forms m_image m_number, sFo (List.range 12) m_forms mf_a mf_v] : List ZW).flatten)) rfl trivial ?_
  obtain ⟨e15, he15, h⟩ := z_bind h
  refine t_X4_symmetries_L4 N _ _ _ he15 ?_
  refine Go.blk zk_X4_symmetries [0] (z' := (40, [none, some (.int e15), none], [.int e15], ([sIm m_p m_a m_forms m_image m_number, sFo (List.range 12) m_forms mf_a mf_v] : List ZW).flatten)) rfl trivial ?_
  obtain rfl := Option.some.inj h
  exact Go.iret zk_X4_symmetries rfl rfl rfl ⟨rfl, rfl⟩
set_option maxHeartbeats 4000000 in
set_option maxRecDepth 100000 in
theorem t_X4_isThereBefore_L2 {N : Nat} {m_p : Nat} {m_a : Nat → Nat} {m_forms : Nat → Nat} {m_image : Nat} {m_number : Int32} {mf_a : Nat → Nat → Nat} {mf_v : Nat → List Int32 × Int32} {v1 : Int32}  {Q : Option Value → ZW → Prop} : ∀ (fu : Nat) (v2 : Int32) (o : (Unit) ⊕ (Int32)), f_X4_isThereBefore_L2 N v1 mf_v fu v2 = some o → (∀ e, o = .inl e → Go l D r (z_rl xs) zm_X4_isThereBefore 0 0 (33, [none, none, none], [], ([sIm m_p m_a m_forms m_image m_number, sFo (List.range 12) m_forms mf_a mf_v] : List ZW).flatten) Q) → (∀ e, o = .inr e → Q (some (.int e)) ([sIm m_p m_a m_forms m_image m_number, sFo (List.range 12) m_forms mf_a mf_v] : List ZW).flatten) → Go l D r (z_rl xs) zm_X4_isThereBefore 0 0 (2, [some (.ref m_p), some (.int v1), some (.int v2)], [], ([sIm m_p m_a m_forms m_image m_number, sFo (List.range 12) m_forms mf_a mf_v] : List ZW).flatten) Q := by
  intro fu
  induction fu with
  | zero =>
    intro v2 o h
    simp only [f_X4_isThereBefore_L2, reduceCtorEq] at h
  | succ fu ih =>
    intro v2 o h k1 k2
    rw [f_X4_isThereBefore_L2] at h
    refine Go.blk zk_X4_isThereBefore [0, 0] (z' := (4, [some (.ref m_p), some (.int v1), some (.int v2)], [.int v1, .int v2], ([sIm m_p m_a m_forms m_image m_number, sFo (List.range 12) m_forms mf_a mf_v] : List ZW).flatten)) rfl trivial ?_
    by_cases hc3 : v2 < v1
    · rw [if_pos hc3] at h
      refine Go.br zk_X4_isThereBefore rfl rfl (fun _ => ?_) (fun q => absurd hc3 q)
      refine Go.blk zk_X4_isThereBefore [0, 0, 0] (z' := (12, [some (.ref m_p), some (.int v1), some (.int v2)], [.int v2, .ref (m_a 0)], ([sIm m_p m_a m_forms m_image m_number, sFo (List.range 12) m_forms mf_a mf_v] : List ZW).flatten)) rfl ⟨rfl, trivial⟩ ?_
      obtain ⟨j4, hj4, h⟩ := z_bind h
      refine Go.aald zk_X4_isThereBefore 1 rfl rfl rfl (z_fl_get hj4) ?_
      refine Go.blk zk_X4_isThereBefore [0, 0, 0] (z' := (18, [some (.ref m_p), some (.int v1), some (.int v2)], [.int v1, .ref (m_a 0), .ref (m_forms j4)], ([sIm m_p m_a m_forms m_image m_number, sFo (List.range 12) m_forms mf_a mf_v] : List ZW).flatten)) rfl ⟨rfl, trivial⟩ ?_
      obtain ⟨j5, hj5, h⟩ := z_bind h
      refine Go.aald zk_X4_isThereBefore 1 rfl rfl rfl (z_fl_get hj5) ?_
      by_cases hj7 : j4 < 12
      case neg => rw [if_neg hj7] at h; cases h
      rw [if_pos hj7] at h
      refine Go.perm (w2 := ([sIm m_p m_a m_forms m_image m_number, sCe (m_forms j4) (mf_a j4) ((mf_v j4).1) ((mf_v j4).2), sFo (List.erase (List.range 12) j4) m_forms mf_a mf_v] : List ZW).flatten) (z_focP (n := 3) (A := [sIm m_p m_a m_forms m_image m_number]) (B := []) (E := [sCe (m_forms j4) (mf_a j4) ((mf_v j4).1) ((mf_v j4).2)]) (X2 := sFo (List.erase (List.range 12) j4) m_forms mf_a mf_v) (z_foFo (List.mem_range.mpr hj7)) [0, 1, 2] rfl rfl (by decide) rfl) ?_
      by_cases hj9 : j5 < 12
      case neg => rw [if_neg hj9] at h; cases h
      rw [if_pos hj9] at h
      by_cases hn10 : j5 = j4
      · rw [if_pos hn10] at h; cases h
      rw [if_neg hn10] at h
      refine Go.perm (w2 := ([sIm m_p m_a m_forms m_image m_number, sCe (m_forms j4) (mf_a j4) ((mf_v j4).1) ((mf_v j4).2), sCe (m_forms j5) (mf_a j5) ((mf_v j5).1) ((mf_v j5).2), sFo (List.erase (List.erase (List.range 12) j4) j5) m_forms mf_a mf_v] : List ZW).flatten) (z_focP (n := 4) (A := [sIm m_p m_a m_forms m_image m_number, sCe (m_forms j4) (mf_a j4) ((mf_v j4).1) ((mf_v j4).2)]) (B := []) (E := [sCe (m_forms j5) (mf_a j5) ((mf_v j5).1) ((mf_v j5).2)]) (X2 := sFo (List.erase (List.erase (List.range 12) j4) j5) m_forms mf_a mf_v) (z_foFo ((List.mem_erase_of_ne hn10).mpr (List.mem_range.mpr hj9))) [0, 1, 2, 3] rfl rfl (by decide) rfl) ?_
      obtain ⟨u11, hu11, h⟩ := z_bind h
      refine Go.vs zk_X4_isThereBefore zm_X2_compareWith [1, 2] [0, 3] 0 2 4 (S := [sIm m_p m_a m_forms m_image m_number, sCe (m_forms j4) (mf_a j4) ((mf_v j4).1) ((mf_v j4).2), sCe (m_forms j5) (mf_a j5) ((mf_v j5).1) ((mf_v j5).2), sFo (List.erase (List.erase (List.range 12) j4) j5) m_forms mf_a mf_v]) (S2 := [sIm m_p m_a m_forms m_image m_number, sCe (m_forms j4) (mf_a j4) ((mf_v j4).1) ((mf_v j4).2), sCe (m_forms j5) (mf_a j5) ((mf_v j5).1) ((mf_v j5).2), sFo (List.erase (List.erase (List.range 12) j4) j5) m_forms mf_a mf_v]) (As := [.ref (m_forms j5)]) (rest := []) (st2 := [.int u11]) (v1 := some (.int u11)) rfl zl_X4_57 zv_X2_compareWith ⟨Nat.le_of_ble_eq_true rfl, Nat.le_of_ble_eq_true rfl⟩ rfl (by decide) rfl rfl rfl rfl rfl (Nat.le_of_ble_eq_true rfl) (t_X2_compareWith hu11) rfl rfl rfl ?_
      refine Go.perm (w2 := ([sIm m_p m_a m_forms m_image m_number, sCe (m_forms j4) (mf_a j4) ((mf_v j4).1) ((mf_v j4).2), sFo (List.erase (List.range 12) j4) m_forms mf_a mf_v] : List ZW).flatten) (z_focP (n := 4) (A := [sIm m_p m_a m_forms m_image m_number, sCe (m_forms j4) (mf_a j4) ((mf_v j4).1) ((mf_v j4).2)]) (B := []) (E := [sCe (m_forms j5) (mf_a j5) ((mf_v j5).1) ((mf_v j5).2)]) (X2 := sFo (List.erase (List.erase (List.range 12) j4) j5) m_forms mf_a mf_v) (z_foFo ((List.mem_erase_of_ne hn10).mpr (List.mem_range.mpr hj9))) [0, 1, 2, 3] rfl rfl (by decide) rfl).symm ?_
      refine Go.perm (w2 := ([sIm m_p m_a m_forms m_image m_number, sFo (List.range 12) m_forms mf_a mf_v] : List ZW).flatten) (z_focP (n := 3) (A := [sIm m_p m_a m_forms m_image m_number]) (B := []) (E := [sCe (m_forms j4) (mf_a j4) ((mf_v j4).1) ((mf_v j4).2)]) (X2 := sFo (List.erase (List.range 12) j4) m_forms mf_a mf_v) (z_foFo (List.mem_range.mpr hj7)) [0, 1, 2] rfl rfl (by decide) rfl).symm ?_
      by_cases hc12 : u11 = 0
      · rw [if_pos hc12] at h
        refine Go.br zk_X4_isThereBefore rfl rfl (fun _ => ?_) (fun q => absurd hc12 q)
        refine Go.blk zk_X4_isThereBefore [0] (z' := (26, [some (.ref m_p), some (.int v1), some (.int v2)], [.int 1], ([sIm m_p m_a m_forms m_image m_number, sFo (List.range 12) m_forms mf_a mf_v] : List ZW).flatten)) rfl trivial ?_
        obtain rfl := Option.some.inj h
        exact Go.iret zk_X4_isThereBefore rfl rfl rfl (k2 _ rfl)
      · rw [if_neg hc12] at h
        refine Go.br zk_X4_isThereBefore rfl rfl (fun q => absurd q hc12) (fun _ => ?_)
        refine Go.blk zk_X4_isThereBefore [0, 0] (z' := (2, [some (.ref m_p), some (.int v1), some (.int (v2 + 1))], [], ([sIm m_p m_a m_forms m_image m_number, sFo (List.range 12) m_forms mf_a mf_v] : List ZW).flatten)) rfl trivial ?_
        exact ih _ _ h k1 k2
    · rw [if_neg hc3] at h
      refine Go.br zk_X4_isThereBefore rfl rfl (fun q => absurd q hc3) (fun _ => ?_)
      obtain rfl := Option.some.inj h
      refine Go.weak (L := [some (.ref m_p), some (.int v1), some (.int v2)]) (L' := [none, none, none]) (trivial) ?_
      exact k1 _ rfl
set_option maxHeartbeats 4000000 in
set_option maxRecDepth 100000 in
theorem t_X4_isThereBefore {N : Nat} {m_p : Nat} {m_a : Nat → Nat} {m_forms : Nat → Nat} {m_image : Nat} {m_number : Int32} {mf_a : Nat → Nat → Nat} {mf_v : Nat → List Int32 × Int32} {i1 : Int32} {u : Int32}  (h : f_X4_isThereBefore N i1 mf_v = some u) : Ct l D r (z_rl xs) zm_X4_isThereBefore 0 0 [.ref m_p, .int i1] ([sIm m_p m_a m_forms m_image m_number, sFo (List.range 12) m_forms mf_a mf_v] : List ZW).flatten (fun v' w' => v' = some (.int u) ∧ w' = ([sIm m_p m_a m_forms m_image m_number, sFo (List.range 12) m_forms mf_a mf_v] : List ZW).flatten) := by
  refine Ct.of (by decide +kernel) rfl (fun q => absurd q (by decide)) (Nat.le_of_ble_eq_true rfl) ?_
  refine Go.eqz (z2 := (0, [some (.ref m_p), some (.int i1), none], [], ([sIm m_p m_a m_forms m_image m_number, sFo (List.range 12) m_forms mf_a mf_v] : List ZW).flatten)) rfl ?_
  unfold f_X4_isThereBefore at h
  refine Go.blk zk_X4_isThereBefore [0, 0] (z' := (2, [some (.ref m_p), some (.int i1), some (.int 0)], [], ([sIm m_p m_a m_forms m_image m_number, sFo (List.range 12) m_forms mf_a mf_v] : List ZW).flatten)) rfl trivial ?_
  obtain ⟨o14, he13, h⟩ := z_bind h
  cases o14 with
  | inl e13 =>
    simp only [Sum.elim_inl] at h
    refine t_X4_isThereBefore_L2 N _ _ he13 (fun _ q => ?_) (fun _ q => nomatch q)
    obtain rfl := Sum.inl.inj q
    refine Go.blk zk_X4_isThereBefore [0] (z' := (34, [none, none, none], [.int 0], ([sIm m_p m_a m_forms m_image m_number, sFo (List.range 12) m_forms mf_a mf_v] : List ZW).flatten)) rfl trivial ?_
    obtain rfl := Option.some.inj h
    exact Go.iret zk_X4_isThereBefore rfl rfl rfl ⟨rfl, rfl⟩
  | inr u15 =>
    simp only [Sum.elim_inr] at h
    obtain rfl := Option.some.inj h
    refine t_X4_isThereBefore_L2 N _ _ he13 (fun _ q => nomatch q) (fun _ q => ?_)
    obtain rfl := Sum.inr.inj q
    exact ⟨rfl, rfl⟩
set_option maxHeartbeats 4000000 in
set_option maxRecDepth 100000 in
theorem t_X4_different_L4 {N : Nat} {m_p : Nat} {m_a : Nat → Nat} {m_forms : Nat → Nat} {m_image : Nat} {m_number : Int32} {mf_a : Nat → Nat → Nat} {mf_v : Nat → List Int32 × Int32}  {Q : Option Value → ZW → Prop} : ∀ (fu : Nat) (v1 : Int32) (v2 : Int32) (e : Int32), f_X4_different_L4 N m_number mf_v fu v1 v2 = some e → (Go l D r (z_rl xs) zm_X4_different 0 0 (29, [none, some (.int e), none], [], ([sIm m_p m_a m_forms m_image m_number, sFo (List.range 12) m_forms mf_a mf_v] : List ZW).flatten) Q) → Go l D r (z_rl xs) zm_X4_different 0 0 (4, [some (.ref m_p), some (.int v1), some (.int v2)], [], ([sIm m_p m_a m_forms m_image m_number, sFo (List.range 12) m_forms mf_a mf_v] : List ZW).flatten) Q := by
  intro fu
  induction fu with
  | zero =>
    intro v1 v2 e h
    simp only [f_X4_different_L4, reduceCtorEq] at h
  | succ fu ih =>
    intro v1 v2 e h kk
    rw [f_X4_different_L4] at h
    refine Go.blk zk_X4_different [0, 0, 0] (z' := (9, [some (.ref m_p), some (.int v1), some (.int v2)], [.int m_number, .int v2], ([sIm m_p m_a m_forms m_image m_number, sFo (List.range 12) m_forms mf_a mf_v] : List ZW).flatten)) rfl ⟨rfl, trivial⟩ ?_
    by_cases hc1 : v2 < m_number
    · rw [if_pos hc1] at h
      refine Go.br zk_X4_different rfl rfl (fun _ => ?_) (fun q => absurd hc1 q)
      refine Go.blk zk_X4_different [0, 0] (z' := (14, [some (.ref m_p), some (.int v1), some (.int v2)], [.int v2, .ref m_p], ([sIm m_p m_a m_forms m_image m_number, sFo (List.range 12) m_forms mf_a mf_v] : List ZW).flatten)) rfl trivial ?_
      obtain ⟨u2, hu2, h⟩ := z_bind h
      refine Go.vs zk_X4_different zm_X4_isThereBefore [0, 1] [] 0 4 2 (S := [sIm m_p m_a m_forms m_image m_number, sFo (List.range 12) m_forms mf_a mf_v]) (S2 := [sIm m_p m_a m_forms m_image m_number, sFo (List.range 12) m_forms mf_a mf_v]) (As := [.int v2]) (rest := []) (st2 := [.int u2]) (v1 := some (.int u2)) rfl zl_X4_61 zv_X4_isThereBefore ⟨Nat.le_of_ble_eq_true rfl, Nat.le_of_ble_eq_true rfl⟩ rfl (by decide) rfl rfl rfl rfl rfl (Nat.le_of_ble_eq_true rfl) (t_X4_isThereBefore hu2) rfl rfl rfl ?_
      by_cases hc3 : u2 = 0
      · rw [if_pos hc3] at h
        refine Go.br zk_X4_different rfl rfl (fun _ => ?_) (fun q => absurd hc3 q)
        refine Go.blk zk_X4_different [0, 0, 0] (z' := (4, [some (.ref m_p), some (.int (v1 + 1)), some (.int (v2 + 1))], [], ([sIm m_p m_a m_forms m_image m_number, sFo (List.range 12) m_forms mf_a mf_v] : List ZW).flatten)) rfl trivial ?_
        exact ih _ _ _ h kk
      · rw [if_neg hc3] at h
        refine Go.br zk_X4_different rfl rfl (fun q => absurd q hc3) (fun _ => ?_)
        refine Go.blk zk_X4_different [0, 0] (z' := (4, [some (.ref m_p), some (.int v1), some (.int (v2 + 1))], [], ([sIm m_p m_a m_forms m_image m_number, sFo (List.range 12) m_forms mf_a mf_v] : List ZW).flatten)) rfl trivial ?_
        exact ih _ _ _ h kk
    · rw [if_neg hc1] at h
      refine Go.br zk_X4_different rfl rfl (fun q => absurd q hc1) (fun _ => ?_)
      obtain rfl := Option.some.inj h
      refine Go.weak (L := [some (.ref m_p), some (.int v1), some (.int v2)]) (L' := [none, some (.int v1), none]) (And.intro rfl (trivial)) ?_
      exact kk
set_option maxHeartbeats 4000000 in
set_option maxRecDepth 100000 in
theorem t_X4_different {N : Nat} {m_p : Nat} {m_a : Nat → Nat} {m_forms : Nat → Nat} {m_image : Nat} {m_number : Int32} {mf_a : Nat → Nat → Nat} {mf_v : Nat → List Int32 × Int32} {u : Int32}  (h : f_X4_different N m_number mf_v = some u) : Ct l D r (z_rl xs) zm_X4_different 0 0 [.ref m_p] ([sIm m_p m_a m_forms m_image m_number, sFo (List.range 12) m_forms mf_a mf_v] : List ZW).flatten (fun v' w' => v' = some (.int u) ∧ w' = ([sIm m_p m_a m_forms m_image m_number, sFo (List.range 12) m_forms mf_a mf_v] : List ZW).flatten) := by
  refine Ct.of (by decide +kernel) rfl (fun q => absurd q (by decide)) (Nat.le_of_ble_eq_true rfl) ?_
  refine Go.eqz (z2 := (0, [some (.ref m_p), none, none], [], ([sIm m_p m_a m_forms m_image m_number, sFo (List.range 12) m_forms mf_a mf_v] : List ZW).flatten)) rfl ?_
  unfold f_X4_different at h
  refine Go.blk zk_X4_different [0, 0, 0, 0] (z' := (4, [some (.ref m_p), some (.int 0), some (.int 0)], [], ([sIm m_p m_a m_forms m_image m_number, sFo (List.range 12) m_forms mf_a mf_v] : List ZW).flatten)) rfl trivial ?_
  obtain ⟨e4, he4, h⟩ := z_bind h
  refine t_X4_different_L4 N _ _ _ he4 ?_
  refine Go.blk zk_X4_different [0] (z' := (30, [none, some (.int e4), none], [.int e4], ([sIm m_p m_a m_forms m_image m_number, sFo (List.range 12) m_forms mf_a mf_v] : List ZW).flatten)) rfl trivial ?_
  obtain rfl := Option.some.inj h
  exact Go.iret zk_X4_different rfl rfl rfl ⟨rfl, rfl⟩
set_option maxHeartbeats 4000000 in
set_option maxRecDepth 100000 in
theorem t_X4_allHaveKeys_L2 {N : Nat} {m_p : Nat} {m_a : Nat → Nat} {m_forms : Nat → Nat} {m_image : Nat} {m_number : Int32} {mf_a : Nat → Nat → Nat} {mf_v : Nat → List Int32 × Int32}  {Q : Option Value → ZW → Prop} : ∀ (fu : Nat) (v1 : Int32) (o : (Unit) ⊕ (Int32)), f_X4_allHaveKeys_L2 N m_number mf_v fu v1 = some o → (∀ e, o = .inl e → Go l D r (z_rl xs) zm_X4_allHaveKeys 0 0 (30, [none, none], [], ([sIm m_p m_a m_forms m_image m_number, sFo (List.range 12) m_forms mf_a mf_v] : List ZW).flatten) Q) → (∀ e, o = .inr e → Q (some (.int e)) ([sIm m_p m_a m_forms m_image m_number, sFo (List.range 12) m_forms mf_a mf_v] : List ZW).flatten) → Go l D r (z_rl xs) zm_X4_allHaveKeys 0 0 (2, [some (.ref m_p), some (.int v1)], [], ([sIm m_p m_a m_forms m_image m_number, sFo (List.range 12) m_forms mf_a mf_v] : List ZW).flatten) Q := by
  intro fu
  induction fu with
  | zero =>
    intro v1 o h
    simp only [f_X4_allHaveKeys_L2, reduceCtorEq] at h
  | succ fu ih =>
    intro v1 o h k1 k2
    rw [f_X4_allHaveKeys_L2] at h
    refine Go.blk zk_X4_allHaveKeys [0, 0, 0] (z' := (7, [some (.ref m_p), some (.int v1)], [.int m_number, .int v1], ([sIm m_p m_a m_forms m_image m_number, sFo (List.range 12) m_forms mf_a mf_v] : List ZW).flatten)) rfl ⟨rfl, trivial⟩ ?_
    by_cases hc2 : v1 < m_number
    · rw [if_pos hc2] at h
      refine Go.br zk_X4_allHaveKeys rfl rfl (fun _ => ?_) (fun q => absurd hc2 q)
      refine Go.blk zk_X4_allHaveKeys [0, 0, 0] (z' := (15, [some (.ref m_p), some (.int v1)], [.int v1, .ref (m_a 0)], ([sIm m_p m_a m_forms m_image m_number, sFo (List.range 12) m_forms mf_a mf_v] : List ZW).flatten)) rfl ⟨rfl, trivial⟩ ?_
      obtain ⟨j3, hj3, h⟩ := z_bind h
      refine Go.aald zk_X4_allHaveKeys 1 rfl rfl rfl (z_fl_get hj3) ?_
      by_cases hj5 : j3 < 12
      case neg => rw [if_neg hj5] at h; cases h
      rw [if_pos hj5] at h
      refine Go.perm (w2 := ([sIm m_p m_a m_forms m_image m_number, sCe (m_forms j3) (mf_a j3) ((mf_v j3).1) ((mf_v j3).2), sFo (List.erase (List.range 12) j3) m_forms mf_a mf_v] : List ZW).flatten) (z_focP (n := 3) (A := [sIm m_p m_a m_forms m_image m_number]) (B := []) (E := [sCe (m_forms j3) (mf_a j3) ((mf_v j3).1) ((mf_v j3).2)]) (X2 := sFo (List.erase (List.range 12) j3) m_forms mf_a mf_v) (z_foFo (List.mem_range.mpr hj5)) [0, 1, 2] rfl rfl (by decide) rfl) ?_
      obtain ⟨u6, hu6, h⟩ := z_bind h
      refine Go.vs zk_X4_allHaveKeys zm_X2_allHaveKeys [1] [0, 2] 0 2 3 (S := [sIm m_p m_a m_forms m_image m_number, sCe (m_forms j3) (mf_a j3) ((mf_v j3).1) ((mf_v j3).2), sFo (List.erase (List.range 12) j3) m_forms mf_a mf_v]) (S2 := [sIm m_p m_a m_forms m_image m_number, sCe (m_forms j3) (mf_a j3) ((mf_v j3).1) ((mf_v j3).2), sFo (List.erase (List.range 12) j3) m_forms mf_a mf_v]) (As := []) (rest := []) (st2 := [.int u6]) (v1 := some (.int u6)) rfl zl_X4_65 zv_X2_allHaveKeys ⟨Nat.le_of_ble_eq_true rfl, Nat.le_of_ble_eq_true rfl⟩ rfl (by decide) rfl rfl rfl rfl rfl (Nat.le_of_ble_eq_true rfl) (t_X2_allHaveKeys hu6) rfl rfl rfl ?_
      refine Go.perm (w2 := ([sIm m_p m_a m_forms m_image m_number, sFo (List.range 12) m_forms mf_a mf_v] : List ZW).flatten) (z_focP (n := 3) (A := [sIm m_p m_a m_forms m_image m_number]) (B := []) (E := [sCe (m_forms j3) (mf_a j3) ((mf_v j3).1) ((mf_v j3).2)]) (X2 := sFo (List.erase (List.range 12) j3) m_forms mf_a mf_v) (z_foFo (List.mem_range.mpr hj5)) [0, 1, 2] rfl rfl (by decide) rfl).symm ?_
      by_cases hc7 : u6 = 0
      · rw [if_pos hc7] at h
        refine Go.br zk_X4_allHaveKeys rfl rfl (fun _ => ?_) (fun q => absurd hc7 q)
        refine Go.blk zk_X4_allHaveKeys [0] (z' := (23, [some (.ref m_p), some (.int v1)], [.int 0], ([sIm m_p m_a m_forms m_image m_number, sFo (List.range 12) m_forms mf_a mf_v] : List ZW).flatten)) rfl trivial ?_
        obtain rfl := Option.some.inj h
        exact Go.iret zk_X4_allHaveKeys rfl rfl rfl (k2 _ rfl)
      · rw [if_neg hc7] at h
        refine Go.br zk_X4_allHaveKeys rfl rfl (fun q => absurd q hc7) (fun _ => ?_)
        refine Go.blk zk_X4_allHaveKeys [0, 0] (z' := (2, [some (.ref m_p), some (.int (v1 + 1))], [], ([sIm m_p m_a m_forms m_image m_number, sFo (List.range 12) m_forms mf_a mf_v] : List ZW).flatten)) rfl trivial ?_
        exact ih _ _ h k1 k2
    · rw [if_neg hc2] at h
      refine Go.br zk_X4_allHaveKeys rfl rfl (fun q => absurd q hc2) (fun _ => ?_)
      obtain rfl := Option.some.inj h
      refine Go.weak (L := [some (.ref m_p), some (.int v1)]) (L' := [none, none]) (trivial) ?_
      exact k1 _ rfl
set_option maxHeartbeats 4000000 in
set_option maxRecDepth 100000 in
theorem t_X4_allHaveKeys {N : Nat} {m_p : Nat} {m_a : Nat → Nat} {m_forms : Nat → Nat} {m_image : Nat} {m_number : Int32} {mf_a : Nat → Nat → Nat} {mf_v : Nat → List Int32 × Int32} {u : Int32}  (h : f_X4_allHaveKeys N m_number mf_v = some u) : Ct l D r (z_rl xs) zm_X4_allHaveKeys 0 0 [.ref m_p] ([sIm m_p m_a m_forms m_image m_number, sFo (List.range 12) m_forms mf_a mf_v] : List ZW).flatten (fun v' w' => v' = some (.int u) ∧ w' = ([sIm m_p m_a m_forms m_image m_number, sFo (List.range 12) m_forms mf_a mf_v] : List ZW).flatten) := by
  refine Ct.of (by decide +kernel) rfl (fun q => absurd q (by decide)) (Nat.le_of_ble_eq_true rfl) ?_
  refine Go.eqz (z2 := (0, [some (.ref m_p), none], [], ([sIm m_p m_a m_forms m_image m_number, sFo (List.range 12) m_forms mf_a mf_v] : List ZW).flatten)) rfl ?_
  unfold f_X4_allHaveKeys at h
  refine Go.blk zk_X4_allHaveKeys [0, 0] (z' := (2, [some (.ref m_p), some (.int 0)], [], ([sIm m_p m_a m_forms m_image m_number, sFo (List.range 12) m_forms mf_a mf_v] : List ZW).flatten)) rfl trivial ?_
  obtain ⟨o9, he8, h⟩ := z_bind h
  cases o9 with
  | inl e8 =>
    simp only [Sum.elim_inl] at h
    refine t_X4_allHaveKeys_L2 N _ _ he8 (fun _ q => ?_) (fun _ q => nomatch q)
    obtain rfl := Sum.inl.inj q
    refine Go.blk zk_X4_allHaveKeys [0] (z' := (31, [none, none], [.int 1], ([sIm m_p m_a m_forms m_image m_number, sFo (List.range 12) m_forms mf_a mf_v] : List ZW).flatten)) rfl trivial ?_
    obtain rfl := Option.some.inj h
    exact Go.iret zk_X4_allHaveKeys rfl rfl rfl ⟨rfl, rfl⟩
  | inr u10 =>
    simp only [Sum.elim_inr] at h
    obtain rfl := Option.some.inj h
    refine t_X4_allHaveKeys_L2 N _ _ he8 (fun _ q => nomatch q) (fun _ q => ?_)
    obtain rfl := Sum.inr.inj q
    exact ⟨rfl, rfl⟩
set_option maxHeartbeats 4000000 in
set_option maxRecDepth 100000 in
theorem t_X4_smallest_L4 {N : Nat} {m_p : Nat} {m_a : Nat → Nat} {m_forms : Nat → Nat} {m_image : Nat} {m_number : Int32} {mf_a : Nat → Nat → Nat} {mf_v : Nat → List Int32 × Int32}  {Q : Option Value → ZW → Prop} : ∀ (fu : Nat) (v1 : Int32) (v2 : Int32) (e : Int32), f_X4_smallest_L4 N m_number mf_v fu v1 v2 = some e → (Go l D r (z_rl xs) zm_X4_smallest 0 0 (38, [some (.ref m_p), some (.int e), none], [], ([sIm m_p m_a m_forms m_image m_number, sFo (List.range 12) m_forms mf_a mf_v] : List ZW).flatten) Q) → Go l D r (z_rl xs) zm_X4_smallest 0 0 (4, [some (.ref m_p), some (.int v1), some (.int v2)], [], ([sIm m_p m_a m_forms m_image m_number, sFo (List.range 12) m_forms mf_a mf_v] : List ZW).flatten) Q := by
  intro fu
  induction fu with
  | zero =>
    intro v1 v2 e h
    simp only [f_X4_smallest_L4, reduceCtorEq] at h
  | succ fu ih =>
    intro v1 v2 e h kk
    rw [f_X4_smallest_L4] at h
    refine Go.blk zk_X4_smallest [0, 0, 0] (z' := (9, [some (.ref m_p), some (.int v1), some (.int v2)], [.int m_number, .int v2], ([sIm m_p m_a m_forms m_image m_number, sFo (List.range 12) m_forms mf_a mf_v] : List ZW).flatten)) rfl ⟨rfl, trivial⟩ ?_
    by_cases hc3 : v2 < m_number
    · rw [if_pos hc3] at h
      refine Go.br zk_X4_smallest rfl rfl (fun _ => ?_) (fun q => absurd hc3 q)
      refine Go.blk zk_X4_smallest [0, 0, 0] (z' := (17, [some (.ref m_p), some (.int v1), some (.int v2)], [.int v2, .ref (m_a 0)], ([sIm m_p m_a m_forms m_image m_number, sFo (List.range 12) m_forms mf_a mf_v] : List ZW).flatten)) rfl ⟨rfl, trivial⟩ ?_
      obtain ⟨j4, hj4, h⟩ := z_bind h
      refine Go.aald zk_X4_smallest 1 rfl rfl rfl (z_fl_get hj4) ?_
      refine Go.blk zk_X4_smallest [0, 0, 0] (z' := (23, [some (.ref m_p), some (.int v1), some (.int v2)], [.int v1, .ref (m_a 0), .ref (m_forms j4)], ([sIm m_p m_a m_forms m_image m_number, sFo (List.range 12) m_forms mf_a mf_v] : List ZW).flatten)) rfl ⟨rfl, trivial⟩ ?_
      obtain ⟨j5, hj5, h⟩ := z_bind h
      refine Go.aald zk_X4_smallest 1 rfl rfl rfl (z_fl_get hj5) ?_
      by_cases hj7 : j4 < 12
      case neg => rw [if_neg hj7] at h; cases h
      rw [if_pos hj7] at h
      refine Go.perm (w2 := ([sIm m_p m_a m_forms m_image m_number, sCe (m_forms j4) (mf_a j4) ((mf_v j4).1) ((mf_v j4).2), sFo (List.erase (List.range 12) j4) m_forms mf_a mf_v] : List ZW).flatten) (z_focP (n := 3) (A := [sIm m_p m_a m_forms m_image m_number]) (B := []) (E := [sCe (m_forms j4) (mf_a j4) ((mf_v j4).1) ((mf_v j4).2)]) (X2 := sFo (List.erase (List.range 12) j4) m_forms mf_a mf_v) (z_foFo (List.mem_range.mpr hj7)) [0, 1, 2] rfl rfl (by decide) rfl) ?_
      by_cases hj9 : j5 < 12
      case neg => rw [if_neg hj9] at h; cases h
      rw [if_pos hj9] at h
      by_cases hn10 : j5 = j4
      · rw [if_pos hn10] at h; cases h
      rw [if_neg hn10] at h
      refine Go.perm (w2 := ([sIm m_p m_a m_forms m_image m_number, sCe (m_forms j4) (mf_a j4) ((mf_v j4).1) ((mf_v j4).2), sCe (m_forms j5) (mf_a j5) ((mf_v j5).1) ((mf_v j5).2), sFo (List.erase (List.erase (List.range 12) j4) j5) m_forms mf_a mf_v] : List ZW).flatten) (z_focP (n := 4) (A := [sIm m_p m_a m_forms m_image m_number, sCe (m_forms j4) (mf_a j4) ((mf_v j4).1) ((mf_v j4).2)]) (B := []) (E := [sCe (m_forms j5) (mf_a j5) ((mf_v j5).1) ((mf_v j5).2)]) (X2 := sFo (List.erase (List.erase (List.range 12) j4) j5) m_forms mf_a mf_v) (z_foFo ((List.mem_erase_of_ne hn10).mpr (List.mem_range.mpr hj9))) [0, 1, 2, 3] rfl rfl (by decide) rfl) ?_
      obtain ⟨u11, hu11, h⟩ := z_bind h
      refine Go.vs zk_X4_smallest zm_X2_compareWith [1, 2] [0, 3] 0 2 4 (S := [sIm m_p m_a m_forms m_image m_number, sCe (m_forms j4) (mf_a j4) ((mf_v j4).1) ((mf_v j4).2), sCe (m_forms j5) (mf_a j5) ((mf_v j5).1) ((mf_v j5).2), sFo (List.erase (List.erase (List.range 12) j4) j5) m_forms mf_a mf_v]) (S2 := [sIm m_p m_a m_forms m_image m_number, sCe (m_forms j4) (mf_a j4) ((mf_v j4).1) ((mf_v j4).2), sCe (m_forms j5) (mf_a j5) ((mf_v j5).1) ((mf_v j5).2), sFo (List.erase (List.erase (List.range 12) j4) j5) m_forms mf_a mf_v]) (As := [.ref (m_forms j5)]) (rest := []) (st2 := [.int u11]) (v1 := some (.int u11)) rfl zl_X4_57 zv_X2_compareWith ⟨Nat.le_of_ble_eq_true rfl, Nat.le_of_ble_eq_true rfl⟩ rfl (by decide) rfl rfl rfl rfl rfl (Nat.le_of_ble_eq_true rfl) (t_X2_compareWith hu11) rfl rfl rfl ?_
      refine Go.perm (w2 := ([sIm m_p m_a m_forms m_image m_number, sCe (m_forms j4) (mf_a j4) ((mf_v j4).1) ((mf_v j4).2), sFo (List.erase (List.range 12) j4) m_forms mf_a mf_v] : List ZW).flatten) (z_focP (n := 4) (A := [sIm m_p m_a m_forms m_image m_number, sCe (m_forms j4) (mf_a j4) ((mf_v j4).1) ((mf_v j4).2)]) (B := []) (E := [sCe (m_forms j5) (mf_a j5) ((mf_v j5).1) ((mf_v j5).2)]) (X2 := sFo (List.erase (List.erase (List.range 12) j4) j5) m_forms mf_a mf_v) (z_foFo ((List.mem_erase_of_ne hn10).mpr (List.mem_range.mpr hj9))) [0, 1, 2, 3] rfl rfl (by decide) rfl).symm ?_
      refine Go.perm (w2 := ([sIm m_p m_a m_forms m_image m_number, sFo (List.range 12) m_forms mf_a mf_v] : List ZW).flatten) (z_focP (n := 3) (A := [sIm m_p m_a m_forms m_image m_number]) (B := []) (E := [sCe (m_forms j4) (mf_a j4) ((mf_v j4).1) ((mf_v j4).2)]) (X2 := sFo (List.erase (List.range 12) j4) m_forms mf_a mf_v) (z_foFo (List.mem_range.mpr hj7)) [0, 1, 2] rfl rfl (by decide) rfl).symm ?_
      by_cases hc12 : u11 < 0
      · rw [if_pos hc12] at h
        refine Go.br zk_X4_smallest rfl rfl (fun _ => ?_) (fun q => absurd hc12 q)
        refine Go.blk zk_X4_smallest [0, 0, 0, 0] (z' := (4, [some (.ref m_p), some (.int v2), some (.int (v2 + 1))], [], ([sIm m_p m_a m_forms m_image m_number, sFo (List.range 12) m_forms mf_a mf_v] : List ZW).flatten)) rfl trivial ?_
        exact ih _ _ _ h kk
      · rw [if_neg hc12] at h
        refine Go.br zk_X4_smallest rfl rfl (fun q => absurd q hc12) (fun _ => ?_)
        refine Go.blk zk_X4_smallest [0, 0] (z' := (4, [some (.ref m_p), some (.int v1), some (.int (v2 + 1))], [], ([sIm m_p m_a m_forms m_image m_number, sFo (List.range 12) m_forms mf_a mf_v] : List ZW).flatten)) rfl trivial ?_
        exact ih _ _ _ h kk
    · rw [if_neg hc3] at h
      refine Go.br zk_X4_smallest rfl rfl (fun q => absurd q hc3) (fun _ => ?_)
      obtain rfl := Option.some.inj h
      refine Go.weak (L := [some (.ref m_p), some (.int v1), some (.int v2)]) (L' := [some (.ref m_p), some (.int v1), none]) (And.intro rfl (And.intro rfl (trivial))) ?_
      exact kk
set_option maxHeartbeats 4000000 in
set_option maxRecDepth 100000 in
theorem t_X4_smallest {N : Nat} {m_p : Nat} {m_a : Nat → Nat} {m_forms : Nat → Nat} {m_image : Nat} {m_number : Int32} {mf_a : Nat → Nat → Nat} {mf_v : Nat → List Int32 × Int32} {u : Nat}  (h : f_X4_smallest N m_number mf_v = some u) : Ct l D r (z_rl xs) zm_X4_smallest 0 0 [.ref m_p] ([sIm m_p m_a m_forms m_image m_number, sFo (List.range 12) m_forms mf_a mf_v] : List ZW).flatten (fun v' w' => v' = some (.ref (m_forms u)) ∧ w' = ([sIm m_p m_a m_forms m_image m_number, sFo (List.range 12) m_forms mf_a mf_v] : List ZW).flatten) := by
  refine Ct.of (by decide +kernel) rfl (fun q => absurd q (by decide)) (Nat.le_of_ble_eq_true rfl) ?_
  refine Go.eqz (z2 := (0, [some (.ref m_p), none, none], [], ([sIm m_p m_a m_forms m_image m_number, sFo (List.range 12) m_forms mf_a mf_v] : List ZW).flatten)) rfl ?_
  unfold f_X4_smallest at h
  refine Go.blk zk_X4_smallest [0, 0, 0, 0] (z' := (4, [some (.ref m_p), some (.int 0), some (.int 1)], [], ([sIm m_p m_a m_forms m_image m_number, sFo (List.range 12) m_forms mf_a mf_v] : List ZW).flatten)) rfl trivial ?_
  obtain ⟨e13, he13, h⟩ := z_bind h
  refine t_X4_smallest_L4 N _ _ _ he13 ?_
  refine Go.blk zk_X4_smallest [0, 0, 0] (z' := (43, [some (.ref m_p), some (.int e13), none], [.int e13, .ref (m_a 0)], ([sIm m_p m_a m_forms m_image m_number, sFo (List.range 12) m_forms mf_a mf_v] : List ZW).flatten)) rfl ⟨rfl, trivial⟩ ?_
  obtain ⟨j14, hj14, h⟩ := z_bind h
  refine Go.aald zk_X4_smallest 1 rfl rfl rfl (z_fl_get hj14) ?_
  obtain rfl := Option.some.inj h
  exact Go.aret zk_X4_smallest rfl rfl ⟨rfl, rfl⟩
end
