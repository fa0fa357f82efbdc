section
variable {l : Launch} {D : va_G} {r : Nat → Nat} {xs : List Int32}
set_option maxHeartbeats 4000000 in
set_option maxRecDepth 100000 in
theorem t_X7_clear {N : Nat} {s_p : Nat} {s_a : Nat → Nat} {s_sights : List Int64} {s_counts : Nat} {s_number : Int32} {u : Int32}  (h : f_X7_clear N  = some u) : Ct l D r (z_rl xs) zm_X7_clear 0 0 [.ref s_p] ([sSg s_p s_a s_sights s_counts s_number] : List ZW).flatten (fun v' w' => v' = none ∧ w' = ([sSg s_p s_a s_sights s_counts u] : List ZW).flatten) := by
  refine Ct.of (by decide +kernel) rfl (fun q => absurd q (by decide)) (Nat.le_of_ble_eq_true rfl) ?_
  refine Go.eqz (z2 := (0, [some (.ref s_p)], [], ([sSg s_p s_a s_sights s_counts s_number] : List ZW).flatten)) rfl ?_
  unfold f_X7_clear at h
  refine Go.blk zk_X7_clear [0, 0] (z' := (2, [some (.ref s_p)], [.int 0, .ref s_p], ([sSg s_p s_a s_sights s_counts s_number] : List ZW).flatten)) rfl trivial ?_
  refine Go.put zk_X7_clear 0 rfl rfl rfl rfl rfl (Nat.le_of_ble_eq_true rfl) ?_
  refine Go.eqz (z2 := (5, [some (.ref s_p)], [], ([sSg s_p s_a s_sights s_counts 0] : List ZW).flatten)) rfl ?_
  obtain rfl := Option.some.inj h
  exact Go.vret zk_X7_clear rfl rfl ⟨rfl, rfl⟩
set_option maxHeartbeats 4000000 in
set_option maxRecDepth 100000 in
theorem t_X7_sightAt {N : Nat} {s_p : Nat} {s_a : Nat → Nat} {s_sights : List Int64} {s_counts : Nat} {s_number : Int32} {i1 : Int32} {u : Int64}  (h : f_X7_sightAt N i1 s_sights s_number = some u) : Ct l D r (z_rl xs) zm_X7_sightAt 0 0 [.ref s_p, .int i1] ([sSg s_p s_a s_sights s_counts s_number] : List ZW).flatten (fun v' w' => v' = some (.long u) ∧ w' = ([sSg s_p s_a s_sights s_counts s_number] : List ZW).flatten) := by
  refine Ct.of (by decide +kernel) rfl (fun q => absurd q (by decide)) (Nat.le_of_ble_eq_true rfl) ?_
  refine Go.eqz (z2 := (0, [some (.ref s_p), some (.int i1)], [], ([sSg s_p s_a s_sights s_counts s_number] : List ZW).flatten)) rfl ?_
  unfold f_X7_sightAt at h
  refine Go.blk zk_X7_sightAt [0] (z' := (1, [some (.ref s_p), some (.int i1)], [.int i1], ([sSg s_p s_a s_sights s_counts s_number] : List ZW).flatten)) rfl trivial ?_
  by_cases hc1 : i1 < 0
  · rw [if_pos hc1] at h
    refine Go.br zk_X7_sightAt rfl rfl (fun _ => ?_) (fun q => absurd hc1 q)
    refine Go.blk zk_X7_sightAt [0] (z' := (22, [some (.ref s_p), some (.int i1)], [.long 0], ([sSg s_p s_a s_sights s_counts s_number] : List ZW).flatten)) rfl trivial ?_
    obtain rfl := Option.some.inj h
    exact Go.lret zk_X7_sightAt rfl rfl ⟨rfl, rfl⟩
  · rw [if_neg hc1] at h
    refine Go.br zk_X7_sightAt rfl rfl (fun q => absurd q hc1) (fun _ => ?_)
    refine Go.blk zk_X7_sightAt [0, 0, 0] (z' := (9, [some (.ref s_p), some (.int i1)], [.int s_number, .int i1], ([sSg s_p s_a s_sights s_counts s_number] : List ZW).flatten)) rfl ⟨rfl, trivial⟩ ?_
    by_cases hc2 : i1 < s_number
    · rw [if_pos hc2] at h
      refine Go.br zk_X7_sightAt rfl rfl (fun _ => ?_) (fun q => absurd hc2 q)
      refine Go.blk zk_X7_sightAt [0, 0, 0] (z' := (17, [some (.ref s_p), some (.int i1)], [.int i1, .ref (s_a 0)], ([sSg s_p s_a s_sights s_counts s_number] : List ZW).flatten)) rfl ⟨rfl, trivial⟩ ?_
      obtain ⟨x3, hx3, h⟩ := z_bind h
      refine Go.lald zk_X7_sightAt 1 rfl rfl rfl hx3 ?_
      refine Go.blk zk_X7_sightAt [0] (z' := (22, [some (.ref s_p), some (.int i1)], [.long x3], ([sSg s_p s_a s_sights s_counts s_number] : List ZW).flatten)) rfl trivial ?_
      obtain rfl := Option.some.inj h
      exact Go.lret zk_X7_sightAt rfl rfl ⟨rfl, rfl⟩
    · rw [if_neg hc2] at h
      refine Go.br zk_X7_sightAt rfl rfl (fun q => absurd q hc2) (fun _ => ?_)
      refine Go.blk zk_X7_sightAt [0] (z' := (22, [some (.ref s_p), some (.int i1)], [.long 0], ([sSg s_p s_a s_sights s_counts s_number] : List ZW).flatten)) rfl trivial ?_
      obtain rfl := Option.some.inj h
      exact Go.lret zk_X7_sightAt rfl rfl ⟨rfl, rfl⟩
set_option maxHeartbeats 4000000 in
set_option maxRecDepth 100000 in
theorem t_X7_rowOf_L2 {N : Nat} {s_p : Nat} {s_a : Nat → Nat} {s_sights : List Int64} {s_number : Int32} {c_p : Nat} {c_v : List Int32} {v1 : Int64}  {Q : Option Value → ZW → Prop} : ∀ (fu : Nat) (v3 : Int32) (o : (Unit) ⊕ (Int32 × (List Int64) × Int32 × (List Int32))), f_X7_rowOf_L2 N v1 s_sights s_number c_v fu v3 = some o → (∀ e, o = .inl e → Go l D r (z_rl xs) zm_X7_rowOf 0 0 (29, [some (.ref s_p), some (.long v1), none, none], [], ([sSg s_p s_a s_sights c_p s_number, sAr c_p c_v] : List ZW).flatten) Q) → (∀ e, o = .inr e → Q (some (.int e.1)) ([sSg s_p s_a e.2.1 c_p e.2.2.1, sAr c_p e.2.2.2] : List ZW).flatten) → Go l D r (z_rl xs) zm_X7_rowOf 0 0 (2, [some (.ref s_p), some (.long v1), none, some (.int v3)], [], ([sSg s_p s_a s_sights c_p s_number, sAr c_p c_v] : List ZW).flatten) Q := by
  intro fu
  induction fu with
  | zero =>
    intro v3 o h
    simp only [f_X7_rowOf_L2, reduceCtorEq] at h
  | succ fu ih =>
    intro v3 o h k1 k2
    rw [f_X7_rowOf_L2] at h
    refine Go.blk zk_X7_rowOf [0, 0, 0] (z' := (7, [some (.ref s_p), some (.long v1), none, some (.int v3)], [.int s_number, .int v3], ([sSg s_p s_a s_sights c_p s_number, sAr c_p c_v] : List ZW).flatten)) rfl ⟨rfl, trivial⟩ ?_
    by_cases hc1 : v3 < s_number
    · rw [if_pos hc1] at h
      refine Go.br zk_X7_rowOf rfl rfl (fun _ => ?_) (fun q => absurd hc1 q)
      refine Go.blk zk_X7_rowOf [0, 0, 0] (z' := (15, [some (.ref s_p), some (.long v1), none, some (.int v3)], [.int v3, .ref (s_a 0)], ([sSg s_p s_a s_sights c_p s_number, sAr c_p c_v] : List ZW).flatten)) rfl ⟨rfl, trivial⟩ ?_
      obtain ⟨x2, hx2, h⟩ := z_bind h
      refine Go.lald zk_X7_rowOf 1 rfl rfl rfl hx2 ?_
      refine Go.blk zk_X7_rowOf [0, 0] (z' := (18, [some (.ref s_p), some (.long v1), none, some (.int v3)], [.int (lg_cmp x2 v1)], ([sSg s_p s_a s_sights c_p s_number, sAr c_p c_v] : List ZW).flatten)) rfl trivial ?_
      by_cases hc3 : (lg_cmp x2 v1) = 0
      · rw [if_pos hc3] at h
        refine Go.br zk_X7_rowOf rfl rfl (fun _ => ?_) (fun q => absurd hc3 q)
        refine Go.blk zk_X7_rowOf [0] (z' := (22, [some (.ref s_p), some (.long v1), none, some (.int v3)], [.int v3], ([sSg s_p s_a s_sights c_p s_number, sAr c_p c_v] : List ZW).flatten)) rfl trivial ?_
        obtain rfl := Option.some.inj h
        exact Go.iret zk_X7_rowOf rfl rfl rfl (k2 _ rfl)
      · rw [if_neg hc3] at h
        refine Go.br zk_X7_rowOf rfl rfl (fun q => absurd q hc3) (fun _ => ?_)
        refine Go.blk zk_X7_rowOf [0, 0] (z' := (2, [some (.ref s_p), some (.long v1), none, some (.int (v3 + 1))], [], ([sSg s_p s_a s_sights c_p s_number, sAr c_p c_v] : List ZW).flatten)) rfl trivial ?_
        exact ih _ _ h k1 k2
    · rw [if_neg hc1] at h
      refine Go.br zk_X7_rowOf rfl rfl (fun q => absurd q hc1) (fun _ => ?_)
      obtain rfl := Option.some.inj h
      refine Go.weak (L := [some (.ref s_p), some (.long v1), none, some (.int v3)]) (L' := [some (.ref s_p), some (.long v1), none, none]) (And.intro rfl (And.intro rfl (trivial))) ?_
      exact k1 _ rfl
set_option maxHeartbeats 4000000 in
set_option maxRecDepth 100000 in
theorem t_X7_rowOf_L52 {N : Nat} {s_p : Nat} {s_a : Nat → Nat} {s_sights : List Int64} {s_number : Int32} {c_p : Nat}  {Q : Option Value → ZW → Prop} : ∀ (fu : Nat) (v3 : Int32) (c_v : List Int32) (e : (List Int32)), f_X7_rowOf_L52 N s_number fu v3 c_v = some e → (Go l D r (z_rl xs) zm_X7_rowOf 0 0 (79, [some (.ref s_p), none, none, none], [], ([sSg s_p s_a s_sights c_p s_number, sAr c_p e] : List ZW).flatten) Q) → Go l D r (z_rl xs) zm_X7_rowOf 0 0 (52, [some (.ref s_p), none, none, some (.int v3)], [], ([sSg s_p s_a s_sights c_p s_number, sAr c_p c_v] : List ZW).flatten) Q := by
  intro fu
  induction fu with
  | zero =>
    intro v3 c_v e h
    simp only [f_X7_rowOf_L52, reduceCtorEq] at h
  | succ fu ih =>
    intro v3 c_v e h kk
    rw [f_X7_rowOf_L52] at h
    refine Go.blk zk_X7_rowOf [0, 0] (z' := (55, [some (.ref s_p), none, none, some (.int v3)], [.int 21, .int v3], ([sSg s_p s_a s_sights c_p s_number, sAr c_p c_v] : List ZW).flatten)) rfl trivial ?_
    by_cases hc9 : v3 < 21
    · rw [if_pos hc9] at h
      refine Go.br zk_X7_rowOf rfl rfl (fun _ => ?_) (fun q => absurd hc9 q)
      refine Go.blk zk_X7_rowOf [0, 0, 0, 0, 0, 0, 0, 0, 0] (z' := (72, [some (.ref s_p), none, none, some (.int v3)], [.int 0, .int ((s_number * 21) + v3), .ref c_p], ([sSg s_p s_a s_sights c_p s_number, sAr c_p c_v] : List ZW).flatten)) rfl ⟨rfl, rfl, trivial⟩ ?_
      obtain ⟨t10, ht10, h⟩ := z_bind h
      refine Go.iast zk_X7_rowOf 2 rfl rfl rfl ht10 ?_
      refine Go.eqz (z2 := (73, [some (.ref s_p), none, none, some (.int v3)], [], ([sSg s_p s_a s_sights c_p s_number, sAr c_p t10] : List ZW).flatten)) rfl ?_
      refine Go.blk zk_X7_rowOf [0, 0] (z' := (52, [some (.ref s_p), none, none, some (.int (v3 + 1))], [], ([sSg s_p s_a s_sights c_p s_number, sAr c_p t10] : List ZW).flatten)) rfl trivial ?_
      exact ih _ _ _ h kk
    · rw [if_neg hc9] at h
      refine Go.br zk_X7_rowOf rfl rfl (fun q => absurd q hc9) (fun _ => ?_)
      obtain rfl := Option.some.inj h
      refine Go.weak (L := [some (.ref s_p), none, none, some (.int v3)]) (L' := [some (.ref s_p), none, none, none]) (And.intro rfl (trivial)) ?_
      exact kk
set_option maxHeartbeats 4000000 in
set_option maxRecDepth 100000 in
theorem t_X7_rowOf {N : Nat} {s_p : Nat} {s_a : Nat → Nat} {s_sights : List Int64} {s_number : Int32} {c_p : Nat} {c_v : List Int32} {j1 : Int64} {u : Int32 × (List Int64) × Int32 × (List Int32)}  (h : f_X7_rowOf N j1 s_sights s_number c_v = some u) : Ct l D r (z_rl xs) zm_X7_rowOf 0 0 [.ref s_p, .long j1] ([sSg s_p s_a s_sights c_p s_number, sAr c_p c_v] : List ZW).flatten (fun v' w' => v' = some (.int u.1) ∧ w' = ([sSg s_p s_a u.2.1 c_p u.2.2.1, sAr c_p u.2.2.2] : List ZW).flatten) := by
  refine Ct.of (by decide +kernel) rfl (fun q => absurd q (by decide)) (Nat.le_of_ble_eq_true rfl) ?_
  refine Go.eqz (z2 := (0, [some (.ref s_p), some (.long j1), none, none], [], ([sSg s_p s_a s_sights c_p s_number, sAr c_p c_v] : List ZW).flatten)) rfl ?_
  unfold f_X7_rowOf at h
  refine Go.blk zk_X7_rowOf [0, 0] (z' := (2, [some (.ref s_p), some (.long j1), none, some (.int 0)], [], ([sSg s_p s_a s_sights c_p s_number, sAr c_p c_v] : List ZW).flatten)) rfl trivial ?_
  obtain ⟨o5, he4, h⟩ := z_bind h
  cases o5 with
  | inl e4 =>
    simp only [Sum.elim_inl] at h
    refine t_X7_rowOf_L2 N _ _ he4 (fun _ q => ?_) (fun _ q => nomatch q)
    obtain rfl := Sum.inl.inj q
    refine Go.blk zk_X7_rowOf [0, 0, 0] (z' := (35, [some (.ref s_p), some (.long j1), none, none], [.int 32, .int s_number], ([sSg s_p s_a s_sights c_p s_number, sAr c_p c_v] : List ZW).flatten)) rfl ⟨rfl, trivial⟩ ?_
    by_cases hc7 : s_number < 32
    · rw [if_pos hc7] at h
      refine Go.br zk_X7_rowOf rfl rfl (fun _ => ?_) (fun q => absurd hc7 q)
      refine Go.blk zk_X7_rowOf [0, 0, 0, 0, 0] (z' := (49, [some (.ref s_p), some (.long j1), none, none], [.long j1, .int s_number, .ref (s_a 0)], ([sSg s_p s_a s_sights c_p s_number, sAr c_p c_v] : List ZW).flatten)) rfl ⟨rfl, rfl, trivial⟩ ?_
      obtain ⟨t8, ht8, h⟩ := z_bind h
      refine Go.last zk_X7_rowOf 1 rfl rfl rfl ht8 ?_
      refine Go.eqz (z2 := (50, [some (.ref s_p), some (.long j1), none, none], [], ([sSg s_p s_a t8 c_p s_number, sAr c_p c_v] : List ZW).flatten)) rfl ?_
      refine Go.blk zk_X7_rowOf [0, 0] (z' := (52, [some (.ref s_p), some (.long j1), none, some (.int 0)], [], ([sSg s_p s_a t8 c_p s_number, sAr c_p c_v] : List ZW).flatten)) rfl trivial ?_
      refine Go.weak (L := [some (.ref s_p), some (.long j1), none, some (.int 0)]) (L' := [some (.ref s_p), none, none, some (.int 0)]) (And.intro rfl (And.intro rfl (trivial))) ?_
      obtain ⟨e11, he11, h⟩ := z_bind h
      refine t_X7_rowOf_L52 N _ _ _ he11 ?_
      refine Go.blk zk_X7_rowOf [0, 0, 0, 0, 0] (z' := (86, [some (.ref s_p), none, none, none], [.int (s_number + 1), .ref s_p], ([sSg s_p s_a t8 c_p s_number, sAr c_p e11] : List ZW).flatten)) rfl ⟨rfl, trivial⟩ ?_
      refine Go.put zk_X7_rowOf 0 rfl rfl rfl rfl rfl (Nat.le_of_ble_eq_true rfl) ?_
      refine Go.eqz (z2 := (89, [some (.ref s_p), none, none, none], [], ([sSg s_p s_a t8 c_p (s_number + 1), sAr c_p e11] : List ZW).flatten)) rfl ?_
      refine Go.blk zk_X7_rowOf [0, 0, 0, 0] (z' := (95, [some (.ref s_p), none, none, none], [.int ((s_number + 1) - 1)], ([sSg s_p s_a t8 c_p (s_number + 1), sAr c_p e11] : List ZW).flatten)) rfl ⟨rfl, trivial⟩ ?_
      obtain rfl := Option.some.inj h
      exact Go.iret zk_X7_rowOf rfl rfl rfl ⟨rfl, rfl⟩
    · rw [if_neg hc7] at h
      refine Go.br zk_X7_rowOf rfl rfl (fun q => absurd q hc7) (fun _ => ?_)
      refine Go.blk zk_X7_rowOf [0] (z' := (39, [some (.ref s_p), some (.long j1), none, none], [.int (-1)], ([sSg s_p s_a s_sights c_p s_number, sAr c_p c_v] : List ZW).flatten)) rfl trivial ?_
      obtain rfl := Option.some.inj h
      exact Go.iret zk_X7_rowOf rfl rfl rfl ⟨rfl, rfl⟩
  | inr u6 =>
    simp only [Sum.elim_inr] at h
    obtain rfl := Option.some.inj h
    refine t_X7_rowOf_L2 N _ _ he4 (fun _ q => nomatch q) (fun _ q => ?_)
    obtain rfl := Sum.inr.inj q
    exact ⟨rfl, rfl⟩
set_option maxHeartbeats 4000000 in
set_option maxRecDepth 100000 in
theorem t_X7_startEmpty {N : Nat} {s_p : Nat} {s_a : Nat → Nat} {s_sights : List Int64} {s_number : Int32} {c_p : Nat} {c_v : List Int32} {u : (List Int64) × Int32 × (List Int32)}  (h : f_X7_startEmpty N s_sights s_number c_v = some u) : Ct l D r (z_rl xs) zm_X7_startEmpty 0 0 [.ref s_p] ([sSg s_p s_a s_sights c_p s_number, sAr c_p c_v] : List ZW).flatten (fun v' w' => v' = none ∧ w' = ([sSg s_p s_a u.1 c_p u.2.1, sAr c_p u.2.2] : List ZW).flatten) := by
  refine Ct.of (by decide +kernel) rfl (fun q => absurd q (by decide)) (Nat.le_of_ble_eq_true rfl) ?_
  refine Go.eqz (z2 := (0, [some (.ref s_p), none], [], ([sSg s_p s_a s_sights c_p s_number, sAr c_p c_v] : List ZW).flatten)) rfl ?_
  unfold f_X7_startEmpty at h
  refine Go.blk zk_X7_startEmpty [0, 0] (z' := (2, [some (.ref s_p), none], [.long 0, .ref s_p], ([sSg s_p s_a s_sights c_p s_number, sAr c_p c_v] : List ZW).flatten)) rfl trivial ?_
  obtain ⟨u1, hu1, h⟩ := z_bind h
  refine Go.vs zk_X7_startEmpty zm_X7_rowOf [0, 1] [] 0 7 2 (S := [sSg s_p s_a s_sights c_p s_number, sAr c_p c_v]) (S2 := [sSg s_p s_a u1.2.1 c_p u1.2.2.1, sAr c_p u1.2.2.2]) (As := [.long 0]) (rest := []) (st2 := [.int u1.1]) (v1 := some (.int u1.1)) rfl zl_X7_23 zv_X7_rowOf ⟨Nat.le_of_ble_eq_true rfl, Nat.le_of_ble_eq_true rfl⟩ rfl (by decide) rfl rfl rfl rfl rfl (Nat.le_of_ble_eq_true rfl) (t_X7_rowOf hu1) rfl rfl rfl ?_
  refine Go.blk zk_X7_startEmpty [0, 0] (z' := (7, [some (.ref s_p), some (.int u1.1)], [.int u1.1], ([sSg s_p s_a u1.2.1 c_p u1.2.2.1, sAr c_p u1.2.2.2] : List ZW).flatten)) rfl trivial ?_
  by_cases hc2 : u1.1 < 0
  · rw [if_pos hc2] at h
    refine Go.br zk_X7_startEmpty rfl rfl (fun _ => ?_) (fun q => absurd hc2 q)
    obtain rfl := Option.some.inj h
    exact Go.vret zk_X7_startEmpty rfl rfl ⟨rfl, rfl⟩
  · rw [if_neg hc2] at h
    refine Go.br zk_X7_startEmpty rfl rfl (fun q => absurd q hc2) (fun _ => ?_)
    refine Go.blk zk_X7_startEmpty [0, 0, 0, 0, 0, 0] (z' := (19, [some (.ref s_p), some (.int u1.1)], [.int 1, .int (u1.1 * 21), .ref c_p], ([sSg s_p s_a u1.2.1 c_p u1.2.2.1, sAr c_p u1.2.2.2] : List ZW).flatten)) rfl ⟨rfl, trivial⟩ ?_
    obtain ⟨t3, ht3, h⟩ := z_bind h
    refine Go.iast zk_X7_startEmpty 2 rfl rfl rfl ht3 ?_
    refine Go.eqz (z2 := (20, [some (.ref s_p), some (.int u1.1)], [], ([sSg s_p s_a u1.2.1 c_p u1.2.2.1, sAr c_p t3] : List ZW).flatten)) rfl ?_
    obtain rfl := Option.some.inj h
    exact Go.vret zk_X7_startEmpty rfl rfl ⟨rfl, rfl⟩
set_option maxHeartbeats 4000000 in
set_option maxRecDepth 100000 in
theorem t_X7_addSizes_L34 {N : Nat} {s_p : Nat} {s_a : Nat → Nat} {s_sights : List Int64} {s_number : Int32} {c_p : Nat} {c_v : List Int32} {x_p : Nat} {v2 : Int32} {v3 : Int32} {v4 : Int32}  {Q : Option Value → ZW → Prop} : ∀ (fu : Nat) (v5 : Int32) (x_v : List Int32) (e : (List Int32)), f_X7_addSizes_L34 N v2 v3 v4 c_v fu v5 x_v = some e → (Go l D r (z_rl xs) zm_X7_addSizes 0 0 (74, [none, none, none, none, none, none], [], ([sSg s_p s_a s_sights c_p s_number, sAr c_p c_v, sAr x_p e] : List ZW).flatten) Q) → Go l D r (z_rl xs) zm_X7_addSizes 0 0 (34, [some (.ref s_p), some (.ref x_p), some (.int v2), some (.int v3), some (.int v4), some (.int v5)], [], ([sSg s_p s_a s_sights c_p s_number, sAr c_p c_v, sAr x_p x_v] : List ZW).flatten) Q := by
  intro fu
  induction fu with
  | zero =>
    intro v5 x_v e h
    simp only [f_X7_addSizes_L34, reduceCtorEq] at h
  | succ fu ih =>
    intro v5 x_v e h kk
    rw [f_X7_addSizes_L34] at h
    refine Go.blk zk_X7_addSizes [0, 0, 0, 0] (z' := (41, [some (.ref s_p), some (.ref x_p), some (.int v2), some (.int v3), some (.int v4), some (.int v5)], [.int 21, .int (v5 + v4)], ([sSg s_p s_a s_sights c_p s_number, sAr c_p c_v, sAr x_p x_v] : List ZW).flatten)) rfl trivial ?_
    by_cases hc6 : (v5 + v4) < 21
    · rw [if_pos hc6] at h
      refine Go.br zk_X7_addSizes rfl rfl (fun _ => ?_) (fun q => absurd hc6 q)
      refine Go.blk zk_X7_addSizes [0, 0, 0, 0, 0, 0, 0] (z' := (53, [some (.ref s_p), some (.ref x_p), some (.int v2), some (.int v3), some (.int v4), some (.int v5)], [.int ((v2 + v5) + v4), .ref x_p, .int ((v2 + v5) + v4), .ref x_p], ([sSg s_p s_a s_sights c_p s_number, sAr c_p c_v, sAr x_p x_v] : List ZW).flatten)) rfl trivial ?_
      obtain ⟨x7, hx7, h⟩ := z_bind h
      refine Go.iald zk_X7_addSizes 3 rfl rfl rfl hx7 ?_
      refine Go.blk zk_X7_addSizes [0, 0, 0, 0, 0, 0, 0] (z' := (65, [some (.ref s_p), some (.ref x_p), some (.int v2), some (.int v3), some (.int v4), some (.int v5)], [.int ((v3 * 21) + v5), .ref c_p, .int x7, .int ((v2 + v5) + v4), .ref x_p], ([sSg s_p s_a s_sights c_p s_number, sAr c_p c_v, sAr x_p x_v] : List ZW).flatten)) rfl ⟨rfl, trivial⟩ ?_
      obtain ⟨x8, hx8, h⟩ := z_bind h
      refine Go.iald zk_X7_addSizes 2 rfl rfl rfl hx8 ?_
      refine Go.blk zk_X7_addSizes [0] (z' := (67, [some (.ref s_p), some (.ref x_p), some (.int v2), some (.int v3), some (.int v4), some (.int v5)], [.int (x7 + x8), .int ((v2 + v5) + v4), .ref x_p], ([sSg s_p s_a s_sights c_p s_number, sAr c_p c_v, sAr x_p x_v] : List ZW).flatten)) rfl trivial ?_
      obtain ⟨t9, ht9, h⟩ := z_bind h
      refine Go.iast zk_X7_addSizes 3 rfl rfl rfl ht9 ?_
      refine Go.eqz (z2 := (68, [some (.ref s_p), some (.ref x_p), some (.int v2), some (.int v3), some (.int v4), some (.int v5)], [], ([sSg s_p s_a s_sights c_p s_number, sAr c_p c_v, sAr x_p t9] : List ZW).flatten)) rfl ?_
      refine Go.blk zk_X7_addSizes [0, 0] (z' := (34, [some (.ref s_p), some (.ref x_p), some (.int v2), some (.int v3), some (.int v4), some (.int (v5 + 1))], [], ([sSg s_p s_a s_sights c_p s_number, sAr c_p c_v, sAr x_p t9] : List ZW).flatten)) rfl trivial ?_
      exact ih _ _ _ h kk
    · rw [if_neg hc6] at h
      refine Go.br zk_X7_addSizes rfl rfl (fun q => absurd q hc6) (fun _ => ?_)
      obtain rfl := Option.some.inj h
      refine Go.weak (L := [some (.ref s_p), some (.ref x_p), some (.int v2), some (.int v3), some (.int v4), some (.int v5)]) (L' := [none, none, none, none, none, none]) (trivial) ?_
      exact kk
set_option maxHeartbeats 4000000 in
set_option maxRecDepth 100000 in
theorem t_X7_addSizes {N : Nat} {s_p : Nat} {s_a : Nat → Nat} {s_sights : List Int64} {s_number : Int32} {c_p : Nat} {c_v : List Int32} {x_p : Nat} {x_v : List Int32} {i2 : Int32} {i3 : Int32} {i4 : Int32} {u : (List Int32)}  (h : f_X7_addSizes N i2 i3 i4 s_number c_v x_v = some u) : Ct l D r (z_rl xs) zm_X7_addSizes 0 0 [.ref s_p, .ref x_p, .int i2, .int i3, .int i4] ([sSg s_p s_a s_sights c_p s_number, sAr c_p c_v, sAr x_p x_v] : List ZW).flatten (fun v' w' => v' = none ∧ w' = ([sSg s_p s_a s_sights c_p s_number, sAr c_p c_v, sAr x_p u] : List ZW).flatten) := by
  refine Ct.of (by decide +kernel) rfl (fun q => absurd q (by decide)) (Nat.le_of_ble_eq_true rfl) ?_
  refine Go.eqz (z2 := (0, [some (.ref s_p), some (.ref x_p), some (.int i2), some (.int i3), some (.int i4), none], [], ([sSg s_p s_a s_sights c_p s_number, sAr c_p c_v, sAr x_p x_v] : List ZW).flatten)) rfl ?_
  unfold f_X7_addSizes at h
  refine Go.blk zk_X7_addSizes [0] (z' := (1, [some (.ref s_p), some (.ref x_p), some (.int i2), some (.int i3), some (.int i4), none], [.int i3], ([sSg s_p s_a s_sights c_p s_number, sAr c_p c_v, sAr x_p x_v] : List ZW).flatten)) rfl trivial ?_
  by_cases hc1 : i3 < 0
  · rw [if_pos hc1] at h
    refine Go.br zk_X7_addSizes rfl rfl (fun _ => ?_) (fun q => absurd hc1 q)
    obtain rfl := Option.some.inj h
    exact Go.vret zk_X7_addSizes rfl rfl ⟨rfl, rfl⟩
  · rw [if_neg hc1] at h
    refine Go.br zk_X7_addSizes rfl rfl (fun q => absurd q hc1) (fun _ => ?_)
    refine Go.blk zk_X7_addSizes [0, 0, 0] (z' := (9, [some (.ref s_p), some (.ref x_p), some (.int i2), some (.int i3), some (.int i4), none], [.int s_number, .int i3], ([sSg s_p s_a s_sights c_p s_number, sAr c_p c_v, sAr x_p x_v] : List ZW).flatten)) rfl ⟨rfl, trivial⟩ ?_
    by_cases hc2 : i3 < s_number
    · rw [if_pos hc2] at h
      refine Go.br zk_X7_addSizes rfl rfl (fun _ => ?_) (fun q => absurd hc2 q)
      refine Go.blk zk_X7_addSizes [0] (z' := (14, [some (.ref s_p), some (.ref x_p), some (.int i2), some (.int i3), some (.int i4), none], [.int i4], ([sSg s_p s_a s_sights c_p s_number, sAr c_p c_v, sAr x_p x_v] : List ZW).flatten)) rfl trivial ?_
      by_cases hc3 : i4 < 0
      · rw [if_pos hc3] at h
        refine Go.br zk_X7_addSizes rfl rfl (fun _ => ?_) (fun q => absurd hc3 q)
        obtain rfl := Option.some.inj h
        exact Go.vret zk_X7_addSizes rfl rfl ⟨rfl, rfl⟩
      · rw [if_neg hc3] at h
        refine Go.br zk_X7_addSizes rfl rfl (fun q => absurd q hc3) (fun _ => ?_)
        refine Go.blk zk_X7_addSizes [0] (z' := (18, [some (.ref s_p), some (.ref x_p), some (.int i2), some (.int i3), some (.int i4), none], [.int i2], ([sSg s_p s_a s_sights c_p s_number, sAr c_p c_v, sAr x_p x_v] : List ZW).flatten)) rfl trivial ?_
        by_cases hc4 : i2 < 0
        · rw [if_pos hc4] at h
          refine Go.br zk_X7_addSizes rfl rfl (fun _ => ?_) (fun q => absurd hc4 q)
          obtain rfl := Option.some.inj h
          exact Go.vret zk_X7_addSizes rfl rfl ⟨rfl, rfl⟩
        · rw [if_neg hc4] at h
          refine Go.br zk_X7_addSizes rfl rfl (fun q => absurd q hc4) (fun _ => ?_)
          refine Go.blk zk_X7_addSizes [0, 0, 0, 0, 3] (z' := (27, [some (.ref s_p), some (.ref x_p), some (.int i2), some (.int i3), some (.int i4), none], [.int (Int32.ofNat (List.length x_v)), .int (i2 + 21)], ([sSg s_p s_a s_sights c_p s_number, sAr c_p c_v, sAr x_p x_v] : List ZW).flatten)) rfl ⟨rfl, trivial⟩ ?_
          by_cases hc5 : (Int32.ofNat (List.length x_v)) < (i2 + 21)
          · rw [if_pos hc5] at h
            refine Go.br zk_X7_addSizes rfl rfl (fun _ => ?_) (fun q => absurd hc5 q)
            obtain rfl := Option.some.inj h
            exact Go.vret zk_X7_addSizes rfl rfl ⟨rfl, rfl⟩
          · rw [if_neg hc5] at h
            refine Go.br zk_X7_addSizes rfl rfl (fun q => absurd q hc5) (fun _ => ?_)
            refine Go.blk zk_X7_addSizes [0, 0] (z' := (34, [some (.ref s_p), some (.ref x_p), some (.int i2), some (.int i3), some (.int i4), some (.int 0)], [], ([sSg s_p s_a s_sights c_p s_number, sAr c_p c_v, sAr x_p x_v] : List ZW).flatten)) rfl trivial ?_
            obtain ⟨e10, he10, h⟩ := z_bind h
            refine t_X7_addSizes_L34 N _ _ _ he10 ?_
            obtain rfl := Option.some.inj h
            exact Go.vret zk_X7_addSizes rfl rfl ⟨rfl, rfl⟩
    · rw [if_neg hc2] at h
      refine Go.br zk_X7_addSizes rfl rfl (fun q => absurd q hc2) (fun _ => ?_)
      obtain rfl := Option.some.inj h
      exact Go.vret zk_X7_addSizes rfl rfl ⟨rfl, rfl⟩
set_option maxHeartbeats 4000000 in
set_option maxRecDepth 100000 in
theorem t_X7_addTo_L12 {N : Nat} {s_p : Nat} {s_a : Nat → Nat} {s_sights : List Int64} {s_number : Int32} {c_p : Nat} {c_v : List Int32} {x_p : Nat} {v2 : Int32} {v3 : Int32} {v4 : Int32}  {Q : Option Value → ZW → Prop} : ∀ (fu : Nat) (v5 : Int32) (x_v : List Int32) (e : (List Int32)), f_X7_addTo_L12 N v2 v3 v4 s_number c_v fu v5 x_v = some e → (Go l D r (z_rl xs) zm_X7_addTo 0 0 (68, [none, none, none, none, none, none], [], ([sSg s_p s_a s_sights c_p s_number, sAr c_p c_v, sAr x_p e] : List ZW).flatten) Q) → Go l D r (z_rl xs) zm_X7_addTo 0 0 (12, [some (.ref s_p), some (.ref x_p), some (.int v2), some (.int v3), some (.int v4), some (.int v5)], [], ([sSg s_p s_a s_sights c_p s_number, sAr c_p c_v, sAr x_p x_v] : List ZW).flatten) Q := by
  intro fu
  induction fu with
  | zero =>
    intro v5 x_v e h
    simp only [f_X7_addTo_L12, reduceCtorEq] at h
  | succ fu ih =>
    intro v5 x_v e h kk
    rw [f_X7_addTo_L12] at h
    refine Go.blk zk_X7_addTo [0, 0, 0, 0] (z' := (19, [some (.ref s_p), some (.ref x_p), some (.int v2), some (.int v3), some (.int v4), some (.int v5)], [.int (21 - v4), .int v5], ([sSg s_p s_a s_sights c_p s_number, sAr c_p c_v, sAr x_p x_v] : List ZW).flatten)) rfl trivial ?_
    by_cases hc2 : v5 < (21 - v4)
    · rw [if_pos hc2] at h
      refine Go.br zk_X7_addTo rfl rfl (fun _ => ?_) (fun q => absurd hc2 q)
      refine Go.blk zk_X7_addTo [0] (z' := (23, [some (.ref s_p), some (.ref x_p), some (.int v2), some (.int v3), some (.int v4), some (.int v5)], [.int v3], ([sSg s_p s_a s_sights c_p s_number, sAr c_p c_v, sAr x_p x_v] : List ZW).flatten)) rfl trivial ?_
      by_cases hc3 : v3 < 0
      · rw [if_pos hc3] at h
        refine Go.br zk_X7_addTo rfl rfl (fun _ => ?_) (fun q => absurd hc3 q)
        refine Go.blk zk_X7_addTo [0, 0] (z' := (12, [some (.ref s_p), some (.ref x_p), some (.int v2), some (.int v3), some (.int v4), some (.int (v5 + 1))], [], ([sSg s_p s_a s_sights c_p s_number, sAr c_p c_v, sAr x_p x_v] : List ZW).flatten)) rfl trivial ?_
        exact ih _ _ _ h kk
      · rw [if_neg hc3] at h
        refine Go.br zk_X7_addTo rfl rfl (fun q => absurd q hc3) (fun _ => ?_)
        refine Go.blk zk_X7_addTo [0, 0, 0] (z' := (31, [some (.ref s_p), some (.ref x_p), some (.int v2), some (.int v3), some (.int v4), some (.int v5)], [.int s_number, .int v3], ([sSg s_p s_a s_sights c_p s_number, sAr c_p c_v, sAr x_p x_v] : List ZW).flatten)) rfl ⟨rfl, trivial⟩ ?_
        by_cases hc4 : v3 < s_number
        · rw [if_pos hc4] at h
          refine Go.br zk_X7_addTo rfl rfl (fun _ => ?_) (fun q => absurd hc4 q)
          refine Go.blk zk_X7_addTo [0] (z' := (35, [some (.ref s_p), some (.ref x_p), some (.int v2), some (.int v3), some (.int v4), some (.int v5)], [.int v2], ([sSg s_p s_a s_sights c_p s_number, sAr c_p c_v, sAr x_p x_v] : List ZW).flatten)) rfl trivial ?_
          by_cases hc5 : v2 < 0
          · rw [if_pos hc5] at h
            refine Go.br zk_X7_addTo rfl rfl (fun _ => ?_) (fun q => absurd hc5 q)
            refine Go.blk zk_X7_addTo [0, 0] (z' := (12, [some (.ref s_p), some (.ref x_p), some (.int v2), some (.int v3), some (.int v4), some (.int (v5 + 1))], [], ([sSg s_p s_a s_sights c_p s_number, sAr c_p c_v, sAr x_p x_v] : List ZW).flatten)) rfl trivial ?_
            exact ih _ _ _ h kk
          · rw [if_neg hc5] at h
            refine Go.br zk_X7_addTo rfl rfl (fun q => absurd q hc5) (fun _ => ?_)
            refine Go.blk zk_X7_addTo [0, 0, 3] (z' := (41, [some (.ref s_p), some (.ref x_p), some (.int v2), some (.int v3), some (.int v4), some (.int v5)], [.int (Int32.ofNat (List.length x_v)), .int v2], ([sSg s_p s_a s_sights c_p s_number, sAr c_p c_v, sAr x_p x_v] : List ZW).flatten)) rfl ⟨rfl, trivial⟩ ?_
            by_cases hc6 : v2 < (Int32.ofNat (List.length x_v))
            · rw [if_pos hc6] at h
              refine Go.br zk_X7_addTo rfl rfl (fun _ => ?_) (fun q => absurd hc6 q)
              refine Go.blk zk_X7_addTo [0, 0, 0] (z' := (47, [some (.ref s_p), some (.ref x_p), some (.int v2), some (.int v3), some (.int v4), some (.int v5)], [.int v2, .ref x_p, .int v2, .ref x_p], ([sSg s_p s_a s_sights c_p s_number, sAr c_p c_v, sAr x_p x_v] : List ZW).flatten)) rfl trivial ?_
              obtain ⟨x7, hx7, h⟩ := z_bind h
              refine Go.iald zk_X7_addTo 3 rfl rfl rfl hx7 ?_
              refine Go.blk zk_X7_addTo [0, 0, 0, 0, 0, 0, 0] (z' := (59, [some (.ref s_p), some (.ref x_p), some (.int v2), some (.int v3), some (.int v4), some (.int v5)], [.int ((v3 * 21) + v5), .ref c_p, .int x7, .int v2, .ref x_p], ([sSg s_p s_a s_sights c_p s_number, sAr c_p c_v, sAr x_p x_v] : List ZW).flatten)) rfl ⟨rfl, trivial⟩ ?_
              obtain ⟨x8, hx8, h⟩ := z_bind h
              refine Go.iald zk_X7_addTo 2 rfl rfl rfl hx8 ?_
              refine Go.blk zk_X7_addTo [0] (z' := (61, [some (.ref s_p), some (.ref x_p), some (.int v2), some (.int v3), some (.int v4), some (.int v5)], [.int (x7 + x8), .int v2, .ref x_p], ([sSg s_p s_a s_sights c_p s_number, sAr c_p c_v, sAr x_p x_v] : List ZW).flatten)) rfl trivial ?_
              obtain ⟨t9, ht9, h⟩ := z_bind h
              refine Go.iast zk_X7_addTo 3 rfl rfl rfl ht9 ?_
              refine Go.eqz (z2 := (62, [some (.ref s_p), some (.ref x_p), some (.int v2), some (.int v3), some (.int v4), some (.int v5)], [], ([sSg s_p s_a s_sights c_p s_number, sAr c_p c_v, sAr x_p t9] : List ZW).flatten)) rfl ?_
              refine Go.blk zk_X7_addTo [0, 0] (z' := (12, [some (.ref s_p), some (.ref x_p), some (.int v2), some (.int v3), some (.int v4), some (.int (v5 + 1))], [], ([sSg s_p s_a s_sights c_p s_number, sAr c_p c_v, sAr x_p t9] : List ZW).flatten)) rfl trivial ?_
              exact ih _ _ _ h kk
            · rw [if_neg hc6] at h
              refine Go.br zk_X7_addTo rfl rfl (fun q => absurd q hc6) (fun _ => ?_)
              refine Go.blk zk_X7_addTo [0, 0] (z' := (12, [some (.ref s_p), some (.ref x_p), some (.int v2), some (.int v3), some (.int v4), some (.int (v5 + 1))], [], ([sSg s_p s_a s_sights c_p s_number, sAr c_p c_v, sAr x_p x_v] : List ZW).flatten)) rfl trivial ?_
              exact ih _ _ _ h kk
        · rw [if_neg hc4] at h
          refine Go.br zk_X7_addTo rfl rfl (fun q => absurd q hc4) (fun _ => ?_)
          refine Go.blk zk_X7_addTo [0, 0] (z' := (12, [some (.ref s_p), some (.ref x_p), some (.int v2), some (.int v3), some (.int v4), some (.int (v5 + 1))], [], ([sSg s_p s_a s_sights c_p s_number, sAr c_p c_v, sAr x_p x_v] : List ZW).flatten)) rfl trivial ?_
          exact ih _ _ _ h kk
    · rw [if_neg hc2] at h
      refine Go.br zk_X7_addTo rfl rfl (fun q => absurd q hc2) (fun _ => ?_)
      obtain rfl := Option.some.inj h
      refine Go.weak (L := [some (.ref s_p), some (.ref x_p), some (.int v2), some (.int v3), some (.int v4), some (.int v5)]) (L' := [none, none, none, none, none, none]) (trivial) ?_
      exact kk
set_option maxHeartbeats 4000000 in
set_option maxRecDepth 100000 in
theorem t_X7_addTo {N : Nat} {s_p : Nat} {s_a : Nat → Nat} {s_sights : List Int64} {s_number : Int32} {c_p : Nat} {c_v : List Int32} {x_p : Nat} {x_v : List Int32} {i2 : Int32} {i3 : Int32} {i4 : Int32} {u : (List Int32)}  (h : f_X7_addTo N i2 i3 i4 s_number c_v x_v = some u) : Ct l D r (z_rl xs) zm_X7_addTo 0 0 [.ref s_p, .ref x_p, .int i2, .int i3, .int i4] ([sSg s_p s_a s_sights c_p s_number, sAr c_p c_v, sAr x_p x_v] : List ZW).flatten (fun v' w' => v' = none ∧ w' = ([sSg s_p s_a s_sights c_p s_number, sAr c_p c_v, sAr x_p u] : List ZW).flatten) := by
  refine Ct.of (by decide +kernel) rfl (fun q => absurd q (by decide)) (Nat.le_of_ble_eq_true rfl) ?_
  refine Go.eqz (z2 := (0, [some (.ref s_p), some (.ref x_p), some (.int i2), some (.int i3), some (.int i4), none], [], ([sSg s_p s_a s_sights c_p s_number, sAr c_p c_v, sAr x_p x_v] : List ZW).flatten)) rfl ?_
  unfold f_X7_addTo at h
  refine Go.blk zk_X7_addTo [0, 0, 0, 0, 0] (z' := (6, [some (.ref s_p), some (.ref x_p), some (.int i2), some (.int i3), some (.int i4), none], [.int i4, .int i3, .int i2, .ref x_p, .ref s_p], ([sSg s_p s_a s_sights c_p s_number, sAr c_p c_v, sAr x_p x_v] : List ZW).flatten)) rfl trivial ?_
  obtain ⟨u1, hu1, h⟩ := z_bind h
  refine Go.vs zk_X7_addTo zm_X7_addSizes [0, 1, 2] [] 0 7 3 (S := [sSg s_p s_a s_sights c_p s_number, sAr c_p c_v, sAr x_p x_v]) (S2 := [sSg s_p s_a s_sights c_p s_number, sAr c_p c_v, sAr x_p u1]) (As := [.ref x_p, .int i2, .int i3, .int i4]) (rest := []) (st2 := []) (v1 := none) rfl zl_X7_27 zv_X7_addSizes ⟨Nat.le_of_ble_eq_true rfl, Nat.le_of_ble_eq_true rfl⟩ rfl (by decide) rfl rfl rfl rfl rfl (Nat.le_of_ble_eq_true rfl) (t_X7_addSizes hu1) rfl rfl rfl ?_
  refine Go.blk zk_X7_addTo [0, 0] (z' := (12, [some (.ref s_p), some (.ref x_p), some (.int i2), some (.int i3), some (.int i4), some (.int 0)], [], ([sSg s_p s_a s_sights c_p s_number, sAr c_p c_v, sAr x_p u1] : List ZW).flatten)) rfl trivial ?_
  obtain ⟨e10, he10, h⟩ := z_bind h
  refine t_X7_addTo_L12 N _ _ _ he10 ?_
  obtain rfl := Option.some.inj h
  exact Go.vret zk_X7_addTo rfl rfl ⟨rfl, rfl⟩
set_option maxHeartbeats 4000000 in
set_option maxRecDepth 100000 in
theorem t_X7_join {N : Nat} {s_p : Nat} {s_a : Nat → Nat} {s_sights : List Int64} {s_number : Int32} {o_p : Nat} {o_a : Nat → Nat} {o_sights : List Int64} {o_number : Int32} {c_p : Nat} {c_v : List Int32} {d_p : Nat} {d_v : List Int32} {j1 : Int64} {i3 : Int32} {i4 : Int32} {u : (List Int64) × Int32 × (List Int32)}  (h : f_X7_join N j1 i3 i4 s_sights s_number o_number c_v d_v = some u) : Ct l D r (z_rl xs) zm_X7_join 0 0 [.ref s_p, .long j1, .ref o_p, .int i3, .int i4] ([sSg s_p s_a s_sights c_p s_number, sSg o_p o_a o_sights d_p o_number, sAr c_p c_v, sAr d_p d_v] : List ZW).flatten (fun v' w' => v' = none ∧ w' = ([sSg s_p s_a u.1 c_p u.2.1, sSg o_p o_a o_sights d_p o_number, sAr c_p u.2.2, sAr d_p d_v] : List ZW).flatten) := by
  refine Ct.of (by decide +kernel) rfl (fun q => absurd q (by decide)) (Nat.le_of_ble_eq_true rfl) ?_
  refine Go.eqz (z2 := (0, [some (.ref s_p), some (.long j1), none, some (.ref o_p), some (.int i3), some (.int i4), none], [], ([sSg s_p s_a s_sights c_p s_number, sSg o_p o_a o_sights d_p o_number, sAr c_p c_v, sAr d_p d_v] : List ZW).flatten)) rfl ?_
  unfold f_X7_join at h
  refine Go.blk zk_X7_join [0, 0] (z' := (2, [some (.ref s_p), some (.long j1), none, some (.ref o_p), some (.int i3), some (.int i4), none], [.long j1, .ref s_p], ([sSg s_p s_a s_sights c_p s_number, sSg o_p o_a o_sights d_p o_number, sAr c_p c_v, sAr d_p d_v] : List ZW).flatten)) rfl trivial ?_
  obtain ⟨u1, hu1, h⟩ := z_bind h
  refine Go.vs zk_X7_join zm_X7_rowOf [0, 2] [1, 3] 0 7 4 (S := [sSg s_p s_a s_sights c_p s_number, sSg o_p o_a o_sights d_p o_number, sAr c_p c_v, sAr d_p d_v]) (S2 := [sSg s_p s_a u1.2.1 c_p u1.2.2.1, sSg o_p o_a o_sights d_p o_number, sAr c_p u1.2.2.2, sAr d_p d_v]) (As := [.long j1]) (rest := []) (st2 := [.int u1.1]) (v1 := some (.int u1.1)) rfl zl_X7_23 zv_X7_rowOf ⟨Nat.le_of_ble_eq_true rfl, Nat.le_of_ble_eq_true rfl⟩ rfl (by decide) rfl rfl rfl rfl rfl (Nat.le_of_ble_eq_true rfl) (t_X7_rowOf hu1) rfl rfl rfl ?_
  refine Go.blk zk_X7_join [0, 0] (z' := (9, [some (.ref s_p), some (.long j1), none, some (.ref o_p), some (.int i3), some (.int i4), some (.int u1.1)], [.int u1.1], ([sSg s_p s_a u1.2.1 c_p u1.2.2.1, sSg o_p o_a o_sights d_p o_number, sAr c_p u1.2.2.2, sAr d_p d_v] : List ZW).flatten)) rfl trivial ?_
  by_cases hc2 : u1.1 < 0
  · rw [if_pos hc2] at h
    refine Go.br zk_X7_join rfl rfl (fun _ => ?_) (fun q => absurd hc2 q)
    obtain rfl := Option.some.inj h
    exact Go.vret zk_X7_join rfl rfl ⟨rfl, rfl⟩
  · rw [if_neg hc2] at h
    refine Go.br zk_X7_join rfl rfl (fun q => absurd q hc2) (fun _ => ?_)
    refine Go.blk zk_X7_join [0, 0, 0, 0, 0, 0, 0, 0] (z' := (26, [some (.ref s_p), some (.long j1), none, some (.ref o_p), some (.int i3), some (.int i4), some (.int u1.1)], [.int i4, .int i3, .int (u1.1 * 21), .ref c_p, .ref o_p], ([sSg s_p s_a u1.2.1 c_p u1.2.2.1, sSg o_p o_a o_sights d_p o_number, sAr c_p u1.2.2.2, sAr d_p d_v] : List ZW).flatten)) rfl ⟨rfl, trivial⟩ ?_
    obtain ⟨u3, hu3, h⟩ := z_bind h
    refine Go.vs zk_X7_join zm_X7_addSizes [1, 3, 2] [0] 0 7 4 (S := [sSg s_p s_a u1.2.1 c_p u1.2.2.1, sSg o_p o_a o_sights d_p o_number, sAr c_p u1.2.2.2, sAr d_p d_v]) (S2 := [sSg s_p s_a u1.2.1 c_p u1.2.2.1, sSg o_p o_a o_sights d_p o_number, sAr c_p u3, sAr d_p d_v]) (As := [.ref c_p, .int (u1.1 * 21), .int i3, .int i4]) (rest := []) (st2 := []) (v1 := none) rfl zl_X7_27 zv_X7_addSizes ⟨Nat.le_of_ble_eq_true rfl, Nat.le_of_ble_eq_true rfl⟩ rfl (by decide) rfl rfl rfl rfl rfl (Nat.le_of_ble_eq_true rfl) (t_X7_addSizes hu3) rfl rfl rfl ?_
    obtain rfl := Option.some.inj h
    exact Go.vret zk_X7_join rfl rfl ⟨rfl, rfl⟩
end
