theorem z_setN {α : Type} {t : List α} {j : Nat} {x : α} (h : j < t.length) (hj : j < 2 ^ 31 := by decide) : z_set t (nI j) x = some (t.set j x) := by
  unfold z_set
  rw [if_neg (nI_pos hj), nI_clamp hj, if_pos h]
theorem z_getN {α : Type} {t : List α} {j : Nat} {x : α} (h : t[j]? = some x) (hj : j < 2 ^ 31 := by decide) : z_get t (nI j) = some x := by
  unfold z_get
  rw [if_neg (nI_pos hj), nI_clamp hj, h]
theorem z_rp {S S2 : List ZW} (is : List Nat) (n : Nat) (hn : S.length = n) (he : (z_pk S is).flatten = S2.flatten) (hp : is.Perm (List.range n)) : S2.flatten.Perm S.flatten := by
  subst hn
  rw [← he]
  have e := z_pk_all S
  have := hp.map (fun i => S.getD i [])
  unfold z_pk at e ⊢
  rw [e] at this
  exact List.Perm.flatten this
theorem z_ap {pc : Nat} {L : List (Option Value)} {st : List Value} {S S2 : List ZW} {c : Nat × ZE} (h : S ++ [[c]] = S2) : ((pc, L, st, S.flatten ++ [c]) : ZC) = (pc, L, st, S2.flatten) := by
  rw [← h, List.flatten_append]
  simp
theorem z_amFo {f : Nat → Nat} {a : Nat → Nat → Nat} {v : Nat → List Int32 × Int32} {R : ZW} : sFo (List.range 12) f a v ++ R = (sCe (f 0) (a 0) ((v 0).1) ((v 0).2)) ++ ((sCe (f 1) (a 1) ((v 1).1) ((v 1).2)) ++ ((sCe (f 2) (a 2) ((v 2).1) ((v 2).2)) ++ ((sCe (f 3) (a 3) ((v 3).1) ((v 3).2)) ++ ((sCe (f 4) (a 4) ((v 4).1) ((v 4).2)) ++ ((sCe (f 5) (a 5) ((v 5).1) ((v 5).2)) ++ ((sCe (f 6) (a 6) ((v 6).1) ((v 6).2)) ++ ((sCe (f 7) (a 7) ((v 7).1) ((v 7).2)) ++ ((sCe (f 8) (a 8) ((v 8).1) ((v 8).2)) ++ ((sCe (f 9) (a 9) ((v 9).1) ((v 9).2)) ++ ((sCe (f 10) (a 10) ((v 10).1) ((v 10).2)) ++ ((sCe (f 11) (a 11) ((v 11).1) ((v 11).2)) ++ (R)))))))))))) := by
  have e : List.range 12 = [0, 1, 2, 3, 4, 5, 6, 7, 8, 9, 10, 11] := rfl
  unfold sFo
  rw [e]
  simp only [List.flatMap_cons, List.flatMap_nil, List.append_assoc, List.nil_append]
theorem z_amFl {r : Nat → Nat} {f : Nat → Nat} {R : ZW} : sFl r (List.range 3) f ++ R = (sLa r (f 0) 0) ++ ((sLa r (f 1) 1) ++ ((sLa r (f 2) 2) ++ (R))) := by
  have e : List.range 3 = [0, 1, 2] := rfl
  unfold sFl
  rw [e]
  simp only [List.flatMap_cons, List.flatMap_nil, List.append_assoc, List.nil_append]
theorem z_amFh {gl : Nat → Nat} {f : Nat → Nat} {c : Nat → Nat} {a : Nat → Nat → Nat} {v : Nat → Nat × List Int32 × Int32} {R : ZW} : sFh gl (List.range 6) f c a v ++ R = (sSk gl (f 0) ((v 0).1) (c 0)) ++ ((sCe (c 0) (a 0) ((v 0).2.1) ((v 0).2.2)) ++ ((sSk gl (f 1) ((v 1).1) (c 1)) ++ ((sCe (c 1) (a 1) ((v 1).2.1) ((v 1).2.2)) ++ ((sSk gl (f 2) ((v 2).1) (c 2)) ++ ((sCe (c 2) (a 2) ((v 2).2.1) ((v 2).2.2)) ++ ((sSk gl (f 3) ((v 3).1) (c 3)) ++ ((sCe (c 3) (a 3) ((v 3).2.1) ((v 3).2.2)) ++ ((sSk gl (f 4) ((v 4).1) (c 4)) ++ ((sCe (c 4) (a 4) ((v 4).2.1) ((v 4).2.2)) ++ ((sSk gl (f 5) ((v 5).1) (c 5)) ++ ((sCe (c 5) (a 5) ((v 5).2.1) ((v 5).2.2)) ++ (R)))))))))))) := by
  have e : List.range 6 = [0, 1, 2, 3, 4, 5] := rfl
  unfold sFh
  rw [e]
  simp only [List.flatMap_cons, List.flatMap_nil, List.append_assoc, List.nil_append]
theorem z_amFs {f : Nat → Nat} {a : Nat → Nat → Nat} {c : Nat → Nat} {v : Nat → List Int64 × Int32 × List Int32} {R : ZW} : sFs (List.range 2) f a c v ++ R = (sSg (f 0) (a 0) ((v 0).1) (c 0) ((v 0).2.1)) ++ ((sAr (c 0) ((v 0).2.2)) ++ ((sSg (f 1) (a 1) ((v 1).1) (c 1) ((v 1).2.1)) ++ ((sAr (c 1) ((v 1).2.2)) ++ (R)))) := by
  have e : List.range 2 = [0, 1] := rfl
  unfold sFs
  rw [e]
  simp only [List.flatMap_cons, List.flatMap_nil, List.append_assoc, List.nil_append]
theorem z_amFc {gl : Nat → Nat} {f : Nat → Nat} {a : Nat → Nat → Nat} {x : Nat → Nat} {y : Nat → Nat} {c : Nat → Nat} {b : Nat → Nat → Nat} {mp : Nat} {up : Nat} {v : Nat → List Int32 × Int32 × List Int32 × Int32 × List Int32 × List Int32 × List Int32 × Int32 × List Int64 × List Int64 × List Int32 × Int32} {R : ZW} : sFc gl (List.range 3) f a x y c b mp up v ++ R = (sCa (f 0) (a 0) (gl 0) mp up (c 0) (x 0) ((v 0).1) ((v 0).2.1) (y 0) ((v 0).2.2.1) ((v 0).2.2.2.1) ((v 0).2.2.2.2.1) ((v 0).2.2.2.2.2.1) ((v 0).2.2.2.2.2.2.1) ((v 0).2.2.2.2.2.2.2.1)) ++ ((sAj (x 0) ((v 0).2.2.2.2.2.2.2.2.1)) ++ ((sAj (y 0) ((v 0).2.2.2.2.2.2.2.2.2.1)) ++ ((sCe (c 0) (b 0) ((v 0).2.2.2.2.2.2.2.2.2.2.1) ((v 0).2.2.2.2.2.2.2.2.2.2.2)) ++ ((sCa (f 1) (a 1) (gl 1) mp up (c 1) (x 1) ((v 1).1) ((v 1).2.1) (y 1) ((v 1).2.2.1) ((v 1).2.2.2.1) ((v 1).2.2.2.2.1) ((v 1).2.2.2.2.2.1) ((v 1).2.2.2.2.2.2.1) ((v 1).2.2.2.2.2.2.2.1)) ++ ((sAj (x 1) ((v 1).2.2.2.2.2.2.2.2.1)) ++ ((sAj (y 1) ((v 1).2.2.2.2.2.2.2.2.2.1)) ++ ((sCe (c 1) (b 1) ((v 1).2.2.2.2.2.2.2.2.2.2.1) ((v 1).2.2.2.2.2.2.2.2.2.2.2)) ++ ((sCa (f 2) (a 2) (gl 2) mp up (c 2) (x 2) ((v 2).1) ((v 2).2.1) (y 2) ((v 2).2.2.1) ((v 2).2.2.2.1) ((v 2).2.2.2.2.1) ((v 2).2.2.2.2.2.1) ((v 2).2.2.2.2.2.2.1) ((v 2).2.2.2.2.2.2.2.1)) ++ ((sAj (x 2) ((v 2).2.2.2.2.2.2.2.2.1)) ++ ((sAj (y 2) ((v 2).2.2.2.2.2.2.2.2.2.1)) ++ ((sCe (c 2) (b 2) ((v 2).2.2.2.2.2.2.2.2.2.2.1) ((v 2).2.2.2.2.2.2.2.2.2.2.2)) ++ (R)))))))))))) := by
  have e : List.range 3 = [0, 1, 2] := rfl
  unfold sFc
  rw [e]
  simp only [List.flatMap_cons, List.flatMap_nil, List.append_assoc, List.nil_append]
theorem z_fl1 {s0 : ZW} : ([s0] : List ZW).flatten = s0 ++ (([] : ZW)) := by simp only [List.flatten_cons, List.flatten_nil]
theorem z_fl2 {s0 s1 : ZW} : ([s0, s1] : List ZW).flatten = s0 ++ (s1 ++ (([] : ZW))) := by simp only [List.flatten_cons, List.flatten_nil]
theorem z_fl3 {s0 s1 s2 : ZW} : ([s0, s1, s2] : List ZW).flatten = s0 ++ (s1 ++ (s2 ++ (([] : ZW)))) := by simp only [List.flatten_cons, List.flatten_nil]
theorem z_fl4 {s0 s1 s2 s3 : ZW} : ([s0, s1, s2, s3] : List ZW).flatten = s0 ++ (s1 ++ (s2 ++ (s3 ++ (([] : ZW))))) := by simp only [List.flatten_cons, List.flatten_nil]
theorem z_fl9 {s0 s1 s2 s3 s4 s5 s6 s7 s8 : ZW} : ([s0, s1, s2, s3, s4, s5, s6, s7, s8] : List ZW).flatten = s0 ++ (s1 ++ (s2 ++ (s3 ++ (s4 ++ (s5 ++ (s6 ++ (s7 ++ (s8 ++ (([] : ZW)))))))))) := by simp only [List.flatten_cons, List.flatten_nil]
theorem z_fl14 {s0 s1 s2 s3 s4 s5 s6 s7 s8 s9 s10 s11 s12 s13 : ZW} : ([s0, s1, s2, s3, s4, s5, s6, s7, s8, s9, s10, s11, s12, s13] : List ZW).flatten = s0 ++ (s1 ++ (s2 ++ (s3 ++ (s4 ++ (s5 ++ (s6 ++ (s7 ++ (s8 ++ (s9 ++ (s10 ++ (s11 ++ (s12 ++ (s13 ++ (([] : ZW))))))))))))))) := by simp only [List.flatten_cons, List.flatten_nil]
theorem z_fl15 {s0 s1 s2 s3 s4 s5 s6 s7 s8 s9 s10 s11 s12 s13 s14 : ZW} : ([s0, s1, s2, s3, s4, s5, s6, s7, s8, s9, s10, s11, s12, s13, s14] : List ZW).flatten = s0 ++ (s1 ++ (s2 ++ (s3 ++ (s4 ++ (s5 ++ (s6 ++ (s7 ++ (s8 ++ (s9 ++ (s10 ++ (s11 ++ (s12 ++ (s13 ++ (s14 ++ (([] : ZW)))))))))))))))) := by simp only [List.flatten_cons, List.flatten_nil]
theorem z_fl19 {s0 s1 s2 s3 s4 s5 s6 s7 s8 s9 s10 s11 s12 s13 s14 s15 s16 s17 s18 : ZW} : ([s0, s1, s2, s3, s4, s5, s6, s7, s8, s9, s10, s11, s12, s13, s14, s15, s16, s17, s18] : List ZW).flatten = s0 ++ (s1 ++ (s2 ++ (s3 ++ (s4 ++ (s5 ++ (s6 ++ (s7 ++ (s8 ++ (s9 ++ (s10 ++ (s11 ++ (s12 ++ (s13 ++ (s14 ++ (s15 ++ (s16 ++ (s17 ++ (s18 ++ (([] : ZW)))))))))))))))))))) := by simp only [List.flatten_cons, List.flatten_nil]
theorem z_fl21 {s0 s1 s2 s3 s4 s5 s6 s7 s8 s9 s10 s11 s12 s13 s14 s15 s16 s17 s18 s19 s20 : ZW} : ([s0, s1, s2, s3, s4, s5, s6, s7, s8, s9, s10, s11, s12, s13, s14, s15, s16, s17, s18, s19, s20] : List ZW).flatten = s0 ++ (s1 ++ (s2 ++ (s3 ++ (s4 ++ (s5 ++ (s6 ++ (s7 ++ (s8 ++ (s9 ++ (s10 ++ (s11 ++ (s12 ++ (s13 ++ (s14 ++ (s15 ++ (s16 ++ (s17 ++ (s18 ++ (s19 ++ (s20 ++ (([] : ZW)))))))))))))))))))))) := by simp only [List.flatten_cons, List.flatten_nil]
theorem z_fl34 {s0 s1 s2 s3 s4 s5 s6 s7 s8 s9 s10 s11 s12 s13 s14 s15 s16 s17 s18 s19 s20 s21 s22 s23 s24 s25 s26 s27 s28 s29 s30 s31 s32 s33 : ZW} : ([s0, s1, s2, s3, s4, s5, s6, s7, s8, s9, s10, s11, s12, s13, s14, s15, s16, s17, s18, s19, s20, s21, s22, s23, s24, s25, s26, s27, s28, s29, s30, s31, s32, s33] : List ZW).flatten = s0 ++ (s1 ++ (s2 ++ (s3 ++ (s4 ++ (s5 ++ (s6 ++ (s7 ++ (s8 ++ (s9 ++ (s10 ++ (s11 ++ (s12 ++ (s13 ++ (s14 ++ (s15 ++ (s16 ++ (s17 ++ (s18 ++ (s19 ++ (s20 ++ (s21 ++ (s22 ++ (s23 ++ (s24 ++ (s25 ++ (s26 ++ (s27 ++ (s28 ++ (s29 ++ (s30 ++ (s31 ++ (s32 ++ (s33 ++ (([] : ZW))))))))))))))))))))))))))))))))))) := by simp only [List.flatten_cons, List.flatten_nil]
section
variable {l : Launch} {D : va_G} {r : Nat → Nat} {rl : Nat → List Int32} {M : ZM} {k n : Nat} {Q : Option Value → ZW → Prop}
theorem Go.ci (hok : z_ok M = true) (M' : ZM) (isC isR : List Nat) (nS : Nat) {S : List ZW} {As rest : List Value} {b0 pc len a b i0 np k1 n1 : Nat} {v : Value} {L : List (Option Value)} {st : List Value} {Q' : Option Value → ZW → Prop} (hl : (z_code M).lookup pc = some (.invokespecial i0, len, a, b, v)) (hlk : Cond.methodLink (z_own M) i0 (z_y M') ∈ z_tb ∨ ∃ host, (z_own M, i0, z_y M', host) ∈ z_nl) (hvm : z_im M' np)
    (hfr : z_fr M' + 1 ≤ z_fr M ∧ 8 + (z_nL M' + 11) + z_lo M' ≤ z_lo M) (hnS : S.length = nS) (hp : (isC ++ isR).Perm (List.range nS)) (hlen : As.length = np) (hst : st = As.reverse ++ .ref b0 :: rest) (hrest : (rest.map fun v => v.category).sum ≤ 8)
    (ct : Ct l D r rl M' k1 n1 (.ref b0 :: As) (z_pk S isC).flatten Q') (kk : ∀ v' wc', Q' v' wc' → ∃ (S2 : List ZW) (isC2 isR2 : List Nat) (n2 : Nat), S2.length = n2 ∧ (isC2 ++ isR2).Perm (List.range n2) ∧ wc' = (z_pk S2 isC2).flatten ∧ z_pk S2 isR2 = z_pk S isR ∧ v' = none ∧ Go l D r rl M k n (pc + 3, L, rest, S2.flatten) Q) : Go l D r rl M (k1 + k) (n1 + n) (pc, L, st, S.flatten) Q := by
  subst hnS
  refine Go.callI (As := As) (rest := rest) (b0 := b0) hok M' hl hlk hvm hfr (z_seg hp) hlen hst hrest ct (fun v' w' h => ?_)
  obtain ⟨S2, isC2, isR2, n2, h0, h1, h2, h3, h4, h5⟩ := kk v' w' h
  subst h0
  refine ⟨S2.flatten, ?_, by rw [h4]; exact h5⟩
  rw [h2, ← h3]
  exact z_seg h1
end
section
variable {l : Launch} {D : va_G} {r : Nat → Nat} {xs : List Int32}
set_option maxHeartbeats 8000000 in
set_option maxRecDepth 100000 in
theorem c_Ce12 {p : Nat}  : Ct l D r (z_rl xs) zm_X2_init 1 12 [.ref p, .int 12] ([[(p, zO 2 [.null, .int 0])]] : List ZW).flatten (fun v' w' => v' = none ∧ ∃ a : Nat → Nat, w' = ([sCe p a (List.replicate 12 0) 0] : List ZW).flatten) := by
  refine Ct.of (by decide +kernel) rfl (fun _ => rfl) (Nat.le_of_ble_eq_true rfl) ?_
  refine Go.eqz (z2 := (0, [some (.ref p), some (.int 12)], [], ([[(p, zO 2 [.null, .int 0])]] : List ZW).flatten)) rfl ?_
  refine Go.blk zk_X2_init [0] (z' := (1, [some (.ref p), some (.int 12)], [.ref p], ([[(p, zO 2 [.null, .int 0])]] : List ZW).flatten)) rfl (trivial) ?_
  refine Go.oinit zk_X2_init rfl zl_X2_3 zw_oi.1 zw_oi.2 ⟨Nat.le_of_ble_eq_true rfl, Nat.le_of_ble_eq_true rfl⟩ ?_
  refine Go.blk zk_X2_init [0, 0, 0] (z' := (7, [some (.ref p), some (.int 12)], [.int 0, .int 12, .ref p], ([[(p, zO 2 [.null, .int 0])]] : List ZW).flatten)) rfl (trivial) ?_
  refine Go.mmax zk_X2_init rfl zl_X2_9 ⟨Nat.le_of_ble_eq_true rfl, Nat.le_of_ble_eq_true rfl⟩ zw_max ?_
  refine Go.eqz (z2 := (10, [some (.ref p), some (.int 12)], [.int 12, .ref p], ([[(p, zO 2 [.null, .int 0])]] : List ZW).flatten)) rfl ?_
  refine Go.newI zk_X2_init .int .int 12 (k := 0) (n := 0) rfl rfl (z_tbm (q := 163) (by decide +kernel) (by decide +kernel)) rfl (by decide) (by decide) (by decide) ?_
  intro q1
  refine Go.eqz (z2 := (12, [some (.ref p), some (.int 12)], [.ref q1, .ref p], ([[(p, zO 2 [.null, .int 0])], [(q1, zI (List.replicate 12 0))]] : List ZW).flatten)) (z_ap rfl) ?_
  refine Go.put zk_X2_init 0 rfl rfl rfl rfl rfl (Nat.le_of_ble_eq_true rfl) ?_
  refine Go.eqz (z2 := (15, [some (.ref p), some (.int 12)], [], ([[(p, zO 2 [.ref q1, .int 0])], [(q1, zI (List.replicate 12 0))]] : List ZW).flatten)) rfl ?_
  refine Go.perm (w2 := ([sCe p (fun _ => q1) (List.replicate 12 0) 0] : List ZW).flatten) (z_rp (S := [[(p, zO 2 [.ref q1, .int 0])], [(q1, zI (List.replicate 12 0))]]) [0, 1] 2 rfl (Eq.trans (congrArg List.flatten (show z_pk [[(p, zO 2 [.ref q1, .int 0])], [(q1, zI (List.replicate 12 0))]] [0, 1] = [[(p, zO 2 [.ref q1, .int 0])], [(q1, zI (List.replicate 12 0))]] from rfl)) (Eq.trans (@z_fl2 ([(p, zO 2 [.ref q1, .int 0])]) ([(q1, zI (List.replicate 12 0))])) (Eq.trans (Eq.trans (congrArg (fun zz : ZW => [(p, zO 2 [.ref q1, .int 0])] ++ ([(q1, zI (List.replicate 12 0))] ++ (zz))) (rfl : ([] : ZW) = [])) (show [(p, zO 2 [.ref q1, .int 0])] ++ ([(q1, zI (List.replicate 12 0))] ++ (([] : ZW))) = (sCe p (fun _ => q1) (List.replicate 12 0) 0) ++ (([] : ZW)) from rfl)) (@z_fl1 (sCe p (fun _ => q1) (List.replicate 12 0) 0)).symm))) (by decide)) ?_
  exact Go.vret zk_X2_init rfl rfl ⟨rfl, (fun _ => q1), rfl⟩
set_option maxHeartbeats 8000000 in
set_option maxRecDepth 100000 in
theorem c_Ce48 {p : Nat}  : Ct l D r (z_rl xs) zm_X2_init 1 48 [.ref p, .int 48] ([[(p, zO 2 [.null, .int 0])]] : List ZW).flatten (fun v' w' => v' = none ∧ ∃ a : Nat → Nat, w' = ([sCe p a (List.replicate 48 0) 0] : List ZW).flatten) := by
  refine Ct.of (by decide +kernel) rfl (fun _ => rfl) (Nat.le_of_ble_eq_true rfl) ?_
  refine Go.eqz (z2 := (0, [some (.ref p), some (.int 48)], [], ([[(p, zO 2 [.null, .int 0])]] : List ZW).flatten)) rfl ?_
  refine Go.blk zk_X2_init [0] (z' := (1, [some (.ref p), some (.int 48)], [.ref p], ([[(p, zO 2 [.null, .int 0])]] : List ZW).flatten)) rfl (trivial) ?_
  refine Go.oinit zk_X2_init rfl zl_X2_3 zw_oi.1 zw_oi.2 ⟨Nat.le_of_ble_eq_true rfl, Nat.le_of_ble_eq_true rfl⟩ ?_
  refine Go.blk zk_X2_init [0, 0, 0] (z' := (7, [some (.ref p), some (.int 48)], [.int 0, .int 48, .ref p], ([[(p, zO 2 [.null, .int 0])]] : List ZW).flatten)) rfl (trivial) ?_
  refine Go.mmax zk_X2_init rfl zl_X2_9 ⟨Nat.le_of_ble_eq_true rfl, Nat.le_of_ble_eq_true rfl⟩ zw_max ?_
  refine Go.eqz (z2 := (10, [some (.ref p), some (.int 48)], [.int 48, .ref p], ([[(p, zO 2 [.null, .int 0])]] : List ZW).flatten)) rfl ?_
  refine Go.newI zk_X2_init .int .int 48 (k := 0) (n := 0) rfl rfl (z_tbm (q := 163) (by decide +kernel) (by decide +kernel)) rfl (by decide) (by decide) (by decide) ?_
  intro q1
  refine Go.eqz (z2 := (12, [some (.ref p), some (.int 48)], [.ref q1, .ref p], ([[(p, zO 2 [.null, .int 0])], [(q1, zI (List.replicate 48 0))]] : List ZW).flatten)) (z_ap rfl) ?_
  refine Go.put zk_X2_init 0 rfl rfl rfl rfl rfl (Nat.le_of_ble_eq_true rfl) ?_
  refine Go.eqz (z2 := (15, [some (.ref p), some (.int 48)], [], ([[(p, zO 2 [.ref q1, .int 0])], [(q1, zI (List.replicate 48 0))]] : List ZW).flatten)) rfl ?_
  refine Go.perm (w2 := ([sCe p (fun _ => q1) (List.replicate 48 0) 0] : List ZW).flatten) (z_rp (S := [[(p, zO 2 [.ref q1, .int 0])], [(q1, zI (List.replicate 48 0))]]) [0, 1] 2 rfl (Eq.trans (congrArg List.flatten (show z_pk [[(p, zO 2 [.ref q1, .int 0])], [(q1, zI (List.replicate 48 0))]] [0, 1] = [[(p, zO 2 [.ref q1, .int 0])], [(q1, zI (List.replicate 48 0))]] from rfl)) (Eq.trans (@z_fl2 ([(p, zO 2 [.ref q1, .int 0])]) ([(q1, zI (List.replicate 48 0))])) (Eq.trans (Eq.trans (congrArg (fun zz : ZW => [(p, zO 2 [.ref q1, .int 0])] ++ ([(q1, zI (List.replicate 48 0))] ++ (zz))) (rfl : ([] : ZW) = [])) (show [(p, zO 2 [.ref q1, .int 0])] ++ ([(q1, zI (List.replicate 48 0))] ++ (([] : ZW))) = (sCe p (fun _ => q1) (List.replicate 48 0) 0) ++ (([] : ZW)) from rfl)) (@z_fl1 (sCe p (fun _ => q1) (List.replicate 48 0) 0)).symm))) (by decide)) ?_
  exact Go.vret zk_X2_init rfl rfl ⟨rfl, (fun _ => q1), rfl⟩
set_option maxHeartbeats 8000000 in
set_option maxRecDepth 100000 in
theorem c_La0 {p : Nat}  : Ct l D r (z_rl xs) zm_X6_init 0 0 [.ref p, .int 0] ([[(p, zO 6 [.int 0, .int 0, .int 0, .int 0, .int 0, .null, .null])]] : List ZW).flatten (fun v' w' => v' = none ∧ w' = ([sLa r p 0] : List ZW).flatten) := by
  refine Ct.of (by decide +kernel) rfl (fun _ => rfl) (Nat.le_of_ble_eq_true rfl) ?_
  refine Go.eqz (z2 := (0, [some (.ref p), some (.int 0)], [], ([[(p, zO 6 [.int 0, .int 0, .int 0, .int 0, .int 0, .null, .null])]] : List ZW).flatten)) rfl ?_
  refine Go.blk zk_X6_init [0] (z' := (1, [some (.ref p), some (.int 0)], [.ref p], ([[(p, zO 6 [.int 0, .int 0, .int 0, .int 0, .int 0, .null, .null])]] : List ZW).flatten)) rfl (trivial) ?_
  refine Go.oinit zk_X6_init rfl zl_X6_3 zw_oi.1 zw_oi.2 ⟨Nat.le_of_ble_eq_true rfl, Nat.le_of_ble_eq_true rfl⟩ ?_
  refine Go.blk zk_X6_init [0, 0] (z' := (6, [some (.ref p), some (.int 0)], [.int 0, .ref p], ([[(p, zO 6 [.int 0, .int 0, .int 0, .int 0, .int 0, .null, .null])]] : List ZW).flatten)) rfl (trivial) ?_
  refine Go.put zk_X6_init 0 rfl rfl rfl rfl rfl (Nat.le_of_ble_eq_true rfl) ?_
  refine Go.eqz (z2 := (9, [some (.ref p), some (.int 0)], [], ([[(p, zO 6 [.int 0, .int 0, .int 0, .int 0, .int 0, .null, .null])]] : List ZW).flatten)) rfl ?_
  refine Go.blk zk_X6_init [0, 0, 0] (z' := (12, [some (.ref p), some (.int 0)], [.int 1, .int 0, .ref p], ([[(p, zO 6 [.int 0, .int 0, .int 0, .int 0, .int 0, .null, .null])]] : List ZW).flatten)) rfl (trivial) ?_
  refine Go.br zk_X6_init rfl rfl (fun q => absurd q (by decide)) (fun _ => ?_)
  refine Go.blk zk_X6_init [0] (z' := (20, [some (.ref p), some (.int 0)], [.int 1, .ref p], ([[(p, zO 6 [.int 0, .int 0, .int 0, .int 0, .int 0, .null, .null])]] : List ZW).flatten)) rfl (trivial) ?_
  refine Go.put zk_X6_init 0 rfl rfl rfl rfl rfl (Nat.le_of_ble_eq_true rfl) ?_
  refine Go.eqz (z2 := (23, [some (.ref p), some (.int 0)], [], ([[(p, zO 6 [.int 0, .int 0, .int 1, .int 0, .int 0, .null, .null])]] : List ZW).flatten)) rfl ?_
  refine Go.blk zk_X6_init [0, 0] (z' := (25, [some (.ref p), some (.int 0)], [.int 0, .ref p], ([[(p, zO 6 [.int 0, .int 0, .int 1, .int 0, .int 0, .null, .null])]] : List ZW).flatten)) rfl (trivial) ?_
  refine Go.br zk_X6_init rfl rfl (fun _ => ?_) (fun q => absurd (by decide) q)
  refine Go.blk zk_X6_init [0, 0] (z' := (34, [some (.ref p), some (.int 0)], [.int 4, .ref p], ([[(p, zO 6 [.int 0, .int 0, .int 1, .int 0, .int 0, .null, .null])]] : List ZW).flatten)) rfl (trivial) ?_
  refine Go.put zk_X6_init 0 rfl rfl rfl rfl rfl (Nat.le_of_ble_eq_true rfl) ?_
  refine Go.eqz (z2 := (37, [some (.ref p), some (.int 0)], [], ([[(p, zO 6 [.int 0, .int 0, .int 1, .int 4, .int 0, .null, .null])]] : List ZW).flatten)) rfl ?_
  refine Go.blk zk_X6_init [0, 0] (z' := (39, [some (.ref p), some (.int 0)], [.int 1, .int 0], ([[(p, zO 6 [.int 0, .int 0, .int 1, .int 4, .int 0, .null, .null])]] : List ZW).flatten)) rfl (trivial) ?_
  refine Go.br zk_X6_init rfl rfl (fun q => absurd q (by decide)) (fun _ => ?_)
  refine Go.blk zk_X6_init [0, 0] (z' := (72, [some (.ref p), some (.int 0)], [.int 2, .int 0], ([[(p, zO 6 [.int 0, .int 0, .int 1, .int 4, .int 0, .null, .null])]] : List ZW).flatten)) rfl (trivial) ?_
  refine Go.br zk_X6_init rfl rfl (fun q => absurd q (by decide)) (fun _ => ?_)
  refine Go.blk zk_X6_init [0, 0] (z' := (106, [some (.ref p), some (.int 0)], [.int 4, .ref p], ([[(p, zO 6 [.int 0, .int 0, .int 1, .int 4, .int 0, .null, .null])]] : List ZW).flatten)) rfl (trivial) ?_
  refine Go.put zk_X6_init 0 rfl rfl rfl rfl rfl (Nat.le_of_ble_eq_true rfl) ?_
  refine Go.eqz (z2 := (109, [some (.ref p), some (.int 0)], [], ([[(p, zO 6 [.int 0, .int 4, .int 1, .int 4, .int 0, .null, .null])]] : List ZW).flatten)) rfl ?_
  refine Go.blk zk_X6_init [0, 0] (z' := (112, [some (.ref p), some (.int 0)], [.int 7, .ref p], ([[(p, zO 6 [.int 0, .int 4, .int 1, .int 4, .int 0, .null, .null])]] : List ZW).flatten)) rfl (trivial) ?_
  refine Go.put zk_X6_init 0 rfl rfl rfl rfl rfl (Nat.le_of_ble_eq_true rfl) ?_
  refine Go.eqz (z2 := (115, [some (.ref p), some (.int 0)], [], ([[(p, zO 6 [.int 0, .int 4, .int 1, .int 4, .int 7, .null, .null])]] : List ZW).flatten)) rfl ?_
  refine Go.blk zk_X6_init [0] (z' := (116, [some (.ref p), some (.int 0)], [.ref p], ([[(p, zO 6 [.int 0, .int 4, .int 1, .int 4, .int 7, .null, .null])]] : List ZW).flatten)) rfl (trivial) ?_
  refine Go.gets zk_X6_init 0 (by decide) rfl (z_tbm (q := 308) (by decide +kernel) (by decide +kernel)) ?_
  refine Go.put zk_X6_init 0 rfl rfl rfl rfl rfl (Nat.le_of_ble_eq_true rfl) ?_
  refine Go.eqz (z2 := (122, [some (.ref p), some (.int 0)], [], ([[(p, zO 6 [.int 0, .int 4, .int 1, .int 4, .int 7, .ref (r 1), .null])]] : List ZW).flatten)) rfl ?_
  refine Go.blk zk_X6_init [0] (z' := (123, [some (.ref p), some (.int 0)], [.ref p], ([[(p, zO 6 [.int 0, .int 4, .int 1, .int 4, .int 7, .ref (r 1), .null])]] : List ZW).flatten)) rfl (trivial) ?_
  refine Go.gets zk_X6_init 1 (by decide) rfl (z_tbm (q := 310) (by decide +kernel) (by decide +kernel)) ?_
  refine Go.put zk_X6_init 0 rfl rfl rfl rfl rfl (Nat.le_of_ble_eq_true rfl) ?_
  refine Go.eqz (z2 := (129, [some (.ref p), some (.int 0)], [], ([[(p, zO 6 [.int 0, .int 4, .int 1, .int 4, .int 7, .ref (r 1), .ref (r 2)])]] : List ZW).flatten)) rfl ?_
  refine Go.perm (w2 := ([sLa r p 0] : List ZW).flatten) (z_rp (S := [[(p, zO 6 [.int 0, .int 4, .int 1, .int 4, .int 7, .ref (r 1), .ref (r 2)])]]) [0] 1 rfl (Eq.trans (congrArg List.flatten (show z_pk [[(p, zO 6 [.int 0, .int 4, .int 1, .int 4, .int 7, .ref (r 1), .ref (r 2)])]] [0] = [[(p, zO 6 [.int 0, .int 4, .int 1, .int 4, .int 7, .ref (r 1), .ref (r 2)])]] from rfl)) (Eq.trans (@z_fl1 ([(p, zO 6 [.int 0, .int 4, .int 1, .int 4, .int 7, .ref (r 1), .ref (r 2)])])) (Eq.trans (Eq.trans (congrArg (fun zz : ZW => [(p, zO 6 [.int 0, .int 4, .int 1, .int 4, .int 7, .ref (r 1), .ref (r 2)])] ++ (zz)) (rfl : ([] : ZW) = [])) (show [(p, zO 6 [.int 0, .int 4, .int 1, .int 4, .int 7, .ref (r 1), .ref (r 2)])] ++ (([] : ZW)) = (sLa r p 0) ++ (([] : ZW)) from rfl)) (@z_fl1 (sLa r p 0)).symm))) (by decide)) ?_
  exact Go.vret zk_X6_init rfl rfl ⟨rfl, rfl⟩
set_option maxHeartbeats 8000000 in
set_option maxRecDepth 100000 in
theorem c_La1 {p : Nat}  : Ct l D r (z_rl xs) zm_X6_init 0 0 [.ref p, .int 1] ([[(p, zO 6 [.int 0, .int 0, .int 0, .int 0, .int 0, .null, .null])]] : List ZW).flatten (fun v' w' => v' = none ∧ w' = ([sLa r p 1] : List ZW).flatten) := by
  refine Ct.of (by decide +kernel) rfl (fun _ => rfl) (Nat.le_of_ble_eq_true rfl) ?_
  refine Go.eqz (z2 := (0, [some (.ref p), some (.int 1)], [], ([[(p, zO 6 [.int 0, .int 0, .int 0, .int 0, .int 0, .null, .null])]] : List ZW).flatten)) rfl ?_
  refine Go.blk zk_X6_init [0] (z' := (1, [some (.ref p), some (.int 1)], [.ref p], ([[(p, zO 6 [.int 0, .int 0, .int 0, .int 0, .int 0, .null, .null])]] : List ZW).flatten)) rfl (trivial) ?_
  refine Go.oinit zk_X6_init rfl zl_X6_3 zw_oi.1 zw_oi.2 ⟨Nat.le_of_ble_eq_true rfl, Nat.le_of_ble_eq_true rfl⟩ ?_
  refine Go.blk zk_X6_init [0, 0] (z' := (6, [some (.ref p), some (.int 1)], [.int 1, .ref p], ([[(p, zO 6 [.int 0, .int 0, .int 0, .int 0, .int 0, .null, .null])]] : List ZW).flatten)) rfl (trivial) ?_
  refine Go.put zk_X6_init 0 rfl rfl rfl rfl rfl (Nat.le_of_ble_eq_true rfl) ?_
  refine Go.eqz (z2 := (9, [some (.ref p), some (.int 1)], [], ([[(p, zO 6 [.int 1, .int 0, .int 0, .int 0, .int 0, .null, .null])]] : List ZW).flatten)) rfl ?_
  refine Go.blk zk_X6_init [0, 0, 0] (z' := (12, [some (.ref p), some (.int 1)], [.int 1, .int 1, .ref p], ([[(p, zO 6 [.int 1, .int 0, .int 0, .int 0, .int 0, .null, .null])]] : List ZW).flatten)) rfl (trivial) ?_
  refine Go.br zk_X6_init rfl rfl (fun _ => ?_) (fun q => absurd (by decide) q)
  refine Go.blk zk_X6_init [0, 0] (z' := (20, [some (.ref p), some (.int 1)], [.int 2, .ref p], ([[(p, zO 6 [.int 1, .int 0, .int 0, .int 0, .int 0, .null, .null])]] : List ZW).flatten)) rfl (trivial) ?_
  refine Go.put zk_X6_init 0 rfl rfl rfl rfl rfl (Nat.le_of_ble_eq_true rfl) ?_
  refine Go.eqz (z2 := (23, [some (.ref p), some (.int 1)], [], ([[(p, zO 6 [.int 1, .int 0, .int 2, .int 0, .int 0, .null, .null])]] : List ZW).flatten)) rfl ?_
  refine Go.blk zk_X6_init [0, 0] (z' := (25, [some (.ref p), some (.int 1)], [.int 1, .ref p], ([[(p, zO 6 [.int 1, .int 0, .int 2, .int 0, .int 0, .null, .null])]] : List ZW).flatten)) rfl (trivial) ?_
  refine Go.br zk_X6_init rfl rfl (fun q => absurd q (by decide)) (fun _ => ?_)
  refine Go.blk zk_X6_init [0] (z' := (34, [some (.ref p), some (.int 1)], [.int 6, .ref p], ([[(p, zO 6 [.int 1, .int 0, .int 2, .int 0, .int 0, .null, .null])]] : List ZW).flatten)) rfl (trivial) ?_
  refine Go.put zk_X6_init 0 rfl rfl rfl rfl rfl (Nat.le_of_ble_eq_true rfl) ?_
  refine Go.eqz (z2 := (37, [some (.ref p), some (.int 1)], [], ([[(p, zO 6 [.int 1, .int 0, .int 2, .int 6, .int 0, .null, .null])]] : List ZW).flatten)) rfl ?_
  refine Go.blk zk_X6_init [0, 0] (z' := (39, [some (.ref p), some (.int 1)], [.int 1, .int 1], ([[(p, zO 6 [.int 1, .int 0, .int 2, .int 6, .int 0, .null, .null])]] : List ZW).flatten)) rfl (trivial) ?_
  refine Go.br zk_X6_init rfl rfl (fun _ => ?_) (fun q => absurd (by decide) q)
  refine Go.blk zk_X6_init [0, 0] (z' := (44, [some (.ref p), some (.int 1)], [.int 3, .ref p], ([[(p, zO 6 [.int 1, .int 0, .int 2, .int 6, .int 0, .null, .null])]] : List ZW).flatten)) rfl (trivial) ?_
  refine Go.put zk_X6_init 0 rfl rfl rfl rfl rfl (Nat.le_of_ble_eq_true rfl) ?_
  refine Go.eqz (z2 := (47, [some (.ref p), some (.int 1)], [], ([[(p, zO 6 [.int 1, .int 3, .int 2, .int 6, .int 0, .null, .null])]] : List ZW).flatten)) rfl ?_
  refine Go.blk zk_X6_init [0, 0] (z' := (50, [some (.ref p), some (.int 1)], [.int 8, .ref p], ([[(p, zO 6 [.int 1, .int 3, .int 2, .int 6, .int 0, .null, .null])]] : List ZW).flatten)) rfl (trivial) ?_
  refine Go.put zk_X6_init 0 rfl rfl rfl rfl rfl (Nat.le_of_ble_eq_true rfl) ?_
  refine Go.eqz (z2 := (53, [some (.ref p), some (.int 1)], [], ([[(p, zO 6 [.int 1, .int 3, .int 2, .int 6, .int 8, .null, .null])]] : List ZW).flatten)) rfl ?_
  refine Go.blk zk_X6_init [0] (z' := (54, [some (.ref p), some (.int 1)], [.ref p], ([[(p, zO 6 [.int 1, .int 3, .int 2, .int 6, .int 8, .null, .null])]] : List ZW).flatten)) rfl (trivial) ?_
  refine Go.gets zk_X6_init 2 (by decide) rfl (z_tbm (q := 300) (by decide +kernel) (by decide +kernel)) ?_
  refine Go.put zk_X6_init 0 rfl rfl rfl rfl rfl (Nat.le_of_ble_eq_true rfl) ?_
  refine Go.eqz (z2 := (60, [some (.ref p), some (.int 1)], [], ([[(p, zO 6 [.int 1, .int 3, .int 2, .int 6, .int 8, .ref (r 3), .null])]] : List ZW).flatten)) rfl ?_
  refine Go.blk zk_X6_init [0] (z' := (61, [some (.ref p), some (.int 1)], [.ref p], ([[(p, zO 6 [.int 1, .int 3, .int 2, .int 6, .int 8, .ref (r 3), .null])]] : List ZW).flatten)) rfl (trivial) ?_
  refine Go.gets zk_X6_init 3 (by decide) rfl (z_tbm (q := 302) (by decide +kernel) (by decide +kernel)) ?_
  refine Go.put zk_X6_init 0 rfl rfl rfl rfl rfl (Nat.le_of_ble_eq_true rfl) ?_
  refine Go.eqz (z2 := (67, [some (.ref p), some (.int 1)], [], ([[(p, zO 6 [.int 1, .int 3, .int 2, .int 6, .int 8, .ref (r 3), .ref (r 4)])]] : List ZW).flatten)) rfl ?_
  refine Go.blk zk_X6_init [0] (z' := (129, [some (.ref p), some (.int 1)], [], ([[(p, zO 6 [.int 1, .int 3, .int 2, .int 6, .int 8, .ref (r 3), .ref (r 4)])]] : List ZW).flatten)) rfl (trivial) ?_
  refine Go.perm (w2 := ([sLa r p 1] : List ZW).flatten) (z_rp (S := [[(p, zO 6 [.int 1, .int 3, .int 2, .int 6, .int 8, .ref (r 3), .ref (r 4)])]]) [0] 1 rfl (Eq.trans (congrArg List.flatten (show z_pk [[(p, zO 6 [.int 1, .int 3, .int 2, .int 6, .int 8, .ref (r 3), .ref (r 4)])]] [0] = [[(p, zO 6 [.int 1, .int 3, .int 2, .int 6, .int 8, .ref (r 3), .ref (r 4)])]] from rfl)) (Eq.trans (@z_fl1 ([(p, zO 6 [.int 1, .int 3, .int 2, .int 6, .int 8, .ref (r 3), .ref (r 4)])])) (Eq.trans (Eq.trans (congrArg (fun zz : ZW => [(p, zO 6 [.int 1, .int 3, .int 2, .int 6, .int 8, .ref (r 3), .ref (r 4)])] ++ (zz)) (rfl : ([] : ZW) = [])) (show [(p, zO 6 [.int 1, .int 3, .int 2, .int 6, .int 8, .ref (r 3), .ref (r 4)])] ++ (([] : ZW)) = (sLa r p 1) ++ (([] : ZW)) from rfl)) (@z_fl1 (sLa r p 1)).symm))) (by decide)) ?_
  exact Go.vret zk_X6_init rfl rfl ⟨rfl, rfl⟩
set_option maxHeartbeats 8000000 in
set_option maxRecDepth 100000 in
theorem c_La2 {p : Nat}  : Ct l D r (z_rl xs) zm_X6_init 0 0 [.ref p, .int 2] ([[(p, zO 6 [.int 0, .int 0, .int 0, .int 0, .int 0, .null, .null])]] : List ZW).flatten (fun v' w' => v' = none ∧ w' = ([sLa r p 2] : List ZW).flatten) := by
  refine Ct.of (by decide +kernel) rfl (fun _ => rfl) (Nat.le_of_ble_eq_true rfl) ?_
  refine Go.eqz (z2 := (0, [some (.ref p), some (.int 2)], [], ([[(p, zO 6 [.int 0, .int 0, .int 0, .int 0, .int 0, .null, .null])]] : List ZW).flatten)) rfl ?_
  refine Go.blk zk_X6_init [0] (z' := (1, [some (.ref p), some (.int 2)], [.ref p], ([[(p, zO 6 [.int 0, .int 0, .int 0, .int 0, .int 0, .null, .null])]] : List ZW).flatten)) rfl (trivial) ?_
  refine Go.oinit zk_X6_init rfl zl_X6_3 zw_oi.1 zw_oi.2 ⟨Nat.le_of_ble_eq_true rfl, Nat.le_of_ble_eq_true rfl⟩ ?_
  refine Go.blk zk_X6_init [0, 0] (z' := (6, [some (.ref p), some (.int 2)], [.int 2, .ref p], ([[(p, zO 6 [.int 0, .int 0, .int 0, .int 0, .int 0, .null, .null])]] : List ZW).flatten)) rfl (trivial) ?_
  refine Go.put zk_X6_init 0 rfl rfl rfl rfl rfl (Nat.le_of_ble_eq_true rfl) ?_
  refine Go.eqz (z2 := (9, [some (.ref p), some (.int 2)], [], ([[(p, zO 6 [.int 2, .int 0, .int 0, .int 0, .int 0, .null, .null])]] : List ZW).flatten)) rfl ?_
  refine Go.blk zk_X6_init [0, 0, 0] (z' := (12, [some (.ref p), some (.int 2)], [.int 1, .int 2, .ref p], ([[(p, zO 6 [.int 2, .int 0, .int 0, .int 0, .int 0, .null, .null])]] : List ZW).flatten)) rfl (trivial) ?_
  refine Go.br zk_X6_init rfl rfl (fun q => absurd q (by decide)) (fun _ => ?_)
  refine Go.blk zk_X6_init [0] (z' := (20, [some (.ref p), some (.int 2)], [.int 1, .ref p], ([[(p, zO 6 [.int 2, .int 0, .int 0, .int 0, .int 0, .null, .null])]] : List ZW).flatten)) rfl (trivial) ?_
  refine Go.put zk_X6_init 0 rfl rfl rfl rfl rfl (Nat.le_of_ble_eq_true rfl) ?_
  refine Go.eqz (z2 := (23, [some (.ref p), some (.int 2)], [], ([[(p, zO 6 [.int 2, .int 0, .int 1, .int 0, .int 0, .null, .null])]] : List ZW).flatten)) rfl ?_
  refine Go.blk zk_X6_init [0, 0] (z' := (25, [some (.ref p), some (.int 2)], [.int 2, .ref p], ([[(p, zO 6 [.int 2, .int 0, .int 1, .int 0, .int 0, .null, .null])]] : List ZW).flatten)) rfl (trivial) ?_
  refine Go.br zk_X6_init rfl rfl (fun q => absurd q (by decide)) (fun _ => ?_)
  refine Go.blk zk_X6_init [0] (z' := (34, [some (.ref p), some (.int 2)], [.int 6, .ref p], ([[(p, zO 6 [.int 2, .int 0, .int 1, .int 0, .int 0, .null, .null])]] : List ZW).flatten)) rfl (trivial) ?_
  refine Go.put zk_X6_init 0 rfl rfl rfl rfl rfl (Nat.le_of_ble_eq_true rfl) ?_
  refine Go.eqz (z2 := (37, [some (.ref p), some (.int 2)], [], ([[(p, zO 6 [.int 2, .int 0, .int 1, .int 6, .int 0, .null, .null])]] : List ZW).flatten)) rfl ?_
  refine Go.blk zk_X6_init [0, 0] (z' := (39, [some (.ref p), some (.int 2)], [.int 1, .int 2], ([[(p, zO 6 [.int 2, .int 0, .int 1, .int 6, .int 0, .null, .null])]] : List ZW).flatten)) rfl (trivial) ?_
  refine Go.br zk_X6_init rfl rfl (fun q => absurd q (by decide)) (fun _ => ?_)
  refine Go.blk zk_X6_init [0, 0] (z' := (72, [some (.ref p), some (.int 2)], [.int 2, .int 2], ([[(p, zO 6 [.int 2, .int 0, .int 1, .int 6, .int 0, .null, .null])]] : List ZW).flatten)) rfl (trivial) ?_
  refine Go.br zk_X6_init rfl rfl (fun _ => ?_) (fun q => absurd (by decide) q)
  refine Go.blk zk_X6_init [0, 0] (z' := (78, [some (.ref p), some (.int 2)], [.int 6, .ref p], ([[(p, zO 6 [.int 2, .int 0, .int 1, .int 6, .int 0, .null, .null])]] : List ZW).flatten)) rfl (trivial) ?_
  refine Go.put zk_X6_init 0 rfl rfl rfl rfl rfl (Nat.le_of_ble_eq_true rfl) ?_
  refine Go.eqz (z2 := (81, [some (.ref p), some (.int 2)], [], ([[(p, zO 6 [.int 2, .int 6, .int 1, .int 6, .int 0, .null, .null])]] : List ZW).flatten)) rfl ?_
  refine Go.blk zk_X6_init [0, 0] (z' := (84, [some (.ref p), some (.int 2)], [.int 6, .ref p], ([[(p, zO 6 [.int 2, .int 6, .int 1, .int 6, .int 0, .null, .null])]] : List ZW).flatten)) rfl (trivial) ?_
  refine Go.put zk_X6_init 0 rfl rfl rfl rfl rfl (Nat.le_of_ble_eq_true rfl) ?_
  refine Go.eqz (z2 := (87, [some (.ref p), some (.int 2)], [], ([[(p, zO 6 [.int 2, .int 6, .int 1, .int 6, .int 6, .null, .null])]] : List ZW).flatten)) rfl ?_
  refine Go.blk zk_X6_init [0] (z' := (88, [some (.ref p), some (.int 2)], [.ref p], ([[(p, zO 6 [.int 2, .int 6, .int 1, .int 6, .int 6, .null, .null])]] : List ZW).flatten)) rfl (trivial) ?_
  refine Go.gets zk_X6_init 4 (by decide) rfl (z_tbm (q := 304) (by decide +kernel) (by decide +kernel)) ?_
  refine Go.put zk_X6_init 0 rfl rfl rfl rfl rfl (Nat.le_of_ble_eq_true rfl) ?_
  refine Go.eqz (z2 := (94, [some (.ref p), some (.int 2)], [], ([[(p, zO 6 [.int 2, .int 6, .int 1, .int 6, .int 6, .ref (r 5), .null])]] : List ZW).flatten)) rfl ?_
  refine Go.blk zk_X6_init [0] (z' := (95, [some (.ref p), some (.int 2)], [.ref p], ([[(p, zO 6 [.int 2, .int 6, .int 1, .int 6, .int 6, .ref (r 5), .null])]] : List ZW).flatten)) rfl (trivial) ?_
  refine Go.gets zk_X6_init 5 (by decide) rfl (z_tbm (q := 306) (by decide +kernel) (by decide +kernel)) ?_
  refine Go.put zk_X6_init 0 rfl rfl rfl rfl rfl (Nat.le_of_ble_eq_true rfl) ?_
  refine Go.eqz (z2 := (101, [some (.ref p), some (.int 2)], [], ([[(p, zO 6 [.int 2, .int 6, .int 1, .int 6, .int 6, .ref (r 5), .ref (r 6)])]] : List ZW).flatten)) rfl ?_
  refine Go.blk zk_X6_init [0] (z' := (129, [some (.ref p), some (.int 2)], [], ([[(p, zO 6 [.int 2, .int 6, .int 1, .int 6, .int 6, .ref (r 5), .ref (r 6)])]] : List ZW).flatten)) rfl (trivial) ?_
  refine Go.perm (w2 := ([sLa r p 2] : List ZW).flatten) (z_rp (S := [[(p, zO 6 [.int 2, .int 6, .int 1, .int 6, .int 6, .ref (r 5), .ref (r 6)])]]) [0] 1 rfl (Eq.trans (congrArg List.flatten (show z_pk [[(p, zO 6 [.int 2, .int 6, .int 1, .int 6, .int 6, .ref (r 5), .ref (r 6)])]] [0] = [[(p, zO 6 [.int 2, .int 6, .int 1, .int 6, .int 6, .ref (r 5), .ref (r 6)])]] from rfl)) (Eq.trans (@z_fl1 ([(p, zO 6 [.int 2, .int 6, .int 1, .int 6, .int 6, .ref (r 5), .ref (r 6)])])) (Eq.trans (Eq.trans (congrArg (fun zz : ZW => [(p, zO 6 [.int 2, .int 6, .int 1, .int 6, .int 6, .ref (r 5), .ref (r 6)])] ++ (zz)) (rfl : ([] : ZW) = [])) (show [(p, zO 6 [.int 2, .int 6, .int 1, .int 6, .int 6, .ref (r 5), .ref (r 6)])] ++ (([] : ZW)) = (sLa r p 2) ++ (([] : ZW)) from rfl)) (@z_fl1 (sLa r p 2)).symm))) (by decide)) ?_
  exact Go.vret zk_X6_init rfl rfl ⟨rfl, rfl⟩
set_option maxHeartbeats 8000000 in
set_option maxRecDepth 100000 in
theorem c_Sg {p : Nat}  : Ct l D r (z_rl xs) zm_X7_init 2 704 [.ref p] ([[(p, zO 7 [.null, .null, .int 0])]] : List ZW).flatten (fun v' w' => v' = none ∧ ∃ a : Nat → Nat, ∃ c : Nat, w' = ([sSg p a (List.replicate 32 0) c 0, sAr c (List.replicate 672 0)] : List ZW).flatten) := by
  refine Ct.of (by decide +kernel) rfl (fun _ => rfl) (Nat.le_of_ble_eq_true rfl) ?_
  refine Go.eqz (z2 := (0, [some (.ref p)], [], ([[(p, zO 7 [.null, .null, .int 0])]] : List ZW).flatten)) rfl ?_
  refine Go.blk zk_X7_init [0] (z' := (1, [some (.ref p)], [.ref p], ([[(p, zO 7 [.null, .null, .int 0])]] : List ZW).flatten)) rfl (trivial) ?_
  refine Go.oinit zk_X7_init rfl zl_X7_3 zw_oi.1 zw_oi.2 ⟨Nat.le_of_ble_eq_true rfl, Nat.le_of_ble_eq_true rfl⟩ ?_
  refine Go.blk zk_X7_init [0, 0] (z' := (7, [some (.ref p)], [.int 32, .ref p], ([[(p, zO 7 [.null, .null, .int 0])]] : List ZW).flatten)) rfl (trivial) ?_
  refine Go.newJ zk_X7_init 32 (k := 1) (n := 672) rfl (z_tbm (q := 269) (by decide +kernel) (by decide +kernel)) (by decide) (by decide) (by decide) ?_
  intro q1
  refine Go.eqz (z2 := (9, [some (.ref p)], [.ref q1, .ref p], ([[(p, zO 7 [.null, .null, .int 0])], [(q1, zJ (List.replicate 32 0))]] : List ZW).flatten)) (z_ap rfl) ?_
  refine Go.put zk_X7_init 0 rfl rfl rfl rfl rfl (Nat.le_of_ble_eq_true rfl) ?_
  refine Go.eqz (z2 := (12, [some (.ref p)], [], ([[(p, zO 7 [.ref q1, .null, .int 0])], [(q1, zJ (List.replicate 32 0))]] : List ZW).flatten)) rfl ?_
  refine Go.blk zk_X7_init [0, 0] (z' := (16, [some (.ref p)], [.int 672, .ref p], ([[(p, zO 7 [.ref q1, .null, .int 0])], [(q1, zJ (List.replicate 32 0))]] : List ZW).flatten)) rfl (trivial) ?_
  refine Go.newI zk_X7_init .int .int 672 (k := 0) (n := 0) rfl rfl (z_tbm (q := 163) (by decide +kernel) (by decide +kernel)) rfl (by decide) (by decide) (by decide) ?_
  intro q2
  refine Go.eqz (z2 := (18, [some (.ref p)], [.ref q2, .ref p], ([[(p, zO 7 [.ref q1, .null, .int 0])], [(q1, zJ (List.replicate 32 0))], [(q2, zI (List.replicate 672 0))]] : List ZW).flatten)) (z_ap rfl) ?_
  refine Go.put zk_X7_init 0 rfl rfl rfl rfl rfl (Nat.le_of_ble_eq_true rfl) ?_
  refine Go.eqz (z2 := (21, [some (.ref p)], [], ([[(p, zO 7 [.ref q1, .ref q2, .int 0])], [(q1, zJ (List.replicate 32 0))], [(q2, zI (List.replicate 672 0))]] : List ZW).flatten)) rfl ?_
  refine Go.perm (w2 := ([sSg p (fun _ => q1) (List.replicate 32 0) q2 0, sAr q2 (List.replicate 672 0)] : List ZW).flatten) (z_rp (S := [[(p, zO 7 [.ref q1, .ref q2, .int 0])], [(q1, zJ (List.replicate 32 0))], [(q2, zI (List.replicate 672 0))]]) [0, 1, 2] 3 rfl (Eq.trans (congrArg List.flatten (show z_pk [[(p, zO 7 [.ref q1, .ref q2, .int 0])], [(q1, zJ (List.replicate 32 0))], [(q2, zI (List.replicate 672 0))]] [0, 1, 2] = [[(p, zO 7 [.ref q1, .ref q2, .int 0])], [(q1, zJ (List.replicate 32 0))], [(q2, zI (List.replicate 672 0))]] from rfl)) (Eq.trans (@z_fl3 ([(p, zO 7 [.ref q1, .ref q2, .int 0])]) ([(q1, zJ (List.replicate 32 0))]) ([(q2, zI (List.replicate 672 0))])) (Eq.trans (Eq.trans (congrArg (fun zz : ZW => [(p, zO 7 [.ref q1, .ref q2, .int 0])] ++ ([(q1, zJ (List.replicate 32 0))] ++ (zz))) (Eq.trans (congrArg (fun zz : ZW => [(q2, zI (List.replicate 672 0))] ++ (zz)) (rfl : ([] : ZW) = [])) (show [(q2, zI (List.replicate 672 0))] ++ (([] : ZW)) = (sAr q2 (List.replicate 672 0)) ++ (([] : ZW)) from rfl))) (show [(p, zO 7 [.ref q1, .ref q2, .int 0])] ++ ([(q1, zJ (List.replicate 32 0))] ++ ((sAr q2 (List.replicate 672 0)) ++ (([] : ZW)))) = (sSg p (fun _ => q1) (List.replicate 32 0) q2 0) ++ ((sAr q2 (List.replicate 672 0)) ++ (([] : ZW))) from rfl)) (@z_fl2 (sSg p (fun _ => q1) (List.replicate 32 0) q2 0) (sAr q2 (List.replicate 672 0))).symm))) (by decide)) ?_
  exact Go.vret zk_X7_init rfl rfl ⟨rfl, (fun _ => q1), q2, rfl⟩
set_option maxHeartbeats 8000000 in
set_option maxRecDepth 100000 in
theorem c_Bl {p : Nat}  : Ct l D r (z_rl xs) zm_X0_init 10 3104 [.ref p] ([[(p, zO 0 [.null, .null, .null, .null, .null, .null, .int 0, .int 0])]] : List ZW).flatten (fun v' w' => v' = none ∧ ∃ a : Nat → Nat, ∃ x : Nat, ∃ sgp : Nat → Nat, ∃ sa : Nat → Nat → Nat, ∃ sc : Nat → Nat, w' = ([sBk sgp p a (List.replicate 75 0) x (List.replicate 20 0) (List.replicate 20 0) 0 1 0 0, sAr x (List.replicate 1575 0), sFs (List.range 2) sgp sa sc (fun _ => ((List.replicate 32 0), 0, (List.replicate 672 0)))] : List ZW).flatten) := by
  refine Ct.of (by decide +kernel) rfl (fun _ => rfl) (Nat.le_of_ble_eq_true rfl) ?_
  refine Go.eqz (z2 := (0, [some (.ref p)], [], ([[(p, zO 0 [.null, .null, .null, .null, .null, .null, .int 0, .int 0])]] : List ZW).flatten)) rfl ?_
  refine Go.blk zk_X0_init [0] (z' := (1, [some (.ref p)], [.ref p], ([[(p, zO 0 [.null, .null, .null, .null, .null, .null, .int 0, .int 0])]] : List ZW).flatten)) rfl (trivial) ?_
  refine Go.oinit zk_X0_init rfl zl_X0_5 zw_oi.1 zw_oi.2 ⟨Nat.le_of_ble_eq_true rfl, Nat.le_of_ble_eq_true rfl⟩ ?_
  refine Go.blk zk_X0_init [0, 0] (z' := (7, [some (.ref p)], [.int 75, .ref p], ([[(p, zO 0 [.null, .null, .null, .null, .null, .null, .int 0, .int 0])]] : List ZW).flatten)) rfl (trivial) ?_
  refine Go.newI zk_X0_init .boolean .boolean 75 (k := 9) (n := 3029) rfl rfl (z_tbm (q := 268) (by decide +kernel) (by decide +kernel)) rfl (by decide) (by decide) (by decide) ?_
  intro q1
  refine Go.eqz (z2 := (9, [some (.ref p)], [.ref q1, .ref p], ([[(p, zO 0 [.null, .null, .null, .null, .null, .null, .int 0, .int 0])], [(q1, zZ (List.replicate 75 0))]] : List ZW).flatten)) (z_ap rfl) ?_
  refine Go.put zk_X0_init 0 rfl rfl rfl rfl rfl (Nat.le_of_ble_eq_true rfl) ?_
  refine Go.eqz (z2 := (12, [some (.ref p)], [], ([[(p, zO 0 [.ref q1, .null, .null, .null, .null, .null, .int 0, .int 0])], [(q1, zZ (List.replicate 75 0))]] : List ZW).flatten)) rfl ?_
  refine Go.blk zk_X0_init [0, 0] (z' := (16, [some (.ref p)], [.int 1575, .ref p], ([[(p, zO 0 [.ref q1, .null, .null, .null, .null, .null, .int 0, .int 0])], [(q1, zZ (List.replicate 75 0))]] : List ZW).flatten)) rfl (trivial) ?_
  refine Go.newI zk_X0_init .int .int 1575 (k := 8) (n := 1454) rfl rfl (z_tbm (q := 163) (by decide +kernel) (by decide +kernel)) rfl (by decide) (by decide) (by decide) ?_
  intro q2
  refine Go.eqz (z2 := (18, [some (.ref p)], [.ref q2, .ref p], ([[(p, zO 0 [.ref q1, .null, .null, .null, .null, .null, .int 0, .int 0])], [(q1, zZ (List.replicate 75 0))], [(q2, zI (List.replicate 1575 0))]] : List ZW).flatten)) (z_ap rfl) ?_
  refine Go.put zk_X0_init 0 rfl rfl rfl rfl rfl (Nat.le_of_ble_eq_true rfl) ?_
  refine Go.eqz (z2 := (21, [some (.ref p)], [], ([[(p, zO 0 [.ref q1, .ref q2, .null, .null, .null, .null, .int 0, .int 0])], [(q1, zZ (List.replicate 75 0))], [(q2, zI (List.replicate 1575 0))]] : List ZW).flatten)) rfl ?_
  refine Go.blk zk_X0_init [0, 0] (z' := (24, [some (.ref p)], [.int 20, .ref p], ([[(p, zO 0 [.ref q1, .ref q2, .null, .null, .null, .null, .int 0, .int 0])], [(q1, zZ (List.replicate 75 0))], [(q2, zI (List.replicate 1575 0))]] : List ZW).flatten)) rfl (trivial) ?_
  refine Go.newI zk_X0_init .int .int 20 (k := 7) (n := 1434) rfl rfl (z_tbm (q := 163) (by decide +kernel) (by decide +kernel)) rfl (by decide) (by decide) (by decide) ?_
  intro q3
  refine Go.eqz (z2 := (26, [some (.ref p)], [.ref q3, .ref p], ([[(p, zO 0 [.ref q1, .ref q2, .null, .null, .null, .null, .int 0, .int 0])], [(q1, zZ (List.replicate 75 0))], [(q2, zI (List.replicate 1575 0))], [(q3, zI (List.replicate 20 0))]] : List ZW).flatten)) (z_ap rfl) ?_
  refine Go.put zk_X0_init 0 rfl rfl rfl rfl rfl (Nat.le_of_ble_eq_true rfl) ?_
  refine Go.eqz (z2 := (29, [some (.ref p)], [], ([[(p, zO 0 [.ref q1, .ref q2, .ref q3, .null, .null, .null, .int 0, .int 0])], [(q1, zZ (List.replicate 75 0))], [(q2, zI (List.replicate 1575 0))], [(q3, zI (List.replicate 20 0))]] : List ZW).flatten)) rfl ?_
  refine Go.blk zk_X0_init [0, 0] (z' := (32, [some (.ref p)], [.int 20, .ref p], ([[(p, zO 0 [.ref q1, .ref q2, .ref q3, .null, .null, .null, .int 0, .int 0])], [(q1, zZ (List.replicate 75 0))], [(q2, zI (List.replicate 1575 0))], [(q3, zI (List.replicate 20 0))]] : List ZW).flatten)) rfl (trivial) ?_
  refine Go.newI zk_X0_init .int .int 20 (k := 6) (n := 1414) rfl rfl (z_tbm (q := 163) (by decide +kernel) (by decide +kernel)) rfl (by decide) (by decide) (by decide) ?_
  intro q4
  refine Go.eqz (z2 := (34, [some (.ref p)], [.ref q4, .ref p], ([[(p, zO 0 [.ref q1, .ref q2, .ref q3, .null, .null, .null, .int 0, .int 0])], [(q1, zZ (List.replicate 75 0))], [(q2, zI (List.replicate 1575 0))], [(q3, zI (List.replicate 20 0))], [(q4, zI (List.replicate 20 0))]] : List ZW).flatten)) (z_ap rfl) ?_
  refine Go.put zk_X0_init 0 rfl rfl rfl rfl rfl (Nat.le_of_ble_eq_true rfl) ?_
  refine Go.eqz (z2 := (37, [some (.ref p)], [], ([[(p, zO 0 [.ref q1, .ref q2, .ref q3, .ref q4, .null, .null, .int 0, .int 0])], [(q1, zZ (List.replicate 75 0))], [(q2, zI (List.replicate 1575 0))], [(q3, zI (List.replicate 20 0))], [(q4, zI (List.replicate 20 0))]] : List ZW).flatten)) rfl ?_
  refine Go.blk zk_X0_init [0] (z' := (38, [some (.ref p)], [.ref p], ([[(p, zO 0 [.ref q1, .ref q2, .ref q3, .ref q4, .null, .null, .int 0, .int 0])], [(q1, zZ (List.replicate 75 0))], [(q2, zI (List.replicate 1575 0))], [(q3, zI (List.replicate 20 0))], [(q4, zI (List.replicate 20 0))]] : List ZW).flatten)) rfl (trivial) ?_
  refine Go.new zk_X0_init 7 (k := 5) (n := 1411) (fs := [.null, .null, .int 0]) rfl rfl ⟨z_tbm (q := 251) (by decide +kernel) (by decide +kernel), z_tbm (q := 252) (by decide +kernel) (by decide +kernel), z_tbm (q := 107) (by decide +kernel) (by decide +kernel)⟩ (by decide +kernel) ?_
  intro q5
  refine Go.eqz (z2 := (41, [some (.ref p)], [.ref q5, .ref p], ([[(p, zO 0 [.ref q1, .ref q2, .ref q3, .ref q4, .null, .null, .int 0, .int 0])], [(q1, zZ (List.replicate 75 0))], [(q2, zI (List.replicate 1575 0))], [(q3, zI (List.replicate 20 0))], [(q4, zI (List.replicate 20 0))], [(q5, zO 7 [.null, .null, .int 0])]] : List ZW).flatten)) (z_ap rfl) ?_
  refine Go.blk zk_X0_init [0] (z' := (42, [some (.ref p)], [.ref q5, .ref q5, .ref p], ([[(p, zO 0 [.ref q1, .ref q2, .ref q3, .ref q4, .null, .null, .int 0, .int 0])], [(q1, zZ (List.replicate 75 0))], [(q2, zI (List.replicate 1575 0))], [(q3, zI (List.replicate 20 0))], [(q4, zI (List.replicate 20 0))], [(q5, zO 7 [.null, .null, .int 0])]] : List ZW).flatten)) rfl (trivial) ?_
  refine Go.ci zk_X0_init zm_X7_init [5] [0, 1, 2, 3, 4] 6 (S := [[(p, zO 0 [.ref q1, .ref q2, .ref q3, .ref q4, .null, .null, .int 0, .int 0])], [(q1, zZ (List.replicate 75 0))], [(q2, zI (List.replicate 1575 0))], [(q3, zI (List.replicate 20 0))], [(q4, zI (List.replicate 20 0))], [(q5, zO 7 [.null, .null, .int 0])]]) (As := []) (rest := [.ref q5, .ref p]) (k1 := 2) (n1 := 704) (k := 3) (n := 707) rfl (Or.inr ⟨_, zl_X0_27⟩) zi_X7_init ⟨Nat.le_of_ble_eq_true rfl, Nat.le_of_ble_eq_true rfl⟩ rfl (by decide) rfl rfl (Nat.le_of_ble_eq_true rfl) c_Sg (fun v wc' hq => ?_)
  obtain ⟨rfl, w6, w7, rfl⟩ := hq
  refine ⟨[[(p, zO 0 [.ref q1, .ref q2, .ref q3, .ref q4, .null, .null, .int 0, .int 0])], [(q1, zZ (List.replicate 75 0))], [(q2, zI (List.replicate 1575 0))], [(q3, zI (List.replicate 20 0))], [(q4, zI (List.replicate 20 0))], sSg q5 w6 (List.replicate 32 0) w7 0, sAr w7 (List.replicate 672 0)], [5, 6], [0, 1, 2, 3, 4], 7, rfl, by decide, (congrArg List.flatten (show z_pk [[(p, zO 0 [.ref q1, .ref q2, .ref q3, .ref q4, .null, .null, .int 0, .int 0])], [(q1, zZ (List.replicate 75 0))], [(q2, zI (List.replicate 1575 0))], [(q3, zI (List.replicate 20 0))], [(q4, zI (List.replicate 20 0))], sSg q5 w6 (List.replicate 32 0) w7 0, sAr w7 (List.replicate 672 0)] [5, 6] = [sSg q5 w6 (List.replicate 32 0) w7 0, sAr w7 (List.replicate 672 0)] from rfl)).symm, (show z_pk [[(p, zO 0 [.ref q1, .ref q2, .ref q3, .ref q4, .null, .null, .int 0, .int 0])], [(q1, zZ (List.replicate 75 0))], [(q2, zI (List.replicate 1575 0))], [(q3, zI (List.replicate 20 0))], [(q4, zI (List.replicate 20 0))], sSg q5 w6 (List.replicate 32 0) w7 0, sAr w7 (List.replicate 672 0)] [0, 1, 2, 3, 4] = [[(p, zO 0 [.ref q1, .ref q2, .ref q3, .ref q4, .null, .null, .int 0, .int 0])], [(q1, zZ (List.replicate 75 0))], [(q2, zI (List.replicate 1575 0))], [(q3, zI (List.replicate 20 0))], [(q4, zI (List.replicate 20 0))]] from rfl).trans (show z_pk [[(p, zO 0 [.ref q1, .ref q2, .ref q3, .ref q4, .null, .null, .int 0, .int 0])], [(q1, zZ (List.replicate 75 0))], [(q2, zI (List.replicate 1575 0))], [(q3, zI (List.replicate 20 0))], [(q4, zI (List.replicate 20 0))], [(q5, zO 7 [.null, .null, .int 0])]] [0, 1, 2, 3, 4] = [[(p, zO 0 [.ref q1, .ref q2, .ref q3, .ref q4, .null, .null, .int 0, .int 0])], [(q1, zZ (List.replicate 75 0))], [(q2, zI (List.replicate 1575 0))], [(q3, zI (List.replicate 20 0))], [(q4, zI (List.replicate 20 0))]] from rfl).symm, rfl, ?_⟩
  refine Go.put zk_X0_init 0 rfl rfl rfl rfl rfl (Nat.le_of_ble_eq_true rfl) ?_
  refine Go.eqz (z2 := (48, [some (.ref p)], [], ([[(p, zO 0 [.ref q1, .ref q2, .ref q3, .ref q4, .ref q5, .null, .int 0, .int 0])], [(q1, zZ (List.replicate 75 0))], [(q2, zI (List.replicate 1575 0))], [(q3, zI (List.replicate 20 0))], [(q4, zI (List.replicate 20 0))], sSg q5 w6 (List.replicate 32 0) w7 0, sAr w7 (List.replicate 672 0)] : List ZW).flatten)) rfl ?_
  refine Go.blk zk_X0_init [0] (z' := (49, [some (.ref p)], [.ref p], ([[(p, zO 0 [.ref q1, .ref q2, .ref q3, .ref q4, .ref q5, .null, .int 0, .int 0])], [(q1, zZ (List.replicate 75 0))], [(q2, zI (List.replicate 1575 0))], [(q3, zI (List.replicate 20 0))], [(q4, zI (List.replicate 20 0))], sSg q5 w6 (List.replicate 32 0) w7 0, sAr w7 (List.replicate 672 0)] : List ZW).flatten)) rfl (trivial) ?_
  refine Go.new zk_X0_init 7 (k := 2) (n := 704) (fs := [.null, .null, .int 0]) rfl rfl ⟨z_tbm (q := 251) (by decide +kernel) (by decide +kernel), z_tbm (q := 252) (by decide +kernel) (by decide +kernel), z_tbm (q := 107) (by decide +kernel) (by decide +kernel)⟩ (by decide +kernel) ?_
  intro q8
  refine Go.eqz (z2 := (52, [some (.ref p)], [.ref q8, .ref p], ([[(p, zO 0 [.ref q1, .ref q2, .ref q3, .ref q4, .ref q5, .null, .int 0, .int 0])], [(q1, zZ (List.replicate 75 0))], [(q2, zI (List.replicate 1575 0))], [(q3, zI (List.replicate 20 0))], [(q4, zI (List.replicate 20 0))], sSg q5 w6 (List.replicate 32 0) w7 0, sAr w7 (List.replicate 672 0), [(q8, zO 7 [.null, .null, .int 0])]] : List ZW).flatten)) (z_ap rfl) ?_
  refine Go.blk zk_X0_init [0] (z' := (53, [some (.ref p)], [.ref q8, .ref q8, .ref p], ([[(p, zO 0 [.ref q1, .ref q2, .ref q3, .ref q4, .ref q5, .null, .int 0, .int 0])], [(q1, zZ (List.replicate 75 0))], [(q2, zI (List.replicate 1575 0))], [(q3, zI (List.replicate 20 0))], [(q4, zI (List.replicate 20 0))], sSg q5 w6 (List.replicate 32 0) w7 0, sAr w7 (List.replicate 672 0), [(q8, zO 7 [.null, .null, .int 0])]] : List ZW).flatten)) rfl (trivial) ?_
  refine Go.ci zk_X0_init zm_X7_init [7] [0, 1, 2, 3, 4, 5, 6] 8 (S := [[(p, zO 0 [.ref q1, .ref q2, .ref q3, .ref q4, .ref q5, .null, .int 0, .int 0])], [(q1, zZ (List.replicate 75 0))], [(q2, zI (List.replicate 1575 0))], [(q3, zI (List.replicate 20 0))], [(q4, zI (List.replicate 20 0))], sSg q5 w6 (List.replicate 32 0) w7 0, sAr w7 (List.replicate 672 0), [(q8, zO 7 [.null, .null, .int 0])]]) (As := []) (rest := [.ref q8, .ref p]) (k1 := 2) (n1 := 704) (k := 0) (n := 0) rfl (Or.inr ⟨_, zl_X0_27⟩) zi_X7_init ⟨Nat.le_of_ble_eq_true rfl, Nat.le_of_ble_eq_true rfl⟩ rfl (by decide) rfl rfl (Nat.le_of_ble_eq_true rfl) c_Sg (fun v wc' hq => ?_)
  obtain ⟨rfl, w9, w10, rfl⟩ := hq
  refine ⟨[[(p, zO 0 [.ref q1, .ref q2, .ref q3, .ref q4, .ref q5, .null, .int 0, .int 0])], [(q1, zZ (List.replicate 75 0))], [(q2, zI (List.replicate 1575 0))], [(q3, zI (List.replicate 20 0))], [(q4, zI (List.replicate 20 0))], sSg q5 w6 (List.replicate 32 0) w7 0, sAr w7 (List.replicate 672 0), sSg q8 w9 (List.replicate 32 0) w10 0, sAr w10 (List.replicate 672 0)], [7, 8], [0, 1, 2, 3, 4, 5, 6], 9, rfl, by decide, (congrArg List.flatten (show z_pk [[(p, zO 0 [.ref q1, .ref q2, .ref q3, .ref q4, .ref q5, .null, .int 0, .int 0])], [(q1, zZ (List.replicate 75 0))], [(q2, zI (List.replicate 1575 0))], [(q3, zI (List.replicate 20 0))], [(q4, zI (List.replicate 20 0))], sSg q5 w6 (List.replicate 32 0) w7 0, sAr w7 (List.replicate 672 0), sSg q8 w9 (List.replicate 32 0) w10 0, sAr w10 (List.replicate 672 0)] [7, 8] = [sSg q8 w9 (List.replicate 32 0) w10 0, sAr w10 (List.replicate 672 0)] from rfl)).symm, (show z_pk [[(p, zO 0 [.ref q1, .ref q2, .ref q3, .ref q4, .ref q5, .null, .int 0, .int 0])], [(q1, zZ (List.replicate 75 0))], [(q2, zI (List.replicate 1575 0))], [(q3, zI (List.replicate 20 0))], [(q4, zI (List.replicate 20 0))], sSg q5 w6 (List.replicate 32 0) w7 0, sAr w7 (List.replicate 672 0), sSg q8 w9 (List.replicate 32 0) w10 0, sAr w10 (List.replicate 672 0)] [0, 1, 2, 3, 4, 5, 6] = [[(p, zO 0 [.ref q1, .ref q2, .ref q3, .ref q4, .ref q5, .null, .int 0, .int 0])], [(q1, zZ (List.replicate 75 0))], [(q2, zI (List.replicate 1575 0))], [(q3, zI (List.replicate 20 0))], [(q4, zI (List.replicate 20 0))], sSg q5 w6 (List.replicate 32 0) w7 0, sAr w7 (List.replicate 672 0)] from rfl).trans (show z_pk [[(p, zO 0 [.ref q1, .ref q2, .ref q3, .ref q4, .ref q5, .null, .int 0, .int 0])], [(q1, zZ (List.replicate 75 0))], [(q2, zI (List.replicate 1575 0))], [(q3, zI (List.replicate 20 0))], [(q4, zI (List.replicate 20 0))], sSg q5 w6 (List.replicate 32 0) w7 0, sAr w7 (List.replicate 672 0), [(q8, zO 7 [.null, .null, .int 0])]] [0, 1, 2, 3, 4, 5, 6] = [[(p, zO 0 [.ref q1, .ref q2, .ref q3, .ref q4, .ref q5, .null, .int 0, .int 0])], [(q1, zZ (List.replicate 75 0))], [(q2, zI (List.replicate 1575 0))], [(q3, zI (List.replicate 20 0))], [(q4, zI (List.replicate 20 0))], sSg q5 w6 (List.replicate 32 0) w7 0, sAr w7 (List.replicate 672 0)] from rfl).symm, rfl, ?_⟩
  refine Go.put zk_X0_init 0 rfl rfl rfl rfl rfl (Nat.le_of_ble_eq_true rfl) ?_
  refine Go.eqz (z2 := (59, [some (.ref p)], [], ([[(p, zO 0 [.ref q1, .ref q2, .ref q3, .ref q4, .ref q5, .ref q8, .int 0, .int 0])], [(q1, zZ (List.replicate 75 0))], [(q2, zI (List.replicate 1575 0))], [(q3, zI (List.replicate 20 0))], [(q4, zI (List.replicate 20 0))], sSg q5 w6 (List.replicate 32 0) w7 0, sAr w7 (List.replicate 672 0), sSg q8 w9 (List.replicate 32 0) w10 0, sAr w10 (List.replicate 672 0)] : List ZW).flatten)) rfl ?_
  refine Go.perm (w2 := ([sBk (fun j => List.getD [q5, q8] j 0) p (fun j => List.getD [q1, q3, q4] j 0) (List.replicate 75 0) q2 (List.replicate 20 0) (List.replicate 20 0) 0 1 0 0, sAr q2 (List.replicate 1575 0), sFs (List.range 2) (fun j => List.getD [q5, q8] j 0) (fun j => List.getD [w6, w9] j (fun _ => 0)) (fun j => List.getD [w7, w10] j 0) (fun _ => ((List.replicate 32 0), 0, (List.replicate 672 0)))] : List ZW).flatten) (z_rp (S := [[(p, zO 0 [.ref q1, .ref q2, .ref q3, .ref q4, .ref q5, .ref q8, .int 0, .int 0])], [(q1, zZ (List.replicate 75 0))], [(q2, zI (List.replicate 1575 0))], [(q3, zI (List.replicate 20 0))], [(q4, zI (List.replicate 20 0))], sSg q5 w6 (List.replicate 32 0) w7 0, sAr w7 (List.replicate 672 0), sSg q8 w9 (List.replicate 32 0) w10 0, sAr w10 (List.replicate 672 0)]) [0, 1, 3, 4, 2, 5, 6, 7, 8] 9 rfl (Eq.trans (congrArg List.flatten (show z_pk [[(p, zO 0 [.ref q1, .ref q2, .ref q3, .ref q4, .ref q5, .ref q8, .int 0, .int 0])], [(q1, zZ (List.replicate 75 0))], [(q2, zI (List.replicate 1575 0))], [(q3, zI (List.replicate 20 0))], [(q4, zI (List.replicate 20 0))], sSg q5 w6 (List.replicate 32 0) w7 0, sAr w7 (List.replicate 672 0), sSg q8 w9 (List.replicate 32 0) w10 0, sAr w10 (List.replicate 672 0)] [0, 1, 3, 4, 2, 5, 6, 7, 8] = [[(p, zO 0 [.ref q1, .ref q2, .ref q3, .ref q4, .ref q5, .ref q8, .int 0, .int 0])], [(q1, zZ (List.replicate 75 0))], [(q3, zI (List.replicate 20 0))], [(q4, zI (List.replicate 20 0))], [(q2, zI (List.replicate 1575 0))], sSg q5 w6 (List.replicate 32 0) w7 0, sAr w7 (List.replicate 672 0), sSg q8 w9 (List.replicate 32 0) w10 0, sAr w10 (List.replicate 672 0)] from rfl)) (Eq.trans (@z_fl9 ([(p, zO 0 [.ref q1, .ref q2, .ref q3, .ref q4, .ref q5, .ref q8, .int 0, .int 0])]) ([(q1, zZ (List.replicate 75 0))]) ([(q3, zI (List.replicate 20 0))]) ([(q4, zI (List.replicate 20 0))]) ([(q2, zI (List.replicate 1575 0))]) (sSg q5 w6 (List.replicate 32 0) w7 0) (sAr w7 (List.replicate 672 0)) (sSg q8 w9 (List.replicate 32 0) w10 0) (sAr w10 (List.replicate 672 0))) (Eq.trans (Eq.trans (congrArg (fun zz : ZW => [(p, zO 0 [.ref q1, .ref q2, .ref q3, .ref q4, .ref q5, .ref q8, .int 0, .int 0])] ++ ([(q1, zZ (List.replicate 75 0))] ++ ([(q3, zI (List.replicate 20 0))] ++ ([(q4, zI (List.replicate 20 0))] ++ (zz))))) (Eq.trans (congrArg (fun zz : ZW => [(q2, zI (List.replicate 1575 0))] ++ (zz)) (Eq.trans (congrArg (fun zz : ZW => (sSg q5 w6 (List.replicate 32 0) w7 0) ++ ((sAr w7 (List.replicate 672 0)) ++ ((sSg q8 w9 (List.replicate 32 0) w10 0) ++ ((sAr w10 (List.replicate 672 0)) ++ (zz))))) (rfl : ([] : ZW) = [])) (show (sSg q5 w6 (List.replicate 32 0) w7 0) ++ ((sAr w7 (List.replicate 672 0)) ++ ((sSg q8 w9 (List.replicate 32 0) w10 0) ++ ((sAr w10 (List.replicate 672 0)) ++ (([] : ZW))))) = (sFs (List.range 2) (fun j => List.getD [q5, q8] j 0) (fun j => List.getD [w6, w9] j (fun _ => 0)) (fun j => List.getD [w7, w10] j 0) (fun _ => ((List.replicate 32 0), 0, (List.replicate 672 0)))) ++ (([] : ZW)) from (@z_amFs (fun j => List.getD [q5, q8] j 0) (fun j => List.getD [w6, w9] j (fun _ => 0)) (fun j => List.getD [w7, w10] j 0) (fun _ => ((List.replicate 32 0), 0, (List.replicate 672 0))) (([] : ZW))).symm))) (show [(q2, zI (List.replicate 1575 0))] ++ ((sFs (List.range 2) (fun j => List.getD [q5, q8] j 0) (fun j => List.getD [w6, w9] j (fun _ => 0)) (fun j => List.getD [w7, w10] j 0) (fun _ => ((List.replicate 32 0), 0, (List.replicate 672 0)))) ++ (([] : ZW))) = (sAr q2 (List.replicate 1575 0)) ++ ((sFs (List.range 2) (fun j => List.getD [q5, q8] j 0) (fun j => List.getD [w6, w9] j (fun _ => 0)) (fun j => List.getD [w7, w10] j 0) (fun _ => ((List.replicate 32 0), 0, (List.replicate 672 0)))) ++ (([] : ZW))) from rfl))) (show [(p, zO 0 [.ref q1, .ref q2, .ref q3, .ref q4, .ref q5, .ref q8, .int 0, .int 0])] ++ ([(q1, zZ (List.replicate 75 0))] ++ ([(q3, zI (List.replicate 20 0))] ++ ([(q4, zI (List.replicate 20 0))] ++ ((sAr q2 (List.replicate 1575 0)) ++ ((sFs (List.range 2) (fun j => List.getD [q5, q8] j 0) (fun j => List.getD [w6, w9] j (fun _ => 0)) (fun j => List.getD [w7, w10] j 0) (fun _ => ((List.replicate 32 0), 0, (List.replicate 672 0)))) ++ (([] : ZW))))))) = (sBk (fun j => List.getD [q5, q8] j 0) p (fun j => List.getD [q1, q3, q4] j 0) (List.replicate 75 0) q2 (List.replicate 20 0) (List.replicate 20 0) 0 1 0 0) ++ ((sAr q2 (List.replicate 1575 0)) ++ ((sFs (List.range 2) (fun j => List.getD [q5, q8] j 0) (fun j => List.getD [w6, w9] j (fun _ => 0)) (fun j => List.getD [w7, w10] j 0) (fun _ => ((List.replicate 32 0), 0, (List.replicate 672 0)))) ++ (([] : ZW)))) from rfl)) (@z_fl3 (sBk (fun j => List.getD [q5, q8] j 0) p (fun j => List.getD [q1, q3, q4] j 0) (List.replicate 75 0) q2 (List.replicate 20 0) (List.replicate 20 0) 0 1 0 0) (sAr q2 (List.replicate 1575 0)) (sFs (List.range 2) (fun j => List.getD [q5, q8] j 0) (fun j => List.getD [w6, w9] j (fun _ => 0)) (fun j => List.getD [w7, w10] j 0) (fun _ => ((List.replicate 32 0), 0, (List.replicate 672 0))))).symm))) (by decide)) ?_
  exact Go.vret zk_X0_init rfl rfl ⟨rfl, (fun j => List.getD [q1, q3, q4] j 0), q2, (fun j => List.getD [q5, q8] j 0), (fun j => List.getD [w6, w9] j (fun _ => 0)), (fun j => List.getD [w7, w10] j 0), rfl⟩
end
