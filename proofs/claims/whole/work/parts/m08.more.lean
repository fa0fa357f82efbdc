theorem z_tb_good {ws : List Cond} (h : ∀ w ∈ ws, w ∈ z_tb) : GoodIn z_tb ws := fun w hw => ⟨h w hw, good_of_word (List.mem_filter.mp (h w hw)).2⟩
section ZR
variable {l : Launch} {D : va_G} {r : Nat → Nat} {rl : Nat → List Int32} {M : ZM} {k n : Nat} {Q : Option Value → ZW → Prop}
theorem z_Wrun {p : Program} {e : Env} {R : Room} {s : State} {m : MethodId} {args : Array Value} {below : List Frame} {meth : Method} {c : Code} {H : Heap} {locs : List Loc} {cells slots k1 n1 pc : Nat} {ls : Array Slot} {st0 rest : List Value} {Qw : State → Prop} {wc : ZW} {A : Nat → Prop} {a : Array Value} {Q' : Option Value → ZW → Prop}
    (hr : va_Run p l e R s m args below meth c H locs cells slots k1 n1 (F0 m pc ls st0) rest (z_Qc D wc H.size Q' a) (z_A wc H.size)) (hS : va_S A s.heap H locs) (hF : ∀ q, z_A wc H.size q → A q)
    (kk : ∀ (v : Option Value) (wc' : ZW) (t : State) (H1 : Heap) (locs1 : List Loc), Q' v wc' → z_Rp D (z_A wc H.size) wc' t H1 → s.vm.Alike t.vm → (∀ q : Nat, q < H.size → ¬ z_A wc H.size q → H1[q]? = H[q]?) → va_S A s.heap H1 locs1 → W p l e R s m args below meth c H1 locs1 (cells + k1) (slots + n1) Qw (F0 m (pc + 3) ls (v.toList ++ rest))) :
    W p l e R s m args below meth c H locs cells slots Qw (F0 m pc ls st0) := by
  intro T hT X
  obtain ⟨v, st₀, t, T', L, h0, X', hL, e1, e2, ⟨⟨v', wc', hv, hq, hrp⟩, hz, hk⟩, st⟩ := hr T hT X
  cases hv
  rw [h0] at hz hk
  rw [← e1] at hrp
  obtain ⟨t2, a1, b1⟩ := kk v wc' t T'.heap (locs ++ L) hq hrp (by rw [← e2]; exact X'.warmed.alike) (fun q h1 h2 => by rw [e1]; exact hk q h1 h2)
    ⟨Nat.le_trans hS.1 (by rw [e1]; exact hz), fun q h1 h2 => by rw [e1, hk q (Nat.lt_of_lt_of_le h1 hS.1) (fun z => h2 (hF q z))]; exact hS.2.1 q h1 h2, fun q hq => by
      rcases List.mem_append.mp hq with h | h
      · exact hS.2.2 q h
      · exact hF _ (hL q h)⟩ T' rfl X'
  exact ⟨t2, st t2 a1, b1⟩
theorem z_blind {As : List Value} {w : ZW} {sz : Nat} : FrameBlind (z_Pc D r rl As w sz) := by
  intro a U g mk h
  obtain ⟨h1, h2, h3, h4, h5, h6⟩ := h
  have al : U.vm.Alike (U.calling g mk a).vm := Vm.Alike.refl U.vm
  exact ⟨h1, h2, h3.moved (U := U.calling g mk a) al, va_K.moved (U := U.calling g mk a) al h4, h5.moved (U := U.calling g mk a) al, h6.same (U := U.calling g mk a) rfl⟩
/-- what the callee asks of the start -/
theorem z_pre {p : Program} {R : Room} {s U : State} {m : MethodId} {args : Array Value} {meth : Method} {c : Code} {A : Nat → Prop} {H : Heap} {locs : List Loc} {As : List Value} {wc : ZW} (C0 : z_Cx D r rl M p R s m args meth c A) (hS : va_S A s.heap H locs) (hF : ∀ q, z_A wc H.size q → A q) (hR : z_Rp D (z_A wc H.size) wc s H) (hU : U.heap = H) (hW : s.WarmedH U.vm) : z_Pc D r rl As wc H.size As.toArray U := by
  obtain ⟨h1, h2, h3, h4, h5, h6, h7, h8, h9, h10, h11, h12, h13, h14⟩ := C0
  refine ⟨rfl, by rw [hU], by rw [hU]; exact hR.moved hW.alike, va_K.moved hW.alike h8, ?_, ?_⟩
  · rw [hU]
    exact (h12.kept (fun a ha hn => hS.2.1 a ha hn) (fun a _ hn q => hn (hF a q))).moved hW.alike
  · rw [hU]
    exact (h13.kept (fun a ha hn => hS.2.1 a ha hn) (fun a _ hn q => hn (hF a q))).warm hW
theorem z_go_on {p : Program} {e : Env} {R : Room} {s : State} {m : MethodId} {args : Array Value} {below : List Frame} {meth : Method} {c : Code} {A : Nat → Prop} {H : Heap} {locs : List Loc} {cells slots k1 n1 pc : Nat} {ls : Array Slot} {st0 rest : List Value} {Qw : State → Prop} {w wc : ZW} {a : Array Value} {L : List (Option Value)} {Q' : Option Value → ZW → Prop} {wr : ZW}
    (C0 : z_Cx D r rl M p R s m args meth c A) (hc1 : cells + (k1 + k) ≤ R.cells) (hs1 : slots + (n1 + n) ≤ R.slots) (hR : z_Rp D A w s H) (hS : va_S A s.heap H locs) (hL : z_L ls (z_nL M) L)
    (hend : ∀ (v : Option Value) (w' : ZW) (H' : Heap) (locs' : List Loc) (pc' : Nat) (ls' : Array Slot), Q v w' → z_Rp D A w' s H' → va_S A s.heap H' locs' → z_rt M pc' v → W p l e R s m args below meth c H' locs' (cells + (k1 + k)) (slots + (n1 + n)) Qw (F0 m pc' ls' v.toList))
    (hp : w.Perm (wc ++ wr)) (hF : ∀ q, z_A wc H.size q → A q)
    (hr : va_Run p l e R s m args below meth c H locs cells slots k1 n1 (F0 m pc ls st0) rest (z_Qc D wc H.size Q' a) (z_A wc H.size))
    (kk : ∀ v wc', Q' v wc' → ∃ w2 : ZW, w2.Perm (wc' ++ wr) ∧ Go l D r rl M k n (pc + 3, L, v.toList ++ rest, w2) Q) : W p l e R s m args below meth c H locs cells slots Qw (F0 m pc ls st0) := by
  refine z_Wrun hr hS hF (fun v wc' t H1 locs1 hq hrp hvm hk hS1 => ?_)
  obtain ⟨w2, hp2, kk⟩ := kk v wc' hq
  refine kk p e R s m args below meth c A Qw H1 locs1 (cells + k1) (slots + n1) ls C0 (by omega) (by omega) (z_behind hR hp hp2 hF hrp hvm hk) hS1 hL ?_
  rw [Nat.add_assoc, Nat.add_assoc]
  exact hend
theorem Go.callV (hok : z_ok M = true) (M' : ZM) (j ci : Nat) {As rest : List Value} {b0 pc len a b i0 np k1 n1 : Nat} {v : Value} {fs : List Value} {L : List (Option Value)} {st : List Value} {w wc wr : ZW} {rc : vw_C} {Q' : Option Value → ZW → Prop} (hl : (z_code M).lookup pc = some (.invokevirtual i0, len, a, b, v)) (hlk : Cond.methodLink (z_own M) i0 (z_y M') ∈ z_tb) (hvm : z_vm M' np)
    (hfr : z_fr M' + 1 ≤ z_fr M ∧ 8 + (z_nL M' + 11) + z_lo M' ≤ z_lo M) (hp : w.Perm (wc ++ wr)) (hj : wc[j]? = some (b0, zO ci fs)) (hcl : vwCl[ci]? = some rc) (hrc : rc.1 = (z_y M').cls) (hlen : As.length = np) (hst : st = As.reverse ++ .ref b0 :: rest) (hrest : (rest.map fun v => v.category).sum ≤ 8)
    (ct : Ct l D r rl M' k1 n1 (.ref b0 :: As) wc Q') (kk : ∀ v wc', Q' v wc' → ∃ w2 : ZW, w2.Perm (wc' ++ wr) ∧ Go l D r rl M k n (pc + 3, L, v.toList ++ rest, w2) Q) : Go l D r rl M (k1 + k) (n1 + n) (pc, L, st, w) Q := by
  have hc := z_chk_of hok hl
  simp only [z_chk, Bool.and_eq_true, decide_eq_true_eq, beq_iff_eq] at hc
  obtain ⟨hd, rfl⟩ := hc
  intro p e R s m args below meth c A Qw H locs cells slots ls C0 hc1 hs1 hR hS hL hend
  obtain ⟨h1, h2, h3, h4, h5, h6, h7, h8, h9, h10, h11, h12, h13, h14⟩ := id C0
  obtain ⟨hF, hRc⟩ := z_before hR hS h14 hp
  obtain ⟨v1, v2, v3, v4, v5, v6, v7⟩ := hvm
  have hT : GoodIn z_tb (wsV (z_own M) i0 (z_y M').cls (z_y M') (z_ws M')) := z_tb_good (fun x hx => by
    unfold wsV at hx
    rcases List.mem_append.mp hx with h | h
    · simp only [List.mem_cons, List.not_mem_nil, or_false] at h
      rcases h with rfl | rfl | rfl | rfl <;> assumption
    · rcases List.mem_cons.mp h with h | h
      · rw [h]; exact v4
      · exact h)
  have cw := cwV (R := R) (rm := z_rm M' k1 n1) (ws' := z_tb) np h7 hT rfl rfl rfl ⟨rfl, v5, v6, v7⟩ (by show z_fr M' + 1 ≤ R.frames ∧ 8 + (z_nL M' + 11) + z_lo M' ≤ R.locals; omega)
  have hrecv : ∃ cellB : Cell, H[b0]? = some cellB ∧ cellB.vm.isStatics = false ∧ s.vm.findClass (z_y M').cls = some cellB.cls := by
    obtain ⟨kc, g1, g2, g3⟩ := hRc
    rw [← hrc]
    exact va_recv h8 g1 hcl (z_w_at hj)
  refine z_go_on (a := (Value.ref b0 :: As).toArray) (rest := rest) C0 hc1 hs1 hR hS hL hend hp hF (va_runV (nL := z_nL M) (As := As) (rest := rest) ⟨h1, h2, h4, h6, h7⟩ (ct H.size) cw ⟨z_blind, hrecv, fun U hU hW => z_pre C0 hS hF hRc hU hW⟩ rfl hlen hL.1 hst (lv_room hrest) hd ⟨by omega, by omega⟩) kk
theorem Go.callS (hok : z_ok M = true) (M' : ZM) {As rest : List Value} {pc len a b i0 np k1 n1 : Nat} {v : Value} {L : List (Option Value)} {st : List Value} {w wc wr : ZW} {Q' : Option Value → ZW → Prop} (hl : (z_code M).lookup pc = some (.invokestatic i0, len, a, b, v)) (hlk : Cond.methodLink (z_own M) i0 (z_y M') ∈ z_tb) (hvm : z_sm M' np)
    (hfr : z_fr M' + 1 ≤ z_fr M ∧ 8 + (z_nL M' + 11) + z_lo M' ≤ z_lo M) (hp : w.Perm (wc ++ wr)) (hlen : As.length = np) (hst : st = As.reverse ++ rest) (hrest : (rest.map fun v => v.category).sum ≤ 8)
    (ct : Ct l D r rl M' k1 n1 As wc Q') (kk : ∀ v wc', Q' v wc' → ∃ w2 : ZW, w2.Perm (wc' ++ wr) ∧ Go l D r rl M k n (pc + 3, L, v.toList ++ rest, w2) Q) : Go l D r rl M (k1 + k) (n1 + n) (pc, L, st, w) Q := by
  have hc := z_chk_of hok hl
  simp only [z_chk, Bool.and_eq_true, decide_eq_true_eq, beq_iff_eq] at hc
  obtain ⟨hd, rfl⟩ := hc
  intro p e R s m args below meth c A Qw H locs cells slots ls C0 hc1 hs1 hR hS hL hend
  obtain ⟨h1, h2, h3, h4, h5, h6, h7, h8, h9, h10, h11, h12, h13, h14⟩ := id C0
  obtain ⟨hF, hRc⟩ := z_before hR hS h14 hp
  obtain ⟨v1, v3, v4, v5, v6, v7⟩ := hvm
  have hT : GoodIn z_tb (va_wsS (z_own M) i0 (z_y M') (z_ws M')) := z_tb_good (fun x hx => by
    unfold va_wsS at hx
    rcases List.mem_append.mp hx with h | h
    · simp only [List.mem_cons, List.not_mem_nil, or_false] at h
      rcases h with rfl | rfl | rfl <;> assumption
    · rcases List.mem_cons.mp h with h | h
      · rw [h]; exact v4
      · exact h)
  have cw := va_cwS (R := R) (rm := z_rm M' k1 n1) (ws' := z_tb) np h7 hT rfl rfl rfl ⟨v5, v6, v7⟩ (by show z_fr M' + 1 ≤ R.frames ∧ 8 + (z_nL M' + 11) + z_lo M' ≤ R.locals; omega)
  refine z_go_on (a := As.toArray) (rest := rest) C0 hc1 hs1 hR hS hL hend hp hF (va_runS (nL := z_nL M) (As := As) (rest := rest) ⟨h1, h2, h4, h6, h7⟩ (ct H.size) cw ⟨z_blind, fun U hU hW => z_pre C0 hS hF hRc hU hW⟩ rfl hlen hL.1 hst (lv_room hrest) hd ⟨by omega, by omega⟩) kk
theorem Go.callI (hok : z_ok M = true) (M' : ZM) {As rest : List Value} {b0 pc len a b i0 np k1 n1 : Nat} {v : Value} {L : List (Option Value)} {st : List Value} {w wc wr : ZW} {Q' : Option Value → ZW → Prop} (hl : (z_code M).lookup pc = some (.invokespecial i0, len, a, b, v)) (hlk : Cond.methodLink (z_own M) i0 (z_y M') ∈ z_tb ∨ ∃ host, (z_own M, i0, z_y M', host) ∈ z_nl) (hvm : z_im M' np)
    (hfr : z_fr M' + 1 ≤ z_fr M ∧ 8 + (z_nL M' + 11) + z_lo M' ≤ z_lo M) (hp : w.Perm (wc ++ wr)) (hlen : As.length = np) (hst : st = As.reverse ++ .ref b0 :: rest) (hrest : (rest.map fun v => v.category).sum ≤ 8)
    (ct : Ct l D r rl M' k1 n1 (.ref b0 :: As) wc Q') (kk : ∀ v wc', Q' v wc' → ∃ w2 : ZW, w2.Perm (wc' ++ wr) ∧ Go l D r rl M k n (pc + 3, L, v.toList ++ rest, w2) Q) : Go l D r rl M (k1 + k) (n1 + n) (pc, L, st, w) Q := by
  have hc := z_chk_of hok hl
  simp only [z_chk, Bool.and_eq_true, decide_eq_true_eq, beq_iff_eq] at hc
  obtain ⟨hd, rfl⟩ := hc
  intro p e R s m args below meth c A Qw H locs cells slots ls C0 hc1 hs1 hR hS hL hend
  obtain ⟨h1, h2, h3, h4, h5, h6, h7, h8, h9, h10, h11, h12, h13, h14⟩ := id C0
  obtain ⟨hF, hRc⟩ := z_before hR hS h14 hp
  obtain ⟨v1, v2, v3, v4, v5, v6, v7, v8⟩ := hvm
  have hT : GoodIn z_tb (z_ws M') := z_tb_good (fun x hx => by
    rcases List.mem_cons.mp hx with h | h
    · rw [h, v4]; exact v3
    · exact h)
  have hws : z_ws M' = Cond.code (z_y M') (z_cc M') (z_nL M') none :: z_tb := by unfold z_ws; rw [v4]
  rcases hlk with hlk | ⟨host, hlk⟩
  · have cw := cwI (R := R) (rm := z_rm M' k1 n1) (ws' := z_tb) np h7 hT hws rfl rfl (h7 _ v2) (h7 _ hlk) (h7 _ v1) v5 ⟨v6, v7, v8⟩ (by show z_fr M' + 1 ≤ R.frames ∧ 8 + (z_nL M' + 11) + z_lo M' ≤ R.locals; omega)
    refine z_go_on (a := (Value.ref b0 :: As).toArray) (rest := rest) C0 hc1 hs1 hR hS hL hend hp hF (va_runI (nL := z_nL M) (As := As) (rest := rest) ⟨h1, h2, h4, h6, h7⟩ (ct H.size) cw ⟨z_blind, fun U hU hW => z_pre C0 hS hF hRc hU hW⟩ rfl hlen hL.1 hst (lv_room hrest) hd ⟨by omega, by omega⟩) kk
  · have cw := va_cnB (R := R) (rm := z_rm M' k1 n1) (ws' := z_tb) (host := host) (index := i0) (own := z_own M) (args := args) np h7 hT hws rfl rfl (h13.2.1 _ hlk) (h7 _ v2) ⟨v6, v7, v8⟩ (by show z_fr M' + 1 ≤ R.frames ∧ 8 + (z_nL M' + 11) + z_lo M' ≤ R.locals; omega)
    refine z_go_on (a := (Value.ref b0 :: As).toArray) (rest := rest) C0 hc1 hs1 hR hS hL hend hp hF (va_runIN (nL := z_nL M) (As := As) (rest := rest) ⟨h1, h2, h4, h6, h7⟩ (ct H.size) ⟨cw, v5, h7 _ v1⟩ ⟨z_blind, fun U hU hW => z_pre C0 hS hF hRc hU hW⟩ rfl hlen hL.1 hst (lv_room hrest) hd ⟨by omega, by omega⟩) kk
theorem Go.ret {v : Option Value} {pc : Nat} {L : List (Option Value)} {w : ZW} (hrt : z_rt M pc v) (hQ : Q v w) : Go l D r rl M k n (pc, L, v.toList, w) Q := by
  intro p e R s m args below meth c A Qw H locs cells slots ls C0 hc1 hs1 hR hS hL hend
  exact W.widen (k := cells + k) (n := slots + n) (Nat.le_add_right _ _) (Nat.le_add_right _ _) (hend v w H locs pc ls hQ hR hS hrt)
theorem Go.iret (hok : z_ok M = true) {pc len a b : Nat} {v : Value} {x : Int32} {ty : FieldType} {L : List (Option Value)} {w : ZW} (hl : (z_code M).lookup pc = some (.ireturn, len, a, b, v)) (hty : z_ret M = some ty) (hn : narrow ty (.int x) = .int x) (hQ : Q (some (.int x)) w) : Go l D r rl M k n (pc, L, [.int x], w) Q := by
  have hc := z_chk_of hok hl
  simp only [z_chk, Bool.and_eq_true, decide_eq_true_eq, beq_iff_eq] at hc
  obtain ⟨hd, rfl⟩ := hc
  exact Go.ret (v := some (.int x)) ⟨hd, ty, hty, hn⟩ hQ
theorem Go.lret (hok : z_ok M = true) {pc len a b : Nat} {v : Value} {x : Int64} {L : List (Option Value)} {w : ZW} (hl : (z_code M).lookup pc = some (.lreturn, len, a, b, v)) (hty : z_ret M = some .long) (hQ : Q (some (.long x)) w) : Go l D r rl M k n (pc, L, [.long x], w) Q := by
  have hc := z_chk_of hok hl
  simp only [z_chk, Bool.and_eq_true, decide_eq_true_eq, beq_iff_eq] at hc
  obtain ⟨hd, rfl⟩ := hc
  exact Go.ret (v := some (.long x)) ⟨hd, hty⟩ hQ
theorem Go.aret (hok : z_ok M = true) {pc len a b x : Nat} {v : Value} {C : String} {L : List (Option Value)} {w : ZW} (hl : (z_code M).lookup pc = some (.areturn, len, a, b, v)) (hty : z_ret M = some (.object C)) (hQ : Q (some (.ref x)) w) : Go l D r rl M k n (pc, L, [.ref x], w) Q := by
  have hc := z_chk_of hok hl
  simp only [z_chk, Bool.and_eq_true, decide_eq_true_eq, beq_iff_eq] at hc
  obtain ⟨hd, rfl⟩ := hc
  exact Go.ret (v := some (.ref x)) ⟨hd, C, hty⟩ hQ
theorem Go.vret (hok : z_ok M = true) {pc len a b : Nat} {v : Value} {L : List (Option Value)} {w : ZW} (hl : (z_code M).lookup pc = some (.return_, len, a, b, v)) (hty : z_ret M = none) (hQ : Q none w) : Go l D r rl M k n (pc, L, [], w) Q := by
  have hc := z_chk_of hok hl
  simp only [z_chk, Bool.and_eq_true, decide_eq_true_eq, beq_iff_eq] at hc
  obtain ⟨hd, rfl⟩ := hc
  exact Go.ret (v := none) ⟨hd, hty⟩ hQ
theorem Go.oinit (hok : z_ok M = true) {pc len a b i0 x : Nat} {v : Value} {L : List (Option Value)} {st : List Value} {w : ZW} (hl : (z_code M).lookup pc = some (.invokespecial i0, len, a, b, v)) (hlk : Cond.methodLink (z_own M) i0 objectInit ∈ z_tb) (hi : Cond.instanceMethod objectInit ∈ z_tb) (hcd : Cond.code objectInit ⟨#[0xb1]⟩ 1 none ∈ z_tb) (hfr : 1 ≤ z_fr M ∧ (st.map fun v => v.category).sum + 12 ≤ z_lo M)
    (kk : Go l D r rl M k n (pc + 3, L, st, w) Q) : Go l D r rl M k n (pc, L, .ref x :: st, w) Q := by
  have hc := z_chk_of hok hl
  simp only [z_chk, Bool.and_eq_true, decide_eq_true_eq, beq_iff_eq] at hc
  obtain ⟨hd, rfl⟩ := hc
  intro p e R s m args below meth c A Qw H locs cells slots ls C0 hc1 hs1 hR hS hL hend
  have K := kk p e R s m args below meth c A Qw H locs cells slots ls C0 hc1 hs1 hR hS hL hend
  obtain ⟨h1, h2, h3, h4, h5, h6, h7, h8, h9, h10, h11, h12, h13, h14⟩ := id C0
  refine W.objInit h1 h2 h6 (h7 _ hlk) (h7 _ hi) (h7 _ hcd) rfl (by rw [h4]; exact hL.1) rfl hd (by omega) ?_ K
  have : (F0 m pc ls (Value.ref x :: st)).monitorRoom = 0 := rfl
  rw [this]; omega
theorem Go.mmax (hok : z_ok M = true) {pc len a b i0 : Nat} {v : Value} {x y : Int32} {L : List (Option Value)} {st : List Value} {w : ZW} (hl : (z_code M).lookup pc = some (.invokestatic i0, len, a, b, v)) (hlk : Cond.methodLink (z_own M) i0 Lib.Math.max.name ∈ z_tb) (hfr : 1 ≤ z_fr M ∧ (st.map fun v => v.category).sum + 13 ≤ z_lo M)
    (hi : Cond.static Lib.Math.max.name ∈ z_tb ∧ Cond.initialized "java/lang/Math" ∈ z_tb ∧ Cond.code Lib.Math.max.name Lib.Math.max.code 2 (some .int) ∈ z_tb) (kk : Go l D r rl M k n (pc + 3, L, .int (if x < y then y else x) :: st, w) Q) : Go l D r rl M k n (pc, L, .int y :: .int x :: st, w) Q := by
  have hc := z_chk_of hok hl
  simp only [z_chk, Bool.and_eq_true, decide_eq_true_eq, beq_iff_eq] at hc
  obtain ⟨hd, rfl⟩ := hc
  intro p e R s m args below meth c A Qw H locs cells slots ls C0 hc1 hs1 hR hS hL hend
  have K := kk p e R s m args below meth c A Qw H locs cells slots ls C0 hc1 hs1 hR hS hL hend
  obtain ⟨h1, h2, h3, h4, h5, h6, h7, h8, h9, h10, h11, h12, h13, h14⟩ := id C0
  exact va_mmax h1 h2 (h4.trans hL.1.symm) h6 (h7 _ hlk) (h7 _ hi.1) (h7 _ hi.2.1) (h7 _ hi.2.2) (by omega) (by omega) (by omega) (by omega) hd K
theorem Go.mmin (hok : z_ok M = true) {pc len a b i0 : Nat} {v : Value} {x y : Int32} {L : List (Option Value)} {st : List Value} {w : ZW} (hl : (z_code M).lookup pc = some (.invokestatic i0, len, a, b, v)) (hlk : Cond.methodLink (z_own M) i0 Lib.Math.min.name ∈ z_tb) (hfr : 1 ≤ z_fr M ∧ (st.map fun v => v.category).sum + 13 ≤ z_lo M)
    (hi : Cond.static Lib.Math.min.name ∈ z_tb ∧ Cond.initialized "java/lang/Math" ∈ z_tb ∧ Cond.code Lib.Math.min.name Lib.Math.min.code 2 (some .int) ∈ z_tb) (kk : Go l D r rl M k n (pc + 3, L, .int (if y < x then y else x) :: st, w) Q) : Go l D r rl M k n (pc, L, .int y :: .int x :: st, w) Q := by
  have hc := z_chk_of hok hl
  simp only [z_chk, Bool.and_eq_true, decide_eq_true_eq, beq_iff_eq] at hc
  obtain ⟨hd, rfl⟩ := hc
  intro p e R s m args below meth c A Qw H locs cells slots ls C0 hc1 hs1 hR hS hL hend
  have K := kk p e R s m args below meth c A Qw H locs cells slots ls C0 hc1 hs1 hR hS hL hend
  obtain ⟨h1, h2, h3, h4, h5, h6, h7, h8, h9, h10, h11, h12, h13, h14⟩ := id C0
  exact va_mmin h1 h2 (h4.trans hL.1.symm) h6 (h7 _ hlk) (h7 _ hi.1) (h7 _ hi.2.1) (h7 _ hi.2.2) (by omega) (by omega) (by omega) (by omega) hd K
theorem Go.tsIn (hok : z_ok M = true) {pc len a b tgt : Nat} {v : Value} {dflt lo hi off : Int} {offs : Array Int} {x : Int32} {L : List (Option Value)} {st : List Value} {w : ZW} (hl : (z_code M).lookup pc = some (.tableswitch dflt lo hi offs, len, a, b, v)) (g1 : ¬ x.toInt < lo) (g2 : ¬ hi < x.toInt) (ho : offs[(x.toInt - lo).toNat]? = some off) (ht : (pc : Int) + off = (tgt : Int))
    (kk : Go l D r rl M k n (tgt, L, st, w) Q) : Go l D r rl M k n (pc, L, .int x :: st, w) Q := by
  have hc := z_chk_of hok hl
  simp only [z_chk, Bool.and_eq_true, decide_eq_true_eq] at hc
  intro p e R s m args below meth c A Qw H locs cells slots ls C0 hc1 hs1 hR hS hL hend
  have K := kk p e R s m args below meth c A Qw H locs cells slots ls C0 hc1 hs1 hR hS hL hend
  obtain ⟨h1, h2, h3, h4, h5, h6, h7, h8, h9, h10, h11, h12, h13, h14⟩ := id C0
  exact lv_tableIn h1 h2 hc.1 g1 g2 ho ht K
theorem Go.tsOut (hok : z_ok M = true) {pc len a b tgt : Nat} {v : Value} {dflt lo hi : Int} {offs : Array Int} {x : Int32} {L : List (Option Value)} {st : List Value} {w : ZW} (hl : (z_code M).lookup pc = some (.tableswitch dflt lo hi offs, len, a, b, v)) (g : x.toInt < lo ∨ hi < x.toInt) (ht : (pc : Int) + dflt = (tgt : Int))
    (kk : Go l D r rl M k n (tgt, L, st, w) Q) : Go l D r rl M k n (pc, L, .int x :: st, w) Q := by
  have hc := z_chk_of hok hl
  simp only [z_chk, Bool.and_eq_true, decide_eq_true_eq] at hc
  intro p e R s m args below meth c A Qw H locs cells slots ls C0 hc1 hs1 hR hS hL hend
  have K := kk p e R s m args below meth c A Qw H locs cells slots ls C0 hc1 hs1 hR hS hL hend
  obtain ⟨h1, h2, h3, h4, h5, h6, h7, h8, h9, h10, h11, h12, h13, h14⟩ := id C0
  exact lv_tableOut h1 h2 hc.1 g ht K
end ZR
