/-! the class's table of neighbours: the loops -/
section
variable {N k w h v : Nat} {q r t : Int} {adj : List Int32}
theorem lay80 (hk : k < 3) (hw : 1 ≤ w ∧ w ≤ 5) (hh : 1 ≤ h ∧ h ≤ 5) (hn : w * h * kiN k ≤ 20) (hv : v < 20) (ht : okT k t) (hq : 0 ≤ q ∧ q < w) (hr : 0 ≤ r ∧ r < h) : ∀ (m e fu : Nat) (adj : List Int32), e + m = dg k → m < fu → adj.length = 20 → adj[v]? = some (nI (nrD k w ((w * h * kiN k : Nat) : Int) q r t e)) → OK (f_X0_layOut_L80 N (iI (w : Nat)) (iI (h : Nat)) (iI (v : Nat)) (iI r) (iI q) (iI t) k fu (iI (e : Nat)) adj) (fun u => u.length = 20 ∧ u[v]? = some (nI (nrD k w ((w * h * kiN k : Nat) : Int) q r t (dg k))) ∧ ∀ i, i ≠ v → u[i]? = adj[i]?)
  | 0, e, fu, adj, h1, h2, l, hx => by
    obtain ⟨fu, rfl⟩ : ∃ x, fu = x + 1 := ⟨fu - 1, by omega⟩
    have hdg : dg k ≤ 6 := by unfold dg; split <;> (try split) <;> omega
    rw [f_X0_layOut_L80, zdeg_eq, if_neg (iI_ltF (by omega) (by omega) (by omega)), OK_some]
    exact ⟨l, by rw [hx, show e = dg k by omega], fun i _ => rfl⟩
  | m + 1, e, fu, adj, h1, h2, l, hx => by
    obtain ⟨fu, rfl⟩ : ∃ x, fu = x + 1 := ⟨fu - 1, by omega⟩
    have hdg : dg k ≤ 6 := by unfold dg; split <;> (try split) <;> omega
    have hQ := gQ_rng k t e
    have hR := gR_rng k t e
    have hT := gT_ok ht
    obtain ⟨hk1, hk2⟩ := kin_N (k := k)
    have hTr : 0 ≤ gT k t ∧ gT k t < kiN k := by
      unfold okT at hT
      unfold kiN
      by_cases e1 : k = 1
      · rw [e1]
        rw [e1] at hT
        show 0 ≤ gT 1 t ∧ gT 1 t < ((2 : Nat) : Int)
        omega
      · rw [beq_ne e1]
        show 0 ≤ gT k t ∧ gT k t < ((1 : Nat) : Int)
        omega
    have n1 := neighbour_eq (N := N) (k := k) (q := q) (t := t) (d := (e : Int)) hk ht (by omega) (by omega)
    have n2 := neighbour_eq (N := N) (k := k) (q := r) (t := t) (d := (e : Int)) hk ht (by omega) (by omega)
    have n3 := neighbourT_eq (N := N) (k := k) (t := t) ht
    have stay : nrB k w ((w * h * kiN k : Nat) : Int) q r t e = 0 → OK (f_X0_layOut_L80 N (iI (w : Nat)) (iI (h : Nat)) (iI (v : Nat)) (iI r) (iI q) (iI t) k fu (iI (e : Nat) + 1) adj) (fun u => u.length = 20 ∧ u[v]? = some (nI (nrD k w ((w * h * kiN k : Nat) : Int) q r t (dg k))) ∧ ∀ i, i ≠ v → u[i]? = adj[i]?) := by
      intro h0
      rw [iI_succ]
      exact lay80 hk hw hh hn hv ht hq hr m (e + 1) fu adj (by omega) (by omega) l (by rw [hx, nrD, h0]; show _ = some (nI (_ ||| 0)); rw [Nat.or_zero])
    rw [f_X0_layOut_L80, zdeg_eq, if_pos (iI_ltT (by omega) (by omega) (by omega)), n1.1, Option.bind_some, n2.2, Option.bind_some]
    by_cases g1 : q + gQ k t e < 0
    · rw [if_pos (show iI (q + gQ k t e) < 0 by rw [li0]; exact iI_ltT g1 (by omega) (by omega))]
      exact stay (by unfold nrB; rw [if_neg (by omega)])
    rw [if_neg (show ¬ iI (q + gQ k t e) < 0 by rw [li0]; exact iI_ltF g1 (by omega) (by omega))]
    by_cases g2 : q + gQ k t e < w
    case neg =>
      rw [if_neg (iI_ltF g2 (by omega) (by omega))]
      exact stay (by unfold nrB; rw [if_neg (by omega)])
    rw [if_pos (iI_ltT g2 (by omega) (by omega))]
    have hidx := idx_iff (h := h) (w := w) (K := kiN k) (x := q + gQ k t e) (y := r + gR k t e) (g := gT k t) hw hk2 ⟨by omega, g2⟩ hTr
    have hid : idx k w q r t e = (kiN k : Int) * (w * (r + gR k t e) + (q + gQ k t e)) + gT k t := by unfold idx; rw [hk1]
    rw [← hid] at hidx
    have hcast : ((w * h * kiN k : Nat) : Int) = (w : Int) * h * kiN k := by simp
    rw [← hcast] at hidx
    by_cases g3 : r + gR k t e < 0
    · rw [if_pos (show iI (r + gR k t e) < 0 by rw [li0]; exact iI_ltT g3 (by omega) (by omega))]
      exact stay (by unfold nrB; rw [if_pos ⟨by omega, by omega⟩, if_neg (fun hc => by have := hidx.mp hc; omega)])
    rw [if_neg (show ¬ iI (r + gR k t e) < 0 by rw [li0]; exact iI_ltF g3 (by omega) (by omega))]
    by_cases g4 : r + gR k t e < h
    case neg =>
      rw [if_neg (iI_ltF g4 (by omega) (by omega))]
      exact stay (by unfold nrB; rw [if_pos ⟨by omega, by omega⟩, if_neg (fun hc => by have := hidx.mp hc; omega)])
    have g5 := hidx.mpr ⟨by omega, g4⟩
    have hsh : (1 : Int32) <<< (((iI (r + gR k t e) * iI (w : Nat) + iI (q + gQ k t e)) * iI (kin k) + iI (gT k t)) &&& 31) = nI (2 ^ (idx k w q r t e).toNat) := by
      have h3 := shl_20 (idx k w q r t e).toNat (by omega)
      rw [Int.toNat_of_nonneg g5.1] at h3
      rw [← h3, iI_mul, iI_add, iI_mul, iI_add, hid, hk1]
      congr 3
      rw [Int.mul_comm (r + gR k t e), Int.mul_comm (_ + _) (kiN k : Int)]
    rw [if_pos (iI_ltT g4 (by omega) (by omega)), n3, Option.bind_some, gI hx (by omega), Option.bind_some, zkin_eq, hsh, orI, sI (by omega) (by omega), Option.bind_some, iI_succ]
    refine OK.mono (lay80 hk hw hh hn hv ht hq hr m (e + 1) fu _ (by omega) (by omega) (by simp [l]) ?_) ?_
    · rw [List.getElem?_set_self (by omega), nrD, nrB, if_pos ⟨by omega, by omega⟩, if_pos g5]
    · rintro u ⟨u1, u2, u3⟩
      exact ⟨u1, u2, fun i hi => by rw [u3 i hi, List.getElem?_set_ne (fun h => hi h.symm)]⟩
end
