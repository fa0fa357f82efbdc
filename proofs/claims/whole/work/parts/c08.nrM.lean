/-! the reference's table of neighbours in a block -/
def idx (k : Nat) (w q r t : Int) (e : Nat) : Int := kin k * (w * (r + gR k t e) + (q + gQ k t e)) + gT k t
def nrB (k : Nat) (w n q r t : Int) (e : Nat) : Nat := if 0 ≤ q + gQ k t e ∧ q + gQ k t e ≤ w - 1 then (if 0 ≤ idx k w q r t e ∧ idx k w q r t e ≤ n - 1 then 2 ^ (idx k w q r t e).toNat else 0) else 0
def nrD (k : Nat) (w n q r t : Int) : Nat → Nat
  | 0 => 0
  | e + 1 => Nat.lor (nrD k w n q r t e) (nrB k w n q r t e)
def nrV (k : Nat) (w n : Int) (v : Nat) : Nat := nrD k w n ((v : Int) / kin k % w) ((v : Int) / kin k / w) ((v : Int) % kin k) (dg k)
section
variable {N k v : Nat} {w n q r t : Int} {d near : List Int32}
theorem nbL (hd : DK k d) (hw : 1 ≤ w ∧ w ≤ 5) (hn : 1 ≤ n ∧ n ≤ 20) (hv : v < 20) (ht : okT k t) (hq : 0 ≤ q ∧ q ≤ 5) (hr : 0 ≤ r ∧ r ≤ 25) : ∀ (m e fu : Nat) (near : List Int32), e + m = dg k → m < fu → near.length = 20 → near[v]? = some (nI (nrD k w n q r t e)) → OK (f_X12_neighbours_L42 N (iI w) (iI n) (iI (kin k)) (iI (v : Nat)) (iI t) (iI q) (iI r) d fu (iI (e : Nat)) near) (fun u => u.length = 20 ∧ u[v]? = some (nI (nrD k w n q r t (dg k))) ∧ ∀ i, i ≠ v → u[i]? = near[i]?)
  | 0, e, fu, near, h1, h2, l, hx => by
    obtain ⟨fu, rfl⟩ : ∃ x, fu = x + 1 := ⟨fu - 1, by omega⟩
    have hdg : dg k ≤ 6 := by unfold dg; split <;> (try split) <;> omega
    rw [f_X12_neighbours_L42, mDir hd, Option.bind_some, if_neg (iI_ltF (by omega) (by omega) (by omega)), OK_some]
    exact ⟨l, by rw [hx, show e = dg k by omega], fun i _ => rfl⟩
  | m + 1, e, fu, near, h1, h2, l, hx => by
    obtain ⟨fu, rfl⟩ : ∃ x, fu = x + 1 := ⟨fu - 1, by omega⟩
    have hdg : dg k ≤ 6 := by unfold dg; split <;> (try split) <;> omega
    have hQ := gQ_rng k t e
    have hR := gR_rng k t e
    have hT := okT_rng (gT_ok ht)
    have hkin : kin k = 1 ∨ kin k = 2 := by unfold kin; split <;> omega
    have st := mStep (N := N) (e := (e : Int)) (s := t) hd ht (by omega) (by omega)
    have fin : ∀ x : Nat, Nat.lor (nrD k w n q r t e) x = nrD k w n q r t (e + 1) → OK ((z_set near (iI (v : Nat)) (nI (Nat.lor (nrD k w n q r t e) x))).bind fun t' => f_X12_neighbours_L42 N (iI w) (iI n) (iI (kin k)) (iI (v : Nat)) (iI t) (iI q) (iI r) d fu (iI (e : Nat) + 1) t') (fun u => u.length = 20 ∧ u[v]? = some (nI (nrD k w n q r t (dg k))) ∧ ∀ i, i ≠ v → u[i]? = near[i]?) := by
      intro x hxe
      rw [hxe, sI (by omega) (by omega), Option.bind_some, iI_succ]
      refine OK.mono (nbL hd hw hn hv ht hq hr m (e + 1) fu _ (by omega) (by omega) (by simp [l]) (List.getElem?_set_self (by omega))) ?_
      rintro u ⟨u1, u2, u3⟩
      exact ⟨u1, u2, fun i hi => by rw [u3 i hi, List.getElem?_set_ne (fun h => hi h.symm)]⟩
    rw [f_X12_neighbours_L42, mDir hd, Option.bind_some, if_pos (iI_ltT (by omega) (by omega) (by omega)), st.1, Option.bind_some, st.2, Option.bind_some, mSide hd ht, Option.bind_some, gI hx (by rw [l]; decide), Option.bind_some, iI_add, iI_add, iI_mul, iI_add, iI_mul, iI_add, show iI w - 1 = iI (w - 1) from by rw [li1, iI_sub], show iI n - 1 = iI (n - 1) from by rw [li1, iI_sub]]
    have i1 : f_X12_in N (iI (q + gQ k t e)) 0 (iI (w - 1)) = some (if 0 ≤ q + gQ k t e ∧ q + gQ k t e ≤ w - 1 then 1 else 0) := mIn (N := N) (q + gQ k t e) 0 (w - 1) ⟨by omega, by omega⟩ ⟨by omega, by omega⟩ ⟨by omega, by omega⟩
    have hwr : -200 ≤ w * (r + gR k t e) ∧ w * (r + gR k t e) ≤ 200 := by
      rcases (show w = 1 ∨ w = 2 ∨ w = 3 ∨ w = 4 ∨ w = 5 by omega) with rfl | rfl | rfl | rfl | rfl <;> omega
    have hir : -1000 ≤ idx k w q r t e ∧ idx k w q r t e ≤ 1000 := by
      unfold idx
      rcases hkin with h | h <;> rw [h] <;> omega
    have i2 : f_X12_in N (iI (kin k * (w * (r + gR k t e) + (q + gQ k t e)) + gT k t)) 0 (iI (n - 1)) = some (if 0 ≤ idx k w q r t e ∧ idx k w q r t e ≤ n - 1 then 1 else 0) := mIn (N := N) (idx k w q r t e) 0 (n - 1) ⟨by omega, by omega⟩ ⟨by omega, by omega⟩ ⟨by omega, by omega⟩
    rw [i1, Option.bind_some]
    have or0 : nI (nrD k w n q r t e) ||| 0 = nI (Nat.lor (nrD k w n q r t e) 0) := orI (y := 0)
    by_cases g1 : 0 ≤ q + gQ k t e ∧ q + gQ k t e ≤ w - 1
    case neg =>
      rw [if_neg g1, if_pos rfl, or0]
      exact fin 0 (by rw [nrD, nrB, if_neg g1])
    rw [if_pos g1, if_neg (show ¬ (1 : Int32) = 0 by decide), i2, Option.bind_some]
    by_cases g2 : 0 ≤ idx k w q r t e ∧ idx k w q r t e ≤ n - 1
    case neg =>
      rw [if_neg g2, if_pos rfl, or0]
      exact fin 0 (by rw [nrD, nrB, if_pos g1, if_neg g2])
    rw [if_pos g2, if_neg (show ¬ (1 : Int32) = 0 by decide)]
    have hsh : (1 : Int32) <<< (iI (kin k * (w * (r + gR k t e) + (q + gQ k t e)) + gT k t) &&& 31) = nI (2 ^ (idx k w q r t e).toNat) := by
      have h3 := shl_20 (idx k w q r t e).toNat (by omega)
      rw [Int.toNat_of_nonneg g2.1] at h3
      exact h3
    rw [hsh, orI]
    exact fin _ (by rw [nrD, nrB, if_pos g1, if_pos g2])
theorem nrM (hd : DK k d) (hw : 1 ≤ w ∧ w ≤ 5) (hn : 1 ≤ n ∧ n ≤ 20) (hN : 2000 ≤ N) : ∀ (m v fu : Nat) (near : List Int32), ((v + m : Nat) : Int) = n → m < fu → near.length = 20 → (∀ i, i < v → near[i]? = some (nI (nrV k w n i))) → OK (f_X12_neighbours_L3 N (iI w) (iI n) (iI (kin k)) d fu (iI (v : Nat)) near) (fun u => u.length = 20 ∧ ∀ i : Nat, (i : Int) < n → u[i]? = some (nI (nrV k w n i)))
  | 0, v, fu, near, h1, h2, l, hx => by
    obtain ⟨fu, rfl⟩ : ∃ x, fu = x + 1 := ⟨fu - 1, by omega⟩
    rw [f_X12_neighbours_L3, if_neg (iI_ltF (by omega) (by omega) (by omega)), OK_some]
    exact ⟨l, fun i hi => hx i (by omega)⟩
  | m + 1, v, fu, near, h1, h2, l, hx => by
    obtain ⟨fu, rfl⟩ : ∃ x, fu = x + 1 := ⟨fu - 1, by omega⟩
    have hdg : dg k ≤ 6 := by unfold dg; split <;> (try split) <;> omega
    have hkin : kin k = 1 ∨ kin k = 2 := by unfold kin; split <;> omega
    have z1 : ¬ iI (kin k) = 0 := by rw [li0]; exact iI_eqF (by omega) (by omega) (by omega) (by omega) (by omega)
    have z2 : ¬ iI w = 0 := by rw [li0]; exact iI_eqF (by omega) (by omega) (by omega) (by omega) (by omega)
    have hq0 : 0 ≤ (v : Int) / kin k := Int.ediv_nonneg (by omega) (by omega)
    have hq1 : (v : Int) / kin k ≤ v := by
      rcases hkin with h | h <;> rw [h] <;> omega
    have hr0 : 0 ≤ (v : Int) / kin k / w := Int.ediv_nonneg hq0 (by omega)
    have hr1 : (v : Int) / kin k / w ≤ v := Int.le_trans (Int.ediv_le_self _ hq0) hq1
    have em := Int.emod_nonneg ((v : Int) / kin k) (show w ≠ 0 by omega)
    have em2 := Int.emod_lt_of_pos ((v : Int) / kin k) (show 0 < w by omega)
    have d1 : iI (v : Nat) / iI (kin k) = iI ((v : Int) / kin k) := iI_div (by omega) (by omega) (by omega) (by omega)
    have d2 : iI ((v : Int) / kin k) / iI w = iI ((v : Int) / kin k / w) := iI_div (by omega) (by omega) (by omega) (by omega)
    have e1 : iI (v : Nat) - iI ((v : Int) / kin k) * iI (kin k) = iI ((v : Int) % kin k) := by
      rw [iI_mul, iI_sub, Int.emod_def, Int.mul_comm]
    have e2 : iI ((v : Int) / kin k) - iI ((v : Int) / kin k / w) * iI w = iI ((v : Int) / kin k % w) := by
      rw [iI_mul, iI_sub, Int.emod_def, Int.mul_comm]
    have s0 : z_set near (iI (v : Nat)) 0 = some (near.set v 0) := sI (by omega) (by omega)
    have hok : okT k ((v : Int) % kin k) := by
      unfold okT
      by_cases g : k = 1
      · rw [show kin k = 2 by rw [g]; rfl]; omega
      · rw [show kin k = 1 by unfold kin; rw [if_neg g]]; omega
    rw [f_X12_neighbours_L3, if_pos (iI_ltT (by omega) (by omega) (by omega)), if_neg z1, if_neg z1, if_neg z2, if_neg z1, if_neg z2, s0, Option.bind_some, d1, d2, e1, e2, OK_bind]
    refine OK.mono (nbL hd hw hn (by omega) hok ⟨em, by omega⟩ ⟨hr0, by omega⟩ (dg k) 0 N _ (by omega) (by omega) (by simp [l]) (List.getElem?_set_self (by omega))) ?_
    rintro u ⟨u1, u2, u3⟩
    rw [iI_succ]
    refine nrM hd hw hn hN m (v + 1) fu u (by omega) (by omega) u1 (fun i hi => ?_)
    by_cases g : i = v
    · rw [g]; exact u2
    · rw [u3 i g, List.getElem?_set_ne (fun h => g h.symm)]
      exact hx i (by omega)
end
