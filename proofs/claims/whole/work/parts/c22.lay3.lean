/-! the class lays out a block -/
def AD (k w n v : Nat) (adj : List Int32) : Prop := adj.length = 20 ∧ ∀ i, i < v → adj[i]? = some (nI (nrV k w (n : Int) i))
section
variable {N k w h q r : Nat} {adj : List Int32}
theorem vdec {K v t : Nat} (hw : 1 ≤ w ∧ w ≤ 5) (hK : K = 1 ∨ K = 2) (hq : q < w) (ht : t < K) (hv : v = (r * w + q) * K + t) : (v : Int) / K % w = q ∧ (v : Int) / K / w = r ∧ (v : Int) % K = t := by
  obtain ⟨w1, w5⟩ := hw
  subst hv
  rcases (show w = 1 ∨ w = 2 ∨ w = 3 ∨ w = 4 ∨ w = 5 by omega) with rfl | rfl | rfl | rfl | rfl <;> rcases hK with rfl | rfl <;> omega
theorem vlt {K t : Nat} (hw : 1 ≤ w ∧ w ≤ 5) (hK : K = 1 ∨ K = 2) (hq : q < w) (hr : r < h) (ht : t < K) : (r * w + q) * K + t < w * h * K := by
  obtain ⟨w1, w5⟩ := hw
  rcases (show w = 1 ∨ w = 2 ∨ w = 3 ∨ w = 4 ∨ w = 5 by omega) with rfl | rfl | rfl | rfl | rfl <;> rcases hK with rfl | rfl <;> omega
theorem lay51 (hN : 2000 ≤ N) (hk : k < 3) (hw : 1 ≤ w ∧ w ≤ 5) (hh : 1 ≤ h ∧ h ≤ 5) (hn : w * h * kiN k ≤ 20) (hq : q < w) (hr : r < h) : ∀ (m t fu v : Nat) (adj : List Int32), t + m = kiN k → m < fu → v = (r * w + q) * kiN k + t → AD k w (w * h * kiN k) v adj → OK (f_X0_layOut_L51 N (iI (w : Nat)) (iI (h : Nat)) (iI (r : Nat)) (iI (q : Nat)) (iI ((w * h * kiN k : Nat) : Int)) k fu (iI (v : Nat)) (iI (t : Nat)) adj) (fun u => u.1 = iI (((r * w + (q + 1)) * kiN k : Nat) : Int) ∧ AD k w (w * h * kiN k) ((r * w + (q + 1)) * kiN k) u.2)
  | 0, t, fu, v, adj, h1, h2, h3, hA => by
    obtain ⟨fu, rfl⟩ : ∃ x, fu = x + 1 := ⟨fu - 1, by omega⟩
    obtain ⟨hk1, hk2⟩ := kin_N (k := k)
    have e : v = (r * w + (q + 1)) * kiN k := by
      rw [h3, show r * w + (q + 1) = (r * w + q) + 1 by omega, Nat.succ_mul]; omega
    rw [f_X0_layOut_L51, zkin_eq, hk1, if_neg (iI_ltF (by omega) (by omega) (by omega)), OK_some]
    exact ⟨by rw [e], by rw [← e]; exact hA⟩
  | m + 1, t, fu, v, adj, h1, h2, h3, hA => by
    obtain ⟨fu, rfl⟩ : ∃ x, fu = x + 1 := ⟨fu - 1, by omega⟩
    obtain ⟨hk1, hk2⟩ := kin_N (k := k)
    have hvl : v < w * h * kiN k := by rw [h3]; exact vlt hw hk2 hq hr (by omega)
    obtain ⟨d1, d2, d3⟩ := vdec (v := v) hw hk2 hq (show t < kiN k by omega) h3
    have ht : okT k (t : Int) := by
      unfold okT
      have hki : kiN k = 2 → k = 1 := by
        intro hh2
        unfold kiN at hh2
        by_cases e : k = 1
        · exact e
        · rw [beq_ne e] at hh2; cases hh2
      rcases hk2 with h2 | h2
      · left; omega
      · have := hki h2
        omega
    rw [f_X0_layOut_L51, zkin_eq, hk1, if_pos (iI_ltT (by omega) (by omega) (by omega)), if_pos (iI_ltT (by omega) (by omega) (by omega)), sI (by rw [hA.1]; omega) (by rw [hA.1]; decide), Option.bind_some, OK_bind]
    have hdg : dg k ≤ 6 := by unfold dg; split <;> (try split) <;> omega
    refine OK.mono (lay80 (v := v) (q := (q : Int)) (r := (r : Int)) (t := (t : Int)) hk hw hh hn (by omega) ht ⟨by omega, by omega⟩ ⟨by omega, by omega⟩ (dg k) 0 N _ (by omega) (by omega) (by simp [hA.1]) (List.getElem?_set_self (by rw [hA.1]; omega))) ?_
    rintro u ⟨u1, u2, u3⟩
    rw [iI_succ, iI_succ]
    refine lay51 hN hk hw hh hn hq hr m (t + 1) fu (v + 1) u (by omega) (by omega) (by omega) ⟨u1, fun i hi => ?_⟩
    by_cases e : i = v
    · rw [e, u2]
      unfold nrV
      rw [hk1, d1, d2, d3]
    · rw [u3 i e, List.getElem?_set_ne (fun h => e h.symm)]
      exact hA.2 i (by omega)
theorem lay42 (hN : 2000 ≤ N) (hk : k < 3) (hw : 1 ≤ w ∧ w ≤ 5) (hh : 1 ≤ h ∧ h ≤ 5) (hn : w * h * kiN k ≤ 20) (hr : r < h) : ∀ (m q fu : Nat) (adj : List Int32), q + m = w → m < fu → AD k w (w * h * kiN k) ((r * w + q) * kiN k) adj → OK (f_X0_layOut_L42 N (iI (w : Nat)) (iI (h : Nat)) (iI (r : Nat)) (iI ((w * h * kiN k : Nat) : Int)) k fu (iI (((r * w + q) * kiN k : Nat) : Int)) (iI (q : Nat)) adj) (fun u => u.1 = iI ((((r + 1) * w + 0) * kiN k : Nat) : Int) ∧ AD k w (w * h * kiN k) (((r + 1) * w + 0) * kiN k) u.2)
  | 0, q, fu, adj, h1, h2, hA => by
    obtain ⟨fu, rfl⟩ : ∃ x, fu = x + 1 := ⟨fu - 1, by omega⟩
    have e : (r + 1) * w + 0 = r * w + q := by rw [Nat.add_mul, Nat.one_mul]; omega
    rw [f_X0_layOut_L42, if_neg (iI_ltF (by omega) (by omega) (by omega)), OK_some, e]
    exact ⟨rfl, hA⟩
  | m + 1, q, fu, adj, h1, h2, hA => by
    obtain ⟨fu, rfl⟩ : ∃ x, fu = x + 1 := ⟨fu - 1, by omega⟩
    obtain ⟨hk1, hk2⟩ := kin_N (k := k)
    rw [f_X0_layOut_L42, if_pos (iI_ltT (by omega) (by omega) (by omega)), OK_bind]
    refine OK.mono (lay51 hN hk hw hh hn (show q < w by omega) hr (kiN k) 0 N _ adj (by omega) (by omega) (by rw [Nat.add_zero]) hA) ?_
    rintro ⟨u1, u2⟩ ⟨rfl, a2⟩
    simp only at a2 ⊢
    rw [iI_succ]
    exact lay42 hN hk hw hh hn hr m (q + 1) fu u2 (by omega) (by omega) a2
theorem lay33 (hN : 2000 ≤ N) (hk : k < 3) (hw : 1 ≤ w ∧ w ≤ 5) (hh : 1 ≤ h ∧ h ≤ 5) (hn : w * h * kiN k ≤ 20) : ∀ (m r fu : Nat) (adj : List Int32), r + m = h → m < fu → AD k w (w * h * kiN k) ((r * w + 0) * kiN k) adj → OK (f_X0_layOut_L33 N (iI (w : Nat)) (iI (h : Nat)) (iI ((w * h * kiN k : Nat) : Int)) k fu (iI (((r * w + 0) * kiN k : Nat) : Int)) (iI (r : Nat)) adj) (fun u => AD k w (w * h * kiN k) (w * h * kiN k) u)
  | 0, r, fu, adj, h1, h2, hA => by
    obtain ⟨fu, rfl⟩ : ∃ x, fu = x + 1 := ⟨fu - 1, by omega⟩
    have e : (r * w + 0) * kiN k = w * h * kiN k := by rw [show r = h by omega, Nat.add_zero, Nat.mul_comm h w]
    rw [f_X0_layOut_L33, if_neg (iI_ltF (by omega) (by omega) (by omega)), OK_some]
    rw [e] at hA
    exact hA
  | m + 1, r, fu, adj, h1, h2, hA => by
    obtain ⟨fu, rfl⟩ : ∃ x, fu = x + 1 := ⟨fu - 1, by omega⟩
    rw [f_X0_layOut_L33, if_pos (iI_ltT (by omega) (by omega) (by omega)), OK_bind]
    refine OK.mono (lay42 hN hk hw hh hn (show r < h by omega) w 0 N adj (by omega) (by omega) hA) ?_
    rintro ⟨u1, u2⟩ ⟨rfl, a2⟩
    simp only at a2 ⊢
    rw [iI_succ]
    exact lay33 hN hk hw hh hn m (r + 1) fu u2 (by omega) (by omega) a2
theorem layC (hN : 2000 ≤ N) (hk : k < 3) (hw : 1 ≤ w ∧ w ≤ 5) (hh : 1 ≤ h ∧ h ≤ 5) (hn : w * h * kiN k ≤ 20) (hl : adj.length = 20) : OK (f_X0_layOut N (iI (w : Nat)) (iI (h : Nat)) adj k) (fun u => AD k w (w * h * kiN k) (w * h * kiN k) u.1 ∧ u.2.1 = iI ((w * h * kiN k : Nat) : Int) ∧ u.2.2 = iI ((w * kiN k : Nat) : Int)) := by
  obtain ⟨hk1, hk2⟩ := kin_N (k := k)
  have e1 : iI (w : Nat) * iI (h : Nat) * zkin k = iI ((w * h * kiN k : Nat) : Int) := by
    rw [zkin_eq, hk1, iI_mul, iI_mul]; congr 1
  have e2 : iI (w : Nat) * zkin k = iI ((w * kiN k : Nat) : Int) := by
    rw [zkin_eq, hk1, iI_mul]; congr 1
  unfold f_X0_layOut
  rw [e1, e2, if_neg (by rw [show (20 : Int32) = iI 20 from rfl]; exact iI_ltF (by omega) (by omega) (by omega)), OK_bind]
  have h0 := lay33 hN hk hw hh hn h 0 N adj (by omega) (by omega) ⟨hl, fun i hi => by simp at hi⟩
  rw [show (0 * w + 0) * kiN k = 0 by simp] at h0
  refine OK.mono h0 ?_
  intro u hu
  rw [OK_some]
  exact ⟨hu, rfl, rfl⟩
end
