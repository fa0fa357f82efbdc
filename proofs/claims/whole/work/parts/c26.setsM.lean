/-! connectedSets of the reference -/
section
variable {N k w h z : Nat} {d near op cl : List Int32}
theorem blkM (hN : 2 ^ 45 ≤ N) (hd : DK k d) (hw : 1 ≤ w ∧ w ≤ 5) (hh : 1 ≤ h ∧ h ≤ 5) (hn : w * h * kiN k ≤ 20) (hn1 : 1 ≤ w * h * kiN k) (hb : blk k w h = true) (hz : z < 2147483648) (l1 : near.length = 20) (l2 : op.length = 24) (l3 : cl.length = 24) : OK (f_X12_neighbours N (iI (w : Nat)) (iI ((w * h * kiN k : Nat) : Int)) (iI (kin k)) d near) (fun u9 => u9.length = 20 ∧ OK (f_X12_connectedSets_L74 N (iI (z : Nat)) (iI ((w * h * kiN k : Nat) : Int)) u9 N 0 0 op cl) (fun u => u.1 = iI (totN (PB k w ((w * h * kiN k : Nat) : Int) (w * h * kiN k)) (w * h * kiN k) z : Nat) ∧ u.2.1.length = 24 ∧ u.2.2.length = 24)) := by
  obtain ⟨b1, b2⟩ := blk_g hb
  unfold f_X12_neighbours
  rw [OK_bind]
  have h0 := nrM (N := N) (w := (w : Int)) (n := ((w * h * kiN k : Nat) : Int)) hd ⟨by omega, by omega⟩ ⟨by omega, by omega⟩ (by omega) (w * h * kiN k) 0 N near (by omega) (by omega) l1 (fun i hi => by omega)
  refine OK.mono h0 ?_
  rintro u ⟨u1, u2⟩
  rw [OK_some]
  refine ⟨u1, ?_⟩
  have h1 := totM (N := N) (z := z) (near := u) hN hz hn u1 (fun i hi => by rw [u2 i (by omega), b1 i hi]) b2 (w * h * kiN k) 0 N op cl (by omega) (by omega) l2 l3
  have e0 : totN (PB k w ((w * h * kiN k : Nat) : Int) (w * h * kiN k)) 0 z = 0 := by unfold totN; split <;> rfl
  rw [e0] at h1
  exact h1
end
