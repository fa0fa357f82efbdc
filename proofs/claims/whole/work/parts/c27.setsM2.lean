/-! connectedSets of the reference, in range -/
section
variable {N k w h z : Nat} {d near op cl : List Int32}
theorem inM (hN : 2 ^ 45 ≤ N) (hd : DK k d) (hw : 1 ≤ w ∧ w ≤ 5) (hh : 1 ≤ h ∧ h ≤ 5) (hn : w * h * kiN k ≤ 20) (hn1 : 1 ≤ w * h * kiN k) (hb : blk k w h = true) (hz : z < 2147483648) (l1 : near.length = 20) (l2 : op.length = 24) (l3 : cl.length = 24) : OK (f_X12_connectedSets N (iI (w : Nat)) (iI (h : Nat)) (iI (z : Nat)) d near op cl) (fun v => v.1 = iI (totN (PB k w ((w * h * kiN k : Nat) : Int) (w * h * kiN k)) (w * h * kiN k) z : Nat) ∧ v.2.1.length = 20 ∧ v.2.2.1.length = 24 ∧ v.2.2.2.length = 24) := by
  have i1 : f_X12_in N (iI (w : Nat)) 1 5 = some (if 1 ≤ (w : Int) ∧ (w : Int) ≤ 5 then 1 else 0) := mIn (N := N) (w : Int) 1 5 ⟨by omega, by omega⟩ ⟨by omega, by omega⟩ ⟨by omega, by omega⟩
  have i2 : f_X12_in N (iI (h : Nat)) 1 5 = some (if 1 ≤ (h : Int) ∧ (h : Int) ≤ 5 then 1 else 0) := mIn (N := N) (h : Int) 1 5 ⟨by omega, by omega⟩ ⟨by omega, by omega⟩ ⟨by omega, by omega⟩
  have hB := blkM hN hd hw hh hn hn1 hb hz l1 l2 l3
  have hk := hd.1
  obtain ⟨hk1, hk2⟩ := kin_N (k := k)
  unfold f_X12_connectedSets
  rw [i1, Option.bind_some, if_pos (show 1 ≤ (w : Int) ∧ (w : Int) ≤ 5 from ⟨by omega, by omega⟩), if_neg (show ¬ (1 : Int32) = 0 by decide), i2, Option.bind_some, if_pos (show 1 ≤ (h : Int) ∧ (h : Int) ≤ 5 from ⟨by omega, by omega⟩), if_neg (show ¬ (1 : Int32) = 0 by decide), if_neg (show ¬ iI (z : Nat) < 0 by rw [li0]; exact iI_ltF (by omega) (by omega) (by omega)), hd.g, Option.bind_some]
  have e1 : ∀ K : Int32, K = iI (kin k) → iI (w : Nat) * iI (h : Nat) * K = iI ((w * h * kiN k : Nat) : Int) := by
    intro K hK
    rw [hK, hk1, iI_mul, iI_mul]; congr 1
  have n20 : ¬ (20 : Int32) < iI ((w * h * kiN k : Nat) : Int) := by rw [show (20 : Int32) = iI 20 from rfl]; exact iI_ltF (by omega) (by omega) (by omega)
  by_cases g : k = 1
  · have hK : (2 : Int32) = iI (kin k) := by rw [g]; rfl
    rw [if_pos (by rw [g]; rfl), e1 2 hK, if_neg n20, hK, OK_bind]
    refine OK.mono hB ?_
    rintro u ⟨u1, u2⟩
    rw [OK_bind]
    refine OK.mono u2 ?_
    rintro v ⟨v1, v2, v3⟩
    rw [OK_some]
    exact ⟨v1, u1, v2, v3⟩
  · have hK : (1 : Int32) = iI (kin k) := by unfold kin; rw [if_neg g]; rfl
    rw [if_neg (show ¬ iI (k : Nat) = 1 by rw [li1]; exact iI_eqF (by omega) (by omega) (by omega) (by omega) (by omega)), e1 1 hK, if_neg n20, hK, OK_bind]
    refine OK.mono hB ?_
    rintro u ⟨u1, u2⟩
    rw [OK_bind]
    refine OK.mono u2 ?_
    rintro v ⟨v1, v2, v3⟩
    rw [OK_some]
    exact ⟨v1, u1, v2, v3⟩
end
