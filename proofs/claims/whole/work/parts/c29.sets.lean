/-! connectedSets -/
section
variable {N k w h p q : Nat} {a b z : Int} {kn adj lab x d near op cl : List Int32} {ce re : Int32} {sf : Nat → List Int64 × Int32 × List Int32}
theorem blkAll {a b : Nat} (hk : k < 3) (ha : 1 ≤ a ∧ a ≤ 5) (hb : 1 ≤ b ∧ b ≤ 5) (hn : a * b * kiN k ≤ 20) : 1 ≤ a * b * kiN k ∧ blk k a b = true ∧ ∃ w h, 1 ≤ w ∧ w ≤ h ∧ h ≤ 5 ∧ w * h * kiN k ≤ 20 ∧ ((a = w ∧ b = h) ∨ (a = h ∧ b = w)) ∧ ∀ z, totN (PB k a ((a * b * kiN k : Nat) : Int) (a * b * kiN k)) (a * b * kiN k) z = ansN (dpB k w h) z := by
  have hp : 1 ≤ a * b * kiN k := Nat.mul_pos (Nat.mul_pos (by omega) (by omega)) (by have := (kin_N (k := k)).2; omega)
  refine ⟨hp, ?_⟩
  rcases Nat.le_total a b with g | g
  · obtain ⟨k1, k2⟩ := bif_t (ck_all k a b hk ha.1 g hb.2 hn)
    obtain ⟨k3, k4⟩ := bif_t k2
    obtain ⟨_, g2⟩ := blk_g k1
    obtain ⟨_, c2, c3, _, _⟩ := cmpB_g k4
    exact ⟨k1, a, b, ha.1, g, hb.2, hn, Or.inl ⟨rfl, rfl⟩, fun z => ans_eq hn hp g2 c2 c3⟩
  · have e : b * a * kiN k = a * b * kiN k := by rw [Nat.mul_comm b a]
    have hn2 : b * a * kiN k ≤ 20 := by rw [e]; exact hn
    obtain ⟨k1, k2⟩ := bif_t (ck_all k b a hk hb.1 g ha.2 hn2)
    obtain ⟨k3, k4⟩ := bif_t k2
    obtain ⟨_, g2⟩ := blk_g k3
    obtain ⟨_, _, _, c4, c5⟩ := cmpB_g k4
    refine ⟨k3, b, a, hb.1, g, ha.2, hn2, Or.inr ⟨rfl, rfl⟩, fun z => ?_⟩
    rw [← e] at g2 hp ⊢
    exact ans_eq hn2 hp g2 c4 c5
theorem cs_refC (a1 : -2147483648 ≤ a ∧ a < 2147483648) (b1 : -2147483648 ≤ b ∧ b < 2147483648) (z1 : -2147483648 ≤ z ∧ z < 2147483648) (hr : ¬ (1 ≤ a ∧ a ≤ 5 ∧ 1 ≤ b ∧ b ≤ 5 ∧ 0 ≤ z)) : f_X11_connectedSets N (iI a) (iI b) (iI z) k kn adj lab p q ce re x sf = some ((-1), kn, adj, lab, p, q, ce, re, x, sf) := by
  unfold f_X11_connectedSets
  have l5 : (5 : Int32) = iI 5 := rfl
  by_cases g1 : a < 1
  · rw [if_pos (show iI a < 1 by rw [li1]; exact iI_ltT g1 a1.1 (by omega))]
  rw [if_neg (show ¬ iI a < 1 by rw [li1]; exact iI_ltF g1 (by omega) a1.2)]
  by_cases g2 : 5 < a
  · rw [if_pos (show 5 < iI a by rw [l5]; exact iI_ltT g2 (by omega) a1.2)]
  rw [if_neg (show ¬ 5 < iI a by rw [l5]; exact iI_ltF g2 a1.1 (by omega))]
  by_cases g3 : b < 1
  · rw [if_pos (show iI b < 1 by rw [li1]; exact iI_ltT g3 b1.1 (by omega))]
  rw [if_neg (show ¬ iI b < 1 by rw [li1]; exact iI_ltF g3 (by omega) b1.2)]
  by_cases g4 : 5 < b
  · rw [if_pos (show 5 < iI b by rw [l5]; exact iI_ltT g4 (by omega) b1.2)]
  rw [if_neg (show ¬ 5 < iI b by rw [l5]; exact iI_ltF g4 b1.1 (by omega)), if_pos (show iI z < 0 by rw [li0]; exact iI_ltT (by omega) z1.1 (by omega))]
theorem cs_refM (a1 : -2147483648 ≤ a ∧ a < 2147483648) (b1 : -2147483648 ≤ b ∧ b < 2147483648) (z1 : -2147483648 ≤ z ∧ z < 2147483648) (hr : ¬ (1 ≤ a ∧ a ≤ 5 ∧ 1 ≤ b ∧ b ≤ 5 ∧ 0 ≤ z)) : f_X12_connectedSets N (iI a) (iI b) (iI z) d near op cl = some ((-1), near, op, cl) := by
  have i1 : f_X12_in N (iI a) 1 5 = some (if 1 ≤ a ∧ a ≤ 5 then 1 else 0) := mIn (N := N) a 1 5 a1 ⟨by omega, by omega⟩ ⟨by omega, by omega⟩
  have i2 : f_X12_in N (iI b) 1 5 = some (if 1 ≤ b ∧ b ≤ 5 then 1 else 0) := mIn (N := N) b 1 5 b1 ⟨by omega, by omega⟩ ⟨by omega, by omega⟩
  unfold f_X12_connectedSets
  rw [i1, Option.bind_some]
  by_cases g1 : 1 ≤ a ∧ a ≤ 5
  case neg => rw [if_neg g1, if_pos rfl]
  rw [if_pos g1, if_neg (show ¬ (1 : Int32) = 0 by decide), i2, Option.bind_some]
  by_cases g2 : 1 ≤ b ∧ b ≤ 5
  case neg => rw [if_neg g2, if_pos rfl]
  rw [if_pos g2, if_neg (show ¬ (1 : Int32) = 0 by decide), if_pos (show iI z < 0 by rw [li0]; exact iI_ltT (by omega) z1.1 (by omega))]
theorem cs_bigM {a b z : Nat} (hd : DK k d) (ha : 1 ≤ a ∧ a ≤ 5) (hb : 1 ≤ b ∧ b ≤ 5) (hz : z < 2147483648) (hn : 20 < a * b * kiN k) : f_X12_connectedSets N (iI (a : Nat)) (iI (b : Nat)) (iI (z : Nat)) d near op cl = some ((-3), near, op, cl) := by
  have i1 : f_X12_in N (iI (a : Nat)) 1 5 = some (if 1 ≤ (a : Int) ∧ (a : Int) ≤ 5 then 1 else 0) := mIn (N := N) (a : Int) 1 5 ⟨by omega, by omega⟩ ⟨by omega, by omega⟩ ⟨by omega, by omega⟩
  have i2 : f_X12_in N (iI (b : Nat)) 1 5 = some (if 1 ≤ (b : Int) ∧ (b : Int) ≤ 5 then 1 else 0) := mIn (N := N) (b : Int) 1 5 ⟨by omega, by omega⟩ ⟨by omega, by omega⟩ ⟨by omega, by omega⟩
  have hk := hd.1
  obtain ⟨hk1, hk2⟩ := kin_N (k := k)
  have hs : a * b ≤ 25 := Nat.mul_le_mul ha.2 hb.2
  have hs2 : a * b * kiN k ≤ 25 * 2 := Nat.mul_le_mul hs (by omega)
  unfold f_X12_connectedSets
  rw [i1, Option.bind_some, if_pos (show 1 ≤ (a : Int) ∧ (a : Int) ≤ 5 from ⟨by omega, by omega⟩), if_neg (show ¬ (1 : Int32) = 0 by decide), i2, Option.bind_some, if_pos (show 1 ≤ (b : Int) ∧ (b : Int) ≤ 5 from ⟨by omega, by omega⟩), if_neg (show ¬ (1 : Int32) = 0 by decide), if_neg (show ¬ iI (z : Nat) < 0 by rw [li0]; exact iI_ltF (by omega) (by omega) (by omega)), hd.g, Option.bind_some]
  have e1 : ∀ K : Int32, K = iI (kin k) → iI (a : Nat) * iI (b : Nat) * K = iI ((a * b * kiN k : Nat) : Int) := by
    intro K hK
    rw [hK, hk1, iI_mul, iI_mul]; congr 1
  have n20 : (20 : Int32) < iI ((a * b * kiN k : Nat) : Int) := by rw [show (20 : Int32) = iI 20 from rfl]; exact iI_ltT (by omega) (by omega) (by omega)
  by_cases g : k = 1
  · have hK : (2 : Int32) = iI (kin k) := by rw [g]; rfl
    rw [if_pos (by rw [g]; rfl), e1 2 hK, if_pos n20]
  · have hK : (1 : Int32) = iI (kin k) := by unfold kin; rw [if_neg g]; rfl
    rw [if_neg (show ¬ iI (k : Nat) = 1 by rw [li1]; exact iI_eqF (by omega) (by omega) (by omega) (by omega) (by omega)), e1 1 hK, if_pos n20]
theorem s_connectedSets (hN : 2 ^ 45 ≤ N) (hd : DK k d) (hB : BI kn adj lab p q x sf) (l1 : near.length = 20) (l2 : op.length = 24) (l3 : cl.length = 24) (j1 j2 j3 : Int32) : OK (f_X11_connectedSets N j1 j2 j3 k kn adj lab p q ce re x sf) (fun u => OK (f_X12_connectedSets N j1 j2 j3 d near op cl) (fun v => u.1 = v.1 ∧ BI u.2.1 u.2.2.1 u.2.2.2.1 u.2.2.2.2.1 u.2.2.2.2.2.1 u.2.2.2.2.2.2.2.2.1 u.2.2.2.2.2.2.2.2.2 ∧ v.2.1.length = 20 ∧ v.2.2.1.length = 24 ∧ v.2.2.2.length = 24)) := by
  obtain ⟨a, rfl, a1, a2⟩ := iI_ex j1
  obtain ⟨b, rfl, b1, b2⟩ := iI_ex j2
  obtain ⟨z, rfl, z1, z2⟩ := iI_ex j3
  have hk := hd.1
  by_cases hr : 1 ≤ a ∧ a ≤ 5 ∧ 1 ≤ b ∧ b ≤ 5 ∧ 0 ≤ z
  case neg =>
    rw [cs_refC ⟨a1, a2⟩ ⟨b1, b2⟩ ⟨z1, z2⟩ hr, OK_some, cs_refM ⟨a1, a2⟩ ⟨b1, b2⟩ ⟨z1, z2⟩ hr, OK_some]
    exact ⟨rfl, hB, l1, l2, l3⟩
  obtain ⟨r1, r2, r3, r4, r5⟩ := hr
  obtain ⟨a, rfl⟩ := Int.eq_ofNat_of_zero_le (show 0 ≤ a by omega)
  obtain ⟨b, rfl⟩ := Int.eq_ofNat_of_zero_le (show 0 ≤ b by omega)
  obtain ⟨z, rfl⟩ := Int.eq_ofNat_of_zero_le r5
  have ha : 1 ≤ a ∧ a ≤ 5 := ⟨by omega, by omega⟩
  have hb : 1 ≤ b ∧ b ≤ 5 := ⟨by omega, by omega⟩
  obtain ⟨hk1, hk2⟩ := kin_N (k := k)
  have hs : a * b ≤ 25 := Nat.mul_le_mul ha.2 hb.2
  have hs2 : a * b * kiN k ≤ 25 * 2 := Nat.mul_le_mul hs (by omega)
  have l5 : (5 : Int32) = iI 5 := rfl
  have e1 : iI (a : Nat) * iI (b : Nat) * zkin k = iI ((a * b * kiN k : Nat) : Int) := by
    rw [zkin_eq, hk1, iI_mul, iI_mul]; congr 1
  have hC : f_X11_connectedSets N (iI (a : Nat)) (iI (b : Nat)) (iI (z : Nat)) k kn adj lab p q ce re x sf = if 20 < iI ((a * b * kiN k : Nat) : Int) then some ((-3), kn, adj, lab, p, q, ce, re, x, sf) else if iI ((a * b * kiN k : Nat) : Int) < iI (z : Nat) then some (0, kn, adj, lab, p, q, ce, re, x, sf) else (f_X0_sets N (iI (a : Nat)) (iI (b : Nat)) (iI (z : Nat)) kn adj lab p q ce re k x sf).bind fun u13 => some (u13.1, u13.2.1, u13.2.2.1, u13.2.2.2.1, u13.2.2.2.2.1, u13.2.2.2.2.2.1, u13.2.2.2.2.2.2.1, u13.2.2.2.2.2.2.2.1, u13.2.2.2.2.2.2.2.2.1, u13.2.2.2.2.2.2.2.2.2) := by
    unfold f_X11_connectedSets
    rw [if_neg (show ¬ iI (a : Nat) < 1 by rw [li1]; exact iI_ltF (by omega) (by omega) (by omega)), if_neg (show ¬ 5 < iI (a : Nat) by rw [l5]; exact iI_ltF (by omega) (by omega) (by omega)), if_neg (show ¬ iI (b : Nat) < 1 by rw [li1]; exact iI_ltF (by omega) (by omega) (by omega)), if_neg (show ¬ 5 < iI (b : Nat) by rw [l5]; exact iI_ltF (by omega) (by omega) (by omega)), if_neg (show ¬ iI (z : Nat) < 0 by rw [li0]; exact iI_ltF (by omega) (by omega) (by omega)), if_pos hk, e1]
  rw [hC]
  by_cases g : 20 < a * b * kiN k
  · rw [if_pos (by rw [show (20 : Int32) = iI 20 from rfl]; exact iI_ltT (by omega) (by omega) (by omega)), OK_some, cs_bigM hd ha hb (by omega) g, OK_some]
    exact ⟨rfl, hB, l1, l2, l3⟩
  rw [if_neg (by rw [show (20 : Int32) = iI 20 from rfl]; exact iI_ltF (by omega) (by omega) (by omega))]
  obtain ⟨hp, hbk, w, h, w1, w2, w3, w4, w5, hA⟩ := blkAll hk ha hb (show a * b * kiN k ≤ 20 by omega)
  have hM := inM (N := N) (z := z) (d := d) hN hd ha hb (show a * b * kiN k ≤ 20 by omega) hp hbk (by omega) l1 l2 l3
  by_cases g2 : a * b * kiN k < z
  · rw [if_pos (iI_ltT (by omega) (by omega) (by omega)), OK_some]
    refine OK.mono hM ?_
    rintro v ⟨v1, v2, v3, v4⟩
    refine ⟨?_, hB, v2, v3, v4⟩
    rw [v1]
    unfold totN
    rw [if_neg (show ¬ z = 0 by omega), ctT_dp hp _ (blk_g hbk).2 z g2]
    rfl
  · rw [if_neg (iI_ltF (by omega) (by omega) (by omega)), OK_bind]
    refine OK.mono (setsC (show 2000 ≤ N by omega) hk w1 w2 w3 w4 w5 (show z < 21 by omega) hB) ?_
    rintro u ⟨u1, u2⟩
    rw [OK_some]
    refine OK.mono hM ?_
    rintro v ⟨v1, v2, v3, v4⟩
    exact ⟨by rw [u1, v1, hA], u2, v2, v3, v4⟩
end
