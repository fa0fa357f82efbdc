/-! the reference's search runs through the sets -/
theorem shl_20 : ∀ j : Nat, j < 21 → (1 : Int32) <<< (iI (j : Int) &&& 31) = nI (2 ^ j) := by decide +kernel
theorem full_20 : ∀ j : Nat, j < 21 → ((1 : Int32) <<< (iI (j : Int) &&& 31)) - 1 = nI (2 ^ j - 1) := by decide +kernel
section
variable {N n P f g o c s j b : Nat} {v3 z : Int32} {op cl near : List Int32}
theorem tb0 (o i : Nat) : Nat.beq (Nat.land (Nat.shiftRight o i) 1) 0 = !o.testBit i := by
  show Nat.beq ((o >>> i) &&& 1) 0 = !(1 &&& (o >>> i) != 0)
  rw [Nat.and_comm]
  cases h : (1 &&& (o >>> i)) with
  | zero => rfl
  | succ m => rfl
theorem lowL (ho : o < 1048576) : ∀ (f i fu : Nat), f < fu → i + f ≤ 31 → o.testBit (lowf f o i) = true → f_X12_lowest_L2 N (nI o) fu (iI (i : Nat)) = some (iI (lowf f o i : Nat))
  | 0, i, fu, h1, h2, h3 => by
    obtain ⟨fu, rfl⟩ : ∃ m, fu = m + 1 := ⟨fu - 1, by omega⟩
    have h4 : o.testBit i = true := h3
    rw [f_X12_lowest_L2, if_neg (by rw [bit_0 (by omega) (by omega), h4]; simp)]
    rfl
  | f + 1, i, fu, h1, h2, h3 => by
    obtain ⟨fu, rfl⟩ : ∃ m, fu = m + 1 := ⟨fu - 1, by omega⟩
    rw [lowf, tb0] at h3 ⊢
    rw [f_X12_lowest_L2]
    cases hb : o.testBit i with
    | true =>
      rw [if_neg (by rw [bit_0 (by omega) (by omega), hb]; simp)]
      rfl
    | false =>
      rw [hb] at h3
      rw [if_pos (by rw [bit_0 (by omega) (by omega), hb]), iI_succ]
      exact lowL ho f (i + 1) fu (by omega) (by omega) h3
theorem lowM (hN : 2000 ≤ N) (ho : o < 1048576) (h : o.testBit (lowf 20 o 0) = true) : f_X12_lowest N (nI o) = some (iI (lowf 20 o 0 : Nat)) := by
  unfold f_X12_lowest
  have e := lowL (N := N) ho 20 0 N (by omega) (by omega) h
  rw [show (0 : Int32) = iI ((0 : Nat) : Int) from rfl, e, Option.bind_some]
theorem clrI (ho : o < 1048576) (hb : b < 20) : nI o &&& ((1 <<< (iI (b : Nat) &&& 31)) ^^^ (-1)) = nI (clr o b) := by
  rw [shl_20 b (by omega)]
  refine bt_ext (fun i hi => ?_)
  rw [bt_and, bt_not hi, bt_nI i hi, bt_nI i hi, bt_nI i hi]
  show _ = (o ^^^ (o &&& (1 <<< b))).testBit i
  rw [Nat.testBit_xor, Nat.testBit_and, Nat.one_shiftLeft]
  cases o.testBit i <;> cases (2 ^ b).testBit i <;> rfl
theorem ocI {o' nr : Nat} : nI o' ||| (nI nr &&& (nI c ^^^ (-1))) = nI (Nat.lor o' (Nat.xor nr (Nat.land nr c))) := by
  refine bt_ext (fun i hi => ?_)
  rw [bt_or, bt_and, bt_not hi, bt_nI i hi, bt_nI i hi, bt_nI i hi, bt_nI i hi]
  show _ = (o' ||| (nr ^^^ (nr &&& c))).testBit i
  rw [Nat.testBit_or, Nat.testBit_xor, Nat.testBit_and]
  cases o'.testBit i <;> cases nr.testBit i <;> cases c.testBit i <;> rfl
theorem orI {x y : Nat} : nI x ||| nI y = nI (Nat.lor x y) := by
  refine bt_ext (fun i hi => ?_)
  rw [bt_or, bt_nI i hi, bt_nI i hi, bt_nI i hi]
  show _ = (x ||| y).testBit i
  rw [Nat.testBit_or]
theorem clr_lt (ho : o < 1048576) : clr o b < 1048576 := Nat.xor_lt_two_pow (n := 20) ho (Nat.lt_of_le_of_lt Nat.and_le_left ho)
theorem nrP_lt : nrP P b < 1048576 := Nat.lt_of_le_of_lt (m := 1048575) Nat.and_le_right (by decide)
theorem ocf_lt (ho : o < 1048576) : ocf P o c < 1048576 := Nat.or_lt_two_pow (n := 20) (clr_lt ho) (Nat.xor_lt_two_pow (n := 20) nrP_lt (Nat.lt_of_le_of_lt Nat.and_le_left nrP_lt))
theorem ccf_lt (hc : c < 1048576) : ccf P o c < 1048576 := Nat.or_lt_two_pow (n := 20) hc nrP_lt
/-- what a subtree adds -/
def ad (P z f o c j : Nat) : Nat := if z = 0 then Eb 1 P f o c else cn P f o c (z - j)
theorem subM (hN : 2000 ≤ N) {z : Nat} (hz : z < 2147483648) (hn : n ≤ 20) (hnl : near.length = 20) (hnear : ∀ i, i < n → near[i]? = some (nI (nrP P i))) : ∀ (f g j o c : Nat) (ct : Int) (op cl : List Int32), Ea n P f g o c = true → 1 ≤ j → j + g ≤ 22 → (z = 0 ∨ j ≤ z) → o < 1048576 → c < 1048576 → op.length = 24 → cl.length = 24 → op[j]? = some (nI o) → cl[j]? = some (nI c) → ∃ T op' cl', T + 1 ≤ 2 ^ (f + 1) ∧ op'.length = 24 ∧ cl'.length = 24 ∧ (∀ i, i < j → op'[i]? = op[i]? ∧ cl'[i]? = cl[i]?) ∧ ∀ fu, f_X12_connectedSets_L143 N (iI (z : Nat)) near (fu + T) (iI ct) (iI (j : Nat)) op cl = f_X12_connectedSets_L143 N (iI (z : Nat)) near fu (iI (ct + (ad P z f o c j : Nat))) (iI ((j - 1 : Nat) : Int)) op' cl' := by
  have pop : ∀ (fu j : Nat) (ct : Int32) (op cl : List Int32) (o : Nat), 1 ≤ j → j ≤ 22 → op.length = 24 → op[j]? = some (nI o) → o < 1048576 → (o = 0 ∨ z = j) → f_X12_connectedSets_L143 N (iI (z : Nat)) near (fu + 1) ct (iI (j : Nat)) op cl = f_X12_connectedSets_L143 N (iI (z : Nat)) near fu ct (iI ((j - 1 : Nat) : Int)) op cl := by
    intro fu j ct op cl o h1 h2 hl ho hlt hor
    have em : iI (j : Nat) + (-1) = iI ((j - 1 : Nat) : Int) := by rw [show (-1 : Int32) = iI (-1) from rfl, iI_add]; congr 1; omega
    rw [f_X12_connectedSets_L143, if_pos (by rw [li0]; exact iI_ltT (by omega) (by omega) (by omega)), gI ho (by rw [hl]; decide), Option.bind_some, em]
    by_cases g0 : o = 0
    · rw [if_pos (by rw [g0]; rfl)]
    · rw [if_neg (by rw [nI_iI, li0]; exact iI_eqF (by omega) (by omega) (by omega) (by omega) (by omega)), if_pos (by rcases hor with h | h; exact absurd h g0; rw [h])]
  intro f
  induction f with
  | zero =>
    intro g j o c ct op cl he h1 h2 h3 ho hc l1 l2 e1 e2
    have h0 := Ea_z he
    refine ⟨1, op, cl, by decide, l1, l2, fun i _ => ⟨rfl, rfl⟩, fun fu => ?_⟩
    have ha : ad P z 0 o c j = 0 := by unfold ad; split <;> rfl
    rw [pop fu j _ op cl o h1 (by omega) l1 e1 ho (Or.inl h0), ha]
    congr 2
    omega
  | succ f ih =>
    intro g j o c ct op cl he h1 h2 h3 ho hc l1 l2 e1 e2
    have hp : 2 ≤ 2 ^ (f + 1 + 1) := by have := Nat.one_le_two_pow (n := f + 1); rw [Nat.pow_succ]; omega
    by_cases h0 : o = 0
    · refine ⟨1, op, cl, hp, l1, l2, fun i _ => ⟨rfl, rfl⟩, fun fu => ?_⟩
      have ha : ad P z (f + 1) o c j = 0 := by unfold ad; rw [h0, Eb_0, cn_z]; split <;> rfl
      rw [pop fu j _ op cl o h1 (by omega) l1 e1 ho (Or.inl h0), ha]
      congr 2
      omega
    by_cases hzj : z = j
    · refine ⟨1, op, cl, hp, l1, l2, fun i _ => ⟨rfl, rfl⟩, fun fu => ?_⟩
      have ha : ad P z (f + 1) o c j = 0 := by unfold ad; rw [if_neg (by omega), hzj, Nat.sub_self, cn_0]
      rw [pop fu j _ op cl o h1 (by omega) l1 e1 ho (Or.inr hzj), ha]
      congr 2
      omega
    obtain ⟨g1, g2, g3, g4, g5⟩ := Ea_s h0 he
    have hb : o.testBit (lowf 20 o 0) = true := by
      cases hb : o.testBit (lowf 20 o 0) with
      | true => rfl
      | false =>
        have := tb0 o (lowf 20 o 0)
        rw [hb] at this
        exact absurd (Nat.eq_of_beq_eq_true this) g3
    have ho' := clr_lt (b := lowf 20 o 0) ho
    have hoc := ocf_lt (P := P) (c := c) ho
    have hcc := ccf_lt (P := P) (o := o) hc
    -- the child
    obtain ⟨T1, op1, cl1, t1, a1, a2, a3, a4⟩ := ih (g - 1) (j + 1) (ocf P o c) (ccf P o c) (ct + (if z = 0 ∨ z = j + 1 then 1 else 0)) ((op.set j (nI (clr o (lowf 20 o 0)))).set (j + 1) (nI (ocf P o c))) (cl.set (j + 1) (nI (ccf P o c))) g5 (by omega) (by omega) (by omega) hoc hcc (by simp [l1]) (by simp [l2]) (List.getElem?_set_self (by simp [l1]; omega)) (List.getElem?_set_self (by rw [l2]; omega))
    have b1 := a3 j (by omega)
    rw [List.getElem?_set_ne (by omega), List.getElem?_set_self (by omega), List.getElem?_set_ne (by omega), e2] at b1
    -- the sibling
    obtain ⟨T2, op2, cl2, t2, c1, c2, c3, c4⟩ := ih g j (clr o (lowf 20 o 0)) c (ct + (if z = 0 ∨ z = j + 1 then 1 else 0) + (ad P z f (ocf P o c) (ccf P o c) (j + 1) : Nat)) op1 cl1 g4 h1 h2 h3 ho' hc a1 a2 b1.1 b1.2
    refine ⟨T2 + T1 + 1, op2, cl2, by rw [Nat.pow_succ]; omega, c1, c2, fun i hi => ?_, fun fu => ?_⟩
    · have q1 := c3 i hi
      have q2 := a3 i (by omega)
      rw [List.getElem?_set_ne (by omega), List.getElem?_set_ne (by omega), List.getElem?_set_ne (by omega)] at q2
      exact ⟨q1.1.trans q2.1, q1.2.trans q2.2⟩
    have s1 : z_set op (iI (j : Nat)) (nI (clr o (lowf 20 o 0))) = some (op.set j (nI (clr o (lowf 20 o 0)))) := sI (by omega) (by omega)
    have g6 : z_get (op.set j (nI (clr o (lowf 20 o 0)))) (iI (j : Nat)) = some (nI (clr o (lowf 20 o 0))) := gI (List.getElem?_set_self (by omega)) (by simp [l1])
    have hne : ¬ nI o = 0 := by rw [nI_iI, li0]; exact iI_eqF (by omega) (by omega) (by omega) (by omega) (by omega)
    have hzj' : ¬ iI (j : Nat) = iI (z : Nat) := iI_eqF (by omega) (by omega) (by omega) (by omega) (by omega)
    have s2 : z_set (op.set j (nI (clr o (lowf 20 o 0)))) (iI ((j + 1 : Nat) : Int)) (nI (ocf P o c)) = some ((op.set j (nI (clr o (lowf 20 o 0)))).set (j + 1) (nI (ocf P o c))) := sI (by simp [l1]; omega) (by simp [l1])
    have s3 : z_set cl (iI ((j + 1 : Nat) : Int)) (nI (ccf P o c)) = some (cl.set (j + 1) (nI (ccf P o c))) := sI (by omega) (by omega)
    have gn := gI (hnear _ g2) (show near.length < 2147483648 by rw [hnl]; decide)
    rw [show fu + (T2 + T1 + 1) = (fu + T2 + T1) + 1 by omega, f_X12_connectedSets_L143, if_pos (by rw [li0]; exact iI_ltT (by omega) (by omega) (by omega)), gI e1 (by rw [l1]; decide), Option.bind_some, if_neg hne, if_neg hzj', Option.bind_some, lowM hN ho hb, Option.bind_some, Option.bind_some, clrI ho (by omega), s1, Option.bind_some, g6, Option.bind_some, gn, Option.bind_some, gI e2 (by rw [l2]; decide), Option.bind_some, iI_succ, ocI]
    rw [show Nat.lor (clr o (lowf 20 o 0)) (Nat.xor (nrP P (lowf 20 o 0)) (Nat.land (nrP P (lowf 20 o 0)) c)) = ocf P o c from rfl, s2, Option.bind_some, Option.bind_some, Option.bind_some, orI]
    rw [show Nat.lor c (nrP P (lowf 20 o 0)) = ccf P o c from rfl, s3, Option.bind_some]
    have fin : f_X12_connectedSets_L143 N (iI (z : Nat)) near (fu + T2 + T1) (iI (ct + (if z = 0 ∨ z = j + 1 then 1 else 0))) (iI ((j + 1 : Nat) : Int)) ((op.set j (nI (clr o (lowf 20 o 0)))).set (j + 1) (nI (ocf P o c))) (cl.set (j + 1) (nI (ccf P o c))) = f_X12_connectedSets_L143 N (iI (z : Nat)) near fu (iI (ct + (ad P z (f + 1) o c j : Nat))) (iI ((j - 1 : Nat) : Int)) op2 cl2 := by
      rw [a4 (fu + T2), show j + 1 - 1 = j by omega, c4 fu]
      congr 2
      have ha : (ad P z (f + 1) o c j : Nat) = ad P z f (clr o (lowf 20 o 0)) c j + ((if z = 0 ∨ z = j + 1 then 1 else 0) + ad P z f (ocf P o c) (ccf P o c) (j + 1)) := by
        unfold ad
        by_cases z0 : z = 0
        · rw [if_pos z0, if_pos z0, if_pos z0, if_pos (Or.inl z0), Eb_s h0]; omega
        · rw [if_neg z0, if_neg z0, if_neg z0, cn_s h0]
          obtain ⟨y, hy⟩ : ∃ y, z - j = y + 1 := ⟨z - j - 1, by omega⟩
          rw [hy, show z - (j + 1) = y by omega]
          show _ + ((if y = 0 then 1 else 0) + _) = _
          by_cases y0 : y = 0
          · rw [if_pos y0, if_pos (Or.inr (by omega))]
          · rw [if_neg y0, if_neg (by omega)]
      rw [ha]
      split <;> simp <;> omega
    by_cases z0 : z = 0
    · rw [if_pos (by rw [z0]; rfl), show iI ct + 1 = iI (ct + 1) from by rw [li1, iI_add]]
      rw [if_pos (Or.inl z0)] at fin
      exact fin
    · rw [if_neg (by rw [li0]; exact iI_eqF (by omega) (by omega) (by omega) (by omega) (by omega))]
      by_cases z1 : z = j + 1
      · rw [if_pos (by rw [z1]), show iI ct + 1 = iI (ct + 1) from by rw [li1, iI_add]]
        rw [if_pos (Or.inr z1)] at fin
        exact fin
      · rw [if_neg (iI_eqF (by omega) (by omega) (by omega) (by omega) (by omega)), show iI ct + 0 = iI (ct + 0) from by rw [li0, iI_add]]
        rw [if_neg (by omega)] at fin
        exact fin
end
