/-! the answer of both -/
def ansN (A : List Nat) (z : Nat) : Nat := if z = 0 then gl A 0 + smN A 21 else gl A z
section
variable {n P Q rc z : Nat}
theorem ans_eq (hn : n ≤ 20) (hn1 : 1 ≤ n) (hA : EtA n Q n = true) (h1 : Et 18446744073709551616 Q n = dpN 18446744073709551616 P rc n) (h2 : Et 1 Q n = dpN 1 P rc n) : totN Q n z = ansN (dpL P rc n) z := by
  have hct := dpL_ct (P := P) (Q := Q) (rc := rc) hn h1 h2 (by rw [← h2]; exact Et1_lt hn)
  unfold totN ansN
  by_cases e : z = 0
  · rw [if_pos e, if_pos e, hct 0, ctT_0, Nat.zero_add, smN_pk (dpL P rc n) 21 (fun s hs => by rw [hct s, ctT_dp hn1 n hA s (by omega)]), dpL_pk, h2]
  · rw [if_neg e, if_neg e, hct z]
end
