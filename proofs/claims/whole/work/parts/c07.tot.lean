/-! all first cells -/
def o1 (P i : Nat) : Nat := Nat.xor (nrP P i) (Nat.land (nrP P i) (Nat.sub (Nat.pow 2 (Nat.succ i)) 1))
def c1 (P i : Nat) : Nat := Nat.lor (Nat.sub (Nat.pow 2 (Nat.succ i)) 1) (nrP P i)
def Et (B P : Nat) : Nat → Nat
  | 0 => 0
  | n + 1 => Nat.add (Et B P n) (seqN (o1 P n) fun o => seqN (c1 P n) fun c => Nat.mul B (Nat.succ (Eb B P 41 o c)))
def EtA (m P : Nat) : Nat → Bool
  | 0 => true
  | n + 1 => bif EtA m P n then (seqN (o1 P n) fun o => seqN (c1 P n) fun c => Ea m P 41 (m - 1) o c) else false
def ctT (P : Nat) : Nat → Nat → Nat
  | 0 => fun _ => 0
  | n + 1 => fun s => ctT P n s + upZ (cn P 41 (o1 P n) (c1 P n)) s
section
variable {N n m P B M z i : Nat} {op cl near : List Int32}
theorem Et_s : Et B P (n + 1) = Et B P n + B * (Eb B P 41 (o1 P n) (c1 P n) + 1) := by
  rw [Et]
  simp only [seqN_eq]
  rfl
theorem EtA_s (h : EtA m P (n + 1) = true) : EtA m P n = true ∧ Ea m P 41 (m - 1) (o1 P n) (c1 P n) = true := by
  rw [EtA] at h
  simp only [seqN_eq] at h
  cases e : EtA m P n with
  | false => rw [e] at h; cases h
  | true => rw [e] at h; exact ⟨rfl, h⟩
theorem EtA_g : ∀ (n : Nat), EtA m P n = true → ∀ i, i < n → Ea m P 41 (m - 1) (o1 P i) (c1 P i) = true
  | 0, _, i, hi => by omega
  | n + 1, h, i, hi => by
    obtain ⟨h1, h2⟩ := EtA_s h
    rcases Nat.lt_or_ge i n with g | g
    · exact EtA_g n h1 i g
    · rw [show i = n by omega]; exact h2
theorem ctT_pk (hM : 43 ≤ M) : ∀ (n : Nat), pk B M (ctT P n) = Et B P n
  | 0 => pk_z M
  | n + 1 => by
    rw [Et_s, ← ctT_pk hM n, ← cn_pk 41 (M - 1) (o1 P n) (c1 P n) (by omega)]
    show pk B M (fun s => ctT P n s + upZ (cn P 41 (o1 P n) (c1 P n)) s) = _
    rw [pk_add]
    obtain ⟨M, rfl⟩ : ∃ x, M = x + 1 := ⟨M - 1, by omega⟩
    show _ + (0 + B * pk B M (fun s => (if s = 0 then 1 else 0) + cn P 41 (o1 P n) (c1 P n) s)) = _
    rw [pk_add, pk_one (by omega), Nat.add_sub_cancel, Nat.zero_add, Nat.add_comm 1]
theorem ctT_lt : ∀ (n s : Nat), ctT P n s ≤ n * 2199023255552
  | 0, s => Nat.zero_le _
  | n + 1, s => by
    have h1 := ctT_lt n s
    show ctT P n s + upZ (cn P 41 (o1 P n) (c1 P n)) s ≤ _
    cases s with
    | zero => exact Nat.le_trans h1 (Nat.mul_le_mul_right _ (Nat.le_succ n))
    | succ s =>
      have h2 : cn P 41 (o1 P n) (c1 P n) s + 1 ≤ 2199023255552 := cn_lt (P := P) 41 (o1 P n) (c1 P n) s
      simp only [upZ]
      split <;> omega
theorem o1_lt : o1 P i < 1048576 := Nat.xor_lt_two_pow (n := 20) nrP_lt (Nat.lt_of_le_of_lt Nat.and_le_left nrP_lt)
theorem c1_lt (h : i < 20) : c1 P i < 1048576 := Nat.or_lt_two_pow (n := 20) (by
  have h1 : 2 ^ (i + 1) ≤ 2 ^ 20 := Nat.pow_le_pow_right (by omega) (by omega)
  have h2 : 0 < 2 ^ (i + 1) := Nat.two_pow_pos _
  show 2 ^ (i + 1) - 1 < 2 ^ 20
  omega) nrP_lt
theorem andnotI {x y : Nat} : nI x &&& (nI y ^^^ (-1)) = nI (Nat.xor x (Nat.land x y)) := by
  refine bt_ext (fun i hi => ?_)
  rw [bt_and, bt_not hi, bt_nI i hi, bt_nI i hi, bt_nI i hi]
  show _ = (x ^^^ (x &&& y)).testBit i
  rw [Nat.testBit_xor, Nat.testBit_and]
  cases x.testBit i <;> cases y.testBit i <;> rfl
/-- the answer to a size -/
def totN (P n z : Nat) : Nat := if z = 0 then Et 1 P n else ctT P n z
theorem totN_s : totN P (n + 1) z = totN P n z + ((if z < 2 then 1 else 0) + ad P z 41 (o1 P n) (c1 P n) 1) := by
  unfold totN ad
  by_cases h : z = 0
  · rw [if_pos h, if_pos h, if_pos h, if_pos (by omega), Et_s]; omega
  · rw [if_neg h, if_neg h, if_neg h]
    obtain ⟨y, rfl⟩ : ∃ y, z = y + 1 := ⟨z - 1, by omega⟩
    show ctT P n (y + 1) + ((if y = 0 then 1 else 0) + cn P 41 (o1 P n) (c1 P n) y) = _
    rw [Nat.add_sub_cancel]
    by_cases g : y = 0
    · rw [if_pos g, if_pos (by omega)]
    · rw [if_neg g, if_neg (by omega)]
theorem totM (hN : 2 ^ 45 ≤ N) (hz : z < 2147483648) (hn : n ≤ 20) (hnl : near.length = 20) (hnear : ∀ i, i < n → near[i]? = some (nI (nrP P i))) (hA : EtA n P n = true) : ∀ (m i fu : Nat) (op cl : List Int32), i + m = n → m < fu → op.length = 24 → cl.length = 24 → OK (f_X12_connectedSets_L74 N (iI (z : Nat)) (iI (n : Nat)) near fu (iI (totN P i z : Nat)) (iI (i : Nat)) op cl) (fun u => u.1 = iI (totN P n z : Nat) ∧ u.2.1.length = 24 ∧ u.2.2.length = 24)
  | 0, i, fu, op, cl, h1, h2, l1, l2 => by
    obtain ⟨fu, rfl⟩ : ∃ x, fu = x + 1 := ⟨fu - 1, by omega⟩
    have e : i = n := by omega
    rw [f_X12_connectedSets_L74, if_neg (iI_ltF (by omega) (by omega) (by omega)), OK_some, e]
    exact ⟨rfl, l1, l2⟩
  | m + 1, i, fu, op, cl, h1, h2, l1, l2 => by
    obtain ⟨fu, rfl⟩ : ∃ x, fu = x + 1 := ⟨fu - 1, by omega⟩
    have gn := gI (hnear i (by omega)) (show near.length < 2147483648 by rw [hnl]; decide)
    have eA := EtA_g n hA i (by omega)
    have so : ∀ x, z_set op 1 x = some (op.set 1 x) := fun x => sI (i := 1) (by omega) (by omega)
    have sc : ∀ x, z_set cl 1 x = some (cl.set 1 x) := fun x => sI (i := 1) (by omega) (by omega)
    have f20 := full_20 (i + 1) (by omega)
    rw [f_X12_connectedSets_L74, if_pos (iI_ltT (by omega) (by omega) (by omega)), gn, Option.bind_some, iI_succ, f20, andnotI, so, Option.bind_some, Option.bind_some, orI, sc, Option.bind_some]
    have ho1 : Nat.xor (nrP P i) (Nat.land (nrP P i) (2 ^ (i + 1) - 1)) = o1 P i := rfl
    have hc1 : Nat.lor (2 ^ (i + 1) - 1) (nrP P i) = c1 P i := rfl
    rw [ho1, hc1]
    obtain ⟨T, op', cl', t1, a1, a2, _, a4⟩ := subM (N := N) (near := near) (by omega) hz hn hnl hnear 41 (n - 1) 1 (o1 P i) (c1 P i) (totN P i z + (if z < 2 then 1 else 0)) (op.set 1 (nI (o1 P i))) (cl.set 1 (nI (c1 P i))) eA (by omega) (by omega) (by omega) o1_lt (c1_lt (by omega)) (by simp [l1]) (by simp [l2]) (List.getElem?_set_self (by omega)) (List.getElem?_set_self (by omega))
    have a5 := a4 (N - T)
    have hT : T ≤ N := by
      have : (2 : Nat) ^ (41 + 1) ≤ 2 ^ 45 := by decide
      omega
    have hT1 : 1 ≤ N - T := by
      have : (2 : Nat) ^ (41 + 1) + 1 ≤ 2 ^ 45 := by decide
      omega
    obtain ⟨r, hr⟩ : ∃ r, N - T = r + 1 := ⟨N - T - 1, by omega⟩
    rw [show N - T + T = N by omega, hr, f_X12_connectedSets_L143, if_neg (show ¬ (0 : Int32) < iI ((1 - 1 : Nat) : Int) by decide)] at a5
    have e0 : (totN P i z : Int) + (if z < 2 then 1 else 0) + (ad P z 41 (o1 P i) (c1 P i) 1 : Nat) = (totN P (i + 1) z : Nat) := by
      rw [totN_s]
      split <;> simp <;> omega
    rw [e0] at a5
    have step := totM hN hz hn hnl hnear hA m (i + 1) fu op' cl' (by omega) (by omega) a1 a2
    by_cases z2 : z < 2
    · rw [if_pos (show iI (z : Nat) < 2 by rw [li2]; exact iI_ltT (by omega) (by omega) (by omega))]
      rw [if_pos z2] at a5
      rw [show iI (totN P i z : Nat) + 1 = iI ((totN P i z : Int) + 1) from by rw [li1, iI_add], show (1 : Int32) = iI ((1 : Nat) : Int) from rfl, a5, Option.bind_some]
      exact step
    · rw [if_neg (show ¬ iI (z : Nat) < 2 by rw [li2]; exact iI_ltF (by omega) (by omega) (by omega))]
      rw [if_neg z2] at a5
      rw [show iI (totN P i z : Nat) + 0 = iI ((totN P i z : Int) + 0) from by rw [li0, iI_add], show (1 : Int32) = iI ((1 : Nat) : Int) from rfl, a5, Option.bind_some]
      exact step
end
