/-! the class's labels -/
def Wn2 (fi v2 : Nat) (l : List Nat) (b : List Int32) : Prop := b.length = 20 ∧ l.length = 20 ∧ (∀ i, gl l i ≤ 7) ∧ ∀ i, fi ≤ i → i ≤ v2 → b[i]? = some (nI (gl l i))
theorem t64a : ∀ i : Nat, i < 20 → (((Int32.toInt64 (3 * iI (i : Int))).toUInt64 &&& Int64.toUInt64 63).toBitVec % 64).toNat = 3 * i := by decide +kernel
theorem t64b : ∀ i : Nat, i < 20 → ((Int32.toInt64 (3 * iI (i : Int)) &&& 63).toBitVec.smod 64).toNat = 3 * i := by decide +kernel
theorem t32a : ∀ x : Nat, x < 8 → ((4 * nI x &&& 31).toBitVec.smod 32).toNat = 4 * x := by decide +kernel
theorem t32b : ∀ x : Nat, x < 8 → ((Int32.toUInt32 (4 * nI x) &&& Int32.toUInt32 31).toBitVec % 32).toNat = 4 * x := by decide +kernel
section
variable {N P fi v2 i g x y v3 v5 v6 : Nat} {l : List Nat} {b adj : List Int32}
theorem andI {x y : Nat} : nI x &&& nI y = nI (Nat.land x y) := by
  refine bt_ext (fun i hi => ?_)
  rw [bt_and, bt_nI i hi, bt_nI i hi, bt_nI i hi]
  show _ = (x &&& y).testBit i
  rw [Nat.testBit_and]
theorem rd64 (hg : g < 2 ^ 63) (hi : i < 20) : (Int64.toInt32 ((Int64.toUInt64 (lN g) >>> ((Int32.toInt64 (3 * iI (i : Nat))).toUInt64 &&& Int64.toUInt64 63)).toInt64)) &&& 7 = nI (Nat.land (Nat.shiftRight g (Nat.mul 3 i)) 7) := by
  have e : ((Int64.toUInt64 (lN g) >>> ((Int32.toInt64 (3 * iI (i : Nat))).toUInt64 &&& Int64.toUInt64 63)).toInt64) = lN (Nat.shiftRight g (Nat.mul 3 i)) := by
    apply l_ext
    show ((Int64.toUInt64 (lN g) >>> ((Int32.toInt64 (3 * iI (i : Nat))).toUInt64 &&& Int64.toUInt64 63))).toBitVec.toNat = (g >>> (3 * i)) % 2 ^ 64
    rw [UInt64.toBitVec_shiftRight, BitVec.ushiftRight_eq', BitVec.toNat_ushiftRight, t64a i hi]
    have e : (Int64.toUInt64 (lN g)).toBitVec.toNat = g := l_tn (by omega)
    have hle : g >>> (3 * i) ≤ g := by rw [Nat.shiftRight_eq_div_pow]; exact Nat.div_le_self _ _
    rw [e, Nat.mod_eq_of_lt (by omega)]
  rw [e, l_toI32, show (7 : Int32) = nI 7 from rfl, andI]
theorem or64 (hi : i < 20) (hy : y < 2 ^ 31) : lN v3 ||| ((Int32.toInt64 (nI y)) <<< (Int32.toInt64 (3 * iI (i : Nat)) &&& 63)) = lN (Nat.lor v3 (Nat.shiftLeft y (Nat.mul 3 i))) := by
  rw [l_ofI32 hy]
  apply l_ext
  rw [Int64.toBitVec_or, BitVec.toNat_or, Int64.toBitVec_shiftLeft, BitVec.shiftLeft_eq', BitVec.toNat_shiftLeft, t64b i hi]
  show (v3 % 2 ^ 64) ||| ((y % 2 ^ 64) <<< (3 * i)) % 2 ^ 64 = (v3 ||| (y <<< (3 * i))) % 2 ^ 64
  rw [Nat.or_mod_two_pow, Nat.mod_eq_of_lt (a := y) (by omega)]
theorem nib (hv : v5 < 2 ^ 32) (hx : x < 8) : ((Int32.toUInt32 (nI v5) >>> (Int32.toUInt32 (4 * nI x) &&& Int32.toUInt32 31)).toInt32) &&& 15 = nI (Nat.land (Nat.shiftRight v5 (Nat.mul 4 x)) 15) := by
  have e : (Int32.toUInt32 (nI v5) >>> (Int32.toUInt32 (4 * nI x) &&& Int32.toUInt32 31)).toInt32 = nI (Nat.shiftRight v5 (Nat.mul 4 x)) := by
    apply Int32.toBitVec.inj
    apply BitVec.eq_of_toNat_eq
    show ((Int32.toUInt32 (nI v5) >>> (Int32.toUInt32 (4 * nI x) &&& Int32.toUInt32 31))).toBitVec.toNat = (v5 >>> (4 * x)) % 2 ^ 32
    rw [UInt32.toBitVec_shiftRight, BitVec.ushiftRight_eq', BitVec.toNat_ushiftRight, t32b x hx]
    have e : (Int32.toUInt32 (nI v5)).toBitVec.toNat = v5 := Nat.mod_eq_of_lt hv
    have hle : v5 >>> (4 * x) ≤ v5 := by rw [Nat.shiftRight_eq_div_pow]; exact Nat.div_le_self _ _
    rw [e, Nat.mod_eq_of_lt (by omega)]
  rw [e, show (15 : Int32) = nI 15 from rfl, andI]
theorem or32 (hx : x < 8) : nI v5 ||| (nI y <<< ((4 * nI x) &&& 31)) = nI (Nat.lor v5 (Nat.shiftLeft y (Nat.mul 4 x))) := by
  have e : nI y <<< ((4 * nI x) &&& 31) = nI (Nat.shiftLeft y (Nat.mul 4 x)) := by
    rw [nI_iI y, iI_shl _ _ (4 * x) (t32a x hx), nI_iI]
    congr 1
    show _ = ((y <<< (4 * x) : Nat) : Int)
    rw [Nat.shiftLeft_eq]
    simp
  rw [e, orI]
theorem gl_set : ∀ (l : List Nat) (i x j : Nat), i < l.length → gl (l.set i x) j = if i = j then x else gl l j
  | [], i, x, j, h => by simp at h
  | y :: t, 0, x, 0, h => rfl
  | y :: t, 0, x, j + 1, h => by rw [if_neg (by omega)]; rfl
  | y :: t, i + 1, x, 0, h => by rw [if_neg (by omega)]; rfl
  | y :: t, i + 1, x, j + 1, h => by
    have := gl_set t i x j (by simp at h; omega)
    show gl (t.set i x) j = _
    rw [this]
    by_cases e : i = j
    · rw [if_pos e, if_pos (by omega)]
    · rw [if_neg e, if_neg (by omega)]; rfl
theorem gl_rep (hx : ¬ x = 0) : ∀ (l : List Nat) (j : Nat), gl (rep x l) j = if gl l j = x then 7 else gl l j
  | [], j => by
    show 0 = if 0 = x then 7 else 0
    rw [if_neg (fun h => hx h.symm)]
  | y :: t, 0 => by
    show (bif Nat.beq y x then 7 else y) = if y = x then 7 else y
    cases e : Nat.beq y x with
    | true => rw [if_pos (Nat.eq_of_beq_eq_true e)]; rfl
    | false => rw [if_neg (fun h => by rw [h, Nat.beq_refl] at e; cases e)]; rfl
  | y :: t, j + 1 => gl_rep hx t j
theorem rep_len : ∀ l : List Nat, (rep x l).length = l.length
  | [] => rfl
  | y :: t => by show (rep x t).length + 1 = t.length + 1; rw [rep_len t]
theorem rdl_len : ∀ (m i : Nat), (rdl g fi v2 m i).length = m
  | 0, _ => rfl
  | m + 1, i => by show (rdl g fi v2 m (i + 1)).length + 1 = m + 1; rw [rdl_len m]
theorem gl_rdl : ∀ (m i j : Nat), gl (rdl g fi v2 m i) j = if j < m ∧ fi ≤ i + j ∧ i + j < v2 then Nat.land (Nat.shiftRight g (Nat.mul 3 (i + j))) 7 else 0
  | 0, i, j => by rw [if_neg (by omega)]; rfl
  | m + 1, i, 0 => by
    show (bif Nat.ble fi i then (bif Nat.ble (i + 1) v2 then Nat.land (Nat.shiftRight g (Nat.mul 3 i)) 7 else 0) else 0) = _
    rw [Nat.add_zero]
    by_cases h1 : fi ≤ i
    · rw [Nat.ble_eq_true_of_le h1, cond_true]
      by_cases h2 : i + 1 ≤ v2
      · rw [Nat.ble_eq_true_of_le h2, cond_true, if_pos ⟨by omega, h1, by omega⟩]; rfl
      · have e : Nat.ble (i + 1) v2 = false := by
          cases e : Nat.ble (i + 1) v2 with
          | false => rfl
          | true => exact absurd (Nat.le_of_ble_eq_true e) h2
        rw [e, cond_false, if_neg (by omega)]
    · have e : Nat.ble fi i = false := by
        cases e : Nat.ble fi i with
        | false => rfl
        | true => exact absurd (Nat.le_of_ble_eq_true e) h1
      rw [e, cond_false, if_neg (by omega)]
  | m + 1, i, j + 1 => by
    show gl (rdl g fi v2 m (i + 1)) j = _
    rw [gl_rdl m (i + 1) j, show i + 1 + j = i + (j + 1) by omega]
    by_cases h : j < m ∧ fi ≤ i + (j + 1) ∧ i + (j + 1) < v2
    · rw [if_pos h, if_pos ⟨by omega, h.2⟩]
    · rw [if_neg h, if_neg (fun hh => h ⟨by omega, hh.2⟩)]
/-- the labels are read -/
theorem rdC (hg : g < 2 ^ 63) (hv : v2 < 20) : ∀ (m i fu : Nat) (b : List Int32), i + m = v2 → m < fu → fi ≤ i → b.length = 20 → (∀ j, fi ≤ j → j < i → b[j]? = some (nI (Nat.land (Nat.shiftRight g (Nat.mul 3 j)) 7))) → OK (f_X0_readLabels_L3 N (lN g) (iI (v2 : Nat)) fu (iI (i : Nat)) b) (fun u => u.length = 20 ∧ ∀ j, fi ≤ j → j < v2 → u[j]? = some (nI (Nat.land (Nat.shiftRight g (Nat.mul 3 j)) 7)))
  | 0, i, fu, b, h1, h2, h3, l1, hx => by
    obtain ⟨fu, rfl⟩ : ∃ z, fu = z + 1 := ⟨fu - 1, by omega⟩
    rw [f_X0_readLabels_L3, if_neg (iI_ltF (by omega) (by omega) (by omega)), OK_some]
    exact ⟨l1, fun j j1 j2 => hx j j1 (by omega)⟩
  | m + 1, i, fu, b, h1, h2, h3, l1, hx => by
    obtain ⟨fu, rfl⟩ : ∃ z, fu = z + 1 := ⟨fu - 1, by omega⟩
    rw [f_X0_readLabels_L3, if_pos (iI_ltT (by omega) (by omega) (by omega)), rd64 hg (by omega), sI (by omega) (by omega), Option.bind_some, iI_succ]
    refine rdC hg hv m (i + 1) fu _ (by omega) (by omega) (by omega) (by simp [l1]) (fun j j1 j2 => ?_)
    by_cases e : j = i
    · rw [e, List.getElem?_set_self (by omega)]
    · rw [List.getElem?_set_ne (fun h => e h.symm)]
      exact hx j j1 (by omega)
theorem rd_W (hg : g < 2 ^ 63) (hv : v2 < 20) (hf : fi ≤ v2) (hN : 2000 ≤ N) (hb : b.length = 20) : OK (f_X0_readLabels N (lN g) (iI (fi : Nat)) (iI (v2 : Nat)) b) (fun u => OK (z_set u (iI (v2 : Nat)) 0) (fun t => Wn2 fi v2 (rdl g fi v2 20 0) t)) := by
  unfold f_X0_readLabels
  rw [OK_bind]
  refine OK.mono (rdC (fi := fi) hg hv (v2 - fi) fi N b (by omega) (by omega) (Nat.le_refl _) hb (fun j j1 j2 => by omega)) ?_
  rintro u ⟨u1, u2⟩
  rw [OK_some, sI (by omega) (by omega), OK_some]
  refine ⟨by simp [u1], rdl_len 20 0, fun i => ?_, fun i i1 i2 => ?_⟩
  · rw [gl_rdl]
    split
    · exact Nat.and_le_right
    · omega
  · rw [gl_rdl, Nat.zero_add]
    by_cases e : i = v2
    · rw [e, List.getElem?_set_self (by omega), if_neg (by omega)]; rfl
    · rw [List.getElem?_set_ne (fun h => e h.symm), if_pos ⟨by omega, i1, by omega⟩]
      exact u2 i i1 (by omega)
end
