/-! the checks of a block, read -/
section
variable {k w h P : Nat}
theorem bif_t {a b : Bool} (h : (bif a then b else false) = true) : a = true ∧ b = true := by
  cases a with
  | false => cases h
  | true => exact ⟨rfl, h⟩
theorem nrOk_g {w n : Int} : ∀ (m : Nat), nrOk k w n P m = true → ∀ v, v < m → nrP P v = nrV k w n v
  | 0, _, v, hv => by omega
  | m + 1, h, v, hv => by
    rw [nrOk] at h
    obtain ⟨h1, h2⟩ := bif_t h
    rcases Nat.lt_or_ge v m with g | g
    · exact nrOk_g m h2 v g
    · rw [show v = m by omega]; exact Nat.eq_of_beq_eq_true h1
theorem blk_g (hb : blk k w h = true) : (∀ v, v < w * h * kiN k → nrP (PB k w ((w * h * kiN k : Nat) : Int) (w * h * kiN k)) v = nrV k w ((w * h * kiN k : Nat) : Int) v) ∧ EtA (w * h * kiN k) (PB k w ((w * h * kiN k : Nat) : Int) (w * h * kiN k)) (w * h * kiN k) = true := by
  unfold blk at hb
  rw [seqN_eq, seqN_eq] at hb
  obtain ⟨h1, h2⟩ := bif_t hb
  exact ⟨nrOk_g _ h1, h2⟩
theorem cmpB_g (hb : cmpB k w h = true) : okD (PB k w ((w * h * kiN k : Nat) : Int) (w * h * kiN k)) (w * kiN k) (w * h * kiN k) 0 [(0, 1)] 0 = true ∧ Et 18446744073709551616 (PB k w ((w * h * kiN k : Nat) : Int) (w * h * kiN k)) (w * h * kiN k) = dpN 18446744073709551616 (PB k w ((w * h * kiN k : Nat) : Int) (w * h * kiN k)) (w * kiN k) (w * h * kiN k) ∧ Et 1 (PB k w ((w * h * kiN k : Nat) : Int) (w * h * kiN k)) (w * h * kiN k) = dpN 1 (PB k w ((w * h * kiN k : Nat) : Int) (w * h * kiN k)) (w * kiN k) (w * h * kiN k) ∧ Et 18446744073709551616 (PB k h ((w * h * kiN k : Nat) : Int) (w * h * kiN k)) (w * h * kiN k) = dpN 18446744073709551616 (PB k w ((w * h * kiN k : Nat) : Int) (w * h * kiN k)) (w * kiN k) (w * h * kiN k) ∧ Et 1 (PB k h ((w * h * kiN k : Nat) : Int) (w * h * kiN k)) (w * h * kiN k) = dpN 1 (PB k w ((w * h * kiN k : Nat) : Int) (w * h * kiN k)) (w * kiN k) (w * h * kiN k) := by
  unfold cmpB at hb
  rw [seqN_eq, seqN_eq, seqN_eq, seqN_eq] at hb
  obtain ⟨h1, h2⟩ := bif_t hb
  obtain ⟨h3, h4⟩ := bif_t h2
  obtain ⟨h5, h6⟩ := bif_t h4
  obtain ⟨h7, h8⟩ := bif_t h6
  exact ⟨h1, Nat.eq_of_beq_eq_true h3, Nat.eq_of_beq_eq_true h5, Nat.eq_of_beq_eq_true h7, Nat.eq_of_beq_eq_true h8⟩
end
