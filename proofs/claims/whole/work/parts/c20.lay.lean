/-! the class's table of neighbours in a block -/
section
variable {N k w h K v : Nat} {q r t : Int} {adj : List Int32}
theorem kin_N : kin k = (kiN k : Int) ∧ (kiN k = 1 ∨ kiN k = 2) := by
  unfold kin kiN
  by_cases e : k = 1
  · rw [if_pos e, e]; exact ⟨rfl, Or.inr rfl⟩
  · rw [if_neg e, beq_ne e]; exact ⟨rfl, Or.inl rfl⟩
theorem idx_iff (hw : 1 ≤ w ∧ w ≤ 5) (hK : K = 1 ∨ K = 2) {x y g : Int} (hx : 0 ≤ x ∧ x < w) (hg : 0 ≤ g ∧ g < K) : (0 ≤ (K : Int) * (w * y + x) + g ∧ (K : Int) * (w * y + x) + g ≤ (w : Int) * h * K - 1) ↔ (0 ≤ y ∧ y < h) := by
  obtain ⟨w1, w5⟩ := hw
  rcases (show w = 1 ∨ w = 2 ∨ w = 3 ∨ w = 4 ∨ w = 5 by omega) with rfl | rfl | rfl | rfl | rfl <;> rcases hK with rfl | rfl <;> omega
end
