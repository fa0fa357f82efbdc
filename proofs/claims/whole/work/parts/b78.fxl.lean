/-! the fixed and the free figures of a size -/
def lcs : Nat → Nat → Chk
  | 0, 1 => lc_0_1
  | 0, 2 => lc_0_2
  | 0, 3 => lc_0_3
  | 0, 4 => lc_0_4
  | 0, 5 => lc_0_5
  | 0, 6 => lc_0_6
  | 0, 7 => lc_0_7
  | 1, 1 => lc_1_1
  | 1, 2 => lc_1_2
  | 1, 3 => lc_1_3
  | 1, 4 => lc_1_4
  | 1, 5 => lc_1_5
  | 1, 6 => lc_1_6
  | 1, 7 => lc_1_7
  | 1, 8 => lc_1_8
  | 2, 1 => lc_2_1
  | 2, 2 => lc_2_2
  | 2, 3 => lc_2_3
  | 2, 4 => lc_2_4
  | 2, 5 => lc_2_5
  | 2, 6 => lc_2_6
  | _, _ => []
def lws : Nat → Nat → List Nat
  | 0, 1 => lw_0_1
  | 0, 2 => lw_0_2
  | 0, 3 => lw_0_3
  | 0, 4 => lw_0_4
  | 0, 5 => lw_0_5
  | 0, 6 => lw_0_6
  | 0, 7 => lw_0_7
  | 1, 1 => lw_1_1
  | 1, 2 => lw_1_2
  | 1, 3 => lw_1_3
  | 1, 4 => lw_1_4
  | 1, 5 => lw_1_5
  | 1, 6 => lw_1_6
  | 1, 7 => lw_1_7
  | 1, 8 => lw_1_8
  | 2, 1 => lw_2_1
  | 2, 2 => lw_2_2
  | 2, 3 => lw_2_3
  | 2, 4 => lw_2_4
  | 2, 5 => lw_2_5
  | 2, 6 => lw_2_6
  | _, _ => []
theorem lcs_asc {k n : Nat} (hk : k < 3) (h1 : 1 ≤ n) (h2 : n ≤ gre k) : asc (flt (lcs k n)) = true := by
  rcases (show k = 0 ∨ k = 1 ∨ k = 2 by omega) with rfl | rfl | rfl
  · have hg : gre 0 = 7 := rfl
    rcases (show n = 1 ∨ n = 2 ∨ n = 3 ∨ n = 4 ∨ n = 5 ∨ n = 6 ∨ n = 7 by omega) with rfl | rfl | rfl | rfl | rfl | rfl | rfl
    · exact la_0_1
    · exact la_0_2
    · exact la_0_3
    · exact la_0_4
    · exact la_0_5
    · exact la_0_6
    · exact la_0_7
  · have hg : gre 1 = 8 := rfl
    rcases (show n = 1 ∨ n = 2 ∨ n = 3 ∨ n = 4 ∨ n = 5 ∨ n = 6 ∨ n = 7 ∨ n = 8 by omega) with rfl | rfl | rfl | rfl | rfl | rfl | rfl | rfl
    · exact la_1_1
    · exact la_1_2
    · exact la_1_3
    · exact la_1_4
    · exact la_1_5
    · exact la_1_6
    · exact la_1_7
    · exact la_1_8
  · have hg : gre 2 = 6 := rfl
    rcases (show n = 1 ∨ n = 2 ∨ n = 3 ∨ n = 4 ∨ n = 5 ∨ n = 6 by omega) with rfl | rfl | rfl | rfl | rfl | rfl
    · exact la_2_1
    · exact la_2_2
    · exact la_2_3
    · exact la_2_4
    · exact la_2_5
    · exact la_2_6
theorem lcs_f {k n : Nat} (hk : k < 3) (h1 : 1 ≤ n) (h2 : n ≤ gre k) : fchk k n (flt (lcs k n)) (lws k n) = true := by
  rcases (show k = 0 ∨ k = 1 ∨ k = 2 by omega) with rfl | rfl | rfl
  · have hg : gre 0 = 7 := rfl
    rcases (show n = 1 ∨ n = 2 ∨ n = 3 ∨ n = 4 ∨ n = 5 ∨ n = 6 ∨ n = 7 by omega) with rfl | rfl | rfl | rfl | rfl | rfl | rfl
    · exact lf_0_1
    · exact lf_0_2
    · exact lf_0_3
    · exact lf_0_4
    · exact lf_0_5
    · exact lf_0_6
    · exact lf_0_7
  · have hg : gre 1 = 8 := rfl
    rcases (show n = 1 ∨ n = 2 ∨ n = 3 ∨ n = 4 ∨ n = 5 ∨ n = 6 ∨ n = 7 ∨ n = 8 by omega) with rfl | rfl | rfl | rfl | rfl | rfl | rfl | rfl
    · exact lf_1_1
    · exact lf_1_2
    · exact lf_1_3
    · exact lf_1_4
    · exact lf_1_5
    · exact lf_1_6
    · exact lf_1_7
    · exact lf_1_8
  · have hg : gre 2 = 6 := rfl
    rcases (show n = 1 ∨ n = 2 ∨ n = 3 ∨ n = 4 ∨ n = 5 ∨ n = 6 by omega) with rfl | rfl | rfl | rfl | rfl | rfl
    · exact lf_2_1
    · exact lf_2_2
    · exact lf_2_3
    · exact lf_2_4
    · exact lf_2_5
    · exact lf_2_6
theorem lcs_g {k n : Nat} (hk : k < 3) (h1 : 1 ≤ n) (h2 : n ≤ gre k) (h3 : n < gre k) : gchk k n (flt (lcs k n)) (lcs k (n + 1)) = true := by
  rcases (show k = 0 ∨ k = 1 ∨ k = 2 by omega) with rfl | rfl | rfl
  · have hg : gre 0 = 7 := rfl
    rcases (show n = 1 ∨ n = 2 ∨ n = 3 ∨ n = 4 ∨ n = 5 ∨ n = 6 ∨ n = 7 by omega) with rfl | rfl | rfl | rfl | rfl | rfl | rfl
    · exact lg_0_1
    · exact lg_0_2
    · exact lg_0_3
    · exact lg_0_4
    · exact lg_0_5
    · exact lg_0_6
    · exact absurd h3 (by decide)
  · have hg : gre 1 = 8 := rfl
    rcases (show n = 1 ∨ n = 2 ∨ n = 3 ∨ n = 4 ∨ n = 5 ∨ n = 6 ∨ n = 7 ∨ n = 8 by omega) with rfl | rfl | rfl | rfl | rfl | rfl | rfl | rfl
    · exact lg_1_1
    · exact lg_1_2
    · exact lg_1_3
    · exact lg_1_4
    · exact lg_1_5
    · exact lg_1_6
    · exact lg_1_7
    · exact absurd h3 (by decide)
  · have hg : gre 2 = 6 := rfl
    rcases (show n = 1 ∨ n = 2 ∨ n = 3 ∨ n = 4 ∨ n = 5 ∨ n = 6 by omega) with rfl | rfl | rfl | rfl | rfl | rfl
    · exact lg_2_1
    · exact lg_2_2
    · exact lg_2_3
    · exact lg_2_4
    · exact lg_2_5
    · exact absurd h3 (by decide)
def bl : Nat → Nat → Nat
  | 0, 1 => 1
  | 0, 2 => 2
  | 0, 3 => 6
  | 0, 4 => 19
  | 0, 5 => 63
  | 0, 6 => 216
  | 0, 7 => 760
  | 1, 1 => 2
  | 1, 2 => 3
  | 1, 3 => 6
  | 1, 4 => 14
  | 1, 5 => 36
  | 1, 6 => 94
  | 1, 7 => 250
  | 1, 8 => 675
  | 2, 1 => 1
  | 2, 2 => 3
  | 2, 3 => 11
  | 2, 4 => 44
  | 2, 5 => 186
  | 2, 6 => 814
  | _, _ => 0
def bf : Nat → Nat → Nat
  | 0, 1 => 1
  | 0, 2 => 1
  | 0, 3 => 2
  | 0, 4 => 5
  | 0, 5 => 12
  | 0, 6 => 35
  | 0, 7 => 108
  | 1, 1 => 1
  | 1, 2 => 1
  | 1, 3 => 1
  | 1, 4 => 3
  | 1, 5 => 4
  | 1, 6 => 12
  | 1, 7 => 24
  | 1, 8 => 66
  | 2, 1 => 1
  | 2, 2 => 1
  | 2, 3 => 3
  | 2, 4 => 7
  | 2, 5 => 22
  | 2, 6 => 82
  | _, _ => 0
theorem lcs_l {k n : Nat} (hk : k < 3) (h1 : 1 ≤ n) (h2 : n ≤ gre k) : (flt (lcs k n)).length = bl k n ∧ (frs (flt (lcs k n)) (lws k n)).length = bf k n := by
  rcases (show k = 0 ∨ k = 1 ∨ k = 2 by omega) with rfl | rfl | rfl
  · have hg : gre 0 = 7 := rfl
    rcases (show n = 1 ∨ n = 2 ∨ n = 3 ∨ n = 4 ∨ n = 5 ∨ n = 6 ∨ n = 7 by omega) with rfl | rfl | rfl | rfl | rfl | rfl | rfl
    · exact ll_0_1
    · exact ll_0_2
    · exact ll_0_3
    · exact ll_0_4
    · exact ll_0_5
    · exact ll_0_6
    · exact ll_0_7
  · have hg : gre 1 = 8 := rfl
    rcases (show n = 1 ∨ n = 2 ∨ n = 3 ∨ n = 4 ∨ n = 5 ∨ n = 6 ∨ n = 7 ∨ n = 8 by omega) with rfl | rfl | rfl | rfl | rfl | rfl | rfl | rfl
    · exact ll_1_1
    · exact ll_1_2
    · exact ll_1_3
    · exact ll_1_4
    · exact ll_1_5
    · exact ll_1_6
    · exact ll_1_7
    · exact ll_1_8
  · have hg : gre 2 = 6 := rfl
    rcases (show n = 1 ∨ n = 2 ∨ n = 3 ∨ n = 4 ∨ n = 5 ∨ n = 6 by omega) with rfl | rfl | rfl | rfl | rfl | rfl
    · exact ll_2_1
    · exact ll_2_2
    · exact ll_2_3
    · exact ll_2_4
    · exact ll_2_5
    · exact ll_2_6
section
variable {k n : Nat} {X Y : List Cl} {A B : List (List Cl)} {S S' : List Nat}
theorem lit_mem (hk : k < 3) : ∀ (n : Nat), 1 ≤ n → n ≤ gre k → ∀ {X : List Cl}, NF k X → X.length = n → pck X ∈ flt (lcs k n)
  | 0, h, _, _, _, _ => by omega
  | 1, _, _, X, hX, hl => by
    obtain ⟨c, rfl⟩ := List.length_eq_one_iff.mp hl
    have h1 := hX.1.2.2.2.2 c (by simp)
    have h2 := hX.2.2.2.2 c (by simp)
    obtain ⟨q, r, t⟩ := c
    simp only [List.length_singleton] at h1 h2
    have e1 : q = 0 := by omega
    have e2 : r = 0 := by omega
    subst e1 e2
    rcases h1.1 with h | ⟨e, h⟩
    · have h' : t = 0 := h
      subst h'
      rcases (show k = 0 ∨ k = 1 ∨ k = 2 by omega) with rfl | rfl | rfl <;> decide
    · have h' : t = 1 := h
      subst h'
      subst e
      decide
  | n + 2, _, h2, X, hX, hl => by
    have h8 : gre k ≤ 8 := by unfold gre; split <;> (try split) <;> omega
    obtain ⟨Y, u, c, hY, hYl, hu, he, hc, rfl⟩ := hX.from hl (by omega)
    exact gchk_ok (lcs_g hk (n := n + 1) (by omega) (by omega) (by omega)) hY hYl (by omega) (lit_mem hk (n + 1) (by omega) (by omega) hY hYl) hu he hc
/-- the list of all fixed figures of a size -/
def FXL (k n : Nat) (A : List (List Cl)) : Prop := A.Pairwise (fun X Y => pck X < pck Y) ∧ ∀ X, X ∈ A ↔ (NF k X ∧ X.length = n)
theorem gre_le : gre k ≤ 8 := by unfold gre; split <;> (try split) <;> omega
theorem NF.b9 (h : NF k X) (hl : X.length ≤ 8) : B9 k X := h.inB (by omega)
theorem fx_ex (hk : k < 3) (h1 : 1 ≤ n) (h2 : n ≤ gre k) : ∃ A, FXL k n A := by
  have h8 := gre_le (k := k)
  let f : Nat → Option (List Cl) := fun p => @dite _ (∃ X, NF k X ∧ X.length = n ∧ pck X = p) (Classical.propDecidable _) (fun h => some (Classical.choose h)) (fun _ => none)
  have hf : ∀ {p X}, f p = some X → NF k X ∧ X.length = n ∧ pck X = p := fun {p X} h => by
    by_cases e : ∃ X, NF k X ∧ X.length = n ∧ pck X = p
    · have e2 : f p = some (Classical.choose e) := dif_pos e
      rw [e2] at h
      cases h
      exact Classical.choose_spec e
    · have e2 : f p = none := dif_neg e
      rw [e2] at h
      cases h
  refine ⟨(flt (lcs k n)).filterMap f, ?_, fun X => ?_⟩
  · rw [List.pairwise_filterMap]
    refine (asc_sorted (lcs_asc hk h1 h2)).imp (fun {a b} hab X hX Y hY => ?_)
    rw [(hf hX).2.2, (hf hY).2.2]
    exact hab
  · rw [List.mem_filterMap]
    constructor
    · rintro ⟨p, _, h⟩
      exact ⟨(hf h).1, (hf h).2.1⟩
    · rintro ⟨h, hl⟩
      refine ⟨pck X, lit_mem hk n h1 h2 h hl, ?_⟩
      have e : ∃ Y, NF k Y ∧ Y.length = n ∧ pck Y = pck X := ⟨X, h, hl, rfl⟩
      have e2 : f (pck X) = some (Classical.choose e) := dif_pos e
      have h3 := Classical.choose_spec e
      rw [e2, pck_inj (h3.1.b9 (by omega)) (h.b9 (by omega)) (by omega) h3.2.2]
noncomputable def fxl (k n : Nat) : List (List Cl) := Classical.epsilon (FXL k n)
theorem fxl_ok (hk : k < 3) (h1 : 1 ≤ n) (h2 : n ≤ gre k) : FXL k n (fxl k n) := Classical.epsilon_spec (fx_ex hk h1 h2)
theorem asc_uniq (h1 : S.Pairwise (fun a b => a < b)) (h2 : S'.Pairwise (fun a b => a < b)) (h : ∀ y, y ∈ S ↔ y ∈ S') : S = S' := by
  have hp : S.Perm S' := (List.perm_ext_iff_of_nodup (h1.imp (fun h => Nat.ne_of_lt h)) (h2.imp (fun h => Nat.ne_of_lt h))).mpr h
  exact List.Perm.eq_of_pairwise (le := fun a b => a ≤ b) (fun a b _ _ h1 h2 => Nat.le_antisymm h1 h2) (h1.imp (fun h => Nat.le_of_lt h)) (h2.imp (fun h => Nat.le_of_lt h)) hp
/-- the packed forms -/
noncomputable def fxp (k n : Nat) : List Nat := (fxl k n).map pck
theorem fxp_asc (hk : k < 3) (h1 : 1 ≤ n) (h2 : n ≤ gre k) : (fxp k n).Pairwise (fun a b => a < b) := by
  unfold fxp
  rw [List.pairwise_map]
  exact (fxl_ok hk h1 h2).1
theorem fxp_mem (hk : k < 3) (h1 : 1 ≤ n) (h2 : n ≤ gre k) (y : Nat) : y ∈ fxp k n ↔ ∃ X, NF k X ∧ X.length = n ∧ pck X = y := by
  unfold fxp
  rw [List.mem_map]
  constructor
  · rintro ⟨X, hX, e⟩
    have := ((fxl_ok hk h1 h2).2 X).mp hX
    exact ⟨X, this.1, this.2, e⟩
  · rintro ⟨X, h3, h4, e⟩
    exact ⟨X, ((fxl_ok hk h1 h2).2 X).mpr ⟨h3, h4⟩, e⟩
theorem part_le (hk : k < 3) (h1 : 1 ≤ n) (h2 : n ≤ gre k) (hS : S.Nodup) (h : ∀ y ∈ S, ∃ X, NF k X ∧ X.length = n ∧ pck X = y) : S.length ≤ bl k n := by
  rw [← (lcs_l hk h1 h2).1]
  refine nd_len hS (fun y hy => ?_)
  obtain ⟨X, h3, h4, rfl⟩ := h y hy
  exact lit_mem hk n h1 h2 h3 h4
theorem fxl_len (hk : k < 3) (h1 : 1 ≤ n) (h2 : n ≤ gre k) : (fxl k n).length ≤ bl k n := by
  have := part_le hk h1 h2 (S := fxp k n) ((fxp_asc hk h1 h2).imp (fun h => Nat.ne_of_lt h)) (fun y hy => (fxp_mem hk h1 h2 y).mp hy)
  unfold fxp at this
  rw [List.length_map] at this
  exact this
/-- where the list of a size begins -/
noncomputable def off (k : Nat) : Nat → Nat
  | 0 => 0
  | 1 => 0
  | n + 2 => off k (n + 1) + (fxl k (n + 1)).length
theorem off_succ (h1 : 1 ≤ n) : off k (n + 1) = off k n + (fxl k n).length := by
  obtain ⟨m, rfl⟩ := Nat.exists_eq_add_of_le' h1
  rfl
noncomputable def canB (k : Nat) (X : List Cl) : Bool := @decide (Can k X) (Classical.propDecidable _)
theorem canB_iff : canB k X = true ↔ Can k X := by unfold canB; simp
noncomputable def frl (k n : Nat) : List (List Cl) := (fxl k n).filter (canB k)
noncomputable def offF (k : Nat) : Nat → Nat
  | 0 => 0
  | 1 => 0
  | n + 2 => offF k (n + 1) + (frl k (n + 1)).length
theorem offF_succ (h1 : 1 ≤ n) : offF k (n + 1) = offF k n + (frl k n).length := by
  obtain ⟨m, rfl⟩ := Nat.exists_eq_add_of_le' h1
  rfl
theorem frl_len (hk : k < 3) (h1 : 1 ≤ n) (h2 : n ≤ gre k) : (frl k n).length ≤ bf k n := by
  have h8 := gre_le (k := k)
  rw [← (lcs_l hk h1 h2).2, ← List.length_map (f := pck)]
  have hnd : ((frl k n).map pck).Nodup := by
    have := (fxl_ok hk h1 h2).1.filter (canB k)
    rw [List.Nodup, List.pairwise_map]
    exact this.imp (fun h => Nat.ne_of_lt h)
  refine nd_len hnd (fun y hy => ?_)
  obtain ⟨X, hX, rfl⟩ := List.mem_map.mp hy
  obtain ⟨h3, h4⟩ := List.mem_filter.mp hX
  have h5 := ((fxl_ok hk h1 h2).2 X).mp h3
  exact fchk_ok (lcs_f hk h1 h2) (h5.1.b9 (by omega)) h5.2 (canB_iff.mp h4) (lit_mem hk n h1 h2 h5.1 h5.2)
theorem ob_0 : off 0 1 ≤ 0 ∧ off 0 2 ≤ 1 ∧ off 0 3 ≤ 3 ∧ off 0 4 ≤ 9 ∧ off 0 5 ≤ 28 ∧ off 0 6 ≤ 91 ∧ off 0 7 ≤ 307 ∧ off 0 8 ≤ 1067 := by
  have l1 : (fxl 0 1).length ≤ 1 := fxl_len (k := 0) (n := 1) (by decide) (by decide) (by decide)
  have l2 : (fxl 0 2).length ≤ 2 := fxl_len (k := 0) (n := 2) (by decide) (by decide) (by decide)
  have l3 : (fxl 0 3).length ≤ 6 := fxl_len (k := 0) (n := 3) (by decide) (by decide) (by decide)
  have l4 : (fxl 0 4).length ≤ 19 := fxl_len (k := 0) (n := 4) (by decide) (by decide) (by decide)
  have l5 : (fxl 0 5).length ≤ 63 := fxl_len (k := 0) (n := 5) (by decide) (by decide) (by decide)
  have l6 : (fxl 0 6).length ≤ 216 := fxl_len (k := 0) (n := 6) (by decide) (by decide) (by decide)
  have l7 : (fxl 0 7).length ≤ 760 := fxl_len (k := 0) (n := 7) (by decide) (by decide) (by decide)
  have e1 : off 0 1 = 0 := rfl
  have e2 : off 0 2 = off 0 1 + (fxl 0 1).length := rfl
  have e3 : off 0 3 = off 0 2 + (fxl 0 2).length := rfl
  have e4 : off 0 4 = off 0 3 + (fxl 0 3).length := rfl
  have e5 : off 0 5 = off 0 4 + (fxl 0 4).length := rfl
  have e6 : off 0 6 = off 0 5 + (fxl 0 5).length := rfl
  have e7 : off 0 7 = off 0 6 + (fxl 0 6).length := rfl
  have e8 : off 0 8 = off 0 7 + (fxl 0 7).length := rfl
  omega
theorem pb_0 : offF 0 1 ≤ 0 ∧ offF 0 2 ≤ 1 ∧ offF 0 3 ≤ 2 ∧ offF 0 4 ≤ 4 ∧ offF 0 5 ≤ 9 ∧ offF 0 6 ≤ 21 ∧ offF 0 7 ≤ 56 ∧ offF 0 8 ≤ 164 := by
  have l1 : (frl 0 1).length ≤ 1 := frl_len (k := 0) (n := 1) (by decide) (by decide) (by decide)
  have l2 : (frl 0 2).length ≤ 1 := frl_len (k := 0) (n := 2) (by decide) (by decide) (by decide)
  have l3 : (frl 0 3).length ≤ 2 := frl_len (k := 0) (n := 3) (by decide) (by decide) (by decide)
  have l4 : (frl 0 4).length ≤ 5 := frl_len (k := 0) (n := 4) (by decide) (by decide) (by decide)
  have l5 : (frl 0 5).length ≤ 12 := frl_len (k := 0) (n := 5) (by decide) (by decide) (by decide)
  have l6 : (frl 0 6).length ≤ 35 := frl_len (k := 0) (n := 6) (by decide) (by decide) (by decide)
  have l7 : (frl 0 7).length ≤ 108 := frl_len (k := 0) (n := 7) (by decide) (by decide) (by decide)
  have e1 : offF 0 1 = 0 := rfl
  have e2 : offF 0 2 = offF 0 1 + (frl 0 1).length := rfl
  have e3 : offF 0 3 = offF 0 2 + (frl 0 2).length := rfl
  have e4 : offF 0 4 = offF 0 3 + (frl 0 3).length := rfl
  have e5 : offF 0 5 = offF 0 4 + (frl 0 4).length := rfl
  have e6 : offF 0 6 = offF 0 5 + (frl 0 5).length := rfl
  have e7 : offF 0 7 = offF 0 6 + (frl 0 6).length := rfl
  have e8 : offF 0 8 = offF 0 7 + (frl 0 7).length := rfl
  omega
theorem ob_1 : off 1 1 ≤ 0 ∧ off 1 2 ≤ 2 ∧ off 1 3 ≤ 5 ∧ off 1 4 ≤ 11 ∧ off 1 5 ≤ 25 ∧ off 1 6 ≤ 61 ∧ off 1 7 ≤ 155 ∧ off 1 8 ≤ 405 ∧ off 1 9 ≤ 1080 := by
  have l1 : (fxl 1 1).length ≤ 2 := fxl_len (k := 1) (n := 1) (by decide) (by decide) (by decide)
  have l2 : (fxl 1 2).length ≤ 3 := fxl_len (k := 1) (n := 2) (by decide) (by decide) (by decide)
  have l3 : (fxl 1 3).length ≤ 6 := fxl_len (k := 1) (n := 3) (by decide) (by decide) (by decide)
  have l4 : (fxl 1 4).length ≤ 14 := fxl_len (k := 1) (n := 4) (by decide) (by decide) (by decide)
  have l5 : (fxl 1 5).length ≤ 36 := fxl_len (k := 1) (n := 5) (by decide) (by decide) (by decide)
  have l6 : (fxl 1 6).length ≤ 94 := fxl_len (k := 1) (n := 6) (by decide) (by decide) (by decide)
  have l7 : (fxl 1 7).length ≤ 250 := fxl_len (k := 1) (n := 7) (by decide) (by decide) (by decide)
  have l8 : (fxl 1 8).length ≤ 675 := fxl_len (k := 1) (n := 8) (by decide) (by decide) (by decide)
  have e1 : off 1 1 = 0 := rfl
  have e2 : off 1 2 = off 1 1 + (fxl 1 1).length := rfl
  have e3 : off 1 3 = off 1 2 + (fxl 1 2).length := rfl
  have e4 : off 1 4 = off 1 3 + (fxl 1 3).length := rfl
  have e5 : off 1 5 = off 1 4 + (fxl 1 4).length := rfl
  have e6 : off 1 6 = off 1 5 + (fxl 1 5).length := rfl
  have e7 : off 1 7 = off 1 6 + (fxl 1 6).length := rfl
  have e8 : off 1 8 = off 1 7 + (fxl 1 7).length := rfl
  have e9 : off 1 9 = off 1 8 + (fxl 1 8).length := rfl
  omega
theorem pb_1 : offF 1 1 ≤ 0 ∧ offF 1 2 ≤ 1 ∧ offF 1 3 ≤ 2 ∧ offF 1 4 ≤ 3 ∧ offF 1 5 ≤ 6 ∧ offF 1 6 ≤ 10 ∧ offF 1 7 ≤ 22 ∧ offF 1 8 ≤ 46 ∧ offF 1 9 ≤ 112 := by
  have l1 : (frl 1 1).length ≤ 1 := frl_len (k := 1) (n := 1) (by decide) (by decide) (by decide)
  have l2 : (frl 1 2).length ≤ 1 := frl_len (k := 1) (n := 2) (by decide) (by decide) (by decide)
  have l3 : (frl 1 3).length ≤ 1 := frl_len (k := 1) (n := 3) (by decide) (by decide) (by decide)
  have l4 : (frl 1 4).length ≤ 3 := frl_len (k := 1) (n := 4) (by decide) (by decide) (by decide)
  have l5 : (frl 1 5).length ≤ 4 := frl_len (k := 1) (n := 5) (by decide) (by decide) (by decide)
  have l6 : (frl 1 6).length ≤ 12 := frl_len (k := 1) (n := 6) (by decide) (by decide) (by decide)
  have l7 : (frl 1 7).length ≤ 24 := frl_len (k := 1) (n := 7) (by decide) (by decide) (by decide)
  have l8 : (frl 1 8).length ≤ 66 := frl_len (k := 1) (n := 8) (by decide) (by decide) (by decide)
  have e1 : offF 1 1 = 0 := rfl
  have e2 : offF 1 2 = offF 1 1 + (frl 1 1).length := rfl
  have e3 : offF 1 3 = offF 1 2 + (frl 1 2).length := rfl
  have e4 : offF 1 4 = offF 1 3 + (frl 1 3).length := rfl
  have e5 : offF 1 5 = offF 1 4 + (frl 1 4).length := rfl
  have e6 : offF 1 6 = offF 1 5 + (frl 1 5).length := rfl
  have e7 : offF 1 7 = offF 1 6 + (frl 1 6).length := rfl
  have e8 : offF 1 8 = offF 1 7 + (frl 1 7).length := rfl
  have e9 : offF 1 9 = offF 1 8 + (frl 1 8).length := rfl
  omega
theorem ob_2 : off 2 1 ≤ 0 ∧ off 2 2 ≤ 1 ∧ off 2 3 ≤ 4 ∧ off 2 4 ≤ 15 ∧ off 2 5 ≤ 59 ∧ off 2 6 ≤ 245 ∧ off 2 7 ≤ 1059 := by
  have l1 : (fxl 2 1).length ≤ 1 := fxl_len (k := 2) (n := 1) (by decide) (by decide) (by decide)
  have l2 : (fxl 2 2).length ≤ 3 := fxl_len (k := 2) (n := 2) (by decide) (by decide) (by decide)
  have l3 : (fxl 2 3).length ≤ 11 := fxl_len (k := 2) (n := 3) (by decide) (by decide) (by decide)
  have l4 : (fxl 2 4).length ≤ 44 := fxl_len (k := 2) (n := 4) (by decide) (by decide) (by decide)
  have l5 : (fxl 2 5).length ≤ 186 := fxl_len (k := 2) (n := 5) (by decide) (by decide) (by decide)
  have l6 : (fxl 2 6).length ≤ 814 := fxl_len (k := 2) (n := 6) (by decide) (by decide) (by decide)
  have e1 : off 2 1 = 0 := rfl
  have e2 : off 2 2 = off 2 1 + (fxl 2 1).length := rfl
  have e3 : off 2 3 = off 2 2 + (fxl 2 2).length := rfl
  have e4 : off 2 4 = off 2 3 + (fxl 2 3).length := rfl
  have e5 : off 2 5 = off 2 4 + (fxl 2 4).length := rfl
  have e6 : off 2 6 = off 2 5 + (fxl 2 5).length := rfl
  have e7 : off 2 7 = off 2 6 + (fxl 2 6).length := rfl
  omega
theorem pb_2 : offF 2 1 ≤ 0 ∧ offF 2 2 ≤ 1 ∧ offF 2 3 ≤ 2 ∧ offF 2 4 ≤ 5 ∧ offF 2 5 ≤ 12 ∧ offF 2 6 ≤ 34 ∧ offF 2 7 ≤ 116 := by
  have l1 : (frl 2 1).length ≤ 1 := frl_len (k := 2) (n := 1) (by decide) (by decide) (by decide)
  have l2 : (frl 2 2).length ≤ 1 := frl_len (k := 2) (n := 2) (by decide) (by decide) (by decide)
  have l3 : (frl 2 3).length ≤ 3 := frl_len (k := 2) (n := 3) (by decide) (by decide) (by decide)
  have l4 : (frl 2 4).length ≤ 7 := frl_len (k := 2) (n := 4) (by decide) (by decide) (by decide)
  have l5 : (frl 2 5).length ≤ 22 := frl_len (k := 2) (n := 5) (by decide) (by decide) (by decide)
  have l6 : (frl 2 6).length ≤ 82 := frl_len (k := 2) (n := 6) (by decide) (by decide) (by decide)
  have e1 : offF 2 1 = 0 := rfl
  have e2 : offF 2 2 = offF 2 1 + (frl 2 1).length := rfl
  have e3 : offF 2 3 = offF 2 2 + (frl 2 2).length := rfl
  have e4 : offF 2 4 = offF 2 3 + (frl 2 3).length := rfl
  have e5 : offF 2 5 = offF 2 4 + (frl 2 4).length := rfl
  have e6 : offF 2 6 = offF 2 5 + (frl 2 5).length := rfl
  have e7 : offF 2 7 = offF 2 6 + (frl 2 6).length := rfl
  omega
theorem off_bd {k n : Nat} (hk : k < 3) (h1 : 1 ≤ n) (h2 : n ≤ gre k) : off k n + bl k n ≤ 1080 ∧ off k (n + 1) ≤ 1080 ∧ offF k (n + 1) ≤ 164 := by
  rcases (show k = 0 ∨ k = 1 ∨ k = 2 by omega) with rfl | rfl | rfl
  · have hg : gre 0 = 7 := rfl
    rcases (show n = 1 ∨ n = 2 ∨ n = 3 ∨ n = 4 ∨ n = 5 ∨ n = 6 ∨ n = 7 by omega) with rfl | rfl | rfl | rfl | rfl | rfl | rfl
    · have := ob_0; have := pb_0; have e : bl 0 1 = 1 := rfl; show off 0 1 + bl 0 1 ≤ 1080 ∧ off 0 2 ≤ 1080 ∧ offF 0 2 ≤ 164; refine ⟨?_, ?_, ?_⟩ <;> omega
    · have := ob_0; have := pb_0; have e : bl 0 2 = 2 := rfl; show off 0 2 + bl 0 2 ≤ 1080 ∧ off 0 3 ≤ 1080 ∧ offF 0 3 ≤ 164; refine ⟨?_, ?_, ?_⟩ <;> omega
    · have := ob_0; have := pb_0; have e : bl 0 3 = 6 := rfl; show off 0 3 + bl 0 3 ≤ 1080 ∧ off 0 4 ≤ 1080 ∧ offF 0 4 ≤ 164; refine ⟨?_, ?_, ?_⟩ <;> omega
    · have := ob_0; have := pb_0; have e : bl 0 4 = 19 := rfl; show off 0 4 + bl 0 4 ≤ 1080 ∧ off 0 5 ≤ 1080 ∧ offF 0 5 ≤ 164; refine ⟨?_, ?_, ?_⟩ <;> omega
    · have := ob_0; have := pb_0; have e : bl 0 5 = 63 := rfl; show off 0 5 + bl 0 5 ≤ 1080 ∧ off 0 6 ≤ 1080 ∧ offF 0 6 ≤ 164; refine ⟨?_, ?_, ?_⟩ <;> omega
    · have := ob_0; have := pb_0; have e : bl 0 6 = 216 := rfl; show off 0 6 + bl 0 6 ≤ 1080 ∧ off 0 7 ≤ 1080 ∧ offF 0 7 ≤ 164; refine ⟨?_, ?_, ?_⟩ <;> omega
    · have := ob_0; have := pb_0; have e : bl 0 7 = 760 := rfl; show off 0 7 + bl 0 7 ≤ 1080 ∧ off 0 8 ≤ 1080 ∧ offF 0 8 ≤ 164; refine ⟨?_, ?_, ?_⟩ <;> omega
  · have hg : gre 1 = 8 := rfl
    rcases (show n = 1 ∨ n = 2 ∨ n = 3 ∨ n = 4 ∨ n = 5 ∨ n = 6 ∨ n = 7 ∨ n = 8 by omega) with rfl | rfl | rfl | rfl | rfl | rfl | rfl | rfl
    · have := ob_1; have := pb_1; have e : bl 1 1 = 2 := rfl; show off 1 1 + bl 1 1 ≤ 1080 ∧ off 1 2 ≤ 1080 ∧ offF 1 2 ≤ 164; refine ⟨?_, ?_, ?_⟩ <;> omega
    · have := ob_1; have := pb_1; have e : bl 1 2 = 3 := rfl; show off 1 2 + bl 1 2 ≤ 1080 ∧ off 1 3 ≤ 1080 ∧ offF 1 3 ≤ 164; refine ⟨?_, ?_, ?_⟩ <;> omega
    · have := ob_1; have := pb_1; have e : bl 1 3 = 6 := rfl; show off 1 3 + bl 1 3 ≤ 1080 ∧ off 1 4 ≤ 1080 ∧ offF 1 4 ≤ 164; refine ⟨?_, ?_, ?_⟩ <;> omega
    · have := ob_1; have := pb_1; have e : bl 1 4 = 14 := rfl; show off 1 4 + bl 1 4 ≤ 1080 ∧ off 1 5 ≤ 1080 ∧ offF 1 5 ≤ 164; refine ⟨?_, ?_, ?_⟩ <;> omega
    · have := ob_1; have := pb_1; have e : bl 1 5 = 36 := rfl; show off 1 5 + bl 1 5 ≤ 1080 ∧ off 1 6 ≤ 1080 ∧ offF 1 6 ≤ 164; refine ⟨?_, ?_, ?_⟩ <;> omega
    · have := ob_1; have := pb_1; have e : bl 1 6 = 94 := rfl; show off 1 6 + bl 1 6 ≤ 1080 ∧ off 1 7 ≤ 1080 ∧ offF 1 7 ≤ 164; refine ⟨?_, ?_, ?_⟩ <;> omega
    · have := ob_1; have := pb_1; have e : bl 1 7 = 250 := rfl; show off 1 7 + bl 1 7 ≤ 1080 ∧ off 1 8 ≤ 1080 ∧ offF 1 8 ≤ 164; refine ⟨?_, ?_, ?_⟩ <;> omega
    · have := ob_1; have := pb_1; have e : bl 1 8 = 675 := rfl; show off 1 8 + bl 1 8 ≤ 1080 ∧ off 1 9 ≤ 1080 ∧ offF 1 9 ≤ 164; refine ⟨?_, ?_, ?_⟩ <;> omega
  · have hg : gre 2 = 6 := rfl
    rcases (show n = 1 ∨ n = 2 ∨ n = 3 ∨ n = 4 ∨ n = 5 ∨ n = 6 by omega) with rfl | rfl | rfl | rfl | rfl | rfl
    · have := ob_2; have := pb_2; have e : bl 2 1 = 1 := rfl; show off 2 1 + bl 2 1 ≤ 1080 ∧ off 2 2 ≤ 1080 ∧ offF 2 2 ≤ 164; refine ⟨?_, ?_, ?_⟩ <;> omega
    · have := ob_2; have := pb_2; have e : bl 2 2 = 3 := rfl; show off 2 2 + bl 2 2 ≤ 1080 ∧ off 2 3 ≤ 1080 ∧ offF 2 3 ≤ 164; refine ⟨?_, ?_, ?_⟩ <;> omega
    · have := ob_2; have := pb_2; have e : bl 2 3 = 11 := rfl; show off 2 3 + bl 2 3 ≤ 1080 ∧ off 2 4 ≤ 1080 ∧ offF 2 4 ≤ 164; refine ⟨?_, ?_, ?_⟩ <;> omega
    · have := ob_2; have := pb_2; have e : bl 2 4 = 44 := rfl; show off 2 4 + bl 2 4 ≤ 1080 ∧ off 2 5 ≤ 1080 ∧ offF 2 5 ≤ 164; refine ⟨?_, ?_, ?_⟩ <;> omega
    · have := ob_2; have := pb_2; have e : bl 2 5 = 186 := rfl; show off 2 5 + bl 2 5 ≤ 1080 ∧ off 2 6 ≤ 1080 ∧ offF 2 6 ≤ 164; refine ⟨?_, ?_, ?_⟩ <;> omega
    · have := ob_2; have := pb_2; have e : bl 2 6 = 814 := rfl; show off 2 6 + bl 2 6 ≤ 1080 ∧ off 2 7 ≤ 1080 ∧ offF 2 7 ≤ 164; refine ⟨?_, ?_, ?_⟩ <;> omega
end
