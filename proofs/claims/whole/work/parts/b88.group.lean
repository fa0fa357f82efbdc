/-! the images of an image -/
section
variable {k : Nat} {L X : List Cl} {c : Cl}
theorem trnN_add (a b : Nat) (c : Cl) : trnN k (a + b) c = trnN k a (trnN k b c) := by
  induction a with
  | zero => rw [Nat.zero_add]; rfl
  | succ a ih => rw [Nat.succ_add]; show trn k (trnN k (a + b) c) = trn k (trnN k a (trnN k b c)); rw [ih]
theorem trnN_mod (hk : k < 3) (h : okT k c.2.2) : ∀ n, trnN k n c = trnN k (n % tur k) c := by
  have htu := tur_pos (k := k)
  intro n
  induction n using Nat.strongRecOn with
  | _ n ih =>
    rcases Nat.lt_or_ge n (tur k) with g | g
    · rw [Nat.mod_eq_of_lt g]
    · have h1 := ih (n - tur k) (by omega)
      have h2 : trnN k n c = trnN k (n - tur k) c := by
        conv => lhs; rw [show n = (n - tur k) + tur k by omega]
        rw [trnN_add, trnN_tur hk h]
      rw [h2, h1, Nat.mod_eq_sub_mod g]
theorem mir_trn (hk : k < 3) : ∃ a b : Int, ∀ c : Cl, okT k c.2.2 → mir (trn k c) = sft a b (trnN k (tur k - 1) (mir c)) := by
  rcases (show k = 0 ∨ k = 1 ∨ k = 2 by omega) with rfl | rfl | rfl
  · refine ⟨0, 0, fun c h => ?_⟩
    obtain ⟨q, r, t⟩ := c
    rcases h with h | ⟨h, _⟩
    · simp only at h
      subst h
      simp [tur, trnN, trn, mir, sft]
    · omega
  · refine ⟨0, 0, fun c h => ?_⟩
    obtain ⟨q, r, t⟩ := c
    simp [tur, trnN, trn, mir, sft]
    omega
  · refine ⟨0, 0, fun c h => ?_⟩
    obtain ⟨q, r, t⟩ := c
    rcases h with h | ⟨h, _⟩
    · simp only at h
      subst h
      simp [tur, trnN, trn, mir, sft]
      omega
    · omega
theorem mir_trnN (hk : k < 3) : ∀ n : Nat, ∃ a b : Int, ∀ c : Cl, okT k c.2.2 → mir (trnN k n c) = sft a b (trnN k (n * (tur k - 1)) (mir c))
  | 0 => ⟨0, 0, fun c _ => by rw [Nat.zero_mul, sft_0]; rfl⟩
  | n + 1 => by
    obtain ⟨a, b, h⟩ := mir_trnN hk n
    obtain ⟨a', b', h'⟩ := mir_trn hk
    obtain ⟨u, v, hs⟩ := trnN_sft hk (tur k - 1) a b
    refine ⟨a' + u, b' + v, fun c hc => ?_⟩
    show mir (trn k (trnN k n c)) = _
    rw [h' _ (trnN_okT hk n hc), h c hc, hs, sft_sft, ← trnN_add, Nat.add_mul, Nat.one_mul, Nat.add_comm (tur k - 1)]
theorem sym_sym (hk : k < 3) (i j : Nat) : ∃ m a b, m < 2 * tur k ∧ ∀ c : Cl, okT k c.2.2 → sym k i (sym k j c) = sft a b (sym k m c) := by
  have htu := tur_pos (k := k)
  -- turns of the figure, or of its mirror image
  have mk : ∀ (n : Nat) (x : Bool), ∃ m, m < 2 * tur k ∧ ∀ c : Cl, okT k c.2.2 → trnN k n (if x = true then mir c else c) = sym k m c := fun n x => by
    have hm := Nat.mod_lt n htu.1
    cases x with
    | true =>
      refine ⟨tur k + n % tur k, by omega, fun c hc => ?_⟩
      have hc' : okT k (mir c).2.2 := hc
      rw [if_pos rfl, trnN_mod hk hc']
      unfold sym
      rw [if_neg (by omega), Nat.add_mod_left, Nat.mod_mod]
    | false =>
      refine ⟨n % tur k, by omega, fun c hc => ?_⟩
      rw [if_neg (by decide), trnN_mod hk hc]
      unfold sym
      rw [if_pos hm, Nat.mod_mod]
  by_cases hi : i < tur k
  · by_cases hj : j < tur k
    · obtain ⟨m, h1, h2⟩ := mk (i % tur k + j % tur k) false
      refine ⟨m, 0, 0, h1, fun c hc => ?_⟩
      rw [sft_0, ← h2 c hc, if_neg (by decide), trnN_add]
      unfold sym
      rw [if_pos hi, if_pos hj]
    · obtain ⟨m, h1, h2⟩ := mk (i % tur k + j % tur k) true
      refine ⟨m, 0, 0, h1, fun c hc => ?_⟩
      rw [sft_0, ← h2 c hc, if_pos rfl, trnN_add]
      unfold sym
      rw [if_pos hi, if_neg hj]
  · obtain ⟨a, b, hmt⟩ := mir_trnN hk (j % tur k)
    obtain ⟨u, v, hs⟩ := trnN_sft hk (i % tur k) a b
    by_cases hj : j < tur k
    · obtain ⟨m, h1, h2⟩ := mk (i % tur k + j % tur k * (tur k - 1)) true
      refine ⟨m, u, v, h1, fun c hc => ?_⟩
      rw [← h2 c hc, if_pos rfl, trnN_add, ← hs, ← hmt c hc]
      unfold sym
      rw [if_neg hi, if_pos hj]
    · obtain ⟨m, h1, h2⟩ := mk (i % tur k + j % tur k * (tur k - 1)) false
      refine ⟨m, u, v, h1, fun c hc => ?_⟩
      have hc' : okT k (mir c).2.2 := hc
      have h3 := hmt (mir c) hc'
      rw [mir_mir] at h3
      rw [← h2 c hc, if_neg (by decide), trnN_add, ← hs, ← h3]
      unfold sym
      rw [if_neg hi, if_neg hj]
theorem img_img (h : Sm k L) (i j : Nat) : ∃ m, m < 2 * tur k ∧ img k (img k L j) i = img k L m := by
  have hk := h.1
  obtain ⟨m, a, b, hm, hc⟩ := sym_sym hk i j
  refine ⟨m, hm, ?_⟩
  have hN := (img_Nf h j).sm
  obtain ⟨u, v, hs⟩ := sym_sft hk i (mnQ (L.map (sym k j))) (mnR (L.map (sym k j)))
  have hp : ((img k L j).map (sym k i)).Perm ((L.map (sym k m)).map (sft (u + a) (v + b))) := by
    refine (nrm_perm.map (sym k i)).trans ?_
    rw [List.map_map, List.map_map, List.map_map]
    refine List.Perm.of_eq (List.map_congr_left (fun x hx => ?_))
    show sym k i (sft _ _ (sym k j x)) = sft (u + a) (v + b) (sym k m x)
    rw [hs, hc x (h.2.2.2.2 x hx).1, sft_sft]
  exact nrm_eq (fg_sym hN i) (fg_sym h m) hp
theorem can_can (h : Sm k L) : Can k (can k L) := by
  intro i hi hneg
  have htu := tur_pos (k := k)
  obtain ⟨m, hm, e⟩ := img_img h i (bst (img k L) (2 * tur k))
  have h1 := bst_le (F := img k L) (m := L.length) (fun i => img_len i) (n := 2 * tur k) m hm
  have h2 : img k (can k L) i = img k L m := e
  rw [h2] at hneg
  have h3 := lxg_anti (f := cd) (A := img k L m) (B := can k L)
  have h4 : lx (can k L) (img k L m) ≤ 0 := h1
  unfold lx at h4 hneg
  omega
end
