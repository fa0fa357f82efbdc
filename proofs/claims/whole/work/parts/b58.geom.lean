/-! normal forms up to shifts and orders -/
def Fg (k : Nat) (L : List Cl) : Prop := k < 3 ∧ Conn k L ∧ L.Nodup ∧ L.length ≤ 12 ∧ ∀ x ∈ L, okT k x.2.2 ∧ -1000 ≤ x.1 ∧ x.1 ≤ 1000 ∧ -1000 ≤ x.2.1 ∧ x.2.1 ≤ 1000
/-- a figure that stands near the origin -/
def Nf (k : Nat) (L : List Cl) : Prop := k < 3 ∧ Conn k L ∧ L.Nodup ∧ L.length ≤ 12 ∧ ∀ x ∈ L, okT k x.2.2 ∧ 0 ≤ x.1 ∧ x.1 ≤ 11 ∧ 0 ≤ x.2.1 ∧ x.2.1 ≤ 11
section
variable {k : Nat} {L A B : List Cl} {a b c x : Cl}
theorem mn_spec (f : Cl → Int) (hne : L ≠ []) (hb : ∀ x ∈ L, f x < 2147483647) : (∃ x ∈ L, f x = mnl 2147483647 (L.map f)) ∧ ∀ x ∈ L, mnl 2147483647 (L.map f) ≤ f x := by
  obtain ⟨h1, h2, h3⟩ := mnl_le (L.map f) 2147483647
  refine ⟨?_, fun x hx => h2 (f x) (List.mem_map_of_mem hx)⟩
  rcases h3 with h3 | h3
  · obtain ⟨y, ys, e⟩ := List.exists_cons_of_ne_nil hne
    have hy : y ∈ L := by rw [e]; simp
    have := h2 (f y) (List.mem_map_of_mem hy)
    have := hb y hy
    omega
  · obtain ⟨x, hx, e⟩ := List.mem_map.mp h3
    exact ⟨x, hx, e⟩
theorem mn_uniq (f : Cl → Int) {v : Int} (hne : L ≠ []) (hb : ∀ x ∈ L, f x < 2147483647) (h1 : ∃ x ∈ L, f x = v) (h2 : ∀ x ∈ L, v ≤ f x) : mnl 2147483647 (L.map f) = v := by
  obtain ⟨⟨x, hx, e⟩, h3⟩ := mn_spec f hne hb
  obtain ⟨y, hy, e2⟩ := h1
  have := h2 x hx
  have := h3 y hy
  omega
theorem Fg.ne (h : Fg k L) : L ≠ [] := h.2.1.1
theorem Fg.q (h : Fg k L) : ∀ x ∈ L, x.1 < 2147483647 := fun x hx => by have := h.2.2.2.2 x hx; omega
theorem Fg.r (h : Fg k L) : ∀ x ∈ L, x.2.1 < 2147483647 := fun x hx => by have := h.2.2.2.2 x hx; omega
/-- the shifted cells lie from 0 to 11 -/
theorem Fg.shift (h : Fg k L) : ∀ x ∈ L, 0 ≤ (sft (mnQ L) (mnR L) x).1 ∧ (sft (mnQ L) (mnR L) x).1 ≤ 11 ∧ 0 ≤ (sft (mnQ L) (mnR L) x).2.1 ∧ (sft (mnQ L) (mnR L) x).2.1 ≤ 11 := fun x hx => by
  obtain ⟨⟨y, hy, e1⟩, h1⟩ := mn_spec (fun c : Cl => c.1) h.ne h.q
  obtain ⟨⟨z, hz, e2⟩, h2⟩ := mn_spec (fun c : Cl => c.2.1) h.ne h.r
  have s1 := conn_spread h.2.1 (fun c => c.1) (fun a b e _ => (adj_q e).1) (fun y hy => (h.2.2.2.2 y hy).1) hy hx
  have s2 := conn_spread h.2.1 (fun c => c.2.1) (fun a b e _ => (adj_r e).1) (fun y hy => (h.2.2.2.2 y hy).1) hz hx
  have h1x := h1 x hx
  have h2x := h2 x hx
  have hl := h.2.2.2.1
  simp only [sft, mnQ, mnR] at *
  omega
theorem Fg.ok (h : Fg k L) : ∀ x ∈ L, ok32 (sft (mnQ L) (mnR L) x) := fun x hx => by
  have h1 := h.shift x hx
  have h2 := okT_rng (h.2.2.2.2 x hx).1
  exact ⟨by omega, by omega, by omega, by omega, h2.1, h2.2⟩
theorem sft_inj {x y : Int} (h : sft x y a = sft x y b) : a = b := by
  simp only [sft, Prod.mk.injEq] at h
  exact Prod.ext (by omega) (Prod.ext (by omega) h.2.2)
theorem nd_map {α β : Type} {f : α → β} {L : List α} (hn : L.Nodup) (hf : ∀ a ∈ L, ∀ b ∈ L, f a = f b → a = b) : (L.map f).Nodup := by
  induction L with
  | nil => exact List.nodup_nil
  | cons a L ih =>
    obtain ⟨h1, h2⟩ := List.nodup_cons.mp hn
    rw [List.map_cons]
    refine List.nodup_cons.mpr ⟨fun hm => ?_, ih h2 (fun x hx y hy => hf x (by simp [hx]) y (by simp [hy]))⟩
    obtain ⟨b, hb, e⟩ := List.mem_map.mp hm
    exact h1 (by rw [← hf b (by simp [hb]) a (by simp) e]; exact hb)
theorem nrm_perm : (nrm L).Perm (L.map (sft (mnQ L) (mnR L))) := srt_perm _
theorem nrm_len : (nrm L).length = L.length := by rw [nrm_perm.length_eq, List.length_map]
theorem nrm_srt : Srt (nrm L) := srt_srt _
theorem nrm_mem : x ∈ nrm L ↔ ∃ y ∈ L, sft (mnQ L) (mnR L) y = x := by rw [nrm_perm.mem_iff, List.mem_map]
theorem nrm_Nf (h : Fg k L) : Nf k (nrm L) := by
  refine ⟨h.1, (conn_perm nrm_perm).mpr (conn_sft _ _ h.2.1), ?_, by rw [nrm_len]; exact h.2.2.2.1, fun x hx => ?_⟩
  · exact nrm_perm.nodup_iff.mpr (nd_map h.2.2.1 (fun a _ b _ e => sft_inj e))
  · obtain ⟨y, hy, rfl⟩ := nrm_mem.mp hx
    exact ⟨(h.2.2.2.2 y hy).1, h.shift y hy⟩
theorem Nf.fg (h : Nf k L) : Fg k L := ⟨h.1, h.2.1, h.2.2.1, h.2.2.2.1, fun x hx => by
  obtain ⟨h1, h2⟩ := h.2.2.2.2 x hx
  exact ⟨h1, by omega, by omega, by omega, by omega⟩⟩
theorem Nf.ok (h : Nf k L) : ∀ x ∈ L, ok32 x := fun x hx => by
  obtain ⟨h1, h2⟩ := h.2.2.2.2 x hx
  have h3 := okT_rng h1
  exact ⟨by omega, by omega, by omega, by omega, h3.1, h3.2⟩
theorem Nf.ld (h : Nf k L) : Ld k L := ⟨h.1, h.2.2.1, h.2.2.2.1, fun x hx => by
  obtain ⟨h1, h2⟩ := h.2.2.2.2 x hx
  exact ⟨h1, by omega, by omega, by omega, by omega⟩⟩
theorem nrm_min (h : Fg k L) : (∃ x ∈ nrm L, x.1 = 0) ∧ ∃ x ∈ nrm L, x.2.1 = 0 := by
  obtain ⟨⟨y, hy, e1⟩, h1⟩ := mn_spec (fun c : Cl => c.1) h.ne h.q
  obtain ⟨⟨z, hz, e2⟩, h2⟩ := mn_spec (fun c : Cl => c.2.1) h.ne h.r
  refine ⟨⟨_, nrm_mem.mpr ⟨y, hy, rfl⟩, ?_⟩, ⟨_, nrm_mem.mpr ⟨z, hz, rfl⟩, ?_⟩⟩
  · simp only [sft, mnQ] at *; omega
  · simp only [sft, mnR] at *; omega
/-- lists that are the same up to a shift and an order have one normal form -/
theorem nrm_eq {u v : Int} (hA : Fg k A) (hB : Fg k B) (hp : A.Perm (B.map (sft u v))) : nrm A = nrm B := by
  have eQ : mnQ A = mnQ B - u := by
    obtain ⟨⟨y, hy, e1⟩, h1⟩ := mn_spec (fun c : Cl => c.1) hB.ne hB.q
    refine mn_uniq (fun c : Cl => c.1) hA.ne hA.q ⟨sft u v y, hp.mem_iff.mpr (List.mem_map_of_mem hy), ?_⟩ (fun x hx => ?_)
    · simp only [sft, mnQ] at *; omega
    · obtain ⟨z, hz, rfl⟩ := List.mem_map.mp (hp.mem_iff.mp hx)
      have := h1 z hz
      simp only [sft, mnQ] at *; omega
  have eR : mnR A = mnR B - v := by
    obtain ⟨⟨y, hy, e1⟩, h1⟩ := mn_spec (fun c : Cl => c.2.1) hB.ne hB.r
    refine mn_uniq (fun c : Cl => c.2.1) hA.ne hA.r ⟨sft u v y, hp.mem_iff.mpr (List.mem_map_of_mem hy), ?_⟩ (fun x hx => ?_)
    · simp only [sft, mnR] at *; omega
    · obtain ⟨z, hz, rfl⟩ := List.mem_map.mp (hp.mem_iff.mp hx)
      have := h1 z hz
      simp only [sft, mnR] at *; omega
  have hm : (A.map (sft (mnQ A) (mnR A))).Perm (B.map (sft (mnQ B) (mnR B))) := by
    refine (hp.map _).trans ?_
    rw [List.map_map, eQ, eR]
    apply List.Perm.of_eq
    apply List.map_congr_left
    intro x _
    show sft _ _ (sft _ _ x) = _
    rw [sft_sft]
    congr 1 <;> omega
  exact srt_uniq nrm_srt nrm_srt ((nrm_perm.trans hm).trans nrm_perm.symm) (nrm_Nf hA).ok
/-- a sorted figure at the origin is its own normal form -/
theorem nrm_self (h : Nf k L) (hs : Srt L) (h0 : ∃ x ∈ L, x.1 = 0) (h1 : ∃ x ∈ L, x.2.1 = 0) : nrm L = L := by
  have hF := h.fg
  have eQ : mnQ L = 0 := mn_uniq (fun c : Cl => c.1) hF.ne hF.q h0 (fun x hx => (h.2.2.2.2 x hx).2.1)
  have eR : mnR L = 0 := mn_uniq (fun c : Cl => c.2.1) hF.ne hF.r h1 (fun x hx => (h.2.2.2.2 x hx).2.2.2.1)
  refine srt_uniq nrm_srt hs (nrm_perm.trans ?_) (nrm_Nf hF).ok
  rw [eQ, eR]
  apply List.Perm.of_eq
  rw [show (sft 0 0 : Cl → Cl) = id from funext sft_0, List.map_id]
theorem nrm_nrm (h : Fg k L) : nrm (nrm L) = nrm L := nrm_self (nrm_Nf h) nrm_srt (nrm_min h).1 (nrm_min h).2
/-! turns and mirrors -/
theorem trn_okT (hk : k < 3) (h : okT k a.2.2) : okT k (trn k a).2.2 := by
  rcases (show k = 0 ∨ k = 1 ∨ k = 2 by omega) with rfl | rfl | rfl
  · exact Or.inl rfl
  · unfold okT at *
    show 1 - a.2.2 = 0 ∨ _ ∧ 1 - a.2.2 = 1
    omega
  · exact Or.inl rfl
theorem trn_inj (hk : k < 3) (ha : okT k a.2.2) (hb : okT k b.2.2) (h : trn k a = trn k b) : a = b := by
  obtain ⟨q, r, t⟩ := a
  obtain ⟨q', r', t'⟩ := b
  unfold okT at *
  rcases (show k = 0 ∨ k = 1 ∨ k = 2 by omega) with rfl | rfl | rfl <;> simp [trn] at h ha hb ⊢ <;> omega
theorem mir_mir : mir (mir a) = a := rfl
theorem mir_inj (h : mir a = mir b) : a = b := by rw [← mir_mir (a := a), h, mir_mir]
theorem trn_sft (hk : k < 3) (u v : Int) : ∃ u' v', ∀ x, trn k (sft u v x) = sft u' v' (trn k x) := by
  rcases (show k = 0 ∨ k = 1 ∨ k = 2 by omega) with rfl | rfl | rfl
  · exact ⟨-v, u, fun x => by simp [trn, sft]; omega⟩
  · exact ⟨-v, u + v, fun x => by simp [trn, sft]; omega⟩
  · exact ⟨-v, u + v, fun x => by simp [trn, sft]; omega⟩
theorem mir_sft (u v : Int) (x : Cl) : mir (sft u v x) = sft v u (mir x) := rfl
def trnN (k : Nat) : Nat → Cl → Cl
  | 0, c => c
  | n + 1, c => trn k (trnN k n c)
theorem trnN_okT (hk : k < 3) (n : Nat) (h : okT k a.2.2) : okT k (trnN k n a).2.2 := by
  induction n with
  | zero => exact h
  | succ n ih => exact trn_okT hk ih
theorem trnN_tur (hk : k < 3) (h : okT k a.2.2) : trnN k (tur k) a = a := by
  obtain ⟨q, r, t⟩ := a
  unfold okT at h
  rcases (show k = 0 ∨ k = 1 ∨ k = 2 by omega) with rfl | rfl | rfl
  · simp at h
    simp [tur, trnN, trn]
    omega
  · simp at h
    simp [tur, trnN, trn]
    omega
  · simp at h
    simp [tur, trnN, trn]
    omega
theorem trnN_bd (hk : k < 3) {m : Int} (hm : 0 ≤ m) (h : okT k a.2.2 ∧ -m ≤ a.1 ∧ a.1 ≤ m ∧ -m ≤ a.2.1 ∧ a.2.1 ≤ m) (n : Nat) (hn : n < 6) : okT k (trnN k n a).2.2 ∧ -(2 * m + 3) ≤ (trnN k n a).1 ∧ (trnN k n a).1 ≤ 2 * m + 3 ∧ -(2 * m + 3) ≤ (trnN k n a).2.1 ∧ (trnN k n a).2.1 ≤ 2 * m + 3 := by
  refine ⟨trnN_okT hk n h.1, ?_⟩
  obtain ⟨q, r, t⟩ := a
  have ht := okT_rng h.1
  simp only at h ht
  rcases (show n = 0 ∨ n = 1 ∨ n = 2 ∨ n = 3 ∨ n = 4 ∨ n = 5 by omega) with rfl | rfl | rfl | rfl | rfl | rfl <;> rcases (show k = 0 ∨ k = 1 ∨ k = 2 by omega) with rfl | rfl | rfl <;> simp [trnN, trn] <;> omega
/-- the symmetry number i of the lattice -/
def sym (k i : Nat) (c : Cl) : Cl := trnN k (i % tur k) (if i < tur k then c else mir c)
def img (k : Nat) (L : List Cl) (i : Nat) : List Cl := nrm (L.map (sym k i))
theorem tur_pos : 0 < tur k ∧ tur k ≤ 6 := by unfold tur; split <;> omega
theorem sym_okT (hk : k < 3) (i : Nat) (h : okT k a.2.2) : okT k (sym k i a).2.2 := by
  unfold sym
  apply trnN_okT hk
  split <;> exact h
theorem trnN_inj (hk : k < 3) (n : Nat) (ha : okT k a.2.2) (hb : okT k b.2.2) (h : trnN k n a = trnN k n b) : a = b := by
  induction n with
  | zero => exact h
  | succ n ih => exact ih (trn_inj hk (trnN_okT hk n ha) (trnN_okT hk n hb) h)
theorem adj_trnN (hk : k < 3) (n : Nat) (ha : okT k a.2.2) (h : adj k a b) : adj k (trnN k n a) (trnN k n b) := by
  induction n with
  | zero => exact h
  | succ n ih => exact adj_trn hk (trnN_okT hk n ha) ih
theorem adj_sym (hk : k < 3) (i : Nat) (ha : okT k a.2.2) (h : adj k a b) : adj k (sym k i a) (sym k i b) := by
  unfold sym
  split
  · exact adj_trnN hk _ ha h
  · exact adj_trnN hk _ (a := mir a) ha (adj_mir hk ha h)
/-- within the bounds of a draft or of a normal form -/
def Sm (k : Nat) (L : List Cl) : Prop := k < 3 ∧ Conn k L ∧ L.Nodup ∧ L.length ≤ 12 ∧ ∀ x ∈ L, okT k x.2.2 ∧ -14 ≤ x.1 ∧ x.1 ≤ 14 ∧ -14 ≤ x.2.1 ∧ x.2.1 ≤ 14
theorem Sm.fg (h : Sm k L) : Fg k L := ⟨h.1, h.2.1, h.2.2.1, h.2.2.2.1, fun x hx => by
  obtain ⟨h1, h2⟩ := h.2.2.2.2 x hx
  exact ⟨h1, by omega, by omega, by omega, by omega⟩⟩
theorem Nf.sm (h : Nf k L) : Sm k L := ⟨h.1, h.2.1, h.2.2.1, h.2.2.2.1, fun x hx => by
  obtain ⟨h1, h2⟩ := h.2.2.2.2 x hx
  exact ⟨h1, by omega, by omega, by omega, by omega⟩⟩
theorem Sm.ld (h : Sm k L) : Ld k L := ⟨h.1, h.2.2.1, h.2.2.2.1, fun x hx => by
  obtain ⟨h1, h2⟩ := h.2.2.2.2 x hx
  exact ⟨h1, by omega, by omega, by omega, by omega⟩⟩
theorem sym_bd (hk : k < 3) (i : Nat) {m : Int} (hm : 0 ≤ m) (h : okT k a.2.2 ∧ -m ≤ a.1 ∧ a.1 ≤ m ∧ -m ≤ a.2.1 ∧ a.2.1 ≤ m) : okT k (sym k i a).2.2 ∧ -(2 * m + 3) ≤ (sym k i a).1 ∧ (sym k i a).1 ≤ 2 * m + 3 ∧ -(2 * m + 3) ≤ (sym k i a).2.1 ∧ (sym k i a).2.1 ≤ 2 * m + 3 := by
  have ht := tur_pos (k := k)
  have hi : i % tur k < 6 := Nat.lt_of_lt_of_le (Nat.mod_lt _ ht.1) ht.2
  unfold sym
  split
  · exact trnN_bd hk hm h _ hi
  · exact trnN_bd hk (a := mir a) hm ⟨h.1, h.2.2.2.1, h.2.2.2.2, h.2.1, h.2.2.1⟩ _ hi
theorem sym_inj (hk : k < 3) (i : Nat) (ha : okT k a.2.2) (hb : okT k b.2.2) (h : sym k i a = sym k i b) : a = b := by
  unfold sym at h
  split at h
  · exact trnN_inj hk _ ha hb h
  · exact mir_inj (trnN_inj hk _ (a := mir a) (b := mir b) ha hb h)
theorem fg_sym (h : Sm k L) (i : Nat) : Fg k (L.map (sym k i)) := by
  refine ⟨h.1, conn_map (fun a b ha _ e => adj_sym h.1 i (h.2.2.2.2 a ha).1 e) h.2.1, nd_map h.2.2.1 (fun a ha b hb e => sym_inj h.1 i (h.2.2.2.2 a ha).1 (h.2.2.2.2 b hb).1 e), by rw [List.length_map]; exact h.2.2.2.1, fun x hx => ?_⟩
  obtain ⟨y, hy, rfl⟩ := List.mem_map.mp hx
  have := sym_bd h.1 i (m := 14) (by omega) (h.2.2.2.2 y hy)
  exact ⟨this.1, by omega, by omega, by omega, by omega⟩
theorem img_Nf (h : Sm k L) (i : Nat) : Nf k (img k L i) := nrm_Nf (fg_sym h i)
theorem img_len (i : Nat) : (img k L i).length = L.length := by unfold img; rw [nrm_len, List.length_map]
/-- the next image out of one: a turn -/
theorem img_next (h : Sm k L) {i : Nat} (hi : (i + 1) % tur k ≠ 0) : nrm ((img k L i).map (trn k)) = img k L (i + 1) := by
  obtain ⟨u, v, huv⟩ := trn_sft h.1 (mnQ (L.map (sym k i))) (mnR (L.map (sym k i)))
  have hN := img_Nf h i
  have ht := tur_pos (k := k)
  have e : ∀ c, trn k (sym k i c) = sym k (i + 1) c := fun c => by
    have h1 : (i + 1) % tur k = i % tur k + 1 := by
      rw [Nat.add_mod]
      rcases Nat.lt_or_ge (i % tur k + 1) (tur k) with g | g
      · rcases Nat.lt_or_ge 1 (tur k) with g1 | g1
        · rw [Nat.mod_eq_of_lt g1, Nat.mod_eq_of_lt g]
        · omega
      · have := Nat.mod_lt i ht.1
        exfalso
        apply hi
        have e1 : i % tur k + 1 = tur k := by omega
        rw [Nat.add_mod]
        have h1t : 1 < tur k := by unfold tur; split <;> omega
        rw [Nat.mod_eq_of_lt h1t, e1, Nat.mod_self]
    have h2 : (i + 1 < tur k) = (i < tur k) := by
      apply propext
      constructor
      · omega
      · intro g
        rcases Nat.lt_or_ge (i + 1) (tur k) with g1 | g1
        · exact g1
        · have : i + 1 = tur k := by omega
          rw [this, Nat.mod_self] at hi
          exact absurd rfl hi
    unfold sym
    rw [h1]
    simp only [h2]
    rfl
  refine nrm_eq (u := u) (v := v) (k := k) ⟨h.1, conn_map (fun a b ha _ e => adj_trn h.1 (hN.2.2.2.2 a ha).1 e) hN.2.1, nd_map hN.2.2.1 (fun a ha b hb e => trn_inj h.1 (hN.2.2.2.2 a ha).1 (hN.2.2.2.2 b hb).1 e), by rw [List.length_map]; exact hN.2.2.2.1, fun x hx => ?_⟩ (fg_sym h (i + 1)) ?_
  · obtain ⟨y, hy, rfl⟩ := List.mem_map.mp hx
    obtain ⟨h1, h2, h3, h4, h5⟩ := hN.2.2.2.2 y hy
    have := trnN_bd h.1 (a := y) (m := 11) (by omega) ⟨h1, by omega, by omega, by omega, by omega⟩ 1 (by omega)
    exact ⟨this.1, by have := this.2; simp only [trnN] at this; omega, by have := this.2; simp only [trnN] at this; omega, by have := this.2; simp only [trnN] at this; omega, by have := this.2; simp only [trnN] at this; omega⟩
  · refine (nrm_perm.map (trn k)).trans (List.Perm.of_eq ?_)
    rw [List.map_map, List.map_map, List.map_map]
    apply List.map_congr_left
    intro x _
    show trn k (sft _ _ (sym k i x)) = sft u v (sym k (i + 1) x)
    rw [huv, e]
/-- from the last turn to the mirror image -/
theorem img_mid (h : Sm k L) : nrm (((img k L (tur k - 1)).map (trn k)).map mir) = img k L (tur k) := by
  obtain ⟨u, v, huv⟩ := trn_sft h.1 (mnQ (L.map (sym k (tur k - 1)))) (mnR (L.map (sym k (tur k - 1))))
  have hN := img_Nf h (tur k - 1)
  have ht := tur_pos (k := k)
  have e : ∀ c, okT k c.2.2 → mir (trn k (sym k (tur k - 1) c)) = sym k (tur k) c := fun c hc => by
    unfold sym
    rw [Nat.mod_eq_of_lt (by omega : tur k - 1 < tur k), if_pos (by omega : tur k - 1 < tur k), Nat.mod_self, if_neg (Nat.lt_irrefl _)]
    show mir (trn k (trnN k (tur k - 1) c)) = mir c
    have := trnN_tur h.1 hc
    rw [show tur k = (tur k - 1) + 1 by omega] at this
    rw [show trn k (trnN k (tur k - 1) c) = c from this]
  refine nrm_eq (u := v) (v := u) (k := k) ⟨h.1, ?_, ?_, by rw [List.length_map, List.length_map]; exact hN.2.2.2.1, fun x hx => ?_⟩ (fg_sym h (tur k)) ?_
  · refine conn_map (fun a b ha _ e => ?_) (conn_map (fun a b ha _ e => adj_trn h.1 (hN.2.2.2.2 a ha).1 e) hN.2.1)
    obtain ⟨y, hy, rfl⟩ := List.mem_map.mp ha
    exact adj_mir h.1 (trn_okT h.1 (hN.2.2.2.2 y hy).1) e
  · exact nd_map (nd_map hN.2.2.1 (fun a ha b hb e => trn_inj h.1 (hN.2.2.2.2 a ha).1 (hN.2.2.2.2 b hb).1 e)) (fun a _ b _ e => mir_inj e)
  · obtain ⟨z, hz, rfl⟩ := List.mem_map.mp hx
    obtain ⟨y, hy, rfl⟩ := List.mem_map.mp hz
    obtain ⟨h1, h2, h3, h4, h5⟩ := hN.2.2.2.2 y hy
    have := trnN_bd h.1 (a := y) (m := 11) (by omega) ⟨h1, by omega, by omega, by omega, by omega⟩ 1 (by omega)
    refine ⟨this.1, ?_⟩
    have := this.2
    simp only [trnN] at this
    simp only [mir]
    omega
  · refine ((nrm_perm.map (trn k)).map mir).trans (List.Perm.of_eq ?_)
    rw [List.map_map, List.map_map, List.map_map, List.map_map]
    apply List.map_congr_left
    intro x hx
    show mir (trn k (sft _ _ (sym k (tur k - 1) x))) = sft v u (sym k (tur k) x)
    rw [huv, mir_sft, e x (h.2.2.2.2 x hx).1]
theorem img_0 (h : Sm k L) : img k L 0 = nrm L := by
  have ht := tur_pos (k := k)
  unfold img
  have : (fun c => sym k 0 c) = id := by
    funext c
    unfold sym
    rw [Nat.zero_mod, if_pos ht.1]
    rfl
  rw [show sym k 0 = id from this, List.map_id]
theorem sym_ok (h : Sm k L) (i : Nat) : ∀ x ∈ L.map (sym k i), ok32 x := fun x hx => by
  obtain ⟨y, hy, rfl⟩ := List.mem_map.mp hx
  have := sym_bd h.1 i (m := 14) (by omega) (h.2.2.2.2 y hy)
  have ht := okT_rng this.1
  exact ⟨by omega, by omega, by omega, by omega, ht.1, ht.2⟩
/-- the normal forms -/
def NF (k : Nat) (X : List Cl) : Prop := Nf k X ∧ Srt X ∧ (∃ x ∈ X, x.1 = 0) ∧ (∃ x ∈ X, x.2.1 = 0) ∧ ∀ x ∈ X, x.1 < X.length ∧ x.2.1 < X.length
theorem nrm_NF (h : Fg k L) : NF k (nrm L) := by
  refine ⟨nrm_Nf h, nrm_srt, (nrm_min h).1, (nrm_min h).2, fun x hx => ?_⟩
  have hN := nrm_Nf h
  obtain ⟨y, hy, e1⟩ := (nrm_min h).1
  obtain ⟨z, hz, e2⟩ := (nrm_min h).2
  have s1 := conn_spread hN.2.1 (fun c => c.1) (fun a b e _ => (adj_q e).1) (fun y hy => (hN.2.2.2.2 y hy).1) hy hx
  have s2 := conn_spread hN.2.1 (fun c => c.2.1) (fun a b e _ => (adj_r e).1) (fun y hy => (hN.2.2.2.2 y hy).1) hz hx
  omega
theorem NF.self (h : NF k L) : nrm L = L := nrm_self h.1 h.2.1 h.2.2.1 h.2.2.2.1
theorem img_NF (h : Sm k L) (i : Nat) : NF k (img k L i) := nrm_NF (fg_sym h i)
theorem NF.first (h : NF k L) (hc : L[0]? = some c) : c.2.1 = 0 := by
  obtain ⟨x, hx, e⟩ := h.2.2.2.1
  obtain ⟨j, hj⟩ := List.mem_iff_getElem?.mp hx
  have hcm := List.mem_of_getElem? hc
  obtain ⟨o1, o2⟩ := h.1.2.2.2.2 c hcm
  obtain ⟨p1, p2⟩ := h.1.2.2.2.2 x hx
  have t1 := okT_rng o1
  have t2 := okT_rng p1
  have hle : cd c ≤ cd x := by
    cases j with
    | zero => rw [hc] at hj; cases hj; exact Int.le_refl _
    | succ j =>
      cases L with
      | nil => simp at hc
      | cons y L =>
        simp at hc
        subst hc
        have hjm : x ∈ L := List.mem_of_getElem? (by simpa using hj)
        exact (List.pairwise_cons.mp h.2.1).1 x hjm
  unfold cd at hle
  omega
theorem NF.kk (h : NF k L) (hl : L.length ≤ 8) : kk L := by
  refine ⟨hl, fun c hc => ?_, fun c hc => ?_⟩
  · obtain ⟨o1, o2⟩ := h.1.2.2.2.2 c hc
    have := h.2.2.2.2 c hc
    have t1 := okT_rng o1
    unfold ky
    omega
  · have h1 := h.first hc
    have hcm := List.mem_of_getElem? hc
    obtain ⟨o1, o2⟩ := h.1.2.2.2.2 c hcm
    have := h.2.2.2.2 c hcm
    have t1 := okT_rng o1
    unfold ky
    omega
theorem NF.inB (h : NF k L) (hl : L.length ≤ 10) : ∀ c ∈ L, inB k c := fun c hc => by
  obtain ⟨o1, o2⟩ := h.1.2.2.2.2 c hc
  have := h.2.2.2.2 c hc
  exact ⟨by omega, by omega, by omega, by omega, o1⟩
end
