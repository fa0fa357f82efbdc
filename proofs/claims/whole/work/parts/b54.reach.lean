/-! neighbours and what can be reached -/
theorem nd_len {α : Type} [DecidableEq α] : ∀ {A B : List α}, A.Nodup → (∀ x ∈ A, x ∈ B) → A.length ≤ B.length
  | [], _, _, _ => Nat.zero_le _
  | a :: A, B, hn, hs => by
    obtain ⟨h1, h2⟩ := List.nodup_cons.mp hn
    have hb := hs a List.mem_cons_self
    have := nd_len (A := A) (B := B.erase a) h2 (fun x hx => by
      have hne : x ≠ a := fun e => h1 (by rw [← e]; exact hx)
      exact (List.mem_erase_of_ne hne).mpr (hs x (List.mem_cons_of_mem _ hx)))
    rw [List.length_erase_of_mem hb] at this
    have hp : 0 < B.length := List.length_pos_of_mem hb
    rw [List.length_cons]
    omega
theorem nd_eq {α : Type} [DecidableEq α] {A B : List α} (hA : A.Nodup) (hB : B.Nodup) (h : ∀ x, x ∈ A ↔ x ∈ B) : A.length = B.length :=
  Nat.le_antisymm (nd_len hA (fun x hx => (h x).mp hx)) (nd_len hB (fun x hx => (h x).mpr hx))
/-- so many different numbers below n: all of them -/
theorem nd_all {D : List Nat} {n : Nat} (hD : D.Nodup) (hs : ∀ j ∈ D, j < n) (hl : D.length = n) : ∀ j, j < n → j ∈ D := by
  intro j hj
  by_cases h : j ∈ D
  · exact h
  · have := nd_len (A := j :: D) (B := List.range n) (List.nodup_cons.mpr ⟨h, hD⟩) (fun x hx => by
      rcases List.mem_cons.mp hx with rfl | hx
      · exact List.mem_range.mpr hj
      · exact List.mem_range.mpr (hs x hx))
    rw [List.length_cons, List.length_range] at this
    omega
def adj (k : Nat) (a b : Cl) : Prop := ∃ d : Nat, d < dg k ∧ nb k a d = b
def Rc (k : Nat) (S : Cl → Prop) (a x : Cl) : Prop := ∀ P : Cl → Prop, P a → (∀ u v, P u → adj k u v → S v → P v) → P x
section
variable {k : Nat} {S S' : Cl → Prop} {a b c u v x : Cl} {L M : List Cl}
theorem Rc.refl : Rc k S a a := fun _ h _ => h
theorem Rc.step (h : Rc k S a u) (e : adj k u v) (s : S v) : Rc k S a v := fun P p c => c u v (h P p c) e s
theorem Rc.trans (h : Rc k S a b) (g : Rc k S b c) : Rc k S a c := g (Rc k S a) h (fun _ _ hu e s => hu.step e s)
theorem Rc.inS (h : Rc k S a x) (ha : S a) : S x := h S ha (fun _ _ _ _ s => s)
theorem Rc.mono (h : Rc k S a x) (hs : ∀ y, S y → S' y) : Rc k S' a x := h (Rc k S' a) Rc.refl (fun _ v hu e s => hu.step e (hs v s))
theorem okT_nb {d : Int} (h : okT k a.2.2) : okT k (nb k a d).2.2 := gT_ok h
theorem okT_adj (h : adj k a b) (ha : okT k a.2.2) : okT k b.2.2 := by
  obtain ⟨d, _, rfl⟩ := h
  exact okT_nb ha
theorem adj_mk {d : Nat} (hd : d < dg k) (h : nb k a d = b) : adj k a b := ⟨d, hd, h⟩
theorem nb_eq {q r t : Int} {d : Int} {q' r' t' : Int} (h1 : q + gQ k t d = q') (h2 : r + gR k t d = r') (h3 : gT k t = t') : nb k (q, r, t) d = (q', r', t') := by
  show (q + gQ k t d, r + gR k t d, gT k t) = _
  rw [h1, h2, h3]
theorem dg_cases {k d : Nat} (hk : k < 3) (hd : d < dg k) : (k = 0 ∧ (d = 0 ∨ d = 1 ∨ d = 2 ∨ d = 3)) ∨ (k = 1 ∧ (d = 0 ∨ d = 1 ∨ d = 2)) ∨ (k = 2 ∧ (d = 0 ∨ d = 1 ∨ d = 2 ∨ d = 3 ∨ d = 4 ∨ d = 5)) := by
  rcases (show k = 0 ∨ k = 1 ∨ k = 2 by omega) with rfl | rfl | rfl
  · rw [show dg 0 = 4 from rfl] at hd; omega
  · rw [show dg 1 = 3 from rfl] at hd; omega
  · rw [show dg 2 = 6 from rfl] at hd; omega
/-- a map of the cells that keeps neighbours: looked up direction by direction -/
theorem adj_map {g : Cl → Cl} (hk : k < 3) (e : Nat → Int → Nat) (he : ∀ d t, d < dg k → okT k t → e d t < dg k ∧ ∀ q r : Int, g (nb k (q, r, t) d) = nb k (g (q, r, t)) (e d t)) (ha : okT k a.2.2) (h : adj k a b) : adj k (g a) (g b) := by
  obtain ⟨d, hd, rfl⟩ := h
  obtain ⟨q, r, t⟩ := a
  obtain ⟨h1, h2⟩ := he d t hd ha
  exact ⟨e d t, h1, (h2 q r).symm⟩
theorem adj_symm (hk : k < 3) (ha : okT k a.2.2) (h : adj k a b) : adj k b a := by
  obtain ⟨d, hd, rfl⟩ := h
  obtain ⟨q, r, t⟩ := a
  rcases dg_cases hk hd with ⟨rfl, h⟩ | ⟨rfl, h⟩ | ⟨rfl, h⟩
  · have ht : t = 0 := by rcases ha with h | h <;> simp at h <;> omega
    subst ht
    rcases h with rfl | rfl | rfl | rfl
    · exact ⟨2, by decide, by simp [nb, gQ, gR, gT]; omega⟩
    · exact ⟨3, by decide, by simp [nb, gQ, gR, gT]; omega⟩
    · exact ⟨0, by decide, by simp [nb, gQ, gR, gT]; omega⟩
    · exact ⟨1, by decide, by simp [nb, gQ, gR, gT]; omega⟩
  · have ht : t = 0 ∨ t = 1 := by rcases ha with h | h <;> simp at h <;> omega
    rcases ht with rfl | rfl <;> rcases h with rfl | rfl | rfl
    · exact ⟨0, by decide, by simp [nb, gQ, gR, gT]⟩
    · exact ⟨1, by decide, by simp [nb, gQ, gR, gT]; omega⟩
    · exact ⟨2, by decide, by simp [nb, gQ, gR, gT]; omega⟩
    · exact ⟨0, by decide, by simp [nb, gQ, gR, gT]⟩
    · exact ⟨1, by decide, by simp [nb, gQ, gR, gT]; omega⟩
    · exact ⟨2, by decide, by simp [nb, gQ, gR, gT]; omega⟩
  · have ht : t = 0 := by rcases ha with h | h <;> simp at h <;> omega
    subst ht
    rcases h with rfl | rfl | rfl | rfl | rfl | rfl
    · exact ⟨3, by decide, by simp [nb, gQ, gR, gT]; omega⟩
    · exact ⟨4, by decide, by simp [nb, gQ, gR, gT]; omega⟩
    · exact ⟨5, by decide, by simp [nb, gQ, gR, gT]; omega⟩
    · exact ⟨0, by decide, by simp [nb, gQ, gR, gT]; omega⟩
    · exact ⟨1, by decide, by simp [nb, gQ, gR, gT]; omega⟩
    · exact ⟨2, by decide, by simp [nb, gQ, gR, gT]; omega⟩
theorem adj_sft (x y : Int) (h : adj k a b) : adj k (sft x y a) (sft x y b) := by
  obtain ⟨d, hd, rfl⟩ := h
  refine ⟨d, hd, ?_⟩
  simp only [nb, sft, Prod.mk.injEq]
  exact ⟨by omega, by omega, trivial⟩
theorem adj_mir (hk : k < 3) (ha : okT k a.2.2) (h : adj k a b) : adj k (mir a) (mir b) := by
  obtain ⟨d, hd, rfl⟩ := h
  obtain ⟨q, r, t⟩ := a
  rcases dg_cases hk hd with ⟨rfl, h⟩ | ⟨rfl, h⟩ | ⟨rfl, h⟩
  · rcases h with rfl | rfl | rfl | rfl
    · exact ⟨1, by decide, by simp [mir, nb, gQ, gR, gT]⟩
    · exact ⟨0, by decide, by simp [mir, nb, gQ, gR, gT]⟩
    · exact ⟨3, by decide, by simp [mir, nb, gQ, gR, gT]⟩
    · exact ⟨2, by decide, by simp [mir, nb, gQ, gR, gT]⟩
  · have ht : t = 0 ∨ t = 1 := by rcases ha with h | h <;> simp at h <;> omega
    rcases ht with rfl | rfl <;> rcases h with rfl | rfl | rfl
    · exact ⟨0, by decide, by simp [mir, nb, gQ, gR, gT]⟩
    · exact ⟨2, by decide, by simp [mir, nb, gQ, gR, gT]⟩
    · exact ⟨1, by decide, by simp [mir, nb, gQ, gR, gT]⟩
    · exact ⟨0, by decide, by simp [mir, nb, gQ, gR, gT]⟩
    · exact ⟨2, by decide, by simp [mir, nb, gQ, gR, gT]⟩
    · exact ⟨1, by decide, by simp [mir, nb, gQ, gR, gT]⟩
  · rcases h with rfl | rfl | rfl | rfl | rfl | rfl
    · exact ⟨1, by decide, by simp [mir, nb, gQ, gR, gT]⟩
    · exact ⟨0, by decide, by simp [mir, nb, gQ, gR, gT]⟩
    · exact ⟨5, by decide, by simp [mir, nb, gQ, gR, gT]⟩
    · exact ⟨4, by decide, by simp [mir, nb, gQ, gR, gT]⟩
    · exact ⟨3, by decide, by simp [mir, nb, gQ, gR, gT]⟩
    · exact ⟨2, by decide, by simp [mir, nb, gQ, gR, gT]⟩
theorem adj_trn (hk : k < 3) (ha : okT k a.2.2) (h : adj k a b) : adj k (trn k a) (trn k b) := by
  obtain ⟨d, hd, rfl⟩ := h
  obtain ⟨q, r, t⟩ := a
  rcases dg_cases hk hd with ⟨rfl, h⟩ | ⟨rfl, h⟩ | ⟨rfl, h⟩
  · rcases h with rfl | rfl | rfl | rfl
    · exact ⟨1, by decide, by simp [trn, nb, gQ, gR, gT]⟩
    · exact ⟨2, by decide, by simp [trn, nb, gQ, gR, gT]; omega⟩
    · exact ⟨3, by decide, by simp [trn, nb, gQ, gR, gT]⟩
    · exact ⟨0, by decide, by simp [trn, nb, gQ, gR, gT]; omega⟩
  · have ht : t = 0 ∨ t = 1 := by rcases ha with h | h <;> simp at h <;> omega
    rcases ht with rfl | rfl <;> rcases h with rfl | rfl | rfl
    · exact ⟨2, by decide, by simp [trn, nb, gQ, gR, gT]⟩
    · exact ⟨0, by decide, by simp [trn, nb, gQ, gR, gT]; omega⟩
    · exact ⟨1, by decide, by simp [trn, nb, gQ, gR, gT]; omega⟩
    · exact ⟨2, by decide, by simp [trn, nb, gQ, gR, gT]; omega⟩
    · exact ⟨0, by decide, by simp [trn, nb, gQ, gR, gT]; omega⟩
    · exact ⟨1, by decide, by simp [trn, nb, gQ, gR, gT]; omega⟩
  · rcases h with rfl | rfl | rfl | rfl | rfl | rfl
    · exact ⟨1, by decide, by simp [trn, nb, gQ, gR, gT]; omega⟩
    · exact ⟨2, by decide, by simp [trn, nb, gQ, gR, gT]; omega⟩
    · exact ⟨3, by decide, by simp [trn, nb, gQ, gR, gT]; omega⟩
    · exact ⟨4, by decide, by simp [trn, nb, gQ, gR, gT]; omega⟩
    · exact ⟨5, by decide, by simp [trn, nb, gQ, gR, gT]; omega⟩
    · exact ⟨0, by decide, by simp [trn, nb, gQ, gR, gT]; omega⟩
theorem Rc.symm (hk : k < 3) (hS : ∀ y, S y → okT k y.2.2) (ha : S a) (h : Rc k S a b) : Rc k S b a := by
  have : S b ∧ Rc k S b a := h (fun x => S x ∧ Rc k S x a) ⟨ha, Rc.refl⟩ (fun u v hu e s => ⟨s, (Rc.refl.step (adj_symm hk (hS u hu.1) e) hu.1).trans hu.2⟩)
  exact this.2
/-- a connected set -/
def Conn (k : Nat) (L : List Cl) : Prop := L ≠ [] ∧ ∀ a ∈ L, ∀ x ∈ L, Rc k (fun y => y ∈ L) a x
theorem conn_head (hk : k < 3) (hT : ∀ y ∈ L, okT k y.2.2) (ha : L[0]? = some a) (h : ∀ x ∈ L, Rc k (fun y => y ∈ L) a x) : Conn k L := by
  have ham := List.mem_of_getElem? ha
  refine ⟨fun e => by rw [e] at ha; simp at ha, fun b hb x hx => ?_⟩
  exact (Rc.symm hk hT ham (h b hb)).trans (h x hx)
theorem conn_mem (h : ∀ x, x ∈ L ↔ x ∈ M) (hc : Conn k L) : Conn k M := by
  refine ⟨fun e => ?_, fun a ha x hx => ?_⟩
  · obtain ⟨y, ys, e2⟩ := List.exists_cons_of_ne_nil hc.1
    have := (h y).mp (by rw [e2]; simp)
    rw [e] at this
    simp at this
  · exact (hc.2 a ((h a).mpr ha) x ((h x).mpr hx)).mono (fun y hy => (h y).mp hy)
theorem conn_perm (h : L.Perm M) : Conn k L ↔ Conn k M := ⟨conn_mem (fun _ => h.mem_iff), conn_mem (fun _ => h.symm.mem_iff)⟩
theorem conn_map {g : Cl → Cl} (hg : ∀ a b, a ∈ L → b ∈ L → adj k a b → adj k (g a) (g b)) (hc : Conn k L) : Conn k (L.map g) := by
  refine ⟨fun e => hc.1 (List.map_eq_nil_iff.mp e), fun a ha x hx => ?_⟩
  obtain ⟨a, ha', rfl⟩ := List.mem_map.mp ha
  obtain ⟨x, hx', rfl⟩ := List.mem_map.mp hx
  have : x ∈ L ∧ Rc k (fun y => y ∈ L.map g) (g a) (g x) := hc.2 a ha' x hx' (fun y => y ∈ L ∧ Rc k (fun y => y ∈ L.map g) (g a) (g y)) ⟨ha', Rc.refl⟩ (fun u v hu e s => ⟨s, hu.2.step (hg u v hu.1 s e) (List.mem_map_of_mem s)⟩)
  exact this.2
theorem conn_sft (x y : Int) (hc : Conn k L) : Conn k (L.map (sft x y)) := conn_map (fun _ _ _ _ h => adj_sft x y h) hc
theorem sft_sft (x y z w : Int) (c : Cl) : sft x y (sft z w c) = sft (x + z) (y + w) c := by
  simp only [sft, Prod.mk.injEq]
  exact ⟨by omega, by omega, trivial⟩
theorem sft_0 (c : Cl) : sft 0 0 c = c := by
  simp only [sft, Int.sub_zero]
/-- a number that changes by at most 1 between neighbours is spread over fewer than n values -/
theorem conn_spread (hc : Conn k L) (f : Cl → Int) (hf : ∀ a b, adj k a b → okT k a.2.2 → f b ≤ f a + 1) (hT : ∀ y ∈ L, okT k y.2.2) (ha : a ∈ L) (hb : b ∈ L) : f b - f a < L.length := by
  apply Classical.byContradiction
  intro hn
  have hn' : f a + L.length ≤ f b := by omega
  have : ∃ w, f a < w ∧ w < f b ∧ ∀ x ∈ L, f x ≠ w := by
    apply Classical.byContradiction
    intro hno
    have hall : ∀ j, j < L.length + 1 → ∃ x ∈ L, f x = f a + j := by
      intro j hj
      by_cases e0 : (j : Int) = 0
      · exact ⟨a, ha, by omega⟩
      · by_cases e1 : f a + j = f b
        · exact ⟨b, hb, e1.symm⟩
        · apply Classical.byContradiction
          intro hx
          exact hno ⟨f a + j, by omega, by omega, fun x hm he => hx ⟨x, hm, he⟩⟩
    have := nd_len (A := (List.range (L.length + 1)).map (fun j : Nat => f a + (j : Int))) (B := L.map f) (by
      rw [List.nodup_iff_pairwise_ne, List.pairwise_map]
      refine List.Pairwise.imp ?_ (List.nodup_iff_pairwise_ne.mp List.nodup_range)
      intro x y hxy e
      exact hxy (by omega)) (fun z hz => by
      obtain ⟨j, hj, rfl⟩ := List.mem_map.mp hz
      obtain ⟨x, hx, e⟩ := hall j (List.mem_range.mp hj)
      exact List.mem_map.mpr ⟨x, hx, e⟩)
    rw [List.length_map, List.length_map, List.length_range] at this
    omega
  obtain ⟨w, w1, w2, w3⟩ := this
  have : okT k b.2.2 ∧ f b < w := hc.2 a ha b hb (fun x => okT k x.2.2 ∧ f x < w) ⟨hT a ha, w1⟩ (fun u v hu e s => ⟨hT v s, by
    have h1 := hf u v e hu.1
    have h2 := w3 v s
    have h3 := hu.2
    omega⟩)
  omega
theorem adj_q (h : adj k a b) : b.1 ≤ a.1 + 1 ∧ a.1 ≤ b.1 + 1 := by
  obtain ⟨d, _, rfl⟩ := h
  have := gQ_rng k a.2.2 d
  simp only [nb]
  omega
theorem adj_r (h : adj k a b) : b.2.1 ≤ a.2.1 + 1 ∧ a.2.1 ≤ b.2.1 + 1 := by
  obtain ⟨d, _, rfl⟩ := h
  have := gR_rng k a.2.2 d
  simp only [nb]
  omega
end
