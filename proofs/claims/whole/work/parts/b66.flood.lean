/-! windows, floods, holes -/
section
variable {k : Nat} {S Z : Cl → Prop} {a b c u v : Cl} {F : List Cl}
/-- along a free row -/
theorem row_go (hk : k < 3) {x0 x1 y : Int} (hS : ∀ x t, x0 ≤ x → x ≤ x1 → okT k t → S (x, y, t)) (h : Rc k S a (x0, y, 0)) : ∀ (i : Nat), x0 + i ≤ x1 → ∀ t, okT k t → Rc k S a (x0 + i, y, t) := by
  intro i
  induction i with
  | zero =>
    intro hi t ht
    rcases ht with rfl | ⟨rfl, rfl⟩
    · rw [show x0 + ((0 : Nat) : Int) = x0 by omega]; exact h
    · rw [show x0 + ((0 : Nat) : Int) = x0 by omega]
      exact h.step ⟨0, by decide, by simp [nb, gQ, gR, gT]⟩ (hS _ _ (by omega) (by omega) (Or.inr ⟨rfl, rfl⟩))
  | succ i ih =>
    intro hi t ht
    have h0 : Rc k S a (x0 + ((i + 1 : Nat) : Int), y, 0) := by
      rcases (show k = 0 ∨ k = 1 ∨ k = 2 by omega) with rfl | rfl | rfl
      · exact (ih (by omega) 0 (Or.inl rfl)).step ⟨0, by decide, by simp [nb, gQ, gR, gT]; omega⟩ (hS _ _ (by omega) (by omega) (Or.inl rfl))
      · exact (ih (by omega) 1 (Or.inr ⟨rfl, rfl⟩)).step ⟨1, by decide, by simp [nb, gQ, gR, gT]; omega⟩ (hS _ _ (by omega) (by omega) (Or.inl rfl))
      · exact (ih (by omega) 0 (Or.inl rfl)).step ⟨0, by decide, by simp [nb, gQ, gR, gT]; omega⟩ (hS _ _ (by omega) (by omega) (Or.inl rfl))
    rcases ht with rfl | ⟨rfl, rfl⟩
    · exact h0
    · exact h0.step ⟨0, by decide, by simp [nb, gQ, gR, gT]⟩ (hS _ _ (by omega) (by omega) (Or.inr ⟨rfl, rfl⟩))
/-- along a free column -/
theorem col_go (hk : k < 3) {y0 y1 x : Int} (hS : ∀ y t, y0 ≤ y → y ≤ y1 → okT k t → S (x, y, t)) (h : Rc k S a (x, y0, 0)) : ∀ (i : Nat), y0 + i ≤ y1 → ∀ t, okT k t → Rc k S a (x, y0 + i, t) := by
  intro i
  induction i with
  | zero =>
    intro hi t ht
    rcases ht with rfl | ⟨rfl, rfl⟩
    · rw [show y0 + ((0 : Nat) : Int) = y0 by omega]; exact h
    · rw [show y0 + ((0 : Nat) : Int) = y0 by omega]
      exact h.step ⟨0, by decide, by simp [nb, gQ, gR, gT]⟩ (hS _ _ (by omega) (by omega) (Or.inr ⟨rfl, rfl⟩))
  | succ i ih =>
    intro hi t ht
    have h0 : Rc k S a (x, y0 + ((i + 1 : Nat) : Int), 0) := by
      rcases (show k = 0 ∨ k = 1 ∨ k = 2 by omega) with rfl | rfl | rfl
      · exact (ih (by omega) 0 (Or.inl rfl)).step ⟨1, by decide, by simp [nb, gQ, gR, gT]; omega⟩ (hS _ _ (by omega) (by omega) (Or.inl rfl))
      · exact (ih (by omega) 1 (Or.inr ⟨rfl, rfl⟩)).step ⟨2, by decide, by simp [nb, gQ, gR, gT]; omega⟩ (hS _ _ (by omega) (by omega) (Or.inl rfl))
      · exact (ih (by omega) 0 (Or.inl rfl)).step ⟨1, by decide, by simp [nb, gQ, gR, gT]; omega⟩ (hS _ _ (by omega) (by omega) (Or.inl rfl))
    rcases ht with rfl | ⟨rfl, rfl⟩
    · exact h0
    · exact h0.step ⟨0, by decide, by simp [nb, gQ, gR, gT]⟩ (hS _ _ (by omega) (by omega) (Or.inr ⟨rfl, rfl⟩))
/-- a window, and what is free in it -/
def Wn (k : Nat) (x0 x1 y0 y1 : Int) (c : Cl) : Prop := x0 ≤ c.1 ∧ c.1 ≤ x1 ∧ y0 ≤ c.2.1 ∧ c.2.1 ≤ y1 ∧ okT k c.2.2
def Fr (k : Nat) (F : List Cl) (x0 x1 y0 y1 : Int) (c : Cl) : Prop := Wn k x0 x1 y0 y1 c ∧ c ∉ F
/-- the figure lies in the box from 0 to m and from 0 to n -/
def Bxd (F : List Cl) (m n : Int) : Prop := ∀ c ∈ F, 0 ≤ c.1 ∧ c.1 ≤ m ∧ 0 ≤ c.2.1 ∧ c.2.1 ≤ n
theorem rim_go {m n x0 x1 y0 y1 : Int} (hk : k < 3) (hF : Bxd F m n) (h1 : x0 ≤ -1) (h2 : m + 1 ≤ x1) (h3 : y0 ≤ -1) (h4 : n + 1 ≤ y1) (hm : 0 ≤ m) (hn : 0 ≤ n) (hc : Wn k x0 x1 y0 y1 c) (hr : ¬ (0 ≤ c.1 ∧ c.1 ≤ m ∧ 0 ≤ c.2.1 ∧ c.2.1 ≤ n)) : Rc k (Fr k F x0 x1 y0 y1) (x0, y0, 0) c := by
  obtain ⟨x, y, t⟩ := c
  obtain ⟨c1, c2, c3, c4, c5⟩ := hc
  simp only at c1 c2 c3 c4 c5 hr
  have fr : ∀ x y t, x0 ≤ x → x ≤ x1 → y0 ≤ y → y ≤ y1 → okT k t → ¬ (0 ≤ x ∧ x ≤ m ∧ 0 ≤ y ∧ y ≤ n) → Fr k F x0 x1 y0 y1 (x, y, t) := fun x y t a1 a2 a3 a4 a5 a6 => ⟨⟨a1, a2, a3, a4, a5⟩, fun hm => a6 (hF _ hm)⟩
  have st : Rc k (Fr k F x0 x1 y0 y1) (x0, y0, 0) (x0, y0, 0) := Rc.refl
  by_cases g : 0 ≤ y ∧ y ≤ n
  · -- a free column
    have r1 := row_go (S := Fr k F x0 x1 y0 y1) (x0 := x0) (x1 := x1) (y := y0) hk (fun x t a1 a2 a3 => fr x y0 t a1 a2 (by omega) (by omega) a3 (by omega)) st (x - x0).toNat (by omega) 0 (Or.inl rfl)
    rw [show x0 + ((x - x0).toNat : Int) = x by omega] at r1
    have r2 := col_go (S := Fr k F x0 x1 y0 y1) (y0 := y0) (y1 := y1) (x := x) hk (fun y t a1 a2 a3 => fr x y t c1 c2 a1 a2 a3 (by omega)) r1 (y - y0).toNat (by omega) t c5
    rw [show y0 + ((y - y0).toNat : Int) = y by omega] at r2
    exact r2
  · have r1 := col_go (S := Fr k F x0 x1 y0 y1) (y0 := y0) (y1 := y1) (x := x0) hk (fun y t a1 a2 a3 => fr x0 y t (by omega) (by omega) a1 a2 a3 (by omega)) st (y - y0).toNat (by omega) 0 (Or.inl rfl)
    rw [show y0 + ((y - y0).toNat : Int) = y by omega] at r1
    have r2 := row_go (S := Fr k F x0 x1 y0 y1) (x0 := x0) (x1 := x1) (y := y) hk (fun x t a1 a2 a3 => fr x y t a1 a2 c3 c4 a3 (by omega)) r1 (x - x0).toNat (by omega) t c5
    rw [show x0 + ((x - x0).toNat : Int) = x by omega] at r2
    exact r2
/-- what is outside does not depend on the window -/
theorem win_eq {m n x0 x1 y0 y1 X0 X1 Y0 Y1 : Int} (hk : k < 3) (hF : Bxd F m n) (hm : 0 ≤ m) (hn : 0 ≤ n) (h1 : x0 ≤ -1) (h2 : m + 1 ≤ x1) (h3 : y0 ≤ -1) (h4 : n + 1 ≤ y1) (k1 : X0 ≤ x0) (k2 : x1 ≤ X1) (k3 : Y0 ≤ y0) (k4 : y1 ≤ Y1) (hc : Wn k x0 x1 y0 y1 c) : Rc k (Fr k F x0 x1 y0 y1) (x0, y0, 0) c ↔ Rc k (Fr k F X0 X1 Y0 Y1) (X0, Y0, 0) c := by
  constructor
  · intro h
    have hm1 : Rc k (Fr k F X0 X1 Y0 Y1) (x0, y0, 0) c := h.mono (fun y hy => ⟨⟨by have := hy.1.1; omega, by have := hy.1.2.1; omega, by have := hy.1.2.2.1; omega, by have := hy.1.2.2.2.1; omega, hy.1.2.2.2.2⟩, hy.2⟩)
    refine Rc.trans (rim_go hk hF (by omega) (by omega) (by omega) (by omega) hm hn ⟨?_, ?_, ?_, ?_, Or.inl rfl⟩ ?_) hm1
    · show X0 ≤ x0; omega
    · show x0 ≤ X1; omega
    · show Y0 ≤ y0; omega
    · show y0 ≤ Y1; omega
    · show ¬ (0 ≤ x0 ∧ _); omega
  · intro h
    have rim : ∀ v, Wn k x0 x1 y0 y1 v → ¬ (0 ≤ v.1 ∧ v.1 ≤ m ∧ 0 ≤ v.2.1 ∧ v.2.1 ≤ n) → Rc k (Fr k F x0 x1 y0 y1) (x0, y0, 0) v := fun v hv hr => rim_go hk hF h1 h2 h3 h4 hm hn hv hr
    have : okT k c.2.2 ∧ (Wn k x0 x1 y0 y1 c → Rc k (Fr k F x0 x1 y0 y1) (x0, y0, 0) c) := h (fun y => okT k y.2.2 ∧ (Wn k x0 x1 y0 y1 y → Rc k (Fr k F x0 x1 y0 y1) (x0, y0, 0) y)) ⟨Or.inl rfl, fun hw => rim _ hw (by show ¬ (0 ≤ X0 ∧ _); omega)⟩ (fun u v hu e s => ⟨s.1.2.2.2.2, fun hv => by
      by_cases hw : Wn k x0 x1 y0 y1 u
      · exact (hu.2 hw).step e ⟨hv, s.2⟩
      · refine rim v hv (fun hb => hw ?_)
        have a1 := adj_q e
        have a2 := adj_r e
        exact ⟨by omega, by omega, by omega, by omega, hu.1⟩⟩)
    exact this.2 hc
/-! floods -/
def FI (k : Nat) (W : Cl → Prop) (ix : Cl → Nat) (v0 : Cl → Int) (mk : Int) (a : Cl) (n : Nat) (Q : List Cl) (M que : List Int32) : Prop := Q.Nodup ∧ a ∈ Q ∧ (∀ c ∈ Q, W c ∧ v0 c = 0 ∧ Rc k (fun x => W x ∧ v0 x = 0) a c) ∧ M.length = n ∧ que.length = n ∧ (∀ c, W c → M[ix c]? = some (iI (if c ∈ Q then mk else v0 c))) ∧ ∀ (j : Nat) (c : Cl), Q[j]? = some c → que[j]? = some (iI (ix c))
def IX (W : Cl → Prop) (ix : Cl → Nat) (n : Nat) : Prop := (∀ c, W c → ix c < n) ∧ ∀ a b, W a → W b → ix a = ix b → a = b
section
variable {W : Cl → Prop} {ix : Cl → Nat} {v0 : Cl → Int} {mk : Int} {n : Nat} {Q : List Cl} {M que : List Int32}
theorem FI.len (h : FI k W ix v0 mk a n Q M que) (hi : IX W ix n) : Q.length ≤ n := by
  have := nd_len (A := Q.map ix) (B := List.range n) (nd_map h.1 (fun x hx y hy e => hi.2 x y (h.2.2.1 x hx).1 (h.2.2.1 y hy).1 e)) (fun z hz => by
    obtain ⟨y, hy, rfl⟩ := List.mem_map.mp hz
    exact List.mem_range.mpr (hi.1 y (h.2.2.1 y hy).1))
  rw [List.length_map, List.length_range] at this
  exact this
theorem FI.room (h : FI k W ix v0 mk a n Q M que) (hi : IX W ix n) (hv : W v) (hn : v ∉ Q) : Q.length < n := by
  have hW : ∀ x ∈ v :: Q, W x := fun x hx => by
    rcases List.mem_cons.mp hx with rfl | hx
    · exact hv
    · exact (h.2.2.1 x hx).1
  have := nd_len (A := (v :: Q).map ix) (B := List.range n) (nd_map (List.nodup_cons.mpr ⟨hn, h.1⟩) (fun x hx y hy e => hi.2 x y (hW x hx) (hW y hy) e)) (fun z hz => by
    obtain ⟨y, hy, rfl⟩ := List.mem_map.mp hz
    exact List.mem_range.mpr (hi.1 y (hW y hy)))
  rw [List.length_map, List.length_range, List.length_cons] at this
  omega
theorem FI.push (h : FI k W ix v0 mk a n Q M que) (hi : IX W ix n) (hv : W v) (hv0 : v0 v = 0) (hn : v ∉ Q) (hu : u ∈ Q) (e : adj k u v) : FI k W ix v0 mk a n (Q ++ [v]) (M.set (ix v) (iI mk)) (que.set Q.length (iI (ix v))) := by
  have hr := h.room hi hv hn
  obtain ⟨h1, h2, h3, h4, h5, h6, h7⟩ := h
  refine ⟨?_, List.mem_append_left _ h2, fun c hc => ?_, by simp [h4], by simp [h5], fun c hc => ?_, fun j c hj => ?_⟩
  · rw [List.nodup_append]
    refine ⟨h1, by simp, fun x hx y hy => ?_⟩
    rw [List.mem_singleton.mp hy]
    intro e; rw [e] at hx; exact hn hx
  · rcases List.mem_append.mp hc with hc | hc
    · exact h3 c hc
    · rw [List.mem_singleton.mp hc]
      exact ⟨hv, hv0, (h3 u hu).2.2.step e ⟨hv, hv0⟩⟩
  · by_cases g : c = v
    · subst g
      rw [if_pos (by simp)]
      exact st0 (by rw [h4]; exact hi.1 c hc)
    · have g2 : ix v ≠ ix c := fun e => g (hi.2 v c hv hc e).symm
      rw [List.getElem?_set_ne g2, h6 c hc]
      have : (c ∈ Q ++ [v]) ↔ c ∈ Q := by simp [g]
      simp only [this]
  · rcases Nat.lt_or_ge j Q.length with g | g
    · rw [List.getElem?_append_left g] at hj
      exact st1 (h7 j c hj) (by omega)
    · have := lt_of_get hj
      rw [List.length_append, List.length_singleton] at this
      have e : j = Q.length := by omega
      subst e
      rw [List.getElem?_append_right (Nat.le_refl _), Nat.sub_self] at hj
      cases hj
      exact st0 (by omega)
theorem FI.start (hi : IX W ix n) (ha : W a) (ha0 : v0 a = 0) (hM : M.length = n) (hq : que.length = n) (hv : ∀ c, W c → M[ix c]? = some (iI (v0 c))) : FI k W ix v0 mk a n [a] (M.set (ix a) (iI mk)) (que.set 0 (iI (ix a))) := by
  have hlt := hi.1 a ha
  refine ⟨by simp, by simp, fun c hc => ?_, by simp [hM], by simp [hq], fun c hc => ?_, fun j c hj => ?_⟩
  · rw [List.mem_singleton.mp hc]
    exact ⟨ha, ha0, Rc.refl⟩
  · by_cases g : c = a
    · subst g
      rw [if_pos (by simp)]
      exact st0 (by omega)
    · have g2 : ix a ≠ ix c := fun e => g (hi.2 a c ha hc e).symm
      rw [List.getElem?_set_ne g2, hv c hc, if_neg (by simp [g])]
  · have := lt_of_get hj
    have e : j = 0 := by simp at this; exact this
    subst e
    cases hj
    exact st0 (by omega)
theorem FI.done (h : FI k W ix v0 mk a n Q M que) (hs : ∀ u ∈ Q, ∀ v, adj k u v → W v → v0 v = 0 → v ∈ Q) (c : Cl) : c ∈ Q ↔ Rc k (fun x => W x ∧ v0 x = 0) a c :=
  ⟨fun hc => (h.2.2.1 c hc).2.2, fun hc => hc (fun x => x ∈ Q) h.2.1 (fun u v hu e s => hs u hu v e s.1 s.2)⟩
end
/-! holes: their first cells, and all their cells -/
def HI (k : Nat) (Z : Cl → Prop) (Rp All : List Cl) : Prop := Rp.Nodup ∧ All.Nodup ∧ (∀ r ∈ Rp, Z r) ∧ (∀ r ∈ Rp, ∀ r' ∈ Rp, Rc k Z r r' → r = r') ∧ ∀ c, c ∈ All ↔ ∃ r ∈ Rp, Rc k Z r c
theorem HI.nil : HI k Z [] [] := ⟨List.nodup_nil, List.nodup_nil, fun r h => by simp at h, fun r h => by simp at h, fun c => by simp⟩
theorem HI.sub {Rp All : List Cl} (h : HI k Z Rp All) (hc : c ∈ All) : Z c := by
  obtain ⟨r, hr, e⟩ := (h.2.2.2.2 c).mp hc
  exact e.inS (h.2.2.1 r hr)
theorem HI.step {Rp All Q : List Cl} (hk : k < 3) (hZ : ∀ y, Z y → okT k y.2.2) (h : HI k Z Rp All) (ha : Z a) (hna : a ∉ All) (hQ : Q.Nodup) (hQm : ∀ c, c ∈ Q ↔ Rc k (fun x => Z x ∧ x ∉ All) a c) : HI k Z (Rp ++ [a]) (All ++ Q) := by
  have back : ∀ c, c ∈ All → ¬ Rc k Z a c := fun c hc hr => by
    obtain ⟨r, hr1, hr2⟩ := (h.2.2.2.2 c).mp hc
    exact hna ((h.2.2.2.2 a).mpr ⟨r, hr1, hr2.trans (hr.symm hk hZ ha)⟩)
  have key : ∀ c, c ∈ Q ↔ Rc k Z a c := fun c => by
    rw [hQm]
    refine ⟨fun hr => hr.mono (fun y hy => hy.1), fun hr => ?_⟩
    have : Rc k Z a c ∧ Rc k (fun x => Z x ∧ x ∉ All) a c := hr (fun x => Rc k Z a x ∧ Rc k (fun x => Z x ∧ x ∉ All) a x) ⟨Rc.refl, Rc.refl⟩ (fun u v hu e s => by
      have h1 := hu.1.step e s
      exact ⟨h1, hu.2.step e ⟨s, fun hv => back v hv h1⟩⟩)
    exact this.2
  obtain ⟨h1, h2, h3, h4, h5⟩ := h
  refine ⟨?_, ?_, fun r hr => ?_, fun r hr r' hr' e => ?_, fun c => ?_⟩
  · rw [List.nodup_append]
    refine ⟨h1, by simp, fun x hx y hy => ?_⟩
    rw [List.mem_singleton.mp hy]
    intro e
    rw [e] at hx
    exact hna ((h5 a).mpr ⟨a, hx, Rc.refl⟩)
  · rw [List.nodup_append]
    refine ⟨h2, hQ, fun x hx y hy e => ?_⟩
    rw [e] at hx
    exact back y hx ((key y).mp hy)
  · rcases List.mem_append.mp hr with hr | hr
    · exact h3 r hr
    · rw [List.mem_singleton.mp hr]; exact ha
  · rcases List.mem_append.mp hr with hr | hr <;> rcases List.mem_append.mp hr' with hr' | hr'
    · exact h4 r hr r' hr' e
    · rw [List.mem_singleton.mp hr'] at e
      exact absurd ((h5 a).mpr ⟨r, hr, e⟩) hna
    · rw [List.mem_singleton.mp hr] at e
      exact absurd ((h5 a).mpr ⟨r', hr', e.symm hk hZ ha⟩) hna
    · rw [List.mem_singleton.mp hr, List.mem_singleton.mp hr']
  · rw [List.mem_append, h5, key]
    constructor
    · rintro (⟨r, hr, e⟩ | e)
      · exact ⟨r, List.mem_append_left _ hr, e⟩
      · exact ⟨a, by simp, e⟩
    · rintro ⟨r, hr, e⟩
      rcases List.mem_append.mp hr with hr | hr
      · exact Or.inl ⟨r, hr, e⟩
      · rw [List.mem_singleton.mp hr] at e
        exact Or.inr e
/-- as many holes, if the cells correspond -/
theorem HI.le {Z' : Cl → Prop} {Rp All Rp' All' : List Cl} {g : Cl → Cl} (hk : k < 3) (hZ : ∀ y, Z' y → okT k y.2.2) (h : HI k Z Rp All) (h' : HI k Z' Rp' All') (hall : ∀ c, Z' c → c ∈ All') (hg : ∀ c, Z c → Z' (g c)) (hr : ∀ r r', Z r → Z r' → Rc k Z' (g r) (g r') → Rc k Z r r') : Rp.length ≤ Rp'.length := by
  have ex : ∀ r, r ∈ Rp → ∃ r', r' ∈ Rp' ∧ Rc k Z' r' (g r) := fun r hr1 => by
    obtain ⟨r', h1, h2⟩ := (h'.2.2.2.2 (g r)).mp (hall _ (hg r (h.2.2.1 r hr1)))
    exact ⟨r', h1, h2⟩
  let f : Cl → Cl := fun r => if hx : r ∈ Rp then Classical.choose (ex r hx) else r
  have hf : ∀ r (hx : r ∈ Rp), f r ∈ Rp' ∧ Rc k Z' (f r) (g r) := fun r hx => by
    have e : f r = Classical.choose (ex r hx) := dif_pos hx
    rw [e]
    exact Classical.choose_spec (ex r hx)
  have := nd_len (A := Rp.map f) (B := Rp') (nd_map h.1 (fun x hx y hy e => ?_)) (fun z hz => ?_)
  · rw [List.length_map] at this
    exact this
  · obtain ⟨a1, a2⟩ := hf x hx
    obtain ⟨b1, b2⟩ := hf y hy
    rw [← e] at b2
    exact h.2.2.2.1 x hx y hy (hr x y (h.2.2.1 x hx) (h.2.2.1 y hy) ((a2.symm hk hZ (h'.2.2.1 _ a1)).trans b2))
  · obtain ⟨y, hy, rfl⟩ := List.mem_map.mp hz
    exact (hf y hy).1
end
