/-! the reference's arrays -/
def ky (c : Cl) : Int := 20 * c.2.1 + 2 * c.1 + c.2.2
def MR (L : List Cl) (q r t : List Int32) : Prop := q.length = 16 ∧ r.length = 16 ∧ t.length = 16 ∧ L.length ≤ 16 ∧ ∀ (i : Nat) (c : Cl), L[i]? = some c → q[i]? = some (iI c.1) ∧ r[i]? = some (iI c.2.1) ∧ t[i]? = some (iI c.2.2)
/-- a cell of lattice k with a key -/
def inB (k : Nat) (c : Cl) : Prop := 0 ≤ c.1 ∧ c.1 < 10 ∧ 0 ≤ c.2.1 ∧ c.2.1 < 10 ∧ okT k c.2.2
def DK (k : Nat) (d : List Int32) : Prop := k < 3 ∧ d.length = 14 ∧ d[0]? = some (iI k)
def DR (k : Nat) (L : List Cl) (d : List Int32) : Prop := DK k d ∧ L.length ≤ 12 ∧ d[1]? = some (iI L.length) ∧ ∀ (i : Nat) (c : Cl), L[i]? = some c → d[2 + i]? = some (iI (ky c))
section
variable {N k : Nat} {L : List Cl} {q r t d : List Int32}
theorem MR.gq (h : MR L q r t) {i : Nat} {c : Cl} (hc : L[i]? = some c) : z_get q (iI (i : Int)) = some (iI c.1) := gI (h.2.2.2.2 i c hc).1 (by rw [h.1]; decide)
theorem MR.gr (h : MR L q r t) {i : Nat} {c : Cl} (hc : L[i]? = some c) : z_get r (iI (i : Int)) = some (iI c.2.1) := gI (h.2.2.2.2 i c hc).2.1 (by rw [h.2.1]; decide)
theorem MR.gt (h : MR L q r t) {i : Nat} {c : Cl} (hc : L[i]? = some c) : z_get t (iI (i : Int)) = some (iI c.2.2) := gI (h.2.2.2.2 i c hc).2.2 (by rw [h.2.2.1]; decide)
theorem MR.sq (h : MR L q r t) {i : Nat} {x : Int32} (hi : i < 16) : z_set q (iI (i : Int)) x = some (q.set i x) := sI (by rw [h.1]; exact hi) (by rw [h.1]; decide)
theorem MR.sr (h : MR L q r t) {i : Nat} {x : Int32} (hi : i < 16) : z_set r (iI (i : Int)) x = some (r.set i x) := sI (by rw [h.2.1]; exact hi) (by rw [h.2.1]; decide)
theorem MR.st (h : MR L q r t) {i : Nat} {x : Int32} (hi : i < 16) : z_set t (iI (i : Int)) x = some (t.set i x) := sI (by rw [h.2.2.1]; exact hi) (by rw [h.2.2.1]; decide)
theorem MR.set (h : MR L q r t) {i : Nat} (c : Cl) (hi : i < L.length) : MR (L.set i c) (q.set i (iI c.1)) (r.set i (iI c.2.1)) (t.set i (iI c.2.2)) := by
  obtain ⟨h1, h2, h3, h4, h5⟩ := h
  refine ⟨by simp [h1], by simp [h2], by simp [h3], by simp [h4], fun j x hx => ?_⟩
  by_cases e : i = j
  · subst e
    rw [List.getElem?_set_self hi] at hx
    cases hx
    exact ⟨st0 (by omega), st0 (by omega), st0 (by omega)⟩
  · rw [List.getElem?_set_ne e] at hx
    obtain ⟨a, b, c⟩ := h5 j x hx
    exact ⟨st1 a e, st1 b e, st1 c e⟩
theorem set_same {α : Type} {t : List α} {i : Nat} {x : α} (h : t[i]? = some x) : t.set i x = t := by
  obtain ⟨h1, h2⟩ := List.getElem?_eq_some_iff.mp h
  rw [← h2]
  exact List.set_getElem_self h1
/-- t stays -/
theorem MR.set2 (h : MR L q r t) {i : Nat} (c x : Cl) (hx : L[i]? = some x) (e : c.2.2 = x.2.2) : MR (L.set i c) (q.set i (iI c.1)) (r.set i (iI c.2.1)) t := by
  have := h.set c (List.getElem?_eq_some_iff.mp hx).1
  rw [e, set_same (h.2.2.2.2 i x hx).2.2] at this
  exact this
/-- one more cell -/
theorem MR.push (h : MR L q r t) (c : Cl) (hi : L.length < 16) : MR (L ++ [c]) (q.set L.length (iI c.1)) (r.set L.length (iI c.2.1)) (t.set L.length (iI c.2.2)) := by
  obtain ⟨h1, h2, h3, h4, h5⟩ := h
  refine ⟨by simp [h1], by simp [h2], by simp [h3], by simp; omega, fun j x hx => ?_⟩
  rcases Nat.lt_trichotomy j L.length with e | e | e
  · rw [List.getElem?_append_left e] at hx
    obtain ⟨a, b, c⟩ := h5 j x hx
    exact ⟨st1 a (by omega), st1 b (by omega), st1 c (by omega)⟩
  · subst e
    rw [List.getElem?_append_right (Nat.le_refl _), Nat.sub_self] at hx
    cases hx
    exact ⟨st0 (by omega), st0 (by omega), st0 (by omega)⟩
  · rw [List.getElem?_append_right (by omega)] at hx
    rw [List.getElem?_eq_none (by simp; omega)] at hx
    cases hx
theorem MR.nil (h1 : q.length = 16) (h2 : r.length = 16) (h3 : t.length = 16) : MR [] q r t := ⟨h1, h2, h3, by simp, fun i c h => by simp at h⟩
theorem MR.take (h : MR L q r t) (n : Nat) : MR (L.take n) q r t := by
  obtain ⟨h1, h2, h3, h4, h5⟩ := h
  refine ⟨h1, h2, h3, by simp; omega, fun j x hx => ?_⟩
  rw [List.getElem?_take] at hx
  split at hx
  · exact h5 j x hx
  · cases hx
theorem DK.g (h : DK k d) : z_get d 0 = some (iI k) := by
  have := gI (i := 0) h.2.2 (by rw [h.2.1]; decide)
  exact this
theorem DR.g1 (h : DR k L d) : z_get d 1 = some (iI L.length) := by
  have := gI (i := 1) h.2.2.1 (by rw [h.1.2.1]; decide)
  exact this
theorem DR.g2 (h : DR k L d) {i : Nat} {c : Cl} (hc : L[i]? = some c) : z_get d (iI (2 + (i : Int))) = some (iI (ky c)) := by
  have := gI (i := 2 + i) (h.2.2.2 i c hc) (by rw [h.1.2.1]; decide)
  exact this
theorem mIn (a b c : Int) (ha : -2147483648 ≤ a ∧ a < 2147483648) (hb : -2147483648 ≤ b ∧ b < 2147483648) (hc : -2147483648 ≤ c ∧ c < 2147483648) : f_X12_in N (iI a) (iI b) (iI c) = some (if b ≤ a ∧ a ≤ c then 1 else 0) := by
  unfold f_X12_in
  by_cases h1 : a < b
  · rw [if_pos (iI_ltT h1 (by omega) (by omega)), if_neg (by omega)]
  · rw [if_neg (iI_ltF h1 (by omega) (by omega))]
    by_cases h2 : c < a
    · rw [if_pos (iI_ltT h2 (by omega) (by omega)), if_neg (by omega)]
    · rw [if_neg (iI_ltF h2 (by omega) (by omega)), if_pos (by omega)]
theorem mDir (h : DK k d) : f_X12_directions N d = some (iI (dg k)) := by
  obtain ⟨h1, h2, h3⟩ := h
  unfold f_X12_directions
  rw [DK.g ⟨h1, h2, h3⟩]
  rcases (show k = 0 ∨ k = 1 ∨ k = 2 by omega) with rfl | rfl | rfl <;> rfl
def gre (k : Nat) : Nat := if k = 0 then 7 else if k = 1 then 8 else 6
def tur (k : Nat) : Nat := if k = 0 then 4 else 6
theorem mGre (h : DK k d) : f_X12_greatest N d = some (iI (gre k)) := by
  obtain ⟨h1, h2, h3⟩ := h
  unfold f_X12_greatest
  rw [DK.g ⟨h1, h2, h3⟩]
  rcases (show k = 0 ∨ k = 1 ∨ k = 2 by omega) with rfl | rfl | rfl <;> rfl
theorem mTur (h : DK k d) : f_X12_turnsOf N d = some (iI (tur k)) := by
  obtain ⟨h1, h2, h3⟩ := h
  unfold f_X12_turnsOf
  rw [DK.g ⟨h1, h2, h3⟩]
  rcases (show k = 0 ∨ k = 1 ∨ k = 2 by omega) with rfl | rfl | rfl <;> rfl
theorem mStep {e s : Int} (h : DK k d) (hs : okT k s) (he : 0 ≤ e) (he2 : e < dg k) : f_X12_stepQ N (iI e) (iI s) d = some (iI (gQ k s e)) ∧ f_X12_stepR N (iI e) (iI s) d = some (iI (gR k s e)) := by
  obtain ⟨h1, h2, h3⟩ := h
  unfold f_X12_stepQ f_X12_stepR
  rw [DK.g ⟨h1, h2, h3⟩]
  rcases (show k = 0 ∨ k = 1 ∨ k = 2 by omega) with rfl | rfl | rfl
  · rcases hs with rfl | ⟨h, -⟩
    · rw [show dg 0 = 4 from rfl] at he2
      rcases (show e = 0 ∨ e = 1 ∨ e = 2 ∨ e = 3 by omega) with rfl | rfl | rfl | rfl <;> exact ⟨rfl, rfl⟩
    · omega
  · rw [show dg 1 = 3 from rfl] at he2
    rcases hs with rfl | ⟨-, rfl⟩ <;> rcases (show e = 0 ∨ e = 1 ∨ e = 2 by omega) with rfl | rfl | rfl <;> exact ⟨rfl, rfl⟩
  · rcases hs with rfl | ⟨h, -⟩
    · rw [show dg 2 = 6 from rfl] at he2
      rcases (show e = 0 ∨ e = 1 ∨ e = 2 ∨ e = 3 ∨ e = 4 ∨ e = 5 by omega) with rfl | rfl | rfl | rfl | rfl | rfl <;> exact ⟨rfl, rfl⟩
    · omega
theorem mSide {s : Int} (h : DK k d) (hs : okT k s) : f_X12_sideOf N (iI s) d = some (iI (gT k s)) := by
  obtain ⟨h1, h2, h3⟩ := h
  unfold f_X12_sideOf
  rw [DK.g ⟨h1, h2, h3⟩]
  rcases (show k = 0 ∨ k = 1 ∨ k = 2 by omega) with rfl | rfl | rfl
  · rfl
  · rcases hs with rfl | ⟨-, rfl⟩ <;> rfl
  · rfl
/-- the cell of a key -/
def kc (x : Int) : Cl := (x % 20 / 2, x / 20, x % 2)
theorem kc_ky {c : Cl} (h : inB k c) : kc (ky c) = c := by
  obtain ⟨a, b, e⟩ := c
  obtain ⟨h1, h2, h3, h4, h5⟩ := h
  have ht : e = 0 ∨ e = 1 := by rcases h5 with h | h <;> simp at h <;> omega
  simp only at h1 h2 h3 h4
  simp only [kc, ky, Prod.mk.injEq]
  omega
theorem iI_rem {a b : Int} (ha : 0 ≤ a) (ha2 : a < 2147483648) (hb : 0 < b) (hb2 : b < 2147483648) : iI a - iI a / iI b * iI b = iI (a % b) := by
  rw [iI_div ha ha2 hb hb2, iI_mul, iI_sub]
  congr 1
  rw [Int.emod_def, Int.mul_comm]
theorem mKey {x : Int} {i : Nat} (hx : 0 ≤ x) (hx2 : x < 2147483648) (h1 : q.length = 16) (h2 : r.length = 16) (h3 : t.length = 16) (hi : i < 16) : f_X12_takesKey N (iI i) (iI x) q r t = some (q.set i (iI (kc x).1), r.set i (iI (kc x).2.1), t.set i (iI (kc x).2.2)) := by
  unfold f_X12_takesKey
  rw [li20, li2, iI_rem hx hx2 (by decide) (by decide), iI_rem hx hx2 (by decide) (by decide), iI_div hx hx2 (by decide) (by decide), iI_div (by omega) (by omega) (by decide) (by decide), sI (by omega) (by omega), sI (by omega) (by omega), sI (by omega) (by omega)]
  rfl
theorem MR.congr {A B : List Cl} (h : MR A q r t) (e : A = B) : MR B q r t := e ▸ h
theorem tk_next {i : Nat} {c : Cl} (h : L[i]? = some c) : L.take (i + 1) = L.take i ++ [c] := by
  obtain ⟨h1, h2⟩ := List.getElem?_eq_some_iff.mp h
  rw [List.take_succ_eq_append_getElem h1, h2]
theorem lt_of_get {α : Type} {t : List α} {i : Nat} {x : α} (h : t[i]? = some x) : i < t.length := (List.getElem?_eq_some_iff.mp h).1
theorem ky_rng {c : Cl} (h : inB k c) : 0 ≤ ky c ∧ ky c < 200 := by
  obtain ⟨a, b, e⟩ := c
  obtain ⟨h1, h2, h3, h4, h5⟩ := h
  have ht : e = 0 ∨ e = 1 := by rcases h5 with h | h <;> simp at h <;> omega
  simp only at h1 h2 h3 h4
  simp only [ky]
  omega
/-- the draft comes into the arrays -/
theorem mDraft (hd : DR k L d) (hb : ∀ c ∈ L, inB k c) (hN : L.length < N) (h1 : q.length = 16) (h2 : r.length = 16) (h3 : t.length = 16) : OK (f_X12_takesDraft N d q r t) (fun u => u.1 = iI L.length ∧ MR L u.2.1 u.2.2.1 u.2.2.2) := by
  unfold f_X12_takesDraft
  rw [hd.g1]
  simp only [OK_bind, OK_some, Option.bind_some]
  refine zlp4 L.length (fun i v q r t => v = iI i ∧ MR (L.take i) q r t) ?_ N 0 _ _ _ _ (by omega) (by omega) ⟨rfl, MR.nil h1 h2 h3⟩
  rintro fu i v q r t hi ⟨rfl, hm⟩ ih
  rw [f_X12_takesDraft_L12]
  have hl := hd.2.1
  rcases Nat.lt_or_ge i L.length with h | h
  · obtain ⟨c, hc⟩ := gL h
    rw [if_pos (iI_ltT (by omega) (by omega) (by omega)), li2, iI_add, hd.g2 hc]
    have hcb := hb c (List.mem_of_getElem? hc)
    have hr := ky_rng hcb
    simp only [Option.bind_some]
    rw [mKey (x := ky c) (i := i) (by omega) (by omega) hm.1 hm.2.1 hm.2.2.1 (by omega)]
    simp only [Option.bind_some]
    refine ih h _ _ _ _ ⟨by rw [li1, iI_add]; rfl, ?_⟩
    have hlen : (L.take i).length = i := by simp; omega
    have := hm.push c (by omega)
    rw [hlen] at this
    rw [tk_next hc, kc_ky hcb]
    exact this
  · have e : i = L.length := by omega
    subst e
    rw [if_neg (iI_ltF (by omega) (by omega) (by omega)), OK_some]
    exact ⟨trivial, hm.congr (List.take_length)⟩
end
