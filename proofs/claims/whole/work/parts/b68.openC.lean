/-! the class's window -/
section
variable {N k : Nat} {X : List Cl} {x1 y1 : Int} {M que J : List Int32}
theorem ite_mx {a b : Int} (a1 : -2147483648 ≤ a) (a2 : a < 2147483648) (b1 : -2147483648 ≤ b) (b2 : b < 2147483648) : (if iI a < iI b then iI b else iI a) = iI (if a < b then b else a) := by
  by_cases h : a < b
  · rw [if_pos (iI_ltT h a1 b2), if_pos h]
  · rw [if_neg (iI_ltF h b1 a2), if_neg h]
/-- the greatest q and r -/
def Mx (f : Cl → Int) (X : List Cl) (m : Int) : Prop := (∀ c ∈ X, f c ≤ m) ∧ ∃ c ∈ X, f c = m
theorem openC1 (hN : 1000 ≤ N) (hX : Nf k X) (h9 : ¬ wide X) : OK (f_X9_openWindow_L12 N (X.map cI ++ J) (iI X.length) N 0 0 0) (fun u => ∃ m n : Int, Mx (fun c => c.1) X m ∧ Mx (fun c => c.2.1) X n ∧ 0 ≤ m ∧ m ≤ 9 ∧ 0 ≤ n ∧ n ≤ 9 ∧ u = (iI (m + 3), iI (n + 3))) := by
  have hl := hX.2.2.2.1
  have b9 : ∀ c ∈ X, 0 ≤ c.1 ∧ c.1 ≤ 9 ∧ 0 ≤ c.2.1 ∧ c.2.1 ≤ 9 := fun c hc => by
    obtain ⟨o1, o2, o3, o4, o5⟩ := hX.2.2.2.2 c hc
    have h1 : ¬ 9 < c.1 := fun g => h9 ⟨c, hc, Or.inl g⟩
    have h2 : ¬ 9 < c.2.1 := fun g => h9 ⟨c, hc, Or.inr g⟩
    omega
  refine zlp3 X.length (fun i v a b => v = iI i ∧ ∃ A B : Int, a = iI A ∧ b = iI B ∧ 0 ≤ A ∧ A ≤ 12 ∧ 0 ≤ B ∧ B ≤ 12 ∧ (∀ c ∈ X.take i, c.1 + 3 ≤ A ∧ c.2.1 + 3 ≤ B) ∧ (0 < i → (∃ c ∈ X.take i, c.1 + 3 = A) ∧ ∃ c ∈ X.take i, c.2.1 + 3 = B) ∧ (i = 0 → A = 0 ∧ B = 0)) ?_ N 0 _ _ _ (by omega) (by omega) ⟨rfl, 0, 0, rfl, rfl, by omega, by omega, by omega, by omega, fun c hc => by simp at hc, fun h => by omega, fun _ => ⟨rfl, rfl⟩⟩
  rintro fu i v a b hi ⟨rfl, A, B, rfl, rfl, A1, A2, B1, B2, hle, hex, hz⟩ ih
  rw [f_X9_openWindow_L12]
  rcases Nat.lt_or_ge i X.length with g | g
  · obtain ⟨x, hx⟩ := gL g
    have hxm := List.mem_of_getElem? hx
    have hb := b9 x hxm
    have hg : (X.map cI ++ J)[(i : Int).toNat]? = some (cI x) := by rw [Int.toNat_natCast]; exact rc_get? hx
    rw [if_pos (iI_ltT (by omega) (by omega) (by omega)), qAt_eq (by omega) (by omega) (by omega) hg (hX.ok x hxm), rAt_eq (by omega) (by omega) (by omega) hg (hX.ok x hxm)]
    simp only [Option.bind_some]
    rw [li3, iI_add, iI_add, ite_mx (by omega) (by omega) (by omega) (by omega), ite_mx (by omega) (by omega) (by omega) (by omega), iI_succ]
    refine ih g _ _ _ ⟨rfl, _, _, rfl, rfl, by split <;> omega, by split <;> omega, by split <;> omega, by split <;> omega, fun c hc => ?_, fun _ => ⟨?_, ?_⟩, fun h => by omega⟩
    · rw [tk_next hx] at hc
      rcases List.mem_append.mp hc with hc | hc
      · have := hle c hc
        constructor <;> split <;> omega
      · rw [List.mem_singleton.mp hc]
        constructor <;> split <;> omega
    · rw [tk_next hx]
      by_cases e : A < x.1 + 3
      · exact ⟨x, by simp, by rw [if_pos e]⟩
      · rw [if_neg e]
        by_cases e0 : i = 0
        · have := hz e0; omega
        · obtain ⟨⟨c, hc, e2⟩, _⟩ := hex (by omega)
          exact ⟨c, List.mem_append_left _ hc, e2⟩
    · rw [tk_next hx]
      by_cases e : B < x.2.1 + 3
      · exact ⟨x, by simp, by rw [if_pos e]⟩
      · rw [if_neg e]
        by_cases e0 : i = 0
        · have := hz e0; omega
        · obtain ⟨_, ⟨c, hc, e2⟩⟩ := hex (by omega)
          exact ⟨c, List.mem_append_left _ hc, e2⟩
  · have e0 : i = X.length := by omega
    subst e0
    rw [if_neg (iI_ltF (by omega) (by omega) (by omega)), OK_some]
    rw [List.take_length] at hle hex
    have hpos : 0 < X.length := List.length_pos_iff.mpr hX.2.1.1
    obtain ⟨⟨c, hc, e1⟩, ⟨c', hc', e2⟩⟩ := hex hpos
    have w1 := b9 c hc
    have w2 := b9 c' hc'
    refine ⟨A - 3, B - 3, ⟨fun x hx => ?_, c, hc, ?_⟩, ⟨fun x hx => ?_, c', hc', ?_⟩, by omega, by omega, by omega, by omega, by congr 2 <;> omega⟩
    · have := hle x hx; simp only; omega
    · simp only; omega
    · have := hle x hx; simp only; omega
    · simp only; omega
theorem openC2 (hN : 1000 ≤ N) (hM : M.length = 384) {R : Nat} (hR : R ≤ 12) : OK (f_X9_openWindow_L90 N (iI R) N 0 M) (fun u => u.length = 384 ∧ ∀ p, p < R * 32 → u[p]? = some (iI 0)) := by
  refine zlp2 (R * 32) (fun i v u => v = iI i ∧ u.length = 384 ∧ ∀ p, p < i → u[p]? = some (iI 0)) ?_ N 0 _ _ (by omega) (by omega) ⟨rfl, hM, fun p hp => by omega⟩
  rintro fu i v u hi ⟨rfl, h1, h2⟩ ih
  rw [f_X9_openWindow_L90, iI_shl _ _ 5 (by decide), show (R : Int) * 2 ^ 5 = ((R * 32 : Nat) : Int) by omega]
  rcases Nat.lt_or_ge i (R * 32) with g | g
  · rw [if_pos (iI_ltT (by omega) (by omega) (by omega)), sI (by omega) (by omega)]
    simp only [Option.bind_some]
    rw [iI_succ]
    refine ih g _ _ ⟨rfl, by simp [h1], fun p hp => ?_⟩
    rcases Nat.lt_or_ge p i with g1 | g1
    · exact st1 (h2 p g1) (by omega)
    · rw [show p = i by omega]; exact st0 (by omega)
  · have e0 : i = R * 32 := by omega
    subst e0
    rw [if_neg (iI_ltF (by omega) (by omega) (by omega)), OK_some]
    exact ⟨h1, h2⟩
theorem openC3 (hN : 1000 ≤ N) (hX : Nf k X) (hx : -1 ≤ x1 ∧ x1 ≤ 10) (hy : -1 ≤ y1 ∧ y1 ≤ 10) (hin : ∀ c ∈ X, c.1 ≤ x1 ∧ c.2.1 ≤ y1) (hM : M.length = 384) (h0 : ∀ p, p < (y1 + 2).toNat * 32 → M[p]? = some (iI 0)) : OK (f_X9_openWindow_L115 N (iI (x1 + 2)) (iI (y1 + 2)) (X.map cI ++ J) (iI X.length) N 0 M) (fun u => MK (Wn k (-1) x1 (-1) y1) pI 384 (fun c => if c ∈ X then 1 else 0) u) := by
  have hl := hX.2.2.2.1
  have hix := pI_ix (k := k) hx.2 hy.2
  refine zlp2 X.length (fun i v u => v = iI i ∧ MK (Wn k (-1) x1 (-1) y1) pI 384 (fun c => if c ∈ X.take i then 1 else 0) u) ?_ N 0 _ _ (by omega) (by omega) ⟨rfl, hM, fun c hc => by
    rw [h0 _ (pI_lt hx.2 hc)]
    simp⟩
  rintro fu i v u hi ⟨rfl, h1, h2⟩ ih
  rw [f_X9_openWindow_L115]
  rcases Nat.lt_or_ge i X.length with g | g
  · obtain ⟨x, hxi⟩ := gL g
    have hxm := List.mem_of_getElem? hxi
    obtain ⟨o1, o2, o3, o4, o5⟩ := hX.2.2.2.2 x hxm
    have hxin := hin x hxm
    have hg : (X.map cI ++ J)[(i : Int).toNat]? = some (cI x) := by rw [Int.toNat_natCast]; exact rc_get? hxi
    have hW : Wn k (-1) x1 (-1) y1 x := ⟨by omega, hxin.1, by omega, hxin.2, o1⟩
    have hlt := hix.1 x hW
    rw [if_pos (iI_ltT (by omega) (by omega) (by omega)), qAt_eq (by omega) (by omega) (by omega) hg (hX.ok x hxm), rAt_eq (by omega) (by omega) (by omega) hg (hX.ok x hxm), tAt_eq (by omega) (by omega) (by omega) hg (hX.ok x hxm)]
    simp only [Option.bind_some]
    rw [placeC (by omega) (by omega) (okT_rng o1) hx hy, if_pos ⟨by omega, hxin.1, by omega, hxin.2⟩, show pI (x.1, x.2.1, x.2.2) = pI x from rfl]
    simp only [Option.bind_some]
    rw [li0, if_neg (iI_ltF (by omega) (by omega) (by omega)), sI (by omega) (by omega)]
    simp only [Option.bind_some]
    rw [iI_succ]
    refine ih g _ _ ⟨rfl, by simp [h1], fun c hc => ?_⟩
    rw [tk_next hxi]
    show (u.set (pI x) 1)[pI c]? = some (iI (if c ∈ X.take i ++ [x] then 1 else 0))
    by_cases e : c = x
    · subst e
      rw [if_pos (by simp)]
      exact st0 (by omega)
    · have e2 : pI x ≠ pI c := fun h => e (hix.2 x c hW hc h).symm
      rw [List.getElem?_set_ne e2, h2 c hc]
      have : (c ∈ X.take i ++ [x]) ↔ c ∈ X.take i := by simp [e]
      simp only [this]
  · have e0 : i = X.length := by omega
    subst e0
    rw [if_neg (iI_ltF (by omega) (by omega) (by omega)), OK_some]
    rw [List.take_length] at h2
    exact ⟨h1, h2⟩
theorem openC (hN : 1000 ≤ N) (hX : Nf k X) (h9 : ¬ wide X) (hM : M.length = 384) : OK (f_X9_openWindow N M (X.map cI ++ J) (iI X.length)) (fun u => ∃ m n : Int, Mx (fun c => c.1) X m ∧ Mx (fun c => c.2.1) X n ∧ 0 ≤ m ∧ m ≤ 9 ∧ 0 ≤ n ∧ n ≤ 9 ∧ u.2 = (iI (m + 1 + 2), iI (n + 1 + 2)) ∧ MK (Wn k (-1) (m + 1) (-1) (n + 1)) pI 384 (fun c => if c ∈ X then 1 else 0) u.1) := by
  unfold f_X9_openWindow
  rw [OK_bind]
  refine (openC1 hN hX h9).mono ?_
  rintro _ ⟨m, n, hm, hn, m1, m2, n1, n2, rfl⟩
  simp only
  rw [li12, if_neg (iI_ltF (by omega) (by omega) (by omega)), if_neg (iI_ltF (by omega) (by omega) (by omega)), OK_bind]
  have e1 : iI (n + 3) = iI (((n + 3).toNat : Nat) : Int) := by congr 1; omega
  have o2 := openC2 (N := N) hN hM (R := (n + 3).toNat) (by omega)
  rw [← e1] at o2
  refine o2.mono ?_
  rintro u ⟨hu1, hu2⟩
  rw [OK_bind, show m + 3 = m + 1 + 2 by omega, show n + 3 = n + 1 + 2 by omega]
  refine (openC3 hN hX ⟨by omega, by omega⟩ ⟨by omega, by omega⟩ (fun c hc => ?_) hu1 (fun p hp => hu2 p (by rw [show n + 3 = n + 1 + 2 by omega]; exact hp))).mono (fun w hw => ?_)
  · have h1 := hm.1 c hc
    have h2 := hn.1 c hc
    simp only at h1 h2
    omega
  · rw [OK_some]
    exact ⟨m, n, hm, hn, m1, m2, n1, n2, rfl, hw⟩
end
