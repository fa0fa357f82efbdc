/-! the order of lists of cells -/
def lxg (f : Cl → Int) : List Cl → List Cl → Int
  | a :: A, b :: B => if f a - f b = 0 then lxg f A B else f a - f b
  | _, _ => 0
theorem lxg_at {f : Cl → Int} : ∀ (i : Nat) {A B : List Cl} {a b : Cl}, A[i]? = some a → B[i]? = some b → (∀ m, m < i → A[m]? = B[m]?) → f a - f b ≠ 0 → lxg f A B = f a - f b
  | 0, [], _, _, _, h, _, _, _ => by simp at h
  | 0, _ :: _, [], _, _, _, h, _, _ => by simp at h
  | 0, x :: A, y :: B, a, b, h1, h2, _, h4 => by
    simp at h1 h2
    subst h1 h2
    rw [lxg, if_neg h4]
  | i + 1, [], _, _, _, h, _, _, _ => by simp at h
  | i + 1, _ :: _, [], _, _, _, h, _, _ => by simp at h
  | i + 1, x :: A, y :: B, a, b, h1, h2, h3, h4 => by
    have e := h3 0 (by omega)
    simp at e
    subst e
    rw [lxg, if_pos (by omega)]
    exact lxg_at i (by simpa using h1) (by simpa using h2) (fun m hm => by have := h3 (m + 1) (by omega); simpa using this) h4
theorem lxg_self {f : Cl → Int} : ∀ (A : List Cl), lxg f A A = 0
  | [] => rfl
  | a :: A => by rw [lxg, if_pos (by omega)]; exact lxg_self A
/-- two orders with the same comparisons -/
theorem lxg_sgn {f g : Cl → Int} {R : Cl → Prop} (hR : ∀ a b, R a → R b → ((f a < f b) = (g a < g b))) : ∀ {A B : List Cl}, (∀ a ∈ A, R a) → (∀ b ∈ B, R b) → ((lxg f A B < 0) = (lxg g A B < 0)) ∧ ((lxg f A B = 0) = (lxg g A B = 0))
  | [], _, _, _ => by simp [lxg]
  | _ :: _, [], _, _ => by simp [lxg]
  | a :: A, b :: B, hA, hB => by
    have h1 := hR a b (hA a (by simp)) (hB b (by simp))
    have h2 := hR b a (hB b (by simp)) (hA a (by simp))
    have ih := lxg_sgn hR (A := A) (B := B) (fun x hx => hA x (by simp [hx])) (fun x hx => hB x (by simp [hx]))
    rw [lxg, lxg]
    by_cases e : f a - f b = 0
    · have e' : g a - g b = 0 := by
        have n1 : ¬ g a < g b := by rw [← h1]; omega
        have n2 : ¬ g b < g a := by rw [← h2]; omega
        omega
      rw [if_pos e, if_pos e']
      exact ih
    · have e' : ¬ g a - g b = 0 := by
        intro e'
        have n1 : ¬ f a < f b := by rw [h1]; omega
        have n2 : ¬ f b < f a := by rw [h2]; omega
        omega
      rw [if_neg e, if_neg e']
      constructor
      · have : (f a - f b < 0) = (f a < f b) := propext ⟨fun h => by omega, fun h => by omega⟩
        rw [this, h1]
        exact propext ⟨fun h => by omega, fun h => by omega⟩
      · exact propext ⟨fun h => absurd h e, fun h => absurd h e'⟩
theorem lxg_eq {f : Cl → Int} {R : Cl → Prop} (hf : ∀ a b, R a → R b → f a = f b → a = b) : ∀ {A B : List Cl}, A.length = B.length → (∀ a ∈ A, R a) → (∀ b ∈ B, R b) → lxg f A B = 0 → A = B
  | [], [], _, _, _, _ => rfl
  | [], _ :: _, h, _, _, _ => by simp at h
  | _ :: _, [], h, _, _, _ => by simp at h
  | a :: A, b :: B, h, hA, hB, hx => by
    rw [lxg] at hx
    by_cases e : f a - f b = 0
    · rw [if_pos e] at hx
      rw [hf a b (hA a (by simp)) (hB b (by simp)) (by omega), lxg_eq hf (by simpa using h) (fun x hx => hA x (by simp [hx])) (fun x hx => hB x (by simp [hx])) hx]
    · rw [if_neg e] at hx
      omega
def lx : List Cl → List Cl → Int := lxg cd
theorem lx_eq {A B : List Cl} (hl : A.length = B.length) (hA : ∀ a ∈ A, ok32 a) (hB : ∀ b ∈ B, ok32 b) : lx A B = 0 ↔ A = B :=
  ⟨lxg_eq (R := ok32) (fun a b h1 h2 h => cd_inj h1 h2 h) hl hA hB, fun h => by rw [h]; exact lxg_self B⟩
section
variable {N k : Nat} {A B L : List Cl} {J K q r t d : List Int32}
theorem rc_get? {i : Nat} {x : Cl} (h : L[i]? = some x) : (L.map cI ++ J)[i]? = some (cI x) := by
  obtain ⟨w, e⟩ := List.getElem?_eq_some_iff.mp h
  rw [rc_get w, e]
theorem compare_eq (hN : 100 ≤ N) (hl : A.length = B.length) (h60 : A.length ≤ 60) (hA : ∀ a ∈ A, ok32 a) (hB : ∀ b ∈ B, ok32 b) (hJ : J.length ≤ 100) (hK : K.length ≤ 100) : f_X2_compareWith N (A.map cI ++ J) (iI A.length) (B.map cI ++ K) (iI B.length) = some (iI (lx A B)) := by
  suffices h : OK (f_X2_compareWith N (A.map cI ++ J) (iI A.length) (B.map cI ++ K) (iI B.length)) (fun u => u = iI (lx A B)) by
    obtain ⟨a, e, rfl⟩ := h; exact e
  unfold f_X2_compareWith
  rw [OK_bind]
  refine zlp1 A.length (fun i v => v = iI i ∧ ∀ m, m < i → A[m]? = B[m]?) ?_ N 0 _ (by omega) (by omega) ⟨rfl, fun m h => by omega⟩
  rintro fu i v hi ⟨rfl, hp⟩ ih
  rw [f_X2_compareWith_L2]
  rcases Nat.lt_or_ge i A.length with h | h
  · obtain ⟨a, ha⟩ := gL h
    obtain ⟨b, hb⟩ := gL (show i < B.length by omega)
    have r1 := cd_rng (hA a (List.mem_of_getElem? ha))
    have r2 := cd_rng (hB b (List.mem_of_getElem? hb))
    rw [if_pos (iI_ltT (by omega) (by omega) (by omega)), if_pos (iI_ltT (by omega) (by omega) (by omega)), gI (rc_get? ha) (by simp; omega), gI (rc_get? hb) (by simp; omega)]
    simp only [Option.bind_some]
    unfold cI
    rw [iI_sub, li0, iI_succ, OK_ite, iI_eq (by omega) (by omega) (by omega) (by omega)]
    refine ⟨fun e => ih h _ ⟨rfl, fun m hm => ?_⟩, fun e => ?_⟩
    · rcases Nat.lt_or_ge m i with g | g
      · exact hp m g
      · rw [show m = i by omega, ha, hb, cd_inj (hA a (List.mem_of_getElem? ha)) (hB b (List.mem_of_getElem? hb)) (by omega)]
    · rw [OK_some]
      show OK (some _) _
      rw [OK_some, ← lxg_at (f := cd) i ha hb hp e]
      rfl
  · have e : i = A.length := by omega
    subst e
    rw [if_neg (iI_ltF (by omega) (by omega) (by omega)), OK_some]
    show OK (some _) _
    rw [OK_some]
    have : A = B := List.ext_getElem? (fun m => by
      rcases Nat.lt_or_ge m A.length with g | g
      · exact hp m g
      · rw [List.getElem?_eq_none g, List.getElem?_eq_none (by omega)])
    rw [this]
    show 0 = iI (lxg cd B B)
    rw [lxg_self]
    rfl
theorem compare_s_eq (hN : 100 ≤ N) (h60 : A.length ≤ 60) (hJ : J.length ≤ 100) : f_X2_compareWith_s N (A.map cI ++ J) (iI A.length) = some (iI 0) := by
  suffices h : OK (f_X2_compareWith_s N (A.map cI ++ J) (iI A.length)) (fun u => u = iI 0) by
    obtain ⟨a, e, rfl⟩ := h; exact e
  unfold f_X2_compareWith_s
  rw [OK_bind]
  refine zlp1 A.length (fun i v => v = iI i) ?_ N 0 _ (by omega) (by omega) rfl
  rintro fu i v hi rfl ih
  rw [f_X2_compareWith_s_L2]
  rcases Nat.lt_or_ge i A.length with h | h
  · obtain ⟨a, ha⟩ := gL h
    rw [if_pos (iI_ltT (by omega) (by omega) (by omega)), if_pos (iI_ltT (by omega) (by omega) (by omega)), gI (rc_get? ha) (by simp; omega)]
    simp only [Option.bind_some]
    unfold cI
    rw [iI_sub, li0, iI_succ, if_pos (by rw [Int.sub_self])]
    exact ih h _ rfl
  · have e : i = A.length := by omega
    subst e
    rw [if_neg (iI_ltF (by omega) (by omega) (by omega)), OK_some]
    show OK (some _) _
    rw [OK_some]
    rfl
theorem allKeys_eq (hN : 100 ≤ N) (h60 : A.length ≤ 60) (hA : ∀ a ∈ A, ok32 a) (hJ : J.length ≤ 100) : OK (f_X2_allHaveKeys N (A.map cI ++ J) (iI A.length)) (fun u => (wide A ∧ u = 0) ∨ (¬ wide A ∧ u = 1)) := by
  unfold f_X2_allHaveKeys
  rw [OK_bind]
  refine zlp1 A.length (fun i v => v = iI i ∧ ¬ wide (A.take i)) ?_ N 0 _ (by omega) (by omega) ⟨rfl, fun ⟨c, h, _⟩ => by simp at h⟩
  rintro fu i v hi ⟨rfl, hp⟩ ih
  rw [f_X2_allHaveKeys_L2]
  rcases Nat.lt_or_ge i A.length with h | h
  · obtain ⟨a, ha⟩ := gL h
    have ho := hA a (List.mem_of_getElem? ha)
    have hg : (A.map cI ++ J)[(i : Int).toNat]? = some (cI a) := by rw [Int.toNat_natCast]; exact rc_get? ha
    rw [if_pos (iI_ltT (by omega) (by omega) (by omega)), qAt_eq (by omega) (by omega) (by omega) hg ho, rAt_eq (by omega) (by omega) (by omega) hg ho]
    simp only [Option.bind_some]
    obtain ⟨o1, o2, o3, o4, -, -⟩ := ho
    rw [li10, iI_succ, OK_ite, OK_ite, iI_lt (by omega) (by omega) (by omega) (by omega), iI_lt (by omega) (by omega) (by omega) (by omega)]
    refine ⟨fun e1 => ⟨fun e2 => ih h _ ⟨rfl, fun ⟨c, hc, hw⟩ => ?_⟩, fun e2 => ?_⟩, fun e1 => ?_⟩
    · rw [tk_next ha] at hc
      rcases List.mem_append.mp hc with hc | hc
      · exact hp ⟨c, hc, hw⟩
      · rw [List.mem_singleton.mp hc] at hw; omega
    · rw [OK_some]
      show OK (some _) _
      rw [OK_some]
      exact Or.inl ⟨⟨a, List.mem_of_getElem? ha, by omega⟩, rfl⟩
    · rw [OK_some]
      show OK (some _) _
      rw [OK_some]
      exact Or.inl ⟨⟨a, List.mem_of_getElem? ha, by omega⟩, rfl⟩
  · have e : i = A.length := by omega
    subst e
    rw [if_neg (iI_ltF (by omega) (by omega) (by omega)), OK_some]
    show OK (some _) _
    rw [OK_some]
    rw [List.take_length] at hp
    exact Or.inr ⟨hp, rfl⟩
end
