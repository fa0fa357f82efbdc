/-! how a text is read; the class -/
def hk9 (k : Nat) (c : Cl) : Prop := 0 ≤ c.1 ∧ c.1 < 10 ∧ 0 ≤ c.2.1 ∧ c.2.1 < 10 ∧ 0 ≤ c.2.2 ∧ c.2.2 < kin k
noncomputable def spAt (k : Nat) (S : List Int) (L : List Cl) (p : Nat) : Nat ⊕ (Nat × Cl) :=
  if ¬ tkK S p = 3 then .inl (tkB S p) else
  if ¬ tkK S (tkE S p) = 3 then .inl (tkB S (tkE S p)) else
  if ¬ tkK S (tkE S (tkE S p)) = 3 then .inl (tkB S (tkE S (tkE S p))) else
  if ¬ tkD S (tkE S (tkE S p)) < kin k then .inl (tkB S (tkE S (tkE S p))) else
  if (tkD S p, tkD S (tkE S p), tkD S (tkE S (tkE S p))) ∈ L then .inl (tkB S (tkE S (tkE S p))) else
  if L.length = 12 then .inl (tkB S (tkE S (tkE S p))) else
  if ¬ tkK S (tkE S (tkE S (tkE S p))) = 4 then .inl (tkB S (tkE S (tkE S (tkE S p)))) else
  .inr (tkE S (tkE S (tkE S (tkE S p))), (tkD S p, tkD S (tkE S p), tkD S (tkE S (tkE S p))))
noncomputable def spGoL (k : Nat) (S : List Int) : Nat → List Cl → Cl → Nat → Nat ⊕ (Nat × List Cl × Cl)
  | 0, _, _, p => .inl p
  | fu + 1, L, c, p => if tkK S p = 3 then (if ¬ tkD S p < dg k then .inl (tkB S p) else if ¬ (0 ≤ (nb k c (tkD S p)).1 ∧ (nb k c (tkD S p)).1 ≤ 9) then .inl (tkB S p) else if ¬ (0 ≤ (nb k c (tkD S p)).2.1 ∧ (nb k c (tkD S p)).2.1 ≤ 9) then .inl (tkB S p) else if nb k c (tkD S p) ∈ L then spGoL k S fu L (nb k c (tkD S p)) (tkE S p) else if L.length = 12 then .inl (tkB S p) else spGoL k S fu (L ++ [nb k c (tkD S p)]) (nb k c (tkD S p)) (tkE S p)) else if tkK S p = 4 then .inr (tkE S p, L, c) else .inl (tkB S p)
noncomputable def spGo (k : Nat) (S : List Int) (L : List Cl) (c : Cl) (p : Nat) : Nat ⊕ (Nat × List Cl × Cl) := if ¬ tkK S p = 3 then .inl (tkB S p) else spGoL k S 100 L c p
noncomputable def spRd (k : Nat) (S : List Int) : Nat → List Cl → Cl → Nat → Nat ⊕ List Cl
  | 0, _, _, p => .inl p
  | fu + 1, L, c, p => if tkK S p = 0 then .inr L else if tkK S p = 1 then Sum.elim (fun b => .inl b) (fun x => spRd k S fu (L ++ [x.2]) x.2 x.1) (spAt k S L (tkE S p)) else if ¬ tkK S p = 2 then .inl (tkB S p) else if L = [] then .inl (tkB S p) else Sum.elim (fun b => .inl b) (fun x => spRd k S fu x.2.1 x.2.2 x.1) (spGo k S L c (tkE S p))
section
variable {N k p : Nat} {S : List Int} {L : List Cl} {c : Cl} {tc wc : List Int32} {tl ws dg0 lq lr lt st0' kd0 : Int32}
theorem hk9_inB : hk9 k c ↔ inB k c := by
  obtain ⟨q, r, t⟩ := c
  exact (inB_iff (k := k) (q := q) (r := r) (t := t)).symm
theorem hasK (hc : -100 ≤ c.1 ∧ c.1 ≤ 100 ∧ -100 ≤ c.2.1 ∧ c.2.1 ≤ 100 ∧ -100 ≤ c.2.2 ∧ c.2.2 ≤ 100) : f_X6_hasKey N (iI c.1) (iI c.2.1) (iI c.2.2) k = some (if 0 ≤ c.1 ∧ c.1 < 10 ∧ 0 ≤ c.2.1 ∧ c.2.1 < 10 ∧ 0 ≤ c.2.2 ∧ c.2.2 < kin k then 1 else 0) := hasKey_eq ⟨by omega, by omega⟩ ⟨by omega, by omega⟩ ⟨by omega, by omega⟩
theorem inB_ok (h : inB k c) : ok32 c := by
  have h5 := okT_rng h.2.2.2.2
  obtain ⟨h1, h2, h3, h4, _⟩ := h
  exact ⟨by omega, by omega, by omega, by omega, h5.1, h5.2⟩
/-- a cell becomes the last one -/
theorem comeC (hN : 2000 ≤ N) (hD : Dr k L) (hL : CE 12 L wc ws) (hc : -100 ≤ c.1 ∧ c.1 ≤ 100 ∧ -100 ≤ c.2.1 ∧ c.2.1 ≤ 100 ∧ -100 ≤ c.2.2 ∧ c.2.2 ≤ 100) : OK (f_X10_comeTo N (iI c.1) (iI c.2.1) (iI c.2.2) lq lr lt k wc ws) (fun u => u.2.2.2.2.1.length = 12 ∧ ((¬ hk9 k c ∧ u.1 = 0) ∨ (hk9 k c ∧ c ∉ L ∧ L.length = 12 ∧ u.1 = 0) ∨ (hk9 k c ∧ c ∈ L ∧ u.1 = 1 ∧ (u.2.1 = iI c.1 ∧ u.2.2.1 = iI c.2.1 ∧ u.2.2.2.1 = iI c.2.2) ∧ CE 12 L u.2.2.2.2.1 u.2.2.2.2.2) ∨ (hk9 k c ∧ c ∉ L ∧ L.length < 12 ∧ u.1 = 1 ∧ (u.2.1 = iI c.1 ∧ u.2.2.1 = iI c.2.1 ∧ u.2.2.2.1 = iI c.2.2) ∧ CE 12 (L ++ [c]) u.2.2.2.2.1 u.2.2.2.2.2))) := by
  have hL12 := hD.2.2.1
  have hwl : wc.length = 12 := by obtain ⟨J, _, h2, _⟩ := hL; exact h2
  unfold f_X10_comeTo
  rw [hasK hc, Option.bind_some]
  by_cases g : hk9 k c
  case neg =>
    rw [if_neg (show ¬ (0 ≤ c.1 ∧ c.1 < 10 ∧ 0 ≤ c.2.1 ∧ c.2.1 < 10 ∧ 0 ≤ c.2.2 ∧ c.2.2 < kin k) from g), if_pos rfl, OK_some]
    exact ⟨hwl, Or.inl ⟨g, rfl⟩⟩
  have hB := hk9_inB.mp g
  rw [if_pos (show 0 ≤ c.1 ∧ c.1 < 10 ∧ 0 ≤ c.2.1 ∧ c.2.1 < 10 ∧ 0 ≤ c.2.2 ∧ c.2.2 < kin k from g), if_neg (show ¬ (1 : Int32) = 0 by decide), OK_bind]
  refine (find_CE (by omega) hL (by omega) hD.ld.ok (inB_ok hB)).mono ?_
  rintro v (⟨hno, rfl⟩ | ⟨j, hj, rfl⟩)
  · rw [if_pos (by rw [li0]; exact iI_ltT (by omega) (by omega) (by omega))]
    obtain ⟨J, rfl, h2, rfl⟩ := hL
    rw [isFull_eq (by omega) (by omega), Option.bind_some]
    by_cases g12 : L.length < 12
    · rw [h2, if_pos g12, if_pos rfl]
      obtain ⟨j0, J', rfl⟩ := List.exists_cons_of_ne_nil (show J ≠ [] by intro e; rw [e] at h2; simp at h2; omega)
      have hadd := add_eq (N := N) (L := L) (J := J') (c := c) (x := j0) (by simp at h2; omega)
      rw [hadd, Option.bind_some, OK_some]
      have hl2 : ((L ++ [c]).map cI ++ J').length = 12 := by simp at h2 ⊢; omega
      exact ⟨hl2, Or.inr (Or.inr (Or.inr ⟨g, hno, g12, rfl, ⟨rfl, rfl, rfl⟩, J', rfl, hl2, rfl⟩))⟩
    · rw [h2, if_neg g12, if_neg (show ¬ (1 : Int32) = 0 by decide), OK_some]
      exact ⟨hwl, Or.inr (Or.inl ⟨g, hno, by omega, rfl⟩)⟩
  · have hjl := lt_of_get hj
    rw [if_neg (by rw [li0]; exact iI_ltF (by omega) (by omega) (by omega)), OK_some]
    exact ⟨hwl, Or.inr (Or.inr (Or.inl ⟨g, List.mem_of_getElem? hj, rfl, ⟨rfl, rfl, rfl⟩, hL⟩))⟩
theorem nextDC (hN : 2000 ≤ N) (h : TX S tc tl) (hp : p ≤ S.length) : f_X10_nextDigit N tc tl (iI p) dg0 = some (if tkK S p = 3 then 1 else 0, iI (tkB S p), iI (tkE S p), iI (tkK S p : Nat), if tkK S p = 3 then iI (tkD S p) else dg0) := by
  have h5 : tkK S p ≤ 5 := by
    unfold tkK kdF
    split
    · omega
    · split
      · omega
      · split
        · omega
        · split
          · split
            · omega
            · split <;> omega
          · omega
  unfold f_X10_nextDigit
  rw [nextC hN h hp, Option.bind_some]
  by_cases g : tkK S p = 3
  · rw [if_pos (by rw [g]; rfl), if_pos g, if_pos g]
  · rw [if_neg (by rw [li3]; exact iI_eqF (by omega) (by omega) (by omega) (by omega) (by omega)), if_neg g, if_neg g]
theorem tkK_le : tkK S p ≤ 5 := by
  unfold tkK kdF
  split
  · omega
  · split
    · omega
    · split
      · omega
      · split
        · split
          · omega
          · split <;> omega
        · omega
theorem Dr.snoc (hD : Dr k L) (hc : inB k c) (hn : c ∉ L) (hl : L.length < 12) : Dr k (L ++ [c]) := ⟨hD.1, nd_add hD.2.1 hn, by simp; omega, fun x hx => by
  rcases List.mem_append.mp hx with hx | hx
  · exact hD.2.2.2 x hx
  · rw [List.mem_singleton.mp hx]; exact hc⟩
theorem spAt_ok (hD : Dr k L) (hp : p ≤ S.length) {p' : Nat} (h : spAt k S L p = .inr (p', c)) : p < p' ∧ p' ≤ S.length ∧ inB k c ∧ c ∉ L ∧ L.length < 12 := by
  have b1 := tk_bd hp
  have b2 := tk_bd b1.2.2.1
  have b3 := tk_bd b2.2.2.1
  have b4 := tk_bd b3.2.2.1
  have hL12 := hD.2.2.1
  unfold spAt at h
  by_cases g1 : tkK S p = 3
  case neg => rw [if_pos g1] at h; cases h
  rw [if_neg (fun hh => hh g1)] at h
  by_cases g2 : tkK S (tkE S p) = 3
  case neg => rw [if_pos g2] at h; cases h
  rw [if_neg (fun hh => hh g2)] at h
  by_cases g3 : tkK S (tkE S (tkE S p)) = 3
  case neg => rw [if_pos g3] at h; cases h
  rw [if_neg (fun hh => hh g3)] at h
  by_cases g4 : tkD S (tkE S (tkE S p)) < kin k
  case neg => rw [if_pos g4] at h; cases h
  rw [if_neg (fun hh => hh g4)] at h
  by_cases g5 : (tkD S p, tkD S (tkE S p), tkD S (tkE S (tkE S p))) ∈ L
  · rw [if_pos g5] at h; cases h
  rw [if_neg g5] at h
  by_cases g6 : L.length = 12
  · rw [if_pos g6] at h; cases h
  rw [if_neg g6] at h
  by_cases g7 : tkK S (tkE S (tkE S (tkE S p))) = 4
  case neg => rw [if_pos g7] at h; cases h
  rw [if_neg (fun hh => hh g7)] at h
  cases h
  have r1 := tkD_rng hp g1
  have r2 := tkD_rng b1.2.2.1 g2
  have r3 := tkD_rng b2.2.2.1 g3
  have l1 := b1.2.2.2.1 (by omega)
  exact ⟨by omega, b4.2.2.1, hk9_inB.mp ⟨r1.1, by show tkD S p < 10; omega, r2.1, by show tkD S (tkE S p) < 10; omega, r3.1, g4⟩, g5, by omega⟩
theorem atC (hN : 2000 ≤ N) (h : TX S tc tl) (hp : p ≤ S.length) (hD : Dr k L) (hL : CE 12 L wc ws) : OK (f_X10_readAt N tc tl (iI p) dg0 lq lr lt k wc ws) (fun u => u.2.2.2.2.2.2.2.2.1.length = 12 ∧ (∀ b, spAt k S L p = .inl b → u.1 = 0 ∧ u.2.1 = iI (b : Nat)) ∧ ∀ p' c, spAt k S L p = .inr (p', c) → u.1 = 1 ∧ u.2.2.1 = iI (p' : Nat) ∧ (u.2.2.2.2.2.1 = iI c.1 ∧ u.2.2.2.2.2.2.1 = iI c.2.1 ∧ u.2.2.2.2.2.2.2.1 = iI c.2.2) ∧ CE 12 (L ++ [c]) u.2.2.2.2.2.2.2.2.1 u.2.2.2.2.2.2.2.2.2) := by
  have b1 := tk_bd hp
  have b2 := tk_bd b1.2.2.1
  have b3 := tk_bd b2.2.2.1
  have b4 := tk_bd b3.2.2.1
  have hL12 := hD.2.2.1
  have hwl : wc.length = 12 := by obtain ⟨J, _, h2, _⟩ := hL; exact h2
  unfold f_X10_readAt spAt
  rw [nextDC hN h hp, Option.bind_some]
  by_cases g1 : tkK S p = 3
  case neg =>
    rw [if_neg g1, if_pos rfl, OK_some, if_pos g1]
    exact ⟨hwl, fun b hb => by cases hb; exact ⟨rfl, rfl⟩, fun p' c hh => by cases hh⟩
  rw [if_pos g1, if_neg (show ¬ (1 : Int32) = 0 by decide), if_neg (show ¬ ¬ tkK S p = 3 from fun hh => hh g1), nextDC hN h b1.2.2.1, Option.bind_some]
  have r1 := tkD_rng hp g1
  by_cases g2 : tkK S (tkE S p) = 3
  case neg =>
    rw [if_neg g2, if_pos rfl, OK_some, if_pos g2]
    exact ⟨hwl, fun b hb => by cases hb; exact ⟨rfl, rfl⟩, fun p' c hh => by cases hh⟩
  rw [if_pos g2, if_neg (show ¬ (1 : Int32) = 0 by decide), if_neg (show ¬ ¬ tkK S (tkE S p) = 3 from fun hh => hh g2), nextDC hN h b2.2.2.1, Option.bind_some]
  have r2 := tkD_rng b1.2.2.1 g2
  by_cases g3 : tkK S (tkE S (tkE S p)) = 3
  case neg =>
    rw [if_neg g3, if_pos rfl, OK_some, if_pos g3]
    exact ⟨hwl, fun b hb => by cases hb; exact ⟨rfl, rfl⟩, fun p' c hh => by cases hh⟩
  have r3 := tkD_rng b2.2.2.1 g3
  rw [if_pos g3, if_neg (show ¬ (1 : Int32) = 0 by decide), if_neg (show ¬ ¬ tkK S (tkE S (tkE S p)) = 3 from fun hh => hh g3), if_pos g1]
  have hcr : -100 ≤ tkD S p ∧ tkD S p ≤ 100 ∧ -100 ≤ tkD S (tkE S p) ∧ tkD S (tkE S p) ≤ 100 ∧ -100 ≤ tkD S (tkE S (tkE S p)) ∧ tkD S (tkE S (tkE S p)) ≤ 100 := by omega
  have hK := hasK (N := N) (k := k) (c := (tkD S p, tkD S (tkE S p), tkD S (tkE S (tkE S p)))) hcr
  simp only at hK
  simp only [if_pos g1, if_pos g2, if_pos g3]
  rw [hK, Option.bind_some]
  by_cases g4 : tkD S (tkE S (tkE S p)) < kin k
  case neg =>
    rw [if_neg (show ¬ (0 ≤ tkD S p ∧ tkD S p < 10 ∧ 0 ≤ tkD S (tkE S p) ∧ tkD S (tkE S p) < 10 ∧ 0 ≤ tkD S (tkE S (tkE S p)) ∧ tkD S (tkE S (tkE S p)) < kin k) from fun hh => g4 hh.2.2.2.2.2), if_pos rfl, OK_some, if_pos g4]
    exact ⟨hwl, fun b hb => by cases hb; exact ⟨rfl, rfl⟩, fun p' c hh => by cases hh⟩
  have h9 : hk9 k (tkD S p, tkD S (tkE S p), tkD S (tkE S (tkE S p))) := ⟨r1.1, by show tkD S p < 10; omega, r2.1, by show tkD S (tkE S p) < 10; omega, r3.1, g4⟩
  rw [if_pos (show 0 ≤ tkD S p ∧ tkD S p < 10 ∧ 0 ≤ tkD S (tkE S p) ∧ tkD S (tkE S p) < 10 ∧ 0 ≤ tkD S (tkE S (tkE S p)) ∧ tkD S (tkE S (tkE S p)) < kin k from h9), if_neg (show ¬ (1 : Int32) = 0 by decide), if_neg (show ¬ ¬ tkD S (tkE S (tkE S p)) < kin k from fun hh => hh g4), OK_bind]
  have hfind := find_CE (N := N) (c := (tkD S p, tkD S (tkE S p), tkD S (tkE S (tkE S p)))) (by omega) hL (by omega) hD.ld.ok (inB_ok (hk9_inB.mp h9))
  refine OK.mono hfind ?_
  rintro v (⟨hno, rfl⟩ | ⟨j, hj, rfl⟩)
  case inr =>
    have hjl := lt_of_get hj
    rw [if_neg (by rw [li0]; exact iI_ltF (by omega) (by omega) (by omega)), OK_some, if_pos (List.mem_of_getElem? hj)]
    exact ⟨hwl, fun b hb => by cases hb; exact ⟨rfl, rfl⟩, fun p' c hh => by cases hh⟩
  rw [if_pos (by rw [li0]; exact iI_ltT (by omega) (by omega) (by omega)), if_neg hno, OK_bind]
  refine (comeC (c := (tkD S p, tkD S (tkE S p), tkD S (tkE S (tkE S p)))) hN hD hL hcr).mono ?_
  rintro ⟨w1, w2, w3, w4, w5, w6⟩ ⟨hl5, hcase⟩
  simp only at hl5 hcase ⊢
  rcases hcase with ⟨c1, _⟩ | ⟨_, _, c3, rfl⟩ | ⟨_, c2, _⟩ | ⟨_, _, c3, rfl, ⟨rfl, rfl, rfl⟩, c5⟩
  · exact absurd h9 c1
  · rw [if_pos rfl, OK_some, if_pos c3]
    exact ⟨hl5, fun b hb => by cases hb; exact ⟨rfl, rfl⟩, fun p' c hh => by cases hh⟩
  · exact absurd c2 hno
  · have h5 := tkK_le (S := S) (p := tkE S (tkE S (tkE S p)))
    rw [if_neg (show ¬ (1 : Int32) = 0 by decide), if_neg (by omega), nextC hN h b3.2.2.1, Option.bind_some]
    by_cases g7 : tkK S (tkE S (tkE S (tkE S p))) = 4
    · rw [if_pos (by rw [g7]; rfl), OK_some, if_neg (show ¬ ¬ tkK S (tkE S (tkE S (tkE S p))) = 4 from fun hh => hh g7)]
      exact ⟨hl5, (fun b hb => by cases hb), fun p' c hh => by cases hh; exact ⟨rfl, rfl, ⟨rfl, rfl, rfl⟩, c5⟩⟩
    · rw [if_neg (by rw [li4]; exact iI_eqF (by omega) (by omega) (by omega) (by omega) (by omega)), OK_some, if_pos g7]
      exact ⟨hl5, fun b hb => by cases hb; exact ⟨rfl, rfl⟩, fun p' c hh => by cases hh⟩
end
