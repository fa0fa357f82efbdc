/-! the class's floods -/
def pI (c : Cl) : Nat := ((c.2.1 + 1) * 32 + (c.1 + 1) * 2 + c.2.2).toNat
section
variable {N k : Nat} {a b c u v : Cl} {x1 y1 : Int} {M que : List Int32} {v0 : Cl → Int} {mk : Int}
theorem pI_ix (hx : x1 ≤ 10) (hy : y1 ≤ 10) : IX (Wn k (-1) x1 (-1) y1) pI 384 := by
  constructor
  · rintro ⟨q, r, t⟩ ⟨h1, h2, h3, h4, h5⟩
    have ht := okT_rng h5
    simp only at h1 h2 h3 h4 ht
    simp only [pI]
    omega
  · rintro ⟨q, r, t⟩ ⟨q', r', t'⟩ ⟨h1, h2, h3, h4, h5⟩ ⟨g1, g2, g3, g4, g5⟩ e
    have ht := okT_rng h5
    have gt := okT_rng g5
    simp only at h1 h2 h3 h4 g1 g2 g3 g4 ht gt
    simp only [pI] at e
    have e1 : q = q' := by omega
    have e2 : r = r' := by omega
    have e3 : t = t' := by omega
    rw [e1, e2, e3]
theorem pI_lt (hx : x1 ≤ 10) (hc : Wn k (-1) x1 (-1) y1 c) : pI c < (y1 + 2).toNat * 32 := by
  obtain ⟨q, r, t⟩ := c
  obtain ⟨h1, h2, h3, h4, h5⟩ := hc
  have ht := okT_rng h5
  simp only at h1 h2 h3 h4 ht
  simp only [pI]
  omega
theorem placeC {q r t : Int} (hq : -100 ≤ q ∧ q ≤ 100) (hr : -100 ≤ r ∧ r ≤ 100) (ht : 0 ≤ t ∧ t < 2) (hx : -1 ≤ x1 ∧ x1 ≤ 10) (hy : -1 ≤ y1 ∧ y1 ≤ 10) : f_X9_placeOf N (iI q) (iI r) (iI t) (iI (x1 + 2)) (iI (y1 + 2)) = some (if -1 ≤ q ∧ q ≤ x1 ∧ -1 ≤ r ∧ r ≤ y1 then iI (pI (q, r, t)) else iI (-1)) := by
  unfold f_X9_placeOf
  rw [li1, li2, iI_neg, iI_sub, iI_sub]
  by_cases h1 : q < -1
  · rw [if_pos (iI_ltT h1 (by omega) (by omega)), if_neg (by omega)]
  rw [if_neg (iI_ltF h1 (by omega) (by omega))]
  by_cases h2 : x1 + 2 - 2 < q
  · rw [if_pos (iI_ltT h2 (by omega) (by omega)), if_neg (by omega)]
  rw [if_neg (iI_ltF h2 (by omega) (by omega))]
  by_cases h3 : r < -1
  · rw [if_pos (iI_ltT h3 (by omega) (by omega)), if_neg (by omega)]
  rw [if_neg (iI_ltF h3 (by omega) (by omega))]
  by_cases h4 : y1 + 2 - 2 < r
  · rw [if_pos (iI_ltT h4 (by omega) (by omega)), if_neg (by omega)]
  rw [if_neg (iI_ltF h4 (by omega) (by omega)), if_pos (by omega), iI_add, iI_add, iI_shl _ _ 5 (by decide), iI_shl _ _ 1 (by decide), iI_add, iI_add]
  congr 2
  simp only [pI]
  omega
theorem nbPlace (hk : k < 3) (hc : Wn k (-1) x1 (-1) y1 c) (hx : -1 ≤ x1 ∧ x1 ≤ 10) (hy : -1 ≤ y1 ∧ y1 ≤ 10) {d : Nat} (hd : d < dg k) : f_X9_neighbourPlace N (iI c.1) (iI c.2.1) (iI c.2.2) (iI d) (iI (x1 + 2)) (iI (y1 + 2)) k = some (if -1 ≤ (nb k c d).1 ∧ (nb k c d).1 ≤ x1 ∧ -1 ≤ (nb k c d).2.1 ∧ (nb k c d).2.1 ≤ y1 then iI (pI (nb k c d)) else iI (-1)) := by
  obtain ⟨h1, h2, h3, h4, h5⟩ := hc
  unfold f_X9_neighbourPlace
  rw [(neighbour_eq (N := N) (q := c.1) (d := (d : Int)) hk h5 (by omega) (by omega)).1, (neighbour_eq (N := N) (q := c.2.1) (d := (d : Int)) hk h5 (by omega) (by omega)).2, neighbourT_eq h5]
  simp only [Option.bind_some]
  have g1 := gQ_rng k c.2.2 d
  have g2 := gR_rng k c.2.2 d
  rw [placeC (by omega) (by omega) (okT_rng (gT_ok h5)) hx hy]
  rfl
/-- the values of the marks -/
def MK (W : Cl → Prop) (ix : Cl → Nat) (n : Nat) (v : Cl → Int) (M : List Int32) : Prop := M.length = n ∧ ∀ c, W c → M[ix c]? = some (iI (v c))
theorem floodC1 (hN : 1000 ≤ N) (hk : k < 3) (hx : -1 ≤ x1 ∧ x1 ≤ 10) (hy : -1 ≤ y1 ∧ y1 ≤ 10) (hv : ∀ c, 0 ≤ v0 c ∧ v0 c ≤ 7) (hmk : 0 < mk ∧ mk ≤ 7) {Q : List Cl} (h : FI k (Wn k (-1) x1 (-1) y1) pI v0 mk a 384 Q M que) (hu : u ∈ Q) :
    OK (f_X9_flood_L100 N (iI mk) (iI u.1) (iI u.2.1) (iI u.2.2) (iI (x1 + 2)) (iI (y1 + 2)) k N (iI Q.length) 0 M que) (fun w => ∃ R, w.1 = iI (Q ++ R).length ∧ FI k (Wn k (-1) x1 (-1) y1) pI v0 mk a 384 (Q ++ R) w.2.1 w.2.2 ∧ ∀ v, adj k u v → Wn k (-1) x1 (-1) y1 v → v0 v = 0 → v ∈ Q ++ R) := by
  have hix := pI_ix (k := k) hx.2 hy.2
  have huW := (h.2.2.1 u hu).1
  have hdk : dg k ≤ 6 := by unfold dg; split <;> (try split) <;> omega
  refine zlp4 (dg k) (fun e f v M que => v = iI e ∧ ∃ R, f = iI (Q ++ R).length ∧ FI k (Wn k (-1) x1 (-1) y1) pI v0 mk a 384 (Q ++ R) M que ∧ ∀ d, d < e → Wn k (-1) x1 (-1) y1 (nb k u d) → v0 (nb k u d) = 0 → nb k u d ∈ Q ++ R) ?_ N 0 _ _ _ _ (by omega) (by omega) ⟨rfl, [], by rw [List.append_nil], by rw [List.append_nil]; exact h, fun d hd => by omega⟩
  rintro fu e f v M que he ⟨rfl, R, rfl, hF, hd⟩ ih
  have hlen := hF.len hix
  rw [f_X9_flood_L100, zdeg_eq]
  rcases Nat.lt_or_ge e (dg k) with hlt | hge
  · rw [if_pos (iI_ltT (by omega) (by omega) (by omega)), nbPlace hk huW hx hy hlt]
    simp only [Option.bind_some]
    rw [iI_succ]
    by_cases hw : -1 ≤ (nb k u e).1 ∧ (nb k u e).1 ≤ x1 ∧ -1 ≤ (nb k u e).2.1 ∧ (nb k u e).2.1 ≤ y1
    · have hW : Wn k (-1) x1 (-1) y1 (nb k u e) := ⟨hw.1, hw.2.1, hw.2.2.1, hw.2.2.2, okT_nb huW.2.2.2.2⟩
      have hlt2 := hix.1 _ hW
      have hval := hF.2.2.2.2.2.1 _ hW
      have hM := hF.2.2.2.1
      have hq := hF.2.2.2.2.1
      have hvr := hv (nb k u e)
      rw [if_pos hw, li0, if_neg (iI_ltF (by omega) (by omega) (by omega)), gI hval (by omega)]
      simp only [Option.bind_some]
      by_cases hmem : nb k u e ∈ Q ++ R
      · rw [if_pos hmem, if_neg (iI_eqF (by omega) (by omega) (by omega) (by omega) (by omega))]
        refine ih hlt _ _ _ _ ⟨rfl, R, rfl, hF, fun d hd1 hd2 hd3 => ?_⟩
        rcases Nat.lt_or_ge d e with g | g
        · exact hd d g hd2 hd3
        · rw [show d = e by omega]; exact hmem
      · rw [if_neg hmem]
        by_cases h0 : v0 (nb k u e) = 0
        · have hroom := hF.room hix hW hmem
          rw [h0, if_pos rfl, show (384 : Int32) = iI 384 from rfl, if_pos (iI_ltT (by omega) (by omega) (by omega)), sI (by omega) (by omega)]
          simp only [Option.bind_some]
          rw [sI (by omega) (by omega)]
          simp only [Option.bind_some]
          rw [iI_succ]
          have hF2 := hF.push hix hW h0 hmem (List.mem_append_left R hu) ⟨e, hlt, rfl⟩
          rw [List.append_assoc] at hF2
          refine ih hlt _ _ _ _ ⟨rfl, R ++ [nb k u e], ?_, hF2, fun d hd1 hd2 hd3 => ?_⟩
          · simp; congr 1
          · rw [← List.append_assoc]
            rcases Nat.lt_or_ge d e with g | g
            · exact List.mem_append_left _ (hd d g hd2 hd3)
            · rw [show d = e by omega]; simp
        · rw [if_neg (iI_eqF (by omega) (by omega) (by omega) (by omega) (by omega))]
          refine ih hlt _ _ _ _ ⟨rfl, R, rfl, hF, fun d hd1 hd2 hd3 => ?_⟩
          rcases Nat.lt_or_ge d e with g | g
          · exact hd d g hd2 hd3
          · rw [show d = e by omega] at hd3; exact absurd hd3 h0
    · rw [if_neg hw, li0, if_pos (iI_ltT (by omega) (by omega) (by omega))]
      refine ih hlt _ _ _ _ ⟨rfl, R, rfl, hF, fun d hd1 hd2 hd3 => ?_⟩
      rcases Nat.lt_or_ge d e with g | g
      · exact hd d g hd2 hd3
      · rw [show d = e by omega] at hd2
        exact absurd ⟨hd2.1, hd2.2.1, hd2.2.2.1, hd2.2.2.2.1⟩ hw
  · rw [if_neg (iI_ltF (by omega) (by omega) (by omega)), OK_some]
    refine ⟨R, rfl, hF, ?_⟩
    rintro v ⟨d, hd1, rfl⟩ hw h0
    exact hd d (by omega) hw h0
/-- a flood marks what can be reached over the cells of mark 0 -/
theorem floodC (hN : 1000 ≤ N) (hk : k < 3) (hx : -1 ≤ x1 ∧ x1 ≤ 10) (hy : -1 ≤ y1 ∧ y1 ≤ 10) (hv : ∀ c, 0 ≤ v0 c ∧ v0 c ≤ 7) (hmk : 0 < mk ∧ mk ≤ 7) (hM : MK (Wn k (-1) x1 (-1) y1) pI 384 v0 M) (hq : que.length = 384) (ha : Wn k (-1) x1 (-1) y1 a) :
    OK (f_X9_flood N (iI (pI a)) (iI mk) M que (iI (x1 + 2)) (iI (y1 + 2)) k) (fun w => w.2.2.length = 384 ∧ ((v0 a ≠ 0 ∧ w.1 = 0 ∧ w.2.1 = M) ∨ (v0 a = 0 ∧ ∃ Q : List Cl, Q.Nodup ∧ 0 < Q.length ∧ Q.length ≤ 384 ∧ (∀ c, c ∈ Q ↔ Rc k (fun x => Wn k (-1) x1 (-1) y1 x ∧ v0 x = 0) a c) ∧ w.1 = iI Q.length ∧ MK (Wn k (-1) x1 (-1) y1) pI 384 (fun c => if c ∈ Q then mk else v0 c) w.2.1))) := by
  have hix := pI_ix (k := k) hx.2 hy.2
  have hlt := hix.1 a ha
  have hvr := hv a
  have hMl := hM.1
  unfold f_X9_flood
  rw [li0, if_neg (iI_ltF (by omega) (by omega) (by omega)), show (384 : Int32) = iI 384 from rfl, if_pos (iI_ltT (by omega) (by omega) (by omega)), gI (hM.2 a ha) (by omega)]
  simp only [Option.bind_some]
  by_cases h0 : v0 a = 0
  case neg =>
    rw [if_neg (iI_eqF (by omega) (by omega) (by omega) (by omega) (by omega)), OK_some]
    exact ⟨hq, Or.inl ⟨h0, rfl, rfl⟩⟩
  rw [h0, if_pos rfl, sI (by omega) (by omega)]
  simp only [Option.bind_some]
  rw [show iI 0 = iI ((0 : Nat) : Int) from rfl, sI (by omega) (by omega)]
  simp only [Option.bind_some]
  rw [OK_bind]
  have hst := FI.start (k := k) (mk := mk) hix ha h0 hM.1 hq hM.2
  refine OK.mono (Q := fun w => ∃ Q, w.1 = iI Q.length ∧ FI k (Wn k (-1) x1 (-1) y1) pI v0 mk a 384 Q w.2.1 w.2.2 ∧ ∀ u ∈ Q, ∀ v, adj k u v → Wn k (-1) x1 (-1) y1 v → v0 v = 0 → v ∈ Q) ?_ ?_
  · refine zlp4 384 (fun i f v M que => v = iI i ∧ ∃ Q, f = iI Q.length ∧ i ≤ Q.length ∧ FI k (Wn k (-1) x1 (-1) y1) pI v0 mk a 384 Q M que ∧ ∀ j u, j < i → Q[j]? = some u → ∀ v, adj k u v → Wn k (-1) x1 (-1) y1 v → v0 v = 0 → v ∈ Q) ?_ N 0 _ _ _ _ (by omega) (by omega) ⟨rfl, [a], rfl, by simp, hst, fun j u hj => by omega⟩
    rintro fu i f v M que hi ⟨rfl, Q, rfl, hiQ, hF, hcl⟩ ih
    have hlen := hF.len hix
    rw [f_X9_flood_L42]
    rcases Nat.lt_or_ge i Q.length with g | g
    · obtain ⟨u, hu⟩ := gL g
      have huQ := List.mem_of_getElem? hu
      have huW := (hF.2.2.1 u huQ).1
      have hul := hix.1 u huW
      rw [if_pos (iI_ltT (by omega) (by omega) (by omega)), show (384 : Int32) = iI 384 from rfl, if_pos (iI_ltT (by omega) (by omega) (by omega)), gI (hF.2.2.2.2.2.2 i u hu) (by rw [hF.2.2.2.2.1]; decide)]
      simp only [Option.bind_some]
      rw [iI_shr (by omega) (by omega) _ 1 (by decide), iI_shr (by omega) (by omega) _ 5 (by decide), iI_and _ 4 (by decide) (by decide), iI_and _ 1 (by decide) (by decide), li1, iI_sub, iI_sub]
      have hdec : ((pI u : Int) / 2 ^ 1 % 2 ^ 4 - 1 = u.1) ∧ ((pI u : Int) / 2 ^ 5 - 1 = u.2.1) ∧ ((pI u : Int) % 2 ^ 1 = u.2.2) := by
        obtain ⟨q, r, t⟩ := u
        obtain ⟨h1, h2, h3, h4, h5⟩ := huW
        have ht := okT_rng h5
        simp only at h1 h2 h3 h4 ht
        simp only [pI]
        omega
      rw [hdec.1, hdec.2.1, hdec.2.2, OK_bind]
      have := floodC1 (N := N) hN hk hx hy hv hmk hF huQ
      refine this.mono ?_
      rintro ⟨w1, w2, w3⟩ ⟨R, e1, hF2, hcl2⟩
      simp only at e1 hF2 ⊢
      subst e1
      rw [iI_add]
      refine ih (by omega) _ _ _ _ ⟨by congr 1, Q ++ R, rfl, by simp; omega, hF2, fun j x hj hx v hv1 hv2 hv3 => ?_⟩
      rcases Nat.lt_or_ge j i with g1 | g1
      · rw [List.getElem?_append_left (by omega)] at hx
        exact List.mem_append_left _ (hcl j x g1 hx v hv1 hv2 hv3)
      · have : j = i := by omega
        subst this
        rw [List.getElem?_append_left g, hu] at hx
        cases hx
        exact hcl2 v hv1 hv2 hv3
    · rw [if_neg (iI_ltF (by omega) (by omega) (by omega)), OK_some]
      refine ⟨Q, rfl, hF, fun u hu v hv1 hv2 hv3 => ?_⟩
      obtain ⟨j, hj⟩ := List.mem_iff_getElem?.mp hu
      exact hcl j u (by have := lt_of_get hj; omega) hj v hv1 hv2 hv3
  · rintro ⟨w1, w2, w3⟩ ⟨Q, e1, hF, hcl⟩
    simp only at e1 hF ⊢
    rw [OK_some]
    exact ⟨hF.2.2.2.2.1, Or.inr ⟨trivial, Q, hF.1, List.length_pos_of_mem hF.2.1, hF.len hix, hF.done hcl, e1, hF.2.2.2.1, hF.2.2.2.2.2.1⟩⟩
end
