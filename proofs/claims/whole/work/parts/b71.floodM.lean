/-! the reference's window, floods, holes, borders -/
def spI (c : Cl) : Nat := (28 * (c.2.1 + 2) + 2 * (c.1 + 2) + c.2.2).toNat
abbrev WM (k : Nat) : Cl → Prop := Wn k (-2) 11 (-2) 11
section
variable {N k : Nat} {a b c u v : Cl} {L : List Cl} {M que d q r t : List Int32} {v0 : Cl → Int} {mk : Int}
theorem sp_ix : IX (WM k) spI 392 := by
  constructor
  · rintro ⟨q, r, t⟩ ⟨h1, h2, h3, h4, h5⟩
    have ht := okT_rng h5
    simp only at h1 h2 h3 h4 ht
    simp only [spI]
    omega
  · rintro ⟨q, r, t⟩ ⟨q', r', t'⟩ ⟨h1, h2, h3, h4, h5⟩ ⟨g1, g2, g3, g4, g5⟩ e
    have ht := okT_rng h5
    have gt := okT_rng g5
    simp only at h1 h2 h3 h4 g1 g2 g3 g4 ht gt
    simp only [spI] at e
    have e1 : q = q' := by omega
    have e2 : r = r' := by omega
    have e3 : t = t' := by omega
    rw [e1, e2, e3]
theorem sp_dec (h : WM k c) : ((spI c : Int) % 28 / 2 - 2 = c.1) ∧ ((spI c : Int) / 28 - 2 = c.2.1) ∧ ((spI c : Int) % 2 = c.2.2) := by
  obtain ⟨q, r, t⟩ := c
  obtain ⟨h1, h2, h3, h4, h5⟩ := h
  have ht := okT_rng h5
  simp only at h1 h2 h3 h4 ht
  simp only [spI]
  omega
theorem mSpot {x y z : Int} (hx : -2 ≤ x) (hy : -2 ≤ y) (hz : 0 ≤ z) : f_X12_spot N (iI x) (iI y) (iI z) = some (iI (spI (x, y, z))) := by
  unfold f_X12_spot
  rw [show (28 : Int32) = iI 28 from rfl, li2, iI_add, iI_add, iI_mul, iI_mul, iI_add, iI_add]
  congr 2
  simp only [spI]
  omega
theorem mBeside (hd : DK k d) (hc : WM k c) {e : Nat} (he : e < dg k) : f_X12_beside N (iI (spI c)) (iI e) d = some (if -2 ≤ (nb k c e).1 ∧ (nb k c e).1 ≤ 11 ∧ -2 ≤ (nb k c e).2.1 ∧ (nb k c e).2.1 ≤ 11 then iI (spI (nb k c e)) else iI (-1)) := by
  have hlt := sp_ix.1 c hc
  have hdec := sp_dec hc
  have ht := hc.2.2.2.2
  unfold f_X12_beside
  rw [li2, show (28 : Int32) = iI 28 from rfl, iI_rem (by omega) (by omega) (by omega) (by omega), iI_rem (by omega) (by omega) (by omega) (by omega), iI_div (by omega) (by omega) (by omega) (by omega), iI_div (by omega) (by omega) (by omega) (by omega), iI_sub, iI_sub, hdec.1, hdec.2.1, hdec.2.2]
  have hst := mStep (N := N) (e := (e : Int)) hd ht (by omega) (by omega)
  rw [hst.1, hst.2]
  simp only [Option.bind_some]
  have g1 := gQ_rng k c.2.2 e
  have g2 := gR_rng k c.2.2 e
  have hc1 := hc.1
  have hc2 := hc.2.1
  have hc3 := hc.2.2.1
  have hc4 := hc.2.2.2.1
  rw [iI_add, iI_add, show (-(iI 2) : Int32) = iI (-2) from rfl, show (11 : Int32) = iI 11 from rfl, mIn _ _ _ ⟨by omega, by omega⟩ ⟨by omega, by omega⟩ ⟨by omega, by omega⟩, mIn _ _ _ ⟨by omega, by omega⟩ ⟨by omega, by omega⟩ ⟨by omega, by omega⟩]
  simp only [Option.bind_some]
  show _ = some (if -2 ≤ c.1 + gQ k c.2.2 e ∧ c.1 + gQ k c.2.2 e ≤ 11 ∧ -2 ≤ c.2.1 + gR k c.2.2 e ∧ c.2.1 + gR k c.2.2 e ≤ 11 then iI (spI (nb k c e)) else iI (-1))
  by_cases h1 : -2 ≤ c.1 + gQ k c.2.2 e ∧ c.1 + gQ k c.2.2 e ≤ 11
  case neg => rw [if_neg h1, if_pos (by rfl), if_neg (by omega)]; rfl
  rw [if_pos h1, if_neg (by decide)]
  by_cases h2 : -2 ≤ c.2.1 + gR k c.2.2 e ∧ c.2.1 + gR k c.2.2 e ≤ 11
  case neg => rw [if_neg h2, if_pos (by rfl), if_neg (by omega)]; rfl
  rw [if_pos h2, if_neg (by decide), if_pos ⟨h1.1, h1.2, h2.1, h2.2⟩, mSide hd ht]
  simp only [Option.bind_some]
  rw [mSpot h1.1 h2.1 (okT_rng (gT_ok ht)).1]
  rfl
theorem mFlood1 (hN : 1000 ≤ N) (hd : DK k d) (hv : ∀ c, 0 ≤ v0 c ∧ v0 c ≤ 7) (hmk : 0 < mk ∧ mk ≤ 7) {Q : List Cl} (h : FI k (WM k) spI v0 mk a 392 Q M que) {j : Nat} (hu : Q[j]? = some u) :
    OK (f_X12_floods_L28 N (iI mk) (iI j) d N (iI Q.length) 0 M que) (fun w => ∃ R, w.1 = iI (Q ++ R).length ∧ FI k (WM k) spI v0 mk a 392 (Q ++ R) w.2.1 w.2.2 ∧ ∀ v, adj k u v → WM k v → v0 v = 0 → v ∈ Q ++ R) := by
  have hix := sp_ix (k := k)
  have hum := List.mem_of_getElem? hu
  have huW := (h.2.2.1 u hum).1
  have hdk := dg_le (k := k)
  refine zlp4 (dg k) (fun e f v M que => v = iI e ∧ ∃ R, f = iI (Q ++ R).length ∧ FI k (WM k) spI v0 mk a 392 (Q ++ R) M que ∧ ∀ d, d < e → WM k (nb k u d) → v0 (nb k u d) = 0 → nb k u d ∈ Q ++ R) ?_ N 0 _ _ _ _ (by omega) (by omega) ⟨rfl, [], by rw [List.append_nil], by rw [List.append_nil]; exact h, fun d hd => by omega⟩
  rintro fu e f v M que he ⟨rfl, R, rfl, hF, hdn⟩ ih
  have hlen := hF.len hix
  have hM := hF.2.2.2.1
  have hq := hF.2.2.2.2.1
  have huR : (Q ++ R)[j]? = some u := by rw [List.getElem?_append_left (lt_of_get hu)]; exact hu
  rw [f_X12_floods_L28, mDir hd]
  simp only [Option.bind_some]
  rcases Nat.lt_or_ge e (dg k) with hlt | hge
  · rw [if_pos (iI_ltT (by omega) (by omega) (by omega)), gI (hF.2.2.2.2.2.2 j u huR) (by omega)]
    simp only [Option.bind_some]
    rw [mBeside hd huW hlt]
    simp only [Option.bind_some]
    rw [iI_succ]
    by_cases hw : -2 ≤ (nb k u e).1 ∧ (nb k u e).1 ≤ 11 ∧ -2 ≤ (nb k u e).2.1 ∧ (nb k u e).2.1 ≤ 11
    · have hW : WM k (nb k u e) := ⟨hw.1, hw.2.1, hw.2.2.1, hw.2.2.2, okT_nb huW.2.2.2.2⟩
      have hlt2 := hix.1 _ hW
      have hval := hF.2.2.2.2.2.1 _ hW
      have hvr := hv (nb k u e)
      rw [if_pos hw, li0, if_neg (iI_ltF (by omega) (by omega) (by omega)), gI hval (by omega)]
      simp only [Option.bind_some]
      by_cases hmem : nb k u e ∈ Q ++ R
      · rw [if_pos hmem, if_neg (iI_eqF (by omega) (by omega) (by omega) (by omega) (by omega))]
        refine ih hlt _ _ _ _ ⟨rfl, R, rfl, hF, fun d hd1 hd2 hd3 => ?_⟩
        rcases Nat.lt_or_ge d e with g | g
        · exact hdn d g hd2 hd3
        · rw [show d = e by omega]; exact hmem
      · rw [if_neg hmem]
        by_cases h0 : v0 (nb k u e) = 0
        · have hroom := hF.room hix hW hmem
          rw [h0, if_pos rfl, sI (by omega) (by omega)]
          simp only [Option.bind_some]
          rw [sI (by omega) (by omega)]
          simp only [Option.bind_some]
          rw [iI_succ]
          have hF2 := hF.push hix hW h0 hmem (List.mem_append_left R hum) ⟨e, hlt, rfl⟩
          rw [List.append_assoc] at hF2
          refine ih hlt _ _ _ _ ⟨rfl, R ++ [nb k u e], ?_, hF2, fun d hd1 hd2 hd3 => ?_⟩
          · simp; congr 1
          · rw [← List.append_assoc]
            rcases Nat.lt_or_ge d e with g | g
            · exact List.mem_append_left _ (hdn d g hd2 hd3)
            · rw [show d = e by omega]; simp
        · rw [if_neg (iI_eqF (by omega) (by omega) (by omega) (by omega) (by omega))]
          refine ih hlt _ _ _ _ ⟨rfl, R, rfl, hF, fun d hd1 hd2 hd3 => ?_⟩
          rcases Nat.lt_or_ge d e with g | g
          · exact hdn d g hd2 hd3
          · rw [show d = e by omega] at hd3; exact absurd hd3 h0
    · rw [if_neg hw, li0, if_pos (iI_ltT (by omega) (by omega) (by omega))]
      refine ih hlt _ _ _ _ ⟨rfl, R, rfl, hF, fun d hd1 hd2 hd3 => ?_⟩
      rcases Nat.lt_or_ge d e with g | g
      · exact hdn d g hd2 hd3
      · rw [show d = e by omega] at hd2
        exact absurd ⟨hd2.1, hd2.2.1, hd2.2.2.1, hd2.2.2.2.1⟩ hw
  · rw [if_neg (iI_ltF (by omega) (by omega) (by omega)), OK_some]
    refine ⟨R, rfl, hF, ?_⟩
    rintro v ⟨d, hd1, rfl⟩ hw h0
    exact hdn d (by omega) hw h0
theorem mFlood (hN : 1000 ≤ N) (hd : DK k d) (hv : ∀ c, 0 ≤ v0 c ∧ v0 c ≤ 7) (hmk : 0 < mk ∧ mk ≤ 7) (hM : MK (WM k) spI 392 v0 M) (hq : que.length = 392) (ha : WM k a) (h0 : v0 a = 0) :
    OK (f_X12_floods N (iI (spI a)) (iI mk) d M que) (fun w => w.2.2.length = 392 ∧ ∃ Q : List Cl, Q.Nodup ∧ (∀ c, c ∈ Q ↔ Rc k (fun x => WM k x ∧ v0 x = 0) a c) ∧ w.1 = iI Q.length ∧ MK (WM k) spI 392 (fun c => if c ∈ Q then mk else v0 c) w.2.1) := by
  have hix := sp_ix (k := k)
  have hlt := hix.1 a ha
  have hMl := hM.1
  unfold f_X12_floods
  rw [sI (by omega) (by omega)]
  simp only [Option.bind_some]
  rw [show (0 : Int32) = iI ((0 : Nat) : Int) from rfl, sI (by omega) (by omega)]
  simp only [Option.bind_some]
  rw [OK_bind]
  have hst := FI.start (k := k) (mk := mk) hix ha h0 hM.1 hq hM.2
  refine OK.mono (Q := fun w => ∃ Q, w.1 = iI Q.length ∧ FI k (WM k) spI v0 mk a 392 Q w.2.1 w.2.2 ∧ ∀ u ∈ Q, ∀ v, adj k u v → WM k v → v0 v = 0 → v ∈ Q) ?_ ?_
  · refine zlp4 392 (fun i f v M que => v = iI i ∧ ∃ Q, f = iI Q.length ∧ i ≤ Q.length ∧ FI k (WM k) spI v0 mk a 392 Q M que ∧ ∀ j u, j < i → Q[j]? = some u → ∀ v, adj k u v → WM k v → v0 v = 0 → v ∈ Q) ?_ N 0 _ _ _ _ (by omega) (by omega) ⟨rfl, [a], rfl, by simp, hst, fun j u hj => by omega⟩
    rintro fu i f v M que hi ⟨rfl, Q, rfl, hiQ, hF, hcl⟩ ih
    have hlen := hF.len hix
    rw [f_X12_floods_L19]
    rcases Nat.lt_or_ge i Q.length with g | g
    · obtain ⟨u, hu⟩ := gL g
      rw [if_pos (iI_ltT (by omega) (by omega) (by omega)), OK_bind]
      refine (mFlood1 (N := N) hN hd hv hmk hF hu).mono ?_
      rintro ⟨w1, w2, w3⟩ ⟨R, e1, hF2, hcl2⟩
      simp only at e1 hF2 ⊢
      subst e1
      rw [iI_succ]
      refine ih (by omega) _ _ _ _ ⟨rfl, Q ++ R, rfl, by simp; omega, hF2, fun j x hj hx v hv1 hv2 hv3 => ?_⟩
      rcases Nat.lt_or_ge j i with g1 | g1
      · rw [List.getElem?_append_left (by omega)] at hx
        exact List.mem_append_left _ (hcl j x g1 hx v hv1 hv2 hv3)
      · have : j = i := by omega
        subst this
        rw [List.getElem?_append_left g, hu] at hx
        cases hx
        exact hcl2 v hv1 hv2 hv3
    · rw [if_neg (iI_ltF (by omega) (by omega) (by omega)), OK_some]
      refine ⟨Q, rfl, hF, fun u hu v hv1 hv2 hv3 => ?_⟩
      obtain ⟨j, hj⟩ := List.mem_iff_getElem?.mp hu
      exact hcl j u (by have := lt_of_get hj; omega) hj v hv1 hv2 hv3
  · rintro ⟨w1, w2, w3⟩ ⟨Q, e1, hF, hcl⟩
    simp only at e1 hF ⊢
    rw [OK_some]
    exact ⟨hF.2.2.2.2.1, Q, hF.1, hF.done hcl, e1, hF.2.2.2.1, hF.2.2.2.2.2.1⟩
/-- the marks behind surrounds -/
def FLD (k : Nat) (L : List Cl) (M : List Int32) : Prop := ∃ Q : List Cl, (∀ c, c ∈ Q ↔ Rc k (Fr k L (-2) 11 (-2) 11) (-2, -2, 0) c) ∧ MK (WM k) spI 392 (fun c => if c ∈ Q then 2 else if c ∈ L then 1 else 0) M
/-- cells of a draft, or of a form -/
def B9 (k : Nat) (L : List Cl) : Prop := ∀ c ∈ L, inB k c
theorem inB_WM (h : inB k c) : WM k c := ⟨by have := h.1; omega, by have := h.2.1; omega, by have := h.2.2.1; omega, by have := h.2.2.2.1; omega, h.2.2.2.2⟩
theorem sp_0 : spI (-2, -2, 0) = 0 := by simp [spI]
theorem mSurr0 (hN : 1000 ≤ N) (hM : M.length = 392) : OK (f_X12_surrounds_L2 N N 0 M) (fun u => u.length = 392 ∧ ∀ p, p < 392 → u[p]? = some (iI 0)) := by
  refine zlp2 392 (fun i v u => v = iI i ∧ u.length = 392 ∧ ∀ p, p < i → u[p]? = some (iI 0)) ?_ N 0 _ _ (by omega) (by omega) ⟨rfl, hM, fun p hp => by omega⟩
  rintro fu i v u hi ⟨rfl, h1, h2⟩ ih
  rw [f_X12_surrounds_L2, show (392 : Int32) = iI 392 from rfl]
  rcases Nat.lt_or_ge i 392 with g | g
  · rw [if_pos (iI_ltT (by omega) (by omega) (by omega)), sI (by omega) (by omega)]
    simp only [Option.bind_some]
    rw [iI_succ]
    refine ih g _ _ ⟨rfl, by simp [h1], fun p hp => ?_⟩
    rcases Nat.lt_or_ge p i with g1 | g1
    · exact st1 (h2 p g1) (by omega)
    · rw [show p = i by omega]; exact st0 (by omega)
  · have e0 : i = 392 := by omega
    rw [e0, if_neg (iI_ltF (by omega) (by omega) (by omega)), OK_some]
    exact ⟨h1, fun p hp => h2 p (by omega)⟩
theorem mSurr1 (hN : 1000 ≤ N) (hm : MR L q r t) (hb : B9 k L) (hM0 : M.length = 392) (hz : ∀ p, p < 392 → M[p]? = some (iI 0)) : OK (f_X12_surrounds_L24 N (iI L.length) q r t N 0 M) (fun u => MK (WM k) spI 392 (fun c => if c ∈ L then 1 else 0) u) := by
  have hix := sp_ix (k := k)
  have hL16 := hm.2.2.2.1
  refine zlp2 L.length (fun i v u => v = iI i ∧ MK (WM k) spI 392 (fun c => if c ∈ L.take i then 1 else 0) u) ?_ N 0 _ _ (by omega) (by omega) ⟨rfl, hM0, fun c hc => by rw [hz _ (hix.1 c hc)]; simp⟩
  rintro fu i v u hi ⟨rfl, h1, h2⟩ ih
  rw [f_X12_surrounds_L24]
  rcases Nat.lt_or_ge i L.length with g | g
  · obtain ⟨x, hxi⟩ := gL g
    have hxm := List.mem_of_getElem? hxi
    have hW := inB_WM (hb x hxm)
    have hlt := hix.1 x hW
    rw [if_pos (iI_ltT (by omega) (by omega) (by omega)), hm.gq hxi, Option.bind_some, hm.gr hxi, Option.bind_some, hm.gt hxi, Option.bind_some, mSpot hW.1 hW.2.2.1 (okT_rng hW.2.2.2.2).1, show spI (x.1, x.2.1, x.2.2) = spI x from rfl, Option.bind_some]
    rw [sI (by omega) (by omega)]
    simp only [Option.bind_some]
    rw [iI_succ]
    refine ih g _ _ ⟨rfl, by simp [h1], fun c hc => ?_⟩
    rw [tk_next hxi]
    show (u.set (spI x) 1)[spI c]? = some (iI (if c ∈ L.take i ++ [x] then 1 else 0))
    by_cases e : c = x
    · subst e
      rw [if_pos (by simp)]
      exact st0 (by omega)
    · have e2 : spI x ≠ spI c := fun h => e (hix.2 x c hW hc h).symm
      rw [List.getElem?_set_ne e2, h2 c hc]
      have : (c ∈ L.take i ++ [x]) ↔ c ∈ L.take i := by simp [e]
      simp only [this]
  · have e0 : i = L.length := by omega
    subst e0
    rw [if_neg (iI_ltF (by omega) (by omega) (by omega)), OK_some]
    rw [List.take_length] at h2
    exact ⟨h1, h2⟩
theorem mSurr (hN : 1000 ≤ N) (hd : DK k d) (hm : MR L q r t) (hb : B9 k L) (hM : M.length = 392) (hq : que.length = 392) : OK (f_X12_surrounds N d (iI L.length) q r t M que) (fun u => FLD k L u.1 ∧ u.2.length = 392) := by
  have hix := sp_ix (k := k)
  have hL16 := hm.2.2.2.1
  unfold f_X12_surrounds
  rw [OK_bind]
  refine (mSurr0 hN hM).mono ?_
  rintro M0 ⟨hM0, hz⟩
  rw [OK_bind]
  refine (mSurr1 hN hm hb hM0 hz).mono ?_
  intro M1 hM1
  have haW : WM k (-2, -2, 0) := ⟨Int.le_refl _, by show (-2 : Int) ≤ 11; omega, Int.le_refl _, by show (-2 : Int) ≤ 11; omega, Or.inl rfl⟩
  have haL : ((-2, -2, 0) : Cl) ∉ L := fun h => by have := (hb _ h).1; simp at this
  rw [OK_bind, show (0 : Int32) = iI (spI (-2, -2, 0)) by rw [sp_0]; rfl, li2]
  refine (mFlood (mk := 2) hN hd (fun c => ?_) ⟨by omega, by omega⟩ hM1 hq haW (by rw [if_neg haL])).mono ?_
  · show 0 ≤ (if c ∈ L then (1 : Int) else 0) ∧ (if c ∈ L then (1 : Int) else 0) ≤ 7
    split <;> omega
  rintro ⟨w1, w2, w3⟩ ⟨hq3, Q, hQ, hQm, _, hMQ⟩
  rw [OK_some]
  refine ⟨⟨Q, fun c => ?_, hMQ⟩, hq3⟩
  rw [hQm]
  refine Rc.congr (fun y => ?_)
  by_cases e : y ∈ L
  · rw [if_pos e]; constructor
    · rintro ⟨_, h⟩; omega
    · rintro ⟨_, h⟩; exact absurd e h
  · rw [if_neg e]
    exact ⟨fun h => ⟨h.1, e⟩, fun h => ⟨h.1, rfl⟩⟩
end
