/-! the reference's reading of a text -/
def MRd (L : List Cl) (rd : List Int32) (rn : Int32) : Prop := rd.length = 12 ∧ rn = iI L.length ∧ ∀ (i : Nat) (c : Cl), L[i]? = some c → rd[i]? = some (iI (ky c))
/-- where a failure stands -/
def BAt (S : List Int) (b : Nat) (be so : Int32) : Prop := ∃ q, q ≤ S.length ∧ b = tkB S q ∧ be = iI (tkB S q : Nat) ∧ so = iI (tkS S q : Nat)
section
variable {N k p : Nat} {S : List Int} {L : List Cl} {c : Cl} {mt rd d : List Int32} {ty rn lq lr lt : Int32}
theorem kyI (q r t : Int) : ((20 * iI r) + (2 * iI q)) + iI t = iI (ky (q, r, t)) := by
  rw [show (20 : Int32) = iI 20 from rfl, show (2 : Int32) = iI 2 from rfl, iI_mul, iI_mul, iI_add, iI_add]
  rfl
theorem isReadL (hD : Dr k L) (hm : MRd L rd rn) (hc : inB k c) : ∀ (m i fu : Nat), i + m = L.length → m < fu → f_X12_isRead_L4 N (iI (ky c)) rd rn fu (if c ∈ L.take i then 1 else 0) (iI (i : Nat)) = some (if c ∈ L then 1 else 0)
  | 0, i, fu, h1, h2 => by
    obtain ⟨fu, rfl⟩ : ∃ f, fu = f + 1 := ⟨fu - 1, by omega⟩
    have hL := hD.2.2.1
    rw [f_X12_isRead_L4, hm.2.1, if_neg (iI_ltF (by omega) (by omega) (by omega)), List.take_of_length_le (by omega)]
  | m + 1, i, fu, h1, h2 => by
    obtain ⟨fu, rfl⟩ : ∃ f, fu = f + 1 := ⟨fu - 1, by omega⟩
    have hL := hD.2.2.1
    obtain ⟨x, hx⟩ := gL (show i < L.length by omega)
    have hxb := hD.2.2.2 x (List.mem_of_getElem? hx)
    have k1 := ky_rng hxb
    have k2 := ky_rng hc
    have ih := isReadL hD hm hc m (i + 1) fu (by omega) (by omega)
    have ht : L.take (i + 1) = L.take i ++ [x] := by rw [List.take_succ, hx]; rfl
    rw [ht] at ih
    rw [f_X12_isRead_L4, hm.2.1, if_pos (iI_ltT (by omega) (by omega) (by omega)), iI_succ, ← hm.2.1]
    by_cases g : c ∈ L.take i
    · rw [if_pos (List.mem_append.mpr (Or.inl g))] at ih
      rw [if_pos g, if_neg (show ¬ (1 : Int32) = 0 by decide)]
      exact ih
    · rw [if_neg g, if_pos rfl, gI (hm.2.2 i x hx) (by rw [hm.1]; decide), Option.bind_some]
      by_cases e : ky x = ky c
      · rw [if_pos (by rw [e])]
        rw [if_pos (List.mem_append.mpr (Or.inr (by rw [ky_inj hxb hc e]; exact List.mem_singleton.mpr rfl)))] at ih
        exact ih
      · rw [if_neg (iI_eqF e (by omega) (by omega) (by omega) (by omega))]
        rw [if_neg (fun hh => by
          rcases List.mem_append.mp hh with hh | hh
          · exact g hh
          · rw [List.mem_singleton] at hh; exact e (by rw [hh]))] at ih
        exact ih
theorem isReadM (hN : 2000 ≤ N) (hD : Dr k L) (hm : MRd L rd rn) (hc : inB k c) : f_X12_isRead N (iI (ky c)) rd rn = some (if c ∈ L then 1 else 0) := by
  have hL := hD.2.2.1
  have h := isReadL (N := N) hD hm hc L.length 0 N (by omega) (by omega)
  rw [List.take_zero, if_neg (by simp)] at h
  unfold f_X12_isRead
  rw [show (0 : Int32) = iI ((0 : Nat) : Int) from rfl] at h ⊢
  rw [h, Option.bind_some]
  split
  · rw [if_pos (Or.inr rfl)]
  · rw [if_pos (Or.inl rfl)]
theorem lastM (hD : Dr k L) (hm : MRd L rd rn) {q r t : Int} : OK (f_X12_readsLast N rd (iI q) (iI r) (iI t) rn) (fun u => u.2.1.length = 12 ∧ ((L.length = 12 ∧ u.1 = 0) ∨ (L.length < 12 ∧ u.1 = 1 ∧ MRd (L ++ [(q, r, t)]) u.2.1 u.2.2))) := by
  have hL := hD.2.2.1
  unfold f_X12_readsLast
  by_cases g : L.length = 12
  · rw [if_pos (by rw [hm.2.1, g]; rfl), OK_some]
    exact ⟨hm.1, Or.inl ⟨g, rfl⟩⟩
  · rw [if_neg (by rw [hm.2.1, show (12 : Int32) = iI 12 from rfl]; exact iI_eqF (by omega) (by omega) (by omega) (by omega) (by omega)), kyI, hm.2.1, sI (by rw [hm.1]; omega) (by rw [hm.1]; decide), Option.bind_some, OK_some, iI_succ]
    refine ⟨by simp [hm.1], Or.inr ⟨by omega, rfl, by simp [hm.1], by simp, fun i x hx => ?_⟩⟩
    rcases Nat.lt_or_ge i L.length with h | h
    · rw [List.getElem?_append_left h] at hx
      rw [List.getElem?_set_ne (by omega)]
      exact hm.2.2 i x hx
    · have h2 := lt_of_get hx
      simp at h2
      have e : i = L.length := by omega
      subst e
      rw [List.getElem?_append_right (Nat.le_refl _), Nat.sub_self] at hx
      cases hx
      rw [List.getElem?_set_self (by rw [hm.1]; omega)]
theorem BAt.mk' (hp : p ≤ S.length) : BAt S (tkB S p) (iI (tkB S p : Nat)) (iI (tkS S p : Nat)) := ⟨p, hp, rfl, rfl, rfl⟩
theorem neg1 : iI (-1) < (0 : Int32) := by decide
theorem tkS_le : tkS S p ≤ 9 := by
  unfold tkS srF
  repeat' split
  all_goals omega
/-- the digits of an 'at' -/
def AtP (k : Nat) (S : List Int) (L : List Cl) (p : Nat) (u : Int32 × (List Int32) × Int32 × Int32 × Int32 × Int32 × Int32 × Int32 × Int32) : Prop := u.2.1.length = 12 ∧ (∀ b, spAt k S L p = .inl b → u.1 = 0 ∧ BAt S b u.2.2.2.1 u.2.2.2.2.1) ∧ ∀ p' c, spAt k S L p = .inr (p', c) → u.1 = 1 ∧ u.2.2.1 = iI (p' : Nat) ∧ (u.2.2.2.2.2.1 = iI c.1 ∧ u.2.2.2.2.2.2.1 = iI c.2.1 ∧ u.2.2.2.2.2.2.2.1 = iI c.2.2) ∧ MRd (L ++ [c]) u.2.1 u.2.2.2.2.2.2.2.2
theorem AtP.err {b : Nat} {u : Int32 × (List Int32) × Int32 × Int32 × Int32 × Int32 × Int32 × Int32 × Int32} (h : spAt k S L p = .inl b) (h1 : u.2.1.length = 12) (h2 : u.1 = 0) (h3 : BAt S b u.2.2.2.1 u.2.2.2.2.1) : AtP k S L p u := ⟨h1, fun b' hb => by rw [h] at hb; cases hb; exact ⟨h2, h3⟩, fun p' c hh => by rw [h] at hh; cases hh⟩
theorem atM (hN : 2000 ≤ N) (h : TX S mt ty) (hp : p ≤ S.length) (hD : Dr k L) (hd : DK k d) (hm : MRd L rd rn) : OK (f_X12_readsAt N d rd mt ty (iI p) lr lt rn) (AtP k S L p) := by
  have b1 := tk_bd hp
  have b2 := tk_bd b1.2.2.1
  have b3 := tk_bd b2.2.2.1
  have b4 := tk_bd b3.2.2.1
  have hL12 := hD.2.2.1
  unfold f_X12_readsAt
  have d1 : f_X12_digit N 9 mt ty (iI p) = _ := digM (m := 9) hN h hp ⟨by omega, by omega⟩
  have d2 : f_X12_digit N 9 mt ty (iI (tkE S p)) = _ := digM (m := 9) hN h b1.2.2.1 ⟨by omega, by omega⟩
  rw [d1, Option.bind_some]
  by_cases g1 : tkK S p = 3
  case neg =>
    rw [if_neg (show ¬ (tkK S p = 3 ∧ tkD S p ≤ 9) from fun hh => g1 hh.1), if_pos neg1, OK_some]
    exact AtP.err (by unfold spAt; rw [if_pos g1]) hm.1 rfl (BAt.mk' hp)
  have r1 := tkD_rng hp g1
  rw [if_pos (show tkK S p = 3 ∧ tkD S p ≤ 9 from ⟨g1, r1.2.1⟩), if_neg (show ¬ iI (tkD S p) < 0 by rw [li0]; exact iI_ltF (by omega) (by omega) (by omega)), d2, Option.bind_some]
  by_cases g2 : tkK S (tkE S p) = 3
  case neg =>
    rw [if_neg (show ¬ (tkK S (tkE S p) = 3 ∧ tkD S (tkE S p) ≤ 9) from fun hh => g2 hh.1), if_pos neg1, OK_some]
    exact AtP.err (by unfold spAt; rw [if_neg (show ¬ ¬ tkK S p = 3 from fun hh => hh g1), if_pos g2]) hm.1 rfl (BAt.mk' b1.2.2.1)
  have r2 := tkD_rng b1.2.2.1 g2
  rw [if_pos (show tkK S (tkE S p) = 3 ∧ tkD S (tkE S p) ≤ 9 from ⟨g2, r2.2.1⟩), if_neg (show ¬ iI (tkD S (tkE S p)) < 0 by rw [li0]; exact iI_ltF (by omega) (by omega) (by omega)), hd.g, Option.bind_some]
  -- the two forms of the third digit are the same
  have hk := hd.1
  suffices hx : ∀ m : Int, m + 1 = kin k → OK ((f_X12_digit N (iI m) mt ty (iI (tkE S (tkE S p)))).bind fun u7 => if u7.1 < 0 then some (0, rd, u7.2.1, u7.2.2.1, u7.2.2.2, iI (tkD S p), iI (tkD S (tkE S p)), u7.1, rn) else (f_X12_isRead N (((20 * iI (tkD S (tkE S p))) + (2 * iI (tkD S p))) + u7.1) rd rn).bind fun u9 => if u9 = 0 then (f_X12_readsLast N rd (iI (tkD S p)) (iI (tkD S (tkE S p))) u7.1 rn).bind fun u11 => if u11.1 = 0 then some (0, u11.2.1, u7.2.1, u7.2.2.1, u7.2.2.2, iI (tkD S p), iI (tkD S (tkE S p)), u7.1, u11.2.2) else (f_X12_token N mt ty u7.2.1).bind fun u13 => if u13.2.2 = 3 then some (1, u11.2.1, u13.1, u13.2.1, u13.2.2, iI (tkD S p), iI (tkD S (tkE S p)), u7.1, u11.2.2) else some (0, u11.2.1, u13.1, u13.2.1, u13.2.2, iI (tkD S p), iI (tkD S (tkE S p)), u7.1, u11.2.2) else some (0, rd, u7.2.1, u7.2.2.1, u7.2.2.2, iI (tkD S p), iI (tkD S (tkE S p)), u7.1, rn)) (AtP k S L p) by
    by_cases g : k = 1
    · rw [if_pos (by rw [g]; rfl)]
      exact hx 1 (by rw [g]; rfl)
    · rw [if_neg (show ¬ iI (k : Nat) = 1 by rw [li1]; exact iI_eqF (by omega) (by omega) (by omega) (by omega) (by omega))]
      exact hx 0 (by unfold kin; rw [if_neg g]; rfl)
  intro m hmk
  have hkin : kin k = 1 ∨ kin k = 2 := by unfold kin; split <;> omega
  rw [digM hN h b2.2.2.1 (show 0 ≤ m ∧ m ≤ 9 by omega), Option.bind_some]
  by_cases g3 : tkK S (tkE S (tkE S p)) = 3
  case neg =>
    rw [if_neg (show ¬ (tkK S (tkE S (tkE S p)) = 3 ∧ tkD S (tkE S (tkE S p)) ≤ m) from fun hh => g3 hh.1), if_pos neg1, OK_some]
    exact AtP.err (by unfold spAt; rw [if_neg (show ¬ ¬ tkK S p = 3 from fun hh => hh g1), if_neg (show ¬ ¬ tkK S (tkE S p) = 3 from fun hh => hh g2), if_pos g3]) hm.1 rfl (BAt.mk' b2.2.2.1)
  have r3 := tkD_rng b2.2.2.1 g3
  have hsp : spAt k S L p = if ¬ tkD S (tkE S (tkE S p)) < kin k then .inl (tkB S (tkE S (tkE S p))) else
    if (tkD S p, tkD S (tkE S p), tkD S (tkE S (tkE S p))) ∈ L then .inl (tkB S (tkE S (tkE S p))) else
    if L.length = 12 then .inl (tkB S (tkE S (tkE S p))) else
    if ¬ tkK S (tkE S (tkE S (tkE S p))) = 4 then .inl (tkB S (tkE S (tkE S (tkE S p)))) else
    .inr (tkE S (tkE S (tkE S (tkE S p))), (tkD S p, tkD S (tkE S p), tkD S (tkE S (tkE S p)))) := by
    unfold spAt
    rw [if_neg (show ¬ ¬ tkK S p = 3 from fun hh => hh g1), if_neg (show ¬ ¬ tkK S (tkE S p) = 3 from fun hh => hh g2), if_neg (show ¬ ¬ tkK S (tkE S (tkE S p)) = 3 from fun hh => hh g3)]
  by_cases g4 : tkD S (tkE S (tkE S p)) < kin k
  case neg =>
    rw [if_neg (show ¬ (tkK S (tkE S (tkE S p)) = 3 ∧ tkD S (tkE S (tkE S p)) ≤ m) from fun hh => g4 (by omega)), if_pos neg1, OK_some]
    exact AtP.err (by rw [hsp, if_pos g4]) hm.1 rfl (BAt.mk' b2.2.2.1)
  rw [if_neg (show ¬ ¬ tkD S (tkE S (tkE S p)) < kin k from fun hh => hh g4)] at hsp
  have hc : inB k (tkD S p, tkD S (tkE S p), tkD S (tkE S (tkE S p))) := hk9_inB.mp ⟨r1.1, by show tkD S p < 10; omega, r2.1, by show tkD S (tkE S p) < 10; omega, r3.1, g4⟩
  rw [if_pos (show tkK S (tkE S (tkE S p)) = 3 ∧ tkD S (tkE S (tkE S p)) ≤ m from ⟨g3, by omega⟩), if_neg (show ¬ iI (tkD S (tkE S (tkE S p))) < 0 by rw [li0]; exact iI_ltF (by omega) (by omega) (by omega)), kyI, isReadM hN hD hm hc, Option.bind_some]
  by_cases g5 : (tkD S p, tkD S (tkE S p), tkD S (tkE S (tkE S p))) ∈ L
  · rw [if_pos g5, if_neg (show ¬ (1 : Int32) = 0 by decide), OK_some]
    exact AtP.err (by rw [hsp, if_pos g5]) hm.1 rfl (BAt.mk' b2.2.2.1)
  rw [if_neg g5] at hsp
  rw [if_neg g5, if_pos rfl, OK_bind]
  refine OK.mono (lastM hD hm) ?_
  rintro ⟨w1, w2, w3⟩ ⟨hl5, hcase⟩
  simp only at hl5 hcase ⊢
  rcases hcase with ⟨c1, rfl⟩ | ⟨c1, rfl, c5⟩
  · rw [if_pos rfl, OK_some]
    exact AtP.err (by rw [hsp, if_pos c1]) hl5 rfl (BAt.mk' b2.2.2.1)
  rw [if_neg (show ¬ L.length = 12 by omega)] at hsp
  rw [if_neg (show ¬ (1 : Int32) = 0 by decide), tokM hN h b3.2.2.1, Option.bind_some]
  have h9 := tkS_le (S := S) (p := tkE S (tkE S (tkE S p)))
  by_cases g7 : tkK S (tkE S (tkE S (tkE S p))) = 4
  · rw [if_pos (show iI (tkS S (tkE S (tkE S (tkE S p))) : Nat) = 3 by rw [sk_3.mpr g7]; rfl), OK_some]
    rw [if_neg (show ¬ ¬ tkK S (tkE S (tkE S (tkE S p))) = 4 from fun hh => hh g7)] at hsp
    exact ⟨hl5, (fun b hb => by rw [hsp] at hb; cases hb), fun p' c hh => by rw [hsp] at hh; cases hh; exact ⟨rfl, rfl, ⟨rfl, rfl, rfl⟩, c5⟩⟩
  · have g8 : ¬ tkS S (tkE S (tkE S (tkE S p))) = 3 := fun hh => g7 (sk_3.mp hh)
    rw [if_neg (show ¬ iI (tkS S (tkE S (tkE S (tkE S p))) : Nat) = 3 by rw [li3]; exact iI_eqF (by omega) (by omega) (by omega) (by omega) (by omega)), OK_some]
    exact AtP.err (by rw [hsp, if_pos g7]) hl5 rfl (BAt.mk' b3.2.2.1)
end
