/-! the reference's reading: 'go' and the whole text -/
section
variable {N k p : Nat} {S : List Int} {L : List Cl} {c : Cl} {mt rd d : List Int32} {ty rn lq lr lt : Int32}
def GoM (S : List Int) (sp : Nat ⊕ (Nat × List Cl × Cl)) (u : Int32 × (List Int32) × Int32 × Int32 × Int32 × Int32 × Int32 × Int32 × Int32) : Prop := u.2.1.length = 12 ∧ (∀ b, sp = .inl b → (u.1 = 0 ∨ (¬ u.1 = 0 ∧ ¬ u.2.2.2.2.1 = 3)) ∧ BAt S b u.2.2.2.1 u.2.2.2.2.1) ∧ ∀ p' L' c', sp = .inr (p', L', c') → u.1 = 1 ∧ u.2.2.2.2.1 = 3 ∧ u.2.2.1 = iI (p' : Nat) ∧ (u.2.2.2.2.2.1 = iI c'.1 ∧ u.2.2.2.2.2.2.1 = iI c'.2.1 ∧ u.2.2.2.2.2.2.2.1 = iI c'.2.2) ∧ MRd L' u.2.1 u.2.2.2.2.2.2.2.2
theorem GoM.err {b : Nat} {u : Int32 × (List Int32) × Int32 × Int32 × Int32 × Int32 × Int32 × Int32 × Int32} (h1 : u.2.1.length = 12) (h2 : u.1 = 0) (h3 : BAt S b u.2.2.2.1 u.2.2.2.2.1) : GoM S (.inl b) u := ⟨h1, fun b' hb => by cases hb; exact ⟨Or.inl h2, h3⟩, fun p' L' c hh => by cases hh⟩
theorem goStop {fu : Nat} {at' be so : Int32} : f_X12_readsGo_L18 N d mt ty (fu + 1) 0 rd at' be so lq lr lt rn = some (0, rd, at', be, so, lq, lr, lt, rn) := by rw [f_X12_readsGo_L18, if_pos rfl]
theorem goLM (hN : 2000 ≤ N) (h : TX S mt ty) (hd : DK k d) : ∀ (m fm fu : Nat) (L : List Cl) (c : Cl) (p : Nat) (rd : List Int32) (rn : Int32), S.length - p ≤ m → m + 1 < fm → m < fu → p ≤ S.length → Dr k L → inB k c → MRd L rd rn → OK (f_X12_readsGo_L18 N d mt ty fm 1 rd (iI (tkE S p : Nat)) (iI (tkB S p : Nat)) (iI (tkS S p : Nat)) (iI c.1) (iI c.2.1) (iI c.2.2) rn) (GoM S (spGoL k S fu L c p)) := by
  intro m
  induction m with
  | zero =>
    intro fm fu L c p rd rn hm h1 h2 hp hD hc hL
    obtain ⟨fm, rfl⟩ : ∃ f, fm = f + 1 := ⟨fm - 1, by omega⟩
    obtain ⟨fu, rfl⟩ : ∃ f, fu = f + 1 := ⟨fu - 1, by omega⟩
    have b1 := tk_bd hp
    have hk0 : tkK S p = 0 := b1.2.2.2.2.mpr (by omega)
    have hs0 := (sk_0 hp).mpr hk0
    rw [f_X12_readsGo_L18, if_neg (show ¬ (1 : Int32) = 0 by decide), if_neg (show ¬ iI (tkS S p : Nat) = 2 by rw [hs0]; decide), OK_some]
    unfold spGoL
    rw [if_neg (show ¬ tkK S p = 3 by omega), if_neg (show ¬ tkK S p = 4 by omega)]
    exact ⟨hL.1, fun b hb => by cases hb; exact ⟨Or.inr ⟨by show ¬ (1 : Int32) = 0; decide, by show ¬ iI (tkS S p : Nat) = 3; rw [hs0]; decide⟩, BAt.mk' hp⟩, fun p' L' c' h => by cases h⟩
  | succ m ih =>
    intro fm fu L c p rd rn hm h1 h2 hp hD hc hL
    obtain ⟨fm, rfl⟩ : ∃ f, fm = f + 1 + 1 := ⟨fm - 2, by omega⟩
    obtain ⟨fu, rfl⟩ : ∃ f, fu = f + 1 := ⟨fu - 1, by omega⟩
    have b1 := tk_bd hp
    have h9 := tkS_le (S := S) (p := p)
    have hL12 := hD.2.2.1
    have hk := hd.1
    unfold spGoL
    rw [f_X12_readsGo_L18, if_neg (show ¬ (1 : Int32) = 0 by decide)]
    by_cases g3 : tkK S p = 3
    case neg =>
      have s2 : ¬ tkS S p = 2 := fun hh => g3 (sk_2.mp hh)
      rw [if_neg g3, if_neg (show ¬ iI (tkS S p : Nat) = 2 by rw [li2]; exact iI_eqF (by omega) (by omega) (by omega) (by omega) (by omega)), OK_some]
      by_cases g4 : tkK S p = 4
      · rw [if_pos g4]
        exact ⟨hL.1, (fun b hb => by cases hb), fun p' L' c' hh => by cases hh; exact ⟨rfl, by show iI (tkS S p : Nat) = 3; rw [sk_3.mpr g4]; rfl, rfl, ⟨rfl, rfl, rfl⟩, hL⟩⟩
      · rw [if_neg g4]
        have s3 : ¬ tkS S p = 3 := fun hh => g4 (sk_3.mp hh)
        exact ⟨hL.1, fun b hb => by cases hb; exact ⟨Or.inr ⟨by show ¬ (1 : Int32) = 0; decide, by show ¬ iI (tkS S p : Nat) = 3; rw [li3]; exact iI_eqF (by omega) (by omega) (by omega) (by omega) (by omega)⟩, BAt.mk' hp⟩, fun p' L' c' h => by cases h⟩
    have r1 := tkD_rng hp g3
    have l1 := b1.2.2.2.1 (by omega)
    obtain ⟨x, hx⟩ := gL r1.2.2
    have hxr := h.2.2.2 _ x hx
    have hxd : x = tkD S p + 48 := by unfold tkD; rw [List.getD_eq_getElem?_getD, hx]; simp
    have hx48 : iI x - 48 = iI (tkD S p) := by rw [show (48 : Int32) = iI 48 from rfl, iI_sub]; congr 1; omega
    rw [if_pos g3, if_pos (show iI (tkS S p : Nat) = 2 by rw [sk_2.mpr g3]; rfl), h.g hx, Option.bind_some, mDir hd, Option.bind_some, hx48]
    have hdg : dg k ≤ 6 := by unfold dg; split <;> (try split) <;> omega
    by_cases g4 : tkD S p < dg k
    case neg =>
      rw [if_neg (iI_ltF g4 (by omega) (by omega)), if_pos g4, goStop, OK_some]
      exact GoM.err hL.1 rfl (BAt.mk' hp)
    have n1 := mStep (N := N) (e := tkD S p) (s := c.2.2) hd hc.2.2.2.2 r1.1 g4
    have hq := gQ_rng k c.2.2 (tkD S p)
    have hr := gR_rng k c.2.2 (tkD S p)
    have c1 := hc.1
    have c2 := hc.2.1
    have c3 := hc.2.2.1
    have c4 := hc.2.2.2.1
    rw [if_pos (iI_ltT g4 (by omega) (by omega)), if_neg (show ¬ ¬ tkD S p < dg k from fun hh => hh g4), n1.1, Option.bind_some, n1.2, Option.bind_some, iI_add, iI_add]
    have i1 : f_X12_in N (iI (c.1 + gQ k c.2.2 (tkD S p))) 0 9 = some (if 0 ≤ c.1 + gQ k c.2.2 (tkD S p) ∧ c.1 + gQ k c.2.2 (tkD S p) ≤ 9 then 1 else 0) := mIn (N := N) (c.1 + gQ k c.2.2 (tkD S p)) 0 9 ⟨by omega, by omega⟩ ⟨by omega, by omega⟩ ⟨by omega, by omega⟩
    have i2 : f_X12_in N (iI (c.2.1 + gR k c.2.2 (tkD S p))) 0 9 = some (if 0 ≤ c.2.1 + gR k c.2.2 (tkD S p) ∧ c.2.1 + gR k c.2.2 (tkD S p) ≤ 9 then 1 else 0) := mIn (N := N) (c.2.1 + gR k c.2.2 (tkD S p)) 0 9 ⟨by omega, by omega⟩ ⟨by omega, by omega⟩ ⟨by omega, by omega⟩
    have hsd := mSide (N := N) hd hc.2.2.2.2
    rw [i1, Option.bind_some]
    have e1 : (nb k c (tkD S p)).1 = c.1 + gQ k c.2.2 (tkD S p) := rfl
    have e2 : (nb k c (tkD S p)).2.1 = c.2.1 + gR k c.2.2 (tkD S p) := rfl
    have e3 : (nb k c (tkD S p)).2.2 = gT k c.2.2 := rfl
    have hnb := nb_hk hc (d := tkD S p)
    rw [i2, hsd, ← e1, ← e2, ← e3]
    generalize nb k c (tkD S p) = c' at hnb ⊢
    by_cases g5 : 0 ≤ c'.1 ∧ c'.1 ≤ 9
    case neg =>
      rw [if_neg g5, if_pos rfl, if_pos g5, goStop, OK_some]
      exact GoM.err hL.1 rfl (BAt.mk' hp)
    rw [if_pos g5, if_neg (show ¬ (1 : Int32) = 0 by decide), if_neg (show ¬ ¬ (0 ≤ c'.1 ∧ c'.1 ≤ 9) from fun hh => hh g5), Option.bind_some]
    by_cases g6 : 0 ≤ c'.2.1 ∧ c'.2.1 ≤ 9
    case neg =>
      rw [if_neg g6, if_pos rfl, if_pos g6, goStop, OK_some]
      exact GoM.err hL.1 rfl (BAt.mk' hp)
    rw [if_pos g6, if_neg (show ¬ (1 : Int32) = 0 by decide), if_neg (show ¬ ¬ (0 ≤ c'.2.1 ∧ c'.2.1 ≤ 9) from fun hh => hh g6), Option.bind_some]
    have hB : inB k c' := hk9_inB.mp (Classical.byContradiction (fun hh => by
      rcases hnb.mpr hh with q | q
      · exact q g5
      · exact q g6))
    rw [kyI, isReadM hN hD hL (show inB k (c'.1, c'.2.1, c'.2.2) from hB), Option.bind_some]
    by_cases g7 : c' ∈ L
    · rw [if_pos (show (c'.1, c'.2.1, c'.2.2) ∈ L from g7), if_neg (show ¬ (1 : Int32) = 0 by decide), if_pos g7, tokM hN h b1.2.2.1, Option.bind_some]
      exact ih (fm + 1) fu L c' (tkE S p) _ _ (by omega) (by omega) (by omega) b1.2.2.1 hD hB hL
    rw [if_neg (show ¬ (c'.1, c'.2.1, c'.2.2) ∈ L from g7), if_pos rfl, if_neg g7, OK_bind]
    refine OK.mono (lastM hD hL) ?_
    rintro ⟨w1, w2, w3⟩ ⟨hl5, hcase⟩
    simp only at hl5 hcase ⊢
    rcases hcase with ⟨c1, rfl⟩ | ⟨c1, rfl, c5⟩
    · rw [if_pos rfl, if_pos c1, goStop, OK_some]
      exact GoM.err hl5 rfl (BAt.mk' hp)
    · rw [if_neg (show ¬ (1 : Int32) = 0 by decide), if_neg (show ¬ L.length = 12 by omega), tokM hN h b1.2.2.1, Option.bind_some]
      exact ih (fm + 1) fu (L ++ [c']) c' (tkE S p) _ _ (by omega) (by omega) (by omega) b1.2.2.1 (hD.snoc hB g7 c1) hB c5
theorem goM (hN : 2000 ≤ N) (h : TX S mt ty) (hd : DK k d) (hp : p ≤ S.length) (hD : Dr k L) (hc : inB k c) (hL : MRd L rd rn) : OK (f_X12_readsGo N d rd mt ty (iI p) (iI c.1) (iI c.2.1) (iI c.2.2) rn) (fun u => u.2.1.length = 12 ∧ (∀ b, spGo k S L c p = .inl b → u.1 = 0 ∧ BAt S b u.2.2.2.1 u.2.2.2.2.1) ∧ ∀ p' L' c', spGo k S L c p = .inr (p', L', c') → u.1 = 1 ∧ u.2.2.1 = iI (p' : Nat) ∧ (u.2.2.2.2.2.1 = iI c'.1 ∧ u.2.2.2.2.2.2.1 = iI c'.2.1 ∧ u.2.2.2.2.2.2.2.1 = iI c'.2.2) ∧ MRd L' u.2.1 u.2.2.2.2.2.2.2.2) := by
  have h80 := h.1
  have h9 := tkS_le (S := S) (p := p)
  unfold f_X12_readsGo spGo
  rw [tokM hN h hp, Option.bind_some]
  by_cases g3 : tkK S p = 3
  case neg =>
    have s2 : ¬ tkS S p = 2 := fun hh => g3 (sk_2.mp hh)
    obtain ⟨n, rfl⟩ : ∃ n, N = n + 1 := ⟨N - 1, by omega⟩
    rw [if_neg (show ¬ iI (tkS S p : Nat) = 2 by rw [li2]; exact iI_eqF (by omega) (by omega) (by omega) (by omega) (by omega)), goStop, Option.bind_some, if_pos rfl, OK_some, if_pos g3]
    exact ⟨hL.1, fun b hb => by cases hb; exact ⟨rfl, BAt.mk' hp⟩, fun p' L' c' h => by cases h⟩
  rw [if_pos (show iI (tkS S p : Nat) = 2 by rw [sk_2.mpr g3]; rfl), if_neg (show ¬ ¬ tkK S p = 3 from fun hh => hh g3), OK_bind]
  refine OK.mono (goLM hN h hd (S.length - p) N 100 L c p rd rn (Nat.le_refl _) (by omega) (by omega) hp hD hc hL) ?_
  rintro ⟨w1, w2, w3, w4, w5, w6, w7, w8, w9⟩ ⟨e1, e2, e3⟩
  generalize spGoL k S 100 L c p = sp at e2 e3 ⊢
  simp only at e1 e2 e3 ⊢
  rcases sp with b | ⟨p', L', c'⟩
  · obtain ⟨q1, q2⟩ := e2 b rfl
    rcases q1 with rfl | ⟨q1, q3⟩
    · rw [if_pos rfl, OK_some]
      exact ⟨e1, fun b hb => by cases hb; exact ⟨rfl, q2⟩, fun p' L' c' h => by cases h⟩
    · rw [if_neg q1, if_neg q3, OK_some]
      exact ⟨e1, fun b hb => by cases hb; exact ⟨rfl, q2⟩, fun p' L' c' h => by cases h⟩
  · obtain ⟨rfl, rfl, q3, q4, q5⟩ := e3 p' L' c' rfl
    rw [if_neg (show ¬ (1 : Int32) = 0 by decide), if_pos rfl, OK_some]
    exact ⟨e1, (fun b hb => by cases hb), fun p' L' c' h => by cases h; exact ⟨rfl, q3, q4, q5⟩⟩
def ErP (k : Nat) (S : List Int) (sp : Nat ⊕ List Cl) (u : Int32 × (List Int32) × Int32 × Int32 × Int32 × Int32 × Int32 × Int32 × Int32) : Prop := u.2.1.length = 12 ∧ (∀ b, sp = .inl b → u.1 = 0 ∧ BAt S b u.2.2.2.1 u.2.2.2.2.1) ∧ (∀ L', sp = .inr L' → u.1 = 1 ∧ MRd L' u.2.1 u.2.2.2.2.2.2.2.2 ∧ Dr k L')
theorem erStop {fu : Nat} {at' be so v2 : Int32} : f_X12_error_L18 N d mt ty (fu + 1) 0 v2 rd at' be so lq lr lt rn = some (0, rd, at', be, so, lq, lr, lt, rn) := by rw [f_X12_error_L18, if_pos rfl]
theorem ErP.err {b : Nat} {u : Int32 × (List Int32) × Int32 × Int32 × Int32 × Int32 × Int32 × Int32 × Int32} (h1 : u.2.1.length = 12) (h2 : u.1 = 0) (h3 : BAt S b u.2.2.2.1 u.2.2.2.2.1) : ErP k S (.inl b) u := ⟨h1, fun b' hb => by cases hb; exact ⟨h2, h3⟩, fun L' hh => by cases hh⟩
theorem erLM (hN : 2000 ≤ N) (h : TX S mt ty) (hd : DK k d) : ∀ (m fm fu : Nat) (L : List Cl) (c : Cl) (p : Nat) (lq lr lt : Int32) (rd : List Int32) (rn : Int32), S.length - p ≤ m → m + 1 < fm → m < fu → p ≤ S.length → Dr k L → MRd L rd rn → (L ≠ [] → inB k c ∧ lq = iI c.1 ∧ lr = iI c.2.1 ∧ lt = iI c.2.2) → OK (f_X12_error_L18 N d mt ty fm 1 (if L = [] then 1 else 0) rd (iI (tkE S p : Nat)) (iI (tkB S p : Nat)) (iI (tkS S p : Nat)) lq lr lt rn) (ErP k S (spRd k S fu L c p)) := by
  intro m
  induction m with
  | zero =>
    intro fm fu L c p lq lr lt rd rn hm h1 h2 hp hD hL hl
    obtain ⟨fm, rfl⟩ : ∃ f, fm = f + 1 := ⟨fm - 1, by omega⟩
    obtain ⟨fu, rfl⟩ : ∃ f, fu = f + 1 := ⟨fu - 1, by omega⟩
    have b1 := tk_bd hp
    have hk0 : tkK S p = 0 := b1.2.2.2.2.mpr (by omega)
    have hs0 := (sk_0 hp).mpr hk0
    unfold spRd
    rw [f_X12_error_L18, if_neg (show ¬ (1 : Int32) = 0 by decide), if_pos (show iI (tkS S p : Nat) = 0 by rw [hs0]; rfl), OK_some, if_pos hk0]
    exact ⟨hL.1, (fun b hb => by cases hb), fun L' hh => by cases hh; exact ⟨rfl, hL, hD⟩⟩
  | succ m ih =>
    intro fm fu L c p lq lr lt rd rn hm h1 h2 hp hD hL hl
    obtain ⟨fm, rfl⟩ : ∃ f, fm = f + 1 + 1 := ⟨fm - 2, by omega⟩
    obtain ⟨fu, rfl⟩ : ∃ f, fu = f + 1 := ⟨fu - 1, by omega⟩
    have b1 := tk_bd hp
    have h9 := tkS_le (S := S) (p := p)
    have hL12 := hD.2.2.1
    unfold spRd
    rw [f_X12_error_L18, if_neg (show ¬ (1 : Int32) = 0 by decide)]
    by_cases g0 : tkK S p = 0
    · have hs0 := (sk_0 hp).mpr g0
      rw [if_pos (show iI (tkS S p : Nat) = 0 by rw [hs0]; rfl), OK_some, if_pos g0]
      exact ⟨hL.1, (fun b hb => by cases hb), fun L' hh => by cases hh; exact ⟨rfl, hL, hD⟩⟩
    have l1 := b1.2.2.2.1 g0
    have s0 : ¬ tkS S p = 0 := fun hh => g0 ((sk_0 hp).mp hh)
    have w1 : f_X12_isWord N 97 116 mt (iI (tkE S p)) (iI (tkB S p)) (iI (tkS S p : Nat)) = some (if tkE S p = tkB S p + 2 ∧ S.getD (tkB S p) 0 = 97 ∧ S.getD (tkB S p + 1) 0 = 116 then 1 else 0) := wordM (x := 97) (y := 116) h hp ⟨by omega, by omega⟩ ⟨by omega, by omega⟩
    have w2 : f_X12_isWord N 103 111 mt (iI (tkE S p)) (iI (tkB S p)) (iI (tkS S p : Nat)) = some (if tkE S p = tkB S p + 2 ∧ S.getD (tkB S p) 0 = 103 ∧ S.getD (tkB S p + 1) 0 = 111 then 1 else 0) := wordM (x := 103) (y := 111) h hp ⟨by omega, by omega⟩ ⟨by omega, by omega⟩
    rw [if_neg (show ¬ iI (tkS S p : Nat) = 0 by rw [li0]; exact iI_eqF (by omega) (by omega) (by omega) (by omega) (by omega)), if_neg g0, w1, Option.bind_some]
    by_cases g1 : tkK S p = 1
    · rw [if_pos ((kd_1 hp).mp g1), if_neg (show ¬ (1 : Int32) = 0 by decide), if_pos g1, OK_bind]
      refine OK.mono (atM hN h b1.2.2.1 hD hd hL) ?_
      rintro ⟨v1, v2, v3, v4, v5, v6, v7, v8, v9⟩ ⟨e1, e2, e3⟩
      simp only at e1 e2 e3 ⊢
      have hok := fun p' c => spAt_ok (c := c) (p' := p') hD b1.2.2.1
      generalize spAt k S L (tkE S p) = sp at e2 e3 hok ⊢
      rcases sp with b | ⟨p', c'⟩
      · obtain ⟨rfl, q2⟩ := e2 b rfl
        rw [if_pos rfl, erStop, OK_some, Sum.elim_inl]
        exact ErP.err e1 rfl q2
      · obtain ⟨rfl, rfl, ⟨rfl, rfl, rfl⟩, e4⟩ := e3 p' c' rfl
        obtain ⟨o1, o2, o3, o4, o5⟩ := hok p' c' rfl
        rw [if_neg (show ¬ (1 : Int32) = 0 by decide), tokM hN h o2, Option.bind_some, Sum.elim_inr]
        have hi := ih (fm + 1) fu (L ++ [c']) c' p' (iI c'.1) (iI c'.2.1) (iI c'.2.2) v2 v9 (by omega) (by omega) (by omega) o2 (hD.snoc o3 o4 o5) e4 (fun _ => ⟨o3, rfl, rfl, rfl⟩)
        rw [if_neg (by simp)] at hi
        exact hi
    rw [if_neg (fun hh => g1 ((kd_1 hp).mpr hh)), if_pos rfl, if_neg g1]
    by_cases g3 : L = []
    · rw [if_pos g3, if_neg (show ¬ (1 : Int32) = 0 by decide), erStop, OK_some]
      have e : (if ¬ tkK S p = 2 then (.inl (tkB S p) : Nat ⊕ List Cl) else if L = [] then .inl (tkB S p) else Sum.elim (fun b => .inl b) (fun x => spRd k S fu x.2.1 x.2.2 x.1) (spGo k S L c (tkE S p))) = .inl (tkB S p) := by
        rw [if_pos g3, ite_self]
      rw [e]
      exact ErP.err hL.1 rfl (BAt.mk' hp)
    rw [if_neg g3, if_pos rfl, if_neg g3, w2, Option.bind_some]
    by_cases g2 : tkK S p = 2
    case neg =>
      rw [if_neg (fun hh => g2 ((kd_2 hp).mpr hh)), if_pos rfl, if_pos g2, erStop, OK_some]
      exact ErP.err hL.1 rfl (BAt.mk' hp)
    obtain ⟨hc, rfl, rfl, rfl⟩ := hl g3
    rw [if_pos ((kd_2 hp).mp g2), if_neg (show ¬ (1 : Int32) = 0 by decide), if_neg (show ¬ ¬ tkK S p = 2 from fun hh => hh g2), OK_bind]
    refine OK.mono (goM hN h hd b1.2.2.1 hD hc hL) ?_
    rintro ⟨v1, v2, v3, v4, v5, v6, v7, v8, v9⟩ ⟨e1, e2, e3⟩
    simp only at e1 e2 e3 ⊢
    have hok := fun p' L' c' => spGo_ok (p' := p') (L' := L') (c' := c') hD hc g3 b1.2.2.1
    generalize spGo k S L c (tkE S p) = sp at e2 e3 hok ⊢
    rcases sp with b | ⟨p', L', c'⟩
    · obtain ⟨rfl, q2⟩ := e2 b rfl
      rw [if_pos rfl, erStop, OK_some, Sum.elim_inl]
      exact ErP.err e1 rfl q2
    · obtain ⟨rfl, rfl, ⟨rfl, rfl, rfl⟩, e4⟩ := e3 p' L' c' rfl
      obtain ⟨o1, o2, o3, o4, o5⟩ := hok p' L' c' rfl
      rw [if_neg (show ¬ (1 : Int32) = 0 by decide), tokM hN h o2, Option.bind_some, Sum.elim_inr]
      have hi := ih (fm + 1) fu L' c' p' (iI c'.1) (iI c'.2.1) (iI c'.2.2) v2 v9 (by omega) (by omega) (by omega) o2 o3 e4 (fun _ => ⟨o4, rfl, rfl, rfl⟩)
      rw [if_neg o5] at hi
      exact hi
/-- what the reference makes of a text -/
theorem errM (hN : 2000 ≤ N) (h : TX S mt ty) (hd : DK k d) (hr : rd.length = 12) : OK (f_X12_error N d rd mt ty lq lr lt) (fun u => u.2.1.length = 12 ∧ (∀ b, spRd k S 100 [] (0, 0, 0) 0 = .inl b → u.1 = iI (b : Nat)) ∧ (∀ L', spRd k S 100 [] (0, 0, 0) 0 = .inr L' → u.1 = -1 ∧ MRd L' u.2.1 u.2.2.2.2.2.2.2.2 ∧ Dr k L')) := by
  have h80 := h.1
  unfold f_X12_error
  have t0 : f_X12_token N mt ty 0 = _ := tokM (p := 0) hN h (by omega)
  rw [t0, Option.bind_some, OK_bind]
  have he := erLM hN h hd S.length N 100 [] (0, 0, 0) 0 lq lr lt rd 0 (by omega) (by omega) (by omega) (by omega) ⟨hd.1, List.nodup_nil, by simp, by simp⟩ ⟨hr, rfl, fun i c hh => by simp at hh⟩ (fun hh => absurd rfl hh)
  rw [if_pos rfl] at he
  refine OK.mono he ?_
  rintro ⟨v1, v2, v3, v4, v5, v6, v7, v8, v9⟩ ⟨e1, e2, e3⟩
  simp only at e1 e2 e3 ⊢
  generalize spRd k S 100 [] (0, 0, 0) 0 = sp at e2 e3 ⊢
  rcases sp with b | L'
  · obtain ⟨rfl, q, hq, rfl, rfl, rfl⟩ := e2 b rfl
    have h9 := tkS_le (S := S) (p := q)
    rw [if_pos rfl]
    by_cases g : tkS S q = 0
    · rw [if_pos (show iI (tkS S q : Nat) = 0 by rw [g]; rfl), OK_some]
      exact ⟨e1, fun b hb => by cases hb; show ty = _; rw [h.2.2.1, (tk_bd hq).2.2.2.2.mp ((sk_0 hq).mp g)], fun L' h => by cases h⟩
    · rw [if_neg (show ¬ iI (tkS S q : Nat) = 0 by rw [li0]; exact iI_eqF (by omega) (by omega) (by omega) (by omega) (by omega)), OK_some]
      exact ⟨e1, fun b hb => by cases hb; rfl, fun L' h => by cases h⟩
  · obtain ⟨rfl, q2, q3⟩ := e3 L' rfl
    rw [if_neg (show ¬ (1 : Int32) = 0 by decide), OK_some]
    exact ⟨e1, (fun b hb => by cases hb), fun L' h => by cases h; exact ⟨rfl, q2, q3⟩⟩
end
