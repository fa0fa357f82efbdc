/-! the reference's images -/
def IM (F : Nat → List Cl) (n : Nat) (im : List Int32) : Prop := im.length = 144 ∧ ∀ i, i < n → ∀ j c, (F i)[j]? = some c → im[12 * i + j]? = some (iI (plc c))
section
variable {N k : Nat} {L X : List Cl} {q r t d im : List Int32}
theorem MR.len (h : MR L q r t) : q.length = 16 ∧ r.length = 16 ∧ t.length = 16 := ⟨h.1, h.2.1, h.2.2.1⟩
theorem mTurns (hN : 100 ≤ N) (hm : MR X q r t) (hd : DK k d) (hok : ∀ x ∈ X, okT k x.2.2) {i : Nat} (hi : i < 20) : OK (f_X12_images_L32 N (iI i) d (iI X.length) N 0 q r t) (fun u => MR (X.map (trnN k (i % tur k))) u.1 u.2.1 u.2.2) := by
  have ht := tur_pos (k := k)
  have hlt := Nat.mod_lt i ht.1
  refine zlp4 (i % tur k) (fun j v q r t => v = iI j ∧ MR (X.map (trnN k j)) q r t) ?_ N 0 _ _ _ _ (by omega) (by omega) ⟨rfl, ?_⟩
  case refine_2 =>
    rw [show trnN k 0 = id from rfl, List.map_id]
    exact hm
  rintro fu j v q r t hj ⟨rfl, hm⟩ ih
  rw [f_X12_images_L32, mTur hd]
  simp only [Option.bind_some]
  rw [li0, if_neg (iI_eqF (by omega) (by omega) (by omega) (by omega) (by omega)), iI_rem (by omega) (by omega) (by omega) (by omega)]
  have ec : ((i : Int) % (tur k : Int)) = ((i % tur k : Nat) : Int) := rfl
  rw [ec]
  rcases Nat.lt_or_ge j (i % tur k) with h | h
  · rw [if_pos (iI_ltT (by omega) (by omega) (by omega)), OK_bind]
    have el : X.length = (X.map (trnN k j)).length := by rw [List.length_map]
    rw [el]
    refine (mTrn hm hd (by omega) (fun x hx => ?_)).mono (fun u hu => ?_)
    · obtain ⟨y, hy, rfl⟩ := List.mem_map.mp hx
      exact trnN_okT hd.1 j (hok y hy)
    · rw [← el, iI_succ]
      refine ih h _ _ _ _ ⟨rfl, ?_⟩
      rw [List.map_map] at hu
      exact hu
  · have e : j = i % tur k := by omega
    rw [if_neg (iI_ltF (by omega) (by omega) (by omega)), OK_some, ← e]
    exact hm
theorem mRow (hN : 100 ≤ N) (hm : MR X q r t) (hX : X.length ≤ 12) (him : im.length = 144) {i : Nat} (hi : i < 12) : OK (f_X12_images_L75 N (iI i) (iI X.length) q r t N 0 im) (fun u => u.length = 144 ∧ (∀ j c, X[j]? = some c → u[12 * i + j]? = some (iI (plc c))) ∧ ∀ p, (p < 12 * i ∨ 12 * i + 12 ≤ p) → u[p]? = im[p]?) := by
  refine zlp2 X.length (fun j v u => v = iI j ∧ u.length = 144 ∧ (∀ m c, m < j → X[m]? = some c → u[12 * i + m]? = some (iI (plc c))) ∧ ∀ p, (p < 12 * i ∨ 12 * i + 12 ≤ p) → u[p]? = im[p]?) ?_ N 0 _ _ (by omega) (by omega) ⟨rfl, him, fun m c h => by omega, fun p _ => rfl⟩
  rintro fu j v u hj ⟨rfl, h1, h2, h3⟩ ih
  rw [f_X12_images_L75]
  rcases Nat.lt_or_ge j X.length with h | h
  · obtain ⟨x, hx⟩ := gL h
    rw [if_pos (iI_ltT (by omega) (by omega) (by omega)), mPlace hm hx]
    simp only [Option.bind_some]
    have e : (12 : Int32) * iI (i : Int) + iI (j : Int) = iI ((12 * i + j : Nat) : Int) := by
      rw [li12, iI_mul, iI_add]
      congr 1
    rw [e, sI (by omega) (by omega)]
    simp only [Option.bind_some]
    rw [iI_succ]
    refine ih h _ _ ⟨rfl, by simp [h1], fun m c hm hc => ?_, fun p hp => ?_⟩
    · rcases Nat.lt_or_ge m j with g | g
      · exact st1 (h2 m c g hc) (by omega)
      · have : m = j := by omega
        subst this
        rw [hx] at hc
        cases hc
        exact st0 (by omega)
    · rw [List.getElem?_set_ne (by omega)]
      exact h3 p hp
  · have e : j = X.length := by omega
    subst e
    rw [if_neg (iI_ltF (by omega) (by omega) (by omega)), OK_some]
    exact ⟨h1, fun m c hc => h2 m c (lt_of_get hc) hc, h3⟩
/-- all images of the held set -/
theorem mImages {a b c : List Int32} {n : Int32} (hN : 100 ≤ N) (h : Sm k L) (hd : DK k d) (hh : MR L a b c) (hq : q.length = 16) (hr : r.length = 16) (ht : t.length = 16) (him : im.length = 144) :
    OK (f_X12_images N d n q r t a b c (iI L.length) im) (fun u => (((∃ i, i < 2 * tur k ∧ wide (img k L i)) ∧ u.1 = 1) ∨ (¬ (∃ i, i < 2 * tur k ∧ wide (img k L i)) ∧ u.1 = 0)) ∧ u.2.2.1.length = 16 ∧ u.2.2.2.1.length = 16 ∧ u.2.2.2.2.1.length = 16 ∧ IM (img k L) (2 * tur k) u.2.2.2.2.2) := by
  have htu := tur_pos (k := k)
  have hl := h.2.2.2.1
  unfold f_X12_images
  rw [OK_bind]
  refine OK.mono (Q := fun u => (((∃ i, i < 2 * tur k ∧ wide (img k L i)) ∧ u.1 = 1) ∨ (¬ (∃ i, i < 2 * tur k ∧ wide (img k L i)) ∧ u.1 = 0)) ∧ u.2.2.1.length = 16 ∧ u.2.2.2.1.length = 16 ∧ u.2.2.2.2.1.length = 16 ∧ IM (img k L) (2 * tur k) u.2.2.2.2.2) ?_ ?_
  · refine zlp7 (2 * tur k) (fun i w v n q r t im => v = iI i ∧ (((∃ j, j < i ∧ wide (img k L j)) ∧ w = 1) ∨ (¬ (∃ j, j < i ∧ wide (img k L j)) ∧ w = 0)) ∧ q.length = 16 ∧ r.length = 16 ∧ t.length = 16 ∧ IM (img k L) i im) ?_ N 0 _ _ _ _ _ _ _ (by omega) (by omega) ⟨rfl, Or.inr ⟨fun ⟨j, hj, _⟩ => by omega, rfl⟩, hq, hr, ht, him, fun i hi => by omega⟩
    rintro fu i w v n q r t im hi ⟨rfl, hw, hq, hr, ht, hIM⟩ ih
    rw [f_X12_images_L4, mTur hd]
    simp only [Option.bind_some]
    rw [li2, iI_mul]
    rcases Nat.lt_or_ge i (2 * tur k) with hlt | hge
    · rw [if_pos (iI_ltT (by omega) (by omega) (by omega)), OK_bind]
      refine (mTakesHeld hh (by omega) hq hr ht).mono ?_
      rintro ⟨n2, q2, r2, t2⟩ ⟨rfl, hm2⟩
      simp only at hm2
      -- what happens once the image is settled
      have tail : ∀ (q3 r3 t3 : List Int32), MR (img k L i) q3 r3 t3 → OK (if w = 0 then (f_X12_isWide N (iI L.length) q3 r3).bind fun u13 => if u13 = 0 then (f_X12_images_L75 N (iI i) (iI L.length) q3 r3 t3 N 0 im).bind fun e18 => f_X12_images_L4 N d a b c (iI L.length) fu 0 (iI i + 1) (iI L.length) q3 r3 t3 e18 else (f_X12_images_L75 N (iI i) (iI L.length) q3 r3 t3 N 0 im).bind fun e19 => f_X12_images_L4 N d a b c (iI L.length) fu 1 (iI i + 1) (iI L.length) q3 r3 t3 e19 else (f_X12_images_L75 N (iI i) (iI L.length) q3 r3 t3 N 0 im).bind fun e20 => f_X12_images_L4 N d a b c (iI L.length) fu 1 (iI i + 1) (iI L.length) q3 r3 t3 e20) (fun u => (((∃ i, i < 2 * tur k ∧ wide (img k L i)) ∧ u.1 = 1) ∨ (¬ (∃ i, i < 2 * tur k ∧ wide (img k L i)) ∧ u.1 = 0)) ∧ u.2.2.1.length = 16 ∧ u.2.2.2.1.length = 16 ∧ u.2.2.2.2.1.length = 16 ∧ IM (img k L) (2 * tur k) u.2.2.2.2.2) := by
        intro q3 r3 t3 hm3
        have hil : (img k L i).length = L.length := img_len i
        have next : ∀ w', (((∃ j, j < i + 1 ∧ wide (img k L j)) ∧ w' = 1) ∨ (¬ (∃ j, j < i + 1 ∧ wide (img k L j)) ∧ w' = 0)) → OK ((f_X12_images_L75 N (iI i) (iI L.length) q3 r3 t3 N 0 im).bind fun e18 => f_X12_images_L4 N d a b c (iI L.length) fu w' (iI i + 1) (iI L.length) q3 r3 t3 e18) (fun u => (((∃ i, i < 2 * tur k ∧ wide (img k L i)) ∧ u.1 = 1) ∨ (¬ (∃ i, i < 2 * tur k ∧ wide (img k L i)) ∧ u.1 = 0)) ∧ u.2.2.1.length = 16 ∧ u.2.2.2.1.length = 16 ∧ u.2.2.2.2.1.length = 16 ∧ IM (img k L) (2 * tur k) u.2.2.2.2.2) := by
          intro w' hw'
          rw [OK_bind]
          have := mRow (N := N) hN hm3 (by omega) hIM.1 (i := i) (by omega)
          rw [hil] at this
          refine this.mono (fun e he => ?_)
          rw [iI_succ]
          refine ih hlt _ _ _ _ _ _ _ ⟨rfl, hw', hm3.1, hm3.2.1, hm3.2.2.1, he.1, fun j hj m x hx => ?_⟩
          rcases Nat.lt_or_ge j i with g | g
          · have hmx := lt_of_get hx
            rw [img_len] at hmx
            rw [he.2.2 _ (Or.inl (by omega))]
            exact hIM.2 j g m x hx
          · have : j = i := by omega
            subst this
            exact he.2.1 m x hx
        rcases hw with ⟨hw, rfl⟩ | ⟨hw, rfl⟩
        · rw [if_neg (by decide)]
          obtain ⟨j, hj, hw⟩ := hw
          exact next 1 (Or.inl ⟨⟨j, by omega, hw⟩, rfl⟩)
        · rw [if_pos rfl, OK_bind]
          have := mWide (N := N) hm3 (by omega) (img_Nf h i).ok
          rw [hil] at this
          refine this.mono (fun u hu => ?_)
          rcases hu with ⟨hu, rfl⟩ | ⟨hu, rfl⟩
          · rw [if_neg (by decide)]
            exact next 1 (Or.inl ⟨⟨i, by omega, hu⟩, rfl⟩)
          · rw [if_pos rfl]
            refine next 0 (Or.inr ⟨fun ⟨j, hj, hjw⟩ => ?_, rfl⟩)
            rcases Nat.lt_or_ge j i with g | g
            · exact hw ⟨j, g, hjw⟩
            · rw [show j = i by omega] at hjw; exact hu hjw
      have hsym : ∀ (Y : List Cl) (q3 r3 t3 : List Int32), Y.map (trnN k (i % tur k)) = L.map (sym k i) → MR (Y.map (trnN k (i % tur k))) q3 r3 t3 → OK (f_X12_settles N (iI L.length) q3 r3 t3) (fun u => MR (img k L i) u.1 u.2.1 u.2.2) := by
        intro Y q3 r3 t3 hY hm3
        rw [hY] at hm3
        have := mSet (N := N) hm3 (by omega) (fg_sym h i).ne (sym_ok h i) (fg_sym h i).ok
        rw [List.length_map] at this
        exact this
      rw [OK_ite]
      refine ⟨fun e => ?_, fun e => ?_⟩
      · rw [iI_lt (by omega) (by omega) (by omega) (by omega)] at e
        rw [OK_bind]
        refine (mTurns hN hm2 hd (fun x hx => (h.2.2.2.2 x hx).1) (i := i) (by omega)).mono ?_
        rintro ⟨q3, r3, t3⟩ hm3
        rw [OK_bind]
        refine (hsym L q3 r3 t3 ?_ hm3).mono ?_
        · apply List.map_congr_left
          intro x _
          unfold sym
          rw [if_pos (by omega)]
        · rintro ⟨q4, r4, t4⟩ hm4
          exact tail q4 r4 t4 hm4
      · rw [iI_lt (by omega) (by omega) (by omega) (by omega)] at e
        rw [OK_bind]
        refine (mMir hm2 (by omega)).mono ?_
        rintro ⟨q3, r3⟩ hm3
        rw [OK_bind]
        have := mTurns (N := N) hN hm3 hd (fun x hx => by
          obtain ⟨y, hy, rfl⟩ := List.mem_map.mp hx
          exact (h.2.2.2.2 y hy).1) (i := i) (by omega)
        rw [List.length_map] at this
        refine this.mono ?_
        rintro ⟨q4, r4, t4⟩ hm4
        rw [OK_bind]
        refine (hsym (L.map mir) q4 r4 t4 ?_ hm4).mono ?_
        · rw [List.map_map]
          apply List.map_congr_left
          intro x _
          unfold sym
          rw [if_neg (by omega)]
          rfl
        · rintro ⟨q5, r5, t5⟩ hm5
          exact tail q5 r5 t5 hm5
    · have e0 : i = 2 * tur k := by omega
      subst e0
      rw [if_neg (iI_ltF (by omega) (by omega) (by omega)), OK_some]
      exact ⟨hw, hq, hr, ht, hIM⟩
  · rintro ⟨w, n2, q2, r2, t2, im2⟩ ⟨hw, h2⟩
    rw [if_pos (by rcases hw with ⟨_, h⟩ | ⟨_, h⟩; exact Or.inr h; exact Or.inl h), OK_some]
    exact ⟨hw, h2⟩
section
variable {F : Nat → List Cl} {n m : Nat}
theorem mCmp (hN : 100 ≤ N) (h : IM F n im) (hl : ∀ i, (F i).length = m) (hm : m ≤ 12) (ho : ∀ i, ∀ x ∈ F i, 0 ≤ x.1 ∧ x.1 ≤ 11 ∧ 0 ≤ x.2.1 ∧ x.2.1 ≤ 11 ∧ 0 ≤ x.2.2 ∧ x.2.2 < 2) (hn : n ≤ 12) {a b : Nat} (ha : a < n) (hb : b < n) : ∃ z : Int, f_X12_compared N (iI a) (iI b) (iI m) im = some (iI z) ∧ (z < 0 ↔ lx (F a) (F b) < 0) ∧ (z = 0 ↔ F a = F b) ∧ -8192 < z ∧ z < 8192 := by
  have sg := lxg_sgn (f := plc) (g := cd) (R := fun x => 0 ≤ x.1 ∧ x.1 ≤ 11 ∧ 0 ≤ x.2.1 ∧ x.2.1 ≤ 11 ∧ 0 ≤ x.2.2 ∧ x.2.2 < 2) (fun x y hx hy => plc_cd ⟨hx.1, by omega⟩ ⟨hy.1, by omega⟩ ⟨hx.2.2.2.2.1, hx.2.2.2.2.2⟩ ⟨hy.2.2.2.2.1, hy.2.2.2.2.2⟩) (ho a) (ho b)
  have ok : ∀ i, ∀ x ∈ F i, ok32 x := fun i x hx => by
    obtain ⟨h1, h2, h3, h4, h5, h6⟩ := ho i x hx
    exact ⟨by omega, by omega, by omega, by omega, h5, h6⟩
  have hq := lx_eq (A := F a) (B := F b) (by rw [hl, hl]) (ok a) (ok b)
  have hrng : ∀ (A B : List Cl), (∀ x ∈ A, 0 ≤ x.1 ∧ x.1 ≤ 11 ∧ 0 ≤ x.2.1 ∧ x.2.1 ≤ 11 ∧ 0 ≤ x.2.2 ∧ x.2.2 < 2) → (∀ x ∈ B, 0 ≤ x.1 ∧ x.1 ≤ 11 ∧ 0 ≤ x.2.1 ∧ x.2.1 ≤ 11 ∧ 0 ≤ x.2.2 ∧ x.2.2 < 2) → -8192 < lxg plc A B ∧ lxg plc A B < 8192 := by
    intro A
    induction A with
    | nil => intro B _ _; cases B <;> exact ⟨show (-8192 : Int) < 0 by decide, show (0 : Int) < 8192 by decide⟩
    | cons x A ih =>
      intro B hA hB
      cases B with
      | nil => exact ⟨show (-8192 : Int) < 0 by decide, show (0 : Int) < 8192 by decide⟩
      | cons y B =>
        rw [lxg]
        split
        · exact ih B (fun z hz => hA z (by simp [hz])) (fun z hz => hB z (by simp [hz]))
        · have := hA x (by simp)
          have := hB y (by simp)
          unfold plc
          omega
  have hr := hrng _ _ (ho a) (ho b)
  refine ⟨lxg plc (F a) (F b), ?_, by rw [sg.1]; rfl, by rw [sg.2]; exact hq, hr.1, hr.2⟩
  suffices hs : OK (f_X12_compared N (iI a) (iI b) (iI m) im) (fun u => u = iI (lxg plc (F a) (F b))) by
    obtain ⟨w, e, rfl⟩ := hs; exact e
  unfold f_X12_compared
  rw [OK_bind]
  refine zlp1 m (fun i v => v = iI i ∧ ∀ j, j < i → (F a)[j]? = (F b)[j]?) ?_ N 0 _ (by omega) (by omega) ⟨rfl, fun j hj => by omega⟩
  rintro fu i v hi ⟨rfl, hp⟩ ih
  rw [f_X12_compared_L2]
  rcases Nat.lt_or_ge i m with hlt | hge
  · obtain ⟨x, hx⟩ := gL (show i < (F a).length by rw [hl]; exact hlt)
    obtain ⟨y, hy⟩ := gL (show i < (F b).length by rw [hl]; exact hlt)
    have e1 : (12 : Int32) * iI (a : Int) + iI (i : Int) = iI ((12 * a + i : Nat) : Int) := by
      rw [li12, iI_mul, iI_add]; congr 1
    have e2 : (12 : Int32) * iI (b : Int) + iI (i : Int) = iI ((12 * b + i : Nat) : Int) := by
      rw [li12, iI_mul, iI_add]; congr 1
    have hlen := h.1
    rw [if_pos (iI_ltT (by omega) (by omega) (by omega)), e1, e2, gI (h.2 a ha i x hx) (by omega), gI (h.2 b hb i y hy) (by omega)]
    simp only [Option.bind_some]
    have o1 := ho a x (List.mem_of_getElem? hx)
    have o2 := ho b y (List.mem_of_getElem? hy)
    have pr : -4096 < plc x - plc y ∧ plc x - plc y < 4096 := by unfold plc; omega
    rw [iI_sub, iI_succ, OK_ite, li0, iI_eq (by omega) (by omega) (by omega) (by omega)]
    refine ⟨fun e => ih hlt _ ⟨rfl, fun j hj => ?_⟩, fun e => ?_⟩
    · rcases Nat.lt_or_ge j i with g | g
      · exact hp j g
      · have hxy : x = y := by
          obtain ⟨x1, x2, x3⟩ := x
          obtain ⟨y1, y2, y3⟩ := y
          simp only [plc] at e o1 o2
          have g1 : x2 = y2 := by omega
          have g2 : x1 = y1 := by omega
          have g3 : x3 = y3 := by omega
          rw [g1, g2, g3]
        rw [show j = i by omega, hx, hy, hxy]
    · rw [OK_some]
      show OK (some _) _
      rw [OK_some, ← lxg_at (f := plc) i hx hy hp e]
  · have e0 : i = m := by omega
    subst e0
    rw [if_neg (iI_ltF (by omega) (by omega) (by omega)), OK_some]
    show OK (some _) _
    rw [OK_some]
    have : F a = F b := List.ext_getElem? (fun j => by
      rcases Nat.lt_or_ge j i with g | g
      · exact hp j g
      · rw [List.getElem?_eq_none (by rw [hl]; exact g), List.getElem?_eq_none (by rw [hl]; exact g)])
    rw [this, lxg_self]
    rfl
theorem mSym (hN : 100 ≤ N) (hd : DK k d) (h : IM F (2 * tur k) im) (hl : ∀ i, (F i).length = m) (hm : m ≤ 12) (ho : ∀ i, ∀ x ∈ F i, 0 ≤ x.1 ∧ x.1 ≤ 11 ∧ 0 ≤ x.2.1 ∧ x.2.1 ≤ 11 ∧ 0 ≤ x.2.2 ∧ x.2.2 < 2) : f_X12_symmetries N d (iI m) im = some (iI (symN F (2 * tur k))) := by
  suffices hs : OK (f_X12_symmetries N d (iI m) im) (fun u => u = iI (symN F (2 * tur k))) by
    obtain ⟨w, e, rfl⟩ := hs; exact e
  have htu := tur_pos (k := k)
  unfold f_X12_symmetries
  rw [OK_bind]
  refine zlp2 (2 * tur k) (fun i c v => v = iI i ∧ c = iI (symN F i)) ?_ N 0 _ _ (by omega) (by omega) ⟨rfl, rfl⟩
  rintro fu i c v hi ⟨rfl, rfl⟩ ih
  rw [f_X12_symmetries_L4, mTur hd]
  simp only [Option.bind_some]
  rw [li2, iI_mul]
  rcases Nat.lt_or_ge i (2 * tur k) with hlt | hge
  · obtain ⟨z, z1, z2, z3, z4, z5⟩ := mCmp (N := N) hN h hl hm ho (by omega) hlt (show 0 < 2 * tur k by omega)
    rw [if_pos (iI_ltT (by omega) (by omega) (by omega)), show (0 : Int32) = iI ((0 : Nat) : Int) from rfl, z1]
    simp only [Option.bind_some]
    have e1 : symN F (i + 1) = symN F i + (if decide (F i = F 0) then 1 else 0) := rfl
    rw [OK_ite, iI_eq (by omega) (by omega) (by omega) (by omega)]
    refine ⟨fun e => ih hlt _ _ ⟨by rw [iI_succ], ?_⟩, fun e => ih hlt _ _ ⟨by rw [iI_succ], ?_⟩⟩
    · rw [iI_succ, e1, decide_eq_true (z3.mp e)]
      rfl
    · rw [iI_add, e1, decide_eq_false (fun e2 => e (z3.mpr e2))]
      rfl
  · have e0 : i = 2 * tur k := by omega
    subst e0
    rw [if_neg (iI_ltF (by omega) (by omega) (by omega)), OK_some, OK_some]
theorem mDif (hN : 100 ≤ N) (hd : DK k d) (h : IM F (2 * tur k) im) (hl : ∀ i, (F i).length = m) (hm : m ≤ 12) (ho : ∀ i, ∀ x ∈ F i, 0 ≤ x.1 ∧ x.1 ≤ 11 ∧ 0 ≤ x.2.1 ∧ x.2.1 ≤ 11 ∧ 0 ≤ x.2.2 ∧ x.2.2 < 2) : f_X12_differentImages N d (iI m) im = some (iI (difN F (2 * tur k))) := by
  suffices hs : OK (f_X12_differentImages N d (iI m) im) (fun u => u = iI (difN F (2 * tur k))) by
    obtain ⟨w, e, rfl⟩ := hs; exact e
  have htu := tur_pos (k := k)
  unfold f_X12_differentImages
  rw [OK_bind]
  refine zlp2 (2 * tur k) (fun i c v => v = iI i ∧ c = iI (difN F i)) ?_ N 0 _ _ (by omega) (by omega) ⟨rfl, rfl⟩
  rintro fu i c v hi ⟨rfl, rfl⟩ ih
  rw [f_X12_differentImages_L4, mTur hd]
  simp only [Option.bind_some]
  rw [li2, iI_mul]
  rcases Nat.lt_or_ge i (2 * tur k) with hlt | hge
  · rw [if_pos (iI_ltT (by omega) (by omega) (by omega)), OK_bind]
    refine OK.mono (Q := fun u => ((∀ j, j < i → F j ≠ F i) ∧ u = 1) ∨ (¬ (∀ j, j < i → F j ≠ F i) ∧ u = 0)) ?_ (fun u hu => ?_)
    · refine zlp2 i (fun j c v => v = iI j ∧ (((∀ x, x < j → F x ≠ F i) ∧ c = 1) ∨ (¬ (∀ x, x < j → F x ≠ F i) ∧ c = 0))) ?_ N 0 _ _ (by omega) (by omega) ⟨rfl, Or.inl ⟨fun x hx => by omega, rfl⟩⟩
      rintro fu j c v hj ⟨rfl, hc⟩ ih
      rw [f_X12_differentImages_L19]
      rcases Nat.lt_or_ge j i with hji | hji
      · rw [if_pos (iI_ltT (by omega) (by omega) (by omega)), iI_succ]
        rcases hc with ⟨hc, rfl⟩ | ⟨hc, rfl⟩
        · rw [if_neg (by decide)]
          obtain ⟨z, z1, z2, z3, z4, z5⟩ := mCmp (N := N) hN h hl hm ho (by omega) hlt (show j < 2 * tur k by omega)
          rw [z1]
          simp only [Option.bind_some]
          rw [OK_ite, li0, iI_eq (by omega) (by omega) (by omega) (by omega), z3]
          refine ⟨fun e => ih hji _ _ ⟨rfl, Or.inr ⟨fun hall => hall j (by omega) e.symm, rfl⟩⟩, fun e => ih hji _ _ ⟨rfl, Or.inl ⟨fun x hx => ?_, rfl⟩⟩⟩
          rcases Nat.lt_or_ge x j with g | g
          · exact hc x g
          · rw [show x = j by omega]; exact fun e2 => e e2.symm
        · rw [if_pos rfl]
          exact ih hji _ _ ⟨rfl, Or.inr ⟨fun hall => hc (fun x hx => hall x (by omega)), rfl⟩⟩
      · have e0 : j = i := by omega
        subst e0
        rw [if_neg (iI_ltF (by omega) (by omega) (by omega)), OK_some]
        exact hc
    · have e1 : difN F (i + 1) = difN F i + (if decide (∀ j, j < i → F j ≠ F i) then 1 else 0) := rfl
      rcases hu with ⟨hp, rfl⟩ | ⟨hp, rfl⟩
      · rw [if_neg (by decide)]
        exact ih hlt _ _ ⟨by rw [iI_succ], by rw [iI_succ, e1, decide_eq_true hp]; rfl⟩
      · rw [if_pos rfl]
        exact ih hlt _ _ ⟨by rw [iI_succ], by rw [li0, iI_add, e1, decide_eq_false hp]; rfl⟩
  · have e0 : i = 2 * tur k := by omega
    subst e0
    rw [if_neg (iI_ltF (by omega) (by omega) (by omega)), OK_some, OK_some]
theorem mLeast (hN : 100 ≤ N) (hd : DK k d) (h : IM F (2 * tur k) im) (hl : ∀ i, (F i).length = m) (hm : m ≤ 12) (ho : ∀ i, ∀ x ∈ F i, 0 ≤ x.1 ∧ x.1 ≤ 11 ∧ 0 ≤ x.2.1 ∧ x.2.1 ≤ 11 ∧ 0 ≤ x.2.2 ∧ x.2.2 < 2) : f_X12_leastImage N d (iI m) im = some (iI (bst F (2 * tur k))) := by
  suffices hs : OK (f_X12_leastImage N d (iI m) im) (fun u => u = iI (bst F (2 * tur k))) by
    obtain ⟨w, e, rfl⟩ := hs; exact e
  have htu := tur_pos (k := k)
  unfold f_X12_leastImage
  rw [OK_bind]
  refine zlp2 (2 * tur k - 1) (fun i c v => v = iI ((i + 1 : Nat) : Int) ∧ c = iI (bst F (i + 1))) ?_ N 0 _ _ (by omega) (by omega) ⟨rfl, ?_⟩
  case refine_2 =>
    show iI 0 = iI ((if lx (F 0) (F 0) < 0 then 0 else 0 : Nat) : Int)
    split <;> rfl
  rintro fu i c v hi ⟨rfl, rfl⟩ ih
  rw [f_X12_leastImage_L4, mTur hd]
  simp only [Option.bind_some]
  rw [li2, iI_mul]
  have hb := bst_lt (F := F) (n := i + 1) (by omega)
  rcases Nat.lt_or_ge (i + 1) (2 * tur k) with hlt | hge
  · obtain ⟨z, z1, z2, z3, z4, z5⟩ := mCmp (N := N) hN h hl hm ho (by omega) hlt (show bst F (i + 1) < 2 * tur k by omega)
    rw [if_pos (iI_ltT (by omega) (by omega) (by omega)), z1]
    simp only [Option.bind_some]
    rw [OK_ite, li0, iI_lt (by omega) (by omega) (by omega) (by omega), iI_succ, z2]
    have eb : bst F (i + 1 + 1) = if lx (F (i + 1)) (F (bst F (i + 1))) < 0 then i + 1 else bst F (i + 1) := rfl
    refine ⟨fun e => ih (by omega) _ _ ⟨rfl, by rw [eb, if_pos e]⟩, fun e => ih (by omega) _ _ ⟨rfl, by rw [eb, if_neg e]⟩⟩
  · have e0 : i + 1 = 2 * tur k := by omega
    rw [if_neg (iI_ltF (by omega) (by omega) (by omega)), OK_some, OK_some, e0]
theorem mTakesImage (hN : 100 ≤ N) (h : IM F n im) (hn : n ≤ 12) (hl : ∀ i, (F i).length = m) (hm : m ≤ 12) (ho : ∀ i, ∀ x ∈ F i, 0 ≤ x.1 ∧ x.1 ≤ 11 ∧ 0 ≤ x.2.1 ∧ x.2.1 ≤ 11 ∧ 0 ≤ x.2.2 ∧ x.2.2 < 2) {i : Nat} (hi : i < n) (hq : q.length = 16) (hr : r.length = 16) (ht : t.length = 16) : OK (f_X12_takesImage N (iI i) q r t (iI m) im) (fun u => u.1 = iI m ∧ MR (F i) u.2.1 u.2.2.1 u.2.2.2) := by
  unfold f_X12_takesImage
  rw [OK_bind]
  refine zlp4 m (fun j v q r t => v = iI j ∧ MR ((F i).take j) q r t) ?_ N 0 _ _ _ _ (by omega) (by omega) ⟨rfl, MR.nil hq hr ht⟩
  rintro fu j v q r t hj ⟨rfl, hm2⟩ ih
  rw [f_X12_takesImage_L10]
  rcases Nat.lt_or_ge j m with hlt | hge
  · obtain ⟨x, hx⟩ := gL (show j < (F i).length by rw [hl]; exact hlt)
    have e1 : (12 : Int32) * iI (i : Int) + iI (j : Int) = iI ((12 * i + j : Nat) : Int) := by
      rw [li12, iI_mul, iI_add]; congr 1
    have hlen := h.1
    have o1 := ho i x (List.mem_of_getElem? hx)
    have pr : 0 ≤ plc x ∧ plc x < 8192 := by unfold plc; omega
    rw [if_pos (iI_ltT (by omega) (by omega) (by omega)), e1, gI (h.2 i hi j x hx) (by omega)]
    simp only [Option.bind_some]
    rw [show (64 : Int32) = iI 64 from rfl, li2, iI_rem pr.1 (by omega) (by omega) (by omega), iI_rem pr.1 (by omega) (by omega) (by omega), iI_div pr.1 (by omega) (by omega) (by omega), iI_div (by omega) (by omega) (by omega) (by omega)]
    have ex : plc x / 64 = x.2.1 ∧ plc x % 64 / 2 = x.1 ∧ plc x % 2 = x.2.2 := by unfold plc; omega
    rw [ex.1, ex.2.1, ex.2.2, hm2.sr (by omega), hm2.sq (by omega), hm2.st (by omega)]
    simp only [Option.bind_some]
    rw [iI_succ]
    refine ih hlt _ _ _ _ ⟨rfl, ?_⟩
    have hlen : ((F i).take j).length = j := by rw [List.length_take, hl]; omega
    have := hm2.push x (by omega)
    rw [hlen] at this
    rw [tk_next hx]
    exact this
  · have e0 : j = m := by omega
    subst e0
    rw [if_neg (iI_ltF (by omega) (by omega) (by omega)), OK_some, OK_some]
    refine ⟨rfl, hm2.congr ?_⟩
    rw [← hl i, List.take_length]
end
theorem Nf.rng (h : Nf k L) : ∀ x ∈ L, 0 ≤ x.1 ∧ x.1 ≤ 11 ∧ 0 ≤ x.2.1 ∧ x.2.1 ≤ 11 ∧ 0 ≤ x.2.2 ∧ x.2.2 < 2 := fun x hx => by
  obtain ⟨h1, h2, h3, h4, h5⟩ := h.2.2.2.2 x hx
  have ht := okT_rng h1
  exact ⟨h2, h3, h4, h5, ht.1, ht.2⟩
theorem can_NF (h : Sm k L) : NF k (can k L) := img_NF h _
theorem can_len : (can k L).length = L.length := img_len _
/-- the canonical form as a number -/
theorem mCanonical {a b c : List Int32} (hN : 100 ≤ N) (h : Sm k L) (h8 : L.length ≤ 8) (hd : DK k d) (hm : MR L q r t) (ha : a.length = 16) (hb : b.length = 16) (hc : c.length = 16) (him : im.length = 144) :
    OK (f_X12_canonical N d (iI L.length) q r t a b c im) (fun u => u.1 = lN (pck (can k L)) ∧ u.2.2.1.length = 16 ∧ u.2.2.2.1.length = 16 ∧ u.2.2.2.2.1.length = 16 ∧ u.2.2.2.2.2.1.length = 16 ∧ u.2.2.2.2.2.2.1.length = 16 ∧ u.2.2.2.2.2.2.2.1.length = 16 ∧ u.2.2.2.2.2.2.2.2.2.length = 144) := by
  have htu := tur_pos (k := k)
  have hl := h.2.2.2.1
  unfold f_X12_canonical
  rw [OK_bind]
  refine (mHolds hm (by omega) ha hb hc).mono ?_
  rintro ⟨a2, b2, c2, n2⟩ ⟨hh, hn2⟩
  simp only at hh hn2
  subst hn2
  simp only
  rw [OK_bind]
  refine (mImages hN h hd hh hm.1 hm.2.1 hm.2.2.1 him).mono ?_
  rintro ⟨w, n3, q3, r3, t3, im3⟩ ⟨_, h1, h2, h3, h4⟩
  simp only at h1 h2 h3 h4
  simp only
  have ho : ∀ i, ∀ x ∈ img k L i, 0 ≤ x.1 ∧ x.1 ≤ 11 ∧ 0 ≤ x.2.1 ∧ x.2.1 ≤ 11 ∧ 0 ≤ x.2.2 ∧ x.2.2 < 2 := fun i => (img_Nf h i).rng
  rw [mLeast hN hd h4 (fun i => img_len i) hl ho]
  simp only [Option.bind_some]
  rw [OK_bind]
  have hb := bst_lt (F := img k L) (n := 2 * tur k) (by omega)
  refine (mTakesImage hN h4 (by omega) (fun i => img_len i) hl ho hb h1 h2 h3).mono ?_
  rintro ⟨n4, q4, r4, t4⟩ ⟨e4, hm4⟩
  simp only at e4 hm4
  subst e4
  simp only
  have hk := (can_NF h).kk (by rw [can_len]; exact h8)
  have := mPacks (N := N) hm4 (by omega) hk
  rw [img_len] at this
  rw [this]
  simp only [Option.bind_some]
  rw [OK_some]
  exact ⟨rfl, hm4.1, hm4.2.1, hm4.2.2.1, hh.1, hh.2.1, hh.2.2.1, h4.1⟩
end
