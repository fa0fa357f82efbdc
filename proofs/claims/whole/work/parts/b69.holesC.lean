/-! the class's holes and borders -/
def HS (k : Nat) (W : Cl → Prop) (ix : Cl → Nat) (n : Nat) (v1 : Cl → Int) (Rp All : List Cl) (M : List Int32) : Prop := HI k (fun c => W c ∧ v1 c = 0) Rp All ∧ MK W ix n (fun c => if c ∈ All then 3 else v1 c) M
section
variable {N k : Nat} {W : Cl → Prop} {ix : Cl → Nat} {n : Nat} {v1 : Cl → Int} {Rp All Q : List Cl} {M M' : List Int32} {a : Cl}
theorem Rc.congr {S S' : Cl → Prop} {a x : Cl} (hs : ∀ y, S y ↔ S' y) : Rc k S a x ↔ Rc k S' a x := ⟨fun h => h.mono (fun y => (hs y).mp), fun h => h.mono (fun y => (hs y).mpr)⟩
theorem HS.flood (hk : k < 3) (hW : ∀ c, W c → okT k c.2.2) (h : HS k W ix n v1 Rp All M) (ha : W a) (hva : (if a ∈ All then (3 : Int) else v1 a) = 0) (hQ : Q.Nodup) (hQm : ∀ c, c ∈ Q ↔ Rc k (fun x => W x ∧ (if x ∈ All then (3 : Int) else v1 x) = 0) a c) (hM : MK W ix n (fun c => if c ∈ Q then 3 else if c ∈ All then 3 else v1 c) M') : HS k W ix n v1 (Rp ++ [a]) (All ++ Q) M' := by
  have hna : a ∉ All := fun hm => by rw [if_pos hm] at hva; omega
  rw [if_neg hna] at hva
  refine ⟨HI.step hk (fun y hy => hW y hy.1) h.1 ⟨ha, hva⟩ hna hQ (fun c => ?_), hM.1, fun c hc => ?_⟩
  · rw [hQm]
    refine Rc.congr (fun y => ?_)
    by_cases e : y ∈ All
    · rw [if_pos e]; constructor
      · rintro ⟨_, h⟩; omega
      · rintro ⟨_, h⟩; exact absurd e h
    · rw [if_neg e]
      exact ⟨fun h => ⟨h, e⟩, fun h => h.1⟩
  · rw [hM.2 c hc]
    show some (iI (if c ∈ Q then 3 else if c ∈ All then 3 else v1 c)) = some (iI (if c ∈ All ++ Q then 3 else v1 c))
    by_cases e1 : c ∈ Q
    · rw [if_pos e1, if_pos (List.mem_append_right _ e1)]
    · rw [if_neg e1]
      by_cases e2 : c ∈ All
      · rw [if_pos e2, if_pos (List.mem_append_left _ e2)]
      · rw [if_neg e2, if_neg (by simp [e1, e2])]
end
def HC (k : Nat) (m n : Int) (v1 : Cl → Int) (Rp All : List Cl) (M que : List Int32) (h hc : Int32) : Prop := HS k (Wn k (-1) (m + 1) (-1) (n + 1)) pI 384 v1 Rp All M ∧ que.length = 384 ∧ h = iI Rp.length ∧ hc = iI All.length
section
variable {N k : Nat} {X : List Cl} {m n : Int} {M que : List Int32} {v1 : Cl → Int} {Rp All : List Cl} {h hc : Int32}
theorem kin_cases : kin k = 1 ∨ kin k = 2 := by unfold kin; split <;> omega
theorem okT_kin {t : Int} : okT k t ↔ (0 ≤ t ∧ t < kin k) := by
  unfold okT kin
  split <;> omega
theorem holesT (hN : 1000 ≤ N) (hk : k < 3) (hm : 0 ≤ m ∧ m ≤ 9) (hn : 0 ≤ n ∧ n ≤ 9) (hv : ∀ c, 0 ≤ v1 c ∧ v1 c ≤ 3) {q r : Int} (hq : 0 ≤ q ∧ q ≤ m) (hr : 0 ≤ r ∧ r ≤ n) (hs : HC k m n v1 Rp All M que h hc) :
    OK (f_X9_countHoles_L37 N (iI r) (iI q) (iI (m + 1 + 2)) (iI (n + 1 + 2)) k N 0 M que h hc) (fun u => ∃ Rp' All', HC k m n v1 Rp' All' u.1 u.2.1 u.2.2.1 u.2.2.2 ∧ (∀ c ∈ All, c ∈ All') ∧ ∀ c, c.1 = q → c.2.1 = r → Wn k (-1) (m + 1) (-1) (n + 1) c → v1 c = 0 → c ∈ All') := by
  have hkin := kin_cases (k := k)
  refine zlp5 (kin k).toNat (fun i v M que h hc => v = iI i ∧ ∃ Rp' All', HC k m n v1 Rp' All' M que h hc ∧ (∀ c ∈ All, c ∈ All') ∧ ∀ c : Cl, c.1 = q → c.2.1 = r → c.2.2 < (i : Int) → Wn k (-1) (m + 1) (-1) (n + 1) c → v1 c = 0 → c ∈ All') ?_ N 0 _ _ _ _ _ (by omega) (by omega) ⟨rfl, Rp, All, hs, fun c hc => hc, fun c _ _ h0 hw => by have := okT_rng hw.2.2.2.2; omega⟩
  rintro fu i v M que h hc hi ⟨rfl, Rp', All', ⟨hS1, hS2, rfl, rfl⟩, hsub, hdn⟩ ih
  rw [f_X9_countHoles_L37, zkin_eq]
  rcases Nat.lt_or_ge i (kin k).toNat with g | g
  · have ht : okT k (i : Int) := okT_kin.mpr ⟨by omega, by omega⟩
    have hW : Wn k (-1) (m + 1) (-1) (n + 1) (q, r, (i : Int)) := ⟨by show -1 ≤ q; omega, by show q ≤ m + 1; omega, by show -1 ≤ r; omega, by show r ≤ n + 1; omega, ht⟩
    rw [if_pos (iI_ltT (by omega) (by omega) (by omega)), placeC (by omega) (by omega) (okT_rng ht) ⟨by omega, by omega⟩ ⟨by omega, by omega⟩, if_pos ⟨by omega, by omega, by omega, by omega⟩]
    simp only [Option.bind_some]
    rw [OK_bind, li3]
    refine (floodC hN hk ⟨by omega, by omega⟩ ⟨by omega, by omega⟩ (v0 := fun c => if c ∈ All' then 3 else v1 c) (mk := 3) (a := (q, r, (i : Int))) (fun c => ?_) ⟨by omega, by omega⟩ hS1.2 hS2 hW).mono ?_
    · have := hv c
      show 0 ≤ (if c ∈ All' then (3 : Int) else v1 c) ∧ (if c ∈ All' then (3 : Int) else v1 c) ≤ 7
      split <;> omega
    rintro ⟨w1, w2, w3⟩ ⟨hq3, hcase⟩
    simp only at hq3 hcase ⊢
    rw [iI_succ]
    rcases hcase with ⟨hne, rfl, rfl⟩ | ⟨h0, Q, hQ, hQp, hQl, hQm, rfl, hMK⟩
    · rw [if_neg (by decide), li0, iI_add, iI_add, Int.add_zero, Int.add_zero]
      refine ih g _ _ _ _ _ ⟨rfl, Rp', All', ⟨hS1, hq3, rfl, rfl⟩, hsub, fun c e1 e2 e3 e4 e5 => ?_⟩
      rcases Int.lt_or_le c.2.2 (i : Int) with g1 | g1
      · exact hdn c e1 e2 g1 e4 e5
      · have e6 : c = (q, r, (i : Int)) := by
          obtain ⟨c1, c2, c3⟩ := c
          simp only at e1 e2 e3 g1
          rw [e1, e2, show c3 = (i : Int) by omega]
        subst e6
        by_cases hmem : (q, r, (i : Int)) ∈ All'
        · exact hmem
        · rw [if_neg hmem] at hne; exact absurd e5 hne
    · rw [if_pos (by rw [li0]; exact iI_ltT (by omega) (by omega) (by omega)), li1, iI_add, iI_add]
      refine ih g _ _ _ _ _ ⟨rfl, Rp' ++ [(q, r, (i : Int))], All' ++ Q, ⟨HS.flood hk (fun c hc => hc.2.2.2.2) hS1 hW h0 hQ hQm hMK, hq3, by simp, by simp⟩, fun c hc => List.mem_append_left _ (hsub c hc), fun c e1 e2 e3 e4 e5 => ?_⟩
      rcases Int.lt_or_le c.2.2 (i : Int) with g1 | g1
      · exact List.mem_append_left _ (hdn c e1 e2 g1 e4 e5)
      · have e6 : c = (q, r, (i : Int)) := by
          obtain ⟨c1, c2, c3⟩ := c
          simp only at e1 e2 e3 g1
          rw [e1, e2, show c3 = (i : Int) by omega]
        subst e6
        exact List.mem_append_right _ ((hQm _).mpr Rc.refl)
  · have e0 : i = (kin k).toNat := by omega
    rw [if_neg (iI_ltF (by omega) (by omega) (by omega)), OK_some]
    refine ⟨Rp', All', ⟨hS1, hS2, rfl, rfl⟩, hsub, fun c e1 e2 e3 e4 => hdn c e1 e2 ?_ e3 e4⟩
    have := okT_kin.mp e3.2.2.2.2
    omega
theorem holesQ (hN : 1000 ≤ N) (hk : k < 3) (hm : 0 ≤ m ∧ m ≤ 9) (hn : 0 ≤ n ∧ n ≤ 9) (hv : ∀ c, 0 ≤ v1 c ∧ v1 c ≤ 3) {r : Int} (hr : 0 ≤ r ∧ r ≤ n) (hs : HC k m n v1 Rp All M que h hc) :
    OK (f_X9_countHoles_L24 N (iI r) (iI (m + 1 + 2)) (iI (n + 1 + 2)) k N 0 M que h hc) (fun u => ∃ Rp' All', HC k m n v1 Rp' All' u.1 u.2.1 u.2.2.1 u.2.2.2 ∧ (∀ c ∈ All, c ∈ All') ∧ ∀ c, 0 ≤ c.1 → c.1 ≤ m → c.2.1 = r → Wn k (-1) (m + 1) (-1) (n + 1) c → v1 c = 0 → c ∈ All') := by
  refine zlp5 (m + 1).toNat (fun i v M que h hc => v = iI i ∧ ∃ Rp' All', HC k m n v1 Rp' All' M que h hc ∧ (∀ c ∈ All, c ∈ All') ∧ ∀ c : Cl, 0 ≤ c.1 → c.1 < (i : Int) → c.2.1 = r → Wn k (-1) (m + 1) (-1) (n + 1) c → v1 c = 0 → c ∈ All') ?_ N 0 _ _ _ _ _ (by omega) (by omega) ⟨rfl, Rp, All, hs, fun c hc => hc, fun c _ _ h0 hw => by omega⟩
  rintro fu i v M que h hc hi ⟨rfl, Rp', All', hS, hsub, hdn⟩ ih
  rw [f_X9_countHoles_L24, li2, iI_sub]
  rcases Nat.lt_or_ge i (m + 1).toNat with g | g
  · rw [if_pos (iI_ltT (by omega) (by omega) (by omega)), OK_bind]
    refine (holesT hN hk hm hn hv (q := (i : Int)) ⟨by omega, by omega⟩ hr hS).mono ?_
    rintro ⟨w1, w2, w3, w4⟩ ⟨Rp2, All2, hS2, hsub2, hdn2⟩
    simp only at hS2 ⊢
    rw [iI_succ]
    refine ih g _ _ _ _ _ ⟨rfl, Rp2, All2, hS2, fun c hc => hsub2 c (hsub c hc), fun c e1 e2 e3 e4 e5 => ?_⟩
    rcases Int.lt_or_le c.1 (i : Int) with g1 | g1
    · exact hsub2 c (hdn c e1 g1 e3 e4 e5)
    · exact hdn2 c (by omega) e3 e4 e5
  · rw [if_neg (iI_ltF (by omega) (by omega) (by omega)), OK_some]
    exact ⟨Rp', All', hS, hsub, fun c e1 e2 e3 e4 e5 => hdn c e1 (by omega) e3 e4 e5⟩
theorem holesR (hN : 1000 ≤ N) (hk : k < 3) (hm : 0 ≤ m ∧ m ≤ 9) (hn : 0 ≤ n ∧ n ≤ 9) (hv : ∀ c, 0 ≤ v1 c ∧ v1 c ≤ 3) (hM : MK (Wn k (-1) (m + 1) (-1) (n + 1)) pI 384 v1 M) (hq : que.length = 384) (hin : ∀ c, Wn k (-1) (m + 1) (-1) (n + 1) c → v1 c = 0 → 0 ≤ c.1 ∧ c.1 ≤ m ∧ 0 ≤ c.2.1 ∧ c.2.1 ≤ n) :
    OK (f_X9_countHoles N M que (iI (m + 1 + 2)) (iI (n + 1 + 2)) k) (fun u => ∃ Rp All, HC k m n v1 Rp All u.1 u.2.1 u.2.2.1 u.2.2.2 ∧ ∀ c, Wn k (-1) (m + 1) (-1) (n + 1) c → v1 c = 0 → c ∈ All) := by
  unfold f_X9_countHoles
  rw [OK_bind]
  refine OK.mono (Q := fun u => ∃ Rp All, HC k m n v1 Rp All u.1 u.2.1 u.2.2.1 u.2.2.2 ∧ ∀ c, Wn k (-1) (m + 1) (-1) (n + 1) c → v1 c = 0 → c ∈ All) ?_ (fun u hu => by rw [OK_some]; exact hu)
  refine zlp5 (n + 1).toNat (fun i v M que h hc => v = iI i ∧ ∃ Rp' All', HC k m n v1 Rp' All' M que h hc ∧ ∀ c : Cl, c.2.1 < (i : Int) → Wn k (-1) (m + 1) (-1) (n + 1) c → v1 c = 0 → c ∈ All') ?_ N 0 _ _ _ _ _ (by omega) (by omega) ⟨rfl, [], [], ⟨⟨HI.nil, hM.1, fun c hc => by simp; exact hM.2 c hc⟩, hq, rfl, rfl⟩, fun c h0 hw hz => by have := hin c hw hz; omega⟩
  rintro fu i v M que h hc hi ⟨rfl, Rp', All', hS, hdn⟩ ih
  rw [f_X9_countHoles_L12, li2, iI_sub]
  rcases Nat.lt_or_ge i (n + 1).toNat with g | g
  · rw [if_pos (iI_ltT (by omega) (by omega) (by omega)), OK_bind]
    refine (holesQ hN hk hm hn hv (r := (i : Int)) ⟨by omega, by omega⟩ hS).mono ?_
    rintro ⟨w1, w2, w3, w4⟩ ⟨Rp2, All2, hS2, hsub2, hdn2⟩
    simp only at hS2 ⊢
    rw [iI_succ]
    refine ih g _ _ _ _ _ ⟨rfl, Rp2, All2, hS2, fun c e1 e2 e3 => ?_⟩
    have hb := hin c e2 e3
    rcases Int.lt_or_le c.2.1 (i : Int) with g1 | g1
    · exact hsub2 c (hdn c g1 e2 e3)
    · exact hdn2 c hb.1 hb.2.1 (by omega) e2 e3
  · rw [if_neg (iI_ltF (by omega) (by omega) (by omega)), OK_some]
    exact ⟨Rp', All', hS, fun c e1 e2 => hdn c (by have := hin c e1 e2; omega) e1 e2⟩
end
