/-! the class's border, and its look around -/
/-- the sides of the cells A towards what is not in X -/
def sdA (k : Nat) (X A : List Cl) : Nat := (A.map (fun c => cnt (fun d => decide (nb k c d ∉ X)) (dg k))).sum
def sdN (k : Nat) (X : List Cl) : Nat := sdA k X X
def BB (k : Nat) (m n : Int) (v : Cl → Int) (X B : List Cl) (M : List Int32) (bc oc : Int32) : Prop := B.Nodup ∧ (∀ c ∈ B, Wn k (-1) (m + 1) (-1) (n + 1) c ∧ c ∉ X ∧ ∃ u ∈ X, adj k u c) ∧ MK (Wn k (-1) (m + 1) (-1) (n + 1)) pI 384 (fun c => v c + if c ∈ B then 4 else 0) M ∧ bc = iI B.length ∧ oc = iI (B.filter (fun c => decide (v c = 2))).length
def Zh (k : Nat) (X : List Cl) (m n : Int) (c : Cl) : Prop := Wn k (-1) (m + 1) (-1) (n + 1) c ∧ c ∉ X ∧ ¬ Rc k (Fr k X (-1) (m + 1) (-1) (n + 1)) (-1, -1, 0) c
section
variable {N k : Nat} {X B : List Cl} {m n : Int} {M que J : List Int32} {v : Cl → Int} {sd bc oc : Int32} {u c : Cl}
theorem dg_le : dg k ≤ 6 := by unfold dg; split <;> (try split) <;> omega
theorem bordCell (hm : 0 ≤ m ∧ m ≤ 9) (hn : 0 ≤ n ∧ n ≤ 9) (hv : ∀ c, 0 ≤ v c ∧ v c ≤ 3) (hs : BB k m n v X B M bc oc) (hW : Wn k (-1) (m + 1) (-1) (n + 1) c) (hcX : c ∉ X) (hu : u ∈ X) (he : adj k u c) :
    OK (f_X9_countBorderCell N (iI (pI c)) M bc oc) (fun w => ∃ B', BB k m n v X B' w.1 w.2.1 w.2.2 ∧ (∀ x ∈ B, x ∈ B') ∧ c ∈ B') := by
  obtain ⟨h1, h2, h3, rfl, rfl⟩ := hs
  have hix := pI_ix (k := k) (x1 := m + 1) (y1 := n + 1) (by omega) (by omega)
  have hlt := hix.1 c hW
  have hMl := h3.1
  have hvc := hv c
  have hg := h3.2 c hW
  unfold f_X9_countBorderCell
  rw [gI hg (by omega)]
  simp only [Option.bind_some]
  by_cases hB : c ∈ B
  · rw [if_pos hB, li4, if_neg (iI_ltF (by omega) (by omega) (by omega)), OK_some]
    exact ⟨B, ⟨h1, h2, h3, rfl, rfl⟩, fun x hx => hx, hB⟩
  · rw [if_neg hB, li4, if_pos (iI_ltT (by omega) (by omega) (by omega))]
    have key : ∀ z : Int32, z = iI (v c + 0) + iI 4 → BB k m n v X (B ++ [c]) (M.set (pI c) z) (iI B.length + 1) (iI (B.filter (fun c => decide (v c = 2))).length + (if v c = 2 then 1 else 0)) := by
      intro z hz
      refine ⟨?_, fun x hx => ?_, ⟨by simp [hMl], fun x hx => ?_⟩, ?_, ?_⟩
      · rw [List.nodup_append]
        refine ⟨h1, by simp, fun a ha b hb => ?_⟩
        rw [List.mem_singleton.mp hb]
        intro e; rw [e] at ha; exact hB ha
      · rcases List.mem_append.mp hx with hx | hx
        · exact h2 x hx
        · rw [List.mem_singleton.mp hx]; exact ⟨hW, hcX, u, hu, he⟩
      · show (M.set (pI c) z)[pI x]? = some (iI (v x + if x ∈ B ++ [c] then 4 else 0))
        by_cases e : x = c
        · subst e
          rw [if_pos (by simp), st0 (by omega), hz, iI_add, Int.add_zero]
        · have e2 : pI c ≠ pI x := fun h => e (hix.2 c x hW hx h).symm
          rw [List.getElem?_set_ne e2, h3.2 x hx]
          have : (x ∈ B ++ [c]) ↔ x ∈ B := by simp [e]
          simp only [this]
      · rw [iI_succ]; simp
      · rw [List.filter_append]
        by_cases e : v c = 2
        · rw [if_pos e, iI_succ]; simp [e]
        · rw [if_neg e, show (0 : Int32) = iI 0 from rfl, iI_add]; simp [e]
    by_cases e : v c = 2
    · rw [if_pos (by rw [e]; rfl)]
      have := key _ rfl
      rw [if_pos e] at this
      rw [sI (by omega) (by omega)]
      simp only [Option.bind_some]
      rw [OK_some]
      exact ⟨_, this, fun x hx => List.mem_append_left _ hx, by simp⟩
    · rw [if_neg (by rw [li2]; exact iI_eqF (by omega) (by omega) (by omega) (by omega) (by omega))]
      have := key _ rfl
      rw [if_neg e] at this
      rw [sI (by omega) (by omega)]
      simp only [Option.bind_some]
      rw [OK_some]
      exact ⟨_, this, fun x hx => List.mem_append_left _ hx, by simp⟩
theorem bordD (hN : 1000 ≤ N) (hX : Nf k X) (hm : 0 ≤ m ∧ m ≤ 9) (hn : 0 ≤ n ∧ n ≤ 9) (hbx : Bxd X m n) (hv : ∀ c, 0 ≤ v c ∧ v c ≤ 3) (hv1 : ∀ c, Wn k (-1) (m + 1) (-1) (n + 1) c → (v c = 1 ↔ c ∈ X)) {i S : Nat} (hu : X[i]? = some u) (hs : BB k m n v X B M bc oc) :
    OK (f_X9_countBorder_L28 N (iI i) (iI (m + 1 + 2)) (iI (n + 1 + 2)) (X.map cI ++ J) (iI X.length) k N 0 M (iI S) bc oc) (fun w => w.2.1 = iI (S + cnt (fun d => decide (nb k u d ∉ X)) (dg k) : Nat) ∧ ∃ B', BB k m n v X B' w.1 w.2.2.1 w.2.2.2 ∧ (∀ x ∈ B, x ∈ B') ∧ ∀ c, adj k u c → c ∉ X → c ∈ B') := by
  have hl := hX.2.2.2.1
  have hil := lt_of_get hu
  have hum := List.mem_of_getElem? hu
  have hdk := dg_le (k := k)
  have hub := hbx u hum
  have hgc : (X.map cI ++ J)[(i : Int).toNat]? = some (cI u) := by rw [Int.toNat_natCast]; exact rc_get? hu
  have hWu : Wn k (-1) (m + 1) (-1) (n + 1) u := ⟨by omega, by omega, by omega, by omega, (hX.2.2.2.2 u hum).1⟩
  refine zlp5 (dg k) (fun e z M sd bc oc => z = iI e ∧ sd = iI (S + cnt (fun d => decide (nb k u d ∉ X)) e : Nat) ∧ ∃ B', BB k m n v X B' M bc oc ∧ (∀ x ∈ B, x ∈ B') ∧ ∀ d, d < e → nb k u d ∉ X → nb k u d ∈ B') ?_ N 0 _ _ _ _ _ (by omega) (by omega) ⟨rfl, rfl, B, hs, fun x hx => hx, fun d hd => by omega⟩
  rintro fu e z M sd bc oc he ⟨rfl, rfl, B', hS, hsub, hdn⟩ ih
  rw [f_X9_countBorder_L28, zdeg_eq]
  rcases Nat.lt_or_ge e (dg k) with hlt | hge
  · rw [if_pos (iI_ltT (by omega) (by omega) (by omega)), qAt_eq (by omega) (by omega) (by omega) hgc (hX.ok u hum), rAt_eq (by omega) (by omega) (by omega) hgc (hX.ok u hum), tAt_eq (by omega) (by omega) (by omega) hgc (hX.ok u hum)]
    simp only [Option.bind_some]
    have g1 := gQ_rng k u.2.2 e
    have g2 := gR_rng k u.2.2 e
    have hin : -1 ≤ (nb k u e).1 ∧ (nb k u e).1 ≤ m + 1 ∧ -1 ≤ (nb k u e).2.1 ∧ (nb k u e).2.1 ≤ n + 1 := by
      show -1 ≤ u.1 + gQ k u.2.2 e ∧ u.1 + gQ k u.2.2 e ≤ m + 1 ∧ -1 ≤ u.2.1 + gR k u.2.2 e ∧ u.2.1 + gR k u.2.2 e ≤ n + 1
      omega
    have hW : Wn k (-1) (m + 1) (-1) (n + 1) (nb k u e) := ⟨hin.1, hin.2.1, hin.2.2.1, hin.2.2.2, okT_nb hWu.2.2.2.2⟩
    rw [nbPlace hX.1 hWu ⟨by omega, by omega⟩ ⟨by omega, by omega⟩ hlt, if_pos hin]
    simp only [Option.bind_some]
    have hix := pI_ix (k := k) (x1 := m + 1) (y1 := n + 1) (by omega) (by omega)
    have hpl := hix.1 _ hW
    have hMl := hS.2.2.1.1
    have hvc := hv (nb k u e)
    rw [if_neg (by rw [li0]; exact iI_ltF (by omega) (by omega) (by omega)), gI (hS.2.2.1.2 _ hW) (by omega)]
    simp only [Option.bind_some]
    rw [iI_succ]
    by_cases hx : nb k u e ∈ X
    · have hnB : nb k u e ∉ B' := fun h => (hS.2.1 _ h).2.1 hx
      rw [if_neg hnB, (hv1 _ hW).mpr hx, if_pos (by rfl)]
      refine ih hlt _ _ _ _ _ ⟨rfl, ?_, B', hS, hsub, fun d hd1 hd2 => ?_⟩
      · rw [cnt, if_neg (by simp [hx]), Nat.add_zero]
      · rcases Nat.lt_or_ge d e with g | g
        · exact hdn d g hd2
        · rw [show d = e by omega] at hd2; exact absurd hx hd2
    · have hne : v (nb k u e) ≠ 1 := fun h => hx ((hv1 _ hW).mp h)
      rw [if_neg (by
        rw [li1]
        refine iI_eqF ?_ ?_ ?_ ?_ ?_
        · split <;> omega
        · split <;> omega
        · split <;> omega
        · omega
        · omega), OK_bind]
      refine (bordCell hm hn hv hS hW hx hum ⟨e, hlt, rfl⟩).mono ?_
      rintro ⟨w1, w2, w3⟩ ⟨B2, hB2, hsub2, hin2⟩
      simp only at hB2 ⊢
      rw [iI_succ]
      refine ih hlt _ _ _ _ _ ⟨rfl, ?_, B2, hB2, fun x hx => hsub2 x (hsub x hx), fun d hd1 hd2 => ?_⟩
      · rw [cnt, if_pos (by simp [hx])]; rfl
      · rcases Nat.lt_or_ge d e with g | g
        · exact hsub2 _ (hdn d g hd2)
        · rw [show d = e by omega]; exact hin2
  · have e0 : e = dg k := by omega
    subst e0
    rw [if_neg (iI_ltF (by omega) (by omega) (by omega)), OK_some]
    refine ⟨rfl, B', hS, hsub, ?_⟩
    rintro c ⟨d, hd, rfl⟩ hc
    exact hdn d hd hc
theorem sdA_next {A : List Cl} {i : Nat} (h : A[i]? = some u) : sdA k X (A.take (i + 1)) = sdA k X (A.take i) + cnt (fun d => decide (nb k u d ∉ X)) (dg k) := by
  unfold sdA
  rw [tk_next h, List.map_append, List.sum_append]
  simp
theorem bordC (hN : 1000 ≤ N) (hX : Nf k X) (hm : 0 ≤ m ∧ m ≤ 9) (hn : 0 ≤ n ∧ n ≤ 9) (hbx : Bxd X m n) (hv : ∀ c, 0 ≤ v c ∧ v c ≤ 3) (hv1 : ∀ c, Wn k (-1) (m + 1) (-1) (n + 1) c → (v c = 1 ↔ c ∈ X)) (hM : MK (Wn k (-1) (m + 1) (-1) (n + 1)) pI 384 v M) :
    OK (f_X9_countBorder N M (iI (m + 1 + 2)) (iI (n + 1 + 2)) (X.map cI ++ J) (iI X.length) k) (fun w => w.2.1 = iI (sdN k X : Nat) ∧ ∃ B, BB k m n v X B w.1 w.2.2.1 w.2.2.2 ∧ ∀ c, c ∈ B ↔ (c ∉ X ∧ ∃ u ∈ X, adj k u c)) := by
  have hl := hX.2.2.2.1
  unfold f_X9_countBorder
  rw [OK_bind]
  refine OK.mono (Q := fun w => w.2.1 = iI (sdN k X : Nat) ∧ ∃ B, BB k m n v X B w.1 w.2.2.1 w.2.2.2 ∧ ∀ c, c ∈ B ↔ (c ∉ X ∧ ∃ u ∈ X, adj k u c)) ?_ (fun u hu => by rw [OK_some]; exact hu)
  refine zlp5 X.length (fun i z M sd bc oc => z = iI i ∧ sd = iI (sdA k X (X.take i) : Nat) ∧ ∃ B, BB k m n v X B M bc oc ∧ ∀ u ∈ X.take i, ∀ c, adj k u c → c ∉ X → c ∈ B) ?_ N 0 _ _ _ _ _ (by omega) (by omega) ⟨rfl, rfl, [], ⟨List.nodup_nil, fun c hc => by simp at hc, ⟨hM.1, fun c hc => by simp; exact hM.2 c hc⟩, rfl, rfl⟩, fun u hu => by simp at hu⟩
  rintro fu i z M sd bc oc hi ⟨rfl, rfl, B, hS, hdn⟩ ih
  rw [f_X9_countBorder_L17]
  rcases Nat.lt_or_ge i X.length with g | g
  · obtain ⟨u, hu⟩ := gL g
    rw [if_pos (iI_ltT (by omega) (by omega) (by omega)), OK_bind]
    refine (bordD hN hX hm hn hbx hv hv1 hu hS).mono ?_
    rintro ⟨w1, w2, w3, w4⟩ ⟨e1, B2, hB2, hsub, hin⟩
    simp only at e1 hB2 ⊢
    rw [iI_succ, e1, ← sdA_next hu]
    refine ih g _ _ _ _ _ ⟨rfl, rfl, B2, hB2, fun x hx c hc1 hc2 => ?_⟩
    rw [tk_next hu] at hx
    rcases List.mem_append.mp hx with hx | hx
    · exact hsub c (hdn x hx c hc1 hc2)
    · rw [List.mem_singleton.mp hx] at hc1; exact hin c hc1 hc2
  · have e0 : i = X.length := by omega
    subst e0
    rw [if_neg (iI_ltF (by omega) (by omega) (by omega)), OK_some]
    rw [List.take_length] at hdn ⊢
    exact ⟨rfl, B, hS, fun c => ⟨fun hc => (hS.2.1 c hc).2, fun ⟨h1, u, h2, h3⟩ => hdn u h2 c h3 h1⟩⟩
theorem lookC (hN : 1000 ≤ N) (hX : Nf k X) (h9 : ¬ wide X) (hM : M.length = 384) (hq : que.length = 384) :
    OK (f_X9_look N M que (X.map cI ++ J) (iI X.length) k) (fun u => u.1.length = 384 ∧ u.2.1.length = 384 ∧ ∃ m n : Int, ∃ B O Rp All : List Cl, Mx (fun c => c.1) X m ∧ Mx (fun c => c.2.1) X n ∧ (0 ≤ m ∧ m ≤ 9) ∧ (0 ≤ n ∧ n ≤ 9) ∧ (B.Nodup ∧ ∀ c, c ∈ B ↔ (c ∉ X ∧ ∃ u ∈ X, adj k u c)) ∧ (O.Nodup ∧ ∀ c, c ∈ O ↔ (c ∈ B ∧ Rc k (Fr k X (-1) (m + 1) (-1) (n + 1)) (-1, -1, 0) c)) ∧ (HI k (Zh k X m n) Rp All ∧ ∀ c, Zh k X m n c → c ∈ All) ∧ u.2.2.2.2.1 = iI (sdN k X : Nat) ∧ u.2.2.2.2.2.1 = iI B.length ∧ u.2.2.2.2.2.2.1 = iI O.length ∧ u.2.2.2.2.2.2.2.1 = iI Rp.length ∧ u.2.2.2.2.2.2.2.2 = iI All.length) := by
  unfold f_X9_look
  rw [OK_bind]
  refine (openC hN hX h9 hM).mono ?_
  rintro ⟨M0, cols, rows⟩ ⟨m, n, hm, hn, m1, m2, n1, n2, e, hMK⟩
  simp only at e hMK ⊢
  cases e
  have hk := hX.1
  have hbx : Bxd X m n := fun c hc => by
    have := hX.2.2.2.2 c hc
    have h1 := hm.1 c hc
    have h2 := hn.1 c hc
    simp only at h1 h2
    omega
  have hWa : Wn k (-1) (m + 1) (-1) (n + 1) (-1, -1, 0) := ⟨by show (-1 : Int) ≤ -1; omega, by show -1 ≤ m + 1; omega, by show (-1 : Int) ≤ -1; omega, by show -1 ≤ n + 1; omega, Or.inl rfl⟩
  have haX : ((-1, -1, 0) : Cl) ∉ X := fun h => by have := (hbx _ h).1; simp at this
  rw [show (-1 : Int32) = iI (-1) from rfl, li0, placeC (by omega) (by omega) (by omega) ⟨by omega, by omega⟩ ⟨by omega, by omega⟩, if_pos ⟨by omega, by omega, by omega, by omega⟩]
  simp only [Option.bind_some]
  rw [OK_bind, li2]
  refine (floodC hN hk ⟨by omega, by omega⟩ ⟨by omega, by omega⟩ (v0 := fun c => if c ∈ X then 1 else 0) (mk := 2) (a := (-1, -1, 0)) (fun c => ?_) ⟨by omega, by omega⟩ hMK hq hWa).mono ?_
  · show 0 ≤ (if c ∈ X then (1 : Int) else 0) ∧ (if c ∈ X then (1 : Int) else 0) ≤ 7
    split <;> omega
  rintro ⟨w1, w2, w3⟩ ⟨hq3, hcase⟩
  simp only at hq3 hcase ⊢
  rcases hcase with ⟨hne, _, _⟩ | ⟨_, Q, hQ, hQp, hQl, hQm, _, hMQ⟩
  · rw [if_neg haX] at hne; exact absurd rfl hne
  have hQm' : ∀ c, c ∈ Q ↔ Rc k (Fr k X (-1) (m + 1) (-1) (n + 1)) (-1, -1, 0) c := fun c => by
    rw [hQm]
    refine Rc.congr (fun y => ?_)
    by_cases e : y ∈ X
    · rw [if_pos e]; constructor
      · rintro ⟨_, h⟩; omega
      · rintro ⟨_, h⟩; exact absurd e h
    · rw [if_neg e]
      exact ⟨fun h => ⟨h.1, e⟩, fun h => ⟨h.1, rfl⟩⟩
  have hQX : ∀ c, c ∈ Q → c ∉ X := fun c hc => (((hQm' c).mp hc).inS ⟨hWa, haX⟩).2
  have hval : ∀ c, (if c ∈ Q then (2 : Int) else if c ∈ X then 1 else 0) = 0 ↔ (c ∉ Q ∧ c ∉ X) := fun c => by
    by_cases e : c ∈ Q
    · rw [if_pos e]; simp [e]
    · rw [if_neg e]
      by_cases e2 : c ∈ X
      · rw [if_pos e2]; simp [e2]
      · rw [if_neg e2]; simp [e, e2]
  rw [OK_bind]
  refine (holesR hN hk ⟨m1, m2⟩ ⟨n1, n2⟩ (v1 := fun c => if c ∈ Q then 2 else if c ∈ X then 1 else 0) (fun c => ?_) hMQ hq3 (fun c hW hc => ?_)).mono ?_
  · show 0 ≤ (if c ∈ Q then (2 : Int) else if c ∈ X then 1 else 0) ∧ (if c ∈ Q then (2 : Int) else if c ∈ X then 1 else 0) ≤ 3
    split
    · omega
    · split <;> omega
  · have h0 := (hval c).mp hc
    by_cases g : 0 ≤ c.1 ∧ c.1 ≤ m ∧ 0 ≤ c.2.1 ∧ c.2.1 ≤ n
    · exact g
    · exact absurd ((hQm' c).mpr (rim_go hk hbx (by omega) (by omega) (by omega) (by omega) m1 n1 hW g)) h0.1
  rintro ⟨w4, w5, w6, w7⟩ ⟨Rp, All, ⟨⟨hHI, hMA⟩, hq5, e6, e7⟩, hall⟩
  simp only at hMA hq5 e6 e7 ⊢
  have hZ : ∀ c, (Wn k (-1) (m + 1) (-1) (n + 1) c ∧ (if c ∈ Q then (2 : Int) else if c ∈ X then 1 else 0) = 0) ↔ Zh k X m n c := fun c => by
    rw [hval, hQm']
    exact ⟨fun h => ⟨h.1, h.2.2, h.2.1⟩, fun h => ⟨h.1, h.2.2, h.2.1⟩⟩
  have hZf : (fun c => Wn k (-1) (m + 1) (-1) (n + 1) c ∧ (if c ∈ Q then (2 : Int) else if c ∈ X then 1 else 0) = 0) = Zh k X m n := funext (fun c => propext (hZ c))
  rw [hZf] at hHI
  have hAll : ∀ c, c ∈ All → c ∉ Q ∧ c ∉ X := fun c hc => by
    have := hHI.sub hc
    exact ⟨fun h => this.2.2 ((hQm' c).mp h), this.2.1⟩
  rw [OK_bind]
  refine (bordC hN hX ⟨m1, m2⟩ ⟨n1, n2⟩ hbx (v := fun c => if c ∈ All then 3 else if c ∈ Q then 2 else if c ∈ X then 1 else 0) (fun c => ?_) (fun c hW => ?_) hMA).mono ?_
  · show 0 ≤ (if c ∈ All then (3 : Int) else if c ∈ Q then 2 else if c ∈ X then 1 else 0) ∧ (if c ∈ All then (3 : Int) else if c ∈ Q then 2 else if c ∈ X then 1 else 0) ≤ 3
    split
    · omega
    · split
      · omega
      · split <;> omega
  · show (if c ∈ All then (3 : Int) else if c ∈ Q then 2 else if c ∈ X then 1 else 0) = 1 ↔ c ∈ X
    by_cases e1 : c ∈ All
    · rw [if_pos e1]; simp [(hAll c e1).2]
    · rw [if_neg e1]
      by_cases e2 : c ∈ Q
      · rw [if_pos e2]; simp [hQX c e2]
      · rw [if_neg e2]
        by_cases e3 : c ∈ X
        · rw [if_pos e3]; simp [e3]
        · rw [if_neg e3]; simp [e3]
  rintro ⟨w8, w9, w10, w11⟩ ⟨e9, B, hB, hBm⟩
  simp only at e9 hB ⊢
  rw [OK_some]
  refine ⟨hB.2.2.1.1, hq5, m, n, B, B.filter (fun c => decide ((if c ∈ All then (3 : Int) else if c ∈ Q then 2 else if c ∈ X then 1 else 0) = 2)), Rp, All, hm, hn, ⟨m1, m2⟩, ⟨n1, n2⟩, ⟨hB.1, hBm⟩, ⟨hB.1.filter _, fun c => ?_⟩, ⟨hHI, fun c hc => hall c hc.1 ((hZ c).mpr hc).2⟩, e9, hB.2.2.2.1, hB.2.2.2.2, e6, e7⟩
  rw [List.mem_filter, decide_eq_true_iff, ← hQm']
  refine and_congr Iff.rfl ?_
  by_cases e1 : c ∈ All
  · rw [if_pos e1]; simp [(hAll c e1).1]
  · rw [if_neg e1]
    by_cases e2 : c ∈ Q
    · rw [if_pos e2]; simp [e2]
    · rw [if_neg e2]
      by_cases e3 : c ∈ X
      · rw [if_pos e3]; simp [e2]
      · rw [if_neg e3]; simp [e2]
end
