/-! load -/
section
variable {N k : Nat} {S : List Int} {L X : List Cl} {T d was rd tc mt w : List Int32} {s he hl tl ty kept rn st0' kd0 dg0 lq lr lt mq mr ml : Int32} {hf : Nat → Nat × List Int32 × Int32}
theorem RT.tx (h : RT tc tl mt ty) : ∃ S, TX S tc tl ∧ TX S mt ty := by
  obtain ⟨S, h1, h2, h3, h4, h5, h6⟩ := h
  exact ⟨S, ⟨h1, h2, h4, fun i x hx => ⟨(h6 i x hx).1, (h6 i x hx).2.2⟩⟩, ⟨h1, h3, h5, fun i x hx => ⟨(h6 i x hx).2.1, (h6 i x hx).2.2⟩⟩⟩
theorem RT.wiped (h : RT tc tl mt ty) : RT tc 0 mt 0 := by
  obtain ⟨S, h1, h2, h3, h4, h5, h6⟩ := h
  exact ⟨[], by simp, h2, h3, rfl, rfl, fun i x hx => by simp at hx⟩
theorem loadL (hm : MRd X rd rn) (hX : X.length ≤ 12) (hk : k < 3) : ∀ (m i fu : Nat) (d : List Int32), i + m = X.length → m < fu → d.length = 14 → d[0]? = some (iI (k : Nat)) → d[1]? = some (iI X.length) → (∀ (j : Nat) (c : Cl), j < i → X[j]? = some c → d[2 + j]? = some (iI (ky c))) → OK (f_X12_load_L30 N rd rn fu (iI (i : Nat)) d) (DR k X)
  | 0, i, fu, d, h1, h2, d1, d2, d3, d4 => by
    obtain ⟨fu, rfl⟩ : ∃ f, fu = f + 1 := ⟨fu - 1, by omega⟩
    rw [f_X12_load_L30, hm.2.1, if_neg (iI_ltF (by omega) (by omega) (by omega)), OK_some]
    exact ⟨⟨hk, d1, d2⟩, hX, d3, fun j c hc => d4 j c (by have := lt_of_get hc; omega) hc⟩
  | m + 1, i, fu, d, h1, h2, d1, d2, d3, d4 => by
    obtain ⟨fu, rfl⟩ : ∃ f, fu = f + 1 := ⟨fu - 1, by omega⟩
    obtain ⟨x, hx⟩ := gL (show i < X.length by omega)
    have e2 : (2 : Int32) + iI (i : Nat) = iI ((2 + i : Nat) : Int) := by rw [li2, iI_add]; rfl
    rw [f_X12_load_L30, hm.2.1, if_pos (iI_ltT (by omega) (by omega) (by omega)), gI (hm.2.2 i x hx) (by rw [hm.1]; decide), Option.bind_some, e2, sI (by omega) (by omega), Option.bind_some, iI_succ, ← hm.2.1]
    refine loadL hm hX hk m (i + 1) fu _ (by omega) (by omega) (by simp [d1]) (by rw [List.getElem?_set_ne (by omega)]; exact d2) (by rw [List.getElem?_set_ne (by omega)]; exact d3) (fun j c hj hc => ?_)
    rcases Nat.lt_or_ge j i with g | g
    · rw [List.getElem?_set_ne (by omega)]
      exact d4 j c g hc
    · have e : j = i := by omega
      subst e
      rw [hx] at hc
      cases hc
      rw [List.getElem?_set_self (by omega)]
theorem s_load (hN : 5000 ≤ N) (h : RS k T s he hl hf d was kept) (ht : RT tc tl mt ty) (hw : w.length = 12) (hr : rd.length = 12) :
    OK (f_X11_load N k T s he hl tc tl st0' kd0 dg0 lq lr lt w hf) (fun u => OK (f_X12_load N d was kept rd mt ty mq mr ml) (fun v => u.1 = v.1 ∧ RS k u.2.1 u.2.2.1 u.2.2.2.1 u.2.2.2.2.1 u.2.2.2.2.2.2.2.2.2.2.2.2.2.2.2 v.2.1 v.2.2.1 v.2.2.2.1 ∧ RT tc u.2.2.2.2.2.1 mt v.2.2.2.2.2.1 ∧ u.2.2.2.2.2.2.2.2.2.2.2.2.2.1.length = 12 ∧ v.2.2.2.2.1.length = 12)) := by
  obtain ⟨L, H, hD, hL, hd, hcc, hmm, hO⟩ := h
  obtain ⟨S, hS1, hS2⟩ := ht.tx
  have h80 := hS1.1
  have hk := hD.1
  unfold f_X11_load
  rw [if_pos hk, OK_bind]
  refine OK.mono (readC (by omega) hS1 hk hw) ?_
  rintro ⟨u1, u2, u3, u4, u5, u6, u7, u8, u9, u10⟩ ⟨a1, a2, a3⟩
  simp only at a1 a2 a3 ⊢
  have hM := errM (N := N) (k := k) (lq := mq) (lr := mr) (lt := ml) (by omega) hS2 hd.1 hr
  unfold f_X12_load
  generalize spRd k S 100 [] (0, 0, 0) 0 = sp at a2 a3 hM
  rcases sp with b | X
  · obtain ⟨rfl, hb⟩ := a2 b rfl
    rw [if_neg (show ¬ iI (b : Nat) < 0 by rw [li0]; exact iI_ltF (by omega) (by omega) (by omega)), OK_some, OK_bind]
    refine OK.mono hM ?_
    rintro ⟨v1, v2, v3, v4, v5, v6, v7, v8, v9⟩ ⟨e1, e2, e3⟩
    simp only at e1 e2 e3 ⊢
    cases e2 b rfl
    rw [if_neg (show ¬ iI (b : Nat) < 0 by rw [li0]; exact iI_ltF (by omega) (by omega) (by omega)), OK_some]
    exact ⟨rfl, ⟨L, H, hD, hL, hd, hcc, hmm, hO⟩, ht, a1, e1⟩
  · obtain ⟨rfl, hX, hDX⟩ := a3 X rfl
    have hX12 := hDX.2.2.1
    have hTl : T.length = 12 := by obtain ⟨J, _, h2, _⟩ := hL; exact h2
    rw [if_pos (show (-1 : Int32) < 0 by decide), OK_bind]
    refine OK.mono (keep_eq (by omega) hk hcc hL) ?_
    rintro ⟨w1, w2, w3⟩ k1
    simp only at k1 ⊢
    obtain ⟨J, c1, c2⟩ := copy_CE (N := N) (T := T) (by omega) hTl hX (by omega) (by omega)
    unfold f_X10_wipe
    rw [c1, Option.bind_some, Option.bind_some, OK_some, OK_bind]
    refine OK.mono hM ?_
    rintro ⟨v1, v2, v3, v4, v5, v6, v7, v8, v9⟩ ⟨e1, e2, e3⟩
    simp only at e1 e2 e3 ⊢
    obtain ⟨rfl, q2, q3⟩ := e3 X rfl
    rw [if_pos (show (-1 : Int32) < 0 by decide), OK_bind]
    refine OK.mono (records_eq (by omega) hmm hd) ?_
    rintro ⟨x1, x2⟩ k2
    simp only at k2 ⊢
    have s1 : z_set d 1 v9 = some (d.set 1 v9) := sI (i := 1) (by rw [hd.1.2.1]; omega) (by rw [hd.1.2.1]; decide)
    rw [s1, Option.bind_some, OK_bind]
    refine OK.mono (loadL q2 hX12 hk X.length 0 N (d.set 1 v9) (by omega) (by omega) (by simp [hd.1.2.1]) (by rw [List.getElem?_set_ne (by omega)]; exact hd.1.2.2) (by rw [List.getElem?_set_self (by rw [hd.1.2.1]; omega), q2.2.1]) (fun j c hj => by omega)) ?_
    intro d' hd'
    have g1 : z_get d' 1 = some (iI X.length) := gI (i := 1) hd'.2.2.1 (by rw [hd'.1.2.1]; decide)
    rw [g1, Option.bind_some, OK_some]
    refine ⟨rfl, ⟨X, psh H (k, L), hDX, ⟨J, rfl, by simp; omega, rfl⟩, hd', k1, k2, psh_ok hO hD⟩, ht.wiped, a1, e1⟩
end
