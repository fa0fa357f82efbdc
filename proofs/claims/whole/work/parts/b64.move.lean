/-! the text's edits, count, move, key -/
def RT (tc : List Int32) (tl : Int32) (mt : List Int32) (ty : Int32) : Prop := ∃ S : List Int, S.length ≤ 80 ∧ tc.length = 80 ∧ mt.length = 80 ∧ tl = iI S.length ∧ ty = iI S.length ∧ ∀ (i : Nat) (x : Int), S[i]? = some x → tc[i]? = some (iI x) ∧ mt[i]? = some (iI x) ∧ 1 ≤ x ∧ x ≤ 255
/-- the lengths of the reference's rows of cells -/
def L16 (q r t : List Int32) : Prop := q.length = 16 ∧ r.length = 16 ∧ t.length = 16
section
variable {N k : Nat} {L X : List Cl} {H : List (Nat × List Cl)} {T d was q r t tc mt w : List Int32} {s kept he hl tl ty ws : Int32} {hf : Nat → Nat × List Int32 × Int32}
theorem s_append (hN : 100 ≤ N) (h : RT tc tl mt ty) (x : Int32) : OK (f_X11_append N x tc tl) (fun u => OK (f_X12_append N x mt ty) (fun v => u.1 = v.1 ∧ RT u.2.1 u.2.2 v.2.1 v.2.2)) := by
  have h0 := h
  obtain ⟨S, h1, h2, h3, rfl, rfl, h4⟩ := h
  obtain ⟨z, rfl, z1, z2⟩ := iI_ex x
  unfold f_X11_append f_X12_append f_X10_isFull f_X10_put
  rw [show (255 : Int32) = iI 255 from rfl, li1, mIn _ _ _ ⟨z1, z2⟩ ⟨by omega, by omega⟩ ⟨by omega, by omega⟩]
  simp only [Option.bind_some]
  by_cases g1 : z < 1
  · rw [if_pos (iI_ltT g1 (by omega) (by omega)), if_neg (show ¬ (1 ≤ z ∧ z ≤ 255) by omega), OK_some, if_pos (by rfl), OK_some]
    exact ⟨rfl, h0⟩
  rw [if_neg (iI_ltF g1 (by omega) (by omega))]
  by_cases g2 : 255 < z
  · rw [if_pos (iI_ltT g2 (by omega) (by omega)), if_neg (show ¬ (1 ≤ z ∧ z ≤ 255) by omega), OK_some, if_pos (by rfl), OK_some]
    exact ⟨rfl, h0⟩
  rw [if_neg (iI_ltF g2 (by omega) (by omega)), if_pos (show 1 ≤ z ∧ z ≤ 255 by omega), show (80 : Int32) = iI 80 from rfl]
  by_cases g3 : S.length < 80
  · rw [if_pos (iI_ltT (by omega) (by omega) (by omega))]
    simp only [Option.bind_some]
    rw [if_pos trivial, if_pos (iI_ltT (by omega) (by omega) (by omega)), sI (by omega) (by omega)]
    simp only [Option.bind_some]
    rw [OK_some, if_neg (by decide), if_neg (iI_eqF (by omega) (by omega) (by omega) (by omega) (by omega))]
    have hz : (iI z).toInt = z := iI_toInt z1 z2
    have ev : vp_nar .char ((Int32.toUInt32 (iI z) % 65536).toInt32) = iI z := by
      rw [lg_i2c_word (by rw [hz]; omega) (by rw [hz]; omega), vp_nar_char, lg_i2c_small (by rw [hz]; omega) (by rw [hz]; omega)]
    rw [ev, sI (by omega) (by omega)]
    simp only [Option.bind_some]
    rw [OK_some]
    have el : iI (S.length : Int) + iI 1 = iI (S ++ [z]).length := by rw [iI_add]; simp
    refine ⟨rfl, S ++ [z], by simp; omega, by simp [h2], by simp [h3], el, el, fun i y hy => ?_⟩
    rcases Nat.lt_or_ge i S.length with g | g
    · rw [List.getElem?_append_left g] at hy
      obtain ⟨a, b, c⟩ := h4 i y hy
      exact ⟨st1 a (by omega), st1 b (by omega), c⟩
    · have := lt_of_get hy
      rw [List.length_append, List.length_singleton] at this
      have e : i = S.length := by omega
      subst e
      rw [List.getElem?_append_right (Nat.le_refl _), Nat.sub_self] at hy
      cases hy
      exact ⟨st0 (by omega), st0 (by omega), by omega, by omega⟩
  · rw [if_neg (iI_ltF (by omega) (by omega) (by omega))]
    simp only [Option.bind_some]
    rw [if_neg (by decide), OK_some, if_neg (by decide), if_pos (by congr 1; omega), OK_some]
    exact ⟨rfl, h0⟩
theorem s_clearText (h : RT tc tl mt ty) : OK (f_X11_clearText N tl) (fun u => OK (f_X12_clearText N ty) (fun v => u.1 = v.1 ∧ RT tc u.2 mt v.2)) := by
  obtain ⟨S, h1, h2, h3, rfl, rfl, h4⟩ := h
  exact OK.of rfl (OK.of rfl ⟨rfl, [], by simp, h2, h3, rfl, rfl, fun i x hx => by simp at hx⟩)
theorem figC (hN : 100 ≤ N) (hD : Dr k L) (hL : CE 12 L T s) : OK (f_X11_draftIsFigure N k T s) (fun u => (Conn k L ∧ u = 1) ∨ (¬ Conn k L ∧ u = 0)) := by
  obtain ⟨J, rfl, h2, rfl⟩ := hL
  unfold f_X11_draftIsFigure
  rw [if_pos hD.1, OK_bind]
  refine (areConnected_eq hN hD.ld).mono (fun u hu => ?_)
  rw [if_pos (by rcases hu with ⟨_, h⟩ | ⟨_, h⟩; exact Or.inr h; exact Or.inl h), OK_some]
  exact hu
theorem figM (hN : 5000 ≤ N) (hD : Dr k L) (hd : DR k L d) (h16 : L16 q r t) : OK (f_X12_isFigure N d q r t) (fun u => ((Conn k L ∧ u.1 = 1) ∨ (¬ Conn k L ∧ u.1 = 0)) ∧ u.2.1 = iI L.length ∧ MR L u.2.2.1 u.2.2.2.1 u.2.2.2.2) := by
  unfold f_X12_isFigure
  rw [OK_bind]
  have := hD.2.2.1
  refine (mDraft hd hD.2.2.2 (by omega) h16.1 h16.2.1 h16.2.2).mono ?_
  rintro ⟨n, q2, r2, t2⟩ ⟨e1, hm⟩
  simp only at e1 hm
  subst e1
  simp only
  rw [OK_bind]
  refine (mConn hN hD.ld hd.1 hm).mono (fun u hu => ?_)
  rw [if_pos (by rcases hu with ⟨_, h⟩ | ⟨_, h⟩; exact Or.inr h; exact Or.inl h), OK_some]
  exact ⟨hu, rfl, hm⟩
theorem zgre_eq : zgre k = iI (gre k) := by
  unfold zgre gre
  repeat' split
  all_goals rfl
theorem s_count (hN : 5000 ≤ N) (h : RS k T s he hl hf d was kept) (ht : RT tc tl mt ty) (h16 : L16 q r t) {n : Int32} (x : Int32) : OK (f_X11_count N x k T s hl tl) (fun u => OK (f_X12_count N x d kept ty n q r t) (fun v => u = v.1 ∧ L16 v.2.2.1 v.2.2.2.1 v.2.2.2.2)) := by
  obtain ⟨L, H, hD, hL, hd, hc, hm, hO⟩ := h
  have hk := hD.1
  have hhl : hl = iI H.length := by obtain ⟨e, _, _, h3, _⟩ := hc; exact h3
  have hkp : kept = iI H.length := hm.2.2.1
  have hs : s = iI L.length := by obtain ⟨J, _, _, h3⟩ := hL; exact h3
  obtain ⟨S, _, _, _, e1, e2, _⟩ := ht
  unfold f_X11_count f_X12_count
  by_cases g0 : x = 0
  · rw [if_pos g0, if_pos hk, OK_some, if_pos g0, hd.1.g]
    simp only [Option.bind_some]
    rw [OK_some]
    exact ⟨nI_iI k, h16⟩
  rw [if_neg g0, if_neg g0]
  by_cases g1 : x = 1
  · rw [if_pos g1, OK_some, if_pos g1, hd.g1]
    simp only [Option.bind_some]
    rw [OK_some]
    exact ⟨hs, h16⟩
  rw [if_neg g1, if_neg g1]
  by_cases g2 : x = 2
  · rw [if_pos g2, OK_bind]
    refine (figC (by omega) hD hL).mono (fun u hu => ?_)
    rcases hu with ⟨hC, rfl⟩ | ⟨hC, rfl⟩
    · rw [if_neg (by decide), OK_some, if_pos g2, OK_bind]
      refine (figM hN hD hd h16).mono ?_
      rintro ⟨v1, v2, v3, v4, v5⟩ ⟨hv, _, hmr⟩
      simp only at hv hmr ⊢
      rcases hv with ⟨_, rfl⟩ | ⟨hn, _⟩
      · rw [if_neg (by decide), OK_some]
        exact ⟨rfl, hmr.len⟩
      · exact absurd hC hn
    · rw [if_pos rfl, OK_some, if_pos g2, OK_bind]
      refine (figM hN hD hd h16).mono ?_
      rintro ⟨v1, v2, v3, v4, v5⟩ ⟨hv, _, hmr⟩
      simp only at hv hmr ⊢
      rcases hv with ⟨hn, _⟩ | ⟨_, rfl⟩
      · exact absurd hn hC
      · rw [if_pos rfl, OK_some]
        exact ⟨rfl, hmr.len⟩
  rw [if_neg g2, if_neg g2]
  by_cases g3 : x = 3
  · rw [if_pos g3, if_pos hk, OK_some, if_pos g3, mGre hd.1]
    simp only [Option.bind_some]
    rw [OK_some]
    exact ⟨zgre_eq, h16⟩
  rw [if_neg g3, if_neg g3]
  by_cases g4 : x = 4
  · rw [if_pos g4, OK_some, if_pos g4, OK_some]
    exact ⟨by rw [hhl, hkp], h16⟩
  rw [if_neg g4, if_neg g4]
  by_cases g5 : x = 5
  · rw [if_pos g5, OK_some, if_pos g5, OK_some]
    exact ⟨by rw [e1, e2], h16⟩
  rw [if_neg g5, if_neg g5, OK_some, OK_some]
  exact ⟨rfl, h16⟩
/-! move -/
theorem Sm.mir (h : Sm k X) : Sm k (X.map mir) := by
  obtain ⟨h1, h2, h3, h4, h5⟩ := h
  refine ⟨h1, conn_map (fun a b ha _ e => adj_mir h1 (h5 a ha).1 e) h2, nd_map h3 (fun a _ b _ e => mir_inj e), by rw [List.length_map]; exact h4, fun x hx => ?_⟩
  obtain ⟨y, hy, rfl⟩ := List.mem_map.mp hx
  obtain ⟨a1, a2, a3, a4, a5⟩ := h5 y hy
  exact ⟨a1, a4, a5, a2, a3⟩
theorem fgN (h : Sm k X) {n : Nat} (hn : n < 6) : Fg k (X.map (trnN k n)) ∧ ∀ x ∈ X.map (trnN k n), ok32 x := by
  have hb : ∀ x ∈ X.map (trnN k n), okT k x.2.2 ∧ -31 ≤ x.1 ∧ x.1 ≤ 31 ∧ -31 ≤ x.2.1 ∧ x.2.1 ≤ 31 := fun x hx => by
    obtain ⟨y, hy, rfl⟩ := List.mem_map.mp hx
    have := trnN_bd h.1 (m := 14) (by omega) (h.2.2.2.2 y hy) n hn
    exact ⟨this.1, by omega, by omega, by omega, by omega⟩
  refine ⟨⟨h.1, conn_map (fun a b ha _ e => adj_trnN h.1 n (h.2.2.2.2 a ha).1 e) h.2.1, nd_map h.2.2.1 (fun a ha b hb e => trnN_inj h.1 n (h.2.2.2.2 a ha).1 (h.2.2.2.2 b hb).1 e), by rw [List.length_map]; exact h.2.2.2.1, fun x hx => ?_⟩, fun x hx => ?_⟩
  · obtain ⟨b1, b2⟩ := hb x hx
    exact ⟨b1, by omega, by omega, by omega, by omega⟩
  · obtain ⟨b1, b2⟩ := hb x hx
    have ht := okT_rng b1
    exact ⟨by omega, by omega, by omega, by omega, ht.1, ht.2⟩
theorem move_turns (hN : 100 ≤ N) (h : Sm k X) {J : List Int32} (hJ : X.length + J.length = 12) {n : Nat} (hn : n < 6) : f_X11_move_L58 N (iI n) k (iI X.length) N 0 (X.map cI ++ J) = some ((X.map (trnN k n)).map cI ++ J) := by
  suffices hs : OK (f_X11_move_L58 N (iI n) k (iI X.length) N 0 (X.map cI ++ J)) (fun u => u = (X.map (trnN k n)).map cI ++ J) by
    obtain ⟨w, e, rfl⟩ := hs; exact e
  have hl := h.2.2.2.1
  refine zlp2 n (fun i v T => v = iI i ∧ T = (X.map (trnN k i)).map cI ++ J) ?_ N 0 _ _ (by omega) (by omega) ⟨rfl, ?_⟩
  case refine_2 => rw [show trnN k 0 = id from rfl, List.map_id]
  rintro fu i v T hi ⟨rfl, rfl⟩ ih
  rw [f_X11_move_L58]
  rcases Nat.lt_or_ge i n with hlt | hge
  · have e0 : (X.map (trnN k i)).length = X.length := List.length_map _
    have := turn_eq (N := N) (L := X.map (trnN k i)) (J := J) h.1 (by omega) (by omega) (fgN h (show i < 6 by omega)).2
    rw [e0] at this
    rw [if_pos (iI_ltT (by omega) (by omega) (by omega)), if_pos h.1, nI_iI, this]
    simp only [Option.bind_some]
    rw [iI_succ]
    refine ih hlt _ _ ⟨rfl, ?_⟩
    rw [List.map_map (f := trnN k i)]
    rfl
  · have e0 : i = n := by omega
    subst e0
    rw [if_neg (iI_ltF (by omega) (by omega) (by omega)), OK_some]
theorem mMoveTurns (hN : 100 ≤ N) (h : Sm k X) (hd : DK k d) (hm : MR X q r t) {n : Nat} (hn : n < 6) : OK (f_X12_move_L45 N (iI n) d (iI X.length) N 0 q r t) (fun u => MR (X.map (trnN k n)) u.1 u.2.1 u.2.2) := by
  refine zlp4 n (fun j v q r t => v = iI j ∧ MR (X.map (trnN k j)) q r t) ?_ N 0 _ _ _ _ (by omega) (by omega) ⟨rfl, ?_⟩
  case refine_2 =>
    rw [show trnN k 0 = id from rfl, List.map_id]
    exact hm
  rintro fu j v q r t hj ⟨rfl, hm⟩ ih
  rw [f_X12_move_L45]
  rcases Nat.lt_or_ge j n with g | g
  · rw [if_pos (iI_ltT (by omega) (by omega) (by omega)), OK_bind]
    have el : X.length = (X.map (trnN k j)).length := by rw [List.length_map]
    rw [el]
    refine (mTrn hm hd (by omega) (fun x hx => ?_)).mono (fun u hu => ?_)
    · obtain ⟨y, hy, rfl⟩ := List.mem_map.mp hx
      exact trnN_okT hd.1 j (h.2.2.2.2 y hy).1
    · rw [← el, iI_succ]
      refine ih g _ _ _ _ ⟨rfl, ?_⟩
      rw [List.map_map] at hu
      exact hu
  · have e : j = n := by omega
    rw [if_neg (iI_ltF (by omega) (by omega) (by omega)), OK_some, ← e]
    exact hm
theorem mLays (hN : 100 ≤ N) (hd : DK k d) (hm : MR X q r t) (hX : X.length ≤ 12) : OK (f_X12_lays N d (iI X.length) q r t) (fun u => DR k X u) := by
  unfold f_X12_lays
  have hdl := hd.2.1
  rw [show (1 : Int32) = iI ((1 : Nat) : Int) from rfl, sI (by omega) (by omega)]
  simp only [Option.bind_some]
  rw [OK_bind]
  refine zlp2 X.length (fun i v u => v = iI i ∧ u.length = 14 ∧ u[0]? = some (iI k) ∧ u[1]? = some (iI X.length) ∧ ∀ j c, j < i → X[j]? = some c → u[2 + j]? = some (iI (ky c))) ?_ N 0 _ _ (by omega) (by omega) ⟨rfl, by simp [hdl], st1 hd.2.2 (by omega), st0 (by omega), fun j c h => by omega⟩
  rintro fu i v u hi ⟨rfl, h1, h2, h3, h4⟩ ih
  rw [f_X12_lays_L12]
  rcases Nat.lt_or_ge i X.length with g | g
  · obtain ⟨x, hx⟩ := gL g
    rw [if_pos (iI_ltT (by omega) (by omega) (by omega)), mKeyOf hm hx]
    simp only [Option.bind_some]
    have e2 : (2 : Int32) + iI (i : Int) = iI ((2 + i : Nat) : Int) := by rw [li2, iI_add]; rfl
    rw [e2, sI (by omega) (by omega)]
    simp only [Option.bind_some]
    rw [iI_succ]
    refine ih g _ _ ⟨rfl, by simp [h1], st1 h2 (by omega), st1 h3 (by omega), fun j c hj hc => ?_⟩
    rcases Nat.lt_or_ge j i with g1 | g1
    · exact st1 (h4 j c g1 hc) (by omega)
    · have : j = i := by omega
      subst this
      rw [hx] at hc
      cases hc
      exact st0 (by omega)
  · have e0 : i = X.length := by omega
    subst e0
    rw [if_neg (iI_ltF (by omega) (by omega) (by omega)), OK_some, OK_some]
    exact ⟨⟨hd.1, h1, h2⟩, hX, h3, fun j c hc => h4 j c (lt_of_get hc) hc⟩
theorem keyAt_CE {n i : Nat} {c : Cl} (h : CE n L T s) (hn : n ≤ 60) (hok : ∀ x ∈ L, ok32 x) (hc : L[i]? = some c) : f_X2_keyAt N (iI i) T s = some (iI (ky c)) := by
  have hl := h.le
  have := lt_of_get hc
  obtain ⟨J, rfl, h2, rfl⟩ := h
  exact keyAt_eq (by omega) (by omega) (by omega) (by rw [Int.toNat_natCast]; exact rc_get? hc) (hok c (List.mem_of_getElem? hc))
theorem NF.dr (h : NF k X) (hw : ¬ wide X) : Dr k X := ⟨h.1.1, h.1.2.2.1, h.1.2.2.2.1, fun c hc => by
  obtain ⟨o1, o2, o3, o4, o5⟩ := h.1.2.2.2.2 c hc
  have h1 : ¬ 9 < c.1 := fun g => hw ⟨c, hc, Or.inl g⟩
  have h2 : ¬ 9 < c.2.1 := fun g => hw ⟨c, hc, Or.inr g⟩
  exact ⟨by omega, by omega, by omega, by omega, o1⟩⟩
/-- from the moved cells on -/
theorem move_tail (hN : 5000 ≤ N) (hD : Dr k L) (hL : CE 12 L T s) (hd : DR k L d) (hc : RHc H he hl hf) (hm : RHm H was kept) (hO : HOK H) (hX : Sm k X) (hXl : X.length = L.length) {J : List Int32} (hJ : X.length + J.length = 12) (hmr : MR X q r t) {n : Nat} (hn : n < 6) :
    OK ((f_X11_move_L58 N (iI n) k (iI L.length) N 0 (X.map cI ++ J)).bind fun e15 => (f_X2_normalise N e15 (iI L.length)).bind fun u16 => (f_X2_allHaveKeys N u16 (iI L.length)).bind fun u17 => if u17 = 0 then some ((-2), T, s, he, hl, u16, iI L.length, hf) else (f_X3_keep N he hl k T s hf).bind fun u19 => (f_X2_copy N T u16 (iI L.length)).bind fun u20 => (f_X2_keyAt N 0 u20.1 u20.2).bind fun u21 => some (u21, u20.1, u20.2, u19.1, u19.2.1, u16, iI L.length, u19.2.2))
      (fun u => OK ((f_X12_move_L45 N (iI n) d (iI L.length) N 0 q r t).bind fun e12 => (f_X12_settles N (iI L.length) e12.1 e12.2.1 e12.2.2).bind fun u13 => (f_X12_isWide N (iI L.length) u13.1 u13.2.1).bind fun u14 => if u14 = 0 then (f_X12_records N d was kept).bind fun u16 => (f_X12_lays N d (iI L.length) u13.1 u13.2.1 u13.2.2).bind fun u17 => (z_get u17 2).bind fun x18 => some (x18, u17, u16.1, u16.2, iI L.length, u13.1, u13.2.1, u13.2.2) else some ((-2), d, was, kept, iI L.length, u13.1, u13.2.1, u13.2.2))
      (fun v => u.1 = v.1 ∧ RS k u.2.1 u.2.2.1 u.2.2.2.1 u.2.2.2.2.1 u.2.2.2.2.2.2.2 v.2.1 v.2.2.1 v.2.2.2.1 ∧ u.2.2.2.2.2.1.length = 12 ∧ L16 v.2.2.2.2.2.1 v.2.2.2.2.2.2.1 v.2.2.2.2.2.2.2)) := by
  have hk := hD.1
  have hL12 := hD.2.2.1
  have hTl : T.length = 12 := by obtain ⟨J, _, h2, _⟩ := hL; exact h2
  obtain ⟨hF, hok⟩ := fgN hX hn
  have eY : (X.map (trnN k n)).length = L.length := by rw [List.length_map, hXl]
  have t1 := move_turns (N := N) (by omega) hX hJ hn
  rw [hXl] at t1
  rw [t1]
  simp only [Option.bind_some]
  have n1 := normalise_eq (N := N) (L := X.map (trnN k n)) (J := J) (by omega) (by omega) hok hF.ok
  rw [eY] at n1
  rw [n1]
  simp only [Option.bind_some]
  have hNF := nrm_NF hF
  have eZ : (nrm (X.map (trnN k n))).length = L.length := by rw [nrm_len, eY]
  generalize hZ : nrm (X.map (trnN k n)) = Z at hNF eZ ⊢
  have hCE : CE 12 Z (Z.map cI ++ J) (iI L.length) := ⟨J, rfl, by simp; omega, by rw [eZ]⟩
  rw [OK_bind]
  have a1 := allKeys_eq (N := N) (A := Z) (J := J) (by omega) (by omega) hNF.1.ok (by omega)
  rw [eZ] at a1
  refine a1.mono (fun u hu => ?_)
  have m0 := mMoveTurns (N := N) (by omega) hX hd.1 hmr hn
  rw [hXl] at m0
  have m1 : OK ((f_X12_move_L45 N (iI n) d (iI L.length) N 0 q r t).bind fun e12 => f_X12_settles N (iI L.length) e12.1 e12.2.1 e12.2.2) (fun u => MR Z u.1 u.2.1 u.2.2) := by
    rw [OK_bind]
    refine m0.mono ?_
    rintro ⟨q2, r2, t2⟩ hm2
    have := mSet (N := N) hm2 (by omega) hF.ne hok hF.ok
    rw [eY, hZ] at this
    exact this
  have go : ∀ {Q : _ → Prop} {F : _ → Option (Int32 × List Int32 × List Int32 × Int32 × Int32 × List Int32 × List Int32 × List Int32)}, (∀ u : List Int32 × List Int32 × List Int32, MR Z u.1 u.2.1 u.2.2 → OK (F u) Q) → OK ((f_X12_move_L45 N (iI n) d (iI L.length) N 0 q r t).bind fun e12 => (f_X12_settles N (iI L.length) e12.1 e12.2.1 e12.2.2).bind F) Q := by
    intro Q F hF
    rw [OK_bind]
    rw [OK_bind] at m1
    refine m1.mono (fun a ha => ?_)
    rw [OK_bind]
    exact ha.mono (fun b hb => hF b hb)
  have wM : ∀ {q2 r2 t2 : List Int32}, MR Z q2 r2 t2 → OK (f_X12_isWide N (iI L.length) q2 r2) (fun u => (wide Z ∧ u = 1) ∨ (¬ wide Z ∧ u = 0)) := by
    intro q2 r2 t2 h2
    have := mWide (N := N) h2 (by omega) hNF.1.ok
    rw [eZ] at this
    exact this
  rcases hu with ⟨hw, rfl⟩ | ⟨hw, rfl⟩
  · rw [if_pos rfl, OK_some]
    refine go (fun b hb => ?_)
    rw [OK_bind]
    refine (wM hb).mono (fun v hv => ?_)
    rcases hv with ⟨_, rfl⟩ | ⟨hn, _⟩
    · rw [if_neg (by decide), OK_some]
      exact ⟨rfl, ⟨L, H, hD, hL, hd, hc, hm, hO⟩, by simp; omega, hb.len⟩
    · exact absurd hw hn
  · rw [if_neg (by decide), OK_bind]
    refine (keep_eq (by omega) hk hc hL).mono ?_
    rintro ⟨a1, a2, a3⟩ ha
    obtain ⟨K, hcp, hK⟩ := copy_CE (N := N) (by omega) hTl hCE (by omega) (by omega)
    rw [hcp]
    simp only [Option.bind_some]
    obtain ⟨c0, hc0⟩ := gL (show 0 < Z.length by
      have := hNF.1.2.1.1
      exact List.length_pos_iff.mpr this)
    have hCE2 : CE 12 Z (Z.map cI ++ K) (iI Z.length) := ⟨K, rfl, by simp; omega, rfl⟩
    rw [show (0 : Int32) = iI ((0 : Nat) : Int) from rfl, keyAt_CE hCE2 (by omega) hNF.1.ok hc0]
    simp only [Option.bind_some]
    rw [OK_some]
    refine go (fun b hb => ?_)
    rw [OK_bind]
    refine (wM hb).mono (fun v hv => ?_)
    rcases hv with ⟨hn, _⟩ | ⟨_, rfl⟩
    · exact absurd hn hw
    · rw [if_pos (by rfl), OK_bind]
      refine (records_eq (by omega) hm hd).mono ?_
      rintro ⟨b1, b2⟩ hb'
      rw [OK_bind]
      have l1 := mLays (N := N) (by omega) hd.1 hb (by omega)
      rw [eZ] at l1
      refine l1.mono (fun dd hdd => ?_)
      have g2 : z_get dd 2 = some (iI (ky c0)) := gI (i := 2) (hdd.2.2.2 0 c0 hc0) (by rw [hdd.1.2.1]; decide)
      rw [g2]
      simp only [Option.bind_some]
      rw [OK_some]
      exact ⟨rfl, ⟨Z, psh H (k, L), hNF.dr hw, hCE2, hdd, ha, hb', psh_ok hO hD⟩, by simp; omega, hb.len⟩
theorem s_move (hN : 5000 ≤ N) (h : RS k T s he hl hf d was kept) (hw : w.length = 12) (h16 : L16 q r t) {n : Int32} (x y : Int32) : OK (f_X11_move N x y k T s he hl w ws hf) (fun u => OK (f_X12_move N x y d was kept n q r t) (fun v => u.1 = v.1 ∧ RS k u.2.1 u.2.2.1 u.2.2.2.1 u.2.2.2.2.1 u.2.2.2.2.2.2.2 v.2.1 v.2.2.1 v.2.2.2.1 ∧ u.2.2.2.2.2.1.length = 12 ∧ L16 v.2.2.2.2.2.1 v.2.2.2.2.2.2.1 v.2.2.2.2.2.2.2)) := by
  have h0 := h
  obtain ⟨L, H, hD, hL, hd, hc, hm, hO⟩ := h
  obtain ⟨a, rfl, a1, a2⟩ := iI_ex x
  obtain ⟨b, rfl, b1, b2⟩ := iI_ex y
  have hk := hD.1
  have hL12 := hD.2.2.1
  unfold f_X11_move f_X12_move
  have i1 : f_X12_in N (iI a) 0 1 = some (if 0 ≤ a ∧ a ≤ 1 then 1 else 0) := mIn (N := N) a 0 1 ⟨a1, a2⟩ ⟨by omega, by omega⟩ ⟨by omega, by omega⟩
  have i2 : f_X12_in N (iI b) 0 5 = some (if 0 ≤ b ∧ b ≤ 5 then 1 else 0) := mIn (N := N) b 0 5 ⟨b1, b2⟩ ⟨by omega, by omega⟩ ⟨by omega, by omega⟩
  rw [i1, i2]
  simp only [Option.bind_some]
  by_cases g1 : 0 ≤ a ∧ a ≤ 1
  case neg =>
    rw [if_neg g1, OK_ite]
    refine ⟨fun _ => ?_, fun e1 => ?_⟩
    · rw [OK_some, if_pos (by rfl), OK_some]
      exact ⟨rfl, h0, hw, h16⟩
    · rw [if_pos (by
        rw [li0, iI_lt (by omega) (by omega) (by omega) (by omega)] at e1
        rw [li1, iI_lt (by omega) (by omega) (by omega) (by omega)]
        omega), OK_some, if_pos (by rfl), OK_some]
      exact ⟨rfl, h0, hw, h16⟩
  rw [if_pos g1, if_neg (show ¬ iI a < 0 by rw [li0]; exact iI_ltF (by omega) (by omega) (by omega)), if_neg (show ¬ 1 < iI a by rw [li1]; exact iI_ltF (by omega) (by omega) (by omega)), if_neg (show ¬ (1 : Int32) = 0 by decide)]
  by_cases g2 : 0 ≤ b ∧ b ≤ 5
  case neg =>
    rw [if_neg g2, OK_ite]
    refine ⟨fun _ => ?_, fun e1 => ?_⟩
    · rw [OK_some, if_pos (by rfl), OK_some]
      exact ⟨rfl, h0, hw, h16⟩
    · rw [if_pos (by
        rw [li0, iI_lt (by omega) (by omega) (by omega) (by omega)] at e1
        rw [li5, iI_lt (by omega) (by omega) (by omega) (by omega)]
        omega), OK_some, if_pos (by rfl), OK_some]
      exact ⟨rfl, h0, hw, h16⟩
  rw [if_pos g2, if_neg (show ¬ iI b < 0 by rw [li0]; exact iI_ltF (by omega) (by omega) (by omega)), if_neg (show ¬ 5 < iI b by rw [li5]; exact iI_ltF (by omega) (by omega) (by omega)), if_neg (show ¬ (1 : Int32) = 0 by decide), OK_bind]
  obtain ⟨nn, rfl⟩ := Int.eq_ofNat_of_zero_le g2.1
  have hnn : nn < 6 := by omega
  have draft : ∀ {Q : Int32 × List Int32 × List Int32 × Int32 × Int32 × List Int32 × List Int32 × List Int32 → Prop} {F : Int32 × List Int32 × List Int32 × List Int32 → Int32 → Option (Int32 × List Int32 × List Int32 × Int32 × Int32 × List Int32 × List Int32 × List Int32)}, (∀ q2 r2 t2 (u : Int32), MR L q2 r2 t2 → ((Conn k L ∧ u = 1) ∨ (¬ Conn k L ∧ u = 0)) → OK (F (iI L.length, q2, r2, t2) u) Q) → OK ((f_X12_takesDraft N d q r t).bind fun u5 => (f_X12_isConnected N d u5.1 u5.2.1 u5.2.2.1 u5.2.2.2).bind fun u6 => F u5 u6) Q := by
    intro Q F hF
    rw [OK_bind]
    refine (mDraft hd hD.2.2.2 (by omega) h16.1 h16.2.1 h16.2.2).mono ?_
    rintro ⟨n, q2, r2, t2⟩ ⟨e1, hm2⟩
    simp only at e1 hm2
    subst e1
    rw [OK_bind]
    exact (mConn hN hD.ld hd.1 hm2).mono (fun u hu => hF q2 r2 t2 u hm2 hu)
  refine (figC (by omega) hD hL).mono (fun u hu => ?_)
  rcases hu with ⟨hC, rfl⟩ | ⟨hC, rfl⟩
  case inr =>
    rw [if_pos (by rfl), OK_some]
    refine draft (fun q2 r2 t2 u hm2 hu => ?_)
    rcases hu with ⟨hn, _⟩ | ⟨_, rfl⟩
    · exact absurd hn hC
    · rw [if_pos (by rfl), OK_some]
      exact ⟨rfl, h0, hw, hm2.len⟩
  rw [if_neg (by decide)]
  have hSm := hD.sm hC
  obtain ⟨J, hcp, hJ⟩ := copy_CE (N := N) (by omega) hw hL hL12 (by omega)
  rw [hcp]
  simp only [Option.bind_some]
  by_cases ga : a = 1
  · subst ga
    rw [if_pos (by rfl)]
    have mm := mirror_eq (N := N) (L := L) (J := J) (by omega) (by omega) hD.ld.ok
    rw [mm]
    simp only [Option.bind_some]
    have el : (L.map mir).length = L.length := List.length_map _
    have res : ∀ (q2 r2 t2 : List Int32), MR (L.map mir) q2 r2 t2 → _ := fun q2 r2 t2 hm2 => move_tail (X := L.map mir) (n := nn) hN hD hL hd hc hm hO hSm.mir el (J := J) (by rw [el]; exact hJ) hm2 hnn
    obtain ⟨q2, r2, t2, hm2⟩ : ∃ q2 r2 t2, MR (L.map mir) q2 r2 t2 := by
      obtain ⟨u, _, hu⟩ := mDraft (N := N) hd hD.2.2.2 (by omega) h16.1 h16.2.1 h16.2.2
      obtain ⟨v, _, hv⟩ := mMir (N := N) hu.2 (by omega)
      exact ⟨_, _, _, hv⟩
    obtain ⟨U, hU, _⟩ := res q2 r2 t2 hm2
    refine ⟨U, hU, draft (fun q3 r3 t3 u hm3 hu => ?_)⟩
    rcases hu with ⟨_, rfl⟩ | ⟨hn, _⟩
    case inr => exact absurd hC hn
    rw [if_neg (by decide), if_pos (by rfl), OK_bind]
    refine (mMir hm3 (by omega)).mono ?_
    rintro ⟨q4, r4⟩ hm4
    obtain ⟨U', hU', hV⟩ := res q4 r4 t3 hm4
    rw [hU] at hU'
    cases hU'
    exact hV
  · have ga0 : a = 0 := by omega
    subst ga0
    rw [if_neg (by decide)]
    have res : ∀ (q2 r2 t2 : List Int32), MR L q2 r2 t2 → _ := fun q2 r2 t2 hm2 => move_tail (X := L) (n := nn) hN hD hL hd hc hm hO hSm rfl (J := J) hJ hm2 hnn
    obtain ⟨q2, r2, t2, hm2⟩ : ∃ q2 r2 t2, MR L q2 r2 t2 := by
      obtain ⟨u, _, hu⟩ := mDraft (N := N) hd hD.2.2.2 (by omega) h16.1 h16.2.1 h16.2.2
      exact ⟨_, _, _, hu.2⟩
    obtain ⟨U, hU, _⟩ := res q2 r2 t2 hm2
    refine ⟨U, hU, draft (fun q3 r3 t3 u hm3 hu => ?_)⟩
    rcases hu with ⟨_, rfl⟩ | ⟨hn, _⟩
    case inr => exact absurd hC hn
    rw [if_neg (by decide), if_neg (by decide)]
    obtain ⟨U', hU', hV⟩ := res q3 r3 t3 hm3
    rw [hU] at hU'
    cases hU'
    exact hV
end
