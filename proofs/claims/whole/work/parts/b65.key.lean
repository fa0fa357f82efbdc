/-! key -/
/-- the lengths of the class's rows of images; of the reference's rows -/
def SI (ic : List Int32) (mf : Nat → List Int32 × Int32) : Prop := ic.length = 12 ∧ ∀ i, (mf i).1.length = 12
def SM (q r t a b c im : List Int32) : Prop := L16 q r t ∧ L16 a b c ∧ im.length = 144
section
variable {N k : Nat} {L X : List Cl} {H : List (Nat × List Cl)} {T d was q r t w ic im ha hb hc : List Int32} {s kept he hl ws mn is hn : Int32} {hf : Nat → Nat × List Int32 × Int32} {mf : Nat → List Int32 × Int32}
theorem trnN_sft (hk : k < 3) (n : Nat) (u v : Int) : ∃ u' v', ∀ x, trnN k n (sft u v x) = sft u' v' (trnN k n x) := by
  induction n with
  | zero => exact ⟨u, v, fun x => rfl⟩
  | succ n ih =>
    obtain ⟨u1, v1, h1⟩ := ih
    obtain ⟨u2, v2, h2⟩ := trn_sft hk u1 v1
    exact ⟨u2, v2, fun x => by show trn k (trnN k n (sft u v x)) = sft u2 v2 (trn k (trnN k n x)); rw [h1, h2]⟩
theorem sym_sft (hk : k < 3) (i : Nat) (u v : Int) : ∃ u' v', ∀ x, sym k i (sft u v x) = sft u' v' (sym k i x) := by
  by_cases h : i < tur k
  · obtain ⟨u1, v1, h1⟩ := trnN_sft hk (i % tur k) u v
    exact ⟨u1, v1, fun x => by unfold sym; rw [if_pos h, if_pos h]; exact h1 x⟩
  · obtain ⟨u1, v1, h1⟩ := trnN_sft hk (i % tur k) v u
    exact ⟨u1, v1, fun x => by unfold sym; rw [if_neg h, if_neg h, mir_sft]; exact h1 (mir x)⟩
theorem img_eq {A B : List Cl} {u v : Int} (hA : Sm k A) (hB : Sm k B) (hp : A.Perm (B.map (sft u v))) (i : Nat) : img k A i = img k B i := by
  obtain ⟨u', v', h1⟩ := sym_sft hA.1 i u v
  refine nrm_eq (u := u') (v := v') (fg_sym hA i) (fg_sym hB i) ((hp.map (sym k i)).trans (List.Perm.of_eq ?_))
  rw [List.map_map, List.map_map]
  apply List.map_congr_left
  intro x _
  exact h1 x
theorem nrm_sm (h : Sm k L) : Sm k (nrm L) := (nrm_Nf h.fg).sm
theorem img_nrm (h : Sm k L) (i : Nat) : img k (nrm L) i = img k L i := img_eq (nrm_sm h) h nrm_perm i
theorem can_eq {A B : List Cl} {u v : Int} (hA : Sm k A) (hB : Sm k B) (hp : A.Perm (B.map (sft u v))) : can k A = can k B := by
  have : img k A = img k B := funext (img_eq hA hB hp)
  unfold can
  rw [this]
theorem can_nrm (h : Sm k L) : can k (nrm L) = can k L := can_eq (nrm_sm h) h nrm_perm
theorem CE.congr {n : Nat} {A B : List Cl} (h : CE n A T s) (e : A = B) : CE n B T s := e ▸ h
theorem FM.si {F : Nat → List Cl} {n : Nat} (h : FM F n mf) (hi : ic.length = 12) : SI ic mf := ⟨hi, h.1⟩
/-- an index into a form, on both sides -/
theorem idx_tail (hN : 100 ≤ N) (hX : CE 12 X T s) (ho : ∀ x ∈ X, ok32 x) (hm : MR X q r t) (hX12 : X.length ≤ 12) {z : Int} (z0 : 0 ≤ z) (z2 : z < 2147483648) {α β : Type} (A : Int32 → α) (B : Int32 → β) {P : α → β → Prop} (hP : ∀ y, P (A y) (B y)) : OK (if iI z < s then (f_X2_keyAt N (iI z) T s).bind fun u => some (A u) else some (A (-9))) (fun u => OK (if iI z < iI X.length then (f_X12_keyOf N (iI z) q r t).bind fun v => some (B v) else some (B (-9))) (fun v => P u v)) := by
  have hs : s = iI X.length := by obtain ⟨J, _, _, h3⟩ := hX; exact h3
  rw [hs]
  by_cases g : z < X.length
  · obtain ⟨i, rfl⟩ := Int.eq_ofNat_of_zero_le z0
    obtain ⟨c, hc⟩ := gL (show i < X.length by omega)
    rw [if_pos (iI_ltT g (by omega) (by omega)), ← hs, keyAt_CE hX (by omega) ho hc]
    simp only [Option.bind_some]
    rw [OK_some, hs, if_pos (iI_ltT g (by omega) (by omega)), mKeyOf hm hc]
    simp only [Option.bind_some]
    rw [OK_some]
    exact hP _
  · rw [if_neg (iI_ltF g (by omega) (by omega)), OK_some, if_neg (iI_ltF g (by omega) (by omega)), OK_some]
    exact hP _
theorem s_key (hN : 5000 ≤ N) (h : RS k T s he hl hf d was kept) (hw : w.length = 12) (hsi : SI ic mf) (hsm : SM q r t ha hb hc im) {n : Int32} (x y : Int32) :
    OK (f_X11_key N x y k T s w ws mn ic is mf) (fun u => OK (f_X12_key N x y d n q r t ha hb hc hn im) (fun v => u.1 = v.1 ∧ u.2.1.length = 12 ∧ SI u.2.2.2.2.1 u.2.2.2.2.2.2 ∧ SM v.2.2.1 v.2.2.2.1 v.2.2.2.2.1 v.2.2.2.2.2.1 v.2.2.2.2.2.2.1 v.2.2.2.2.2.2.2.1 v.2.2.2.2.2.2.2.2.2)) := by
  obtain ⟨L, H, hD, hL, hd, hcc, hm, hO⟩ := h
  obtain ⟨a, rfl, a1, a2⟩ := iI_ex x
  obtain ⟨b, rfl, b1, b2⟩ := iI_ex y
  obtain ⟨h16, h16h, him⟩ := hsm
  have hk := hD.1
  have hL12 := hD.2.2.1
  unfold f_X11_key f_X12_key
  have i1 : f_X12_in N (iI a) 0 1 = some (if 0 ≤ a ∧ a ≤ 1 then 1 else 0) := mIn (N := N) a 0 1 ⟨a1, a2⟩ ⟨by omega, by omega⟩ ⟨by omega, by omega⟩
  rw [i1]
  simp only [Option.bind_some]
  by_cases g1 : 0 ≤ a ∧ a ≤ 1
  case neg =>
    rw [if_neg g1, OK_ite]
    refine ⟨fun _ => ?_, fun e1 => ?_⟩
    · rw [OK_some, if_pos (by rfl), OK_some]
      exact ⟨rfl, hw, hsi, h16, h16h, him⟩
    · rw [if_pos (by
        rw [li0, iI_lt (by omega) (by omega) (by omega) (by omega)] at e1
        rw [li1, iI_lt (by omega) (by omega) (by omega) (by omega)]
        omega), OK_some, if_pos (by rfl), OK_some]
      exact ⟨rfl, hw, hsi, h16, h16h, him⟩
  rw [if_pos g1, if_neg (show ¬ iI a < 0 by rw [li0]; exact iI_ltF (by omega) (by omega) (by omega)), if_neg (show ¬ 1 < iI a by rw [li1]; exact iI_ltF (by omega) (by omega) (by omega)), if_neg (show ¬ (1 : Int32) = 0 by decide)]
  by_cases g2 : b < 0
  · have c2 : iI b < 0 := by rw [li0]; exact iI_ltT g2 (by omega) (by omega)
    rw [if_pos c2, OK_some, if_pos c2, OK_some]
    exact ⟨rfl, hw, hsi, h16, h16h, him⟩
  have c2 : ¬ iI b < 0 := by rw [li0]; exact iI_ltF (by omega) (by omega) (by omega)
  rw [if_neg c2, if_neg c2, OK_bind]
  refine (figC (by omega) hD hL).mono (fun u hu => ?_)
  rcases hu with ⟨hC, rfl⟩ | ⟨hC, rfl⟩
  case inr =>
    rw [if_pos (by rfl), OK_some, OK_bind]
    refine (figM hN hD hd h16).mono ?_
    rintro ⟨v1, v2, v3, v4, v5⟩ ⟨hv, _, hmr⟩
    simp only at hv hmr ⊢
    rcases hv with ⟨hn, _⟩ | ⟨_, rfl⟩
    · exact absurd hn hC
    · rw [if_pos (by rfl), OK_some]
      exact ⟨rfl, hw, hsi, hmr.len, h16h, him⟩
  rw [if_neg (by decide)]
  have hSm := hD.sm hC
  have hNF := nrm_NF hSm.fg
  obtain ⟨J, hcp, hJ⟩ := copy_CE (N := N) (by omega) hw hL hL12 (by omega)
  rw [hcp]
  simp only [Option.bind_some]
  rw [normalise_eq (by omega) (by omega) hD.ld.ok hSm.fg.ok]
  simp only [Option.bind_some]
  have hW : CE 12 (nrm L) ((nrm L).map cI ++ J) (iI L.length) := ⟨J, rfl, by simp [nrm_len]; omega, by rw [nrm_len]⟩
  -- the reference up to the images
  have ref : ∀ {Q : Int32 × Int32 × List Int32 × List Int32 × List Int32 × List Int32 × List Int32 × List Int32 × Int32 × List Int32 → Prop} {F : List Int32 × List Int32 × List Int32 × Int32 → Int32 × Int32 × List Int32 × List Int32 × List Int32 × List Int32 → Option (Int32 × Int32 × List Int32 × List Int32 × List Int32 × List Int32 × List Int32 × List Int32 × Int32 × List Int32)}, (∀ u6 u7, u6.2.2.2 = iI L.length → L16 u6.1 u6.2.1 u6.2.2.1 → (((∃ i, i < 2 * tur k ∧ wide (img k L i)) ∧ u7.1 = 1) ∨ (¬ (∃ i, i < 2 * tur k ∧ wide (img k L i)) ∧ u7.1 = 0)) → L16 u7.2.2.1 u7.2.2.2.1 u7.2.2.2.2.1 → IM (img k L) (2 * tur k) u7.2.2.2.2.2 → OK (F u6 u7) Q) → ∀ {G : Int32 × Int32 × List Int32 × List Int32 × List Int32 → Option _}, OK ((f_X12_isFigure N d q r t).bind fun u4 => if u4.1 = 0 then G u4 else (f_X12_holds N u4.2.1 u4.2.2.1 u4.2.2.2.1 u4.2.2.2.2 ha hb hc).bind fun u6 => (f_X12_images N d u4.2.1 u4.2.2.1 u4.2.2.2.1 u4.2.2.2.2 u6.1 u6.2.1 u6.2.2.1 u6.2.2.2 im).bind fun u7 => F u6 u7) Q := by
    intro Q F hF G
    rw [OK_bind]
    refine (figM hN hD hd h16).mono ?_
    rintro ⟨v1, v2, v3, v4, v5⟩ ⟨hv, ev, hmr⟩
    simp only at hv hmr ev ⊢
    subst ev
    rcases hv with ⟨_, rfl⟩ | ⟨hn, _⟩
    case inr => exact absurd hC hn
    rw [if_neg (by decide), OK_bind]
    refine (mHolds hmr (by omega) h16h.1 h16h.2.1 h16h.2.2).mono ?_
    rintro ⟨w1, w2, w3, w4⟩ ⟨hh, ew⟩
    simp only at hh ew ⊢
    subst ew
    rw [OK_bind]
    refine (mImages (by omega) hSm hd.1 hh hmr.1 hmr.2.1 hmr.2.2.1 him).mono ?_
    rintro ⟨y1, y2, y3, y4, y5, y6⟩ ⟨hy, p1, p2, p3, p4⟩
    exact hF (w1, w2, w3, iI L.length) (y1, y2, y3, y4, y5, y6) rfl hh.len hy ⟨p1, p2, p3⟩ p4
  have ho : ∀ i, ∀ x ∈ img k L i, 0 ≤ x.1 ∧ x.1 ≤ 11 ∧ 0 ≤ x.2.1 ∧ x.2.1 ≤ 11 ∧ 0 ≤ x.2.2 ∧ x.2.2 < 2 := fun i => (img_Nf hSm i).rng
  have htu := tur_pos (k := k)
  by_cases ga : a = 1
  · subst ga
    rw [if_pos (by rfl), if_pos hk, OK_bind]
    refine (survey_eq (by omega) (nrm_sm hSm) hW hsi.1 hsi.2).mono ?_
    rintro ⟨n2, ic2, is2, mf2⟩ ⟨e1, e2, e3⟩
    simp only at e1 e2 e3 ⊢
    subst e1
    rw [show img k (nrm L) = img k L from funext (img_nrm hSm)] at e3
    rw [OK_bind]
    refine (allKeys_imgs (by omega) e3 (fun i => (img_Nf hSm i).ok) (by omega)).mono (fun u hu => ?_)
    rcases hu with ⟨hwd, rfl⟩ | ⟨hwd, rfl⟩
    · rw [if_pos (by rfl), OK_some]
      refine ref (fun u6 u7 q1 q2 q3 q4 q5 => ?_)
      rcases q3 with ⟨_, e⟩ | ⟨hn, _⟩
      · rw [if_pos (by rfl), e, if_neg (by decide), OK_some]
        exact ⟨rfl, by simp [nrm_len]; omega, ⟨e2, e3.1⟩, q4, q2, q5.1⟩
      · exact absurd hwd hn
    · rw [if_neg (by decide), smallest_eq (m := L.length) (by omega) e3 (fun i => img_len i) (fun i => (img_Nf hSm i).ok) (by omega) (by omega)]
      simp only [Option.bind_some]
      have hb := bst_lt (F := img k L) (n := 2 * tur k) (by omega)
      rw [if_pos (by omega)]
      obtain ⟨K, hcp2, hK⟩ := copy_CE (N := N) (T := (nrm L).map cI ++ J) (n := 12) (by omega) (by simp [nrm_len]; omega) (e3.2 _ hb) (by rw [img_len]; exact hL12) (by omega)
      rw [hcp2]
      simp only [Option.bind_some]
      have hcan : CE 12 (can k L) ((can k L).map cI ++ K) (iI (can k L).length) := ⟨K, rfl, by simp; exact hK, rfl⟩
      have main := fun (q2 r2 t2 : List Int32) (u6 : List Int32 × List Int32 × List Int32 × Int32) (u7 : Int32 × Int32 × List Int32 × List Int32 × List Int32 × List Int32) (hmr : MR (can k L) q2 r2 t2) => idx_tail (N := N) (z := b) (by omega) hcan (can_NF hSm).1.ok hmr (by rw [can_len]; exact hL12) (by omega) b2 (fun y => (y, (can k L).map cI ++ K, iI (can k L).length, iI (2 * tur k : Nat), ic2, is2, mf2)) (fun y => (y, iI L.length, q2, r2, t2, u6.1, u6.2.1, u6.2.2.1, u6.2.2.2, u7.2.2.2.2.2)) (P := fun u v => u.1 = v.1 ∧ u = (u.1, (can k L).map cI ++ K, iI (can k L).length, iI (2 * tur k : Nat), ic2, is2, mf2) ∧ v = (v.1, iI L.length, q2, r2, t2, u6.1, u6.2.1, u6.2.2.1, u6.2.2.2, u7.2.2.2.2.2)) (fun y => ⟨rfl, rfl, rfl⟩)
      obtain ⟨q0, r0, t0, hm0⟩ : ∃ q0 r0 t0, MR (can k L) q0 r0 t0 := by
        obtain ⟨U, _, hU⟩ := mDraft (N := N) hd hD.2.2.2 (by omega) h16.1 h16.2.1 h16.2.2
        obtain ⟨V, _, hV⟩ := mImages (N := N) (n := 0) (by omega) hSm hd.1 hU.2 hU.2.1 hU.2.2.1 hU.2.2.2.1 him
        obtain ⟨W, _, hW⟩ := mTakesImage (N := N) (by omega) hV.2.2.2.2 (by omega) (fun i => img_len i) hL12 ho hb hV.2.1 hV.2.2.1 hV.2.2.2.1
        exact ⟨_, _, _, hW.2⟩
      obtain ⟨U, hU, hU2⟩ := main q0 r0 t0 (q0, r0, t0, 0) (0, 0, q0, r0, t0, q0) hm0
      refine ⟨U, hU, ?_⟩
      refine ref (fun u6 u7 q1 q2 q3 q4 q5 => ?_)
      rcases q3 with ⟨hn, _⟩ | ⟨_, e⟩
      · exact absurd hn hwd
      rw [if_pos (by rfl), e, if_pos (by rfl), if_pos (by rfl), q1, mLeast (by omega) hd.1 q5 (fun i => img_len i) hL12 ho]
      simp only [Option.bind_some]
      rw [OK_bind]
      refine (mTakesImage (by omega) q5 (by omega) (fun i => img_len i) hL12 ho hb q4.1 q4.2.1 q4.2.2).mono ?_
      rintro ⟨n3, q3', r3', t3'⟩ ⟨e4, hm4⟩
      simp only at e4 hm4 ⊢
      subst e4
      obtain ⟨U', hU', hV⟩ := main q3' r3' t3' u6 u7 hm4
      rw [hU] at hU'
      cases hU'
      rw [can_len, q1] at hV
      refine hV.mono ?_
      rintro v ⟨p1, p2, p3⟩
      rw [p3, p2]
      exact ⟨p1, by simp; exact hK, ⟨e2, e3.1⟩, hm4.len, q2, q5.1⟩
  · have ga0 : a = 0 := by omega
    subst ga0
    rw [if_neg (by decide)]
    have main := fun (q2 r2 t2 : List Int32) (u6 : List Int32 × List Int32 × List Int32 × Int32) (u7 : Int32 × Int32 × List Int32 × List Int32 × List Int32 × List Int32) (hmr : MR (nrm L) q2 r2 t2) => idx_tail (N := N) (z := b) (by omega) hW hNF.1.ok hmr (by rw [nrm_len]; exact hL12) (by omega) b2 (fun y => (y, (nrm L).map cI ++ J, iI L.length, mn, ic, is, mf)) (fun y => (y, iI L.length, q2, r2, t2, u6.1, u6.2.1, u6.2.2.1, u6.2.2.2, u7.2.2.2.2.2)) (P := fun u v => u.1 = v.1 ∧ u = (u.1, (nrm L).map cI ++ J, iI L.length, mn, ic, is, mf) ∧ v = (v.1, iI L.length, q2, r2, t2, u6.1, u6.2.1, u6.2.2.1, u6.2.2.2, u7.2.2.2.2.2)) (fun y => ⟨rfl, rfl, rfl⟩)
    obtain ⟨q0, r0, t0, hm0⟩ : ∃ q0 r0 t0, MR (nrm L) q0 r0 t0 := by
      obtain ⟨U, _, hU⟩ := mDraft (N := N) hd hD.2.2.2 (by omega) h16.1 h16.2.1 h16.2.2
      obtain ⟨V, _, hV⟩ := mSet (N := N) hU.2 (by omega) hSm.fg.ne hD.ld.ok hSm.fg.ok
      exact ⟨_, _, _, hV⟩
    obtain ⟨U, hU, hU2⟩ := main q0 r0 t0 (q0, r0, t0, 0) (0, 0, q0, r0, t0, q0) hm0
    refine ⟨U, hU, ?_⟩
    refine ref (fun u6 u7 q1 q2 q3 q4 q5 => ?_)
    rw [if_neg (by decide), if_neg (by decide), q1, OK_bind, show (0 : Int32) = iI ((0 : Nat) : Int) from rfl]
    refine (mTakesImage (i := 0) (by omega) q5 (by omega) (fun i => img_len i) hL12 ho (by omega) q4.1 q4.2.1 q4.2.2).mono ?_
    rintro ⟨n3, q3', r3', t3'⟩ ⟨e4, hm4⟩
    simp only at e4 hm4 ⊢
    subst e4
    rw [img_0 hSm] at hm4
    obtain ⟨U', hU', hV⟩ := main q3' r3' t3' u6 u7 hm4
    rw [hU] at hU'
    cases hU'
    rw [nrm_len, q1] at hV
    refine hV.mono ?_
    rintro v ⟨p1, p2, p3⟩
    rw [p3, p2]
    exact ⟨p1, by simp [nrm_len]; omega, hsi, hm4.len, q2, q5.1⟩
end
