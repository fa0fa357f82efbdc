/-- the conditions under which sets of cells are looked at -/
def Ld (k : Nat) (L : List Cl) : Prop := k < 3 ∧ L.Nodup ∧ L.length ≤ 12 ∧ ∀ x ∈ L, okT k x.2.2 ∧ -20 ≤ x.1 ∧ x.1 ≤ 20 ∧ -20 ≤ x.2.1 ∧ x.2.1 ≤ 20
section
variable {N k : Nat} {L : List Cl} {J q r t d : List Int32} {a : Cl}
theorem Ld.ok (h : Ld k L) : ∀ x ∈ L, ok32 x := fun x hx => by
  obtain ⟨h1, h2, h3, h4, h5⟩ := h.2.2.2 x hx
  have := okT_rng h1
  exact ⟨by omega, by omega, by omega, by omega, this.1, this.2⟩
theorem nb_ok (h : okT k a.2.2 ∧ -20 ≤ a.1 ∧ a.1 ≤ 20 ∧ -20 ≤ a.2.1 ∧ a.2.1 ≤ 20) (e : Int) : ok32 (nb k a e) := by
  obtain ⟨h1, h2, h3, h4, h5⟩ := h
  have := okT_rng (okT_nb (d := e) h1)
  have g1 := gQ_rng k a.2.2 e
  have g2 := gR_rng k a.2.2 e
  refine ⟨?_, ?_, ?_, ?_, this.1, this.2⟩ <;> simp only [nb] <;> omega
theorem nd_get {i j : Nat} {x : Cl} (hn : L.Nodup) (h1 : L[i]? = some x) (h2 : L[j]? = some x) : i = j := by
  obtain ⟨p1, e1⟩ := List.getElem?_eq_some_iff.mp h1
  obtain ⟨p2, e2⟩ := List.getElem?_eq_some_iff.mp h2
  exact (List.getElem_inj hn).mp (e1.trans e2.symm)
theorem neigh_eq (hN : 100 ≤ N) (h : Ld k L) {c : Nat} (hc : L[c]? = some a) : OK (f_X2_neighboursOf N (iI c) (L.map cI ++ J) (iI L.length) k) (fun u => ∀ i, bt u i = true ↔ ∃ v, L[i]? = some v ∧ adj k a v) := by
  have hl := h.2.2.1
  have hcl := lt_of_get hc
  have ham := List.mem_of_getElem? hc
  have hao := h.ok a ham
  have hat := (h.2.2.2 a ham).1
  have hg : (L.map cI ++ J)[(c : Int).toNat]? = some (cI a) := by rw [Int.toNat_natCast]; exact rc_get? hc
  unfold f_X2_neighboursOf
  rw [tAt_eq (by omega) (by omega) (by omega) hg hao]
  simp only [Option.bind_some]
  rw [OK_bind]
  have hdk : dg k ≤ 6 := by unfold dg; split <;> (try split) <;> omega
  refine zlp2 (dg k) (fun e m v => v = iI e ∧ ∀ i, bt m i = true ↔ ∃ d, d < e ∧ L[i]? = some (nb k a d)) ?_ N 0 _ _ (by omega) (by omega) ⟨rfl, fun i => ?_⟩
  case refine_2 =>
    rw [bt_0]
    exact ⟨(fun q => by cases q), (fun ⟨d, h, _⟩ => by omega)⟩
  rintro fu e m v he ⟨rfl, hm⟩ ih
  rw [f_X2_neighboursOf_L12, zdeg_eq]
  rcases Nat.lt_or_ge e (dg k) with hlt | hge
  · obtain ⟨n1, n2⟩ := neighbour_eq (N := N) (q := a.1) (d := (e : Int)) h.1 hat (by omega) (by omega)
    obtain ⟨_, n3⟩ := neighbour_eq (N := N) (q := a.2.1) (d := (e : Int)) h.1 hat (by omega) (by omega)
    rw [if_pos (iI_ltT (by omega) (by omega) (by omega)), qAt_eq (by omega) (by omega) (by omega) hg hao, rAt_eq (by omega) (by omega) (by omega) hg hao]
    simp only [Option.bind_some]
    rw [n1, n3, neighbourT_eq hat]
    simp only [Option.bind_some]
    rw [iI_succ]
    have hfind := find_eq (N := N) (J := J) (c := nb k a e) (L := L) (by omega) (by omega) h.ok (nb_ok (h.2.2.2 a ham) e)
    rcases hfind with ⟨hno, hf⟩ | ⟨j, hj, hjc, hf⟩
    · have hf' : f_X2_find N (iI (a.1 + gQ k a.2.2 e)) (iI (a.2.1 + gR k a.2.2 e)) (iI (gT k a.2.2)) (L.map cI ++ J) (iI L.length) = some (iI (-1)) := hf
      rw [hf']
      simp only [Option.bind_some]
      rw [li0, if_pos (iI_ltT (by omega) (by omega) (by omega))]
      refine ih hlt _ _ ⟨rfl, fun i => (hm i).trans ⟨fun ⟨d, h1, h2⟩ => ⟨d, by omega, h2⟩, fun ⟨d, h1, h2⟩ => ?_⟩⟩
      rcases Nat.lt_or_ge d e with g | g
      · exact ⟨d, g, h2⟩
      · have : d = e := by omega
        subst this
        exact absurd (List.mem_of_getElem? h2) hno
    · have hf' : f_X2_find N (iI (a.1 + gQ k a.2.2 e)) (iI (a.2.1 + gR k a.2.2 e)) (iI (gT k a.2.2)) (L.map cI ++ J) (iI L.length) = some (iI j) := hf
      rw [hf']
      simp only [Option.bind_some]
      rw [li0, if_neg (iI_ltF (by omega) (by omega) (by omega))]
      refine ih hlt _ _ ⟨rfl, fun i => ?_⟩
      rw [bt_or, Bool.or_eq_true, bt_shl (by omega), decide_eq_true_iff, hm i]
      constructor
      · rintro (⟨d, h1, h2⟩ | rfl)
        · exact ⟨d, by omega, h2⟩
        · exact ⟨e, by omega, hjc⟩
      · rintro ⟨d, h1, h2⟩
        rcases Nat.lt_or_ge d e with g | g
        · exact Or.inl ⟨d, g, h2⟩
        · have : d = e := by omega
          subst this
          exact Or.inr (nd_get h.2.1 hjc h2)
  · have e0 : e = dg k := by omega
    subst e0
    rw [if_neg (iI_ltF (by omega) (by omega) (by omega)), OK_some, OK_some]
    intro i
    rw [hm i]
    constructor
    · rintro ⟨d, h1, h2⟩
      exact ⟨_, h2, d, h1, rfl⟩
    · rintro ⟨v, h1, d, h2, rfl⟩
      exact ⟨d, h2, h1⟩
/-- bits that say which cells are reached -/
def Seen (k : Nat) (L : List Cl) (a : Cl) (m : Nat) : Prop := m < 2 ^ L.length ∧ m.testBit 0 = true ∧ ∀ j v, m.testBit j = true → L[j]? = some v → Rc k (fun y => y ∈ L) a v
def Shut (k : Nat) (L : List Cl) (m : Nat) (j : Nat) : Prop := ∀ u i v, L[j]? = some u → L[i]? = some v → adj k u v → m.testBit i = true
theorem seen_end {m : Nat} (h : Ld k L) (ha : L[0]? = some a) (hs : Seen k L a m) (hc : ∀ j, m.testBit j = true → Shut k L m j) : Conn k L ↔ m = 2 ^ L.length - 1 := by
  rw [full_bits hs.1]
  constructor
  · intro hcn j hj
    obtain ⟨x, hx⟩ := gL hj
    have : x ∈ L ∧ ∀ i, L[i]? = some x → m.testBit i = true := hcn.2 a (List.mem_of_getElem? ha) x (List.mem_of_getElem? hx) (fun y => y ∈ L ∧ ∀ i, L[i]? = some y → m.testBit i = true) ⟨List.mem_of_getElem? ha, fun i hi => by rw [nd_get h.2.1 hi ha]; exact hs.2.1⟩ (fun u v hu e s => ⟨s, fun i hi => by
      obtain ⟨j, hj⟩ := List.mem_iff_getElem?.mp hu.1
      exact hc j (hu.2 j hj) u i v hj hi e⟩)
    exact this.2 j hx
  · intro hall
    refine conn_head h.1 (fun y hy => (h.2.2.2 y hy).1) ha (fun x hx => ?_)
    obtain ⟨j, hj⟩ := List.mem_iff_getElem?.mp hx
    exact hs.2.2 j x (hall j (lt_of_get hj)) hj
theorem bt_not {x : Int32} {i : Nat} (h : i < 32) : bt (x ^^^ (-1)) i = !bt x i := by
  rw [bt_xor, bt_m1 h]
  cases bt x i <;> rfl
theorem nI_of_bits {x : Int32} {n : Nat} (hn : n ≤ 31) (h : ∀ i, bt x i = true → i < n) : ∃ m, m < 2 ^ n ∧ x = nI m ∧ ∀ i, m.testBit i = bt x i := by
  obtain ⟨m, hm, rfl⟩ := bt_small hn (fun i hi => by
    cases hb : bt x i with
    | false => rfl
    | true => have := h i hb; omega)
  refine ⟨m, hm, rfl, fun i => ?_⟩
  by_cases hi : i < 32
  · exact (bt_nI i hi).symm
  · rw [bt_big (by omega), Nat.testBit_lt_two_pow (Nat.lt_of_lt_of_le hm (Nat.pow_le_pow_right (by decide) (by omega)))]
theorem areConnected_eq (hN : 100 ≤ N) (h : Ld k L) : OK (f_X2_areConnected N (L.map cI ++ J) (iI L.length) k) (fun u => (Conn k L ∧ u = 1) ∨ (¬ Conn k L ∧ u = 0)) := by
  have hl := h.2.2.1
  unfold f_X2_areConnected
  by_cases h0 : L.length = 0
  · rw [h0, if_pos (by rfl), OK_some]
    exact Or.inr ⟨fun hc => hc.1 (List.length_eq_zero_iff.mp h0), rfl⟩
  rw [li0, if_neg (iI_eqF (by omega) (by omega) (by omega) (by omega) (by omega)), OK_bind]
  obtain ⟨a, ha⟩ := gL (show 0 < L.length by omega)
  refine OK.mono (Q := fun u => ∃ m, u = nI m ∧ Seen k L a m ∧ ∀ j, m.testBit j = true → Shut k L m j) ?_ ?_
  · refine zlp3 L.length (fun i x o v => v = iI i ∧ ∃ (m p : Nat) (D : List Nat), x = nI m ∧ o = nI p ∧ Seen k L a m ∧ (∀ j, p.testBit j = true → m.testBit j = true) ∧ D.Nodup ∧ D.length = i ∧ (∀ j, j ∈ D ↔ (m.testBit j = true ∧ p.testBit j = false)) ∧ ∀ j ∈ D, Shut k L m j) ?_ N 0 _ _ _ (by omega) (by omega) ⟨rfl, 1, 1, [], rfl, rfl, ⟨?_, rfl, fun j v hj hv => ?_⟩, fun j h => h, List.nodup_nil, rfl, fun j => ?_, fun j h => by simp at h⟩
    case refine_2 => exact Nat.lt_of_lt_of_le (by decide : 1 < 2 ^ 1) (Nat.pow_le_pow_right (by decide) (by omega))
    case refine_3 =>
      have : j = 0 := by
        cases j with
        | zero => rfl
        | succ j => rw [Nat.testBit_succ] at hj; simp at hj
      subst this
      rw [ha] at hv
      cases hv
      exact Rc.refl
    case refine_4 => simp
    rintro fu i x o v hi ⟨rfl, m, p, D, rfl, rfl, hs, hpm, hD, hDl, hDj, hDs⟩ ih
    rw [f_X2_areConnected_L16]
    have hm12 : m < 4096 := Nat.lt_of_lt_of_le hs.1 (Nat.pow_le_pow_right (by decide) hl : 2 ^ L.length ≤ 2 ^ 12)
    have hmj : ∀ j, m.testBit j = true → j < L.length := fun j hj => by
      apply Classical.byContradiction
      intro hn
      rw [Nat.testBit_lt_two_pow (Nat.lt_of_lt_of_le hs.1 (Nat.pow_le_pow_right (by decide) (by omega)))] at hj
      cases hj
    have hp12 : p < 4096 := Nat.lt_pow_two_of_testBit (n := 12) p (fun j hj => by
      cases hb : p.testBit j with
      | false => rfl
      | true => have := hmj j (hpm j hb); omega)
    rcases Nat.lt_or_ge i L.length with hlt | hge
    · rw [if_pos (iI_ltT (by omega) (by omega) (by omega))]
      by_cases hp0 : p = 0
      · subst hp0
        rw [if_pos (by rfl), OK_some]
        exact ⟨m, rfl, hs, fun j hj => hDs j ((hDj j).mpr ⟨hj, Nat.zero_testBit j⟩)⟩
      · rw [li0, nI_iI p, if_neg (iI_eqF (by omega) (by omega) (by omega) (by omega) (by omega)), ← nI_iI p, ntz_N]
        obtain ⟨t1, t2, t3, t4, t5⟩ := ntz_tab p hp12 (by omega)
        rw [t1, t4]
        simp only [Option.bind_some]
        have hcj := hmj _ (hpm _ t3)
        obtain ⟨c, hc⟩ := gL hcj
        rw [nI_iI (low 12 p), OK_bind]
        refine (neigh_eq (J := J) hN h hc).mono (fun u hu => ?_)
        rw [iI_succ]
        -- the new bits
        have hu12 : ∀ j, bt u j = true → j < L.length := fun j hj => by
          obtain ⟨v, hv, _⟩ := (hu j).mp hj
          exact lt_of_get hv
        have hf : ∀ j, bt (u &&& (nI m ^^^ (-1))) j = true ↔ (bt u j = true ∧ m.testBit j = false) := fun j => by
          rw [bt_and, Bool.and_eq_true]
          constructor
          · rintro ⟨h1, h2⟩
            have := hu12 j h1
            rw [bt_not (by omega), bt_nI j (by omega)] at h2
            exact ⟨h1, by simpa using h2⟩
          · rintro ⟨h1, h2⟩
            have := hu12 j h1
            rw [bt_not (by omega), bt_nI j (by omega), h2]
            exact ⟨h1, rfl⟩
        obtain ⟨f, hfl, hfe, hfb⟩ := nI_of_bits (x := u &&& (nI m ^^^ (-1))) (n := L.length) (by omega) (fun j hj => hu12 j ((hf j).mp hj).1)
        rw [hfe]
        have hor : ∀ (x y : Nat), x < 2 ^ L.length → y < 2 ^ L.length → nI x ||| nI y = nI (x ||| y) := fun x y hx hy => by
          apply bt_ext
          intro j hj
          rw [bt_or, bt_nI j hj, bt_nI j hj, bt_nI j hj, Nat.testBit_or]
        have hqlt : p - 2 ^ low 12 p < 2 ^ L.length := by
          apply Nat.lt_pow_two_of_testBit
          intro j hj
          by_cases hj12 : j < 12
          · rw [t5 j hj12]
            cases hb : p.testBit j with
            | false => rfl
            | true => have := hmj j (hpm j hb); omega
          · apply Nat.testBit_lt_two_pow
            exact Nat.lt_of_le_of_lt (Nat.sub_le _ _) (Nat.lt_of_lt_of_le hp12 (Nat.pow_le_pow_right (by decide) (by omega) : 2 ^ 12 ≤ 2 ^ j))
        rw [hor m f hs.1 hfl, hor _ f hqlt hfl]
        have t5' : ∀ j, (p - 2 ^ low 12 p).testBit j = true ↔ (p.testBit j = true ∧ j ≠ low 12 p) := fun j => by
          by_cases hj12 : j < 12
          · rw [t5 j hj12]
            simp
          · constructor
            · intro hb
              rw [Nat.testBit_lt_two_pow (Nat.lt_of_le_of_lt (Nat.sub_le _ _) (Nat.lt_of_lt_of_le hp12 (Nat.pow_le_pow_right (by decide) (by omega) : 2 ^ 12 ≤ 2 ^ j)))] at hb
              cases hb
            · rintro ⟨hb, _⟩
              have := hmj j (hpm j hb)
              omega
        have hfj : ∀ j, f.testBit j = true ↔ (bt u j = true ∧ m.testBit j = false) := fun j => by rw [hfb, ← hf j]
        have hcRc : Rc k (fun y => y ∈ L) a c := hs.2.2 _ _ (hpm _ t3) hc
        refine ih hlt _ _ _ ⟨rfl, m ||| f, (p - 2 ^ low 12 p) ||| f, low 12 p :: D, rfl, rfl, ⟨Nat.or_lt_two_pow hs.1 hfl, ?_, fun j v hj hv => ?_⟩, fun j hj => ?_, List.nodup_cons.mpr ⟨fun hin => ?_, hD⟩, by rw [List.length_cons, hDl], fun j => ?_, fun j hj => ?_⟩
        · rw [Nat.testBit_or, hs.2.1]; rfl
        · rw [Nat.testBit_or, Bool.or_eq_true] at hj
          rcases hj with hj | hj
          · exact hs.2.2 j v hj hv
          · obtain ⟨w, hw, hadj⟩ := (hu j).mp ((hfj j).mp hj).1
            rw [hv] at hw
            cases hw
            exact hcRc.step hadj (List.mem_of_getElem? hv)
        · rw [Nat.testBit_or, Bool.or_eq_true] at hj ⊢
          rcases hj with hj | hj
          · exact Or.inl (hpm j ((t5' j).mp hj).1)
          · exact Or.inr hj
        · have := ((hDj _).mp hin).2
          rw [t3] at this
          cases this
        · rw [List.mem_cons, hDj j, Nat.testBit_or, Nat.testBit_or]
          have e1 := t5' j
          have e2 := hfj j
          cases hmb : m.testBit j <;> cases hfb' : f.testBit j <;> cases hpb : p.testBit j <;> cases hqb : (p - 2 ^ low 12 p).testBit j <;> simp [hmb, hfb', hpb, hqb] at e1 e2 ⊢
          all_goals first
            | exact e1
            | (have := hpm j hpb; rw [hmb] at this; cases this)
            | (intro e; rw [e, hpm _ t3] at hmb; cases hmb)
            | (intro e; rw [e, t3] at hpb; cases hpb)
            | exact e1
            | skip
        · have hsh : ∀ j', Shut k L m j' → Shut k L (m ||| f) j' := fun j' hj' x i' y hx hy hxy => by
            rw [Nat.testBit_or, hj' x i' y hx hy hxy]; rfl
          rcases List.mem_cons.mp hj with rfl | hj
          · intro x i' y hx hy hxy
            rw [hc] at hx
            cases hx
            rw [Nat.testBit_or, Bool.or_eq_true, hfj]
            cases hmb : m.testBit i' with
            | true => exact Or.inl rfl
            | false => exact Or.inr ⟨(hu i').mpr ⟨y, hy, hxy⟩, rfl⟩
          · exact hsh j (hDs j hj)
    · have e0 : i = L.length := by omega
      rw [if_neg (iI_ltF (by omega) (by omega) (by omega)), OK_some]
      have hall := nd_all hD (fun j hj => hmj j ((hDj j).mp hj).1) (by rw [hDl, e0])
      exact ⟨m, rfl, hs, fun j hj => hDs j (hall j (hmj j hj))⟩
  · rintro _ ⟨m, rfl, hs, hsh⟩
    have hm12 : m < 4096 := Nat.lt_of_lt_of_le hs.1 (Nat.pow_le_pow_right (by decide) hl : 2 ^ L.length ≤ 2 ^ 12)
    have := pop_rng m hm12
    rw [bc_N, bc_tab m hm12]
    simp only [Option.bind_some]
    rw [nI_iI, OK_ite, iI_eq (by omega) (by omega) (by omega) (by omega)]
    have e := (pop_full m hm12 L.length (by omega) hs.1).trans (seen_end h ha hs hsh).symm
    refine ⟨fun hp => ?_, fun hp => ?_⟩
    · rw [OK_some]
      exact Or.inl ⟨e.mp (by omega), rfl⟩
    · rw [OK_some]
      exact Or.inr ⟨fun hc => hp (by have := e.mpr hc; omega), rfl⟩
end
