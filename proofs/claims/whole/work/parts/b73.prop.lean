/-! the property of a draft -/
section
variable {N k : Nat} {a b : Int} {c u v : Cl} {L X : List Cl} {S S' : Cl → Prop} {m n : Int}
theorem Rc.shf (h : Rc k S u v) (hs : ∀ y, S y → S' (sft a b y)) : Rc k S' (sft a b u) (sft a b v) :=
  h (fun x => Rc k S' (sft a b u) (sft a b x)) Rc.refl (fun _ _ hu e s => hu.step (adj_sft a b e) (hs _ s))
theorem sft_l : sft (-a) (-b) (sft a b c) = c := by rw [sft_sft, show -a + a = 0 by omega, show -b + b = 0 by omega, sft_0]
theorem sft_r : sft a b (sft (-a) (-b) c) = c := by rw [sft_sft, show a + -a = 0 by omega, show b + -b = 0 by omega, sft_0]
/-- X is L shifted -/
def Sh (k : Nat) (L X : List Cl) (a b : Int) (m n : Int) : Prop := k < 3 ∧ B9 k L ∧ (∀ c, c ∈ L ↔ sft a b c ∈ X) ∧ 0 ≤ a ∧ 0 ≤ b ∧ Bxd X m n ∧ 0 ≤ m ∧ 0 ≤ n ∧ m + a ≤ 9 ∧ n + b ≤ 9
theorem Sh.fr (h : Sh k L X a b m n) (c : Cl) : Fr k L (-2) 11 (-2) 11 c ↔ Fr k X (-2 - a) (11 - a) (-2 - b) (11 - b) (sft a b c) := by
  unfold Fr Wn
  rw [h.2.2.1 c]
  show (-2 ≤ c.1 ∧ c.1 ≤ 11 ∧ -2 ≤ c.2.1 ∧ c.2.1 ≤ 11 ∧ okT k c.2.2) ∧ _ ↔ (-2 - a ≤ c.1 - a ∧ c.1 - a ≤ 11 - a ∧ -2 - b ≤ c.2.1 - b ∧ c.2.1 - b ≤ 11 - b ∧ okT k c.2.2) ∧ _
  constructor
  · rintro ⟨⟨h1, h2, h3, h4, h5⟩, h6⟩
    exact ⟨⟨by omega, by omega, by omega, by omega, h5⟩, h6⟩
  · rintro ⟨⟨h1, h2, h3, h4, h5⟩, h6⟩
    exact ⟨⟨by omega, by omega, by omega, by omega, h5⟩, h6⟩
theorem Sh.rc (h : Sh k L X a b m n) (c : Cl) : Rc k (Fr k L (-2) 11 (-2) 11) (-2, -2, 0) c ↔ Rc k (Fr k X (-2 - a) (11 - a) (-2 - b) (11 - b)) (-2 - a, -2 - b, 0) (sft a b c) := by
  constructor
  · intro g
    have := g.shf (a := a) (b := b) (S' := Fr k X (-2 - a) (11 - a) (-2 - b) (11 - b)) (fun y hy => (h.fr y).mp hy)
    exact this
  · intro g
    have := g.shf (a := -a) (b := -b) (S' := Fr k L (-2) 11 (-2) 11) (fun y hy => by
      rw [h.fr, sft_r]; exact hy)
    rw [sft_l] at this
    have e : sft (-a) (-b) (-2 - a, -2 - b, 0) = (-2, -2, 0) := by
      show (-2 - a - -a, -2 - b - -b, (0 : Int)) = _
      rw [show -2 - a - -a = -2 by omega, show -2 - b - -b = -2 by omega]
    rw [e] at this
    exact this
theorem Sh.out (h : Sh k L X a b m n) (hc : Wn k (-1) (m + 1) (-1) (n + 1) (sft a b c)) : Rc k (Fr k L (-2) 11 (-2) 11) (-2, -2, 0) c ↔ Rc k (Fr k X (-1) (m + 1) (-1) (n + 1)) (-1, -1, 0) (sft a b c) := by
  obtain ⟨h1, h2, h3, h4, h5, h6, h7, h8, h9, h10⟩ := h
  exact (Sh.rc ⟨h1, h2, h3, h4, h5, h6, h7, h8, h9, h10⟩ c).trans (win_eq (X0 := -2 - a) (X1 := 11 - a) (Y0 := -2 - b) (Y1 := 11 - b) h1 h6 h7 h8 (by omega) (by omega) (by omega) (by omega) (by omega) (by omega) (by omega) (by omega) hc).symm
theorem Sh.z (h : Sh k L X a b m n) (c : Cl) : ZhM k L c ↔ Zh k X m n (sft a b c) := by
  obtain ⟨h1, h2, h3, h4, h5, h6, h7, h8, h9, h10⟩ := h
  have hh : Sh k L X a b m n := ⟨h1, h2, h3, h4, h5, h6, h7, h8, h9, h10⟩
  constructor
  · rintro ⟨g1, g2, g3⟩
    have hin : 0 ≤ (sft a b c).1 ∧ (sft a b c).1 ≤ m ∧ 0 ≤ (sft a b c).2.1 ∧ (sft a b c).2.1 ≤ n := by
      by_cases e : 0 ≤ (sft a b c).1 ∧ (sft a b c).1 ≤ m ∧ 0 ≤ (sft a b c).2.1 ∧ (sft a b c).2.1 ≤ n
      · exact e
      · exact absurd ((hh.rc c).mpr (rim_go h1 h6 (by omega) (by omega) (by omega) (by omega) h7 h8 ((hh.fr c).mp ⟨g1, g2⟩).1 e)) g3
    have hW : Wn k (-1) (m + 1) (-1) (n + 1) (sft a b c) := ⟨by omega, by omega, by omega, by omega, g1.2.2.2.2⟩
    refine ⟨hW, fun hx => g2 ((h3 c).mpr hx), fun hr => g3 ((hh.out hW).mpr hr)⟩
  · rintro ⟨g1, g2, g3⟩
    refine ⟨?_, fun hx => g2 ((h3 c).mp hx), fun hr => g3 ((hh.out g1).mp hr)⟩
    obtain ⟨w1, w2, w3, w4, w5⟩ := g1
    have e1 : (sft a b c).1 = c.1 - a := rfl
    have e2 : (sft a b c).2.1 = c.2.1 - b := rfl
    exact ⟨by omega, by omega, by omega, by omega, w5⟩
theorem Sh.holes {Rp All Rp' All' : List Cl} (h : Sh k L X a b m n) (h1 : HI k (ZhM k L) Rp All) (h2 : ∀ c, ZhM k L c → c ∈ All) (g1 : HI k (Zh k X m n) Rp' All') (g2 : ∀ c, Zh k X m n c → c ∈ All') : Rp.length = Rp'.length ∧ All.length = All'.length := by
  have hk := h.1
  have back : ∀ y, Zh k X m n y → ZhM k L (sft (-a) (-b) y) := fun y hy => by rw [h.z, sft_r]; exact hy
  refine ⟨Nat.le_antisymm ?_ ?_, ?_⟩
  · refine HI.le (g := sft a b) hk (fun y hy => hy.1.2.2.2.2) h1 g1 g2 (fun c hc => (h.z c).mp hc) (fun r r' _ _ hr => ?_)
    have := hr.shf (a := -a) (b := -b) (S' := ZhM k L) back
    rw [sft_l, sft_l] at this
    exact this
  · refine HI.le (g := sft (-a) (-b)) hk (fun y hy => hy.1.2.2.2.2) g1 h1 h2 back (fun r r' _ _ hr => ?_)
    have := hr.shf (a := a) (b := b) (S' := Zh k X m n) (fun y hy => (h.z y).mp hy)
    rw [sft_r, sft_r] at this
    exact this
  · have := nd_eq (A := All.map (sft a b)) (B := All') (nd_map h1.2.1 (fun x _ y _ e => sft_inj e)) g1.2.1 (fun x => by
      rw [List.mem_map]
      constructor
      · rintro ⟨y, hy, rfl⟩
        exact g2 _ ((h.z y).mp (h1.sub hy))
      · intro hx
        exact ⟨_, h2 _ (back x (g1.sub hx)), sft_r⟩)
    rw [List.length_map] at this
    exact this
theorem Sh.bd (h : Sh k L X a b m n) (hX : ∀ c ∈ X, okT k c.2.2) (c : Cl) : (WM k c ∧ Bd k L c) ↔ (sft a b c ∉ X ∧ ∃ u ∈ X, adj k u (sft a b c)) := by
  have hk := h.1
  constructor
  · rintro ⟨hW, h1, v, hv, e⟩
    refine ⟨fun hx => h1 ((h.2.2.1 c).mpr hx), sft a b v, (h.2.2.1 v).mp hv, ?_⟩
    exact adj_sft a b (adj_symm hk hW.2.2.2.2 e)
  · rintro ⟨h1, u, hu, e⟩
    have e1 : adj k (sft (-a) (-b) u) c := by
      have := adj_sft (-a) (-b) e
      rw [sft_l] at this
      exact this
    have hu' : sft (-a) (-b) u ∈ L := by rw [h.2.2.1, sft_r]; exact hu
    have hB := h.2.1 _ hu'
    have q1 := adj_q e1
    have q2 := adj_r e1
    have hT := okT_adj e1 hB.2.2.2.2
    have b1 := hB.1
    have b2 := hB.2.1
    have b3 := hB.2.2.1
    have b4 := hB.2.2.2.1
    exact ⟨⟨by omega, by omega, by omega, by omega, hT⟩, fun hx => h1 ((h.2.2.1 c).mp hx), _, hu', adj_symm hk hB.2.2.2.2 e1⟩
theorem Sh.border {B B' : List Cl} {P P' : Cl → Prop} (h : Sh k L X a b m n) (hX : ∀ c ∈ X, okT k c.2.2) (h1 : CB k (fun c => Bd k L c ∧ P c) B 392) (g0 : B'.Nodup) (g1 : ∀ c, c ∈ B' ↔ (c ∉ X ∧ ∃ u ∈ X, adj k u c) ∧ P' c) (hP : ∀ c, WM k c → Bd k L c → (P c ↔ P' (sft a b c))) : B.length = B'.length := by
  have := nd_eq (A := B.map (sft a b)) (B := B') (nd_map h1.1 (fun x _ y _ e => sft_inj e)) g0 (fun x => by
    rw [List.mem_map, g1]
    constructor
    · rintro ⟨y, hy, rfl⟩
      obtain ⟨w1, _, w2, w3⟩ := (h1.2 y).mp hy
      exact ⟨(h.bd hX y).mp ⟨w1, w2⟩, (hP y w1 w2).mp w3⟩
    · rintro ⟨hx, hp⟩
      have e : sft a b (sft (-a) (-b) x) = x := sft_r
      rw [← e] at hx hp
      obtain ⟨w1, w2⟩ := (h.bd hX _).mpr hx
      exact ⟨sft (-a) (-b) x, (h1.2 _).mpr ⟨w1, sp_ix.1 _ w1, w2, (hP _ w1 w2).mpr hp⟩, e⟩)
  rw [List.length_map] at this
  exact this
theorem perm_sum {A B : List Nat} (h : A.Perm B) : A.sum = B.sum := by
  induction h with
  | nil => rfl
  | cons x _ ih => rw [List.sum_cons, List.sum_cons, ih]
  | swap x y l => rw [List.sum_cons, List.sum_cons, List.sum_cons, List.sum_cons]; omega
  | trans _ _ h1 h2 => exact h1.trans h2
theorem nb_sft (d : Int) : nb k (sft a b c) d = sft a b (nb k c d) := by
  unfold nb sft
  simp only
  congr 1
  · omega
  · congr 1; omega
theorem sdN_sft (hp : X.Perm (L.map (sft a b))) : sdN k X = sdN k L := by
  unfold sdN sdA
  rw [perm_sum (hp.map _), List.map_map]
  congr 1
  refine List.map_congr_left (fun c _ => ?_)
  show cnt (fun d => decide (nb k (sft a b c) d ∉ X)) (dg k) = _
  refine cnt_congr (fun d _ => ?_)
  have : nb k (sft a b c) d ∈ X ↔ nb k c d ∈ L := by
    rw [hp.mem_iff, List.mem_map, nb_sft]
    exact ⟨fun ⟨y, hy, e⟩ => by rw [← sft_inj e]; exact hy, fun h => ⟨_, h, rfl⟩⟩
  simp only [this]
theorem Sh.of (hD : Dr k L) (hC : Conn k L) (hm : Mx (fun c => c.1) (nrm L) m) (hn : Mx (fun c => c.2.1) (nrm L) n) : Sh k L (nrm L) (mnQ L) (mnR L) m n := by
  have hSm := hD.sm hC
  have hF := hSm.fg
  have hNF := nrm_NF hF
  have hne := hF.ne
  obtain ⟨⟨x, hx, ex⟩, hxm⟩ := mn_spec (fun c => c.1) hne hF.q
  obtain ⟨⟨y, hy, ey⟩, hym⟩ := mn_spec (fun c => c.2.1) hne hF.r
  obtain ⟨p, hp, ep⟩ := hm.2
  obtain ⟨p', hp', ep'⟩ := hn.2
  obtain ⟨z, hz, ez⟩ := nrm_mem.mp hp
  obtain ⟨z', hz', ez'⟩ := nrm_mem.mp hp'
  have bx := hD.2.2.2 x hx
  have by' := hD.2.2.2 y hy
  have bz := hD.2.2.2 z hz
  have bz' := hD.2.2.2 z' hz'
  have e1 : mnQ L = x.1 := ex.symm
  have e2 : mnR L = y.2.1 := ey.symm
  have e3 : m = z.1 - mnQ L := by rw [← ep, ← ez]; rfl
  have e4 : n = z'.2.1 - mnR L := by rw [← ep', ← ez']; rfl
  have l1 := hxm z hz
  have l2 := hym z' hz'
  have l1' : mnQ L ≤ z.1 := l1
  have l2' : mnR L ≤ z'.2.1 := l2
  refine ⟨hD.1, hD.2.2.2, fun c => ?_, by rw [e1]; exact bx.1, by rw [e2]; exact by'.2.2.1, fun c hc => ?_, by omega, by omega, ?_, ?_⟩
  · rw [nrm_mem]
    exact ⟨fun h => ⟨c, h, rfl⟩, fun ⟨w, hw, e⟩ => by rw [← sft_inj e]; exact hw⟩
  · have := hNF.1.2.2.2.2 c hc
    have h1 := hm.1 c hc
    have h2 := hn.1 c hc
    simp only at h1 h2
    exact ⟨by omega, h1, by omega, h2⟩
  · have := bz.2.1; omega
  · have := bz'.2.2.2.1; omega
end
