/-! the class's reading: 'go' and the whole text -/
section
variable {N k p : Nat} {S : List Int} {L : List Cl} {c : Cl} {tc wc : List Int32} {tl ws dg0 lq lr lt st0' kd0 : Int32}
theorem nb_hk (hc : inB k c) {d : Int} : (¬ (0 ≤ (nb k c d).1 ∧ (nb k c d).1 ≤ 9) ∨ ¬ (0 ≤ (nb k c d).2.1 ∧ (nb k c d).2.1 ≤ 9)) ↔ ¬ hk9 k (nb k c d) := by
  have hT : okT k (nb k c d).2.2 := gT_ok hc.2.2.2.2
  rw [hk9_inB]
  constructor
  · rintro (h | h) hb
    · exact h ⟨hb.1, by have := hb.2.1; omega⟩
    · exact h ⟨hb.2.2.1, by have := hb.2.2.2.1; omega⟩
  · intro h
    by_cases g : 0 ≤ (nb k c d).1 ∧ (nb k c d).1 ≤ 9
    · exact Or.inr (fun g2 => h ⟨g.1, by omega, g2.1, by omega, hT⟩)
    · exact Or.inl g
/-- what a run of steps leaves -/
def GoP (sp : Nat ⊕ (Nat × List Cl × Cl)) (o : (Int32 × Int32 × Int32 × Int32 × Int32 × Int32 × Int32 × (List Int32) × Int32) ⊕ (Int32 × Int32 × Int32 × Int32 × Int32 × Int32 × Int32 × Int32 × (List Int32) × Int32)) : Prop :=
  (∀ b, sp = .inl b → (∃ e, o = .inl e ∧ e.1 = iI (b : Nat) ∧ ¬ e.2.2.1 = 4 ∧ e.2.2.2.2.2.2.2.1.length = 12) ∨ (∃ e, o = .inr e ∧ e.1 = 0 ∧ e.2.1 = iI (b : Nat) ∧ e.2.2.2.2.2.2.2.2.1.length = 12)) ∧ (∀ p' L' c', sp = .inr (p', L', c') → ∃ e, o = .inl e ∧ e.2.2.1 = 4 ∧ e.2.1 = iI (p' : Nat) ∧ (e.2.2.2.2.1 = iI c'.1 ∧ e.2.2.2.2.2.1 = iI c'.2.1 ∧ e.2.2.2.2.2.2.1 = iI c'.2.2) ∧ CE 12 L' e.2.2.2.2.2.2.2.1 e.2.2.2.2.2.2.2.2)
theorem GoP.err {b : Nat} {e : Int32 × Int32 × Int32 × Int32 × Int32 × Int32 × Int32 × Int32 × (List Int32) × Int32} (h1 : e.1 = 0) (h2 : e.2.1 = iI (b : Nat)) (h3 : e.2.2.2.2.2.2.2.2.1.length = 12) : GoP (.inl b) (.inr e) := ⟨fun b' hb => by cases hb; exact Or.inr ⟨e, rfl, h1, h2, h3⟩, fun p' L' c' h => by cases h⟩
theorem goLC (hN : 2000 ≤ N) (h : TX S tc tl) (hk : k < 3) : ∀ (m fm fu : Nat) (L : List Cl) (c : Cl) (p i : Nat) (dg1 : Int32) (wc : List Int32) (ws : Int32), S.length - p ≤ m → m < fm → m < fu → i ≤ p → p ≤ S.length → Dr k L → inB k c → CE 12 L wc ws → (tkK S p = 3 → dg1 = iI (tkD S p)) → OK (f_X10_readGo_L11 N tc tl k fm (iI (i : Nat)) (iI (tkB S p)) (iI (tkE S p)) (iI (tkK S p : Nat)) dg1 (iI c.1) (iI c.2.1) (iI c.2.2) wc ws) (GoP (spGoL k S fu L c p)) := by
  intro m
  induction m with
  | zero =>
    intro fm fu L c p i dg1 wc ws hm h1 h2 hi hp hD hc hL hd
    obtain ⟨fm, rfl⟩ := Nat.exists_eq_add_of_lt h1
    obtain ⟨fu, rfl⟩ := Nat.exists_eq_add_of_lt h2
    have b1 := tk_bd hp
    have h5 := tkK_le (S := S) (p := p)
    have h80 := h.1
    have hk0 : tkK S p = 0 := b1.2.2.2.2.mpr (by omega)
    have hwl : wc.length = 12 := by obtain ⟨J, _, h2, _⟩ := hL; exact h2
    rw [show 0 + fm + 1 = fm + 1 from by omega, show 0 + fu + 1 = fu + 1 from by omega]
    unfold f_X10_readGo_L11 spGoL
    rw [if_neg (show ¬ tkK S p = 3 by omega), if_neg (show ¬ tkK S p = 4 by omega), if_neg (show ¬ iI (tkK S p : Nat) = 3 by rw [li3]; exact iI_eqF (by omega) (by omega) (by omega) (by omega) (by omega)), ite_self, OK_some]
    exact ⟨fun b hb => by cases hb; exact Or.inl ⟨_, rfl, rfl, by show ¬ iI (tkK S p : Nat) = 4; rw [li4]; exact iI_eqF (by omega) (by omega) (by omega) (by omega) (by omega), hwl⟩, fun p' L' c' h => by cases h⟩
  | succ m ih =>
    intro fm fu L c p i dg1 wc ws hm h1 h2 hi hp hD hc hL hd
    obtain ⟨fm, rfl⟩ : ∃ f, fm = f + 1 := ⟨fm - 1, by omega⟩
    obtain ⟨fu, rfl⟩ : ∃ f, fu = f + 1 := ⟨fu - 1, by omega⟩
    have b1 := tk_bd hp
    have h5 := tkK_le (S := S) (p := p)
    have h80 := h.1
    have hL12 := hD.2.2.1
    have hwl : wc.length = 12 := by obtain ⟨J, _, h2, _⟩ := hL; exact h2
    unfold f_X10_readGo_L11 spGoL
    by_cases g3 : tkK S p = 3
    case neg =>
      rw [if_neg g3, if_neg (show ¬ iI (tkK S p : Nat) = 3 by rw [li3]; exact iI_eqF (by omega) (by omega) (by omega) (by omega) (by omega)), ite_self, OK_some]
      by_cases g4 : tkK S p = 4
      · rw [if_pos g4]
        exact ⟨(fun b hb => by cases hb), fun p' L' c' hh => by cases hh; exact ⟨_, rfl, by show iI (tkK S p : Nat) = 4; rw [g4]; rfl, rfl, ⟨rfl, rfl, rfl⟩, hL⟩⟩
      · rw [if_neg g4]
        exact ⟨fun b hb => by cases hb; exact Or.inl ⟨_, rfl, rfl, by show ¬ iI (tkK S p : Nat) = 4; rw [li4]; exact iI_eqF (by omega) (by omega) (by omega) (by omega) (by omega), hwl⟩, fun p' L' c' h => by cases h⟩
    have r1 := tkD_rng hp g3
    have l1 := b1.2.2.2.1 (by omega)
    rw [if_pos g3, hd g3, if_pos (show iI (i : Nat) < 80 by rw [show (80 : Int32) = iI 80 from rfl]; exact iI_ltT (by omega) (by omega) (by omega)), if_pos (show iI (tkK S p : Nat) = 3 by rw [g3]; rfl), zdeg_eq]
    have hdg : dg k ≤ 6 := by unfold dg; split <;> (try split) <;> omega
    by_cases g4 : tkD S p < dg k
    case neg =>
      rw [if_neg (iI_ltF g4 (by omega) (by omega)), OK_some, if_pos g4]
      exact GoP.err rfl rfl hwl
    rw [if_pos (iI_ltT g4 (by omega) (by omega)), if_neg (show ¬ ¬ tkD S p < dg k from fun hh => hh g4)]
    have n1 := neighbour_eq (N := N) (k := k) (q := c.1) (t := c.2.2) (d := tkD S p) hk hc.2.2.2.2 r1.1 g4
    have n2 := neighbour_eq (N := N) (k := k) (q := c.2.1) (t := c.2.2) (d := tkD S p) hk hc.2.2.2.2 r1.1 g4
    have n3 := neighbourT_eq (N := N) (k := k) (t := c.2.2) hc.2.2.2.2
    rw [n1.1, Option.bind_some, n2.2, Option.bind_some, n3, Option.bind_some]
    have hq := gQ_rng k c.2.2 (tkD S p)
    have hr := gR_rng k c.2.2 (tkD S p)
    have ht := okT_rng (gT_ok hc.2.2.2.2)
    have c1 := hc.1
    have c2 := hc.2.1
    have c3 := hc.2.2.1
    have c4 := hc.2.2.2.1
    have hcr : -100 ≤ (nb k c (tkD S p)).1 ∧ (nb k c (tkD S p)).1 ≤ 100 ∧ -100 ≤ (nb k c (tkD S p)).2.1 ∧ (nb k c (tkD S p)).2.1 ≤ 100 ∧ -100 ≤ (nb k c (tkD S p)).2.2 ∧ (nb k c (tkD S p)).2.2 ≤ 100 := by unfold nb; dsimp only; omega
    have hnb := nb_hk hc (d := tkD S p)
    have hcome := comeC (N := N) (c := nb k c (tkD S p)) (lq := iI c.1) (lr := iI c.2.1) (lt := iI c.2.2) hN hD hL hcr
    rw [OK_bind]
    refine OK.mono hcome ?_
    rintro ⟨w1, w2, w3, w4, w5, w6⟩ ⟨hl5, hcase⟩
    generalize nb k c (tkD S p) = c' at hnb hcase ⊢
    simp only at hl5 hcase ⊢
    rcases hcase with ⟨c1, rfl⟩ | ⟨c1, c2, c3, rfl⟩ | ⟨c1, c2, rfl, ⟨rfl, rfl, rfl⟩, c5⟩ | ⟨c1, c2, c3, rfl, ⟨rfl, rfl, rfl⟩, c5⟩
    · rw [if_pos rfl, OK_some]
      have hn := hnb.mpr c1
      by_cases g5 : 0 ≤ c'.1 ∧ c'.1 ≤ 9
      · rcases hn with hn | hn
        · exact absurd g5 hn
        · rw [if_neg (show ¬ ¬ (0 ≤ c'.1 ∧ c'.1 ≤ 9) from fun hh => hh g5), if_pos hn]
          exact GoP.err rfl rfl hl5
      · rw [if_pos g5]
        exact GoP.err rfl rfl hl5
    all_goals
      have g5 : 0 ≤ c'.1 ∧ c'.1 ≤ 9 := Decidable.byContradiction (fun hh => hnb.mp (Or.inl hh) c1)
      have g6 : 0 ≤ c'.2.1 ∧ c'.2.1 ≤ 9 := Decidable.byContradiction (fun hh => hnb.mp (Or.inr hh) c1)
      rw [if_neg (show ¬ ¬ (0 ≤ c'.1 ∧ c'.1 ≤ 9) from fun hh => hh g5), if_neg (show ¬ ¬ (0 ≤ c'.2.1 ∧ c'.2.1 ≤ 9) from fun hh => hh g6)]
    · rw [if_pos rfl, OK_some, if_neg c2, if_pos c3]
      exact GoP.err rfl rfl hl5
    · rw [if_neg (show ¬ (1 : Int32) = 0 by decide), if_pos c2, nextC hN h b1.2.2.1, Option.bind_some]
      rw [show iI (i : Nat) + 1 = iI ((i + 1 : Nat) : Int) from by rw [li1, iI_add]; rfl]
      exact ih fm fu L c' (tkE S p) (i + 1) _ _ _ (by omega) (by omega) (by omega) (by omega) b1.2.2.1 hD (hk9_inB.mp c1) c5 (fun hh => if_pos hh)
    · rw [if_neg (show ¬ (1 : Int32) = 0 by decide), if_neg c2, if_neg (show ¬ L.length = 12 by omega), nextC hN h b1.2.2.1, Option.bind_some]
      rw [show iI (i : Nat) + 1 = iI ((i + 1 : Nat) : Int) from by rw [li1, iI_add]; rfl]
      exact ih fm fu (L ++ [c']) c' (tkE S p) (i + 1) _ _ _ (by omega) (by omega) (by omega) (by omega) b1.2.2.1 (hD.snoc (hk9_inB.mp c1) c2 c3) (hk9_inB.mp c1) c5 (fun hh => if_pos hh)
theorem spGoL_ok : ∀ (fu : Nat) (L : List Cl) (c : Cl) (p p' : Nat) (L' : List Cl) (c' : Cl), Dr k L → inB k c → L ≠ [] → p ≤ S.length → spGoL k S fu L c p = .inr (p', L', c') → p < p' ∧ p' ≤ S.length ∧ Dr k L' ∧ inB k c' ∧ L' ≠ []
  | 0, L, c, p, p', L', c', _, _, _, _, h => by unfold spGoL at h; cases h
  | fu + 1, L, c, p, p', L', c', hD, hc, hne, hp, h => by
    have b1 := tk_bd hp
    have hL12 := hD.2.2.1
    unfold spGoL at h
    by_cases g3 : tkK S p = 3
    · rw [if_pos g3] at h
      have l1 := b1.2.2.2.1 (by omega)
      have hnb := nb_hk hc (d := tkD S p)
      generalize nb k c (tkD S p) = cc at hnb h
      by_cases g4 : tkD S p < dg k
      case neg => rw [if_pos g4] at h; cases h
      rw [if_neg (show ¬ ¬ tkD S p < dg k from fun hh => hh g4)] at h
      by_cases g5 : 0 ≤ cc.1 ∧ cc.1 ≤ 9
      case neg => rw [if_pos g5] at h; cases h
      rw [if_neg (show ¬ ¬ (0 ≤ cc.1 ∧ cc.1 ≤ 9) from fun hh => hh g5)] at h
      by_cases g6 : 0 ≤ cc.2.1 ∧ cc.2.1 ≤ 9
      case neg => rw [if_pos g6] at h; cases h
      rw [if_neg (show ¬ ¬ (0 ≤ cc.2.1 ∧ cc.2.1 ≤ 9) from fun hh => hh g6)] at h
      have hB : inB k cc := hk9_inB.mp (Classical.byContradiction (fun hh => by
        rcases hnb.mpr hh with q | q
        · exact q g5
        · exact q g6))
      by_cases g7 : cc ∈ L
      · rw [if_pos g7] at h
        have := spGoL_ok fu L cc (tkE S p) p' L' c' hD hB hne b1.2.2.1 h
        exact ⟨by omega, this.2⟩
      rw [if_neg g7] at h
      by_cases g8 : L.length = 12
      · rw [if_pos g8] at h; cases h
      rw [if_neg g8] at h
      have := spGoL_ok fu (L ++ [cc]) cc (tkE S p) p' L' c' (hD.snoc hB g7 (by omega)) hB (by simp) b1.2.2.1 h
      exact ⟨by omega, this.2⟩
    · rw [if_neg g3] at h
      by_cases g4 : tkK S p = 4
      · rw [if_pos g4] at h
        have l1 := b1.2.2.2.1 (by omega)
        cases h
        exact ⟨by omega, b1.2.2.1, hD, hc, hne⟩
      · rw [if_neg g4] at h; cases h
theorem goC (hN : 2000 ≤ N) (h : TX S tc tl) (hp : p ≤ S.length) (hD : Dr k L) (hc : inB k c) (hL : CE 12 L wc ws) : OK (f_X10_readGo N tc tl (iI p) dg0 (iI c.1) (iI c.2.1) (iI c.2.2) k wc ws) (fun u => u.2.2.2.2.2.2.2.2.1.length = 12 ∧ (∀ b, spGo k S L c p = .inl b → u.1 = 0 ∧ u.2.1 = iI (b : Nat)) ∧ ∀ p' L' c', spGo k S L c p = .inr (p', L', c') → u.1 = 1 ∧ u.2.2.1 = iI (p' : Nat) ∧ (u.2.2.2.2.2.1 = iI c'.1 ∧ u.2.2.2.2.2.2.1 = iI c'.2.1 ∧ u.2.2.2.2.2.2.2.1 = iI c'.2.2) ∧ CE 12 L' u.2.2.2.2.2.2.2.2.1 u.2.2.2.2.2.2.2.2.2) := by
  have h80 := h.1
  have b1 := tk_bd hp
  have hwl : wc.length = 12 := by obtain ⟨J, _, h2, _⟩ := hL; exact h2
  unfold f_X10_readGo spGo
  rw [nextDC hN h hp, Option.bind_some]
  by_cases g3 : tkK S p = 3
  case neg =>
    rw [if_neg g3, if_pos rfl, OK_some, if_pos g3]
    exact ⟨hwl, fun b hb => by cases hb; exact ⟨rfl, rfl⟩, fun p' L' c' hh => by cases hh⟩
  rw [if_pos g3, if_neg (show ¬ (1 : Int32) = 0 by decide), if_neg (show ¬ ¬ tkK S p = 3 from fun hh => hh g3), OK_bind]
  have hgo := goLC hN h hD.1 (S.length - p) N 100 L c p 0 (if tkK S p = 3 then iI (tkD S p) else dg0) wc ws (Nat.le_refl _) (by omega) (by omega) (by omega) hp hD hc hL (fun hh => if_pos hh)
  refine OK.mono hgo ?_
  intro o ho
  generalize spGoL k S 100 L c p = sp at ho ⊢
  rcases sp with b | ⟨p', L', c'⟩
  · rcases ho.1 b rfl with ⟨e, rfl, e1, e2, e3⟩ | ⟨e, rfl, e1, e2, e3⟩
    · rw [Sum.elim_inl, if_neg e2, OK_some]
      exact ⟨e3, fun b hb => by cases hb; exact ⟨rfl, e1⟩, fun p' L' c' hh => by cases hh⟩
    · rw [Sum.elim_inr, OK_some]
      exact ⟨e3, fun b hb => by cases hb; exact ⟨e1, e2⟩, fun p' L' c' hh => by cases hh⟩
  · obtain ⟨e, rfl, e1, e2, e3, e4⟩ := ho.2 p' L' c' rfl
    rw [Sum.elim_inl, if_pos e1, OK_some]
    have hl : e.2.2.2.2.2.2.2.1.length = 12 := by obtain ⟨J, _, h2, _⟩ := e4; exact h2
    exact ⟨hl, (fun b hb => by cases hb), fun p' L' c' hh => by cases hh; exact ⟨rfl, e2, e3, e4⟩⟩
end
