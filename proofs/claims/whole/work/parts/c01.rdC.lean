/-! the class's reading of a whole text -/
section
variable {N k p : Nat} {S : List Int} {L : List Cl} {c : Cl} {tc wc : List Int32} {tl ws dg0 lq lr lt st0' kd0 : Int32}
theorem spAt_le (hp : p ≤ S.length) {b : Nat} (h : spAt k S L p = .inl b) : b ≤ S.length := by
  have b1 := tk_bd hp
  have b2 := tk_bd b1.2.2.1
  have b3 := tk_bd b2.2.2.1
  have b4 := tk_bd b3.2.2.1
  unfold spAt at h
  repeat' split at h
  all_goals first | (cases h; omega) | cases h
theorem spGoL_le : ∀ (fu : Nat) (L : List Cl) (c : Cl) (p b : Nat), p ≤ S.length → spGoL k S fu L c p = .inl b → b ≤ S.length
  | 0, L, c, p, b, hp, h => by unfold spGoL at h; cases h; exact hp
  | fu + 1, L, c, p, b, hp, h => by
    have b1 := tk_bd hp
    unfold spGoL at h
    repeat' split at h
    all_goals first | exact spGoL_le fu _ _ _ b b1.2.2.1 h | (cases h; omega) | cases h
theorem spGo_le (hp : p ≤ S.length) {b : Nat} (h : spGo k S L c p = .inl b) : b ≤ S.length := by
  have b1 := tk_bd hp
  unfold spGo at h
  split at h
  · cases h; omega
  · exact spGoL_le _ _ _ _ _ hp h
theorem spGo_ok (hD : Dr k L) (hc : inB k c) (hne : L ≠ []) (hp : p ≤ S.length) {p' : Nat} {L' : List Cl} {c' : Cl} (h : spGo k S L c p = .inr (p', L', c')) : p < p' ∧ p' ≤ S.length ∧ Dr k L' ∧ inB k c' ∧ L' ≠ [] := by
  unfold spGo at h
  split at h
  · cases h
  · exact spGoL_ok _ _ _ _ _ _ _ hD hc hne hp h
def RdP (k : Nat) (S : List Int) (sp : Nat ⊕ List Cl) (o : (Int32 × Int32 × Int32 × Int32 × Int32 × Int32 × Int32 × (List Int32) × Int32) ⊕ (Int32 × Int32 × Int32 × Int32 × Int32 × Int32 × Int32 × Int32 × (List Int32) × Int32)) : Prop :=
  ∃ e, o = .inr e ∧ e.2.2.2.2.2.2.2.2.1.length = 12 ∧ (∀ b, sp = .inl b → e.1 = iI (b : Nat) ∧ b ≤ S.length) ∧ (∀ L', sp = .inr L' → e.1 = -1 ∧ CE 12 L' e.2.2.2.2.2.2.2.2.1 e.2.2.2.2.2.2.2.2.2 ∧ Dr k L')
theorem rdLC (hN : 2000 ≤ N) (h : TX S tc tl) (hk : k < 3) : ∀ (m fm fu : Nat) (L : List Cl) (c : Cl) (p i : Nat) (st0 kd0 dg0 lq lr lt : Int32) (wc : List Int32) (ws : Int32), S.length - p ≤ m → m < fm → m < fu → i ≤ p → p ≤ S.length → Dr k L → CE 12 L wc ws → (L ≠ [] → inB k c ∧ lq = iI c.1 ∧ lr = iI c.2.1 ∧ lt = iI c.2.2) → OK (f_X10_read_L11 N tc tl k fm (iI (i : Nat)) st0 (iI p) kd0 dg0 lq lr lt wc ws) (RdP k S (spRd k S fu L c p)) := by
  intro m
  induction m with
  | zero =>
    intro fm fu L c p i st0 kd0 dg0 lq lr lt wc ws hm h1 h2 hi hp hD hL hl
    obtain ⟨fm, rfl⟩ : ∃ f, fm = f + 1 := ⟨fm - 1, by omega⟩
    obtain ⟨fu, rfl⟩ : ∃ f, fu = f + 1 := ⟨fu - 1, by omega⟩
    have b1 := tk_bd hp
    have h80 := h.1
    have hk0 : tkK S p = 0 := b1.2.2.2.2.mpr (by omega)
    have hwl : wc.length = 12 := by obtain ⟨J, _, h2, _⟩ := hL; exact h2
    unfold f_X10_read_L11 spRd
    rw [if_neg (show ¬ (80 : Int32) < iI (i : Nat) by rw [show (80 : Int32) = iI 80 from rfl]; exact iI_ltF (by omega) (by omega) (by omega)), nextC hN h hp, Option.bind_some, if_pos (show iI (tkK S p : Nat) = 0 by rw [hk0]; rfl), OK_some, if_pos hk0]
    exact ⟨_, rfl, hwl, (fun b hb => by cases hb), fun L' hh => by cases hh; exact ⟨rfl, hL, hD⟩⟩
  | succ m ih =>
    intro fm fu L c p i st0 kd0 dg0 lq lr lt wc ws hm h1 h2 hi hp hD hL hl
    obtain ⟨fm, rfl⟩ : ∃ f, fm = f + 1 := ⟨fm - 1, by omega⟩
    obtain ⟨fu, rfl⟩ : ∃ f, fu = f + 1 := ⟨fu - 1, by omega⟩
    have b1 := tk_bd hp
    have h5 := tkK_le (S := S) (p := p)
    have h80 := h.1
    have hL12 := hD.2.2.1
    have hwl : wc.length = 12 := by obtain ⟨J, _, h2, _⟩ := hL; exact h2
    unfold f_X10_read_L11 spRd
    rw [if_neg (show ¬ (80 : Int32) < iI (i : Nat) by rw [show (80 : Int32) = iI 80 from rfl]; exact iI_ltF (by omega) (by omega) (by omega)), nextC hN h hp, Option.bind_some]
    by_cases g0 : tkK S p = 0
    · rw [if_pos (show iI (tkK S p : Nat) = 0 by rw [g0]; rfl), OK_some, if_pos g0]
      exact ⟨_, rfl, hwl, (fun b hb => by cases hb), fun L' hh => by cases hh; exact ⟨rfl, hL, hD⟩⟩
    have l1 := b1.2.2.2.1 g0
    rw [if_neg (show ¬ iI (tkK S p : Nat) = 0 by rw [li0]; exact iI_eqF (by omega) (by omega) (by omega) (by omega) (by omega)), if_neg g0]
    unfold f_X10_readItem
    have hii : iI (i : Nat) + 1 = iI ((i + 1 : Nat) : Int) := by rw [li1, iI_add]; rfl
    by_cases g1 : tkK S p = 1
    · rw [if_pos (show iI (tkK S p : Nat) = 1 by rw [g1]; rfl), if_pos g1, OK_bind, OK_bind]
      refine OK.mono (atC hN h b1.2.2.1 hD hL) ?_
      rintro ⟨w1, w2, w3, w4, w5, w6, w7, w8, w9, w10⟩ ⟨e1, e2, e3⟩
      simp only at e1 e2 e3 ⊢
      have hle := fun b => spAt_le (k := k) (L := L) (b := b) b1.2.2.1
      have hok := fun p' c => spAt_ok (c := c) (p' := p') hD b1.2.2.1
      generalize spAt k S L (tkE S p) = sp at e2 e3 hle hok ⊢
      rcases sp with b | ⟨p', c'⟩
      · obtain ⟨rfl, rfl⟩ := e2 b rfl
        rw [if_pos (Or.inl rfl), OK_some, if_pos rfl, OK_some, Sum.elim_inl]
        exact ⟨_, rfl, e1, fun b' hb => by cases hb; exact ⟨rfl, hle _ rfl⟩, fun L' hh => by cases hh⟩
      · obtain ⟨rfl, rfl, ⟨rfl, rfl, rfl⟩, e4⟩ := e3 p' c' rfl
        obtain ⟨o1, o2, o3, o4, o5⟩ := hok p' c' rfl
        rw [if_pos (Or.inr rfl), OK_some, if_neg (show ¬ (1 : Int32) = 0 by decide), Sum.elim_inr]
        rw [hii]
        exact ih fm fu (L ++ [c']) c' p' (i + 1) _ _ _ _ _ _ _ _ (by omega) (by omega) (by omega) (by omega) o2 (hD.snoc o3 o4 o5) e4 (fun _ => ⟨o3, rfl, rfl, rfl⟩)
    rw [if_neg (show ¬ iI (tkK S p : Nat) = 1 by rw [li1]; exact iI_eqF (by omega) (by omega) (by omega) (by omega) (by omega)), if_neg g1]
    by_cases g2 : tkK S p = 2
    case neg =>
      rw [if_neg (show ¬ iI (tkK S p : Nat) = 2 by rw [li2]; exact iI_eqF (by omega) (by omega) (by omega) (by omega) (by omega)), if_pos g2, Option.bind_some, if_pos rfl, OK_some]
      exact ⟨_, rfl, hwl, fun b' hb => by cases hb; exact ⟨rfl, by omega⟩, fun L' hh => by cases hh⟩
    rw [if_pos (show iI (tkK S p : Nat) = 2 by rw [g2]; rfl), if_neg (show ¬ ¬ tkK S p = 2 from fun hh => hh g2)]
    obtain ⟨J, hJ1, hJ2, hJ3⟩ := hL
    by_cases g3 : L = []
    · subst g3
      rw [hJ3, if_neg (show ¬ (0 : Int32) < iI (([] : List Cl).length : Nat) by decide), if_pos rfl, Option.bind_some, if_pos rfl, OK_some]
      exact ⟨_, rfl, hwl, fun b' hb => by cases hb; exact ⟨rfl, by omega⟩, fun L' hh => by cases hh⟩
    have hpos : 0 < L.length := List.length_pos_iff.mpr g3
    rw [hJ3, if_pos (show (0 : Int32) < iI (L.length : Nat) by rw [li0]; exact iI_ltT (by omega) (by omega) (by omega)), if_neg g3, OK_bind, OK_bind, ← hJ3]
    obtain ⟨hc, rfl, rfl, rfl⟩ := hl g3
    refine OK.mono (goC hN h b1.2.2.1 hD hc ⟨J, hJ1, hJ2, hJ3⟩) ?_
    rintro ⟨w1, w2, w3, w4, w5, w6, w7, w8, w9, w10⟩ ⟨e1, e2, e3⟩
    simp only at e1 e2 e3 ⊢
    have hle := fun b => spGo_le (k := k) (L := L) (c := c) (b := b) b1.2.2.1
    have hok := fun p' L' c' => spGo_ok (p' := p') (L' := L') (c' := c') hD hc g3 b1.2.2.1
    generalize spGo k S L c (tkE S p) = sp at e2 e3 hle hok ⊢
    rcases sp with b | ⟨p', L', c'⟩
    · obtain ⟨rfl, rfl⟩ := e2 b rfl
      rw [if_pos rfl, OK_some, if_pos rfl, OK_some, Sum.elim_inl]
      exact ⟨_, rfl, e1, fun b' hb => by cases hb; exact ⟨rfl, hle _ rfl⟩, fun L' hh => by cases hh⟩
    · obtain ⟨rfl, rfl, ⟨rfl, rfl, rfl⟩, e4⟩ := e3 p' L' c' rfl
      obtain ⟨o1, o2, o3, o4, o5⟩ := hok p' L' c' rfl
      rw [if_neg (show ¬ (1 : Int32) = 0 by decide), OK_some, if_neg (show ¬ (1 : Int32) = 0 by decide), Sum.elim_inr]
      rw [hii]
      exact ih fm fu L' c' p' (i + 1) _ _ _ _ _ _ _ _ (by omega) (by omega) (by omega) (by omega) o2 o3 e4 (fun _ => ⟨o4, rfl, rfl, rfl⟩)
/-- what the class makes of a text -/
theorem readC (hN : 2000 ≤ N) (h : TX S tc tl) (hk : k < 3) (hw : wc.length = 12) : OK (f_X10_read N tc tl st0' kd0 dg0 lq lr lt k wc) (fun e => e.2.2.2.2.2.2.2.2.1.length = 12 ∧ (∀ b, spRd k S 100 [] (0, 0, 0) 0 = .inl b → e.1 = iI (b : Nat) ∧ b ≤ S.length) ∧ (∀ L', spRd k S 100 [] (0, 0, 0) 0 = .inr L' → e.1 = -1 ∧ CE 12 L' e.2.2.2.2.2.2.2.2.1 e.2.2.2.2.2.2.2.2.2 ∧ Dr k L')) := by
  have h80 := h.1
  unfold f_X10_read f_X2_clear
  rw [Option.bind_some, OK_bind]
  refine OK.mono (rdLC hN h hk S.length N 100 [] (0, 0, 0) 0 0 st0' kd0 dg0 lq lr lt wc 0 (by omega) (by omega) (by omega) (by omega) (by omega) ⟨hk, List.nodup_nil, by simp, by simp⟩ ⟨wc, rfl, hw, rfl⟩ (fun hh => absurd rfl hh)) ?_
  rintro o ⟨e, rfl, e1, e2, e3⟩
  rw [Sum.elim_inr, OK_some]
  exact ⟨e1, e2, e3⟩
end
