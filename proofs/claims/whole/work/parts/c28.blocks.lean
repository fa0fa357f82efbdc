/-! the class's store of blocks -/
def bi (k w h : Nat) : Nat := (k * 5 + w - 1) * 5 + h - 1
def dpB (k w h : Nat) : List Nat := dpL (PB k w ((w * h * kiN k : Nat) : Int) (w * h * kiN k)) (w * kiN k) (w * h * kiN k)
def BI (kn adj lab : List Int32) (p q : Nat) (x : List Int32) (sf : Nat → List Int64 × Int32 × List Int32) : Prop := kn.length = 75 ∧ adj.length = 20 ∧ lab.length = 20 ∧ (p < 2 ∧ q < 2 ∧ ¬ p = q) ∧ SL sf ∧ ∀ k w h, k < 3 → 1 ≤ w → w ≤ h → h ≤ 5 → w * h * kiN k ≤ 20 → (kn[bi k w h]? = some 0 ∧ XS (21 * bi k w h) [] x) ∨ (kn[bi k w h]? = some 1 ∧ XS (21 * bi k w h) (dpB k w h) x)
section
variable {N k w h z sg p q a b : Nat} {A : List Nat} {kn adj lab x y : List Int32} {ce re : Int32} {sf : Nat → List Int64 × Int32 × List Int32}
theorem XS_ans (hX : XS sg A x) (hz : z < 21) : x[sg + z]? = some (iI (ansN A z : Nat)) := by
  obtain ⟨x1, x2, x3, x4⟩ := hX
  unfold ansN
  by_cases e : z = 0
  · rw [if_pos e, e, Nat.add_zero]; exact x3
  · rw [if_neg e]; exact x4 z (by omega) hz
theorem XS_tr (hX : XS sg A x) (hl : y.length = 1575) (he : ∀ i, sg ≤ i → i < sg + 21 → y[i]? = x[i]?) : XS sg A y := by
  obtain ⟨x1, x2, x3, x4⟩ := hX
  refine ⟨hl, x2, ?_, fun z h1 h2 => ?_⟩
  · rw [he _ (by omega) (by omega)]; exact x3
  · rw [he _ (by omega) (by omega)]; exact x4 z h1 h2
theorem bi_lt (hk : k < 3) (h1 : 1 ≤ w) (h2 : w ≤ 5) (h3 : 1 ≤ h) (h4 : h ≤ 5) : bi k w h < 75 := by
  unfold bi; omega
theorem bi_inj {k' w' h' : Nat} (h1 : 1 ≤ w) (h2 : w ≤ 5) (h3 : 1 ≤ h) (h4 : h ≤ 5) (g1 : 1 ≤ w') (g2 : w' ≤ 5) (g3 : 1 ≤ h') (g4 : h' ≤ 5) (e : bi k' w' h' = bi k w h) : k' = k ∧ w' = w ∧ h' = h := by
  unfold bi at e; omega
theorem mnE (ha : a ≤ 5) (hb : b ≤ 5) (hwh : w ≤ h) (hc : (a = w ∧ b = h) ∨ (a = h ∧ b = w)) : (if iI (b : Nat) < iI (a : Nat) then iI (b : Nat) else iI (a : Nat)) = iI (w : Nat) ∧ (if iI (a : Nat) < iI (b : Nat) then iI (b : Nat) else iI (a : Nat)) = iI (h : Nat) := by
  have e1 : (iI (b : Nat) < iI (a : Nat)) = ((b : Int) < (a : Int)) := iI_lt (by omega) (by omega) (by omega) (by omega)
  have e2 : (iI (a : Nat) < iI (b : Nat)) = ((a : Int) < (b : Int)) := iI_lt (by omega) (by omega) (by omega) (by omega)
  constructor
  · by_cases g : (b : Int) < (a : Int)
    · rw [if_pos (by rw [e1]; exact g), show b = w by omega]
    · rw [if_neg (by rw [e1]; exact g), show a = w by omega]
  · by_cases g : (a : Int) < (b : Int)
    · rw [if_pos (by rw [e2]; exact g), show b = h by omega]
    · rw [if_neg (by rw [e2]; exact g), show a = h by omega]
theorem biE (h1 : 1 ≤ w) (h3 : 1 ≤ h) : ((((nI k * 5) + iI (w : Nat)) - 1) * 5 + iI (h : Nat)) - 1 = iI (bi k w h : Nat) := by
  rw [nI_iI, show (5 : Int32) = iI 5 from rfl, li1, iI_mul, iI_add, iI_sub, iI_mul, iI_add, iI_sub]
  congr 1
  unfold bi
  omega
theorem b21 : iI (bi k w h : Nat) * 21 = iI ((21 * bi k w h : Nat) : Int) := by
  rw [show (21 : Int32) = iI 21 from rfl, iI_mul]
  congr 1
  omega
theorem setsC (hN : 2000 ≤ N) (hk : k < 3) (h1 : 1 ≤ w) (hwh : w ≤ h) (h5 : h ≤ 5) (hn : w * h * kiN k ≤ 20) (hc : (a = w ∧ b = h) ∨ (a = h ∧ b = w)) (hz : z < 21) (hB : BI kn adj lab p q x sf) : OK (f_X0_sets N (iI (a : Nat)) (iI (b : Nat)) (iI (z : Nat)) kn adj lab p q ce re k x sf) (fun u => u.1 = iI (ansN (dpB k w h) z : Nat) ∧ BI u.2.1 u.2.2.1 u.2.2.2.1 u.2.2.2.2.1 u.2.2.2.2.2.1 u.2.2.2.2.2.2.2.2.1 u.2.2.2.2.2.2.2.2.2) := by
  obtain ⟨m1, m2⟩ := mnE (w := w) (h := h) (show a ≤ 5 by omega) (show b ≤ 5 by omega) hwh hc
  have hbl := bi_lt (k := k) (w := w) (h := h) hk h1 (by omega) (by omega) h5
  have hck := ck_all k w h hk h1 hwh h5 hn
  obtain ⟨k1, k2⟩ := bif_t hck
  obtain ⟨k3, k4⟩ := bif_t k2
  obtain ⟨g1, _⟩ := blk_g k1
  obtain ⟨o1, _⟩ := cmpB_g k4
  obtain ⟨b1, b2, b3, ⟨b4, b5, b6⟩, b7, b8⟩ := hB
  unfold f_X0_sets
  rw [m1, m2, biE h1 (show 1 ≤ h by omega), b21, iI_add, if_neg (show ¬ iI (bi k w h : Nat) < 0 by rw [li0]; exact iI_ltF (by omega) (by omega) (by omega)), if_pos (show iI (bi k w h : Nat) < 75 by rw [show (75 : Int32) = iI 75 from rfl]; exact iI_ltT (by omega) (by omega) (by omega)), if_neg (show ¬ iI (z : Nat) < 0 by rw [li0]; exact iI_ltF (by omega) (by omega) (by omega)), if_pos (show iI (z : Nat) < 21 by rw [show (21 : Int32) = iI 21 from rfl]; exact iI_ltT (by omega) (by omega) (by omega)), show ((21 * bi k w h : Nat) : Int) + (z : Nat) = ((21 * bi k w h + z : Nat) : Int) by omega]
  rcases b8 k w h hk h1 hwh h5 hn with ⟨c1, c2⟩ | ⟨c1, c2⟩
  · rw [gI c1 (by omega), Option.bind_some, if_pos rfl, OK_bind]
    refine OK.mono (layC hN hk ⟨h1, by omega⟩ ⟨by omega, h5⟩ hn b2) ?_
    rintro ⟨u1, u2, u3⟩ ⟨⟨a1, a2⟩, rfl, rfl⟩
    simp only at a1 a2 ⊢
    rw [OK_bind]
    refine OK.mono (tableC (P := PB k w ((w * h * kiN k : Nat) : Int) (w * h * kiN k)) hN hn (show w * kiN k ≤ 20 by rcases (kin_N (k := k)).2 with g | g <;> rw [g] <;> omega) a1 (fun j hj => by rw [a2 j hj, g1 j hj]) b4 b5 b6 b3 b7 c2 o1) ?_
    rintro ⟨v1, v2, v3, v4, v5⟩ ⟨d1, d2, d3, d4, d5⟩
    simp only at d1 d2 d3 d4 d5 ⊢
    have hx := XS_ans (A := dpB k w h) d3 hz
    rw [sI (by omega) (by omega), Option.bind_some, gI hx (by rw [d3.1]; decide), Option.bind_some, OK_some]
    refine ⟨rfl, by simp only [List.length_set]; exact b1, a1, d1, d2, d5, fun k' w' h' q1 q2 q3 q4 q5 => ?_⟩
    by_cases e : bi k' w' h' = bi k w h
    · obtain ⟨rfl, rfl, rfl⟩ := bi_inj h1 (by omega) (by omega) h5 q2 (by omega) (by omega) q4 e
      refine Or.inr ⟨?_, d3⟩
      rw [List.getElem?_set_self (by omega)]
      rfl
    · have tr : ∀ A, XS (21 * bi k' w' h') A x → XS (21 * bi k' w' h') A v4 := fun A hA => XS_tr hA d3.1 (fun i i1 i2 => d4 i (by omega))
      rw [List.getElem?_set_ne (fun g => e g.symm)]
      rcases b8 k' w' h' q1 q2 q3 q4 q5 with ⟨r1, r2⟩ | ⟨r1, r2⟩
      · exact Or.inl ⟨r1, tr _ r2⟩
      · exact Or.inr ⟨r1, tr _ r2⟩
  · rw [gI c1 (by omega), Option.bind_some, if_neg (show ¬ (1 : Int32) = 0 by decide), gI (XS_ans c2 hz) (by rw [c2.1]; decide), Option.bind_some, OK_some]
    exact ⟨rfl, b1, b2, b3, ⟨b4, b5, b6⟩, b7, b8⟩
end
