/-! ordered rows of packed figures: search and insertion -/
def SEG (A : List Int64) (b : Nat) (S : List Nat) : Prop := ∀ (i x : Nat), S[i]? = some x → A[b + i]? = some (lN x)
def LB (S : List Nat) (x p : Nat) : Prop := p ≤ S.length ∧ (∀ i y, i < p → S[i]? = some y → y < x) ∧ ∀ i y, p ≤ i → S[i]? = some y → x ≤ y
def Asc (S : List Nat) : Prop := S.Pairwise (fun a b => a < b)
def INS (S : List Nat) (x : Nat) (S' : List Nat) : Prop := Asc S' ∧ ∀ y, y ∈ S' ↔ (y = x ∨ y ∈ S)
theorem half_eq {z : Int} (h1 : 0 ≤ z) (h2 : z < 2147483648) : (((iI z).toUInt32 >>> (Int32.toUInt32 1 &&& Int32.toUInt32 31)).toInt32) = iI (z / 2) := by
  apply Int32.toBitVec.inj
  apply BitVec.eq_of_toNat_eq
  show ((Int32.toUInt32 (iI z) >>> (Int32.toUInt32 1 &&& Int32.toUInt32 31))).toBitVec.toNat = _
  rw [UInt32.toBitVec_shiftRight]
  have : ((Int32.toUInt32 1 &&& Int32.toUInt32 31).toBitVec % 32).toNat = 1 := by decide
  rw [BitVec.ushiftRight_eq', BitVec.toNat_ushiftRight, this]
  have e : (Int32.toUInt32 (iI z)).toBitVec.toNat = z.toNat := by
    show (BitVec.ofInt 32 z).toNat = z.toNat
    rw [BitVec.toNat_ofInt]
    omega
  rw [e, iI_bv, BitVec.toNat_ofInt, Nat.shiftRight_eq_div_pow]
  omega
theorem lnL {a b : Nat} (ha : a < 2 ^ 63) (hb : b < 2 ^ 63) : (lN a < lN b) = (a < b) := by
  rw [lN_lI, lN_lI, lI_lt (by omega) (by omega) (by omega) (by omega)]
  exact propext (by omega)
theorem lnE {a b : Nat} (ha : a < 2 ^ 63) (hb : b < 2 ^ 63) : (lN a = lN b) = (a = b) := by
  rw [lN_lI, lN_lI, lI_eq (by omega) (by omega) (by omega) (by omega)]
  exact propext (by omega)
section
variable {N b x p lo hi : Nat} {S S' : List Nat} {A : List Int64} {st : List Int32}
theorem cmp_lt {y : Nat} (hy : y < 2 ^ 63) (hx : x < 2 ^ 63) : (lg_cmp (lN y) (lN x) < 0) = (y < x) := by
  rw [← lnL hy hx]
  exact propext (lg_cmp_lt _ _)
theorem cmp_eq {y : Nat} (hy : y < 2 ^ 63) (hx : x < 2 ^ 63) : (lg_cmp (lN y) (lN x) = 0) = (y = x) := by
  rw [← lnE hy hx]
  exact propext (lg_cmp_eq _ _)
/-- what is known during a search -/
def BS (S : List Nat) (x lo hi : Nat) : Prop := lo ≤ hi ∧ hi ≤ S.length ∧ (∀ i y, i < lo → S[i]? = some y → y < x) ∧ ∀ i y, hi ≤ i → S[i]? = some y → x ≤ y
theorem Asc.lt (h : Asc S) {i j y z : Nat} (hij : i < j) (hi : S[i]? = some y) (hj : S[j]? = some z) : y < z := by
  obtain ⟨h1, rfl⟩ := List.getElem?_eq_some_iff.mp hi
  obtain ⟨h2, rfl⟩ := List.getElem?_eq_some_iff.mp hj
  exact List.pairwise_iff_getElem.mp h i j h1 h2 hij
theorem BS.up (h : BS S x lo hi) (hs : Asc S) {m y : Nat} (h1 : lo ≤ m) (h2 : m < hi) (hy : S[m]? = some y) (hl : y < x) : BS S x (m + 1) hi := by
  refine ⟨by omega, h.2.1, fun i z hi hz => ?_, h.2.2.2⟩
  rcases Nat.lt_or_ge i m with g | g
  · exact Nat.lt_trans (hs.lt g hz hy) hl
  · rw [show i = m by omega, hy] at hz
    cases hz
    exact hl
theorem BS.down (h : BS S x lo hi) (hs : Asc S) {m y : Nat} (h1 : lo ≤ m) (h2 : m < hi) (hy : S[m]? = some y) (hl : ¬ y < x) : BS S x lo m := by
  refine ⟨h1, by have := h.2.1; omega, h.2.2.1, fun i z hi hz => ?_⟩
  rcases Nat.lt_or_ge m i with g | g
  · have := hs.lt g hy hz; omega
  · rw [show i = m by omega, hy] at hz
    cases hz
    omega
theorem BS.all : BS S x 0 S.length := ⟨by omega, Nat.le_refl _, fun i y h => by omega, fun i y h hy => by have := lt_of_get hy; omega⟩
theorem placeC_go (hA : SEG A b S) (hs : Asc S) (hS : ∀ y ∈ S, y < 2 ^ 63) (hx : x < 2 ^ 63) (hl : A.length < 10000) (hb : b + S.length ≤ A.length) : ∀ (fu lo hi : Nat), BS S x lo hi → hi - lo < fu → OK (f_X1_placeOf_L25 N (lN x) A fu (iI ((b + lo : Nat) : Int)) (iI ((b + hi : Nat) : Int))) (fun w => ∃ p, w = iI ((b + p : Nat) : Int) ∧ LB S x p)
  | 0, lo, hi, _, h => by omega
  | fu + 1, lo, hi, h, hf => by
    rw [f_X1_placeOf_L25]
    have hh := h.2.1
    rcases Nat.lt_or_ge lo hi with g | g
    · obtain ⟨y, hy⟩ := gL (show (lo + hi) / 2 < S.length by omega)
      have hym := hS y (List.mem_of_getElem? hy)
      have e1 : iI ((b + lo : Nat) : Int) + iI ((b + hi : Nat) : Int) = iI ((b + lo + (b + hi) : Nat) : Int) := by rw [iI_add]; rfl
      rw [if_pos (iI_ltT (by omega) (by omega) (by omega)), e1, half_eq (by omega) (by omega), show ((b + lo + (b + hi) : Nat) : Int) / 2 = ((b + (lo + hi) / 2 : Nat) : Int) by omega, gI (hA _ _ hy) (by omega), Option.bind_some]
      by_cases e : y < x
      · rw [if_pos (by rw [cmp_lt hym hx]; exact e), iI_succ]
        exact placeC_go hA hs hS hx hl hb fu ((lo + hi) / 2 + 1) hi (h.up hs (by omega) (by omega) hy e) (by omega)
      · rw [if_neg (by rw [cmp_lt hym hx]; exact e)]
        exact placeC_go hA hs hS hx hl hb fu lo ((lo + hi) / 2) (h.down hs (by omega) (by omega) hy e) (by omega)
    · have h1 := h.1
      have e : lo = hi := by omega
      subst e
      rw [if_neg (iI_ltF (by omega) (by omega) (by omega)), OK_some]
      exact ⟨lo, rfl, hh, h.2.2.1, h.2.2.2⟩
theorem placeC_ok (hN : 2000 ≤ N) (hA : SEG A b S) (hs : Asc S) (hS : ∀ y ∈ S, y < 2 ^ 63) (hx : x < 2 ^ 63) (hl : A.length < 1900) (hb : b + S.length ≤ A.length) : OK (f_X1_placeOf N (iI b) (iI ((b + S.length : Nat) : Int)) (lN x) A) (fun w => ∃ p, w = iI ((b + p : Nat) : Int) ∧ LB S x p) := by
  unfold f_X1_placeOf
  rw [li0, if_neg (iI_ltF (by omega) (by omega) (by omega)), oN_iI, if_neg (iI_ltF (by omega) (by omega) (by omega)), OK_bind]
  refine (placeC_go hA hs hS hx (by omega) hb N 0 S.length BS.all (by omega)).mono (fun w hw => ?_)
  rw [OK_some]
  exact hw
theorem placeM_go (hA : SEG A b S) (hs : Asc S) (hS : ∀ y ∈ S, y < 2 ^ 63) (hx : x < 2 ^ 63) (hl : A.length < 10000) (hb : b + S.length ≤ A.length) : ∀ (fu lo hi : Nat), BS S x lo hi → hi - lo < fu → OK (f_X12_puts_L7 N (lN x) A fu (iI ((b + lo : Nat) : Int)) (iI ((b + hi : Nat) : Int))) (fun w => ∃ p, w = iI ((b + p : Nat) : Int) ∧ LB S x p)
  | 0, lo, hi, _, h => by omega
  | fu + 1, lo, hi, h, hf => by
    rw [f_X12_puts_L7]
    have hh := h.2.1
    rcases Nat.lt_or_ge lo hi with g | g
    · obtain ⟨y, hy⟩ := gL (show (lo + hi) / 2 < S.length by omega)
      have hym := hS y (List.mem_of_getElem? hy)
      have e1 : iI ((b + lo : Nat) : Int) + iI ((b + hi : Nat) : Int) = iI ((b + lo + (b + hi) : Nat) : Int) := by rw [iI_add]; rfl
      rw [if_pos (iI_ltT (by omega) (by omega) (by omega)), e1, li2, iI_div (by omega) (by omega) (by omega) (by omega), show ((b + lo + (b + hi) : Nat) : Int) / 2 = ((b + (lo + hi) / 2 : Nat) : Int) by omega, gI (hA _ _ hy) (by omega), Option.bind_some]
      by_cases e : y < x
      · rw [if_pos (by rw [cmp_lt hym hx]; exact e), iI_succ]
        exact placeM_go hA hs hS hx hl hb fu ((lo + hi) / 2 + 1) hi (h.up hs (by omega) (by omega) hy e) (by omega)
      · rw [if_neg (by rw [cmp_lt hym hx]; exact e)]
        exact placeM_go hA hs hS hx hl hb fu lo ((lo + hi) / 2) (h.down hs (by omega) (by omega) hy e) (by omega)
    · have h1 := h.1
      have e : lo = hi := by omega
      subst e
      rw [if_neg (iI_ltF (by omega) (by omega) (by omega)), OK_some]
      exact ⟨lo, rfl, hh, h.2.2.1, h.2.2.2⟩
theorem LB.ins (h : LB S x p) (hs : Asc S) (hn : S[p]? ≠ some x) : INS S x (S.take p ++ x :: S.drop p) := by
  have hgt : ∀ i y, p ≤ i → S[i]? = some y → x < y := fun i y hi hy => by
    have h1 := h.2.2 i y hi hy
    rcases Nat.lt_or_ge x y with g | g
    · exact g
    · have e : y = x := by omega
      subst e
      rcases Nat.lt_or_ge p i with g2 | g2
      · obtain ⟨z, hz⟩ := gL (show p < S.length by have := lt_of_get hy; omega)
        have h2 := hs.lt g2 hz hy
        have h3 := h.2.2 p z (Nat.le_refl _) hz
        omega
      · rw [show i = p by omega] at hy
        exact absurd hy hn
  refine ⟨?_, fun y => ?_⟩
  · show (S.take p ++ x :: S.drop p).Pairwise (fun a b => a < b)
    rw [List.pairwise_append]
    refine ⟨hs.sublist (List.take_sublist p S), List.pairwise_cons.mpr ⟨fun y hy => ?_, hs.sublist (List.drop_sublist p S)⟩, fun y hy z hz => ?_⟩
    · obtain ⟨i, hi⟩ := List.mem_iff_getElem?.mp hy
      rw [List.getElem?_drop] at hi
      exact hgt (p + i) y (by omega) hi
    · obtain ⟨i, hi⟩ := List.mem_iff_getElem?.mp hy
      have hip : i < p := by have := lt_of_get hi; simp at this; omega
      rw [List.getElem?_take, if_pos hip] at hi
      have h1 := h.2.1 i y hip hi
      rcases List.mem_cons.mp hz with rfl | hz
      · exact h1
      · obtain ⟨j, hj⟩ := List.mem_iff_getElem?.mp hz
        rw [List.getElem?_drop] at hj
        have := hgt (p + j) z (by omega) hj
        omega
  · rw [List.mem_append, List.mem_cons]
    constructor
    · rintro (h1 | h1 | h1)
      · exact Or.inr (List.mem_of_mem_take h1)
      · exact Or.inl h1
      · exact Or.inr (List.mem_of_mem_drop h1)
    · rintro (h1 | h1)
      · exact Or.inr (Or.inl h1)
      · rw [← List.take_append_drop p S, List.mem_append] at h1
        rcases h1 with h1 | h1
        · exact Or.inl h1
        · exact Or.inr (Or.inr h1)
theorem LB.same (hs : Asc S) (hn : S[p]? = some x) : INS S x S := ⟨hs, fun y => ⟨fun h => Or.inr h, fun h => by
  rcases h with rfl | h
  · exact List.mem_of_getElem? hn
  · exact h⟩⟩
theorem ins_len (hp : p ≤ S.length) : (S.take p ++ x :: S.drop p).length = S.length + 1 := by
  simp
  omega
/-- a row into which x was put -/
def PUT (A A' : List Int64) (b : Nat) (S' : List Nat) : Prop := A'.length = A.length ∧ SEG A' b S' ∧ ∀ j, j < b → A'[j]? = A[j]?
theorem put_seg (hA : SEG A b S) (hp : p ≤ S.length) {A1 : List Int64} (hl : A1.length = A.length) (hb : b + S.length < A.length) (h1 : ∀ j, j < b + p → A1[j]? = A[j]?) (h2 : ∀ j, b + p < j → j ≤ b + S.length → A1[j]? = A[j - 1]?) : PUT A (A1.set (b + p) (lN x)) b (S.take p ++ x :: S.drop p) := by
  refine ⟨by simp [hl], fun i y hy => ?_, fun j hj => ?_⟩
  · rcases Nat.lt_or_ge i p with g | g
    · rw [List.getElem?_append_left (by simp; omega), List.getElem?_take, if_pos g] at hy
      rw [List.getElem?_set_ne (by omega), h1 _ (by omega)]
      exact hA i y hy
    · rw [List.getElem?_append_right (by simp; omega)] at hy
      simp only [List.length_take, Nat.min_eq_left hp] at hy
      rcases Nat.lt_or_ge p i with g2 | g2
      · rw [show i - p = (i - p - 1) + 1 by omega, List.getElem?_cons_succ, List.getElem?_drop, show p + (i - p - 1) = i - 1 by omega] at hy
        have := lt_of_get hy
        rw [List.getElem?_set_ne (by omega), h2 _ (by omega) (by omega), show b + i - 1 = b + (i - 1) by omega]
        exact hA _ y hy
      · have e : i = p := by omega
        subst e
        rw [Nat.sub_self, List.getElem?_cons_zero] at hy
        cases hy
        exact st0 (by omega)
  · rw [List.getElem?_set_ne (by omega)]
    exact h1 j (by omega)
theorem copyC {c : Nat} (hl : A.length < 10000) (h : p + 1 + c ≤ A.length) : OK (z_copy A (iI p) (iI ((p + 1 : Nat) : Int)) (iI c)) (fun A1 => A1.length = A.length ∧ (∀ j, j ≤ p → A1[j]? = A[j]?) ∧ ∀ j, p < j → j ≤ p + c → A1[j]? = A[j - 1]?) := by
  unfold z_copy
  rw [li0, if_neg (iI_ltF (by omega) (by omega) (by omega)), if_neg (iI_ltF (by omega) (by omega) (by omega)), if_neg (iI_ltF (by omega) (by omega) (by omega)), iI_clamp (by omega) (by omega), iI_clamp (by omega) (by omega), iI_clamp (by omega) (by omega), Int.toNat_natCast, Int.toNat_natCast, Int.toNat_natCast, if_pos ⟨by omega, by omega⟩, OK_some]
  have hg : ∀ j, j < A.length → ((List.range A.length).map (va_cpy (fun i => A.getD i 0) (fun i => A.getD i 0) p (p + 1) c))[j]? = some (va_cpy (fun i => A.getD i 0) (fun i => A.getD i 0) p (p + 1) c j) := fun j hj => by
    rw [List.getElem?_map, List.getElem?_range hj]
    rfl
  have hd : ∀ j, j < A.length → some (A.getD j 0) = A[j]? := fun j hj => by
    rw [List.getD_eq_getElem?_getD, List.getElem?_eq_getElem hj]
    rfl
  refine ⟨by simp, fun j hj => ?_, fun j h1 h2 => ?_⟩
  · rw [hg j (by omega)]
    unfold va_cpy
    rw [if_neg (by omega), hd j (by omega)]
  · rw [hg j (by omega)]
    unfold va_cpy
    rw [if_pos (by omega), hd _ (by omega), show p + (j - (p + 1)) = j - 1 by omega]
theorem insF {n : Nat} (hN : 2000 ≤ N) (hA1 : A.length = 1100) (hst : st.length = 10) (hn : n < 9) (h1 : st[n]? = some (iI b)) (h2 : st[n + 1]? = some (iI ((b + S.length : Nat) : Int))) (hA : SEG A b S) (hs : Asc S) (hS : ∀ y ∈ S, y < 2 ^ 63) (hx : x < 2 ^ 63) (hroom : b + S.length ≤ 1099) :
    OK (f_X1_insertFixed N (iI n) (lN x) st A) (fun u => ∃ S', INS S x S' ∧ u.1.length = 10 ∧ u.1[n + 1]? = some (iI ((b + S'.length : Nat) : Int)) ∧ (∀ j, j ≠ n + 1 → u.1[j]? = st[j]?) ∧ PUT A u.2 b S') := by
  unfold f_X1_insertFixed
  rw [iI_succ, gI h2 (by omega), Option.bind_some, gI h1 (by omega), Option.bind_some, OK_bind]
  refine (placeC_ok hN hA hs hS hx (by omega) (by omega)).mono ?_
  rintro w ⟨p, rfl, hp⟩
  have hpl := hp.1
  have main : S[p]? ≠ some x → OK (if iI ((b + S.length : Nat) : Int) < 1100 then (z_copy A (iI ((b + p : Nat) : Int)) (iI ((b + p : Nat) : Int) + 1) (iI ((b + S.length : Nat) : Int) - iI ((b + p : Nat) : Int))).bind fun t8 => (z_set t8 (iI ((b + p : Nat) : Int)) (lN x)).bind fun t9 => (z_set st (iI ((n + 1 : Nat) : Int)) (iI ((b + S.length : Nat) : Int) + 1)).bind fun t10 => some (t10, t9) else some (st, A)) (fun u => ∃ S', INS S x S' ∧ u.1.length = 10 ∧ u.1[n + 1]? = some (iI ((b + S'.length : Nat) : Int)) ∧ (∀ j, j ≠ n + 1 → u.1[j]? = st[j]?) ∧ PUT A u.2 b S') := by
    intro hne
    rw [show (1100 : Int32) = iI 1100 from rfl, if_pos (iI_ltT (by omega) (by omega) (by omega)), iI_succ, iI_sub, show ((b + S.length : Nat) : Int) - ((b + p : Nat) : Int) = ((S.length - p : Nat) : Int) by omega, OK_bind]
    refine (copyC (p := b + p) (c := S.length - p) (by omega) (by omega)).mono ?_
    rintro A1 ⟨a1, a2, a3⟩
    rw [sI (by omega) (by omega), Option.bind_some, iI_succ, sI (by omega) (by omega), Option.bind_some, OK_some]
    refine ⟨_, hp.ins hs hne, by simp [hst], ?_, fun j hj => ?_, put_seg hA hpl a1 (by omega) (fun j hj => a2 j (by omega)) (fun j h1 h2 => a3 j h1 (by omega))⟩
    · rw [st0 (by omega), ins_len hpl]
      rfl
    · exact List.getElem?_set_ne (by omega)
  rcases Nat.lt_or_ge p S.length with g | g
  · obtain ⟨y, hy⟩ := gL g
    have hym := hS y (List.mem_of_getElem? hy)
    rw [if_pos (iI_ltT (by omega) (by omega) (by omega)), gI (hA _ _ hy) (by omega), Option.bind_some]
    by_cases e : y = x
    · subst e
      rw [if_pos (by rw [cmp_eq hym hx]), OK_some]
      exact ⟨S, LB.same hs hy, hst, h2, fun j _ => rfl, rfl, hA, fun j _ => rfl⟩
    · rw [if_neg (by rw [cmp_eq hym hx]; exact e)]
      exact main (by rw [hy]; intro h; cases h; exact e rfl)
  · rw [if_neg (iI_ltF (by omega) (by omega) (by omega))]
    exact main (by rw [List.getElem?_eq_none g]; simp)
theorem shiftM (hl : A.length < 10000) {e : Nat} (h : p ≤ e) (he : e < A.length) : ∀ (fu m : Nat) (A1 : List Int64), p ≤ m → m ≤ e → m - p < fu → A1.length = A.length → (∀ j, j ≤ m → A1[j]? = A[j]?) → (∀ j, m < j → j ≤ e → A1[j]? = A[j - 1]?) → OK (f_X12_puts_L77 N (iI p) fu (iI m) A1) (fun A2 => A2.length = A.length ∧ (∀ j, j ≤ p → A2[j]? = A[j]?) ∧ ∀ j, p < j → j ≤ e → A2[j]? = A[j - 1]?)
  | 0, m, A1, _, _, hf, _, _, _ => by omega
  | fu + 1, m, A1, h1, h2, hf, h3, h4, h5 => by
    rw [f_X12_puts_L77]
    rcases Nat.lt_or_ge p m with g | g
    · obtain ⟨y, hy⟩ := gL (show m - 1 < A1.length by omega)
      have e1 : iI (m : Int) - 1 = iI ((m - 1 : Nat) : Int) := by rw [li1, iI_sub]; congr 1; omega
      have e2 : iI (m : Int) + -1 = iI ((m - 1 : Nat) : Int) := by rw [show (-1 : Int32) = iI (-1) from rfl, iI_add]; congr 1; omega
      rw [if_pos (iI_ltT (by omega) (by omega) (by omega)), e1, e2, gI hy (by omega), Option.bind_some, sI (by omega) (by omega), Option.bind_some]
      refine shiftM hl h he fu (m - 1) _ (by omega) (by omega) (by omega) (by simp [h3]) (fun j hj => ?_) (fun j j1 j2 => ?_)
      · rw [List.getElem?_set_ne (by omega)]; exact h4 j (by omega)
      · rcases Nat.lt_or_ge m j with g2 | g2
        · rw [List.getElem?_set_ne (by omega)]; exact h5 j g2 j2
        · have e3 : j = m := by omega
          subst e3
          rw [st0 (by omega), ← hy, h4 _ (by omega)]
    · have e1 : m = p := by omega
      subst e1
      rw [if_neg (iI_ltF (by omega) (by omega) (by omega)), OK_some]
      exact ⟨h3, h4, h5⟩
theorem putsM (hN : 2000 ≤ N) (hl : A.length = 1200) (hA : SEG A b S) (hs : Asc S) (hS : ∀ y ∈ S, y < 2 ^ 63) (hx : x < 2 ^ 63) (hroom : b + S.length ≤ 1199) :
    OK (f_X12_puts N (lN x) (iI b) (iI ((b + S.length : Nat) : Int)) A) (fun u => ∃ S', INS S x S' ∧ u.1 = iI ((b + S'.length : Nat) : Int) ∧ PUT A u.2 b S') := by
  unfold f_X12_puts
  rw [OK_bind]
  refine (placeM_go (b := b) hA hs hS hx (by omega) (by omega) N 0 S.length BS.all (by omega)).mono ?_
  rintro w ⟨p, rfl, hp⟩
  have hpl := hp.1
  have main : S[p]? ≠ some x → OK ((f_X12_puts_L77 N (iI ((b + p : Nat) : Int)) N (iI ((b + S.length : Nat) : Int)) A).bind fun e11 => (z_set e11 (iI ((b + p : Nat) : Int)) (lN x)).bind fun t12 => some (iI ((b + S.length : Nat) : Int) + 1, t12)) (fun u => ∃ S', INS S x S' ∧ u.1 = iI ((b + S'.length : Nat) : Int) ∧ PUT A u.2 b S') := by
    intro hne
    rw [OK_bind]
    refine (shiftM (p := b + p) (e := b + S.length) (by omega) (by omega) (by omega) N (b + S.length) A (by omega) (by omega) (by omega) rfl (fun j _ => rfl) (fun j h1 h2 => by omega)).mono ?_
    rintro A1 ⟨a1, a2, a3⟩
    rw [sI (by omega) (by omega), Option.bind_some, iI_succ, OK_some]
    refine ⟨_, hp.ins hs hne, ?_, put_seg hA hpl a1 (by omega) (fun j hj => a2 j (by omega)) (fun j h1 h2 => a3 j h1 h2)⟩
    rw [ins_len hpl]
    rfl
  rcases Nat.lt_or_ge p S.length with g | g
  · obtain ⟨y, hy⟩ := gL g
    have hym := hS y (List.mem_of_getElem? hy)
    rw [if_pos (iI_ltT (by omega) (by omega) (by omega)), gI (hA _ _ hy) (by omega), Option.bind_some]
    by_cases e : y = x
    · subst e
      rw [if_pos (by rw [cmp_eq hym hx]), OK_some]
      exact ⟨S, LB.same hs hy, rfl, rfl, hA, fun j _ => rfl⟩
    · rw [if_neg (by rw [cmp_eq hym hx]; exact e)]
      exact main (by rw [hy]; intro h; cases h; exact e rfl)
  · rw [if_neg (iI_ltF (by omega) (by omega) (by omega))]
    exact main (by rw [List.getElem?_eq_none g]; simp)
end
