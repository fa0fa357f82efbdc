/-! lists of packed figures, in chunks, and how they are checked -/
abbrev Chk : Type := List (Nat × List Nat)
def memN (a : Nat) : List Nat → Bool
  | [] => false
  | b :: t => bif Nat.beq a b then true else memN a t
def memC (a : Nat) : Chk → Bool
  | [] => false
  | x :: t => bif Nat.ble a x.1 then memN a x.2 else memC a t
def flt : Chk → List Nat
  | [] => []
  | x :: t => x.2 ++ flt t
theorem memN_mem {a : Nat} : ∀ {l : List Nat}, memN a l = true → a ∈ l
  | [], h => by simp [memN] at h
  | b :: t, h => by
    rw [memN] at h
    cases e : Nat.beq a b with
    | true => rw [Nat.eq_of_beq_eq_true e]; simp
    | false => rw [e] at h; exact List.mem_cons_of_mem _ (memN_mem h)
theorem mem_memN {a : Nat} : ∀ {l : List Nat}, a ∈ l → memN a l = true
  | [], h => by simp at h
  | b :: t, h => by
    rw [memN]
    cases e : Nat.beq a b with
    | true => rfl
    | false =>
      rcases List.mem_cons.mp h with rfl | h
      · rw [Nat.beq_refl] at e; cases e
      · exact mem_memN h
theorem memC_mem {a : Nat} : ∀ {C : Chk}, memC a C = true → a ∈ flt C
  | [], h => by simp [memC] at h
  | x :: t, h => by
    rw [memC] at h
    show a ∈ x.2 ++ flt t
    cases e : Nat.ble a x.1 with
    | true => rw [e] at h; exact List.mem_append_left _ (memN_mem h)
    | false => rw [e] at h; exact List.mem_append_right _ (memC_mem h)
def inK (K : List Nat) (c : Cl) : Bool := decide (0 ≤ c.1) && (decide (0 ≤ c.2.1) && memN (kyN c) K)
def gon (k : Nat) (K : List Nat) (C : Chk) (c : Cl) : Bool := inK K c || memC (grK K c) C
def gchk (k n : Nat) (A : List Nat) (C : Chk) : Bool := A.all fun p => (unpA n p []).all fun x => (List.range (dg k)).all fun d => gon k (unpA n p []) C (nb k (kc (x : Int)) (d : Int))
def asc : List Nat → Bool
  | [] => true
  | a :: t => (match t with
    | [] => true
    | b :: _ => Nat.blt a b) && asc t
theorem asc_sorted : ∀ {l : List Nat}, asc l = true → l.Pairwise (fun a b => a < b)
  | [], _ => List.Pairwise.nil
  | [a], _ => List.pairwise_singleton _ _
  | a :: b :: t, h => by
    rw [asc, Bool.and_eq_true] at h
    have h2 := asc_sorted h.2
    have h1 : a < b := Nat.le_of_ble_eq_true h.1
    refine List.pairwise_cons.mpr ⟨fun x hx => ?_, h2⟩
    rcases List.mem_cons.mp hx with rfl | hx
    · exact h1
    · exact Nat.lt_trans h1 ((List.pairwise_cons.mp h2).1 x hx)
/-- a figure of which an image comes first -/
def wit (k n p w : Nat) : Bool := Nat.beq w 99 || (Nat.blt w (2 * tur k) && decide (lx (img k ((unpA n p []).map (fun (x : Nat) => kc (x : Int))) w) ((unpA n p []).map (fun (x : Nat) => kc (x : Int))) < 0))
def fchk (k n : Nat) : List Nat → List Nat → Bool
  | [], [] => true
  | p :: A, w :: W => wit k n p w && fchk k n A W
  | _, _ => false
def frs : List Nat → List Nat → List Nat
  | p :: A, w :: W => bif Nat.beq w 99 then p :: frs A W else frs A W
  | _, _ => []
section
variable {k n : Nat} {X : List Cl} {u c : Cl}
theorem gchk_ok {A : List Nat} {C : Chk} (h : gchk k n A C = true) (hX : NF k X) (hn : X.length = n) (h8 : n ≤ 8) (hp : pck X ∈ A) (hu : u ∈ X) (he : adj k u c) (hc : c ∉ X) : pck (nrm (X ++ [c])) ∈ flt C := by
  have hb := hX.b8 (by omega)
  have hB : B9 k X := hX.inB (by omega)
  have h1 := List.all_eq_true.mp h _ hp
  rw [unp_pck hB hn] at h1
  have h2 := List.all_eq_true.mp h1 (kyN u) (List.mem_map_of_mem hu)
  obtain ⟨d, hd, rfl⟩ := he
  have h3 := List.all_eq_true.mp h2 d (List.mem_range.mpr hd)
  rw [kc_kyN (hB u hu)] at h3
  unfold gon at h3
  rw [Bool.or_eq_true] at h3
  have q1 := gQ_rng k u.2.2 d
  have q2 := gR_rng k u.2.2 d
  have hub := hb u hu
  have e1 : (nb k u d).1 = u.1 + gQ k u.2.2 d := rfl
  have e2 : (nb k u d).2.1 = u.2.1 + gR k u.2.2 d := rfl
  rcases h3 with h3 | h3
  · exfalso
    unfold inK at h3
    rw [Bool.and_eq_true, Bool.and_eq_true, decide_eq_true_iff, decide_eq_true_iff] at h3
    obtain ⟨y, hy, e⟩ := List.mem_map.mp (memN_mem h3.2.2)
    have hcB : inB k (nb k u d) := ⟨h3.1, by omega, h3.2.1, by omega, okT_nb hub.1⟩
    have := congrArg (fun (i : Nat) => kc (i : Int)) e
    simp only [kc_kyN (hB y hy), kc_kyN hcB] at this
    rw [this] at hy
    exact hc hy
  · rw [pck_grow hX (by omega) ⟨by omega, by omega, by omega, by omega⟩ (okT_nb hub.1)]
    exact memC_mem h3
def Can (k : Nat) (X : List Cl) : Prop := ∀ i, i < 2 * tur k → ¬ lx (img k X i) X < 0
theorem fchk_ok : ∀ {A W : List Nat}, fchk k n A W = true → B9 k X → X.length = n → Can k X → pck X ∈ A → pck X ∈ frs A W
  | [], [], _, _, _, _, h => by simp at h
  | [], _ :: _, h, _, _, _, _ => by simp [fchk] at h
  | _ :: _, [], h, _, _, _, _ => by simp [fchk] at h
  | p :: A, w :: W, h, hB, hn, hC, hp => by
    rw [fchk, Bool.and_eq_true] at h
    rw [frs]
    have hw := h.1
    rcases List.mem_cons.mp hp with e | hp
    · cases e2 : Nat.beq w 99 with
      | true => rw [e]; exact List.mem_cons_self
      | false =>
        exfalso
        unfold wit at hw
        rw [e2, Bool.false_or, Bool.and_eq_true, decide_eq_true_iff, ← e, unp_pck hB hn, List.map_map] at hw
        have e3 : X.map ((fun (x : Nat) => kc (x : Int)) ∘ kyN) = X := by
          conv => rhs; rw [← List.map_id X]
          exact List.map_congr_left (fun z hz => kc_kyN (hB z hz))
        rw [e3] at hw
        exact hC w (Nat.le_of_ble_eq_true hw.1) hw.2
    · have := fchk_ok h.2 hB hn hC hp
      cases Nat.beq w 99 with
      | true => exact List.mem_cons_of_mem _ this
      | false => exact this
theorem flt_nd {l : List Nat} (h : asc l = true) : l.Nodup := (asc_sorted h).imp (fun h => Nat.ne_of_lt h)
end
