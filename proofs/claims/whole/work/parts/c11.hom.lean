/-! counts as lists, packed counts -/
def pkL (B : Nat) : List Nat → Nat
  | [] => 0
  | x :: t => x + B * pkL B t
def addL : List Nat → List Nat → List Nat
  | [], b => b
  | x :: a, [] => x :: a
  | x :: a, y :: b => (x + y) :: addL a b
def shL (a : List Nat) : List Nat := 0 :: a
def mpR {α β : Type} (φ : α → β) (r : List (Nat × α)) : List (Nat × β) := r.map (fun x => (x.1, φ x.2))
section
variable {B P rc v2 M n k : Nat}
theorem pkL_add : ∀ a b : List Nat, pkL B (addL a b) = pkL B a + pkL B b
  | [], b => by simp [addL, pkL]
  | x :: a, [] => by simp [addL, pkL]
  | x :: a, y :: b => by
    rw [addL, pkL, pkL, pkL, pkL_add a b, Nat.mul_add]
    omega
theorem pkL_sh (a : List Nat) : pkL B (shL a) = B * pkL B a := by
  unfold shL
  rw [pkL, Nat.zero_add]
theorem gl_nil (s : Nat) : gl [] s = 0 := rfl
theorem gl_add : ∀ (a b : List Nat) (s : Nat), gl (addL a b) s = gl a s + gl b s
  | [], b, s => by rw [addL, gl_nil, Nat.zero_add]
  | x :: a, [], s => by rw [addL, gl_nil, Nat.add_zero]
  | x :: a, y :: b, 0 => rfl
  | x :: a, y :: b, s + 1 => gl_add a b s
theorem gl_sh (a : List Nat) : gl (shL a) 0 = 0 ∧ ∀ s, gl (shL a) (s + 1) = gl a s := ⟨rfl, fun _ => rfl⟩
theorem pkL_pk : ∀ (l : List Nat) (M : Nat), l.length ≤ M → pkL B l = pk B M (gl l)
  | [], M, _ => by
    have e : gl [] = fun _ => 0 := by funext s; rfl
    rw [e, pk_z]; rfl
  | x :: t, M, h => by
    obtain ⟨M, rfl⟩ : ∃ y, M = y + 1 := ⟨M - 1, by simp at h; omega⟩
    show x + B * pkL B t = x + B * pk B M (fun s => gl t s)
    rw [pkL_pk t M (by simp at h; omega)]
theorem gl_le : ∀ (l : List Nat) (s : Nat), gl l s ≤ pkL 1 l
  | [], s => Nat.zero_le _
  | x :: t, 0 => by show x ≤ x + 1 * pkL 1 t; omega
  | x :: t, s + 1 => by
    have := gl_le t s
    show gl t s ≤ x + 1 * pkL 1 t
    omega
section
variable {α β : Type} {add : α → α → α} {sh : α → α} {add' : β → β → β} {sh' : β → β} {φ : α → β}
theorem addR_hom (h1 : ∀ a b, φ (add a b) = add' (φ a) (φ b)) : ∀ (r : List (Nat × α)) (g : Nat) (a : α), mpR φ (addR add r g a) = addR add' (mpR φ r) g (φ a)
  | [], g, a => rfl
  | (h, b) :: t, g, a => by
    show mpR φ (bif Nat.beq h g then (h, add b a) :: t else (h, b) :: addR add t g a) = bif Nat.beq h g then (h, add' (φ b) (φ a)) :: mpR φ t else (h, φ b) :: addR add' (mpR φ t) g (φ a)
    cases Nat.beq h g with
    | true =>
      show (h, φ (add b a)) :: mpR φ t = _
      rw [h1]; rfl
    | false =>
      show (h, φ b) :: mpR φ (addR add t g a) = _
      rw [addR_hom h1 t g a]; rfl
theorem dc_hom (h1 : ∀ a b, φ (add a b) = add' (φ a) (φ b)) (o : Nat × Nat) (a : α) (st : List (Nat × α) × α) : (mpR φ (dc add o a st).1, φ (dc add o a st).2) = dc add' o (φ a) (mpR φ st.1, φ st.2) := by
  unfold dc
  cases Nat.beq o.1 0 with
  | true =>
    simp only [cond_true, seqN_eq]
    rw [addR_hom h1]
  | false =>
    simp only [cond_false]
    cases Nat.beq o.1 1 with
    | true => simp only [cond_true]; rw [h1]
    | false => rfl
theorem stp_hom (h1 : ∀ a b, φ (add a b) = add' (φ a) (φ b)) (h2 : ∀ a, φ (sh a) = sh' (φ a)) : ∀ (r : List (Nat × α)) (st : List (Nat × α) × α), (mpR φ (stp add sh P rc v2 r st).1, φ (stp add sh P rc v2 r st).2) = stp add' sh' P rc v2 (mpR φ r) (mpR φ st.1, φ st.2)
  | [], st => rfl
  | (g, a) :: t, st => by
    rw [stp, stp_hom h1 h2 t, dc_hom h1, dc_hom h1, h2]
    rfl
theorem dpA_hom (h1 : ∀ a b, φ (add a b) = add' (φ a) (φ b)) (h2 : ∀ a, φ (sh a) = sh' (φ a)) : ∀ (m v2 : Nat) (r : List (Nat × α)) (acc : α), φ (dpA add sh P rc m v2 r acc) = dpA add' sh' P rc m v2 (mpR φ r) (φ acc)
  | 0, _, _, _ => rfl
  | m + 1, v2, r, acc => by
    rw [dpA, dpA]
    have h := stp_hom (P := P) (rc := rc) (v2 := v2) h1 h2 r ([], acc)
    rw [← show (mpR φ (stp add sh P rc v2 r ([], acc)).1, φ (stp add sh P rc v2 r ([], acc)).2) = stp add' sh' P rc v2 (mpR φ r) ([], φ acc) from h]
    exact dpA_hom h1 h2 m _ _ _
end
/-- the class's counts of a block -/
def dpL (P rc n : Nat) : List Nat := dpA addL shL P rc n 0 [(0, [1])] []
theorem dpL_pk : pkL B (dpL P rc n) = dpN B P rc n := by
  unfold dpL dpN
  have h := dpA_hom (P := P) (rc := rc) (φ := pkL B) (add := addL) (sh := shL) (add' := Nat.add) (sh' := fun a => Nat.mul B a) pkL_add pkL_sh n 0 [(0, [1])] []
  have e : mpR (pkL B) [(0, [1])] = [(0, 1)] := by
    show [(0, 1 + B * 0)] = [(0, 1)]
    rw [Nat.mul_zero]
  rw [e] at h
  exact h
theorem dpL_ct {Q : Nat} (hn : n ≤ 20) (h1 : Et 18446744073709551616 Q n = dpN 18446744073709551616 P rc n) (h2 : Et 1 Q n = dpN 1 P rc n) (hb : dpN 1 P rc n < 18446744073709551616) (s : Nat) : gl (dpL P rc n) s = ctT Q n s := by
  have hM : (dpL P rc n).length ≤ (dpL P rc n).length + 43 + s := by omega
  have e : pk 18446744073709551616 ((dpL P rc n).length + 43 + s) (gl (dpL P rc n)) = pk 18446744073709551616 ((dpL P rc n).length + 43 + s) (ctT Q n) := by
    rw [← pkL_pk _ _ hM, dpL_pk, ctT_pk (by omega), h1]
  refine pk_inj _ _ _ (fun s' _ => ⟨?_, ?_⟩) e s (by omega)
  · have := gl_le (dpL P rc n) s'
    rw [dpL_pk] at this
    omega
  · have := ctT_lt (P := Q) n s'
    have h3 : n * 2199023255552 ≤ 20 * 2199023255552 := Nat.mul_le_mul_right _ hn
    omega
end
