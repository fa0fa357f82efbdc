/-! the search of connected sets; sizes packed as powers of B -/
def seqN {α : Type} (x : Nat) (f : Nat → α) : α := match x with
  | 0 => f 0
  | n + 1 => f (Nat.succ n)
theorem seqN_eq {α : Type} (x : Nat) (f : Nat → α) : seqN x f = f x := by cases x <;> rfl
def lowf : Nat → Nat → Nat → Nat
  | 0, _, i => i
  | f + 1, o, i => bif Nat.beq (Nat.land (Nat.shiftRight o i) 1) 0 then lowf f o (Nat.succ i) else i
def clr (o b : Nat) : Nat := Nat.xor o (Nat.land o (Nat.shiftLeft 1 b))
def nrP (P b : Nat) : Nat := Nat.land (Nat.shiftRight P (Nat.mul 20 b)) 1048575
def ocf (P o c : Nat) : Nat := Nat.lor (clr o (lowf 20 o 0)) (Nat.xor (nrP P (lowf 20 o 0)) (Nat.land (nrP P (lowf 20 o 0)) c))
def ccf (P o c : Nat) : Nat := Nat.lor c (nrP P (lowf 20 o 0))
def Eb (B P : Nat) : Nat → Nat → Nat → Nat
  | 0, _, _ => 0
  | f + 1, o, c => bif Nat.beq o 0 then 0 else
    seqN (lowf 20 o 0) fun b => seqN (clr o b) fun o' => seqN (nrP P b) fun nr =>
    seqN (Nat.lor o' (Nat.xor nr (Nat.land nr c))) fun oc => seqN (Nat.lor c nr) fun cc =>
    Nat.add (Eb B P f o' c) (Nat.mul B (Nat.succ (Eb B P f oc cc)))
/-- the search ends before its fuel, and goes no deeper than g -/
def Ea (n P : Nat) : Nat → Nat → Nat → Nat → Bool
  | 0, _, o, _ => Nat.beq o 0
  | f + 1, g, o, c => bif Nat.beq o 0 then true else bif Nat.beq g 0 then false else
    seqN (lowf 20 o 0) fun b => bif Nat.ble n b then false else bif Nat.beq (Nat.land (Nat.shiftRight o b) 1) 0 then false else
    seqN (clr o b) fun o' => seqN (nrP P b) fun nr =>
    seqN (Nat.lor o' (Nat.xor nr (Nat.land nr c))) fun oc => seqN (Nat.lor c nr) fun cc =>
    bif Ea n P f g o' c then Ea n P f (Nat.pred g) oc cc else false
def upZ (g : Nat → Nat) : Nat → Nat
  | 0 => 0
  | s + 1 => (if s = 0 then 1 else 0) + g s
def cn (P : Nat) : Nat → Nat → Nat → Nat → Nat
  | 0, _, _ => fun _ => 0
  | f + 1, o, c => fun s => if o = 0 then 0 else cn P f (clr o (lowf 20 o 0)) c s + upZ (cn P f (ocf P o c) (ccf P o c)) s
def pk (B : Nat) : Nat → (Nat → Nat) → Nat
  | 0, _ => 0
  | M + 1, cs => cs 0 + B * pk B M (fun s => cs (s + 1))
section
variable {B P n f g o c s M : Nat} {a b : Nat → Nat}
theorem beq_f (h : ¬ o = 0) : Nat.beq o 0 = false := by
  cases o with
  | zero => exact absurd rfl h
  | succ n => rfl
theorem Eb_0 : Eb B P f 0 c = 0 := by cases f <;> rfl
theorem Eb_s (h : ¬ o = 0) : Eb B P (f + 1) o c = Eb B P f (clr o (lowf 20 o 0)) c + B * (Eb B P f (ocf P o c) (ccf P o c) + 1) := by
  rw [Eb, beq_f h]
  simp only [seqN_eq, cond_false]
  rfl
theorem Ea_s (h : ¬ o = 0) (he : Ea n P (f + 1) g o c = true) : 1 ≤ g ∧ lowf 20 o 0 < n ∧ Nat.land (Nat.shiftRight o (lowf 20 o 0)) 1 ≠ 0 ∧ Ea n P f g (clr o (lowf 20 o 0)) c = true ∧ Ea n P f (g - 1) (ocf P o c) (ccf P o c) = true := by
  rw [Ea, beq_f h] at he
  simp only [seqN_eq, cond_false] at he
  cases e1 : Nat.beq g 0 with
  | true => rw [e1] at he; cases he
  | false =>
    rw [e1, cond_false] at he
    cases e2 : Nat.ble n (lowf 20 o 0) with
    | true => rw [e2] at he; cases he
    | false =>
      rw [e2, cond_false] at he
      cases e3 : Nat.beq (Nat.land (Nat.shiftRight o (lowf 20 o 0)) 1) 0 with
      | true => rw [e3] at he; cases he
      | false =>
        rw [e3, cond_false] at he
        cases e4 : Ea n P f g (clr o (lowf 20 o 0)) c with
        | false => rw [e4] at he; cases he
        | true =>
          rw [e4] at he
          refine ⟨?_, ?_, ?_, rfl, he⟩
          · rcases Nat.eq_zero_or_pos g with rfl | h
            · cases e1
            · exact h
          · rcases Nat.lt_or_ge (lowf 20 o 0) n with h | h
            · exact h
            · rw [Nat.ble_eq_true_of_le h] at e2; cases e2
          · intro h0
            rw [h0] at e3; cases e3
theorem Ea_z (he : Ea n P 0 g o c = true) : o = 0 := Nat.eq_of_beq_eq_true he
theorem cn_z : cn P f 0 c s = 0 := by
  cases f with
  | zero => rfl
  | succ f => rfl
theorem cn_s (h : ¬ o = 0) : cn P (f + 1) o c s = cn P f (clr o (lowf 20 o 0)) c s + upZ (cn P f (ocf P o c) (ccf P o c)) s := if_neg h
theorem cn_0 : ∀ (f o c : Nat), cn P f o c 0 = 0
  | 0, _, _ => rfl
  | f + 1, o, c => by
    by_cases h : o = 0
    · rw [h, cn_z]
    · rw [cn_s h, cn_0 f]; rfl
theorem cn_lt : ∀ (f o c s : Nat), cn P f o c s + 1 ≤ 2 ^ f
  | 0, _, _, _ => by show 0 + 1 ≤ 1; omega
  | f + 1, o, c, s => by
    have hp : 1 ≤ 2 ^ f := Nat.one_le_two_pow
    rw [Nat.pow_succ]
    by_cases h : o = 0
    · rw [h, cn_z]; omega
    · rw [cn_s h]
      have h1 := cn_lt f (clr o (lowf 20 o 0)) c s
      cases s with
      | zero => simp only [upZ]; omega
      | succ s =>
        have h2 := cn_lt f (ocf P o c) (ccf P o c) s
        simp only [upZ]
        split <;> omega
theorem pk_add : ∀ (M : Nat) (a b : Nat → Nat), pk B M (fun s => a s + b s) = pk B M a + pk B M b
  | 0, _, _ => rfl
  | M + 1, a, b => by
    show (a 0 + b 0) + B * pk B M (fun s => a (s + 1) + b (s + 1)) = (a 0 + B * pk B M (fun s => a (s + 1))) + (b 0 + B * pk B M (fun s => b (s + 1)))
    rw [pk_add M (fun s => a (s + 1)) (fun s => b (s + 1)), Nat.mul_add]
    omega
theorem pk_z : ∀ (M : Nat), pk B M (fun _ => 0) = 0
  | 0 => rfl
  | M + 1 => by
    show 0 + B * pk B M (fun _ => 0) = 0
    rw [pk_z M]; simp
theorem pk_one (h : 1 ≤ M) : pk B M (fun s => if s = 0 then 1 else 0) = 1 := by
  obtain ⟨M, rfl⟩ : ∃ m, M = m + 1 := ⟨M - 1, by omega⟩
  show (if 0 = 0 then 1 else 0) + B * pk B M (fun s => if s + 1 = 0 then 1 else 0) = 1
  have e : (fun s : Nat => if s + 1 = 0 then 1 else 0) = (fun _ => 0) := by funext s; rw [if_neg (by omega)]
  rw [e, pk_z]; simp
theorem cn_pk : ∀ (f M o c : Nat), f < M → pk B M (cn P f o c) = Eb B P f o c
  | 0, M, o, c, h => by
    have e : cn P 0 o c = fun _ => 0 := rfl
    rw [e, pk_z]; rfl
  | f + 1, M, o, c, h => by
    by_cases h0 : o = 0
    · have e : cn P (f + 1) o c = fun _ => 0 := by funext s; rw [h0, cn_z]
      rw [e, pk_z, h0, Eb_0]
    · obtain ⟨M, rfl⟩ : ∃ m, M = m + 1 := ⟨M - 1, by omega⟩
      rw [Eb_s h0, ← cn_pk f (M + 1) (clr o (lowf 20 o 0)) c (by omega), ← cn_pk f M (ocf P o c) (ccf P o c) (by omega)]
      show cn P (f + 1) o c 0 + B * pk B M (fun s => cn P (f + 1) o c (s + 1)) = (cn P f (clr o (lowf 20 o 0)) c 0 + B * pk B M (fun s => cn P f (clr o (lowf 20 o 0)) c (s + 1))) + B * (pk B M (cn P f (ocf P o c) (ccf P o c)) + 1)
      have e : (fun s => cn P (f + 1) o c (s + 1)) = fun s => cn P f (clr o (lowf 20 o 0)) c (s + 1) + ((if s = 0 then 1 else 0) + cn P f (ocf P o c) (ccf P o c) s) := by
        funext s
        rw [cn_s h0]
        rfl
      rw [e, pk_add, pk_add, pk_one (by omega), cn_0, cn_0, Nat.mul_add, Nat.mul_add, Nat.mul_add]
      omega
theorem pk_inj : ∀ (M : Nat) (a b : Nat → Nat), (∀ s, s < M → a s < B ∧ b s < B) → pk B M a = pk B M b → ∀ s, s < M → a s = b s
  | 0, _, _, _, _, s, h => by omega
  | M + 1, a, b, hl, h, s, hs => by
    have h0 := hl 0 (by omega)
    have hB : 0 < B := by omega
    have e1 : a 0 + B * pk B M (fun s => a (s + 1)) = b 0 + B * pk B M (fun s => b (s + 1)) := h
    have e2 : a 0 = b 0 := by
      have e3 := congrArg (· % B) e1
      simp only [Nat.add_mul_mod_self_left] at e3
      rw [Nat.mod_eq_of_lt h0.1, Nat.mod_eq_of_lt h0.2] at e3
      exact e3
    have e4 : pk B M (fun s => a (s + 1)) = pk B M (fun s => b (s + 1)) := by
      rw [e2] at e1
      exact Nat.eq_of_mul_eq_mul_left hB (Nat.add_left_cancel e1)
    cases s with
    | zero => exact e2
    | succ s => exact pk_inj M _ _ (fun s hs => hl (s + 1) (by omega)) e4 s (by omega)
end
