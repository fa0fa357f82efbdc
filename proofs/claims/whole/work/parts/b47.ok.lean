/-! what a computation comes to: it does not fail, and its answer has Q -/
def OK {α : Type} (x : Option α) (Q : α → Prop) : Prop := ∃ a, x = some a ∧ Q a
theorem OK_some {α : Type} {a : α} {Q : α → Prop} : OK (some a) Q = Q a := propext ⟨fun ⟨b, h, q⟩ => by cases h; exact q, fun q => ⟨a, rfl, q⟩⟩
theorem OK_none {α : Type} {Q : α → Prop} : OK none Q = False := propext ⟨(fun ⟨b, h, q⟩ => by cases h), False.elim⟩
theorem OK_bind {α β : Type} {x : Option α} {f : α → Option β} {Q : β → Prop} : OK (x.bind f) Q = OK x (fun a => OK (f a) Q) := propext (by
  cases x with
  | none => exact ⟨(fun ⟨b, h, q⟩ => by cases h), (fun ⟨b, h, q⟩ => by cases h)⟩
  | some a => rw [OK_some]; rfl)
theorem OK_ite {α : Type} {c : Prop} [Decidable c] {a b : Option α} {Q : α → Prop} : OK (if c then a else b) Q = ((c → OK a Q) ∧ (¬ c → OK b Q)) := propext (by
  by_cases h : c
  · rw [if_pos h]; exact ⟨fun q => ⟨fun _ => q, fun n => absurd h n⟩, fun q => q.1 h⟩
  · rw [if_neg h]; exact ⟨fun q => ⟨fun n => absurd n h, fun _ => q⟩, fun q => q.2 h⟩)
theorem OK.mono {α : Type} {x : Option α} {Q R : α → Prop} (h : OK x Q) (i : ∀ a, Q a → R a) : OK x R := by
  obtain ⟨a, e, q⟩ := h
  exact ⟨a, e, i a q⟩
theorem OK.of {α : Type} {x : Option α} {a : α} {Q : α → Prop} (e : x = some a) (q : Q a) : OK x Q := ⟨a, e, q⟩
/-- where two computations answer alike -/
theorem OK.eq {α : Type} {x : Option α} {Q : α → Prop} (h : OK x Q) : ∃ a, x = some a ∧ Q a := h
theorem zlp1 {α0 ρ : Type} {f : Nat → α0 → Option ρ} {Q : ρ → Prop} (n : Nat) (Inv : Nat → α0 → Prop)
    (hs : ∀ fu i x0, i ≤ n → Inv i x0 → (i < n → ∀ y0, Inv (i + 1) y0 → OK (f fu y0) Q) → OK (f (fu + 1) x0) Q) :
    ∀ (fu i : Nat) x0, n - i < fu → i ≤ n → Inv i x0 → OK (f fu x0) Q := by
  intro fu
  induction fu with
  | zero => intro i x0 h; omega
  | succ fu ih =>
    intro i x0 h1 h2 h3
    exact hs fu i x0 h2 h3 (fun h y0 q => ih (i + 1) y0 (by omega) h q)
theorem zlp2 {α0 α1 ρ : Type} {f : Nat → α0 → α1 → Option ρ} {Q : ρ → Prop} (n : Nat) (Inv : Nat → α0 → α1 → Prop)
    (hs : ∀ fu i x0 x1, i ≤ n → Inv i x0 x1 → (i < n → ∀ y0 y1, Inv (i + 1) y0 y1 → OK (f fu y0 y1) Q) → OK (f (fu + 1) x0 x1) Q) :
    ∀ (fu i : Nat) x0 x1, n - i < fu → i ≤ n → Inv i x0 x1 → OK (f fu x0 x1) Q := by
  intro fu
  induction fu with
  | zero => intro i x0 x1 h; omega
  | succ fu ih =>
    intro i x0 x1 h1 h2 h3
    exact hs fu i x0 x1 h2 h3 (fun h y0 y1 q => ih (i + 1) y0 y1 (by omega) h q)
theorem zlp3 {α0 α1 α2 ρ : Type} {f : Nat → α0 → α1 → α2 → Option ρ} {Q : ρ → Prop} (n : Nat) (Inv : Nat → α0 → α1 → α2 → Prop)
    (hs : ∀ fu i x0 x1 x2, i ≤ n → Inv i x0 x1 x2 → (i < n → ∀ y0 y1 y2, Inv (i + 1) y0 y1 y2 → OK (f fu y0 y1 y2) Q) → OK (f (fu + 1) x0 x1 x2) Q) :
    ∀ (fu i : Nat) x0 x1 x2, n - i < fu → i ≤ n → Inv i x0 x1 x2 → OK (f fu x0 x1 x2) Q := by
  intro fu
  induction fu with
  | zero => intro i x0 x1 x2 h; omega
  | succ fu ih =>
    intro i x0 x1 x2 h1 h2 h3
    exact hs fu i x0 x1 x2 h2 h3 (fun h y0 y1 y2 q => ih (i + 1) y0 y1 y2 (by omega) h q)
theorem zlp4 {α0 α1 α2 α3 ρ : Type} {f : Nat → α0 → α1 → α2 → α3 → Option ρ} {Q : ρ → Prop} (n : Nat) (Inv : Nat → α0 → α1 → α2 → α3 → Prop)
    (hs : ∀ fu i x0 x1 x2 x3, i ≤ n → Inv i x0 x1 x2 x3 → (i < n → ∀ y0 y1 y2 y3, Inv (i + 1) y0 y1 y2 y3 → OK (f fu y0 y1 y2 y3) Q) → OK (f (fu + 1) x0 x1 x2 x3) Q) :
    ∀ (fu i : Nat) x0 x1 x2 x3, n - i < fu → i ≤ n → Inv i x0 x1 x2 x3 → OK (f fu x0 x1 x2 x3) Q := by
  intro fu
  induction fu with
  | zero => intro i x0 x1 x2 x3 h; omega
  | succ fu ih =>
    intro i x0 x1 x2 x3 h1 h2 h3
    exact hs fu i x0 x1 x2 x3 h2 h3 (fun h y0 y1 y2 y3 q => ih (i + 1) y0 y1 y2 y3 (by omega) h q)
theorem zlp5 {α0 α1 α2 α3 α4 ρ : Type} {f : Nat → α0 → α1 → α2 → α3 → α4 → Option ρ} {Q : ρ → Prop} (n : Nat) (Inv : Nat → α0 → α1 → α2 → α3 → α4 → Prop)
    (hs : ∀ fu i x0 x1 x2 x3 x4, i ≤ n → Inv i x0 x1 x2 x3 x4 → (i < n → ∀ y0 y1 y2 y3 y4, Inv (i + 1) y0 y1 y2 y3 y4 → OK (f fu y0 y1 y2 y3 y4) Q) → OK (f (fu + 1) x0 x1 x2 x3 x4) Q) :
    ∀ (fu i : Nat) x0 x1 x2 x3 x4, n - i < fu → i ≤ n → Inv i x0 x1 x2 x3 x4 → OK (f fu x0 x1 x2 x3 x4) Q := by
  intro fu
  induction fu with
  | zero => intro i x0 x1 x2 x3 x4 h; omega
  | succ fu ih =>
    intro i x0 x1 x2 x3 x4 h1 h2 h3
    exact hs fu i x0 x1 x2 x3 x4 h2 h3 (fun h y0 y1 y2 y3 y4 q => ih (i + 1) y0 y1 y2 y3 y4 (by omega) h q)
theorem zlp6 {α0 α1 α2 α3 α4 α5 ρ : Type} {f : Nat → α0 → α1 → α2 → α3 → α4 → α5 → Option ρ} {Q : ρ → Prop} (n : Nat) (Inv : Nat → α0 → α1 → α2 → α3 → α4 → α5 → Prop)
    (hs : ∀ fu i x0 x1 x2 x3 x4 x5, i ≤ n → Inv i x0 x1 x2 x3 x4 x5 → (i < n → ∀ y0 y1 y2 y3 y4 y5, Inv (i + 1) y0 y1 y2 y3 y4 y5 → OK (f fu y0 y1 y2 y3 y4 y5) Q) → OK (f (fu + 1) x0 x1 x2 x3 x4 x5) Q) :
    ∀ (fu i : Nat) x0 x1 x2 x3 x4 x5, n - i < fu → i ≤ n → Inv i x0 x1 x2 x3 x4 x5 → OK (f fu x0 x1 x2 x3 x4 x5) Q := by
  intro fu
  induction fu with
  | zero => intro i x0 x1 x2 x3 x4 x5 h; omega
  | succ fu ih =>
    intro i x0 x1 x2 x3 x4 x5 h1 h2 h3
    exact hs fu i x0 x1 x2 x3 x4 x5 h2 h3 (fun h y0 y1 y2 y3 y4 y5 q => ih (i + 1) y0 y1 y2 y3 y4 y5 (by omega) h q)
theorem zlp7 {α0 α1 α2 α3 α4 α5 α6 ρ : Type} {f : Nat → α0 → α1 → α2 → α3 → α4 → α5 → α6 → Option ρ} {Q : ρ → Prop} (n : Nat) (Inv : Nat → α0 → α1 → α2 → α3 → α4 → α5 → α6 → Prop)
    (hs : ∀ fu i x0 x1 x2 x3 x4 x5 x6, i ≤ n → Inv i x0 x1 x2 x3 x4 x5 x6 → (i < n → ∀ y0 y1 y2 y3 y4 y5 y6, Inv (i + 1) y0 y1 y2 y3 y4 y5 y6 → OK (f fu y0 y1 y2 y3 y4 y5 y6) Q) → OK (f (fu + 1) x0 x1 x2 x3 x4 x5 x6) Q) :
    ∀ (fu i : Nat) x0 x1 x2 x3 x4 x5 x6, n - i < fu → i ≤ n → Inv i x0 x1 x2 x3 x4 x5 x6 → OK (f fu x0 x1 x2 x3 x4 x5 x6) Q := by
  intro fu
  induction fu with
  | zero => intro i x0 x1 x2 x3 x4 x5 x6 h; omega
  | succ fu ih =>
    intro i x0 x1 x2 x3 x4 x5 x6 h1 h2 h3
    exact hs fu i x0 x1 x2 x3 x4 x5 x6 h2 h3 (fun h y0 y1 y2 y3 y4 y5 y6 q => ih (i + 1) y0 y1 y2 y3 y4 y5 y6 (by omega) h q)
theorem zlp8 {α0 α1 α2 α3 α4 α5 α6 α7 ρ : Type} {f : Nat → α0 → α1 → α2 → α3 → α4 → α5 → α6 → α7 → Option ρ} {Q : ρ → Prop} (n : Nat) (Inv : Nat → α0 → α1 → α2 → α3 → α4 → α5 → α6 → α7 → Prop)
    (hs : ∀ fu i x0 x1 x2 x3 x4 x5 x6 x7, i ≤ n → Inv i x0 x1 x2 x3 x4 x5 x6 x7 → (i < n → ∀ y0 y1 y2 y3 y4 y5 y6 y7, Inv (i + 1) y0 y1 y2 y3 y4 y5 y6 y7 → OK (f fu y0 y1 y2 y3 y4 y5 y6 y7) Q) → OK (f (fu + 1) x0 x1 x2 x3 x4 x5 x6 x7) Q) :
    ∀ (fu i : Nat) x0 x1 x2 x3 x4 x5 x6 x7, n - i < fu → i ≤ n → Inv i x0 x1 x2 x3 x4 x5 x6 x7 → OK (f fu x0 x1 x2 x3 x4 x5 x6 x7) Q := by
  intro fu
  induction fu with
  | zero => intro i x0 x1 x2 x3 x4 x5 x6 x7 h; omega
  | succ fu ih =>
    intro i x0 x1 x2 x3 x4 x5 x6 x7 h1 h2 h3
    exact hs fu i x0 x1 x2 x3 x4 x5 x6 x7 h2 h3 (fun h y0 y1 y2 y3 y4 y5 y6 y7 q => ih (i + 1) y0 y1 y2 y3 y4 y5 y6 y7 (by omega) h q)
theorem li0 : (0 : Int32) = iI 0 := rfl
theorem li1 : (1 : Int32) = iI 1 := rfl
theorem li2 : (2 : Int32) = iI 2 := rfl
theorem li3 : (3 : Int32) = iI 3 := rfl
theorem li4 : (4 : Int32) = iI 4 := rfl
theorem li5 : (5 : Int32) = iI 5 := rfl
theorem li6 : (6 : Int32) = iI 6 := rfl
theorem li7 : (7 : Int32) = iI 7 := rfl
theorem li8 : (8 : Int32) = iI 8 := rfl
theorem li9 : (9 : Int32) = iI 9 := rfl
theorem li10 : (10 : Int32) = iI 10 := rfl
theorem li11 : (11 : Int32) = iI 11 := rfl
theorem li12 : (12 : Int32) = iI 12 := rfl
theorem li13 : (13 : Int32) = iI 13 := rfl
theorem li14 : (14 : Int32) = iI 14 := rfl
theorem li20 : (20 : Int32) = iI 20 := rfl
theorem gI {α : Type} {t : List α} {i : Nat} {x : α} (h : t[i]? = some x) (h2 : t.length < 2147483648) : z_get t (iI (i : Int)) = some x := by
  have := (List.getElem?_eq_some_iff.mp h).1
  rw [z_get_iI (by omega) (by omega), Int.toNat_natCast, h]
theorem gZ {α : Type} {t : List α} {z : Int} {x : α} (h : t[z.toNat]? = some x) (h0 : 0 ≤ z) (h2 : t.length < 2147483648) : z_get t (iI z) = some x := by
  have := (List.getElem?_eq_some_iff.mp h).1
  rw [z_get_iI (by omega) (by omega), h]
theorem sI {α : Type} {t : List α} {i : Nat} {x : α} (h : i < t.length) (h2 : t.length < 2147483648) : z_set t (iI (i : Int)) x = some (t.set i x) := by
  rw [z_set_iI (by omega) (by omega) (by rw [Int.toNat_natCast]; exact h), Int.toNat_natCast]
theorem sZ {α : Type} {t : List α} {z : Int} {x : α} (h : z.toNat < t.length) (h0 : 0 ≤ z) (h2 : t.length < 2147483648) : z_set t (iI z) x = some (t.set z.toNat x) := by
  rw [z_set_iI (by omega) (by omega) h]
theorem gL {α : Type} {t : List α} {i : Nat} (h : i < t.length) : ∃ x, t[i]? = some x := ⟨t[i], List.getElem?_eq_getElem h⟩
theorem st1 {α : Type} {t : List α} {i j : Nat} {x y : α} (h : t[j]? = some y) (hn : i ≠ j) : (t.set i x)[j]? = some y := by rw [List.getElem?_set_ne hn, h]
theorem st0 {α : Type} {t : List α} {i : Nat} {x : α} (h : i < t.length) : (t.set i x)[i]? = some x := by rw [List.getElem?_set_self h]
theorem iIeq {a b : Int} (h : a = b) : iI a = iI b := by rw [h]
