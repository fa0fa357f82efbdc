/-! loops with more values -/
theorem zlp9 {α0 α1 α2 α3 α4 α5 α6 α7 α8 ρ : Type} {f : Nat → α0 → α1 → α2 → α3 → α4 → α5 → α6 → α7 → α8 → Option ρ} {Q : ρ → Prop} (n : Nat) (Inv : Nat → α0 → α1 → α2 → α3 → α4 → α5 → α6 → α7 → α8 → Prop)
    (hs : ∀ fu i x0 x1 x2 x3 x4 x5 x6 x7 x8, i ≤ n → Inv i x0 x1 x2 x3 x4 x5 x6 x7 x8 → (i < n → ∀ y0 y1 y2 y3 y4 y5 y6 y7 y8, Inv (i + 1) y0 y1 y2 y3 y4 y5 y6 y7 y8 → OK (f fu y0 y1 y2 y3 y4 y5 y6 y7 y8) Q) → OK (f (fu + 1) x0 x1 x2 x3 x4 x5 x6 x7 x8) Q) :
    ∀ (fu i : Nat) x0 x1 x2 x3 x4 x5 x6 x7 x8, n - i < fu → i ≤ n → Inv i x0 x1 x2 x3 x4 x5 x6 x7 x8 → OK (f fu x0 x1 x2 x3 x4 x5 x6 x7 x8) Q := by
  intro fu
  induction fu with
  | zero => intro i x0 x1 x2 x3 x4 x5 x6 x7 x8 h; omega
  | succ fu ih =>
    intro i x0 x1 x2 x3 x4 x5 x6 x7 x8 h1 h2 h3
    exact hs fu i x0 x1 x2 x3 x4 x5 x6 x7 x8 h2 h3 (fun h y0 y1 y2 y3 y4 y5 y6 y7 y8 q => ih (i + 1) y0 y1 y2 y3 y4 y5 y6 y7 y8 (by omega) h q)
theorem zlp10 {α0 α1 α2 α3 α4 α5 α6 α7 α8 α9 ρ : Type} {f : Nat → α0 → α1 → α2 → α3 → α4 → α5 → α6 → α7 → α8 → α9 → Option ρ} {Q : ρ → Prop} (n : Nat) (Inv : Nat → α0 → α1 → α2 → α3 → α4 → α5 → α6 → α7 → α8 → α9 → Prop)
    (hs : ∀ fu i x0 x1 x2 x3 x4 x5 x6 x7 x8 x9, i ≤ n → Inv i x0 x1 x2 x3 x4 x5 x6 x7 x8 x9 → (i < n → ∀ y0 y1 y2 y3 y4 y5 y6 y7 y8 y9, Inv (i + 1) y0 y1 y2 y3 y4 y5 y6 y7 y8 y9 → OK (f fu y0 y1 y2 y3 y4 y5 y6 y7 y8 y9) Q) → OK (f (fu + 1) x0 x1 x2 x3 x4 x5 x6 x7 x8 x9) Q) :
    ∀ (fu i : Nat) x0 x1 x2 x3 x4 x5 x6 x7 x8 x9, n - i < fu → i ≤ n → Inv i x0 x1 x2 x3 x4 x5 x6 x7 x8 x9 → OK (f fu x0 x1 x2 x3 x4 x5 x6 x7 x8 x9) Q := by
  intro fu
  induction fu with
  | zero => intro i x0 x1 x2 x3 x4 x5 x6 x7 x8 x9 h; omega
  | succ fu ih =>
    intro i x0 x1 x2 x3 x4 x5 x6 x7 x8 x9 h1 h2 h3
    exact hs fu i x0 x1 x2 x3 x4 x5 x6 x7 x8 x9 h2 h3 (fun h y0 y1 y2 y3 y4 y5 y6 y7 y8 y9 q => ih (i + 1) y0 y1 y2 y3 y4 y5 y6 y7 y8 y9 (by omega) h q)
theorem zlp11 {α0 α1 α2 α3 α4 α5 α6 α7 α8 α9 α10 ρ : Type} {f : Nat → α0 → α1 → α2 → α3 → α4 → α5 → α6 → α7 → α8 → α9 → α10 → Option ρ} {Q : ρ → Prop} (n : Nat) (Inv : Nat → α0 → α1 → α2 → α3 → α4 → α5 → α6 → α7 → α8 → α9 → α10 → Prop)
    (hs : ∀ fu i x0 x1 x2 x3 x4 x5 x6 x7 x8 x9 x10, i ≤ n → Inv i x0 x1 x2 x3 x4 x5 x6 x7 x8 x9 x10 → (i < n → ∀ y0 y1 y2 y3 y4 y5 y6 y7 y8 y9 y10, Inv (i + 1) y0 y1 y2 y3 y4 y5 y6 y7 y8 y9 y10 → OK (f fu y0 y1 y2 y3 y4 y5 y6 y7 y8 y9 y10) Q) → OK (f (fu + 1) x0 x1 x2 x3 x4 x5 x6 x7 x8 x9 x10) Q) :
    ∀ (fu i : Nat) x0 x1 x2 x3 x4 x5 x6 x7 x8 x9 x10, n - i < fu → i ≤ n → Inv i x0 x1 x2 x3 x4 x5 x6 x7 x8 x9 x10 → OK (f fu x0 x1 x2 x3 x4 x5 x6 x7 x8 x9 x10) Q := by
  intro fu
  induction fu with
  | zero => intro i x0 x1 x2 x3 x4 x5 x6 x7 x8 x9 x10 h; omega
  | succ fu ih =>
    intro i x0 x1 x2 x3 x4 x5 x6 x7 x8 x9 x10 h1 h2 h3
    exact hs fu i x0 x1 x2 x3 x4 x5 x6 x7 x8 x9 x10 h2 h3 (fun h y0 y1 y2 y3 y4 y5 y6 y7 y8 y9 y10 q => ih (i + 1) y0 y1 y2 y3 y4 y5 y6 y7 y8 y9 y10 (by omega) h q)
theorem zlp12 {α0 α1 α2 α3 α4 α5 α6 α7 α8 α9 α10 α11 ρ : Type} {f : Nat → α0 → α1 → α2 → α3 → α4 → α5 → α6 → α7 → α8 → α9 → α10 → α11 → Option ρ} {Q : ρ → Prop} (n : Nat) (Inv : Nat → α0 → α1 → α2 → α3 → α4 → α5 → α6 → α7 → α8 → α9 → α10 → α11 → Prop)
    (hs : ∀ fu i x0 x1 x2 x3 x4 x5 x6 x7 x8 x9 x10 x11, i ≤ n → Inv i x0 x1 x2 x3 x4 x5 x6 x7 x8 x9 x10 x11 → (i < n → ∀ y0 y1 y2 y3 y4 y5 y6 y7 y8 y9 y10 y11, Inv (i + 1) y0 y1 y2 y3 y4 y5 y6 y7 y8 y9 y10 y11 → OK (f fu y0 y1 y2 y3 y4 y5 y6 y7 y8 y9 y10 y11) Q) → OK (f (fu + 1) x0 x1 x2 x3 x4 x5 x6 x7 x8 x9 x10 x11) Q) :
    ∀ (fu i : Nat) x0 x1 x2 x3 x4 x5 x6 x7 x8 x9 x10 x11, n - i < fu → i ≤ n → Inv i x0 x1 x2 x3 x4 x5 x6 x7 x8 x9 x10 x11 → OK (f fu x0 x1 x2 x3 x4 x5 x6 x7 x8 x9 x10 x11) Q := by
  intro fu
  induction fu with
  | zero => intro i x0 x1 x2 x3 x4 x5 x6 x7 x8 x9 x10 x11 h; omega
  | succ fu ih =>
    intro i x0 x1 x2 x3 x4 x5 x6 x7 x8 x9 x10 x11 h1 h2 h3
    exact hs fu i x0 x1 x2 x3 x4 x5 x6 x7 x8 x9 x10 x11 h2 h3 (fun h y0 y1 y2 y3 y4 y5 y6 y7 y8 y9 y10 y11 q => ih (i + 1) y0 y1 y2 y3 y4 y5 y6 y7 y8 y9 y10 y11 (by omega) h q)
theorem zlp13 {α0 α1 α2 α3 α4 α5 α6 α7 α8 α9 α10 α11 α12 ρ : Type} {f : Nat → α0 → α1 → α2 → α3 → α4 → α5 → α6 → α7 → α8 → α9 → α10 → α11 → α12 → Option ρ} {Q : ρ → Prop} (n : Nat) (Inv : Nat → α0 → α1 → α2 → α3 → α4 → α5 → α6 → α7 → α8 → α9 → α10 → α11 → α12 → Prop)
    (hs : ∀ fu i x0 x1 x2 x3 x4 x5 x6 x7 x8 x9 x10 x11 x12, i ≤ n → Inv i x0 x1 x2 x3 x4 x5 x6 x7 x8 x9 x10 x11 x12 → (i < n → ∀ y0 y1 y2 y3 y4 y5 y6 y7 y8 y9 y10 y11 y12, Inv (i + 1) y0 y1 y2 y3 y4 y5 y6 y7 y8 y9 y10 y11 y12 → OK (f fu y0 y1 y2 y3 y4 y5 y6 y7 y8 y9 y10 y11 y12) Q) → OK (f (fu + 1) x0 x1 x2 x3 x4 x5 x6 x7 x8 x9 x10 x11 x12) Q) :
    ∀ (fu i : Nat) x0 x1 x2 x3 x4 x5 x6 x7 x8 x9 x10 x11 x12, n - i < fu → i ≤ n → Inv i x0 x1 x2 x3 x4 x5 x6 x7 x8 x9 x10 x11 x12 → OK (f fu x0 x1 x2 x3 x4 x5 x6 x7 x8 x9 x10 x11 x12) Q := by
  intro fu
  induction fu with
  | zero => intro i x0 x1 x2 x3 x4 x5 x6 x7 x8 x9 x10 x11 x12 h; omega
  | succ fu ih =>
    intro i x0 x1 x2 x3 x4 x5 x6 x7 x8 x9 x10 x11 x12 h1 h2 h3
    exact hs fu i x0 x1 x2 x3 x4 x5 x6 x7 x8 x9 x10 x11 x12 h2 h3 (fun h y0 y1 y2 y3 y4 y5 y6 y7 y8 y9 y10 y11 y12 q => ih (i + 1) y0 y1 y2 y3 y4 y5 y6 y7 y8 y9 y10 y11 y12 (by omega) h q)
theorem zlp14 {α0 α1 α2 α3 α4 α5 α6 α7 α8 α9 α10 α11 α12 α13 ρ : Type} {f : Nat → α0 → α1 → α2 → α3 → α4 → α5 → α6 → α7 → α8 → α9 → α10 → α11 → α12 → α13 → Option ρ} {Q : ρ → Prop} (n : Nat) (Inv : Nat → α0 → α1 → α2 → α3 → α4 → α5 → α6 → α7 → α8 → α9 → α10 → α11 → α12 → α13 → Prop)
    (hs : ∀ fu i x0 x1 x2 x3 x4 x5 x6 x7 x8 x9 x10 x11 x12 x13, i ≤ n → Inv i x0 x1 x2 x3 x4 x5 x6 x7 x8 x9 x10 x11 x12 x13 → (i < n → ∀ y0 y1 y2 y3 y4 y5 y6 y7 y8 y9 y10 y11 y12 y13, Inv (i + 1) y0 y1 y2 y3 y4 y5 y6 y7 y8 y9 y10 y11 y12 y13 → OK (f fu y0 y1 y2 y3 y4 y5 y6 y7 y8 y9 y10 y11 y12 y13) Q) → OK (f (fu + 1) x0 x1 x2 x3 x4 x5 x6 x7 x8 x9 x10 x11 x12 x13) Q) :
    ∀ (fu i : Nat) x0 x1 x2 x3 x4 x5 x6 x7 x8 x9 x10 x11 x12 x13, n - i < fu → i ≤ n → Inv i x0 x1 x2 x3 x4 x5 x6 x7 x8 x9 x10 x11 x12 x13 → OK (f fu x0 x1 x2 x3 x4 x5 x6 x7 x8 x9 x10 x11 x12 x13) Q := by
  intro fu
  induction fu with
  | zero => intro i x0 x1 x2 x3 x4 x5 x6 x7 x8 x9 x10 x11 x12 x13 h; omega
  | succ fu ih =>
    intro i x0 x1 x2 x3 x4 x5 x6 x7 x8 x9 x10 x11 x12 x13 h1 h2 h3
    exact hs fu i x0 x1 x2 x3 x4 x5 x6 x7 x8 x9 x10 x11 x12 x13 h2 h3 (fun h y0 y1 y2 y3 y4 y5 y6 y7 y8 y9 y10 y11 y12 y13 q => ih (i + 1) y0 y1 y2 y3 y4 y5 y6 y7 y8 y9 y10 y11 y12 y13 (by omega) h q)
theorem zlp15 {α0 α1 α2 α3 α4 α5 α6 α7 α8 α9 α10 α11 α12 α13 α14 ρ : Type} {f : Nat → α0 → α1 → α2 → α3 → α4 → α5 → α6 → α7 → α8 → α9 → α10 → α11 → α12 → α13 → α14 → Option ρ} {Q : ρ → Prop} (n : Nat) (Inv : Nat → α0 → α1 → α2 → α3 → α4 → α5 → α6 → α7 → α8 → α9 → α10 → α11 → α12 → α13 → α14 → Prop)
    (hs : ∀ fu i x0 x1 x2 x3 x4 x5 x6 x7 x8 x9 x10 x11 x12 x13 x14, i ≤ n → Inv i x0 x1 x2 x3 x4 x5 x6 x7 x8 x9 x10 x11 x12 x13 x14 → (i < n → ∀ y0 y1 y2 y3 y4 y5 y6 y7 y8 y9 y10 y11 y12 y13 y14, Inv (i + 1) y0 y1 y2 y3 y4 y5 y6 y7 y8 y9 y10 y11 y12 y13 y14 → OK (f fu y0 y1 y2 y3 y4 y5 y6 y7 y8 y9 y10 y11 y12 y13 y14) Q) → OK (f (fu + 1) x0 x1 x2 x3 x4 x5 x6 x7 x8 x9 x10 x11 x12 x13 x14) Q) :
    ∀ (fu i : Nat) x0 x1 x2 x3 x4 x5 x6 x7 x8 x9 x10 x11 x12 x13 x14, n - i < fu → i ≤ n → Inv i x0 x1 x2 x3 x4 x5 x6 x7 x8 x9 x10 x11 x12 x13 x14 → OK (f fu x0 x1 x2 x3 x4 x5 x6 x7 x8 x9 x10 x11 x12 x13 x14) Q := by
  intro fu
  induction fu with
  | zero => intro i x0 x1 x2 x3 x4 x5 x6 x7 x8 x9 x10 x11 x12 x13 x14 h; omega
  | succ fu ih =>
    intro i x0 x1 x2 x3 x4 x5 x6 x7 x8 x9 x10 x11 x12 x13 x14 h1 h2 h3
    exact hs fu i x0 x1 x2 x3 x4 x5 x6 x7 x8 x9 x10 x11 x12 x13 x14 h2 h3 (fun h y0 y1 y2 y3 y4 y5 y6 y7 y8 y9 y10 y11 y12 y13 y14 q => ih (i + 1) y0 y1 y2 y3 y4 y5 y6 y7 y8 y9 y10 y11 y12 y13 y14 (by omega) h q)
theorem zlp16 {α0 α1 α2 α3 α4 α5 α6 α7 α8 α9 α10 α11 α12 α13 α14 α15 ρ : Type} {f : Nat → α0 → α1 → α2 → α3 → α4 → α5 → α6 → α7 → α8 → α9 → α10 → α11 → α12 → α13 → α14 → α15 → Option ρ} {Q : ρ → Prop} (n : Nat) (Inv : Nat → α0 → α1 → α2 → α3 → α4 → α5 → α6 → α7 → α8 → α9 → α10 → α11 → α12 → α13 → α14 → α15 → Prop)
    (hs : ∀ fu i x0 x1 x2 x3 x4 x5 x6 x7 x8 x9 x10 x11 x12 x13 x14 x15, i ≤ n → Inv i x0 x1 x2 x3 x4 x5 x6 x7 x8 x9 x10 x11 x12 x13 x14 x15 → (i < n → ∀ y0 y1 y2 y3 y4 y5 y6 y7 y8 y9 y10 y11 y12 y13 y14 y15, Inv (i + 1) y0 y1 y2 y3 y4 y5 y6 y7 y8 y9 y10 y11 y12 y13 y14 y15 → OK (f fu y0 y1 y2 y3 y4 y5 y6 y7 y8 y9 y10 y11 y12 y13 y14 y15) Q) → OK (f (fu + 1) x0 x1 x2 x3 x4 x5 x6 x7 x8 x9 x10 x11 x12 x13 x14 x15) Q) :
    ∀ (fu i : Nat) x0 x1 x2 x3 x4 x5 x6 x7 x8 x9 x10 x11 x12 x13 x14 x15, n - i < fu → i ≤ n → Inv i x0 x1 x2 x3 x4 x5 x6 x7 x8 x9 x10 x11 x12 x13 x14 x15 → OK (f fu x0 x1 x2 x3 x4 x5 x6 x7 x8 x9 x10 x11 x12 x13 x14 x15) Q := by
  intro fu
  induction fu with
  | zero => intro i x0 x1 x2 x3 x4 x5 x6 x7 x8 x9 x10 x11 x12 x13 x14 x15 h; omega
  | succ fu ih =>
    intro i x0 x1 x2 x3 x4 x5 x6 x7 x8 x9 x10 x11 x12 x13 x14 x15 h1 h2 h3
    exact hs fu i x0 x1 x2 x3 x4 x5 x6 x7 x8 x9 x10 x11 x12 x13 x14 x15 h2 h3 (fun h y0 y1 y2 y3 y4 y5 y6 y7 y8 y9 y10 y11 y12 y13 y14 y15 q => ih (i + 1) y0 y1 y2 y3 y4 y5 y6 y7 y8 y9 y10 y11 y12 y13 y14 y15 (by omega) h q)
