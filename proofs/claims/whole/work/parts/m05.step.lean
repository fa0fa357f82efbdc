section ZT
variable {l : Launch} {D : va_G} {r : Nat → Nat} {rl : Nat → List Int32} {M : ZM} {k n : Nat} {Q : Option Value → ZW → Prop}
set_option maxHeartbeats 4000000 in
theorem z_step {I : Instr} {len a b hint pc : Nat} {v : Value} {L : List (Option Value)} {st : List Value} {w : ZW} {sd : List Prop} {z' : ZC} (hc : z_chk M pc (I, len, a, b, v) = true) (hz : z_i I len a b v hint pc L st w = some (sd, z')) (hs : z_all sd)
    (kk : Go l D r rl M k n z' Q) : Go l D r rl M k n (pc, L, st, w) Q := by
  simp only [z_chk, Bool.and_eq_true, decide_eq_true_eq, beq_iff_eq] at hc
  obtain ⟨hd, hc⟩ := hc
  cases I with
  | iconst i =>
    try simp only [Bool.and_eq_true, decide_eq_true_eq, beq_iff_eq] at hc
    obtain ⟨rfl, rfl⟩ := hc
    simp only [z_i] at hz
    simp only [Option.some.injEq, Prod.mk.injEq] at hz; obtain ⟨rfl, rfl⟩ := hz
    intro p e R s m args below meth c A Qw H locs cells slots ls C0 hc1 hs1 hR hS hL hend; have K := fun ls (hL : z_L ls _ _) => kk p e R s m args below meth c A Qw H locs cells slots ls C0 hc1 hs1 hR hS hL hend; obtain ⟨h1, h2, h3, h4, h5, h6, h7, h8, h9, -⟩ := C0
    exact lv_iconst h1 h2 hd rfl (K ls hL)
  | bipush i =>
    try simp only [Bool.and_eq_true, decide_eq_true_eq, beq_iff_eq] at hc
    obtain ⟨rfl, rfl⟩ := hc
    simp only [z_i] at hz
    simp only [Option.some.injEq, Prod.mk.injEq] at hz; obtain ⟨rfl, rfl⟩ := hz
    intro p e R s m args below meth c A Qw H locs cells slots ls C0 hc1 hs1 hR hS hL hend; have K := fun ls (hL : z_L ls _ _) => kk p e R s m args below meth c A Qw H locs cells slots ls C0 hc1 hs1 hR hS hL hend; obtain ⟨h1, h2, h3, h4, h5, h6, h7, h8, h9, -⟩ := C0
    exact lv_bipush h1 h2 hd rfl (K ls hL)
  | sipush i =>
    try simp only [Bool.and_eq_true, decide_eq_true_eq, beq_iff_eq] at hc
    obtain ⟨rfl, rfl⟩ := hc
    simp only [z_i] at hz
    simp only [Option.some.injEq, Prod.mk.injEq] at hz; obtain ⟨rfl, rfl⟩ := hz
    intro p e R s m args below meth c A Qw H locs cells slots ls C0 hc1 hs1 hR hS hL hend; have K := fun ls (hL : z_L ls _ _) => kk p e R s m args below meth c A Qw H locs cells slots ls C0 hc1 hs1 hR hS hL hend; obtain ⟨h1, h2, h3, h4, h5, h6, h7, h8, h9, -⟩ := C0
    exact lv_sipush h1 h2 hd rfl (K ls hL)
  | lconst i =>
    try simp only [Bool.and_eq_true, decide_eq_true_eq, beq_iff_eq] at hc
    obtain ⟨rfl, rfl⟩ := hc
    simp only [z_i] at hz
    simp only [Option.some.injEq, Prod.mk.injEq] at hz; obtain ⟨rfl, rfl⟩ := hz
    intro p e R s m args below meth c A Qw H locs cells slots ls C0 hc1 hs1 hR hS hL hend; have K := fun ls (hL : z_L ls _ _) => kk p e R s m args below meth c A Qw H locs cells slots ls C0 hc1 hs1 hR hS hL hend; obtain ⟨h1, h2, h3, h4, h5, h6, h7, h8, h9, -⟩ := C0
    exact lv_lconst h1 h2 hd rfl (K ls hL)
  | ldc i =>
    try simp only [Bool.and_eq_true, decide_eq_true_eq, beq_iff_eq] at hc
    obtain ⟨rfl, hc⟩ := hc
    simp only [z_i] at hz
    simp only [Option.some.injEq, Prod.mk.injEq] at hz; obtain ⟨rfl, rfl⟩ := hz
    cases v with
    | int x =>
      simp only [decide_eq_true_eq] at hc
      intro p e R s m args below meth c A Qw H locs cells slots ls C0 hc1 hs1 hR hS hL hend; have K := fun ls (hL : z_L ls _ _) => kk p e R s m args below meth c A Qw H locs cells slots ls C0 hc1 hs1 hR hS hL hend; obtain ⟨h1, h2, h3, h4, h5, h6, h7, h8, h9, -⟩ := C0
      exact lv_ldc h1 h2 h6 (h7 _ (z_tbm hc rfl)) hd (K ls hL)
    | _ => simp at hc
  | ldc_w i =>
    try simp only [Bool.and_eq_true, decide_eq_true_eq, beq_iff_eq] at hc
    obtain ⟨rfl, hc⟩ := hc
    simp only [z_i] at hz
    simp only [Option.some.injEq, Prod.mk.injEq] at hz; obtain ⟨rfl, rfl⟩ := hz
    cases v with
    | int x =>
      simp only [decide_eq_true_eq] at hc
      intro p e R s m args below meth c A Qw H locs cells slots ls C0 hc1 hs1 hR hS hL hend; have K := fun ls (hL : z_L ls _ _) => kk p e R s m args below meth c A Qw H locs cells slots ls C0 hc1 hs1 hR hS hL hend; obtain ⟨h1, h2, h3, h4, h5, h6, h7, h8, h9, -⟩ := C0
      exact lv_ldcw h1 h2 h6 (h7 _ (z_tbm hc rfl)) hd (K ls hL)
    | _ => simp at hc
  | ldc2_w i =>
    try simp only [Bool.and_eq_true, decide_eq_true_eq, beq_iff_eq] at hc
    obtain ⟨rfl, hc⟩ := hc
    simp only [z_i] at hz
    simp only [Option.some.injEq, Prod.mk.injEq] at hz; obtain ⟨rfl, rfl⟩ := hz
    cases v with
    | long x =>
      simp only [decide_eq_true_eq] at hc
      intro p e R s m args below meth c A Qw H locs cells slots ls C0 hc1 hs1 hR hS hL hend; have K := fun ls (hL : z_L ls _ _) => kk p e R s m args below meth c A Qw H locs cells slots ls C0 hc1 hs1 hR hS hL hend; obtain ⟨h1, h2, h3, h4, h5, h6, h7, h8, h9, -⟩ := C0
      exact lv_ldc2 h1 h2 h6 (h7 _ (z_tbm hc rfl)) hd (K ls hL)
    | _ => simp at hc
  | iload i =>
    try simp only [Bool.and_eq_true, decide_eq_true_eq, beq_iff_eq] at hc
    obtain ⟨rfl, rfl⟩ := hc
    simp only [z_i] at hz
    split at hz
    · rename_i x hx
      simp only [Option.some.injEq, Prod.mk.injEq] at hz; obtain ⟨rfl, rfl⟩ := hz
      intro p e R s m args below meth c A Qw H locs cells slots ls C0 hc1 hs1 hR hS hL hend; have K := fun ls (hL : z_L ls _ _) => kk p e R s m args below meth c A Qw H locs cells slots ls C0 hc1 hs1 hR hS hL hend; obtain ⟨h1, h2, h3, h4, h5, h6, h7, h8, h9, -⟩ := C0
      exact lv_iload h1 h2 hd (hL.2.2 _ _ hx) (K ls hL)
    · cases hz
  | iload_n i =>
    try simp only [Bool.and_eq_true, decide_eq_true_eq, beq_iff_eq] at hc
    obtain ⟨rfl, hi⟩ := hc
    simp only [z_i] at hz
    split at hz
    · rename_i x hx
      simp only [Option.some.injEq, Prod.mk.injEq] at hz; obtain ⟨rfl, rfl⟩ := hz
      intro p e R s m args below meth c A Qw H locs cells slots ls C0 hc1 hs1 hR hS hL hend; have K := fun ls (hL : z_L ls _ _) => kk p e R s m args below meth c A Qw H locs cells slots ls C0 hc1 hs1 hR hS hL hend; obtain ⟨h1, h2, h3, h4, h5, h6, h7, h8, h9, -⟩ := C0
      exact lv_iload_n h1 h2 hd hi (hL.2.2 _ _ hx) (K ls hL)
    · cases hz
  | aload i =>
    try simp only [Bool.and_eq_true, decide_eq_true_eq, beq_iff_eq] at hc
    obtain ⟨rfl, rfl⟩ := hc
    simp only [z_i] at hz
    split at hz
    · rename_i x hx
      simp only [Option.some.injEq, Prod.mk.injEq] at hz; obtain ⟨rfl, rfl⟩ := hz
      intro p e R s m args below meth c A Qw H locs cells slots ls C0 hc1 hs1 hR hS hL hend; have K := fun ls (hL : z_L ls _ _) => kk p e R s m args below meth c A Qw H locs cells slots ls C0 hc1 hs1 hR hS hL hend; obtain ⟨h1, h2, h3, h4, h5, h6, h7, h8, h9, -⟩ := C0
      exact lv_aload h1 h2 hd (hL.2.2 _ _ hx) (K ls hL)
    · cases hz
  | aload_n i =>
    try simp only [Bool.and_eq_true, decide_eq_true_eq, beq_iff_eq] at hc
    obtain ⟨rfl, hi⟩ := hc
    simp only [z_i] at hz
    split at hz
    · rename_i x hx
      simp only [Option.some.injEq, Prod.mk.injEq] at hz; obtain ⟨rfl, rfl⟩ := hz
      intro p e R s m args below meth c A Qw H locs cells slots ls C0 hc1 hs1 hR hS hL hend; have K := fun ls (hL : z_L ls _ _) => kk p e R s m args below meth c A Qw H locs cells slots ls C0 hc1 hs1 hR hS hL hend; obtain ⟨h1, h2, h3, h4, h5, h6, h7, h8, h9, -⟩ := C0
      exact lv_aload_n h1 h2 hd hi (hL.2.2 _ _ hx) (K ls hL)
    · cases hz
  | lload i =>
    try simp only [Bool.and_eq_true, decide_eq_true_eq, beq_iff_eq] at hc
    obtain ⟨rfl, rfl⟩ := hc
    simp only [z_i] at hz
    split at hz
    · rename_i x hx
      simp only [Option.some.injEq, Prod.mk.injEq] at hz; obtain ⟨rfl, rfl⟩ := hz
      intro p e R s m args below meth c A Qw H locs cells slots ls C0 hc1 hs1 hR hS hL hend; have K := fun ls (hL : z_L ls _ _) => kk p e R s m args below meth c A Qw H locs cells slots ls C0 hc1 hs1 hR hS hL hend; obtain ⟨h1, h2, h3, h4, h5, h6, h7, h8, h9, -⟩ := C0
      exact lv_lload h1 h2 hd (hL.2.2 _ _ hx) (K ls hL)
    · cases hz
  | lload_n i =>
    try simp only [Bool.and_eq_true, decide_eq_true_eq, beq_iff_eq] at hc
    obtain ⟨rfl, hi⟩ := hc
    simp only [z_i] at hz
    split at hz
    · rename_i x hx
      simp only [Option.some.injEq, Prod.mk.injEq] at hz; obtain ⟨rfl, rfl⟩ := hz
      intro p e R s m args below meth c A Qw H locs cells slots ls C0 hc1 hs1 hR hS hL hend; have K := fun ls (hL : z_L ls _ _) => kk p e R s m args below meth c A Qw H locs cells slots ls C0 hc1 hs1 hR hS hL hend; obtain ⟨h1, h2, h3, h4, h5, h6, h7, h8, h9, -⟩ := C0
      exact lv_lload_n h1 h2 hd hi (hL.2.2 _ _ hx) (K ls hL)
    · cases hz
  | istore i =>
    try simp only [Bool.and_eq_true, decide_eq_true_eq, beq_iff_eq] at hc
    obtain ⟨⟨rfl, rfl⟩, hn⟩ := hc
    simp only [z_i] at hz
    split at hz
    · simp only [Option.some.injEq, Prod.mk.injEq] at hz; obtain ⟨rfl, rfl⟩ := hz
      intro p e R s m args below meth c A Qw H locs cells slots ls C0 hc1 hs1 hR hS hL hend; have K := fun ls (hL : z_L ls _ _) => kk p e R s m args below meth c A Qw H locs cells slots ls C0 hc1 hs1 hR hS hL hend; obtain ⟨h1, h2, h3, h4, h5, h6, h7, h8, h9, -⟩ := C0
      exact lv_istore h1 h2 hd hL.has hn rfl (fun ls' h => K ls' (z_L.s1 h))
    · cases hz
  | istore_n i =>
    try simp only [Bool.and_eq_true, decide_eq_true_eq, beq_iff_eq] at hc
    obtain ⟨⟨rfl, hi⟩, hn⟩ := hc
    simp only [z_i] at hz
    split at hz
    · simp only [Option.some.injEq, Prod.mk.injEq] at hz; obtain ⟨rfl, rfl⟩ := hz
      intro p e R s m args below meth c A Qw H locs cells slots ls C0 hc1 hs1 hR hS hL hend; have K := fun ls (hL : z_L ls _ _) => kk p e R s m args below meth c A Qw H locs cells slots ls C0 hc1 hs1 hR hS hL hend; obtain ⟨h1, h2, h3, h4, h5, h6, h7, h8, h9, -⟩ := C0
      exact lv_istore_n h1 h2 hd hi hL.has hn rfl (fun ls' h => K ls' (z_L.s1 h))
    · cases hz
  | astore i =>
    try simp only [Bool.and_eq_true, decide_eq_true_eq, beq_iff_eq] at hc
    obtain ⟨⟨rfl, rfl⟩, hn⟩ := hc
    simp only [z_i] at hz
    split at hz
    · simp only [Option.some.injEq, Prod.mk.injEq] at hz; obtain ⟨rfl, rfl⟩ := hz
      intro p e R s m args below meth c A Qw H locs cells slots ls C0 hc1 hs1 hR hS hL hend; have K := fun ls (hL : z_L ls _ _) => kk p e R s m args below meth c A Qw H locs cells slots ls C0 hc1 hs1 hR hS hL hend; obtain ⟨h1, h2, h3, h4, h5, h6, h7, h8, h9, -⟩ := C0
      exact lv_astore h1 h2 hd hL.has hn rfl (fun ls' h => K ls' (z_L.s1 h))
    · cases hz
  | astore_n i =>
    try simp only [Bool.and_eq_true, decide_eq_true_eq, beq_iff_eq] at hc
    obtain ⟨⟨rfl, hi⟩, hn⟩ := hc
    simp only [z_i] at hz
    split at hz
    · simp only [Option.some.injEq, Prod.mk.injEq] at hz; obtain ⟨rfl, rfl⟩ := hz
      intro p e R s m args below meth c A Qw H locs cells slots ls C0 hc1 hs1 hR hS hL hend; have K := fun ls (hL : z_L ls _ _) => kk p e R s m args below meth c A Qw H locs cells slots ls C0 hc1 hs1 hR hS hL hend; obtain ⟨h1, h2, h3, h4, h5, h6, h7, h8, h9, -⟩ := C0
      exact lv_astore_n h1 h2 hd hi hL.has hn rfl (fun ls' h => K ls' (z_L.s1 h))
    · cases hz
  | lstore i =>
    try simp only [Bool.and_eq_true, decide_eq_true_eq, beq_iff_eq] at hc
    obtain ⟨⟨rfl, rfl⟩, hn⟩ := hc
    simp only [z_i] at hz
    split at hz
    · simp only [Option.some.injEq, Prod.mk.injEq] at hz; obtain ⟨rfl, rfl⟩ := hz
      intro p e R s m args below meth c A Qw H locs cells slots ls C0 hc1 hs1 hR hS hL hend; have K := fun ls (hL : z_L ls _ _) => kk p e R s m args below meth c A Qw H locs cells slots ls C0 hc1 hs1 hR hS hL hend; obtain ⟨h1, h2, h3, h4, h5, h6, h7, h8, h9, -⟩ := C0
      exact lv_lstore h1 h2 hd hL.has hn rfl (fun ls' h => K ls' (z_L.s2 h))
    · cases hz
  | lstore_n i =>
    try simp only [Bool.and_eq_true, decide_eq_true_eq, beq_iff_eq] at hc
    obtain ⟨⟨rfl, hi⟩, hn⟩ := hc
    simp only [z_i] at hz
    split at hz
    · simp only [Option.some.injEq, Prod.mk.injEq] at hz; obtain ⟨rfl, rfl⟩ := hz
      intro p e R s m args below meth c A Qw H locs cells slots ls C0 hc1 hs1 hR hS hL hend; have K := fun ls (hL : z_L ls _ _) => kk p e R s m args below meth c A Qw H locs cells slots ls C0 hc1 hs1 hR hS hL hend; obtain ⟨h1, h2, h3, h4, h5, h6, h7, h8, h9, -⟩ := C0
      exact lv_lstore_n h1 h2 hd hi hL.has hn rfl (fun ls' h => K ls' (z_L.s2 h))
    · cases hz
  | iinc i j =>
    try simp only [Bool.and_eq_true, decide_eq_true_eq, beq_iff_eq] at hc
    obtain ⟨⟨⟨rfl, rfl⟩, hn⟩, rfl⟩ := hc
    simp only [z_i] at hz
    split at hz
    · rename_i x y hx hy
      cases hy
      simp only [Option.some.injEq, Prod.mk.injEq] at hz; obtain ⟨rfl, rfl⟩ := hz
      intro p e R s m args below meth c A Qw H locs cells slots ls C0 hc1 hs1 hR hS hL hend; have K := fun ls (hL : z_L ls _ _) => kk p e R s m args below meth c A Qw H locs cells slots ls C0 hc1 hs1 hR hS hL hend; obtain ⟨h1, h2, h3, h4, h5, h6, h7, h8, h9, -⟩ := C0
      obtain ⟨kx, hkx⟩ := List.mem_iff_getElem?.mp (z_asc_mem (q := (_, .int x)).mpr hx)
      exact lv_iinc h1 h2 hd hL.has hkx rfl hn rfl (fun ls' h => K ls' (z_L.s1 h))
    · cases hz
  | iadd =>
    try simp only [Bool.and_eq_true, decide_eq_true_eq, beq_iff_eq] at hc
    obtain rfl := hc
    simp only [z_i] at hz
    split at hz
    · simp only [Option.some.injEq, Prod.mk.injEq] at hz; obtain ⟨rfl, rfl⟩ := hz
      intro p e R s m args below meth c A Qw H locs cells slots ls C0 hc1 hs1 hR hS hL hend; have K := fun ls (hL : z_L ls _ _) => kk p e R s m args below meth c A Qw H locs cells slots ls C0 hc1 hs1 hR hS hL hend; obtain ⟨h1, h2, h3, h4, h5, h6, h7, h8, h9, -⟩ := C0
      exact lv_iadd h1 h2 hd (K ls hL)
    · cases hz
  | isub =>
    try simp only [Bool.and_eq_true, decide_eq_true_eq, beq_iff_eq] at hc
    obtain rfl := hc
    simp only [z_i] at hz
    split at hz
    · simp only [Option.some.injEq, Prod.mk.injEq] at hz; obtain ⟨rfl, rfl⟩ := hz
      intro p e R s m args below meth c A Qw H locs cells slots ls C0 hc1 hs1 hR hS hL hend; have K := fun ls (hL : z_L ls _ _) => kk p e R s m args below meth c A Qw H locs cells slots ls C0 hc1 hs1 hR hS hL hend; obtain ⟨h1, h2, h3, h4, h5, h6, h7, h8, h9, -⟩ := C0
      exact lv_isub h1 h2 hd (K ls hL)
    · cases hz
  | imul =>
    try simp only [Bool.and_eq_true, decide_eq_true_eq, beq_iff_eq] at hc
    obtain rfl := hc
    simp only [z_i] at hz
    split at hz
    · simp only [Option.some.injEq, Prod.mk.injEq] at hz; obtain ⟨rfl, rfl⟩ := hz
      intro p e R s m args below meth c A Qw H locs cells slots ls C0 hc1 hs1 hR hS hL hend; have K := fun ls (hL : z_L ls _ _) => kk p e R s m args below meth c A Qw H locs cells slots ls C0 hc1 hs1 hR hS hL hend; obtain ⟨h1, h2, h3, h4, h5, h6, h7, h8, h9, -⟩ := C0
      exact lv_imul h1 h2 hd (K ls hL)
    · cases hz
  | iand =>
    try simp only [Bool.and_eq_true, decide_eq_true_eq, beq_iff_eq] at hc
    obtain rfl := hc
    simp only [z_i] at hz
    split at hz
    · simp only [Option.some.injEq, Prod.mk.injEq] at hz; obtain ⟨rfl, rfl⟩ := hz
      intro p e R s m args below meth c A Qw H locs cells slots ls C0 hc1 hs1 hR hS hL hend; have K := fun ls (hL : z_L ls _ _) => kk p e R s m args below meth c A Qw H locs cells slots ls C0 hc1 hs1 hR hS hL hend; obtain ⟨h1, h2, h3, h4, h5, h6, h7, h8, h9, -⟩ := C0
      exact lv_iand h1 h2 hd (K ls hL)
    · cases hz
  | ior =>
    try simp only [Bool.and_eq_true, decide_eq_true_eq, beq_iff_eq] at hc
    obtain rfl := hc
    simp only [z_i] at hz
    split at hz
    · simp only [Option.some.injEq, Prod.mk.injEq] at hz; obtain ⟨rfl, rfl⟩ := hz
      intro p e R s m args below meth c A Qw H locs cells slots ls C0 hc1 hs1 hR hS hL hend; have K := fun ls (hL : z_L ls _ _) => kk p e R s m args below meth c A Qw H locs cells slots ls C0 hc1 hs1 hR hS hL hend; obtain ⟨h1, h2, h3, h4, h5, h6, h7, h8, h9, -⟩ := C0
      exact lv_ior h1 h2 hd (K ls hL)
    · cases hz
  | ixor =>
    try simp only [Bool.and_eq_true, decide_eq_true_eq, beq_iff_eq] at hc
    obtain rfl := hc
    simp only [z_i] at hz
    split at hz
    · simp only [Option.some.injEq, Prod.mk.injEq] at hz; obtain ⟨rfl, rfl⟩ := hz
      intro p e R s m args below meth c A Qw H locs cells slots ls C0 hc1 hs1 hR hS hL hend; have K := fun ls (hL : z_L ls _ _) => kk p e R s m args below meth c A Qw H locs cells slots ls C0 hc1 hs1 hR hS hL hend; obtain ⟨h1, h2, h3, h4, h5, h6, h7, h8, h9, -⟩ := C0
      exact lv_ixor h1 h2 hd (K ls hL)
    · cases hz
  | ishl =>
    try simp only [Bool.and_eq_true, decide_eq_true_eq, beq_iff_eq] at hc
    obtain rfl := hc
    simp only [z_i] at hz
    split at hz
    · simp only [Option.some.injEq, Prod.mk.injEq] at hz; obtain ⟨rfl, rfl⟩ := hz
      intro p e R s m args below meth c A Qw H locs cells slots ls C0 hc1 hs1 hR hS hL hend; have K := fun ls (hL : z_L ls _ _) => kk p e R s m args below meth c A Qw H locs cells slots ls C0 hc1 hs1 hR hS hL hend; obtain ⟨h1, h2, h3, h4, h5, h6, h7, h8, h9, -⟩ := C0
      exact lv_ishl h1 h2 hd (K ls hL)
    · cases hz
  | ishr =>
    try simp only [Bool.and_eq_true, decide_eq_true_eq, beq_iff_eq] at hc
    obtain rfl := hc
    simp only [z_i] at hz
    split at hz
    · simp only [Option.some.injEq, Prod.mk.injEq] at hz; obtain ⟨rfl, rfl⟩ := hz
      intro p e R s m args below meth c A Qw H locs cells slots ls C0 hc1 hs1 hR hS hL hend; have K := fun ls (hL : z_L ls _ _) => kk p e R s m args below meth c A Qw H locs cells slots ls C0 hc1 hs1 hR hS hL hend; obtain ⟨h1, h2, h3, h4, h5, h6, h7, h8, h9, -⟩ := C0
      exact lv_ishr h1 h2 hd (K ls hL)
    · cases hz
  | ineg =>
    try simp only [Bool.and_eq_true, decide_eq_true_eq, beq_iff_eq] at hc
    obtain rfl := hc
    simp only [z_i] at hz
    split at hz
    · simp only [Option.some.injEq, Prod.mk.injEq] at hz; obtain ⟨rfl, rfl⟩ := hz
      intro p e R s m args below meth c A Qw H locs cells slots ls C0 hc1 hs1 hR hS hL hend; have K := fun ls (hL : z_L ls _ _) => kk p e R s m args below meth c A Qw H locs cells slots ls C0 hc1 hs1 hR hS hL hend; obtain ⟨h1, h2, h3, h4, h5, h6, h7, h8, h9, -⟩ := C0
      exact lv_ineg h1 h2 hd (K ls hL)
    · cases hz
  | lor =>
    try simp only [Bool.and_eq_true, decide_eq_true_eq, beq_iff_eq] at hc
    obtain rfl := hc
    simp only [z_i] at hz
    split at hz
    · simp only [Option.some.injEq, Prod.mk.injEq] at hz; obtain ⟨rfl, rfl⟩ := hz
      intro p e R s m args below meth c A Qw H locs cells slots ls C0 hc1 hs1 hR hS hL hend; have K := fun ls (hL : z_L ls _ _) => kk p e R s m args below meth c A Qw H locs cells slots ls C0 hc1 hs1 hR hS hL hend; obtain ⟨h1, h2, h3, h4, h5, h6, h7, h8, h9, -⟩ := C0
      exact lv_lor h1 h2 hd (K ls hL)
    · cases hz
  | land =>
    try simp only [Bool.and_eq_true, decide_eq_true_eq, beq_iff_eq] at hc
    obtain rfl := hc
    simp only [z_i] at hz
    split at hz
    · simp only [Option.some.injEq, Prod.mk.injEq] at hz; obtain ⟨rfl, rfl⟩ := hz
      intro p e R s m args below meth c A Qw H locs cells slots ls C0 hc1 hs1 hR hS hL hend; have K := fun ls (hL : z_L ls _ _) => kk p e R s m args below meth c A Qw H locs cells slots ls C0 hc1 hs1 hR hS hL hend; obtain ⟨h1, h2, h3, h4, h5, h6, h7, h8, h9, -⟩ := C0
      exact lv_land h1 h2 hd (K ls hL)
    · cases hz
  | iushr =>
    try simp only [Bool.and_eq_true, decide_eq_true_eq, beq_iff_eq] at hc
    obtain rfl := hc
    simp only [z_i] at hz
    split at hz
    · simp only [Option.some.injEq, Prod.mk.injEq] at hz; obtain ⟨rfl, rfl⟩ := hz
      intro p e R s m args below meth c A Qw H locs cells slots ls C0 hc1 hs1 hR hS hL hend; have K := fun ls (hL : z_L ls _ _) => kk p e R s m args below meth c A Qw H locs cells slots ls C0 hc1 hs1 hR hS hL hend; obtain ⟨h1, h2, h3, h4, h5, h6, h7, h8, h9, -⟩ := C0
      exact lv_iushr h1 h2 hd rfl (K ls hL)
    · cases hz
  | i2l =>
    try simp only [Bool.and_eq_true, decide_eq_true_eq, beq_iff_eq] at hc
    obtain rfl := hc
    simp only [z_i] at hz
    split at hz
    · simp only [Option.some.injEq, Prod.mk.injEq] at hz; obtain ⟨rfl, rfl⟩ := hz
      intro p e R s m args below meth c A Qw H locs cells slots ls C0 hc1 hs1 hR hS hL hend; have K := fun ls (hL : z_L ls _ _) => kk p e R s m args below meth c A Qw H locs cells slots ls C0 hc1 hs1 hR hS hL hend; obtain ⟨h1, h2, h3, h4, h5, h6, h7, h8, h9, -⟩ := C0
      exact lv_i2l h1 h2 hd rfl (K ls hL)
    · cases hz
  | l2i =>
    try simp only [Bool.and_eq_true, decide_eq_true_eq, beq_iff_eq] at hc
    obtain rfl := hc
    simp only [z_i] at hz
    split at hz
    · simp only [Option.some.injEq, Prod.mk.injEq] at hz; obtain ⟨rfl, rfl⟩ := hz
      intro p e R s m args below meth c A Qw H locs cells slots ls C0 hc1 hs1 hR hS hL hend; have K := fun ls (hL : z_L ls _ _) => kk p e R s m args below meth c A Qw H locs cells slots ls C0 hc1 hs1 hR hS hL hend; obtain ⟨h1, h2, h3, h4, h5, h6, h7, h8, h9, -⟩ := C0
      exact lv_l2i h1 h2 hd rfl (K ls hL)
    · cases hz
  | i2c =>
    try simp only [Bool.and_eq_true, decide_eq_true_eq, beq_iff_eq] at hc
    obtain rfl := hc
    simp only [z_i] at hz
    split at hz
    · simp only [Option.some.injEq, Prod.mk.injEq] at hz; obtain ⟨rfl, rfl⟩ := hz
      intro p e R s m args below meth c A Qw H locs cells slots ls C0 hc1 hs1 hR hS hL hend; have K := fun ls (hL : z_L ls _ _) => kk p e R s m args below meth c A Qw H locs cells slots ls C0 hc1 hs1 hR hS hL hend; obtain ⟨h1, h2, h3, h4, h5, h6, h7, h8, h9, -⟩ := C0
      exact lv_i2c h1 h2 hd rfl (K ls hL)
    · cases hz
  | lshl =>
    try simp only [Bool.and_eq_true, decide_eq_true_eq, beq_iff_eq] at hc
    obtain rfl := hc
    simp only [z_i] at hz
    split at hz
    · simp only [Option.some.injEq, Prod.mk.injEq] at hz; obtain ⟨rfl, rfl⟩ := hz
      intro p e R s m args below meth c A Qw H locs cells slots ls C0 hc1 hs1 hR hS hL hend; have K := fun ls (hL : z_L ls _ _) => kk p e R s m args below meth c A Qw H locs cells slots ls C0 hc1 hs1 hR hS hL hend; obtain ⟨h1, h2, h3, h4, h5, h6, h7, h8, h9, -⟩ := C0
      exact lv_lshl h1 h2 hd rfl (K ls hL)
    · cases hz
  | lshr =>
    try simp only [Bool.and_eq_true, decide_eq_true_eq, beq_iff_eq] at hc
    obtain rfl := hc
    simp only [z_i] at hz
    split at hz
    · simp only [Option.some.injEq, Prod.mk.injEq] at hz; obtain ⟨rfl, rfl⟩ := hz
      intro p e R s m args below meth c A Qw H locs cells slots ls C0 hc1 hs1 hR hS hL hend; have K := fun ls (hL : z_L ls _ _) => kk p e R s m args below meth c A Qw H locs cells slots ls C0 hc1 hs1 hR hS hL hend; obtain ⟨h1, h2, h3, h4, h5, h6, h7, h8, h9, -⟩ := C0
      exact lv_lshr h1 h2 hd rfl (K ls hL)
    · cases hz
  | lushr =>
    try simp only [Bool.and_eq_true, decide_eq_true_eq, beq_iff_eq] at hc
    obtain rfl := hc
    simp only [z_i] at hz
    split at hz
    · simp only [Option.some.injEq, Prod.mk.injEq] at hz; obtain ⟨rfl, rfl⟩ := hz
      intro p e R s m args below meth c A Qw H locs cells slots ls C0 hc1 hs1 hR hS hL hend; have K := fun ls (hL : z_L ls _ _) => kk p e R s m args below meth c A Qw H locs cells slots ls C0 hc1 hs1 hR hS hL hend; obtain ⟨h1, h2, h3, h4, h5, h6, h7, h8, h9, -⟩ := C0
      exact lv_lushr h1 h2 hd rfl (K ls hL)
    · cases hz
  | idiv =>
    try simp only [Bool.and_eq_true, decide_eq_true_eq, beq_iff_eq] at hc
    obtain rfl := hc
    simp only [z_i] at hz
    split at hz
    · simp only [Option.some.injEq, Prod.mk.injEq] at hz; obtain ⟨rfl, rfl⟩ := hz
      intro p e R s m args below meth c A Qw H locs cells slots ls C0 hc1 hs1 hR hS hL hend; have K := fun ls (hL : z_L ls _ _) => kk p e R s m args below meth c A Qw H locs cells slots ls C0 hc1 hs1 hR hS hL hend; obtain ⟨h1, h2, h3, h4, h5, h6, h7, h8, h9, -⟩ := C0
      exact lv_idiv h1 h2 hd hs.1 (K ls hL)
    · cases hz
  | irem =>
    try simp only [Bool.and_eq_true, decide_eq_true_eq, beq_iff_eq] at hc
    obtain rfl := hc
    simp only [z_i] at hz
    split at hz
    · simp only [Option.some.injEq, Prod.mk.injEq] at hz; obtain ⟨rfl, rfl⟩ := hz
      intro p e R s m args below meth c A Qw H locs cells slots ls C0 hc1 hs1 hR hS hL hend; have K := fun ls (hL : z_L ls _ _) => kk p e R s m args below meth c A Qw H locs cells slots ls C0 hc1 hs1 hR hS hL hend; obtain ⟨h1, h2, h3, h4, h5, h6, h7, h8, h9, -⟩ := C0
      exact lv_irem h1 h2 hd hs.1 (K ls hL)
    · cases hz
  | lcmp =>
    try simp only [Bool.and_eq_true, decide_eq_true_eq, beq_iff_eq] at hc
    obtain rfl := hc
    simp only [z_i] at hz
    split at hz
    · simp only [Option.some.injEq, Prod.mk.injEq] at hz; obtain ⟨rfl, rfl⟩ := hz
      intro p e R s m args below meth c A Qw H locs cells slots ls C0 hc1 hs1 hR hS hL hend; have K := fun ls (hL : z_L ls _ _) => kk p e R s m args below meth c A Qw H locs cells slots ls C0 hc1 hs1 hR hS hL hend; obtain ⟨h1, h2, h3, h4, h5, h6, h7, h8, h9, -⟩ := C0
      exact W.lcmp h1 h2 hd (K ls hL)
    · cases hz
  | dup =>
    try simp only [Bool.and_eq_true, decide_eq_true_eq, beq_iff_eq] at hc
    obtain rfl := hc
    simp only [z_i] at hz
    split at hz
    · simp only [Option.some.injEq, Prod.mk.injEq] at hz; obtain ⟨rfl, rfl⟩ := hz
      intro p e R s m args below meth c A Qw H locs cells slots ls C0 hc1 hs1 hR hS hL hend; have K := fun ls (hL : z_L ls _ _) => kk p e R s m args below meth c A Qw H locs cells slots ls C0 hc1 hs1 hR hS hL hend; obtain ⟨h1, h2, h3, h4, h5, h6, h7, h8, h9, -⟩ := C0
      exact lv_dup h1 h2 hd rfl (K ls hL)
    · simp only [Option.some.injEq, Prod.mk.injEq] at hz; obtain ⟨rfl, rfl⟩ := hz
      intro p e R s m args below meth c A Qw H locs cells slots ls C0 hc1 hs1 hR hS hL hend; have K := fun ls (hL : z_L ls _ _) => kk p e R s m args below meth c A Qw H locs cells slots ls C0 hc1 hs1 hR hS hL hend; obtain ⟨h1, h2, h3, h4, h5, h6, h7, h8, h9, -⟩ := C0
      exact lv_dup h1 h2 hd rfl (K ls hL)
    · cases hz
  | dup2 =>
    try simp only [Bool.and_eq_true, decide_eq_true_eq, beq_iff_eq] at hc
    obtain rfl := hc
    simp only [z_i] at hz
    split at hz
    · simp only [Option.some.injEq, Prod.mk.injEq] at hz; obtain ⟨rfl, rfl⟩ := hz
      intro p e R s m args below meth c A Qw H locs cells slots ls C0 hc1 hs1 hR hS hL hend; have K := fun ls (hL : z_L ls _ _) => kk p e R s m args below meth c A Qw H locs cells slots ls C0 hc1 hs1 hR hS hL hend; obtain ⟨h1, h2, h3, h4, h5, h6, h7, h8, h9, -⟩ := C0
      exact lv_dup2_11 h1 h2 hd rfl rfl (K ls hL)
    · cases hz
  | pop =>
    try simp only [Bool.and_eq_true, decide_eq_true_eq, beq_iff_eq] at hc
    obtain rfl := hc
    simp only [z_i] at hz
    split at hz
    · simp only [Option.some.injEq, Prod.mk.injEq] at hz; obtain ⟨rfl, rfl⟩ := hz
      intro p e R s m args below meth c A Qw H locs cells slots ls C0 hc1 hs1 hR hS hL hend; have K := fun ls (hL : z_L ls _ _) => kk p e R s m args below meth c A Qw H locs cells slots ls C0 hc1 hs1 hR hS hL hend; obtain ⟨h1, h2, h3, h4, h5, h6, h7, h8, h9, -⟩ := C0
      exact lv_pop h1 h2 hd rfl (K ls hL)
    · simp only [Option.some.injEq, Prod.mk.injEq] at hz; obtain ⟨rfl, rfl⟩ := hz
      intro p e R s m args below meth c A Qw H locs cells slots ls C0 hc1 hs1 hR hS hL hend; have K := fun ls (hL : z_L ls _ _) => kk p e R s m args below meth c A Qw H locs cells slots ls C0 hc1 hs1 hR hS hL hend; obtain ⟨h1, h2, h3, h4, h5, h6, h7, h8, h9, -⟩ := C0
      exact lv_pop h1 h2 hd rfl (K ls hL)
    · cases hz
  | goto off =>
    try simp only [Bool.and_eq_true, decide_eq_true_eq, beq_iff_eq] at hc
    obtain ⟨rfl, hi⟩ := hc
    simp only [z_i] at hz
    simp only [Option.some.injEq, Prod.mk.injEq] at hz; obtain ⟨rfl, rfl⟩ := hz
    intro p e R s m args below meth c A Qw H locs cells slots ls C0 hc1 hs1 hR hS hL hend; have K := fun ls (hL : z_L ls _ _) => kk p e R s m args below meth c A Qw H locs cells slots ls C0 hc1 hs1 hR hS hL hend; obtain ⟨h1, h2, h3, h4, h5, h6, h7, h8, h9, -⟩ := C0
    exact lv_goto h1 h2 hd hi (K ls hL)
  | arraylength =>
    try simp only [Bool.and_eq_true, decide_eq_true_eq, beq_iff_eq] at hc
    obtain rfl := hc
    simp only [z_i] at hz
    split at hz
    · rename_i hw
      simp only [Option.some.injEq, Prod.mk.injEq] at hz; obtain ⟨rfl, rfl⟩ := hz
      exact z_alen hd hw hs.1 kk
    · cases hz
  | getfield i =>
    try simp only [Bool.and_eq_true, decide_eq_true_eq, beq_iff_eq] at hc
    obtain ⟨rfl, hc⟩ := hc
    simp only [z_i] at hz
    split at hz
    · rename_i p0 st' p1 ci fs hw
      split at hz
      · rename_i x hci hx
        rw [beq_iff_eq] at hci
        subst hci
        simp only [Option.some.injEq, Prod.mk.injEq] at hz; obtain ⟨rfl, rfl⟩ := hz
        split at hc
        · rename_i C T N hcl
          simp only [Bool.and_eq_true, decide_eq_true_eq] at hc
          obtain ⟨hb, hc⟩ := hc
          split at hc
          · rename_i q
            simp only [decide_eq_true_eq] at hc
            exact z_getf (a := 0) hd hcl hb hc hw hx hs.1 kk
          · cases hc
        · cases hc
      · cases hz
    · cases hz
  | _ => simp [z_i] at hz
theorem z_mem_of_lookup {α : Type} : ∀ {t : List (Nat × α)} {x : Nat} {y : α}, t.lookup x = some y → (x, y) ∈ t := by
  intro t x y h
  induction t with
  | nil => cases h
  | cons q t ih =>
    obtain ⟨u, z⟩ := q
    rw [List.lookup_cons] at h
    by_cases e : (x == u) = true
    · rw [e] at h
      cases h
      rw [beq_iff_eq] at e
      subst e
      exact List.mem_cons_self
    · rw [Bool.eq_false_iff.mpr e] at h
      exact List.mem_cons_of_mem _ (ih h)
theorem z_chk_of {pc : Nat} {e : ZI} (hok : z_ok M = true) (h : (z_code M).lookup pc = some e) : z_chk M pc e = true := List.all_eq_true.mp hok (pc, e) (z_mem_of_lookup h)
theorem z_all_app : ∀ {a b : List Prop}, z_all (a ++ b) → z_all a ∧ z_all b
  | [], _, h => ⟨trivial, h⟩
  | _ :: _, _, h => ⟨⟨h.1, (z_all_app h.2).1⟩, (z_all_app h.2).2⟩
theorem Go.blk (hok : z_ok M = true) : ∀ (hs : List Nat) {z z' : ZC} {sd : List Prop} (_ : z_blk M hs z = some (sd, z')) (_ : z_all sd) (_ : Go l D r rl M k n z' Q), Go l D r rl M k n z Q := by
  intro hs
  induction hs with
  | nil =>
    intro z z' sd h hsd kk
    simp only [z_blk, Option.some.injEq, Prod.mk.injEq] at h
    obtain ⟨-, rfl⟩ := h
    exact kk
  | cons hint t ih =>
    intro z z' sd h hsd kk
    simp only [z_blk] at h
    split at h
    · rename_i s1 z1 h1
      split at h
      · rename_i s2 z2 h2
        simp only [Option.some.injEq, Prod.mk.injEq] at h
        obtain ⟨rfl, rfl⟩ := h
        obtain ⟨g1, g2⟩ := z_all_app hsd
        have G := ih h2 g2 kk
        unfold z_nx at h1
        split at h1
        · rename_i I len a b v hl
          exact z_step (z_chk_of hok hl) h1 g1 G
        · cases h1
      · cases h
    · cases h
end ZT
