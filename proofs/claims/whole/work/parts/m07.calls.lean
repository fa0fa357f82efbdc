theorem z_P_iff {D : va_G} {kc : Nat → ClassId} {w : ZW} {H : Heap} : va_P D vwCl (z_w kc w) H ↔ ∀ q ∈ w, va_at D vwCl (q.1, z_E kc q.1 q.2) H := by
  constructor
  · intro h q hq
    obtain ⟨i, hi⟩ := List.mem_iff_getElem?.mp hq
    exact h i _ (z_w_at hi)
  · intro h i q hi
    unfold z_w at hi
    rw [List.getElem?_map] at hi
    obtain ⟨x, hx, rfl⟩ := Option.map_eq_some_iff.mp hi
    exact h x (List.mem_of_getElem? hx)
theorem z_D_iff {A : Nat → Prop} {kc : Nat → ClassId} {w : ZW} : va_D A (z_w kc w) ↔ (w.map Prod.fst).Nodup ∧ ∀ q ∈ w, A q.1 := by
  constructor
  · intro h
    refine ⟨?_, fun q hq => ?_⟩
    · refine List.pairwise_iff_getElem.mpr (fun i j hi hj hij heq => ?_)
      rw [List.length_map] at hi hj
      rw [List.getElem_map, List.getElem_map] at heq
      have := h.1 i j _ _ (z_w_at (List.getElem?_eq_getElem hi)) (z_w_at (List.getElem?_eq_getElem hj)) heq
      omega
    · obtain ⟨i, hi⟩ := List.mem_iff_getElem?.mp hq
      exact h.2 i _ (z_w_at hi)
  · rintro ⟨h1, h2⟩
    have un : ∀ (i : Nat) (p : Nat × va_E), (z_w kc w)[i]? = some p → ∃ x, w[i]? = some x ∧ x.1 = p.1 := by
      intro i p hi
      unfold z_w at hi
      rw [List.getElem?_map] at hi
      obtain ⟨x, hx, rfl⟩ := Option.map_eq_some_iff.mp hi
      exact ⟨x, hx, rfl⟩
    refine ⟨fun i j p q hi hj hpq => ?_, fun i q hi => ?_⟩
    · obtain ⟨x, hx, ex⟩ := un i p hi
      obtain ⟨y, hy, ey⟩ := un j q hj
      have hil : i < (w.map Prod.fst).length := by rw [List.length_map]; exact (List.getElem?_eq_some_iff.mp hx).1
      refine (List.getElem?_inj hil h1).mp ?_
      rw [List.getElem?_map, List.getElem?_map, hx, hy]
      exact congrArg some (by rw [ex, ey]; exact hpq)
    · obtain ⟨x, hx, ex⟩ := un i q hi
      rw [← ex]
      exact h2 x (List.mem_of_getElem? hx)
/-- which cells a method may change -/
def z_A (w : ZW) (sz : Nat) : Nat → Prop := fun q => (∃ x ∈ w, x.1 = q) ∨ sz ≤ q
theorem z_Rp.moved {D : va_G} {A : Nat → Prop} {w : ZW} {u U : State} {H : Heap} (hvm : u.vm.Alike U.vm) (h : z_Rp D A w u H) : z_Rp D A w U H := by
  obtain ⟨kc, h1, h2, h3⟩ := h
  exact ⟨kc, h1, h2, fun q hq t ht => ⟨arrOfT_moved hvm (h3 q hq t ht).1, (h3 q hq t ht).2.moved hvm⟩⟩
theorem z_Ro.moved {r : Nat → Nat} {rl : Nat → List Int32} {A : Nat → Prop} {u U : State} {H : Heap} (hvm : u.vm.Alike U.vm) (h : z_Ro r rl A u H) : z_Ro r rl A U H := by
  intro j hj
  obtain ⟨cell, c1, c2, c3⟩ := h j hj
  exact ⟨cell, c1, State.isArrayOf_alike hvm c2, c3⟩
theorem z_Ro.kept {r : Nat → Nat} {rl : Nat → List Int32} {A B : Nat → Prop} {U : State} {H H1 : Heap} (h : z_Ro r rl A U H) (hq : ∀ a : Nat, a < H.size → ¬ A a → H1[a]? = H[a]?) (hAB : ∀ a, a < H.size → ¬ A a → ¬ B a) : z_Ro r rl B U H1 := by
  intro j hj
  obtain ⟨cell, c1, c2, c3, c4, c5, c6⟩ := h j hj
  have hlt := (Array.getElem?_eq_some_iff.mp c1).1
  exact ⟨cell, by rw [hq _ hlt c6]; exact c1, c2, c3, c4, c5, hAB _ hlt c6⟩
theorem z_St.warm {r : Nat → Nat} {A : Nat → Prop} {u U : State} {H : Heap} (hW : u.WarmedH U.vm) (h : z_St r A u H) : z_St r A U H := ⟨fun j hj => (h.1 j hj).moved hW.alike, ⟨fun q hq => va_Nw.warmM hW (h.2.1 q hq), fun C hC => (h.2.2 C hC).moved hW.alike⟩⟩
theorem z_St.same {r : Nat → Nat} {A : Nat → Prop} {u U : State} {H : Heap} (hvm : u.vm = U.vm) (h : z_St r A u H) : z_St r A U H := ⟨fun j hj => (h.1 j hj).moved (by rw [← hvm]; exact Vm.Alike.refl u.vm), ⟨fun q hq => va_Nw.same rfl hvm (h.2.1 q hq), fun C hC => (h.2.2 C hC).moved (by rw [← hvm]; exact Vm.Alike.refl u.vm)⟩⟩
theorem z_St.kept {r : Nat → Nat} {A B : Nat → Prop} {U : State} {H H1 : Heap} (h : z_St r A U H) (hq : ∀ a : Nat, a < H.size → ¬ A a → H1[a]? = H[a]?) (hAB : ∀ a, a < H.size → ¬ A a → ¬ B a) : z_St r B U H1 := by
  refine ⟨fun j hj => ?_, h.2⟩
  obtain ⟨cf, kf, fi, f, a, cell, c1, c2, c3, c4, c5, c6, c7, c8⟩ := h.1 j hj
  have hlt := (Array.getElem?_eq_some_iff.mp c5).1
  exact ⟨cf, kf, fi, f, a, cell, c1, c2, c3, c4, by rw [hq _ hlt c8]; exact c5, c6, c7, hAB _ hlt c8⟩
def z_Pc (D : va_G) (r : Nat → Nat) (rl : Nat → List Int32) (As : List Value) (w : ZW) (sz : Nat) : Array Value → State → Prop := va_Pc As (fun U => U.heap.size = sz ∧ z_Rp D (z_A w sz) w U U.heap ∧ va_K D vwCl [] U ∧ z_Ro r rl (z_A w sz) U U.heap ∧ z_St r (z_A w sz) U U.heap)
def z_Qc (D : va_G) (w : ZW) (sz : Nat) (Q : Option Value → ZW → Prop) : Array Value → State → Outcome → State → Prop := fun _ st oc t => (∃ (v : Option Value) (w' : ZW), oc = .returned v ∧ Q v w' ∧ z_Rp D (z_A w sz) w' t t.heap) ∧ va_F (z_A w sz) st t
def z_ws (M : ZM) : List Cond := .code (z_y M) (z_cc M) (z_nL M) (z_ret M) :: z_tb
def z_rm (M : ZM) (k n : Nat) : Room := { frames := z_fr M, cells := k, slots := n, locals := z_lo M }
/-- a method's contract: from As and the world w it returns, with Q of its answer and the world behind; at most k new cells of n places -/
def Ct (l : Launch) (D : va_G) (r : Nat → Nat) (rl : Nat → List Int32) (M : ZM) (k n : Nat) (As : List Value) (w : ZW) (Q : Option Value → ZW → Prop) : Prop :=
  ∀ sz, Met l (z_y M) (z_ws M) (z_rm M k n) (z_Pc D r rl As w sz) (z_Qc D w sz Q) k n (z_A w sz)
def z_args : List Value → List (Option Value)
  | [] => []
  | .long x :: t => some (.long x) :: none :: z_args t
  | .double x :: t => some (.double x) :: none :: z_args t
  | .int x :: t => some (.int x) :: z_args t
  | .ref x :: t => some (.ref x) :: z_args t
  | .float x :: t => some (.float x) :: z_args t
  | .null :: t => some .null :: z_args t
  | .retAddr x :: t => some (.retAddr x) :: z_args t
def z_ent (n : Nat) (As : List Value) : List (Option Value) := z_args As ++ List.replicate (n - (z_args As).length) none
theorem z_args_mem : ∀ (As : List Value) (o i : Nat) (v : Value), (z_args As)[i]? = some (some v) → (i + o, v) ∈ lv_args o As := by
  intro As
  induction As with
  | nil => intro o i v h; simp [z_args] at h
  | cons a t ih =>
    intro o i v h
    cases a <;> simp only [z_args] at h <;> simp only [lv_args, Value.category] <;> (
      cases i with
      | zero => simp at h; subst h; simp
      | succ i =>
        first
        | (rw [List.getElem?_cons_succ] at h
           have := ih (o + 1) i v h
           rw [show i + 1 + o = i + (o + 1) by omega]
           exact List.mem_cons_of_mem _ (by simpa using this))
        | (cases i with
           | zero => simp at h
           | succ i =>
             rw [List.getElem?_cons_succ, List.getElem?_cons_succ] at h
             have := ih (o + 2) i v h
             rw [show i + 1 + 1 + o = i + (o + 2) by omega]
             exact List.mem_cons_of_mem _ (by simpa using this)))
theorem z_args_len : ∀ As : List Value, (z_args As).length = (lg_sl As).length := by
  intro As
  induction As with
  | nil => rfl
  | cons a t ih =>
    have e : lg_sl (a :: t) = (if a.category = 2 then [Slot.val a, .second] else [.val a]) ++ lg_sl t := by simp [lg_sl]
    rw [e]
    cases a <;> simp [z_args, Value.category, ih] <;> omega
theorem z_ent_L {ls : Array Slot} {nL : Nat} {As : List Value} (h : lv_has ls nL (lv_args 0 As)) : z_L ls nL (z_ent nL As) := by
  refine ⟨h.1, h.2.1, fun i v hi => ?_⟩
  unfold z_ent at hi
  rcases Nat.lt_or_ge i (z_args As).length with hlt | hge
  · rw [List.getElem?_append_left hlt] at hi
    exact h.2.2 (i, v) (by simpa using z_args_mem As 0 i v hi)
  · rw [List.getElem?_append_right hge] at hi
    have := List.mem_of_getElem? hi
    rw [List.mem_replicate] at this
    cases this.2
section ZK
variable {l : Launch} {D : va_G} {r : Nat → Nat} {rl : Nat → List Int32} {M : ZM} {k n : Nat} {Q : Option Value → ZW → Prop}
set_option maxHeartbeats 4000000 in
theorem Ct.of {As : List Value} {w : ZW} (hy : plainName (z_y M).cls = true) (hown : z_own M = (z_y M).cls) (hini : z_ini M = true → (z_y M).name = "<init>") (hlen : (z_args As).length ≤ z_nL M)
    (g : Go l D r rl M k n (0, z_ent (z_nL M) As, [], w) Q) : Ct l D r rl M k n As w Q := by
  intro sz
  refine Met.ofW (cc := z_cc M) (maxL := z_nL M) (ret := z_ret M) hy rfl ?_
  intro p e s m args below meth c s₁ B hml hv
  obtain ⟨rfl, hsz, hP, hK, hRo, hSt⟩ := hv
  have hx := B.exec
  have hb := B.bytes
  have hr := B.returns
  have hts := atoms_spec (ws := z_ws M) B.pre
  have hown' : s.vm.findClass (z_own M) = some m.cls := by rw [hown]; exact findClass_of_methodNamed B.named
  have hlocks := B.notSynchronized
  have hnm : meth.name = (z_y M).name := (name_of_methodNamed B.named B.method).1
  subst hsz
  have hl := lv_entry As (n := z_nL M) (by rw [← z_args_len]; exact hlen)
  rw [lg_entry_eq]
  generalize (lg_sl As ++ List.replicate (z_nL M - (lg_sl As).length) Slot.unset).toArray = ls at hl ⊢
  refine g p e (headSpec (z_ws M) (z_rm M k n)).room s m As.toArray below meth c (z_A w s.heap.size) _ s.heap [] 0 0 ls ⟨hx, hb, hr, hml, hlocks, hown', fun w' hw' => hts w' (List.mem_cons_of_mem _ hw'), hK, fun hi => by rw [hnm]; exact hini hi, Nat.le_refl _, Nat.le_refl _, hRo, hSt, fun q h => Or.inr h⟩ ?_ ?_ hP va_S.rf (z_ent_L hl) ?_
  · rw [Nat.zero_add]; exact Nat.le_refl _
  · rw [Nat.zero_add]; exact Nat.le_refl _
  · intro v w' H' locs' pc' ls' hQv hP' hS' hrt
    rw [Nat.zero_add, Nat.zero_add]
    have hq : ∀ t : State, t.heap = H' → s.WarmedH t.vm → z_Qc D w s.heap.size Q As.toArray s (.returned v) t := fun t ht hW =>
      ⟨⟨v, w', rfl, hQv, by rw [ht]; exact hP'.moved hW.alike⟩, hS'.F ht⟩
    cases v with
    | none => exact W.vret hx hb (hr.trans hrt.2) hq hS'.2.2 hrt.1
    | some v =>
      cases v with
      | int x =>
        obtain ⟨h1, ty, h2, h3⟩ := hrt
        exact W.zret hx hb (hr.trans h2) h3 hq hS'.2.2 h1
      | long x => exact W.lret hx hb (hr.trans hrt.2) hq hS'.2.2 hrt.1
      | ref a =>
        obtain ⟨h1, C, h2⟩ := hrt
        exact W.aret hx hb (hr.trans h2) (Or.inl ⟨C, rfl⟩) (Or.inr ⟨a, rfl⟩) hq hS'.2.2 h1
      | _ => exact absurd hrt (by simp [z_rt])
theorem z_good {M' : ZM} (h : Cond.code (z_y M') (z_cc M') (z_nL M') (z_ret M') ∈ z_tb) : GoodIn z_tb (z_ws M') := by
  intro w hw
  have hm : w ∈ z_tb := by
    rcases List.mem_cons.mp hw with h1 | h1
    · rw [h1]; exact h
    · exact h1
  exact ⟨hm, good_of_word (List.mem_filter.mp hm).2⟩
/-- before a call: the callee's cells out of the world -/
theorem z_before {A : Nat → Prop} {s : State} {H : Heap} {locs : List Loc} {w wc wr : ZW} (hR : z_Rp D A w s H) (hS : va_S A s.heap H locs) (hA : ∀ q, s.heap.size ≤ q → A q) (hp : w.Perm (wc ++ wr)) :
    (∀ q, z_A wc H.size q → A q) ∧ z_Rp D (z_A wc H.size) wc s H := by
  obtain ⟨kc, h1, h2, h3⟩ := hR
  have hm : ∀ x ∈ wc, x ∈ w := fun x hx => hp.mem_iff.mpr (List.mem_append_left _ hx)
  obtain ⟨d1, d2⟩ := z_D_iff.mp h2
  have dn : ((wc ++ wr).map Prod.fst).Nodup := (hp.map Prod.fst).nodup_iff.mp d1
  rw [List.map_append] at dn
  refine ⟨fun q hq => ?_, kc, z_P_iff.mpr (fun q hq => z_P_iff.mp h1 q (hm q hq)), z_D_iff.mpr ⟨(List.nodup_append.mp dn).1, fun q hq => Or.inl ⟨q, hq, rfl⟩⟩, fun q hq => h3 q (hm q hq)⟩
  rcases hq with ⟨x, hx, rfl⟩ | hq
  · exact d2 x (hm x hx)
  · exact hA q (Nat.le_trans hS.1 hq)
/-- behind a call: the callee's cells back in the world -/
theorem z_behind {A : Nat → Prop} {s t : State} {H H1 : Heap} {w w2 wc wc' wr : ZW} (hR : z_Rp D A w s H) (hp : w.Perm (wc ++ wr)) (hp2 : w2.Perm (wc' ++ wr)) (hF : ∀ q, z_A wc H.size q → A q)
    (hR1 : z_Rp D (z_A wc H.size) wc' t H1) (hvm : s.vm.Alike t.vm) (hk : ∀ q : Nat, q < H.size → ¬ z_A wc H.size q → H1[q]? = H[q]?) : z_Rp D A w2 s H1 := by
  obtain ⟨kc, h1, h2, h3⟩ := hR
  obtain ⟨k1, g1, g2, g3⟩ := hR1.moved hvm.symm
  obtain ⟨d1, d2⟩ := z_D_iff.mp h2
  obtain ⟨b1, b2⟩ := z_D_iff.mp g2
  have dn : ((wc ++ wr).map Prod.fst).Nodup := (hp.map Prod.fst).nodup_iff.mp d1
  rw [List.map_append] at dn
  obtain ⟨n1, n2, n3⟩ := List.nodup_append.mp dn
  have hmr : ∀ x ∈ wr, x ∈ w := fun x hx => hp.mem_iff.mpr (List.mem_append_right _ hx)
  have old : ∀ x ∈ wr, x.1 < H.size ∧ ¬ z_A wc H.size x.1 := by
    intro x hx
    have hl := (z_P_iff.mp h1 x (hmr x hx)).lt
    refine ⟨hl, fun q => ?_⟩
    rcases q with ⟨y, hy, e⟩ | q
    · exact n3 y.1 (List.mem_map.mpr ⟨y, hy, rfl⟩) x.1 (List.mem_map.mpr ⟨x, hx, rfl⟩) e
    · exact absurd hl (Nat.not_lt.mpr q)
  have off : ∀ x ∈ wr, x.1 ∉ wc'.map Prod.fst := by
    intro x hx hc
    obtain ⟨y, hy, e⟩ := List.mem_map.mp hc
    exact (old x hx).2 (by rw [← e]; exact b2 y hy)
  have mem : ∀ x ∈ w2, x ∈ wc' ∨ x ∈ wr := fun x hx => List.mem_append.mp (hp2.mem_iff.mp hx)
  refine ⟨fun a => if a ∈ wc'.map Prod.fst then k1 a else kc a, z_P_iff.mpr (fun x hx => ?_), z_D_iff.mpr ⟨?_, fun x hx => ?_⟩, fun x hx ty hty => ?_⟩
  · rcases mem x hx with h | h
    · have e : z_E (fun a => if a ∈ wc'.map Prod.fst then k1 a else kc a) x.1 x.2 = z_E k1 x.1 x.2 := by
        have : (if x.1 ∈ wc'.map Prod.fst then k1 x.1 else kc x.1) = k1 x.1 := if_pos (List.mem_map.mpr ⟨x, h, rfl⟩)
        rcases x with ⟨a, e | ⟨t, e⟩ | e | ⟨t, e⟩⟩ <;> simp only [z_E] at this ⊢ <;> first | rfl | rw [this]
      rw [e]
      exact z_P_iff.mp g1 x h
    · have e : z_E (fun a => if a ∈ wc'.map Prod.fst then k1 a else kc a) x.1 x.2 = z_E kc x.1 x.2 := by
        have : (if x.1 ∈ wc'.map Prod.fst then k1 x.1 else kc x.1) = kc x.1 := if_neg (off x h)
        rcases x with ⟨a, e | ⟨t, e⟩ | e | ⟨t, e⟩⟩ <;> simp only [z_E] at this ⊢ <;> first | rfl | rw [this]
      rw [e]
      exact (z_P_iff.mp h1 x (hmr x h)).kept (hk _ (old x h).1 (old x h).2)
  · refine (hp2.map Prod.fst).nodup_iff.mpr ?_
    rw [List.map_append]
    refine List.nodup_append.mpr ⟨b1, n2, fun a ha b hb e => ?_⟩
    obtain ⟨x, hx, rfl⟩ := List.mem_map.mp hb
    exact off x hx (by rw [← e]; exact ha)
  · rcases mem x hx with h | h
    · exact hF _ (b2 x h)
    · exact d2 x (hmr x h)
  · rcases mem x hx with h | h
    · have : (if x.1 ∈ wc'.map Prod.fst then k1 x.1 else kc x.1) = k1 x.1 := if_pos (List.mem_map.mpr ⟨x, h, rfl⟩)
      show ArrOfT s (if x.1 ∈ wc'.map Prod.fst then k1 x.1 else kc x.1) ty ∧ va_RA s (if x.1 ∈ wc'.map Prod.fst then k1 x.1 else kc x.1) ty
      rw [this]
      exact g3 x h ty hty
    · have : (if x.1 ∈ wc'.map Prod.fst then k1 x.1 else kc x.1) = kc x.1 := if_neg (off x h)
      show ArrOfT s (if x.1 ∈ wc'.map Prod.fst then k1 x.1 else kc x.1) ty ∧ va_RA s (if x.1 ∈ wc'.map Prod.fst then k1 x.1 else kc x.1) ty
      rw [this]
      exact h3 x (hmr x h) ty hty
end ZK
