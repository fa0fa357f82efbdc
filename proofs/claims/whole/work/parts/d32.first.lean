/-! the first values -/
abbrev xv0 : XV := (0, (List.replicate 12 0), 0, 0, 0, (List.replicate 80 0), 0, 0, 0, 0, 0, 0, 0, 0, (List.replicate 12 0), 0, 0, (List.replicate 12 0), 0, (List.replicate 384 0), (List.replicate 384 0), 0, 0, 0, 0, 0, 0, 0, (List.replicate 48 0), 0, (List.replicate 48 0), 0, (List.replicate 12 0), 0, (List.replicate 75 0), (List.replicate 20 0), (List.replicate 20 0), 0, 1, 0, 0, (List.replicate 1575 0), (fun _ => (0, (List.replicate 12 0), 0)), (fun _ => ((List.replicate 12 0), 0)), (fun _ => ((List.replicate 10 0), 0, (List.replicate 10 0), 0, (List.replicate 333 0), (List.replicate 117 0), (List.replicate 9 0), 0, (List.replicate 1100 0), (List.replicate 180 0), (List.replicate 12 0), 0)), (fun _ => ((List.replicate 32 0), 0, (List.replicate 672 0))))
abbrev mv0 : MV := ((List.replicate 14 0), (List.replicate 84 0), 0, (List.replicate 12 0), (List.replicate 80 0), 0, 0, (List.replicate 16 0), (List.replicate 16 0), (List.replicate 16 0), (List.replicate 16 0), (List.replicate 16 0), (List.replicate 16 0), 0, (List.replicate 144 0), (-1), (List.replicate 1200 0), (List.replicate 1200 0), (List.replicate 11 0), (List.replicate 64 0), (List.replicate 392 0), (List.replicate 392 0), (List.replicate 20 0), (List.replicate 24 0), (List.replicate 24 0), 0, 0, 0, 0, 0, 0, 0)
theorem rep_get {α : Type} {n i : Nat} {x : α} (h : i < n) : (List.replicate n x)[i]? = some x := by
  rw [List.getElem?_replicate, if_pos h]
theorem XS0 {sg : Nat} (h : sg + 21 ≤ 1575) : XS sg [] (List.replicate 1575 0) := by
  refine ⟨List.length_replicate, h, ?_, fun z h1 h2 => ?_⟩
  · rw [rep_get (by omega)]; rfl
  · rw [rep_get (by omega)]; rfl
theorem cat0 : CatI (fun _ => ((List.replicate 10 0), 0, (List.replicate 10 0), 0, (List.replicate 333 0), (List.replicate 117 0), (List.replicate 9 0), 0, (List.replicate 1100 0), (List.replicate 180 0), (List.replicate 12 0), 0)) := by
  intro j hj
  have hg : 0 ≤ gre j := Nat.zero_le _
  refine ⟨0, 0, 0, ⟨hg, List.length_replicate, List.length_replicate, fun i h1 h2 => ?_, fun i h1 h2 => by omega⟩, rfl, ⟨hg, List.length_replicate, List.length_replicate, List.length_replicate, fun i h1 h2 => ?_, fun i h1 h2 => by omega, fun i s h1 h2 => by omega, fun i s h1 h2 h3 => ?_⟩, rfl, ⟨hg, List.length_replicate, List.length_replicate, fun i s h1 h2 => by omega, fun i h1 h2 => by omega, fun i s h1 h2 h3 => ?_, fun i h1 h2 => ?_⟩, rfl, List.length_replicate⟩
  · have e : i = 1 := by omega
    subst e
    show (List.replicate 10 (0 : Int32))[1]? = _
    rw [rep_get (by decide)]; rfl
  · have e : i = 1 := by omega
    subst e
    show (List.replicate 10 (0 : Int32))[1]? = _
    rw [rep_get (by decide)]; rfl
  · show (List.replicate 117 (0 : Int32))[i * 13 + s]? = _
    rw [rep_get (by omega)]; rfl
  · show (List.replicate 333 (0 : Int32))[i * 37 + s]? = _
    rw [rep_get (by omega)]; rfl
  · show (List.replicate 9 (0 : Int32))[i]? = _
    rw [rep_get (by omega)]; rfl
theorem RS0 : RS 0 (List.replicate 12 0) 0 0 0 (fun _ => (0, (List.replicate 12 0), 0)) (List.replicate 14 0) (List.replicate 84 0) 0 := by
  refine ⟨[], [], ⟨by decide, List.nodup_nil, by simp, by simp⟩, ⟨List.replicate 12 0, rfl, List.length_replicate, rfl⟩, ⟨⟨by decide, List.length_replicate, ?_⟩, by simp, ?_, by simp⟩, ⟨0, by decide, rfl, rfl, by simp, fun j => List.length_replicate, by simp⟩, ⟨List.length_replicate, by simp, rfl, by simp⟩, ?_⟩
  · rw [rep_get (by decide)]; rfl
  · rw [rep_get (by decide)]; rfl
  · intro x hx; cases hx
theorem RT0 : RT (List.replicate 80 0) 0 (List.replicate 80 0) 0 := ⟨[], by simp, List.length_replicate, List.length_replicate, rfl, rfl, by simp⟩
theorem BI0 : BI (List.replicate 75 0) (List.replicate 20 0) (List.replicate 20 0) 0 1 (List.replicate 1575 0) (fun _ => ((List.replicate 32 0), 0, (List.replicate 672 0))) := by
  refine ⟨List.length_replicate, List.length_replicate, List.length_replicate, ⟨by decide, by decide, by decide⟩, fun j hj => ⟨List.length_replicate, List.length_replicate⟩, fun k w h hk h1 h2 h3 hn => ?_⟩
  have hb := bi_lt (k := k) (w := w) (h := h) hk h1 (by omega) (by omega) h3
  exact Or.inl ⟨rep_get hb, XS0 (by omega)⟩
theorem rel0 : Rel xv0 mv0 := by
  have l : ∀ n : Nat, (List.replicate n (0 : Int32)).length = n := fun n => List.length_replicate
  have l8 : ∀ n : Nat, (List.replicate n (0 : Int64)).length = n := fun n => List.length_replicate
  exact ⟨RS0, RT0, l 12, ⟨l 12, fun _ => l 12⟩, ⟨l 384, l 384⟩, ⟨l8 48, l 48, l 12⟩, BI0, cat0, l 12, ⟨⟨l 16, l 16, l 16⟩, ⟨l 16, l 16, l 16⟩, l 144⟩, ⟨l8 1200, l 1200, l 11, Or.inl rfl⟩, l8 64, ⟨l 392, l 392⟩, ⟨l 20, l 24, l 24⟩⟩
