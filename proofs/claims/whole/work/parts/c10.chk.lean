/-! the blocks, checked by the kernel (written by chkgen.py) -/
theorem ck_0_1_1 : (bif blk 0 1 1 then (bif blk 0 1 1 then cmpB 0 1 1 else false) else false) = true := by decide +kernel
theorem ck_0_1_2 : (bif blk 0 1 2 then (bif blk 0 2 1 then cmpB 0 1 2 else false) else false) = true := by decide +kernel
theorem ck_0_1_3 : (bif blk 0 1 3 then (bif blk 0 3 1 then cmpB 0 1 3 else false) else false) = true := by decide +kernel
theorem ck_0_1_4 : (bif blk 0 1 4 then (bif blk 0 4 1 then cmpB 0 1 4 else false) else false) = true := by decide +kernel
theorem ck_0_1_5 : (bif blk 0 1 5 then (bif blk 0 5 1 then cmpB 0 1 5 else false) else false) = true := by decide +kernel
theorem ck_0_2_2 : (bif blk 0 2 2 then (bif blk 0 2 2 then cmpB 0 2 2 else false) else false) = true := by decide +kernel
theorem ck_0_2_3 : (bif blk 0 2 3 then (bif blk 0 3 2 then cmpB 0 2 3 else false) else false) = true := by decide +kernel
theorem ck_0_2_4 : (bif blk 0 2 4 then (bif blk 0 4 2 then cmpB 0 2 4 else false) else false) = true := by decide +kernel
theorem ck_0_2_5 : (bif blk 0 2 5 then (bif blk 0 5 2 then cmpB 0 2 5 else false) else false) = true := by decide +kernel
theorem ck_0_3_3 : (bif blk 0 3 3 then (bif blk 0 3 3 then cmpB 0 3 3 else false) else false) = true := by decide +kernel
theorem ck_0_3_4 : (bif blk 0 3 4 then (bif blk 0 4 3 then cmpB 0 3 4 else false) else false) = true := by decide +kernel
theorem ck_0_3_5 : (bif blk 0 3 5 then (bif blk 0 5 3 then cmpB 0 3 5 else false) else false) = true := by decide +kernel
theorem ck_0_4_4 : (bif blk 0 4 4 then (bif blk 0 4 4 then cmpB 0 4 4 else false) else false) = true := by decide +kernel
theorem ck_0_4_5 : (bif blk 0 4 5 then (bif blk 0 5 4 then cmpB 0 4 5 else false) else false) = true := by decide +kernel
theorem ck_1_1_1 : (bif blk 1 1 1 then (bif blk 1 1 1 then cmpB 1 1 1 else false) else false) = true := by decide +kernel
theorem ck_1_1_2 : (bif blk 1 1 2 then (bif blk 1 2 1 then cmpB 1 1 2 else false) else false) = true := by decide +kernel
theorem ck_1_1_3 : (bif blk 1 1 3 then (bif blk 1 3 1 then cmpB 1 1 3 else false) else false) = true := by decide +kernel
theorem ck_1_1_4 : (bif blk 1 1 4 then (bif blk 1 4 1 then cmpB 1 1 4 else false) else false) = true := by decide +kernel
theorem ck_1_1_5 : (bif blk 1 1 5 then (bif blk 1 5 1 then cmpB 1 1 5 else false) else false) = true := by decide +kernel
theorem ck_1_2_2 : (bif blk 1 2 2 then (bif blk 1 2 2 then cmpB 1 2 2 else false) else false) = true := by decide +kernel
theorem ck_1_2_3 : (bif blk 1 2 3 then (bif blk 1 3 2 then cmpB 1 2 3 else false) else false) = true := by decide +kernel
theorem ck_1_2_4 : (bif blk 1 2 4 then (bif blk 1 4 2 then cmpB 1 2 4 else false) else false) = true := by decide +kernel
theorem ck_1_2_5 : (bif blk 1 2 5 then (bif blk 1 5 2 then cmpB 1 2 5 else false) else false) = true := by decide +kernel
theorem ck_1_3_3 : (bif blk 1 3 3 then (bif blk 1 3 3 then cmpB 1 3 3 else false) else false) = true := by decide +kernel
theorem ck_2_1_1 : (bif blk 2 1 1 then (bif blk 2 1 1 then cmpB 2 1 1 else false) else false) = true := by decide +kernel
theorem ck_2_1_2 : (bif blk 2 1 2 then (bif blk 2 2 1 then cmpB 2 1 2 else false) else false) = true := by decide +kernel
theorem ck_2_1_3 : (bif blk 2 1 3 then (bif blk 2 3 1 then cmpB 2 1 3 else false) else false) = true := by decide +kernel
theorem ck_2_1_4 : (bif blk 2 1 4 then (bif blk 2 4 1 then cmpB 2 1 4 else false) else false) = true := by decide +kernel
theorem ck_2_1_5 : (bif blk 2 1 5 then (bif blk 2 5 1 then cmpB 2 1 5 else false) else false) = true := by decide +kernel
theorem ck_2_2_2 : (bif blk 2 2 2 then (bif blk 2 2 2 then cmpB 2 2 2 else false) else false) = true := by decide +kernel
theorem ck_2_2_3 : (bif blk 2 2 3 then (bif blk 2 3 2 then cmpB 2 2 3 else false) else false) = true := by decide +kernel
theorem ck_2_2_4 : (bif blk 2 2 4 then (bif blk 2 4 2 then cmpB 2 2 4 else false) else false) = true := by decide +kernel
theorem ck_2_2_5 : (bif blk 2 2 5 then (bif blk 2 5 2 then cmpB 2 2 5 else false) else false) = true := by decide +kernel
theorem ck_2_3_3 : (bif blk 2 3 3 then (bif blk 2 3 3 then cmpB 2 3 3 else false) else false) = true := by decide +kernel
theorem ck_2_3_4 : (bif blk 2 3 4 then (bif blk 2 4 3 then cmpB 2 3 4 else false) else false) = true := by decide +kernel
theorem ck_2_3_5 : (bif blk 2 3 5 then (bif blk 2 5 3 then cmpB 2 3 5 else false) else false) = true := by decide +kernel
theorem ck_2_4_4 : (bif blk 2 4 4 then (bif blk 2 4 4 then cmpB 2 4 4 else false) else false) = true := by decide +kernel
theorem ck_2_4_5 : (bif blk 2 4 5 then (bif blk 2 5 4 then cmpB 2 4 5 else false) else false) = true := by decide +kernel
theorem ck_all (k w h : Nat) (hk : k < 3) (hw : 1 ≤ w) (hwh : w ≤ h) (hh : h ≤ 5) (hn : w * h * kiN k ≤ 20) : (bif blk k w h then (bif blk k h w then cmpB k w h else false) else false) = true := by
  have h1 : w = 1 ∨ w = 2 ∨ w = 3 ∨ w = 4 ∨ w = 5 := by omega
  have h2 : h = 1 ∨ h = 2 ∨ h = 3 ∨ h = 4 ∨ h = 5 := by omega
  rcases (show k = 0 ∨ k = 1 ∨ k = 2 by omega) with rfl | rfl | rfl
  · rcases h1 with rfl | rfl | rfl | rfl | rfl
    · rcases h2 with rfl | rfl | rfl | rfl | rfl
      · exact ck_0_1_1
      · exact ck_0_1_2
      · exact ck_0_1_3
      · exact ck_0_1_4
      · exact ck_0_1_5
    · rcases h2 with rfl | rfl | rfl | rfl | rfl
      · exact absurd hwh (by decide)
      · exact ck_0_2_2
      · exact ck_0_2_3
      · exact ck_0_2_4
      · exact ck_0_2_5
    · rcases h2 with rfl | rfl | rfl | rfl | rfl
      · exact absurd hwh (by decide)
      · exact absurd hwh (by decide)
      · exact ck_0_3_3
      · exact ck_0_3_4
      · exact ck_0_3_5
    · rcases h2 with rfl | rfl | rfl | rfl | rfl
      · exact absurd hwh (by decide)
      · exact absurd hwh (by decide)
      · exact absurd hwh (by decide)
      · exact ck_0_4_4
      · exact ck_0_4_5
    · rcases h2 with rfl | rfl | rfl | rfl | rfl
      · exact absurd hwh (by decide)
      · exact absurd hwh (by decide)
      · exact absurd hwh (by decide)
      · exact absurd hwh (by decide)
      · exact absurd hn (by decide)
  · rcases h1 with rfl | rfl | rfl | rfl | rfl
    · rcases h2 with rfl | rfl | rfl | rfl | rfl
      · exact ck_1_1_1
      · exact ck_1_1_2
      · exact ck_1_1_3
      · exact ck_1_1_4
      · exact ck_1_1_5
    · rcases h2 with rfl | rfl | rfl | rfl | rfl
      · exact absurd hwh (by decide)
      · exact ck_1_2_2
      · exact ck_1_2_3
      · exact ck_1_2_4
      · exact ck_1_2_5
    · rcases h2 with rfl | rfl | rfl | rfl | rfl
      · exact absurd hwh (by decide)
      · exact absurd hwh (by decide)
      · exact ck_1_3_3
      · exact absurd hn (by decide)
      · exact absurd hn (by decide)
    · rcases h2 with rfl | rfl | rfl | rfl | rfl
      · exact absurd hwh (by decide)
      · exact absurd hwh (by decide)
      · exact absurd hwh (by decide)
      · exact absurd hn (by decide)
      · exact absurd hn (by decide)
    · rcases h2 with rfl | rfl | rfl | rfl | rfl
      · exact absurd hwh (by decide)
      · exact absurd hwh (by decide)
      · exact absurd hwh (by decide)
      · exact absurd hwh (by decide)
      · exact absurd hn (by decide)
  · rcases h1 with rfl | rfl | rfl | rfl | rfl
    · rcases h2 with rfl | rfl | rfl | rfl | rfl
      · exact ck_2_1_1
      · exact ck_2_1_2
      · exact ck_2_1_3
      · exact ck_2_1_4
      · exact ck_2_1_5
    · rcases h2 with rfl | rfl | rfl | rfl | rfl
      · exact absurd hwh (by decide)
      · exact ck_2_2_2
      · exact ck_2_2_3
      · exact ck_2_2_4
      · exact ck_2_2_5
    · rcases h2 with rfl | rfl | rfl | rfl | rfl
      · exact absurd hwh (by decide)
      · exact absurd hwh (by decide)
      · exact ck_2_3_3
      · exact ck_2_3_4
      · exact ck_2_3_5
    · rcases h2 with rfl | rfl | rfl | rfl | rfl
      · exact absurd hwh (by decide)
      · exact absurd hwh (by decide)
      · exact absurd hwh (by decide)
      · exact ck_2_4_4
      · exact ck_2_4_5
    · rcases h2 with rfl | rfl | rfl | rfl | rfl
      · exact absurd hwh (by decide)
      · exact absurd hwh (by decide)
      · exact absurd hwh (by decide)
      · exact absurd hwh (by decide)
      · exact absurd hn (by decide)
