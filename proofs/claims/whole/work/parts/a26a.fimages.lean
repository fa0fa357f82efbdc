def f_X4_goOn (N : Nat) (i2 : Int32) (g_k : Nat) (i_codes : List Int32) (i_size : Int32) : Option ((List Int32)) := (f_X2_turn N (nI g_k) i_codes i_size).bind fun u1 => if i2 = ((ztur g_k) - 1) then (f_X2_mirror N u1 i_size).bind fun u3 => (f_X2_normalise N u3 i_size).bind fun u4 => some u4 else (f_X2_normalise N u1 i_size).bind fun u5 => some u5
def f_X4_isCanonical_L10 (N : Nat) (c_codes : List Int32) (c_size : Int32) (g_k : Nat) (i_size : Int32) : Nat → Int32 → (List Int32) → Option (((List Int32)) ⊕ (Int32 × (List Int32) × Int32))
  | 0, _, _ => none
  | fu + 1, v3, i_codes => if v3 < (2 * (ztur g_k)) then (f_X2_compareWith N i_codes i_size c_codes c_size).bind fun u3 => if u3 < 0 then some (.inr (0, i_codes, i_size)) else (f_X4_goOn N v3 g_k i_codes i_size).bind fun u5 => f_X4_isCanonical_L10 N c_codes c_size g_k i_size fu (v3 + 1) u5 else some (.inl i_codes)
def f_X4_isCanonical (N : Nat) (c_codes : List Int32) (c_size : Int32) (g_k : Nat) (i_codes : List Int32) : Option (Int32 × (List Int32) × Int32) := (f_X2_copy N i_codes c_codes c_size).bind fun u1 => (f_X4_isCanonical_L10 N c_codes c_size g_k u1.2 N 0 u1.1).bind fun o7 => Sum.elim (fun e6 => some (1, e6, u1.2)) (fun u8 => some u8) o7
def f_X4_survey_L32 (N : Nat) (m_number : Int32) (g_k : Nat) (i_size : Int32) : Nat → Int32 → (List Int32) → (Nat → List Int32 × Int32) → Option ((List Int32) × (Nat → List Int32 × Int32))
  | 0, _, _, _ => none
  | fu + 1, v3, i_codes, mf_v => if v3 < m_number then (z_ix v3 12).bind fun j5 => if j5 < 12 then (f_X2_copy N ((mf_v j5).1) i_codes i_size).bind fun u8 => (f_X4_goOn N v3 g_k i_codes i_size).bind fun u9 => f_X4_survey_L32 N m_number g_k i_size fu (v3 + 1) u9 (va_up mf_v j5 (u8.1, u8.2)) else none else some ((i_codes, mf_v))
def f_X4_survey (N : Nat) (c_codes : List Int32) (c_size : Int32) (g_k : Nat) (i_codes : List Int32) (mf_v : Nat → List Int32 × Int32) : Option (Int32 × (List Int32) × Int32 × (Nat → List Int32 × Int32)) := (f_X2_copy N i_codes c_codes c_size).bind fun u2 => (f_X2_normalise N u2.1 u2.2).bind fun u3 => (f_X4_survey_L32 N (if 12 < (2 * (ztur g_k)) then 12 else 2 * (ztur g_k)) g_k u2.2 N 0 u3 mf_v).bind fun e10 => some (if 12 < (2 * (ztur g_k)) then 12 else 2 * (ztur g_k), e10.1, u2.2, e10.2)
def f_X4_symmetries_L4 (N : Nat) (m_number : Int32) (mf_v : Nat → List Int32 × Int32) : Nat → Int32 → Int32 → Option (Int32)
  | 0, _, _ => none
  | fu + 1, v1, v2 => if v2 < m_number then (z_ix v2 12).bind fun j3 => if 0 = j3 then if 0 < 12 then (f_X2_compareWith_s N ((mf_v 0).1) ((mf_v 0).2)).bind fun u7 => if u7 = 0 then f_X4_symmetries_L4 N m_number mf_v fu (v1 + 1) (v2 + 1) else f_X4_symmetries_L4 N m_number mf_v fu v1 (v2 + 1) else none else if j3 < 12 then if 0 < 12 then (f_X2_compareWith N ((mf_v j3).1) ((mf_v j3).2) ((mf_v 0).1) ((mf_v 0).2)).bind fun u13 => if u13 = 0 then f_X4_symmetries_L4 N m_number mf_v fu (v1 + 1) (v2 + 1) else f_X4_symmetries_L4 N m_number mf_v fu v1 (v2 + 1) else none else none else some (v1)
def f_X4_symmetries (N : Nat) (m_number : Int32) (mf_v : Nat → List Int32 × Int32) : Option (Int32) := (f_X4_symmetries_L4 N m_number mf_v N 0 0).bind fun e15 => some e15
def f_X4_isThereBefore_L2 (N : Nat) (v1 : Int32) (mf_v : Nat → List Int32 × Int32) : Nat → Int32 → Option ((Unit) ⊕ (Int32))
  | 0, _ => none
  | fu + 1, v2 => if v2 < v1 then (z_ix v2 12).bind fun j4 => (z_ix v1 12).bind fun j5 => if j4 < 12 then if j5 < 12 then if j5 = j4 then none else (f_X2_compareWith N ((mf_v j4).1) ((mf_v j4).2) ((mf_v j5).1) ((mf_v j5).2)).bind fun u11 => if u11 = 0 then some (.inr 1) else f_X4_isThereBefore_L2 N v1 mf_v fu (v2 + 1) else none else none else some (.inl ())
def f_X4_isThereBefore (N : Nat) (i1 : Int32) (mf_v : Nat → List Int32 × Int32) : Option (Int32) := (f_X4_isThereBefore_L2 N i1 mf_v N 0).bind fun o14 => Sum.elim (fun e13 => some 0) (fun u15 => some u15) o14
def f_X4_different_L4 (N : Nat) (m_number : Int32) (mf_v : Nat → List Int32 × Int32) : Nat → Int32 → Int32 → Option (Int32)
  | 0, _, _ => none
  | fu + 1, v1, v2 => if v2 < m_number then (f_X4_isThereBefore N v2 mf_v).bind fun u2 => if u2 = 0 then f_X4_different_L4 N m_number mf_v fu (v1 + 1) (v2 + 1) else f_X4_different_L4 N m_number mf_v fu v1 (v2 + 1) else some (v1)
def f_X4_different (N : Nat) (m_number : Int32) (mf_v : Nat → List Int32 × Int32) : Option (Int32) := (f_X4_different_L4 N m_number mf_v N 0 0).bind fun e4 => some e4
def f_X4_allHaveKeys_L2 (N : Nat) (m_number : Int32) (mf_v : Nat → List Int32 × Int32) : Nat → Int32 → Option ((Unit) ⊕ (Int32))
  | 0, _ => none
  | fu + 1, v1 => if v1 < m_number then (z_ix v1 12).bind fun j3 => if j3 < 12 then (f_X2_allHaveKeys N ((mf_v j3).1) ((mf_v j3).2)).bind fun u6 => if u6 = 0 then some (.inr 0) else f_X4_allHaveKeys_L2 N m_number mf_v fu (v1 + 1) else none else some (.inl ())
def f_X4_allHaveKeys (N : Nat) (m_number : Int32) (mf_v : Nat → List Int32 × Int32) : Option (Int32) := (f_X4_allHaveKeys_L2 N m_number mf_v N 0).bind fun o9 => Sum.elim (fun e8 => some 1) (fun u10 => some u10) o9
def f_X4_smallest_L4 (N : Nat) (m_number : Int32) (mf_v : Nat → List Int32 × Int32) : Nat → Int32 → Int32 → Option (Int32)
  | 0, _, _ => none
  | fu + 1, v1, v2 => if v2 < m_number then (z_ix v2 12).bind fun j4 => (z_ix v1 12).bind fun j5 => if j4 < 12 then if j5 < 12 then if j5 = j4 then none else (f_X2_compareWith N ((mf_v j4).1) ((mf_v j4).2) ((mf_v j5).1) ((mf_v j5).2)).bind fun u11 => if u11 < 0 then f_X4_smallest_L4 N m_number mf_v fu v2 (v2 + 1) else f_X4_smallest_L4 N m_number mf_v fu v1 (v2 + 1) else none else none else some (v1)
def f_X4_smallest (N : Nat) (m_number : Int32) (mf_v : Nat → List Int32 × Int32) : Option (Nat) := (f_X4_smallest_L4 N m_number mf_v N 0 1).bind fun e13 => (z_ix e13 12).bind fun j14 => some j14
