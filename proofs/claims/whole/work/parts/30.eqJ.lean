theorem at_J6_numberOfTrailingZeros_0f7a4 : am_at mJ6_numberOfTrailingZeros_0f7a4 = (cd_J6_numberOfTrailingZeros_0f7a4, [], 2) := rfl
set_option maxRecDepth 60000 in
theorem q_J6_numberOfTrailingZeros_0f7a4_0 (sc : Nat × (Nat → Int)) (d : Nat) (i0 : Int) (h : am_H) : Cl sc (d + 1) mJ6_numberOfTrailingZeros_0f7a4 [Vi i0] h =
  if 0 < (bAnd (bXor i0 (-1)) (w32 (i0 - 1))) then
    if 65536 < (bAnd (bXor i0 (-1)) (w32 (i0 - 1))) then
      Ru sc (d + 1) mJ6_numberOfTrailingZeros_0f7a4 25 [Vi (bUshr (bAnd (bXor i0 (-1)) (w32 (i0 - 1))) 16), Vi (w32 (1 + 16))] [] h
    else
      Ru sc (d + 1) mJ6_numberOfTrailingZeros_0f7a4 25 [Vi (bAnd (bXor i0 (-1)) (w32 (i0 - 1))), Vi 1] [] h
  else
    some (.inl (Vi (bAnd (bAnd (bXor i0 (-1)) (w32 (i0 - 1))) 32)), h) := (Cl_at at_J6_numberOfTrailingZeros_0f7a4 rfl _).trans rfl
set_option maxRecDepth 60000 in
theorem q_J6_numberOfTrailingZeros_0f7a4_25 (sc : Nat × (Nat → Int)) (d : Nat) (i0 : Int) (i1 : Int) (h : am_H) : Ru sc (d + 1) mJ6_numberOfTrailingZeros_0f7a4 25 [Vi i0, Vi i1] [] h =
  if 256 < i0 then
    if 16 < (bUshr i0 8) then
      Ru sc (d + 1) mJ6_numberOfTrailingZeros_0f7a4 42 [Vi (bUshr (bUshr i0 8) 4), Vi (w32 ((w32 (i1 + 8)) + 4))] [] h
    else
      Ru sc (d + 1) mJ6_numberOfTrailingZeros_0f7a4 42 [Vi (bUshr i0 8), Vi (w32 (i1 + 8))] [] h
  else
    if 16 < i0 then
      Ru sc (d + 1) mJ6_numberOfTrailingZeros_0f7a4 42 [Vi (bUshr i0 4), Vi (w32 (i1 + 4))] [] h
    else
      Ru sc (d + 1) mJ6_numberOfTrailingZeros_0f7a4 42 [Vi i0, Vi i1] [] h := (Ru_at at_J6_numberOfTrailingZeros_0f7a4 25 _ _ _).trans rfl
set_option maxRecDepth 60000 in
theorem q_J6_numberOfTrailingZeros_0f7a4_42 (sc : Nat × (Nat → Int)) (d : Nat) (i0 : Int) (i1 : Int) (h : am_H) : Ru sc (d + 1) mJ6_numberOfTrailingZeros_0f7a4 42 [Vi i0, Vi i1] [] h =
  if 4 < i0 then
    some (.inl (Vi (w32 ((w32 (i1 + 2)) + (bUshr (bUshr i0 2) 1)))), h)
  else
    some (.inl (Vi (w32 (i1 + (bUshr i0 1)))), h) := (Ru_at at_J6_numberOfTrailingZeros_0f7a4 42 _ _ _).trans rfl
theorem at_J9_abs_0f7a4 : am_at mJ9_abs_0f7a4 = (cd_J9_abs_0f7a4, [], 1) := rfl
set_option maxRecDepth 60000 in
theorem q_J9_abs_0f7a4_0 (sc : Nat × (Nat → Int)) (d : Nat) (i0 : Int) (h : am_H) : Cl sc (d + 1) mJ9_abs_0f7a4 [Vi i0] h =
  if i0 < 0 then
    some (.inl (Vi (w32 (-i0))), h)
  else
    some (.inl (Vi i0), h) := (Cl_at at_J9_abs_0f7a4 rfl _).trans rfl
theorem at_J9_max_7cf53 : am_at mJ9_max_7cf53 = (cd_J9_max_7cf53, [], 2) := rfl
set_option maxRecDepth 60000 in
theorem q_J9_max_7cf53_0 (sc : Nat × (Nat → Int)) (d : Nat) (i0 : Int) (i1 : Int) (h : am_H) : Cl sc (d + 1) mJ9_max_7cf53 [Vi i0, Vi i1] h =
  if i0 < i1 then
    some (.inl (Vi i1), h)
  else
    some (.inl (Vi i0), h) := (Cl_at at_J9_max_7cf53 rfl _).trans rfl
theorem at_J9_min_7cf53 : am_at mJ9_min_7cf53 = (cd_J9_min_7cf53, [], 2) := rfl
set_option maxRecDepth 60000 in
theorem q_J9_min_7cf53_0 (sc : Nat × (Nat → Int)) (d : Nat) (i0 : Int) (i1 : Int) (h : am_H) : Cl sc (d + 1) mJ9_min_7cf53 [Vi i0, Vi i1] h =
  if i1 < i0 then
    some (.inl (Vi i1), h)
  else
    some (.inl (Vi i0), h) := (Cl_at at_J9_min_7cf53 rfl _).trans rfl
theorem at_J0_length_8abf5 : am_at mJ0_length_8abf5 = (cd_J0_length_8abf5, [], 1) := rfl
set_option maxRecDepth 60000 in
theorem q_J0_length_8abf5_0 (sc : Nat × (Nat → Int)) (d : Nat) (s0 : Nat) (h : am_H) : Cl sc (d + 1) mJ0_length_8abf5 [Vx (s0 + 1)] h =
  if 2 ≤ (s0 + 1) ∧ (s0 + 1) < 25 then
  if 200 ≤ (s0 + 1 + 198) ∧ (s0 + 1 + 198) < 223 then
  if 2 ≤ (s0 + 1) ∧ (s0 + 1) < 25 then
  clI (Cl sc d mJ0_coder_7d493 [Vx (s0 + 1)] h) am_xt fun v2 h1 =>
  some (.inl (Vi (bShr ((am_lit ((s0 + 1 + 198) - 200)).length) v2)), h1)
  else none
  else none
  else none := (Cl_at at_J0_length_8abf5 rfl _).trans rfl
theorem at_J0_charAt_5068e : am_at mJ0_charAt_5068e = (cd_J0_charAt_5068e, [], 2) := rfl
set_option maxRecDepth 60000 in
theorem q_J0_charAt_5068e_0 (sc : Nat × (Nat → Int)) (d : Nat) (s0 : Nat) (i1 : Int) (h : am_H) : Cl sc (d + 1) mJ0_charAt_5068e [Vx (s0 + 1), Vi i1] h =
  if 2 ≤ (s0 + 1) ∧ (s0 + 1) < 25 then
  clI (Cl sc d mJ0_isLatin1_aae02 [Vx (s0 + 1)] h) am_xt fun v2 h1 =>
  if v2 = 0 then
    if 2 ≤ (s0 + 1) ∧ (s0 + 1) < 25 then
    none
    else none
  else
    if 2 ≤ (s0 + 1) ∧ (s0 + 1) < 25 then
    clI (Cl sc d mJ1_charAt_3b067 [Vx (s0 + 1 + 198), Vi i1] h1) am_xt fun v4 h3 =>
    am_ret 2 v4 h3
    else none
  else none := (Cl_at at_J0_charAt_5068e rfl _).trans rfl
theorem at_J0_coder_7d493 : am_at mJ0_coder_7d493 = (cd_J0_coder_7d493, [], 1) := rfl
set_option maxRecDepth 60000 in
theorem q_J0_coder_7d493_0 (sc : Nat × (Nat → Int)) (d : Nat) (s0 : Nat) (h : am_H) : Cl sc (d + 1) mJ0_coder_7d493 [Vx (s0 + 1)] h =
  if 1 = 0 then
    am_ret 3 1 h
  else
    if 2 ≤ (s0 + 1) ∧ (s0 + 1) < 25 then
    am_ret 3 0 h
    else none := (Cl_at at_J0_coder_7d493 rfl _).trans rfl
theorem at_J0_isLatin1_aae02 : am_at mJ0_isLatin1_aae02 = (cd_J0_isLatin1_aae02, [], 1) := rfl
set_option maxRecDepth 60000 in
theorem q_J0_isLatin1_aae02_0 (sc : Nat × (Nat → Int)) (d : Nat) (s0 : Nat) (h : am_H) : Cl sc (d + 1) mJ0_isLatin1_aae02 [Vx (s0 + 1)] h =
  if 1 = 0 then
    some (.inl (Vi 0), h)
  else
    if 2 ≤ (s0 + 1) ∧ (s0 + 1) < 25 then
    if 0 = 0 then
      some (.inl (Vi 1), h)
    else
      some (.inl (Vi 0), h)
    else none := (Cl_at at_J0_isLatin1_aae02 rfl _).trans rfl
theorem at_J0_checkIndex_df160 : am_at mJ0_checkIndex_df160 = (cd_J0_checkIndex_df160, [], 2) := rfl
set_option maxRecDepth 60000 in
theorem q_J0_checkIndex_df160_0 (sc : Nat × (Nat → Int)) (d : Nat) (i0 : Int) (i1 : Int) (h : am_H) : Cl sc (d + 1) mJ0_checkIndex_df160 [Vi i0, Vi i1] h =
  clI (Cl sc d mJ3_checkIndex_8e157 [Vi i0, Vi i1, Vx 0] h) am_xt fun v2 h1 =>
  some (.inl (Vx 0), h1) := (Cl_at at_J0_checkIndex_df160 rfl _).trans rfl
theorem at_J1_charAt_3b067 : am_at mJ1_charAt_3b067 = (cd_J1_charAt_3b067, [], 2) := rfl
set_option maxRecDepth 60000 in
theorem q_J1_charAt_3b067_0 (sc : Nat × (Nat → Int)) (d : Nat) (s0 : Nat) (i1 : Int) (h : am_H) : Cl sc (d + 1) mJ1_charAt_3b067 [Vx (s0 + 200), Vi i1] h =
  if 200 ≤ (s0 + 200) ∧ (s0 + 200) < 223 then
  clV (Cl sc d mJ0_checkIndex_df160 [Vi i1, Vi ((am_lit ((s0 + 200) - 200)).length)] h) am_xt fun h1 =>
  if 200 ≤ (s0 + 200) ∧ 0 ≤ i1 ∧ i1 < (am_lit ((s0 + 200) - 200)).length then
  am_ret 2 (bI2c (bAnd ((am_lit ((s0 + 200) - 200)).getD i1.toNat 0) 255)) h1
  else none
  else none := (Cl_at at_J1_charAt_3b067 rfl _).trans rfl
theorem at_J7_fill_53178 : am_at mJ7_fill_53178 = (cd_J7_fill_53178, [], 4) := rfl
set_option maxRecDepth 60000 in
theorem q_J7_fill_53178_0 (sc : Nat × (Nat → Int)) (d : Nat) (r0 : Option Nat) (i1 : Int) (h : am_H) : Cl sc (d + 1) mJ7_fill_53178 [Vr r0, Vi i1] h =
  lenA h r0 fun v1 =>
  Ru sc (d + 1) mJ7_fill_53178 6 [Vr r0, Vi i1, Vi 0, Vi v1] [] h := (Cl_at at_J7_fill_53178 rfl _).trans rfl
set_option maxRecDepth 60000 in
theorem q_J7_fill_53178_6 (sc : Nat × (Nat → Int)) (d : Nat) (r0 : Option Nat) (i1 : Int) (i2 : Int) (i3 : Int) (h : am_H) : Ru sc (d + 1) mJ7_fill_53178 6 [Vr r0, Vi i1, Vi i2, Vi i3] [] h =
  if i2 < i3 then
    stA 1 h r0 i2 i1 fun h1 =>
    Ru sc (d + 1) mJ7_fill_53178 6 [Vr r0, Vi i1, Vi (w32 (i2 + 1)), Vi i3] [] h1
  else
    some (.inl (Vx 0), h) := (Ru_at at_J7_fill_53178 6 _ _ _).trans rfl
theorem at_J7_copyOf_59c91 : am_at mJ7_copyOf_59c91 = (cd_J7_copyOf_59c91, [], 3) := rfl
set_option maxRecDepth 60000 in
theorem q_J7_copyOf_59c91_0 (sc : Nat × (Nat → Int)) (d : Nat) (r0 : Option Nat) (i1 : Int) (h : am_H) : Cl sc (d + 1) mJ7_copyOf_59c91 [Vr r0, Vi i1] h =
  lenA h r0 fun v1 =>
  if i1 = v1 then
    clA h r0 fun p8 h9 =>
    castA h9 p8 (
    retP h9 p8)
  else
    newA 1 h i1 fun p2 h3 =>
    lenA h3 r0 fun v4 =>
    clI (Cl sc d mJ9_min_7cf53 [Vi v4, Vi i1] h3) am_xt fun v6 h5 =>
    cpA h5 r0 0 p2 0 v6 fun h7 =>
    retP h7 p2 := (Cl_at at_J7_copyOf_59c91 rfl _).trans rfl
theorem at_J3_checkIndex_8e157 : am_at mJ3_checkIndex_8e157 = (cd_J3_checkIndex_8e157, [], 3) := rfl
set_option maxRecDepth 60000 in
theorem q_J3_checkIndex_8e157_0 (sc : Nat × (Nat → Int)) (d : Nat) (i0 : Int) (i1 : Int) (h : am_H) : Cl sc (d + 1) mJ3_checkIndex_8e157 [Vi i0, Vi i1, Vx 0] h =
  if i0 < 0 then
    none
  else
    if i0 < i1 then
      some (.inl (Vi i0), h)
    else
      none := (Cl_at at_J3_checkIndex_8e157 rfl _).trans rfl
