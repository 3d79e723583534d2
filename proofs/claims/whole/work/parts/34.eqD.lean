theorem at_X12_thrown : am_at mX12_thrown = (cd_X12_thrown, [], 1) := rfl
set_option maxRecDepth 60000 in
theorem q_X12_thrown_0 (sc : Nat × (Nat → Int)) (d : Nat) (r0 : Option Nat) (h : am_H) : Cl sc (d + 1) mX12_thrown [Vr r0] h =
  gfI 12 0 h r0 fun v1 =>
  some (.inl (Vi v1), h) := (Cl_at at_X12_thrown rfl _).trans rfl
theorem at_X12_throwsIf : am_at mX12_throwsIf = (cd_X12_throwsIf, [], 3) := rfl
set_option maxRecDepth 60000 in
theorem q_X12_throwsIf_0 (sc : Nat × (Nat → Int)) (d : Nat) (r0 : Option Nat) (i1 : Int) (i2 : Int) (h : am_H) : Cl sc (d + 1) mX12_throwsIf [Vr r0, Vi i1, Vi i2] h =
  if i1 = 0 then
    am_ret 1 i1 h
  else
    pfI 0 12 0 h r0 i2 fun h1 =>
    am_ret 1 i1 h1 := (Cl_at at_X12_throwsIf rfl _).trans rfl
theorem at_X12_in : am_at mX12_in = (cd_X12_in, [], 3) := rfl
set_option maxRecDepth 60000 in
theorem q_X12_in_0 (sc : Nat × (Nat → Int)) (d : Nat) (i0 : Int) (i1 : Int) (i2 : Int) (h : am_H) : Cl sc (d + 1) mX12_in [Vi i0, Vi i1, Vi i2] h =
  if i0 < i1 then
    some (.inl (Vi 0), h)
  else
    if i2 < i0 then
      some (.inl (Vi 0), h)
    else
      some (.inl (Vi 1), h) := (Cl_at at_X12_in rfl _).trans rfl
theorem at_X12_has : am_at mX12_has = (cd_X12_has, [], 2) := rfl
set_option maxRecDepth 60000 in
theorem q_X12_has_0 (sc : Nat × (Nat → Int)) (d : Nat) (i0 : Int) (i1 : Int) (h : am_H) : Cl sc (d + 1) mX12_has [Vi i0, Vi i1] h =
  if (bAnd (bShr i0 i1) 1) = 1 then
    some (.inl (Vi 1), h)
  else
    some (.inl (Vi 0), h) := (Cl_at at_X12_has rfl _).trans rfl
theorem at_X12_init : am_at mX12_init = (cd_X12_init, [], 1) := rfl
set_option maxRecDepth 60000 in
theorem q_X12_init_0 (sc : Nat × (Nat → Int)) (d : Nat) (a0 : Nat) (h : am_H) : Cl sc (d + 1) mX12_init [Vr (some a0)] h =
  newA 1 h 2329 fun p1 h2 =>
  pfP 12 1 h2 (some a0) p1 fun h3 =>
  newA 1 h3 1480 fun p4 h5 =>
  pfP 12 2 h5 (some a0) p4 fun h6 =>
  newA 1 h6 1480 fun p7 h8 =>
  pfP 12 3 h8 (some a0) p7 fun h9 =>
  newA 1 h9 631 fun p10 h11 =>
  pfP 12 4 h11 (some a0) p10 fun h12 =>
  Ru sc (d + 1) mX12_init 20 [Vr (some a0)] [Vr (some a0)] h12 := (Cl_at at_X12_init rfl _).trans rfl
set_option maxRecDepth 60000 in
theorem q_X12_init_20 (sc : Nat × (Nat → Int)) (d : Nat) (a0 : Nat) (tr0 : Option Nat) (h : am_H) : Ru sc (d + 1) mX12_init 20 [Vr (some a0)] [Vr tr0] h =
  newA 1 h 7572 fun p1 h2 =>
  pfP 12 5 h2 tr0 p1 fun h3 =>
  newA 3 h3 400 fun p4 h5 =>
  pfP 12 8 h5 (some a0) p4 fun h6 =>
  pfI 0 12 14 h6 (some a0) (-1) fun h7 =>
  newA 1 h7 5 fun p8 h9 =>
  pfP 12 15 h9 (some a0) p8 fun h10 =>
  newA 1 h10 400 fun p11 h12 =>
  pfP 12 17 h12 (some a0) p11 fun h13 =>
  Ru sc (d + 1) mX12_init 39 [Vr (some a0)] [] h13 := (Ru_at at_X12_init 20 _ _ _).trans rfl
set_option maxRecDepth 60000 in
theorem q_X12_init_39 (sc : Nat × (Nat → Int)) (d : Nat) (a0 : Nat) (h : am_H) : Ru sc (d + 1) mX12_init 39 [Vr (some a0)] [] h =
  pfI 0 12 18 h (some a0) (-1) fun h1 =>
  pfI 0 12 19 h1 (some a0) (-1) fun h2 =>
  newA 1 h2 36 fun p3 h4 =>
  pfP 12 20 h4 (some a0) p3 fun h5 =>
  newA 1 h5 36 fun p6 h7 =>
  pfP 12 21 h7 (some a0) p6 fun h8 =>
  newA 1 h8 60 fun p9 h10 =>
  pfP 12 22 h10 (some a0) p9 fun h11 =>
  Ru sc (d + 1) mX12_init 58 [Vr (some a0)] [] h11 := (Ru_at at_X12_init 39 _ _ _).trans rfl
set_option maxRecDepth 60000 in
theorem q_X12_init_58 (sc : Nat × (Nat → Int)) (d : Nat) (a0 : Nat) (h : am_H) : Ru sc (d + 1) mX12_init 58 [Vr (some a0)] [] h =
  newA 1 h 36 fun p1 h2 =>
  pfP 12 23 h2 (some a0) p1 fun h3 =>
  newA 1 h3 36 fun p4 h5 =>
  pfP 12 24 h5 (some a0) p4 fun h6 =>
  newA 1 h6 2304 fun p7 h8 =>
  pfP 12 25 h8 (some a0) p7 fun h9 =>
  newA 1 h9 49 fun p10 h11 =>
  pfP 12 26 h11 (some a0) p10 fun h12 =>
  Ru sc (d + 1) mX12_init 75 [Vr (some a0)] [] h12 := (Ru_at at_X12_init 58 _ _ _).trans rfl
set_option maxRecDepth 60000 in
theorem q_X12_init_75 (sc : Nat × (Nat → Int)) (d : Nat) (a0 : Nat) (h : am_H) : Ru sc (d + 1) mX12_init 75 [Vr (some a0)] [] h =
  newA 2 h 1000 fun p1 h2 =>
  pfP 12 27 h2 (some a0) p1 fun h3 =>
  newA 1 h3 1000 fun p4 h5 =>
  pfP 12 28 h5 (some a0) p4 fun h6 =>
  newA 1 h6 64 fun p7 h8 =>
  pfP 12 29 h8 (some a0) p7 fun h9 =>
  newA 1 h9 36 fun p10 h11 =>
  pfP 12 30 h11 (some a0) p10 fun h12 =>
  gfP 12 1 h12 (some a0) fun p13 =>
  stA 1 h12 p13 6 1 fun h14 =>
  some (.inl (Vx 0), h14) := (Ru_at at_X12_init 75 _ _ _).trans rfl
theorem at_X12_image : am_at mX12_image = (cd_X12_image, [], 2) := rfl
set_option maxRecDepth 60000 in
theorem q_X12_image_0 (sc : Nat × (Nat → Int)) (d : Nat) (r0 : Option Nat) (h : am_H) : Cl sc (d + 1) mX12_image [Vr r0] h =
  pfI 0 12 0 h r0 0 fun h1 =>
  Ru sc (d + 1) mX12_image 6 [Vr r0, Vi 0] [] h1 := (Cl_at at_X12_image rfl _).trans rfl
set_option maxRecDepth 60000 in
theorem q_X12_image_6 (sc : Nat × (Nat → Int)) (d : Nat) (r0 : Option Nat) (i1 : Int) (h : am_H) : Ru sc (d + 1) mX12_image 6 [Vr r0, Vi i1] [] h =
  if i1 < 1480 then
    gfP 12 2 h r0 fun p2 =>
    gfP 12 1 h r0 fun p3 =>
    ldA 1 h p3 i1 fun v4 =>
    stA 1 h p2 i1 v4 fun h5 =>
    Ru sc (d + 1) mX12_image 6 [Vr r0, Vi (w32 (i1 + 1))] [] h5
  else
    pfI 1 12 6 h r0 1 fun h1 =>
    some (.inl (Vx 0), h1) := (Ru_at at_X12_image 6 _ _ _).trans rfl
theorem at_X12_back : am_at mX12_back = (cd_X12_back, [], 2) := rfl
set_option maxRecDepth 60000 in
theorem q_X12_back_0 (sc : Nat × (Nat → Int)) (d : Nat) (r0 : Option Nat) (h : am_H) : Cl sc (d + 1) mX12_back [Vr r0] h =
  pfI 0 12 0 h r0 0 fun h1 =>
  gfI 12 6 h1 r0 fun v2 =>
  if v2 = 0 then
    some (.inl (Vi 0), h1)
  else
    Ru sc (d + 1) mX12_back 11 [Vr r0, Vi 0] [] h1 := (Cl_at at_X12_back rfl _).trans rfl
set_option maxRecDepth 60000 in
theorem q_X12_back_11 (sc : Nat × (Nat → Int)) (d : Nat) (r0 : Option Nat) (i1 : Int) (h : am_H) : Ru sc (d + 1) mX12_back 11 [Vr r0, Vi i1] [] h =
  if i1 < 1480 then
    gfP 12 1 h r0 fun p2 =>
    gfP 12 2 h r0 fun p3 =>
    ldA 1 h p3 i1 fun v4 =>
    stA 1 h p2 i1 v4 fun h5 =>
    Ru sc (d + 1) mX12_back 11 [Vr r0, Vi (w32 (i1 + 1))] [] h5
  else
    pfI 0 12 7 h r0 0 fun h1 =>
    some (.inl (Vi 1), h1) := (Ru_at at_X12_back 11 _ _ _).trans rfl
theorem at_X12_remembers : am_at mX12_remembers = (cd_X12_remembers, [], 2) := rfl
set_option maxRecDepth 60000 in
theorem q_X12_remembers_0 (sc : Nat × (Nat → Int)) (d : Nat) (r0 : Option Nat) (h : am_H) : Cl sc (d + 1) mX12_remembers [Vr r0] h =
  gfI 12 7 h r0 fun v1 =>
  if v1 = 12 then
    Ru sc (d + 1) mX12_remembers 7 [Vr r0, Vi 0] [] h
  else
    gfI 12 7 h r0 fun v2 =>
    pfI 0 12 7 h r0 (w32 (v2 + 1)) fun h3 =>
    Ru sc (d + 1) mX12_remembers 32 [Vr r0, Vi 0] [] h3 := (Cl_at at_X12_remembers rfl _).trans rfl
set_option maxRecDepth 60000 in
theorem q_X12_remembers_7 (sc : Nat × (Nat → Int)) (d : Nat) (r0 : Option Nat) (i1 : Int) (h : am_H) : Ru sc (d + 1) mX12_remembers 7 [Vr r0, Vi i1] [] h =
  if i1 < 6941 then
    gfP 12 5 h r0 fun p1 =>
    gfP 12 5 h r0 fun p2 =>
    ldA 1 h p2 (w32 (i1 + 631)) fun v3 =>
    stA 1 h p1 i1 v3 fun h4 =>
    Ru sc (d + 1) mX12_remembers 7 [Vr r0, Vi (w32 (i1 + 1))] [] h4
  else
    Ru sc (d + 1) mX12_remembers 32 [Vr r0, Vi 0] [] h := (Ru_at at_X12_remembers 7 _ _ _).trans rfl
set_option maxRecDepth 60000 in
theorem q_X12_remembers_32 (sc : Nat × (Nat → Int)) (d : Nat) (r0 : Option Nat) (i1 : Int) (h : am_H) : Ru sc (d + 1) mX12_remembers 32 [Vr r0, Vi i1] [] h =
  if i1 < 631 then
    gfP 12 5 h r0 fun p1 =>
    gfI 12 7 h r0 fun v2 =>
    gfP 12 1 h r0 fun p3 =>
    ldA 1 h p3 i1 fun v4 =>
    stA 1 h p1 (w32 ((w32 (631 * (w32 (v2 - 1)))) + i1)) v4 fun h5 =>
    Ru sc (d + 1) mX12_remembers 32 [Vr r0, Vi (w32 (i1 + 1))] [] h5
  else
    some (.inl (Vx 0), h) := (Ru_at at_X12_remembers 32 _ _ _).trans rfl
theorem at_X12_undo : am_at mX12_undo = (cd_X12_undo, [], 2) := rfl
set_option maxRecDepth 60000 in
theorem q_X12_undo_0 (sc : Nat × (Nat → Int)) (d : Nat) (r0 : Option Nat) (h : am_H) : Cl sc (d + 1) mX12_undo [Vr r0] h =
  pfI 0 12 0 h r0 0 fun h1 =>
  gfI 12 7 h1 r0 fun v2 =>
  if v2 = 0 then
    some (.inl (Vi 0), h1)
  else
    gfI 12 7 h1 r0 fun v3 =>
    pfI 0 12 7 h1 r0 (w32 (v3 - 1)) fun h4 =>
    Ru sc (d + 1) mX12_undo 17 [Vr r0, Vi 0] [] h4 := (Cl_at at_X12_undo rfl _).trans rfl
set_option maxRecDepth 60000 in
theorem q_X12_undo_17 (sc : Nat × (Nat → Int)) (d : Nat) (r0 : Option Nat) (i1 : Int) (h : am_H) : Ru sc (d + 1) mX12_undo 17 [Vr r0, Vi i1] [] h =
  if i1 < 631 then
    gfP 12 1 h r0 fun p1 =>
    gfP 12 5 h r0 fun p2 =>
    gfI 12 7 h r0 fun v3 =>
    ldA 1 h p2 (w32 ((w32 (631 * v3)) + i1)) fun v4 =>
    stA 1 h p1 i1 v4 fun h5 =>
    Ru sc (d + 1) mX12_undo 17 [Vr r0, Vi (w32 (i1 + 1))] [] h5
  else
    some (.inl (Vi 1), h) := (Ru_at at_X12_undo 17 _ _ _).trans rfl
theorem at_X12_keepsAll : am_at mX12_keepsAll = (cd_X12_keepsAll, [], 2) := rfl
set_option maxRecDepth 60000 in
theorem q_X12_keepsAll_0 (sc : Nat × (Nat → Int)) (d : Nat) (r0 : Option Nat) (h : am_H) : Cl sc (d + 1) mX12_keepsAll [Vr r0] h =
  Ru sc (d + 1) mX12_keepsAll 3 [Vr r0, Vi 0] [] h := (Cl_at at_X12_keepsAll rfl _).trans rfl
set_option maxRecDepth 60000 in
theorem q_X12_keepsAll_3 (sc : Nat × (Nat → Int)) (d : Nat) (r0 : Option Nat) (i1 : Int) (h : am_H) : Ru sc (d + 1) mX12_keepsAll 3 [Vr r0, Vi i1] [] h =
  if i1 < 631 then
    gfP 12 4 h r0 fun p1 =>
    gfP 12 1 h r0 fun p2 =>
    ldA 1 h p2 i1 fun v3 =>
    stA 1 h p1 i1 v3 fun h4 =>
    Ru sc (d + 1) mX12_keepsAll 3 [Vr r0, Vi (w32 (i1 + 1))] [] h4
  else
    some (.inl (Vx 0), h) := (Ru_at at_X12_keepsAll 3 _ _ _).trans rfl
theorem at_X12_bringsBack : am_at mX12_bringsBack = (cd_X12_bringsBack, [], 2) := rfl
set_option maxRecDepth 60000 in
theorem q_X12_bringsBack_0 (sc : Nat × (Nat → Int)) (d : Nat) (r0 : Option Nat) (h : am_H) : Cl sc (d + 1) mX12_bringsBack [Vr r0] h =
  Ru sc (d + 1) mX12_bringsBack 3 [Vr r0, Vi 0] [] h := (Cl_at at_X12_bringsBack rfl _).trans rfl
set_option maxRecDepth 60000 in
theorem q_X12_bringsBack_3 (sc : Nat × (Nat → Int)) (d : Nat) (r0 : Option Nat) (i1 : Int) (h : am_H) : Ru sc (d + 1) mX12_bringsBack 3 [Vr r0, Vi i1] [] h =
  if i1 < 631 then
    gfP 12 1 h r0 fun p1 =>
    gfP 12 4 h r0 fun p2 =>
    ldA 1 h p2 i1 fun v3 =>
    stA 1 h p1 i1 v3 fun h4 =>
    Ru sc (d + 1) mX12_bringsBack 3 [Vr r0, Vi (w32 (i1 + 1))] [] h4
  else
    some (.inl (Vx 0), h) := (Ru_at at_X12_bringsBack 3 _ _ _).trans rfl
theorem at_X12_families : am_at mX12_families = (cd_X12_families, [], 1) := rfl
set_option maxRecDepth 60000 in
theorem q_X12_families_0 (sc : Nat × (Nat → Int)) (d : Nat) (r0 : Option Nat) (h : am_H) : Cl sc (d + 1) mX12_families [Vr r0] h =
  gfP 12 1 h r0 fun p1 =>
  ldA 1 h p1 0 fun v2 =>
  some (.inl (Vi v2), h) := (Cl_at at_X12_families rfl _).trans rfl
theorem at_X12_at : am_at mX12_at = (cd_X12_at, [], 2) := rfl
set_option maxRecDepth 60000 in
theorem q_X12_at_0 (sc : Nat × (Nat → Int)) (d : Nat) (i0 : Int) (i1 : Int) (h : am_H) : Cl sc (d + 1) mX12_at [Vi i0, Vi i1] h =
  some (.inl (Vi (w32 ((w32 (7 + (w32 (5 * i0)))) + i1))), h) := (Cl_at at_X12_at rfl _).trans rfl
theorem at_X12_of : am_at mX12_of = (cd_X12_of, [], 3) := rfl
set_option maxRecDepth 60000 in
theorem q_X12_of_0 (sc : Nat × (Nat → Int)) (d : Nat) (r0 : Option Nat) (i1 : Int) (i2 : Int) (h : am_H) : Cl sc (d + 1) mX12_of [Vr r0, Vi i1, Vi i2] h =
  gfP 12 1 h r0 fun p1 =>
  clI (Cl sc d mX12_at [Vi i1, Vi i2] h) am_xt fun v3 h2 =>
  ldA 1 h2 p1 v3 fun v4 =>
  some (.inl (Vi v4), h2) := (Cl_at at_X12_of rfl _).trans rfl
theorem at_X12_hasFence : am_at mX12_hasFence = (cd_X12_hasFence, [], 2) := rfl
set_option maxRecDepth 60000 in
theorem q_X12_hasFence_0 (sc : Nat × (Nat → Int)) (d : Nat) (r0 : Option Nat) (i1 : Int) (h : am_H) : Cl sc (d + 1) mX12_hasFence [Vr r0, Vi i1] h =
  am_rcv 12 h (Vr r0) (
  clI (Cl sc d mX12_of [Vr r0, Vi i1, Vi 0] h) am_xt fun v2 h1 =>
  if v2 = 1 then
    some (.inl (Vi 1), h1)
  else
    some (.inl (Vi 0), h1)) := (Cl_at at_X12_hasFence rfl _).trans rfl
theorem at_X12_familyAt : am_at mX12_familyAt = (cd_X12_familyAt, [], 2) := rfl
set_option maxRecDepth 60000 in
theorem q_X12_familyAt_0 (sc : Nat × (Nat → Int)) (d : Nat) (i0 : Int) (i1 : Int) (h : am_H) : Cl sc (d + 1) mX12_familyAt [Vi i0, Vi i1] h =
  some (.inl (Vi (w32 ((w32 (307 + (w32 (4 * i0)))) + i1))), h) := (Cl_at at_X12_familyAt rfl _).trans rfl
theorem at_X12_ofFamily : am_at mX12_ofFamily = (cd_X12_ofFamily, [], 3) := rfl
set_option maxRecDepth 60000 in
theorem q_X12_ofFamily_0 (sc : Nat × (Nat → Int)) (d : Nat) (r0 : Option Nat) (i1 : Int) (i2 : Int) (h : am_H) : Cl sc (d + 1) mX12_ofFamily [Vr r0, Vi i1, Vi i2] h =
  gfP 12 1 h r0 fun p1 =>
  clI (Cl sc d mX12_familyAt [Vi i1, Vi i2] h) am_xt fun v3 h2 =>
  ldA 1 h2 p1 v3 fun v4 =>
  some (.inl (Vi v4), h2) := (Cl_at at_X12_ofFamily rfl _).trans rfl
theorem at_X12_isAcross : am_at mX12_isAcross = (cd_X12_isAcross, [], 1) := rfl
set_option maxRecDepth 60000 in
theorem q_X12_isAcross_0 (sc : Nat × (Nat → Int)) (d : Nat) (i0 : Int) (h : am_H) : Cl sc (d + 1) mX12_isAcross [Vi i0] h =
  if i0 < 30 then
    some (.inl (Vi 0), h)
  else
    some (.inl (Vi 1), h) := (Cl_at at_X12_isAcross rfl _).trans rfl
theorem at_X12_lessOf : am_at mX12_lessOf = (cd_X12_lessOf, [], 1) := rfl
set_option maxRecDepth 60000 in
theorem q_X12_lessOf_0 (sc : Nat × (Nat → Int)) (d : Nat) (i0 : Int) (h : am_H) : Cl sc (d + 1) mX12_lessOf [Vi i0] h =
  clI (Cl sc d mX12_isAcross [Vi i0] h) am_xt fun v2 h1 =>
  if v2 = 0 then
    if 5 = 0 then none else
    if 5 = 0 then none else
    some (.inl (Vi (w32 ((w32 (6 * (w32 (i0.tdiv 5)))) + (i0.tmod 5)))), h1)
  else
    some (.inl (Vi (w32 (i0 - 30))), h1) := (Cl_at at_X12_lessOf rfl _).trans rfl
theorem at_X12_greaterOf : am_at mX12_greaterOf = (cd_X12_greaterOf, [], 1) := rfl
set_option maxRecDepth 60000 in
theorem q_X12_greaterOf_0 (sc : Nat × (Nat → Int)) (d : Nat) (i0 : Int) (h : am_H) : Cl sc (d + 1) mX12_greaterOf [Vi i0] h =
  clI (Cl sc d mX12_lessOf [Vi i0] h) am_xt fun v2 h1 =>
  clI (Cl sc d mX12_isAcross [Vi i0] h1) am_xt fun v4 h3 =>
  if v4 = 0 then
    some (.inl (Vi (w32 (v2 + 1))), h3)
  else
    some (.inl (Vi (w32 (v2 + 6))), h3) := (Cl_at at_X12_greaterOf rfl _).trans rfl
theorem at_X12_sideOf : am_at mX12_sideOf = (cd_X12_sideOf, [], 4) := rfl
set_option maxRecDepth 60000 in
theorem q_X12_sideOf_0 (sc : Nat × (Nat → Int)) (d : Nat) (i0 : Int) (i1 : Int) (h : am_H) : Cl sc (d + 1) mX12_sideOf [Vi i0, Vi i1] h =
  if 6 = 0 then none else
  if 6 = 0 then none else
  if i1 = 0 then
    if (i0.tmod 6) = 0 then
      some (.inl (Vi (-1)), h)
    else
      some (.inl (Vi (w32 ((w32 ((w32 (5 * (w32 (i0.tdiv 6)))) + (i0.tmod 6))) - 1))), h)
  else if i1 = 1 then
    if (i0.tmod 6) = 5 then
      some (.inl (Vi (-1)), h)
    else
      some (.inl (Vi (w32 ((w32 (5 * (w32 (i0.tdiv 6)))) + (i0.tmod 6)))), h)
  else if i1 = 2 then
    if (w32 (i0.tdiv 6)) = 0 then
      some (.inl (Vi (-1)), h)
    else
      some (.inl (Vi (w32 ((w32 (30 + (w32 (6 * (w32 ((w32 (i0.tdiv 6)) - 1)))))) + (i0.tmod 6)))), h)
  else if (w32 (i0.tdiv 6)) = 5 then
    some (.inl (Vi (-1)), h)
  else
    some (.inl (Vi (w32 ((w32 (30 + (w32 (6 * (w32 (i0.tdiv 6)))))) + (i0.tmod 6)))), h) := (Cl_at at_X12_sideOf rfl _).trans rfl
theorem at_X12_otherOf : am_at mX12_otherOf = (cd_X12_otherOf, [], 2) := rfl
set_option maxRecDepth 60000 in
theorem q_X12_otherOf_0 (sc : Nat × (Nat → Int)) (d : Nat) (i0 : Int) (i1 : Int) (h : am_H) : Cl sc (d + 1) mX12_otherOf [Vi i0, Vi i1] h =
  clI (Cl sc d mX12_lessOf [Vi i0] h) am_xt fun v2 h1 =>
  clI (Cl sc d mX12_greaterOf [Vi i0] h1) am_xt fun v4 h3 =>
  some (.inl (Vi (w32 ((w32 (v2 + v4)) - i1))), h3) := (Cl_at at_X12_otherOf rfl _).trans rfl
theorem at_X12_borderOf : am_at mX12_borderOf = (cd_X12_borderOf, [], 5) := rfl
set_option maxRecDepth 60000 in
theorem q_X12_borderOf_0 (sc : Nat × (Nat → Int)) (d : Nat) (i0 : Int) (i1 : Int) (h : am_H) : Cl sc (d + 1) mX12_borderOf [Vi i0, Vi i1] h =
  Ru sc (d + 1) mX12_borderOf 5 [Vi i0, Vi i1, Vi (-1), Vi 0, Vx 0] [] h := (Cl_at at_X12_borderOf rfl _).trans rfl
set_option maxRecDepth 60000 in
theorem q_X12_borderOf_5 (sc : Nat × (Nat → Int)) (d : Nat) (i0 : Int) (i1 : Int) (i2 : Int) (i3 : Int) (u4 : am_V) (h : am_H) : Ru sc (d + 1) mX12_borderOf 5 [Vi i0, Vi i1, Vi i2, Vi i3, u4] [] h =
  if i3 < 4 then
    clI (Cl sc d mX12_sideOf [Vi i0, Vi i3] h) am_xt fun v2 h1 =>
    if v2 = (-1) then
      Ru sc (d + 1) mX12_borderOf 5 [Vi i0, Vi i1, Vi i2, Vi (w32 (i3 + 1)), Vi v2] [] h1
    else
      clI (Cl sc d mX12_otherOf [Vi v2, Vi i0] h1) am_xt fun v4 h3 =>
      if v4 = i1 then
        Ru sc (d + 1) mX12_borderOf 5 [Vi i0, Vi i1, Vi v2, Vi (w32 (i3 + 1)), Vi v2] [] h3
      else
        Ru sc (d + 1) mX12_borderOf 5 [Vi i0, Vi i1, Vi i2, Vi (w32 (i3 + 1)), Vi v2] [] h3
  else
    some (.inl (Vi i2), h) := (Ru_at at_X12_borderOf 5 _ _ _).trans rfl
theorem at_X12_noCell : am_at mX12_noCell = (cd_X12_noCell, [], 1) := rfl
set_option maxRecDepth 60000 in
theorem q_X12_noCell_0 (sc : Nat × (Nat → Int)) (d : Nat) (i0 : Int) (h : am_H) : Cl sc (d + 1) mX12_noCell [Vi i0] h =
  clI (Cl sc d mX12_in [Vi i0, Vi 0, Vi 35] h) am_xt fun v2 h1 =>
  if v2 = 0 then
    some (.inl (Vi 1), h1)
  else
    some (.inl (Vi 0), h1) := (Cl_at at_X12_noCell rfl _).trans rfl
theorem at_X12_noBorder : am_at mX12_noBorder = (cd_X12_noBorder, [], 1) := rfl
set_option maxRecDepth 60000 in
theorem q_X12_noBorder_0 (sc : Nat × (Nat → Int)) (d : Nat) (i0 : Int) (h : am_H) : Cl sc (d + 1) mX12_noBorder [Vi i0] h =
  clI (Cl sc d mX12_in [Vi i0, Vi 0, Vi 59] h) am_xt fun v2 h1 =>
  if v2 = 0 then
    some (.inl (Vi 1), h1)
  else
    some (.inl (Vi 0), h1) := (Cl_at at_X12_noBorder rfl _).trans rfl
theorem at_X12_noHeight : am_at mX12_noHeight = (cd_X12_noHeight, [], 1) := rfl
set_option maxRecDepth 60000 in
theorem q_X12_noHeight_0 (sc : Nat × (Nat → Int)) (d : Nat) (i0 : Int) (h : am_H) : Cl sc (d + 1) mX12_noHeight [Vi i0] h =
  clI (Cl sc d mX12_in [Vi i0, Vi 0, Vi 999] h) am_xt fun v2 h1 =>
  if v2 = 0 then
    some (.inl (Vi 1), h1)
  else
    some (.inl (Vi 0), h1) := (Cl_at at_X12_noHeight rfl _).trans rfl
theorem at_X12_noFamily : am_at mX12_noFamily = (cd_X12_noFamily, [], 2) := rfl
set_option maxRecDepth 60000 in
theorem q_X12_noFamily_0 (sc : Nat × (Nat → Int)) (d : Nat) (r0 : Option Nat) (i1 : Int) (h : am_H) : Cl sc (d + 1) mX12_noFamily [Vr r0, Vi i1] h =
  am_rcv 12 h (Vr r0) (
  clI (Cl sc d mX12_families [Vr r0] h) am_xt fun v2 h1 =>
  clI (Cl sc d mX12_in [Vi i1, Vi 0, Vi (w32 (v2 - 1))] h1) am_xt fun v4 h3 =>
  if v4 = 0 then
    some (.inl (Vi 1), h3)
  else
    some (.inl (Vi 0), h3)) := (Cl_at at_X12_noFamily rfl _).trans rfl
theorem at_X12_drawn : am_at mX12_drawn = (cd_X12_drawn, [], 2) := rfl
set_option maxRecDepth 60000 in
theorem q_X12_drawn_0 (sc : Nat × (Nat → Int)) (d : Nat) (r0 : Option Nat) (i1 : Int) (h : am_H) : Cl sc (d + 1) mX12_drawn [Vr r0, Vi i1] h =
  gfP 12 1 h r0 fun p1 =>
  gfP 12 1 h r0 fun p2 =>
  ldA 1 h p2 6 fun v3 =>
  stA 1 h p1 6 (w32 ((w32 (1103515245 * v3)) + 12345)) fun h4 =>
  gfP 12 1 h4 r0 fun p5 =>
  ldA 1 h4 p5 6 fun v6 =>
  if i1 = 0 then none else
  some (.inl (Vi ((bAnd (bShr v6 16) 32767).tmod i1)), h4) := (Cl_at at_X12_drawn rfl _).trans rfl
theorem at_X12_isFence : am_at mX12_isFence = (cd_X12_isFence, [], 6) := rfl
set_option maxRecDepth 60000 in
theorem q_X12_isFence_0 (sc : Nat × (Nat → Int)) (d : Nat) (r0 : Option Nat) (i1 : Int) (i2 : Int) (i3 : Int) (i4 : Int) (i5 : Int) (h : am_H) : Cl sc (d + 1) mX12_isFence [Vr r0, Vi i1, Vi i2, Vi i3, Vi i4, Vi i5] h =
  gfP 12 1 h r0 fun p1 =>
  clI (Cl sc d mX12_at [Vi i1, Vi 0] h) am_xt fun v3 h2 =>
  stA 1 h2 p1 v3 1 fun h4 =>
  gfP 12 1 h4 r0 fun p5 =>
  clI (Cl sc d mX12_at [Vi i1, Vi 1] h4) am_xt fun v7 h6 =>
  stA 1 h6 p5 v7 i2 fun h8 =>
  gfP 12 1 h8 r0 fun p9 =>
  clI (Cl sc d mX12_at [Vi i1, Vi 2] h8) am_xt fun v11 h10 =>
  stA 1 h10 p9 v11 i3 fun h12 =>
  gfP 12 1 h12 r0 fun p13 =>
  clI (Cl sc d mX12_at [Vi i1, Vi 3] h12) am_xt fun v15 h14 =>
  stA 1 h14 p13 v15 i4 fun h16 =>
  gfP 12 1 h16 r0 fun p17 =>
  clI (Cl sc d mX12_at [Vi i1, Vi 4] h16) am_xt fun v19 h18 =>
  stA 1 h18 p17 v19 i5 fun h20 =>
  some (.inl (Vx 0), h20) := (Cl_at at_X12_isFence rfl _).trans rfl
theorem at_X12_isGone : am_at mX12_isGone = (cd_X12_isGone, [], 3) := rfl
set_option maxRecDepth 60000 in
theorem q_X12_isGone_0 (sc : Nat × (Nat → Int)) (d : Nat) (r0 : Option Nat) (i1 : Int) (h : am_H) : Cl sc (d + 1) mX12_isGone [Vr r0, Vi i1] h =
  Ru sc (d + 1) mX12_isGone 3 [Vr r0, Vi i1, Vi 0] [] h := (Cl_at at_X12_isGone rfl _).trans rfl
set_option maxRecDepth 60000 in
theorem q_X12_isGone_3 (sc : Nat × (Nat → Int)) (d : Nat) (r0 : Option Nat) (i1 : Int) (i2 : Int) (h : am_H) : Ru sc (d + 1) mX12_isGone 3 [Vr r0, Vi i1, Vi i2] [] h =
  if i2 < 5 then
    gfP 12 1 h r0 fun p1 =>
    clI (Cl sc d mX12_at [Vi i1, Vi i2] h) am_xt fun v3 h2 =>
    stA 1 h2 p1 v3 0 fun h4 =>
    Ru sc (d + 1) mX12_isGone 3 [Vr r0, Vi i1, Vi (w32 (i2 + 1))] [] h4
  else
    some (.inl (Vx 0), h) := (Ru_at at_X12_isGone 3 _ _ _).trans rfl
theorem at_X12_feed : am_at mX12_feed = (cd_X12_feed, [], 7) := rfl
set_option maxRecDepth 60000 in
theorem q_X12_feed_0 (sc : Nat × (Nat → Int)) (d : Nat) (r0 : Option Nat) (i1 : Int) (i2 : Int) (i3 : Int) (i4 : Int) (i5 : Int) (h : am_H) : Cl sc (d + 1) mX12_feed [Vr r0, Vi i1, Vi i2, Vi i3, Vi i4, Vi i5] h =
  pfI 0 12 0 h r0 0 fun h1 =>
  gfI 12 9 h1 r0 fun v2 =>
  if 400 < (w32 (v2 + 20)) then
    some (.inl (Vi (-1)), h1)
  else
    gfP 12 15 h1 r0 fun p3 =>
    stA 1 h1 p3 0 i1 fun h4 =>
    gfP 12 15 h4 r0 fun p5 =>
    stA 1 h4 p5 1 i2 fun h6 =>
    gfP 12 15 h6 r0 fun p7 =>
    stA 1 h6 p7 2 i3 fun h8 =>
    gfP 12 15 h8 r0 fun p9 =>
    stA 1 h8 p9 3 i4 fun h10 =>
    gfP 12 15 h10 r0 fun p11 =>
    stA 1 h10 p11 4 i5 fun h12 =>
    Ru sc (d + 1) mX12_feed 39 [Vr r0, Vi i1, Vi i2, Vi i3, Vi i4, Vi i5, Vi 0] [] h12 := (Cl_at at_X12_feed rfl _).trans rfl
set_option maxRecDepth 60000 in
theorem q_X12_feed_39 (sc : Nat × (Nat → Int)) (d : Nat) (r0 : Option Nat) (i1 : Int) (i2 : Int) (i3 : Int) (i4 : Int) (i5 : Int) (i6 : Int) (h : am_H) : Ru sc (d + 1) mX12_feed 39 [Vr r0, Vi i1, Vi i2, Vi i3, Vi i4, Vi i5, Vi i6] [] h =
  if i6 < 20 then
    gfP 12 8 h r0 fun p4 =>
    gfI 12 9 h r0 fun v5 =>
    gfP 12 15 h r0 fun p6 =>
    if 4 = 0 then none else
    ldA 1 h p6 (w32 (i6.tdiv 4)) fun v7 =>
    if 4 = 0 then none else
    stB h p4 (w32 (v5 + i6)) (bI2b (bShr v7 (w32 (24 - (w32 (8 * (i6.tmod 4))))))) fun h8 =>
    Ru sc (d + 1) mX12_feed 39 [Vr r0, Vi i1, Vi i2, Vi i3, Vi i4, Vi i5, Vi (w32 (i6 + 1))] [] h8
  else
    gfI 12 9 h r0 fun v1 =>
    pfI 0 12 9 h r0 (w32 (v1 + 20)) fun h2 =>
    gfI 12 9 h2 r0 fun v3 =>
    some (.inl (Vi v3), h2) := (Ru_at at_X12_feed 39 _ _ _).trans rfl
theorem at_X12_end : am_at mX12_end = (cd_X12_end, [], 2) := rfl
set_option maxRecDepth 60000 in
theorem q_X12_end_0 (sc : Nat × (Nat → Int)) (d : Nat) (r0 : Option Nat) (i1 : Int) (h : am_H) : Cl sc (d + 1) mX12_end [Vr r0, Vi i1] h =
  pfI 0 12 0 h r0 0 fun h1 =>
  if i1 < 0 then
    some (.inl (Vi 0), h1)
  else
    gfI 12 9 h1 r0 fun v2 =>
    if v2 < i1 then
      some (.inl (Vi 0), h1)
    else
      pfI 0 12 9 h1 r0 i1 fun h3 =>
      some (.inl (Vi 1), h3) := (Cl_at at_X12_end rfl _).trans rfl
theorem at_X12_isAt : am_at mX12_isAt = (cd_X12_isAt, [], 3) := rfl
set_option maxRecDepth 60000 in
theorem q_X12_isAt_0 (sc : Nat × (Nat → Int)) (d : Nat) (r0 : Option Nat) (i1 : Int) (i2 : Int) (h : am_H) : Cl sc (d + 1) mX12_isAt [Vr r0, Vi i1, Vi i2] h =
  gfI 12 10 h r0 fun v1 =>
  gfI 12 11 h r0 fun v2 =>
  if v1 < v2 then
    gfP 12 8 h r0 fun p3 =>
    gfI 12 10 h r0 fun v4 =>
    ldB h p3 v4 fun v5 =>
    if v5 < i1 then
      some (.inl (Vi 0), h)
    else
      gfP 12 8 h r0 fun p6 =>
      gfI 12 10 h r0 fun v7 =>
      ldB h p6 v7 fun v8 =>
      if i2 < v8 then
        some (.inl (Vi 0), h)
      else
        some (.inl (Vi 1), h)
  else
    some (.inl (Vi 0), h) := (Cl_at at_X12_isAt rfl _).trans rfl
theorem at_X12_blanks : am_at mX12_blanks = (cd_X12_blanks, [], 1) := rfl
set_option maxRecDepth 60000 in
theorem q_X12_blanks_0 (sc : Nat × (Nat → Int)) (d : Nat) (r0 : Option Nat) (h : am_H) : Cl sc (d + 1) mX12_blanks [Vr r0] h =
  am_rcv 12 h (Vr r0) (
  clI (Cl sc d mX12_isAt [Vr r0, Vi 32, Vi 32] h) am_xt fun v2 h1 =>
  if v2 = 0 then
    gfI 12 10 h1 r0 fun v3 =>
    pfI 0 12 12 h1 r0 v3 fun h4 =>
    some (.inl (Vx 0), h4)
  else
    gfI 12 10 h1 r0 fun v5 =>
    pfI 0 12 10 h1 r0 (w32 (v5 + 1)) fun h6 =>
    Ru sc (d + 1) mX12_blanks 0 [Vr r0] [] h6) := (Cl_at at_X12_blanks rfl _).trans rfl
theorem at_X12_letters : am_at mX12_letters = (cd_X12_letters, [], 1) := rfl
set_option maxRecDepth 60000 in
theorem q_X12_letters_0 (sc : Nat × (Nat → Int)) (d : Nat) (r0 : Option Nat) (h : am_H) : Cl sc (d + 1) mX12_letters [Vr r0] h =
  am_rcv 12 h (Vr r0) (
  clV (Cl sc d mX12_blanks [Vr r0] h) am_xt fun h1 =>
  Ru sc (d + 1) mX12_letters 3 [Vr r0] [] h1) := (Cl_at at_X12_letters rfl _).trans rfl
set_option maxRecDepth 60000 in
theorem q_X12_letters_3 (sc : Nat × (Nat → Int)) (d : Nat) (r0 : Option Nat) (h : am_H) : Ru sc (d + 1) mX12_letters 3 [Vr r0] [] h =
  am_rcv 12 h (Vr r0) (
  clI (Cl sc d mX12_isAt [Vr r0, Vi 97, Vi 122] h) am_xt fun v2 h1 =>
  if v2 = 0 then
    some (.inl (Vx 0), h1)
  else
    gfI 12 10 h1 r0 fun v3 =>
    pfI 0 12 10 h1 r0 (w32 (v3 + 1)) fun h4 =>
    Ru sc (d + 1) mX12_letters 3 [Vr r0] [] h4) := (Ru_at at_X12_letters 3 _ _ _).trans rfl
theorem at_X12_isWord : am_at mX12_isWord = (cd_X12_isWord, [], 4) := rfl
set_option maxRecDepth 60000 in
theorem q_X12_isWord_0 (sc : Nat × (Nat → Int)) (d : Nat) (r0 : Option Nat) (s1 : Nat) (h : am_H) : Cl sc (d + 1) mX12_isWord [Vr r0, Vx (s1 + 1)] h =
  gfI 12 10 h r0 fun v1 =>
  gfI 12 12 h r0 fun v2 =>
  if 2 ≤ (s1 + 1) ∧ (s1 + 1) < 25 then
  clI (Cl sc d mJ0_length_8abf5 [Vx (s1 + 1)] h) am_xt fun v4 h3 =>
  if (w32 (v1 - v2)) = v4 then
    Ru sc (d + 1) mX12_isWord 15 [Vr r0, Vx (s1 + 1), Vi 1, Vi 0] [] h3
  else
    Ru sc (d + 1) mX12_isWord 15 [Vr r0, Vx (s1 + 1), Vi 0, Vi 0] [] h3
  else none := (Cl_at at_X12_isWord rfl _).trans rfl
set_option maxRecDepth 60000 in
theorem q_X12_isWord_15 (sc : Nat × (Nat → Int)) (d : Nat) (r0 : Option Nat) (s1 : Nat) (i2 : Int) (i3 : Int) (h : am_H) : Ru sc (d + 1) mX12_isWord 15 [Vr r0, Vx (s1 + 1), Vi i2, Vi i3] [] h =
  if i2 = 0 then
    am_ret 1 i2 h
  else
    if 2 ≤ (s1 + 1) ∧ (s1 + 1) < 25 then
    clI (Cl sc d mJ0_length_8abf5 [Vx (s1 + 1)] h) am_xt fun v2 h1 =>
    if i3 < v2 then
      gfP 12 8 h1 r0 fun p3 =>
      gfI 12 12 h1 r0 fun v4 =>
      ldB h1 p3 (w32 (v4 + i3)) fun v5 =>
      if 2 ≤ (s1 + 1) ∧ (s1 + 1) < 25 then
      clI (Cl sc d mJ0_charAt_5068e [Vx (s1 + 1), Vi i3] h1) am_xt fun v7 h6 =>
      if v5 = v7 then
        Ru sc (d + 1) mX12_isWord 15 [Vr r0, Vx (s1 + 1), Vi 1, Vi (w32 (i3 + 1))] [] h6
      else
        Ru sc (d + 1) mX12_isWord 15 [Vr r0, Vx (s1 + 1), Vi 0, Vi (w32 (i3 + 1))] [] h6
      else none
    else
      am_ret 1 i2 h1
    else none := (Ru_at at_X12_isWord 15 _ _ _).trans rfl
theorem at_X12_passes : am_at mX12_passes = (cd_X12_passes, [], 2) := rfl
set_option maxRecDepth 60000 in
theorem q_X12_passes_0 (sc : Nat × (Nat → Int)) (d : Nat) (r0 : Option Nat) (s1 : Nat) (h : am_H) : Cl sc (d + 1) mX12_passes [Vr r0, Vx (s1 + 1)] h =
  am_rcv 12 h (Vr r0) (
  clV (Cl sc d mX12_letters [Vr r0] h) am_xt fun h1 =>
  am_rcv 12 h1 (Vr r0) (
  clI (Cl sc d mX12_isWord [Vr r0, Vx (s1 + 1)] h1) am_xt fun v3 h2 =>
  if v3 = 0 then
    gfI 12 12 h2 r0 fun v4 =>
    pfI 0 12 10 h2 r0 v4 fun h5 =>
    some (.inl (Vi 0), h5)
  else
    some (.inl (Vi 1), h2))) := (Cl_at at_X12_passes rfl _).trans rfl
theorem at_X12_sign : am_at mX12_sign = (cd_X12_sign, [], 2) := rfl
set_option maxRecDepth 60000 in
theorem q_X12_sign_0 (sc : Nat × (Nat → Int)) (d : Nat) (r0 : Option Nat) (i1 : Int) (h : am_H) : Cl sc (d + 1) mX12_sign [Vr r0, Vi i1] h =
  am_rcv 12 h (Vr r0) (
  clV (Cl sc d mX12_blanks [Vr r0] h) am_xt fun h1 =>
  am_rcv 12 h1 (Vr r0) (
  clI (Cl sc d mX12_isAt [Vr r0, Vi i1, Vi i1] h1) am_xt fun v3 h2 =>
  if v3 = 0 then
    some (.inl (Vi 0), h2)
  else
    gfI 12 10 h2 r0 fun v4 =>
    pfI 0 12 10 h2 r0 (w32 (v4 + 1)) fun h5 =>
    some (.inl (Vi 1), h5))) := (Cl_at at_X12_sign rfl _).trans rfl
theorem at_X12_number : am_at mX12_number = (cd_X12_number, [], 4) := rfl
set_option maxRecDepth 60000 in
theorem q_X12_number_0 (sc : Nat × (Nat → Int)) (d : Nat) (r0 : Option Nat) (i1 : Int) (i2 : Int) (h : am_H) : Cl sc (d + 1) mX12_number [Vr r0, Vi i1, Vi i2] h =
  am_rcv 12 h (Vr r0) (
  clV (Cl sc d mX12_blanks [Vr r0] h) am_xt fun h1 =>
  Ru sc (d + 1) mX12_number 5 [Vr r0, Vi i1, Vi i2, Vi 0] [] h1) := (Cl_at at_X12_number rfl _).trans rfl
set_option maxRecDepth 60000 in
theorem q_X12_number_5 (sc : Nat × (Nat → Int)) (d : Nat) (r0 : Option Nat) (i1 : Int) (i2 : Int) (i3 : Int) (h : am_H) : Ru sc (d + 1) mX12_number 5 [Vr r0, Vi i1, Vi i2, Vi i3] [] h =
  am_rcv 12 h (Vr r0) (
  clI (Cl sc d mX12_isAt [Vr r0, Vi 48, Vi 57] h) am_xt fun v2 h1 =>
  if v2 = 0 then
    gfI 12 10 h1 r0 fun v3 =>
    gfI 12 12 h1 r0 fun v4 =>
    if v3 = v4 then
      some (.inl (Vi (-1)), h1)
    else
      gfI 12 10 h1 r0 fun v5 =>
      gfI 12 12 h1 r0 fun v6 =>
      if 3 < (w32 (v5 - v6)) then
        some (.inl (Vi (-1)), h1)
      else
        if i3 < i1 then
          some (.inl (Vi (-1)), h1)
        else
          if i2 < i3 then
            some (.inl (Vi (-1)), h1)
          else
            some (.inl (Vi i3), h1)
  else
    gfI 12 10 h1 r0 fun v7 =>
    gfI 12 12 h1 r0 fun v8 =>
    if (w32 (v7 - v8)) < 3 then
      gfP 12 8 h1 r0 fun p11 =>
      gfI 12 10 h1 r0 fun v12 =>
      ldB h1 p11 v12 fun v13 =>
      gfI 12 10 h1 r0 fun v14 =>
      pfI 0 12 10 h1 r0 (w32 (v14 + 1)) fun h15 =>
      Ru sc (d + 1) mX12_number 5 [Vr r0, Vi i1, Vi i2, Vi (w32 ((w32 ((w32 (10 * i3)) + v13)) - 48))] [] h15
    else
      gfI 12 10 h1 r0 fun v9 =>
      pfI 0 12 10 h1 r0 (w32 (v9 + 1)) fun h10 =>
      Ru sc (d + 1) mX12_number 5 [Vr r0, Vi i1, Vi i2, Vi i3] [] h10) := (Ru_at at_X12_number 5 _ _ _).trans rfl
theorem at_X12_behind : am_at mX12_behind = (cd_X12_behind, [], 4) := rfl
set_option maxRecDepth 60000 in
theorem q_X12_behind_0 (sc : Nat × (Nat → Int)) (d : Nat) (r0 : Option Nat) (s1 : Nat) (i2 : Int) (i3 : Int) (h : am_H) : Cl sc (d + 1) mX12_behind [Vr r0, Vx (s1 + 1), Vi i2, Vi i3] h =
  am_rcv 12 h (Vr r0) (
  clV (Cl sc d mX12_letters [Vr r0] h) am_xt fun h1 =>
  am_rcv 12 h1 (Vr r0) (
  clI (Cl sc d mX12_isWord [Vr r0, Vx (s1 + 1)] h1) am_xt fun v3 h2 =>
  if v3 = 0 then
    some (.inl (Vi (-1)), h2)
  else
    am_rcv 12 h2 (Vr r0) (
    clI (Cl sc d mX12_number [Vr r0, Vi i2, Vi i3] h2) am_xt fun v5 h4 =>
    some (.inl (Vi v5), h4)))) := (Cl_at at_X12_behind rfl _).trans rfl
theorem at_X12_told : am_at mX12_told = (cd_X12_told, [], 3) := rfl
set_option maxRecDepth 60000 in
theorem q_X12_told_0 (sc : Nat × (Nat → Int)) (d : Nat) (r0 : Option Nat) (s1 : Nat) (i2 : Int) (h : am_H) : Cl sc (d + 1) mX12_told [Vr r0, Vx (s1 + 1), Vi i2] h =
  am_rcv 12 h (Vr r0) (
  clI (Cl sc d mX12_passes [Vr r0, Vx (s1 + 1)] h) am_xt fun v2 h1 =>
  if v2 = 0 then
    some (.inl (Vi i2), h1)
  else
    am_rcv 12 h1 (Vr r0) (
    clI (Cl sc d mX12_number [Vr r0, Vi 0, Vi 999] h1) am_xt fun v4 h3 =>
    some (.inl (Vi v4), h3))) := (Cl_at at_X12_told rfl _).trans rfl
theorem at_X12_fault : am_at mX12_fault = (cd_X12_fault, [], 1) := rfl
set_option maxRecDepth 60000 in
theorem q_X12_fault_0 (sc : Nat × (Nat → Int)) (d : Nat) (r0 : Option Nat) (h : am_H) : Cl sc (d + 1) mX12_fault [Vr r0] h =
  pfI 0 12 0 h r0 0 fun h1 =>
  gfI 12 14 h1 r0 fun v2 =>
  some (.inl (Vi v2), h1) := (Cl_at at_X12_fault rfl _).trans rfl
theorem at_X12_uses : am_at mX12_uses = (cd_X12_uses, [], 1) := rfl
set_option maxRecDepth 60000 in
theorem q_X12_uses_0 (sc : Nat × (Nat → Int)) (d : Nat) (r0 : Option Nat) (h : am_H) : Cl sc (d + 1) mX12_uses [Vr r0] h =
  pfI 0 12 0 h r0 0 fun h1 =>
  gfI 12 9 h1 r0 fun v2 =>
  pfI 0 12 11 h1 r0 v2 fun h3 =>
  pfI 0 12 9 h3 r0 0 fun h4 =>
  pfI 0 12 10 h4 r0 0 fun h5 =>
  some (.inl (Vx 0), h5) := (Cl_at at_X12_uses rfl _).trans rfl
theorem at_X12_readNumber : am_at mX12_readNumber = (cd_X12_readNumber, [], 5) := rfl
set_option maxRecDepth 60000 in
theorem q_X12_readNumber_0 (sc : Nat × (Nat → Int)) (d : Nat) (r0 : Option Nat) (i1 : Int) (i2 : Int) (i3 : Int) (h : am_H) : Cl sc (d + 1) mX12_readNumber [Vr r0, Vi i1, Vi i2, Vi i3] h =
  am_rcv 12 h (Vr r0) (
  clI (Cl sc d mX12_number [Vr r0, Vi i2, Vi i3] h) am_xt fun v2 h1 =>
  gfP 12 1 h1 r0 fun p3 =>
  if v2 < 0 then
    gfP 12 1 h1 r0 fun p5 =>
    ldA 1 h1 p5 i1 fun v6 =>
    stA 1 h1 p3 i1 v6 fun h7 =>
    if v2 < 0 then
      some (.inl (Vi 0), h7)
    else
      some (.inl (Vi 1), h7)
  else
    stA 1 h1 p3 i1 v2 fun h4 =>
    if v2 < 0 then
      some (.inl (Vi 0), h4)
    else
      some (.inl (Vi 1), h4)) := (Cl_at at_X12_readNumber rfl _).trans rfl
theorem at_X12_readFence : am_at mX12_readFence = (cd_X12_readFence, [], 7) := rfl
set_option maxRecDepth 60000 in
theorem q_X12_readFence_0 (sc : Nat × (Nat → Int)) (d : Nat) (r0 : Option Nat) (h : am_H) : Cl sc (d + 1) mX12_readFence [Vr r0] h =
  am_rcv 12 h (Vr r0) (
  clI (Cl sc d mX12_number [Vr r0, Vi 0, Vi 35] h) am_xt fun v2 h1 =>
  if v2 < 0 then
    Ru sc (d + 1) mX12_readFence 14 [Vr r0, Vi v2, Vx 0, Vx 0, Vx 0, Vx 0, Vx 0] [Vi (-1)] h1
  else
    am_rcv 12 h1 (Vr r0) (
    clI (Cl sc d mX12_number [Vr r0, Vi 0, Vi 35] h1) am_xt fun v4 h3 =>
    Ru sc (d + 1) mX12_readFence 14 [Vr r0, Vi v2, Vx 0, Vx 0, Vx 0, Vx 0, Vx 0] [Vi v4] h3)) := (Cl_at at_X12_readFence rfl _).trans rfl
set_option maxRecDepth 60000 in
theorem q_X12_readFence_14 (sc : Nat × (Nat → Int)) (d : Nat) (r0 : Option Nat) (i1 : Int) (u2 : am_V) (u3 : am_V) (u4 : am_V) (u5 : am_V) (u6 : am_V) (ti0 : Int) (h : am_H) : Ru sc (d + 1) mX12_readFence 14 [Vr r0, Vi i1, u2, u3, u4, u5, u6] [Vi ti0] h =
  if ti0 < 0 then
    some (.inl (Vi 0), h)
  else
    clI (Cl sc d mX12_borderOf [Vi i1, Vi ti0] h) am_xt fun v2 h1 =>
    if v2 = (-1) then
      some (.inl (Vi 0), h1)
    else
      am_rcv 12 h1 (Vr r0) (
      clI (Cl sc d mX12_told [Vr r0, Vx 7, Vi 0] h1) am_xt fun v4 h3 =>
      if v4 < 0 then
        if (-1) < 0 then
          some (.inl (Vi 0), h3)
        else
          am_rcv 12 h3 (Vr r0) (
          clI (Cl sc d mX12_passes [Vr r0, Vx 9] h3) am_xt fun v10 h9 =>
          if v10 = 0 then
            Ru sc (d + 1) mX12_readFence 54 [Vr r0, Vi i1, Vi ti0, Vi v2, Vi v4, Vi (-1), u6] [Vi 0] h9
          else
            Ru sc (d + 1) mX12_readFence 54 [Vr r0, Vi i1, Vi ti0, Vi v2, Vi v4, Vi (-1), u6] [Vi 1] h9)
      else
        am_rcv 12 h3 (Vr r0) (
        clI (Cl sc d mX12_told [Vr r0, Vx 8, Vi 0] h3) am_xt fun v6 h5 =>
        if v6 < 0 then
          some (.inl (Vi 0), h5)
        else
          am_rcv 12 h5 (Vr r0) (
          clI (Cl sc d mX12_passes [Vr r0, Vx 9] h5) am_xt fun v8 h7 =>
          if v8 = 0 then
            Ru sc (d + 1) mX12_readFence 54 [Vr r0, Vi i1, Vi ti0, Vi v2, Vi v4, Vi v6, u6] [Vi 0] h7
          else
            Ru sc (d + 1) mX12_readFence 54 [Vr r0, Vi i1, Vi ti0, Vi v2, Vi v4, Vi v6, u6] [Vi 1] h7))) := (Ru_at at_X12_readFence 14 _ _ _).trans rfl
set_option maxRecDepth 60000 in
theorem q_X12_readFence_54 (sc : Nat × (Nat → Int)) (d : Nat) (r0 : Option Nat) (i1 : Int) (i2 : Int) (i3 : Int) (i4 : Int) (i5 : Int) (u6 : am_V) (ti0 : Int) (h : am_H) : Ru sc (d + 1) mX12_readFence 54 [Vr r0, Vi i1, Vi i2, Vi i3, Vi i4, Vi i5, u6] [Vi ti0] h =
  am_rcv 12 h (Vr r0) (
  clI (Cl sc d mX12_passes [Vr r0, Vx 10] h) am_xt fun v2 h1 =>
  if v2 = 0 then
    am_rcv 12 h1 (Vr r0) (
    clV (Cl sc d mX12_isFence [Vr r0, Vi i3, Vi i4, Vi i5, Vi ti0, Vi 0] h1) am_xt fun h3 =>
    some (.inl (Vi 1), h3))
  else
    am_rcv 12 h1 (Vr r0) (
    clV (Cl sc d mX12_isFence [Vr r0, Vi i3, Vi i4, Vi i5, Vi ti0, Vi 1] h1) am_xt fun h4 =>
    some (.inl (Vi 1), h4))) := (Ru_at at_X12_readFence 54 _ _ _).trans rfl
theorem at_X12_readRow : am_at mX12_readRow = (cd_X12_readRow, [], 4) := rfl
set_option maxRecDepth 60000 in
theorem q_X12_readRow_0 (sc : Nat × (Nat → Int)) (d : Nat) (r0 : Option Nat) (h : am_H) : Cl sc (d + 1) mX12_readRow [Vr r0] h =
  am_rcv 12 h (Vr r0) (
  clI (Cl sc d mX12_number [Vr r0, Vi 0, Vi 4] h) am_xt fun v2 h1 =>
  if v2 < 0 then
    if (-1) < 0 then
      some (.inl (Vi 0), h1)
    else
      Ru sc (d + 1) mX12_readRow 22 [Vr r0, Vi v2, Vi (-1), Vi 0] [] h1
  else
    am_rcv 12 h1 (Vr r0) (
    clI (Cl sc d mX12_behind [Vr r0, Vx 8, Vi 0, Vi 999] h1) am_xt fun v4 h3 =>
    if v4 < 0 then
      some (.inl (Vi 0), h3)
    else
      Ru sc (d + 1) mX12_readRow 22 [Vr r0, Vi v2, Vi v4, Vi 0] [] h3)) := (Cl_at at_X12_readRow rfl _).trans rfl
set_option maxRecDepth 60000 in
theorem q_X12_readRow_22 (sc : Nat × (Nat → Int)) (d : Nat) (r0 : Option Nat) (i1 : Int) (i2 : Int) (i3 : Int) (h : am_H) : Ru sc (d + 1) mX12_readRow 22 [Vr r0, Vi i1, Vi i2, Vi i3] [] h =
  if i3 < 6 then
    am_rcv 12 h (Vr r0) (
    clV (Cl sc d mX12_isFence [Vr r0, Vi (w32 ((w32 (30 + (w32 (6 * i1)))) + i3)), Vi 0, Vi i2, Vi 0, Vi 0] h) am_xt fun h1 =>
    Ru sc (d + 1) mX12_readRow 22 [Vr r0, Vi i1, Vi i2, Vi (w32 (i3 + 1))] [] h1)
  else
    some (.inl (Vi 1), h) := (Ru_at at_X12_readRow 22 _ _ _).trans rfl
theorem at_X12_readFamily : am_at mX12_readFamily = (cd_X12_readFamily, [], 5) := rfl
set_option maxRecDepth 60000 in
theorem q_X12_readFamily_0 (sc : Nat × (Nat → Int)) (d : Nat) (r0 : Option Nat) (h : am_H) : Cl sc (d + 1) mX12_readFamily [Vr r0] h =
  am_rcv 12 h (Vr r0) (
  clI (Cl sc d mX12_families [Vr r0] h) am_xt fun v2 h1 =>
  if v2 = 6 then
    some (.inl (Vi 0), h1)
  else
    am_rcv 12 h1 (Vr r0) (
    clI (Cl sc d mX12_behind [Vr r0, Vx 11, Vi 0, Vi 35] h1) am_xt fun v4 h3 =>
    if v4 < 0 then
      if (-1) < 0 then
        Ru sc (d + 1) mX12_readFamily 33 [Vr r0, Vi v2, Vi v4, Vi (-1), Vx 0] [Vi (-1)] h3
      else
        am_rcv 12 h3 (Vr r0) (
        clI (Cl sc d mX12_told [Vr r0, Vx 13, Vi 60] h3) am_xt fun v10 h9 =>
        Ru sc (d + 1) mX12_readFamily 33 [Vr r0, Vi v2, Vi v4, Vi (-1), Vx 0] [Vi v10] h9)
    else
      am_rcv 12 h3 (Vr r0) (
      clI (Cl sc d mX12_behind [Vr r0, Vx 12, Vi 0, Vi 999] h3) am_xt fun v6 h5 =>
      if v6 < 0 then
        Ru sc (d + 1) mX12_readFamily 33 [Vr r0, Vi v2, Vi v4, Vi v6, Vx 0] [Vi (-1)] h5
      else
        am_rcv 12 h5 (Vr r0) (
        clI (Cl sc d mX12_told [Vr r0, Vx 13, Vi 60] h5) am_xt fun v8 h7 =>
        Ru sc (d + 1) mX12_readFamily 33 [Vr r0, Vi v2, Vi v4, Vi v6, Vx 0] [Vi v8] h7)))) := (Cl_at at_X12_readFamily rfl _).trans rfl
set_option maxRecDepth 60000 in
theorem q_X12_readFamily_33 (sc : Nat × (Nat → Int)) (d : Nat) (r0 : Option Nat) (i1 : Int) (i2 : Int) (i3 : Int) (u4 : am_V) (ti0 : Int) (h : am_H) : Ru sc (d + 1) mX12_readFamily 33 [Vr r0, Vi i1, Vi i2, Vi i3, u4] [Vi ti0] h =
  if ti0 < 0 then
    some (.inl (Vi 0), h)
  else
    gfP 12 1 h r0 fun p1 =>
    clI (Cl sc d mX12_familyAt [Vi i1, Vi 0] h) am_xt fun v3 h2 =>
    stA 1 h2 p1 v3 i2 fun h4 =>
    gfP 12 1 h4 r0 fun p5 =>
    clI (Cl sc d mX12_familyAt [Vi i1, Vi 1] h4) am_xt fun v7 h6 =>
    stA 1 h6 p5 v7 i3 fun h8 =>
    gfP 12 1 h8 r0 fun p9 =>
    clI (Cl sc d mX12_familyAt [Vi i1, Vi 2] h8) am_xt fun v11 h10 =>
    stA 1 h10 p9 v11 ti0 fun h12 =>
    gfP 12 1 h12 r0 fun p13 =>
    clI (Cl sc d mX12_familyAt [Vi i1, Vi 3] h12) am_xt fun v15 h14 =>
    stA 1 h14 p13 v15 0 fun h16 =>
    gfP 12 1 h16 r0 fun p17 =>
    ldA 1 h16 p17 0 fun v18 =>
    stA 1 h16 p17 0 (w32 (v18 + 1)) fun h19 =>
    some (.inl (Vi 1), h19) := (Ru_at at_X12_readFamily 33 _ _ _).trans rfl
theorem at_X12_readCountyLine : am_at mX12_readCountyLine = (cd_X12_readCountyLine, [], 1) := rfl
set_option maxRecDepth 60000 in
theorem q_X12_readCountyLine_0 (sc : Nat × (Nat → Int)) (d : Nat) (r0 : Option Nat) (h : am_H) : Cl sc (d + 1) mX12_readCountyLine [Vr r0] h =
  am_rcv 12 h (Vr r0) (
  clI (Cl sc d mX12_isWord [Vr r0, Vx 2] h) am_xt fun v2 h1 =>
  if v2 = 0 then
    am_rcv 12 h1 (Vr r0) (
    clI (Cl sc d mX12_isWord [Vr r0, Vx 3] h1) am_xt fun v4 h3 =>
    if v4 = 0 then
      am_rcv 12 h3 (Vr r0) (
      clI (Cl sc d mX12_isWord [Vr r0, Vx 4] h3) am_xt fun v6 h5 =>
      if v6 = 0 then
        am_rcv 12 h5 (Vr r0) (
        clI (Cl sc d mX12_isWord [Vr r0, Vx 5] h5) am_xt fun v8 h7 =>
        if v8 = 0 then
          am_rcv 12 h7 (Vr r0) (
          clI (Cl sc d mX12_isWord [Vr r0, Vx 6] h7) am_xt fun v10 h9 =>
          if v10 = 0 then
            some (.inl (Vi 0), h9)
          else
            am_rcv 12 h9 (Vr r0) (
            clI (Cl sc d mX12_readNumber [Vr r0, Vi 3, Vi 0, Vi 999] h9) am_xt fun v12 h11 =>
            if v12 = 0 then
              some (.inl (Vi 0), h11)
            else
              some (.inl (Vi 1), h11)))
        else
          am_rcv 12 h7 (Vr r0) (
          clI (Cl sc d mX12_readNumber [Vr r0, Vi 4, Vi 0, Vi 100] h7) am_xt fun v14 h13 =>
          am_ret 1 v14 h13))
      else
        am_rcv 12 h5 (Vr r0) (
        clI (Cl sc d mX12_readFamily [Vr r0] h5) am_xt fun v16 h15 =>
        am_ret 1 v16 h15))
    else
      am_rcv 12 h3 (Vr r0) (
      clI (Cl sc d mX12_readRow [Vr r0] h3) am_xt fun v18 h17 =>
      am_ret 1 v18 h17))
  else
    am_rcv 12 h1 (Vr r0) (
    clI (Cl sc d mX12_readFence [Vr r0] h1) am_xt fun v20 h19 =>
    am_ret 1 v20 h19)) := (Cl_at at_X12_readCountyLine rfl _).trans rfl
theorem at_X12_emits : am_at mX12_emits = (cd_X12_emits, [], 3) := rfl
set_option maxRecDepth 60000 in
theorem q_X12_emits_0 (sc : Nat × (Nat → Int)) (d : Nat) (r0 : Option Nat) (i1 : Int) (i2 : Int) (h : am_H) : Cl sc (d + 1) mX12_emits [Vr r0, Vi i1, Vi i2] h =
  gfP 12 1 h r0 fun p1 =>
  gfI 12 16 h r0 fun v2 =>
  stA 1 h p1 (w32 (1529 + (w32 (2 * v2)))) i1 fun h3 =>
  gfP 12 1 h3 r0 fun p4 =>
  gfI 12 16 h3 r0 fun v5 =>
  stA 1 h3 p4 (w32 ((w32 (1529 + (w32 (2 * v5)))) + 1)) i2 fun h6 =>
  gfI 12 16 h6 r0 fun v7 =>
  pfI 0 12 16 h6 r0 (w32 (v7 + 1)) fun h8 =>
  some (.inl (Vx 0), h8) := (Cl_at at_X12_emits rfl _).trans rfl
theorem at_X12_wordOfPart : am_at mX12_wordOfPart = (cd_X12_wordOfPart, [], 1) := rfl
set_option maxRecDepth 60000 in
theorem q_X12_wordOfPart_0 (sc : Nat × (Nat → Int)) (d : Nat) (r0 : Option Nat) (h : am_H) : Cl sc (d + 1) mX12_wordOfPart [Vr r0] h =
  am_rcv 12 h (Vr r0) (
  clI (Cl sc d mX12_isWord [Vr r0, Vx 22] h) am_xt fun v2 h1 =>
  if v2 = 0 then
    am_rcv 12 h1 (Vr r0) (
    clI (Cl sc d mX12_isWord [Vr r0, Vx 7] h1) am_xt fun v4 h3 =>
    if v4 = 0 then
      am_rcv 12 h3 (Vr r0) (
      clI (Cl sc d mX12_isWord [Vr r0, Vx 8] h3) am_xt fun v6 h5 =>
      if v6 = 0 then
        am_rcv 12 h5 (Vr r0) (
        clI (Cl sc d mX12_isWord [Vr r0, Vx 23] h5) am_xt fun v8 h7 =>
        if v8 = 0 then
          am_rcv 12 h7 (Vr r0) (
          clI (Cl sc d mX12_isWord [Vr r0, Vx 24] h7) am_xt fun v10 h9 =>
          if v10 = 0 then
            am_rcv 12 h9 (Vr r0) (
            clI (Cl sc d mX12_isWord [Vr r0, Vx 6] h9) am_xt fun v12 h11 =>
            if v12 = 0 then
              some (.inl (Vi (-1)), h11)
            else
              some (.inl (Vi 5), h11))
          else
            some (.inl (Vi 4), h9))
        else
          some (.inl (Vi 3), h7))
      else
        some (.inl (Vi 2), h5))
    else
      some (.inl (Vi 1), h3))
  else
    some (.inl (Vi 0), h1)) := (Cl_at at_X12_wordOfPart rfl _).trans rfl
theorem at_X12_readPart : am_at mX12_readPart = (cd_X12_readPart, [], 3) := rfl
set_option maxRecDepth 60000 in
theorem q_X12_readPart_0 (sc : Nat × (Nat → Int)) (d : Nat) (r0 : Option Nat) (h : am_H) : Cl sc (d + 1) mX12_readPart [Vr r0] h =
  am_rcv 12 h (Vr r0) (
  clV (Cl sc d mX12_letters [Vr r0] h) am_xt fun h1 =>
  gfI 12 10 h1 r0 fun v2 =>
  gfI 12 12 h1 r0 fun v3 =>
  if v2 = v3 then
    Ru sc (d + 1) mX12_readPart 11 [Vr r0, Vx 0, Vx 0] [Vi 1] h1
  else
    Ru sc (d + 1) mX12_readPart 11 [Vr r0, Vx 0, Vx 0] [Vi 0] h1) := (Cl_at at_X12_readPart rfl _).trans rfl
set_option maxRecDepth 60000 in
theorem q_X12_readPart_11 (sc : Nat × (Nat → Int)) (d : Nat) (r0 : Option Nat) (u1 : am_V) (u2 : am_V) (ti0 : Int) (h : am_H) : Ru sc (d + 1) mX12_readPart 11 [Vr r0, u1, u2] [Vi ti0] h =
  if ti0 = 0 then
    am_rcv 12 h (Vr r0) (
    clI (Cl sc d mX12_wordOfPart [Vr r0] h) am_xt fun v2 h1 =>
    if ti0 = 0 then
      Ru sc (d + 1) mX12_readPart 29 [Vr r0, Vi ti0, Vi v2] [Vi v2, Vr r0] h1
    else
      Ru sc (d + 1) mX12_readPart 29 [Vr r0, Vi ti0, Vi v2] [Vi 9, Vr r0] h1)
  else
    am_rcv 12 h (Vr r0) (
    clI (Cl sc d mX12_number [Vr r0, Vi 0, Vi 999] h) am_xt fun v4 h3 =>
    if ti0 = 0 then
      Ru sc (d + 1) mX12_readPart 29 [Vr r0, Vi ti0, Vi v4] [Vi v4, Vr r0] h3
    else
      Ru sc (d + 1) mX12_readPart 29 [Vr r0, Vi ti0, Vi v4] [Vi 9, Vr r0] h3) := (Ru_at at_X12_readPart 11 _ _ _).trans rfl
set_option maxRecDepth 60000 in
theorem q_X12_readPart_29 (sc : Nat × (Nat → Int)) (d : Nat) (r0 : Option Nat) (i1 : Int) (i2 : Int) (ti0 : Int) (tr1 : Option Nat) (h : am_H) : Ru sc (d + 1) mX12_readPart 29 [Vr r0, Vi i1, Vi i2] [Vi ti0, Vr tr1] h =
  if i1 = 0 then
    am_rcv 12 h (Vr tr1) (
    clV (Cl sc d mX12_emits [Vr tr1, Vi ti0, Vi 0] h) am_xt fun h1 =>
    if i2 < 0 then
      some (.inl (Vi 0), h1)
    else
      some (.inl (Vi 1), h1))
  else
    am_rcv 12 h (Vr tr1) (
    clV (Cl sc d mX12_emits [Vr tr1, Vi ti0, Vi i2] h) am_xt fun h2 =>
    if i2 < 0 then
      some (.inl (Vi 0), h2)
    else
      some (.inl (Vi 1), h2)) := (Ru_at at_X12_readPart 29 _ _ _).trans rfl
theorem at_X12_readSum : am_at mX12_readSum = (cd_X12_readSum, [], 1) := rfl
set_option maxRecDepth 60000 in
theorem q_X12_readSum_0 (sc : Nat × (Nat → Int)) (d : Nat) (r0 : Option Nat) (h : am_H) : Cl sc (d + 1) mX12_readSum [Vr r0] h =
  am_rcv 12 h (Vr r0) (
  clI (Cl sc d mX12_readPart [Vr r0] h) am_xt fun v2 h1 =>
  if v2 = 0 then
    some (.inl (Vi 0), h1)
  else
    Ru sc (d + 1) mX12_readSum 5 [Vr r0] [] h1) := (Cl_at at_X12_readSum rfl _).trans rfl
set_option maxRecDepth 60000 in
theorem q_X12_readSum_5 (sc : Nat × (Nat → Int)) (d : Nat) (r0 : Option Nat) (h : am_H) : Ru sc (d + 1) mX12_readSum 5 [Vr r0] [] h =
  am_rcv 12 h (Vr r0) (
  clI (Cl sc d mX12_sign [Vr r0, Vi 43] h) am_xt fun v2 h1 =>
  if v2 = 0 then
    some (.inl (Vi 1), h1)
  else
    am_rcv 12 h1 (Vr r0) (
    clI (Cl sc d mX12_readPart [Vr r0] h1) am_xt fun v4 h3 =>
    if v4 = 0 then
      some (.inl (Vi 0), h3)
    else
      am_rcv 12 h3 (Vr r0) (
      clV (Cl sc d mX12_emits [Vr r0, Vi 10, Vi 0] h3) am_xt fun h5 =>
      Ru sc (d + 1) mX12_readSum 5 [Vr r0] [] h5))) := (Ru_at at_X12_readSum 5 _ _ _).trans rfl
theorem at_X12_readTag : am_at mX12_readTag = (cd_X12_readTag, [], 2) := rfl
set_option maxRecDepth 60000 in
theorem q_X12_readTag_0 (sc : Nat × (Nat → Int)) (d : Nat) (r0 : Option Nat) (h : am_H) : Cl sc (d + 1) mX12_readTag [Vr r0] h =
  am_rcv 12 h (Vr r0) (
  clV (Cl sc d mX12_letters [Vr r0] h) am_xt fun h1 =>
  am_rcv 12 h1 (Vr r0) (
  clI (Cl sc d mX12_isWord [Vr r0, Vx 9] h1) am_xt fun v3 h2 =>
  if v3 = 0 then
    am_rcv 12 h2 (Vr r0) (
    clI (Cl sc d mX12_isWord [Vr r0, Vx 10] h2) am_xt fun v5 h4 =>
    if v5 = 0 then
      am_rcv 12 h4 (Vr r0) (
      clI (Cl sc d mX12_isWord [Vr r0, Vx 21] h4) am_xt fun v7 h6 =>
      if v7 = 0 then
        Ru sc (d + 1) mX12_readTag 22 [Vr r0, Vx 0] [Vi (-1)] h6
      else
        Ru sc (d + 1) mX12_readTag 22 [Vr r0, Vx 0] [Vi 8] h6)
    else
      Ru sc (d + 1) mX12_readTag 22 [Vr r0, Vx 0] [Vi 7] h4)
  else
    Ru sc (d + 1) mX12_readTag 22 [Vr r0, Vx 0] [Vi 6] h2)) := (Cl_at at_X12_readTag rfl _).trans rfl
set_option maxRecDepth 60000 in
theorem q_X12_readTag_22 (sc : Nat × (Nat → Int)) (d : Nat) (r0 : Option Nat) (u1 : am_V) (ti0 : Int) (h : am_H) : Ru sc (d + 1) mX12_readTag 22 [Vr r0, u1] [Vi ti0] h =
  if ti0 < 0 then
    gfI 12 12 h r0 fun v1 =>
    pfI 0 12 10 h r0 v1 fun h2 =>
    if ti0 < 0 then
      some (.inl (Vi 0), h2)
    else
      some (.inl (Vi 1), h2)
  else
    am_rcv 12 h (Vr r0) (
    clV (Cl sc d mX12_emits [Vr r0, Vi ti0, Vi 0] h) am_xt fun h3 =>
    if ti0 < 0 then
      some (.inl (Vi 0), h3)
    else
      some (.inl (Vi 1), h3)) := (Ru_at at_X12_readTag 22 _ _ _).trans rfl
theorem at_X12_readAtom : am_at mX12_readAtom = (cd_X12_readAtom, [], 2) := rfl
set_option maxRecDepth 60000 in
theorem q_X12_readAtom_0 (sc : Nat × (Nat → Int)) (d : Nat) (r0 : Option Nat) (h : am_H) : Cl sc (d + 1) mX12_readAtom [Vr r0] h =
  am_rcv 12 h (Vr r0) (
  clI (Cl sc d mX12_sign [Vr r0, Vi 40] h) am_xt fun v2 h1 =>
  if v2 = 0 then
    am_rcv 12 h1 (Vr r0) (
    clI (Cl sc d mX12_passes [Vr r0, Vx 20] h1) am_xt fun v4 h3 =>
    if v4 = 0 then
      am_rcv 12 h3 (Vr r0) (
      clI (Cl sc d mX12_readTag [Vr r0] h3) am_xt fun v6 h5 =>
      if v6 = 0 then
        am_rcv 12 h5 (Vr r0) (
        clI (Cl sc d mX12_readSum [Vr r0] h5) am_xt fun v8 h7 =>
        if v8 = 0 then
          some (.inl (Vi 0), h7)
        else
          am_rcv 12 h7 (Vr r0) (
          clI (Cl sc d mX12_sign [Vr r0, Vi 60] h7) am_xt fun v10 h9 =>
          if v10 = 0 then
            am_rcv 12 h9 (Vr r0) (
            clI (Cl sc d mX12_sign [Vr r0, Vi 62] h9) am_xt fun v12 h11 =>
            if v12 = 0 then
              some (.inl (Vi 0), h11)
            else
              Ru sc (d + 1) mX12_readAtom 85 [Vr r0, Vi v10] [] h11)
          else
            Ru sc (d + 1) mX12_readAtom 85 [Vr r0, Vi v10] [] h9))
      else
        some (.inl (Vi 1), h5))
    else
      gfI 12 13 h3 r0 fun v13 =>
      if v13 = 6 then
        some (.inl (Vi 0), h3)
      else
        gfI 12 13 h3 r0 fun v14 =>
        pfI 0 12 13 h3 r0 (w32 (v14 + 1)) fun h15 =>
        am_rcv 12 h15 (Vr r0) (
        clI (Cl sc d mX12_readAtom [Vr r0] h15) am_xt fun v17 h16 =>
        if v17 = 0 then
          some (.inl (Vi 0), h16)
        else
          gfI 12 13 h16 r0 fun v18 =>
          pfI 0 12 13 h16 r0 (w32 (v18 - 1)) fun h19 =>
          am_rcv 12 h19 (Vr r0) (
          clV (Cl sc d mX12_emits [Vr r0, Vi 13, Vi 0] h19) am_xt fun h20 =>
          some (.inl (Vi 1), h20))))
  else
    gfI 12 13 h1 r0 fun v21 =>
    if v21 = 6 then
      some (.inl (Vi 0), h1)
    else
      gfI 12 13 h1 r0 fun v22 =>
      pfI 0 12 13 h1 r0 (w32 (v22 + 1)) fun h23 =>
      am_rcv 12 h23 (Vr r0) (
      clI (Cl sc d mX12_readCond [Vr r0] h23) am_xt fun v25 h24 =>
      if v25 = 0 then
        some (.inl (Vi 0), h24)
      else
        gfI 12 13 h24 r0 fun v26 =>
        pfI 0 12 13 h24 r0 (w32 (v26 - 1)) fun h27 =>
        am_rcv 12 h27 (Vr r0) (
        clI (Cl sc d mX12_sign [Vr r0, Vi 41] h27) am_xt fun v29 h28 =>
        am_ret 1 v29 h28))) := (Cl_at at_X12_readAtom rfl _).trans rfl
set_option maxRecDepth 60000 in
theorem q_X12_readAtom_85 (sc : Nat × (Nat → Int)) (d : Nat) (r0 : Option Nat) (i1 : Int) (h : am_H) : Ru sc (d + 1) mX12_readAtom 85 [Vr r0, Vi i1] [] h =
  am_rcv 12 h (Vr r0) (
  clI (Cl sc d mX12_readSum [Vr r0] h) am_xt fun v2 h1 =>
  if v2 = 0 then
    some (.inl (Vi 0), h1)
  else
    if i1 = 0 then
      am_rcv 12 h1 (Vr r0) (
      clV (Cl sc d mX12_emits [Vr r0, Vi 12, Vi 0] h1) am_xt fun h3 =>
      some (.inl (Vi 1), h3))
    else
      am_rcv 12 h1 (Vr r0) (
      clV (Cl sc d mX12_emits [Vr r0, Vi 11, Vi 0] h1) am_xt fun h4 =>
      some (.inl (Vi 1), h4))) := (Ru_at at_X12_readAtom 85 _ _ _).trans rfl
theorem at_X12_readAllOf : am_at mX12_readAllOf = (cd_X12_readAllOf, [], 1) := rfl
set_option maxRecDepth 60000 in
theorem q_X12_readAllOf_0 (sc : Nat × (Nat → Int)) (d : Nat) (r0 : Option Nat) (h : am_H) : Cl sc (d + 1) mX12_readAllOf [Vr r0] h =
  am_rcv 12 h (Vr r0) (
  clI (Cl sc d mX12_readAtom [Vr r0] h) am_xt fun v2 h1 =>
  if v2 = 0 then
    some (.inl (Vi 0), h1)
  else
    Ru sc (d + 1) mX12_readAllOf 5 [Vr r0] [] h1) := (Cl_at at_X12_readAllOf rfl _).trans rfl
set_option maxRecDepth 60000 in
theorem q_X12_readAllOf_5 (sc : Nat × (Nat → Int)) (d : Nat) (r0 : Option Nat) (h : am_H) : Ru sc (d + 1) mX12_readAllOf 5 [Vr r0] [] h =
  am_rcv 12 h (Vr r0) (
  clI (Cl sc d mX12_passes [Vr r0, Vx 19] h) am_xt fun v2 h1 =>
  if v2 = 0 then
    some (.inl (Vi 1), h1)
  else
    am_rcv 12 h1 (Vr r0) (
    clI (Cl sc d mX12_readAtom [Vr r0] h1) am_xt fun v4 h3 =>
    if v4 = 0 then
      some (.inl (Vi 0), h3)
    else
      am_rcv 12 h3 (Vr r0) (
      clV (Cl sc d mX12_emits [Vr r0, Vi 14, Vi 0] h3) am_xt fun h5 =>
      Ru sc (d + 1) mX12_readAllOf 5 [Vr r0] [] h5))) := (Ru_at at_X12_readAllOf 5 _ _ _).trans rfl
theorem at_X12_readCond : am_at mX12_readCond = (cd_X12_readCond, [], 1) := rfl
set_option maxRecDepth 60000 in
theorem q_X12_readCond_0 (sc : Nat × (Nat → Int)) (d : Nat) (r0 : Option Nat) (h : am_H) : Cl sc (d + 1) mX12_readCond [Vr r0] h =
  am_rcv 12 h (Vr r0) (
  clI (Cl sc d mX12_readAllOf [Vr r0] h) am_xt fun v2 h1 =>
  if v2 = 0 then
    some (.inl (Vi 0), h1)
  else
    Ru sc (d + 1) mX12_readCond 5 [Vr r0] [] h1) := (Cl_at at_X12_readCond rfl _).trans rfl
set_option maxRecDepth 60000 in
theorem q_X12_readCond_5 (sc : Nat × (Nat → Int)) (d : Nat) (r0 : Option Nat) (h : am_H) : Ru sc (d + 1) mX12_readCond 5 [Vr r0] [] h =
  am_rcv 12 h (Vr r0) (
  clI (Cl sc d mX12_passes [Vr r0, Vx 18] h) am_xt fun v2 h1 =>
  if v2 = 0 then
    some (.inl (Vi 1), h1)
  else
    am_rcv 12 h1 (Vr r0) (
    clI (Cl sc d mX12_readAllOf [Vr r0] h1) am_xt fun v4 h3 =>
    if v4 = 0 then
      some (.inl (Vi 0), h3)
    else
      am_rcv 12 h3 (Vr r0) (
      clV (Cl sc d mX12_emits [Vr r0, Vi 15, Vi 0] h3) am_xt fun h5 =>
      Ru sc (d + 1) mX12_readCond 5 [Vr r0] [] h5))) := (Ru_at at_X12_readCond 5 _ _ _).trans rfl
theorem at_X12_readLawLine : am_at mX12_readLawLine = (cd_X12_readLawLine, [], 3) := rfl
set_option maxRecDepth 60000 in
theorem q_X12_readLawLine_0 (sc : Nat × (Nat → Int)) (d : Nat) (r0 : Option Nat) (i1 : Int) (h : am_H) : Cl sc (d + 1) mX12_readLawLine [Vr r0, Vi i1] h =
  gfP 12 1 h r0 fun p1 =>
  am_rcv 12 h (Vr r0) (
  clI (Cl sc d mX12_isWord [Vr r0, Vx 14] h) am_xt fun v3 h2 =>
  if v3 = 0 then
    am_rcv 12 h2 (Vr r0) (
    clI (Cl sc d mX12_isWord [Vr r0, Vx 15] h2) am_xt fun v5 h4 =>
    if v5 = 0 then
      am_rcv 12 h4 (Vr r0) (
      clI (Cl sc d mX12_isWord [Vr r0, Vx 16] h4) am_xt fun v7 h6 =>
      if v7 = 0 then
        Ru sc (d + 1) mX12_readLawLine 29 [Vr r0, Vi i1, Vi (w32 (1481 + (w32 (4 * i1))))] [Vi (-1), Vi (w32 (1481 + (w32 (4 * i1)))), Vr p1] h6
      else
        Ru sc (d + 1) mX12_readLawLine 29 [Vr r0, Vi i1, Vi (w32 (1481 + (w32 (4 * i1))))] [Vi 2, Vi (w32 (1481 + (w32 (4 * i1)))), Vr p1] h6)
    else
      Ru sc (d + 1) mX12_readLawLine 29 [Vr r0, Vi i1, Vi (w32 (1481 + (w32 (4 * i1))))] [Vi 1, Vi (w32 (1481 + (w32 (4 * i1)))), Vr p1] h4)
  else
    Ru sc (d + 1) mX12_readLawLine 29 [Vr r0, Vi i1, Vi (w32 (1481 + (w32 (4 * i1))))] [Vi 0, Vi (w32 (1481 + (w32 (4 * i1)))), Vr p1] h2) := (Cl_at at_X12_readLawLine rfl _).trans rfl
set_option maxRecDepth 60000 in
theorem q_X12_readLawLine_29 (sc : Nat × (Nat → Int)) (d : Nat) (r0 : Option Nat) (i1 : Int) (i2 : Int) (ti0 : Int) (ti1 : Int) (tr2 : Option Nat) (h : am_H) : Ru sc (d + 1) mX12_readLawLine 29 [Vr r0, Vi i1, Vi i2] [Vi ti0, Vi ti1, Vr tr2] h =
  stA 1 h tr2 ti1 ti0 fun h1 =>
  gfP 12 1 h1 r0 fun p2 =>
  ldA 1 h1 p2 i2 fun v3 =>
  if v3 < 0 then
    some (.inl (Vi 0), h1)
  else
    gfP 12 1 h1 r0 fun p4 =>
    am_rcv 12 h1 (Vr r0) (
    clI (Cl sc d mX12_number [Vr r0, Vi 0, Vi 60] h1) am_xt fun v6 h5 =>
    stA 1 h5 p4 (w32 (i2 + 1)) v6 fun h7 =>
    gfP 12 1 h7 r0 fun p8 =>
    ldA 1 h7 p8 (w32 (i2 + 1)) fun v9 =>
    if v9 < 0 then
      some (.inl (Vi 0), h7)
    else
      gfP 12 1 h7 r0 fun p10 =>
      gfI 12 16 h7 r0 fun v11 =>
      stA 1 h7 p10 (w32 (i2 + 2)) v11 fun h12 =>
      pfI 0 12 13 h12 r0 0 fun h13 =>
      am_rcv 12 h13 (Vr r0) (
      clI (Cl sc d mX12_passes [Vr r0, Vx 17] h13) am_xt fun v15 h14 =>
      if v15 = 0 then
        gfP 12 1 h14 r0 fun p16 =>
        gfI 12 16 h14 r0 fun v17 =>
        stA 1 h14 p16 (w32 (i2 + 3)) v17 fun h18 =>
        some (.inl (Vi 1), h18)
      else
        am_rcv 12 h14 (Vr r0) (
        clI (Cl sc d mX12_readCond [Vr r0] h14) am_xt fun v20 h19 =>
        if v20 = 0 then
          some (.inl (Vi 0), h19)
        else
          gfP 12 1 h19 r0 fun p21 =>
          gfI 12 16 h19 r0 fun v22 =>
          stA 1 h19 p21 (w32 (i2 + 3)) v22 fun h23 =>
          some (.inl (Vi 1), h23)))) := (Ru_at at_X12_readLawLine 29 _ _ _).trans rfl
theorem at_X12_readLine : am_at mX12_readLine = (cd_X12_readLine, [], 3) := rfl
set_option maxRecDepth 60000 in
theorem q_X12_readLine_0 (sc : Nat × (Nat → Int)) (d : Nat) (r0 : Option Nat) (i1 : Int) (i2 : Int) (h : am_H) : Cl sc (d + 1) mX12_readLine [Vr r0, Vi i1, Vi i2] h =
  am_rcv 12 h (Vr r0) (
  clV (Cl sc d mX12_letters [Vr r0] h) am_xt fun h1 =>
  if i1 = 0 then
    Ru sc (d + 1) mX12_readLine 9 [Vr r0, Vi i1, Vi i2] [Vi 12, Vi i2] h1
  else
    Ru sc (d + 1) mX12_readLine 9 [Vr r0, Vi i1, Vi i2] [Vi 14, Vi i2] h1) := (Cl_at at_X12_readLine rfl _).trans rfl
set_option maxRecDepth 60000 in
theorem q_X12_readLine_9 (sc : Nat × (Nat → Int)) (d : Nat) (r0 : Option Nat) (i1 : Int) (i2 : Int) (ti0 : Int) (ti1 : Int) (h : am_H) : Ru sc (d + 1) mX12_readLine 9 [Vr r0, Vi i1, Vi i2] [Vi ti0, Vi ti1] h =
  if ti1 < ti0 then
    if i1 = 0 then
      am_rcv 12 h (Vr r0) (
      clI (Cl sc d mX12_readLawLine [Vr r0, Vi i2] h) am_xt fun v2 h1 =>
      if v2 = 0 then
        some (.inl (Vi 0), h1)
      else
        some (.inl (Vi 1), h1))
    else
      am_rcv 12 h (Vr r0) (
      clI (Cl sc d mX12_readCountyLine [Vr r0] h) am_xt fun v4 h3 =>
      if v4 = 0 then
        some (.inl (Vi 0), h3)
      else
        some (.inl (Vi 1), h3))
  else
    some (.inl (Vi 0), h) := (Ru_at at_X12_readLine 9 _ _ _).trans rfl
theorem at_X12_readAll : am_at mX12_readAll = (cd_X12_readAll, [], 3) := rfl
set_option maxRecDepth 60000 in
theorem q_X12_readAll_0 (sc : Nat × (Nat → Int)) (d : Nat) (r0 : Option Nat) (i1 : Int) (h : am_H) : Cl sc (d + 1) mX12_readAll [Vr r0, Vi i1] h =
  am_rcv 12 h (Vr r0) (
  clV (Cl sc d mX12_uses [Vr r0] h) am_xt fun h1 =>
  pfI 0 12 16 h1 r0 0 fun h2 =>
  am_rcv 12 h2 (Vr r0) (
  clV (Cl sc d mX12_blanks [Vr r0] h2) am_xt fun h3 =>
  gfI 12 10 h3 r0 fun v4 =>
  gfI 12 11 h3 r0 fun v5 =>
  if v4 = v5 then
    some (.inl (Vi 0), h3)
  else
    Ru sc (d + 1) mX12_readAll 17 [Vr r0, Vi i1, Vi 0] [] h3)) := (Cl_at at_X12_readAll rfl _).trans rfl
set_option maxRecDepth 60000 in
theorem q_X12_readAll_17 (sc : Nat × (Nat → Int)) (d : Nat) (r0 : Option Nat) (i1 : Int) (i2 : Int) (h : am_H) : Ru sc (d + 1) mX12_readAll 17 [Vr r0, Vi i1, Vi i2] [] h =
  am_rcv 12 h (Vr r0) (
  clI (Cl sc d mX12_readLine [Vr r0, Vi i1, Vi i2] h) am_xt fun v2 h1 =>
  if v2 = 0 then
    some (.inl (Vi (-1)), h1)
  else
    am_rcv 12 h1 (Vr r0) (
    clV (Cl sc d mX12_blanks [Vr r0] h1) am_xt fun h3 =>
    gfI 12 10 h3 r0 fun v4 =>
    gfI 12 11 h3 r0 fun v5 =>
    if v4 = v5 then
      some (.inl (Vi (w32 (i2 + 1))), h3)
    else
      am_rcv 12 h3 (Vr r0) (
      clI (Cl sc d mX12_isAt [Vr r0, Vi 59, Vi 59] h3) am_xt fun v7 h6 =>
      if v7 = 0 then
        some (.inl (Vi (-1)), h6)
      else
        gfI 12 10 h6 r0 fun v8 =>
        pfI 0 12 10 h6 r0 (w32 (v8 + 1)) fun h9 =>
        Ru sc (d + 1) mX12_readAll 17 [Vr r0, Vi i1, Vi (w32 (i2 + 1))] [] h9))) := (Ru_at at_X12_readAll 17 _ _ _).trans rfl
theorem at_X12_county : am_at mX12_county = (cd_X12_county, [], 3) := rfl
set_option maxRecDepth 60000 in
theorem q_X12_county_0 (sc : Nat × (Nat → Int)) (d : Nat) (r0 : Option Nat) (h : am_H) : Cl sc (d + 1) mX12_county [Vr r0] h =
  Ru sc (d + 1) mX12_county 3 [Vr r0, Vi 0, Vx 0] [] h := (Cl_at at_X12_county rfl _).trans rfl
set_option maxRecDepth 60000 in
theorem q_X12_county_3 (sc : Nat × (Nat → Int)) (d : Nat) (r0 : Option Nat) (i1 : Int) (u2 : am_V) (h : am_H) : Ru sc (d + 1) mX12_county 3 [Vr r0, Vi i1, u2] [] h =
  if i1 < 1480 then
    gfP 12 3 h r0 fun p6 =>
    gfP 12 1 h r0 fun p7 =>
    ldA 1 h p7 i1 fun v8 =>
    stA 1 h p6 i1 v8 fun h9 =>
    Ru sc (d + 1) mX12_county 3 [Vr r0, Vi (w32 (i1 + 1)), u2] [] h9
  else
    am_rcv 12 h (Vr r0) (
    clI (Cl sc d mX12_readAll [Vr r0, Vi 1] h) am_xt fun v2 h1 =>
    if v2 < 0 then
      gfI 12 12 h1 r0 fun v4 =>
      pfI 0 12 14 h1 r0 v4 fun h5 =>
      if v2 < 0 then
        Ru sc (d + 1) mX12_county 35 [Vr r0, Vi v2, u2] [Vi 1, Vr r0] h5
      else
        Ru sc (d + 1) mX12_county 35 [Vr r0, Vi v2, u2] [Vi 0, Vr r0] h5
    else
      pfI 0 12 14 h1 r0 (-1) fun h3 =>
      if v2 < 0 then
        Ru sc (d + 1) mX12_county 35 [Vr r0, Vi v2, u2] [Vi 1, Vr r0] h3
      else
        Ru sc (d + 1) mX12_county 35 [Vr r0, Vi v2, u2] [Vi 0, Vr r0] h3) := (Ru_at at_X12_county 3 _ _ _).trans rfl
set_option maxRecDepth 60000 in
theorem q_X12_county_35 (sc : Nat × (Nat → Int)) (d : Nat) (r0 : Option Nat) (i1 : Int) (u2 : am_V) (ti0 : Int) (tr1 : Option Nat) (h : am_H) : Ru sc (d + 1) mX12_county 35 [Vr r0, Vi i1, u2] [Vi ti0, Vr tr1] h =
  am_rcv 12 h (Vr tr1) (
  clI (Cl sc d mX12_throwsIf [Vr tr1, Vi ti0, Vi 1] h) am_xt fun v2 h1 =>
  if v2 = 0 then
    gfP 12 1 h1 r0 fun p3 =>
    ldA 1 h1 p3 1 fun v4 =>
    if v4 = 12 then
      Ru sc (d + 1) mX12_county 49 [Vr r0, Vi i1, u2] [Vi 1, Vr r0] h1
    else
      Ru sc (d + 1) mX12_county 49 [Vr r0, Vi i1, u2] [Vi 0, Vr r0] h1
  else
    Ru sc (d + 1) mX12_county 55 [Vr r0, Vi i1, Vi 0] [] h1) := (Ru_at at_X12_county 35 _ _ _).trans rfl
set_option maxRecDepth 60000 in
theorem q_X12_county_49 (sc : Nat × (Nat → Int)) (d : Nat) (r0 : Option Nat) (i1 : Int) (u2 : am_V) (ti0 : Int) (tr1 : Option Nat) (h : am_H) : Ru sc (d + 1) mX12_county 49 [Vr r0, Vi i1, u2] [Vi ti0, Vr tr1] h =
  am_rcv 12 h (Vr tr1) (
  clI (Cl sc d mX12_throwsIf [Vr tr1, Vi ti0, Vi 2] h) am_xt fun v2 h1 =>
  if v2 = 0 then
    gfP 12 1 h1 r0 fun p3 =>
    ldA 1 h1 p3 1 fun v4 =>
    stA 1 h1 p3 1 (w32 (v4 + 1)) fun h5 =>
    pfI 0 12 7 h5 r0 0 fun h6 =>
    gfP 12 1 h6 r0 fun p7 =>
    ldA 1 h6 p7 1 fun v8 =>
    some (.inl (Vi v8), h6)
  else
    Ru sc (d + 1) mX12_county 55 [Vr r0, Vi i1, Vi 0] [] h1) := (Ru_at at_X12_county 49 _ _ _).trans rfl
set_option maxRecDepth 60000 in
theorem q_X12_county_55 (sc : Nat × (Nat → Int)) (d : Nat) (r0 : Option Nat) (i1 : Int) (i2 : Int) (h : am_H) : Ru sc (d + 1) mX12_county 55 [Vr r0, Vi i1, Vi i2] [] h =
  if i2 < 1480 then
    gfP 12 1 h r0 fun p1 =>
    gfP 12 3 h r0 fun p2 =>
    ldA 1 h p2 i2 fun v3 =>
    stA 1 h p1 i2 v3 fun h4 =>
    Ru sc (d + 1) mX12_county 55 [Vr r0, Vi i1, Vi (w32 (i2 + 1))] [] h4
  else
    some (.inl (Vi 0), h) := (Ru_at at_X12_county 55 _ _ _).trans rfl
theorem at_X12_law : am_at mX12_law = (cd_X12_law, [], 3) := rfl
set_option maxRecDepth 60000 in
theorem q_X12_law_0 (sc : Nat × (Nat → Int)) (d : Nat) (r0 : Option Nat) (h : am_H) : Cl sc (d + 1) mX12_law [Vr r0] h =
  am_rcv 12 h (Vr r0) (
  clI (Cl sc d mX12_readAll [Vr r0, Vi 0] h) am_xt fun v2 h1 =>
  if v2 < 0 then
    gfI 12 12 h1 r0 fun v3 =>
    Ru sc (d + 1) mX12_law 12 [Vr r0, Vi v2, Vx 0] [Vi v3, Vr r0] h1
  else
    Ru sc (d + 1) mX12_law 12 [Vr r0, Vi v2, Vx 0] [Vi (-1), Vr r0] h1) := (Cl_at at_X12_law rfl _).trans rfl
set_option maxRecDepth 60000 in
theorem q_X12_law_12 (sc : Nat × (Nat → Int)) (d : Nat) (r0 : Option Nat) (i1 : Int) (u2 : am_V) (ti0 : Int) (tr1 : Option Nat) (h : am_H) : Ru sc (d + 1) mX12_law 12 [Vr r0, Vi i1, u2] [Vi ti0, Vr tr1] h =
  pfI 0 12 14 h tr1 ti0 fun h1 =>
  if i1 < 0 then
    am_rcv 12 h1 (Vr r0) (
    clI (Cl sc d mX12_throwsIf [Vr r0, Vi 1, Vi 1] h1) am_xt fun v7 h6 =>
    if v7 = 0 then
      gfP 12 1 h6 r0 fun p8 =>
      stA 1 h6 p8 1480 i1 fun h9 =>
      Ru sc (d + 1) mX12_law 32 [Vr r0, Vi i1, Vi 0] [] h9
    else
      some (.inl (Vi 0), h6))
  else
    am_rcv 12 h1 (Vr r0) (
    clI (Cl sc d mX12_throwsIf [Vr r0, Vi 0, Vi 1] h1) am_xt fun v3 h2 =>
    if v3 = 0 then
      gfP 12 1 h2 r0 fun p4 =>
      stA 1 h2 p4 1480 i1 fun h5 =>
      Ru sc (d + 1) mX12_law 32 [Vr r0, Vi i1, Vi 0] [] h5
    else
      some (.inl (Vi 0), h2)) := (Ru_at at_X12_law 12 _ _ _).trans rfl
set_option maxRecDepth 60000 in
theorem q_X12_law_32 (sc : Nat × (Nat → Int)) (d : Nat) (r0 : Option Nat) (i1 : Int) (i2 : Int) (h : am_H) : Ru sc (d + 1) mX12_law 32 [Vr r0, Vi i1, Vi i2] [] h =
  if i2 < 849 then
    gfP 12 1 h r0 fun p4 =>
    gfP 12 1 h r0 fun p5 =>
    ldA 1 h p5 (w32 (1480 + i2)) fun v6 =>
    stA 1 h p4 (w32 (631 + i2)) v6 fun h7 =>
    Ru sc (d + 1) mX12_law 32 [Vr r0, Vi i1, Vi (w32 (i2 + 1))] [] h7
  else
    gfP 12 1 h r0 fun p1 =>
    stA 1 h p1 2 1 fun h2 =>
    pfI 0 12 7 h2 r0 0 fun h3 =>
    some (.inl (Vi i1), h3) := (Ru_at at_X12_law 32 _ _ _).trans rfl
theorem at_X12_factOf : am_at mX12_factOf = (cd_X12_factOf, [], 4) := rfl
set_option maxRecDepth 60000 in
theorem q_X12_factOf_0 (sc : Nat × (Nat → Int)) (d : Nat) (r0 : Option Nat) (i1 : Int) (i2 : Int) (i3 : Int) (h : am_H) : Cl sc (d + 1) mX12_factOf [Vr r0, Vi i1, Vi i2, Vi i3] h =
  if i1 = 0 then
    some (.inl (Vi i3), h)
  else if i1 = 1 then
    am_rcv 12 h (Vr r0) (
    clI (Cl sc d mX12_of [Vr r0, Vi i3, Vi 1] h) am_xt fun v2 h1 =>
    some (.inl (Vi v2), h1))
  else if i1 = 2 then
    am_rcv 12 h (Vr r0) (
    clI (Cl sc d mX12_of [Vr r0, Vi i3, Vi 2] h) am_xt fun v4 h3 =>
    some (.inl (Vi v4), h3))
  else if i1 = 3 then
    clI (Cl sc d mX12_lessOf [Vi i3] h) am_xt fun v6 h5 =>
    if 6 = 0 then none else
    some (.inl (Vi (v6.tmod 6)), h5)
  else if i1 = 4 then
    clI (Cl sc d mX12_lessOf [Vi i3] h) am_xt fun v8 h7 =>
    if 6 = 0 then none else
    some (.inl (Vi (w32 (v8.tdiv 6))), h7)
  else if i1 = 5 then
    gfP 12 1 h r0 fun p9 =>
    ldA 1 h p9 3 fun v10 =>
    if 100 = 0 then none else
    some (.inl (Vi (v10.tmod 100)), h)
  else if i1 = 6 then
    am_rcv 12 h (Vr r0) (
    clI (Cl sc d mX12_of [Vr r0, Vi i3, Vi 3] h) am_xt fun v12 h11 =>
    some (.inl (Vi v12), h11))
  else if i1 = 7 then
    am_rcv 12 h (Vr r0) (
    clI (Cl sc d mX12_of [Vr r0, Vi i3, Vi 4] h) am_xt fun v14 h13 =>
    some (.inl (Vi v14), h13))
  else if i1 = 8 then
    clI (Cl sc d mX12_isAcross [Vi i3] h) am_xt fun v16 h15 =>
    if v16 = 0 then
      some (.inl (Vi 0), h15)
    else
      some (.inl (Vi 1), h15)
  else some (.inl (Vi i2), h) := (Cl_at at_X12_factOf rfl _).trans rfl
theorem at_X12_holdsLine : am_at mX12_holdsLine = (cd_X12_holdsLine, [], 10) := rfl
set_option maxRecDepth 60000 in
theorem q_X12_holdsLine_0 (sc : Nat × (Nat → Int)) (d : Nat) (r0 : Option Nat) (i1 : Int) (i2 : Int) (h : am_H) : Cl sc (d + 1) mX12_holdsLine [Vr r0, Vi i1, Vi i2] h =
  gfP 12 1 h r0 fun p1 =>
  ldA 1 h p1 (w32 ((w32 (632 + (w32 (4 * i1)))) + 2)) fun v2 =>
  Ru sc (d + 1) mX12_holdsLine 16 [Vr r0, Vi i1, Vi i2, Vi 0, Vi (w32 (632 + (w32 (4 * i1)))), Vi v2, Vx 0, Vx 0, Vx 0, Vx 0] [] h := (Cl_at at_X12_holdsLine rfl _).trans rfl
set_option maxRecDepth 60000 in
theorem q_X12_holdsLine_16 (sc : Nat × (Nat → Int)) (d : Nat) (r0 : Option Nat) (i1 : Int) (i2 : Int) (i3 : Int) (i4 : Int) (i5 : Int) (u6 : am_V) (u7 : am_V) (u8 : am_V) (u9 : am_V) (h : am_H) : Ru sc (d + 1) mX12_holdsLine 16 [Vr r0, Vi i1, Vi i2, Vi i3, Vi i4, Vi i5, u6, u7, u8, u9] [] h =
  gfP 12 1 h r0 fun p1 =>
  ldA 1 h p1 (w32 (i4 + 3)) fun v2 =>
  if i5 < v2 then
    gfP 12 1 h r0 fun p5 =>
    ldA 1 h p5 (w32 (680 + (w32 (2 * i5)))) fun v6 =>
    if 9 < v6 then
      if v6 = 13 then
        gfP 12 17 h r0 fun p11 =>
        gfP 12 17 h r0 fun p12 =>
        ldA 1 h p12 (w32 (i3 - 1)) fun v13 =>
        stA 1 h p11 (w32 (i3 - 1)) (w32 (1 - v13)) fun h14 =>
        Ru sc (d + 1) mX12_holdsLine 16 [Vr r0, Vi i1, Vi i2, Vi i3, Vi i4, Vi (w32 (i5 + 1)), Vi v6, u7, u8, u9] [] h14
      else
        gfP 12 17 h r0 fun p7 =>
        ldA 1 h p7 (w32 ((w32 (i3 + (-1))) - 1)) fun v8 =>
        gfP 12 17 h r0 fun p9 =>
        ldA 1 h p9 (w32 (i3 + (-1))) fun v10 =>
        if v6 = 11 then
          if v8 < v10 then
            Ru sc (d + 1) mX12_holdsLine 127 [Vr r0, Vi i1, Vi i2, Vi (w32 (i3 + (-1))), Vi i4, Vi i5, Vi v6, Vi v8, Vi v10, u9] [Vi 1] h
          else
            Ru sc (d + 1) mX12_holdsLine 127 [Vr r0, Vi i1, Vi i2, Vi (w32 (i3 + (-1))), Vi i4, Vi i5, Vi v6, Vi v8, Vi v10, u9] [Vi 0] h
        else
          if v6 = 12 then
            if v10 < v8 then
              Ru sc (d + 1) mX12_holdsLine 127 [Vr r0, Vi i1, Vi i2, Vi (w32 (i3 + (-1))), Vi i4, Vi i5, Vi v6, Vi v8, Vi v10, u9] [Vi 1] h
            else
              Ru sc (d + 1) mX12_holdsLine 127 [Vr r0, Vi i1, Vi i2, Vi (w32 (i3 + (-1))), Vi i4, Vi i5, Vi v6, Vi v8, Vi v10, u9] [Vi 0] h
          else
            if v6 = 14 then
              if (w32 (v8 + v10)) = 2 then
                Ru sc (d + 1) mX12_holdsLine 127 [Vr r0, Vi i1, Vi i2, Vi (w32 (i3 + (-1))), Vi i4, Vi i5, Vi v6, Vi v8, Vi v10, u9] [Vi 1] h
              else
                Ru sc (d + 1) mX12_holdsLine 127 [Vr r0, Vi i1, Vi i2, Vi (w32 (i3 + (-1))), Vi i4, Vi i5, Vi v6, Vi v8, Vi v10, u9] [Vi 0] h
            else
              if 0 < (w32 (v8 + v10)) then
                Ru sc (d + 1) mX12_holdsLine 127 [Vr r0, Vi i1, Vi i2, Vi (w32 (i3 + (-1))), Vi i4, Vi i5, Vi v6, Vi v8, Vi v10, u9] [Vi 1] h
              else
                Ru sc (d + 1) mX12_holdsLine 127 [Vr r0, Vi i1, Vi i2, Vi (w32 (i3 + (-1))), Vi i4, Vi i5, Vi v6, Vi v8, Vi v10, u9] [Vi 0] h
    else
      gfP 12 17 h r0 fun p15 =>
      gfP 12 1 h r0 fun p16 =>
      ldA 1 h p16 (w32 ((w32 (680 + (w32 (2 * i5)))) + 1)) fun v17 =>
      am_rcv 12 h (Vr r0) (
      clI (Cl sc d mX12_factOf [Vr r0, Vi v6, Vi v17, Vi i2] h) am_xt fun v19 h18 =>
      stA 1 h18 p15 i3 v19 fun h20 =>
      Ru sc (d + 1) mX12_holdsLine 16 [Vr r0, Vi i1, Vi i2, Vi (w32 (i3 + 1)), Vi i4, Vi (w32 (i5 + 1)), Vi v6, u7, u8, u9] [] h20)
  else
    if i3 = 0 then
      some (.inl (Vi 1), h)
    else
      gfP 12 17 h r0 fun p3 =>
      ldA 1 h p3 0 fun v4 =>
      if v4 = 1 then
        some (.inl (Vi 1), h)
      else
        some (.inl (Vi 0), h) := (Ru_at at_X12_holdsLine 16 _ _ _).trans rfl
set_option maxRecDepth 60000 in
theorem q_X12_holdsLine_127 (sc : Nat × (Nat → Int)) (d : Nat) (r0 : Option Nat) (i1 : Int) (i2 : Int) (i3 : Int) (i4 : Int) (i5 : Int) (i6 : Int) (i7 : Int) (i8 : Int) (u9 : am_V) (ti0 : Int) (h : am_H) : Ru sc (d + 1) mX12_holdsLine 127 [Vr r0, Vi i1, Vi i2, Vi i3, Vi i4, Vi i5, Vi i6, Vi i7, Vi i8, u9] [Vi ti0] h =
  gfP 12 17 h r0 fun p1 =>
  if i6 = 10 then
    stA 1 h p1 (w32 (i3 - 1)) (w32 (i7 + i8)) fun h4 =>
    Ru sc (d + 1) mX12_holdsLine 16 [Vr r0, Vi i1, Vi i2, Vi i3, Vi i4, Vi (w32 (i5 + 1)), Vi i6, Vi i7, Vi i8, Vi ti0] [] h4
  else
    if ti0 = 0 then
      stA 1 h p1 (w32 (i3 - 1)) 0 fun h2 =>
      Ru sc (d + 1) mX12_holdsLine 16 [Vr r0, Vi i1, Vi i2, Vi i3, Vi i4, Vi (w32 (i5 + 1)), Vi i6, Vi i7, Vi i8, Vi ti0] [] h2
    else
      stA 1 h p1 (w32 (i3 - 1)) 1 fun h3 =>
      Ru sc (d + 1) mX12_holdsLine 16 [Vr r0, Vi i1, Vi i2, Vi i3, Vi i4, Vi (w32 (i5 + 1)), Vi i6, Vi i7, Vi i8, Vi ti0] [] h3 := (Ru_at at_X12_holdsLine 127 _ _ _).trans rfl
theorem at_X12_sumOf : am_at mX12_sumOf = (cd_X12_sumOf, [], 5) := rfl
set_option maxRecDepth 60000 in
theorem q_X12_sumOf_0 (sc : Nat × (Nat → Int)) (d : Nat) (r0 : Option Nat) (i1 : Int) (i2 : Int) (h : am_H) : Cl sc (d + 1) mX12_sumOf [Vr r0, Vi i1, Vi i2] h =
  Ru sc (d + 1) mX12_sumOf 5 [Vr r0, Vi i1, Vi i2, Vi 0, Vi 0] [] h := (Cl_at at_X12_sumOf rfl _).trans rfl
set_option maxRecDepth 60000 in
theorem q_X12_sumOf_5 (sc : Nat × (Nat → Int)) (d : Nat) (r0 : Option Nat) (i1 : Int) (i2 : Int) (i3 : Int) (i4 : Int) (h : am_H) : Ru sc (d + 1) mX12_sumOf 5 [Vr r0, Vi i1, Vi i2, Vi i3, Vi i4] [] h =
  gfP 12 1 h r0 fun p1 =>
  ldA 1 h p1 2 fun v2 =>
  if v2 = 1 then
    gfP 12 1 h r0 fun p3 =>
    ldA 1 h p3 631 fun v4 =>
    if i4 < v4 then
      gfP 12 1 h r0 fun p5 =>
      ldA 1 h p5 (w32 (632 + (w32 (4 * i4)))) fun v6 =>
      if v6 = i1 then
        am_rcv 12 h (Vr r0) (
        clI (Cl sc d mX12_holdsLine [Vr r0, Vi i4, Vi i2] h) am_xt fun v8 h7 =>
        if v8 = 0 then
          Ru sc (d + 1) mX12_sumOf 5 [Vr r0, Vi i1, Vi i2, Vi i3, Vi (w32 (i4 + 1))] [] h7
        else
          gfP 12 1 h7 r0 fun p9 =>
          ldA 1 h7 p9 (w32 ((w32 (632 + (w32 (4 * i4)))) + 1)) fun v10 =>
          Ru sc (d + 1) mX12_sumOf 5 [Vr r0, Vi i1, Vi i2, Vi (w32 (i3 + v10)), Vi (w32 (i4 + 1))] [] h7)
      else
        Ru sc (d + 1) mX12_sumOf 5 [Vr r0, Vi i1, Vi i2, Vi i3, Vi (w32 (i4 + 1))] [] h
    else
      some (.inl (Vi i3), h)
  else
    some (.inl (Vi i3), h) := (Ru_at at_X12_sumOf 5 _ _ _).trans rfl
theorem at_X12_growsBy : am_at mX12_growsBy = (cd_X12_growsBy, [], 2) := rfl
set_option maxRecDepth 60000 in
theorem q_X12_growsBy_0 (sc : Nat × (Nat → Int)) (d : Nat) (r0 : Option Nat) (i1 : Int) (h : am_H) : Cl sc (d + 1) mX12_growsBy [Vr r0, Vi i1] h =
  am_rcv 12 h (Vr r0) (
  clI (Cl sc d mX12_of [Vr r0, Vi i1, Vi 4] h) am_xt fun v2 h1 =>
  if v2 = 1 then
    some (.inl (Vi 0), h1)
  else
    gfP 12 1 h1 r0 fun p3 =>
    ldA 1 h1 p3 2 fun v4 =>
    if v4 = 0 then
      some (.inl (Vi 1), h1)
    else
      am_rcv 12 h1 (Vr r0) (
      clI (Cl sc d mX12_sumOf [Vr r0, Vi 0, Vi i1] h1) am_xt fun v6 h5 =>
      am_rcv 12 h5 (Vr r0) (
      clI (Cl sc d mX12_sumOf [Vr r0, Vi 1, Vi i1] h5) am_xt fun v8 h7 =>
      some (.inl (Vi (w32 (v6 - v8))), h7)))) := (Cl_at at_X12_growsBy rfl _).trans rfl
theorem at_X12_soresBy : am_at mX12_soresBy = (cd_X12_soresBy, [], 2) := rfl
set_option maxRecDepth 60000 in
theorem q_X12_soresBy_0 (sc : Nat × (Nat → Int)) (d : Nat) (r0 : Option Nat) (i1 : Int) (h : am_H) : Cl sc (d + 1) mX12_soresBy [Vr r0, Vi i1] h =
  am_rcv 12 h (Vr r0) (
  clI (Cl sc d mX12_hasFence [Vr r0, Vi i1] h) am_xt fun v2 h1 =>
  if v2 = 0 then
    some (.inl (Vi 0), h1)
  else
    am_rcv 12 h1 (Vr r0) (
    clI (Cl sc d mX12_sumOf [Vr r0, Vi 2, Vi i1] h1) am_xt fun v4 h3 =>
    some (.inl (Vi v4), h3))) := (Cl_at at_X12_soresBy rfl _).trans rfl
theorem at_X12_border : am_at mX12_border = (cd_X12_border, [], 3) := rfl
set_option maxRecDepth 60000 in
theorem q_X12_border_0 (sc : Nat × (Nat → Int)) (d : Nat) (r0 : Option Nat) (i1 : Int) (i2 : Int) (h : am_H) : Cl sc (d + 1) mX12_border [Vr r0, Vi i1, Vi i2] h =
  pfI 0 12 0 h r0 0 fun h1 =>
  clI (Cl sc d mX12_noBorder [Vi i1] h1) am_xt fun v3 h2 =>
  am_rcv 12 h2 (Vr r0) (
  clI (Cl sc d mX12_throwsIf [Vr r0, Vi v3, Vi 1] h2) am_xt fun v5 h4 =>
  if v5 = 0 then
    clI (Cl sc d mX12_in [Vi i2, Vi 0, Vi 6] h4) am_xt fun v7 h6 =>
    if v7 = 0 then
      Ru sc (d + 1) mX12_border 19 [Vr r0, Vi i1, Vi i2] [Vi 1, Vr r0] h6
    else
      Ru sc (d + 1) mX12_border 19 [Vr r0, Vi i1, Vi i2] [Vi 0, Vr r0] h6
  else
    some (.inl (Vi 0), h4)) := (Cl_at at_X12_border rfl _).trans rfl
set_option maxRecDepth 60000 in
theorem q_X12_border_19 (sc : Nat × (Nat → Int)) (d : Nat) (r0 : Option Nat) (i1 : Int) (i2 : Int) (ti0 : Int) (tr1 : Option Nat) (h : am_H) : Ru sc (d + 1) mX12_border 19 [Vr r0, Vi i1, Vi i2] [Vi ti0, Vr tr1] h =
  am_rcv 12 h (Vr tr1) (
  clI (Cl sc d mX12_throwsIf [Vr tr1, Vi ti0, Vi 2] h) am_xt fun v2 h1 =>
  if v2 = 0 then
    am_rcv 12 h1 (Vr r0) (
    clI (Cl sc d mX12_hasFence [Vr r0, Vi i1] h1) am_xt fun v4 h3 =>
    if v4 = 0 then
      some (.inl (Vi 0), h3)
    else
      if i2 = 5 then
        am_rcv 12 h3 (Vr r0) (
        clI (Cl sc d mX12_growsBy [Vr r0, Vi i1] h3) am_xt fun v10 h9 =>
        some (.inl (Vi v10), h9))
      else
        if i2 = 6 then
          am_rcv 12 h3 (Vr r0) (
          clI (Cl sc d mX12_soresBy [Vr r0, Vi i1] h3) am_xt fun v8 h7 =>
          some (.inl (Vi v8), h7))
        else
          am_rcv 12 h3 (Vr r0) (
          clI (Cl sc d mX12_of [Vr r0, Vi i1, Vi i2] h3) am_xt fun v6 h5 =>
          some (.inl (Vi v6), h5)))
  else
    some (.inl (Vi 0), h1)) := (Ru_at at_X12_border 19 _ _ _).trans rfl
theorem at_X12_between : am_at mX12_between = (cd_X12_between, [], 3) := rfl
set_option maxRecDepth 60000 in
theorem q_X12_between_0 (sc : Nat × (Nat → Int)) (d : Nat) (r0 : Option Nat) (i1 : Int) (i2 : Int) (h : am_H) : Cl sc (d + 1) mX12_between [Vr r0, Vi i1, Vi i2] h =
  pfI 0 12 0 h r0 0 fun h1 =>
  clI (Cl sc d mX12_noCell [Vi i1] h1) am_xt fun v3 h2 =>
  if v3 = 0 then
    clI (Cl sc d mX12_noCell [Vi i2] h2) am_xt fun v9 h8 =>
    if v9 = 0 then
      am_rcv 12 h8 (Vr r0) (
      clI (Cl sc d mX12_throwsIf [Vr r0, Vi 0, Vi 1] h8) am_xt fun v11 h10 =>
      if v11 = 0 then
        clI (Cl sc d mX12_borderOf [Vi i1, Vi i2] h10) am_xt fun v13 h12 =>
        some (.inl (Vi v13), h12)
      else
        some (.inl (Vi 0), h10))
    else
      am_rcv 12 h8 (Vr r0) (
      clI (Cl sc d mX12_throwsIf [Vr r0, Vi 1, Vi 1] h8) am_xt fun v15 h14 =>
      if v15 = 0 then
        clI (Cl sc d mX12_borderOf [Vi i1, Vi i2] h14) am_xt fun v17 h16 =>
        some (.inl (Vi v17), h16)
      else
        some (.inl (Vi 0), h14))
  else
    am_rcv 12 h2 (Vr r0) (
    clI (Cl sc d mX12_throwsIf [Vr r0, Vi 1, Vi 1] h2) am_xt fun v5 h4 =>
    if v5 = 0 then
      clI (Cl sc d mX12_borderOf [Vi i1, Vi i2] h4) am_xt fun v7 h6 =>
      some (.inl (Vi v7), h6)
    else
      some (.inl (Vi 0), h4)) := (Cl_at at_X12_between rfl _).trans rfl
theorem at_X12_tells : am_at mX12_tells = (cd_X12_tells, [], 6) := rfl
set_option maxRecDepth 60000 in
theorem q_X12_tells_0 (sc : Nat × (Nat → Int)) (d : Nat) (r0 : Option Nat) (i1 : Int) (i2 : Int) (i3 : Int) (i4 : Int) (h : am_H) : Cl sc (d + 1) mX12_tells [Vr r0, Vi i1, Vi i2, Vi i3, Vi i4] h =
  Ru sc (d + 1) mX12_tells 3 [Vr r0, Vi i1, Vi i2, Vi i3, Vi i4, Vi 299] [] h := (Cl_at at_X12_tells rfl _).trans rfl
set_option maxRecDepth 60000 in
theorem q_X12_tells_3 (sc : Nat × (Nat → Int)) (d : Nat) (r0 : Option Nat) (i1 : Int) (i2 : Int) (i3 : Int) (i4 : Int) (i5 : Int) (h : am_H) : Ru sc (d + 1) mX12_tells 3 [Vr r0, Vi i1, Vi i2, Vi i3, Vi i4, Vi i5] [] h =
  if i5 < 5 then
    gfP 12 1 h r0 fun p1 =>
    gfP 12 1 h r0 fun p2 =>
    ldA 1 h p2 3 fun v3 =>
    stA 1 h p1 331 v3 fun h4 =>
    gfP 12 1 h4 r0 fun p5 =>
    stA 1 h4 p5 332 i1 fun h6 =>
    gfP 12 1 h6 r0 fun p7 =>
    stA 1 h6 p7 333 i2 fun h8 =>
    gfP 12 1 h8 r0 fun p9 =>
    stA 1 h8 p9 334 i3 fun h10 =>
    gfP 12 1 h10 r0 fun p11 =>
    stA 1 h10 p11 335 i4 fun h12 =>
    gfP 12 1 h12 r0 fun p13 =>
    gfP 12 1 h12 r0 fun p14 =>
    ldA 1 h12 p14 5 fun v15 =>
    clI (Cl sc d mJ9_min_7cf53 [Vi 60, Vi (w32 (v15 + 1))] h12) am_xt fun v17 h16 =>
    stA 1 h16 p13 5 v17 fun h18 =>
    some (.inl (Vx 0), h18)
  else
    gfP 12 1 h r0 fun p19 =>
    gfP 12 1 h r0 fun p20 =>
    ldA 1 h p20 (w32 ((w32 (331 + i5)) - 5)) fun v21 =>
    stA 1 h p19 (w32 (331 + i5)) v21 fun h22 =>
    Ru sc (d + 1) mX12_tells 3 [Vr r0, Vi i1, Vi i2, Vi i3, Vi i4, Vi (w32 (i5 + (-1)))] [] h22 := (Ru_at at_X12_tells 3 _ _ _).trans rfl
theorem at_X12_grows : am_at mX12_grows = (cd_X12_grows, [], 2) := rfl
set_option maxRecDepth 60000 in
theorem q_X12_grows_0 (sc : Nat × (Nat → Int)) (d : Nat) (r0 : Option Nat) (i1 : Int) (h : am_H) : Cl sc (d + 1) mX12_grows [Vr r0, Vi i1] h =
  am_rcv 12 h (Vr r0) (
  clI (Cl sc d mX12_hasFence [Vr r0, Vi i1] h) am_xt fun v2 h1 =>
  if v2 = 0 then
    some (.inl (Vx 0), h1)
  else
    gfP 12 1 h1 r0 fun p3 =>
    clI (Cl sc d mX12_at [Vi i1, Vi 2] h1) am_xt fun v5 h4 =>
    am_rcv 12 h4 (Vr r0) (
    clI (Cl sc d mX12_of [Vr r0, Vi i1, Vi 2] h4) am_xt fun v7 h6 =>
    am_rcv 12 h6 (Vr r0) (
    clI (Cl sc d mX12_growsBy [Vr r0, Vi i1] h6) am_xt fun v9 h8 =>
    clI (Cl sc d mJ9_min_7cf53 [Vi 999, Vi (w32 (v7 + v9))] h8) am_xt fun v11 h10 =>
    clI (Cl sc d mJ9_max_7cf53 [Vi 0, Vi v11] h10) am_xt fun v13 h12 =>
    stA 1 h12 p3 v5 v13 fun h14 =>
    gfP 12 1 h14 r0 fun p15 =>
    clI (Cl sc d mX12_at [Vi i1, Vi 1] h14) am_xt fun v17 h16 =>
    am_rcv 12 h16 (Vr r0) (
    clI (Cl sc d mX12_of [Vr r0, Vi i1, Vi 1] h16) am_xt fun v19 h18 =>
    clI (Cl sc d mJ9_min_7cf53 [Vi 999, Vi (w32 (v19 + 1))] h18) am_xt fun v21 h20 =>
    stA 1 h20 p15 v17 v21 fun h22 =>
    some (.inl (Vx 0), h22))))) := (Cl_at at_X12_grows rfl _).trans rfl
theorem at_X12_soresAt : am_at mX12_soresAt = (cd_X12_soresAt, [], 5) := rfl
set_option maxRecDepth 60000 in
theorem q_X12_soresAt_0 (sc : Nat × (Nat → Int)) (d : Nat) (r0 : Option Nat) (i1 : Int) (h : am_H) : Cl sc (d + 1) mX12_soresAt [Vr r0, Vi i1] h =
  Ru sc (d + 1) mX12_soresAt 5 [Vr r0, Vi i1, Vi 0, Vi 0, Vx 0] [] h := (Cl_at at_X12_soresAt rfl _).trans rfl
set_option maxRecDepth 60000 in
theorem q_X12_soresAt_5 (sc : Nat × (Nat → Int)) (d : Nat) (r0 : Option Nat) (i1 : Int) (i2 : Int) (i3 : Int) (u4 : am_V) (h : am_H) : Ru sc (d + 1) mX12_soresAt 5 [Vr r0, Vi i1, Vi i2, Vi i3, u4] [] h =
  if i3 < 4 then
    am_rcv 12 h (Vr r0) (
    clI (Cl sc d mX12_ofFamily [Vr r0, Vi i1, Vi 0] h) am_xt fun v2 h1 =>
    clI (Cl sc d mX12_sideOf [Vi v2, Vi i3] h1) am_xt fun v4 h3 =>
    if v4 = (-1) then
      Ru sc (d + 1) mX12_soresAt 5 [Vr r0, Vi i1, Vi (w32 (i2 + 0)), Vi (w32 (i3 + 1)), Vi v4] [] h3
    else
      am_rcv 12 h3 (Vr r0) (
      clI (Cl sc d mX12_soresBy [Vr r0, Vi v4] h3) am_xt fun v6 h5 =>
      Ru sc (d + 1) mX12_soresAt 5 [Vr r0, Vi i1, Vi (w32 (i2 + v6)), Vi (w32 (i3 + 1)), Vi v4] [] h5))
  else
    some (.inl (Vi i2), h) := (Ru_at at_X12_soresAt 5 _ _ _).trans rfl
theorem at_X12_quarrels : am_at mX12_quarrels = (cd_X12_quarrels, [], 3) := rfl
set_option maxRecDepth 60000 in
theorem q_X12_quarrels_0 (sc : Nat × (Nat → Int)) (d : Nat) (r0 : Option Nat) (i1 : Int) (h : am_H) : Cl sc (d + 1) mX12_quarrels [Vr r0, Vi i1] h =
  am_rcv 12 h (Vr r0) (
  clI (Cl sc d mX12_drawn [Vr r0, Vi 100] h) am_xt fun v2 h1 =>
  gfP 12 1 h1 r0 fun p3 =>
  ldA 1 h1 p3 4 fun v4 =>
  am_rcv 12 h1 (Vr r0) (
  clI (Cl sc d mX12_ofFamily [Vr r0, Vi i1, Vi 3] h1) am_xt fun v6 h5 =>
  if v2 < (w32 (v4 + v6)) then
    am_rcv 12 h5 (Vr r0) (
    clI (Cl sc d mX12_ofFamily [Vr r0, Vi i1, Vi 0] h5) am_xt fun v8 h7 =>
    am_rcv 12 h7 (Vr r0) (
    clI (Cl sc d mX12_drawn [Vr r0, Vi 4] h7) am_xt fun v10 h9 =>
    clI (Cl sc d mX12_sideOf [Vi v8, Vi v10] h9) am_xt fun v12 h11 =>
    if v12 = (-1) then
      some (.inl (Vi 0), h11)
    else
      am_rcv 12 h11 (Vr r0) (
      clI (Cl sc d mX12_hasFence [Vr r0, Vi v12] h11) am_xt fun v14 h13 =>
      if v14 = 0 then
        am_rcv 12 h13 (Vr r0) (
        clV (Cl sc d mX12_isFence [Vr r0, Vi v12, Vi 0, Vi 0, Vi 0, Vi 0] h13) am_xt fun h15 =>
        am_rcv 12 h15 (Vr r0) (
        clV (Cl sc d mX12_tells [Vr r0, Vi v12, Vi 0, Vi i1, Vi 0] h15) am_xt fun h16 =>
        some (.inl (Vi 1), h16)))
      else
        some (.inl (Vi 0), h13))))
  else
    some (.inl (Vi 0), h5))) := (Cl_at at_X12_quarrels rfl _).trans rfl
theorem at_X12_oneYear : am_at mX12_oneYear = (cd_X12_oneYear, [], 4) := rfl
set_option maxRecDepth 60000 in
theorem q_X12_oneYear_0 (sc : Nat × (Nat → Int)) (d : Nat) (r0 : Option Nat) (i1 : Int) (h : am_H) : Cl sc (d + 1) mX12_oneYear [Vr r0, Vi i1] h =
  Ru sc (d + 1) mX12_oneYear 5 [Vr r0, Vi i1, Vi 0, Vi 0] [] h := (Cl_at at_X12_oneYear rfl _).trans rfl
set_option maxRecDepth 60000 in
theorem q_X12_oneYear_5 (sc : Nat × (Nat → Int)) (d : Nat) (r0 : Option Nat) (i1 : Int) (i2 : Int) (i3 : Int) (h : am_H) : Ru sc (d + 1) mX12_oneYear 5 [Vr r0, Vi i1, Vi i2, Vi i3] [] h =
  if i3 < 60 then
    am_rcv 12 h (Vr r0) (
    clV (Cl sc d mX12_grows [Vr r0, Vi i3] h) am_xt fun h1 =>
    Ru sc (d + 1) mX12_oneYear 5 [Vr r0, Vi i1, Vi i2, Vi (w32 (i3 + 1))] [] h1)
  else
    Ru sc (d + 1) mX12_oneYear 16 [Vr r0, Vi i1, Vi i2, Vi 0] [] h := (Ru_at at_X12_oneYear 5 _ _ _).trans rfl
set_option maxRecDepth 60000 in
theorem q_X12_oneYear_16 (sc : Nat × (Nat → Int)) (d : Nat) (r0 : Option Nat) (i1 : Int) (i2 : Int) (i3 : Int) (h : am_H) : Ru sc (d + 1) mX12_oneYear 16 [Vr r0, Vi i1, Vi i2, Vi i3] [] h =
  am_rcv 12 h (Vr r0) (
  clI (Cl sc d mX12_families [Vr r0] h) am_xt fun v2 h1 =>
  if i3 < v2 then
    gfP 12 1 h1 r0 fun p3 =>
    clI (Cl sc d mX12_familyAt [Vi i3, Vi 3] h1) am_xt fun v5 h4 =>
    am_rcv 12 h4 (Vr r0) (
    clI (Cl sc d mX12_ofFamily [Vr r0, Vi i3, Vi 3] h4) am_xt fun v7 h6 =>
    am_rcv 12 h6 (Vr r0) (
    clI (Cl sc d mX12_soresAt [Vr r0, Vi i3] h6) am_xt fun v9 h8 =>
    clI (Cl sc d mJ9_min_7cf53 [Vi 99, Vi (w32 (v7 + v9))] h8) am_xt fun v11 h10 =>
    stA 1 h10 p3 v5 v11 fun h12 =>
    Ru sc (d + 1) mX12_oneYear 16 [Vr r0, Vi i1, Vi i2, Vi (w32 (i3 + 1))] [] h12))
  else
    Ru sc (d + 1) mX12_oneYear 41 [Vr r0, Vi i1, Vi i2, Vi 0] [] h1) := (Ru_at at_X12_oneYear 16 _ _ _).trans rfl
set_option maxRecDepth 60000 in
theorem q_X12_oneYear_41 (sc : Nat × (Nat → Int)) (d : Nat) (r0 : Option Nat) (i1 : Int) (i2 : Int) (i3 : Int) (h : am_H) : Ru sc (d + 1) mX12_oneYear 41 [Vr r0, Vi i1, Vi i2, Vi i3] [] h =
  am_rcv 12 h (Vr r0) (
  clI (Cl sc d mX12_families [Vr r0] h) am_xt fun v2 h1 =>
  if i3 < v2 then
    if i1 = 0 then
      am_rcv 12 h1 (Vr r0) (
      clI (Cl sc d mX12_quarrels [Vr r0, Vi i3] h1) am_xt fun v16 h15 =>
      if v16 = 0 then
        Ru sc (d + 1) mX12_oneYear 41 [Vr r0, Vi i1, Vi (w32 (i2 + 0)), Vi (w32 (i3 + 1))] [] h15
      else
        Ru sc (d + 1) mX12_oneYear 41 [Vr r0, Vi i1, Vi (w32 (i2 + 1)), Vi (w32 (i3 + 1))] [] h15)
    else
      gfP 12 1 h1 r0 fun p9 =>
      gfP 12 1 h1 r0 fun p10 =>
      ldA 1 h1 p10 3 fun v11 =>
      clI (Cl sc d mJ9_min_7cf53 [Vi 9999, Vi (w32 (v11 + 1))] h1) am_xt fun v13 h12 =>
      stA 1 h12 p9 3 v13 fun h14 =>
      some (.inl (Vi i2), h14)
  else
    gfP 12 1 h1 r0 fun p3 =>
    gfP 12 1 h1 r0 fun p4 =>
    ldA 1 h1 p4 3 fun v5 =>
    clI (Cl sc d mJ9_min_7cf53 [Vi 9999, Vi (w32 (v5 + 1))] h1) am_xt fun v7 h6 =>
    stA 1 h6 p3 3 v7 fun h8 =>
    some (.inl (Vi i2), h8)) := (Ru_at at_X12_oneYear 41 _ _ _).trans rfl
theorem at_X12_goesOn : am_at mX12_goesOn = (cd_X12_goesOn, [], 5) := rfl
set_option maxRecDepth 60000 in
theorem q_X12_goesOn_0 (sc : Nat × (Nat → Int)) (d : Nat) (r0 : Option Nat) (i1 : Int) (i2 : Int) (h : am_H) : Cl sc (d + 1) mX12_goesOn [Vr r0, Vi i1, Vi i2] h =
  Ru sc (d + 1) mX12_goesOn 5 [Vr r0, Vi i1, Vi i2, Vi 0, Vi 0] [] h := (Cl_at at_X12_goesOn rfl _).trans rfl
set_option maxRecDepth 60000 in
theorem q_X12_goesOn_5 (sc : Nat × (Nat → Int)) (d : Nat) (r0 : Option Nat) (i1 : Int) (i2 : Int) (i3 : Int) (i4 : Int) (h : am_H) : Ru sc (d + 1) mX12_goesOn 5 [Vr r0, Vi i1, Vi i2, Vi i3, Vi i4] [] h =
  if i4 < i1 then
    am_rcv 12 h (Vr r0) (
    clI (Cl sc d mX12_oneYear [Vr r0, Vi i2] h) am_xt fun v2 h1 =>
    Ru sc (d + 1) mX12_goesOn 5 [Vr r0, Vi i1, Vi i2, Vi (w32 (i3 + v2)), Vi (w32 (i4 + 1))] [] h1)
  else
    some (.inl (Vi i3), h) := (Ru_at at_X12_goesOn 5 _ _ _).trans rfl
theorem at_X12_years : am_at mX12_years = (cd_X12_years, [], 2) := rfl
set_option maxRecDepth 60000 in
theorem q_X12_years_0 (sc : Nat × (Nat → Int)) (d : Nat) (r0 : Option Nat) (i1 : Int) (h : am_H) : Cl sc (d + 1) mX12_years [Vr r0, Vi i1] h =
  pfI 0 12 0 h r0 0 fun h1 =>
  clI (Cl sc d mX12_in [Vi i1, Vi 1, Vi 100] h1) am_xt fun v3 h2 =>
  if v3 = 0 then
    am_rcv 12 h2 (Vr r0) (
    clI (Cl sc d mX12_throwsIf [Vr r0, Vi 1, Vi 1] h2) am_xt fun v10 h9 =>
    if v10 = 0 then
      am_rcv 12 h9 (Vr r0) (
      clV (Cl sc d mX12_remembers [Vr r0] h9) am_xt fun h11 =>
      am_rcv 12 h11 (Vr r0) (
      clI (Cl sc d mX12_goesOn [Vr r0, Vi i1, Vi 0] h11) am_xt fun v13 h12 =>
      some (.inl (Vi v13), h12)))
    else
      some (.inl (Vi 0), h9))
  else
    am_rcv 12 h2 (Vr r0) (
    clI (Cl sc d mX12_throwsIf [Vr r0, Vi 0, Vi 1] h2) am_xt fun v5 h4 =>
    if v5 = 0 then
      am_rcv 12 h4 (Vr r0) (
      clV (Cl sc d mX12_remembers [Vr r0] h4) am_xt fun h6 =>
      am_rcv 12 h6 (Vr r0) (
      clI (Cl sc d mX12_goesOn [Vr r0, Vi i1, Vi 0] h6) am_xt fun v8 h7 =>
      some (.inl (Vi v8), h7)))
    else
      some (.inl (Vi 0), h4)) := (Cl_at at_X12_years rfl _).trans rfl
theorem at_X12_sumOfFences : am_at mX12_sumOfFences = (cd_X12_sumOfFences, [], 4) := rfl
set_option maxRecDepth 60000 in
theorem q_X12_sumOfFences_0 (sc : Nat × (Nat → Int)) (d : Nat) (r0 : Option Nat) (i1 : Int) (h : am_H) : Cl sc (d + 1) mX12_sumOfFences [Vr r0, Vi i1] h =
  Ru sc (d + 1) mX12_sumOfFences 5 [Vr r0, Vi i1, Vi 0, Vi 0] [] h := (Cl_at at_X12_sumOfFences rfl _).trans rfl
set_option maxRecDepth 60000 in
theorem q_X12_sumOfFences_5 (sc : Nat × (Nat → Int)) (d : Nat) (r0 : Option Nat) (i1 : Int) (i2 : Int) (i3 : Int) (h : am_H) : Ru sc (d + 1) mX12_sumOfFences 5 [Vr r0, Vi i1, Vi i2, Vi i3] [] h =
  if i3 < 60 then
    am_rcv 12 h (Vr r0) (
    clI (Cl sc d mX12_of [Vr r0, Vi i3, Vi i1] h) am_xt fun v2 h1 =>
    Ru sc (d + 1) mX12_sumOfFences 5 [Vr r0, Vi i1, Vi (w32 (i2 + v2)), Vi (w32 (i3 + 1))] [] h1)
  else
    some (.inl (Vi i2), h) := (Ru_at at_X12_sumOfFences 5 _ _ _).trans rfl
theorem at_X12_raise : am_at mX12_raise = (cd_X12_raise, [], 2) := rfl
set_option maxRecDepth 60000 in
theorem q_X12_raise_0 (sc : Nat × (Nat → Int)) (d : Nat) (r0 : Option Nat) (i1 : Int) (h : am_H) : Cl sc (d + 1) mX12_raise [Vr r0, Vi i1] h =
  pfI 0 12 0 h r0 0 fun h1 =>
  clI (Cl sc d mX12_noBorder [Vi i1] h1) am_xt fun v3 h2 =>
  am_rcv 12 h2 (Vr r0) (
  clI (Cl sc d mX12_throwsIf [Vr r0, Vi v3, Vi 1] h2) am_xt fun v5 h4 =>
  if v5 = 0 then
    am_rcv 12 h4 (Vr r0) (
    clI (Cl sc d mX12_hasFence [Vr r0, Vi i1] h4) am_xt fun v7 h6 =>
    am_rcv 12 h6 (Vr r0) (
    clI (Cl sc d mX12_throwsIf [Vr r0, Vi v7, Vi 2] h6) am_xt fun v9 h8 =>
    if v9 = 0 then
      am_rcv 12 h8 (Vr r0) (
      clV (Cl sc d mX12_remembers [Vr r0] h8) am_xt fun h10 =>
      am_rcv 12 h10 (Vr r0) (
      clV (Cl sc d mX12_isFence [Vr r0, Vi i1, Vi 0, Vi 0, Vi 0, Vi 0] h10) am_xt fun h11 =>
      am_rcv 12 h11 (Vr r0) (
      clV (Cl sc d mX12_tells [Vr r0, Vi i1, Vi 1, Vi (-1), Vi 0] h11) am_xt fun h12 =>
      am_rcv 12 h12 (Vr r0) (
      clI (Cl sc d mX12_sumOfFences [Vr r0, Vi 0] h12) am_xt fun v14 h13 =>
      some (.inl (Vi v14), h13)))))
    else
      some (.inl (Vi 0), h8)))
  else
    some (.inl (Vi 0), h4)) := (Cl_at at_X12_raise rfl _).trans rfl
theorem at_X12_cannot : am_at mX12_cannot = (cd_X12_cannot, [], 2) := rfl
set_option maxRecDepth 60000 in
theorem q_X12_cannot_0 (sc : Nat × (Nat → Int)) (d : Nat) (r0 : Option Nat) (i1 : Int) (h : am_H) : Cl sc (d + 1) mX12_cannot [Vr r0, Vi i1] h =
  pfI 0 12 0 h r0 0 fun h1 =>
  clI (Cl sc d mX12_noBorder [Vi i1] h1) am_xt fun v3 h2 =>
  am_rcv 12 h2 (Vr r0) (
  clI (Cl sc d mX12_throwsIf [Vr r0, Vi v3, Vi 1] h2) am_xt fun v5 h4 =>
  if v5 = 0 then
    am_rcv 12 h4 (Vr r0) (
    clI (Cl sc d mX12_hasFence [Vr r0, Vi i1] h4) am_xt fun v7 h6 =>
    if v7 = 0 then
      am_rcv 12 h6 (Vr r0) (
      clI (Cl sc d mX12_throwsIf [Vr r0, Vi 1, Vi 2] h6) am_xt fun v11 h10 =>
      if v11 = 0 then
        some (.inl (Vi 0), h10)
      else
        some (.inl (Vi 1), h10))
    else
      am_rcv 12 h6 (Vr r0) (
      clI (Cl sc d mX12_throwsIf [Vr r0, Vi 0, Vi 2] h6) am_xt fun v9 h8 =>
      if v9 = 0 then
        some (.inl (Vi 0), h8)
      else
        some (.inl (Vi 1), h8)))
  else
    some (.inl (Vi 1), h4)) := (Cl_at at_X12_cannot rfl _).trans rfl
theorem at_X12_pull : am_at mX12_pull = (cd_X12_pull, [], 3) := rfl
set_option maxRecDepth 60000 in
theorem q_X12_pull_0 (sc : Nat × (Nat → Int)) (d : Nat) (r0 : Option Nat) (i1 : Int) (h : am_H) : Cl sc (d + 1) mX12_pull [Vr r0, Vi i1] h =
  am_rcv 12 h (Vr r0) (
  clI (Cl sc d mX12_cannot [Vr r0, Vi i1] h) am_xt fun v2 h1 =>
  if v2 = 0 then
    am_rcv 12 h1 (Vr r0) (
    clV (Cl sc d mX12_remembers [Vr r0] h1) am_xt fun h3 =>
    am_rcv 12 h3 (Vr r0) (
    clI (Cl sc d mX12_of [Vr r0, Vi i1, Vi 2] h3) am_xt fun v5 h4 =>
    am_rcv 12 h4 (Vr r0) (
    clV (Cl sc d mX12_isGone [Vr r0, Vi i1] h4) am_xt fun h6 =>
    am_rcv 12 h6 (Vr r0) (
    clV (Cl sc d mX12_tells [Vr r0, Vi i1, Vi 2, Vi (-1), Vi v5] h6) am_xt fun h7 =>
    some (.inl (Vi v5), h7)))))
  else
    some (.inl (Vi 0), h1)) := (Cl_at at_X12_pull rfl _).trans rfl
theorem at_X12_isNow : am_at mX12_isNow = (cd_X12_isNow, [], 5) := rfl
set_option maxRecDepth 60000 in
theorem q_X12_isNow_0 (sc : Nat × (Nat → Int)) (d : Nat) (r0 : Option Nat) (i1 : Int) (i2 : Int) (i3 : Int) (h : am_H) : Cl sc (d + 1) mX12_isNow [Vr r0, Vi i1, Vi i2, Vi i3] h =
  am_rcv 12 h (Vr r0) (
  clV (Cl sc d mX12_remembers [Vr r0] h) am_xt fun h1 =>
  am_rcv 12 h1 (Vr r0) (
  clI (Cl sc d mX12_of [Vr r0, Vi i1, Vi i2] h1) am_xt fun v3 h2 =>
  if v3 = 1 then
    Ru sc (d + 1) mX12_isNow 12 [Vr r0, Vi i1, Vi i2, Vi i3, Vx 0] [Vi 1] h2
  else
    Ru sc (d + 1) mX12_isNow 12 [Vr r0, Vi i1, Vi i2, Vi i3, Vx 0] [Vi 0] h2)) := (Cl_at at_X12_isNow rfl _).trans rfl
set_option maxRecDepth 60000 in
theorem q_X12_isNow_12 (sc : Nat × (Nat → Int)) (d : Nat) (r0 : Option Nat) (i1 : Int) (i2 : Int) (i3 : Int) (u4 : am_V) (ti0 : Int) (h : am_H) : Ru sc (d + 1) mX12_isNow 12 [Vr r0, Vi i1, Vi i2, Vi i3, u4] [Vi ti0] h =
  gfP 12 1 h r0 fun p1 =>
  clI (Cl sc d mX12_at [Vi i1, Vi i2] h) am_xt fun v3 h2 =>
  if i3 = 0 then
    stA 1 h2 p1 v3 0 fun h4 =>
    if ti0 = i3 then
      some (.inl (Vi 0), h4)
    else
      some (.inl (Vi 1), h4)
  else
    stA 1 h2 p1 v3 1 fun h5 =>
    if ti0 = i3 then
      some (.inl (Vi 0), h5)
    else
      some (.inl (Vi 1), h5) := (Ru_at at_X12_isNow 12 _ _ _).trans rfl
theorem at_X12_gate : am_at mX12_gate = (cd_X12_gate, [], 3) := rfl
set_option maxRecDepth 60000 in
theorem q_X12_gate_0 (sc : Nat × (Nat → Int)) (d : Nat) (r0 : Option Nat) (i1 : Int) (i2 : Int) (h : am_H) : Cl sc (d + 1) mX12_gate [Vr r0, Vi i1, Vi i2] h =
  am_rcv 12 h (Vr r0) (
  clI (Cl sc d mX12_cannot [Vr r0, Vi i1] h) am_xt fun v2 h1 =>
  if v2 = 0 then
    am_rcv 12 h1 (Vr r0) (
    clI (Cl sc d mX12_isNow [Vr r0, Vi i1, Vi 3, Vi i2] h1) am_xt fun v4 h3 =>
    if v4 = 0 then
      some (.inl (Vi 0), h3)
    else
      some (.inl (Vi 1), h3))
  else
    some (.inl (Vi 0), h1)) := (Cl_at at_X12_gate rfl _).trans rfl
theorem at_X12_string : am_at mX12_string = (cd_X12_string, [], 3) := rfl
set_option maxRecDepth 60000 in
theorem q_X12_string_0 (sc : Nat × (Nat → Int)) (d : Nat) (r0 : Option Nat) (i1 : Int) (i2 : Int) (h : am_H) : Cl sc (d + 1) mX12_string [Vr r0, Vi i1, Vi i2] h =
  am_rcv 12 h (Vr r0) (
  clI (Cl sc d mX12_cannot [Vr r0, Vi i1] h) am_xt fun v2 h1 =>
  if v2 = 0 then
    am_rcv 12 h1 (Vr r0) (
    clI (Cl sc d mX12_isNow [Vr r0, Vi i1, Vi 4, Vi i2] h1) am_xt fun v4 h3 =>
    if v4 = 0 then
      some (.inl (Vi 0), h3)
    else
      some (.inl (Vi 1), h3))
  else
    some (.inl (Vi 0), h1)) := (Cl_at at_X12_string rfl _).trans rfl
theorem at_X12_again : am_at mX12_again = (cd_X12_again, [], 4) := rfl
set_option maxRecDepth 60000 in
theorem q_X12_again_0 (sc : Nat × (Nat → Int)) (d : Nat) (r0 : Option Nat) (i1 : Int) (i2 : Int) (h : am_H) : Cl sc (d + 1) mX12_again [Vr r0, Vi i1, Vi i2] h =
  pfI 0 12 0 h r0 0 fun h1 =>
  clI (Cl sc d mX12_noBorder [Vi i1] h1) am_xt fun v3 h2 =>
  am_rcv 12 h2 (Vr r0) (
  clI (Cl sc d mX12_throwsIf [Vr r0, Vi v3, Vi 1] h2) am_xt fun v5 h4 =>
  if v5 = 0 then
    clI (Cl sc d mX12_noHeight [Vi i2] h4) am_xt fun v7 h6 =>
    am_rcv 12 h6 (Vr r0) (
    clI (Cl sc d mX12_throwsIf [Vr r0, Vi v7, Vi 2] h6) am_xt fun v9 h8 =>
    if v9 = 0 then
      am_rcv 12 h8 (Vr r0) (
      clI (Cl sc d mX12_hasFence [Vr r0, Vi i1] h8) am_xt fun v11 h10 =>
      if v11 = 0 then
        Ru sc (d + 1) mX12_again 30 [Vr r0, Vi i1, Vi i2, Vx 0] [Vi 1, Vr r0] h10
      else
        am_rcv 12 h10 (Vr r0) (
        clI (Cl sc d mX12_of [Vr r0, Vi i1, Vi 2] h10) am_xt fun v13 h12 =>
        if v13 < i2 then
          Ru sc (d + 1) mX12_again 30 [Vr r0, Vi i1, Vi i2, Vx 0] [Vi 1, Vr r0] h12
        else
          Ru sc (d + 1) mX12_again 30 [Vr r0, Vi i1, Vi i2, Vx 0] [Vi 0, Vr r0] h12))
    else
      some (.inl (Vi 0), h8))
  else
    some (.inl (Vi 0), h4)) := (Cl_at at_X12_again rfl _).trans rfl
set_option maxRecDepth 60000 in
theorem q_X12_again_30 (sc : Nat × (Nat → Int)) (d : Nat) (r0 : Option Nat) (i1 : Int) (i2 : Int) (u3 : am_V) (ti0 : Int) (tr1 : Option Nat) (h : am_H) : Ru sc (d + 1) mX12_again 30 [Vr r0, Vi i1, Vi i2, u3] [Vi ti0, Vr tr1] h =
  am_rcv 12 h (Vr tr1) (
  clI (Cl sc d mX12_throwsIf [Vr tr1, Vi ti0, Vi 3] h) am_xt fun v2 h1 =>
  if v2 = 0 then
    am_rcv 12 h1 (Vr r0) (
    clV (Cl sc d mX12_remembers [Vr r0] h1) am_xt fun h3 =>
    am_rcv 12 h3 (Vr r0) (
    clI (Cl sc d mX12_of [Vr r0, Vi i1, Vi 2] h3) am_xt fun v5 h4 =>
    gfP 12 1 h4 r0 fun p6 =>
    clI (Cl sc d mX12_at [Vi i1, Vi 1] h4) am_xt fun v8 h7 =>
    stA 1 h7 p6 v8 0 fun h9 =>
    gfP 12 1 h9 r0 fun p10 =>
    clI (Cl sc d mX12_at [Vi i1, Vi 2] h9) am_xt fun v12 h11 =>
    stA 1 h11 p10 v12 i2 fun h13 =>
    am_rcv 12 h13 (Vr r0) (
    clV (Cl sc d mX12_tells [Vr r0, Vi i1, Vi 3, Vi (-1), Vi v5] h13) am_xt fun h14 =>
    some (.inl (Vi v5), h14))))
  else
    some (.inl (Vi 0), h1)) := (Ru_at at_X12_again 30 _ _ _).trans rfl
theorem at_X12_familyNow : am_at mX12_familyNow = (cd_X12_familyNow, [], 5) := rfl
set_option maxRecDepth 60000 in
theorem q_X12_familyNow_0 (sc : Nat × (Nat → Int)) (d : Nat) (r0 : Option Nat) (i1 : Int) (i2 : Int) (i3 : Int) (h : am_H) : Cl sc (d + 1) mX12_familyNow [Vr r0, Vi i1, Vi i2, Vi i3] h =
  am_rcv 12 h (Vr r0) (
  clV (Cl sc d mX12_remembers [Vr r0] h) am_xt fun h1 =>
  am_rcv 12 h1 (Vr r0) (
  clI (Cl sc d mX12_ofFamily [Vr r0, Vi i1, Vi i2] h1) am_xt fun v3 h2 =>
  gfP 12 1 h2 r0 fun p4 =>
  clI (Cl sc d mX12_familyAt [Vi i1, Vi i2] h2) am_xt fun v6 h5 =>
  stA 1 h5 p4 v6 i3 fun h7 =>
  some (.inl (Vi v3), h7))) := (Cl_at at_X12_familyNow rfl _).trans rfl
theorem at_X12_forgive : am_at mX12_forgive = (cd_X12_forgive, [], 2) := rfl
set_option maxRecDepth 60000 in
theorem q_X12_forgive_0 (sc : Nat × (Nat → Int)) (d : Nat) (r0 : Option Nat) (i1 : Int) (h : am_H) : Cl sc (d + 1) mX12_forgive [Vr r0, Vi i1] h =
  pfI 0 12 0 h r0 0 fun h1 =>
  am_rcv 12 h1 (Vr r0) (
  clI (Cl sc d mX12_noFamily [Vr r0, Vi i1] h1) am_xt fun v3 h2 =>
  am_rcv 12 h2 (Vr r0) (
  clI (Cl sc d mX12_throwsIf [Vr r0, Vi v3, Vi 1] h2) am_xt fun v5 h4 =>
  if v5 = 0 then
    am_rcv 12 h4 (Vr r0) (
    clI (Cl sc d mX12_familyNow [Vr r0, Vi i1, Vi 3, Vi 0] h4) am_xt fun v7 h6 =>
    some (.inl (Vi v7), h6))
  else
    some (.inl (Vi 0), h4))) := (Cl_at at_X12_forgive rfl _).trans rfl
