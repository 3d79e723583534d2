theorem at_X6_init : am_at mX6_init = (cd_X6_init, [], 3) := rfl
set_option maxRecDepth 60000 in
theorem q_X6_init_0 (sc : Nat × (Nat → Int)) (d : Nat) (a0 : Nat) (r1 : Option Nat) (r2 : Option Nat) (h : am_H) : Cl sc (d + 1) mX6_init [Vr (some a0), Vr r1, Vr r2] h =
  newA 1 h 36 fun p1 h2 =>
  pfP 6 2 h2 (some a0) p1 fun h3 =>
  newA 1 h3 36 fun p4 h5 =>
  pfP 6 3 h5 (some a0) p4 fun h6 =>
  newG h6 6 6 fun p7 h8 =>
  pfP 6 4 h8 (some a0) p7 fun h9 =>
  newA 1 h9 64 fun p10 h11 =>
  pfP 6 5 h11 (some a0) p10 fun h12 =>
  newA 1 h12 6 fun p13 h14 =>
  pfP 6 6 h14 (some a0) p13 fun h15 =>
  pfP 6 0 h15 (some a0) r1 fun h16 =>
  pfP 6 1 h16 (some a0) r2 fun h17 =>
  some (.inl (Vx 0), h17) := (Cl_at at_X6_init rfl _).trans rfl
theorem at_X6_doMeet : am_at mX6_doMeet = (cd_X6_doMeet, [], 4) := rfl
set_option maxRecDepth 60000 in
theorem q_X6_doMeet_0 (sc : Nat × (Nat → Int)) (d : Nat) (r0 : Option Nat) (r1 : Option Nat) (i2 : Int) (i3 : Int) (h : am_H) : Cl sc (d + 1) mX6_doMeet [Vr r0, Vr r1, Vi i2, Vi i3] h =
  am_rcv 6 h (Vr r0) (
  clI (Cl sc d mX6_comesHomeTo [Vr r0, Vr r1, Vi i2, Vi i3] h) am_xt fun v2 h1 =>
  if v2 = 0 then
    some (.inl (Vi 0), h1)
  else
    am_rcv 6 h1 (Vr r0) (
    clI (Cl sc d mX6_comesHomeTo [Vr r0, Vr r1, Vi i3, Vi i2] h1) am_xt fun v4 h3 =>
    if v4 = 0 then
      some (.inl (Vi 0), h3)
    else
      some (.inl (Vi 1), h3))) := (Cl_at at_X6_doMeet rfl _).trans rfl
theorem at_X6_comesHomeTo : am_at mX6_comesHomeTo = (cd_X6_comesHomeTo, [], 4) := rfl
set_option maxRecDepth 60000 in
theorem q_X6_comesHomeTo_0 (sc : Nat × (Nat → Int)) (d : Nat) (r0 : Option Nat) (r1 : Option Nat) (i2 : Int) (i3 : Int) (h : am_H) : Cl sc (d + 1) mX6_comesHomeTo [Vr r0, Vr r1, Vi i2, Vi i3] h =
  gfP 6 0 h r0 fun p1 =>
  gfP 0 7 h r1 fun p2 =>
  ldA 1 h p2 i2 fun v3 =>
  am_rcv 8 h (Vr p1) (
  clV (Cl sc d mX8_ofCells [Vr p1, Vr r1, Vi v3, Vi (-1)] h) am_xt fun h4 =>
  gfP 6 0 h4 r0 fun p5 =>
  gfP 0 6 h4 r1 fun p6 =>
  ldA 1 h4 p6 i2 fun v7 =>
  gfP 0 6 h4 r1 fun p8 =>
  ldA 1 h4 p8 i3 fun v9 =>
  am_rcv 8 h4 (Vr p5) (
  clI (Cl sc d mX8_areTogether [Vr p5, Vi v7, Vi v9] h4) am_xt fun v11 h10 =>
  am_ret 1 v11 h10)) := (Cl_at at_X6_comesHomeTo rfl _).trans rfl
theorem at_X6_middle : am_at mX6_middle = (cd_X6_middle, [], 6) := rfl
set_option maxRecDepth 60000 in
theorem q_X6_middle_0 (sc : Nat × (Nat → Int)) (d : Nat) (r0 : Option Nat) (r1 : Option Nat) (i2 : Int) (i3 : Int) (h : am_H) : Cl sc (d + 1) mX6_middle [Vr r0, Vr r1, Vi i2, Vi i3] h =
  gfP 6 1 h r0 fun p1 =>
  gfP 6 2 h r0 fun p2 =>
  am_rcv 7 h (Vr p1) (
  clV (Cl sc d mX7_fromHome [Vr p1, Vr r1, Vi i2, Vr p2] h) am_xt fun h3 =>
  gfP 6 1 h3 r0 fun p4 =>
  gfP 6 3 h3 r0 fun p5 =>
  am_rcv 7 h3 (Vr p4) (
  clV (Cl sc d mX7_fromHome [Vr p4, Vr r1, Vi i3, Vr p5] h3) am_xt fun h6 =>
  Ru sc (d + 1) mX6_middle 19 [Vr r0, Vr r1, Vi i2, Vi i3, Vi (-1), Vi 0] [] h6)) := (Cl_at at_X6_middle rfl _).trans rfl
set_option maxRecDepth 60000 in
theorem q_X6_middle_19 (sc : Nat × (Nat → Int)) (d : Nat) (r0 : Option Nat) (r1 : Option Nat) (i2 : Int) (i3 : Int) (i4 : Int) (i5 : Int) (h : am_H) : Ru sc (d + 1) mX6_middle 19 [Vr r0, Vr r1, Vi i2, Vi i3, Vi i4, Vi i5] [] h =
  if i5 < 36 then
    gfP 6 1 h r0 fun p1 =>
    gfP 6 2 h r0 fun p2 =>
    ldA 1 h p2 i5 fun v3 =>
    am_rcv 7 h (Vr p1) (
    clI (Cl sc d mX7_isNever [Vr p1, Vi v3] h) am_xt fun v5 h4 =>
    if v5 = 0 then
      gfP 6 1 h4 r0 fun p6 =>
      gfP 6 3 h4 r0 fun p7 =>
      ldA 1 h4 p7 i5 fun v8 =>
      am_rcv 7 h4 (Vr p6) (
      clI (Cl sc d mX7_isNever [Vr p6, Vi v8] h4) am_xt fun v10 h9 =>
      if v10 = 0 then
        if i4 = (-1) then
          Ru sc (d + 1) mX6_middle 19 [Vr r0, Vr r1, Vi i2, Vi i3, Vi i5, Vi (w32 (i5 + 1))] [] h9
        else
          gfP 6 2 h9 r0 fun p11 =>
          ldA 1 h9 p11 i5 fun v12 =>
          gfP 6 3 h9 r0 fun p13 =>
          ldA 1 h9 p13 i5 fun v14 =>
          gfP 6 2 h9 r0 fun p15 =>
          ldA 1 h9 p15 i4 fun v16 =>
          gfP 6 3 h9 r0 fun p17 =>
          ldA 1 h9 p17 i4 fun v18 =>
          if (w32 (v12 + v14)) < (w32 (v16 + v18)) then
            Ru sc (d + 1) mX6_middle 19 [Vr r0, Vr r1, Vi i2, Vi i3, Vi i5, Vi (w32 (i5 + 1))] [] h9
          else
            Ru sc (d + 1) mX6_middle 19 [Vr r0, Vr r1, Vi i2, Vi i3, Vi i4, Vi (w32 (i5 + 1))] [] h9
      else
        Ru sc (d + 1) mX6_middle 19 [Vr r0, Vr r1, Vi i2, Vi i3, Vi i4, Vi (w32 (i5 + 1))] [] h9)
    else
      Ru sc (d + 1) mX6_middle 19 [Vr r0, Vr r1, Vi i2, Vi i3, Vi i4, Vi (w32 (i5 + 1))] [] h4)
  else
    some (.inl (Vi i4), h) := (Ru_at at_X6_middle 19 _ _ _).trans rfl
theorem at_X6_doesSee : am_at mX6_doesSee = (cd_X6_doesSee, [], 8) := rfl
set_option maxRecDepth 60000 in
theorem q_X6_doesSee_0 (sc : Nat × (Nat → Int)) (d : Nat) (r0 : Option Nat) (r1 : Option Nat) (i2 : Int) (i3 : Int) (h : am_H) : Cl sc (d + 1) mX6_doesSee [Vr r0, Vr r1, Vi i2, Vi i3] h =
  gfP 0 6 h r1 fun p1 =>
  ldA 1 h p1 i2 fun v2 =>
  clI (Cl sc d mX2_towards [Vi v2, Vi i3] h) am_xt fun v4 h3 =>
  if v4 = (-1) then
    some (.inl (Vi 0), h3)
  else
    Ru sc (d + 1) mX6_doesSee 17 [Vr r0, Vr r1, Vi i2, Vi i3, Vi v2, Vi v4, Vi 0, Vx 0] [] h3 := (Cl_at at_X6_doesSee rfl _).trans rfl
set_option maxRecDepth 60000 in
theorem q_X6_doesSee_17 (sc : Nat × (Nat → Int)) (d : Nat) (r0 : Option Nat) (r1 : Option Nat) (i2 : Int) (i3 : Int) (i4 : Int) (i5 : Int) (i6 : Int) (u7 : am_V) (h : am_H) : Ru sc (d + 1) mX6_doesSee 17 [Vr r0, Vr r1, Vi i2, Vi i3, Vi i4, Vi i5, Vi i6, u7] [] h =
  if i6 < 6 then
    if i4 = i3 then
      if i4 = i3 then
        some (.inl (Vi 1), h)
      else
        some (.inl (Vi 0), h)
    else
      clI (Cl sc d mX2_onSide [Vi i4, Vi i5] h) am_xt fun v2 h1 =>
      if v2 = (-1) then
        some (.inl (Vi 0), h1)
      else
        gfP 0 8 h1 r1 fun p3 =>
        ldA 1 h1 p3 i2 fun v4 =>
        am_rcv 0 h1 (Vr r1) (
        clI (Cl sc d mX0_isTop [Vr r1, Vi v2, Vi v4] h1) am_xt fun v6 h5 =>
        if v6 = 0 then
          clI (Cl sc d mX2_across [Vi i4, Vi v2] h5) am_xt fun v8 h7 =>
          Ru sc (d + 1) mX6_doesSee 17 [Vr r0, Vr r1, Vi i2, Vi i3, Vi v8, Vi i5, Vi (w32 (i6 + 1)), Vi v2] [] h7
        else
          some (.inl (Vi 0), h5))
  else
    if i4 = i3 then
      some (.inl (Vi 1), h)
    else
      some (.inl (Vi 0), h) := (Ru_at at_X6_doesSee 17 _ _ _).trans rfl
theorem at_X6_share : am_at mX6_share = (cd_X6_share, [], 5) := rfl
set_option maxRecDepth 60000 in
theorem q_X6_share_0 (sc : Nat × (Nat → Int)) (d : Nat) (r0 : Option Nat) (r1 : Option Nat) (i2 : Int) (h : am_H) : Cl sc (d + 1) mX6_share [Vr r0, Vr r1, Vi i2] h =
  Ru sc (d + 1) mX6_share 5 [Vr r0, Vr r1, Vi i2, Vi 0, Vi 0] [] h := (Cl_at at_X6_share rfl _).trans rfl
set_option maxRecDepth 60000 in
theorem q_X6_share_5 (sc : Nat × (Nat → Int)) (d : Nat) (r0 : Option Nat) (r1 : Option Nat) (i2 : Int) (i3 : Int) (i4 : Int) (h : am_H) : Ru sc (d + 1) mX6_share 5 [Vr r0, Vr r1, Vi i2, Vi i3, Vi i4] [] h =
  if i4 < 36 then
    clI (Cl sc d mX6_nearest [Vr r1, Vi i4] h) am_xt fun v2 h1 =>
    if v2 = i2 then
      Ru sc (d + 1) mX6_share 5 [Vr r0, Vr r1, Vi i2, Vi (w32 (i3 + 1)), Vi (w32 (i4 + 1))] [] h1
    else
      Ru sc (d + 1) mX6_share 5 [Vr r0, Vr r1, Vi i2, Vi (w32 (i3 + 0)), Vi (w32 (i4 + 1))] [] h1
  else
    some (.inl (Vi i3), h) := (Ru_at at_X6_share 5 _ _ _).trans rfl
theorem at_X6_nearest : am_at mX6_nearest = (cd_X6_nearest, [], 4) := rfl
set_option maxRecDepth 60000 in
theorem q_X6_nearest_0 (sc : Nat × (Nat → Int)) (d : Nat) (r0 : Option Nat) (i1 : Int) (h : am_H) : Cl sc (d + 1) mX6_nearest [Vr r0, Vi i1] h =
  Ru sc (d + 1) mX6_nearest 5 [Vr r0, Vi i1, Vi 0, Vi 1] [] h := (Cl_at at_X6_nearest rfl _).trans rfl
set_option maxRecDepth 60000 in
theorem q_X6_nearest_5 (sc : Nat × (Nat → Int)) (d : Nat) (r0 : Option Nat) (i1 : Int) (i2 : Int) (i3 : Int) (h : am_H) : Ru sc (d + 1) mX6_nearest 5 [Vr r0, Vi i1, Vi i2, Vi i3] [] h =
  gfI 0 5 h r0 fun v1 =>
  if i3 < v1 then
    gfP 0 6 h r0 fun p2 =>
    ldA 1 h p2 i3 fun v3 =>
    clI (Cl sc d mX2_apart [Vi v3, Vi i1] h) am_xt fun v5 h4 =>
    gfP 0 6 h4 r0 fun p6 =>
    ldA 1 h4 p6 i2 fun v7 =>
    clI (Cl sc d mX2_apart [Vi v7, Vi i1] h4) am_xt fun v9 h8 =>
    if v5 < v9 then
      Ru sc (d + 1) mX6_nearest 5 [Vr r0, Vi i1, Vi i3, Vi (w32 (i3 + 1))] [] h8
    else
      Ru sc (d + 1) mX6_nearest 5 [Vr r0, Vi i1, Vi i2, Vi (w32 (i3 + 1))] [] h8
  else
    some (.inl (Vi i2), h) := (Ru_at at_X6_nearest 5 _ _ _).trans rfl
theorem at_X6_pairUp : am_at mX6_pairUp = (cd_X6_pairUp, [], 6) := rfl
set_option maxRecDepth 60000 in
theorem q_X6_pairUp_0 (sc : Nat × (Nat → Int)) (d : Nat) (r0 : Option Nat) (r1 : Option Nat) (h : am_H) : Cl sc (d + 1) mX6_pairUp [Vr r0, Vr r1] h =
  am_rcv 6 h (Vr r0) (
  clV (Cl sc d mX6_valuePairs [Vr r0, Vr r1] h) am_xt fun h1 =>
  gfI 0 5 h1 r1 fun v2 =>
  gfP 6 5 h1 r0 fun p3 =>
  stA 1 h1 p3 0 0 fun h4 =>
  Ru sc (d + 1) mX6_pairUp 16 [Vr r0, Vr r1, Vi (bShl 1 v2), Vi 1, Vx 0, Vx 0] [] h4) := (Cl_at at_X6_pairUp rfl _).trans rfl
set_option maxRecDepth 60000 in
theorem q_X6_pairUp_16 (sc : Nat × (Nat → Int)) (d : Nat) (r0 : Option Nat) (r1 : Option Nat) (i2 : Int) (i3 : Int) (u4 : am_V) (u5 : am_V) (h : am_H) : Ru sc (d + 1) mX6_pairUp 16 [Vr r0, Vr r1, Vi i2, Vi i3, u4, u5] [] h =
  if i3 < i2 then
    gfP 6 5 h r0 fun p3 =>
    gfI 0 5 h r1 fun v4 =>
    am_rcv 6 h (Vr r0) (
    clI (Cl sc d mX6_bestWorth [Vr r0, Vi i3, Vi v4] h) am_xt fun v6 h5 =>
    stA 1 h5 p3 i3 v6 fun h7 =>
    Ru sc (d + 1) mX6_pairUp 16 [Vr r0, Vr r1, Vi i2, Vi (w32 (i3 + 1)), u4, u5] [] h7)
  else
    gfP 6 6 h r0 fun p1 =>
    clV (Cl sc d mJ7_fill_53178 [Vr p1, Vi (-1)] h) am_xt fun h2 =>
    Ru sc (d + 1) mX6_pairUp 41 [Vr r0, Vr r1, Vi i2, Vi (w32 (i2 - 1)), Vi 0, u5] [] h2 := (Ru_at at_X6_pairUp 16 _ _ _).trans rfl
set_option maxRecDepth 60000 in
theorem q_X6_pairUp_41 (sc : Nat × (Nat → Int)) (d : Nat) (r0 : Option Nat) (r1 : Option Nat) (i2 : Int) (i3 : Int) (i4 : Int) (u5 : am_V) (h : am_H) : Ru sc (d + 1) mX6_pairUp 41 [Vr r0, Vr r1, Vi i2, Vi i3, Vi i4, u5] [] h =
  gfI 0 5 h r1 fun v1 =>
  if i4 < v1 then
    if (bAnd (bShr i3 i4) 1) = 0 then
      Ru sc (d + 1) mX6_pairUp 41 [Vr r0, Vr r1, Vi i2, Vi i3, Vi (w32 (i4 + 1)), u5] [] h
    else
      gfI 0 5 h r1 fun v2 =>
      am_rcv 6 h (Vr r0) (
      clI (Cl sc d mX6_firstBestPartner [Vr r0, Vi i3, Vi i4, Vi v2] h) am_xt fun v4 h3 =>
      if v4 = (-1) then
        Ru sc (d + 1) mX6_pairUp 41 [Vr r0, Vr r1, Vi i2, Vi (w32 (i3 - (bShl 1 i4))), Vi (w32 (i4 + 1)), Vi v4] [] h3
      else
        gfP 6 6 h3 r0 fun p5 =>
        stA 1 h3 p5 i4 v4 fun h6 =>
        gfP 6 6 h6 r0 fun p7 =>
        stA 1 h6 p7 v4 i4 fun h8 =>
        Ru sc (d + 1) mX6_pairUp 41 [Vr r0, Vr r1, Vi i2, Vi (w32 ((w32 (i3 - (bShl 1 i4))) - (bShl 1 v4))), Vi (w32 (i4 + 1)), Vi v4] [] h8)
  else
    some (.inl (Vx 0), h) := (Ru_at at_X6_pairUp 41 _ _ _).trans rfl
theorem at_X6_valuePairs : am_at mX6_valuePairs = (cd_X6_valuePairs, [], 4) := rfl
set_option maxRecDepth 60000 in
theorem q_X6_valuePairs_0 (sc : Nat × (Nat → Int)) (d : Nat) (r0 : Option Nat) (r1 : Option Nat) (h : am_H) : Cl sc (d + 1) mX6_valuePairs [Vr r0, Vr r1] h =
  Ru sc (d + 1) mX6_valuePairs 3 [Vr r0, Vr r1, Vi 0, Vx 0] [] h := (Cl_at at_X6_valuePairs rfl _).trans rfl
set_option maxRecDepth 60000 in
theorem q_X6_valuePairs_3 (sc : Nat × (Nat → Int)) (d : Nat) (r0 : Option Nat) (r1 : Option Nat) (i2 : Int) (u3 : am_V) (h : am_H) : Ru sc (d + 1) mX6_valuePairs 3 [Vr r0, Vr r1, Vi i2, u3] [] h =
  gfI 0 5 h r1 fun v1 =>
  if i2 < v1 then
    gfP 6 1 h r0 fun p2 =>
    gfP 6 2 h r0 fun p3 =>
    am_rcv 7 h (Vr p2) (
    clV (Cl sc d mX7_fromHome [Vr p2, Vr r1, Vi i2, Vr p3] h) am_xt fun h4 =>
    Ru sc (d + 1) mX6_valuePairs 19 [Vr r0, Vr r1, Vi i2, Vi (w32 (i2 + 1))] [] h4)
  else
    some (.inl (Vx 0), h) := (Ru_at at_X6_valuePairs 3 _ _ _).trans rfl
set_option maxRecDepth 60000 in
theorem q_X6_valuePairs_19 (sc : Nat × (Nat → Int)) (d : Nat) (r0 : Option Nat) (r1 : Option Nat) (i2 : Int) (i3 : Int) (h : am_H) : Ru sc (d + 1) mX6_valuePairs 19 [Vr r0, Vr r1, Vi i2, Vi i3] [] h =
  gfI 0 5 h r1 fun v1 =>
  if i3 < v1 then
    gfP 6 4 h r0 fun p2 =>
    ldP 6 h p2 i2 fun p3 =>
    am_rcv 6 h (Vr r0) (
    clI (Cl sc d mX6_doMeet [Vr r0, Vr r1, Vi i2, Vi i3] h) am_xt fun v5 h4 =>
    if v5 = 0 then
      stA 1 h4 p3 i3 0 fun h6 =>
      Ru sc (d + 1) mX6_valuePairs 19 [Vr r0, Vr r1, Vi i2, Vi (w32 (i3 + 1))] [] h6
    else
      gfP 6 2 h4 r0 fun p7 =>
      gfP 0 6 h4 r1 fun p8 =>
      ldA 1 h4 p8 i3 fun v9 =>
      ldA 1 h4 p7 v9 fun v10 =>
      stA 1 h4 p3 i3 (w32 (100000 - v10)) fun h11 =>
      Ru sc (d + 1) mX6_valuePairs 19 [Vr r0, Vr r1, Vi i2, Vi (w32 (i3 + 1))] [] h11)
  else
    Ru sc (d + 1) mX6_valuePairs 3 [Vr r0, Vr r1, Vi (w32 (i2 + 1)), Vi i3] [] h := (Ru_at at_X6_valuePairs 19 _ _ _).trans rfl
theorem at_X6_bestWorth : am_at mX6_bestWorth = (cd_X6_bestWorth, [], 7) := rfl
set_option maxRecDepth 60000 in
theorem q_X6_bestWorth_0 (sc : Nat × (Nat → Int)) (d : Nat) (r0 : Option Nat) (i1 : Int) (i2 : Int) (h : am_H) : Cl sc (d + 1) mX6_bestWorth [Vr r0, Vi i1, Vi i2] h =
  clI (Cl sc d mX6_lowestOf [Vi i1] h) am_xt fun v2 h1 =>
  gfP 6 5 h1 r0 fun p3 =>
  ldA 1 h1 p3 (w32 (i1 - (bShl 1 v2))) fun v4 =>
  Ru sc (d + 1) mX6_bestWorth 19 [Vr r0, Vi i1, Vi i2, Vi v2, Vi (w32 (i1 - (bShl 1 v2))), Vi v4, Vi (w32 (v2 + 1))] [] h1 := (Cl_at at_X6_bestWorth rfl _).trans rfl
set_option maxRecDepth 60000 in
theorem q_X6_bestWorth_19 (sc : Nat × (Nat → Int)) (d : Nat) (r0 : Option Nat) (i1 : Int) (i2 : Int) (i3 : Int) (i4 : Int) (i5 : Int) (i6 : Int) (h : am_H) : Ru sc (d + 1) mX6_bestWorth 19 [Vr r0, Vi i1, Vi i2, Vi i3, Vi i4, Vi i5, Vi i6] [] h =
  if i6 < i2 then
    if (bAnd (bShr i4 i6) 1) = 1 then
      gfP 6 4 h r0 fun p1 =>
      ldP 6 h p1 i3 fun p2 =>
      ldA 1 h p2 i6 fun v3 =>
      gfP 6 5 h r0 fun p4 =>
      ldA 1 h p4 (w32 (i4 - (bShl 1 i6))) fun v5 =>
      clI (Cl sc d mJ9_max_7cf53 [Vi i5, Vi (w32 (v3 + v5))] h) am_xt fun v7 h6 =>
      Ru sc (d + 1) mX6_bestWorth 19 [Vr r0, Vi i1, Vi i2, Vi i3, Vi i4, Vi v7, Vi (w32 (i6 + 1))] [] h6
    else
      Ru sc (d + 1) mX6_bestWorth 19 [Vr r0, Vi i1, Vi i2, Vi i3, Vi i4, Vi i5, Vi (w32 (i6 + 1))] [] h
  else
    some (.inl (Vi i5), h) := (Ru_at at_X6_bestWorth 19 _ _ _).trans rfl
theorem at_X6_firstBestPartner : am_at mX6_firstBestPartner = (cd_X6_firstBestPartner, [], 6) := rfl
set_option maxRecDepth 60000 in
theorem q_X6_firstBestPartner_0 (sc : Nat × (Nat → Int)) (d : Nat) (r0 : Option Nat) (i1 : Int) (i2 : Int) (i3 : Int) (h : am_H) : Cl sc (d + 1) mX6_firstBestPartner [Vr r0, Vi i1, Vi i2, Vi i3] h =
  Ru sc (d + 1) mX6_firstBestPartner 11 [Vr r0, Vi i1, Vi i2, Vi i3, Vi (w32 (i1 - (bShl 1 i2))), Vi (w32 (i2 + 1))] [] h := (Cl_at at_X6_firstBestPartner rfl _).trans rfl
set_option maxRecDepth 60000 in
theorem q_X6_firstBestPartner_11 (sc : Nat × (Nat → Int)) (d : Nat) (r0 : Option Nat) (i1 : Int) (i2 : Int) (i3 : Int) (i4 : Int) (i5 : Int) (h : am_H) : Ru sc (d + 1) mX6_firstBestPartner 11 [Vr r0, Vi i1, Vi i2, Vi i3, Vi i4, Vi i5] [] h =
  if i5 < i3 then
    if (bAnd (bShr i4 i5) 1) = 1 then
      gfP 6 4 h r0 fun p1 =>
      ldP 6 h p1 i2 fun p2 =>
      ldA 1 h p2 i5 fun v3 =>
      if 0 < v3 then
        gfP 6 4 h r0 fun p4 =>
        ldP 6 h p4 i2 fun p5 =>
        ldA 1 h p5 i5 fun v6 =>
        gfP 6 5 h r0 fun p7 =>
        ldA 1 h p7 (w32 (i4 - (bShl 1 i5))) fun v8 =>
        gfP 6 5 h r0 fun p9 =>
        ldA 1 h p9 i1 fun v10 =>
        if (w32 (v6 + v8)) = v10 then
          some (.inl (Vi i5), h)
        else
          Ru sc (d + 1) mX6_firstBestPartner 11 [Vr r0, Vi i1, Vi i2, Vi i3, Vi i4, Vi (w32 (i5 + 1))] [] h
      else
        Ru sc (d + 1) mX6_firstBestPartner 11 [Vr r0, Vi i1, Vi i2, Vi i3, Vi i4, Vi (w32 (i5 + 1))] [] h
    else
      Ru sc (d + 1) mX6_firstBestPartner 11 [Vr r0, Vi i1, Vi i2, Vi i3, Vi i4, Vi (w32 (i5 + 1))] [] h
  else
    some (.inl (Vi (-1)), h) := (Ru_at at_X6_firstBestPartner 11 _ _ _).trans rfl
theorem at_X6_lowestOf : am_at mX6_lowestOf = (cd_X6_lowestOf, [], 2) := rfl
set_option maxRecDepth 60000 in
theorem q_X6_lowestOf_0 (sc : Nat × (Nat → Int)) (d : Nat) (i0 : Int) (h : am_H) : Cl sc (d + 1) mX6_lowestOf [Vi i0] h =
  Ru sc (d + 1) mX6_lowestOf 3 [Vi i0, Vi 0] [] h := (Cl_at at_X6_lowestOf rfl _).trans rfl
set_option maxRecDepth 60000 in
theorem q_X6_lowestOf_3 (sc : Nat × (Nat → Int)) (d : Nat) (i0 : Int) (i1 : Int) (h : am_H) : Ru sc (d + 1) mX6_lowestOf 3 [Vi i0, Vi i1] [] h =
  if i1 < 5 then
    if (bAnd (bShr i0 i1) 1) = 0 then
      Ru sc (d + 1) mX6_lowestOf 3 [Vi i0, Vi (w32 (i1 + 1))] [] h
    else
      some (.inl (Vi i1), h)
  else
    some (.inl (Vi i1), h) := (Ru_at at_X6_lowestOf 3 _ _ _).trans rfl
theorem at_X6_pairCount : am_at mX6_pairCount = (cd_X6_pairCount, [], 3) := rfl
set_option maxRecDepth 60000 in
theorem q_X6_pairCount_0 (sc : Nat × (Nat → Int)) (d : Nat) (r0 : Option Nat) (h : am_H) : Cl sc (d + 1) mX6_pairCount [Vr r0] h =
  Ru sc (d + 1) mX6_pairCount 5 [Vr r0, Vi 0, Vi 0] [] h := (Cl_at at_X6_pairCount rfl _).trans rfl
set_option maxRecDepth 60000 in
theorem q_X6_pairCount_5 (sc : Nat × (Nat → Int)) (d : Nat) (r0 : Option Nat) (i1 : Int) (i2 : Int) (h : am_H) : Ru sc (d + 1) mX6_pairCount 5 [Vr r0, Vi i1, Vi i2] [] h =
  if i2 < 6 then
    gfP 6 6 h r0 fun p1 =>
    ldA 1 h p1 i2 fun v2 =>
    if v2 = (-1) then
      Ru sc (d + 1) mX6_pairCount 5 [Vr r0, Vi (w32 (i1 + 0)), Vi (w32 (i2 + 1))] [] h
    else
      Ru sc (d + 1) mX6_pairCount 5 [Vr r0, Vi (w32 (i1 + 1)), Vi (w32 (i2 + 1))] [] h
  else
    if 2 = 0 then none else
    some (.inl (Vi (w32 (i1.tdiv 2))), h) := (Ru_at at_X6_pairCount 5 _ _ _).trans rfl
theorem at_X6_restingChoices : am_at mX6_restingChoices = (cd_X6_restingChoices, [], 9) := rfl
set_option maxRecDepth 60000 in
theorem q_X6_restingChoices_0 (sc : Nat × (Nat → Int)) (d : Nat) (r0 : Option Nat) (r1 : Option Nat) (i2 : Int) (i3 : Int) (h : am_H) : Cl sc (d + 1) mX6_restingChoices [Vr r0, Vr r1, Vi i2, Vi i3] h =
  Ru sc (d + 1) mX6_restingChoices 5 [Vr r0, Vr r1, Vi i2, Vi i3, Vi 0, Vi 0, Vx 0, Vx 0, Vx 0] [] h := (Cl_at at_X6_restingChoices rfl _).trans rfl
set_option maxRecDepth 60000 in
theorem q_X6_restingChoices_5 (sc : Nat × (Nat → Int)) (d : Nat) (r0 : Option Nat) (r1 : Option Nat) (i2 : Int) (i3 : Int) (i4 : Int) (i5 : Int) (u6 : am_V) (u7 : am_V) (u8 : am_V) (h : am_H) : Ru sc (d + 1) mX6_restingChoices 5 [Vr r0, Vr r1, Vi i2, Vi i3, Vi i4, Vi i5, u6, u7, u8] [] h =
  if i5 < 4 then
    if 2 = 0 then none else
    if 2 = 0 then none else
    clI (Cl sc d mX6_payoff [Vr r1, Vi i2, Vi (w32 (i5.tdiv 2)), Vi (i5.tmod 2)] h) am_xt fun v2 h1 =>
    clI (Cl sc d mX6_payoff [Vr r1, Vi i2, Vi (w32 (1 - (w32 (i5.tdiv 2)))), Vi (i5.tmod 2)] h1) am_xt fun v4 h3 =>
    if v2 < v4 then
      Ru sc (d + 1) mX6_restingChoices 46 [Vr r0, Vr r1, Vi i2, Vi i3, Vi i4, Vi i5, Vi (w32 (i5.tdiv 2)), Vi (i5.tmod 2), u8] [Vi 0] h3
    else
      clI (Cl sc d mX6_payoff [Vr r1, Vi i3, Vi (i5.tmod 2), Vi (w32 (i5.tdiv 2))] h3) am_xt fun v6 h5 =>
      clI (Cl sc d mX6_payoff [Vr r1, Vi i3, Vi (w32 (1 - (i5.tmod 2))), Vi (w32 (i5.tdiv 2))] h5) am_xt fun v8 h7 =>
      if v6 < v8 then
        Ru sc (d + 1) mX6_restingChoices 46 [Vr r0, Vr r1, Vi i2, Vi i3, Vi i4, Vi i5, Vi (w32 (i5.tdiv 2)), Vi (i5.tmod 2), u8] [Vi 0] h7
      else
        Ru sc (d + 1) mX6_restingChoices 46 [Vr r0, Vr r1, Vi i2, Vi i3, Vi i4, Vi i5, Vi (w32 (i5.tdiv 2)), Vi (i5.tmod 2), u8] [Vi 1] h7
  else
    some (.inl (Vi i4), h) := (Ru_at at_X6_restingChoices 5 _ _ _).trans rfl
set_option maxRecDepth 60000 in
theorem q_X6_restingChoices_46 (sc : Nat × (Nat → Int)) (d : Nat) (r0 : Option Nat) (r1 : Option Nat) (i2 : Int) (i3 : Int) (i4 : Int) (i5 : Int) (i6 : Int) (i7 : Int) (u8 : am_V) (ti0 : Int) (h : am_H) : Ru sc (d + 1) mX6_restingChoices 46 [Vr r0, Vr r1, Vi i2, Vi i3, Vi i4, Vi i5, Vi i6, Vi i7, u8] [Vi ti0] h =
  if ti0 = 0 then
    Ru sc (d + 1) mX6_restingChoices 5 [Vr r0, Vr r1, Vi i2, Vi i3, Vi (bOr i4 0), Vi (w32 (i5 + 1)), Vi i6, Vi i7, Vi ti0] [] h
  else
    Ru sc (d + 1) mX6_restingChoices 5 [Vr r0, Vr r1, Vi i2, Vi i3, Vi (bOr i4 (bShl 1 i5)), Vi (w32 (i5 + 1)), Vi i6, Vi i7, Vi ti0] [] h := (Ru_at at_X6_restingChoices 46 _ _ _).trans rfl
theorem at_X6_payoff : am_at mX6_payoff = (cd_X6_payoff, [], 4) := rfl
set_option maxRecDepth 60000 in
theorem q_X6_payoff_0 (sc : Nat × (Nat → Int)) (d : Nat) (r0 : Option Nat) (i1 : Int) (i2 : Int) (i3 : Int) (h : am_H) : Cl sc (d + 1) mX6_payoff [Vr r0, Vi i1, Vi i2, Vi i3] h =
  if i2 = 0 then
    if i3 = 0 then
      some (.inl (Vi 5), h)
    else
      gfP 0 9 h r0 fun p3 =>
      ldA 1 h p3 i1 fun v4 =>
      if 10 = 0 then none else
      some (.inl (Vi (w32 (1 - (w32 (v4.tdiv 10))))), h)
  else
    if i3 = 0 then
      some (.inl (Vi 3), h)
    else
      gfP 0 7 h r0 fun p1 =>
      ldA 1 h p1 i1 fun v2 =>
      if 100 = 0 then none else
      some (.inl (Vi (w32 (v2.tdiv 100))), h) := (Cl_at at_X6_payoff rfl _).trans rfl
theorem at_X7_init : am_at mX7_init = (cd_X7_init, [], 1) := rfl
set_option maxRecDepth 60000 in
theorem q_X7_init_0 (sc : Nat × (Nat → Int)) (d : Nat) (a0 : Nat) (h : am_H) : Cl sc (d + 1) mX7_init [Vr (some a0)] h =
  newA 1 h 60 fun p1 h2 =>
  pfP 7 0 h2 (some a0) p1 fun h3 =>
  newA 1 h3 49 fun p4 h5 =>
  pfP 7 1 h5 (some a0) p4 fun h6 =>
  newG h6 64 36 fun p7 h8 =>
  pfP 7 2 h8 (some a0) p7 fun h9 =>
  newA 1 h9 60 fun p10 h11 =>
  pfP 7 3 h11 (some a0) p10 fun h12 =>
  newA 1 h12 36 fun p13 h14 =>
  pfP 7 4 h14 (some a0) p13 fun h15 =>
  newA 1 h15 36 fun p16 h17 =>
  pfP 7 5 h17 (some a0) p16 fun h18 =>
  some (.inl (Vx 0), h18) := (Cl_at at_X7_init rfl _).trans rfl
theorem at_X7_climbing : am_at mX7_climbing = (cd_X7_climbing, [], 4) := rfl
set_option maxRecDepth 60000 in
theorem q_X7_climbing_0 (sc : Nat × (Nat → Int)) (d : Nat) (r0 : Option Nat) (r1 : Option Nat) (i2 : Int) (i3 : Int) (h : am_H) : Cl sc (d + 1) mX7_climbing [Vr r0, Vr r1, Vi i2, Vi i3] h =
  gfP 7 1 h r0 fun p1 =>
  am_rcv 7 h (Vr r0) (
  clV (Cl sc d mX7_fromHome [Vr r0, Vr r1, Vi i2, Vr p1] h) am_xt fun h2 =>
  gfP 7 1 h2 r0 fun p3 =>
  ldA 1 h2 p3 i3 fun v4 =>
  clI (Cl sc d mX7_orNone [Vi v4] h2) am_xt fun v6 h5 =>
  some (.inl (Vi v6), h5)) := (Cl_at at_X7_climbing rfl _).trans rfl
theorem at_X7_fromHome : am_at mX7_fromHome = (cd_X7_fromHome, [], 6) := rfl
set_option maxRecDepth 60000 in
theorem q_X7_fromHome_0 (sc : Nat × (Nat → Int)) (d : Nat) (r0 : Option Nat) (r1 : Option Nat) (i2 : Int) (r3 : Option Nat) (h : am_H) : Cl sc (d + 1) mX7_fromHome [Vr r0, Vr r1, Vi i2, Vr r3] h =
  gfP 0 7 h r1 fun p1 =>
  ldA 1 h p1 i2 fun v2 =>
  Ru sc (d + 1) mX7_fromHome 8 [Vr r0, Vr r1, Vi i2, Vr r3, Vi v2, Vi 0] [] h := (Cl_at at_X7_fromHome rfl _).trans rfl
set_option maxRecDepth 60000 in
theorem q_X7_fromHome_8 (sc : Nat × (Nat → Int)) (d : Nat) (r0 : Option Nat) (r1 : Option Nat) (i2 : Int) (r3 : Option Nat) (i4 : Int) (i5 : Int) (h : am_H) : Ru sc (d + 1) mX7_fromHome 8 [Vr r0, Vr r1, Vi i2, Vr r3, Vi i4, Vi i5] [] h =
  if i5 < 60 then
    gfP 7 0 h r0 fun p4 =>
    am_rcv 0 h (Vr r1) (
    clI (Cl sc d mX0_isOpen [Vr r1, Vi i5, Vi i4] h) am_xt fun v6 h5 =>
    if v6 = 0 then
      stA 1 h5 p4 i5 (-1) fun h7 =>
      Ru sc (d + 1) mX7_fromHome 8 [Vr r0, Vr r1, Vi i2, Vr r3, Vi i4, Vi (w32 (i5 + 1))] [] h7
    else
      am_rcv 0 h5 (Vr r1) (
      clI (Cl sc d mX0_toll [Vr r1, Vi i5] h5) am_xt fun v9 h8 =>
      stA 1 h8 p4 i5 v9 fun h10 =>
      Ru sc (d + 1) mX7_fromHome 8 [Vr r0, Vr r1, Vi i2, Vr r3, Vi i4, Vi (w32 (i5 + 1))] [] h10))
  else
    gfP 0 6 h r1 fun p1 =>
    ldA 1 h p1 i2 fun v2 =>
    am_rcv 7 h (Vr r0) (
    clV (Cl sc d mX7_spread [Vr r0, Vr r3, Vi v2, Vi 0] h) am_xt fun h3 =>
    some (.inl (Vx 0), h3)) := (Ru_at at_X7_fromHome 8 _ _ _).trans rfl
theorem at_X7_isNever : am_at mX7_isNever = (cd_X7_isNever, [], 2) := rfl
set_option maxRecDepth 60000 in
theorem q_X7_isNever_0 (sc : Nat × (Nat → Int)) (d : Nat) (r0 : Option Nat) (i1 : Int) (h : am_H) : Cl sc (d + 1) mX7_isNever [Vr r0, Vi i1] h =
  if i1 < 1000000 then
    some (.inl (Vi 0), h)
  else
    some (.inl (Vi 1), h) := (Cl_at at_X7_isNever rfl _).trans rfl
theorem at_X7_pulling : am_at mX7_pulling = (cd_X7_pulling, [], 6) := rfl
set_option maxRecDepth 60000 in
theorem q_X7_pulling_0 (sc : Nat × (Nat → Int)) (d : Nat) (r0 : Option Nat) (r1 : Option Nat) (i2 : Int) (i3 : Int) (i4 : Int) (h : am_H) : Cl sc (d + 1) mX7_pulling [Vr r0, Vr r1, Vi i2, Vi i3, Vi i4] h =
  Ru sc (d + 1) mX7_pulling 3 [Vr r0, Vr r1, Vi i2, Vi i3, Vi i4, Vi 0] [] h := (Cl_at at_X7_pulling rfl _).trans rfl
set_option maxRecDepth 60000 in
theorem q_X7_pulling_3 (sc : Nat × (Nat → Int)) (d : Nat) (r0 : Option Nat) (r1 : Option Nat) (i2 : Int) (i3 : Int) (i4 : Int) (i5 : Int) (h : am_H) : Ru sc (d + 1) mX7_pulling 3 [Vr r0, Vr r1, Vi i2, Vi i3, Vi i4, Vi i5] [] h =
  if i5 < 60 then
    gfP 7 0 h r0 fun p7 =>
    am_rcv 0 h (Vr r1) (
    clI (Cl sc d mX0_isOpen [Vr r1, Vi i5, Vi i2] h) am_xt fun v9 h8 =>
    if v9 = 0 then
      stA 1 h8 p7 i5 1 fun h10 =>
      Ru sc (d + 1) mX7_pulling 3 [Vr r0, Vr r1, Vi i2, Vi i3, Vi i4, Vi (w32 (i5 + 1))] [] h10
    else
      stA 1 h8 p7 i5 0 fun h11 =>
      Ru sc (d + 1) mX7_pulling 3 [Vr r0, Vr r1, Vi i2, Vi i3, Vi i4, Vi (w32 (i5 + 1))] [] h11)
  else
    gfP 7 1 h r0 fun p1 =>
    am_rcv 7 h (Vr r0) (
    clV (Cl sc d mX7_spread [Vr r0, Vr p1, Vi i3, Vi 0] h) am_xt fun h2 =>
    gfP 7 1 h2 r0 fun p3 =>
    ldA 1 h2 p3 i4 fun v4 =>
    clI (Cl sc d mX7_orNone [Vi v4] h2) am_xt fun v6 h5 =>
    some (.inl (Vi v6), h5)) := (Ru_at at_X7_pulling 3 _ _ _).trans rfl
theorem at_X7_laddersBetween : am_at mX7_laddersBetween = (cd_X7_laddersBetween, [], 4) := rfl
set_option maxRecDepth 60000 in
theorem q_X7_laddersBetween_0 (sc : Nat × (Nat → Int)) (d : Nat) (r0 : Option Nat) (r1 : Option Nat) (i2 : Int) (i3 : Int) (h : am_H) : Cl sc (d + 1) mX7_laddersBetween [Vr r0, Vr r1, Vi i2, Vi i3] h =
  am_rcv 7 h (Vr r0) (
  clV (Cl sc d mX7_chargeLadders [Vr r0, Vr r1] h) am_xt fun h1 =>
  gfP 7 1 h1 r0 fun p2 =>
  am_rcv 7 h1 (Vr r0) (
  clV (Cl sc d mX7_spread [Vr r0, Vr p2, Vi i2, Vi 0] h1) am_xt fun h3 =>
  gfP 7 1 h3 r0 fun p4 =>
  ldA 1 h3 p4 i3 fun v5 =>
  clI (Cl sc d mX7_orNone [Vi v5] h3) am_xt fun v7 h6 =>
  some (.inl (Vi v7), h6))) := (Cl_at at_X7_laddersBetween rfl _).trans rfl
theorem at_X7_walking : am_at mX7_walking = (cd_X7_walking, [], 6) := rfl
set_option maxRecDepth 60000 in
theorem q_X7_walking_0 (sc : Nat × (Nat → Int)) (d : Nat) (r0 : Option Nat) (r1 : Option Nat) (i2 : Int) (i3 : Int) (i4 : Int) (h : am_H) : Cl sc (d + 1) mX7_walking [Vr r0, Vr r1, Vi i2, Vi i3, Vi i4] h =
  Ru sc (d + 1) mX7_walking 3 [Vr r0, Vr r1, Vi i2, Vi i3, Vi i4, Vi 0] [] h := (Cl_at at_X7_walking rfl _).trans rfl
set_option maxRecDepth 60000 in
theorem q_X7_walking_3 (sc : Nat × (Nat → Int)) (d : Nat) (r0 : Option Nat) (r1 : Option Nat) (i2 : Int) (i3 : Int) (i4 : Int) (i5 : Int) (h : am_H) : Ru sc (d + 1) mX7_walking 3 [Vr r0, Vr r1, Vi i2, Vi i3, Vi i4, Vi i5] [] h =
  if i5 < 60 then
    gfP 7 0 h r0 fun p7 =>
    am_rcv 0 h (Vr r1) (
    clI (Cl sc d mX0_isTop [Vr r1, Vi i5, Vi i2] h) am_xt fun v9 h8 =>
    if v9 = 0 then
      stA 1 h8 p7 i5 (-1) fun h10 =>
      Ru sc (d + 1) mX7_walking 3 [Vr r0, Vr r1, Vi i2, Vi i3, Vi i4, Vi (w32 (i5 + 1))] [] h10
    else
      stA 1 h8 p7 i5 1 fun h11 =>
      Ru sc (d + 1) mX7_walking 3 [Vr r0, Vr r1, Vi i2, Vi i3, Vi i4, Vi (w32 (i5 + 1))] [] h11)
  else
    gfP 7 1 h r0 fun p1 =>
    am_rcv 7 h (Vr r0) (
    clV (Cl sc d mX7_spread [Vr r0, Vr p1, Vi i3, Vi 1] h) am_xt fun h2 =>
    gfP 7 1 h2 r0 fun p3 =>
    ldA 1 h2 p3 i4 fun v4 =>
    clI (Cl sc d mX7_orNone [Vi v4] h2) am_xt fun v6 h5 =>
    some (.inl (Vi v6), h5)) := (Ru_at at_X7_walking 3 _ _ _).trans rfl
theorem at_X7_laddersForAll : am_at mX7_laddersForAll = (cd_X7_laddersForAll, [], 6) := rfl
set_option maxRecDepth 60000 in
theorem q_X7_laddersForAll_0 (sc : Nat × (Nat → Int)) (d : Nat) (r0 : Option Nat) (r1 : Option Nat) (h : am_H) : Cl sc (d + 1) mX7_laddersForAll [Vr r0, Vr r1] h =
  gfI 0 5 h r1 fun v1 =>
  if v1 = 0 then
    some (.inl (Vi 0), h)
  else
    am_rcv 7 h (Vr r0) (
    clV (Cl sc d mX7_chargeLadders [Vr r0, Vr r1] h) am_xt fun h2 =>
    gfI 0 5 h2 r1 fun v3 =>
    Ru sc (d + 1) mX7_laddersForAll 16 [Vr r0, Vr r1, Vi (bShl 1 v3), Vi 1, Vx 0, Vx 0] [] h2) := (Cl_at at_X7_laddersForAll rfl _).trans rfl
set_option maxRecDepth 60000 in
theorem q_X7_laddersForAll_16 (sc : Nat × (Nat → Int)) (d : Nat) (r0 : Option Nat) (r1 : Option Nat) (i2 : Int) (i3 : Int) (u4 : am_V) (u5 : am_V) (h : am_H) : Ru sc (d + 1) mX7_laddersForAll 16 [Vr r0, Vr r1, Vi i2, Vi i3, u4, u5] [] h =
  if i3 < i2 then
    gfP 7 2 h r0 fun p6 =>
    ldP 6 h p6 i3 fun p7 =>
    clV (Cl sc d mJ7_fill_53178 [Vr p7, Vi 1000000] h) am_xt fun h8 =>
    Ru sc (d + 1) mX7_laddersForAll 30 [Vr r0, Vr r1, Vi i2, Vi i3, Vr p7, Vi 0] [] h8
  else
    gfP 7 2 h r0 fun p1 =>
    ldP 6 h p1 (w32 (i2 - 1)) fun p2 =>
    gfP 0 6 h r1 fun p3 =>
    ldA 1 h p3 0 fun v4 =>
    ldA 1 h p2 v4 fun v5 =>
    some (.inl (Vi v5), h) := (Ru_at at_X7_laddersForAll 16 _ _ _).trans rfl
set_option maxRecDepth 60000 in
theorem q_X7_laddersForAll_30 (sc : Nat × (Nat → Int)) (d : Nat) (r0 : Option Nat) (r1 : Option Nat) (i2 : Int) (i3 : Int) (r4 : Option Nat) (i5 : Int) (h : am_H) : Ru sc (d + 1) mX7_laddersForAll 30 [Vr r0, Vr r1, Vi i2, Vi i3, Vr r4, Vi i5] [] h =
  gfI 0 5 h r1 fun v1 =>
  if i5 < v1 then
    if i3 = (bShl 1 i5) then
      gfP 0 6 h r1 fun p2 =>
      ldA 1 h p2 i5 fun v3 =>
      stA 1 h r4 v3 0 fun h4 =>
      Ru sc (d + 1) mX7_laddersForAll 30 [Vr r0, Vr r1, Vi i2, Vi i3, Vr r4, Vi (w32 (i5 + 1))] [] h4
    else
      Ru sc (d + 1) mX7_laddersForAll 30 [Vr r0, Vr r1, Vi i2, Vi i3, Vr r4, Vi (w32 (i5 + 1))] [] h
  else
    Ru sc (d + 1) mX7_laddersForAll 51 [Vr r0, Vr r1, Vi i2, Vi i3, Vr r4, Vi 1] [] h := (Ru_at at_X7_laddersForAll 30 _ _ _).trans rfl
set_option maxRecDepth 60000 in
theorem q_X7_laddersForAll_51 (sc : Nat × (Nat → Int)) (d : Nat) (r0 : Option Nat) (r1 : Option Nat) (i2 : Int) (i3 : Int) (r4 : Option Nat) (i5 : Int) (h : am_H) : Ru sc (d + 1) mX7_laddersForAll 51 [Vr r0, Vr r1, Vi i2, Vi i3, Vr r4, Vi i5] [] h =
  if i5 < i3 then
    if (bAnd i5 i3) = i5 then
      gfP 7 2 h r0 fun p2 =>
      ldP 6 h p2 i5 fun p3 =>
      gfP 7 2 h r0 fun p4 =>
      ldP 6 h p4 (w32 (i3 - i5)) fun p5 =>
      clV (Cl sc d mX7_joinTrees [Vr r4, Vr p3, Vr p5] h) am_xt fun h6 =>
      Ru sc (d + 1) mX7_laddersForAll 51 [Vr r0, Vr r1, Vi i2, Vi i3, Vr r4, Vi (w32 (i5 + 1))] [] h6
    else
      Ru sc (d + 1) mX7_laddersForAll 51 [Vr r0, Vr r1, Vi i2, Vi i3, Vr r4, Vi (w32 (i5 + 1))] [] h
  else
    am_rcv 7 h (Vr r0) (
    clV (Cl sc d mX7_settle [Vr r0, Vr r4, Vi 0] h) am_xt fun h1 =>
    Ru sc (d + 1) mX7_laddersForAll 16 [Vr r0, Vr r1, Vi i2, Vi (w32 (i3 + 1)), Vr r4, Vi i5] [] h1) := (Ru_at at_X7_laddersForAll 51 _ _ _).trans rfl
theorem at_X7_joinTrees : am_at mX7_joinTrees = (cd_X7_joinTrees, [], 4) := rfl
set_option maxRecDepth 60000 in
theorem q_X7_joinTrees_0 (sc : Nat × (Nat → Int)) (d : Nat) (r0 : Option Nat) (r1 : Option Nat) (r2 : Option Nat) (h : am_H) : Cl sc (d + 1) mX7_joinTrees [Vr r0, Vr r1, Vr r2] h =
  Ru sc (d + 1) mX7_joinTrees 3 [Vr r0, Vr r1, Vr r2, Vi 0] [] h := (Cl_at at_X7_joinTrees rfl _).trans rfl
set_option maxRecDepth 60000 in
theorem q_X7_joinTrees_3 (sc : Nat × (Nat → Int)) (d : Nat) (r0 : Option Nat) (r1 : Option Nat) (r2 : Option Nat) (i3 : Int) (h : am_H) : Ru sc (d + 1) mX7_joinTrees 3 [Vr r0, Vr r1, Vr r2, Vi i3] [] h =
  if i3 < 36 then
    ldA 1 h r0 i3 fun v1 =>
    ldA 1 h r1 i3 fun v2 =>
    ldA 1 h r2 i3 fun v3 =>
    clI (Cl sc d mJ9_min_7cf53 [Vi v1, Vi (w32 (v2 + v3))] h) am_xt fun v5 h4 =>
    stA 1 h4 r0 i3 v5 fun h6 =>
    Ru sc (d + 1) mX7_joinTrees 3 [Vr r0, Vr r1, Vr r2, Vi (w32 (i3 + 1))] [] h6
  else
    some (.inl (Vx 0), h) := (Ru_at at_X7_joinTrees 3 _ _ _).trans rfl
theorem at_X7_chargeLadders : am_at mX7_chargeLadders = (cd_X7_chargeLadders, [], 3) := rfl
set_option maxRecDepth 60000 in
theorem q_X7_chargeLadders_0 (sc : Nat × (Nat → Int)) (d : Nat) (r0 : Option Nat) (r1 : Option Nat) (h : am_H) : Cl sc (d + 1) mX7_chargeLadders [Vr r0, Vr r1] h =
  Ru sc (d + 1) mX7_chargeLadders 3 [Vr r0, Vr r1, Vi 0] [] h := (Cl_at at_X7_chargeLadders rfl _).trans rfl
set_option maxRecDepth 60000 in
theorem q_X7_chargeLadders_3 (sc : Nat × (Nat → Int)) (d : Nat) (r0 : Option Nat) (r1 : Option Nat) (i2 : Int) (h : am_H) : Ru sc (d + 1) mX7_chargeLadders 3 [Vr r0, Vr r1, Vi i2] [] h =
  if i2 < 60 then
    gfP 7 0 h r0 fun p1 =>
    am_rcv 0 h (Vr r1) (
    clI (Cl sc d mX0_ladder [Vr r1, Vi i2] h) am_xt fun v3 h2 =>
    stA 1 h2 p1 i2 v3 fun h4 =>
    Ru sc (d + 1) mX7_chargeLadders 3 [Vr r0, Vr r1, Vi (w32 (i2 + 1))] [] h4)
  else
    some (.inl (Vx 0), h) := (Ru_at at_X7_chargeLadders 3 _ _ _).trans rfl
theorem at_X7_orNone : am_at mX7_orNone = (cd_X7_orNone, [], 1) := rfl
set_option maxRecDepth 60000 in
theorem q_X7_orNone_0 (sc : Nat × (Nat → Int)) (d : Nat) (i0 : Int) (h : am_H) : Cl sc (d + 1) mX7_orNone [Vi i0] h =
  if i0 < 1000000 then
    some (.inl (Vi i0), h)
  else
    some (.inl (Vi (-1)), h) := (Cl_at at_X7_orNone rfl _).trans rfl
theorem at_X7_spread : am_at mX7_spread = (cd_X7_spread, [], 4) := rfl
set_option maxRecDepth 60000 in
theorem q_X7_spread_0 (sc : Nat × (Nat → Int)) (d : Nat) (r0 : Option Nat) (r1 : Option Nat) (i2 : Int) (i3 : Int) (h : am_H) : Cl sc (d + 1) mX7_spread [Vr r0, Vr r1, Vi i2, Vi i3] h =
  clV (Cl sc d mJ7_fill_53178 [Vr r1, Vi 1000000] h) am_xt fun h1 =>
  stA 1 h1 r1 i2 0 fun h2 =>
  am_rcv 7 h2 (Vr r0) (
  clV (Cl sc d mX7_settle [Vr r0, Vr r1, Vi i3] h2) am_xt fun h3 =>
  some (.inl (Vx 0), h3)) := (Cl_at at_X7_spread rfl _).trans rfl
theorem at_X7_settle : am_at mX7_settle = (cd_X7_settle, [], 8) := rfl
set_option maxRecDepth 60000 in
theorem q_X7_settle_0 (sc : Nat × (Nat → Int)) (d : Nat) (r0 : Option Nat) (r1 : Option Nat) (i2 : Int) (h : am_H) : Cl sc (d + 1) mX7_settle [Vr r0, Vr r1, Vi i2] h =
  Ru sc (d + 1) mX7_settle 5 [Vr r0, Vr r1, Vi i2, Vi 1, Vi 0, Vx 0, Vx 0, Vx 0] [] h := (Cl_at at_X7_settle rfl _).trans rfl
set_option maxRecDepth 60000 in
theorem q_X7_settle_5 (sc : Nat × (Nat → Int)) (d : Nat) (r0 : Option Nat) (r1 : Option Nat) (i2 : Int) (i3 : Int) (i4 : Int) (u5 : am_V) (u6 : am_V) (u7 : am_V) (h : am_H) : Ru sc (d + 1) mX7_settle 5 [Vr r0, Vr r1, Vi i2, Vi i3, Vi i4, u5, u6, u7] [] h =
  if i4 < 49 then
    if i3 = 0 then
      some (.inl (Vx 0), h)
    else
      Ru sc (d + 1) mX7_settle 15 [Vr r0, Vr r1, Vi i2, Vi 0, Vi i4, Vi 0, u6, u7] [] h
  else
    some (.inl (Vx 0), h) := (Ru_at at_X7_settle 5 _ _ _).trans rfl
set_option maxRecDepth 60000 in
theorem q_X7_settle_15 (sc : Nat × (Nat → Int)) (d : Nat) (r0 : Option Nat) (r1 : Option Nat) (i2 : Int) (i3 : Int) (i4 : Int) (i5 : Int) (u6 : am_V) (u7 : am_V) (h : am_H) : Ru sc (d + 1) mX7_settle 15 [Vr r0, Vr r1, Vi i2, Vi i3, Vi i4, Vi i5, u6, u7] [] h =
  if i5 < 60 then
    gfP 7 0 h r0 fun p1 =>
    ldA 1 h p1 i5 fun v2 =>
    if v2 = (-1) then
      Ru sc (d + 1) mX7_settle 15 [Vr r0, Vr r1, Vi i2, Vi i3, Vi i4, Vi (w32 (i5 + 1)), u6, u7] [] h
    else
      if i2 = 0 then
        clI (Cl sc d mX2_lessCell [Vi i5] h) am_xt fun v4 h3 =>
        if i2 = 0 then
          clI (Cl sc d mX2_moreCell [Vi i5] h3) am_xt fun v6 h5 =>
          Ru sc (d + 1) mX7_settle 41 [Vr r0, Vr r1, Vi i2, Vi i3, Vi i4, Vi i5, Vi v4, u7] [Vi v6] h5
        else
          clI (Cl sc d mX2_moreCorner [Vi i5] h3) am_xt fun v8 h7 =>
          Ru sc (d + 1) mX7_settle 41 [Vr r0, Vr r1, Vi i2, Vi i3, Vi i4, Vi i5, Vi v4, u7] [Vi v8] h7
      else
        clI (Cl sc d mX2_lessCorner [Vi i5] h) am_xt fun v10 h9 =>
        if i2 = 0 then
          clI (Cl sc d mX2_moreCell [Vi i5] h9) am_xt fun v12 h11 =>
          Ru sc (d + 1) mX7_settle 41 [Vr r0, Vr r1, Vi i2, Vi i3, Vi i4, Vi i5, Vi v10, u7] [Vi v12] h11
        else
          clI (Cl sc d mX2_moreCorner [Vi i5] h9) am_xt fun v14 h13 =>
          Ru sc (d + 1) mX7_settle 41 [Vr r0, Vr r1, Vi i2, Vi i3, Vi i4, Vi i5, Vi v10, u7] [Vi v14] h13
  else
    Ru sc (d + 1) mX7_settle 5 [Vr r0, Vr r1, Vi i2, Vi i3, Vi (w32 (i4 + 1)), Vi i5, u6, u7] [] h := (Ru_at at_X7_settle 15 _ _ _).trans rfl
set_option maxRecDepth 60000 in
theorem q_X7_settle_41 (sc : Nat × (Nat → Int)) (d : Nat) (r0 : Option Nat) (r1 : Option Nat) (i2 : Int) (i3 : Int) (i4 : Int) (i5 : Int) (i6 : Int) (u7 : am_V) (ti0 : Int) (h : am_H) : Ru sc (d + 1) mX7_settle 41 [Vr r0, Vr r1, Vi i2, Vi i3, Vi i4, Vi i5, Vi i6, u7] [Vi ti0] h =
  ldA 1 h r1 i6 fun v1 =>
  gfP 7 0 h r0 fun p2 =>
  ldA 1 h p2 i5 fun v3 =>
  ldA 1 h r1 ti0 fun v4 =>
  if (w32 (v1 + v3)) < v4 then
    ldA 1 h r1 i6 fun v13 =>
    gfP 7 0 h r0 fun p14 =>
    ldA 1 h p14 i5 fun v15 =>
    stA 1 h r1 ti0 (w32 (v13 + v15)) fun h16 =>
    Ru sc (d + 1) mX7_settle 15 [Vr r0, Vr r1, Vi i2, Vi 1, Vi i4, Vi (w32 (i5 + 1)), Vi i6, Vi ti0] [] h16
  else
    ldA 1 h r1 ti0 fun v5 =>
    gfP 7 0 h r0 fun p6 =>
    ldA 1 h p6 i5 fun v7 =>
    ldA 1 h r1 i6 fun v8 =>
    if (w32 (v5 + v7)) < v8 then
      ldA 1 h r1 ti0 fun v9 =>
      gfP 7 0 h r0 fun p10 =>
      ldA 1 h p10 i5 fun v11 =>
      stA 1 h r1 i6 (w32 (v9 + v11)) fun h12 =>
      Ru sc (d + 1) mX7_settle 15 [Vr r0, Vr r1, Vi i2, Vi 1, Vi i4, Vi (w32 (i5 + 1)), Vi i6, Vi ti0] [] h12
    else
      Ru sc (d + 1) mX7_settle 15 [Vr r0, Vr r1, Vi i2, Vi i3, Vi i4, Vi (w32 (i5 + 1)), Vi i6, Vi ti0] [] h := (Ru_at at_X7_settle 41 _ _ _).trans rfl
theorem at_X7_shutting : am_at mX7_shutting = (cd_X7_shutting, [], 6) := rfl
set_option maxRecDepth 60000 in
theorem q_X7_shutting_0 (sc : Nat × (Nat → Int)) (d : Nat) (r0 : Option Nat) (r1 : Option Nat) (i2 : Int) (i3 : Int) (i4 : Int) (h : am_H) : Cl sc (d + 1) mX7_shutting [Vr r0, Vr r1, Vi i2, Vi i3, Vi i4] h =
  Ru sc (d + 1) mX7_shutting 3 [Vr r0, Vr r1, Vi i2, Vi i3, Vi i4, Vi 0] [] h := (Cl_at at_X7_shutting rfl _).trans rfl
set_option maxRecDepth 60000 in
theorem q_X7_shutting_3 (sc : Nat × (Nat → Int)) (d : Nat) (r0 : Option Nat) (r1 : Option Nat) (i2 : Int) (i3 : Int) (i4 : Int) (i5 : Int) (h : am_H) : Ru sc (d + 1) mX7_shutting 3 [Vr r0, Vr r1, Vi i2, Vi i3, Vi i4, Vi i5] [] h =
  if i5 < 60 then
    gfP 7 0 h r0 fun p1 =>
    am_rcv 0 h (Vr r1) (
    clI (Cl sc d mX0_isOpen [Vr r1, Vi i5, Vi i2] h) am_xt fun v3 h2 =>
    if v3 = 0 then
      stA 1 h2 p1 i5 (-1) fun h4 =>
      gfP 7 3 h4 r0 fun p5 =>
      stA 1 h4 p5 i5 0 fun h6 =>
      Ru sc (d + 1) mX7_shutting 3 [Vr r0, Vr r1, Vi i2, Vi i3, Vi i4, Vi (w32 (i5 + 1))] [] h6
    else
      stA 1 h2 p1 i5 0 fun h7 =>
      gfP 7 3 h7 r0 fun p8 =>
      stA 1 h7 p8 i5 0 fun h9 =>
      Ru sc (d + 1) mX7_shutting 3 [Vr r0, Vr r1, Vi i2, Vi i3, Vi i4, Vi (w32 (i5 + 1))] [] h9)
  else
    Ru sc (d + 1) mX7_shutting 28 [Vr r0, Vr r1, Vi i2, Vi i3, Vi i4, Vi 0] [] h := (Ru_at at_X7_shutting 3 _ _ _).trans rfl
set_option maxRecDepth 60000 in
theorem q_X7_shutting_28 (sc : Nat × (Nat → Int)) (d : Nat) (r0 : Option Nat) (r1 : Option Nat) (i2 : Int) (i3 : Int) (i4 : Int) (i5 : Int) (h : am_H) : Ru sc (d + 1) mX7_shutting 28 [Vr r0, Vr r1, Vi i2, Vi i3, Vi i4, Vi i5] [] h =
  if i5 < 4 then
    am_rcv 7 h (Vr r0) (
    clI (Cl sc d mX7_findsWay [Vr r0, Vi i3, Vi i4] h) am_xt fun v2 h1 =>
    if v2 = 0 then
      some (.inl (Vi i5), h1)
    else
      am_rcv 7 h1 (Vr r0) (
      clV (Cl sc d mX7_fillWay [Vr r0, Vi i3, Vi i4] h1) am_xt fun h3 =>
      Ru sc (d + 1) mX7_shutting 28 [Vr r0, Vr r1, Vi i2, Vi i3, Vi i4, Vi (w32 (i5 + 1))] [] h3))
  else
    some (.inl (Vi i5), h) := (Ru_at at_X7_shutting 28 _ _ _).trans rfl
theorem at_X7_findsWay : am_at mX7_findsWay = (cd_X7_findsWay, [], 9) := rfl
set_option maxRecDepth 60000 in
theorem q_X7_findsWay_0 (sc : Nat × (Nat → Int)) (d : Nat) (r0 : Option Nat) (i1 : Int) (i2 : Int) (h : am_H) : Cl sc (d + 1) mX7_findsWay [Vr r0, Vi i1, Vi i2] h =
  gfP 7 4 h r0 fun p1 =>
  clV (Cl sc d mJ7_fill_53178 [Vr p1, Vi (-1)] h) am_xt fun h2 =>
  gfP 7 5 h2 r0 fun p3 =>
  stA 1 h2 p3 0 i1 fun h4 =>
  Ru sc (d + 1) mX7_findsWay 14 [Vr r0, Vi i1, Vi i2, Vi 1, Vi 0, Vx 0, Vx 0, Vx 0, Vx 0] [] h4 := (Cl_at at_X7_findsWay rfl _).trans rfl
set_option maxRecDepth 60000 in
theorem q_X7_findsWay_14 (sc : Nat × (Nat → Int)) (d : Nat) (r0 : Option Nat) (i1 : Int) (i2 : Int) (i3 : Int) (i4 : Int) (u5 : am_V) (u6 : am_V) (u7 : am_V) (u8 : am_V) (h : am_H) : Ru sc (d + 1) mX7_findsWay 14 [Vr r0, Vi i1, Vi i2, Vi i3, Vi i4, u5, u6, u7, u8] [] h =
  if i4 < i3 then
    if i4 < 36 then
      gfP 7 5 h r0 fun p5 =>
      ldA 1 h p5 i4 fun v6 =>
      Ru sc (d + 1) mX7_findsWay 28 [Vr r0, Vi i1, Vi i2, Vi i3, Vi i4, Vi v6, Vi 0, u7, u8] [] h
    else
      gfP 7 4 h r0 fun p3 =>
      ldA 1 h p3 i2 fun v4 =>
      if v4 = (-1) then
        some (.inl (Vi 0), h)
      else
        some (.inl (Vi 1), h)
  else
    gfP 7 4 h r0 fun p1 =>
    ldA 1 h p1 i2 fun v2 =>
    if v2 = (-1) then
      some (.inl (Vi 0), h)
    else
      some (.inl (Vi 1), h) := (Ru_at at_X7_findsWay 14 _ _ _).trans rfl
set_option maxRecDepth 60000 in
theorem q_X7_findsWay_28 (sc : Nat × (Nat → Int)) (d : Nat) (r0 : Option Nat) (i1 : Int) (i2 : Int) (i3 : Int) (i4 : Int) (i5 : Int) (i6 : Int) (u7 : am_V) (u8 : am_V) (h : am_H) : Ru sc (d + 1) mX7_findsWay 28 [Vr r0, Vi i1, Vi i2, Vi i3, Vi i4, Vi i5, Vi i6, u7, u8] [] h =
  if i6 < 4 then
    clI (Cl sc d mX2_onSide [Vi i5, Vi i6] h) am_xt fun v2 h1 =>
    if v2 = (-1) then
      Ru sc (d + 1) mX7_findsWay 28 [Vr r0, Vi i1, Vi i2, Vi i3, Vi i4, Vi i5, Vi (w32 (i6 + 1)), Vi v2, u8] [] h1
    else
      am_rcv 7 h1 (Vr r0) (
      clI (Cl sc d mX7_hasRoom [Vr r0, Vi v2, Vi i5] h1) am_xt fun v4 h3 =>
      if v4 = 0 then
        Ru sc (d + 1) mX7_findsWay 28 [Vr r0, Vi i1, Vi i2, Vi i3, Vi i4, Vi i5, Vi (w32 (i6 + 1)), Vi v2, u8] [] h3
      else
        clI (Cl sc d mX2_across [Vi i5, Vi v2] h3) am_xt fun v6 h5 =>
        if v6 = i1 then
          Ru sc (d + 1) mX7_findsWay 28 [Vr r0, Vi i1, Vi i2, Vi i3, Vi i4, Vi i5, Vi (w32 (i6 + 1)), Vi v2, Vi v6] [] h5
        else
          gfP 7 4 h5 r0 fun p7 =>
          ldA 1 h5 p7 v6 fun v8 =>
          if v8 = (-1) then
            if i3 < 36 then
              gfP 7 4 h5 r0 fun p9 =>
              stA 1 h5 p9 v6 v2 fun h10 =>
              gfP 7 5 h10 r0 fun p11 =>
              stA 1 h10 p11 i3 v6 fun h12 =>
              Ru sc (d + 1) mX7_findsWay 28 [Vr r0, Vi i1, Vi i2, Vi (w32 (i3 + 1)), Vi i4, Vi i5, Vi (w32 (i6 + 1)), Vi v2, Vi v6] [] h12
            else
              Ru sc (d + 1) mX7_findsWay 28 [Vr r0, Vi i1, Vi i2, Vi i3, Vi i4, Vi i5, Vi (w32 (i6 + 1)), Vi v2, Vi v6] [] h5
          else
            Ru sc (d + 1) mX7_findsWay 28 [Vr r0, Vi i1, Vi i2, Vi i3, Vi i4, Vi i5, Vi (w32 (i6 + 1)), Vi v2, Vi v6] [] h5)
  else
    Ru sc (d + 1) mX7_findsWay 14 [Vr r0, Vi i1, Vi i2, Vi i3, Vi (w32 (i4 + 1)), Vi i5, Vi i6, u7, u8] [] h := (Ru_at at_X7_findsWay 28 _ _ _).trans rfl
theorem at_X7_hasRoom : am_at mX7_hasRoom = (cd_X7_hasRoom, [], 3) := rfl
set_option maxRecDepth 60000 in
theorem q_X7_hasRoom_0 (sc : Nat × (Nat → Int)) (d : Nat) (r0 : Option Nat) (i1 : Int) (i2 : Int) (h : am_H) : Cl sc (d + 1) mX7_hasRoom [Vr r0, Vi i1, Vi i2] h =
  gfP 7 0 h r0 fun p1 =>
  ldA 1 h p1 i1 fun v2 =>
  if v2 = (-1) then
    some (.inl (Vi 0), h)
  else
    gfP 7 3 h r0 fun p3 =>
    ldA 1 h p3 i1 fun v4 =>
    clI (Cl sc d mX7_wayOf [Vi i1, Vi i2] h) am_xt fun v6 h5 =>
    if (w32 (v4 * v6)) < 1 then
      some (.inl (Vi 1), h5)
    else
      some (.inl (Vi 0), h5) := (Cl_at at_X7_hasRoom rfl _).trans rfl
theorem at_X7_fillWay : am_at mX7_fillWay = (cd_X7_fillWay, [], 6) := rfl
set_option maxRecDepth 60000 in
theorem q_X7_fillWay_0 (sc : Nat × (Nat → Int)) (d : Nat) (r0 : Option Nat) (i1 : Int) (i2 : Int) (h : am_H) : Cl sc (d + 1) mX7_fillWay [Vr r0, Vi i1, Vi i2] h =
  Ru sc (d + 1) mX7_fillWay 5 [Vr r0, Vi i1, Vi i2, Vi i2, Vi 0, Vx 0] [] h := (Cl_at at_X7_fillWay rfl _).trans rfl
set_option maxRecDepth 60000 in
theorem q_X7_fillWay_5 (sc : Nat × (Nat → Int)) (d : Nat) (r0 : Option Nat) (i1 : Int) (i2 : Int) (i3 : Int) (i4 : Int) (u5 : am_V) (h : am_H) : Ru sc (d + 1) mX7_fillWay 5 [Vr r0, Vi i1, Vi i2, Vi i3, Vi i4, u5] [] h =
  if i4 < 36 then
    if i3 = i1 then
      some (.inl (Vx 0), h)
    else
      gfP 7 4 h r0 fun p1 =>
      ldA 1 h p1 i3 fun v2 =>
      if v2 = (-1) then
        some (.inl (Vx 0), h)
      else
        clI (Cl sc d mX2_across [Vi i3, Vi v2] h) am_xt fun v4 h3 =>
        gfP 7 3 h3 r0 fun p5 =>
        ldA 1 h3 p5 v2 fun v6 =>
        clI (Cl sc d mX7_wayOf [Vi v2, Vi v4] h3) am_xt fun v8 h7 =>
        stA 1 h7 p5 v2 (w32 (v6 + v8)) fun h9 =>
        Ru sc (d + 1) mX7_fillWay 5 [Vr r0, Vi i1, Vi i2, Vi v4, Vi (w32 (i4 + 1)), Vi v2] [] h9
  else
    some (.inl (Vx 0), h) := (Ru_at at_X7_fillWay 5 _ _ _).trans rfl
theorem at_X7_wayOf : am_at mX7_wayOf = (cd_X7_wayOf, [], 2) := rfl
set_option maxRecDepth 60000 in
theorem q_X7_wayOf_0 (sc : Nat × (Nat → Int)) (d : Nat) (i0 : Int) (i1 : Int) (h : am_H) : Cl sc (d + 1) mX7_wayOf [Vi i0, Vi i1] h =
  clI (Cl sc d mX2_lessCell [Vi i0] h) am_xt fun v2 h1 =>
  if v2 = i1 then
    some (.inl (Vi 1), h1)
  else
    some (.inl (Vi (-1)), h1) := (Cl_at at_X7_wayOf rfl _).trans rfl
theorem at_X8_init : am_at mX8_init = (cd_X8_init, [], 1) := rfl
set_option maxRecDepth 60000 in
theorem q_X8_init_0 (sc : Nat × (Nat → Int)) (d : Nat) (a0 : Nat) (h : am_H) : Cl sc (d + 1) mX8_init [Vr (some a0)] h =
  newA 1 h 49 fun p1 h2 =>
  pfP 8 0 h2 (some a0) p1 fun h3 =>
  newA 1 h3 49 fun p4 h5 =>
  pfP 8 1 h5 (some a0) p4 fun h6 =>
  newA 1 h6 49 fun p7 h8 =>
  pfP 8 2 h8 (some a0) p7 fun h9 =>
  newA 1 h9 49 fun p10 h11 =>
  pfP 8 3 h11 (some a0) p10 fun h12 =>
  pfI 0 8 4 h12 (some a0) 0 fun h13 =>
  pfI 0 8 5 h13 (some a0) 0 fun h14 =>
  some (.inl (Vx 0), h14) := (Cl_at at_X8_init rfl _).trans rfl
theorem at_X8_ofCells : am_at mX8_ofCells = (cd_X8_ofCells, [], 5) := rfl
set_option maxRecDepth 60000 in
theorem q_X8_ofCells_0 (sc : Nat × (Nat → Int)) (d : Nat) (r0 : Option Nat) (r1 : Option Nat) (i2 : Int) (i3 : Int) (h : am_H) : Cl sc (d + 1) mX8_ofCells [Vr r0, Vr r1, Vi i2, Vi i3] h =
  am_rcv 8 h (Vr r0) (
  clV (Cl sc d mX8_start [Vr r0, Vi 36] h) am_xt fun h1 =>
  Ru sc (d + 1) mX8_ofCells 6 [Vr r0, Vr r1, Vi i2, Vi i3, Vi 0] [] h1) := (Cl_at at_X8_ofCells rfl _).trans rfl
set_option maxRecDepth 60000 in
theorem q_X8_ofCells_6 (sc : Nat × (Nat → Int)) (d : Nat) (r0 : Option Nat) (r1 : Option Nat) (i2 : Int) (i3 : Int) (i4 : Int) (h : am_H) : Ru sc (d + 1) mX8_ofCells 6 [Vr r0, Vr r1, Vi i2, Vi i3, Vi i4] [] h =
  if i4 < 60 then
    if i4 = i3 then
      Ru sc (d + 1) mX8_ofCells 6 [Vr r0, Vr r1, Vi i2, Vi i3, Vi (w32 (i4 + 1))] [] h
    else
      am_rcv 0 h (Vr r1) (
      clI (Cl sc d mX0_isOpen [Vr r1, Vi i4, Vi i2] h) am_xt fun v2 h1 =>
      if v2 = 0 then
        Ru sc (d + 1) mX8_ofCells 6 [Vr r0, Vr r1, Vi i2, Vi i3, Vi (w32 (i4 + 1))] [] h1
      else
        clI (Cl sc d mX2_lessCell [Vi i4] h1) am_xt fun v4 h3 =>
        clI (Cl sc d mX2_moreCell [Vi i4] h3) am_xt fun v6 h5 =>
        am_rcv 8 h5 (Vr r0) (
        clV (Cl sc d mX8_join [Vr r0, Vi v4, Vi v6] h5) am_xt fun h7 =>
        Ru sc (d + 1) mX8_ofCells 6 [Vr r0, Vr r1, Vi i2, Vi i3, Vi (w32 (i4 + 1))] [] h7))
  else
    some (.inl (Vx 0), h) := (Ru_at at_X8_ofCells 6 _ _ _).trans rfl
theorem at_X8_ofTops : am_at mX8_ofTops = (cd_X8_ofTops, [], 4) := rfl
set_option maxRecDepth 60000 in
theorem q_X8_ofTops_0 (sc : Nat × (Nat → Int)) (d : Nat) (r0 : Option Nat) (r1 : Option Nat) (i2 : Int) (h : am_H) : Cl sc (d + 1) mX8_ofTops [Vr r0, Vr r1, Vi i2] h =
  am_rcv 8 h (Vr r0) (
  clV (Cl sc d mX8_start [Vr r0, Vi 49] h) am_xt fun h1 =>
  Ru sc (d + 1) mX8_ofTops 6 [Vr r0, Vr r1, Vi i2, Vi 0] [] h1) := (Cl_at at_X8_ofTops rfl _).trans rfl
set_option maxRecDepth 60000 in
theorem q_X8_ofTops_6 (sc : Nat × (Nat → Int)) (d : Nat) (r0 : Option Nat) (r1 : Option Nat) (i2 : Int) (i3 : Int) (h : am_H) : Ru sc (d + 1) mX8_ofTops 6 [Vr r0, Vr r1, Vi i2, Vi i3] [] h =
  if i3 < 60 then
    am_rcv 0 h (Vr r1) (
    clI (Cl sc d mX0_isTop [Vr r1, Vi i3, Vi i2] h) am_xt fun v2 h1 =>
    if v2 = 0 then
      Ru sc (d + 1) mX8_ofTops 6 [Vr r0, Vr r1, Vi i2, Vi (w32 (i3 + 1))] [] h1
    else
      clI (Cl sc d mX2_lessCorner [Vi i3] h1) am_xt fun v4 h3 =>
      clI (Cl sc d mX2_moreCorner [Vi i3] h3) am_xt fun v6 h5 =>
      am_rcv 8 h5 (Vr r0) (
      clV (Cl sc d mX8_join [Vr r0, Vi v4, Vi v6] h5) am_xt fun h7 =>
      Ru sc (d + 1) mX8_ofTops 6 [Vr r0, Vr r1, Vi i2, Vi (w32 (i3 + 1))] [] h7))
  else
    some (.inl (Vx 0), h) := (Ru_at at_X8_ofTops 6 _ _ _).trans rfl
theorem at_X8_start : am_at mX8_start = (cd_X8_start, [], 3) := rfl
set_option maxRecDepth 60000 in
theorem q_X8_start_0 (sc : Nat × (Nat → Int)) (d : Nat) (r0 : Option Nat) (i1 : Int) (h : am_H) : Cl sc (d + 1) mX8_start [Vr r0, Vi i1] h =
  pfI 0 8 4 h r0 i1 fun h1 =>
  pfI 0 8 5 h1 r0 i1 fun h2 =>
  Ru sc (d + 1) mX8_start 9 [Vr r0, Vi i1, Vi 0] [] h2 := (Cl_at at_X8_start rfl _).trans rfl
set_option maxRecDepth 60000 in
theorem q_X8_start_9 (sc : Nat × (Nat → Int)) (d : Nat) (r0 : Option Nat) (i1 : Int) (i2 : Int) (h : am_H) : Ru sc (d + 1) mX8_start 9 [Vr r0, Vi i1, Vi i2] [] h =
  if i2 < 49 then
    gfP 8 0 h r0 fun p1 =>
    stA 1 h p1 i2 i2 fun h2 =>
    gfP 8 1 h2 r0 fun p3 =>
    stA 1 h2 p3 i2 1 fun h4 =>
    gfP 8 2 h4 r0 fun p5 =>
    stA 1 h4 p5 i2 0 fun h6 =>
    gfP 8 3 h6 r0 fun p7 =>
    stA 1 h6 p7 i2 0 fun h8 =>
    Ru sc (d + 1) mX8_start 9 [Vr r0, Vi i1, Vi (w32 (i2 + 1))] [] h8
  else
    some (.inl (Vx 0), h) := (Ru_at at_X8_start 9 _ _ _).trans rfl
theorem at_X8_join : am_at mX8_join = (cd_X8_join, [], 6) := rfl
set_option maxRecDepth 60000 in
theorem q_X8_join_0 (sc : Nat × (Nat → Int)) (d : Nat) (r0 : Option Nat) (i1 : Int) (i2 : Int) (h : am_H) : Cl sc (d + 1) mX8_join [Vr r0, Vi i1, Vi i2] h =
  gfP 8 0 h r0 fun p1 =>
  ldA 1 h p1 i1 fun v2 =>
  gfP 8 0 h r0 fun p3 =>
  ldA 1 h p3 i2 fun v4 =>
  gfP 8 2 h r0 fun p5 =>
  ldA 1 h p5 v2 fun v6 =>
  stA 1 h p5 v2 (w32 (v6 + 1)) fun h7 =>
  gfP 8 3 h7 r0 fun p8 =>
  ldA 1 h7 p8 i1 fun v9 =>
  stA 1 h7 p8 i1 (w32 (v9 + 1)) fun h10 =>
  gfP 8 3 h10 r0 fun p11 =>
  ldA 1 h10 p11 i2 fun v12 =>
  stA 1 h10 p11 i2 (w32 (v12 + 1)) fun h13 =>
  if v2 = v4 then
    some (.inl (Vx 0), h13)
  else
    Ru sc (d + 1) mX8_join 41 [Vr r0, Vi i1, Vi i2, Vi v2, Vi v4, Vi 0] [] h13 := (Cl_at at_X8_join rfl _).trans rfl
set_option maxRecDepth 60000 in
theorem q_X8_join_41 (sc : Nat × (Nat → Int)) (d : Nat) (r0 : Option Nat) (i1 : Int) (i2 : Int) (i3 : Int) (i4 : Int) (i5 : Int) (h : am_H) : Ru sc (d + 1) mX8_join 41 [Vr r0, Vi i1, Vi i2, Vi i3, Vi i4, Vi i5] [] h =
  gfI 8 4 h r0 fun v1 =>
  if i5 < v1 then
    gfP 8 0 h r0 fun p14 =>
    ldA 1 h p14 i5 fun v15 =>
    if v15 = i4 then
      gfP 8 0 h r0 fun p16 =>
      stA 1 h p16 i5 i3 fun h17 =>
      Ru sc (d + 1) mX8_join 41 [Vr r0, Vi i1, Vi i2, Vi i3, Vi i4, Vi (w32 (i5 + 1))] [] h17
    else
      Ru sc (d + 1) mX8_join 41 [Vr r0, Vi i1, Vi i2, Vi i3, Vi i4, Vi (w32 (i5 + 1))] [] h
  else
    gfP 8 1 h r0 fun p2 =>
    ldA 1 h p2 i3 fun v3 =>
    gfP 8 1 h r0 fun p4 =>
    ldA 1 h p4 i4 fun v5 =>
    stA 1 h p2 i3 (w32 (v3 + v5)) fun h6 =>
    gfP 8 2 h6 r0 fun p7 =>
    ldA 1 h6 p7 i3 fun v8 =>
    gfP 8 2 h6 r0 fun p9 =>
    ldA 1 h6 p9 i4 fun v10 =>
    stA 1 h6 p7 i3 (w32 (v8 + v10)) fun h11 =>
    gfI 8 5 h11 r0 fun v12 =>
    pfI 0 8 5 h11 r0 (w32 (v12 - 1)) fun h13 =>
    some (.inl (Vx 0), h13) := (Ru_at at_X8_join 41 _ _ _).trans rfl
theorem at_X8_areTogether : am_at mX8_areTogether = (cd_X8_areTogether, [], 3) := rfl
set_option maxRecDepth 60000 in
theorem q_X8_areTogether_0 (sc : Nat × (Nat → Int)) (d : Nat) (r0 : Option Nat) (i1 : Int) (i2 : Int) (h : am_H) : Cl sc (d + 1) mX8_areTogether [Vr r0, Vi i1, Vi i2] h =
  gfP 8 0 h r0 fun p1 =>
  ldA 1 h p1 i1 fun v2 =>
  gfP 8 0 h r0 fun p3 =>
  ldA 1 h p3 i2 fun v4 =>
  if v2 = v4 then
    some (.inl (Vi 1), h)
  else
    some (.inl (Vi 0), h) := (Cl_at at_X8_areTogether rfl _).trans rfl
theorem at_X8_nodesWith : am_at mX8_nodesWith = (cd_X8_nodesWith, [], 2) := rfl
set_option maxRecDepth 60000 in
theorem q_X8_nodesWith_0 (sc : Nat × (Nat → Int)) (d : Nat) (r0 : Option Nat) (i1 : Int) (h : am_H) : Cl sc (d + 1) mX8_nodesWith [Vr r0, Vi i1] h =
  gfP 8 1 h r0 fun p1 =>
  gfP 8 0 h r0 fun p2 =>
  ldA 1 h p2 i1 fun v3 =>
  ldA 1 h p1 v3 fun v4 =>
  some (.inl (Vi v4), h) := (Cl_at at_X8_nodesWith rfl _).trans rfl
theorem at_X8_gain : am_at mX8_gain = (cd_X8_gain, [], 5) := rfl
set_option maxRecDepth 60000 in
theorem q_X8_gain_0 (sc : Nat × (Nat → Int)) (d : Nat) (r0 : Option Nat) (i1 : Int) (i2 : Int) (h : am_H) : Cl sc (d + 1) mX8_gain [Vr r0, Vi i1, Vi i2] h =
  clI (Cl sc d mX2_lessCell [Vi i2] h) am_xt fun v2 h1 =>
  clI (Cl sc d mX2_moreCell [Vi i2] h1) am_xt fun v4 h3 =>
  am_rcv 8 h3 (Vr r0) (
  clI (Cl sc d mX8_areTogether [Vr r0, Vi v2, Vi v4] h3) am_xt fun v6 h5 =>
  if v6 = 0 then
    am_rcv 8 h5 (Vr r0) (
    clI (Cl sc d mX8_areTogether [Vr r0, Vi i1, Vi v2] h5) am_xt fun v8 h7 =>
    if v8 = 0 then
      am_rcv 8 h7 (Vr r0) (
      clI (Cl sc d mX8_areTogether [Vr r0, Vi i1, Vi v4] h7) am_xt fun v10 h9 =>
      if v10 = 0 then
        some (.inl (Vi 0), h9)
      else
        am_rcv 8 h9 (Vr r0) (
        clI (Cl sc d mX8_nodesWith [Vr r0, Vi v2] h9) am_xt fun v12 h11 =>
        some (.inl (Vi v12), h11)))
    else
      am_rcv 8 h7 (Vr r0) (
      clI (Cl sc d mX8_nodesWith [Vr r0, Vi v4] h7) am_xt fun v14 h13 =>
      some (.inl (Vi v14), h13)))
  else
    some (.inl (Vi 0), h5)) := (Cl_at at_X8_gain rfl _).trans rfl
theorem at_X8_mostNodes : am_at mX8_mostNodes = (cd_X8_mostNodes, [], 3) := rfl
set_option maxRecDepth 60000 in
theorem q_X8_mostNodes_0 (sc : Nat × (Nat → Int)) (d : Nat) (r0 : Option Nat) (h : am_H) : Cl sc (d + 1) mX8_mostNodes [Vr r0] h =
  Ru sc (d + 1) mX8_mostNodes 5 [Vr r0, Vi 0, Vi 0] [] h := (Cl_at at_X8_mostNodes rfl _).trans rfl
set_option maxRecDepth 60000 in
theorem q_X8_mostNodes_5 (sc : Nat × (Nat → Int)) (d : Nat) (r0 : Option Nat) (i1 : Int) (i2 : Int) (h : am_H) : Ru sc (d + 1) mX8_mostNodes 5 [Vr r0, Vi i1, Vi i2] [] h =
  gfI 8 4 h r0 fun v1 =>
  if i2 < v1 then
    am_rcv 8 h (Vr r0) (
    clI (Cl sc d mX8_nodesWith [Vr r0, Vi i2] h) am_xt fun v3 h2 =>
    clI (Cl sc d mJ9_max_7cf53 [Vi i1, Vi v3] h2) am_xt fun v5 h4 =>
    Ru sc (d + 1) mX8_mostNodes 5 [Vr r0, Vi v5, Vi (w32 (i2 + 1))] [] h4)
  else
    some (.inl (Vi i1), h) := (Ru_at at_X8_mostNodes 5 _ _ _).trans rfl
theorem at_X8_mostEdges : am_at mX8_mostEdges = (cd_X8_mostEdges, [], 3) := rfl
set_option maxRecDepth 60000 in
theorem q_X8_mostEdges_0 (sc : Nat × (Nat → Int)) (d : Nat) (r0 : Option Nat) (h : am_H) : Cl sc (d + 1) mX8_mostEdges [Vr r0] h =
  Ru sc (d + 1) mX8_mostEdges 5 [Vr r0, Vi 0, Vi 0] [] h := (Cl_at at_X8_mostEdges rfl _).trans rfl
set_option maxRecDepth 60000 in
theorem q_X8_mostEdges_5 (sc : Nat × (Nat → Int)) (d : Nat) (r0 : Option Nat) (i1 : Int) (i2 : Int) (h : am_H) : Ru sc (d + 1) mX8_mostEdges 5 [Vr r0, Vi i1, Vi i2] [] h =
  gfI 8 4 h r0 fun v1 =>
  if i2 < v1 then
    gfP 8 2 h r0 fun p2 =>
    gfP 8 0 h r0 fun p3 =>
    ldA 1 h p3 i2 fun v4 =>
    ldA 1 h p2 v4 fun v5 =>
    clI (Cl sc d mJ9_max_7cf53 [Vi i1, Vi v5] h) am_xt fun v7 h6 =>
    Ru sc (d + 1) mX8_mostEdges 5 [Vr r0, Vi v7, Vi (w32 (i2 + 1))] [] h6
  else
    some (.inl (Vi i1), h) := (Ru_at at_X8_mostEdges 5 _ _ _).trans rfl
theorem at_X8_nodesOfOneEdge : am_at mX8_nodesOfOneEdge = (cd_X8_nodesOfOneEdge, [], 3) := rfl
set_option maxRecDepth 60000 in
theorem q_X8_nodesOfOneEdge_0 (sc : Nat × (Nat → Int)) (d : Nat) (r0 : Option Nat) (h : am_H) : Cl sc (d + 1) mX8_nodesOfOneEdge [Vr r0] h =
  Ru sc (d + 1) mX8_nodesOfOneEdge 5 [Vr r0, Vi 0, Vi 0] [] h := (Cl_at at_X8_nodesOfOneEdge rfl _).trans rfl
set_option maxRecDepth 60000 in
theorem q_X8_nodesOfOneEdge_5 (sc : Nat × (Nat → Int)) (d : Nat) (r0 : Option Nat) (i1 : Int) (i2 : Int) (h : am_H) : Ru sc (d + 1) mX8_nodesOfOneEdge 5 [Vr r0, Vi i1, Vi i2] [] h =
  gfI 8 4 h r0 fun v1 =>
  if i2 < v1 then
    gfP 8 3 h r0 fun p2 =>
    ldA 1 h p2 i2 fun v3 =>
    if v3 = 1 then
      Ru sc (d + 1) mX8_nodesOfOneEdge 5 [Vr r0, Vi (w32 (i1 + 1)), Vi (w32 (i2 + 1))] [] h
    else
      Ru sc (d + 1) mX8_nodesOfOneEdge 5 [Vr r0, Vi (w32 (i1 + 0)), Vi (w32 (i2 + 1))] [] h
  else
    some (.inl (Vi i1), h) := (Ru_at at_X8_nodesOfOneEdge 5 _ _ _).trans rfl
theorem at_X9_init : am_at mX9_init = (cd_X9_init, [], 1) := rfl
set_option maxRecDepth 60000 in
theorem q_X9_init_0 (sc : Nat × (Nat → Int)) (d : Nat) (a0 : Nat) (h : am_H) : Cl sc (d + 1) mX9_init [Vr (some a0)] h =
  newA 1 h 1000 fun p1 h2 =>
  pfP 9 0 h2 (some a0) p1 fun h3 =>
  newA 1 h3 900 fun p4 h5 =>
  pfP 9 1 h5 (some a0) p4 fun h6 =>
  pfI 0 9 2 h6 (some a0) 0 fun h7 =>
  some (.inl (Vx 0), h7) := (Cl_at at_X9_init rfl _).trans rfl
theorem at_X9_reads : am_at mX9_reads = (cd_X9_reads, [], 4) := rfl
set_option maxRecDepth 60000 in
theorem q_X9_reads_0 (sc : Nat × (Nat → Int)) (d : Nat) (r0 : Option Nat) (r1 : Option Nat) (h : am_H) : Cl sc (d + 1) mX9_reads [Vr r0, Vr r1] h =
  am_rcv 10 h (Vr r1) (
  clI (Cl sc d mX10_useUp [Vr r1] h) am_xt fun v2 h1 =>
  if 40 < v2 then
    some (.inl (Vi 0), h1)
  else
    if 2 = 0 then none else
    if (v2.tmod 2) = 0 then
      Ru sc (d + 1) mX9_reads 15 [Vr r0, Vr r1, Vi v2, Vi 0] [] h1
    else
      some (.inl (Vi 0), h1)) := (Cl_at at_X9_reads rfl _).trans rfl
set_option maxRecDepth 60000 in
theorem q_X9_reads_15 (sc : Nat × (Nat → Int)) (d : Nat) (r0 : Option Nat) (r1 : Option Nat) (i2 : Int) (i3 : Int) (h : am_H) : Ru sc (d + 1) mX9_reads 15 [Vr r0, Vr r1, Vi i2, Vi i3] [] h =
  if i3 < i2 then
    gfP 10 0 h r1 fun p2 =>
    ldA 1 h p2 i3 fun v3 =>
    if 99 < v3 then
      some (.inl (Vi 0), h)
    else
      Ru sc (d + 1) mX9_reads 15 [Vr r0, Vr r1, Vi i2, Vi (w32 (i3 + 2))] [] h
  else
    pfI 0 9 2 h r0 0 fun h1 =>
    Ru sc (d + 1) mX9_reads 34 [Vr r0, Vr r1, Vi i2, Vi 0] [] h1 := (Ru_at at_X9_reads 15 _ _ _).trans rfl
set_option maxRecDepth 60000 in
theorem q_X9_reads_34 (sc : Nat × (Nat → Int)) (d : Nat) (r0 : Option Nat) (r1 : Option Nat) (i2 : Int) (i3 : Int) (h : am_H) : Ru sc (d + 1) mX9_reads 34 [Vr r0, Vr r1, Vi i2, Vi i3] [] h =
  if i3 < 1000 then
    gfP 10 0 h r1 fun p1 =>
    clI (Cl sc d mX9_doesFit [Vi i3, Vr p1, Vi i2] h) am_xt fun v3 h2 =>
    if v3 = 0 then
      Ru sc (d + 1) mX9_reads 34 [Vr r0, Vr r1, Vi i2, Vi (w32 (i3 + 1))] [] h2
    else
      gfP 9 0 h2 r0 fun p4 =>
      gfI 9 2 h2 r0 fun v5 =>
      stA 1 h2 p4 v5 i3 fun h6 =>
      gfI 9 2 h6 r0 fun v7 =>
      pfI 0 9 2 h6 r0 (w32 (v7 + 1)) fun h8 =>
      Ru sc (d + 1) mX9_reads 34 [Vr r0, Vr r1, Vi i2, Vi (w32 (i3 + 1))] [] h8
  else
    some (.inl (Vi 1), h) := (Ru_at at_X9_reads 34 _ _ _).trans rfl
theorem at_X9_doesFit : am_at mX9_doesFit = (cd_X9_doesFit, [], 4) := rfl
set_option maxRecDepth 60000 in
theorem q_X9_doesFit_0 (sc : Nat × (Nat → Int)) (d : Nat) (i0 : Int) (r1 : Option Nat) (i2 : Int) (h : am_H) : Cl sc (d + 1) mX9_doesFit [Vi i0, Vr r1, Vi i2] h =
  Ru sc (d + 1) mX9_doesFit 3 [Vi i0, Vr r1, Vi i2, Vi 0] [] h := (Cl_at at_X9_doesFit rfl _).trans rfl
set_option maxRecDepth 60000 in
theorem q_X9_doesFit_3 (sc : Nat × (Nat → Int)) (d : Nat) (i0 : Int) (r1 : Option Nat) (i2 : Int) (i3 : Int) (h : am_H) : Ru sc (d + 1) mX9_doesFit 3 [Vi i0, Vr r1, Vi i2, Vi i3] [] h =
  if (w32 (i3 + 1)) < i2 then
    ldA 1 h r1 i3 fun v1 =>
    clI (Cl sc d mX9_highIn [Vi i0, Vi v1] h) am_xt fun v3 h2 =>
    ldA 1 h2 r1 (w32 (i3 + 1)) fun v4 =>
    clI (Cl sc d mJ9_abs_0f7a4 [Vi (w32 (v3 - v4))] h2) am_xt fun v6 h5 =>
    if 1 < v6 then
      some (.inl (Vi 0), h5)
    else
      Ru sc (d + 1) mX9_doesFit 3 [Vi i0, Vr r1, Vi i2, Vi (w32 (i3 + 2))] [] h5
  else
    some (.inl (Vi 1), h) := (Ru_at at_X9_doesFit 3 _ _ _).trans rfl
theorem at_X9_highIn : am_at mX9_highIn = (cd_X9_highIn, [], 2) := rfl
set_option maxRecDepth 60000 in
theorem q_X9_highIn_0 (sc : Nat × (Nat → Int)) (d : Nat) (i0 : Int) (i1 : Int) (h : am_H) : Cl sc (d + 1) mX9_highIn [Vi i0, Vi i1] h =
  if 10 = 0 then none else
  clI (Cl sc d mJ9_max_7cf53 [Vi 0, Vi (w32 (i1 - (w32 (i0.tdiv 10))))] h) am_xt fun v2 h1 =>
  if 10 = 0 then none else
  some (.inl (Vi (w32 (v2 * (i0.tmod 10)))), h1) := (Cl_at at_X9_highIn rfl _).trans rfl
theorem at_X9_firstFit : am_at mX9_firstFit = (cd_X9_firstFit, [], 1) := rfl
set_option maxRecDepth 60000 in
theorem q_X9_firstFit_0 (sc : Nat × (Nat → Int)) (d : Nat) (r0 : Option Nat) (h : am_H) : Cl sc (d + 1) mX9_firstFit [Vr r0] h =
  gfI 9 2 h r0 fun v1 =>
  if v1 = 0 then
    some (.inl (Vi (-1)), h)
  else
    gfP 9 0 h r0 fun p2 =>
    ldA 1 h p2 0 fun v3 =>
    some (.inl (Vi v3), h) := (Cl_at at_X9_firstFit rfl _).trans rfl
theorem at_X9_bestYear : am_at mX9_bestYear = (cd_X9_bestYear, [], 5) := rfl
set_option maxRecDepth 60000 in
theorem q_X9_bestYear_0 (sc : Nat × (Nat → Int)) (d : Nat) (r0 : Option Nat) (h : am_H) : Cl sc (d + 1) mX9_bestYear [Vr r0] h =
  gfI 9 2 h r0 fun v1 =>
  if v1 < 2 then
    some (.inl (Vi (-1)), h)
  else
    Ru sc (d + 1) mX9_bestYear 13 [Vr r0, Vi (-1), Vi 1001, Vi 0, Vx 0] [] h := (Cl_at at_X9_bestYear rfl _).trans rfl
set_option maxRecDepth 60000 in
theorem q_X9_bestYear_13 (sc : Nat × (Nat → Int)) (d : Nat) (r0 : Option Nat) (i1 : Int) (i2 : Int) (i3 : Int) (u4 : am_V) (h : am_H) : Ru sc (d + 1) mX9_bestYear 13 [Vr r0, Vi i1, Vi i2, Vi i3, u4] [] h =
  if 99 < i3 then
    some (.inl (Vi i1), h)
  else
    am_rcv 9 h (Vr r0) (
    clI (Cl sc d mX9_greatestPart [Vr r0, Vi i3] h) am_xt fun v2 h1 =>
    if v2 < i2 then
      Ru sc (d + 1) mX9_bestYear 13 [Vr r0, Vi i3, Vi v2, Vi (w32 (i3 + 1)), Vi v2] [] h1
    else
      Ru sc (d + 1) mX9_bestYear 13 [Vr r0, Vi i1, Vi i2, Vi (w32 (i3 + 1)), Vi v2] [] h1) := (Ru_at at_X9_bestYear 13 _ _ _).trans rfl
theorem at_X9_greatestPart : am_at mX9_greatestPart = (cd_X9_greatestPart, [], 5) := rfl
set_option maxRecDepth 60000 in
theorem q_X9_greatestPart_0 (sc : Nat × (Nat → Int)) (d : Nat) (r0 : Option Nat) (i1 : Int) (h : am_H) : Cl sc (d + 1) mX9_greatestPart [Vr r0, Vi i1] h =
  gfP 9 1 h r0 fun p1 =>
  clV (Cl sc d mJ7_fill_53178 [Vr p1, Vi 0] h) am_xt fun h2 =>
  Ru sc (d + 1) mX9_greatestPart 9 [Vr r0, Vi i1, Vi 0, Vi 0, Vx 0] [] h2 := (Cl_at at_X9_greatestPart rfl _).trans rfl
set_option maxRecDepth 60000 in
theorem q_X9_greatestPart_9 (sc : Nat × (Nat → Int)) (d : Nat) (r0 : Option Nat) (i1 : Int) (i2 : Int) (i3 : Int) (u4 : am_V) (h : am_H) : Ru sc (d + 1) mX9_greatestPart 9 [Vr r0, Vi i1, Vi i2, Vi i3, u4] [] h =
  gfI 9 2 h r0 fun v1 =>
  if i3 < v1 then
    gfP 9 0 h r0 fun p2 =>
    ldA 1 h p2 i3 fun v3 =>
    clI (Cl sc d mX9_highIn [Vi v3, Vi i1] h) am_xt fun v5 h4 =>
    gfP 9 1 h4 r0 fun p6 =>
    ldA 1 h4 p6 v5 fun v7 =>
    stA 1 h4 p6 v5 (w32 (v7 + 1)) fun h8 =>
    gfP 9 1 h8 r0 fun p9 =>
    ldA 1 h8 p9 v5 fun v10 =>
    clI (Cl sc d mJ9_max_7cf53 [Vi i2, Vi v10] h8) am_xt fun v12 h11 =>
    Ru sc (d + 1) mX9_greatestPart 9 [Vr r0, Vi i1, Vi v12, Vi (w32 (i3 + 1)), Vi v5] [] h11
  else
    some (.inl (Vi i2), h) := (Ru_at at_X9_greatestPart 9 _ _ _).trans rfl
theorem at_X10_init : am_at mX10_init = (cd_X10_init, [], 1) := rfl
set_option maxRecDepth 60000 in
theorem q_X10_init_0 (sc : Nat × (Nat → Int)) (d : Nat) (a0 : Nat) (h : am_H) : Cl sc (d + 1) mX10_init [Vr (some a0)] h =
  newA 1 h 400 fun p1 h2 =>
  pfP 10 0 h2 (some a0) p1 fun h3 =>
  pfI 0 10 1 h3 (some a0) 0 fun h4 =>
  pfI 0 10 2 h4 (some a0) (-1) fun h5 =>
  newA 1 h5 401 fun p6 h7 =>
  pfP 10 3 h7 (some a0) p6 fun h8 =>
  newA 1 h8 401 fun p9 h10 =>
  pfP 10 4 h10 (some a0) p9 fun h11 =>
  pfI 0 10 5 h11 (some a0) 0 fun h12 =>
  pfI 0 10 6 h12 (some a0) 0 fun h13 =>
  some (.inl (Vx 0), h13) := (Cl_at at_X10_init rfl _).trans rfl
theorem at_X10_hasRoom : am_at mX10_hasRoom = (cd_X10_hasRoom, [], 2) := rfl
set_option maxRecDepth 60000 in
theorem q_X10_hasRoom_0 (sc : Nat × (Nat → Int)) (d : Nat) (r0 : Option Nat) (i1 : Int) (h : am_H) : Cl sc (d + 1) mX10_hasRoom [Vr r0, Vi i1] h =
  gfI 10 1 h r0 fun v1 =>
  if 400 < (w32 (v1 + i1)) then
    some (.inl (Vi 0), h)
  else
    some (.inl (Vi 1), h) := (Cl_at at_X10_hasRoom rfl _).trans rfl
theorem at_X10_put : am_at mX10_put = (cd_X10_put, [], 3) := rfl
set_option maxRecDepth 60000 in
theorem q_X10_put_0 (sc : Nat × (Nat → Int)) (d : Nat) (r0 : Option Nat) (i1 : Int) (h : am_H) : Cl sc (d + 1) mX10_put [Vr r0, Vi i1] h =
  Ru sc (d + 1) mX10_put 3 [Vr r0, Vi i1, Vi 24] [] h := (Cl_at at_X10_put rfl _).trans rfl
set_option maxRecDepth 60000 in
theorem q_X10_put_3 (sc : Nat × (Nat → Int)) (d : Nat) (r0 : Option Nat) (i1 : Int) (i2 : Int) (h : am_H) : Ru sc (d + 1) mX10_put 3 [Vr r0, Vi i1, Vi i2] [] h =
  if i2 < 0 then
    some (.inl (Vx 0), h)
  else
    gfI 10 1 h r0 fun v1 =>
    if v1 < 400 then
      gfP 10 0 h r0 fun p2 =>
      gfI 10 1 h r0 fun v3 =>
      stA 1 h p2 v3 (bAnd (bUshr i1 i2) 255) fun h4 =>
      gfI 10 1 h4 r0 fun v5 =>
      pfI 0 10 1 h4 r0 (w32 (v5 + 1)) fun h6 =>
      Ru sc (d + 1) mX10_put 3 [Vr r0, Vi i1, Vi (w32 (i2 + (-8)))] [] h6
    else
      some (.inl (Vx 0), h) := (Ru_at at_X10_put 3 _ _ _).trans rfl
theorem at_X10_cut : am_at mX10_cut = (cd_X10_cut, [], 2) := rfl
set_option maxRecDepth 60000 in
theorem q_X10_cut_0 (sc : Nat × (Nat → Int)) (d : Nat) (r0 : Option Nat) (i1 : Int) (h : am_H) : Cl sc (d + 1) mX10_cut [Vr r0, Vi i1] h =
  if i1 < 0 then
    some (.inl (Vi 0), h)
  else
    gfI 10 1 h r0 fun v1 =>
    if v1 < i1 then
      some (.inl (Vi 0), h)
    else
      pfI 0 10 1 h r0 i1 fun h2 =>
      some (.inl (Vi 1), h2) := (Cl_at at_X10_cut rfl _).trans rfl
theorem at_X10_useUp : am_at mX10_useUp = (cd_X10_useUp, [], 2) := rfl
set_option maxRecDepth 60000 in
theorem q_X10_useUp_0 (sc : Nat × (Nat → Int)) (d : Nat) (r0 : Option Nat) (h : am_H) : Cl sc (d + 1) mX10_useUp [Vr r0] h =
  gfI 10 1 h r0 fun v1 =>
  pfI 0 10 1 h r0 0 fun h2 =>
  some (.inl (Vi v1), h2) := (Cl_at at_X10_useUp rfl _).trans rfl
theorem at_X10_startText : am_at mX10_startText = (cd_X10_startText, [], 6) := rfl
set_option maxRecDepth 60000 in
theorem q_X10_startText_0 (sc : Nat × (Nat → Int)) (d : Nat) (r0 : Option Nat) (h : am_H) : Cl sc (d + 1) mX10_startText [Vr r0] h =
  am_rcv 10 h (Vr r0) (
  clI (Cl sc d mX10_useUp [Vr r0] h) am_xt fun v2 h1 =>
  Ru sc (d + 1) mX10_startText 10 [Vr r0, Vi v2, Vi 0, Vi 0, Vi 0, Vx 0] [] h1) := (Cl_at at_X10_startText rfl _).trans rfl
set_option maxRecDepth 60000 in
theorem q_X10_startText_10 (sc : Nat × (Nat → Int)) (d : Nat) (r0 : Option Nat) (i1 : Int) (i2 : Int) (i3 : Int) (i4 : Int) (u5 : am_V) (h : am_H) : Ru sc (d + 1) mX10_startText 10 [Vr r0, Vi i1, Vi i2, Vi i3, Vi i4, u5] [] h =
  if i4 < 400 then
    if i3 < i1 then
      gfP 10 0 h r0 fun p1 =>
      ldA 1 h p1 i3 fun v2 =>
      if v2 = 32 then
        Ru sc (d + 1) mX10_startText 10 [Vr r0, Vi i1, Vi i2, Vi (w32 (i3 + 1)), Vi (w32 (i4 + 1)), u5] [] h
      else
        am_rcv 10 h (Vr r0) (
        clI (Cl sc d mX10_endOfThing [Vr r0, Vi i3, Vi i1] h) am_xt fun v4 h3 =>
        gfP 10 3 h3 r0 fun p5 =>
        am_rcv 10 h3 (Vr r0) (
        clI (Cl sc d mX10_thingOf [Vr r0, Vi i3, Vi v4] h3) am_xt fun v7 h6 =>
        stA 1 h6 p5 i2 v7 fun h8 =>
        gfP 10 4 h8 r0 fun p9 =>
        stA 1 h8 p9 i2 i3 fun h10 =>
        Ru sc (d + 1) mX10_startText 10 [Vr r0, Vi i1, Vi (w32 (i2 + 1)), Vi v4, Vi (w32 (i4 + 1)), Vi v4] [] h10))
    else
      Ru sc (d + 1) mX10_startText 47 [Vr r0, Vi i1, Vi i2, Vi i3, Vi i4, u5] [] h
  else
    Ru sc (d + 1) mX10_startText 47 [Vr r0, Vi i1, Vi i2, Vi i3, Vi i4, u5] [] h := (Ru_at at_X10_startText 10 _ _ _).trans rfl
set_option maxRecDepth 60000 in
theorem q_X10_startText_47 (sc : Nat × (Nat → Int)) (d : Nat) (r0 : Option Nat) (i1 : Int) (i2 : Int) (i3 : Int) (i4 : Int) (u5 : am_V) (h : am_H) : Ru sc (d + 1) mX10_startText 47 [Vr r0, Vi i1, Vi i2, Vi i3, Vi i4, u5] [] h =
  gfP 10 3 h r0 fun p1 =>
  stA 1 h p1 i2 (-1) fun h2 =>
  gfP 10 4 h2 r0 fun p3 =>
  stA 1 h2 p3 i2 i1 fun h4 =>
  pfI 0 10 5 h4 r0 0 fun h5 =>
  pfI 0 10 2 h5 r0 (-1) fun h6 =>
  some (.inl (Vx 0), h6) := (Ru_at at_X10_startText 47 _ _ _).trans rfl
theorem at_X10_endOfThing : am_at mX10_endOfThing = (cd_X10_endOfThing, [], 4) := rfl
set_option maxRecDepth 60000 in
theorem q_X10_endOfThing_0 (sc : Nat × (Nat → Int)) (d : Nat) (r0 : Option Nat) (i1 : Int) (i2 : Int) (h : am_H) : Cl sc (d + 1) mX10_endOfThing [Vr r0, Vi i1, Vi i2] h =
  gfP 10 0 h r0 fun p1 =>
  ldA 1 h p1 i1 fun v2 =>
  clI (Cl sc d mX10_isLetter [Vi v2] h) am_xt fun v4 h3 =>
  if v4 = 0 then
    gfP 10 0 h3 r0 fun p5 =>
    ldA 1 h3 p5 i1 fun v6 =>
    clI (Cl sc d mX10_isDigit [Vi v6] h3) am_xt fun v8 h7 =>
    if v8 = 0 then
      some (.inl (Vi (w32 (i1 + 1))), h7)
    else
      Ru sc (d + 1) mX10_endOfThing 29 [Vr r0, Vi i1, Vi i2, Vi (w32 (i1 + 1))] [] h7
  else
    Ru sc (d + 1) mX10_endOfThing 11 [Vr r0, Vi i1, Vi i2, Vi (w32 (i1 + 1))] [] h3 := (Cl_at at_X10_endOfThing rfl _).trans rfl
set_option maxRecDepth 60000 in
theorem q_X10_endOfThing_11 (sc : Nat × (Nat → Int)) (d : Nat) (r0 : Option Nat) (i1 : Int) (i2 : Int) (i3 : Int) (h : am_H) : Ru sc (d + 1) mX10_endOfThing 11 [Vr r0, Vi i1, Vi i2, Vi i3] [] h =
  if i3 < i2 then
    gfP 10 0 h r0 fun p1 =>
    ldA 1 h p1 i3 fun v2 =>
    clI (Cl sc d mX10_isLetter [Vi v2] h) am_xt fun v4 h3 =>
    if v4 = 0 then
      some (.inl (Vi i3), h3)
    else
      Ru sc (d + 1) mX10_endOfThing 11 [Vr r0, Vi i1, Vi i2, Vi (w32 (i3 + 1))] [] h3
  else
    some (.inl (Vi i3), h) := (Ru_at at_X10_endOfThing 11 _ _ _).trans rfl
set_option maxRecDepth 60000 in
theorem q_X10_endOfThing_29 (sc : Nat × (Nat → Int)) (d : Nat) (r0 : Option Nat) (i1 : Int) (i2 : Int) (i3 : Int) (h : am_H) : Ru sc (d + 1) mX10_endOfThing 29 [Vr r0, Vi i1, Vi i2, Vi i3] [] h =
  if i3 < i2 then
    gfP 10 0 h r0 fun p1 =>
    ldA 1 h p1 i3 fun v2 =>
    clI (Cl sc d mX10_isDigit [Vi v2] h) am_xt fun v4 h3 =>
    if v4 = 0 then
      some (.inl (Vi i3), h3)
    else
      Ru sc (d + 1) mX10_endOfThing 29 [Vr r0, Vi i1, Vi i2, Vi (w32 (i3 + 1))] [] h3
  else
    some (.inl (Vi i3), h) := (Ru_at at_X10_endOfThing 29 _ _ _).trans rfl
theorem at_X10_thingOf : am_at mX10_thingOf = (cd_X10_thingOf, [], 4) := rfl
set_option maxRecDepth 60000 in
theorem q_X10_thingOf_0 (sc : Nat × (Nat → Int)) (d : Nat) (r0 : Option Nat) (i1 : Int) (i2 : Int) (h : am_H) : Cl sc (d + 1) mX10_thingOf [Vr r0, Vi i1, Vi i2] h =
  gfP 10 0 h r0 fun p1 =>
  ldA 1 h p1 i1 fun v2 =>
  clI (Cl sc d mX10_isLetter [Vi v2] h) am_xt fun v4 h3 =>
  if v4 = 0 then
    gfP 10 0 h3 r0 fun p5 =>
    ldA 1 h3 p5 i1 fun v6 =>
    clI (Cl sc d mX10_isDigit [Vi v6] h3) am_xt fun v8 h7 =>
    if v8 = 0 then
      gfP 10 0 h7 r0 fun p9 =>
      ldA 1 h7 p9 i1 fun v10 =>
      clI (Cl sc d mX10_sign [Vi v10] h7) am_xt fun v12 h11 =>
      some (.inl (Vi v12), h11)
    else
      am_rcv 10 h7 (Vr r0) (
      clI (Cl sc d mX10_number [Vr r0, Vi i1, Vi i2] h7) am_xt fun v14 h13 =>
      some (.inl (Vi v14), h13))
  else
    am_rcv 10 h3 (Vr r0) (
    clI (Cl sc d mX10_countyWord [Vr r0, Vi i1, Vi i2] h3) am_xt fun v16 h15 =>
    if v16 = (-2) then
      am_rcv 10 h15 (Vr r0) (
      clI (Cl sc d mX10_lawWord [Vr r0, Vi i1, Vi i2] h15) am_xt fun v18 h17 =>
      some (.inl (Vi v18), h17))
    else
      some (.inl (Vi v16), h15)) := (Cl_at at_X10_thingOf rfl _).trans rfl
theorem at_X10_number : am_at mX10_number = (cd_X10_number, [], 5) := rfl
set_option maxRecDepth 60000 in
theorem q_X10_number_0 (sc : Nat × (Nat → Int)) (d : Nat) (r0 : Option Nat) (i1 : Int) (i2 : Int) (h : am_H) : Cl sc (d + 1) mX10_number [Vr r0, Vi i1, Vi i2] h =
  if 3 < (w32 (i2 - i1)) then
    some (.inl (Vi 1000), h)
  else
    Ru sc (d + 1) mX10_number 12 [Vr r0, Vi i1, Vi i2, Vi 0, Vi i1] [] h := (Cl_at at_X10_number rfl _).trans rfl
set_option maxRecDepth 60000 in
theorem q_X10_number_12 (sc : Nat × (Nat → Int)) (d : Nat) (r0 : Option Nat) (i1 : Int) (i2 : Int) (i3 : Int) (i4 : Int) (h : am_H) : Ru sc (d + 1) mX10_number 12 [Vr r0, Vi i1, Vi i2, Vi i3, Vi i4] [] h =
  if i4 < i2 then
    gfP 10 0 h r0 fun p1 =>
    ldA 1 h p1 i4 fun v2 =>
    Ru sc (d + 1) mX10_number 12 [Vr r0, Vi i1, Vi i2, Vi (w32 ((w32 ((w32 (i3 * 10)) + v2)) - 48)), Vi (w32 (i4 + 1))] [] h
  else
    some (.inl (Vi i3), h) := (Ru_at at_X10_number 12 _ _ _).trans rfl
theorem at_X10_sign : am_at mX10_sign = (cd_X10_sign, [], 1) := rfl
set_option maxRecDepth 60000 in
theorem q_X10_sign_0 (sc : Nat × (Nat → Int)) (d : Nat) (i0 : Int) (h : am_H) : Cl sc (d + 1) mX10_sign [Vi i0] h =
  if i0 = 40 then
    some (.inl (Vi (-4)), h)
  else if i0 = 41 then
    some (.inl (Vi (-5)), h)
  else if i0 = 43 then
    some (.inl (Vi (-27)), h)
  else if i0 = 59 then
    some (.inl (Vi (-3)), h)
  else if i0 = 60 then
    some (.inl (Vi (-28)), h)
  else if i0 = 62 then
    some (.inl (Vi (-29)), h)
  else some (.inl (Vi (-2)), h) := (Cl_at at_X10_sign rfl _).trans rfl
theorem at_X10_countyWord : am_at mX10_countyWord = (cd_X10_countyWord, [], 3) := rfl
set_option maxRecDepth 60000 in
theorem q_X10_countyWord_0 (sc : Nat × (Nat → Int)) (d : Nat) (r0 : Option Nat) (i1 : Int) (i2 : Int) (h : am_H) : Cl sc (d + 1) mX10_countyWord [Vr r0, Vi i1, Vi i2] h =
  am_rcv 10 h (Vr r0) (
  clI (Cl sc d mX10_isWord [Vr r0, Vx 2, Vi i1, Vi i2] h) am_xt fun v2 h1 =>
  if v2 = 0 then
    am_rcv 10 h1 (Vr r0) (
    clI (Cl sc d mX10_isWord [Vr r0, Vx 3, Vi i1, Vi i2] h1) am_xt fun v4 h3 =>
    if v4 = 0 then
      am_rcv 10 h3 (Vr r0) (
      clI (Cl sc d mX10_isWord [Vr r0, Vx 4, Vi i1, Vi i2] h3) am_xt fun v6 h5 =>
      if v6 = 0 then
        am_rcv 10 h5 (Vr r0) (
        clI (Cl sc d mX10_isWord [Vr r0, Vx 5, Vi i1, Vi i2] h5) am_xt fun v8 h7 =>
        if v8 = 0 then
          am_rcv 10 h7 (Vr r0) (
          clI (Cl sc d mX10_isWord [Vr r0, Vx 6, Vi i1, Vi i2] h7) am_xt fun v10 h9 =>
          if v10 = 0 then
            am_rcv 10 h9 (Vr r0) (
            clI (Cl sc d mX10_isWord [Vr r0, Vx 7, Vi i1, Vi i2] h9) am_xt fun v12 h11 =>
            if v12 = 0 then
              am_rcv 10 h11 (Vr r0) (
              clI (Cl sc d mX10_isWord [Vr r0, Vx 8, Vi i1, Vi i2] h11) am_xt fun v14 h13 =>
              if v14 = 0 then
                am_rcv 10 h13 (Vr r0) (
                clI (Cl sc d mX10_isWord [Vr r0, Vx 9, Vi i1, Vi i2] h13) am_xt fun v16 h15 =>
                if v16 = 0 then
                  am_rcv 10 h15 (Vr r0) (
                  clI (Cl sc d mX10_isWord [Vr r0, Vx 10, Vi i1, Vi i2] h15) am_xt fun v18 h17 =>
                  if v18 = 0 then
                    am_rcv 10 h17 (Vr r0) (
                    clI (Cl sc d mX10_isWord [Vr r0, Vx 11, Vi i1, Vi i2] h17) am_xt fun v20 h19 =>
                    if v20 = 0 then
                      am_rcv 10 h19 (Vr r0) (
                      clI (Cl sc d mX10_isWord [Vr r0, Vx 12, Vi i1, Vi i2] h19) am_xt fun v22 h21 =>
                      if v22 = 0 then
                        am_rcv 10 h21 (Vr r0) (
                        clI (Cl sc d mX10_isWord [Vr r0, Vx 13, Vi i1, Vi i2] h21) am_xt fun v24 h23 =>
                        if v24 = 0 then
                          some (.inl (Vi (-2)), h23)
                        else
                          some (.inl (Vi (-12)), h23))
                      else
                        some (.inl (Vi (-11)), h21))
                    else
                      some (.inl (Vi (-10)), h19))
                  else
                    some (.inl (Vi (-24)), h17))
                else
                  some (.inl (Vi (-23)), h15))
              else
                some (.inl (Vi (-19)), h13))
            else
              some (.inl (Vi (-18)), h11))
          else
            some (.inl (Vi (-22)), h9))
        else
          some (.inl (Vi (-9)), h7))
      else
        some (.inl (Vi (-8)), h5))
    else
      some (.inl (Vi (-7)), h3))
  else
    some (.inl (Vi (-6)), h1)) := (Cl_at at_X10_countyWord rfl _).trans rfl
theorem at_X10_lawWord : am_at mX10_lawWord = (cd_X10_lawWord, [], 3) := rfl
set_option maxRecDepth 60000 in
theorem q_X10_lawWord_0 (sc : Nat × (Nat → Int)) (d : Nat) (r0 : Option Nat) (i1 : Int) (i2 : Int) (h : am_H) : Cl sc (d + 1) mX10_lawWord [Vr r0, Vi i1, Vi i2] h =
  am_rcv 10 h (Vr r0) (
  clI (Cl sc d mX10_isWord [Vr r0, Vx 14, Vi i1, Vi i2] h) am_xt fun v2 h1 =>
  if v2 = 0 then
    am_rcv 10 h1 (Vr r0) (
    clI (Cl sc d mX10_isWord [Vr r0, Vx 15, Vi i1, Vi i2] h1) am_xt fun v4 h3 =>
    if v4 = 0 then
      am_rcv 10 h3 (Vr r0) (
      clI (Cl sc d mX10_isWord [Vr r0, Vx 16, Vi i1, Vi i2] h3) am_xt fun v6 h5 =>
      if v6 = 0 then
        am_rcv 10 h5 (Vr r0) (
        clI (Cl sc d mX10_isWord [Vr r0, Vx 17, Vi i1, Vi i2] h5) am_xt fun v8 h7 =>
        if v8 = 0 then
          am_rcv 10 h7 (Vr r0) (
          clI (Cl sc d mX10_isWord [Vr r0, Vx 18, Vi i1, Vi i2] h7) am_xt fun v10 h9 =>
          if v10 = 0 then
            am_rcv 10 h9 (Vr r0) (
            clI (Cl sc d mX10_isWord [Vr r0, Vx 19, Vi i1, Vi i2] h9) am_xt fun v12 h11 =>
            if v12 = 0 then
              am_rcv 10 h11 (Vr r0) (
              clI (Cl sc d mX10_isWord [Vr r0, Vx 20, Vi i1, Vi i2] h11) am_xt fun v14 h13 =>
              if v14 = 0 then
                am_rcv 10 h13 (Vr r0) (
                clI (Cl sc d mX10_isWord [Vr r0, Vx 21, Vi i1, Vi i2] h13) am_xt fun v16 h15 =>
                if v16 = 0 then
                  am_rcv 10 h15 (Vr r0) (
                  clI (Cl sc d mX10_isWord [Vr r0, Vx 22, Vi i1, Vi i2] h15) am_xt fun v18 h17 =>
                  if v18 = 0 then
                    am_rcv 10 h17 (Vr r0) (
                    clI (Cl sc d mX10_isWord [Vr r0, Vx 23, Vi i1, Vi i2] h17) am_xt fun v20 h19 =>
                    if v20 = 0 then
                      am_rcv 10 h19 (Vr r0) (
                      clI (Cl sc d mX10_isWord [Vr r0, Vx 24, Vi i1, Vi i2] h19) am_xt fun v22 h21 =>
                      if v22 = 0 then
                        some (.inl (Vi (-2)), h21)
                      else
                        some (.inl (Vi (-21)), h21))
                    else
                      some (.inl (Vi (-20)), h19))
                  else
                    some (.inl (Vi (-17)), h17))
                else
                  some (.inl (Vi (-25)), h15))
              else
                some (.inl (Vi (-26)), h13))
            else
              some (.inl (Vi (-30)), h11))
          else
            some (.inl (Vi (-31)), h9))
        else
          some (.inl (Vi (-16)), h7))
      else
        some (.inl (Vi (-15)), h5))
    else
      some (.inl (Vi (-14)), h3))
  else
    some (.inl (Vi (-13)), h1)) := (Cl_at at_X10_lawWord rfl _).trans rfl
theorem at_X10_isWord : am_at mX10_isWord = (cd_X10_isWord, [], 5) := rfl
set_option maxRecDepth 60000 in
theorem q_X10_isWord_0 (sc : Nat × (Nat → Int)) (d : Nat) (r0 : Option Nat) (s1 : Nat) (i2 : Int) (i3 : Int) (h : am_H) : Cl sc (d + 1) mX10_isWord [Vr r0, Vx (s1 + 1), Vi i2, Vi i3] h =
  if 2 ≤ (s1 + 1) ∧ (s1 + 1) < 25 then
  clI (Cl sc d mJ0_length_8abf5 [Vx (s1 + 1)] h) am_xt fun v2 h1 =>
  if (w32 (i3 - i2)) = v2 then
    Ru sc (d + 1) mX10_isWord 11 [Vr r0, Vx (s1 + 1), Vi i2, Vi i3, Vi 0] [] h1
  else
    some (.inl (Vi 0), h1)
  else none := (Cl_at at_X10_isWord rfl _).trans rfl
set_option maxRecDepth 60000 in
theorem q_X10_isWord_11 (sc : Nat × (Nat → Int)) (d : Nat) (r0 : Option Nat) (s1 : Nat) (i2 : Int) (i3 : Int) (i4 : Int) (h : am_H) : Ru sc (d + 1) mX10_isWord 11 [Vr r0, Vx (s1 + 1), Vi i2, Vi i3, Vi i4] [] h =
  if 2 ≤ (s1 + 1) ∧ (s1 + 1) < 25 then
  clI (Cl sc d mJ0_length_8abf5 [Vx (s1 + 1)] h) am_xt fun v2 h1 =>
  if i4 < v2 then
    gfP 10 0 h1 r0 fun p3 =>
    ldA 1 h1 p3 (w32 (i2 + i4)) fun v4 =>
    if 2 ≤ (s1 + 1) ∧ (s1 + 1) < 25 then
    clI (Cl sc d mJ0_charAt_5068e [Vx (s1 + 1), Vi i4] h1) am_xt fun v6 h5 =>
    if v4 = v6 then
      Ru sc (d + 1) mX10_isWord 11 [Vr r0, Vx (s1 + 1), Vi i2, Vi i3, Vi (w32 (i4 + 1))] [] h5
    else
      some (.inl (Vi 0), h5)
    else none
  else
    some (.inl (Vi 1), h1)
  else none := (Ru_at at_X10_isWord 11 _ _ _).trans rfl
theorem at_X10_isLetter : am_at mX10_isLetter = (cd_X10_isLetter, [], 1) := rfl
set_option maxRecDepth 60000 in
theorem q_X10_isLetter_0 (sc : Nat × (Nat → Int)) (d : Nat) (i0 : Int) (h : am_H) : Cl sc (d + 1) mX10_isLetter [Vi i0] h =
  if i0 < 97 then
    some (.inl (Vi 0), h)
  else
    if 122 < i0 then
      some (.inl (Vi 0), h)
    else
      some (.inl (Vi 1), h) := (Cl_at at_X10_isLetter rfl _).trans rfl
theorem at_X10_isDigit : am_at mX10_isDigit = (cd_X10_isDigit, [], 1) := rfl
set_option maxRecDepth 60000 in
theorem q_X10_isDigit_0 (sc : Nat × (Nat → Int)) (d : Nat) (i0 : Int) (h : am_H) : Cl sc (d + 1) mX10_isDigit [Vi i0] h =
  if i0 < 48 then
    some (.inl (Vi 0), h)
  else
    if 57 < i0 then
      some (.inl (Vi 0), h)
    else
      some (.inl (Vi 1), h) := (Cl_at at_X10_isDigit rfl _).trans rfl
theorem at_X10_thing : am_at mX10_thing = (cd_X10_thing, [], 1) := rfl
set_option maxRecDepth 60000 in
theorem q_X10_thing_0 (sc : Nat × (Nat → Int)) (d : Nat) (r0 : Option Nat) (h : am_H) : Cl sc (d + 1) mX10_thing [Vr r0] h =
  gfP 10 3 h r0 fun p1 =>
  gfI 10 5 h r0 fun v2 =>
  ldA 1 h p1 v2 fun v3 =>
  some (.inl (Vi v3), h) := (Cl_at at_X10_thing rfl _).trans rfl
theorem at_X10_isAtEnd : am_at mX10_isAtEnd = (cd_X10_isAtEnd, [], 1) := rfl
set_option maxRecDepth 60000 in
theorem q_X10_isAtEnd_0 (sc : Nat × (Nat → Int)) (d : Nat) (r0 : Option Nat) (h : am_H) : Cl sc (d + 1) mX10_isAtEnd [Vr r0] h =
  gfP 10 3 h r0 fun p1 =>
  gfI 10 5 h r0 fun v2 =>
  ldA 1 h p1 v2 fun v3 =>
  if v3 = (-1) then
    some (.inl (Vi 1), h)
  else
    some (.inl (Vi 0), h) := (Cl_at at_X10_isAtEnd rfl _).trans rfl
theorem at_X10_next : am_at mX10_next = (cd_X10_next, [], 1) := rfl
set_option maxRecDepth 60000 in
theorem q_X10_next_0 (sc : Nat × (Nat → Int)) (d : Nat) (r0 : Option Nat) (h : am_H) : Cl sc (d + 1) mX10_next [Vr r0] h =
  gfP 10 3 h r0 fun p1 =>
  gfI 10 5 h r0 fun v2 =>
  ldA 1 h p1 v2 fun v3 =>
  if v3 = (-1) then
    some (.inl (Vx 0), h)
  else
    gfI 10 5 h r0 fun v4 =>
    pfI 0 10 5 h r0 (w32 (v4 + 1)) fun h5 =>
    some (.inl (Vx 0), h5) := (Cl_at at_X10_next rfl _).trans rfl
theorem at_X10_takes : am_at mX10_takes = (cd_X10_takes, [], 3) := rfl
set_option maxRecDepth 60000 in
theorem q_X10_takes_0 (sc : Nat × (Nat → Int)) (d : Nat) (r0 : Option Nat) (i1 : Int) (h : am_H) : Cl sc (d + 1) mX10_takes [Vr r0, Vi i1] h =
  gfP 10 3 h r0 fun p1 =>
  gfI 10 5 h r0 fun v2 =>
  ldA 1 h p1 v2 fun v3 =>
  if v3 = i1 then
    if i1 = (-1) then
      if 0 = 0 then
        some (.inl (Vi 0), h)
      else
        gfI 10 5 h r0 fun v6 =>
        pfI 0 10 5 h r0 (w32 (v6 + 1)) fun h7 =>
        some (.inl (Vi 0), h7)
    else
      if 1 = 0 then
        some (.inl (Vi 1), h)
      else
        gfI 10 5 h r0 fun v8 =>
        pfI 0 10 5 h r0 (w32 (v8 + 1)) fun h9 =>
        some (.inl (Vi 1), h9)
  else
    if 0 = 0 then
      some (.inl (Vi 0), h)
    else
      gfI 10 5 h r0 fun v4 =>
      pfI 0 10 5 h r0 (w32 (v4 + 1)) fun h5 =>
      some (.inl (Vi 0), h5) := (Cl_at at_X10_takes rfl _).trans rfl
theorem at_X10_takesNumber : am_at mX10_takesNumber = (cd_X10_takesNumber, [], 3) := rfl
set_option maxRecDepth 60000 in
theorem q_X10_takesNumber_0 (sc : Nat × (Nat → Int)) (d : Nat) (r0 : Option Nat) (i1 : Int) (h : am_H) : Cl sc (d + 1) mX10_takesNumber [Vr r0, Vi i1] h =
  gfP 10 3 h r0 fun p1 =>
  gfI 10 5 h r0 fun v2 =>
  ldA 1 h p1 v2 fun v3 =>
  if v3 < 0 then
    Ru sc (d + 1) mX10_takesNumber 17 [Vr r0, Vi i1, Vx 0] [Vi 0] h
  else
    gfP 10 3 h r0 fun p4 =>
    gfI 10 5 h r0 fun v5 =>
    ldA 1 h p4 v5 fun v6 =>
    if i1 < v6 then
      Ru sc (d + 1) mX10_takesNumber 17 [Vr r0, Vi i1, Vx 0] [Vi 0] h
    else
      Ru sc (d + 1) mX10_takesNumber 17 [Vr r0, Vi i1, Vx 0] [Vi 1] h := (Cl_at at_X10_takesNumber rfl _).trans rfl
set_option maxRecDepth 60000 in
theorem q_X10_takesNumber_17 (sc : Nat × (Nat → Int)) (d : Nat) (r0 : Option Nat) (i1 : Int) (u2 : am_V) (ti0 : Int) (h : am_H) : Ru sc (d + 1) mX10_takesNumber 17 [Vr r0, Vi i1, u2] [Vi ti0] h =
  if ti0 = 0 then
    am_ret 1 ti0 h
  else
    gfP 10 3 h r0 fun p1 =>
    gfI 10 5 h r0 fun v2 =>
    ldA 1 h p1 v2 fun v3 =>
    pfI 0 10 6 h r0 v3 fun h4 =>
    gfI 10 5 h4 r0 fun v5 =>
    pfI 0 10 5 h4 r0 (w32 (v5 + 1)) fun h6 =>
    am_ret 1 ti0 h6 := (Ru_at at_X10_takesNumber 17 _ _ _).trans rfl
theorem at_X10_takesBorderFrom : am_at mX10_takesBorderFrom = (cd_X10_takesBorderFrom, [], 4) := rfl
set_option maxRecDepth 60000 in
theorem q_X10_takesBorderFrom_0 (sc : Nat × (Nat → Int)) (d : Nat) (r0 : Option Nat) (i1 : Int) (h : am_H) : Cl sc (d + 1) mX10_takesBorderFrom [Vr r0, Vi i1] h =
  gfP 10 3 h r0 fun p1 =>
  gfI 10 5 h r0 fun v2 =>
  ldA 1 h p1 v2 fun v3 =>
  if v3 < 0 then
    if 0 = 0 then
      Ru sc (d + 1) mX10_takesBorderFrom 29 [Vr r0, Vi i1, Vi 0, Vx 0] [Vi (-1)] h
    else
      gfP 10 3 h r0 fun p4 =>
      gfI 10 5 h r0 fun v5 =>
      ldA 1 h p4 v5 fun v6 =>
      clI (Cl sc d mX2_borderOf [Vi i1, Vi v6] h) am_xt fun v8 h7 =>
      Ru sc (d + 1) mX10_takesBorderFrom 29 [Vr r0, Vi i1, Vi 0, Vx 0] [Vi v8] h7
  else
    gfP 10 3 h r0 fun p9 =>
    gfI 10 5 h r0 fun v10 =>
    ldA 1 h p9 v10 fun v11 =>
    if v11 < 36 then
      if 1 = 0 then
        Ru sc (d + 1) mX10_takesBorderFrom 29 [Vr r0, Vi i1, Vi 1, Vx 0] [Vi (-1)] h
      else
        gfP 10 3 h r0 fun p17 =>
        gfI 10 5 h r0 fun v18 =>
        ldA 1 h p17 v18 fun v19 =>
        clI (Cl sc d mX2_borderOf [Vi i1, Vi v19] h) am_xt fun v21 h20 =>
        Ru sc (d + 1) mX10_takesBorderFrom 29 [Vr r0, Vi i1, Vi 1, Vx 0] [Vi v21] h20
    else
      if 0 = 0 then
        Ru sc (d + 1) mX10_takesBorderFrom 29 [Vr r0, Vi i1, Vi 0, Vx 0] [Vi (-1)] h
      else
        gfP 10 3 h r0 fun p12 =>
        gfI 10 5 h r0 fun v13 =>
        ldA 1 h p12 v13 fun v14 =>
        clI (Cl sc d mX2_borderOf [Vi i1, Vi v14] h) am_xt fun v16 h15 =>
        Ru sc (d + 1) mX10_takesBorderFrom 29 [Vr r0, Vi i1, Vi 0, Vx 0] [Vi v16] h15 := (Cl_at at_X10_takesBorderFrom rfl _).trans rfl
set_option maxRecDepth 60000 in
theorem q_X10_takesBorderFrom_29 (sc : Nat × (Nat → Int)) (d : Nat) (r0 : Option Nat) (i1 : Int) (i2 : Int) (u3 : am_V) (ti0 : Int) (h : am_H) : Ru sc (d + 1) mX10_takesBorderFrom 29 [Vr r0, Vi i1, Vi i2, u3] [Vi ti0] h =
  if ti0 = (-1) then
    some (.inl (Vi 0), h)
  else
    pfI 0 10 6 h r0 ti0 fun h1 =>
    gfI 10 5 h1 r0 fun v2 =>
    pfI 0 10 5 h1 r0 (w32 (v2 + 1)) fun h3 =>
    some (.inl (Vi 1), h3) := (Ru_at at_X10_takesBorderFrom 29 _ _ _).trans rfl
theorem at_X10_refuses : am_at mX10_refuses = (cd_X10_refuses, [], 1) := rfl
set_option maxRecDepth 60000 in
theorem q_X10_refuses_0 (sc : Nat × (Nat → Int)) (d : Nat) (r0 : Option Nat) (h : am_H) : Cl sc (d + 1) mX10_refuses [Vr r0] h =
  gfP 10 4 h r0 fun p1 =>
  gfI 10 5 h r0 fun v2 =>
  ldA 1 h p1 v2 fun v3 =>
  pfI 0 10 2 h r0 v3 fun h4 =>
  some (.inl (Vi 0), h4) := (Cl_at at_X10_refuses rfl _).trans rfl
