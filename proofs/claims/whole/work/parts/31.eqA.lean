theorem at_X0_init : am_at mX0_init = (cd_X0_init, [], 1) := rfl
set_option maxRecDepth 60000 in
theorem q_X0_init_0 (sc : Nat × (Nat → Int)) (d : Nat) (a0 : Nat) (h : am_H) : Cl sc (d + 1) mX0_init [Vr (some a0)] h =
  newA 2 h 60 fun p1 h2 =>
  pfP 0 0 h2 (some a0) p1 fun h3 =>
  newA 1 h3 60 fun p4 h5 =>
  pfP 0 1 h5 (some a0) p4 fun h6 =>
  newA 1 h6 60 fun p7 h8 =>
  pfP 0 2 h8 (some a0) p7 fun h9 =>
  newA 2 h9 60 fun p10 h11 =>
  pfP 0 3 h11 (some a0) p10 fun h12 =>
  newA 2 h12 60 fun p13 h14 =>
  pfP 0 4 h14 (some a0) p13 fun h15 =>
  pfI 0 0 5 h15 (some a0) 0 fun h16 =>
  newA 1 h16 6 fun p17 h18 =>
  pfP 0 6 h18 (some a0) p17 fun h19 =>
  newA 1 h19 6 fun p20 h21 =>
  pfP 0 7 h21 (some a0) p20 fun h22 =>
  newA 1 h22 6 fun p23 h24 =>
  pfP 0 8 h24 (some a0) p23 fun h25 =>
  newA 1 h25 6 fun p26 h27 =>
  pfP 0 9 h27 (some a0) p26 fun h28 =>
  pfI 0 0 10 h28 (some a0) 0 fun h29 =>
  pfI 0 0 11 h29 (some a0) 0 fun h30 =>
  pfI 0 0 12 h30 (some a0) 1 fun h31 =>
  pfI 0 0 13 h31 (some a0) 0 fun h32 =>
  pfP 0 14 h32 (some a0) none fun h33 =>
  am_rcv 5 (am_new h33 0 5 3) (Vr (some (hZ h33))) (
  clV (Cl sc d mX5_init [Vr (some (hZ h33))] (am_new h33 0 5 3)) am_xn0 fun h34 =>
  pfP 0 15 h34 (some a0) (some (hZ h33)) fun h35 =>
  some (.inl (Vx 0), h35)) := (Cl_at at_X0_init rfl _).trans rfl
theorem at_X0_copyFrom : am_at mX0_copyFrom = (cd_X0_copyFrom, [], 3) := rfl
set_option maxRecDepth 60000 in
theorem q_X0_copyFrom_0 (sc : Nat × (Nat → Int)) (d : Nat) (r0 : Option Nat) (r1 : Option Nat) (h : am_H) : Cl sc (d + 1) mX0_copyFrom [Vr r0, Vr r1] h =
  gfP 0 1 h r1 fun p1 =>
  gfP 0 1 h r0 fun p2 =>
  cpA h p1 0 p2 0 60 fun h3 =>
  gfP 0 2 h3 r1 fun p4 =>
  gfP 0 2 h3 r0 fun p5 =>
  cpA h3 p4 0 p5 0 60 fun h6 =>
  Ru sc (d + 1) mX0_copyFrom 19 [Vr r0, Vr r1, Vi 0] [] h6 := (Cl_at at_X0_copyFrom rfl _).trans rfl
set_option maxRecDepth 60000 in
theorem q_X0_copyFrom_19 (sc : Nat × (Nat → Int)) (d : Nat) (r0 : Option Nat) (r1 : Option Nat) (i2 : Int) (h : am_H) : Ru sc (d + 1) mX0_copyFrom 19 [Vr r0, Vr r1, Vi i2] [] h =
  if i2 < 60 then
    gfP 0 0 h r0 fun p28 =>
    gfP 0 0 h r1 fun p29 =>
    ldB h p29 i2 fun v30 =>
    stB h p28 i2 v30 fun h31 =>
    gfP 0 3 h31 r0 fun p32 =>
    gfP 0 3 h31 r1 fun p33 =>
    ldB h31 p33 i2 fun v34 =>
    stB h31 p32 i2 v34 fun h35 =>
    gfP 0 4 h35 r0 fun p36 =>
    gfP 0 4 h35 r1 fun p37 =>
    ldB h35 p37 i2 fun v38 =>
    stB h35 p36 i2 v38 fun h39 =>
    Ru sc (d + 1) mX0_copyFrom 19 [Vr r0, Vr r1, Vi (w32 (i2 + 1))] [] h39
  else
    gfI 0 5 h r1 fun v1 =>
    pfI 0 0 5 h r0 v1 fun h2 =>
    gfP 0 6 h2 r1 fun p3 =>
    gfP 0 6 h2 r0 fun p4 =>
    cpA h2 p3 0 p4 0 6 fun h5 =>
    gfP 0 7 h5 r1 fun p6 =>
    gfP 0 7 h5 r0 fun p7 =>
    cpA h5 p6 0 p7 0 6 fun h8 =>
    gfP 0 8 h8 r1 fun p9 =>
    gfP 0 8 h8 r0 fun p10 =>
    cpA h8 p9 0 p10 0 6 fun h11 =>
    gfP 0 9 h11 r1 fun p12 =>
    gfP 0 9 h11 r0 fun p13 =>
    cpA h11 p12 0 p13 0 6 fun h14 =>
    gfI 0 10 h14 r1 fun v15 =>
    pfI 0 0 10 h14 r0 v15 fun h16 =>
    gfI 0 11 h16 r1 fun v17 =>
    pfI 0 0 11 h16 r0 v17 fun h18 =>
    gfI 0 12 h18 r1 fun v19 =>
    pfI 0 0 12 h18 r0 v19 fun h20 =>
    gfI 0 13 h20 r1 fun v21 =>
    pfI 0 0 13 h20 r0 v21 fun h22 =>
    gfP 0 14 h22 r1 fun p23 =>
    pfP 0 14 h22 r0 p23 fun h24 =>
    gfP 0 15 h24 r0 fun p25 =>
    gfP 0 15 h24 r1 fun p26 =>
    am_rcv 5 h24 (Vr p25) (
    clV (Cl sc d mX5_copyFrom [Vr p25, Vr p26] h24) am_xt fun h27 =>
    some (.inl (Vx 0), h27)) := (Ru_at at_X0_copyFrom 19 _ _ _).trans rfl
theorem at_X0_put : am_at mX0_put = (cd_X0_put, [], 3) := rfl
set_option maxRecDepth 60000 in
theorem q_X0_put_0 (sc : Nat × (Nat → Int)) (d : Nat) (r0 : Option Nat) (i1 : Int) (i2 : Int) (h : am_H) : Cl sc (d + 1) mX0_put [Vr r0, Vi i1, Vi i2] h =
  gfP 0 0 h r0 fun p1 =>
  stB h p1 i1 1 fun h2 =>
  gfP 0 1 h2 r0 fun p3 =>
  stA 1 h2 p3 i1 0 fun h4 =>
  gfP 0 2 h4 r0 fun p5 =>
  stA 1 h4 p5 i1 i2 fun h6 =>
  gfP 0 3 h6 r0 fun p7 =>
  stB h6 p7 i1 0 fun h8 =>
  gfP 0 4 h8 r0 fun p9 =>
  stB h8 p9 i1 0 fun h10 =>
  some (.inl (Vx 0), h10) := (Cl_at at_X0_put rfl _).trans rfl
theorem at_X0_isOpen : am_at mX0_isOpen = (cd_X0_isOpen, [], 3) := rfl
set_option maxRecDepth 60000 in
theorem q_X0_isOpen_0 (sc : Nat × (Nat → Int)) (d : Nat) (r0 : Option Nat) (i1 : Int) (i2 : Int) (h : am_H) : Cl sc (d + 1) mX0_isOpen [Vr r0, Vi i1, Vi i2] h =
  gfP 0 0 h r0 fun p1 =>
  ldB h p1 i1 fun v2 =>
  if v2 = 0 then
    some (.inl (Vi 1), h)
  else
    gfP 0 3 h r0 fun p3 =>
    ldB h p3 i1 fun v4 =>
    if v4 = 0 then
      gfP 0 2 h r0 fun p5 =>
      ldA 1 h p5 i1 fun v6 =>
      if i2 < v6 then
        some (.inl (Vi 0), h)
      else
        some (.inl (Vi 1), h)
    else
      some (.inl (Vi 1), h) := (Cl_at at_X0_isOpen rfl _).trans rfl
theorem at_X0_toll : am_at mX0_toll = (cd_X0_toll, [], 2) := rfl
set_option maxRecDepth 60000 in
theorem q_X0_toll_0 (sc : Nat × (Nat → Int)) (d : Nat) (r0 : Option Nat) (i1 : Int) (h : am_H) : Cl sc (d + 1) mX0_toll [Vr r0, Vi i1] h =
  gfP 0 0 h r0 fun p1 =>
  ldB h p1 i1 fun v2 =>
  if v2 = 0 then
    some (.inl (Vi 1), h)
  else
    gfP 0 3 h r0 fun p3 =>
    ldB h p3 i1 fun v4 =>
    if v4 = 0 then
      gfP 0 2 h r0 fun p5 =>
      ldA 1 h p5 i1 fun v6 =>
      if 10 = 0 then none else
      some (.inl (Vi (w32 (1 + (w32 (v6.tdiv 10))))), h)
    else
      some (.inl (Vi 1), h) := (Cl_at at_X0_toll rfl _).trans rfl
theorem at_X0_ladder : am_at mX0_ladder = (cd_X0_ladder, [], 2) := rfl
set_option maxRecDepth 60000 in
theorem q_X0_ladder_0 (sc : Nat × (Nat → Int)) (d : Nat) (r0 : Option Nat) (i1 : Int) (h : am_H) : Cl sc (d + 1) mX0_ladder [Vr r0, Vi i1] h =
  am_rcv 0 h (Vr r0) (
  clI (Cl sc d mX0_isOpen [Vr r0, Vi i1, Vi 0] h) am_xt fun v2 h1 =>
  if v2 = 0 then
    gfP 0 2 h1 r0 fun p3 =>
    ldA 1 h1 p3 i1 fun v4 =>
    some (.inl (Vi v4), h1)
  else
    some (.inl (Vi 0), h1)) := (Cl_at at_X0_ladder rfl _).trans rfl
theorem at_X0_isTop : am_at mX0_isTop = (cd_X0_isTop, [], 3) := rfl
set_option maxRecDepth 60000 in
theorem q_X0_isTop_0 (sc : Nat × (Nat → Int)) (d : Nat) (r0 : Option Nat) (i1 : Int) (i2 : Int) (h : am_H) : Cl sc (d + 1) mX0_isTop [Vr r0, Vi i1, Vi i2] h =
  gfP 0 0 h r0 fun p1 =>
  ldB h p1 i1 fun v2 =>
  if v2 = 0 then
    some (.inl (Vi 0), h)
  else
    gfP 0 2 h r0 fun p3 =>
    ldA 1 h p3 i1 fun v4 =>
    if v4 < i2 then
      some (.inl (Vi 0), h)
    else
      some (.inl (Vi 1), h) := (Cl_at at_X0_isTop rfl _).trans rfl
theorem at_X0_growth : am_at mX0_growth = (cd_X0_growth, [], 2) := rfl
set_option maxRecDepth 60000 in
theorem q_X0_growth_0 (sc : Nat × (Nat → Int)) (d : Nat) (r0 : Option Nat) (i1 : Int) (h : am_H) : Cl sc (d + 1) mX0_growth [Vr r0, Vi i1] h =
  gfP 0 4 h r0 fun p1 =>
  ldB h p1 i1 fun v2 =>
  if v2 = 0 then
    gfP 0 14 h r0 fun p3 =>
    if p3 = none then
      some (.inl (Vi 1), h)
    else
      gfP 0 14 h r0 fun p4 =>
      am_rcv 3 h (Vr p4) (
      clI (Cl sc d mX3_total [Vr p4, Vi (-13), Vr r0, Vi i1] h) am_xt fun v6 h5 =>
      gfP 0 14 h5 r0 fun p7 =>
      am_rcv 3 h5 (Vr p7) (
      clI (Cl sc d mX3_total [Vr p7, Vi (-14), Vr r0, Vi i1] h5) am_xt fun v9 h8 =>
      some (.inl (Vi (w32 (v6 - v9))), h8)))
  else
    some (.inl (Vi 0), h) := (Cl_at at_X0_growth rfl _).trans rfl
theorem at_X0_soreness : am_at mX0_soreness = (cd_X0_soreness, [], 2) := rfl
set_option maxRecDepth 60000 in
theorem q_X0_soreness_0 (sc : Nat × (Nat → Int)) (d : Nat) (r0 : Option Nat) (i1 : Int) (h : am_H) : Cl sc (d + 1) mX0_soreness [Vr r0, Vi i1] h =
  gfP 0 14 h r0 fun p1 =>
  if p1 = none then
    some (.inl (Vi 0), h)
  else
    gfP 0 14 h r0 fun p2 =>
    am_rcv 3 h (Vr p2) (
    clI (Cl sc d mX3_total [Vr p2, Vi (-15), Vr r0, Vi i1] h) am_xt fun v4 h3 =>
    some (.inl (Vi v4), h3)) := (Cl_at at_X0_soreness rfl _).trans rfl
theorem at_X0_passYears : am_at mX0_passYears = (cd_X0_passYears, [], 5) := rfl
set_option maxRecDepth 60000 in
theorem q_X0_passYears_0 (sc : Nat × (Nat → Int)) (d : Nat) (r0 : Option Nat) (i1 : Int) (h : am_H) : Cl sc (d + 1) mX0_passYears [Vr r0, Vi i1] h =
  Ru sc (d + 1) mX0_passYears 5 [Vr r0, Vi i1, Vi 0, Vi 0, Vx 0] [] h := (Cl_at at_X0_passYears rfl _).trans rfl
set_option maxRecDepth 60000 in
theorem q_X0_passYears_5 (sc : Nat × (Nat → Int)) (d : Nat) (r0 : Option Nat) (i1 : Int) (i2 : Int) (i3 : Int) (u4 : am_V) (h : am_H) : Ru sc (d + 1) mX0_passYears 5 [Vr r0, Vi i1, Vi i2, Vi i3, u4] [] h =
  if i3 < i1 then
    Ru sc (d + 1) mX0_passYears 11 [Vr r0, Vi i1, Vi i2, Vi i3, Vi 0] [] h
  else
    some (.inl (Vi i2), h) := (Ru_at at_X0_passYears 5 _ _ _).trans rfl
set_option maxRecDepth 60000 in
theorem q_X0_passYears_11 (sc : Nat × (Nat → Int)) (d : Nat) (r0 : Option Nat) (i1 : Int) (i2 : Int) (i3 : Int) (i4 : Int) (h : am_H) : Ru sc (d + 1) mX0_passYears 11 [Vr r0, Vi i1, Vi i2, Vi i3, Vi i4] [] h =
  if i4 < 60 then
    am_rcv 0 h (Vr r0) (
    clV (Cl sc d mX0_grow [Vr r0, Vi i4] h) am_xt fun h1 =>
    Ru sc (d + 1) mX0_passYears 11 [Vr r0, Vi i1, Vi i2, Vi i3, Vi (w32 (i4 + 1))] [] h1)
  else
    Ru sc (d + 1) mX0_passYears 22 [Vr r0, Vi i1, Vi i2, Vi i3, Vi 0] [] h := (Ru_at at_X0_passYears 11 _ _ _).trans rfl
set_option maxRecDepth 60000 in
theorem q_X0_passYears_22 (sc : Nat × (Nat → Int)) (d : Nat) (r0 : Option Nat) (i1 : Int) (i2 : Int) (i3 : Int) (i4 : Int) (h : am_H) : Ru sc (d + 1) mX0_passYears 22 [Vr r0, Vi i1, Vi i2, Vi i3, Vi i4] [] h =
  gfI 0 5 h r0 fun v1 =>
  if i4 < v1 then
    am_rcv 0 h (Vr r0) (
    clV (Cl sc d mX0_fret [Vr r0, Vi i4] h) am_xt fun h2 =>
    Ru sc (d + 1) mX0_passYears 22 [Vr r0, Vi i1, Vi i2, Vi i3, Vi (w32 (i4 + 1))] [] h2)
  else
    Ru sc (d + 1) mX0_passYears 34 [Vr r0, Vi i1, Vi i2, Vi i3, Vi 0] [] h := (Ru_at at_X0_passYears 22 _ _ _).trans rfl
set_option maxRecDepth 60000 in
theorem q_X0_passYears_34 (sc : Nat × (Nat → Int)) (d : Nat) (r0 : Option Nat) (i1 : Int) (i2 : Int) (i3 : Int) (i4 : Int) (h : am_H) : Ru sc (d + 1) mX0_passYears 34 [Vr r0, Vi i1, Vi i2, Vi i3, Vi i4] [] h =
  gfI 0 5 h r0 fun v1 =>
  if i4 < v1 then
    am_rcv 0 h (Vr r0) (
    clI (Cl sc d mX0_quarrelOf [Vr r0, Vi i4] h) am_xt fun v4 h3 =>
    Ru sc (d + 1) mX0_passYears 34 [Vr r0, Vi i1, Vi (w32 (i2 + v4)), Vi i3, Vi (w32 (i4 + 1))] [] h3)
  else
    am_rcv 0 h (Vr r0) (
    clV (Cl sc d mX0_endYear [Vr r0] h) am_xt fun h2 =>
    Ru sc (d + 1) mX0_passYears 5 [Vr r0, Vi i1, Vi i2, Vi (w32 (i3 + 1)), Vi i4] [] h2) := (Ru_at at_X0_passYears 34 _ _ _).trans rfl
theorem at_X0_grow : am_at mX0_grow = (cd_X0_grow, [], 2) := rfl
set_option maxRecDepth 60000 in
theorem q_X0_grow_0 (sc : Nat × (Nat → Int)) (d : Nat) (r0 : Option Nat) (i1 : Int) (h : am_H) : Cl sc (d + 1) mX0_grow [Vr r0, Vi i1] h =
  gfP 0 0 h r0 fun p1 =>
  ldB h p1 i1 fun v2 =>
  if v2 = 0 then
    some (.inl (Vx 0), h)
  else
    gfP 0 2 h r0 fun p3 =>
    gfP 0 2 h r0 fun p4 =>
    ldA 1 h p4 i1 fun v5 =>
    am_rcv 0 h (Vr r0) (
    clI (Cl sc d mX0_growth [Vr r0, Vi i1] h) am_xt fun v7 h6 =>
    clI (Cl sc d mJ9_min_7cf53 [Vi 999, Vi (w32 (v5 + v7))] h6) am_xt fun v9 h8 =>
    clI (Cl sc d mJ9_max_7cf53 [Vi 0, Vi v9] h8) am_xt fun v11 h10 =>
    stA 1 h10 p3 i1 v11 fun h12 =>
    gfP 0 1 h12 r0 fun p13 =>
    gfP 0 1 h12 r0 fun p14 =>
    ldA 1 h12 p14 i1 fun v15 =>
    clI (Cl sc d mJ9_min_7cf53 [Vi 999, Vi (w32 (v15 + 1))] h12) am_xt fun v17 h16 =>
    stA 1 h16 p13 i1 v17 fun h18 =>
    some (.inl (Vx 0), h18)) := (Cl_at at_X0_grow rfl _).trans rfl
theorem at_X0_fret : am_at mX0_fret = (cd_X0_fret, [], 5) := rfl
set_option maxRecDepth 60000 in
theorem q_X0_fret_0 (sc : Nat × (Nat → Int)) (d : Nat) (r0 : Option Nat) (i1 : Int) (h : am_H) : Cl sc (d + 1) mX0_fret [Vr r0, Vi i1] h =
  Ru sc (d + 1) mX0_fret 5 [Vr r0, Vi i1, Vi 0, Vi 0, Vx 0] [] h := (Cl_at at_X0_fret rfl _).trans rfl
set_option maxRecDepth 60000 in
theorem q_X0_fret_5 (sc : Nat × (Nat → Int)) (d : Nat) (r0 : Option Nat) (i1 : Int) (i2 : Int) (i3 : Int) (u4 : am_V) (h : am_H) : Ru sc (d + 1) mX0_fret 5 [Vr r0, Vi i1, Vi i2, Vi i3, u4] [] h =
  if i3 < 4 then
    gfP 0 6 h r0 fun p7 =>
    ldA 1 h p7 i1 fun v8 =>
    clI (Cl sc d mX2_onSide [Vi v8, Vi i3] h) am_xt fun v10 h9 =>
    if v10 = (-1) then
      Ru sc (d + 1) mX0_fret 5 [Vr r0, Vi i1, Vi i2, Vi (w32 (i3 + 1)), Vi v10] [] h9
    else
      gfP 0 0 h9 r0 fun p11 =>
      ldB h9 p11 v10 fun v12 =>
      if v12 = 0 then
        Ru sc (d + 1) mX0_fret 5 [Vr r0, Vi i1, Vi i2, Vi (w32 (i3 + 1)), Vi v10] [] h9
      else
        am_rcv 0 h9 (Vr r0) (
        clI (Cl sc d mX0_soreness [Vr r0, Vi v10] h9) am_xt fun v14 h13 =>
        Ru sc (d + 1) mX0_fret 5 [Vr r0, Vi i1, Vi (w32 (i2 + v14)), Vi (w32 (i3 + 1)), Vi v10] [] h13)
  else
    gfP 0 9 h r0 fun p1 =>
    gfP 0 9 h r0 fun p2 =>
    ldA 1 h p2 i1 fun v3 =>
    clI (Cl sc d mJ9_min_7cf53 [Vi 99, Vi (w32 (v3 + i2))] h) am_xt fun v5 h4 =>
    stA 1 h4 p1 i1 v5 fun h6 =>
    some (.inl (Vx 0), h6) := (Ru_at at_X0_fret 5 _ _ _).trans rfl
theorem at_X0_quarrelOf : am_at mX0_quarrelOf = (cd_X0_quarrelOf, [], 3) := rfl
set_option maxRecDepth 60000 in
theorem q_X0_quarrelOf_0 (sc : Nat × (Nat → Int)) (d : Nat) (r0 : Option Nat) (i1 : Int) (h : am_H) : Cl sc (d + 1) mX0_quarrelOf [Vr r0, Vi i1] h =
  am_rcv 0 h (Vr r0) (
  clI (Cl sc d mX0_draw [Vr r0] h) am_xt fun v2 h1 =>
  if 100 = 0 then none else
  gfI 0 11 h1 r0 fun v3 =>
  gfP 0 9 h1 r0 fun p4 =>
  ldA 1 h1 p4 i1 fun v5 =>
  if (v2.tmod 100) < (w32 (v3 + v5)) then
    gfP 0 6 h1 r0 fun p6 =>
    ldA 1 h1 p6 i1 fun v7 =>
    am_rcv 0 h1 (Vr r0) (
    clI (Cl sc d mX0_draw [Vr r0] h1) am_xt fun v9 h8 =>
    if 4 = 0 then none else
    clI (Cl sc d mX2_onSide [Vi v7, Vi (v9.tmod 4)] h8) am_xt fun v11 h10 =>
    if v11 = (-1) then
      some (.inl (Vi 0), h10)
    else
      gfP 0 0 h10 r0 fun p12 =>
      ldB h10 p12 v11 fun v13 =>
      if v13 = 0 then
        am_rcv 0 h10 (Vr r0) (
        clV (Cl sc d mX0_put [Vr r0, Vi v11, Vi 0] h10) am_xt fun h14 =>
        gfP 0 15 h14 r0 fun p15 =>
        gfI 0 10 h14 r0 fun v16 =>
        am_rcv 5 h14 (Vr p15) (
        clV (Cl sc d mX5_add [Vr p15, Vi v16, Vi v11, Vi 0, Vi i1, Vi 0] h14) am_xt fun h17 =>
        some (.inl (Vi 1), h17)))
      else
        some (.inl (Vi 0), h10))
  else
    some (.inl (Vi 0), h1)) := (Cl_at at_X0_quarrelOf rfl _).trans rfl
theorem at_X0_draw : am_at mX0_draw = (cd_X0_draw, [], 1) := rfl
set_option maxRecDepth 60000 in
theorem q_X0_draw_0 (sc : Nat × (Nat → Int)) (d : Nat) (r0 : Option Nat) (h : am_H) : Cl sc (d + 1) mX0_draw [Vr r0] h =
  gfI 0 12 h r0 fun v1 =>
  pfI 0 0 12 h r0 (w32 ((w32 (1103515245 * v1)) + 12345)) fun h2 =>
  gfI 0 12 h2 r0 fun v3 =>
  some (.inl (Vi (bAnd (bUshr v3 16) 32767)), h2) := (Cl_at at_X0_draw rfl _).trans rfl
theorem at_X0_endYear : am_at mX0_endYear = (cd_X0_endYear, [], 1) := rfl
set_option maxRecDepth 60000 in
theorem q_X0_endYear_0 (sc : Nat × (Nat → Int)) (d : Nat) (r0 : Option Nat) (h : am_H) : Cl sc (d + 1) mX0_endYear [Vr r0] h =
  gfI 0 10 h r0 fun v1 =>
  clI (Cl sc d mJ9_min_7cf53 [Vi 9999, Vi (w32 (v1 + 1))] h) am_xt fun v3 h2 =>
  pfI 0 0 10 h2 r0 v3 fun h4 =>
  some (.inl (Vx 0), h4) := (Cl_at at_X0_endYear rfl _).trans rfl
theorem at_X0_tower : am_at mX0_tower = (cd_X0_tower, [], 5) := rfl
set_option maxRecDepth 60000 in
theorem q_X0_tower_0 (sc : Nat × (Nat → Int)) (d : Nat) (r0 : Option Nat) (i1 : Int) (h : am_H) : Cl sc (d + 1) mX0_tower [Vr r0, Vi i1] h =
  Ru sc (d + 1) mX0_tower 5 [Vr r0, Vi i1, Vi 0, Vi 0, Vx 0] [] h := (Cl_at at_X0_tower rfl _).trans rfl
set_option maxRecDepth 60000 in
theorem q_X0_tower_5 (sc : Nat × (Nat → Int)) (d : Nat) (r0 : Option Nat) (i1 : Int) (i2 : Int) (i3 : Int) (u4 : am_V) (h : am_H) : Ru sc (d + 1) mX0_tower 5 [Vr r0, Vi i1, Vi i2, Vi i3, u4] [] h =
  if i3 < 4 then
    clI (Cl sc d mX2_onSide [Vi i1, Vi i3] h) am_xt fun v2 h1 =>
    if v2 = (-1) then
      Ru sc (d + 1) mX0_tower 5 [Vr r0, Vi i1, Vi i2, Vi (w32 (i3 + 1)), Vi v2] [] h1
    else
      gfP 0 0 h1 r0 fun p3 =>
      ldB h1 p3 v2 fun v4 =>
      if v4 = 0 then
        Ru sc (d + 1) mX0_tower 5 [Vr r0, Vi i1, Vi i2, Vi (w32 (i3 + 1)), Vi v2] [] h1
      else
        gfP 0 2 h1 r0 fun p5 =>
        ldA 1 h1 p5 v2 fun v6 =>
        Ru sc (d + 1) mX0_tower 5 [Vr r0, Vi i1, Vi (w32 (i2 + v6)), Vi (w32 (i3 + 1)), Vi v2] [] h1
  else
    some (.inl (Vi i2), h) := (Ru_at at_X0_tower 5 _ _ _).trans rfl
theorem at_X0_fences : am_at mX0_fences = (cd_X0_fences, [], 3) := rfl
set_option maxRecDepth 60000 in
theorem q_X0_fences_0 (sc : Nat × (Nat → Int)) (d : Nat) (r0 : Option Nat) (h : am_H) : Cl sc (d + 1) mX0_fences [Vr r0] h =
  Ru sc (d + 1) mX0_fences 5 [Vr r0, Vi 0, Vi 0] [] h := (Cl_at at_X0_fences rfl _).trans rfl
set_option maxRecDepth 60000 in
theorem q_X0_fences_5 (sc : Nat × (Nat → Int)) (d : Nat) (r0 : Option Nat) (i1 : Int) (i2 : Int) (h : am_H) : Ru sc (d + 1) mX0_fences 5 [Vr r0, Vi i1, Vi i2] [] h =
  if i2 < 60 then
    gfP 0 0 h r0 fun p1 =>
    ldB h p1 i2 fun v2 =>
    if v2 = 0 then
      Ru sc (d + 1) mX0_fences 5 [Vr r0, Vi (w32 (i1 + 0)), Vi (w32 (i2 + 1))] [] h
    else
      Ru sc (d + 1) mX0_fences 5 [Vr r0, Vi (w32 (i1 + 1)), Vi (w32 (i2 + 1))] [] h
  else
    some (.inl (Vi i1), h) := (Ru_at at_X0_fences 5 _ _ _).trans rfl
theorem at_X0_gates : am_at mX0_gates = (cd_X0_gates, [], 3) := rfl
set_option maxRecDepth 60000 in
theorem q_X0_gates_0 (sc : Nat × (Nat → Int)) (d : Nat) (r0 : Option Nat) (h : am_H) : Cl sc (d + 1) mX0_gates [Vr r0] h =
  Ru sc (d + 1) mX0_gates 5 [Vr r0, Vi 0, Vi 0] [] h := (Cl_at at_X0_gates rfl _).trans rfl
set_option maxRecDepth 60000 in
theorem q_X0_gates_5 (sc : Nat × (Nat → Int)) (d : Nat) (r0 : Option Nat) (i1 : Int) (i2 : Int) (h : am_H) : Ru sc (d + 1) mX0_gates 5 [Vr r0, Vi i1, Vi i2] [] h =
  if i2 < 60 then
    gfP 0 0 h r0 fun p1 =>
    ldB h p1 i2 fun v2 =>
    if v2 = 0 then
      Ru sc (d + 1) mX0_gates 5 [Vr r0, Vi (w32 (i1 + 0)), Vi (w32 (i2 + 1))] [] h
    else
      gfP 0 3 h r0 fun p3 =>
      ldB h p3 i2 fun v4 =>
      if v4 = 0 then
        Ru sc (d + 1) mX0_gates 5 [Vr r0, Vi (w32 (i1 + 0)), Vi (w32 (i2 + 1))] [] h
      else
        Ru sc (d + 1) mX0_gates 5 [Vr r0, Vi (w32 (i1 + 1)), Vi (w32 (i2 + 1))] [] h
  else
    some (.inl (Vi i1), h) := (Ru_at at_X0_gates 5 _ _ _).trans rfl
theorem at_X0_strings : am_at mX0_strings = (cd_X0_strings, [], 3) := rfl
set_option maxRecDepth 60000 in
theorem q_X0_strings_0 (sc : Nat × (Nat → Int)) (d : Nat) (r0 : Option Nat) (h : am_H) : Cl sc (d + 1) mX0_strings [Vr r0] h =
  Ru sc (d + 1) mX0_strings 5 [Vr r0, Vi 0, Vi 0] [] h := (Cl_at at_X0_strings rfl _).trans rfl
set_option maxRecDepth 60000 in
theorem q_X0_strings_5 (sc : Nat × (Nat → Int)) (d : Nat) (r0 : Option Nat) (i1 : Int) (i2 : Int) (h : am_H) : Ru sc (d + 1) mX0_strings 5 [Vr r0, Vi i1, Vi i2] [] h =
  if i2 < 60 then
    gfP 0 0 h r0 fun p1 =>
    ldB h p1 i2 fun v2 =>
    if v2 = 0 then
      Ru sc (d + 1) mX0_strings 5 [Vr r0, Vi (w32 (i1 + 0)), Vi (w32 (i2 + 1))] [] h
    else
      gfP 0 4 h r0 fun p3 =>
      ldB h p3 i2 fun v4 =>
      if v4 = 0 then
        Ru sc (d + 1) mX0_strings 5 [Vr r0, Vi (w32 (i1 + 0)), Vi (w32 (i2 + 1))] [] h
      else
        Ru sc (d + 1) mX0_strings 5 [Vr r0, Vi (w32 (i1 + 1)), Vi (w32 (i2 + 1))] [] h
  else
    some (.inl (Vi i1), h) := (Ru_at at_X0_strings 5 _ _ _).trans rfl
theorem at_X0_highTogether : am_at mX0_highTogether = (cd_X0_highTogether, [], 3) := rfl
set_option maxRecDepth 60000 in
theorem q_X0_highTogether_0 (sc : Nat × (Nat → Int)) (d : Nat) (r0 : Option Nat) (h : am_H) : Cl sc (d + 1) mX0_highTogether [Vr r0] h =
  Ru sc (d + 1) mX0_highTogether 5 [Vr r0, Vi 0, Vi 0] [] h := (Cl_at at_X0_highTogether rfl _).trans rfl
set_option maxRecDepth 60000 in
theorem q_X0_highTogether_5 (sc : Nat × (Nat → Int)) (d : Nat) (r0 : Option Nat) (i1 : Int) (i2 : Int) (h : am_H) : Ru sc (d + 1) mX0_highTogether 5 [Vr r0, Vi i1, Vi i2] [] h =
  if i2 < 60 then
    gfP 0 0 h r0 fun p1 =>
    ldB h p1 i2 fun v2 =>
    if v2 = 0 then
      Ru sc (d + 1) mX0_highTogether 5 [Vr r0, Vi (w32 (i1 + 0)), Vi (w32 (i2 + 1))] [] h
    else
      gfP 0 2 h r0 fun p3 =>
      ldA 1 h p3 i2 fun v4 =>
      Ru sc (d + 1) mX0_highTogether 5 [Vr r0, Vi (w32 (i1 + v4)), Vi (w32 (i2 + 1))] [] h
  else
    some (.inl (Vi i1), h) := (Ru_at at_X0_highTogether 5 _ _ _).trans rfl
theorem at_X0_soreTogether : am_at mX0_soreTogether = (cd_X0_soreTogether, [], 3) := rfl
set_option maxRecDepth 60000 in
theorem q_X0_soreTogether_0 (sc : Nat × (Nat → Int)) (d : Nat) (r0 : Option Nat) (h : am_H) : Cl sc (d + 1) mX0_soreTogether [Vr r0] h =
  Ru sc (d + 1) mX0_soreTogether 5 [Vr r0, Vi 0, Vi 0] [] h := (Cl_at at_X0_soreTogether rfl _).trans rfl
set_option maxRecDepth 60000 in
theorem q_X0_soreTogether_5 (sc : Nat × (Nat → Int)) (d : Nat) (r0 : Option Nat) (i1 : Int) (i2 : Int) (h : am_H) : Ru sc (d + 1) mX0_soreTogether 5 [Vr r0, Vi i1, Vi i2] [] h =
  gfI 0 5 h r0 fun v1 =>
  if i2 < v1 then
    gfP 0 9 h r0 fun p2 =>
    ldA 1 h p2 i2 fun v3 =>
    Ru sc (d + 1) mX0_soreTogether 5 [Vr r0, Vi (w32 (i1 + v3)), Vi (w32 (i2 + 1))] [] h
  else
    some (.inl (Vi i1), h) := (Ru_at at_X0_soreTogether 5 _ _ _).trans rfl
theorem at_X1_init : am_at mX1_init = (cd_X1_init, [], 2) := rfl
set_option maxRecDepth 60000 in
theorem q_X1_init_0 (sc : Nat × (Nat → Int)) (d : Nat) (a0 : Nat) (r1 : Option Nat) (h : am_H) : Cl sc (d + 1) mX1_init [Vr (some a0), Vr r1] h =
  pfP 1 0 h (some a0) r1 fun h1 =>
  some (.inl (Vx 0), h1) := (Cl_at at_X1_init rfl _).trans rfl
theorem at_X1_reads : am_at mX1_reads = (cd_X1_reads, [], 3) := rfl
set_option maxRecDepth 60000 in
theorem q_X1_reads_0 (sc : Nat × (Nat → Int)) (d : Nat) (r0 : Option Nat) (r1 : Option Nat) (h : am_H) : Cl sc (d + 1) mX1_reads [Vr r0, Vr r1] h =
  gfP 1 0 h r0 fun p1 =>
  am_rcv 10 h (Vr p1) (
  clV (Cl sc d mX10_startText [Vr p1] h) am_xt fun h2 =>
  gfP 1 0 h2 r0 fun p3 =>
  am_rcv 10 h2 (Vr p3) (
  clI (Cl sc d mX10_isAtEnd [Vr p3] h2) am_xt fun v5 h4 =>
  if v5 = 0 then
    Ru sc (d + 1) mX1_reads 12 [Vr r0, Vr r1, Vi 0] [] h4
  else
    some (.inl (Vi 1), h4))) := (Cl_at at_X1_reads rfl _).trans rfl
set_option maxRecDepth 60000 in
theorem q_X1_reads_12 (sc : Nat × (Nat → Int)) (d : Nat) (r0 : Option Nat) (r1 : Option Nat) (i2 : Int) (h : am_H) : Ru sc (d + 1) mX1_reads 12 [Vr r0, Vr r1, Vi i2] [] h =
  if i2 < 14 then
    am_rcv 1 h (Vr r0) (
    clI (Cl sc d mX1_readsLine [Vr r0, Vr r1] h) am_xt fun v5 h4 =>
    if v5 = 0 then
      some (.inl (Vi 0), h4)
    else
      gfP 1 0 h4 r0 fun p6 =>
      am_rcv 10 h4 (Vr p6) (
      clI (Cl sc d mX10_isAtEnd [Vr p6] h4) am_xt fun v8 h7 =>
      if v8 = 0 then
        gfP 1 0 h7 r0 fun p9 =>
        am_rcv 10 h7 (Vr p9) (
        clI (Cl sc d mX10_takes [Vr p9, Vi (-3)] h7) am_xt fun v11 h10 =>
        if v11 = 0 then
          gfP 1 0 h10 r0 fun p12 =>
          am_rcv 10 h10 (Vr p12) (
          clI (Cl sc d mX10_refuses [Vr p12] h10) am_xt fun v14 h13 =>
          am_ret 1 v14 h13)
        else
          Ru sc (d + 1) mX1_reads 12 [Vr r0, Vr r1, Vi (w32 (i2 + 1))] [] h10)
      else
        some (.inl (Vi 1), h7)))
  else
    gfP 1 0 h r0 fun p1 =>
    am_rcv 10 h (Vr p1) (
    clI (Cl sc d mX10_refuses [Vr p1] h) am_xt fun v3 h2 =>
    am_ret 1 v3 h2) := (Ru_at at_X1_reads 12 _ _ _).trans rfl
theorem at_X1_readsLine : am_at mX1_readsLine = (cd_X1_readsLine, [], 2) := rfl
set_option maxRecDepth 60000 in
theorem q_X1_readsLine_0 (sc : Nat × (Nat → Int)) (d : Nat) (r0 : Option Nat) (r1 : Option Nat) (h : am_H) : Cl sc (d + 1) mX1_readsLine [Vr r0, Vr r1] h =
  gfP 1 0 h r0 fun p1 =>
  am_rcv 10 h (Vr p1) (
  clI (Cl sc d mX10_takes [Vr p1, Vi (-6)] h) am_xt fun v3 h2 =>
  if v3 = 0 then
    gfP 1 0 h2 r0 fun p4 =>
    am_rcv 10 h2 (Vr p4) (
    clI (Cl sc d mX10_takes [Vr p4, Vi (-7)] h2) am_xt fun v6 h5 =>
    if v6 = 0 then
      gfI 0 5 h5 r1 fun v7 =>
      if v7 < 6 then
        gfP 1 0 h5 r0 fun p8 =>
        am_rcv 10 h5 (Vr p8) (
        clI (Cl sc d mX10_takes [Vr p8, Vi (-8)] h5) am_xt fun v10 h9 =>
        if v10 = 0 then
          Ru sc (d + 1) mX1_readsLine 31 [Vr r0, Vr r1] [] h9
        else
          am_rcv 1 h9 (Vr r0) (
          clI (Cl sc d mX1_readsFamily [Vr r0, Vr r1] h9) am_xt fun v12 h11 =>
          am_ret 1 v12 h11))
      else
        Ru sc (d + 1) mX1_readsLine 31 [Vr r0, Vr r1] [] h5
    else
      am_rcv 1 h5 (Vr r0) (
      clI (Cl sc d mX1_readsRow [Vr r0, Vr r1] h5) am_xt fun v14 h13 =>
      am_ret 1 v14 h13))
  else
    am_rcv 1 h2 (Vr r0) (
    clI (Cl sc d mX1_readsFence [Vr r0, Vr r1] h2) am_xt fun v16 h15 =>
    am_ret 1 v16 h15)) := (Cl_at at_X1_readsLine rfl _).trans rfl
set_option maxRecDepth 60000 in
theorem q_X1_readsLine_31 (sc : Nat × (Nat → Int)) (d : Nat) (r0 : Option Nat) (r1 : Option Nat) (h : am_H) : Ru sc (d + 1) mX1_readsLine 31 [Vr r0, Vr r1] [] h =
  gfP 1 0 h r0 fun p1 =>
  am_rcv 10 h (Vr p1) (
  clI (Cl sc d mX10_takes [Vr p1, Vi (-9)] h) am_xt fun v3 h2 =>
  if v3 = 0 then
    gfP 1 0 h2 r0 fun p4 =>
    am_rcv 10 h2 (Vr p4) (
    clI (Cl sc d mX10_takes [Vr p4, Vi (-22)] h2) am_xt fun v6 h5 =>
    if v6 = 0 then
      gfP 1 0 h5 r0 fun p7 =>
      am_rcv 10 h5 (Vr p7) (
      clI (Cl sc d mX10_refuses [Vr p7] h5) am_xt fun v9 h8 =>
      am_ret 1 v9 h8)
    else
      gfP 1 0 h5 r0 fun p10 =>
      am_rcv 10 h5 (Vr p10) (
      clI (Cl sc d mX10_takesNumber [Vr p10, Vi 999] h5) am_xt fun v12 h11 =>
      if v12 = 0 then
        gfP 1 0 h11 r0 fun p16 =>
        am_rcv 10 h11 (Vr p16) (
        clI (Cl sc d mX10_refuses [Vr p16] h11) am_xt fun v18 h17 =>
        am_ret 1 v18 h17)
      else
        gfP 1 0 h11 r0 fun p13 =>
        gfI 10 6 h11 p13 fun v14 =>
        pfI 0 0 10 h11 r1 v14 fun h15 =>
        some (.inl (Vi 1), h15)))
  else
    gfP 1 0 h2 r0 fun p19 =>
    am_rcv 10 h2 (Vr p19) (
    clI (Cl sc d mX10_takesNumber [Vr p19, Vi 100] h2) am_xt fun v21 h20 =>
    if v21 = 0 then
      gfP 1 0 h20 r0 fun p25 =>
      am_rcv 10 h20 (Vr p25) (
      clI (Cl sc d mX10_refuses [Vr p25] h20) am_xt fun v27 h26 =>
      am_ret 1 v27 h26)
    else
      gfP 1 0 h20 r0 fun p22 =>
      gfI 10 6 h20 p22 fun v23 =>
      pfI 0 0 11 h20 r1 v23 fun h24 =>
      some (.inl (Vi 1), h24))) := (Ru_at at_X1_readsLine 31 _ _ _).trans rfl
theorem at_X1_readsFence : am_at mX1_readsFence = (cd_X1_readsFence, [], 3) := rfl
set_option maxRecDepth 60000 in
theorem q_X1_readsFence_0 (sc : Nat × (Nat → Int)) (d : Nat) (r0 : Option Nat) (r1 : Option Nat) (h : am_H) : Cl sc (d + 1) mX1_readsFence [Vr r0, Vr r1] h =
  gfP 1 0 h r0 fun p1 =>
  am_rcv 10 h (Vr p1) (
  clI (Cl sc d mX10_takesNumber [Vr p1, Vi 35] h) am_xt fun v3 h2 =>
  if v3 = 0 then
    gfP 1 0 h2 r0 fun p4 =>
    am_rcv 10 h2 (Vr p4) (
    clI (Cl sc d mX10_refuses [Vr p4] h2) am_xt fun v6 h5 =>
    am_ret 1 v6 h5)
  else
    gfP 1 0 h2 r0 fun p7 =>
    gfP 1 0 h2 r0 fun p8 =>
    gfI 10 6 h2 p8 fun v9 =>
    am_rcv 10 h2 (Vr p7) (
    clI (Cl sc d mX10_takesBorderFrom [Vr p7, Vi v9] h2) am_xt fun v11 h10 =>
    if v11 = 0 then
      gfP 1 0 h10 r0 fun p28 =>
      am_rcv 10 h10 (Vr p28) (
      clI (Cl sc d mX10_refuses [Vr p28] h10) am_xt fun v30 h29 =>
      am_ret 1 v30 h29)
    else
      gfP 1 0 h10 r0 fun p12 =>
      gfI 10 6 h10 p12 fun v13 =>
      am_rcv 0 h10 (Vr r1) (
      clV (Cl sc d mX0_put [Vr r1, Vi v13, Vi 0] h10) am_xt fun h14 =>
      gfP 1 0 h14 r0 fun p15 =>
      am_rcv 10 h14 (Vr p15) (
      clI (Cl sc d mX10_takes [Vr p15, Vi (-18)] h14) am_xt fun v17 h16 =>
      if v17 = 0 then
        Ru sc (d + 1) mX1_readsFence 46 [Vr r0, Vr r1, Vi v13] [] h16
      else
        gfP 1 0 h16 r0 fun p18 =>
        am_rcv 10 h16 (Vr p18) (
        clI (Cl sc d mX10_takesNumber [Vr p18, Vi 999] h16) am_xt fun v20 h19 =>
        if v20 = 0 then
          gfP 1 0 h19 r0 fun p25 =>
          am_rcv 10 h19 (Vr p25) (
          clI (Cl sc d mX10_refuses [Vr p25] h19) am_xt fun v27 h26 =>
          am_ret 1 v27 h26)
        else
          gfP 0 1 h19 r1 fun p21 =>
          gfP 1 0 h19 r0 fun p22 =>
          gfI 10 6 h19 p22 fun v23 =>
          stA 1 h19 p21 v13 v23 fun h24 =>
          Ru sc (d + 1) mX1_readsFence 46 [Vr r0, Vr r1, Vi v13] [] h24))))) := (Cl_at at_X1_readsFence rfl _).trans rfl
set_option maxRecDepth 60000 in
theorem q_X1_readsFence_46 (sc : Nat × (Nat → Int)) (d : Nat) (r0 : Option Nat) (r1 : Option Nat) (i2 : Int) (h : am_H) : Ru sc (d + 1) mX1_readsFence 46 [Vr r0, Vr r1, Vi i2] [] h =
  gfP 1 0 h r0 fun p1 =>
  am_rcv 10 h (Vr p1) (
  clI (Cl sc d mX10_takes [Vr p1, Vi (-19)] h) am_xt fun v3 h2 =>
  if v3 = 0 then
    Ru sc (d + 1) mX1_readsFence 68 [Vr r0, Vr r1, Vi i2] [] h2
  else
    gfP 1 0 h2 r0 fun p4 =>
    am_rcv 10 h2 (Vr p4) (
    clI (Cl sc d mX10_takesNumber [Vr p4, Vi 999] h2) am_xt fun v6 h5 =>
    if v6 = 0 then
      gfP 1 0 h5 r0 fun p11 =>
      am_rcv 10 h5 (Vr p11) (
      clI (Cl sc d mX10_refuses [Vr p11] h5) am_xt fun v13 h12 =>
      am_ret 1 v13 h12)
    else
      gfP 0 2 h5 r1 fun p7 =>
      gfP 1 0 h5 r0 fun p8 =>
      gfI 10 6 h5 p8 fun v9 =>
      stA 1 h5 p7 i2 v9 fun h10 =>
      Ru sc (d + 1) mX1_readsFence 68 [Vr r0, Vr r1, Vi i2] [] h10)) := (Ru_at at_X1_readsFence 46 _ _ _).trans rfl
set_option maxRecDepth 60000 in
theorem q_X1_readsFence_68 (sc : Nat × (Nat → Int)) (d : Nat) (r0 : Option Nat) (r1 : Option Nat) (i2 : Int) (h : am_H) : Ru sc (d + 1) mX1_readsFence 68 [Vr r0, Vr r1, Vi i2] [] h =
  gfP 0 3 h r1 fun p1 =>
  gfP 1 0 h r0 fun p2 =>
  am_rcv 10 h (Vr p2) (
  clI (Cl sc d mX10_takes [Vr p2, Vi (-23)] h) am_xt fun v4 h3 =>
  stB h3 p1 i2 v4 fun h5 =>
  gfP 0 4 h5 r1 fun p6 =>
  gfP 1 0 h5 r0 fun p7 =>
  am_rcv 10 h5 (Vr p7) (
  clI (Cl sc d mX10_takes [Vr p7, Vi (-24)] h5) am_xt fun v9 h8 =>
  stB h8 p6 i2 v9 fun h10 =>
  some (.inl (Vi 1), h10))) := (Ru_at at_X1_readsFence 68 _ _ _).trans rfl
theorem at_X1_readsRow : am_at mX1_readsRow = (cd_X1_readsRow, [], 4) := rfl
set_option maxRecDepth 60000 in
theorem q_X1_readsRow_0 (sc : Nat × (Nat → Int)) (d : Nat) (r0 : Option Nat) (r1 : Option Nat) (h : am_H) : Cl sc (d + 1) mX1_readsRow [Vr r0, Vr r1] h =
  gfP 1 0 h r0 fun p1 =>
  am_rcv 10 h (Vr p1) (
  clI (Cl sc d mX10_takesNumber [Vr p1, Vi 4] h) am_xt fun v3 h2 =>
  if v3 = 0 then
    gfP 1 0 h2 r0 fun p18 =>
    am_rcv 10 h2 (Vr p18) (
    clI (Cl sc d mX10_refuses [Vr p18] h2) am_xt fun v20 h19 =>
    am_ret 1 v20 h19)
  else
    gfP 1 0 h2 r0 fun p4 =>
    gfI 10 6 h2 p4 fun v5 =>
    gfP 1 0 h2 r0 fun p6 =>
    am_rcv 10 h2 (Vr p6) (
    clI (Cl sc d mX10_takes [Vr p6, Vi (-19)] h2) am_xt fun v8 h7 =>
    if v8 = 0 then
      gfP 1 0 h7 r0 fun p9 =>
      am_rcv 10 h7 (Vr p9) (
      clI (Cl sc d mX10_refuses [Vr p9] h7) am_xt fun v11 h10 =>
      am_ret 1 v11 h10)
    else
      gfP 1 0 h7 r0 fun p12 =>
      am_rcv 10 h7 (Vr p12) (
      clI (Cl sc d mX10_takesNumber [Vr p12, Vi 999] h7) am_xt fun v14 h13 =>
      if v14 = 0 then
        gfP 1 0 h13 r0 fun p15 =>
        am_rcv 10 h13 (Vr p15) (
        clI (Cl sc d mX10_refuses [Vr p15] h13) am_xt fun v17 h16 =>
        am_ret 1 v17 h16)
      else
        Ru sc (d + 1) mX1_readsRow 34 [Vr r0, Vr r1, Vi (w32 (30 + (w32 (6 * v5)))), Vi 0] [] h13))) := (Cl_at at_X1_readsRow rfl _).trans rfl
set_option maxRecDepth 60000 in
theorem q_X1_readsRow_34 (sc : Nat × (Nat → Int)) (d : Nat) (r0 : Option Nat) (r1 : Option Nat) (i2 : Int) (i3 : Int) (h : am_H) : Ru sc (d + 1) mX1_readsRow 34 [Vr r0, Vr r1, Vi i2, Vi i3] [] h =
  if i3 < 6 then
    gfP 1 0 h r0 fun p1 =>
    gfI 10 6 h p1 fun v2 =>
    am_rcv 0 h (Vr r1) (
    clV (Cl sc d mX0_put [Vr r1, Vi (w32 (i2 + i3)), Vi v2] h) am_xt fun h3 =>
    Ru sc (d + 1) mX1_readsRow 34 [Vr r0, Vr r1, Vi i2, Vi (w32 (i3 + 1))] [] h3)
  else
    some (.inl (Vi 1), h) := (Ru_at at_X1_readsRow 34 _ _ _).trans rfl
theorem at_X1_readsFamily : am_at mX1_readsFamily = (cd_X1_readsFamily, [], 3) := rfl
set_option maxRecDepth 60000 in
theorem q_X1_readsFamily_0 (sc : Nat × (Nat → Int)) (d : Nat) (r0 : Option Nat) (r1 : Option Nat) (h : am_H) : Cl sc (d + 1) mX1_readsFamily [Vr r0, Vr r1] h =
  gfI 0 5 h r1 fun v1 =>
  gfP 1 0 h r0 fun p2 =>
  am_rcv 10 h (Vr p2) (
  clI (Cl sc d mX10_takes [Vr p2, Vi (-10)] h) am_xt fun v4 h3 =>
  if v4 = 0 then
    gfP 1 0 h3 r0 fun p5 =>
    am_rcv 10 h3 (Vr p5) (
    clI (Cl sc d mX10_refuses [Vr p5] h3) am_xt fun v7 h6 =>
    am_ret 1 v7 h6)
  else
    gfP 1 0 h3 r0 fun p8 =>
    am_rcv 10 h3 (Vr p8) (
    clI (Cl sc d mX10_takesNumber [Vr p8, Vi 35] h3) am_xt fun v10 h9 =>
    if v10 = 0 then
      gfP 1 0 h9 r0 fun p52 =>
      am_rcv 10 h9 (Vr p52) (
      clI (Cl sc d mX10_refuses [Vr p52] h9) am_xt fun v54 h53 =>
      am_ret 1 v54 h53)
    else
      gfP 0 6 h9 r1 fun p11 =>
      gfP 1 0 h9 r0 fun p12 =>
      gfI 10 6 h9 p12 fun v13 =>
      stA 1 h9 p11 v1 v13 fun h14 =>
      gfP 1 0 h14 r0 fun p15 =>
      am_rcv 10 h14 (Vr p15) (
      clI (Cl sc d mX10_takes [Vr p15, Vi (-11)] h14) am_xt fun v17 h16 =>
      if v17 = 0 then
        gfP 1 0 h16 r0 fun p18 =>
        am_rcv 10 h16 (Vr p18) (
        clI (Cl sc d mX10_refuses [Vr p18] h16) am_xt fun v20 h19 =>
        am_ret 1 v20 h19)
      else
        gfP 1 0 h16 r0 fun p21 =>
        am_rcv 10 h16 (Vr p21) (
        clI (Cl sc d mX10_takesNumber [Vr p21, Vi 999] h16) am_xt fun v23 h22 =>
        if v23 = 0 then
          gfP 1 0 h22 r0 fun p49 =>
          am_rcv 10 h22 (Vr p49) (
          clI (Cl sc d mX10_refuses [Vr p49] h22) am_xt fun v51 h50 =>
          am_ret 1 v51 h50)
        else
          gfP 0 7 h22 r1 fun p24 =>
          gfP 1 0 h22 r0 fun p25 =>
          gfI 10 6 h22 p25 fun v26 =>
          stA 1 h22 p24 v1 v26 fun h27 =>
          gfP 0 8 h27 r1 fun p28 =>
          stA 1 h27 p28 v1 60 fun h29 =>
          gfP 1 0 h29 r0 fun p30 =>
          am_rcv 10 h29 (Vr p30) (
          clI (Cl sc d mX10_takes [Vr p30, Vi (-12)] h29) am_xt fun v32 h31 =>
          if v32 = 0 then
            gfP 0 9 h31 r1 fun p33 =>
            stA 1 h31 p33 v1 0 fun h34 =>
            pfI 0 0 5 h34 r1 (w32 (v1 + 1)) fun h35 =>
            some (.inl (Vi 1), h35)
          else
            gfP 1 0 h31 r0 fun p36 =>
            am_rcv 10 h31 (Vr p36) (
            clI (Cl sc d mX10_takesNumber [Vr p36, Vi 999] h31) am_xt fun v38 h37 =>
            if v38 = 0 then
              gfP 1 0 h37 r0 fun p46 =>
              am_rcv 10 h37 (Vr p46) (
              clI (Cl sc d mX10_refuses [Vr p46] h37) am_xt fun v48 h47 =>
              am_ret 1 v48 h47)
            else
              gfP 0 8 h37 r1 fun p39 =>
              gfP 1 0 h37 r0 fun p40 =>
              gfI 10 6 h37 p40 fun v41 =>
              stA 1 h37 p39 v1 v41 fun h42 =>
              gfP 0 9 h42 r1 fun p43 =>
              stA 1 h42 p43 v1 0 fun h44 =>
              pfI 0 0 5 h44 r1 (w32 (v1 + 1)) fun h45 =>
              some (.inl (Vi 1), h45))))))) := (Cl_at at_X1_readsFamily rfl _).trans rfl
theorem at_X2_lessCell : am_at mX2_lessCell = (cd_X2_lessCell, [], 1) := rfl
set_option maxRecDepth 60000 in
theorem q_X2_lessCell_0 (sc : Nat × (Nat → Int)) (d : Nat) (i0 : Int) (h : am_H) : Cl sc (d + 1) mX2_lessCell [Vi i0] h =
  if i0 < 30 then
    if 5 = 0 then none else
    if 5 = 0 then none else
    some (.inl (Vi (w32 ((w32 ((w32 (i0.tdiv 5)) * 6)) + (i0.tmod 5)))), h)
  else
    some (.inl (Vi (w32 (i0 - 30))), h) := (Cl_at at_X2_lessCell rfl _).trans rfl
theorem at_X2_moreCell : am_at mX2_moreCell = (cd_X2_moreCell, [], 1) := rfl
set_option maxRecDepth 60000 in
theorem q_X2_moreCell_0 (sc : Nat × (Nat → Int)) (d : Nat) (i0 : Int) (h : am_H) : Cl sc (d + 1) mX2_moreCell [Vi i0] h =
  if i0 < 30 then
    if 5 = 0 then none else
    if 5 = 0 then none else
    some (.inl (Vi (w32 ((w32 ((w32 ((w32 (i0.tdiv 5)) * 6)) + (i0.tmod 5))) + 1))), h)
  else
    some (.inl (Vi (w32 ((w32 (i0 - 30)) + 6))), h) := (Cl_at at_X2_moreCell rfl _).trans rfl
theorem at_X2_lessCorner : am_at mX2_lessCorner = (cd_X2_lessCorner, [], 2) := rfl
set_option maxRecDepth 60000 in
theorem q_X2_lessCorner_0 (sc : Nat × (Nat → Int)) (d : Nat) (i0 : Int) (h : am_H) : Cl sc (d + 1) mX2_lessCorner [Vi i0] h =
  if i0 < 30 then
    if 5 = 0 then none else
    if 5 = 0 then none else
    some (.inl (Vi (w32 ((w32 ((w32 ((w32 (i0.tdiv 5)) * 7)) + (i0.tmod 5))) + 1))), h)
  else
    if 6 = 0 then none else
    if 6 = 0 then none else
    some (.inl (Vi (w32 ((w32 ((w32 ((w32 ((w32 (i0 - 30)).tdiv 6)) + 1)) * 7)) + ((w32 (i0 - 30)).tmod 6)))), h) := (Cl_at at_X2_lessCorner rfl _).trans rfl
theorem at_X2_moreCorner : am_at mX2_moreCorner = (cd_X2_moreCorner, [], 1) := rfl
set_option maxRecDepth 60000 in
theorem q_X2_moreCorner_0 (sc : Nat × (Nat → Int)) (d : Nat) (i0 : Int) (h : am_H) : Cl sc (d + 1) mX2_moreCorner [Vi i0] h =
  clI (Cl sc d mX2_lessCorner [Vi i0] h) am_xt fun v2 h1 =>
  if i0 < 30 then
    some (.inl (Vi (w32 (v2 + 7))), h1)
  else
    some (.inl (Vi (w32 (v2 + 1))), h1) := (Cl_at at_X2_moreCorner rfl _).trans rfl
theorem at_X2_onSide : am_at mX2_onSide = (cd_X2_onSide, [], 4) := rfl
set_option maxRecDepth 60000 in
theorem q_X2_onSide_0 (sc : Nat × (Nat → Int)) (d : Nat) (i0 : Int) (i1 : Int) (h : am_H) : Cl sc (d + 1) mX2_onSide [Vi i0, Vi i1] h =
  if 6 = 0 then none else
  if 6 = 0 then none else
  if i1 = 0 then
    if 0 < (i0.tmod 6) then
      some (.inl (Vi (w32 ((w32 ((w32 (5 * (w32 (i0.tdiv 6)))) + (i0.tmod 6))) - 1))), h)
    else
      some (.inl (Vi (-1)), h)
  else if i1 = 1 then
    if (i0.tmod 6) < 5 then
      some (.inl (Vi (w32 ((w32 (5 * (w32 (i0.tdiv 6)))) + (i0.tmod 6)))), h)
    else
      some (.inl (Vi (-1)), h)
  else if i1 = 2 then
    if 0 < (w32 (i0.tdiv 6)) then
      some (.inl (Vi (w32 ((w32 (30 + (w32 (6 * (w32 ((w32 (i0.tdiv 6)) - 1)))))) + (i0.tmod 6)))), h)
    else
      some (.inl (Vi (-1)), h)
  else if i1 = 3 then
    if (w32 (i0.tdiv 6)) < 5 then
      some (.inl (Vi (w32 ((w32 (30 + (w32 (6 * (w32 (i0.tdiv 6)))))) + (i0.tmod 6)))), h)
    else
      some (.inl (Vi (-1)), h)
  else some (.inl (Vi (-1)), h) := (Cl_at at_X2_onSide rfl _).trans rfl
theorem at_X2_across : am_at mX2_across = (cd_X2_across, [], 2) := rfl
set_option maxRecDepth 60000 in
theorem q_X2_across_0 (sc : Nat × (Nat → Int)) (d : Nat) (i0 : Int) (i1 : Int) (h : am_H) : Cl sc (d + 1) mX2_across [Vi i0, Vi i1] h =
  clI (Cl sc d mX2_lessCell [Vi i1] h) am_xt fun v2 h1 =>
  clI (Cl sc d mX2_moreCell [Vi i1] h1) am_xt fun v4 h3 =>
  some (.inl (Vi (w32 ((w32 (v2 + v4)) - i0))), h3) := (Cl_at at_X2_across rfl _).trans rfl
theorem at_X2_borderOf : am_at mX2_borderOf = (cd_X2_borderOf, [], 5) := rfl
set_option maxRecDepth 60000 in
theorem q_X2_borderOf_0 (sc : Nat × (Nat → Int)) (d : Nat) (i0 : Int) (i1 : Int) (h : am_H) : Cl sc (d + 1) mX2_borderOf [Vi i0, Vi i1] h =
  clI (Cl sc d mJ9_min_7cf53 [Vi i0, Vi i1] h) am_xt fun v2 h1 =>
  clI (Cl sc d mJ9_max_7cf53 [Vi i0, Vi i1] h1) am_xt fun v4 h3 =>
  if (w32 (v4 - v2)) = 6 then
    some (.inl (Vi (w32 (30 + v2))), h3)
  else
    if (w32 (v4 - v2)) = 1 then
      if 6 = 0 then none else
      if 6 = 0 then none else
      if (w32 (v2.tdiv 6)) = (w32 (v4.tdiv 6)) then
        Ru sc (d + 1) mX2_borderOf 33 [Vi i0, Vi i1, Vi v2, Vi v4, Vx 0] [Vi 1] h3
      else
        Ru sc (d + 1) mX2_borderOf 33 [Vi i0, Vi i1, Vi v2, Vi v4, Vx 0] [Vi 0] h3
    else
      Ru sc (d + 1) mX2_borderOf 33 [Vi i0, Vi i1, Vi v2, Vi v4, Vx 0] [Vi 0] h3 := (Cl_at at_X2_borderOf rfl _).trans rfl
set_option maxRecDepth 60000 in
theorem q_X2_borderOf_33 (sc : Nat × (Nat → Int)) (d : Nat) (i0 : Int) (i1 : Int) (i2 : Int) (i3 : Int) (u4 : am_V) (ti0 : Int) (h : am_H) : Ru sc (d + 1) mX2_borderOf 33 [Vi i0, Vi i1, Vi i2, Vi i3, u4] [Vi ti0] h =
  if ti0 = 0 then
    some (.inl (Vi (-1)), h)
  else
    if 6 = 0 then none else
    if 6 = 0 then none else
    some (.inl (Vi (w32 ((w32 ((w32 (i2.tdiv 6)) * 5)) + (i2.tmod 6)))), h) := (Ru_at at_X2_borderOf 33 _ _ _).trans rfl
theorem at_X2_towards : am_at mX2_towards = (cd_X2_towards, [], 2) := rfl
set_option maxRecDepth 60000 in
theorem q_X2_towards_0 (sc : Nat × (Nat → Int)) (d : Nat) (i0 : Int) (i1 : Int) (h : am_H) : Cl sc (d + 1) mX2_towards [Vi i0, Vi i1] h =
  if 6 = 0 then none else
  if 6 = 0 then none else
  if (w32 (i0.tdiv 6)) = (w32 (i1.tdiv 6)) then
    if i1 < i0 then
      some (.inl (Vi 0), h)
    else
      some (.inl (Vi 1), h)
  else
    if 6 = 0 then none else
    if 6 = 0 then none else
    if (i0.tmod 6) = (i1.tmod 6) then
      if i1 < i0 then
        some (.inl (Vi 2), h)
      else
        some (.inl (Vi 3), h)
    else
      some (.inl (Vi (-1)), h) := (Cl_at at_X2_towards rfl _).trans rfl
theorem at_X2_apart : am_at mX2_apart = (cd_X2_apart, [], 2) := rfl
set_option maxRecDepth 60000 in
theorem q_X2_apart_0 (sc : Nat × (Nat → Int)) (d : Nat) (i0 : Int) (i1 : Int) (h : am_H) : Cl sc (d + 1) mX2_apart [Vi i0, Vi i1] h =
  if 6 = 0 then none else
  if 6 = 0 then none else
  clI (Cl sc d mJ9_abs_0f7a4 [Vi (w32 ((i0.tmod 6) - (i1.tmod 6)))] h) am_xt fun v2 h1 =>
  if 6 = 0 then none else
  if 6 = 0 then none else
  clI (Cl sc d mJ9_abs_0f7a4 [Vi (w32 ((w32 (i0.tdiv 6)) - (w32 (i1.tdiv 6))))] h1) am_xt fun v4 h3 =>
  some (.inl (Vi (w32 (v2 + v4))), h3) := (Cl_at at_X2_apart rfl _).trans rfl
theorem at_X3_init : am_at mX3_init = (cd_X3_init, [], 6) := rfl
set_option maxRecDepth 60000 in
theorem q_X3_init_0 (sc : Nat × (Nat → Int)) (d : Nat) (a0 : Nat) (i1 : Int) (r2 : Option Nat) (r3 : Option Nat) (r4 : Option Nat) (r5 : Option Nat) (h : am_H) : Cl sc (d + 1) mX3_init [Vr (some a0), Vi i1, Vr r2, Vr r3, Vr r4, Vr r5] h =
  newA 1 h 32 fun p1 h2 =>
  pfP 3 5 h2 (some a0) p1 fun h3 =>
  pfI 0 3 0 h3 (some a0) i1 fun h4 =>
  pfP 3 1 h4 (some a0) r2 fun h5 =>
  pfP 3 2 h5 (some a0) r3 fun h6 =>
  pfP 3 3 h6 (some a0) r4 fun h7 =>
  pfP 3 4 h7 (some a0) r5 fun h8 =>
  some (.inl (Vx 0), h8) := (Cl_at at_X3_init rfl _).trans rfl
theorem at_X3_total : am_at mX3_total = (cd_X3_total, [], 6) := rfl
set_option maxRecDepth 60000 in
theorem q_X3_total_0 (sc : Nat × (Nat → Int)) (d : Nat) (r0 : Option Nat) (i1 : Int) (r2 : Option Nat) (i3 : Int) (h : am_H) : Cl sc (d + 1) mX3_total [Vr r0, Vi i1, Vr r2, Vi i3] h =
  Ru sc (d + 1) mX3_total 5 [Vr r0, Vi i1, Vr r2, Vi i3, Vi 0, Vi 0] [] h := (Cl_at at_X3_total rfl _).trans rfl
set_option maxRecDepth 60000 in
theorem q_X3_total_5 (sc : Nat × (Nat → Int)) (d : Nat) (r0 : Option Nat) (i1 : Int) (r2 : Option Nat) (i3 : Int) (i4 : Int) (i5 : Int) (h : am_H) : Ru sc (d + 1) mX3_total 5 [Vr r0, Vi i1, Vr r2, Vi i3, Vi i4, Vi i5] [] h =
  gfI 3 0 h r0 fun v1 =>
  if i5 < v1 then
    gfP 3 1 h r0 fun p2 =>
    ldA 1 h p2 i5 fun v3 =>
    if v3 = i1 then
      am_rcv 3 h (Vr r0) (
      clI (Cl sc d mX3_holds [Vr r0, Vi i5, Vr r2, Vi i3] h) am_xt fun v5 h4 =>
      if v5 = 0 then
        Ru sc (d + 1) mX3_total 5 [Vr r0, Vi i1, Vr r2, Vi i3, Vi i4, Vi (w32 (i5 + 1))] [] h4
      else
        gfP 3 2 h4 r0 fun p6 =>
        ldA 1 h4 p6 i5 fun v7 =>
        Ru sc (d + 1) mX3_total 5 [Vr r0, Vi i1, Vr r2, Vi i3, Vi (w32 (i4 + v7)), Vi (w32 (i5 + 1))] [] h4)
    else
      Ru sc (d + 1) mX3_total 5 [Vr r0, Vi i1, Vr r2, Vi i3, Vi i4, Vi (w32 (i5 + 1))] [] h
  else
    some (.inl (Vi i4), h) := (Ru_at at_X3_total 5 _ _ _).trans rfl
theorem at_X3_holds : am_at mX3_holds = (cd_X3_holds, [], 8) := rfl
set_option maxRecDepth 60000 in
theorem q_X3_holds_0 (sc : Nat × (Nat → Int)) (d : Nat) (r0 : Option Nat) (i1 : Int) (r2 : Option Nat) (i3 : Int) (h : am_H) : Cl sc (d + 1) mX3_holds [Vr r0, Vi i1, Vr r2, Vi i3] h =
  clI (Cl sc d mX2_lessCell [Vi i3] h) am_xt fun v2 h1 =>
  gfP 3 3 h1 r0 fun p3 =>
  ldA 1 h1 p3 i1 fun v4 =>
  Ru sc (d + 1) mX3_holds 11 [Vr r0, Vi i1, Vr r2, Vi i3, Vi v2, Vi 0, Vi v4, Vx 0] [] h1 := (Cl_at at_X3_holds rfl _).trans rfl
set_option maxRecDepth 60000 in
theorem q_X3_holds_11 (sc : Nat × (Nat → Int)) (d : Nat) (r0 : Option Nat) (i1 : Int) (r2 : Option Nat) (i3 : Int) (i4 : Int) (i5 : Int) (i6 : Int) (u7 : am_V) (h : am_H) : Ru sc (d + 1) mX3_holds 11 [Vr r0, Vi i1, Vr r2, Vi i3, Vi i4, Vi i5, Vi i6, u7] [] h =
  gfP 3 3 h r0 fun p1 =>
  ldA 1 h p1 (w32 (i1 + 1)) fun v2 =>
  if i6 < v2 then
    gfP 3 4 h r0 fun p5 =>
    ldA 1 h p5 i6 fun v6 =>
    if (-27) < v6 then
      if v6 = (-26) then
        if i5 < 1 then
          some (.inl (Vi 0), h)
        else
          gfP 3 5 h r0 fun p12 =>
          gfP 3 5 h r0 fun p13 =>
          ldA 1 h p13 (w32 (i5 - 1)) fun v14 =>
          stA 1 h p12 (w32 (i5 - 1)) (w32 (1 - v14)) fun h15 =>
          Ru sc (d + 1) mX3_holds 11 [Vr r0, Vi i1, Vr r2, Vi i3, Vi i4, Vi i5, Vi (w32 (i6 + 1)), Vi v6] [] h15
      else
        if i5 < 32 then
          gfP 3 5 h r0 fun p7 =>
          if v6 < 0 then
            clI (Cl sc d mX3_fact [Vi v6, Vr r2, Vi i3, Vi i4] h) am_xt fun v9 h8 =>
            stA 1 h8 p7 i5 v9 fun h10 =>
            Ru sc (d + 1) mX3_holds 11 [Vr r0, Vi i1, Vr r2, Vi i3, Vi i4, Vi (w32 (i5 + 1)), Vi (w32 (i6 + 1)), Vi v6] [] h10
          else
            stA 1 h p7 i5 v6 fun h11 =>
            Ru sc (d + 1) mX3_holds 11 [Vr r0, Vi i1, Vr r2, Vi i3, Vi i4, Vi (w32 (i5 + 1)), Vi (w32 (i6 + 1)), Vi v6] [] h11
        else
          some (.inl (Vi 0), h)
    else
      if i5 < 2 then
        some (.inl (Vi 0), h)
      else
        gfP 3 5 h r0 fun p16 =>
        gfP 3 5 h r0 fun p17 =>
        ldA 1 h p17 (w32 ((w32 (i5 + (-1))) - 1)) fun v18 =>
        gfP 3 5 h r0 fun p19 =>
        ldA 1 h p19 (w32 (i5 + (-1))) fun v20 =>
        clI (Cl sc d mX3_ofTwo [Vi v6, Vi v18, Vi v20] h) am_xt fun v22 h21 =>
        stA 1 h21 p16 (w32 ((w32 (i5 + (-1))) - 1)) v22 fun h23 =>
        Ru sc (d + 1) mX3_holds 11 [Vr r0, Vi i1, Vr r2, Vi i3, Vi i4, Vi (w32 (i5 + (-1))), Vi (w32 (i6 + 1)), Vi v6] [] h23
  else
    if i5 = 0 then
      some (.inl (Vi 1), h)
    else
      gfP 3 5 h r0 fun p3 =>
      ldA 1 h p3 (w32 (i5 - 1)) fun v4 =>
      if v4 = 0 then
        some (.inl (Vi 0), h)
      else
        some (.inl (Vi 1), h) := (Ru_at at_X3_holds 11 _ _ _).trans rfl
theorem at_X3_ofTwo : am_at mX3_ofTwo = (cd_X3_ofTwo, [], 3) := rfl
set_option maxRecDepth 60000 in
theorem q_X3_ofTwo_0 (sc : Nat × (Nat → Int)) (d : Nat) (i0 : Int) (i1 : Int) (i2 : Int) (h : am_H) : Cl sc (d + 1) mX3_ofTwo [Vi i0, Vi i1, Vi i2] h =
  if i0 = (-30) then
    some (.inl (Vi (bAnd i1 i2)), h)
  else if i0 = (-29) then
    if i2 < i1 then
      some (.inl (Vi 1), h)
    else
      some (.inl (Vi 0), h)
  else if i0 = (-28) then
    if i1 < i2 then
      some (.inl (Vi 1), h)
    else
      some (.inl (Vi 0), h)
  else if i0 = (-27) then
    some (.inl (Vi (w32 (i1 + i2))), h)
  else some (.inl (Vi (bOr i1 i2)), h) := (Cl_at at_X3_ofTwo rfl _).trans rfl
theorem at_X3_fact : am_at mX3_fact = (cd_X3_fact, [], 4) := rfl
set_option maxRecDepth 60000 in
theorem q_X3_fact_0 (sc : Nat × (Nat → Int)) (d : Nat) (i0 : Int) (r1 : Option Nat) (i2 : Int) (i3 : Int) (h : am_H) : Cl sc (d + 1) mX3_fact [Vi i0, Vr r1, Vi i2, Vi i3] h =
  if i0 = (-24) then
    gfP 0 4 h r1 fun p1 =>
    ldB h p1 i2 fun v2 =>
    if v2 = 0 then
      some (.inl (Vi 0), h)
    else
      some (.inl (Vi 1), h)
  else if i0 = (-23) then
    gfP 0 3 h r1 fun p3 =>
    ldB h p3 i2 fun v4 =>
    if v4 = 0 then
      some (.inl (Vi 0), h)
    else
      some (.inl (Vi 1), h)
  else if i0 = (-22) then
    gfI 0 10 h r1 fun v5 =>
    if 100 = 0 then none else
    some (.inl (Vi (v5.tmod 100)), h)
  else if i0 = (-21) then
    if 6 = 0 then none else
    some (.inl (Vi (w32 (i3.tdiv 6))), h)
  else if i0 = (-20) then
    if 6 = 0 then none else
    some (.inl (Vi (i3.tmod 6)), h)
  else if i0 = (-19) then
    gfP 0 2 h r1 fun p6 =>
    ldA 1 h p6 i2 fun v7 =>
    some (.inl (Vi v7), h)
  else if i0 = (-18) then
    gfP 0 1 h r1 fun p8 =>
    ldA 1 h p8 i2 fun v9 =>
    some (.inl (Vi v9), h)
  else if i0 = (-17) then
    some (.inl (Vi i2), h)
  else if i2 < 30 then
    some (.inl (Vi 0), h)
  else
    some (.inl (Vi 1), h) := (Cl_at at_X3_fact rfl _).trans rfl
theorem at_X4_init : am_at mX4_init = (cd_X4_init, [], 2) := rfl
set_option maxRecDepth 60000 in
theorem q_X4_init_0 (sc : Nat × (Nat → Int)) (d : Nat) (a0 : Nat) (r1 : Option Nat) (h : am_H) : Cl sc (d + 1) mX4_init [Vr (some a0), Vr r1] h =
  newA 1 h 12 fun p1 h2 =>
  pfP 4 1 h2 (some a0) p1 fun h3 =>
  newA 1 h3 12 fun p4 h5 =>
  pfP 4 2 h5 (some a0) p4 fun h6 =>
  newA 1 h6 13 fun p7 h8 =>
  pfP 4 3 h8 (some a0) p7 fun h9 =>
  newA 1 h9 400 fun p10 h11 =>
  pfP 4 4 h11 (some a0) p10 fun h12 =>
  pfI 0 4 5 h12 (some a0) 0 fun h13 =>
  pfI 0 4 6 h13 (some a0) 0 fun h14 =>
  pfP 4 0 h14 (some a0) r1 fun h15 =>
  some (.inl (Vx 0), h15) := (Cl_at at_X4_init rfl _).trans rfl
theorem at_X4_made : am_at mX4_made = (cd_X4_made, [], 1) := rfl
set_option maxRecDepth 60000 in
theorem q_X4_made_0 (sc : Nat × (Nat → Int)) (d : Nat) (r0 : Option Nat) (h : am_H) : Cl sc (d + 1) mX4_made [Vr r0] h =
  gfI 4 5 (am_new h 0 3 6) r0 fun v1 =>
  gfP 4 1 (am_new h 0 3 6) r0 fun p2 =>
  gfI 4 5 (am_new h 0 3 6) r0 fun v3 =>
  clP (Cl sc d mJ7_copyOf_59c91 [Vr p2, Vi v3] (am_new h 0 3 6)) am_xt fun p5 h4 =>
  gfP 4 2 h4 r0 fun p6 =>
  gfI 4 5 h4 r0 fun v7 =>
  clP (Cl sc d mJ7_copyOf_59c91 [Vr p6, Vi v7] h4) am_xt fun p9 h8 =>
  gfP 4 3 h8 r0 fun p10 =>
  gfI 4 5 h8 r0 fun v11 =>
  clP (Cl sc d mJ7_copyOf_59c91 [Vr p10, Vi (w32 (v11 + 1))] h8) am_xt fun p13 h12 =>
  gfP 4 4 h12 r0 fun p14 =>
  gfI 4 6 h12 r0 fun v15 =>
  clP (Cl sc d mJ7_copyOf_59c91 [Vr p14, Vi v15] h12) am_xt fun p17 h16 =>
  am_rcv 3 h16 (Vr (some (hZ h))) (
  clV (Cl sc d mX3_init [Vr (some (hZ h)), Vi v1, Vr p5, Vr p9, Vr p13, Vr p17] h16) am_xn0 fun h18 =>
  retP h18 (some (hZ h))) := (Cl_at at_X4_made rfl _).trans rfl
theorem at_X4_reads : am_at mX4_reads = (cd_X4_reads, [], 2) := rfl
set_option maxRecDepth 60000 in
theorem q_X4_reads_0 (sc : Nat × (Nat → Int)) (d : Nat) (r0 : Option Nat) (h : am_H) : Cl sc (d + 1) mX4_reads [Vr r0] h =
  pfI 0 4 5 h r0 0 fun h1 =>
  pfI 0 4 6 h1 r0 0 fun h2 =>
  gfP 4 0 h2 r0 fun p3 =>
  am_rcv 10 h2 (Vr p3) (
  clV (Cl sc d mX10_startText [Vr p3] h2) am_xt fun h4 =>
  gfP 4 0 h4 r0 fun p5 =>
  am_rcv 10 h4 (Vr p5) (
  clI (Cl sc d mX10_isAtEnd [Vr p5] h4) am_xt fun v7 h6 =>
  if v7 = 0 then
    Ru sc (d + 1) mX4_reads 18 [Vr r0, Vi 0] [] h6
  else
    some (.inl (Vi 1), h6))) := (Cl_at at_X4_reads rfl _).trans rfl
set_option maxRecDepth 60000 in
theorem q_X4_reads_18 (sc : Nat × (Nat → Int)) (d : Nat) (r0 : Option Nat) (i1 : Int) (h : am_H) : Ru sc (d + 1) mX4_reads 18 [Vr r0, Vi i1] [] h =
  if i1 < 12 then
    am_rcv 4 h (Vr r0) (
    clI (Cl sc d mX4_readsLine [Vr r0, Vi i1] h) am_xt fun v5 h4 =>
    if v5 = 0 then
      some (.inl (Vi 0), h4)
    else
      pfI 0 4 5 h4 r0 (w32 (i1 + 1)) fun h6 =>
      gfP 4 3 h6 r0 fun p7 =>
      gfI 4 5 h6 r0 fun v8 =>
      gfI 4 6 h6 r0 fun v9 =>
      stA 1 h6 p7 v8 v9 fun h10 =>
      gfP 4 0 h10 r0 fun p11 =>
      am_rcv 10 h10 (Vr p11) (
      clI (Cl sc d mX10_isAtEnd [Vr p11] h10) am_xt fun v13 h12 =>
      if v13 = 0 then
        gfP 4 0 h12 r0 fun p14 =>
        am_rcv 10 h12 (Vr p14) (
        clI (Cl sc d mX10_takes [Vr p14, Vi (-3)] h12) am_xt fun v16 h15 =>
        if v16 = 0 then
          gfP 4 0 h15 r0 fun p17 =>
          am_rcv 10 h15 (Vr p17) (
          clI (Cl sc d mX10_refuses [Vr p17] h15) am_xt fun v19 h18 =>
          am_ret 1 v19 h18)
        else
          Ru sc (d + 1) mX4_reads 18 [Vr r0, Vi (w32 (i1 + 1))] [] h15)
      else
        some (.inl (Vi 1), h12)))
  else
    gfP 4 0 h r0 fun p1 =>
    am_rcv 10 h (Vr p1) (
    clI (Cl sc d mX10_refuses [Vr p1] h) am_xt fun v3 h2 =>
    am_ret 1 v3 h2) := (Ru_at at_X4_reads 18 _ _ _).trans rfl
theorem at_X4_readsLine : am_at mX4_readsLine = (cd_X4_readsLine, [], 2) := rfl
set_option maxRecDepth 60000 in
theorem q_X4_readsLine_0 (sc : Nat × (Nat → Int)) (d : Nat) (r0 : Option Nat) (i1 : Int) (h : am_H) : Cl sc (d + 1) mX4_readsLine [Vr r0, Vi i1] h =
  gfP 4 0 h r0 fun p1 =>
  am_rcv 10 h (Vr p1) (
  clI (Cl sc d mX10_takes [Vr p1, Vi (-13)] h) am_xt fun v3 h2 =>
  if v3 = 0 then
    gfP 4 0 h2 r0 fun p4 =>
    am_rcv 10 h2 (Vr p4) (
    clI (Cl sc d mX10_takes [Vr p4, Vi (-14)] h2) am_xt fun v6 h5 =>
    if v6 = 0 then
      gfP 4 0 h5 r0 fun p7 =>
      am_rcv 10 h5 (Vr p7) (
      clI (Cl sc d mX10_takes [Vr p7, Vi (-15)] h5) am_xt fun v9 h8 =>
      if v9 = 0 then
        gfP 4 0 h8 r0 fun p10 =>
        am_rcv 10 h8 (Vr p10) (
        clI (Cl sc d mX10_refuses [Vr p10] h8) am_xt fun v12 h11 =>
        am_ret 1 v12 h11)
      else
        gfP 4 1 h8 r0 fun p13 =>
        stA 1 h8 p13 i1 (-15) fun h14 =>
        Ru sc (d + 1) mX4_readsLine 37 [Vr r0, Vi i1] [] h14)
    else
      gfP 4 1 h5 r0 fun p15 =>
      stA 1 h5 p15 i1 (-14) fun h16 =>
      Ru sc (d + 1) mX4_readsLine 37 [Vr r0, Vi i1] [] h16)
  else
    gfP 4 1 h2 r0 fun p17 =>
    stA 1 h2 p17 i1 (-13) fun h18 =>
    Ru sc (d + 1) mX4_readsLine 37 [Vr r0, Vi i1] [] h18) := (Cl_at at_X4_readsLine rfl _).trans rfl
set_option maxRecDepth 60000 in
theorem q_X4_readsLine_37 (sc : Nat × (Nat → Int)) (d : Nat) (r0 : Option Nat) (i1 : Int) (h : am_H) : Ru sc (d + 1) mX4_readsLine 37 [Vr r0, Vi i1] [] h =
  gfP 4 0 h r0 fun p1 =>
  am_rcv 10 h (Vr p1) (
  clI (Cl sc d mX10_takesNumber [Vr p1, Vi 60] h) am_xt fun v3 h2 =>
  if v3 = 0 then
    gfP 4 0 h2 r0 fun p13 =>
    am_rcv 10 h2 (Vr p13) (
    clI (Cl sc d mX10_refuses [Vr p13] h2) am_xt fun v15 h14 =>
    am_ret 1 v15 h14)
  else
    gfP 4 2 h2 r0 fun p4 =>
    gfP 4 0 h2 r0 fun p5 =>
    gfI 10 6 h2 p5 fun v6 =>
    stA 1 h2 p4 i1 v6 fun h7 =>
    gfP 4 0 h7 r0 fun p8 =>
    am_rcv 10 h7 (Vr p8) (
    clI (Cl sc d mX10_takes [Vr p8, Vi (-16)] h7) am_xt fun v10 h9 =>
    if v10 = 0 then
      some (.inl (Vi 1), h9)
    else
      am_rcv 4 h9 (Vr r0) (
      clI (Cl sc d mX4_readsCondition [Vr r0, Vi 0] h9) am_xt fun v12 h11 =>
      if v12 = 0 then
        some (.inl (Vi 0), h11)
      else
        some (.inl (Vi 1), h11)))) := (Ru_at at_X4_readsLine 37 _ _ _).trans rfl
theorem at_X4_readsCondition : am_at mX4_readsCondition = (cd_X4_readsCondition, [], 4) := rfl
set_option maxRecDepth 60000 in
theorem q_X4_readsCondition_0 (sc : Nat × (Nat → Int)) (d : Nat) (r0 : Option Nat) (i1 : Int) (h : am_H) : Cl sc (d + 1) mX4_readsCondition [Vr r0, Vi i1] h =
  am_rcv 4 h (Vr r0) (
  clI (Cl sc d mX4_readsAtom [Vr r0, Vi i1] h) am_xt fun v2 h1 =>
  if v2 = 0 then
    some (.inl (Vi 0), h1)
  else
    Ru sc (d + 1) mX4_readsCondition 11 [Vr r0, Vi i1, Vi 0, Vi 0] [] h1) := (Cl_at at_X4_readsCondition rfl _).trans rfl
set_option maxRecDepth 60000 in
theorem q_X4_readsCondition_11 (sc : Nat × (Nat → Int)) (d : Nat) (r0 : Option Nat) (i1 : Int) (i2 : Int) (i3 : Int) (h : am_H) : Ru sc (d + 1) mX4_readsCondition 11 [Vr r0, Vi i1, Vi i2, Vi i3] [] h =
  if i3 < 400 then
    gfP 4 0 h r0 fun p2 =>
    am_rcv 10 h (Vr p2) (
    clI (Cl sc d mX10_takes [Vr p2, Vi (-30)] h) am_xt fun v4 h3 =>
    if v4 = 0 then
      gfP 4 0 h3 r0 fun p5 =>
      am_rcv 10 h3 (Vr p5) (
      clI (Cl sc d mX10_takes [Vr p5, Vi (-31)] h3) am_xt fun v7 h6 =>
      if v7 = 0 then
        if i2 = 0 then
          some (.inl (Vi 1), h6)
        else
          am_rcv 4 h6 (Vr r0) (
          clV (Cl sc d mX4_emit [Vr r0, Vi (-31)] h6) am_xt fun h8 =>
          some (.inl (Vi 1), h8))
      else
        if i2 = 0 then
          am_rcv 4 h6 (Vr r0) (
          clI (Cl sc d mX4_readsAtom [Vr r0, Vi i1] h6) am_xt fun v10 h9 =>
          if v10 = 0 then
            some (.inl (Vi 0), h9)
          else
            Ru sc (d + 1) mX4_readsCondition 11 [Vr r0, Vi i1, Vi 1, Vi (w32 (i3 + 1))] [] h9)
        else
          am_rcv 4 h6 (Vr r0) (
          clV (Cl sc d mX4_emit [Vr r0, Vi (-31)] h6) am_xt fun h11 =>
          am_rcv 4 h11 (Vr r0) (
          clI (Cl sc d mX4_readsAtom [Vr r0, Vi i1] h11) am_xt fun v13 h12 =>
          if v13 = 0 then
            some (.inl (Vi 0), h12)
          else
            Ru sc (d + 1) mX4_readsCondition 11 [Vr r0, Vi i1, Vi 1, Vi (w32 (i3 + 1))] [] h12)))
    else
      am_rcv 4 h3 (Vr r0) (
      clI (Cl sc d mX4_readsAtom [Vr r0, Vi i1] h3) am_xt fun v15 h14 =>
      if v15 = 0 then
        some (.inl (Vi 0), h14)
      else
        am_rcv 4 h14 (Vr r0) (
        clV (Cl sc d mX4_emit [Vr r0, Vi (-30)] h14) am_xt fun h16 =>
        Ru sc (d + 1) mX4_readsCondition 11 [Vr r0, Vi i1, Vi i2, Vi (w32 (i3 + 1))] [] h16)))
  else
    if i2 = 0 then
      some (.inl (Vi 1), h)
    else
      am_rcv 4 h (Vr r0) (
      clV (Cl sc d mX4_emit [Vr r0, Vi (-31)] h) am_xt fun h1 =>
      some (.inl (Vi 1), h1)) := (Ru_at at_X4_readsCondition 11 _ _ _).trans rfl
theorem at_X4_readsAtom : am_at mX4_readsAtom = (cd_X4_readsAtom, [], 3) := rfl
set_option maxRecDepth 60000 in
theorem q_X4_readsAtom_0 (sc : Nat × (Nat → Int)) (d : Nat) (r0 : Option Nat) (i1 : Int) (h : am_H) : Cl sc (d + 1) mX4_readsAtom [Vr r0, Vi i1] h =
  if i1 < 6 then
    gfP 4 0 h r0 fun p1 =>
    am_rcv 10 h (Vr p1) (
    clI (Cl sc d mX10_takes [Vr p1, Vi (-26)] h) am_xt fun v3 h2 =>
    if v3 = 0 then
      Ru sc (d + 1) mX4_readsAtom 21 [Vr r0, Vi i1, Vx 0] [] h2
    else
      am_rcv 4 h2 (Vr r0) (
      clI (Cl sc d mX4_readsAtom [Vr r0, Vi (w32 (i1 + 1))] h2) am_xt fun v5 h4 =>
      if v5 = 0 then
        some (.inl (Vi 0), h4)
      else
        am_rcv 4 h4 (Vr r0) (
        clV (Cl sc d mX4_emit [Vr r0, Vi (-26)] h4) am_xt fun h6 =>
        some (.inl (Vi 1), h6))))
  else
    Ru sc (d + 1) mX4_readsAtom 21 [Vr r0, Vi i1, Vx 0] [] h := (Cl_at at_X4_readsAtom rfl _).trans rfl
set_option maxRecDepth 60000 in
theorem q_X4_readsAtom_21 (sc : Nat × (Nat → Int)) (d : Nat) (r0 : Option Nat) (i1 : Int) (u2 : am_V) (h : am_H) : Ru sc (d + 1) mX4_readsAtom 21 [Vr r0, Vi i1, u2] [] h =
  if i1 < 6 then
    gfP 4 0 h r0 fun p1 =>
    am_rcv 10 h (Vr p1) (
    clI (Cl sc d mX10_takes [Vr p1, Vi (-4)] h) am_xt fun v3 h2 =>
    if v3 = 0 then
      Ru sc (d + 1) mX4_readsAtom 48 [Vr r0, Vi i1, u2] [] h2
    else
      am_rcv 4 h2 (Vr r0) (
      clI (Cl sc d mX4_readsCondition [Vr r0, Vi (w32 (i1 + 1))] h2) am_xt fun v5 h4 =>
      if v5 = 0 then
        some (.inl (Vi 0), h4)
      else
        gfP 4 0 h4 r0 fun p6 =>
        am_rcv 10 h4 (Vr p6) (
        clI (Cl sc d mX10_takes [Vr p6, Vi (-5)] h4) am_xt fun v8 h7 =>
        if v8 = 0 then
          gfP 4 0 h7 r0 fun p9 =>
          am_rcv 10 h7 (Vr p9) (
          clI (Cl sc d mX10_refuses [Vr p9] h7) am_xt fun v11 h10 =>
          if v11 = 0 then
            some (.inl (Vi 0), h10)
          else
            some (.inl (Vi 1), h10))
        else
          some (.inl (Vi 1), h7))))
  else
    Ru sc (d + 1) mX4_readsAtom 48 [Vr r0, Vi i1, u2] [] h := (Ru_at at_X4_readsAtom 21 _ _ _).trans rfl
set_option maxRecDepth 60000 in
theorem q_X4_readsAtom_48 (sc : Nat × (Nat → Int)) (d : Nat) (r0 : Option Nat) (i1 : Int) (u2 : am_V) (h : am_H) : Ru sc (d + 1) mX4_readsAtom 48 [Vr r0, Vi i1, u2] [] h =
  gfP 4 0 h r0 fun p1 =>
  am_rcv 10 h (Vr p1) (
  clI (Cl sc d mX10_thing [Vr p1] h) am_xt fun v3 h2 =>
  if (-23) < v3 then
    am_rcv 4 h2 (Vr r0) (
    clI (Cl sc d mX4_readsComparison [Vr r0] h2) am_xt fun v5 h4 =>
    am_ret 1 v5 h4)
  else
    if v3 < (-25) then
      am_rcv 4 h2 (Vr r0) (
      clI (Cl sc d mX4_readsComparison [Vr r0] h2) am_xt fun v7 h6 =>
      am_ret 1 v7 h6)
    else
      am_rcv 4 h2 (Vr r0) (
      clV (Cl sc d mX4_emit [Vr r0, Vi v3] h2) am_xt fun h8 =>
      gfP 4 0 h8 r0 fun p9 =>
      am_rcv 10 h8 (Vr p9) (
      clV (Cl sc d mX10_next [Vr p9] h8) am_xt fun h10 =>
      some (.inl (Vi 1), h10)))) := (Ru_at at_X4_readsAtom 48 _ _ _).trans rfl
theorem at_X4_readsComparison : am_at mX4_readsComparison = (cd_X4_readsComparison, [], 2) := rfl
set_option maxRecDepth 60000 in
theorem q_X4_readsComparison_0 (sc : Nat × (Nat → Int)) (d : Nat) (r0 : Option Nat) (h : am_H) : Cl sc (d + 1) mX4_readsComparison [Vr r0] h =
  am_rcv 4 h (Vr r0) (
  clI (Cl sc d mX4_readsSum [Vr r0] h) am_xt fun v2 h1 =>
  if v2 = 0 then
    some (.inl (Vi 0), h1)
  else
    gfP 4 0 h1 r0 fun p3 =>
    am_rcv 10 h1 (Vr p3) (
    clI (Cl sc d mX10_takes [Vr p3, Vi (-28)] h1) am_xt fun v5 h4 =>
    if v5 = 0 then
      gfP 4 0 h4 r0 fun p6 =>
      am_rcv 10 h4 (Vr p6) (
      clI (Cl sc d mX10_takes [Vr p6, Vi (-29)] h4) am_xt fun v8 h7 =>
      if v8 = 0 then
        gfP 4 0 h7 r0 fun p9 =>
        am_rcv 10 h7 (Vr p9) (
        clI (Cl sc d mX10_refuses [Vr p9] h7) am_xt fun v11 h10 =>
        am_ret 1 v11 h10)
      else
        Ru sc (d + 1) mX4_readsComparison 21 [Vr r0, Vi v5] [] h7)
    else
      Ru sc (d + 1) mX4_readsComparison 21 [Vr r0, Vi v5] [] h4)) := (Cl_at at_X4_readsComparison rfl _).trans rfl
set_option maxRecDepth 60000 in
theorem q_X4_readsComparison_21 (sc : Nat × (Nat → Int)) (d : Nat) (r0 : Option Nat) (i1 : Int) (h : am_H) : Ru sc (d + 1) mX4_readsComparison 21 [Vr r0, Vi i1] [] h =
  am_rcv 4 h (Vr r0) (
  clI (Cl sc d mX4_readsSum [Vr r0] h) am_xt fun v2 h1 =>
  if v2 = 0 then
    some (.inl (Vi 0), h1)
  else
    if i1 = 0 then
      am_rcv 4 h1 (Vr r0) (
      clV (Cl sc d mX4_emit [Vr r0, Vi (-29)] h1) am_xt fun h3 =>
      some (.inl (Vi 1), h3))
    else
      am_rcv 4 h1 (Vr r0) (
      clV (Cl sc d mX4_emit [Vr r0, Vi (-28)] h1) am_xt fun h4 =>
      some (.inl (Vi 1), h4))) := (Ru_at at_X4_readsComparison 21 _ _ _).trans rfl
theorem at_X4_readsSum : am_at mX4_readsSum = (cd_X4_readsSum, [], 3) := rfl
set_option maxRecDepth 60000 in
theorem q_X4_readsSum_0 (sc : Nat × (Nat → Int)) (d : Nat) (r0 : Option Nat) (h : am_H) : Cl sc (d + 1) mX4_readsSum [Vr r0] h =
  Ru sc (d + 1) mX4_readsSum 3 [Vr r0, Vi 0, Vx 0] [] h := (Cl_at at_X4_readsSum rfl _).trans rfl
set_option maxRecDepth 60000 in
theorem q_X4_readsSum_3 (sc : Nat × (Nat → Int)) (d : Nat) (r0 : Option Nat) (i1 : Int) (u2 : am_V) (h : am_H) : Ru sc (d + 1) mX4_readsSum 3 [Vr r0, Vi i1, u2] [] h =
  if i1 < 400 then
    gfP 4 0 h r0 fun p4 =>
    am_rcv 10 h (Vr p4) (
    clI (Cl sc d mX10_thing [Vr p4] h) am_xt fun v6 h5 =>
    clI (Cl sc d mX4_isPart [Vi v6] h5) am_xt fun v8 h7 =>
    if v8 = 0 then
      gfP 4 0 h7 r0 fun p19 =>
      am_rcv 10 h7 (Vr p19) (
      clI (Cl sc d mX10_refuses [Vr p19] h7) am_xt fun v21 h20 =>
      am_ret 1 v21 h20)
    else
      gfP 4 0 h7 r0 fun p9 =>
      am_rcv 10 h7 (Vr p9) (
      clV (Cl sc d mX10_next [Vr p9] h7) am_xt fun h10 =>
      am_rcv 4 h10 (Vr r0) (
      clV (Cl sc d mX4_emit [Vr r0, Vi v6] h10) am_xt fun h11 =>
      if 0 < i1 then
        am_rcv 4 h11 (Vr r0) (
        clV (Cl sc d mX4_emit [Vr r0, Vi (-27)] h11) am_xt fun h15 =>
        gfP 4 0 h15 r0 fun p16 =>
        am_rcv 10 h15 (Vr p16) (
        clI (Cl sc d mX10_takes [Vr p16, Vi (-27)] h15) am_xt fun v18 h17 =>
        if v18 = 0 then
          some (.inl (Vi 1), h17)
        else
          Ru sc (d + 1) mX4_readsSum 3 [Vr r0, Vi (w32 (i1 + 1)), Vi v6] [] h17))
      else
        gfP 4 0 h11 r0 fun p12 =>
        am_rcv 10 h11 (Vr p12) (
        clI (Cl sc d mX10_takes [Vr p12, Vi (-27)] h11) am_xt fun v14 h13 =>
        if v14 = 0 then
          some (.inl (Vi 1), h13)
        else
          Ru sc (d + 1) mX4_readsSum 3 [Vr r0, Vi (w32 (i1 + 1)), Vi v6] [] h13))))
  else
    gfP 4 0 h r0 fun p1 =>
    am_rcv 10 h (Vr p1) (
    clI (Cl sc d mX10_refuses [Vr p1] h) am_xt fun v3 h2 =>
    am_ret 1 v3 h2) := (Ru_at at_X4_readsSum 3 _ _ _).trans rfl
theorem at_X4_isPart : am_at mX4_isPart = (cd_X4_isPart, [], 1) := rfl
set_option maxRecDepth 60000 in
theorem q_X4_isPart_0 (sc : Nat × (Nat → Int)) (d : Nat) (i0 : Int) (h : am_H) : Cl sc (d + 1) mX4_isPart [Vi i0] h =
  if i0 < 0 then
    if (-17) < i0 then
      some (.inl (Vi 0), h)
    else
      if i0 < (-22) then
        some (.inl (Vi 0), h)
      else
        some (.inl (Vi 1), h)
  else
    if 999 < i0 then
      if (-17) < i0 then
        some (.inl (Vi 0), h)
      else
        if i0 < (-22) then
          some (.inl (Vi 0), h)
        else
          some (.inl (Vi 1), h)
    else
      some (.inl (Vi 1), h) := (Cl_at at_X4_isPart rfl _).trans rfl
theorem at_X4_emit : am_at mX4_emit = (cd_X4_emit, [], 2) := rfl
set_option maxRecDepth 60000 in
theorem q_X4_emit_0 (sc : Nat × (Nat → Int)) (d : Nat) (r0 : Option Nat) (i1 : Int) (h : am_H) : Cl sc (d + 1) mX4_emit [Vr r0, Vi i1] h =
  gfI 4 6 h r0 fun v1 =>
  gfP 4 4 h r0 fun p2 =>
  lenA h p2 fun v3 =>
  if v1 < v3 then
    gfP 4 4 h r0 fun p4 =>
    gfI 4 6 h r0 fun v5 =>
    stA 1 h p4 v5 i1 fun h6 =>
    gfI 4 6 h6 r0 fun v7 =>
    pfI 0 4 6 h6 r0 (w32 (v7 + 1)) fun h8 =>
    some (.inl (Vx 0), h8)
  else
    some (.inl (Vx 0), h) := (Cl_at at_X4_emit rfl _).trans rfl
theorem at_X5_init : am_at mX5_init = (cd_X5_init, [], 1) := rfl
set_option maxRecDepth 60000 in
theorem q_X5_init_0 (sc : Nat × (Nat → Int)) (d : Nat) (a0 : Nat) (h : am_H) : Cl sc (d + 1) mX5_init [Vr (some a0)] h =
  newA 1 h 300 fun p1 h2 =>
  pfP 5 0 h2 (some a0) p1 fun h3 =>
  pfI 0 5 1 h3 (some a0) 0 fun h4 =>
  pfI 0 5 2 h4 (some a0) 0 fun h5 =>
  some (.inl (Vx 0), h5) := (Cl_at at_X5_init rfl _).trans rfl
theorem at_X5_copyFrom : am_at mX5_copyFrom = (cd_X5_copyFrom, [], 2) := rfl
set_option maxRecDepth 60000 in
theorem q_X5_copyFrom_0 (sc : Nat × (Nat → Int)) (d : Nat) (r0 : Option Nat) (r1 : Option Nat) (h : am_H) : Cl sc (d + 1) mX5_copyFrom [Vr r0, Vr r1] h =
  gfP 5 0 h r1 fun p1 =>
  gfP 5 0 h r0 fun p2 =>
  cpA h p1 0 p2 0 300 fun h3 =>
  gfI 5 1 h3 r1 fun v4 =>
  pfI 0 5 1 h3 r0 v4 fun h5 =>
  gfI 5 2 h5 r1 fun v6 =>
  pfI 0 5 2 h5 r0 v6 fun h7 =>
  some (.inl (Vx 0), h7) := (Cl_at at_X5_copyFrom rfl _).trans rfl
theorem at_X5_add : am_at mX5_add = (cd_X5_add, [], 7) := rfl
set_option maxRecDepth 60000 in
theorem q_X5_add_0 (sc : Nat × (Nat → Int)) (d : Nat) (r0 : Option Nat) (i1 : Int) (i2 : Int) (i3 : Int) (i4 : Int) (i5 : Int) (h : am_H) : Cl sc (d + 1) mX5_add [Vr r0, Vi i1, Vi i2, Vi i3, Vi i4, Vi i5] h =
  gfI 5 1 h r0 fun v1 =>
  gfP 5 0 h r0 fun p2 =>
  stA 1 h p2 (w32 (v1 * 5)) i1 fun h3 =>
  gfP 5 0 h3 r0 fun p4 =>
  stA 1 h3 p4 (w32 ((w32 (v1 * 5)) + 1)) i2 fun h5 =>
  gfP 5 0 h5 r0 fun p6 =>
  stA 1 h5 p6 (w32 ((w32 (v1 * 5)) + 2)) i3 fun h7 =>
  gfP 5 0 h7 r0 fun p8 =>
  stA 1 h7 p8 (w32 ((w32 (v1 * 5)) + 3)) i4 fun h9 =>
  gfP 5 0 h9 r0 fun p10 =>
  stA 1 h9 p10 (w32 ((w32 (v1 * 5)) + 4)) i5 fun h11 =>
  gfI 5 1 h11 r0 fun v12 =>
  if 60 = 0 then none else
  pfI 0 5 1 h11 r0 ((w32 (v12 + 1)).tmod 60) fun h13 =>
  gfI 5 2 h13 r0 fun v14 =>
  clI (Cl sc d mJ9_min_7cf53 [Vi 60, Vi (w32 (v14 + 1))] h13) am_xt fun v16 h15 =>
  pfI 0 5 2 h15 r0 v16 fun h17 =>
  some (.inl (Vx 0), h17) := (Cl_at at_X5_add rfl _).trans rfl
theorem at_X5_value : am_at mX5_value = (cd_X5_value, [], 3) := rfl
set_option maxRecDepth 60000 in
theorem q_X5_value_0 (sc : Nat × (Nat → Int)) (d : Nat) (r0 : Option Nat) (i1 : Int) (i2 : Int) (h : am_H) : Cl sc (d + 1) mX5_value [Vr r0, Vi i1, Vi i2] h =
  if i1 < 0 then
    some (.inl (Vi (-2)), h)
  else
    gfI 5 2 h r0 fun v1 =>
    if i1 < v1 then
      gfP 5 0 h r0 fun p2 =>
      gfI 5 1 h r0 fun v3 =>
      if 60 = 0 then none else
      ldA 1 h p2 (w32 ((w32 (((w32 ((w32 ((w32 (v3 - 1)) - i1)) + 60)).tmod 60) * 5)) + i2)) fun v4 =>
      some (.inl (Vi v4), h)
    else
      some (.inl (Vi (-2)), h) := (Cl_at at_X5_value rfl _).trans rfl
theorem at_X5_rowsOf : am_at mX5_rowsOf = (cd_X5_rowsOf, [], 4) := rfl
set_option maxRecDepth 60000 in
theorem q_X5_rowsOf_0 (sc : Nat × (Nat → Int)) (d : Nat) (r0 : Option Nat) (i1 : Int) (h : am_H) : Cl sc (d + 1) mX5_rowsOf [Vr r0, Vi i1] h =
  Ru sc (d + 1) mX5_rowsOf 5 [Vr r0, Vi i1, Vi 0, Vi 0] [] h := (Cl_at at_X5_rowsOf rfl _).trans rfl
set_option maxRecDepth 60000 in
theorem q_X5_rowsOf_5 (sc : Nat × (Nat → Int)) (d : Nat) (r0 : Option Nat) (i1 : Int) (i2 : Int) (i3 : Int) (h : am_H) : Ru sc (d + 1) mX5_rowsOf 5 [Vr r0, Vi i1, Vi i2, Vi i3] [] h =
  gfI 5 2 h r0 fun v1 =>
  if i3 < v1 then
    am_rcv 5 h (Vr r0) (
    clI (Cl sc d mX5_value [Vr r0, Vi i3, Vi 1] h) am_xt fun v3 h2 =>
    if v3 = i1 then
      Ru sc (d + 1) mX5_rowsOf 5 [Vr r0, Vi i1, Vi (w32 (i2 + 1)), Vi (w32 (i3 + 1))] [] h2
    else
      Ru sc (d + 1) mX5_rowsOf 5 [Vr r0, Vi i1, Vi (w32 (i2 + 0)), Vi (w32 (i3 + 1))] [] h2)
  else
    some (.inl (Vi i2), h) := (Ru_at at_X5_rowsOf 5 _ _ _).trans rfl
theorem at_X5_latestYear : am_at mX5_latestYear = (cd_X5_latestYear, [], 3) := rfl
set_option maxRecDepth 60000 in
theorem q_X5_latestYear_0 (sc : Nat × (Nat → Int)) (d : Nat) (r0 : Option Nat) (i1 : Int) (h : am_H) : Cl sc (d + 1) mX5_latestYear [Vr r0, Vi i1] h =
  Ru sc (d + 1) mX5_latestYear 3 [Vr r0, Vi i1, Vi 0] [] h := (Cl_at at_X5_latestYear rfl _).trans rfl
set_option maxRecDepth 60000 in
theorem q_X5_latestYear_3 (sc : Nat × (Nat → Int)) (d : Nat) (r0 : Option Nat) (i1 : Int) (i2 : Int) (h : am_H) : Ru sc (d + 1) mX5_latestYear 3 [Vr r0, Vi i1, Vi i2] [] h =
  gfI 5 2 h r0 fun v1 =>
  if i2 < v1 then
    am_rcv 5 h (Vr r0) (
    clI (Cl sc d mX5_value [Vr r0, Vi i2, Vi 1] h) am_xt fun v3 h2 =>
    if v3 = i1 then
      am_rcv 5 h2 (Vr r0) (
      clI (Cl sc d mX5_value [Vr r0, Vi i2, Vi 0] h2) am_xt fun v5 h4 =>
      some (.inl (Vi v5), h4))
    else
      Ru sc (d + 1) mX5_latestYear 3 [Vr r0, Vi i1, Vi (w32 (i2 + 1))] [] h2)
  else
    some (.inl (Vi (-1)), h) := (Ru_at at_X5_latestYear 3 _ _ _).trans rfl
