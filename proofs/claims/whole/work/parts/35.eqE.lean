theorem at_X12_move : am_at mX12_move = (cd_X12_move, [], 3) := rfl
set_option maxRecDepth 60000 in
theorem q_X12_move_0 (sc : Nat × (Nat → Int)) (d : Nat) (r0 : Option Nat) (i1 : Int) (i2 : Int) (h : am_H) : Cl sc (d + 1) mX12_move [Vr r0, Vi i1, Vi i2] h =
  pfI 0 12 0 h r0 0 fun h1 =>
  am_rcv 12 h1 (Vr r0) (
  clI (Cl sc d mX12_noFamily [Vr r0, Vi i1] h1) am_xt fun v3 h2 =>
  if v3 = 0 then
    clI (Cl sc d mX12_noCell [Vi i2] h2) am_xt fun v9 h8 =>
    if v9 = 0 then
      am_rcv 12 h8 (Vr r0) (
      clI (Cl sc d mX12_throwsIf [Vr r0, Vi 0, Vi 1] h8) am_xt fun v11 h10 =>
      if v11 = 0 then
        am_rcv 12 h10 (Vr r0) (
        clI (Cl sc d mX12_familyNow [Vr r0, Vi i1, Vi 0, Vi i2] h10) am_xt fun v13 h12 =>
        some (.inl (Vi v13), h12))
      else
        some (.inl (Vi 0), h10))
    else
      am_rcv 12 h8 (Vr r0) (
      clI (Cl sc d mX12_throwsIf [Vr r0, Vi 1, Vi 1] h8) am_xt fun v15 h14 =>
      if v15 = 0 then
        am_rcv 12 h14 (Vr r0) (
        clI (Cl sc d mX12_familyNow [Vr r0, Vi i1, Vi 0, Vi i2] h14) am_xt fun v17 h16 =>
        some (.inl (Vi v17), h16))
      else
        some (.inl (Vi 0), h14))
  else
    am_rcv 12 h2 (Vr r0) (
    clI (Cl sc d mX12_throwsIf [Vr r0, Vi 1, Vi 1] h2) am_xt fun v5 h4 =>
    if v5 = 0 then
      am_rcv 12 h4 (Vr r0) (
      clI (Cl sc d mX12_familyNow [Vr r0, Vi i1, Vi 0, Vi i2] h4) am_xt fun v7 h6 =>
      some (.inl (Vi v7), h6))
    else
      some (.inl (Vi 0), h4))) := (Cl_at at_X12_move rfl _).trans rfl
theorem at_X12_learn : am_at mX12_learn = (cd_X12_learn, [], 3) := rfl
set_option maxRecDepth 60000 in
theorem q_X12_learn_0 (sc : Nat × (Nat → Int)) (d : Nat) (r0 : Option Nat) (i1 : Int) (i2 : Int) (h : am_H) : Cl sc (d + 1) mX12_learn [Vr r0, Vi i1, Vi i2] h =
  pfI 0 12 0 h r0 0 fun h1 =>
  am_rcv 12 h1 (Vr r0) (
  clI (Cl sc d mX12_noFamily [Vr r0, Vi i1] h1) am_xt fun v3 h2 =>
  am_rcv 12 h2 (Vr r0) (
  clI (Cl sc d mX12_throwsIf [Vr r0, Vi v3, Vi 1] h2) am_xt fun v5 h4 =>
  if v5 = 0 then
    clI (Cl sc d mX12_noHeight [Vi i2] h4) am_xt fun v7 h6 =>
    am_rcv 12 h6 (Vr r0) (
    clI (Cl sc d mX12_throwsIf [Vr r0, Vi v7, Vi 2] h6) am_xt fun v9 h8 =>
    if v9 = 0 then
      am_rcv 12 h8 (Vr r0) (
      clI (Cl sc d mX12_familyNow [Vr r0, Vi i1, Vi 1, Vi i2] h8) am_xt fun v11 h10 =>
      some (.inl (Vi v11), h10))
    else
      some (.inl (Vi 0), h8))
  else
    some (.inl (Vi 0), h4))) := (Cl_at at_X12_learn rfl _).trans rfl
theorem at_X12_isOpen : am_at mX12_isOpen = (cd_X12_isOpen, [], 3) := rfl
set_option maxRecDepth 60000 in
theorem q_X12_isOpen_0 (sc : Nat × (Nat → Int)) (d : Nat) (r0 : Option Nat) (i1 : Int) (i2 : Int) (h : am_H) : Cl sc (d + 1) mX12_isOpen [Vr r0, Vi i1, Vi i2] h =
  gfI 12 18 h r0 fun v1 =>
  if i1 = v1 then
    some (.inl (Vi 0), h)
  else
    gfI 12 19 h r0 fun v2 =>
    if i1 = v2 then
      some (.inl (Vi 1), h)
    else
      am_rcv 12 h (Vr r0) (
      clI (Cl sc d mX12_hasFence [Vr r0, Vi i1] h) am_xt fun v4 h3 =>
      if v4 = 0 then
        some (.inl (Vi 1), h3)
      else
        am_rcv 12 h3 (Vr r0) (
        clI (Cl sc d mX12_of [Vr r0, Vi i1, Vi 3] h3) am_xt fun v6 h5 =>
        if v6 = 1 then
          some (.inl (Vi 1), h5)
        else
          am_rcv 12 h5 (Vr r0) (
          clI (Cl sc d mX12_of [Vr r0, Vi i1, Vi 2] h5) am_xt fun v8 h7 =>
          if i2 < v8 then
            some (.inl (Vi 0), h7)
          else
            some (.inl (Vi 1), h7)))) := (Cl_at at_X12_isOpen rfl _).trans rfl
theorem at_X12_costOf : am_at mX12_costOf = (cd_X12_costOf, [], 2) := rfl
set_option maxRecDepth 60000 in
theorem q_X12_costOf_0 (sc : Nat × (Nat → Int)) (d : Nat) (r0 : Option Nat) (i1 : Int) (h : am_H) : Cl sc (d + 1) mX12_costOf [Vr r0, Vi i1] h =
  am_rcv 12 h (Vr r0) (
  clI (Cl sc d mX12_hasFence [Vr r0, Vi i1] h) am_xt fun v2 h1 =>
  if v2 = 0 then
    some (.inl (Vi 1), h1)
  else
    am_rcv 12 h1 (Vr r0) (
    clI (Cl sc d mX12_of [Vr r0, Vi i1, Vi 3] h1) am_xt fun v4 h3 =>
    if v4 = 1 then
      some (.inl (Vi 1), h3)
    else
      am_rcv 12 h3 (Vr r0) (
      clI (Cl sc d mX12_of [Vr r0, Vi i1, Vi 2] h3) am_xt fun v6 h5 =>
      if 10 = 0 then none else
      some (.inl (Vi (w32 (1 + (w32 (v6.tdiv 10))))), h5)))) := (Cl_at at_X12_costOf rfl _).trans rfl
theorem at_X12_addsBy : am_at mX12_addsBy = (cd_X12_addsBy, [], 4) := rfl
set_option maxRecDepth 60000 in
theorem q_X12_addsBy_0 (sc : Nat × (Nat → Int)) (d : Nat) (r0 : Option Nat) (i1 : Int) (i2 : Int) (i3 : Int) (h : am_H) : Cl sc (d + 1) mX12_addsBy [Vr r0, Vi i1, Vi i2, Vi i3] h =
  if i1 = 0 then
    am_rcv 12 h (Vr r0) (
    clI (Cl sc d mX12_isOpen [Vr r0, Vi i2, Vi i3] h) am_xt fun v8 h7 =>
    if v8 = 0 then
      some (.inl (Vi 1000000), h7)
    else
      am_rcv 12 h7 (Vr r0) (
      clI (Cl sc d mX12_costOf [Vr r0, Vi i2] h7) am_xt fun v10 h9 =>
      some (.inl (Vi v10), h9)))
  else
    if i1 = 1 then
      am_rcv 12 h (Vr r0) (
      clI (Cl sc d mX12_isOpen [Vr r0, Vi i2, Vi i3] h) am_xt fun v6 h5 =>
      if v6 = 0 then
        some (.inl (Vi 1), h5)
      else
        some (.inl (Vi 0), h5))
    else
      am_rcv 12 h (Vr r0) (
      clI (Cl sc d mX12_isOpen [Vr r0, Vi i2, Vi 0] h) am_xt fun v2 h1 =>
      if v2 = 0 then
        am_rcv 12 h1 (Vr r0) (
        clI (Cl sc d mX12_of [Vr r0, Vi i2, Vi 2] h1) am_xt fun v4 h3 =>
        some (.inl (Vi v4), h3))
      else
        some (.inl (Vi 0), h1)) := (Cl_at at_X12_addsBy rfl _).trans rfl
theorem at_X12_on : am_at mX12_on = (cd_X12_on, [], 3) := rfl
set_option maxRecDepth 60000 in
theorem q_X12_on_0 (sc : Nat × (Nat → Int)) (d : Nat) (i0 : Int) (i1 : Int) (i2 : Int) (h : am_H) : Cl sc (d + 1) mX12_on [Vi i0, Vi i1, Vi i2] h =
  if i0 = 2 then
    clI (Cl sc d mJ9_max_7cf53 [Vi i1, Vi i2] h) am_xt fun v4 h3 =>
    some (.inl (Vi v4), h3)
  else
    clI (Cl sc d mJ9_min_7cf53 [Vi 1000000, Vi (w32 (i1 + i2))] h) am_xt fun v2 h1 =>
    some (.inl (Vi v2), h1) := (Cl_at at_X12_on rfl _).trans rfl
theorem at_X12_flows : am_at mX12_flows = (cd_X12_flows, [], 8) := rfl
set_option maxRecDepth 60000 in
theorem q_X12_flows_0 (sc : Nat × (Nat → Int)) (d : Nat) (r0 : Option Nat) (i1 : Int) (i2 : Int) (h : am_H) : Cl sc (d + 1) mX12_flows [Vr r0, Vi i1, Vi i2] h =
  Ru sc (d + 1) mX12_flows 3 [Vr r0, Vi i1, Vi i2, Vi 1, Vx 0, Vx 0, Vx 0, Vx 0] [] h := (Cl_at at_X12_flows rfl _).trans rfl
set_option maxRecDepth 60000 in
theorem q_X12_flows_3 (sc : Nat × (Nat → Int)) (d : Nat) (r0 : Option Nat) (i1 : Int) (i2 : Int) (i3 : Int) (u4 : am_V) (u5 : am_V) (u6 : am_V) (u7 : am_V) (h : am_H) : Ru sc (d + 1) mX12_flows 3 [Vr r0, Vi i1, Vi i2, Vi i3, u4, u5, u6, u7] [] h =
  if i3 = 0 then
    some (.inl (Vx 0), h)
  else
    Ru sc (d + 1) mX12_flows 10 [Vr r0, Vi i1, Vi i2, Vi 0, Vi 0, u5, u6, u7] [] h := (Ru_at at_X12_flows 3 _ _ _).trans rfl
set_option maxRecDepth 60000 in
theorem q_X12_flows_10 (sc : Nat × (Nat → Int)) (d : Nat) (r0 : Option Nat) (i1 : Int) (i2 : Int) (i3 : Int) (i4 : Int) (u5 : am_V) (u6 : am_V) (u7 : am_V) (h : am_H) : Ru sc (d + 1) mX12_flows 10 [Vr r0, Vi i1, Vi i2, Vi i3, Vi i4, u5, u6, u7] [] h =
  if i4 < 60 then
    am_rcv 12 h (Vr r0) (
    clI (Cl sc d mX12_addsBy [Vr r0, Vi i1, Vi i4, Vi i2] h) am_xt fun v2 h1 =>
    clI (Cl sc d mX12_lessOf [Vi i4] h1) am_xt fun v4 h3 =>
    clI (Cl sc d mX12_greaterOf [Vi i4] h3) am_xt fun v6 h5 =>
    gfP 12 20 h5 r0 fun p7 =>
    ldA 1 h5 p7 v4 fun v8 =>
    clI (Cl sc d mX12_on [Vi i1, Vi v8, Vi v2] h5) am_xt fun v10 h9 =>
    gfP 12 20 h9 r0 fun p11 =>
    ldA 1 h9 p11 v6 fun v12 =>
    if v10 < v12 then
      gfP 12 20 h9 r0 fun p25 =>
      gfP 12 20 h9 r0 fun p26 =>
      ldA 1 h9 p26 v4 fun v27 =>
      clI (Cl sc d mX12_on [Vi i1, Vi v27, Vi v2] h9) am_xt fun v29 h28 =>
      stA 1 h28 p25 v6 v29 fun h30 =>
      Ru sc (d + 1) mX12_flows 10 [Vr r0, Vi i1, Vi i2, Vi 1, Vi (w32 (i4 + 1)), Vi v2, Vi v4, Vi v6] [] h30
    else
      gfP 12 20 h9 r0 fun p13 =>
      ldA 1 h9 p13 v6 fun v14 =>
      clI (Cl sc d mX12_on [Vi i1, Vi v14, Vi v2] h9) am_xt fun v16 h15 =>
      gfP 12 20 h15 r0 fun p17 =>
      ldA 1 h15 p17 v4 fun v18 =>
      if v16 < v18 then
        gfP 12 20 h15 r0 fun p19 =>
        gfP 12 20 h15 r0 fun p20 =>
        ldA 1 h15 p20 v6 fun v21 =>
        clI (Cl sc d mX12_on [Vi i1, Vi v21, Vi v2] h15) am_xt fun v23 h22 =>
        stA 1 h22 p19 v4 v23 fun h24 =>
        Ru sc (d + 1) mX12_flows 10 [Vr r0, Vi i1, Vi i2, Vi 1, Vi (w32 (i4 + 1)), Vi v2, Vi v4, Vi v6] [] h24
      else
        Ru sc (d + 1) mX12_flows 10 [Vr r0, Vi i1, Vi i2, Vi i3, Vi (w32 (i4 + 1)), Vi v2, Vi v4, Vi v6] [] h15)
  else
    Ru sc (d + 1) mX12_flows 3 [Vr r0, Vi i1, Vi i2, Vi i3, Vi i4, u5, u6, u7] [] h := (Ru_at at_X12_flows 10 _ _ _).trans rfl
theorem at_X12_from : am_at mX12_from = (cd_X12_from, [], 5) := rfl
set_option maxRecDepth 60000 in
theorem q_X12_from_0 (sc : Nat × (Nat → Int)) (d : Nat) (r0 : Option Nat) (i1 : Int) (i2 : Int) (i3 : Int) (h : am_H) : Cl sc (d + 1) mX12_from [Vr r0, Vi i1, Vi i2, Vi i3] h =
  Ru sc (d + 1) mX12_from 3 [Vr r0, Vi i1, Vi i2, Vi i3, Vi 0] [] h := (Cl_at at_X12_from rfl _).trans rfl
set_option maxRecDepth 60000 in
theorem q_X12_from_3 (sc : Nat × (Nat → Int)) (d : Nat) (r0 : Option Nat) (i1 : Int) (i2 : Int) (i3 : Int) (i4 : Int) (h : am_H) : Ru sc (d + 1) mX12_from 3 [Vr r0, Vi i1, Vi i2, Vi i3, Vi i4] [] h =
  if i4 < 36 then
    gfP 12 20 h r0 fun p4 =>
    stA 1 h p4 i4 1000000 fun h5 =>
    Ru sc (d + 1) mX12_from 3 [Vr r0, Vi i1, Vi i2, Vi i3, Vi (w32 (i4 + 1))] [] h5
  else
    gfP 12 20 h r0 fun p1 =>
    stA 1 h p1 i1 0 fun h2 =>
    am_rcv 12 h2 (Vr r0) (
    clV (Cl sc d mX12_flows [Vr r0, Vi i2, Vi i3] h2) am_xt fun h3 =>
    some (.inl (Vx 0), h3)) := (Ru_at at_X12_from 3 _ _ _).trans rfl
theorem at_X12_manyReached : am_at mX12_manyReached = (cd_X12_manyReached, [], 3) := rfl
set_option maxRecDepth 60000 in
theorem q_X12_manyReached_0 (sc : Nat × (Nat → Int)) (d : Nat) (r0 : Option Nat) (h : am_H) : Cl sc (d + 1) mX12_manyReached [Vr r0] h =
  Ru sc (d + 1) mX12_manyReached 5 [Vr r0, Vi 0, Vi 0] [] h := (Cl_at at_X12_manyReached rfl _).trans rfl
set_option maxRecDepth 60000 in
theorem q_X12_manyReached_5 (sc : Nat × (Nat → Int)) (d : Nat) (r0 : Option Nat) (i1 : Int) (i2 : Int) (h : am_H) : Ru sc (d + 1) mX12_manyReached 5 [Vr r0, Vi i1, Vi i2] [] h =
  if i2 < 36 then
    gfP 12 20 h r0 fun p1 =>
    ldA 1 h p1 i2 fun v2 =>
    if v2 < 1000000 then
      Ru sc (d + 1) mX12_manyReached 5 [Vr r0, Vi (w32 (i1 + 1)), Vi (w32 (i2 + 1))] [] h
    else
      Ru sc (d + 1) mX12_manyReached 5 [Vr r0, Vi (w32 (i1 + 0)), Vi (w32 (i2 + 1))] [] h
  else
    some (.inl (Vi i1), h) := (Ru_at at_X12_manyReached 5 _ _ _).trans rfl
theorem at_X12_waysOf : am_at mX12_waysOf = (cd_X12_waysOf, [], 2) := rfl
set_option maxRecDepth 60000 in
theorem q_X12_waysOf_0 (sc : Nat × (Nat → Int)) (d : Nat) (r0 : Option Nat) (i1 : Int) (h : am_H) : Cl sc (d + 1) mX12_waysOf [Vr r0, Vi i1] h =
  am_rcv 12 h (Vr r0) (
  clI (Cl sc d mX12_ofFamily [Vr r0, Vi i1, Vi 0] h) am_xt fun v2 h1 =>
  am_rcv 12 h1 (Vr r0) (
  clI (Cl sc d mX12_ofFamily [Vr r0, Vi i1, Vi 1] h1) am_xt fun v4 h3 =>
  am_rcv 12 h3 (Vr r0) (
  clV (Cl sc d mX12_from [Vr r0, Vi v2, Vi 0, Vi v4] h3) am_xt fun h5 =>
  am_rcv 12 h5 (Vr r0) (
  clI (Cl sc d mX12_manyReached [Vr r0] h5) am_xt fun v7 h6 =>
  some (.inl (Vi v7), h6))))) := (Cl_at at_X12_waysOf rfl _).trans rfl
theorem at_X12_farOf : am_at mX12_farOf = (cd_X12_farOf, [], 3) := rfl
set_option maxRecDepth 60000 in
theorem q_X12_farOf_0 (sc : Nat × (Nat → Int)) (d : Nat) (r0 : Option Nat) (i1 : Int) (i2 : Int) (h : am_H) : Cl sc (d + 1) mX12_farOf [Vr r0, Vi i1, Vi i2] h =
  am_rcv 12 h (Vr r0) (
  clI (Cl sc d mX12_ofFamily [Vr r0, Vi i1, Vi 0] h) am_xt fun v2 h1 =>
  am_rcv 12 h1 (Vr r0) (
  clI (Cl sc d mX12_ofFamily [Vr r0, Vi i1, Vi 1] h1) am_xt fun v4 h3 =>
  am_rcv 12 h3 (Vr r0) (
  clV (Cl sc d mX12_from [Vr r0, Vi v2, Vi 0, Vi v4] h3) am_xt fun h5 =>
  gfP 12 20 h5 r0 fun p6 =>
  ldA 1 h5 p6 i2 fun v7 =>
  some (.inl (Vi v7), h5)))) := (Cl_at at_X12_farOf rfl _).trans rfl
theorem at_X12_towerOf : am_at mX12_towerOf = (cd_X12_towerOf, [], 5) := rfl
set_option maxRecDepth 60000 in
theorem q_X12_towerOf_0 (sc : Nat × (Nat → Int)) (d : Nat) (r0 : Option Nat) (i1 : Int) (h : am_H) : Cl sc (d + 1) mX12_towerOf [Vr r0, Vi i1] h =
  Ru sc (d + 1) mX12_towerOf 5 [Vr r0, Vi i1, Vi 0, Vi 0, Vx 0] [] h := (Cl_at at_X12_towerOf rfl _).trans rfl
set_option maxRecDepth 60000 in
theorem q_X12_towerOf_5 (sc : Nat × (Nat → Int)) (d : Nat) (r0 : Option Nat) (i1 : Int) (i2 : Int) (i3 : Int) (u4 : am_V) (h : am_H) : Ru sc (d + 1) mX12_towerOf 5 [Vr r0, Vi i1, Vi i2, Vi i3, u4] [] h =
  if i3 < 4 then
    am_rcv 12 h (Vr r0) (
    clI (Cl sc d mX12_ofFamily [Vr r0, Vi i1, Vi 0] h) am_xt fun v2 h1 =>
    clI (Cl sc d mX12_sideOf [Vi v2, Vi i3] h1) am_xt fun v4 h3 =>
    if v4 = (-1) then
      Ru sc (d + 1) mX12_towerOf 5 [Vr r0, Vi i1, Vi (w32 (i2 + 0)), Vi (w32 (i3 + 1)), Vi v4] [] h3
    else
      am_rcv 12 h3 (Vr r0) (
      clI (Cl sc d mX12_of [Vr r0, Vi v4, Vi 2] h3) am_xt fun v6 h5 =>
      Ru sc (d + 1) mX12_towerOf 5 [Vr r0, Vi i1, Vi (w32 (i2 + v6)), Vi (w32 (i3 + 1)), Vi v4] [] h5))
  else
    some (.inl (Vi i2), h) := (Ru_at at_X12_towerOf 5 _ _ _).trans rfl
theorem at_X12_gapOf : am_at mX12_gapOf = (cd_X12_gapOf, [], 2) := rfl
set_option maxRecDepth 60000 in
theorem q_X12_gapOf_0 (sc : Nat × (Nat → Int)) (d : Nat) (i0 : Int) (i1 : Int) (h : am_H) : Cl sc (d + 1) mX12_gapOf [Vi i0, Vi i1] h =
  if 6 = 0 then none else
  if 6 = 0 then none else
  clI (Cl sc d mJ9_abs_0f7a4 [Vi (w32 ((i0.tmod 6) - (i1.tmod 6)))] h) am_xt fun v2 h1 =>
  if 6 = 0 then none else
  if 6 = 0 then none else
  clI (Cl sc d mJ9_abs_0f7a4 [Vi (w32 ((w32 (i0.tdiv 6)) - (w32 (i1.tdiv 6))))] h1) am_xt fun v4 h3 =>
  some (.inl (Vi (w32 (v2 + v4))), h3) := (Cl_at at_X12_gapOf rfl _).trans rfl
theorem at_X12_nearestTo : am_at mX12_nearestTo = (cd_X12_nearestTo, [], 4) := rfl
set_option maxRecDepth 60000 in
theorem q_X12_nearestTo_0 (sc : Nat × (Nat → Int)) (d : Nat) (r0 : Option Nat) (i1 : Int) (h : am_H) : Cl sc (d + 1) mX12_nearestTo [Vr r0, Vi i1] h =
  Ru sc (d + 1) mX12_nearestTo 5 [Vr r0, Vi i1, Vi 0, Vi 1] [] h := (Cl_at at_X12_nearestTo rfl _).trans rfl
set_option maxRecDepth 60000 in
theorem q_X12_nearestTo_5 (sc : Nat × (Nat → Int)) (d : Nat) (r0 : Option Nat) (i1 : Int) (i2 : Int) (i3 : Int) (h : am_H) : Ru sc (d + 1) mX12_nearestTo 5 [Vr r0, Vi i1, Vi i2, Vi i3] [] h =
  am_rcv 12 h (Vr r0) (
  clI (Cl sc d mX12_families [Vr r0] h) am_xt fun v2 h1 =>
  if i3 < v2 then
    am_rcv 12 h1 (Vr r0) (
    clI (Cl sc d mX12_ofFamily [Vr r0, Vi i3, Vi 0] h1) am_xt fun v4 h3 =>
    clI (Cl sc d mX12_gapOf [Vi i1, Vi v4] h3) am_xt fun v6 h5 =>
    am_rcv 12 h5 (Vr r0) (
    clI (Cl sc d mX12_ofFamily [Vr r0, Vi i2, Vi 0] h5) am_xt fun v8 h7 =>
    clI (Cl sc d mX12_gapOf [Vi i1, Vi v8] h7) am_xt fun v10 h9 =>
    if v6 < v10 then
      Ru sc (d + 1) mX12_nearestTo 5 [Vr r0, Vi i1, Vi i3, Vi (w32 (i3 + 1))] [] h9
    else
      Ru sc (d + 1) mX12_nearestTo 5 [Vr r0, Vi i1, Vi i2, Vi (w32 (i3 + 1))] [] h9))
  else
    some (.inl (Vi i2), h1)) := (Ru_at at_X12_nearestTo 5 _ _ _).trans rfl
theorem at_X12_shareOf : am_at mX12_shareOf = (cd_X12_shareOf, [], 4) := rfl
set_option maxRecDepth 60000 in
theorem q_X12_shareOf_0 (sc : Nat × (Nat → Int)) (d : Nat) (r0 : Option Nat) (i1 : Int) (h : am_H) : Cl sc (d + 1) mX12_shareOf [Vr r0, Vi i1] h =
  Ru sc (d + 1) mX12_shareOf 5 [Vr r0, Vi i1, Vi 0, Vi 0] [] h := (Cl_at at_X12_shareOf rfl _).trans rfl
set_option maxRecDepth 60000 in
theorem q_X12_shareOf_5 (sc : Nat × (Nat → Int)) (d : Nat) (r0 : Option Nat) (i1 : Int) (i2 : Int) (i3 : Int) (h : am_H) : Ru sc (d + 1) mX12_shareOf 5 [Vr r0, Vi i1, Vi i2, Vi i3] [] h =
  if i3 < 36 then
    am_rcv 12 h (Vr r0) (
    clI (Cl sc d mX12_nearestTo [Vr r0, Vi i3] h) am_xt fun v2 h1 =>
    if v2 = i1 then
      Ru sc (d + 1) mX12_shareOf 5 [Vr r0, Vi i1, Vi (w32 (i2 + 1)), Vi (w32 (i3 + 1))] [] h1
    else
      Ru sc (d + 1) mX12_shareOf 5 [Vr r0, Vi i1, Vi (w32 (i2 + 0)), Vi (w32 (i3 + 1))] [] h1)
  else
    some (.inl (Vi i2), h) := (Ru_at at_X12_shareOf 5 _ _ _).trans rfl
theorem at_X12_givesOf : am_at mX12_givesOf = (cd_X12_givesOf, [], 6) := rfl
set_option maxRecDepth 60000 in
theorem q_X12_givesOf_0 (sc : Nat × (Nat → Int)) (d : Nat) (r0 : Option Nat) (i1 : Int) (h : am_H) : Cl sc (d + 1) mX12_givesOf [Vr r0, Vi i1] h =
  am_rcv 12 h (Vr r0) (
  clI (Cl sc d mX12_waysOf [Vr r0, Vi i1] h) am_xt fun v2 h1 =>
  Ru sc (d + 1) mX12_givesOf 9 [Vr r0, Vi i1, Vi (-1), Vi v2, Vi 0, Vx 0] [] h1) := (Cl_at at_X12_givesOf rfl _).trans rfl
set_option maxRecDepth 60000 in
theorem q_X12_givesOf_9 (sc : Nat × (Nat → Int)) (d : Nat) (r0 : Option Nat) (i1 : Int) (i2 : Int) (i3 : Int) (i4 : Int) (u5 : am_V) (h : am_H) : Ru sc (d + 1) mX12_givesOf 9 [Vr r0, Vi i1, Vi i2, Vi i3, Vi i4, u5] [] h =
  if i4 < 60 then
    am_rcv 12 h (Vr r0) (
    clI (Cl sc d mX12_ofFamily [Vr r0, Vi i1, Vi 1] h) am_xt fun v2 h1 =>
    am_rcv 12 h1 (Vr r0) (
    clI (Cl sc d mX12_isOpen [Vr r0, Vi i4, Vi v2] h1) am_xt fun v4 h3 =>
    if v4 = 0 then
      pfI 0 12 19 h3 r0 i4 fun h5 =>
      am_rcv 12 h5 (Vr r0) (
      clI (Cl sc d mX12_waysOf [Vr r0, Vi i1] h5) am_xt fun v7 h6 =>
      pfI 0 12 19 h6 r0 (-1) fun h8 =>
      if i3 < v7 then
        clI (Cl sc d mJ9_max_7cf53 [Vi i3, Vi v7] h8) am_xt fun v12 h11 =>
        Ru sc (d + 1) mX12_givesOf 9 [Vr r0, Vi i1, Vi i4, Vi v12, Vi (w32 (i4 + 1)), Vi v7] [] h11
      else
        clI (Cl sc d mJ9_max_7cf53 [Vi i3, Vi v7] h8) am_xt fun v10 h9 =>
        Ru sc (d + 1) mX12_givesOf 9 [Vr r0, Vi i1, Vi i2, Vi v10, Vi (w32 (i4 + 1)), Vi v7] [] h9)
    else
      Ru sc (d + 1) mX12_givesOf 9 [Vr r0, Vi i1, Vi i2, Vi i3, Vi (w32 (i4 + 1)), u5] [] h3))
  else
    some (.inl (Vi i2), h) := (Ru_at at_X12_givesOf 9 _ _ _).trans rfl
theorem at_X12_family : am_at mX12_family = (cd_X12_family, [], 3) := rfl
set_option maxRecDepth 60000 in
theorem q_X12_family_0 (sc : Nat × (Nat → Int)) (d : Nat) (r0 : Option Nat) (i1 : Int) (i2 : Int) (h : am_H) : Cl sc (d + 1) mX12_family [Vr r0, Vi i1, Vi i2] h =
  pfI 0 12 0 h r0 0 fun h1 =>
  am_rcv 12 h1 (Vr r0) (
  clI (Cl sc d mX12_noFamily [Vr r0, Vi i1] h1) am_xt fun v3 h2 =>
  am_rcv 12 h2 (Vr r0) (
  clI (Cl sc d mX12_throwsIf [Vr r0, Vi v3, Vi 1] h2) am_xt fun v5 h4 =>
  if v5 = 0 then
    clI (Cl sc d mX12_in [Vi i2, Vi 0, Vi 8] h4) am_xt fun v7 h6 =>
    if v7 = 0 then
      Ru sc (d + 1) mX12_family 20 [Vr r0, Vi i1, Vi i2] [Vi 1, Vr r0] h6
    else
      Ru sc (d + 1) mX12_family 20 [Vr r0, Vi i1, Vi i2] [Vi 0, Vr r0] h6
  else
    some (.inl (Vi 0), h4))) := (Cl_at at_X12_family rfl _).trans rfl
set_option maxRecDepth 60000 in
theorem q_X12_family_20 (sc : Nat × (Nat → Int)) (d : Nat) (r0 : Option Nat) (i1 : Int) (i2 : Int) (ti0 : Int) (tr1 : Option Nat) (h : am_H) : Ru sc (d + 1) mX12_family 20 [Vr r0, Vi i1, Vi i2] [Vi ti0, Vr tr1] h =
  am_rcv 12 h (Vr tr1) (
  clI (Cl sc d mX12_throwsIf [Vr tr1, Vi ti0, Vi 2] h) am_xt fun v2 h1 =>
  if v2 = 0 then
    if i2 = 4 then
      am_rcv 12 h1 (Vr r0) (
      clI (Cl sc d mX12_waysOf [Vr r0, Vi i1] h1) am_xt fun v4 h3 =>
      some (.inl (Vi v4), h3))
    else if i2 = 5 then
      am_rcv 12 h1 (Vr r0) (
      clI (Cl sc d mX12_waysOf [Vr r0, Vi i1] h1) am_xt fun v6 h5 =>
      if 36 = 0 then none else
      some (.inl (Vi (w32 ((w32 (100 * v6)).tdiv 36))), h5))
    else if i2 = 6 then
      am_rcv 12 h1 (Vr r0) (
      clI (Cl sc d mX12_towerOf [Vr r0, Vi i1] h1) am_xt fun v8 h7 =>
      some (.inl (Vi v8), h7))
    else if i2 = 7 then
      am_rcv 12 h1 (Vr r0) (
      clI (Cl sc d mX12_shareOf [Vr r0, Vi i1] h1) am_xt fun v10 h9 =>
      some (.inl (Vi v10), h9))
    else if i2 = 8 then
      am_rcv 12 h1 (Vr r0) (
      clI (Cl sc d mX12_givesOf [Vr r0, Vi i1] h1) am_xt fun v12 h11 =>
      some (.inl (Vi v12), h11))
    else am_rcv 12 h1 (Vr r0) (
    clI (Cl sc d mX12_ofFamily [Vr r0, Vi i1, Vi i2] h1) am_xt fun v14 h13 =>
    some (.inl (Vi v14), h13))
  else
    some (.inl (Vi 0), h1)) := (Ru_at at_X12_family 20 _ _ _).trans rfl
theorem at_X12_open : am_at mX12_open = (cd_X12_open, [], 3) := rfl
set_option maxRecDepth 60000 in
theorem q_X12_open_0 (sc : Nat × (Nat → Int)) (d : Nat) (r0 : Option Nat) (i1 : Int) (i2 : Int) (h : am_H) : Cl sc (d + 1) mX12_open [Vr r0, Vi i1, Vi i2] h =
  pfI 0 12 0 h r0 0 fun h1 =>
  clI (Cl sc d mX12_noBorder [Vi i1] h1) am_xt fun v3 h2 =>
  am_rcv 12 h2 (Vr r0) (
  clI (Cl sc d mX12_throwsIf [Vr r0, Vi v3, Vi 1] h2) am_xt fun v5 h4 =>
  if v5 = 0 then
    clI (Cl sc d mX12_noHeight [Vi i2] h4) am_xt fun v7 h6 =>
    am_rcv 12 h6 (Vr r0) (
    clI (Cl sc d mX12_throwsIf [Vr r0, Vi v7, Vi 2] h6) am_xt fun v9 h8 =>
    if v9 = 0 then
      am_rcv 12 h8 (Vr r0) (
      clI (Cl sc d mX12_isOpen [Vr r0, Vi i1, Vi i2] h8) am_xt fun v11 h10 =>
      if v11 = 0 then
        some (.inl (Vi 0), h10)
      else
        some (.inl (Vi 1), h10))
    else
      some (.inl (Vi 0), h8))
  else
    some (.inl (Vi 0), h4)) := (Cl_at at_X12_open rfl _).trans rfl
theorem at_X12_orNone : am_at mX12_orNone = (cd_X12_orNone, [], 1) := rfl
set_option maxRecDepth 60000 in
theorem q_X12_orNone_0 (sc : Nat × (Nat → Int)) (d : Nat) (i0 : Int) (h : am_H) : Cl sc (d + 1) mX12_orNone [Vi i0] h =
  if i0 < 1000000 then
    some (.inl (Vi i0), h)
  else
    some (.inl (Vi (-1)), h) := (Cl_at at_X12_orNone rfl _).trans rfl
theorem at_X12_far : am_at mX12_far = (cd_X12_far, [], 3) := rfl
set_option maxRecDepth 60000 in
theorem q_X12_far_0 (sc : Nat × (Nat → Int)) (d : Nat) (r0 : Option Nat) (i1 : Int) (i2 : Int) (h : am_H) : Cl sc (d + 1) mX12_far [Vr r0, Vi i1, Vi i2] h =
  pfI 0 12 0 h r0 0 fun h1 =>
  am_rcv 12 h1 (Vr r0) (
  clI (Cl sc d mX12_noFamily [Vr r0, Vi i1] h1) am_xt fun v3 h2 =>
  if v3 = 0 then
    clI (Cl sc d mX12_noCell [Vi i2] h2) am_xt fun v11 h10 =>
    if v11 = 0 then
      am_rcv 12 h10 (Vr r0) (
      clI (Cl sc d mX12_throwsIf [Vr r0, Vi 0, Vi 1] h10) am_xt fun v13 h12 =>
      if v13 = 0 then
        am_rcv 12 h12 (Vr r0) (
        clI (Cl sc d mX12_farOf [Vr r0, Vi i1, Vi i2] h12) am_xt fun v15 h14 =>
        clI (Cl sc d mX12_orNone [Vi v15] h14) am_xt fun v17 h16 =>
        some (.inl (Vi v17), h16))
      else
        some (.inl (Vi 0), h12))
    else
      am_rcv 12 h10 (Vr r0) (
      clI (Cl sc d mX12_throwsIf [Vr r0, Vi 1, Vi 1] h10) am_xt fun v19 h18 =>
      if v19 = 0 then
        am_rcv 12 h18 (Vr r0) (
        clI (Cl sc d mX12_farOf [Vr r0, Vi i1, Vi i2] h18) am_xt fun v21 h20 =>
        clI (Cl sc d mX12_orNone [Vi v21] h20) am_xt fun v23 h22 =>
        some (.inl (Vi v23), h22))
      else
        some (.inl (Vi 0), h18))
  else
    am_rcv 12 h2 (Vr r0) (
    clI (Cl sc d mX12_throwsIf [Vr r0, Vi 1, Vi 1] h2) am_xt fun v5 h4 =>
    if v5 = 0 then
      am_rcv 12 h4 (Vr r0) (
      clI (Cl sc d mX12_farOf [Vr r0, Vi i1, Vi i2] h4) am_xt fun v7 h6 =>
      clI (Cl sc d mX12_orNone [Vi v7] h6) am_xt fun v9 h8 =>
      some (.inl (Vi v9), h8))
    else
      some (.inl (Vi 0), h4))) := (Cl_at at_X12_far rfl _).trans rfl
theorem at_X12_noTwo : am_at mX12_noTwo = (cd_X12_noTwo, [], 3) := rfl
set_option maxRecDepth 60000 in
theorem q_X12_noTwo_0 (sc : Nat × (Nat → Int)) (d : Nat) (r0 : Option Nat) (i1 : Int) (i2 : Int) (h : am_H) : Cl sc (d + 1) mX12_noTwo [Vr r0, Vi i1, Vi i2] h =
  pfI 0 12 0 h r0 0 fun h1 =>
  am_rcv 12 h1 (Vr r0) (
  clI (Cl sc d mX12_noFamily [Vr r0, Vi i1] h1) am_xt fun v3 h2 =>
  if v3 = 0 then
    am_rcv 12 h2 (Vr r0) (
    clI (Cl sc d mX12_noFamily [Vr r0, Vi i2] h2) am_xt fun v5 h4 =>
    if v5 = 0 then
      Ru sc (d + 1) mX12_noTwo 16 [Vr r0, Vi i1, Vi i2] [Vi 0, Vr r0] h4
    else
      Ru sc (d + 1) mX12_noTwo 16 [Vr r0, Vi i1, Vi i2] [Vi 1, Vr r0] h4)
  else
    Ru sc (d + 1) mX12_noTwo 16 [Vr r0, Vi i1, Vi i2] [Vi 1, Vr r0] h2) := (Cl_at at_X12_noTwo rfl _).trans rfl
set_option maxRecDepth 60000 in
theorem q_X12_noTwo_16 (sc : Nat × (Nat → Int)) (d : Nat) (r0 : Option Nat) (i1 : Int) (i2 : Int) (ti0 : Int) (tr1 : Option Nat) (h : am_H) : Ru sc (d + 1) mX12_noTwo 16 [Vr r0, Vi i1, Vi i2] [Vi ti0, Vr tr1] h =
  am_rcv 12 h (Vr tr1) (
  clI (Cl sc d mX12_throwsIf [Vr tr1, Vi ti0, Vi 1] h) am_xt fun v2 h1 =>
  if v2 = 0 then
    if i1 = i2 then
      am_rcv 12 h1 (Vr r0) (
      clI (Cl sc d mX12_throwsIf [Vr r0, Vi 1, Vi 2] h1) am_xt fun v6 h5 =>
      if v6 = 0 then
        some (.inl (Vi 0), h5)
      else
        some (.inl (Vi 1), h5))
    else
      am_rcv 12 h1 (Vr r0) (
      clI (Cl sc d mX12_throwsIf [Vr r0, Vi 0, Vi 2] h1) am_xt fun v4 h3 =>
      if v4 = 0 then
        some (.inl (Vi 0), h3)
      else
        some (.inl (Vi 1), h3))
  else
    some (.inl (Vi 1), h1)) := (Ru_at at_X12_noTwo 16 _ _ _).trans rfl
theorem at_X12_canMeet : am_at mX12_canMeet = (cd_X12_canMeet, [], 3) := rfl
set_option maxRecDepth 60000 in
theorem q_X12_canMeet_0 (sc : Nat × (Nat → Int)) (d : Nat) (r0 : Option Nat) (i1 : Int) (i2 : Int) (h : am_H) : Cl sc (d + 1) mX12_canMeet [Vr r0, Vi i1, Vi i2] h =
  am_rcv 12 h (Vr r0) (
  clI (Cl sc d mX12_ofFamily [Vr r0, Vi i2, Vi 0] h) am_xt fun v2 h1 =>
  am_rcv 12 h1 (Vr r0) (
  clI (Cl sc d mX12_farOf [Vr r0, Vi i1, Vi v2] h1) am_xt fun v4 h3 =>
  if v4 < 1000000 then
    am_rcv 12 h3 (Vr r0) (
    clI (Cl sc d mX12_ofFamily [Vr r0, Vi i1, Vi 0] h3) am_xt fun v6 h5 =>
    am_rcv 12 h5 (Vr r0) (
    clI (Cl sc d mX12_farOf [Vr r0, Vi i2, Vi v6] h5) am_xt fun v8 h7 =>
    if v8 < 1000000 then
      some (.inl (Vi 1), h7)
    else
      some (.inl (Vi 0), h7)))
  else
    some (.inl (Vi 0), h3))) := (Cl_at at_X12_canMeet rfl _).trans rfl
theorem at_X12_meet : am_at mX12_meet = (cd_X12_meet, [], 3) := rfl
set_option maxRecDepth 60000 in
theorem q_X12_meet_0 (sc : Nat × (Nat → Int)) (d : Nat) (r0 : Option Nat) (i1 : Int) (i2 : Int) (h : am_H) : Cl sc (d + 1) mX12_meet [Vr r0, Vi i1, Vi i2] h =
  am_rcv 12 h (Vr r0) (
  clI (Cl sc d mX12_noTwo [Vr r0, Vi i1, Vi i2] h) am_xt fun v2 h1 =>
  if v2 = 0 then
    am_rcv 12 h1 (Vr r0) (
    clI (Cl sc d mX12_canMeet [Vr r0, Vi i1, Vi i2] h1) am_xt fun v4 h3 =>
    if v4 = 0 then
      some (.inl (Vi 0), h3)
    else
      some (.inl (Vi 1), h3))
  else
    some (.inl (Vi 0), h1)) := (Cl_at at_X12_meet rfl _).trans rfl
theorem at_X12_halfway : am_at mX12_halfway = (cd_X12_halfway, [], 7) := rfl
set_option maxRecDepth 60000 in
theorem q_X12_halfway_0 (sc : Nat × (Nat → Int)) (d : Nat) (r0 : Option Nat) (i1 : Int) (i2 : Int) (h : am_H) : Cl sc (d + 1) mX12_halfway [Vr r0, Vi i1, Vi i2] h =
  am_rcv 12 h (Vr r0) (
  clI (Cl sc d mX12_noTwo [Vr r0, Vi i1, Vi i2] h) am_xt fun v2 h1 =>
  if v2 = 0 then
    am_rcv 12 h1 (Vr r0) (
    clI (Cl sc d mX12_waysOf [Vr r0, Vi i1] h1) am_xt fun v4 h3 =>
    Ru sc (d + 1) mX12_halfway 14 [Vr r0, Vi i1, Vi i2, Vi 0, Vx 0, Vx 0, Vx 0] [] h3)
  else
    some (.inl (Vi 0), h1)) := (Cl_at at_X12_halfway rfl _).trans rfl
set_option maxRecDepth 60000 in
theorem q_X12_halfway_14 (sc : Nat × (Nat → Int)) (d : Nat) (r0 : Option Nat) (i1 : Int) (i2 : Int) (i3 : Int) (u4 : am_V) (u5 : am_V) (u6 : am_V) (h : am_H) : Ru sc (d + 1) mX12_halfway 14 [Vr r0, Vi i1, Vi i2, Vi i3, u4, u5, u6] [] h =
  if i3 < 36 then
    gfP 12 21 h r0 fun p3 =>
    gfP 12 20 h r0 fun p4 =>
    ldA 1 h p4 i3 fun v5 =>
    stA 1 h p3 i3 v5 fun h6 =>
    Ru sc (d + 1) mX12_halfway 14 [Vr r0, Vi i1, Vi i2, Vi (w32 (i3 + 1)), u4, u5, u6] [] h6
  else
    am_rcv 12 h (Vr r0) (
    clI (Cl sc d mX12_waysOf [Vr r0, Vi i2] h) am_xt fun v2 h1 =>
    Ru sc (d + 1) mX12_halfway 38 [Vr r0, Vi i1, Vi i2, Vi (-1), Vi 1000000, Vi 0, u6] [] h1) := (Ru_at at_X12_halfway 14 _ _ _).trans rfl
set_option maxRecDepth 60000 in
theorem q_X12_halfway_38 (sc : Nat × (Nat → Int)) (d : Nat) (r0 : Option Nat) (i1 : Int) (i2 : Int) (i3 : Int) (i4 : Int) (i5 : Int) (u6 : am_V) (h : am_H) : Ru sc (d + 1) mX12_halfway 38 [Vr r0, Vi i1, Vi i2, Vi i3, Vi i4, Vi i5, u6] [] h =
  if i5 < 36 then
    gfP 12 21 h r0 fun p1 =>
    ldA 1 h p1 i5 fun v2 =>
    gfP 12 20 h r0 fun p3 =>
    ldA 1 h p3 i5 fun v4 =>
    if (w32 (v2 + v4)) < i4 then
      clI (Cl sc d mJ9_min_7cf53 [Vi i4, Vi (w32 (v2 + v4))] h) am_xt fun v8 h7 =>
      Ru sc (d + 1) mX12_halfway 38 [Vr r0, Vi i1, Vi i2, Vi i5, Vi v8, Vi (w32 (i5 + 1)), Vi (w32 (v2 + v4))] [] h7
    else
      clI (Cl sc d mJ9_min_7cf53 [Vi i4, Vi (w32 (v2 + v4))] h) am_xt fun v6 h5 =>
      Ru sc (d + 1) mX12_halfway 38 [Vr r0, Vi i1, Vi i2, Vi i3, Vi v6, Vi (w32 (i5 + 1)), Vi (w32 (v2 + v4))] [] h5
  else
    some (.inl (Vi i3), h) := (Ru_at at_X12_halfway 38 _ _ _).trans rfl
theorem at_X12_seesOver : am_at mX12_seesOver = (cd_X12_seesOver, [], 3) := rfl
set_option maxRecDepth 60000 in
theorem q_X12_seesOver_0 (sc : Nat × (Nat → Int)) (d : Nat) (r0 : Option Nat) (i1 : Int) (i2 : Int) (h : am_H) : Cl sc (d + 1) mX12_seesOver [Vr r0, Vi i1, Vi i2] h =
  am_rcv 12 h (Vr r0) (
  clI (Cl sc d mX12_hasFence [Vr r0, Vi i2] h) am_xt fun v2 h1 =>
  if v2 = 0 then
    some (.inl (Vi 1), h1)
  else
    am_rcv 12 h1 (Vr r0) (
    clI (Cl sc d mX12_of [Vr r0, Vi i2, Vi 2] h1) am_xt fun v4 h3 =>
    am_rcv 12 h3 (Vr r0) (
    clI (Cl sc d mX12_ofFamily [Vr r0, Vi i1, Vi 2] h3) am_xt fun v6 h5 =>
    if v4 < v6 then
      some (.inl (Vi 1), h5)
    else
      some (.inl (Vi 0), h5)))) := (Cl_at at_X12_seesOver rfl _).trans rfl
theorem at_X12_seesCell : am_at mX12_seesCell = (cd_X12_seesCell, [], 7) := rfl
set_option maxRecDepth 60000 in
theorem q_X12_seesCell_0 (sc : Nat × (Nat → Int)) (d : Nat) (r0 : Option Nat) (i1 : Int) (i2 : Int) (h : am_H) : Cl sc (d + 1) mX12_seesCell [Vr r0, Vi i1, Vi i2] h =
  am_rcv 12 h (Vr r0) (
  clI (Cl sc d mX12_ofFamily [Vr r0, Vi i1, Vi 0] h) am_xt fun v2 h1 =>
  if 6 = 0 then none else
  if 6 = 0 then none else
  if (v2.tmod 6) = (i2.tmod 6) then
    Ru sc (d + 1) mX12_seesCell 21 [Vr r0, Vi i1, Vi i2, Vi v2, Vx 0, Vx 0, Vx 0] [] h1
  else
    if 6 = 0 then none else
    if 6 = 0 then none else
    if (w32 (v2.tdiv 6)) = (w32 (i2.tdiv 6)) then
      Ru sc (d + 1) mX12_seesCell 21 [Vr r0, Vi i1, Vi i2, Vi v2, Vx 0, Vx 0, Vx 0] [] h1
    else
      some (.inl (Vi 0), h1)) := (Cl_at at_X12_seesCell rfl _).trans rfl
set_option maxRecDepth 60000 in
theorem q_X12_seesCell_21 (sc : Nat × (Nat → Int)) (d : Nat) (r0 : Option Nat) (i1 : Int) (i2 : Int) (i3 : Int) (u4 : am_V) (u5 : am_V) (u6 : am_V) (h : am_H) : Ru sc (d + 1) mX12_seesCell 21 [Vr r0, Vi i1, Vi i2, Vi i3, u4, u5, u6] [] h =
  if 6 = 0 then none else
  if 6 = 0 then none else
  if (i3.tmod 6) = (i2.tmod 6) then
    if i2 < i3 then
      Ru sc (d + 1) mX12_seesCell 45 [Vr r0, Vi i1, Vi i2, Vi i3, Vi 2, Vi 1, u6] [] h
    else
      Ru sc (d + 1) mX12_seesCell 45 [Vr r0, Vi i1, Vi i2, Vi i3, Vi 3, Vi 1, u6] [] h
  else
    if i2 < i3 then
      Ru sc (d + 1) mX12_seesCell 45 [Vr r0, Vi i1, Vi i2, Vi i3, Vi 0, Vi 1, u6] [] h
    else
      Ru sc (d + 1) mX12_seesCell 45 [Vr r0, Vi i1, Vi i2, Vi i3, Vi 1, Vi 1, u6] [] h := (Ru_at at_X12_seesCell 21 _ _ _).trans rfl
set_option maxRecDepth 60000 in
theorem q_X12_seesCell_45 (sc : Nat × (Nat → Int)) (d : Nat) (r0 : Option Nat) (i1 : Int) (i2 : Int) (i3 : Int) (i4 : Int) (i5 : Int) (u6 : am_V) (h : am_H) : Ru sc (d + 1) mX12_seesCell 45 [Vr r0, Vi i1, Vi i2, Vi i3, Vi i4, Vi i5, u6] [] h =
  if i3 = i2 then
    am_ret 1 i5 h
  else
    if i5 = 0 then
      am_ret 1 i5 h
    else
      clI (Cl sc d mX12_sideOf [Vi i3, Vi i4] h) am_xt fun v2 h1 =>
      am_rcv 12 h1 (Vr r0) (
      clI (Cl sc d mX12_seesOver [Vr r0, Vi i1, Vi v2] h1) am_xt fun v4 h3 =>
      clI (Cl sc d mX12_otherOf [Vi v2, Vi i3] h3) am_xt fun v6 h5 =>
      Ru sc (d + 1) mX12_seesCell 45 [Vr r0, Vi i1, Vi i2, Vi v6, Vi i4, Vi v4, Vi v2] [] h5) := (Ru_at at_X12_seesCell 45 _ _ _).trans rfl
theorem at_X12_sees : am_at mX12_sees = (cd_X12_sees, [], 3) := rfl
set_option maxRecDepth 60000 in
theorem q_X12_sees_0 (sc : Nat × (Nat → Int)) (d : Nat) (r0 : Option Nat) (i1 : Int) (i2 : Int) (h : am_H) : Cl sc (d + 1) mX12_sees [Vr r0, Vi i1, Vi i2] h =
  pfI 0 12 0 h r0 0 fun h1 =>
  am_rcv 12 h1 (Vr r0) (
  clI (Cl sc d mX12_noFamily [Vr r0, Vi i1] h1) am_xt fun v3 h2 =>
  if v3 = 0 then
    clI (Cl sc d mX12_noCell [Vi i2] h2) am_xt fun v5 h4 =>
    if v5 = 0 then
      Ru sc (d + 1) mX12_sees 15 [Vr r0, Vi i1, Vi i2] [Vi 0, Vr r0] h4
    else
      Ru sc (d + 1) mX12_sees 15 [Vr r0, Vi i1, Vi i2] [Vi 1, Vr r0] h4
  else
    Ru sc (d + 1) mX12_sees 15 [Vr r0, Vi i1, Vi i2] [Vi 1, Vr r0] h2) := (Cl_at at_X12_sees rfl _).trans rfl
set_option maxRecDepth 60000 in
theorem q_X12_sees_15 (sc : Nat × (Nat → Int)) (d : Nat) (r0 : Option Nat) (i1 : Int) (i2 : Int) (ti0 : Int) (tr1 : Option Nat) (h : am_H) : Ru sc (d + 1) mX12_sees 15 [Vr r0, Vi i1, Vi i2] [Vi ti0, Vr tr1] h =
  am_rcv 12 h (Vr tr1) (
  clI (Cl sc d mX12_throwsIf [Vr tr1, Vi ti0, Vi 1] h) am_xt fun v2 h1 =>
  if v2 = 0 then
    am_rcv 12 h1 (Vr r0) (
    clI (Cl sc d mX12_seesCell [Vr r0, Vi i1, Vi i2] h1) am_xt fun v4 h3 =>
    if v4 = 0 then
      some (.inl (Vi 0), h3)
    else
      some (.inl (Vi 1), h3))
  else
    some (.inl (Vi 0), h1)) := (Ru_at at_X12_sees 15 _ _ _).trans rfl
theorem at_X12_waves : am_at mX12_waves = (cd_X12_waves, [], 4) := rfl
set_option maxRecDepth 60000 in
theorem q_X12_waves_0 (sc : Nat × (Nat → Int)) (d : Nat) (r0 : Option Nat) (h : am_H) : Cl sc (d + 1) mX12_waves [Vr r0] h =
  pfI 0 12 0 h r0 0 fun h1 =>
  Ru sc (d + 1) mX12_waves 8 [Vr r0, Vi 0, Vi 0, Vx 0] [] h1 := (Cl_at at_X12_waves rfl _).trans rfl
set_option maxRecDepth 60000 in
theorem q_X12_waves_8 (sc : Nat × (Nat → Int)) (d : Nat) (r0 : Option Nat) (i1 : Int) (i2 : Int) (u3 : am_V) (h : am_H) : Ru sc (d + 1) mX12_waves 8 [Vr r0, Vi i1, Vi i2, u3] [] h =
  am_rcv 12 h (Vr r0) (
  clI (Cl sc d mX12_families [Vr r0] h) am_xt fun v2 h1 =>
  if i2 < v2 then
    Ru sc (d + 1) mX12_waves 15 [Vr r0, Vi i1, Vi i2, Vi 0] [] h1
  else
    some (.inl (Vi i1), h1)) := (Ru_at at_X12_waves 8 _ _ _).trans rfl
set_option maxRecDepth 60000 in
theorem q_X12_waves_15 (sc : Nat × (Nat → Int)) (d : Nat) (r0 : Option Nat) (i1 : Int) (i2 : Int) (i3 : Int) (h : am_H) : Ru sc (d + 1) mX12_waves 15 [Vr r0, Vi i1, Vi i2, Vi i3] [] h =
  if i3 < i2 then
    am_rcv 12 h (Vr r0) (
    clI (Cl sc d mX12_ofFamily [Vr r0, Vi i3, Vi 0] h) am_xt fun v2 h1 =>
    am_rcv 12 h1 (Vr r0) (
    clI (Cl sc d mX12_seesCell [Vr r0, Vi i2, Vi v2] h1) am_xt fun v4 h3 =>
    if v4 = 0 then
      Ru sc (d + 1) mX12_waves 15 [Vr r0, Vi (w32 (i1 + 0)), Vi i2, Vi (w32 (i3 + 1))] [] h3
    else
      am_rcv 12 h3 (Vr r0) (
      clI (Cl sc d mX12_ofFamily [Vr r0, Vi i2, Vi 0] h3) am_xt fun v6 h5 =>
      am_rcv 12 h5 (Vr r0) (
      clI (Cl sc d mX12_seesCell [Vr r0, Vi i3, Vi v6] h5) am_xt fun v8 h7 =>
      if v8 = 0 then
        Ru sc (d + 1) mX12_waves 15 [Vr r0, Vi (w32 (i1 + 0)), Vi i2, Vi (w32 (i3 + 1))] [] h7
      else
        Ru sc (d + 1) mX12_waves 15 [Vr r0, Vi (w32 (i1 + 1)), Vi i2, Vi (w32 (i3 + 1))] [] h7))))
  else
    Ru sc (d + 1) mX12_waves 8 [Vr r0, Vi i1, Vi (w32 (i2 + 1)), Vi i3] [] h := (Ru_at at_X12_waves 15 _ _ _).trans rfl
theorem at_X12_hidden : am_at mX12_hidden = (cd_X12_hidden, [], 5) := rfl
set_option maxRecDepth 60000 in
theorem q_X12_hidden_0 (sc : Nat × (Nat → Int)) (d : Nat) (r0 : Option Nat) (h : am_H) : Cl sc (d + 1) mX12_hidden [Vr r0] h =
  pfI 0 12 0 h r0 0 fun h1 =>
  Ru sc (d + 1) mX12_hidden 8 [Vr r0, Vi 0, Vi 0, Vx 0, Vx 0] [] h1 := (Cl_at at_X12_hidden rfl _).trans rfl
set_option maxRecDepth 60000 in
theorem q_X12_hidden_8 (sc : Nat × (Nat → Int)) (d : Nat) (r0 : Option Nat) (i1 : Int) (i2 : Int) (u3 : am_V) (u4 : am_V) (h : am_H) : Ru sc (d + 1) mX12_hidden 8 [Vr r0, Vi i1, Vi i2, u3, u4] [] h =
  am_rcv 12 h (Vr r0) (
  clI (Cl sc d mX12_families [Vr r0] h) am_xt fun v2 h1 =>
  if i2 < v2 then
    Ru sc (d + 1) mX12_hidden 17 [Vr r0, Vi i1, Vi i2, Vi 0, Vi 0] [] h1
  else
    some (.inl (Vi i1), h1)) := (Ru_at at_X12_hidden 8 _ _ _).trans rfl
set_option maxRecDepth 60000 in
theorem q_X12_hidden_17 (sc : Nat × (Nat → Int)) (d : Nat) (r0 : Option Nat) (i1 : Int) (i2 : Int) (i3 : Int) (i4 : Int) (h : am_H) : Ru sc (d + 1) mX12_hidden 17 [Vr r0, Vi i1, Vi i2, Vi i3, Vi i4] [] h =
  am_rcv 12 h (Vr r0) (
  clI (Cl sc d mX12_families [Vr r0] h) am_xt fun v2 h1 =>
  if i4 < v2 then
    if i3 = 0 then
      if i4 = i2 then
        Ru sc (d + 1) mX12_hidden 17 [Vr r0, Vi i1, Vi i2, Vi 0, Vi (w32 (i4 + 1))] [] h1
      else
        am_rcv 12 h1 (Vr r0) (
        clI (Cl sc d mX12_ofFamily [Vr r0, Vi i2, Vi 0] h1) am_xt fun v4 h3 =>
        am_rcv 12 h3 (Vr r0) (
        clI (Cl sc d mX12_seesCell [Vr r0, Vi i4, Vi v4] h3) am_xt fun v6 h5 =>
        if v6 = 0 then
          Ru sc (d + 1) mX12_hidden 17 [Vr r0, Vi i1, Vi i2, Vi 0, Vi (w32 (i4 + 1))] [] h5
        else
          Ru sc (d + 1) mX12_hidden 17 [Vr r0, Vi i1, Vi i2, Vi 1, Vi (w32 (i4 + 1))] [] h5))
    else
      Ru sc (d + 1) mX12_hidden 17 [Vr r0, Vi i1, Vi i2, Vi 1, Vi (w32 (i4 + 1))] [] h1
  else
    if i3 = 0 then
      Ru sc (d + 1) mX12_hidden 8 [Vr r0, Vi (bOr i1 (bShl 1 i2)), Vi (w32 (i2 + 1)), Vi i3, Vi i4] [] h1
    else
      Ru sc (d + 1) mX12_hidden 8 [Vr r0, Vi (bOr i1 0), Vi (w32 (i2 + 1)), Vi i3, Vi i4] [] h1) := (Ru_at at_X12_hidden 17 _ _ _).trans rfl
theorem at_X12_noCells : am_at mX12_noCells = (cd_X12_noCells, [], 4) := rfl
set_option maxRecDepth 60000 in
theorem q_X12_noCells_0 (sc : Nat × (Nat → Int)) (d : Nat) (r0 : Option Nat) (i1 : Int) (i2 : Int) (i3 : Int) (h : am_H) : Cl sc (d + 1) mX12_noCells [Vr r0, Vi i1, Vi i2, Vi i3] h =
  pfI 0 12 0 h r0 0 fun h1 =>
  clI (Cl sc d mX12_noCell [Vi i1] h1) am_xt fun v3 h2 =>
  if v3 = 0 then
    clI (Cl sc d mX12_noCell [Vi i2] h2) am_xt fun v5 h4 =>
    if v5 = 0 then
      Ru sc (d + 1) mX12_noCells 14 [Vr r0, Vi i1, Vi i2, Vi i3] [Vi 0, Vr r0] h4
    else
      Ru sc (d + 1) mX12_noCells 14 [Vr r0, Vi i1, Vi i2, Vi i3] [Vi 1, Vr r0] h4
  else
    Ru sc (d + 1) mX12_noCells 14 [Vr r0, Vi i1, Vi i2, Vi i3] [Vi 1, Vr r0] h2 := (Cl_at at_X12_noCells rfl _).trans rfl
set_option maxRecDepth 60000 in
theorem q_X12_noCells_14 (sc : Nat × (Nat → Int)) (d : Nat) (r0 : Option Nat) (i1 : Int) (i2 : Int) (i3 : Int) (ti0 : Int) (tr1 : Option Nat) (h : am_H) : Ru sc (d + 1) mX12_noCells 14 [Vr r0, Vi i1, Vi i2, Vi i3] [Vi ti0, Vr tr1] h =
  am_rcv 12 h (Vr tr1) (
  clI (Cl sc d mX12_throwsIf [Vr tr1, Vi ti0, Vi 1] h) am_xt fun v2 h1 =>
  if v2 = 0 then
    clI (Cl sc d mX12_noHeight [Vi i3] h1) am_xt fun v4 h3 =>
    am_rcv 12 h3 (Vr r0) (
    clI (Cl sc d mX12_throwsIf [Vr r0, Vi v4, Vi 2] h3) am_xt fun v6 h5 =>
    if v6 = 0 then
      some (.inl (Vi 0), h5)
    else
      some (.inl (Vi 1), h5))
  else
    some (.inl (Vi 1), h1)) := (Ru_at at_X12_noCells 14 _ _ _).trans rfl
theorem at_X12_pulls : am_at mX12_pulls = (cd_X12_pulls, [], 4) := rfl
set_option maxRecDepth 60000 in
theorem q_X12_pulls_0 (sc : Nat × (Nat → Int)) (d : Nat) (r0 : Option Nat) (i1 : Int) (i2 : Int) (i3 : Int) (h : am_H) : Cl sc (d + 1) mX12_pulls [Vr r0, Vi i1, Vi i2, Vi i3] h =
  am_rcv 12 h (Vr r0) (
  clI (Cl sc d mX12_noCells [Vr r0, Vi i1, Vi i2, Vi i3] h) am_xt fun v2 h1 =>
  if v2 = 0 then
    am_rcv 12 h1 (Vr r0) (
    clV (Cl sc d mX12_from [Vr r0, Vi i1, Vi 1, Vi i3] h1) am_xt fun h3 =>
    gfP 12 20 h3 r0 fun p4 =>
    ldA 1 h3 p4 i2 fun v5 =>
    some (.inl (Vi v5), h3))
  else
    some (.inl (Vi 0), h1)) := (Cl_at at_X12_pulls rfl _).trans rfl
theorem at_X12_lowest : am_at mX12_lowest = (cd_X12_lowest, [], 3) := rfl
set_option maxRecDepth 60000 in
theorem q_X12_lowest_0 (sc : Nat × (Nat → Int)) (d : Nat) (r0 : Option Nat) (i1 : Int) (i2 : Int) (h : am_H) : Cl sc (d + 1) mX12_lowest [Vr r0, Vi i1, Vi i2] h =
  am_rcv 12 h (Vr r0) (
  clI (Cl sc d mX12_noCells [Vr r0, Vi i1, Vi i2, Vi 0] h) am_xt fun v2 h1 =>
  if v2 = 0 then
    am_rcv 12 h1 (Vr r0) (
    clV (Cl sc d mX12_from [Vr r0, Vi i1, Vi 2, Vi 0] h1) am_xt fun h3 =>
    gfP 12 20 h3 r0 fun p4 =>
    ldA 1 h3 p4 i2 fun v5 =>
    some (.inl (Vi v5), h3))
  else
    some (.inl (Vi 0), h1)) := (Cl_at at_X12_lowest rfl _).trans rfl
theorem at_X12_one : am_at mX12_one = (cd_X12_one, [], 3) := rfl
set_option maxRecDepth 60000 in
theorem q_X12_one_0 (sc : Nat × (Nat → Int)) (d : Nat) (r0 : Option Nat) (i1 : Int) (i2 : Int) (h : am_H) : Cl sc (d + 1) mX12_one [Vr r0, Vi i1, Vi i2] h =
  am_rcv 12 h (Vr r0) (
  clI (Cl sc d mX12_noCells [Vr r0, Vi i1, Vi i2, Vi 0] h) am_xt fun v2 h1 =>
  if v2 = 0 then
    am_rcv 12 h1 (Vr r0) (
    clV (Cl sc d mX12_from [Vr r0, Vi i1, Vi 3, Vi 0] h1) am_xt fun h3 =>
    gfP 12 20 h3 r0 fun p4 =>
    ldA 1 h3 p4 i2 fun v5 =>
    some (.inl (Vi v5), h3))
  else
    some (.inl (Vi 0), h1)) := (Cl_at at_X12_one rfl _).trans rfl
theorem at_X12_mayGo : am_at mX12_mayGo = (cd_X12_mayGo, [], 4) := rfl
set_option maxRecDepth 60000 in
theorem q_X12_mayGo_0 (sc : Nat × (Nat → Int)) (d : Nat) (r0 : Option Nat) (i1 : Int) (i2 : Int) (i3 : Int) (h : am_H) : Cl sc (d + 1) mX12_mayGo [Vr r0, Vi i1, Vi i2, Vi i3] h =
  am_rcv 12 h (Vr r0) (
  clI (Cl sc d mX12_isOpen [Vr r0, Vi i1, Vi i3] h) am_xt fun v2 h1 =>
  if v2 = 0 then
    some (.inl (Vi 0), h1)
  else
    gfP 12 22 h1 r0 fun p3 =>
    ldA 1 h1 p3 i1 fun v4 =>
    clI (Cl sc d mX12_lessOf [Vi i1] h1) am_xt fun v6 h5 =>
    if v6 = i2 then
      if v4 = 1 then
        some (.inl (Vi 0), h5)
      else
        some (.inl (Vi 1), h5)
    else
      if v4 = (-1) then
        some (.inl (Vi 0), h5)
      else
        some (.inl (Vi 1), h5)) := (Cl_at at_X12_mayGo rfl _).trans rfl
theorem at_X12_goesOnce : am_at mX12_goesOnce = (cd_X12_goesOnce, [], 8) := rfl
set_option maxRecDepth 60000 in
theorem q_X12_goesOnce_0 (sc : Nat × (Nat → Int)) (d : Nat) (r0 : Option Nat) (i1 : Int) (i2 : Int) (i3 : Int) (h : am_H) : Cl sc (d + 1) mX12_goesOnce [Vr r0, Vi i1, Vi i2, Vi i3] h =
  Ru sc (d + 1) mX12_goesOnce 3 [Vr r0, Vi i1, Vi i2, Vi i3, Vi 0, Vx 0, Vx 0, Vx 0] [] h := (Cl_at at_X12_goesOnce rfl _).trans rfl
set_option maxRecDepth 60000 in
theorem q_X12_goesOnce_3 (sc : Nat × (Nat → Int)) (d : Nat) (r0 : Option Nat) (i1 : Int) (i2 : Int) (i3 : Int) (i4 : Int) (u5 : am_V) (u6 : am_V) (u7 : am_V) (h : am_H) : Ru sc (d + 1) mX12_goesOnce 3 [Vr r0, Vi i1, Vi i2, Vi i3, Vi i4, u5, u6, u7] [] h =
  if i4 < 36 then
    gfP 12 23 h r0 fun p3 =>
    stA 1 h p3 i4 (-1) fun h4 =>
    Ru sc (d + 1) mX12_goesOnce 3 [Vr r0, Vi i1, Vi i2, Vi i3, Vi (w32 (i4 + 1)), u5, u6, u7] [] h4
  else
    gfP 12 23 h r0 fun p1 =>
    stA 1 h p1 i1 60 fun h2 =>
    Ru sc (d + 1) mX12_goesOnce 21 [Vr r0, Vi i1, Vi i2, Vi i3, Vi 1, u5, u6, u7] [] h2 := (Ru_at at_X12_goesOnce 3 _ _ _).trans rfl
set_option maxRecDepth 60000 in
theorem q_X12_goesOnce_21 (sc : Nat × (Nat → Int)) (d : Nat) (r0 : Option Nat) (i1 : Int) (i2 : Int) (i3 : Int) (i4 : Int) (u5 : am_V) (u6 : am_V) (u7 : am_V) (h : am_H) : Ru sc (d + 1) mX12_goesOnce 21 [Vr r0, Vi i1, Vi i2, Vi i3, Vi i4, u5, u6, u7] [] h =
  if i4 = 0 then
    gfP 12 23 h r0 fun p1 =>
    ldA 1 h p1 i2 fun v2 =>
    if v2 = (-1) then
      some (.inl (Vi 0), h)
    else
      Ru sc (d + 1) mX12_goesOnce 96 [Vr r0, Vi i1, Vi i2, Vi i3, Vi i4, Vi i2, u6, u7] [] h
  else
    gfP 12 23 h r0 fun p3 =>
    ldA 1 h p3 i2 fun v4 =>
    if v4 = (-1) then
      Ru sc (d + 1) mX12_goesOnce 34 [Vr r0, Vi i1, Vi i2, Vi i3, Vi 0, Vi 0, u6, u7] [] h
    else
      gfP 12 23 h r0 fun p5 =>
      ldA 1 h p5 i2 fun v6 =>
      if v6 = (-1) then
        some (.inl (Vi 0), h)
      else
        Ru sc (d + 1) mX12_goesOnce 96 [Vr r0, Vi i1, Vi i2, Vi i3, Vi i4, Vi i2, u6, u7] [] h := (Ru_at at_X12_goesOnce 21 _ _ _).trans rfl
set_option maxRecDepth 60000 in
theorem q_X12_goesOnce_34 (sc : Nat × (Nat → Int)) (d : Nat) (r0 : Option Nat) (i1 : Int) (i2 : Int) (i3 : Int) (i4 : Int) (i5 : Int) (u6 : am_V) (u7 : am_V) (h : am_H) : Ru sc (d + 1) mX12_goesOnce 34 [Vr r0, Vi i1, Vi i2, Vi i3, Vi i4, Vi i5, u6, u7] [] h =
  if i5 < 36 then
    Ru sc (d + 1) mX12_goesOnce 40 [Vr r0, Vi i1, Vi i2, Vi i3, Vi i4, Vi i5, Vi 0, u7] [] h
  else
    Ru sc (d + 1) mX12_goesOnce 21 [Vr r0, Vi i1, Vi i2, Vi i3, Vi i4, Vi i5, u6, u7] [] h := (Ru_at at_X12_goesOnce 34 _ _ _).trans rfl
set_option maxRecDepth 60000 in
theorem q_X12_goesOnce_40 (sc : Nat × (Nat → Int)) (d : Nat) (r0 : Option Nat) (i1 : Int) (i2 : Int) (i3 : Int) (i4 : Int) (i5 : Int) (i6 : Int) (u7 : am_V) (h : am_H) : Ru sc (d + 1) mX12_goesOnce 40 [Vr r0, Vi i1, Vi i2, Vi i3, Vi i4, Vi i5, Vi i6, u7] [] h =
  if i6 < 4 then
    gfP 12 23 h r0 fun p1 =>
    ldA 1 h p1 i5 fun v2 =>
    if v2 = (-1) then
      Ru sc (d + 1) mX12_goesOnce 34 [Vr r0, Vi i1, Vi i2, Vi i3, Vi i4, Vi (w32 (i5 + 1)), Vi i6, u7] [] h
    else
      clI (Cl sc d mX12_sideOf [Vi i5, Vi i6] h) am_xt fun v4 h3 =>
      if v4 = (-1) then
        Ru sc (d + 1) mX12_goesOnce 40 [Vr r0, Vi i1, Vi i2, Vi i3, Vi i4, Vi i5, Vi (w32 (i6 + 1)), Vi v4] [] h3
      else
        gfP 12 23 h3 r0 fun p5 =>
        clI (Cl sc d mX12_otherOf [Vi v4, Vi i5] h3) am_xt fun v7 h6 =>
        ldA 1 h6 p5 v7 fun v8 =>
        if v8 = (-1) then
          am_rcv 12 h6 (Vr r0) (
          clI (Cl sc d mX12_mayGo [Vr r0, Vi v4, Vi i5, Vi i3] h6) am_xt fun v10 h9 =>
          if v10 = 0 then
            Ru sc (d + 1) mX12_goesOnce 40 [Vr r0, Vi i1, Vi i2, Vi i3, Vi i4, Vi i5, Vi (w32 (i6 + 1)), Vi v4] [] h9
          else
            gfP 12 23 h9 r0 fun p11 =>
            clI (Cl sc d mX12_otherOf [Vi v4, Vi i5] h9) am_xt fun v13 h12 =>
            stA 1 h12 p11 v13 v4 fun h14 =>
            Ru sc (d + 1) mX12_goesOnce 40 [Vr r0, Vi i1, Vi i2, Vi i3, Vi 1, Vi i5, Vi (w32 (i6 + 1)), Vi v4] [] h14)
        else
          Ru sc (d + 1) mX12_goesOnce 40 [Vr r0, Vi i1, Vi i2, Vi i3, Vi i4, Vi i5, Vi (w32 (i6 + 1)), Vi v4] [] h6
  else
    Ru sc (d + 1) mX12_goesOnce 34 [Vr r0, Vi i1, Vi i2, Vi i3, Vi i4, Vi (w32 (i5 + 1)), Vi i6, u7] [] h := (Ru_at at_X12_goesOnce 40 _ _ _).trans rfl
set_option maxRecDepth 60000 in
theorem q_X12_goesOnce_96 (sc : Nat × (Nat → Int)) (d : Nat) (r0 : Option Nat) (i1 : Int) (i2 : Int) (i3 : Int) (i4 : Int) (i5 : Int) (u6 : am_V) (u7 : am_V) (h : am_H) : Ru sc (d + 1) mX12_goesOnce 96 [Vr r0, Vi i1, Vi i2, Vi i3, Vi i4, Vi i5, u6, u7] [] h =
  if i5 = i1 then
    some (.inl (Vi 1), h)
  else
    gfP 12 23 h r0 fun p1 =>
    ldA 1 h p1 i5 fun v2 =>
    clI (Cl sc d mX12_otherOf [Vi v2, Vi i5] h) am_xt fun v4 h3 =>
    gfP 12 22 h3 r0 fun p5 =>
    ldA 1 h3 p5 v2 fun v6 =>
    clI (Cl sc d mX12_lessOf [Vi v2] h3) am_xt fun v8 h7 =>
    if v8 = v4 then
      stA 1 h7 p5 v2 (w32 (v6 + 1)) fun h10 =>
      Ru sc (d + 1) mX12_goesOnce 96 [Vr r0, Vi i1, Vi i2, Vi i3, Vi i4, Vi v4, Vi v2, u7] [] h10
    else
      stA 1 h7 p5 v2 (w32 (v6 + (-1))) fun h9 =>
      Ru sc (d + 1) mX12_goesOnce 96 [Vr r0, Vi i1, Vi i2, Vi i3, Vi i4, Vi v4, Vi v2, u7] [] h9 := (Ru_at at_X12_goesOnce 96 _ _ _).trans rfl
theorem at_X12_closes : am_at mX12_closes = (cd_X12_closes, [], 5) := rfl
set_option maxRecDepth 60000 in
theorem q_X12_closes_0 (sc : Nat × (Nat → Int)) (d : Nat) (r0 : Option Nat) (i1 : Int) (i2 : Int) (i3 : Int) (h : am_H) : Cl sc (d + 1) mX12_closes [Vr r0, Vi i1, Vi i2, Vi i3] h =
  am_rcv 12 h (Vr r0) (
  clI (Cl sc d mX12_noCells [Vr r0, Vi i1, Vi i2, Vi i3] h) am_xt fun v2 h1 =>
  if v2 = 0 then
    if i1 = i2 then
      some (.inl (Vi (-1)), h1)
    else
      Ru sc (d + 1) mX12_closes 16 [Vr r0, Vi i1, Vi i2, Vi i3, Vi 0] [] h1
  else
    some (.inl (Vi 0), h1)) := (Cl_at at_X12_closes rfl _).trans rfl
set_option maxRecDepth 60000 in
theorem q_X12_closes_16 (sc : Nat × (Nat → Int)) (d : Nat) (r0 : Option Nat) (i1 : Int) (i2 : Int) (i3 : Int) (i4 : Int) (h : am_H) : Ru sc (d + 1) mX12_closes 16 [Vr r0, Vi i1, Vi i2, Vi i3, Vi i4] [] h =
  if i4 < 60 then
    gfP 12 22 h r0 fun p1 =>
    stA 1 h p1 i4 0 fun h2 =>
    Ru sc (d + 1) mX12_closes 16 [Vr r0, Vi i1, Vi i2, Vi i3, Vi (w32 (i4 + 1))] [] h2
  else
    Ru sc (d + 1) mX12_closes 29 [Vr r0, Vi i1, Vi i2, Vi i3, Vi 0] [] h := (Ru_at at_X12_closes 16 _ _ _).trans rfl
set_option maxRecDepth 60000 in
theorem q_X12_closes_29 (sc : Nat × (Nat → Int)) (d : Nat) (r0 : Option Nat) (i1 : Int) (i2 : Int) (i3 : Int) (i4 : Int) (h : am_H) : Ru sc (d + 1) mX12_closes 29 [Vr r0, Vi i1, Vi i2, Vi i3, Vi i4] [] h =
  am_rcv 12 h (Vr r0) (
  clI (Cl sc d mX12_goesOnce [Vr r0, Vi i1, Vi i2, Vi i3] h) am_xt fun v2 h1 =>
  if v2 = 0 then
    some (.inl (Vi i4), h1)
  else
    Ru sc (d + 1) mX12_closes 29 [Vr r0, Vi i1, Vi i2, Vi i3, Vi (w32 (i4 + 1))] [] h1) := (Ru_at at_X12_closes 29 _ _ _).trans rfl
theorem at_X12_laysLands : am_at mX12_laysLands = (cd_X12_laysLands, [], 7) := rfl
set_option maxRecDepth 60000 in
theorem q_X12_laysLands_0 (sc : Nat × (Nat → Int)) (d : Nat) (r0 : Option Nat) (i1 : Int) (h : am_H) : Cl sc (d + 1) mX12_laysLands [Vr r0, Vi i1] h =
  Ru sc (d + 1) mX12_laysLands 3 [Vr r0, Vi i1, Vi 0, Vx 0, Vx 0, Vx 0, Vx 0] [] h := (Cl_at at_X12_laysLands rfl _).trans rfl
set_option maxRecDepth 60000 in
theorem q_X12_laysLands_3 (sc : Nat × (Nat → Int)) (d : Nat) (r0 : Option Nat) (i1 : Int) (i2 : Int) (u3 : am_V) (u4 : am_V) (u5 : am_V) (u6 : am_V) (h : am_H) : Ru sc (d + 1) mX12_laysLands 3 [Vr r0, Vi i1, Vi i2, u3, u4, u5, u6] [] h =
  if i2 < 36 then
    gfP 12 24 h r0 fun p1 =>
    stA 1 h p1 i2 i2 fun h2 =>
    Ru sc (d + 1) mX12_laysLands 3 [Vr r0, Vi i1, Vi (w32 (i2 + 1)), u3, u4, u5, u6] [] h2
  else
    Ru sc (d + 1) mX12_laysLands 16 [Vr r0, Vi i1, Vi 1, u3, u4, u5, u6] [] h := (Ru_at at_X12_laysLands 3 _ _ _).trans rfl
set_option maxRecDepth 60000 in
theorem q_X12_laysLands_16 (sc : Nat × (Nat → Int)) (d : Nat) (r0 : Option Nat) (i1 : Int) (i2 : Int) (u3 : am_V) (u4 : am_V) (u5 : am_V) (u6 : am_V) (h : am_H) : Ru sc (d + 1) mX12_laysLands 16 [Vr r0, Vi i1, Vi i2, u3, u4, u5, u6] [] h =
  if i2 = 0 then
    Ru sc (d + 1) mX12_laysLands 85 [Vr r0, Vi i1, Vi i2, Vi 0, Vi 0, u5, u6] [] h
  else
    Ru sc (d + 1) mX12_laysLands 23 [Vr r0, Vi i1, Vi 0, Vi 0, u4, u5, u6] [] h := (Ru_at at_X12_laysLands 16 _ _ _).trans rfl
set_option maxRecDepth 60000 in
theorem q_X12_laysLands_23 (sc : Nat × (Nat → Int)) (d : Nat) (r0 : Option Nat) (i1 : Int) (i2 : Int) (i3 : Int) (u4 : am_V) (u5 : am_V) (u6 : am_V) (h : am_H) : Ru sc (d + 1) mX12_laysLands 23 [Vr r0, Vi i1, Vi i2, Vi i3, u4, u5, u6] [] h =
  if i3 < 60 then
    gfP 12 24 h r0 fun p1 =>
    clI (Cl sc d mX12_lessOf [Vi i3] h) am_xt fun v3 h2 =>
    ldA 1 h2 p1 v3 fun v4 =>
    gfP 12 24 h2 r0 fun p5 =>
    clI (Cl sc d mX12_greaterOf [Vi i3] h2) am_xt fun v7 h6 =>
    ldA 1 h6 p5 v7 fun v8 =>
    if v4 = v8 then
      Ru sc (d + 1) mX12_laysLands 23 [Vr r0, Vi i1, Vi i2, Vi (w32 (i3 + 1)), Vi v4, Vi v8, u6] [] h6
    else
      am_rcv 12 h6 (Vr r0) (
      clI (Cl sc d mX12_isOpen [Vr r0, Vi i3, Vi i1] h6) am_xt fun v10 h9 =>
      if v10 = 0 then
        Ru sc (d + 1) mX12_laysLands 23 [Vr r0, Vi i1, Vi i2, Vi (w32 (i3 + 1)), Vi v4, Vi v8, u6] [] h9
      else
        Ru sc (d + 1) mX12_laysLands 50 [Vr r0, Vi i1, Vi i2, Vi i3, Vi v4, Vi v8, Vi 0] [] h9)
  else
    Ru sc (d + 1) mX12_laysLands 16 [Vr r0, Vi i1, Vi i2, Vi i3, u4, u5, u6] [] h := (Ru_at at_X12_laysLands 23 _ _ _).trans rfl
set_option maxRecDepth 60000 in
theorem q_X12_laysLands_50 (sc : Nat × (Nat → Int)) (d : Nat) (r0 : Option Nat) (i1 : Int) (i2 : Int) (i3 : Int) (i4 : Int) (i5 : Int) (i6 : Int) (h : am_H) : Ru sc (d + 1) mX12_laysLands 50 [Vr r0, Vi i1, Vi i2, Vi i3, Vi i4, Vi i5, Vi i6] [] h =
  if i6 < 36 then
    gfP 12 24 h r0 fun p1 =>
    gfP 12 24 h r0 fun p2 =>
    ldA 1 h p2 i6 fun v3 =>
    clI (Cl sc d mJ9_max_7cf53 [Vi i4, Vi i5] h) am_xt fun v5 h4 =>
    if v3 = v5 then
      clI (Cl sc d mJ9_min_7cf53 [Vi i4, Vi i5] h4) am_xt fun v10 h9 =>
      stA 1 h9 p1 i6 v10 fun h11 =>
      Ru sc (d + 1) mX12_laysLands 50 [Vr r0, Vi i1, Vi i2, Vi i3, Vi i4, Vi i5, Vi (w32 (i6 + 1))] [] h11
    else
      gfP 12 24 h4 r0 fun p6 =>
      ldA 1 h4 p6 i6 fun v7 =>
      stA 1 h4 p1 i6 v7 fun h8 =>
      Ru sc (d + 1) mX12_laysLands 50 [Vr r0, Vi i1, Vi i2, Vi i3, Vi i4, Vi i5, Vi (w32 (i6 + 1))] [] h8
  else
    Ru sc (d + 1) mX12_laysLands 23 [Vr r0, Vi i1, Vi 1, Vi (w32 (i3 + 1)), Vi i4, Vi i5, Vi i6] [] h := (Ru_at at_X12_laysLands 50 _ _ _).trans rfl
set_option maxRecDepth 60000 in
theorem q_X12_laysLands_85 (sc : Nat × (Nat → Int)) (d : Nat) (r0 : Option Nat) (i1 : Int) (i2 : Int) (i3 : Int) (i4 : Int) (u5 : am_V) (u6 : am_V) (h : am_H) : Ru sc (d + 1) mX12_laysLands 85 [Vr r0, Vi i1, Vi i2, Vi i3, Vi i4, u5, u6] [] h =
  if i4 < 36 then
    gfP 12 24 h r0 fun p1 =>
    ldA 1 h p1 i4 fun v2 =>
    if v2 = i4 then
      Ru sc (d + 1) mX12_laysLands 85 [Vr r0, Vi i1, Vi i2, Vi (w32 (i3 + 1)), Vi (w32 (i4 + 1)), u5, u6] [] h
    else
      Ru sc (d + 1) mX12_laysLands 85 [Vr r0, Vi i1, Vi i2, Vi (w32 (i3 + 0)), Vi (w32 (i4 + 1)), u5, u6] [] h
  else
    some (.inl (Vi i3), h) := (Ru_at at_X12_laysLands 85 _ _ _).trans rfl
theorem at_X12_sizeOf : am_at mX12_sizeOf = (cd_X12_sizeOf, [], 4) := rfl
set_option maxRecDepth 60000 in
theorem q_X12_sizeOf_0 (sc : Nat × (Nat → Int)) (d : Nat) (r0 : Option Nat) (i1 : Int) (h : am_H) : Cl sc (d + 1) mX12_sizeOf [Vr r0, Vi i1] h =
  Ru sc (d + 1) mX12_sizeOf 5 [Vr r0, Vi i1, Vi 0, Vi 0] [] h := (Cl_at at_X12_sizeOf rfl _).trans rfl
set_option maxRecDepth 60000 in
theorem q_X12_sizeOf_5 (sc : Nat × (Nat → Int)) (d : Nat) (r0 : Option Nat) (i1 : Int) (i2 : Int) (i3 : Int) (h : am_H) : Ru sc (d + 1) mX12_sizeOf 5 [Vr r0, Vi i1, Vi i2, Vi i3] [] h =
  if i3 < 36 then
    gfP 12 24 h r0 fun p1 =>
    ldA 1 h p1 i3 fun v2 =>
    if v2 = i1 then
      Ru sc (d + 1) mX12_sizeOf 5 [Vr r0, Vi i1, Vi (w32 (i2 + 1)), Vi (w32 (i3 + 1))] [] h
    else
      Ru sc (d + 1) mX12_sizeOf 5 [Vr r0, Vi i1, Vi (w32 (i2 + 0)), Vi (w32 (i3 + 1))] [] h
  else
    some (.inl (Vi i2), h) := (Ru_at at_X12_sizeOf 5 _ _ _).trans rfl
theorem at_X12_wrongHeight : am_at mX12_wrongHeight = (cd_X12_wrongHeight, [], 2) := rfl
set_option maxRecDepth 60000 in
theorem q_X12_wrongHeight_0 (sc : Nat × (Nat → Int)) (d : Nat) (r0 : Option Nat) (i1 : Int) (h : am_H) : Cl sc (d + 1) mX12_wrongHeight [Vr r0, Vi i1] h =
  pfI 0 12 0 h r0 0 fun h1 =>
  clI (Cl sc d mX12_noHeight [Vi i1] h1) am_xt fun v3 h2 =>
  am_rcv 12 h2 (Vr r0) (
  clI (Cl sc d mX12_throwsIf [Vr r0, Vi v3, Vi 1] h2) am_xt fun v5 h4 =>
  am_ret 1 v5 h4) := (Cl_at at_X12_wrongHeight rfl _).trans rfl
theorem at_X12_lands : am_at mX12_lands = (cd_X12_lands, [], 2) := rfl
set_option maxRecDepth 60000 in
theorem q_X12_lands_0 (sc : Nat × (Nat → Int)) (d : Nat) (r0 : Option Nat) (i1 : Int) (h : am_H) : Cl sc (d + 1) mX12_lands [Vr r0, Vi i1] h =
  am_rcv 12 h (Vr r0) (
  clI (Cl sc d mX12_wrongHeight [Vr r0, Vi i1] h) am_xt fun v2 h1 =>
  if v2 = 0 then
    am_rcv 12 h1 (Vr r0) (
    clI (Cl sc d mX12_laysLands [Vr r0, Vi i1] h1) am_xt fun v4 h3 =>
    some (.inl (Vi v4), h3))
  else
    some (.inl (Vi 0), h1)) := (Cl_at at_X12_lands rfl _).trans rfl
theorem at_X12_wide : am_at mX12_wide = (cd_X12_wide, [], 4) := rfl
set_option maxRecDepth 60000 in
theorem q_X12_wide_0 (sc : Nat × (Nat → Int)) (d : Nat) (r0 : Option Nat) (i1 : Int) (h : am_H) : Cl sc (d + 1) mX12_wide [Vr r0, Vi i1] h =
  am_rcv 12 h (Vr r0) (
  clI (Cl sc d mX12_wrongHeight [Vr r0, Vi i1] h) am_xt fun v2 h1 =>
  if v2 = 0 then
    am_rcv 12 h1 (Vr r0) (
    clI (Cl sc d mX12_laysLands [Vr r0, Vi i1] h1) am_xt fun v4 h3 =>
    Ru sc (d + 1) mX12_wide 15 [Vr r0, Vi i1, Vi 0, Vi 0] [] h3)
  else
    some (.inl (Vi 0), h1)) := (Cl_at at_X12_wide rfl _).trans rfl
set_option maxRecDepth 60000 in
theorem q_X12_wide_15 (sc : Nat × (Nat → Int)) (d : Nat) (r0 : Option Nat) (i1 : Int) (i2 : Int) (i3 : Int) (h : am_H) : Ru sc (d + 1) mX12_wide 15 [Vr r0, Vi i1, Vi i2, Vi i3] [] h =
  if i3 < 36 then
    am_rcv 12 h (Vr r0) (
    clI (Cl sc d mX12_sizeOf [Vr r0, Vi i3] h) am_xt fun v2 h1 =>
    clI (Cl sc d mJ9_max_7cf53 [Vi i2, Vi v2] h1) am_xt fun v4 h3 =>
    Ru sc (d + 1) mX12_wide 15 [Vr r0, Vi i1, Vi v4, Vi (w32 (i3 + 1))] [] h3)
  else
    some (.inl (Vi i2), h) := (Ru_at at_X12_wide 15 _ _ _).trans rfl
theorem at_X12_land : am_at mX12_land = (cd_X12_land, [], 3) := rfl
set_option maxRecDepth 60000 in
theorem q_X12_land_0 (sc : Nat × (Nat → Int)) (d : Nat) (r0 : Option Nat) (i1 : Int) (i2 : Int) (h : am_H) : Cl sc (d + 1) mX12_land [Vr r0, Vi i1, Vi i2] h =
  pfI 0 12 0 h r0 0 fun h1 =>
  clI (Cl sc d mX12_noCell [Vi i1] h1) am_xt fun v3 h2 =>
  am_rcv 12 h2 (Vr r0) (
  clI (Cl sc d mX12_throwsIf [Vr r0, Vi v3, Vi 1] h2) am_xt fun v5 h4 =>
  if v5 = 0 then
    clI (Cl sc d mX12_noHeight [Vi i2] h4) am_xt fun v7 h6 =>
    am_rcv 12 h6 (Vr r0) (
    clI (Cl sc d mX12_throwsIf [Vr r0, Vi v7, Vi 2] h6) am_xt fun v9 h8 =>
    if v9 = 0 then
      am_rcv 12 h8 (Vr r0) (
      clI (Cl sc d mX12_laysLands [Vr r0, Vi i2] h8) am_xt fun v11 h10 =>
      gfP 12 24 h10 r0 fun p12 =>
      ldA 1 h10 p12 i1 fun v13 =>
      am_rcv 12 h10 (Vr r0) (
      clI (Cl sc d mX12_sizeOf [Vr r0, Vi v13] h10) am_xt fun v15 h14 =>
      some (.inl (Vi v15), h14)))
    else
      some (.inl (Vi 0), h8))
  else
    some (.inl (Vi 0), h4)) := (Cl_at at_X12_land rfl _).trans rfl
theorem at_X12_gaps : am_at mX12_gaps = (cd_X12_gaps, [], 6) := rfl
set_option maxRecDepth 60000 in
theorem q_X12_gaps_0 (sc : Nat × (Nat → Int)) (d : Nat) (r0 : Option Nat) (i1 : Int) (h : am_H) : Cl sc (d + 1) mX12_gaps [Vr r0, Vi i1] h =
  am_rcv 12 h (Vr r0) (
  clI (Cl sc d mX12_wrongHeight [Vr r0, Vi i1] h) am_xt fun v2 h1 =>
  if v2 = 0 then
    am_rcv 12 h1 (Vr r0) (
    clI (Cl sc d mX12_laysLands [Vr r0, Vi i1] h1) am_xt fun v4 h3 =>
    Ru sc (d + 1) mX12_gaps 15 [Vr r0, Vi i1, Vi v4, Vi 0, Vi 0, Vx 0] [] h3)
  else
    some (.inl (Vi 0), h1)) := (Cl_at at_X12_gaps rfl _).trans rfl
set_option maxRecDepth 60000 in
theorem q_X12_gaps_15 (sc : Nat × (Nat → Int)) (d : Nat) (r0 : Option Nat) (i1 : Int) (i2 : Int) (i3 : Int) (i4 : Int) (u5 : am_V) (h : am_H) : Ru sc (d + 1) mX12_gaps 15 [Vr r0, Vi i1, Vi i2, Vi i3, Vi i4, u5] [] h =
  if i4 < 60 then
    am_rcv 12 h (Vr r0) (
    clI (Cl sc d mX12_isOpen [Vr r0, Vi i4, Vi i1] h) am_xt fun v2 h1 =>
    if v2 = 0 then
      Ru sc (d + 1) mX12_gaps 30 [Vr r0, Vi i1, Vi i2, Vi i3, Vi i4, Vi v2] [Vi (-1), Vr r0] h1
    else
      Ru sc (d + 1) mX12_gaps 30 [Vr r0, Vi i1, Vi i2, Vi i3, Vi i4, Vi v2] [Vi i4, Vr r0] h1)
  else
    some (.inl (Vi i3), h) := (Ru_at at_X12_gaps 15 _ _ _).trans rfl
set_option maxRecDepth 60000 in
theorem q_X12_gaps_30 (sc : Nat × (Nat → Int)) (d : Nat) (r0 : Option Nat) (i1 : Int) (i2 : Int) (i3 : Int) (i4 : Int) (i5 : Int) (ti0 : Int) (tr1 : Option Nat) (h : am_H) : Ru sc (d + 1) mX12_gaps 30 [Vr r0, Vi i1, Vi i2, Vi i3, Vi i4, Vi i5] [Vi ti0, Vr tr1] h =
  pfI 0 12 18 h tr1 ti0 fun h1 =>
  if i5 = 0 then
    pfI 0 12 18 h1 r0 (-1) fun h2 =>
    Ru sc (d + 1) mX12_gaps 15 [Vr r0, Vi i1, Vi i2, Vi (w32 (i3 + 0)), Vi (w32 (i4 + 1)), Vi i5] [] h2
  else
    am_rcv 12 h1 (Vr r0) (
    clI (Cl sc d mX12_laysLands [Vr r0, Vi i1] h1) am_xt fun v4 h3 =>
    if i2 < v4 then
      pfI 0 12 18 h3 r0 (-1) fun h6 =>
      Ru sc (d + 1) mX12_gaps 15 [Vr r0, Vi i1, Vi i2, Vi (w32 (i3 + 1)), Vi (w32 (i4 + 1)), Vi i5] [] h6
    else
      pfI 0 12 18 h3 r0 (-1) fun h5 =>
      Ru sc (d + 1) mX12_gaps 15 [Vr r0, Vi i1, Vi i2, Vi (w32 (i3 + 0)), Vi (w32 (i4 + 1)), Vi i5] [] h5) := (Ru_at at_X12_gaps 30 _ _ _).trans rfl
theorem at_X12_allMeet : am_at mX12_allMeet = (cd_X12_allMeet, [], 4) := rfl
set_option maxRecDepth 60000 in
theorem q_X12_allMeet_0 (sc : Nat × (Nat → Int)) (d : Nat) (r0 : Option Nat) (i1 : Int) (h : am_H) : Cl sc (d + 1) mX12_allMeet [Vr r0, Vi i1] h =
  am_rcv 12 h (Vr r0) (
  clI (Cl sc d mX12_laysLands [Vr r0, Vi i1] h) am_xt fun v2 h1 =>
  Ru sc (d + 1) mX12_allMeet 9 [Vr r0, Vi i1, Vi 1, Vi 1] [] h1) := (Cl_at at_X12_allMeet rfl _).trans rfl
set_option maxRecDepth 60000 in
theorem q_X12_allMeet_9 (sc : Nat × (Nat → Int)) (d : Nat) (r0 : Option Nat) (i1 : Int) (i2 : Int) (i3 : Int) (h : am_H) : Ru sc (d + 1) mX12_allMeet 9 [Vr r0, Vi i1, Vi i2, Vi i3] [] h =
  am_rcv 12 h (Vr r0) (
  clI (Cl sc d mX12_families [Vr r0] h) am_xt fun v2 h1 =>
  if i3 < v2 then
    if i2 = 0 then
      Ru sc (d + 1) mX12_allMeet 9 [Vr r0, Vi i1, Vi 0, Vi (w32 (i3 + 1))] [] h1
    else
      gfP 12 24 h1 r0 fun p3 =>
      am_rcv 12 h1 (Vr r0) (
      clI (Cl sc d mX12_ofFamily [Vr r0, Vi i3, Vi 0] h1) am_xt fun v5 h4 =>
      ldA 1 h4 p3 v5 fun v6 =>
      gfP 12 24 h4 r0 fun p7 =>
      am_rcv 12 h4 (Vr r0) (
      clI (Cl sc d mX12_ofFamily [Vr r0, Vi 0, Vi 0] h4) am_xt fun v9 h8 =>
      ldA 1 h8 p7 v9 fun v10 =>
      if v6 = v10 then
        Ru sc (d + 1) mX12_allMeet 9 [Vr r0, Vi i1, Vi 1, Vi (w32 (i3 + 1))] [] h8
      else
        Ru sc (d + 1) mX12_allMeet 9 [Vr r0, Vi i1, Vi 0, Vi (w32 (i3 + 1))] [] h8))
  else
    am_ret 1 i2 h1) := (Ru_at at_X12_allMeet 9 _ _ _).trans rfl
theorem at_X12_all : am_at mX12_all = (cd_X12_all, [], 2) := rfl
set_option maxRecDepth 60000 in
theorem q_X12_all_0 (sc : Nat × (Nat → Int)) (d : Nat) (r0 : Option Nat) (i1 : Int) (h : am_H) : Cl sc (d + 1) mX12_all [Vr r0, Vi i1] h =
  am_rcv 12 h (Vr r0) (
  clI (Cl sc d mX12_wrongHeight [Vr r0, Vi i1] h) am_xt fun v2 h1 =>
  if v2 = 0 then
    am_rcv 12 h1 (Vr r0) (
    clI (Cl sc d mX12_allMeet [Vr r0, Vi i1] h1) am_xt fun v4 h3 =>
    if v4 = 0 then
      some (.inl (Vi 0), h3)
    else
      some (.inl (Vi 1), h3))
  else
    some (.inl (Vi 0), h1)) := (Cl_at at_X12_all rfl _).trans rfl
theorem at_X12_reach : am_at mX12_reach = (cd_X12_reach, [], 3) := rfl
set_option maxRecDepth 60000 in
theorem q_X12_reach_0 (sc : Nat × (Nat → Int)) (d : Nat) (r0 : Option Nat) (h : am_H) : Cl sc (d + 1) mX12_reach [Vr r0] h =
  pfI 0 12 0 h r0 0 fun h1 =>
  Ru sc (d + 1) mX12_reach 8 [Vr r0, Vi 0, Vi 1] [] h1 := (Cl_at at_X12_reach rfl _).trans rfl
set_option maxRecDepth 60000 in
theorem q_X12_reach_8 (sc : Nat × (Nat → Int)) (d : Nat) (r0 : Option Nat) (i1 : Int) (i2 : Int) (h : am_H) : Ru sc (d + 1) mX12_reach 8 [Vr r0, Vi i1, Vi i2] [] h =
  am_rcv 12 h (Vr r0) (
  clI (Cl sc d mX12_families [Vr r0] h) am_xt fun v2 h1 =>
  if i2 < v2 then
    am_rcv 12 h1 (Vr r0) (
    clI (Cl sc d mX12_ofFamily [Vr r0, Vi 0, Vi 0] h1) am_xt fun v4 h3 =>
    am_rcv 12 h3 (Vr r0) (
    clV (Cl sc d mX12_from [Vr r0, Vi v4, Vi 2, Vi 0] h3) am_xt fun h5 =>
    gfP 12 20 h5 r0 fun p6 =>
    am_rcv 12 h5 (Vr r0) (
    clI (Cl sc d mX12_ofFamily [Vr r0, Vi i2, Vi 0] h5) am_xt fun v8 h7 =>
    ldA 1 h7 p6 v8 fun v9 =>
    clI (Cl sc d mJ9_max_7cf53 [Vi i1, Vi v9] h7) am_xt fun v11 h10 =>
    Ru sc (d + 1) mX12_reach 8 [Vr r0, Vi v11, Vi (w32 (i2 + 1))] [] h10)))
  else
    some (.inl (Vi i1), h1)) := (Ru_at at_X12_reach 8 _ _ _).trans rfl
theorem at_X12_togetherAt : am_at mX12_togetherAt = (cd_X12_togetherAt, [], 2) := rfl
set_option maxRecDepth 60000 in
theorem q_X12_togetherAt_0 (sc : Nat × (Nat → Int)) (d : Nat) (i0 : Int) (i1 : Int) (h : am_H) : Cl sc (d + 1) mX12_togetherAt [Vi i0, Vi i1] h =
  some (.inl (Vi (w32 ((w32 (36 * i0)) + i1))), h) := (Cl_at at_X12_togetherAt rfl _).trans rfl
theorem at_X12_joins : am_at mX12_joins = (cd_X12_joins, [], 5) := rfl
set_option maxRecDepth 60000 in
theorem q_X12_joins_0 (sc : Nat × (Nat → Int)) (d : Nat) (r0 : Option Nat) (i1 : Int) (h : am_H) : Cl sc (d + 1) mX12_joins [Vr r0, Vi i1] h =
  Ru sc (d + 1) mX12_joins 3 [Vr r0, Vi i1, Vi 0, Vx 0, Vx 0] [] h := (Cl_at at_X12_joins rfl _).trans rfl
set_option maxRecDepth 60000 in
theorem q_X12_joins_3 (sc : Nat × (Nat → Int)) (d : Nat) (r0 : Option Nat) (i1 : Int) (i2 : Int) (u3 : am_V) (u4 : am_V) (h : am_H) : Ru sc (d + 1) mX12_joins 3 [Vr r0, Vi i1, Vi i2, u3, u4] [] h =
  if i2 < 36 then
    Ru sc (d + 1) mX12_joins 11 [Vr r0, Vi i1, Vi i2, Vi 1000000, Vi 0] [] h
  else
    am_rcv 12 h (Vr r0) (
    clV (Cl sc d mX12_flows [Vr r0, Vi 3, Vi 0] h) am_xt fun h1 =>
    Ru sc (d + 1) mX12_joins 80 [Vr r0, Vi i1, Vi 0, u3, u4] [] h1) := (Ru_at at_X12_joins 3 _ _ _).trans rfl
set_option maxRecDepth 60000 in
theorem q_X12_joins_11 (sc : Nat × (Nat → Int)) (d : Nat) (r0 : Option Nat) (i1 : Int) (i2 : Int) (i3 : Int) (i4 : Int) (h : am_H) : Ru sc (d + 1) mX12_joins 11 [Vr r0, Vi i1, Vi i2, Vi i3, Vi i4] [] h =
  am_rcv 12 h (Vr r0) (
  clI (Cl sc d mX12_families [Vr r0] h) am_xt fun v2 h1 =>
  if i4 < v2 then
    if i1 = (bShl 1 i4) then
      am_rcv 12 h1 (Vr r0) (
      clI (Cl sc d mX12_ofFamily [Vr r0, Vi i4, Vi 0] h1) am_xt fun v4 h3 =>
      if v4 = i2 then
        Ru sc (d + 1) mX12_joins 11 [Vr r0, Vi i1, Vi i2, Vi 0, Vi (w32 (i4 + 1))] [] h3
      else
        Ru sc (d + 1) mX12_joins 11 [Vr r0, Vi i1, Vi i2, Vi i3, Vi (w32 (i4 + 1))] [] h3)
    else
      Ru sc (d + 1) mX12_joins 11 [Vr r0, Vi i1, Vi i2, Vi i3, Vi (w32 (i4 + 1))] [] h1
  else
    Ru sc (d + 1) mX12_joins 33 [Vr r0, Vi i1, Vi i2, Vi i3, Vi 1] [] h1) := (Ru_at at_X12_joins 11 _ _ _).trans rfl
set_option maxRecDepth 60000 in
theorem q_X12_joins_33 (sc : Nat × (Nat → Int)) (d : Nat) (r0 : Option Nat) (i1 : Int) (i2 : Int) (i3 : Int) (i4 : Int) (h : am_H) : Ru sc (d + 1) mX12_joins 33 [Vr r0, Vi i1, Vi i2, Vi i3, Vi i4] [] h =
  if i4 < i1 then
    if (bAnd i4 (bXor i1 (-1))) = 0 then
      gfP 12 25 h r0 fun p5 =>
      clI (Cl sc d mX12_togetherAt [Vi i4, Vi i2] h) am_xt fun v7 h6 =>
      ldA 1 h6 p5 v7 fun v8 =>
      gfP 12 25 h6 r0 fun p9 =>
      clI (Cl sc d mX12_togetherAt [Vi (bAnd i1 (bXor i4 (-1))), Vi i2] h6) am_xt fun v11 h10 =>
      ldA 1 h10 p9 v11 fun v12 =>
      clI (Cl sc d mJ9_min_7cf53 [Vi i3, Vi (w32 (v8 + v12))] h10) am_xt fun v14 h13 =>
      Ru sc (d + 1) mX12_joins 33 [Vr r0, Vi i1, Vi i2, Vi v14, Vi (w32 (i4 + 1))] [] h13
    else
      Ru sc (d + 1) mX12_joins 33 [Vr r0, Vi i1, Vi i2, Vi i3, Vi (w32 (i4 + 1))] [] h
  else
    gfP 12 20 h r0 fun p1 =>
    clI (Cl sc d mJ9_min_7cf53 [Vi 1000000, Vi i3] h) am_xt fun v3 h2 =>
    stA 1 h2 p1 i2 v3 fun h4 =>
    Ru sc (d + 1) mX12_joins 3 [Vr r0, Vi i1, Vi (w32 (i2 + 1)), Vi i3, Vi i4] [] h4 := (Ru_at at_X12_joins 33 _ _ _).trans rfl
set_option maxRecDepth 60000 in
theorem q_X12_joins_80 (sc : Nat × (Nat → Int)) (d : Nat) (r0 : Option Nat) (i1 : Int) (i2 : Int) (u3 : am_V) (u4 : am_V) (h : am_H) : Ru sc (d + 1) mX12_joins 80 [Vr r0, Vi i1, Vi i2, u3, u4] [] h =
  if i2 < 36 then
    gfP 12 25 h r0 fun p1 =>
    clI (Cl sc d mX12_togetherAt [Vi i1, Vi i2] h) am_xt fun v3 h2 =>
    gfP 12 20 h2 r0 fun p4 =>
    ldA 1 h2 p4 i2 fun v5 =>
    stA 1 h2 p1 v3 v5 fun h6 =>
    Ru sc (d + 1) mX12_joins 80 [Vr r0, Vi i1, Vi (w32 (i2 + 1)), u3, u4] [] h6
  else
    some (.inl (Vx 0), h) := (Ru_at at_X12_joins 80 _ _ _).trans rfl
theorem at_X12_ladders : am_at mX12_ladders = (cd_X12_ladders, [], 3) := rfl
set_option maxRecDepth 60000 in
theorem q_X12_ladders_0 (sc : Nat × (Nat → Int)) (d : Nat) (r0 : Option Nat) (h : am_H) : Cl sc (d + 1) mX12_ladders [Vr r0] h =
  pfI 0 12 0 h r0 0 fun h1 =>
  am_rcv 12 h1 (Vr r0) (
  clI (Cl sc d mX12_families [Vr r0] h1) am_xt fun v3 h2 =>
  if v3 = 0 then
    some (.inl (Vi 0), h2)
  else
    am_rcv 12 h2 (Vr r0) (
    clI (Cl sc d mX12_families [Vr r0] h2) am_xt fun v5 h4 =>
    Ru sc (d + 1) mX12_ladders 18 [Vr r0, Vi (w32 ((bShl 1 v5) - 1)), Vi 1] [] h4)) := (Cl_at at_X12_ladders rfl _).trans rfl
set_option maxRecDepth 60000 in
theorem q_X12_ladders_18 (sc : Nat × (Nat → Int)) (d : Nat) (r0 : Option Nat) (i1 : Int) (i2 : Int) (h : am_H) : Ru sc (d + 1) mX12_ladders 18 [Vr r0, Vi i1, Vi i2] [] h =
  if i1 < i2 then
    gfP 12 25 h r0 fun p1 =>
    am_rcv 12 h (Vr r0) (
    clI (Cl sc d mX12_ofFamily [Vr r0, Vi 0, Vi 0] h) am_xt fun v3 h2 =>
    clI (Cl sc d mX12_togetherAt [Vi i1, Vi v3] h2) am_xt fun v5 h4 =>
    ldA 1 h4 p1 v5 fun v6 =>
    some (.inl (Vi v6), h4))
  else
    am_rcv 12 h (Vr r0) (
    clV (Cl sc d mX12_joins [Vr r0, Vi i2] h) am_xt fun h7 =>
    Ru sc (d + 1) mX12_ladders 18 [Vr r0, Vi i1, Vi (w32 (i2 + 1))] [] h7) := (Ru_at at_X12_ladders 18 _ _ _).trans rfl
theorem at_X12_cornerAt : am_at mX12_cornerAt = (cd_X12_cornerAt, [], 2) := rfl
set_option maxRecDepth 60000 in
theorem q_X12_cornerAt_0 (sc : Nat × (Nat → Int)) (d : Nat) (i0 : Int) (i1 : Int) (h : am_H) : Cl sc (d + 1) mX12_cornerAt [Vi i0, Vi i1] h =
  some (.inl (Vi (w32 (i0 + (w32 (7 * i1))))), h) := (Cl_at at_X12_cornerAt rfl _).trans rfl
theorem at_X12_beginOf : am_at mX12_beginOf = (cd_X12_beginOf, [], 3) := rfl
set_option maxRecDepth 60000 in
theorem q_X12_beginOf_0 (sc : Nat × (Nat → Int)) (d : Nat) (i0 : Int) (h : am_H) : Cl sc (d + 1) mX12_beginOf [Vi i0] h =
  clI (Cl sc d mX12_lessOf [Vi i0] h) am_xt fun v2 h1 =>
  if 6 = 0 then none else
  clI (Cl sc d mX12_lessOf [Vi i0] h1) am_xt fun v4 h3 =>
  if 6 = 0 then none else
  clI (Cl sc d mX12_isAcross [Vi i0] h3) am_xt fun v6 h5 =>
  if v6 = 0 then
    clI (Cl sc d mX12_cornerAt [Vi (w32 ((v2.tmod 6) + 1)), Vi (w32 (v4.tdiv 6))] h5) am_xt fun v8 h7 =>
    some (.inl (Vi v8), h7)
  else
    clI (Cl sc d mX12_cornerAt [Vi (v2.tmod 6), Vi (w32 ((w32 (v4.tdiv 6)) + 1))] h5) am_xt fun v10 h9 =>
    some (.inl (Vi v10), h9) := (Cl_at at_X12_beginOf rfl _).trans rfl
theorem at_X12_endOf : am_at mX12_endOf = (cd_X12_endOf, [], 1) := rfl
set_option maxRecDepth 60000 in
theorem q_X12_endOf_0 (sc : Nat × (Nat → Int)) (d : Nat) (i0 : Int) (h : am_H) : Cl sc (d + 1) mX12_endOf [Vi i0] h =
  clI (Cl sc d mX12_beginOf [Vi i0] h) am_xt fun v2 h1 =>
  clI (Cl sc d mX12_isAcross [Vi i0] h1) am_xt fun v4 h3 =>
  if v4 = 0 then
    some (.inl (Vi (w32 (v2 + 7))), h3)
  else
    some (.inl (Vi (w32 (v2 + 1))), h3) := (Cl_at at_X12_endOf rfl _).trans rfl
theorem at_X12_isTop : am_at mX12_isTop = (cd_X12_isTop, [], 3) := rfl
set_option maxRecDepth 60000 in
theorem q_X12_isTop_0 (sc : Nat × (Nat → Int)) (d : Nat) (r0 : Option Nat) (i1 : Int) (i2 : Int) (h : am_H) : Cl sc (d + 1) mX12_isTop [Vr r0, Vi i1, Vi i2] h =
  am_rcv 12 h (Vr r0) (
  clI (Cl sc d mX12_hasFence [Vr r0, Vi i1] h) am_xt fun v2 h1 =>
  if v2 = 0 then
    some (.inl (Vi 0), h1)
  else
    am_rcv 12 h1 (Vr r0) (
    clI (Cl sc d mX12_of [Vr r0, Vi i1, Vi 2] h1) am_xt fun v4 h3 =>
    if v4 < i2 then
      some (.inl (Vi 0), h3)
    else
      some (.inl (Vi 1), h3))) := (Cl_at at_X12_isTop rfl _).trans rfl
theorem at_X12_walks : am_at mX12_walks = (cd_X12_walks, [], 7) := rfl
set_option maxRecDepth 60000 in
theorem q_X12_walks_0 (sc : Nat × (Nat → Int)) (d : Nat) (r0 : Option Nat) (i1 : Int) (i2 : Int) (h : am_H) : Cl sc (d + 1) mX12_walks [Vr r0, Vi i1, Vi i2] h =
  Ru sc (d + 1) mX12_walks 3 [Vr r0, Vi i1, Vi i2, Vi 0, Vx 0, Vx 0, Vx 0] [] h := (Cl_at at_X12_walks rfl _).trans rfl
set_option maxRecDepth 60000 in
theorem q_X12_walks_3 (sc : Nat × (Nat → Int)) (d : Nat) (r0 : Option Nat) (i1 : Int) (i2 : Int) (i3 : Int) (u4 : am_V) (u5 : am_V) (u6 : am_V) (h : am_H) : Ru sc (d + 1) mX12_walks 3 [Vr r0, Vi i1, Vi i2, Vi i3, u4, u5, u6] [] h =
  if i3 < 49 then
    gfP 12 26 h r0 fun p3 =>
    stA 1 h p3 i3 (-1) fun h4 =>
    Ru sc (d + 1) mX12_walks 3 [Vr r0, Vi i1, Vi i2, Vi (w32 (i3 + 1)), u4, u5, u6] [] h4
  else
    gfP 12 26 h r0 fun p1 =>
    stA 1 h p1 i1 0 fun h2 =>
    Ru sc (d + 1) mX12_walks 21 [Vr r0, Vi i1, Vi i2, Vi 0, u4, u5, u6] [] h2 := (Ru_at at_X12_walks 3 _ _ _).trans rfl
set_option maxRecDepth 60000 in
theorem q_X12_walks_21 (sc : Nat × (Nat → Int)) (d : Nat) (r0 : Option Nat) (i1 : Int) (i2 : Int) (i3 : Int) (u4 : am_V) (u5 : am_V) (u6 : am_V) (h : am_H) : Ru sc (d + 1) mX12_walks 21 [Vr r0, Vi i1, Vi i2, Vi i3, u4, u5, u6] [] h =
  if i3 < 49 then
    Ru sc (d + 1) mX12_walks 27 [Vr r0, Vi i1, Vi i2, Vi i3, Vi 0, u5, u6] [] h
  else
    some (.inl (Vx 0), h) := (Ru_at at_X12_walks 21 _ _ _).trans rfl
set_option maxRecDepth 60000 in
theorem q_X12_walks_27 (sc : Nat × (Nat → Int)) (d : Nat) (r0 : Option Nat) (i1 : Int) (i2 : Int) (i3 : Int) (i4 : Int) (u5 : am_V) (u6 : am_V) (h : am_H) : Ru sc (d + 1) mX12_walks 27 [Vr r0, Vi i1, Vi i2, Vi i3, Vi i4, u5, u6] [] h =
  if i4 < 60 then
    am_rcv 12 h (Vr r0) (
    clI (Cl sc d mX12_isTop [Vr r0, Vi i4, Vi i2] h) am_xt fun v2 h1 =>
    if v2 = 0 then
      Ru sc (d + 1) mX12_walks 27 [Vr r0, Vi i1, Vi i2, Vi i3, Vi (w32 (i4 + 1)), u5, u6] [] h1
    else
      clI (Cl sc d mX12_beginOf [Vi i4] h1) am_xt fun v4 h3 =>
      clI (Cl sc d mX12_endOf [Vi i4] h3) am_xt fun v6 h5 =>
      gfP 12 26 h5 r0 fun p7 =>
      ldA 1 h5 p7 v4 fun v8 =>
      if v8 = i3 then
        gfP 12 26 h5 r0 fun p9 =>
        ldA 1 h5 p9 v6 fun v10 =>
        if v10 = (-1) then
          gfP 12 26 h5 r0 fun p11 =>
          stA 1 h5 p11 v6 (w32 (i3 + 1)) fun h12 =>
          Ru sc (d + 1) mX12_walks 62 [Vr r0, Vi i1, Vi i2, Vi i3, Vi i4, Vi v4, Vi v6] [] h12
        else
          Ru sc (d + 1) mX12_walks 62 [Vr r0, Vi i1, Vi i2, Vi i3, Vi i4, Vi v4, Vi v6] [] h5
      else
        Ru sc (d + 1) mX12_walks 62 [Vr r0, Vi i1, Vi i2, Vi i3, Vi i4, Vi v4, Vi v6] [] h5)
  else
    Ru sc (d + 1) mX12_walks 21 [Vr r0, Vi i1, Vi i2, Vi (w32 (i3 + 1)), Vi i4, u5, u6] [] h := (Ru_at at_X12_walks 27 _ _ _).trans rfl
set_option maxRecDepth 60000 in
theorem q_X12_walks_62 (sc : Nat × (Nat → Int)) (d : Nat) (r0 : Option Nat) (i1 : Int) (i2 : Int) (i3 : Int) (i4 : Int) (i5 : Int) (i6 : Int) (h : am_H) : Ru sc (d + 1) mX12_walks 62 [Vr r0, Vi i1, Vi i2, Vi i3, Vi i4, Vi i5, Vi i6] [] h =
  gfP 12 26 h r0 fun p1 =>
  ldA 1 h p1 i6 fun v2 =>
  if v2 = i3 then
    gfP 12 26 h r0 fun p3 =>
    ldA 1 h p3 i5 fun v4 =>
    if v4 = (-1) then
      gfP 12 26 h r0 fun p5 =>
      stA 1 h p5 i5 (w32 (i3 + 1)) fun h6 =>
      Ru sc (d + 1) mX12_walks 27 [Vr r0, Vi i1, Vi i2, Vi i3, Vi (w32 (i4 + 1)), Vi i5, Vi i6] [] h6
    else
      Ru sc (d + 1) mX12_walks 27 [Vr r0, Vi i1, Vi i2, Vi i3, Vi (w32 (i4 + 1)), Vi i5, Vi i6] [] h
  else
    Ru sc (d + 1) mX12_walks 27 [Vr r0, Vi i1, Vi i2, Vi i3, Vi (w32 (i4 + 1)), Vi i5, Vi i6] [] h := (Ru_at at_X12_walks 62 _ _ _).trans rfl
theorem at_X12_walk : am_at mX12_walk = (cd_X12_walk, [], 4) := rfl
set_option maxRecDepth 60000 in
theorem q_X12_walk_0 (sc : Nat × (Nat → Int)) (d : Nat) (r0 : Option Nat) (i1 : Int) (i2 : Int) (i3 : Int) (h : am_H) : Cl sc (d + 1) mX12_walk [Vr r0, Vi i1, Vi i2, Vi i3] h =
  pfI 0 12 0 h r0 0 fun h1 =>
  clI (Cl sc d mX12_in [Vi i1, Vi 0, Vi 48] h1) am_xt fun v3 h2 =>
  if v3 = 0 then
    Ru sc (d + 1) mX12_walk 18 [Vr r0, Vi i1, Vi i2, Vi i3] [Vi 1, Vr r0] h2
  else
    clI (Cl sc d mX12_in [Vi i2, Vi 0, Vi 48] h2) am_xt fun v5 h4 =>
    if v5 = 0 then
      Ru sc (d + 1) mX12_walk 18 [Vr r0, Vi i1, Vi i2, Vi i3] [Vi 1, Vr r0] h4
    else
      Ru sc (d + 1) mX12_walk 18 [Vr r0, Vi i1, Vi i2, Vi i3] [Vi 0, Vr r0] h4 := (Cl_at at_X12_walk rfl _).trans rfl
set_option maxRecDepth 60000 in
theorem q_X12_walk_18 (sc : Nat × (Nat → Int)) (d : Nat) (r0 : Option Nat) (i1 : Int) (i2 : Int) (i3 : Int) (ti0 : Int) (tr1 : Option Nat) (h : am_H) : Ru sc (d + 1) mX12_walk 18 [Vr r0, Vi i1, Vi i2, Vi i3] [Vi ti0, Vr tr1] h =
  am_rcv 12 h (Vr tr1) (
  clI (Cl sc d mX12_throwsIf [Vr tr1, Vi ti0, Vi 1] h) am_xt fun v2 h1 =>
  if v2 = 0 then
    clI (Cl sc d mX12_noHeight [Vi i3] h1) am_xt fun v4 h3 =>
    am_rcv 12 h3 (Vr r0) (
    clI (Cl sc d mX12_throwsIf [Vr r0, Vi v4, Vi 2] h3) am_xt fun v6 h5 =>
    if v6 = 0 then
      am_rcv 12 h5 (Vr r0) (
      clV (Cl sc d mX12_walks [Vr r0, Vi i1, Vi i3] h5) am_xt fun h7 =>
      gfP 12 26 h7 r0 fun p8 =>
      ldA 1 h7 p8 i2 fun v9 =>
      some (.inl (Vi v9), h7))
    else
      some (.inl (Vi 0), h5))
  else
    some (.inl (Vi 0), h1)) := (Ru_at at_X12_walk 18 _ _ _).trans rfl
theorem at_X12_hangs : am_at mX12_hangs = (cd_X12_hangs, [], 6) := rfl
set_option maxRecDepth 60000 in
theorem q_X12_hangs_0 (sc : Nat × (Nat → Int)) (d : Nat) (r0 : Option Nat) (i1 : Int) (h : am_H) : Cl sc (d + 1) mX12_hangs [Vr r0, Vi i1] h =
  am_rcv 12 h (Vr r0) (
  clI (Cl sc d mX12_wrongHeight [Vr r0, Vi i1] h) am_xt fun v2 h1 =>
  if v2 = 0 then
    Ru sc (d + 1) mX12_hangs 11 [Vr r0, Vi i1, Vi 0, Vi 0, Vx 0, Vx 0] [] h1
  else
    some (.inl (Vi 0), h1)) := (Cl_at at_X12_hangs rfl _).trans rfl
set_option maxRecDepth 60000 in
theorem q_X12_hangs_11 (sc : Nat × (Nat → Int)) (d : Nat) (r0 : Option Nat) (i1 : Int) (i2 : Int) (i3 : Int) (u4 : am_V) (u5 : am_V) (h : am_H) : Ru sc (d + 1) mX12_hangs 11 [Vr r0, Vi i1, Vi i2, Vi i3, u4, u5] [] h =
  if i3 < 49 then
    am_rcv 12 h (Vr r0) (
    clV (Cl sc d mX12_walks [Vr r0, Vi i3, Vi i1] h) am_xt fun h1 =>
    Ru sc (d + 1) mX12_hangs 23 [Vr r0, Vi i1, Vi i2, Vi i3, Vi 0, Vi 0] [] h1)
  else
    some (.inl (Vi i2), h) := (Ru_at at_X12_hangs 11 _ _ _).trans rfl
set_option maxRecDepth 60000 in
theorem q_X12_hangs_23 (sc : Nat × (Nat → Int)) (d : Nat) (r0 : Option Nat) (i1 : Int) (i2 : Int) (i3 : Int) (i4 : Int) (i5 : Int) (h : am_H) : Ru sc (d + 1) mX12_hangs 23 [Vr r0, Vi i1, Vi i2, Vi i3, Vi i4, Vi i5] [] h =
  if i5 < 60 then
    am_rcv 12 h (Vr r0) (
    clI (Cl sc d mX12_isTop [Vr r0, Vi i5, Vi i1] h) am_xt fun v4 h3 =>
    if v4 = 0 then
      Ru sc (d + 1) mX12_hangs 23 [Vr r0, Vi i1, Vi i2, Vi i3, Vi (w32 (i4 + 0)), Vi (w32 (i5 + 1))] [] h3
    else
      gfP 12 26 h3 r0 fun p5 =>
      clI (Cl sc d mX12_beginOf [Vi i5] h3) am_xt fun v7 h6 =>
      ldA 1 h6 p5 v7 fun v8 =>
      if v8 = (-1) then
        Ru sc (d + 1) mX12_hangs 23 [Vr r0, Vi i1, Vi i2, Vi i3, Vi (w32 (i4 + 0)), Vi (w32 (i5 + 1))] [] h6
      else
        Ru sc (d + 1) mX12_hangs 23 [Vr r0, Vi i1, Vi i2, Vi i3, Vi (w32 (i4 + 1)), Vi (w32 (i5 + 1))] [] h6)
  else
    clI (Cl sc d mJ9_max_7cf53 [Vi i2, Vi i4] h) am_xt fun v2 h1 =>
    Ru sc (d + 1) mX12_hangs 11 [Vr r0, Vi i1, Vi v2, Vi (w32 (i3 + 1)), Vi i4, Vi i5] [] h1 := (Ru_at at_X12_hangs 23 _ _ _).trans rfl
theorem at_X12_ends : am_at mX12_ends = (cd_X12_ends, [], 6) := rfl
set_option maxRecDepth 60000 in
theorem q_X12_ends_0 (sc : Nat × (Nat → Int)) (d : Nat) (r0 : Option Nat) (i1 : Int) (h : am_H) : Cl sc (d + 1) mX12_ends [Vr r0, Vi i1] h =
  am_rcv 12 h (Vr r0) (
  clI (Cl sc d mX12_wrongHeight [Vr r0, Vi i1] h) am_xt fun v2 h1 =>
  if v2 = 0 then
    Ru sc (d + 1) mX12_ends 11 [Vr r0, Vi i1, Vi 0, Vi 0, Vx 0, Vx 0] [] h1
  else
    some (.inl (Vi 0), h1)) := (Cl_at at_X12_ends rfl _).trans rfl
set_option maxRecDepth 60000 in
theorem q_X12_ends_11 (sc : Nat × (Nat → Int)) (d : Nat) (r0 : Option Nat) (i1 : Int) (i2 : Int) (i3 : Int) (u4 : am_V) (u5 : am_V) (h : am_H) : Ru sc (d + 1) mX12_ends 11 [Vr r0, Vi i1, Vi i2, Vi i3, u4, u5] [] h =
  if i3 < 49 then
    Ru sc (d + 1) mX12_ends 19 [Vr r0, Vi i1, Vi i2, Vi i3, Vi 0, Vi 0] [] h
  else
    some (.inl (Vi i2), h) := (Ru_at at_X12_ends 11 _ _ _).trans rfl
set_option maxRecDepth 60000 in
theorem q_X12_ends_19 (sc : Nat × (Nat → Int)) (d : Nat) (r0 : Option Nat) (i1 : Int) (i2 : Int) (i3 : Int) (i4 : Int) (i5 : Int) (h : am_H) : Ru sc (d + 1) mX12_ends 19 [Vr r0, Vi i1, Vi i2, Vi i3, Vi i4, Vi i5] [] h =
  if i5 < 60 then
    am_rcv 12 h (Vr r0) (
    clI (Cl sc d mX12_isTop [Vr r0, Vi i5, Vi i1] h) am_xt fun v2 h1 =>
    if v2 = 0 then
      Ru sc (d + 1) mX12_ends 19 [Vr r0, Vi i1, Vi i2, Vi i3, Vi (w32 (i4 + 0)), Vi (w32 (i5 + 1))] [] h1
    else
      clI (Cl sc d mX12_beginOf [Vi i5] h1) am_xt fun v4 h3 =>
      if v4 = i3 then
        Ru sc (d + 1) mX12_ends 19 [Vr r0, Vi i1, Vi i2, Vi i3, Vi (w32 (i4 + 1)), Vi (w32 (i5 + 1))] [] h3
      else
        clI (Cl sc d mX12_endOf [Vi i5] h3) am_xt fun v6 h5 =>
        if v6 = i3 then
          Ru sc (d + 1) mX12_ends 19 [Vr r0, Vi i1, Vi i2, Vi i3, Vi (w32 (i4 + 1)), Vi (w32 (i5 + 1))] [] h5
        else
          Ru sc (d + 1) mX12_ends 19 [Vr r0, Vi i1, Vi i2, Vi i3, Vi (w32 (i4 + 0)), Vi (w32 (i5 + 1))] [] h5)
  else
    if i4 = 1 then
      Ru sc (d + 1) mX12_ends 11 [Vr r0, Vi i1, Vi (w32 (i2 + 1)), Vi (w32 (i3 + 1)), Vi i4, Vi i5] [] h
    else
      Ru sc (d + 1) mX12_ends 11 [Vr r0, Vi i1, Vi (w32 (i2 + 0)), Vi (w32 (i3 + 1)), Vi i4, Vi i5] [] h := (Ru_at at_X12_ends 19 _ _ _).trans rfl
theorem at_X12_isSeen : am_at mX12_isSeen = (cd_X12_isSeen, [], 3) := rfl
set_option maxRecDepth 60000 in
theorem q_X12_isSeen_0 (sc : Nat × (Nat → Int)) (d : Nat) (r0 : Option Nat) (h : am_H) : Cl sc (d + 1) mX12_isSeen [Vr r0] h =
  gfI 12 11 h r0 fun v1 =>
  if 2 = 0 then none else
  if (v1.tmod 2) = 0 then
    gfI 12 11 h r0 fun v2 =>
    if 40 < v2 then
      Ru sc (d + 1) mX12_isSeen 16 [Vr r0, Vi 0, Vi 0] [] h
    else
      Ru sc (d + 1) mX12_isSeen 16 [Vr r0, Vi 1, Vi 0] [] h
  else
    Ru sc (d + 1) mX12_isSeen 16 [Vr r0, Vi 0, Vi 0] [] h := (Cl_at at_X12_isSeen rfl _).trans rfl
set_option maxRecDepth 60000 in
theorem q_X12_isSeen_16 (sc : Nat × (Nat → Int)) (d : Nat) (r0 : Option Nat) (i1 : Int) (i2 : Int) (h : am_H) : Ru sc (d + 1) mX12_isSeen 16 [Vr r0, Vi i1, Vi i2] [] h =
  gfI 12 11 h r0 fun v1 =>
  if i2 < v1 then
    if i1 = 0 then
      am_ret 1 i1 h
    else
      gfP 12 8 h r0 fun p2 =>
      ldB h p2 i2 fun v3 =>
      clI (Cl sc d mX12_in [Vi v3, Vi 0, Vi 99] h) am_xt fun v5 h4 =>
      Ru sc (d + 1) mX12_isSeen 16 [Vr r0, Vi v5, Vi (w32 (i2 + 2))] [] h4
  else
    am_ret 1 i1 h := (Ru_at at_X12_isSeen 16 _ _ _).trans rfl
theorem at_X12_highIn : am_at mX12_highIn = (cd_X12_highIn, [], 2) := rfl
set_option maxRecDepth 60000 in
theorem q_X12_highIn_0 (sc : Nat × (Nat → Int)) (d : Nat) (i0 : Int) (i1 : Int) (h : am_H) : Cl sc (d + 1) mX12_highIn [Vi i0, Vi i1] h =
  if 10 = 0 then none else
  if 10 = 0 then none else
  clI (Cl sc d mJ9_max_7cf53 [Vi 0, Vi (w32 (i1 - (w32 (i0.tdiv 10))))] h) am_xt fun v2 h1 =>
  some (.inl (Vi (w32 ((i0.tmod 10) * v2))), h1) := (Cl_at at_X12_highIn rfl _).trans rfl
theorem at_X12_fits : am_at mX12_fits = (cd_X12_fits, [], 4) := rfl
set_option maxRecDepth 60000 in
theorem q_X12_fits_0 (sc : Nat × (Nat → Int)) (d : Nat) (r0 : Option Nat) (i1 : Int) (h : am_H) : Cl sc (d + 1) mX12_fits [Vr r0, Vi i1] h =
  Ru sc (d + 1) mX12_fits 5 [Vr r0, Vi i1, Vi 1, Vi 0] [] h := (Cl_at at_X12_fits rfl _).trans rfl
set_option maxRecDepth 60000 in
theorem q_X12_fits_5 (sc : Nat × (Nat → Int)) (d : Nat) (r0 : Option Nat) (i1 : Int) (i2 : Int) (i3 : Int) (h : am_H) : Ru sc (d + 1) mX12_fits 5 [Vr r0, Vi i1, Vi i2, Vi i3] [] h =
  gfI 12 11 h r0 fun v1 =>
  if i3 < v1 then
    if i2 = 0 then
      Ru sc (d + 1) mX12_fits 5 [Vr r0, Vi i1, Vi 0, Vi (w32 (i3 + 2))] [] h
    else
      gfP 12 8 h r0 fun p2 =>
      ldB h p2 i3 fun v3 =>
      clI (Cl sc d mX12_highIn [Vi i1, Vi v3] h) am_xt fun v5 h4 =>
      gfP 12 8 h4 r0 fun p6 =>
      ldB h4 p6 (w32 (i3 + 1)) fun v7 =>
      clI (Cl sc d mJ9_abs_0f7a4 [Vi (w32 (v5 - (bAnd v7 255)))] h4) am_xt fun v9 h8 =>
      if 1 < v9 then
        Ru sc (d + 1) mX12_fits 5 [Vr r0, Vi i1, Vi 0, Vi (w32 (i3 + 2))] [] h8
      else
        Ru sc (d + 1) mX12_fits 5 [Vr r0, Vi i1, Vi 1, Vi (w32 (i3 + 2))] [] h8
  else
    am_ret 1 i2 h := (Ru_at at_X12_fits 5 _ _ _).trans rfl
theorem at_X12_seen : am_at mX12_seen = (cd_X12_seen, [], 5) := rfl
set_option maxRecDepth 60000 in
theorem q_X12_seen_0 (sc : Nat × (Nat → Int)) (d : Nat) (r0 : Option Nat) (i1 : Int) (h : am_H) : Cl sc (d + 1) mX12_seen [Vr r0, Vi i1] h =
  am_rcv 12 h (Vr r0) (
  clV (Cl sc d mX12_uses [Vr r0] h) am_xt fun h1 =>
  am_rcv 12 h1 (Vr r0) (
  clI (Cl sc d mX12_isSeen [Vr r0] h1) am_xt fun v3 h2 =>
  if v3 = 0 then
    am_rcv 12 h2 (Vr r0) (
    clI (Cl sc d mX12_throwsIf [Vr r0, Vi 1, Vi 1] h2) am_xt fun v7 h6 =>
    if v7 = 0 then
      Ru sc (d + 1) mX12_seen 21 [Vr r0, Vi i1, Vi 0, Vi (-1), Vi 999] [] h6
    else
      some (.inl (Vi 0), h6))
  else
    am_rcv 12 h2 (Vr r0) (
    clI (Cl sc d mX12_throwsIf [Vr r0, Vi 0, Vi 1] h2) am_xt fun v5 h4 =>
    if v5 = 0 then
      Ru sc (d + 1) mX12_seen 21 [Vr r0, Vi i1, Vi 0, Vi (-1), Vi 999] [] h4
    else
      some (.inl (Vi 0), h4)))) := (Cl_at at_X12_seen rfl _).trans rfl
set_option maxRecDepth 60000 in
theorem q_X12_seen_21 (sc : Nat × (Nat → Int)) (d : Nat) (r0 : Option Nat) (i1 : Int) (i2 : Int) (i3 : Int) (i4 : Int) (h : am_H) : Ru sc (d + 1) mX12_seen 21 [Vr r0, Vi i1, Vi i2, Vi i3, Vi i4] [] h =
  if i4 < 0 then
    if i1 = 0 then
      some (.inl (Vi i2), h)
    else
      some (.inl (Vi i3), h)
  else
    am_rcv 12 h (Vr r0) (
    clI (Cl sc d mX12_fits [Vr r0, Vi i4] h) am_xt fun v2 h1 =>
    if v2 = 0 then
      Ru sc (d + 1) mX12_seen 21 [Vr r0, Vi i1, Vi i2, Vi i3, Vi (w32 (i4 + (-1)))] [] h1
    else
      Ru sc (d + 1) mX12_seen 21 [Vr r0, Vi i1, Vi (w32 (i2 + 1)), Vi i4, Vi (w32 (i4 + (-1)))] [] h1) := (Ru_at at_X12_seen 21 _ _ _).trans rfl
theorem at_X12_partBy : am_at mX12_partBy = (cd_X12_partBy, [], 5) := rfl
set_option maxRecDepth 60000 in
theorem q_X12_partBy_0 (sc : Nat × (Nat → Int)) (d : Nat) (r0 : Option Nat) (i1 : Int) (h : am_H) : Cl sc (d + 1) mX12_partBy [Vr r0, Vi i1] h =
  Ru sc (d + 1) mX12_partBy 5 [Vr r0, Vi i1, Vi 0, Vi 0, Vx 0] [] h := (Cl_at at_X12_partBy rfl _).trans rfl
set_option maxRecDepth 60000 in
theorem q_X12_partBy_5 (sc : Nat × (Nat → Int)) (d : Nat) (r0 : Option Nat) (i1 : Int) (i2 : Int) (i3 : Int) (u4 : am_V) (h : am_H) : Ru sc (d + 1) mX12_partBy 5 [Vr r0, Vi i1, Vi i2, Vi i3, u4] [] h =
  if i3 < 1000 then
    gfP 12 28 h r0 fun p1 =>
    stA 1 h p1 i3 0 fun h2 =>
    Ru sc (d + 1) mX12_partBy 5 [Vr r0, Vi i1, Vi i2, Vi (w32 (i3 + 1)), u4] [] h2
  else
    Ru sc (d + 1) mX12_partBy 18 [Vr r0, Vi i1, Vi i2, Vi 0, u4] [] h := (Ru_at at_X12_partBy 5 _ _ _).trans rfl
set_option maxRecDepth 60000 in
theorem q_X12_partBy_18 (sc : Nat × (Nat → Int)) (d : Nat) (r0 : Option Nat) (i1 : Int) (i2 : Int) (i3 : Int) (u4 : am_V) (h : am_H) : Ru sc (d + 1) mX12_partBy 18 [Vr r0, Vi i1, Vi i2, Vi i3, u4] [] h =
  if i3 < 1000 then
    gfP 12 27 h r0 fun p1 =>
    ldB h p1 i3 fun v2 =>
    if v2 = 0 then
      Ru sc (d + 1) mX12_partBy 18 [Vr r0, Vi i1, Vi i2, Vi (w32 (i3 + 1)), u4] [] h
    else
      clI (Cl sc d mX12_highIn [Vi i3, Vi i1] h) am_xt fun v4 h3 =>
      gfP 12 28 h3 r0 fun p5 =>
      ldA 1 h3 p5 v4 fun v6 =>
      stA 1 h3 p5 v4 (w32 (v6 + 1)) fun h7 =>
      gfP 12 28 h7 r0 fun p8 =>
      ldA 1 h7 p8 v4 fun v9 =>
      clI (Cl sc d mJ9_max_7cf53 [Vi i2, Vi v9] h7) am_xt fun v11 h10 =>
      Ru sc (d + 1) mX12_partBy 18 [Vr r0, Vi i1, Vi v11, Vi (w32 (i3 + 1)), Vi v4] [] h10
  else
    some (.inl (Vi i2), h) := (Ru_at at_X12_partBy 18 _ _ _).trans rfl
theorem at_X12_ask : am_at mX12_ask = (cd_X12_ask, [], 6) := rfl
set_option maxRecDepth 60000 in
theorem q_X12_ask_0 (sc : Nat × (Nat → Int)) (d : Nat) (r0 : Option Nat) (h : am_H) : Cl sc (d + 1) mX12_ask [Vr r0] h =
  am_rcv 12 h (Vr r0) (
  clV (Cl sc d mX12_uses [Vr r0] h) am_xt fun h1 =>
  am_rcv 12 h1 (Vr r0) (
  clI (Cl sc d mX12_isSeen [Vr r0] h1) am_xt fun v3 h2 =>
  if v3 = 0 then
    am_rcv 12 h2 (Vr r0) (
    clI (Cl sc d mX12_throwsIf [Vr r0, Vi 1, Vi 1] h2) am_xt fun v7 h6 =>
    if v7 = 0 then
      Ru sc (d + 1) mX12_ask 19 [Vr r0, Vi 0, Vi 0, Vx 0, Vx 0, Vx 0] [] h6
    else
      some (.inl (Vi 0), h6))
  else
    am_rcv 12 h2 (Vr r0) (
    clI (Cl sc d mX12_throwsIf [Vr r0, Vi 0, Vi 1] h2) am_xt fun v5 h4 =>
    if v5 = 0 then
      Ru sc (d + 1) mX12_ask 19 [Vr r0, Vi 0, Vi 0, Vx 0, Vx 0, Vx 0] [] h4
    else
      some (.inl (Vi 0), h4)))) := (Cl_at at_X12_ask rfl _).trans rfl
set_option maxRecDepth 60000 in
theorem q_X12_ask_19 (sc : Nat × (Nat → Int)) (d : Nat) (r0 : Option Nat) (i1 : Int) (i2 : Int) (u3 : am_V) (u4 : am_V) (u5 : am_V) (h : am_H) : Ru sc (d + 1) mX12_ask 19 [Vr r0, Vi i1, Vi i2, u3, u4, u5] [] h =
  if i2 < 1000 then
    gfP 12 27 h r0 fun p1 =>
    am_rcv 12 h (Vr r0) (
    clI (Cl sc d mX12_fits [Vr r0, Vi i2] h) am_xt fun v3 h2 =>
    stB h2 p1 i2 v3 fun h4 =>
    gfP 12 27 h4 r0 fun p5 =>
    ldB h4 p5 i2 fun v6 =>
    if v6 = 0 then
      Ru sc (d + 1) mX12_ask 19 [Vr r0, Vi (w32 (i1 + 0)), Vi (w32 (i2 + 1)), u3, u4, u5] [] h4
    else
      Ru sc (d + 1) mX12_ask 19 [Vr r0, Vi (w32 (i1 + 1)), Vi (w32 (i2 + 1)), u3, u4, u5] [] h4)
  else
    Ru sc (d + 1) mX12_ask 49 [Vr r0, Vi i1, Vi (-1), Vi 1000000, Vi 0, u5] [] h := (Ru_at at_X12_ask 19 _ _ _).trans rfl
set_option maxRecDepth 60000 in
theorem q_X12_ask_49 (sc : Nat × (Nat → Int)) (d : Nat) (r0 : Option Nat) (i1 : Int) (i2 : Int) (i3 : Int) (i4 : Int) (u5 : am_V) (h : am_H) : Ru sc (d + 1) mX12_ask 49 [Vr r0, Vi i1, Vi i2, Vi i3, Vi i4, u5] [] h =
  if i4 < 100 then
    if 1 < i1 then
      am_rcv 12 h (Vr r0) (
      clI (Cl sc d mX12_partBy [Vr r0, Vi i4] h) am_xt fun v2 h1 =>
      if v2 < i3 then
        clI (Cl sc d mJ9_min_7cf53 [Vi i3, Vi v2] h1) am_xt fun v6 h5 =>
        Ru sc (d + 1) mX12_ask 49 [Vr r0, Vi i1, Vi i4, Vi v6, Vi (w32 (i4 + 1)), Vi v2] [] h5
      else
        clI (Cl sc d mJ9_min_7cf53 [Vi i3, Vi v2] h1) am_xt fun v4 h3 =>
        Ru sc (d + 1) mX12_ask 49 [Vr r0, Vi i1, Vi i2, Vi v4, Vi (w32 (i4 + 1)), Vi v2] [] h3)
    else
      some (.inl (Vi i2), h)
  else
    some (.inl (Vi i2), h) := (Ru_at at_X12_ask 49 _ _ _).trans rfl
theorem at_X12_loses : am_at mX12_loses = (cd_X12_loses, [], 5) := rfl
set_option maxRecDepth 60000 in
theorem q_X12_loses_0 (sc : Nat × (Nat → Int)) (d : Nat) (r0 : Option Nat) (i1 : Int) (i2 : Int) (h : am_H) : Cl sc (d + 1) mX12_loses [Vr r0, Vi i1, Vi i2] h =
  pfI 0 12 0 h r0 0 fun h1 =>
  am_rcv 12 h1 (Vr r0) (
  clI (Cl sc d mX12_noFamily [Vr r0, Vi i1] h1) am_xt fun v3 h2 =>
  if v3 = 0 then
    clI (Cl sc d mX12_noBorder [Vi i2] h2) am_xt fun v5 h4 =>
    if v5 = 0 then
      Ru sc (d + 1) mX12_loses 15 [Vr r0, Vi i1, Vi i2, Vx 0, Vx 0] [Vi 0, Vr r0] h4
    else
      Ru sc (d + 1) mX12_loses 15 [Vr r0, Vi i1, Vi i2, Vx 0, Vx 0] [Vi 1, Vr r0] h4
  else
    Ru sc (d + 1) mX12_loses 15 [Vr r0, Vi i1, Vi i2, Vx 0, Vx 0] [Vi 1, Vr r0] h2) := (Cl_at at_X12_loses rfl _).trans rfl
set_option maxRecDepth 60000 in
theorem q_X12_loses_15 (sc : Nat × (Nat → Int)) (d : Nat) (r0 : Option Nat) (i1 : Int) (i2 : Int) (u3 : am_V) (u4 : am_V) (ti0 : Int) (tr1 : Option Nat) (h : am_H) : Ru sc (d + 1) mX12_loses 15 [Vr r0, Vi i1, Vi i2, u3, u4] [Vi ti0, Vr tr1] h =
  am_rcv 12 h (Vr tr1) (
  clI (Cl sc d mX12_throwsIf [Vr tr1, Vi ti0, Vi 1] h) am_xt fun v2 h1 =>
  if v2 = 0 then
    am_rcv 12 h1 (Vr r0) (
    clI (Cl sc d mX12_ofFamily [Vr r0, Vi i1, Vi 1] h1) am_xt fun v4 h3 =>
    am_rcv 12 h3 (Vr r0) (
    clI (Cl sc d mX12_isOpen [Vr r0, Vi i2, Vi v4] h3) am_xt fun v6 h5 =>
    if v6 = 0 then
      some (.inl (Vi 0), h5)
    else
      am_rcv 12 h5 (Vr r0) (
      clI (Cl sc d mX12_waysOf [Vr r0, Vi i1] h5) am_xt fun v8 h7 =>
      pfI 0 12 18 h7 r0 i2 fun h9 =>
      am_rcv 12 h9 (Vr r0) (
      clI (Cl sc d mX12_waysOf [Vr r0, Vi i1] h9) am_xt fun v11 h10 =>
      pfI 0 12 18 h10 r0 (-1) fun h12 =>
      some (.inl (Vi (w32 (v8 - v11))), h12)))))
  else
    some (.inl (Vi 0), h1)) := (Ru_at at_X12_loses 15 _ _ _).trans rfl
theorem at_X12_laysWorth : am_at mX12_laysWorth = (cd_X12_laysWorth, [], 3) := rfl
set_option maxRecDepth 60000 in
theorem q_X12_laysWorth_0 (sc : Nat × (Nat → Int)) (d : Nat) (r0 : Option Nat) (h : am_H) : Cl sc (d + 1) mX12_laysWorth [Vr r0] h =
  Ru sc (d + 1) mX12_laysWorth 3 [Vr r0, Vi 0, Vx 0] [] h := (Cl_at at_X12_laysWorth rfl _).trans rfl
set_option maxRecDepth 60000 in
theorem q_X12_laysWorth_3 (sc : Nat × (Nat → Int)) (d : Nat) (r0 : Option Nat) (i1 : Int) (u2 : am_V) (h : am_H) : Ru sc (d + 1) mX12_laysWorth 3 [Vr r0, Vi i1, u2] [] h =
  am_rcv 12 h (Vr r0) (
  clI (Cl sc d mX12_families [Vr r0] h) am_xt fun v2 h1 =>
  if i1 < v2 then
    Ru sc (d + 1) mX12_laysWorth 10 [Vr r0, Vi i1, Vi 0] [] h1
  else
    some (.inl (Vx 0), h1)) := (Ru_at at_X12_laysWorth 3 _ _ _).trans rfl
set_option maxRecDepth 60000 in
theorem q_X12_laysWorth_10 (sc : Nat × (Nat → Int)) (d : Nat) (r0 : Option Nat) (i1 : Int) (i2 : Int) (h : am_H) : Ru sc (d + 1) mX12_laysWorth 10 [Vr r0, Vi i1, Vi i2] [] h =
  am_rcv 12 h (Vr r0) (
  clI (Cl sc d mX12_families [Vr r0] h) am_xt fun v2 h1 =>
  if i2 < v2 then
    gfP 12 30 h1 r0 fun p3 =>
    if i1 < i2 then
      am_rcv 12 h1 (Vr r0) (
      clI (Cl sc d mX12_canMeet [Vr r0, Vi i1, Vi i2] h1) am_xt fun v6 h5 =>
      if v6 = 0 then
        stA 1 h5 p3 (w32 ((w32 (6 * i1)) + i2)) (-1) fun h7 =>
        Ru sc (d + 1) mX12_laysWorth 10 [Vr r0, Vi i1, Vi (w32 (i2 + 1))] [] h7
      else
        am_rcv 12 h5 (Vr r0) (
        clI (Cl sc d mX12_ofFamily [Vr r0, Vi i2, Vi 0] h5) am_xt fun v9 h8 =>
        am_rcv 12 h8 (Vr r0) (
        clI (Cl sc d mX12_farOf [Vr r0, Vi i1, Vi v9] h8) am_xt fun v11 h10 =>
        stA 1 h10 p3 (w32 ((w32 (6 * i1)) + i2)) (w32 (100000 - v11)) fun h12 =>
        Ru sc (d + 1) mX12_laysWorth 10 [Vr r0, Vi i1, Vi (w32 (i2 + 1))] [] h12)))
    else
      stA 1 h1 p3 (w32 ((w32 (6 * i1)) + i2)) (-1) fun h4 =>
      Ru sc (d + 1) mX12_laysWorth 10 [Vr r0, Vi i1, Vi (w32 (i2 + 1))] [] h4
  else
    Ru sc (d + 1) mX12_laysWorth 3 [Vr r0, Vi (w32 (i1 + 1)), Vi i2] [] h1) := (Ru_at at_X12_laysWorth 10 _ _ _).trans rfl
theorem at_X12_firstOf : am_at mX12_firstOf = (cd_X12_firstOf, [], 1) := rfl
set_option maxRecDepth 60000 in
theorem q_X12_firstOf_0 (sc : Nat × (Nat → Int)) (d : Nat) (i0 : Int) (h : am_H) : Cl sc (d + 1) mX12_firstOf [Vi i0] h =
  clI (Cl sc d mJ6_numberOfTrailingZeros_0f7a4 [Vi i0] h) am_xt fun v2 h1 =>
  some (.inl (Vi v2), h1) := (Cl_at at_X12_firstOf rfl _).trans rfl
theorem at_X12_pairedBy : am_at mX12_pairedBy = (cd_X12_pairedBy, [], 5) := rfl
set_option maxRecDepth 60000 in
theorem q_X12_pairedBy_0 (sc : Nat × (Nat → Int)) (d : Nat) (r0 : Option Nat) (i1 : Int) (i2 : Int) (h : am_H) : Cl sc (d + 1) mX12_pairedBy [Vr r0, Vi i1, Vi i2] h =
  clI (Cl sc d mX12_firstOf [Vi i1] h) am_xt fun v2 h1 =>
  am_rcv 12 h1 (Vr r0) (
  clI (Cl sc d mX12_families [Vr r0] h1) am_xt fun v4 h3 =>
  if i2 = v4 then
    gfP 12 29 h3 r0 fun p13 =>
    ldA 1 h3 p13 (bAnd i1 (bXor (bShl 1 v2) (-1))) fun v14 =>
    some (.inl (Vi v14), h3)
  else
    clI (Cl sc d mX12_has [Vi (bAnd i1 (bXor (bShl 1 v2) (-1))), Vi i2] h3) am_xt fun v6 h5 =>
    if v6 = 0 then
      some (.inl (Vi (-1)), h5)
    else
      gfP 12 30 h5 r0 fun p7 =>
      ldA 1 h5 p7 (w32 ((w32 (6 * v2)) + i2)) fun v8 =>
      if v8 = (-1) then
        some (.inl (Vi (-1)), h5)
      else
        gfP 12 30 h5 r0 fun p9 =>
        ldA 1 h5 p9 (w32 ((w32 (6 * v2)) + i2)) fun v10 =>
        gfP 12 29 h5 r0 fun p11 =>
        ldA 1 h5 p11 (bAnd (bAnd i1 (bXor (bShl 1 v2) (-1))) (bXor (bShl 1 i2) (-1))) fun v12 =>
        some (.inl (Vi (w32 (v10 + v12))), h5)) := (Cl_at at_X12_pairedBy rfl _).trans rfl
theorem at_X12_laysPairs : am_at mX12_laysPairs = (cd_X12_laysPairs, [], 4) := rfl
set_option maxRecDepth 60000 in
theorem q_X12_laysPairs_0 (sc : Nat × (Nat → Int)) (d : Nat) (r0 : Option Nat) (h : am_H) : Cl sc (d + 1) mX12_laysPairs [Vr r0] h =
  am_rcv 12 h (Vr r0) (
  clV (Cl sc d mX12_laysWorth [Vr r0] h) am_xt fun h1 =>
  gfP 12 29 h1 r0 fun p2 =>
  stA 1 h1 p2 0 0 fun h3 =>
  Ru sc (d + 1) mX12_laysPairs 10 [Vr r0, Vi 1, Vx 0, Vx 0] [] h3) := (Cl_at at_X12_laysPairs rfl _).trans rfl
set_option maxRecDepth 60000 in
theorem q_X12_laysPairs_10 (sc : Nat × (Nat → Int)) (d : Nat) (r0 : Option Nat) (i1 : Int) (u2 : am_V) (u3 : am_V) (h : am_H) : Ru sc (d + 1) mX12_laysPairs 10 [Vr r0, Vi i1, u2, u3] [] h =
  am_rcv 12 h (Vr r0) (
  clI (Cl sc d mX12_families [Vr r0] h) am_xt fun v2 h1 =>
  if i1 < (bShl 1 v2) then
    Ru sc (d + 1) mX12_laysPairs 21 [Vr r0, Vi i1, Vi 0, Vi 0] [] h1
  else
    some (.inl (Vx 0), h1)) := (Ru_at at_X12_laysPairs 10 _ _ _).trans rfl
set_option maxRecDepth 60000 in
theorem q_X12_laysPairs_21 (sc : Nat × (Nat → Int)) (d : Nat) (r0 : Option Nat) (i1 : Int) (i2 : Int) (i3 : Int) (h : am_H) : Ru sc (d + 1) mX12_laysPairs 21 [Vr r0, Vi i1, Vi i2, Vi i3] [] h =
  am_rcv 12 h (Vr r0) (
  clI (Cl sc d mX12_families [Vr r0] h) am_xt fun v2 h1 =>
  if v2 < i3 then
    gfP 12 29 h1 r0 fun p3 =>
    stA 1 h1 p3 i1 i2 fun h4 =>
    Ru sc (d + 1) mX12_laysPairs 10 [Vr r0, Vi (w32 (i1 + 1)), Vi i2, Vi i3] [] h4
  else
    am_rcv 12 h1 (Vr r0) (
    clI (Cl sc d mX12_pairedBy [Vr r0, Vi i1, Vi i3] h1) am_xt fun v6 h5 =>
    clI (Cl sc d mJ9_max_7cf53 [Vi i2, Vi v6] h5) am_xt fun v8 h7 =>
    Ru sc (d + 1) mX12_laysPairs 21 [Vr r0, Vi i1, Vi v8, Vi (w32 (i3 + 1))] [] h7)) := (Ru_at at_X12_laysPairs 21 _ _ _).trans rfl
theorem at_X12_pairs : am_at mX12_pairs = (cd_X12_pairs, [], 7) := rfl
set_option maxRecDepth 60000 in
theorem q_X12_pairs_0 (sc : Nat × (Nat → Int)) (d : Nat) (r0 : Option Nat) (i1 : Int) (h : am_H) : Cl sc (d + 1) mX12_pairs [Vr r0, Vi i1] h =
  pfI 0 12 0 h r0 0 fun h1 =>
  if i1 = (-1) then
    Ru sc (d + 1) mX12_pairs 15 [Vr r0, Vi i1, Vx 0, Vx 0, Vx 0, Vx 0, Vx 0] [Vi 0, Vr r0] h1
  else
    am_rcv 12 h1 (Vr r0) (
    clI (Cl sc d mX12_noFamily [Vr r0, Vi i1] h1) am_xt fun v3 h2 =>
    if v3 = 0 then
      Ru sc (d + 1) mX12_pairs 15 [Vr r0, Vi i1, Vx 0, Vx 0, Vx 0, Vx 0, Vx 0] [Vi 0, Vr r0] h2
    else
      Ru sc (d + 1) mX12_pairs 15 [Vr r0, Vi i1, Vx 0, Vx 0, Vx 0, Vx 0, Vx 0] [Vi 1, Vr r0] h2) := (Cl_at at_X12_pairs rfl _).trans rfl
set_option maxRecDepth 60000 in
theorem q_X12_pairs_15 (sc : Nat × (Nat → Int)) (d : Nat) (r0 : Option Nat) (i1 : Int) (u2 : am_V) (u3 : am_V) (u4 : am_V) (u5 : am_V) (u6 : am_V) (ti0 : Int) (tr1 : Option Nat) (h : am_H) : Ru sc (d + 1) mX12_pairs 15 [Vr r0, Vi i1, u2, u3, u4, u5, u6] [Vi ti0, Vr tr1] h =
  am_rcv 12 h (Vr tr1) (
  clI (Cl sc d mX12_throwsIf [Vr tr1, Vi ti0, Vi 1] h) am_xt fun v2 h1 =>
  if v2 = 0 then
    am_rcv 12 h1 (Vr r0) (
    clV (Cl sc d mX12_laysPairs [Vr r0] h1) am_xt fun h3 =>
    am_rcv 12 h3 (Vr r0) (
    clI (Cl sc d mX12_families [Vr r0] h3) am_xt fun v5 h4 =>
    if i1 = (-1) then
      gfP 12 29 h4 r0 fun p6 =>
      ldA 1 h4 p6 (w32 ((bShl 1 v5) - 1)) fun v7 =>
      if 100000 = 0 then none else
      some (.inl (Vi (w32 ((w32 ((w32 (v7 + 100000)) - 1)).tdiv 100000))), h4)
    else
      Ru sc (d + 1) mX12_pairs 48 [Vr r0, Vi i1, Vi (w32 ((bShl 1 v5) - 1)), Vi (-1), Vi 0, u5, u6] [] h4))
  else
    some (.inl (Vi 0), h1)) := (Ru_at at_X12_pairs 15 _ _ _).trans rfl
set_option maxRecDepth 60000 in
theorem q_X12_pairs_48 (sc : Nat × (Nat → Int)) (d : Nat) (r0 : Option Nat) (i1 : Int) (i2 : Int) (i3 : Int) (i4 : Int) (u5 : am_V) (u6 : am_V) (h : am_H) : Ru sc (d + 1) mX12_pairs 48 [Vr r0, Vi i1, Vi i2, Vi i3, Vi i4, u5, u6] [] h =
  if i4 = 0 then
    clI (Cl sc d mX12_firstOf [Vi i2] h) am_xt fun v4 h3 =>
    Ru sc (d + 1) mX12_pairs 56 [Vr r0, Vi i1, Vi i2, Vi i3, Vi i4, Vi v4, Vi 0] [] h3
  else
    am_rcv 12 h (Vr r0) (
    clI (Cl sc d mX12_families [Vr r0] h) am_xt fun v2 h1 =>
    if i3 = v2 then
      some (.inl (Vi (-1)), h1)
    else
      some (.inl (Vi i3), h1)) := (Ru_at at_X12_pairs 48 _ _ _).trans rfl
set_option maxRecDepth 60000 in
theorem q_X12_pairs_56 (sc : Nat × (Nat → Int)) (d : Nat) (r0 : Option Nat) (i1 : Int) (i2 : Int) (i3 : Int) (i4 : Int) (i5 : Int) (i6 : Int) (h : am_H) : Ru sc (d + 1) mX12_pairs 56 [Vr r0, Vi i1, Vi i2, Vi i3, Vi i4, Vi i5, Vi i6] [] h =
  am_rcv 12 h (Vr r0) (
  clI (Cl sc d mX12_pairedBy [Vr r0, Vi i2, Vi i6] h) am_xt fun v2 h1 =>
  gfP 12 29 h1 r0 fun p3 =>
  ldA 1 h1 p3 i2 fun v4 =>
  if v2 = v4 then
    if i5 = i1 then
      if i5 = i1 then
        Ru sc (d + 1) mX12_pairs 84 [Vr r0, Vi i1, Vi i2, Vi i3, Vi 1, Vi i5, Vi i6] [Vi i6] h1
      else
        Ru sc (d + 1) mX12_pairs 84 [Vr r0, Vi i1, Vi i2, Vi i3, Vi 1, Vi i5, Vi i6] [Vi i5] h1
    else
      if i6 = i1 then
        if i5 = i1 then
          Ru sc (d + 1) mX12_pairs 84 [Vr r0, Vi i1, Vi i2, Vi i3, Vi 1, Vi i5, Vi i6] [Vi i6] h1
        else
          Ru sc (d + 1) mX12_pairs 84 [Vr r0, Vi i1, Vi i2, Vi i3, Vi 1, Vi i5, Vi i6] [Vi i5] h1
      else
        if i5 = i1 then
          Ru sc (d + 1) mX12_pairs 84 [Vr r0, Vi i1, Vi i2, Vi i3, Vi 0, Vi i5, Vi i6] [Vi i6] h1
        else
          Ru sc (d + 1) mX12_pairs 84 [Vr r0, Vi i1, Vi i2, Vi i3, Vi 0, Vi i5, Vi i6] [Vi i5] h1
  else
    Ru sc (d + 1) mX12_pairs 56 [Vr r0, Vi i1, Vi i2, Vi i3, Vi i4, Vi i5, Vi (w32 (i6 + 1))] [] h1) := (Ru_at at_X12_pairs 56 _ _ _).trans rfl
set_option maxRecDepth 60000 in
theorem q_X12_pairs_84 (sc : Nat × (Nat → Int)) (d : Nat) (r0 : Option Nat) (i1 : Int) (i2 : Int) (i3 : Int) (i4 : Int) (i5 : Int) (i6 : Int) (ti0 : Int) (h : am_H) : Ru sc (d + 1) mX12_pairs 84 [Vr r0, Vi i1, Vi i2, Vi i3, Vi i4, Vi i5, Vi i6] [Vi ti0] h =
  am_rcv 12 h (Vr r0) (
  clI (Cl sc d mX12_families [Vr r0] h) am_xt fun v2 h1 =>
  if i6 = v2 then
    Ru sc (d + 1) mX12_pairs 48 [Vr r0, Vi i1, Vi (bAnd i2 (bXor (bShl 1 i5) (-1))), Vi ti0, Vi i4, Vi i5, Vi i6] [] h1
  else
    Ru sc (d + 1) mX12_pairs 48 [Vr r0, Vi i1, Vi (bAnd (bAnd i2 (bXor (bShl 1 i5) (-1))) (bXor (bShl 1 i6) (-1))), Vi ti0, Vi i4, Vi i5, Vi i6] [] h1) := (Ru_at at_X12_pairs 84 _ _ _).trans rfl
theorem at_X12_neighbourHas : am_at mX12_neighbourHas = (cd_X12_neighbourHas, [], 4) := rfl
set_option maxRecDepth 60000 in
theorem q_X12_neighbourHas_0 (sc : Nat × (Nat → Int)) (d : Nat) (r0 : Option Nat) (i1 : Int) (i2 : Int) (i3 : Int) (h : am_H) : Cl sc (d + 1) mX12_neighbourHas [Vr r0, Vi i1, Vi i2, Vi i3] h =
  if i2 = 0 then
    if i3 = 0 then
      some (.inl (Vi 5), h)
    else
      am_rcv 12 h (Vr r0) (
      clI (Cl sc d mX12_ofFamily [Vr r0, Vi i1, Vi 3] h) am_xt fun v4 h3 =>
      if 10 = 0 then none else
      some (.inl (Vi (w32 (1 - (w32 (v4.tdiv 10))))), h3))
  else
    if i3 = 0 then
      some (.inl (Vi 3), h)
    else
      am_rcv 12 h (Vr r0) (
      clI (Cl sc d mX12_ofFamily [Vr r0, Vi i1, Vi 1] h) am_xt fun v2 h1 =>
      if 100 = 0 then none else
      some (.inl (Vi (w32 (v2.tdiv 100))), h1)) := (Cl_at at_X12_neighbourHas rfl _).trans rfl
theorem at_X12_rests : am_at mX12_rests = (cd_X12_rests, [], 6) := rfl
set_option maxRecDepth 60000 in
theorem q_X12_rests_0 (sc : Nat × (Nat → Int)) (d : Nat) (r0 : Option Nat) (i1 : Int) (i2 : Int) (h : am_H) : Cl sc (d + 1) mX12_rests [Vr r0, Vi i1, Vi i2] h =
  am_rcv 12 h (Vr r0) (
  clI (Cl sc d mX12_noTwo [Vr r0, Vi i1, Vi i2] h) am_xt fun v2 h1 =>
  if v2 = 0 then
    Ru sc (d + 1) mX12_rests 12 [Vr r0, Vi i1, Vi i2, Vi 0, Vi 0, Vx 0] [] h1
  else
    some (.inl (Vi 0), h1)) := (Cl_at at_X12_rests rfl _).trans rfl
set_option maxRecDepth 60000 in
theorem q_X12_rests_12 (sc : Nat × (Nat → Int)) (d : Nat) (r0 : Option Nat) (i1 : Int) (i2 : Int) (i3 : Int) (i4 : Int) (u5 : am_V) (h : am_H) : Ru sc (d + 1) mX12_rests 12 [Vr r0, Vi i1, Vi i2, Vi i3, Vi i4, u5] [] h =
  if i4 < 2 then
    Ru sc (d + 1) mX12_rests 18 [Vr r0, Vi i1, Vi i2, Vi i3, Vi i4, Vi 0] [] h
  else
    some (.inl (Vi i3), h) := (Ru_at at_X12_rests 12 _ _ _).trans rfl
set_option maxRecDepth 60000 in
theorem q_X12_rests_18 (sc : Nat × (Nat → Int)) (d : Nat) (r0 : Option Nat) (i1 : Int) (i2 : Int) (i3 : Int) (i4 : Int) (i5 : Int) (h : am_H) : Ru sc (d + 1) mX12_rests 18 [Vr r0, Vi i1, Vi i2, Vi i3, Vi i4, Vi i5] [] h =
  if i5 < 2 then
    am_rcv 12 h (Vr r0) (
    clI (Cl sc d mX12_neighbourHas [Vr r0, Vi i1, Vi i4, Vi i5] h) am_xt fun v2 h1 =>
    am_rcv 12 h1 (Vr r0) (
    clI (Cl sc d mX12_neighbourHas [Vr r0, Vi i1, Vi (w32 (1 - i4)), Vi i5] h1) am_xt fun v4 h3 =>
    if v2 < v4 then
      Ru sc (d + 1) mX12_rests 18 [Vr r0, Vi i1, Vi i2, Vi (bOr i3 0), Vi i4, Vi (w32 (i5 + 1))] [] h3
    else
      am_rcv 12 h3 (Vr r0) (
      clI (Cl sc d mX12_neighbourHas [Vr r0, Vi i2, Vi i5, Vi i4] h3) am_xt fun v6 h5 =>
      am_rcv 12 h5 (Vr r0) (
      clI (Cl sc d mX12_neighbourHas [Vr r0, Vi i2, Vi (w32 (1 - i5)), Vi i4] h5) am_xt fun v8 h7 =>
      if v6 < v8 then
        Ru sc (d + 1) mX12_rests 18 [Vr r0, Vi i1, Vi i2, Vi (bOr i3 0), Vi i4, Vi (w32 (i5 + 1))] [] h7
      else
        Ru sc (d + 1) mX12_rests 18 [Vr r0, Vi i1, Vi i2, Vi (bOr i3 (bShl 1 (w32 ((w32 (2 * i4)) + i5)))), Vi i4, Vi (w32 (i5 + 1))] [] h7))))
  else
    Ru sc (d + 1) mX12_rests 12 [Vr r0, Vi i1, Vi i2, Vi i3, Vi (w32 (i4 + 1)), Vi i5] [] h := (Ru_at at_X12_rests 18 _ _ _).trans rfl
theorem at_X12_odds : am_at mX12_odds = (cd_X12_odds, [], 6) := rfl
set_option maxRecDepth 60000 in
theorem q_X12_odds_0 (sc : Nat × (Nat → Int)) (d : Nat) (r0 : Option Nat) (i1 : Int) (i2 : Int) (h : am_H) : Cl sc (d + 1) mX12_odds [Vr r0, Vi i1, Vi i2] h =
  pfI 0 12 0 h r0 0 fun h1 =>
  am_rcv 12 h1 (Vr r0) (
  clI (Cl sc d mX12_noFamily [Vr r0, Vi i1] h1) am_xt fun v3 h2 =>
  am_rcv 12 h2 (Vr r0) (
  clI (Cl sc d mX12_throwsIf [Vr r0, Vi v3, Vi 1] h2) am_xt fun v5 h4 =>
  if v5 = 0 then
    clI (Cl sc d mX12_in [Vi i2, Vi 0, Vi 4] h4) am_xt fun v7 h6 =>
    if v7 = 0 then
      Ru sc (d + 1) mX12_odds 20 [Vr r0, Vi i1, Vi i2, Vx 0, Vx 0, Vx 0] [Vi 1, Vr r0] h6
    else
      Ru sc (d + 1) mX12_odds 20 [Vr r0, Vi i1, Vi i2, Vx 0, Vx 0, Vx 0] [Vi 0, Vr r0] h6
  else
    some (.inl (Vi 0), h4))) := (Cl_at at_X12_odds rfl _).trans rfl
set_option maxRecDepth 60000 in
theorem q_X12_odds_20 (sc : Nat × (Nat → Int)) (d : Nat) (r0 : Option Nat) (i1 : Int) (i2 : Int) (u3 : am_V) (u4 : am_V) (u5 : am_V) (ti0 : Int) (tr1 : Option Nat) (h : am_H) : Ru sc (d + 1) mX12_odds 20 [Vr r0, Vi i1, Vi i2, u3, u4, u5] [Vi ti0, Vr tr1] h =
  am_rcv 12 h (Vr tr1) (
  clI (Cl sc d mX12_throwsIf [Vr tr1, Vi ti0, Vi 2] h) am_xt fun v2 h1 =>
  if v2 = 0 then
    gfP 12 1 h1 r0 fun p3 =>
    ldA 1 h1 p3 4 fun v4 =>
    am_rcv 12 h1 (Vr r0) (
    clI (Cl sc d mX12_ofFamily [Vr r0, Vi i1, Vi 3] h1) am_xt fun v6 h5 =>
    clI (Cl sc d mJ9_min_7cf53 [Vi 100, Vi (w32 (v4 + v6))] h5) am_xt fun v8 h7 =>
    Ru sc (d + 1) mX12_odds 44 [Vr r0, Vi i1, Vi i2, Vi (w32 (100 - v8)), Vi 10000, Vi 0] [] h7)
  else
    some (.inl (Vi 0), h1)) := (Ru_at at_X12_odds 20 _ _ _).trans rfl
set_option maxRecDepth 60000 in
theorem q_X12_odds_44 (sc : Nat × (Nat → Int)) (d : Nat) (r0 : Option Nat) (i1 : Int) (i2 : Int) (i3 : Int) (i4 : Int) (i5 : Int) (h : am_H) : Ru sc (d + 1) mX12_odds 44 [Vr r0, Vi i1, Vi i2, Vi i3, Vi i4, Vi i5] [] h =
  if i5 < i2 then
    if 100 = 0 then none else
    Ru sc (d + 1) mX12_odds 44 [Vr r0, Vi i1, Vi i2, Vi i3, Vi (w32 ((w32 (i4 * i3)).tdiv 100)), Vi (w32 (i5 + 1))] [] h
  else
    some (.inl (Vi i4), h) := (Ru_at at_X12_odds 44 _ _ _).trans rfl
theorem at_X12_mostOf : am_at mX12_mostOf = (cd_X12_mostOf, [], 5) := rfl
set_option maxRecDepth 60000 in
theorem q_X12_mostOf_0 (sc : Nat × (Nat → Int)) (d : Nat) (r0 : Option Nat) (i1 : Int) (i2 : Int) (h : am_H) : Cl sc (d + 1) mX12_mostOf [Vr r0, Vi i1, Vi i2] h =
  Ru sc (d + 1) mX12_mostOf 5 [Vr r0, Vi i1, Vi i2, Vi (-1), Vi 0] [] h := (Cl_at at_X12_mostOf rfl _).trans rfl
set_option maxRecDepth 60000 in
theorem q_X12_mostOf_5 (sc : Nat × (Nat → Int)) (d : Nat) (r0 : Option Nat) (i1 : Int) (i2 : Int) (i3 : Int) (i4 : Int) (h : am_H) : Ru sc (d + 1) mX12_mostOf 5 [Vr r0, Vi i1, Vi i2, Vi i3, Vi i4] [] h =
  if i4 < 60 then
    am_rcv 12 h (Vr r0) (
    clI (Cl sc d mX12_hasFence [Vr r0, Vi i4] h) am_xt fun v2 h1 =>
    if v2 = 0 then
      Ru sc (d + 1) mX12_mostOf 5 [Vr r0, Vi i1, Vi i2, Vi i3, Vi (w32 (i4 + 1))] [] h1
    else
      if i3 = (-1) then
        Ru sc (d + 1) mX12_mostOf 5 [Vr r0, Vi i1, Vi i2, Vi i4, Vi (w32 (i4 + 1))] [] h1
      else
        if i2 = 0 then
          am_rcv 12 h1 (Vr r0) (
          clI (Cl sc d mX12_of [Vr r0, Vi i4, Vi i1] h1) am_xt fun v4 h3 =>
          am_rcv 12 h3 (Vr r0) (
          clI (Cl sc d mX12_of [Vr r0, Vi i3, Vi i1] h3) am_xt fun v6 h5 =>
          if v6 < v4 then
            Ru sc (d + 1) mX12_mostOf 5 [Vr r0, Vi i1, Vi i2, Vi i4, Vi (w32 (i4 + 1))] [] h5
          else
            Ru sc (d + 1) mX12_mostOf 5 [Vr r0, Vi i1, Vi i2, Vi i3, Vi (w32 (i4 + 1))] [] h5))
        else
          am_rcv 12 h1 (Vr r0) (
          clI (Cl sc d mX12_of [Vr r0, Vi i4, Vi i1] h1) am_xt fun v8 h7 =>
          am_rcv 12 h7 (Vr r0) (
          clI (Cl sc d mX12_of [Vr r0, Vi i3, Vi i1] h7) am_xt fun v10 h9 =>
          if v8 < v10 then
            Ru sc (d + 1) mX12_mostOf 5 [Vr r0, Vi i1, Vi i2, Vi i4, Vi (w32 (i4 + 1))] [] h9
          else
            Ru sc (d + 1) mX12_mostOf 5 [Vr r0, Vi i1, Vi i2, Vi i3, Vi (w32 (i4 + 1))] [] h9)))
  else
    some (.inl (Vi i3), h) := (Ru_at at_X12_mostOf 5 _ _ _).trans rfl
theorem at_X12_oldest : am_at mX12_oldest = (cd_X12_oldest, [], 1) := rfl
set_option maxRecDepth 60000 in
theorem q_X12_oldest_0 (sc : Nat × (Nat → Int)) (d : Nat) (r0 : Option Nat) (h : am_H) : Cl sc (d + 1) mX12_oldest [Vr r0] h =
  pfI 0 12 0 h r0 0 fun h1 =>
  am_rcv 12 h1 (Vr r0) (
  clI (Cl sc d mX12_mostOf [Vr r0, Vi 1, Vi 0] h1) am_xt fun v3 h2 =>
  some (.inl (Vi v3), h2)) := (Cl_at at_X12_oldest rfl _).trans rfl
theorem at_X12_highest : am_at mX12_highest = (cd_X12_highest, [], 2) := rfl
set_option maxRecDepth 60000 in
theorem q_X12_highest_0 (sc : Nat × (Nat → Int)) (d : Nat) (r0 : Option Nat) (i1 : Int) (h : am_H) : Cl sc (d + 1) mX12_highest [Vr r0, Vi i1] h =
  pfI 0 12 0 h r0 0 fun h1 =>
  if i1 = 0 then
    am_rcv 12 h1 (Vr r0) (
    clI (Cl sc d mX12_mostOf [Vr r0, Vi 2, Vi 1] h1) am_xt fun v5 h4 =>
    some (.inl (Vi v5), h4))
  else
    am_rcv 12 h1 (Vr r0) (
    clI (Cl sc d mX12_mostOf [Vr r0, Vi 2, Vi 0] h1) am_xt fun v3 h2 =>
    some (.inl (Vi v3), h2)) := (Cl_at at_X12_highest rfl _).trans rfl
theorem at_X12_sorest : am_at mX12_sorest = (cd_X12_sorest, [], 4) := rfl
set_option maxRecDepth 60000 in
theorem q_X12_sorest_0 (sc : Nat × (Nat → Int)) (d : Nat) (r0 : Option Nat) (h : am_H) : Cl sc (d + 1) mX12_sorest [Vr r0] h =
  pfI 0 12 0 h r0 0 fun h1 =>
  Ru sc (d + 1) mX12_sorest 10 [Vr r0, Vi (-1), Vi 0, Vi 0] [] h1 := (Cl_at at_X12_sorest rfl _).trans rfl
set_option maxRecDepth 60000 in
theorem q_X12_sorest_10 (sc : Nat × (Nat → Int)) (d : Nat) (r0 : Option Nat) (i1 : Int) (i2 : Int) (i3 : Int) (h : am_H) : Ru sc (d + 1) mX12_sorest 10 [Vr r0, Vi i1, Vi i2, Vi i3] [] h =
  am_rcv 12 h (Vr r0) (
  clI (Cl sc d mX12_families [Vr r0] h) am_xt fun v2 h1 =>
  if i3 < v2 then
    am_rcv 12 h1 (Vr r0) (
    clI (Cl sc d mX12_ofFamily [Vr r0, Vi i3, Vi 3] h1) am_xt fun v4 h3 =>
    if i2 < v4 then
      am_rcv 12 h3 (Vr r0) (
      clI (Cl sc d mX12_ofFamily [Vr r0, Vi i3, Vi 3] h3) am_xt fun v10 h9 =>
      clI (Cl sc d mJ9_max_7cf53 [Vi i2, Vi v10] h9) am_xt fun v12 h11 =>
      Ru sc (d + 1) mX12_sorest 10 [Vr r0, Vi i3, Vi v12, Vi (w32 (i3 + 1))] [] h11)
    else
      am_rcv 12 h3 (Vr r0) (
      clI (Cl sc d mX12_ofFamily [Vr r0, Vi i3, Vi 3] h3) am_xt fun v6 h5 =>
      clI (Cl sc d mJ9_max_7cf53 [Vi i2, Vi v6] h5) am_xt fun v8 h7 =>
      Ru sc (d + 1) mX12_sorest 10 [Vr r0, Vi i1, Vi v8, Vi (w32 (i3 + 1))] [] h7))
  else
    some (.inl (Vi i1), h1)) := (Ru_at at_X12_sorest 10 _ _ _).trans rfl
theorem at_X12_twins : am_at mX12_twins = (cd_X12_twins, [], 4) := rfl
set_option maxRecDepth 60000 in
theorem q_X12_twins_0 (sc : Nat × (Nat → Int)) (d : Nat) (r0 : Option Nat) (h : am_H) : Cl sc (d + 1) mX12_twins [Vr r0] h =
  pfI 0 12 0 h r0 0 fun h1 =>
  Ru sc (d + 1) mX12_twins 8 [Vr r0, Vi 0, Vi 0, Vx 0] [] h1 := (Cl_at at_X12_twins rfl _).trans rfl
set_option maxRecDepth 60000 in
theorem q_X12_twins_8 (sc : Nat × (Nat → Int)) (d : Nat) (r0 : Option Nat) (i1 : Int) (i2 : Int) (u3 : am_V) (h : am_H) : Ru sc (d + 1) mX12_twins 8 [Vr r0, Vi i1, Vi i2, u3] [] h =
  am_rcv 12 h (Vr r0) (
  clI (Cl sc d mX12_families [Vr r0] h) am_xt fun v2 h1 =>
  if i2 < v2 then
    Ru sc (d + 1) mX12_twins 15 [Vr r0, Vi i1, Vi i2, Vi 0] [] h1
  else
    some (.inl (Vi i1), h1)) := (Ru_at at_X12_twins 8 _ _ _).trans rfl
set_option maxRecDepth 60000 in
theorem q_X12_twins_15 (sc : Nat × (Nat → Int)) (d : Nat) (r0 : Option Nat) (i1 : Int) (i2 : Int) (i3 : Int) (h : am_H) : Ru sc (d + 1) mX12_twins 15 [Vr r0, Vi i1, Vi i2, Vi i3] [] h =
  if i3 < i2 then
    am_rcv 12 h (Vr r0) (
    clI (Cl sc d mX12_ofFamily [Vr r0, Vi i2, Vi 1] h) am_xt fun v2 h1 =>
    am_rcv 12 h1 (Vr r0) (
    clI (Cl sc d mX12_ofFamily [Vr r0, Vi i3, Vi 1] h1) am_xt fun v4 h3 =>
    if v2 = v4 then
      am_rcv 12 h3 (Vr r0) (
      clI (Cl sc d mX12_ofFamily [Vr r0, Vi i2, Vi 2] h3) am_xt fun v6 h5 =>
      am_rcv 12 h5 (Vr r0) (
      clI (Cl sc d mX12_ofFamily [Vr r0, Vi i3, Vi 2] h5) am_xt fun v8 h7 =>
      if v6 = v8 then
        Ru sc (d + 1) mX12_twins 15 [Vr r0, Vi (w32 (i1 + 1)), Vi i2, Vi (w32 (i3 + 1))] [] h7
      else
        Ru sc (d + 1) mX12_twins 15 [Vr r0, Vi (w32 (i1 + 0)), Vi i2, Vi (w32 (i3 + 1))] [] h7))
    else
      Ru sc (d + 1) mX12_twins 15 [Vr r0, Vi (w32 (i1 + 0)), Vi i2, Vi (w32 (i3 + 1))] [] h3))
  else
    Ru sc (d + 1) mX12_twins 8 [Vr r0, Vi i1, Vi (w32 (i2 + 1)), Vi i3] [] h := (Ru_at at_X12_twins 15 _ _ _).trans rfl
theorem at_X12_noAhead : am_at mX12_noAhead = (cd_X12_noAhead, [], 1) := rfl
set_option maxRecDepth 60000 in
theorem q_X12_noAhead_0 (sc : Nat × (Nat → Int)) (d : Nat) (i0 : Int) (h : am_H) : Cl sc (d + 1) mX12_noAhead [Vi i0] h =
  clI (Cl sc d mX12_in [Vi i0, Vi 0, Vi 100] h) am_xt fun v2 h1 =>
  if v2 = 0 then
    some (.inl (Vi 1), h1)
  else
    some (.inl (Vi 0), h1) := (Cl_at at_X12_noAhead rfl _).trans rfl
theorem at_X12_ahead : am_at mX12_ahead = (cd_X12_ahead, [], 4) := rfl
set_option maxRecDepth 60000 in
theorem q_X12_ahead_0 (sc : Nat × (Nat → Int)) (d : Nat) (r0 : Option Nat) (i1 : Int) (i2 : Int) (h : am_H) : Cl sc (d + 1) mX12_ahead [Vr r0, Vi i1, Vi i2] h =
  pfI 0 12 0 h r0 0 fun h1 =>
  clI (Cl sc d mX12_noBorder [Vi i1] h1) am_xt fun v3 h2 =>
  am_rcv 12 h2 (Vr r0) (
  clI (Cl sc d mX12_throwsIf [Vr r0, Vi v3, Vi 1] h2) am_xt fun v5 h4 =>
  if v5 = 0 then
    clI (Cl sc d mX12_noAhead [Vi i2] h4) am_xt fun v7 h6 =>
    am_rcv 12 h6 (Vr r0) (
    clI (Cl sc d mX12_throwsIf [Vr r0, Vi v7, Vi 2] h6) am_xt fun v9 h8 =>
    if v9 = 0 then
      am_rcv 12 h8 (Vr r0) (
      clV (Cl sc d mX12_keepsAll [Vr r0] h8) am_xt fun h10 =>
      am_rcv 12 h10 (Vr r0) (
      clI (Cl sc d mX12_goesOn [Vr r0, Vi i2, Vi 1] h10) am_xt fun v12 h11 =>
      am_rcv 12 h11 (Vr r0) (
      clI (Cl sc d mX12_of [Vr r0, Vi i1, Vi 2] h11) am_xt fun v14 h13 =>
      am_rcv 12 h13 (Vr r0) (
      clV (Cl sc d mX12_bringsBack [Vr r0] h13) am_xt fun h15 =>
      some (.inl (Vi v14), h15)))))
    else
      some (.inl (Vi 0), h8))
  else
    some (.inl (Vi 0), h4)) := (Cl_at at_X12_ahead rfl _).trans rfl
theorem at_X12_trial : am_at mX12_trial = (cd_X12_trial, [], 4) := rfl
set_option maxRecDepth 60000 in
theorem q_X12_trial_0 (sc : Nat × (Nat → Int)) (d : Nat) (r0 : Option Nat) (i1 : Int) (i2 : Int) (h : am_H) : Cl sc (d + 1) mX12_trial [Vr r0, Vi i1, Vi i2] h =
  pfI 0 12 0 h r0 0 fun h1 =>
  clI (Cl sc d mX12_noAhead [Vi i1] h1) am_xt fun v3 h2 =>
  am_rcv 12 h2 (Vr r0) (
  clI (Cl sc d mX12_throwsIf [Vr r0, Vi v3, Vi 1] h2) am_xt fun v5 h4 =>
  if v5 = 0 then
    am_rcv 12 h4 (Vr r0) (
    clV (Cl sc d mX12_keepsAll [Vr r0] h4) am_xt fun h6 =>
    am_rcv 12 h6 (Vr r0) (
    clI (Cl sc d mX12_goesOn [Vr r0, Vi i1, Vi 0] h6) am_xt fun v8 h7 =>
    if i2 = 0 then
      am_rcv 12 h7 (Vr r0) (
      clI (Cl sc d mX12_sumOfFences [Vr r0, Vi 0] h7) am_xt fun v10 h9 =>
      am_rcv 12 h9 (Vr r0) (
      clV (Cl sc d mX12_bringsBack [Vr r0] h9) am_xt fun h11 =>
      some (.inl (Vi v10), h11)))
    else
      am_rcv 12 h7 (Vr r0) (
      clI (Cl sc d mX12_sumOfFences [Vr r0, Vi 2] h7) am_xt fun v13 h12 =>
      am_rcv 12 h12 (Vr r0) (
      clV (Cl sc d mX12_bringsBack [Vr r0] h12) am_xt fun h14 =>
      some (.inl (Vi v13), h14)))))
  else
    some (.inl (Vi 0), h4)) := (Cl_at at_X12_trial rfl _).trans rfl
theorem at_X12_span : am_at mX12_span = (cd_X12_span, [], 6) := rfl
set_option maxRecDepth 60000 in
theorem q_X12_span_0 (sc : Nat × (Nat → Int)) (d : Nat) (r0 : Option Nat) (i1 : Int) (i2 : Int) (h : am_H) : Cl sc (d + 1) mX12_span [Vr r0, Vi i1, Vi i2] h =
  pfI 0 12 0 h r0 0 fun h1 =>
  clI (Cl sc d mX12_noAhead [Vi i1] h1) am_xt fun v3 h2 =>
  am_rcv 12 h2 (Vr r0) (
  clI (Cl sc d mX12_throwsIf [Vr r0, Vi v3, Vi 1] h2) am_xt fun v5 h4 =>
  if v5 = 0 then
    am_rcv 12 h4 (Vr r0) (
    clV (Cl sc d mX12_keepsAll [Vr r0] h4) am_xt fun h6 =>
    Ru sc (d + 1) mX12_span 18 [Vr r0, Vi i1, Vi i2, Vi (-1), Vi 1, Vx 0] [] h6)
  else
    some (.inl (Vi 0), h4)) := (Cl_at at_X12_span rfl _).trans rfl
set_option maxRecDepth 60000 in
theorem q_X12_span_18 (sc : Nat × (Nat → Int)) (d : Nat) (r0 : Option Nat) (i1 : Int) (i2 : Int) (i3 : Int) (i4 : Int) (u5 : am_V) (h : am_H) : Ru sc (d + 1) mX12_span 18 [Vr r0, Vi i1, Vi i2, Vi i3, Vi i4, u5] [] h =
  if 6 < i4 then
    some (.inl (Vi i3), h)
  else
    gfP 12 1 h r0 fun p1 =>
    stA 1 h p1 6 i4 fun h2 =>
    am_rcv 12 h2 (Vr r0) (
    clI (Cl sc d mX12_goesOn [Vr r0, Vi i1, Vi 0] h2) am_xt fun v4 h3 =>
    am_rcv 12 h3 (Vr r0) (
    clI (Cl sc d mX12_sumOfFences [Vr r0, Vi 0] h3) am_xt fun v6 h5 =>
    am_rcv 12 h5 (Vr r0) (
    clV (Cl sc d mX12_bringsBack [Vr r0] h5) am_xt fun h7 =>
    if i3 < 0 then
      Ru sc (d + 1) mX12_span 18 [Vr r0, Vi i1, Vi i2, Vi v6, Vi (w32 (i4 + 1)), Vi v6] [] h7
    else
      if i2 = 0 then
        clI (Cl sc d mJ9_min_7cf53 [Vi i3, Vi v6] h7) am_xt fun v9 h8 =>
        Ru sc (d + 1) mX12_span 18 [Vr r0, Vi i1, Vi i2, Vi v9, Vi (w32 (i4 + 1)), Vi v6] [] h8
      else
        clI (Cl sc d mJ9_max_7cf53 [Vi i3, Vi v6] h7) am_xt fun v11 h10 =>
        Ru sc (d + 1) mX12_span 18 [Vr r0, Vi i1, Vi i2, Vi v11, Vi (w32 (i4 + 1)), Vi v6] [] h10))) := (Ru_at at_X12_span 18 _ _ _).trans rfl
theorem at_X12_ofLog : am_at mX12_ofLog = (cd_X12_ofLog, [], 3) := rfl
set_option maxRecDepth 60000 in
theorem q_X12_ofLog_0 (sc : Nat × (Nat → Int)) (d : Nat) (r0 : Option Nat) (i1 : Int) (i2 : Int) (h : am_H) : Cl sc (d + 1) mX12_ofLog [Vr r0, Vi i1, Vi i2] h =
  gfP 12 1 h r0 fun p1 =>
  ldA 1 h p1 (w32 ((w32 (331 + (w32 (5 * i1)))) + i2)) fun v2 =>
  some (.inl (Vi v2), h) := (Cl_at at_X12_ofLog rfl _).trans rfl
theorem at_X12_led : am_at mX12_led = (cd_X12_led, [], 6) := rfl
set_option maxRecDepth 60000 in
theorem q_X12_led_0 (sc : Nat × (Nat → Int)) (d : Nat) (r0 : Option Nat) (i1 : Int) (i2 : Int) (h : am_H) : Cl sc (d + 1) mX12_led [Vr r0, Vi i1, Vi i2] h =
  pfI 0 12 0 h r0 0 fun h1 =>
  clI (Cl sc d mX12_noBorder [Vi i1] h1) am_xt fun v3 h2 =>
  am_rcv 12 h2 (Vr r0) (
  clI (Cl sc d mX12_throwsIf [Vr r0, Vi v3, Vi 1] h2) am_xt fun v5 h4 =>
  if v5 = 0 then
    gfP 12 1 h4 r0 fun p6 =>
    ldA 1 h4 p6 5 fun v7 =>
    Ru sc (d + 1) mX12_led 23 [Vr r0, Vi i1, Vi i2, Vi 0, Vi (-1), Vi (w32 (v7 - 1))] [] h4
  else
    some (.inl (Vi 0), h4)) := (Cl_at at_X12_led rfl _).trans rfl
set_option maxRecDepth 60000 in
theorem q_X12_led_23 (sc : Nat × (Nat → Int)) (d : Nat) (r0 : Option Nat) (i1 : Int) (i2 : Int) (i3 : Int) (i4 : Int) (i5 : Int) (h : am_H) : Ru sc (d + 1) mX12_led 23 [Vr r0, Vi i1, Vi i2, Vi i3, Vi i4, Vi i5] [] h =
  if i5 < 0 then
    if i2 = 0 then
      some (.inl (Vi i3), h)
    else
      some (.inl (Vi i4), h)
  else
    am_rcv 12 h (Vr r0) (
    clI (Cl sc d mX12_ofLog [Vr r0, Vi i5, Vi 1] h) am_xt fun v2 h1 =>
    if v2 = i1 then
      am_rcv 12 h1 (Vr r0) (
      clI (Cl sc d mX12_ofLog [Vr r0, Vi i5, Vi 0] h1) am_xt fun v4 h3 =>
      Ru sc (d + 1) mX12_led 23 [Vr r0, Vi i1, Vi i2, Vi (w32 (i3 + 1)), Vi v4, Vi (w32 (i5 + (-1)))] [] h3)
    else
      Ru sc (d + 1) mX12_led 23 [Vr r0, Vi i1, Vi i2, Vi i3, Vi i4, Vi (w32 (i5 + (-1)))] [] h1) := (Ru_at at_X12_led 23 _ _ _).trans rfl
theorem at_X12_log : am_at mX12_log = (cd_X12_log, [], 3) := rfl
set_option maxRecDepth 60000 in
theorem q_X12_log_0 (sc : Nat × (Nat → Int)) (d : Nat) (r0 : Option Nat) (i1 : Int) (i2 : Int) (h : am_H) : Cl sc (d + 1) mX12_log [Vr r0, Vi i1, Vi i2] h =
  pfI 0 12 0 h r0 0 fun h1 =>
  clI (Cl sc d mX12_in [Vi i2, Vi 0, Vi 4] h1) am_xt fun v3 h2 =>
  if v3 = 0 then
    Ru sc (d + 1) mX12_log 13 [Vr r0, Vi i1, Vi i2] [Vi 1, Vr r0] h2
  else
    Ru sc (d + 1) mX12_log 13 [Vr r0, Vi i1, Vi i2] [Vi 0, Vr r0] h2 := (Cl_at at_X12_log rfl _).trans rfl
set_option maxRecDepth 60000 in
theorem q_X12_log_13 (sc : Nat × (Nat → Int)) (d : Nat) (r0 : Option Nat) (i1 : Int) (i2 : Int) (ti0 : Int) (tr1 : Option Nat) (h : am_H) : Ru sc (d + 1) mX12_log 13 [Vr r0, Vi i1, Vi i2] [Vi ti0, Vr tr1] h =
  am_rcv 12 h (Vr tr1) (
  clI (Cl sc d mX12_throwsIf [Vr tr1, Vi ti0, Vi 1] h) am_xt fun v2 h1 =>
  if v2 = 0 then
    gfP 12 1 h1 r0 fun p3 =>
    ldA 1 h1 p3 5 fun v4 =>
    clI (Cl sc d mX12_in [Vi i1, Vi 0, Vi (w32 (v4 - 1))] h1) am_xt fun v6 h5 =>
    if v6 = 0 then
      some (.inl (Vi (-2)), h5)
    else
      am_rcv 12 h5 (Vr r0) (
      clI (Cl sc d mX12_ofLog [Vr r0, Vi i1, Vi i2] h5) am_xt fun v8 h7 =>
      some (.inl (Vi v8), h7))
  else
    some (.inl (Vi 0), h1)) := (Ru_at at_X12_log 13 _ _ _).trans rfl
theorem at_X12_seed : am_at mX12_seed = (cd_X12_seed, [], 3) := rfl
set_option maxRecDepth 60000 in
theorem q_X12_seed_0 (sc : Nat × (Nat → Int)) (d : Nat) (r0 : Option Nat) (i1 : Int) (h : am_H) : Cl sc (d + 1) mX12_seed [Vr r0, Vi i1] h =
  pfI 0 12 0 h r0 0 fun h1 =>
  gfP 12 1 h1 r0 fun p2 =>
  ldA 1 h1 p2 6 fun v3 =>
  gfP 12 1 h1 r0 fun p4 =>
  stA 1 h1 p4 6 i1 fun h5 =>
  some (.inl (Vi v3), h5) := (Cl_at at_X12_seed rfl _).trans rfl
theorem at_X12_count : am_at mX12_count = (cd_X12_count, [], 4) := rfl
set_option maxRecDepth 60000 in
theorem q_X12_count_0 (sc : Nat × (Nat → Int)) (d : Nat) (r0 : Option Nat) (i1 : Int) (h : am_H) : Cl sc (d + 1) mX12_count [Vr r0, Vi i1] h =
  pfI 0 12 0 h r0 0 fun h1 =>
  Ru sc (d + 1) mX12_count 8 [Vr r0, Vi i1, Vi 0, Vi 0] [] h1 := (Cl_at at_X12_count rfl _).trans rfl
set_option maxRecDepth 60000 in
theorem q_X12_count_8 (sc : Nat × (Nat → Int)) (d : Nat) (r0 : Option Nat) (i1 : Int) (i2 : Int) (i3 : Int) (h : am_H) : Ru sc (d + 1) mX12_count 8 [Vr r0, Vi i1, Vi i2, Vi i3] [] h =
  am_rcv 12 h (Vr r0) (
  clI (Cl sc d mX12_families [Vr r0] h) am_xt fun v2 h1 =>
  if i3 < v2 then
    am_rcv 12 h1 (Vr r0) (
    clI (Cl sc d mX12_ofFamily [Vr r0, Vi i3, Vi 3] h1) am_xt fun v27 h26 =>
    Ru sc (d + 1) mX12_count 8 [Vr r0, Vi i1, Vi (w32 (i2 + v27)), Vi (w32 (i3 + 1))] [] h26)
  else
    if i1 = 0 then
      am_rcv 12 h1 (Vr r0) (
      clI (Cl sc d mX12_families [Vr r0] h1) am_xt fun v4 h3 =>
      some (.inl (Vi v4), h3))
    else if i1 = 1 then
      am_rcv 12 h1 (Vr r0) (
      clI (Cl sc d mX12_sumOfFences [Vr r0, Vi 0] h1) am_xt fun v6 h5 =>
      some (.inl (Vi v6), h5))
    else if i1 = 2 then
      gfP 12 1 h1 r0 fun p7 =>
      ldA 1 h1 p7 1 fun v8 =>
      some (.inl (Vi v8), h1)
    else if i1 = 3 then
      gfP 12 1 h1 r0 fun p9 =>
      ldA 1 h1 p9 2 fun v10 =>
      if v10 = 1 then
        gfP 12 1 h1 r0 fun p11 =>
        ldA 1 h1 p11 631 fun v12 =>
        some (.inl (Vi v12), h1)
      else
        some (.inl (Vi (-1)), h1)
    else if i1 = 4 then
      gfP 12 1 h1 r0 fun p13 =>
      ldA 1 h1 p13 3 fun v14 =>
      some (.inl (Vi v14), h1)
    else if i1 = 5 then
      gfP 12 1 h1 r0 fun p15 =>
      ldA 1 h1 p15 4 fun v16 =>
      some (.inl (Vi v16), h1)
    else if i1 = 6 then
      am_rcv 12 h1 (Vr r0) (
      clI (Cl sc d mX12_sumOfFences [Vr r0, Vi 3] h1) am_xt fun v18 h17 =>
      some (.inl (Vi v18), h17))
    else if i1 = 7 then
      am_rcv 12 h1 (Vr r0) (
      clI (Cl sc d mX12_sumOfFences [Vr r0, Vi 4] h1) am_xt fun v20 h19 =>
      some (.inl (Vi v20), h19))
    else if i1 = 8 then
      am_rcv 12 h1 (Vr r0) (
      clI (Cl sc d mX12_sumOfFences [Vr r0, Vi 2] h1) am_xt fun v22 h21 =>
      some (.inl (Vi v22), h21))
    else if i1 = 9 then
      some (.inl (Vi i2), h1)
    else if i1 = 10 then
      gfP 12 1 h1 r0 fun p23 =>
      ldA 1 h1 p23 5 fun v24 =>
      some (.inl (Vi v24), h1)
    else if i1 = 11 then
      gfI 12 7 h1 r0 fun v25 =>
      some (.inl (Vi v25), h1)
    else some (.inl (Vi (-1)), h1)) := (Ru_at at_X12_count 8 _ _ _).trans rfl
