theorem at_X11_init : am_at mX11_init = (cd_X11_init, [], 2) := rfl
set_option maxRecDepth 60000 in
theorem q_X11_init_0 (sc : Nat × (Nat → Int)) (d : Nat) (a0 : Nat) (h : am_H) : Cl sc (d + 1) mX11_init [Vr (some a0)] h =
  am_rcv 10 (am_new h 0 10 7) (Vr (some (hZ h))) (
  clV (Cl sc d mX10_init [Vr (some (hZ h))] (am_new h 0 10 7)) am_xn0 fun h1 =>
  pfP 11 0 h1 (some a0) (some (hZ h)) fun h2 =>
  gfP 11 0 (am_new h2 0 1 1) (some a0) fun p3 =>
  am_rcv 1 (am_new h2 0 1 1) (Vr (some (hZ h2))) (
  clV (Cl sc d mX1_init [Vr (some (hZ h2)), Vr p3] (am_new h2 0 1 1)) am_xn0 fun h4 =>
  pfP 11 1 h4 (some a0) (some (hZ h2)) fun h5 =>
  gfP 11 0 (am_new h5 0 4 7) (some a0) fun p6 =>
  am_rcv 4 (am_new h5 0 4 7) (Vr (some (hZ h5))) (
  clV (Cl sc d mX4_init [Vr (some (hZ h5)), Vr p6] (am_new h5 0 4 7)) am_xn0 fun h7 =>
  pfP 11 2 h7 (some a0) (some (hZ h5)) fun h8 =>
  am_rcv 0 (am_new h8 0 0 16) (Vr (some (hZ h8))) (
  clV (Cl sc d mX0_init [Vr (some (hZ h8))] (am_new h8 0 0 16)) am_xn0 fun h9 =>
  pfP 11 3 h9 (some a0) (some (hZ h8)) fun h10 =>
  am_rcv 0 (am_new h10 0 0 16) (Vr (some (hZ h10))) (
  clV (Cl sc d mX0_init [Vr (some (hZ h10))] (am_new h10 0 0 16)) am_xn0 fun h11 =>
  pfP 11 4 h11 (some a0) (some (hZ h10)) fun h12 =>
  am_rcv 0 (am_new h12 0 0 16) (Vr (some (hZ h12))) (
  clV (Cl sc d mX0_init [Vr (some (hZ h12))] (am_new h12 0 0 16)) am_xn0 fun h13 =>
  pfP 11 5 h13 (some a0) (some (hZ h12)) fun h14 =>
  pfI 1 11 6 h14 (some a0) 0 fun h15 =>
  newA 5 h15 12 fun p16 h17 =>
  pfP 11 7 h17 (some a0) p16 fun h18 =>
  pfI 0 11 8 h18 (some a0) 0 fun h19 =>
  pfI 0 11 9 h19 (some a0) 0 fun h20 =>
  am_rcv 8 (am_new h20 0 8 6) (Vr (some (hZ h20))) (
  clV (Cl sc d mX8_init [Vr (some (hZ h20))] (am_new h20 0 8 6)) am_xn0 fun h21 =>
  pfP 11 10 h21 (some a0) (some (hZ h20)) fun h22 =>
  am_rcv 7 (am_new h22 0 7 6) (Vr (some (hZ h22))) (
  clV (Cl sc d mX7_init [Vr (some (hZ h22))] (am_new h22 0 7 6)) am_xn0 fun h23 =>
  pfP 11 11 h23 (some a0) (some (hZ h22)) fun h24 =>
  gfP 11 10 (am_new h24 0 6 7) (some a0) fun p25 =>
  gfP 11 11 (am_new h24 0 6 7) (some a0) fun p26 =>
  am_rcv 6 (am_new h24 0 6 7) (Vr (some (hZ h24))) (
  clV (Cl sc d mX6_init [Vr (some (hZ h24)), Vr p25, Vr p26] (am_new h24 0 6 7)) am_xn0 fun h27 =>
  pfP 11 12 h27 (some a0) (some (hZ h24)) fun h28 =>
  am_rcv 9 (am_new h28 0 9 3) (Vr (some (hZ h28))) (
  clV (Cl sc d mX9_init [Vr (some (hZ h28))] (am_new h28 0 9 3)) am_xn0 fun h29 =>
  pfP 11 13 h29 (some a0) (some (hZ h28)) fun h30 =>
  Ru sc (d + 1) mX11_init 76 [Vr (some a0), Vi 0] [] h30)))))))))) := (Cl_at at_X11_init rfl _).trans rfl
set_option maxRecDepth 60000 in
theorem q_X11_init_76 (sc : Nat × (Nat → Int)) (d : Nat) (a0 : Nat) (i1 : Int) (h : am_H) : Ru sc (d + 1) mX11_init 76 [Vr (some a0), Vi i1] [] h =
  if i1 < 12 then
    gfP 11 7 h (some a0) fun p1 =>
    am_rcv 0 (am_new h 0 0 16) (Vr (some (hZ h))) (
    clV (Cl sc d mX0_init [Vr (some (hZ h))] (am_new h 0 0 16)) am_xn0 fun h2 =>
    stP 0 h2 p1 i1 (some (hZ h)) fun h3 =>
    Ru sc (d + 1) mX11_init 76 [Vr (some a0), Vi (w32 (i1 + 1))] [] h3)
  else
    some (.inl (Vx 0), h) := (Ru_at at_X11_init 76 _ _ _).trans rfl
theorem at_X11_feed : am_at mX11_feed = (cd_X11_feed, [], 6) := rfl
set_option maxRecDepth 60000 in
theorem q_X11_feed_0 (sc : Nat × (Nat → Int)) (d : Nat) (r0 : Option Nat) (i1 : Int) (i2 : Int) (i3 : Int) (i4 : Int) (i5 : Int) (h : am_H) : Cl sc (d + 1) mX11_feed [Vr r0, Vi i1, Vi i2, Vi i3, Vi i4, Vi i5] h =
  gfP 11 0 h r0 fun p1 =>
  am_rcv 10 h (Vr p1) (
  clI (Cl sc d mX10_hasRoom [Vr p1, Vi 20] h) am_xt fun v3 h2 =>
  if v3 = 0 then
    some (.inl (Vi (-1)), h2)
  else
    gfP 11 0 h2 r0 fun p4 =>
    am_rcv 10 h2 (Vr p4) (
    clV (Cl sc d mX10_put [Vr p4, Vi i1] h2) am_xt fun h5 =>
    gfP 11 0 h5 r0 fun p6 =>
    am_rcv 10 h5 (Vr p6) (
    clV (Cl sc d mX10_put [Vr p6, Vi i2] h5) am_xt fun h7 =>
    gfP 11 0 h7 r0 fun p8 =>
    am_rcv 10 h7 (Vr p8) (
    clV (Cl sc d mX10_put [Vr p8, Vi i3] h7) am_xt fun h9 =>
    gfP 11 0 h9 r0 fun p10 =>
    am_rcv 10 h9 (Vr p10) (
    clV (Cl sc d mX10_put [Vr p10, Vi i4] h9) am_xt fun h11 =>
    gfP 11 0 h11 r0 fun p12 =>
    am_rcv 10 h11 (Vr p12) (
    clV (Cl sc d mX10_put [Vr p12, Vi i5] h11) am_xt fun h13 =>
    gfP 11 0 h13 r0 fun p14 =>
    gfI 10 1 h13 p14 fun v15 =>
    some (.inl (Vi v15), h13))))))) := (Cl_at at_X11_feed rfl _).trans rfl
theorem at_X11_end : am_at mX11_end = (cd_X11_end, [], 2) := rfl
set_option maxRecDepth 60000 in
theorem q_X11_end_0 (sc : Nat × (Nat → Int)) (d : Nat) (r0 : Option Nat) (i1 : Int) (h : am_H) : Cl sc (d + 1) mX11_end [Vr r0, Vi i1] h =
  gfP 11 0 h r0 fun p1 =>
  am_rcv 10 h (Vr p1) (
  clI (Cl sc d mX10_cut [Vr p1, Vi i1] h) am_xt fun v3 h2 =>
  am_ret 1 v3 h2) := (Cl_at at_X11_end rfl _).trans rfl
theorem at_X11_county : am_at mX11_county = (cd_X11_county, [], 1) := rfl
set_option maxRecDepth 60000 in
theorem q_X11_county_0 (sc : Nat × (Nat → Int)) (d : Nat) (r0 : Option Nat) (h : am_H) : Cl sc (d + 1) mX11_county [Vr r0] h =
  gfP 11 4 h r0 fun p1 =>
  gfP 11 3 h r0 fun p2 =>
  am_rcv 0 h (Vr p1) (
  clV (Cl sc d mX0_copyFrom [Vr p1, Vr p2] h) am_xt fun h3 =>
  gfP 11 1 h3 r0 fun p4 =>
  gfP 11 4 h3 r0 fun p5 =>
  am_rcv 1 h3 (Vr p4) (
  clI (Cl sc d mX1_reads [Vr p4, Vr p5] h3) am_xt fun v7 h6 =>
  if v7 = 0 then
    some (.inr 1, am_ex h6)
  else
    gfP 11 3 h6 r0 fun p8 =>
    gfI 0 13 h6 p8 fun v9 =>
    if v9 < 12 then
      gfP 11 4 h6 r0 fun p10 =>
      gfI 0 13 h6 p10 fun v11 =>
      pfI 0 0 13 h6 p10 (w32 (v11 + 1)) fun h12 =>
      gfP 11 3 h12 r0 fun p13 =>
      gfP 11 4 h12 r0 fun p14 =>
      am_rcv 0 h12 (Vr p13) (
      clV (Cl sc d mX0_copyFrom [Vr p13, Vr p14] h12) am_xt fun h15 =>
      pfI 0 11 9 h15 r0 0 fun h16 =>
      gfP 11 3 h16 r0 fun p17 =>
      gfI 0 13 h16 p17 fun v18 =>
      some (.inl (Vi v18), h16))
    else
      some (.inr 2, am_ex h6))) := (Cl_at at_X11_county rfl _).trans rfl
theorem at_X11_law : am_at mX11_law = (cd_X11_law, [], 1) := rfl
set_option maxRecDepth 60000 in
theorem q_X11_law_0 (sc : Nat × (Nat → Int)) (d : Nat) (r0 : Option Nat) (h : am_H) : Cl sc (d + 1) mX11_law [Vr r0] h =
  gfP 11 2 h r0 fun p1 =>
  am_rcv 4 h (Vr p1) (
  clI (Cl sc d mX4_reads [Vr p1] h) am_xt fun v3 h2 =>
  if v3 = 0 then
    some (.inr 1, am_ex h2)
  else
    gfP 11 3 h2 r0 fun p4 =>
    gfP 11 2 h2 r0 fun p5 =>
    am_rcv 4 h2 (Vr p5) (
    clP (Cl sc d mX4_made [Vr p5] h2) am_xt fun p7 h6 =>
    pfP 0 14 h6 p4 p7 fun h8 =>
    pfI 0 11 9 h8 r0 0 fun h9 =>
    gfP 11 3 h9 r0 fun p10 =>
    gfP 0 14 h9 p10 fun p11 =>
    gfI 3 0 h9 p11 fun v12 =>
    some (.inl (Vi v12), h9))) := (Cl_at at_X11_law rfl _).trans rfl
theorem at_X11_fault : am_at mX11_fault = (cd_X11_fault, [], 1) := rfl
set_option maxRecDepth 60000 in
theorem q_X11_fault_0 (sc : Nat × (Nat → Int)) (d : Nat) (r0 : Option Nat) (h : am_H) : Cl sc (d + 1) mX11_fault [Vr r0] h =
  gfP 11 0 h r0 fun p1 =>
  gfI 10 2 h p1 fun v2 =>
  some (.inl (Vi v2), h) := (Cl_at at_X11_fault rfl _).trans rfl
theorem at_X11_border : am_at mX11_border = (cd_X11_border, [], 3) := rfl
set_option maxRecDepth 60000 in
theorem q_X11_border_0 (sc : Nat × (Nat → Int)) (d : Nat) (r0 : Option Nat) (i1 : Int) (i2 : Int) (h : am_H) : Cl sc (d + 1) mX11_border [Vr r0, Vi i1, Vi i2] h =
  clV (Cl sc d mX11_needBorder [Vi i1] h) am_xt fun h1 =>
  if i2 < 0 then
    some (.inr 4, am_ex h1)
  else
    if 6 < i2 then
      some (.inr 4, am_ex h1)
    else
      gfP 11 3 h1 r0 fun p2 =>
      gfP 0 0 h1 p2 fun p3 =>
      ldB h1 p3 i1 fun v4 =>
      if v4 = 0 then
        some (.inl (Vi 0), h1)
      else
        if i2 = 1 then
          gfP 11 3 h1 r0 fun p5 =>
          gfP 0 1 h1 p5 fun p6 =>
          ldA 1 h1 p6 i1 fun v7 =>
          some (.inl (Vi v7), h1)
        else if i2 = 2 then
          gfP 11 3 h1 r0 fun p8 =>
          gfP 0 2 h1 p8 fun p9 =>
          ldA 1 h1 p9 i1 fun v10 =>
          some (.inl (Vi v10), h1)
        else if i2 = 3 then
          gfP 11 3 h1 r0 fun p11 =>
          gfP 0 3 h1 p11 fun p12 =>
          ldB h1 p12 i1 fun v13 =>
          if v13 = 0 then
            some (.inl (Vi 0), h1)
          else
            some (.inl (Vi 1), h1)
        else if i2 = 4 then
          gfP 11 3 h1 r0 fun p14 =>
          gfP 0 4 h1 p14 fun p15 =>
          ldB h1 p15 i1 fun v16 =>
          if v16 = 0 then
            some (.inl (Vi 0), h1)
          else
            some (.inl (Vi 1), h1)
        else if i2 = 5 then
          gfP 11 3 h1 r0 fun p17 =>
          am_rcv 0 h1 (Vr p17) (
          clI (Cl sc d mX0_growth [Vr p17, Vi i1] h1) am_xt fun v19 h18 =>
          some (.inl (Vi v19), h18))
        else if i2 = 6 then
          gfP 11 3 h1 r0 fun p20 =>
          am_rcv 0 h1 (Vr p20) (
          clI (Cl sc d mX0_soreness [Vr p20, Vi i1] h1) am_xt fun v22 h21 =>
          some (.inl (Vi v22), h21))
        else some (.inl (Vi 1), h1) := (Cl_at at_X11_border rfl _).trans rfl
theorem at_X11_between : am_at mX11_between = (cd_X11_between, [], 3) := rfl
set_option maxRecDepth 60000 in
theorem q_X11_between_0 (sc : Nat × (Nat → Int)) (d : Nat) (r0 : Option Nat) (i1 : Int) (i2 : Int) (h : am_H) : Cl sc (d + 1) mX11_between [Vr r0, Vi i1, Vi i2] h =
  clV (Cl sc d mX11_needCell [Vi i1] h) am_xt fun h1 =>
  clV (Cl sc d mX11_needCell [Vi i2] h1) am_xt fun h2 =>
  clI (Cl sc d mX2_borderOf [Vi i1, Vi i2] h2) am_xt fun v4 h3 =>
  some (.inl (Vi v4), h3) := (Cl_at at_X11_between rfl _).trans rfl
theorem at_X11_family : am_at mX11_family = (cd_X11_family, [], 3) := rfl
set_option maxRecDepth 60000 in
theorem q_X11_family_0 (sc : Nat × (Nat → Int)) (d : Nat) (r0 : Option Nat) (i1 : Int) (i2 : Int) (h : am_H) : Cl sc (d + 1) mX11_family [Vr r0, Vi i1, Vi i2] h =
  am_rcv 11 h (Vr r0) (
  clV (Cl sc d mX11_needFamily [Vr r0, Vi i1] h) am_xt fun h1 =>
  if i2 = 0 then
    gfP 11 3 h1 r0 fun p2 =>
    gfP 0 6 h1 p2 fun p3 =>
    ldA 1 h1 p3 i1 fun v4 =>
    some (.inl (Vi v4), h1)
  else if i2 = 1 then
    gfP 11 3 h1 r0 fun p5 =>
    gfP 0 7 h1 p5 fun p6 =>
    ldA 1 h1 p6 i1 fun v7 =>
    some (.inl (Vi v7), h1)
  else if i2 = 2 then
    gfP 11 3 h1 r0 fun p8 =>
    gfP 0 8 h1 p8 fun p9 =>
    ldA 1 h1 p9 i1 fun v10 =>
    some (.inl (Vi v10), h1)
  else if i2 = 3 then
    gfP 11 3 h1 r0 fun p11 =>
    gfP 0 9 h1 p11 fun p12 =>
    ldA 1 h1 p12 i1 fun v13 =>
    some (.inl (Vi v13), h1)
  else if i2 = 4 then
    am_rcv 11 h1 (Vr r0) (
    clI (Cl sc d mX11_waysOf [Vr r0, Vi i1] h1) am_xt fun v15 h14 =>
    some (.inl (Vi v15), h14))
  else if i2 = 5 then
    am_rcv 11 h1 (Vr r0) (
    clI (Cl sc d mX11_waysOf [Vr r0, Vi i1] h1) am_xt fun v17 h16 =>
    if 36 = 0 then none else
    some (.inl (Vi (w32 ((w32 (v17 * 100)).tdiv 36))), h16))
  else if i2 = 6 then
    gfP 11 3 h1 r0 fun p18 =>
    gfP 11 3 h1 r0 fun p19 =>
    gfP 0 6 h1 p19 fun p20 =>
    ldA 1 h1 p20 i1 fun v21 =>
    am_rcv 0 h1 (Vr p18) (
    clI (Cl sc d mX0_tower [Vr p18, Vi v21] h1) am_xt fun v23 h22 =>
    some (.inl (Vi v23), h22))
  else if i2 = 7 then
    gfP 11 12 h1 r0 fun p24 =>
    gfP 11 3 h1 r0 fun p25 =>
    am_rcv 6 h1 (Vr p24) (
    clI (Cl sc d mX6_share [Vr p24, Vr p25, Vi i1] h1) am_xt fun v27 h26 =>
    some (.inl (Vi v27), h26))
  else if i2 = 8 then
    am_rcv 11 h1 (Vr r0) (
    clI (Cl sc d mX11_bestPull [Vr r0, Vi i1] h1) am_xt fun v29 h28 =>
    some (.inl (Vi v29), h28))
  else some (.inr 4, am_ex h1)) := (Cl_at at_X11_family rfl _).trans rfl
theorem at_X11_count : am_at mX11_count = (cd_X11_count, [], 2) := rfl
set_option maxRecDepth 60000 in
theorem q_X11_count_0 (sc : Nat × (Nat → Int)) (d : Nat) (r0 : Option Nat) (i1 : Int) (h : am_H) : Cl sc (d + 1) mX11_count [Vr r0, Vi i1] h =
  if i1 = 0 then
    gfP 11 3 h r0 fun p1 =>
    gfI 0 5 h p1 fun v2 =>
    some (.inl (Vi v2), h)
  else if i1 = 1 then
    gfP 11 3 h r0 fun p3 =>
    am_rcv 0 h (Vr p3) (
    clI (Cl sc d mX0_fences [Vr p3] h) am_xt fun v5 h4 =>
    some (.inl (Vi v5), h4))
  else if i1 = 2 then
    gfP 11 3 h r0 fun p6 =>
    gfI 0 13 h p6 fun v7 =>
    some (.inl (Vi v7), h)
  else if i1 = 3 then
    gfP 11 3 h r0 fun p8 =>
    gfP 0 14 h p8 fun p9 =>
    if p9 = none then
      some (.inl (Vi (-1)), h)
    else
      gfP 11 3 h r0 fun p10 =>
      gfP 0 14 h p10 fun p11 =>
      gfI 3 0 h p11 fun v12 =>
      some (.inl (Vi v12), h)
  else if i1 = 4 then
    gfP 11 3 h r0 fun p13 =>
    gfI 0 10 h p13 fun v14 =>
    some (.inl (Vi v14), h)
  else if i1 = 5 then
    gfP 11 3 h r0 fun p15 =>
    gfI 0 11 h p15 fun v16 =>
    some (.inl (Vi v16), h)
  else if i1 = 6 then
    gfP 11 3 h r0 fun p17 =>
    am_rcv 0 h (Vr p17) (
    clI (Cl sc d mX0_gates [Vr p17] h) am_xt fun v19 h18 =>
    some (.inl (Vi v19), h18))
  else if i1 = 7 then
    gfP 11 3 h r0 fun p20 =>
    am_rcv 0 h (Vr p20) (
    clI (Cl sc d mX0_strings [Vr p20] h) am_xt fun v22 h21 =>
    some (.inl (Vi v22), h21))
  else if i1 = 8 then
    gfP 11 3 h r0 fun p23 =>
    am_rcv 0 h (Vr p23) (
    clI (Cl sc d mX0_highTogether [Vr p23] h) am_xt fun v25 h24 =>
    some (.inl (Vi v25), h24))
  else if i1 = 9 then
    gfP 11 3 h r0 fun p26 =>
    am_rcv 0 h (Vr p26) (
    clI (Cl sc d mX0_soreTogether [Vr p26] h) am_xt fun v28 h27 =>
    some (.inl (Vi v28), h27))
  else if i1 = 10 then
    gfP 11 3 h r0 fun p29 =>
    gfP 0 15 h p29 fun p30 =>
    gfI 5 2 h p30 fun v31 =>
    some (.inl (Vi v31), h)
  else if i1 = 11 then
    gfI 11 9 h r0 fun v32 =>
    some (.inl (Vi v32), h)
  else some (.inl (Vi (-1)), h) := (Cl_at at_X11_count rfl _).trans rfl
theorem at_X11_years : am_at mX11_years = (cd_X11_years, [], 2) := rfl
set_option maxRecDepth 60000 in
theorem q_X11_years_0 (sc : Nat × (Nat → Int)) (d : Nat) (r0 : Option Nat) (i1 : Int) (h : am_H) : Cl sc (d + 1) mX11_years [Vr r0, Vi i1] h =
  if i1 < 1 then
    some (.inr 1, am_ex h)
  else
    if 100 < i1 then
      some (.inr 1, am_ex h)
    else
      am_rcv 11 h (Vr r0) (
      clV (Cl sc d mX11_rememberAct [Vr r0] h) am_xt fun h1 =>
      gfP 11 3 h1 r0 fun p2 =>
      am_rcv 0 h1 (Vr p2) (
      clI (Cl sc d mX0_passYears [Vr p2, Vi i1] h1) am_xt fun v4 h3 =>
      some (.inl (Vi v4), h3))) := (Cl_at at_X11_years rfl _).trans rfl
theorem at_X11_raise : am_at mX11_raise = (cd_X11_raise, [], 2) := rfl
set_option maxRecDepth 60000 in
theorem q_X11_raise_0 (sc : Nat × (Nat → Int)) (d : Nat) (r0 : Option Nat) (i1 : Int) (h : am_H) : Cl sc (d + 1) mX11_raise [Vr r0, Vi i1] h =
  clV (Cl sc d mX11_needBorder [Vi i1] h) am_xt fun h1 =>
  gfP 11 3 h1 r0 fun p2 =>
  gfP 0 0 h1 p2 fun p3 =>
  ldB h1 p3 i1 fun v4 =>
  if v4 = 0 then
    am_rcv 11 h1 (Vr r0) (
    clV (Cl sc d mX11_rememberAct [Vr r0] h1) am_xt fun h5 =>
    gfP 11 3 h5 r0 fun p6 =>
    am_rcv 0 h5 (Vr p6) (
    clV (Cl sc d mX0_put [Vr p6, Vi i1, Vi 0] h5) am_xt fun h7 =>
    gfP 11 3 h7 r0 fun p8 =>
    gfP 0 15 h7 p8 fun p9 =>
    gfP 11 3 h7 r0 fun p10 =>
    gfI 0 10 h7 p10 fun v11 =>
    am_rcv 5 h7 (Vr p9) (
    clV (Cl sc d mX5_add [Vr p9, Vi v11, Vi i1, Vi 1, Vi (-1), Vi 0] h7) am_xt fun h12 =>
    gfP 11 3 h12 r0 fun p13 =>
    am_rcv 0 h12 (Vr p13) (
    clI (Cl sc d mX0_fences [Vr p13] h12) am_xt fun v15 h14 =>
    some (.inl (Vi v15), h14)))))
  else
    some (.inr 5, am_ex h1) := (Cl_at at_X11_raise rfl _).trans rfl
theorem at_X11_pull : am_at mX11_pull = (cd_X11_pull, [], 3) := rfl
set_option maxRecDepth 60000 in
theorem q_X11_pull_0 (sc : Nat × (Nat → Int)) (d : Nat) (r0 : Option Nat) (i1 : Int) (h : am_H) : Cl sc (d + 1) mX11_pull [Vr r0, Vi i1] h =
  clV (Cl sc d mX11_needBorder [Vi i1] h) am_xt fun h1 =>
  am_rcv 11 h1 (Vr r0) (
  clV (Cl sc d mX11_needFence [Vr r0, Vi i1] h1) am_xt fun h2 =>
  am_rcv 11 h2 (Vr r0) (
  clV (Cl sc d mX11_rememberAct [Vr r0] h2) am_xt fun h3 =>
  gfP 11 3 h3 r0 fun p4 =>
  gfP 0 2 h3 p4 fun p5 =>
  ldA 1 h3 p5 i1 fun v6 =>
  gfP 11 3 h3 r0 fun p7 =>
  gfP 0 0 h3 p7 fun p8 =>
  stB h3 p8 i1 0 fun h9 =>
  gfP 11 3 h9 r0 fun p10 =>
  gfP 0 15 h9 p10 fun p11 =>
  gfP 11 3 h9 r0 fun p12 =>
  gfI 0 10 h9 p12 fun v13 =>
  am_rcv 5 h9 (Vr p11) (
  clV (Cl sc d mX5_add [Vr p11, Vi v13, Vi i1, Vi 2, Vi (-1), Vi v6] h9) am_xt fun h14 =>
  some (.inl (Vi v6), h14)))) := (Cl_at at_X11_pull rfl _).trans rfl
theorem at_X11_gate : am_at mX11_gate = (cd_X11_gate, [], 4) := rfl
set_option maxRecDepth 60000 in
theorem q_X11_gate_0 (sc : Nat × (Nat → Int)) (d : Nat) (r0 : Option Nat) (i1 : Int) (i2 : Int) (h : am_H) : Cl sc (d + 1) mX11_gate [Vr r0, Vi i1, Vi i2] h =
  clV (Cl sc d mX11_needBorder [Vi i1] h) am_xt fun h1 =>
  am_rcv 11 h1 (Vr r0) (
  clV (Cl sc d mX11_needFence [Vr r0, Vi i1] h1) am_xt fun h2 =>
  am_rcv 11 h2 (Vr r0) (
  clV (Cl sc d mX11_rememberAct [Vr r0] h2) am_xt fun h3 =>
  gfP 11 3 h3 r0 fun p4 =>
  gfP 0 3 h3 p4 fun p5 =>
  ldB h3 p5 i1 fun v6 =>
  if v6 = i2 then
    gfP 11 3 h3 r0 fun p7 =>
    gfP 0 3 h3 p7 fun p8 =>
    stB h3 p8 i1 i2 fun h9 =>
    some (.inl (Vi 0), h9)
  else
    gfP 11 3 h3 r0 fun p10 =>
    gfP 0 3 h3 p10 fun p11 =>
    stB h3 p11 i1 i2 fun h12 =>
    some (.inl (Vi 1), h12))) := (Cl_at at_X11_gate rfl _).trans rfl
theorem at_X11_string : am_at mX11_string = (cd_X11_string, [], 4) := rfl
set_option maxRecDepth 60000 in
theorem q_X11_string_0 (sc : Nat × (Nat → Int)) (d : Nat) (r0 : Option Nat) (i1 : Int) (i2 : Int) (h : am_H) : Cl sc (d + 1) mX11_string [Vr r0, Vi i1, Vi i2] h =
  clV (Cl sc d mX11_needBorder [Vi i1] h) am_xt fun h1 =>
  am_rcv 11 h1 (Vr r0) (
  clV (Cl sc d mX11_needFence [Vr r0, Vi i1] h1) am_xt fun h2 =>
  am_rcv 11 h2 (Vr r0) (
  clV (Cl sc d mX11_rememberAct [Vr r0] h2) am_xt fun h3 =>
  gfP 11 3 h3 r0 fun p4 =>
  gfP 0 4 h3 p4 fun p5 =>
  ldB h3 p5 i1 fun v6 =>
  if v6 = i2 then
    gfP 11 3 h3 r0 fun p7 =>
    gfP 0 4 h3 p7 fun p8 =>
    stB h3 p8 i1 i2 fun h9 =>
    some (.inl (Vi 0), h9)
  else
    gfP 11 3 h3 r0 fun p10 =>
    gfP 0 4 h3 p10 fun p11 =>
    stB h3 p11 i1 i2 fun h12 =>
    some (.inl (Vi 1), h12))) := (Cl_at at_X11_string rfl _).trans rfl
theorem at_X11_again : am_at mX11_again = (cd_X11_again, [], 4) := rfl
set_option maxRecDepth 60000 in
theorem q_X11_again_0 (sc : Nat × (Nat → Int)) (d : Nat) (r0 : Option Nat) (i1 : Int) (i2 : Int) (h : am_H) : Cl sc (d + 1) mX11_again [Vr r0, Vi i1, Vi i2] h =
  clV (Cl sc d mX11_needBorder [Vi i1] h) am_xt fun h1 =>
  clV (Cl sc d mX11_needHeight [Vi i2] h1) am_xt fun h2 =>
  am_rcv 11 h2 (Vr r0) (
  clV (Cl sc d mX11_needFence [Vr r0, Vi i1] h2) am_xt fun h3 =>
  gfP 11 3 h3 r0 fun p4 =>
  gfP 0 2 h3 p4 fun p5 =>
  ldA 1 h3 p5 i1 fun v6 =>
  if v6 < i2 then
    some (.inr 5, am_ex h3)
  else
    am_rcv 11 h3 (Vr r0) (
    clV (Cl sc d mX11_rememberAct [Vr r0] h3) am_xt fun h7 =>
    gfP 11 3 h7 r0 fun p8 =>
    gfP 0 1 h7 p8 fun p9 =>
    stA 1 h7 p9 i1 0 fun h10 =>
    gfP 11 3 h10 r0 fun p11 =>
    gfP 0 2 h10 p11 fun p12 =>
    stA 1 h10 p12 i1 i2 fun h13 =>
    gfP 11 3 h13 r0 fun p14 =>
    gfP 0 15 h13 p14 fun p15 =>
    gfP 11 3 h13 r0 fun p16 =>
    gfI 0 10 h13 p16 fun v17 =>
    am_rcv 5 h13 (Vr p15) (
    clV (Cl sc d mX5_add [Vr p15, Vi v17, Vi i1, Vi 3, Vi (-1), Vi v6] h13) am_xt fun h18 =>
    some (.inl (Vi v6), h18)))) := (Cl_at at_X11_again rfl _).trans rfl
theorem at_X11_forgive : am_at mX11_forgive = (cd_X11_forgive, [], 3) := rfl
set_option maxRecDepth 60000 in
theorem q_X11_forgive_0 (sc : Nat × (Nat → Int)) (d : Nat) (r0 : Option Nat) (i1 : Int) (h : am_H) : Cl sc (d + 1) mX11_forgive [Vr r0, Vi i1] h =
  am_rcv 11 h (Vr r0) (
  clV (Cl sc d mX11_needFamily [Vr r0, Vi i1] h) am_xt fun h1 =>
  am_rcv 11 h1 (Vr r0) (
  clV (Cl sc d mX11_rememberAct [Vr r0] h1) am_xt fun h2 =>
  gfP 11 3 h2 r0 fun p3 =>
  gfP 0 9 h2 p3 fun p4 =>
  ldA 1 h2 p4 i1 fun v5 =>
  gfP 11 3 h2 r0 fun p6 =>
  gfP 0 9 h2 p6 fun p7 =>
  stA 1 h2 p7 i1 0 fun h8 =>
  some (.inl (Vi v5), h8))) := (Cl_at at_X11_forgive rfl _).trans rfl
theorem at_X11_move : am_at mX11_move = (cd_X11_move, [], 4) := rfl
set_option maxRecDepth 60000 in
theorem q_X11_move_0 (sc : Nat × (Nat → Int)) (d : Nat) (r0 : Option Nat) (i1 : Int) (i2 : Int) (h : am_H) : Cl sc (d + 1) mX11_move [Vr r0, Vi i1, Vi i2] h =
  am_rcv 11 h (Vr r0) (
  clV (Cl sc d mX11_needFamily [Vr r0, Vi i1] h) am_xt fun h1 =>
  clV (Cl sc d mX11_needCell [Vi i2] h1) am_xt fun h2 =>
  am_rcv 11 h2 (Vr r0) (
  clV (Cl sc d mX11_rememberAct [Vr r0] h2) am_xt fun h3 =>
  gfP 11 3 h3 r0 fun p4 =>
  gfP 0 6 h3 p4 fun p5 =>
  ldA 1 h3 p5 i1 fun v6 =>
  gfP 11 3 h3 r0 fun p7 =>
  gfP 0 6 h3 p7 fun p8 =>
  stA 1 h3 p8 i1 i2 fun h9 =>
  some (.inl (Vi v6), h9))) := (Cl_at at_X11_move rfl _).trans rfl
theorem at_X11_learn : am_at mX11_learn = (cd_X11_learn, [], 4) := rfl
set_option maxRecDepth 60000 in
theorem q_X11_learn_0 (sc : Nat × (Nat → Int)) (d : Nat) (r0 : Option Nat) (i1 : Int) (i2 : Int) (h : am_H) : Cl sc (d + 1) mX11_learn [Vr r0, Vi i1, Vi i2] h =
  am_rcv 11 h (Vr r0) (
  clV (Cl sc d mX11_needFamily [Vr r0, Vi i1] h) am_xt fun h1 =>
  clV (Cl sc d mX11_needHeight [Vi i2] h1) am_xt fun h2 =>
  am_rcv 11 h2 (Vr r0) (
  clV (Cl sc d mX11_rememberAct [Vr r0] h2) am_xt fun h3 =>
  gfP 11 3 h3 r0 fun p4 =>
  gfP 0 7 h3 p4 fun p5 =>
  ldA 1 h3 p5 i1 fun v6 =>
  gfP 11 3 h3 r0 fun p7 =>
  gfP 0 7 h3 p7 fun p8 =>
  stA 1 h3 p8 i1 i2 fun h9 =>
  some (.inl (Vi v6), h9))) := (Cl_at at_X11_learn rfl _).trans rfl
theorem at_X11_open : am_at mX11_open = (cd_X11_open, [], 3) := rfl
set_option maxRecDepth 60000 in
theorem q_X11_open_0 (sc : Nat × (Nat → Int)) (d : Nat) (r0 : Option Nat) (i1 : Int) (i2 : Int) (h : am_H) : Cl sc (d + 1) mX11_open [Vr r0, Vi i1, Vi i2] h =
  clV (Cl sc d mX11_needBorder [Vi i1] h) am_xt fun h1 =>
  clV (Cl sc d mX11_needHeight [Vi i2] h1) am_xt fun h2 =>
  gfP 11 3 h2 r0 fun p3 =>
  am_rcv 0 h2 (Vr p3) (
  clI (Cl sc d mX0_isOpen [Vr p3, Vi i1, Vi i2] h2) am_xt fun v5 h4 =>
  am_ret 1 v5 h4) := (Cl_at at_X11_open rfl _).trans rfl
theorem at_X11_far : am_at mX11_far = (cd_X11_far, [], 3) := rfl
set_option maxRecDepth 60000 in
theorem q_X11_far_0 (sc : Nat × (Nat → Int)) (d : Nat) (r0 : Option Nat) (i1 : Int) (i2 : Int) (h : am_H) : Cl sc (d + 1) mX11_far [Vr r0, Vi i1, Vi i2] h =
  am_rcv 11 h (Vr r0) (
  clV (Cl sc d mX11_needFamily [Vr r0, Vi i1] h) am_xt fun h1 =>
  clV (Cl sc d mX11_needCell [Vi i2] h1) am_xt fun h2 =>
  gfP 11 11 h2 r0 fun p3 =>
  gfP 11 3 h2 r0 fun p4 =>
  am_rcv 7 h2 (Vr p3) (
  clI (Cl sc d mX7_climbing [Vr p3, Vr p4, Vi i1, Vi i2] h2) am_xt fun v6 h5 =>
  some (.inl (Vi v6), h5))) := (Cl_at at_X11_far rfl _).trans rfl
theorem at_X11_meet : am_at mX11_meet = (cd_X11_meet, [], 3) := rfl
set_option maxRecDepth 60000 in
theorem q_X11_meet_0 (sc : Nat × (Nat → Int)) (d : Nat) (r0 : Option Nat) (i1 : Int) (i2 : Int) (h : am_H) : Cl sc (d + 1) mX11_meet [Vr r0, Vi i1, Vi i2] h =
  am_rcv 11 h (Vr r0) (
  clV (Cl sc d mX11_needTwoFamilies [Vr r0, Vi i1, Vi i2] h) am_xt fun h1 =>
  gfP 11 12 h1 r0 fun p2 =>
  gfP 11 3 h1 r0 fun p3 =>
  am_rcv 6 h1 (Vr p2) (
  clI (Cl sc d mX6_doMeet [Vr p2, Vr p3, Vi i1, Vi i2] h1) am_xt fun v5 h4 =>
  am_ret 1 v5 h4)) := (Cl_at at_X11_meet rfl _).trans rfl
theorem at_X11_halfway : am_at mX11_halfway = (cd_X11_halfway, [], 3) := rfl
set_option maxRecDepth 60000 in
theorem q_X11_halfway_0 (sc : Nat × (Nat → Int)) (d : Nat) (r0 : Option Nat) (i1 : Int) (i2 : Int) (h : am_H) : Cl sc (d + 1) mX11_halfway [Vr r0, Vi i1, Vi i2] h =
  am_rcv 11 h (Vr r0) (
  clV (Cl sc d mX11_needTwoFamilies [Vr r0, Vi i1, Vi i2] h) am_xt fun h1 =>
  gfP 11 12 h1 r0 fun p2 =>
  gfP 11 3 h1 r0 fun p3 =>
  am_rcv 6 h1 (Vr p2) (
  clI (Cl sc d mX6_middle [Vr p2, Vr p3, Vi i1, Vi i2] h1) am_xt fun v5 h4 =>
  some (.inl (Vi v5), h4))) := (Cl_at at_X11_halfway rfl _).trans rfl
theorem at_X11_sees : am_at mX11_sees = (cd_X11_sees, [], 3) := rfl
set_option maxRecDepth 60000 in
theorem q_X11_sees_0 (sc : Nat × (Nat → Int)) (d : Nat) (r0 : Option Nat) (i1 : Int) (i2 : Int) (h : am_H) : Cl sc (d + 1) mX11_sees [Vr r0, Vi i1, Vi i2] h =
  am_rcv 11 h (Vr r0) (
  clV (Cl sc d mX11_needFamily [Vr r0, Vi i1] h) am_xt fun h1 =>
  clV (Cl sc d mX11_needCell [Vi i2] h1) am_xt fun h2 =>
  gfP 11 12 h2 r0 fun p3 =>
  gfP 11 3 h2 r0 fun p4 =>
  am_rcv 6 h2 (Vr p3) (
  clI (Cl sc d mX6_doesSee [Vr p3, Vr p4, Vi i1, Vi i2] h2) am_xt fun v6 h5 =>
  am_ret 1 v6 h5)) := (Cl_at at_X11_sees rfl _).trans rfl
theorem at_X11_waves : am_at mX11_waves = (cd_X11_waves, [], 4) := rfl
set_option maxRecDepth 60000 in
theorem q_X11_waves_0 (sc : Nat × (Nat → Int)) (d : Nat) (r0 : Option Nat) (h : am_H) : Cl sc (d + 1) mX11_waves [Vr r0] h =
  Ru sc (d + 1) mX11_waves 5 [Vr r0, Vi 0, Vi 0, Vx 0] [] h := (Cl_at at_X11_waves rfl _).trans rfl
set_option maxRecDepth 60000 in
theorem q_X11_waves_5 (sc : Nat × (Nat → Int)) (d : Nat) (r0 : Option Nat) (i1 : Int) (i2 : Int) (u3 : am_V) (h : am_H) : Ru sc (d + 1) mX11_waves 5 [Vr r0, Vi i1, Vi i2, u3] [] h =
  gfP 11 3 h r0 fun p1 =>
  gfI 0 5 h p1 fun v2 =>
  if i2 < v2 then
    Ru sc (d + 1) mX11_waves 15 [Vr r0, Vi i1, Vi i2, Vi (w32 (i2 + 1))] [] h
  else
    some (.inl (Vi i1), h) := (Ru_at at_X11_waves 5 _ _ _).trans rfl
set_option maxRecDepth 60000 in
theorem q_X11_waves_15 (sc : Nat × (Nat → Int)) (d : Nat) (r0 : Option Nat) (i1 : Int) (i2 : Int) (i3 : Int) (h : am_H) : Ru sc (d + 1) mX11_waves 15 [Vr r0, Vi i1, Vi i2, Vi i3] [] h =
  gfP 11 3 h r0 fun p1 =>
  gfI 0 5 h p1 fun v2 =>
  if i3 < v2 then
    gfP 11 12 h r0 fun p3 =>
    gfP 11 3 h r0 fun p4 =>
    gfP 11 3 h r0 fun p5 =>
    gfP 0 6 h p5 fun p6 =>
    ldA 1 h p6 i3 fun v7 =>
    am_rcv 6 h (Vr p3) (
    clI (Cl sc d mX6_doesSee [Vr p3, Vr p4, Vi i2, Vi v7] h) am_xt fun v9 h8 =>
    if v9 = 0 then
      Ru sc (d + 1) mX11_waves 15 [Vr r0, Vi i1, Vi i2, Vi (w32 (i3 + 1))] [] h8
    else
      gfP 11 12 h8 r0 fun p10 =>
      gfP 11 3 h8 r0 fun p11 =>
      gfP 11 3 h8 r0 fun p12 =>
      gfP 0 6 h8 p12 fun p13 =>
      ldA 1 h8 p13 i2 fun v14 =>
      am_rcv 6 h8 (Vr p10) (
      clI (Cl sc d mX6_doesSee [Vr p10, Vr p11, Vi i3, Vi v14] h8) am_xt fun v16 h15 =>
      if v16 = 0 then
        Ru sc (d + 1) mX11_waves 15 [Vr r0, Vi i1, Vi i2, Vi (w32 (i3 + 1))] [] h15
      else
        Ru sc (d + 1) mX11_waves 15 [Vr r0, Vi (w32 (i1 + 1)), Vi i2, Vi (w32 (i3 + 1))] [] h15))
  else
    Ru sc (d + 1) mX11_waves 5 [Vr r0, Vi i1, Vi (w32 (i2 + 1)), Vi i3] [] h := (Ru_at at_X11_waves 15 _ _ _).trans rfl
theorem at_X11_hidden : am_at mX11_hidden = (cd_X11_hidden, [], 5) := rfl
set_option maxRecDepth 60000 in
theorem q_X11_hidden_0 (sc : Nat × (Nat → Int)) (d : Nat) (r0 : Option Nat) (h : am_H) : Cl sc (d + 1) mX11_hidden [Vr r0] h =
  Ru sc (d + 1) mX11_hidden 5 [Vr r0, Vi 0, Vi 0, Vx 0, Vx 0] [] h := (Cl_at at_X11_hidden rfl _).trans rfl
set_option maxRecDepth 60000 in
theorem q_X11_hidden_5 (sc : Nat × (Nat → Int)) (d : Nat) (r0 : Option Nat) (i1 : Int) (i2 : Int) (u3 : am_V) (u4 : am_V) (h : am_H) : Ru sc (d + 1) mX11_hidden 5 [Vr r0, Vi i1, Vi i2, u3, u4] [] h =
  gfP 11 3 h r0 fun p1 =>
  gfI 0 5 h p1 fun v2 =>
  if i2 < v2 then
    Ru sc (d + 1) mX11_hidden 15 [Vr r0, Vi i1, Vi i2, Vi 0, Vi 0] [] h
  else
    some (.inl (Vi i1), h) := (Ru_at at_X11_hidden 5 _ _ _).trans rfl
set_option maxRecDepth 60000 in
theorem q_X11_hidden_15 (sc : Nat × (Nat → Int)) (d : Nat) (r0 : Option Nat) (i1 : Int) (i2 : Int) (i3 : Int) (i4 : Int) (h : am_H) : Ru sc (d + 1) mX11_hidden 15 [Vr r0, Vi i1, Vi i2, Vi i3, Vi i4] [] h =
  gfP 11 3 h r0 fun p1 =>
  gfI 0 5 h p1 fun v2 =>
  if i4 < v2 then
    if i3 = 0 then
      if i4 = i2 then
        Ru sc (d + 1) mX11_hidden 15 [Vr r0, Vi i1, Vi i2, Vi 0, Vi (w32 (i4 + 1))] [] h
      else
        gfP 11 12 h r0 fun p3 =>
        gfP 11 3 h r0 fun p4 =>
        gfP 11 3 h r0 fun p5 =>
        gfP 0 6 h p5 fun p6 =>
        ldA 1 h p6 i2 fun v7 =>
        am_rcv 6 h (Vr p3) (
        clI (Cl sc d mX6_doesSee [Vr p3, Vr p4, Vi i4, Vi v7] h) am_xt fun v9 h8 =>
        if v9 = 0 then
          Ru sc (d + 1) mX11_hidden 15 [Vr r0, Vi i1, Vi i2, Vi 0, Vi (w32 (i4 + 1))] [] h8
        else
          Ru sc (d + 1) mX11_hidden 15 [Vr r0, Vi i1, Vi i2, Vi 1, Vi (w32 (i4 + 1))] [] h8)
    else
      Ru sc (d + 1) mX11_hidden 15 [Vr r0, Vi i1, Vi i2, Vi 1, Vi (w32 (i4 + 1))] [] h
  else
    if i3 = 0 then
      Ru sc (d + 1) mX11_hidden 5 [Vr r0, Vi (bOr i1 (bShl 1 i2)), Vi (w32 (i2 + 1)), Vi i3, Vi i4] [] h
    else
      Ru sc (d + 1) mX11_hidden 5 [Vr r0, Vi (bOr i1 0), Vi (w32 (i2 + 1)), Vi i3, Vi i4] [] h := (Ru_at at_X11_hidden 15 _ _ _).trans rfl
theorem at_X11_loses : am_at mX11_loses = (cd_X11_loses, [], 4) := rfl
set_option maxRecDepth 60000 in
theorem q_X11_loses_0 (sc : Nat × (Nat → Int)) (d : Nat) (r0 : Option Nat) (i1 : Int) (i2 : Int) (h : am_H) : Cl sc (d + 1) mX11_loses [Vr r0, Vi i1, Vi i2] h =
  am_rcv 11 h (Vr r0) (
  clV (Cl sc d mX11_needFamily [Vr r0, Vi i1] h) am_xt fun h1 =>
  clV (Cl sc d mX11_needBorder [Vi i2] h1) am_xt fun h2 =>
  am_rcv 11 h2 (Vr r0) (
  clI (Cl sc d mX11_waysOf [Vr r0, Vi i1] h2) am_xt fun v4 h3 =>
  gfP 11 10 h3 r0 fun p5 =>
  gfP 11 3 h3 r0 fun p6 =>
  gfP 11 3 h3 r0 fun p7 =>
  gfP 0 7 h3 p7 fun p8 =>
  ldA 1 h3 p8 i1 fun v9 =>
  am_rcv 8 h3 (Vr p5) (
  clV (Cl sc d mX8_ofCells [Vr p5, Vr p6, Vi v9, Vi i2] h3) am_xt fun h10 =>
  gfP 11 10 h10 r0 fun p11 =>
  gfP 11 3 h10 r0 fun p12 =>
  gfP 0 6 h10 p12 fun p13 =>
  ldA 1 h10 p13 i1 fun v14 =>
  am_rcv 8 h10 (Vr p11) (
  clI (Cl sc d mX8_nodesWith [Vr p11, Vi v14] h10) am_xt fun v16 h15 =>
  some (.inl (Vi (w32 (v4 - v16))), h15))))) := (Cl_at at_X11_loses rfl _).trans rfl
theorem at_X11_pairs : am_at mX11_pairs = (cd_X11_pairs, [], 2) := rfl
set_option maxRecDepth 60000 in
theorem q_X11_pairs_0 (sc : Nat × (Nat → Int)) (d : Nat) (r0 : Option Nat) (i1 : Int) (h : am_H) : Cl sc (d + 1) mX11_pairs [Vr r0, Vi i1] h =
  if i1 = (-1) then
    Ru sc (d + 1) mX11_pairs 7 [Vr r0, Vi i1] [] h
  else
    am_rcv 11 h (Vr r0) (
    clV (Cl sc d mX11_needFamily [Vr r0, Vi i1] h) am_xt fun h1 =>
    Ru sc (d + 1) mX11_pairs 7 [Vr r0, Vi i1] [] h1) := (Cl_at at_X11_pairs rfl _).trans rfl
set_option maxRecDepth 60000 in
theorem q_X11_pairs_7 (sc : Nat × (Nat → Int)) (d : Nat) (r0 : Option Nat) (i1 : Int) (h : am_H) : Ru sc (d + 1) mX11_pairs 7 [Vr r0, Vi i1] [] h =
  gfP 11 12 h r0 fun p1 =>
  gfP 11 3 h r0 fun p2 =>
  am_rcv 6 h (Vr p1) (
  clV (Cl sc d mX6_pairUp [Vr p1, Vr p2] h) am_xt fun h3 =>
  if i1 = (-1) then
    gfP 11 12 h3 r0 fun p7 =>
    am_rcv 6 h3 (Vr p7) (
    clI (Cl sc d mX6_pairCount [Vr p7] h3) am_xt fun v9 h8 =>
    some (.inl (Vi v9), h8))
  else
    gfP 11 12 h3 r0 fun p4 =>
    gfP 6 6 h3 p4 fun p5 =>
    ldA 1 h3 p5 i1 fun v6 =>
    some (.inl (Vi v6), h3)) := (Ru_at at_X11_pairs 7 _ _ _).trans rfl
theorem at_X11_rests : am_at mX11_rests = (cd_X11_rests, [], 3) := rfl
set_option maxRecDepth 60000 in
theorem q_X11_rests_0 (sc : Nat × (Nat → Int)) (d : Nat) (r0 : Option Nat) (i1 : Int) (i2 : Int) (h : am_H) : Cl sc (d + 1) mX11_rests [Vr r0, Vi i1, Vi i2] h =
  am_rcv 11 h (Vr r0) (
  clV (Cl sc d mX11_needTwoFamilies [Vr r0, Vi i1, Vi i2] h) am_xt fun h1 =>
  gfP 11 12 h1 r0 fun p2 =>
  gfP 11 3 h1 r0 fun p3 =>
  am_rcv 6 h1 (Vr p2) (
  clI (Cl sc d mX6_restingChoices [Vr p2, Vr p3, Vi i1, Vi i2] h1) am_xt fun v5 h4 =>
  some (.inl (Vi v5), h4))) := (Cl_at at_X11_rests rfl _).trans rfl
theorem at_X11_odds : am_at mX11_odds = (cd_X11_odds, [], 6) := rfl
set_option maxRecDepth 60000 in
theorem q_X11_odds_0 (sc : Nat × (Nat → Int)) (d : Nat) (r0 : Option Nat) (i1 : Int) (i2 : Int) (h : am_H) : Cl sc (d + 1) mX11_odds [Vr r0, Vi i1, Vi i2] h =
  am_rcv 11 h (Vr r0) (
  clV (Cl sc d mX11_needFamily [Vr r0, Vi i1] h) am_xt fun h1 =>
  if i2 < 0 then
    some (.inr 1, am_ex h1)
  else
    if 4 < i2 then
      some (.inr 1, am_ex h1)
    else
      gfP 11 3 h1 r0 fun p2 =>
      gfI 0 11 h1 p2 fun v3 =>
      gfP 11 3 h1 r0 fun p4 =>
      gfP 0 9 h1 p4 fun p5 =>
      ldA 1 h1 p5 i1 fun v6 =>
      clI (Cl sc d mJ9_min_7cf53 [Vi 100, Vi (w32 (v3 + v6))] h1) am_xt fun v8 h7 =>
      Ru sc (d + 1) mX11_odds 29 [Vr r0, Vi i1, Vi i2, Vi v8, Vi 10000, Vi 0] [] h7) := (Cl_at at_X11_odds rfl _).trans rfl
set_option maxRecDepth 60000 in
theorem q_X11_odds_29 (sc : Nat × (Nat → Int)) (d : Nat) (r0 : Option Nat) (i1 : Int) (i2 : Int) (i3 : Int) (i4 : Int) (i5 : Int) (h : am_H) : Ru sc (d + 1) mX11_odds 29 [Vr r0, Vi i1, Vi i2, Vi i3, Vi i4, Vi i5] [] h =
  if i5 < i2 then
    if 100 = 0 then none else
    Ru sc (d + 1) mX11_odds 29 [Vr r0, Vi i1, Vi i2, Vi i3, Vi (w32 ((w32 (i4 * (w32 (100 - i3)))).tdiv 100)), Vi (w32 (i5 + 1))] [] h
  else
    some (.inl (Vi i4), h) := (Ru_at at_X11_odds 29 _ _ _).trans rfl
theorem at_X11_sorest : am_at mX11_sorest = (cd_X11_sorest, [], 4) := rfl
set_option maxRecDepth 60000 in
theorem q_X11_sorest_0 (sc : Nat × (Nat → Int)) (d : Nat) (r0 : Option Nat) (h : am_H) : Cl sc (d + 1) mX11_sorest [Vr r0] h =
  Ru sc (d + 1) mX11_sorest 7 [Vr r0, Vi (-1), Vi 0, Vi 0] [] h := (Cl_at at_X11_sorest rfl _).trans rfl
set_option maxRecDepth 60000 in
theorem q_X11_sorest_7 (sc : Nat × (Nat → Int)) (d : Nat) (r0 : Option Nat) (i1 : Int) (i2 : Int) (i3 : Int) (h : am_H) : Ru sc (d + 1) mX11_sorest 7 [Vr r0, Vi i1, Vi i2, Vi i3] [] h =
  gfP 11 3 h r0 fun p1 =>
  gfI 0 5 h p1 fun v2 =>
  if i3 < v2 then
    gfP 11 3 h r0 fun p3 =>
    gfP 0 9 h p3 fun p4 =>
    ldA 1 h p4 i3 fun v5 =>
    if i2 < v5 then
      gfP 11 3 h r0 fun p6 =>
      gfP 0 9 h p6 fun p7 =>
      ldA 1 h p7 i3 fun v8 =>
      Ru sc (d + 1) mX11_sorest 7 [Vr r0, Vi i3, Vi v8, Vi (w32 (i3 + 1))] [] h
    else
      Ru sc (d + 1) mX11_sorest 7 [Vr r0, Vi i1, Vi i2, Vi (w32 (i3 + 1))] [] h
  else
    some (.inl (Vi i1), h) := (Ru_at at_X11_sorest 7 _ _ _).trans rfl
theorem at_X11_twins : am_at mX11_twins = (cd_X11_twins, [], 4) := rfl
set_option maxRecDepth 60000 in
theorem q_X11_twins_0 (sc : Nat × (Nat → Int)) (d : Nat) (r0 : Option Nat) (h : am_H) : Cl sc (d + 1) mX11_twins [Vr r0] h =
  Ru sc (d + 1) mX11_twins 5 [Vr r0, Vi 0, Vi 0, Vx 0] [] h := (Cl_at at_X11_twins rfl _).trans rfl
set_option maxRecDepth 60000 in
theorem q_X11_twins_5 (sc : Nat × (Nat → Int)) (d : Nat) (r0 : Option Nat) (i1 : Int) (i2 : Int) (u3 : am_V) (h : am_H) : Ru sc (d + 1) mX11_twins 5 [Vr r0, Vi i1, Vi i2, u3] [] h =
  gfP 11 3 h r0 fun p1 =>
  gfI 0 5 h p1 fun v2 =>
  if i2 < v2 then
    Ru sc (d + 1) mX11_twins 15 [Vr r0, Vi i1, Vi i2, Vi (w32 (i2 + 1))] [] h
  else
    some (.inl (Vi i1), h) := (Ru_at at_X11_twins 5 _ _ _).trans rfl
set_option maxRecDepth 60000 in
theorem q_X11_twins_15 (sc : Nat × (Nat → Int)) (d : Nat) (r0 : Option Nat) (i1 : Int) (i2 : Int) (i3 : Int) (h : am_H) : Ru sc (d + 1) mX11_twins 15 [Vr r0, Vi i1, Vi i2, Vi i3] [] h =
  gfP 11 3 h r0 fun p1 =>
  gfI 0 5 h p1 fun v2 =>
  if i3 < v2 then
    gfP 11 3 h r0 fun p3 =>
    gfP 0 7 h p3 fun p4 =>
    ldA 1 h p4 i2 fun v5 =>
    gfP 11 3 h r0 fun p6 =>
    gfP 0 7 h p6 fun p7 =>
    ldA 1 h p7 i3 fun v8 =>
    if v5 = v8 then
      gfP 11 3 h r0 fun p9 =>
      gfP 0 8 h p9 fun p10 =>
      ldA 1 h p10 i2 fun v11 =>
      gfP 11 3 h r0 fun p12 =>
      gfP 0 8 h p12 fun p13 =>
      ldA 1 h p13 i3 fun v14 =>
      if v11 = v14 then
        Ru sc (d + 1) mX11_twins 15 [Vr r0, Vi (w32 (i1 + 1)), Vi i2, Vi (w32 (i3 + 1))] [] h
      else
        Ru sc (d + 1) mX11_twins 15 [Vr r0, Vi i1, Vi i2, Vi (w32 (i3 + 1))] [] h
    else
      Ru sc (d + 1) mX11_twins 15 [Vr r0, Vi i1, Vi i2, Vi (w32 (i3 + 1))] [] h
  else
    Ru sc (d + 1) mX11_twins 5 [Vr r0, Vi i1, Vi (w32 (i2 + 1)), Vi i3] [] h := (Ru_at at_X11_twins 15 _ _ _).trans rfl
theorem at_X11_pulls : am_at mX11_pulls = (cd_X11_pulls, [], 4) := rfl
set_option maxRecDepth 60000 in
theorem q_X11_pulls_0 (sc : Nat × (Nat → Int)) (d : Nat) (r0 : Option Nat) (i1 : Int) (i2 : Int) (i3 : Int) (h : am_H) : Cl sc (d + 1) mX11_pulls [Vr r0, Vi i1, Vi i2, Vi i3] h =
  clV (Cl sc d mX11_needCell [Vi i1] h) am_xt fun h1 =>
  clV (Cl sc d mX11_needCell [Vi i2] h1) am_xt fun h2 =>
  clV (Cl sc d mX11_needHeight [Vi i3] h2) am_xt fun h3 =>
  gfP 11 11 h3 r0 fun p4 =>
  gfP 11 3 h3 r0 fun p5 =>
  am_rcv 7 h3 (Vr p4) (
  clI (Cl sc d mX7_pulling [Vr p4, Vr p5, Vi i3, Vi i1, Vi i2] h3) am_xt fun v7 h6 =>
  some (.inl (Vi v7), h6)) := (Cl_at at_X11_pulls rfl _).trans rfl
theorem at_X11_lowest : am_at mX11_lowest = (cd_X11_lowest, [], 6) := rfl
set_option maxRecDepth 60000 in
theorem q_X11_lowest_0 (sc : Nat × (Nat → Int)) (d : Nat) (r0 : Option Nat) (i1 : Int) (i2 : Int) (h : am_H) : Cl sc (d + 1) mX11_lowest [Vr r0, Vi i1, Vi i2] h =
  clV (Cl sc d mX11_needCell [Vi i1] h) am_xt fun h1 =>
  clV (Cl sc d mX11_needCell [Vi i2] h1) am_xt fun h2 =>
  Ru sc (d + 1) mX11_lowest 9 [Vr r0, Vi i1, Vi i2, Vi 0, Vi 512, Vx 0] [] h2 := (Cl_at at_X11_lowest rfl _).trans rfl
set_option maxRecDepth 60000 in
theorem q_X11_lowest_9 (sc : Nat × (Nat → Int)) (d : Nat) (r0 : Option Nat) (i1 : Int) (i2 : Int) (i3 : Int) (i4 : Int) (u5 : am_V) (h : am_H) : Ru sc (d + 1) mX11_lowest 9 [Vr r0, Vi i1, Vi i2, Vi i3, Vi i4, u5] [] h =
  if 0 < i4 then
    if (w32 ((w32 (i3 + i4)) - 1)) < 999 then
      am_rcv 11 h (Vr r0) (
      clI (Cl sc d mX11_isWayBetween [Vr r0, Vi i1, Vi i2, Vi (w32 ((w32 (i3 + i4)) - 1))] h) am_xt fun v2 h1 =>
      if v2 = 0 then
        if 2 = 0 then none else
        Ru sc (d + 1) mX11_lowest 9 [Vr r0, Vi i1, Vi i2, Vi (w32 ((w32 ((w32 (i3 + i4)) - 1)) + 1)), Vi (w32 (i4.tdiv 2)), Vi (w32 ((w32 (i3 + i4)) - 1))] [] h1
      else
        if 2 = 0 then none else
        Ru sc (d + 1) mX11_lowest 9 [Vr r0, Vi i1, Vi i2, Vi i3, Vi (w32 (i4.tdiv 2)), Vi (w32 ((w32 (i3 + i4)) - 1))] [] h1)
    else
      if 2 = 0 then none else
      Ru sc (d + 1) mX11_lowest 9 [Vr r0, Vi i1, Vi i2, Vi i3, Vi (w32 (i4.tdiv 2)), Vi (w32 ((w32 (i3 + i4)) - 1))] [] h
  else
    some (.inl (Vi i3), h) := (Ru_at at_X11_lowest 9 _ _ _).trans rfl
theorem at_X11_closes : am_at mX11_closes = (cd_X11_closes, [], 4) := rfl
set_option maxRecDepth 60000 in
theorem q_X11_closes_0 (sc : Nat × (Nat → Int)) (d : Nat) (r0 : Option Nat) (i1 : Int) (i2 : Int) (i3 : Int) (h : am_H) : Cl sc (d + 1) mX11_closes [Vr r0, Vi i1, Vi i2, Vi i3] h =
  clV (Cl sc d mX11_needCell [Vi i1] h) am_xt fun h1 =>
  clV (Cl sc d mX11_needCell [Vi i2] h1) am_xt fun h2 =>
  clV (Cl sc d mX11_needHeight [Vi i3] h2) am_xt fun h3 =>
  if i1 = i2 then
    some (.inl (Vi (-1)), h3)
  else
    gfP 11 11 h3 r0 fun p4 =>
    gfP 11 3 h3 r0 fun p5 =>
    am_rcv 7 h3 (Vr p4) (
    clI (Cl sc d mX7_shutting [Vr p4, Vr p5, Vi i3, Vi i1, Vi i2] h3) am_xt fun v7 h6 =>
    some (.inl (Vi v7), h6)) := (Cl_at at_X11_closes rfl _).trans rfl
theorem at_X11_lands : am_at mX11_lands = (cd_X11_lands, [], 2) := rfl
set_option maxRecDepth 60000 in
theorem q_X11_lands_0 (sc : Nat × (Nat → Int)) (d : Nat) (r0 : Option Nat) (i1 : Int) (h : am_H) : Cl sc (d + 1) mX11_lands [Vr r0, Vi i1] h =
  clV (Cl sc d mX11_needHeight [Vi i1] h) am_xt fun h1 =>
  gfP 11 10 h1 r0 fun p2 =>
  gfP 11 3 h1 r0 fun p3 =>
  am_rcv 8 h1 (Vr p2) (
  clV (Cl sc d mX8_ofCells [Vr p2, Vr p3, Vi i1, Vi (-1)] h1) am_xt fun h4 =>
  gfP 11 10 h4 r0 fun p5 =>
  gfI 8 5 h4 p5 fun v6 =>
  some (.inl (Vi v6), h4)) := (Cl_at at_X11_lands rfl _).trans rfl
theorem at_X11_wide : am_at mX11_wide = (cd_X11_wide, [], 2) := rfl
set_option maxRecDepth 60000 in
theorem q_X11_wide_0 (sc : Nat × (Nat → Int)) (d : Nat) (r0 : Option Nat) (i1 : Int) (h : am_H) : Cl sc (d + 1) mX11_wide [Vr r0, Vi i1] h =
  clV (Cl sc d mX11_needHeight [Vi i1] h) am_xt fun h1 =>
  gfP 11 10 h1 r0 fun p2 =>
  gfP 11 3 h1 r0 fun p3 =>
  am_rcv 8 h1 (Vr p2) (
  clV (Cl sc d mX8_ofCells [Vr p2, Vr p3, Vi i1, Vi (-1)] h1) am_xt fun h4 =>
  gfP 11 10 h4 r0 fun p5 =>
  am_rcv 8 h4 (Vr p5) (
  clI (Cl sc d mX8_mostNodes [Vr p5] h4) am_xt fun v7 h6 =>
  some (.inl (Vi v7), h6))) := (Cl_at at_X11_wide rfl _).trans rfl
theorem at_X11_land : am_at mX11_land = (cd_X11_land, [], 3) := rfl
set_option maxRecDepth 60000 in
theorem q_X11_land_0 (sc : Nat × (Nat → Int)) (d : Nat) (r0 : Option Nat) (i1 : Int) (i2 : Int) (h : am_H) : Cl sc (d + 1) mX11_land [Vr r0, Vi i1, Vi i2] h =
  clV (Cl sc d mX11_needCell [Vi i1] h) am_xt fun h1 =>
  clV (Cl sc d mX11_needHeight [Vi i2] h1) am_xt fun h2 =>
  gfP 11 10 h2 r0 fun p3 =>
  gfP 11 3 h2 r0 fun p4 =>
  am_rcv 8 h2 (Vr p3) (
  clV (Cl sc d mX8_ofCells [Vr p3, Vr p4, Vi i2, Vi (-1)] h2) am_xt fun h5 =>
  gfP 11 10 h5 r0 fun p6 =>
  am_rcv 8 h5 (Vr p6) (
  clI (Cl sc d mX8_nodesWith [Vr p6, Vi i1] h5) am_xt fun v8 h7 =>
  some (.inl (Vi v8), h7))) := (Cl_at at_X11_land rfl _).trans rfl
theorem at_X11_gaps : am_at mX11_gaps = (cd_X11_gaps, [], 5) := rfl
set_option maxRecDepth 60000 in
theorem q_X11_gaps_0 (sc : Nat × (Nat → Int)) (d : Nat) (r0 : Option Nat) (i1 : Int) (h : am_H) : Cl sc (d + 1) mX11_gaps [Vr r0, Vi i1] h =
  clV (Cl sc d mX11_needHeight [Vi i1] h) am_xt fun h1 =>
  gfP 11 10 h1 r0 fun p2 =>
  gfP 11 3 h1 r0 fun p3 =>
  am_rcv 8 h1 (Vr p2) (
  clV (Cl sc d mX8_ofCells [Vr p2, Vr p3, Vi i1, Vi (-1)] h1) am_xt fun h4 =>
  gfP 11 10 h4 r0 fun p5 =>
  gfI 8 5 h4 p5 fun v6 =>
  Ru sc (d + 1) mX11_gaps 18 [Vr r0, Vi i1, Vi v6, Vi 0, Vi 0] [] h4) := (Cl_at at_X11_gaps rfl _).trans rfl
set_option maxRecDepth 60000 in
theorem q_X11_gaps_18 (sc : Nat × (Nat → Int)) (d : Nat) (r0 : Option Nat) (i1 : Int) (i2 : Int) (i3 : Int) (i4 : Int) (h : am_H) : Ru sc (d + 1) mX11_gaps 18 [Vr r0, Vi i1, Vi i2, Vi i3, Vi i4] [] h =
  if i4 < 60 then
    gfP 11 3 h r0 fun p1 =>
    am_rcv 0 h (Vr p1) (
    clI (Cl sc d mX0_isOpen [Vr p1, Vi i4, Vi i1] h) am_xt fun v3 h2 =>
    if v3 = 0 then
      Ru sc (d + 1) mX11_gaps 18 [Vr r0, Vi i1, Vi i2, Vi i3, Vi (w32 (i4 + 1))] [] h2
    else
      gfP 11 10 h2 r0 fun p4 =>
      gfP 11 3 h2 r0 fun p5 =>
      am_rcv 8 h2 (Vr p4) (
      clV (Cl sc d mX8_ofCells [Vr p4, Vr p5, Vi i1, Vi i4] h2) am_xt fun h6 =>
      gfP 11 10 h6 r0 fun p7 =>
      gfI 8 5 h6 p7 fun v8 =>
      Ru sc (d + 1) mX11_gaps 18 [Vr r0, Vi i1, Vi i2, Vi (w32 (i3 + (w32 (v8 - i2)))), Vi (w32 (i4 + 1))] [] h6))
  else
    some (.inl (Vi i3), h) := (Ru_at at_X11_gaps 18 _ _ _).trans rfl
theorem at_X11_all : am_at mX11_all = (cd_X11_all, [], 2) := rfl
set_option maxRecDepth 60000 in
theorem q_X11_all_0 (sc : Nat × (Nat → Int)) (d : Nat) (r0 : Option Nat) (i1 : Int) (h : am_H) : Cl sc (d + 1) mX11_all [Vr r0, Vi i1] h =
  clV (Cl sc d mX11_needHeight [Vi i1] h) am_xt fun h1 =>
  am_rcv 11 h1 (Vr r0) (
  clI (Cl sc d mX11_areHomesTogether [Vr r0, Vi i1] h1) am_xt fun v3 h2 =>
  am_ret 1 v3 h2) := (Cl_at at_X11_all rfl _).trans rfl
theorem at_X11_reach : am_at mX11_reach = (cd_X11_reach, [], 4) := rfl
set_option maxRecDepth 60000 in
theorem q_X11_reach_0 (sc : Nat × (Nat → Int)) (d : Nat) (r0 : Option Nat) (h : am_H) : Cl sc (d + 1) mX11_reach [Vr r0] h =
  Ru sc (d + 1) mX11_reach 5 [Vr r0, Vi 0, Vi 512, Vx 0] [] h := (Cl_at at_X11_reach rfl _).trans rfl
set_option maxRecDepth 60000 in
theorem q_X11_reach_5 (sc : Nat × (Nat → Int)) (d : Nat) (r0 : Option Nat) (i1 : Int) (i2 : Int) (u3 : am_V) (h : am_H) : Ru sc (d + 1) mX11_reach 5 [Vr r0, Vi i1, Vi i2, u3] [] h =
  if 0 < i2 then
    if (w32 ((w32 (i1 + i2)) - 1)) < 999 then
      am_rcv 11 h (Vr r0) (
      clI (Cl sc d mX11_areHomesTogether [Vr r0, Vi (w32 ((w32 (i1 + i2)) - 1))] h) am_xt fun v2 h1 =>
      if v2 = 0 then
        if 2 = 0 then none else
        Ru sc (d + 1) mX11_reach 5 [Vr r0, Vi (w32 ((w32 ((w32 (i1 + i2)) - 1)) + 1)), Vi (w32 (i2.tdiv 2)), Vi (w32 ((w32 (i1 + i2)) - 1))] [] h1
      else
        if 2 = 0 then none else
        Ru sc (d + 1) mX11_reach 5 [Vr r0, Vi i1, Vi (w32 (i2.tdiv 2)), Vi (w32 ((w32 (i1 + i2)) - 1))] [] h1)
    else
      if 2 = 0 then none else
      Ru sc (d + 1) mX11_reach 5 [Vr r0, Vi i1, Vi (w32 (i2.tdiv 2)), Vi (w32 ((w32 (i1 + i2)) - 1))] [] h
  else
    some (.inl (Vi i1), h) := (Ru_at at_X11_reach 5 _ _ _).trans rfl
theorem at_X11_ladders : am_at mX11_ladders = (cd_X11_ladders, [], 1) := rfl
set_option maxRecDepth 60000 in
theorem q_X11_ladders_0 (sc : Nat × (Nat → Int)) (d : Nat) (r0 : Option Nat) (h : am_H) : Cl sc (d + 1) mX11_ladders [Vr r0] h =
  gfP 11 11 h r0 fun p1 =>
  gfP 11 3 h r0 fun p2 =>
  am_rcv 7 h (Vr p1) (
  clI (Cl sc d mX7_laddersForAll [Vr p1, Vr p2] h) am_xt fun v4 h3 =>
  some (.inl (Vi v4), h3)) := (Cl_at at_X11_ladders rfl _).trans rfl
theorem at_X11_one : am_at mX11_one = (cd_X11_one, [], 3) := rfl
set_option maxRecDepth 60000 in
theorem q_X11_one_0 (sc : Nat × (Nat → Int)) (d : Nat) (r0 : Option Nat) (i1 : Int) (i2 : Int) (h : am_H) : Cl sc (d + 1) mX11_one [Vr r0, Vi i1, Vi i2] h =
  clV (Cl sc d mX11_needCell [Vi i1] h) am_xt fun h1 =>
  clV (Cl sc d mX11_needCell [Vi i2] h1) am_xt fun h2 =>
  gfP 11 11 h2 r0 fun p3 =>
  gfP 11 3 h2 r0 fun p4 =>
  am_rcv 7 h2 (Vr p3) (
  clI (Cl sc d mX7_laddersBetween [Vr p3, Vr p4, Vi i1, Vi i2] h2) am_xt fun v6 h5 =>
  some (.inl (Vi v6), h5)) := (Cl_at at_X11_one rfl _).trans rfl
theorem at_X11_walk : am_at mX11_walk = (cd_X11_walk, [], 4) := rfl
set_option maxRecDepth 60000 in
theorem q_X11_walk_0 (sc : Nat × (Nat → Int)) (d : Nat) (r0 : Option Nat) (i1 : Int) (i2 : Int) (i3 : Int) (h : am_H) : Cl sc (d + 1) mX11_walk [Vr r0, Vi i1, Vi i2, Vi i3] h =
  clV (Cl sc d mX11_needCorner [Vi i1] h) am_xt fun h1 =>
  clV (Cl sc d mX11_needCorner [Vi i2] h1) am_xt fun h2 =>
  clV (Cl sc d mX11_needHeight [Vi i3] h2) am_xt fun h3 =>
  gfP 11 11 h3 r0 fun p4 =>
  gfP 11 3 h3 r0 fun p5 =>
  am_rcv 7 h3 (Vr p4) (
  clI (Cl sc d mX7_walking [Vr p4, Vr p5, Vi i3, Vi i1, Vi i2] h3) am_xt fun v7 h6 =>
  some (.inl (Vi v7), h6)) := (Cl_at at_X11_walk rfl _).trans rfl
theorem at_X11_hangs : am_at mX11_hangs = (cd_X11_hangs, [], 2) := rfl
set_option maxRecDepth 60000 in
theorem q_X11_hangs_0 (sc : Nat × (Nat → Int)) (d : Nat) (r0 : Option Nat) (i1 : Int) (h : am_H) : Cl sc (d + 1) mX11_hangs [Vr r0, Vi i1] h =
  clV (Cl sc d mX11_needHeight [Vi i1] h) am_xt fun h1 =>
  gfP 11 10 h1 r0 fun p2 =>
  gfP 11 3 h1 r0 fun p3 =>
  am_rcv 8 h1 (Vr p2) (
  clV (Cl sc d mX8_ofTops [Vr p2, Vr p3, Vi i1] h1) am_xt fun h4 =>
  gfP 11 10 h4 r0 fun p5 =>
  am_rcv 8 h4 (Vr p5) (
  clI (Cl sc d mX8_mostEdges [Vr p5] h4) am_xt fun v7 h6 =>
  some (.inl (Vi v7), h6))) := (Cl_at at_X11_hangs rfl _).trans rfl
theorem at_X11_ends : am_at mX11_ends = (cd_X11_ends, [], 2) := rfl
set_option maxRecDepth 60000 in
theorem q_X11_ends_0 (sc : Nat × (Nat → Int)) (d : Nat) (r0 : Option Nat) (i1 : Int) (h : am_H) : Cl sc (d + 1) mX11_ends [Vr r0, Vi i1] h =
  clV (Cl sc d mX11_needHeight [Vi i1] h) am_xt fun h1 =>
  gfP 11 10 h1 r0 fun p2 =>
  gfP 11 3 h1 r0 fun p3 =>
  am_rcv 8 h1 (Vr p2) (
  clV (Cl sc d mX8_ofTops [Vr p2, Vr p3, Vi i1] h1) am_xt fun h4 =>
  gfP 11 10 h4 r0 fun p5 =>
  am_rcv 8 h4 (Vr p5) (
  clI (Cl sc d mX8_nodesOfOneEdge [Vr p5] h4) am_xt fun v7 h6 =>
  some (.inl (Vi v7), h6))) := (Cl_at at_X11_ends rfl _).trans rfl
theorem at_X11_seen : am_at mX11_seen = (cd_X11_seen, [], 2) := rfl
set_option maxRecDepth 60000 in
theorem q_X11_seen_0 (sc : Nat × (Nat → Int)) (d : Nat) (r0 : Option Nat) (i1 : Int) (h : am_H) : Cl sc (d + 1) mX11_seen [Vr r0, Vi i1] h =
  gfP 11 13 h r0 fun p1 =>
  gfP 11 0 h r0 fun p2 =>
  am_rcv 9 h (Vr p1) (
  clI (Cl sc d mX9_reads [Vr p1, Vr p2] h) am_xt fun v4 h3 =>
  if v4 = 0 then
    some (.inr 1, am_ex h3)
  else
    if i1 = 0 then
      gfP 11 13 h3 r0 fun p5 =>
      gfI 9 2 h3 p5 fun v6 =>
      some (.inl (Vi v6), h3)
    else
      gfP 11 13 h3 r0 fun p7 =>
      am_rcv 9 h3 (Vr p7) (
      clI (Cl sc d mX9_firstFit [Vr p7] h3) am_xt fun v9 h8 =>
      some (.inl (Vi v9), h8))) := (Cl_at at_X11_seen rfl _).trans rfl
theorem at_X11_ask : am_at mX11_ask = (cd_X11_ask, [], 1) := rfl
set_option maxRecDepth 60000 in
theorem q_X11_ask_0 (sc : Nat × (Nat → Int)) (d : Nat) (r0 : Option Nat) (h : am_H) : Cl sc (d + 1) mX11_ask [Vr r0] h =
  gfP 11 13 h r0 fun p1 =>
  gfP 11 0 h r0 fun p2 =>
  am_rcv 9 h (Vr p1) (
  clI (Cl sc d mX9_reads [Vr p1, Vr p2] h) am_xt fun v4 h3 =>
  if v4 = 0 then
    some (.inr 1, am_ex h3)
  else
    gfP 11 13 h3 r0 fun p5 =>
    am_rcv 9 h3 (Vr p5) (
    clI (Cl sc d mX9_bestYear [Vr p5] h3) am_xt fun v7 h6 =>
    some (.inl (Vi v7), h6))) := (Cl_at at_X11_ask rfl _).trans rfl
theorem at_X11_oldest : am_at mX11_oldest = (cd_X11_oldest, [], 3) := rfl
set_option maxRecDepth 60000 in
theorem q_X11_oldest_0 (sc : Nat × (Nat → Int)) (d : Nat) (r0 : Option Nat) (h : am_H) : Cl sc (d + 1) mX11_oldest [Vr r0] h =
  Ru sc (d + 1) mX11_oldest 5 [Vr r0, Vi (-1), Vi 0] [] h := (Cl_at at_X11_oldest rfl _).trans rfl
set_option maxRecDepth 60000 in
theorem q_X11_oldest_5 (sc : Nat × (Nat → Int)) (d : Nat) (r0 : Option Nat) (i1 : Int) (i2 : Int) (h : am_H) : Ru sc (d + 1) mX11_oldest 5 [Vr r0, Vi i1, Vi i2] [] h =
  if i2 < 60 then
    gfP 11 3 h r0 fun p1 =>
    gfP 0 0 h p1 fun p2 =>
    ldB h p2 i2 fun v3 =>
    if v3 = 0 then
      Ru sc (d + 1) mX11_oldest 5 [Vr r0, Vi i1, Vi (w32 (i2 + 1))] [] h
    else
      if i1 = (-1) then
        Ru sc (d + 1) mX11_oldest 5 [Vr r0, Vi i2, Vi (w32 (i2 + 1))] [] h
      else
        gfP 11 3 h r0 fun p4 =>
        gfP 0 1 h p4 fun p5 =>
        ldA 1 h p5 i2 fun v6 =>
        gfP 11 3 h r0 fun p7 =>
        gfP 0 1 h p7 fun p8 =>
        ldA 1 h p8 i1 fun v9 =>
        if v9 < v6 then
          Ru sc (d + 1) mX11_oldest 5 [Vr r0, Vi i2, Vi (w32 (i2 + 1))] [] h
        else
          Ru sc (d + 1) mX11_oldest 5 [Vr r0, Vi i1, Vi (w32 (i2 + 1))] [] h
  else
    some (.inl (Vi i1), h) := (Ru_at at_X11_oldest 5 _ _ _).trans rfl
theorem at_X11_highest : am_at mX11_highest = (cd_X11_highest, [], 5) := rfl
set_option maxRecDepth 60000 in
theorem q_X11_highest_0 (sc : Nat × (Nat → Int)) (d : Nat) (r0 : Option Nat) (i1 : Int) (h : am_H) : Cl sc (d + 1) mX11_highest [Vr r0, Vi i1] h =
  Ru sc (d + 1) mX11_highest 5 [Vr r0, Vi i1, Vi (-1), Vi 0, Vx 0] [] h := (Cl_at at_X11_highest rfl _).trans rfl
set_option maxRecDepth 60000 in
theorem q_X11_highest_5 (sc : Nat × (Nat → Int)) (d : Nat) (r0 : Option Nat) (i1 : Int) (i2 : Int) (i3 : Int) (u4 : am_V) (h : am_H) : Ru sc (d + 1) mX11_highest 5 [Vr r0, Vi i1, Vi i2, Vi i3, u4] [] h =
  if i3 < 60 then
    gfP 11 3 h r0 fun p1 =>
    gfP 0 0 h p1 fun p2 =>
    ldB h p2 i3 fun v3 =>
    if v3 = 0 then
      Ru sc (d + 1) mX11_highest 5 [Vr r0, Vi i1, Vi i2, Vi (w32 (i3 + 1)), u4] [] h
    else
      if i2 = (-1) then
        Ru sc (d + 1) mX11_highest 44 [Vr r0, Vi i1, Vi i2, Vi i3, u4] [] h
      else
        if i1 = 0 then
          gfP 11 3 h r0 fun p4 =>
          gfP 0 2 h p4 fun p5 =>
          ldA 1 h p5 i3 fun v6 =>
          gfP 11 3 h r0 fun p7 =>
          gfP 0 2 h p7 fun p8 =>
          ldA 1 h p8 i2 fun v9 =>
          if v6 < v9 then
            Ru sc (d + 1) mX11_highest 44 [Vr r0, Vi i1, Vi i2, Vi i3, u4] [] h
          else
            if 0 = 0 then
              Ru sc (d + 1) mX11_highest 5 [Vr r0, Vi i1, Vi i2, Vi (w32 (i3 + 1)), Vi 0] [] h
            else
              Ru sc (d + 1) mX11_highest 5 [Vr r0, Vi i1, Vi i3, Vi (w32 (i3 + 1)), Vi 0] [] h
        else
          gfP 11 3 h r0 fun p10 =>
          gfP 0 2 h p10 fun p11 =>
          ldA 1 h p11 i3 fun v12 =>
          gfP 11 3 h r0 fun p13 =>
          gfP 0 2 h p13 fun p14 =>
          ldA 1 h p14 i2 fun v15 =>
          if v15 < v12 then
            Ru sc (d + 1) mX11_highest 44 [Vr r0, Vi i1, Vi i2, Vi i3, u4] [] h
          else
            if 0 = 0 then
              Ru sc (d + 1) mX11_highest 5 [Vr r0, Vi i1, Vi i2, Vi (w32 (i3 + 1)), Vi 0] [] h
            else
              Ru sc (d + 1) mX11_highest 5 [Vr r0, Vi i1, Vi i3, Vi (w32 (i3 + 1)), Vi 0] [] h
  else
    some (.inl (Vi i2), h) := (Ru_at at_X11_highest 5 _ _ _).trans rfl
set_option maxRecDepth 60000 in
theorem q_X11_highest_44 (sc : Nat × (Nat → Int)) (d : Nat) (r0 : Option Nat) (i1 : Int) (i2 : Int) (i3 : Int) (u4 : am_V) (h : am_H) : Ru sc (d + 1) mX11_highest 44 [Vr r0, Vi i1, Vi i2, Vi i3, u4] [] h =
  if 1 = 0 then
    Ru sc (d + 1) mX11_highest 5 [Vr r0, Vi i1, Vi i2, Vi (w32 (i3 + 1)), Vi 1] [] h
  else
    Ru sc (d + 1) mX11_highest 5 [Vr r0, Vi i1, Vi i3, Vi (w32 (i3 + 1)), Vi 1] [] h := (Ru_at at_X11_highest 44 _ _ _).trans rfl
theorem at_X11_ahead : am_at mX11_ahead = (cd_X11_ahead, [], 4) := rfl
set_option maxRecDepth 60000 in
theorem q_X11_ahead_0 (sc : Nat × (Nat → Int)) (d : Nat) (r0 : Option Nat) (i1 : Int) (i2 : Int) (h : am_H) : Cl sc (d + 1) mX11_ahead [Vr r0, Vi i1, Vi i2] h =
  clV (Cl sc d mX11_needBorder [Vi i1] h) am_xt fun h1 =>
  clV (Cl sc d mX11_needYears [Vi i2] h1) am_xt fun h2 =>
  gfP 11 3 h2 r0 fun p3 =>
  gfP 0 0 h2 p3 fun p4 =>
  ldB h2 p4 i1 fun v5 =>
  if v5 = 0 then
    some (.inl (Vi 0), h2)
  else
    gfP 11 4 h2 r0 fun p6 =>
    gfP 11 3 h2 r0 fun p7 =>
    am_rcv 0 h2 (Vr p6) (
    clV (Cl sc d mX0_copyFrom [Vr p6, Vr p7] h2) am_xt fun h8 =>
    Ru sc (d + 1) mX11_ahead 20 [Vr r0, Vi i1, Vi i2, Vi 0] [] h8) := (Cl_at at_X11_ahead rfl _).trans rfl
set_option maxRecDepth 60000 in
theorem q_X11_ahead_20 (sc : Nat × (Nat → Int)) (d : Nat) (r0 : Option Nat) (i1 : Int) (i2 : Int) (i3 : Int) (h : am_H) : Ru sc (d + 1) mX11_ahead 20 [Vr r0, Vi i1, Vi i2, Vi i3] [] h =
  if i3 < i2 then
    gfP 11 4 h r0 fun p4 =>
    am_rcv 0 h (Vr p4) (
    clV (Cl sc d mX0_grow [Vr p4, Vi i1] h) am_xt fun h5 =>
    gfP 11 4 h5 r0 fun p6 =>
    am_rcv 0 h5 (Vr p6) (
    clV (Cl sc d mX0_endYear [Vr p6] h5) am_xt fun h7 =>
    Ru sc (d + 1) mX11_ahead 20 [Vr r0, Vi i1, Vi i2, Vi (w32 (i3 + 1))] [] h7))
  else
    gfP 11 4 h r0 fun p1 =>
    gfP 0 2 h p1 fun p2 =>
    ldA 1 h p2 i1 fun v3 =>
    some (.inl (Vi v3), h) := (Ru_at at_X11_ahead 20 _ _ _).trans rfl
theorem at_X11_trial : am_at mX11_trial = (cd_X11_trial, [], 3) := rfl
set_option maxRecDepth 60000 in
theorem q_X11_trial_0 (sc : Nat × (Nat → Int)) (d : Nat) (r0 : Option Nat) (i1 : Int) (i2 : Int) (h : am_H) : Cl sc (d + 1) mX11_trial [Vr r0, Vi i1, Vi i2] h =
  clV (Cl sc d mX11_needYears [Vi i1] h) am_xt fun h1 =>
  gfP 11 4 h1 r0 fun p2 =>
  gfP 11 3 h1 r0 fun p3 =>
  am_rcv 0 h1 (Vr p2) (
  clV (Cl sc d mX0_copyFrom [Vr p2, Vr p3] h1) am_xt fun h4 =>
  gfP 11 4 h4 r0 fun p5 =>
  am_rcv 0 h4 (Vr p5) (
  clI (Cl sc d mX0_passYears [Vr p5, Vi i1] h4) am_xt fun v7 h6 =>
  if i2 = 0 then
    gfP 11 4 h6 r0 fun p8 =>
    am_rcv 0 h6 (Vr p8) (
    clI (Cl sc d mX0_fences [Vr p8] h6) am_xt fun v10 h9 =>
    some (.inl (Vi v10), h9))
  else
    gfP 11 4 h6 r0 fun p11 =>
    am_rcv 0 h6 (Vr p11) (
    clI (Cl sc d mX0_highTogether [Vr p11] h6) am_xt fun v13 h12 =>
    some (.inl (Vi v13), h12)))) := (Cl_at at_X11_trial rfl _).trans rfl
theorem at_X11_span : am_at mX11_span = (cd_X11_span, [], 6) := rfl
set_option maxRecDepth 60000 in
theorem q_X11_span_0 (sc : Nat × (Nat → Int)) (d : Nat) (r0 : Option Nat) (i1 : Int) (i2 : Int) (h : am_H) : Cl sc (d + 1) mX11_span [Vr r0, Vi i1, Vi i2] h =
  clV (Cl sc d mX11_needYears [Vi i1] h) am_xt fun h1 =>
  Ru sc (d + 1) mX11_span 7 [Vr r0, Vi i1, Vi i2, Vi (-1), Vi 1, Vx 0] [] h1 := (Cl_at at_X11_span rfl _).trans rfl
set_option maxRecDepth 60000 in
theorem q_X11_span_7 (sc : Nat × (Nat → Int)) (d : Nat) (r0 : Option Nat) (i1 : Int) (i2 : Int) (i3 : Int) (i4 : Int) (u5 : am_V) (h : am_H) : Ru sc (d + 1) mX11_span 7 [Vr r0, Vi i1, Vi i2, Vi i3, Vi i4, u5] [] h =
  if 6 < i4 then
    some (.inl (Vi i3), h)
  else
    gfP 11 4 h r0 fun p1 =>
    gfP 11 3 h r0 fun p2 =>
    am_rcv 0 h (Vr p1) (
    clV (Cl sc d mX0_copyFrom [Vr p1, Vr p2] h) am_xt fun h3 =>
    gfP 11 4 h3 r0 fun p4 =>
    pfI 0 0 12 h3 p4 i4 fun h5 =>
    gfP 11 4 h5 r0 fun p6 =>
    am_rcv 0 h5 (Vr p6) (
    clI (Cl sc d mX0_passYears [Vr p6, Vi i1] h5) am_xt fun v8 h7 =>
    gfP 11 4 h7 r0 fun p9 =>
    am_rcv 0 h7 (Vr p9) (
    clI (Cl sc d mX0_fences [Vr p9] h7) am_xt fun v11 h10 =>
    if i3 = (-1) then
      Ru sc (d + 1) mX11_span 7 [Vr r0, Vi i1, Vi i2, Vi v11, Vi (w32 (i4 + 1)), Vi v11] [] h10
    else
      if i2 = 0 then
        if v11 < i3 then
          Ru sc (d + 1) mX11_span 7 [Vr r0, Vi i1, Vi i2, Vi v11, Vi (w32 (i4 + 1)), Vi v11] [] h10
        else
          Ru sc (d + 1) mX11_span 7 [Vr r0, Vi i1, Vi i2, Vi i3, Vi (w32 (i4 + 1)), Vi v11] [] h10
      else
        if i3 < v11 then
          Ru sc (d + 1) mX11_span 7 [Vr r0, Vi i1, Vi i2, Vi v11, Vi (w32 (i4 + 1)), Vi v11] [] h10
        else
          Ru sc (d + 1) mX11_span 7 [Vr r0, Vi i1, Vi i2, Vi i3, Vi (w32 (i4 + 1)), Vi v11] [] h10))) := (Ru_at at_X11_span 7 _ _ _).trans rfl
theorem at_X11_led : am_at mX11_led = (cd_X11_led, [], 3) := rfl
set_option maxRecDepth 60000 in
theorem q_X11_led_0 (sc : Nat × (Nat → Int)) (d : Nat) (r0 : Option Nat) (i1 : Int) (i2 : Int) (h : am_H) : Cl sc (d + 1) mX11_led [Vr r0, Vi i1, Vi i2] h =
  clV (Cl sc d mX11_needBorder [Vi i1] h) am_xt fun h1 =>
  if i2 = 0 then
    gfP 11 3 h1 r0 fun p2 =>
    gfP 0 15 h1 p2 fun p3 =>
    am_rcv 5 h1 (Vr p3) (
    clI (Cl sc d mX5_rowsOf [Vr p3, Vi i1] h1) am_xt fun v5 h4 =>
    some (.inl (Vi v5), h4))
  else
    gfP 11 3 h1 r0 fun p6 =>
    gfP 0 15 h1 p6 fun p7 =>
    am_rcv 5 h1 (Vr p7) (
    clI (Cl sc d mX5_latestYear [Vr p7, Vi i1] h1) am_xt fun v9 h8 =>
    some (.inl (Vi v9), h8)) := (Cl_at at_X11_led rfl _).trans rfl
theorem at_X11_log : am_at mX11_log = (cd_X11_log, [], 3) := rfl
set_option maxRecDepth 60000 in
theorem q_X11_log_0 (sc : Nat × (Nat → Int)) (d : Nat) (r0 : Option Nat) (i1 : Int) (i2 : Int) (h : am_H) : Cl sc (d + 1) mX11_log [Vr r0, Vi i1, Vi i2] h =
  if i2 < 0 then
    some (.inr 4, am_ex h)
  else
    if i2 < 5 then
      gfP 11 3 h r0 fun p1 =>
      gfP 0 15 h p1 fun p2 =>
      am_rcv 5 h (Vr p2) (
      clI (Cl sc d mX5_value [Vr p2, Vi i1, Vi i2] h) am_xt fun v4 h3 =>
      some (.inl (Vi v4), h3))
    else
      some (.inr 4, am_ex h) := (Cl_at at_X11_log rfl _).trans rfl
theorem at_X11_seed : am_at mX11_seed = (cd_X11_seed, [], 3) := rfl
set_option maxRecDepth 60000 in
theorem q_X11_seed_0 (sc : Nat × (Nat → Int)) (d : Nat) (r0 : Option Nat) (i1 : Int) (h : am_H) : Cl sc (d + 1) mX11_seed [Vr r0, Vi i1] h =
  gfP 11 3 h r0 fun p1 =>
  gfI 0 12 h p1 fun v2 =>
  gfP 11 3 h r0 fun p3 =>
  pfI 0 0 12 h p3 i1 fun h4 =>
  some (.inl (Vi v2), h4) := (Cl_at at_X11_seed rfl _).trans rfl
theorem at_X11_undo : am_at mX11_undo = (cd_X11_undo, [], 1) := rfl
set_option maxRecDepth 60000 in
theorem q_X11_undo_0 (sc : Nat × (Nat → Int)) (d : Nat) (r0 : Option Nat) (h : am_H) : Cl sc (d + 1) mX11_undo [Vr r0] h =
  gfI 11 9 h r0 fun v1 =>
  if v1 = 0 then
    some (.inl (Vi 0), h)
  else
    gfI 11 9 h r0 fun v2 =>
    pfI 0 11 9 h r0 (w32 (v2 - 1)) fun h3 =>
    gfP 11 3 h3 r0 fun p4 =>
    gfP 11 7 h3 r0 fun p5 =>
    gfI 11 8 h3 r0 fun v6 =>
    gfI 11 9 h3 r0 fun v7 =>
    if 12 = 0 then none else
    ldP 5 h3 p5 ((w32 (v6 + v7)).tmod 12) fun p8 =>
    am_rcv 0 h3 (Vr p4) (
    clV (Cl sc d mX0_copyFrom [Vr p4, Vr p8] h3) am_xt fun h9 =>
    some (.inl (Vi 1), h9)) := (Cl_at at_X11_undo rfl _).trans rfl
theorem at_X11_image : am_at mX11_image = (cd_X11_image, [], 1) := rfl
set_option maxRecDepth 60000 in
theorem q_X11_image_0 (sc : Nat × (Nat → Int)) (d : Nat) (r0 : Option Nat) (h : am_H) : Cl sc (d + 1) mX11_image [Vr r0] h =
  gfP 11 5 h r0 fun p1 =>
  gfP 11 3 h r0 fun p2 =>
  am_rcv 0 h (Vr p1) (
  clV (Cl sc d mX0_copyFrom [Vr p1, Vr p2] h) am_xt fun h3 =>
  pfI 1 11 6 h3 r0 1 fun h4 =>
  some (.inl (Vx 0), h4)) := (Cl_at at_X11_image rfl _).trans rfl
theorem at_X11_back : am_at mX11_back = (cd_X11_back, [], 1) := rfl
set_option maxRecDepth 60000 in
theorem q_X11_back_0 (sc : Nat × (Nat → Int)) (d : Nat) (r0 : Option Nat) (h : am_H) : Cl sc (d + 1) mX11_back [Vr r0] h =
  gfI 11 6 h r0 fun v1 =>
  if v1 = 0 then
    some (.inl (Vi 0), h)
  else
    gfP 11 3 h r0 fun p2 =>
    gfP 11 5 h r0 fun p3 =>
    am_rcv 0 h (Vr p2) (
    clV (Cl sc d mX0_copyFrom [Vr p2, Vr p3] h) am_xt fun h4 =>
    pfI 0 11 9 h4 r0 0 fun h5 =>
    some (.inl (Vi 1), h5)) := (Cl_at at_X11_back rfl _).trans rfl
theorem at_X11_needCell : am_at mX11_needCell = (cd_X11_needCell, [], 1) := rfl
set_option maxRecDepth 60000 in
theorem q_X11_needCell_0 (sc : Nat × (Nat → Int)) (d : Nat) (i0 : Int) (h : am_H) : Cl sc (d + 1) mX11_needCell [Vi i0] h =
  if i0 < 0 then
    some (.inr 3, am_ex h)
  else
    if i0 < 36 then
      some (.inl (Vx 0), h)
    else
      some (.inr 3, am_ex h) := (Cl_at at_X11_needCell rfl _).trans rfl
theorem at_X11_needCorner : am_at mX11_needCorner = (cd_X11_needCorner, [], 1) := rfl
set_option maxRecDepth 60000 in
theorem q_X11_needCorner_0 (sc : Nat × (Nat → Int)) (d : Nat) (i0 : Int) (h : am_H) : Cl sc (d + 1) mX11_needCorner [Vi i0] h =
  if i0 < 0 then
    some (.inr 3, am_ex h)
  else
    if i0 < 49 then
      some (.inl (Vx 0), h)
    else
      some (.inr 3, am_ex h) := (Cl_at at_X11_needCorner rfl _).trans rfl
theorem at_X11_needBorder : am_at mX11_needBorder = (cd_X11_needBorder, [], 1) := rfl
set_option maxRecDepth 60000 in
theorem q_X11_needBorder_0 (sc : Nat × (Nat → Int)) (d : Nat) (i0 : Int) (h : am_H) : Cl sc (d + 1) mX11_needBorder [Vi i0] h =
  if i0 < 0 then
    some (.inr 3, am_ex h)
  else
    if i0 < 60 then
      some (.inl (Vx 0), h)
    else
      some (.inr 3, am_ex h) := (Cl_at at_X11_needBorder rfl _).trans rfl
theorem at_X11_needFamily : am_at mX11_needFamily = (cd_X11_needFamily, [], 2) := rfl
set_option maxRecDepth 60000 in
theorem q_X11_needFamily_0 (sc : Nat × (Nat → Int)) (d : Nat) (r0 : Option Nat) (i1 : Int) (h : am_H) : Cl sc (d + 1) mX11_needFamily [Vr r0, Vi i1] h =
  if i1 < 0 then
    some (.inr 3, am_ex h)
  else
    gfP 11 3 h r0 fun p1 =>
    gfI 0 5 h p1 fun v2 =>
    if i1 < v2 then
      some (.inl (Vx 0), h)
    else
      some (.inr 3, am_ex h) := (Cl_at at_X11_needFamily rfl _).trans rfl
theorem at_X11_needTwoFamilies : am_at mX11_needTwoFamilies = (cd_X11_needTwoFamilies, [], 3) := rfl
set_option maxRecDepth 60000 in
theorem q_X11_needTwoFamilies_0 (sc : Nat × (Nat → Int)) (d : Nat) (r0 : Option Nat) (i1 : Int) (i2 : Int) (h : am_H) : Cl sc (d + 1) mX11_needTwoFamilies [Vr r0, Vi i1, Vi i2] h =
  am_rcv 11 h (Vr r0) (
  clV (Cl sc d mX11_needFamily [Vr r0, Vi i1] h) am_xt fun h1 =>
  am_rcv 11 h1 (Vr r0) (
  clV (Cl sc d mX11_needFamily [Vr r0, Vi i2] h1) am_xt fun h2 =>
  if i1 = i2 then
    some (.inr 1, am_ex h2)
  else
    some (.inl (Vx 0), h2))) := (Cl_at at_X11_needTwoFamilies rfl _).trans rfl
theorem at_X11_needHeight : am_at mX11_needHeight = (cd_X11_needHeight, [], 1) := rfl
set_option maxRecDepth 60000 in
theorem q_X11_needHeight_0 (sc : Nat × (Nat → Int)) (d : Nat) (i0 : Int) (h : am_H) : Cl sc (d + 1) mX11_needHeight [Vi i0] h =
  if i0 < 0 then
    some (.inr 1, am_ex h)
  else
    if 999 < i0 then
      some (.inr 1, am_ex h)
    else
      some (.inl (Vx 0), h) := (Cl_at at_X11_needHeight rfl _).trans rfl
theorem at_X11_needYears : am_at mX11_needYears = (cd_X11_needYears, [], 1) := rfl
set_option maxRecDepth 60000 in
theorem q_X11_needYears_0 (sc : Nat × (Nat → Int)) (d : Nat) (i0 : Int) (h : am_H) : Cl sc (d + 1) mX11_needYears [Vi i0] h =
  if i0 < 0 then
    some (.inr 1, am_ex h)
  else
    if 100 < i0 then
      some (.inr 1, am_ex h)
    else
      some (.inl (Vx 0), h) := (Cl_at at_X11_needYears rfl _).trans rfl
theorem at_X11_needFence : am_at mX11_needFence = (cd_X11_needFence, [], 2) := rfl
set_option maxRecDepth 60000 in
theorem q_X11_needFence_0 (sc : Nat × (Nat → Int)) (d : Nat) (r0 : Option Nat) (i1 : Int) (h : am_H) : Cl sc (d + 1) mX11_needFence [Vr r0, Vi i1] h =
  gfP 11 3 h r0 fun p1 =>
  gfP 0 0 h p1 fun p2 =>
  ldB h p2 i1 fun v3 =>
  if v3 = 0 then
    some (.inr 5, am_ex h)
  else
    some (.inl (Vx 0), h) := (Cl_at at_X11_needFence rfl _).trans rfl
theorem at_X11_rememberAct : am_at mX11_rememberAct = (cd_X11_rememberAct, [], 1) := rfl
set_option maxRecDepth 60000 in
theorem q_X11_rememberAct_0 (sc : Nat × (Nat → Int)) (d : Nat) (r0 : Option Nat) (h : am_H) : Cl sc (d + 1) mX11_rememberAct [Vr r0] h =
  gfI 11 9 h r0 fun v1 =>
  if v1 = 12 then
    gfI 11 8 h r0 fun v2 =>
    if 12 = 0 then none else
    pfI 0 11 8 h r0 ((w32 (v2 + 1)).tmod 12) fun h3 =>
    gfI 11 9 h3 r0 fun v4 =>
    pfI 0 11 9 h3 r0 (w32 (v4 - 1)) fun h5 =>
    Ru sc (d + 1) mX11_rememberAct 19 [Vr r0] [] h5
  else
    Ru sc (d + 1) mX11_rememberAct 19 [Vr r0] [] h := (Cl_at at_X11_rememberAct rfl _).trans rfl
set_option maxRecDepth 60000 in
theorem q_X11_rememberAct_19 (sc : Nat × (Nat → Int)) (d : Nat) (r0 : Option Nat) (h : am_H) : Ru sc (d + 1) mX11_rememberAct 19 [Vr r0] [] h =
  gfP 11 7 h r0 fun p1 =>
  gfI 11 8 h r0 fun v2 =>
  gfI 11 9 h r0 fun v3 =>
  if 12 = 0 then none else
  ldP 5 h p1 ((w32 (v2 + v3)).tmod 12) fun p4 =>
  gfP 11 3 h r0 fun p5 =>
  am_rcv 0 h (Vr p4) (
  clV (Cl sc d mX0_copyFrom [Vr p4, Vr p5] h) am_xt fun h6 =>
  gfI 11 9 h6 r0 fun v7 =>
  pfI 0 11 9 h6 r0 (w32 (v7 + 1)) fun h8 =>
  some (.inl (Vx 0), h8)) := (Ru_at at_X11_rememberAct 19 _ _ _).trans rfl
theorem at_X11_waysOf : am_at mX11_waysOf = (cd_X11_waysOf, [], 2) := rfl
set_option maxRecDepth 60000 in
theorem q_X11_waysOf_0 (sc : Nat × (Nat → Int)) (d : Nat) (r0 : Option Nat) (i1 : Int) (h : am_H) : Cl sc (d + 1) mX11_waysOf [Vr r0, Vi i1] h =
  gfP 11 10 h r0 fun p1 =>
  gfP 11 3 h r0 fun p2 =>
  gfP 11 3 h r0 fun p3 =>
  gfP 0 7 h p3 fun p4 =>
  ldA 1 h p4 i1 fun v5 =>
  am_rcv 8 h (Vr p1) (
  clV (Cl sc d mX8_ofCells [Vr p1, Vr p2, Vi v5, Vi (-1)] h) am_xt fun h6 =>
  gfP 11 10 h6 r0 fun p7 =>
  gfP 11 3 h6 r0 fun p8 =>
  gfP 0 6 h6 p8 fun p9 =>
  ldA 1 h6 p9 i1 fun v10 =>
  am_rcv 8 h6 (Vr p7) (
  clI (Cl sc d mX8_nodesWith [Vr p7, Vi v10] h6) am_xt fun v12 h11 =>
  some (.inl (Vi v12), h11))) := (Cl_at at_X11_waysOf rfl _).trans rfl
theorem at_X11_bestPull : am_at mX11_bestPull = (cd_X11_bestPull, [], 7) := rfl
set_option maxRecDepth 60000 in
theorem q_X11_bestPull_0 (sc : Nat × (Nat → Int)) (d : Nat) (r0 : Option Nat) (i1 : Int) (h : am_H) : Cl sc (d + 1) mX11_bestPull [Vr r0, Vi i1] h =
  gfP 11 3 h r0 fun p1 =>
  gfP 0 7 h p1 fun p2 =>
  ldA 1 h p2 i1 fun v3 =>
  gfP 11 10 h r0 fun p4 =>
  gfP 11 3 h r0 fun p5 =>
  am_rcv 8 h (Vr p4) (
  clV (Cl sc d mX8_ofCells [Vr p4, Vr p5, Vi v3, Vi (-1)] h) am_xt fun h6 =>
  Ru sc (d + 1) mX11_bestPull 20 [Vr r0, Vi i1, Vi v3, Vi (-1), Vi 0, Vi 0, Vx 0] [] h6) := (Cl_at at_X11_bestPull rfl _).trans rfl
set_option maxRecDepth 60000 in
theorem q_X11_bestPull_20 (sc : Nat × (Nat → Int)) (d : Nat) (r0 : Option Nat) (i1 : Int) (i2 : Int) (i3 : Int) (i4 : Int) (i5 : Int) (u6 : am_V) (h : am_H) : Ru sc (d + 1) mX11_bestPull 20 [Vr r0, Vi i1, Vi i2, Vi i3, Vi i4, Vi i5, u6] [] h =
  if i5 < 60 then
    gfP 11 3 h r0 fun p1 =>
    am_rcv 0 h (Vr p1) (
    clI (Cl sc d mX0_isOpen [Vr p1, Vi i5, Vi i2] h) am_xt fun v3 h2 =>
    if v3 = 0 then
      gfP 11 10 h2 r0 fun p4 =>
      gfP 11 3 h2 r0 fun p5 =>
      gfP 0 6 h2 p5 fun p6 =>
      ldA 1 h2 p6 i1 fun v7 =>
      am_rcv 8 h2 (Vr p4) (
      clI (Cl sc d mX8_gain [Vr p4, Vi v7, Vi i5] h2) am_xt fun v9 h8 =>
      if i4 < v9 then
        Ru sc (d + 1) mX11_bestPull 20 [Vr r0, Vi i1, Vi i2, Vi i5, Vi v9, Vi (w32 (i5 + 1)), Vi v9] [] h8
      else
        Ru sc (d + 1) mX11_bestPull 20 [Vr r0, Vi i1, Vi i2, Vi i3, Vi i4, Vi (w32 (i5 + 1)), Vi v9] [] h8)
    else
      if i4 < 0 then
        Ru sc (d + 1) mX11_bestPull 20 [Vr r0, Vi i1, Vi i2, Vi i5, Vi 0, Vi (w32 (i5 + 1)), Vi 0] [] h2
      else
        Ru sc (d + 1) mX11_bestPull 20 [Vr r0, Vi i1, Vi i2, Vi i3, Vi i4, Vi (w32 (i5 + 1)), Vi 0] [] h2)
  else
    some (.inl (Vi i3), h) := (Ru_at at_X11_bestPull 20 _ _ _).trans rfl
theorem at_X11_isWayBetween : am_at mX11_isWayBetween = (cd_X11_isWayBetween, [], 4) := rfl
set_option maxRecDepth 60000 in
theorem q_X11_isWayBetween_0 (sc : Nat × (Nat → Int)) (d : Nat) (r0 : Option Nat) (i1 : Int) (i2 : Int) (i3 : Int) (h : am_H) : Cl sc (d + 1) mX11_isWayBetween [Vr r0, Vi i1, Vi i2, Vi i3] h =
  gfP 11 10 h r0 fun p1 =>
  gfP 11 3 h r0 fun p2 =>
  am_rcv 8 h (Vr p1) (
  clV (Cl sc d mX8_ofCells [Vr p1, Vr p2, Vi i3, Vi (-1)] h) am_xt fun h3 =>
  gfP 11 10 h3 r0 fun p4 =>
  am_rcv 8 h3 (Vr p4) (
  clI (Cl sc d mX8_areTogether [Vr p4, Vi i1, Vi i2] h3) am_xt fun v6 h5 =>
  am_ret 1 v6 h5)) := (Cl_at at_X11_isWayBetween rfl _).trans rfl
theorem at_X11_areHomesTogether : am_at mX11_areHomesTogether = (cd_X11_areHomesTogether, [], 3) := rfl
set_option maxRecDepth 60000 in
theorem q_X11_areHomesTogether_0 (sc : Nat × (Nat → Int)) (d : Nat) (r0 : Option Nat) (i1 : Int) (h : am_H) : Cl sc (d + 1) mX11_areHomesTogether [Vr r0, Vi i1] h =
  gfP 11 10 h r0 fun p1 =>
  gfP 11 3 h r0 fun p2 =>
  am_rcv 8 h (Vr p1) (
  clV (Cl sc d mX8_ofCells [Vr p1, Vr p2, Vi i1, Vi (-1)] h) am_xt fun h3 =>
  Ru sc (d + 1) mX11_areHomesTogether 10 [Vr r0, Vi i1, Vi 1] [] h3) := (Cl_at at_X11_areHomesTogether rfl _).trans rfl
set_option maxRecDepth 60000 in
theorem q_X11_areHomesTogether_10 (sc : Nat × (Nat → Int)) (d : Nat) (r0 : Option Nat) (i1 : Int) (i2 : Int) (h : am_H) : Ru sc (d + 1) mX11_areHomesTogether 10 [Vr r0, Vi i1, Vi i2] [] h =
  gfP 11 3 h r0 fun p1 =>
  gfI 0 5 h p1 fun v2 =>
  if i2 < v2 then
    gfP 11 10 h r0 fun p3 =>
    gfP 11 3 h r0 fun p4 =>
    gfP 0 6 h p4 fun p5 =>
    ldA 1 h p5 0 fun v6 =>
    gfP 11 3 h r0 fun p7 =>
    gfP 0 6 h p7 fun p8 =>
    ldA 1 h p8 i2 fun v9 =>
    am_rcv 8 h (Vr p3) (
    clI (Cl sc d mX8_areTogether [Vr p3, Vi v6, Vi v9] h) am_xt fun v11 h10 =>
    if v11 = 0 then
      some (.inl (Vi 0), h10)
    else
      Ru sc (d + 1) mX11_areHomesTogether 10 [Vr r0, Vi i1, Vi (w32 (i2 + 1))] [] h10)
  else
    some (.inl (Vi 1), h) := (Ru_at at_X11_areHomesTogether 10 _ _ _).trans rfl
