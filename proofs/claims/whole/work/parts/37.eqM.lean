theorem at_L_law_ : am_at mL_law_ = (cd_L_law_, [], 7) := rfl
set_option maxRecDepth 60000 in
theorem q_L_law__0 (sc : Nat × (Nat → Int)) (d : Nat) (u1 : am_V) (h : am_H) : Cl sc (d + 1) mL_law_ [Vx 1] h =
  am_rcv 11 (am_new h 0 11 14) (Vr (some (hZ h))) (
  clV (Cl sc d mX11_init [Vr (some (hZ h))] (am_new h 0 11 14)) am_xn0 fun h1 =>
  am_rcv 12 (am_new h1 0 12 31) (Vr (some (hZ h1))) (
  clV (Cl sc d mX12_init [Vr (some (hZ h1))] (am_new h1 0 12 31)) am_xn0 fun h2 =>
  newA 4 h2 1 fun p3 h4 =>
  Ru sc (d + 1) mL_law_ 14 [Vx 1, Vr (some (hZ h)), Vr (some (hZ h1)), Vr p3, Vi 0, Vx 0, Vx 0] [] h4)) := (Cl_at at_L_law_ rfl _).trans rfl
set_option maxRecDepth 60000 in
theorem q_L_law__14 (sc : Nat × (Nat → Int)) (d : Nat) (r1 : Option Nat) (r2 : Option Nat) (r3 : Option Nat) (i4 : Int) (u5 : am_V) (u6 : am_V) (h : am_H) : Ru sc (d + 1) mL_law_ 14 [Vx 1, Vr r1, Vr r2, Vr r3, Vi i4, u5, u6] [] h =
  if (w32 ((sc.1) - 6)) < i4 then
    some (.inl (Vi 1), h)
  else
    if 0 ≤ i4 ∧ i4 < sc.1 then
    if (bAnd (sc.2 i4.toNat) 63) = 0 then
      Ru sc (d + 1) mL_law_ 26 [Vx 1, Vr r1, Vr r2, Vr r3, Vi i4, u5, u6] [] h
    else if (bAnd (sc.2 i4.toNat) 63) = 1 then
      Ru sc (d + 1) mL_law_ 83 [Vx 1, Vr r1, Vr r2, Vr r3, Vi i4, u5, u6] [] h
    else if (bAnd (sc.2 i4.toNat) 63) = 2 then
      Ru sc (d + 1) mL_law_ 100 [Vx 1, Vr r1, Vr r2, Vr r3, Vi i4, u5, u6] [] h
    else if (bAnd (sc.2 i4.toNat) 63) = 3 then
      Ru sc (d + 1) mL_law_ 125 [Vx 1, Vr r1, Vr r2, Vr r3, Vi i4, u5, u6] [] h
    else if (bAnd (sc.2 i4.toNat) 63) = 4 then
      Ru sc (d + 1) mL_law_ 150 [Vx 1, Vr r1, Vr r2, Vr r3, Vi i4, u5, u6] [] h
    else if (bAnd (sc.2 i4.toNat) 63) = 5 then
      Ru sc (d + 1) mL_law_ 157 [Vx 1, Vr r1, Vr r2, Vr r3, Vi i4, u5, u6] [] h
    else if (bAnd (sc.2 i4.toNat) 63) = 6 then
      Ru sc (d + 1) mL_law_ 202 [Vx 1, Vr r1, Vr r2, Vr r3, Vi i4, u5, u6] [] h
    else if (bAnd (sc.2 i4.toNat) 63) = 7 then
      Ru sc (d + 1) mL_law_ 247 [Vx 1, Vr r1, Vr r2, Vr r3, Vi i4, u5, u6] [] h
    else if (bAnd (sc.2 i4.toNat) 63) = 8 then
      Ru sc (d + 1) mL_law_ 292 [Vx 1, Vr r1, Vr r2, Vr r3, Vi i4, u5, u6] [] h
    else if (bAnd (sc.2 i4.toNat) 63) = 9 then
      Ru sc (d + 1) mL_law_ 327 [Vx 1, Vr r1, Vr r2, Vr r3, Vi i4, u5, u6] [] h
    else if (bAnd (sc.2 i4.toNat) 63) = 10 then
      Ru sc (d + 1) mL_law_ 362 [Vx 1, Vr r1, Vr r2, Vr r3, Vi i4, u5, u6] [] h
    else if (bAnd (sc.2 i4.toNat) 63) = 11 then
      Ru sc (d + 1) mL_law_ 397 [Vx 1, Vr r1, Vr r2, Vr r3, Vi i4, u5, u6] [] h
    else if (bAnd (sc.2 i4.toNat) 63) = 12 then
      Ru sc (d + 1) mL_law_ 455 [Vx 1, Vr r1, Vr r2, Vr r3, Vi i4, u5, u6] [] h
    else if (bAnd (sc.2 i4.toNat) 63) = 13 then
      Ru sc (d + 1) mL_law_ 513 [Vx 1, Vr r1, Vr r2, Vr r3, Vi i4, u5, u6] [] h
    else if (bAnd (sc.2 i4.toNat) 63) = 14 then
      Ru sc (d + 1) mL_law_ 558 [Vx 1, Vr r1, Vr r2, Vr r3, Vi i4, u5, u6] [] h
    else if (bAnd (sc.2 i4.toNat) 63) = 15 then
      Ru sc (d + 1) mL_law_ 593 [Vx 1, Vr r1, Vr r2, Vr r3, Vi i4, u5, u6] [] h
    else if (bAnd (sc.2 i4.toNat) 63) = 16 then
      Ru sc (d + 1) mL_law_ 638 [Vx 1, Vr r1, Vr r2, Vr r3, Vi i4, u5, u6] [] h
    else if (bAnd (sc.2 i4.toNat) 63) = 17 then
      Ru sc (d + 1) mL_law_ 683 [Vx 1, Vr r1, Vr r2, Vr r3, Vi i4, u5, u6] [] h
    else if (bAnd (sc.2 i4.toNat) 63) = 18 then
      Ru sc (d + 1) mL_law_ 731 [Vx 1, Vr r1, Vr r2, Vr r3, Vi i4, u5, u6] [] h
    else if (bAnd (sc.2 i4.toNat) 63) = 19 then
      Ru sc (d + 1) mL_law_ 776 [Vx 1, Vr r1, Vr r2, Vr r3, Vi i4, u5, u6] [] h
    else if (bAnd (sc.2 i4.toNat) 63) = 20 then
      Ru sc (d + 1) mL_law_ 824 [Vx 1, Vr r1, Vr r2, Vr r3, Vi i4, u5, u6] [] h
    else if (bAnd (sc.2 i4.toNat) 63) = 21 then
      Ru sc (d + 1) mL_law_ 869 [Vx 1, Vr r1, Vr r2, Vr r3, Vi i4, u5, u6] [] h
    else if (bAnd (sc.2 i4.toNat) 63) = 22 then
      Ru sc (d + 1) mL_law_ 917 [Vx 1, Vr r1, Vr r2, Vr r3, Vi i4, u5, u6] [] h
    else if (bAnd (sc.2 i4.toNat) 63) = 23 then
      Ru sc (d + 1) mL_law_ 924 [Vx 1, Vr r1, Vr r2, Vr r3, Vi i4, u5, u6] [] h
    else if (bAnd (sc.2 i4.toNat) 63) = 24 then
      Ru sc (d + 1) mL_law_ 931 [Vx 1, Vr r1, Vr r2, Vr r3, Vi i4, u5, u6] [] h
    else if (bAnd (sc.2 i4.toNat) 63) = 25 then
      Ru sc (d + 1) mL_law_ 986 [Vx 1, Vr r1, Vr r2, Vr r3, Vi i4, u5, u6] [] h
    else if (bAnd (sc.2 i4.toNat) 63) = 26 then
      Ru sc (d + 1) mL_law_ 1031 [Vx 1, Vr r1, Vr r2, Vr r3, Vi i4, u5, u6] [] h
    else if (bAnd (sc.2 i4.toNat) 63) = 27 then
      Ru sc (d + 1) mL_law_ 1086 [Vx 1, Vr r1, Vr r2, Vr r3, Vi i4, u5, u6] [] h
    else if (bAnd (sc.2 i4.toNat) 63) = 28 then
      Ru sc (d + 1) mL_law_ 1121 [Vx 1, Vr r1, Vr r2, Vr r3, Vi i4, u5, u6] [] h
    else if (bAnd (sc.2 i4.toNat) 63) = 29 then
      Ru sc (d + 1) mL_law_ 1156 [Vx 1, Vr r1, Vr r2, Vr r3, Vi i4, u5, u6] [] h
    else if (bAnd (sc.2 i4.toNat) 63) = 30 then
      Ru sc (d + 1) mL_law_ 1201 [Vx 1, Vr r1, Vr r2, Vr r3, Vi i4, u5, u6] [] h
    else if (bAnd (sc.2 i4.toNat) 63) = 31 then
      Ru sc (d + 1) mL_law_ 1236 [Vx 1, Vr r1, Vr r2, Vr r3, Vi i4, u5, u6] [] h
    else if (bAnd (sc.2 i4.toNat) 63) = 32 then
      Ru sc (d + 1) mL_law_ 1274 [Vx 1, Vr r1, Vr r2, Vr r3, Vi i4, u5, u6] [] h
    else if (bAnd (sc.2 i4.toNat) 63) = 33 then
      Ru sc (d + 1) mL_law_ 1281 [Vx 1, Vr r1, Vr r2, Vr r3, Vi i4, u5, u6] [] h
    else if (bAnd (sc.2 i4.toNat) 63) = 34 then
      Ru sc (d + 1) mL_law_ 1288 [Vx 1, Vr r1, Vr r2, Vr r3, Vi i4, u5, u6] [] h
    else if (bAnd (sc.2 i4.toNat) 63) = 35 then
      Ru sc (d + 1) mL_law_ 1333 [Vx 1, Vr r1, Vr r2, Vr r3, Vi i4, u5, u6] [] h
    else if (bAnd (sc.2 i4.toNat) 63) = 36 then
      Ru sc (d + 1) mL_law_ 1388 [Vx 1, Vr r1, Vr r2, Vr r3, Vi i4, u5, u6] [] h
    else if (bAnd (sc.2 i4.toNat) 63) = 37 then
      Ru sc (d + 1) mL_law_ 1423 [Vx 1, Vr r1, Vr r2, Vr r3, Vi i4, u5, u6] [] h
    else if (bAnd (sc.2 i4.toNat) 63) = 38 then
      Ru sc (d + 1) mL_law_ 1458 [Vx 1, Vr r1, Vr r2, Vr r3, Vi i4, u5, u6] [] h
    else if (bAnd (sc.2 i4.toNat) 63) = 39 then
      Ru sc (d + 1) mL_law_ 1502 [Vx 1, Vr r1, Vr r2, Vr r3, Vi i4, u5, u6] [] h
    else if (bAnd (sc.2 i4.toNat) 63) = 40 then
      Ru sc (d + 1) mL_law_ 1527 [Vx 1, Vr r1, Vr r2, Vr r3, Vi i4, u5, u6] [] h
    else if (bAnd (sc.2 i4.toNat) 63) = 41 then
      Ru sc (d + 1) mL_law_ 1572 [Vx 1, Vr r1, Vr r2, Vr r3, Vi i4, u5, u6] [] h
    else if (bAnd (sc.2 i4.toNat) 63) = 42 then
      Ru sc (d + 1) mL_law_ 1607 [Vx 1, Vr r1, Vr r2, Vr r3, Vi i4, u5, u6] [] h
    else if (bAnd (sc.2 i4.toNat) 63) = 43 then
      Ru sc (d + 1) mL_law_ 1652 [Vx 1, Vr r1, Vr r2, Vr r3, Vi i4, u5, u6] [] h
    else if (bAnd (sc.2 i4.toNat) 63) = 44 then
      Ru sc (d + 1) mL_law_ 1697 [Vx 1, Vr r1, Vr r2, Vr r3, Vi i4, u5, u6] [] h
    else if (bAnd (sc.2 i4.toNat) 63) = 45 then
      Ru sc (d + 1) mL_law_ 1704 [Vx 1, Vr r1, Vr r2, Vr r3, Vi i4, u5, u6] [] h
    else if (bAnd (sc.2 i4.toNat) 63) = 46 then
      Ru sc (d + 1) mL_law_ 1730 [Vx 1, Vr r1, Vr r2, Vr r3, Vi i4, u5, u6] [] h
    else if (bAnd (sc.2 i4.toNat) 63) = 47 then
      Ru sc (d + 1) mL_law_ 1737 [Vx 1, Vr r1, Vr r2, Vr r3, Vi i4, u5, u6] [] h
    else if (bAnd (sc.2 i4.toNat) 63) = 48 then
      Ru sc (d + 1) mL_law_ 1744 [Vx 1, Vr r1, Vr r2, Vr r3, Vi i4, u5, u6] [] h
    else if (bAnd (sc.2 i4.toNat) 63) = 49 then
      Ru sc (d + 1) mL_law_ 1789 [Vx 1, Vr r1, Vr r2, Vr r3, Vi i4, u5, u6] [] h
    else if (bAnd (sc.2 i4.toNat) 63) = 50 then
      Ru sc (d + 1) mL_law_ 1844 [Vx 1, Vr r1, Vr r2, Vr r3, Vi i4, u5, u6] [] h
    else if (bAnd (sc.2 i4.toNat) 63) = 51 then
      Ru sc (d + 1) mL_law_ 1899 [Vx 1, Vr r1, Vr r2, Vr r3, Vi i4, u5, u6] [] h
    else if (bAnd (sc.2 i4.toNat) 63) = 52 then
      Ru sc (d + 1) mL_law_ 1954 [Vx 1, Vr r1, Vr r2, Vr r3, Vi i4, u5, u6] [] h
    else if (bAnd (sc.2 i4.toNat) 63) = 53 then
      Ru sc (d + 1) mL_law_ 1999 [Vx 1, Vr r1, Vr r2, Vr r3, Vi i4, u5, u6] [] h
    else if (bAnd (sc.2 i4.toNat) 63) = 54 then
      Ru sc (d + 1) mL_law_ 2016 [Vx 1, Vr r1, Vr r2, Vr r3, Vi i4, u5, u6] [] h
    else if (bAnd (sc.2 i4.toNat) 63) = 55 then
      Ru sc (d + 1) mL_law_ 2023 [Vx 1, Vr r1, Vr r2, Vr r3, Vi i4, u5, u6] [] h
    else if (bAnd (sc.2 i4.toNat) 63) = 56 then
      Ru sc (d + 1) mL_law_ 2028 [Vx 1, Vr r1, Vr r2, Vr r3, Vi i4, u5, u6] [] h
    else if (bAnd (sc.2 i4.toNat) 63) = 57 then
      Ru sc (d + 1) mL_law_ 2035 [Vx 1, Vr r1, Vr r2, Vr r3, Vi i4, u5, u6] [] h
    else Ru sc (d + 1) mL_law_ 2052 [Vx 1, Vr r1, Vr r2, Vr r3, Vi i4, u5, u6] [] h
    else none := (Ru_at at_L_law_ 14 _ _ _).trans rfl
set_option maxRecDepth 60000 in
theorem q_L_law__26 (sc : Nat × (Nat → Int)) (d : Nat) (r1 : Option Nat) (r2 : Option Nat) (r3 : Option Nat) (i4 : Int) (u5 : am_V) (u6 : am_V) (h : am_H) : Ru sc (d + 1) mL_law_ 26 [Vx 1, Vr r1, Vr r2, Vr r3, Vi i4, u5, u6] [] h =
  if 0 ≤ (w32 (i4 + 1)) ∧ (w32 (i4 + 1)) < sc.1 then
  if 0 ≤ (w32 (i4 + 2)) ∧ (w32 (i4 + 2)) < sc.1 then
  if 0 ≤ (w32 (i4 + 3)) ∧ (w32 (i4 + 3)) < sc.1 then
  if 0 ≤ (w32 (i4 + 4)) ∧ (w32 (i4 + 4)) < sc.1 then
  if 0 ≤ (w32 (i4 + 5)) ∧ (w32 (i4 + 5)) < sc.1 then
  am_rcv 11 h (Vr r1) (
  clI (Cl sc d mX11_feed [Vr r1, Vi (sc.2 (w32 (i4 + 1)).toNat), Vi (sc.2 (w32 (i4 + 2)).toNat), Vi (sc.2 (w32 (i4 + 3)).toNat), Vi (sc.2 (w32 (i4 + 4)).toNat), Vi (sc.2 (w32 (i4 + 5)).toNat)] h) am_xt fun v2 h1 =>
  if 0 ≤ (w32 (i4 + 1)) ∧ (w32 (i4 + 1)) < sc.1 then
  if 0 ≤ (w32 (i4 + 2)) ∧ (w32 (i4 + 2)) < sc.1 then
  if 0 ≤ (w32 (i4 + 3)) ∧ (w32 (i4 + 3)) < sc.1 then
  if 0 ≤ (w32 (i4 + 4)) ∧ (w32 (i4 + 4)) < sc.1 then
  if 0 ≤ (w32 (i4 + 5)) ∧ (w32 (i4 + 5)) < sc.1 then
  am_rcv 12 h1 (Vr r2) (
  clI (Cl sc d mX12_feed [Vr r2, Vi (sc.2 (w32 (i4 + 1)).toNat), Vi (sc.2 (w32 (i4 + 2)).toNat), Vi (sc.2 (w32 (i4 + 3)).toNat), Vi (sc.2 (w32 (i4 + 4)).toNat), Vi (sc.2 (w32 (i4 + 5)).toNat)] h1) am_xt fun v4 h3 =>
  if v2 = v4 then
    Ru sc (d + 1) mL_law_ 2052 [Vx 1, Vr r1, Vr r2, Vr r3, Vi i4, u5, u6] [] h3
  else
    some (.inl (Vi 0), h3))
  else none
  else none
  else none
  else none
  else none)
  else none
  else none
  else none
  else none
  else none := (Ru_at at_L_law_ 26 _ _ _).trans rfl
set_option maxRecDepth 60000 in
theorem q_L_law__83 (sc : Nat × (Nat → Int)) (d : Nat) (r1 : Option Nat) (r2 : Option Nat) (r3 : Option Nat) (i4 : Int) (u5 : am_V) (u6 : am_V) (h : am_H) : Ru sc (d + 1) mL_law_ 83 [Vx 1, Vr r1, Vr r2, Vr r3, Vi i4, u5, u6] [] h =
  if 0 ≤ (w32 (i4 + 1)) ∧ (w32 (i4 + 1)) < sc.1 then
  am_rcv 11 h (Vr r1) (
  clI (Cl sc d mX11_end [Vr r1, Vi (sc.2 (w32 (i4 + 1)).toNat)] h) am_xt fun v2 h1 =>
  if 0 ≤ (w32 (i4 + 1)) ∧ (w32 (i4 + 1)) < sc.1 then
  am_rcv 12 h1 (Vr r2) (
  clI (Cl sc d mX12_end [Vr r2, Vi (sc.2 (w32 (i4 + 1)).toNat)] h1) am_xt fun v4 h3 =>
  if v2 = v4 then
    Ru sc (d + 1) mL_law_ 2052 [Vx 1, Vr r1, Vr r2, Vr r3, Vi i4, u5, u6] [] h3
  else
    some (.inl (Vi 0), h3))
  else none)
  else none := (Ru_at at_L_law_ 83 _ _ _).trans rfl
set_option maxRecDepth 60000 in
theorem q_L_law__100 (sc : Nat × (Nat → Int)) (d : Nat) (r1 : Option Nat) (r2 : Option Nat) (r3 : Option Nat) (i4 : Int) (u5 : am_V) (u6 : am_V) (h : am_H) : Ru sc (d + 1) mL_law_ 100 [Vx 1, Vr r1, Vr r2, Vr r3, Vi i4, u5, u6] [] h =
  clI (Cl sc d mL_county [Vr r1, Vr r3] h) am_xt fun v2 h1 =>
  am_rcv 12 h1 (Vr r2) (
  clI (Cl sc d mX12_county [Vr r2] h1) am_xt fun v4 h3 =>
  am_rcv 12 h3 (Vr r2) (
  clI (Cl sc d mX12_thrown [Vr r2] h3) am_xt fun v6 h5 =>
  if v6 = v2 then
    if v2 = 0 then
      ldA 4 h5 r3 0 fun v7 =>
      if (if v4 < v7 then (1 : Int) else if v7 = v4 then 0 else -1) = 0 then
        Ru sc (d + 1) mL_law_ 2052 [Vx 1, Vr r1, Vr r2, Vr r3, Vi i4, Vi v2, Vi v4] [] h5
      else
        some (.inl (Vi 0), h5)
    else
      Ru sc (d + 1) mL_law_ 2052 [Vx 1, Vr r1, Vr r2, Vr r3, Vi i4, Vi v2, Vi v4] [] h5
  else
    some (.inl (Vi 0), h5))) := (Ru_at at_L_law_ 100 _ _ _).trans rfl
set_option maxRecDepth 60000 in
theorem q_L_law__125 (sc : Nat × (Nat → Int)) (d : Nat) (r1 : Option Nat) (r2 : Option Nat) (r3 : Option Nat) (i4 : Int) (u5 : am_V) (u6 : am_V) (h : am_H) : Ru sc (d + 1) mL_law_ 125 [Vx 1, Vr r1, Vr r2, Vr r3, Vi i4, u5, u6] [] h =
  clI (Cl sc d mL_law [Vr r1, Vr r3] h) am_xt fun v2 h1 =>
  am_rcv 12 h1 (Vr r2) (
  clI (Cl sc d mX12_law [Vr r2] h1) am_xt fun v4 h3 =>
  am_rcv 12 h3 (Vr r2) (
  clI (Cl sc d mX12_thrown [Vr r2] h3) am_xt fun v6 h5 =>
  if v6 = v2 then
    if v2 = 0 then
      ldA 4 h5 r3 0 fun v7 =>
      if (if v4 < v7 then (1 : Int) else if v7 = v4 then 0 else -1) = 0 then
        Ru sc (d + 1) mL_law_ 2052 [Vx 1, Vr r1, Vr r2, Vr r3, Vi i4, Vi v2, Vi v4] [] h5
      else
        some (.inl (Vi 0), h5)
    else
      Ru sc (d + 1) mL_law_ 2052 [Vx 1, Vr r1, Vr r2, Vr r3, Vi i4, Vi v2, Vi v4] [] h5
  else
    some (.inl (Vi 0), h5))) := (Ru_at at_L_law_ 125 _ _ _).trans rfl
set_option maxRecDepth 60000 in
theorem q_L_law__150 (sc : Nat × (Nat → Int)) (d : Nat) (r1 : Option Nat) (r2 : Option Nat) (r3 : Option Nat) (i4 : Int) (u5 : am_V) (u6 : am_V) (h : am_H) : Ru sc (d + 1) mL_law_ 150 [Vx 1, Vr r1, Vr r2, Vr r3, Vi i4, u5, u6] [] h =
  am_rcv 11 h (Vr r1) (
  clI (Cl sc d mX11_fault [Vr r1] h) am_xt fun v2 h1 =>
  am_rcv 12 h1 (Vr r2) (
  clI (Cl sc d mX12_fault [Vr r2] h1) am_xt fun v4 h3 =>
  if v2 = v4 then
    Ru sc (d + 1) mL_law_ 2052 [Vx 1, Vr r1, Vr r2, Vr r3, Vi i4, u5, u6] [] h3
  else
    some (.inl (Vi 0), h3))) := (Ru_at at_L_law_ 150 _ _ _).trans rfl
set_option maxRecDepth 60000 in
theorem q_L_law__157 (sc : Nat × (Nat → Int)) (d : Nat) (r1 : Option Nat) (r2 : Option Nat) (r3 : Option Nat) (i4 : Int) (u5 : am_V) (u6 : am_V) (h : am_H) : Ru sc (d + 1) mL_law_ 157 [Vx 1, Vr r1, Vr r2, Vr r3, Vi i4, u5, u6] [] h =
  if 0 ≤ (w32 (i4 + 1)) ∧ (w32 (i4 + 1)) < sc.1 then
  if 0 ≤ (w32 (i4 + 2)) ∧ (w32 (i4 + 2)) < sc.1 then
  clI (Cl sc d mL_border [Vr r1, Vi (sc.2 (w32 (i4 + 1)).toNat), Vi (sc.2 (w32 (i4 + 2)).toNat), Vr r3] h) am_xt fun v2 h1 =>
  if 0 ≤ (w32 (i4 + 1)) ∧ (w32 (i4 + 1)) < sc.1 then
  if 0 ≤ (w32 (i4 + 2)) ∧ (w32 (i4 + 2)) < sc.1 then
  am_rcv 12 h1 (Vr r2) (
  clI (Cl sc d mX12_border [Vr r2, Vi (sc.2 (w32 (i4 + 1)).toNat), Vi (sc.2 (w32 (i4 + 2)).toNat)] h1) am_xt fun v4 h3 =>
  am_rcv 12 h3 (Vr r2) (
  clI (Cl sc d mX12_thrown [Vr r2] h3) am_xt fun v6 h5 =>
  if v6 = v2 then
    if v2 = 0 then
      ldA 4 h5 r3 0 fun v7 =>
      if (if v4 < v7 then (1 : Int) else if v7 = v4 then 0 else -1) = 0 then
        Ru sc (d + 1) mL_law_ 2052 [Vx 1, Vr r1, Vr r2, Vr r3, Vi i4, Vi v2, Vi v4] [] h5
      else
        some (.inl (Vi 0), h5)
    else
      Ru sc (d + 1) mL_law_ 2052 [Vx 1, Vr r1, Vr r2, Vr r3, Vi i4, Vi v2, Vi v4] [] h5
  else
    some (.inl (Vi 0), h5)))
  else none
  else none
  else none
  else none := (Ru_at at_L_law_ 157 _ _ _).trans rfl
set_option maxRecDepth 60000 in
theorem q_L_law__202 (sc : Nat × (Nat → Int)) (d : Nat) (r1 : Option Nat) (r2 : Option Nat) (r3 : Option Nat) (i4 : Int) (u5 : am_V) (u6 : am_V) (h : am_H) : Ru sc (d + 1) mL_law_ 202 [Vx 1, Vr r1, Vr r2, Vr r3, Vi i4, u5, u6] [] h =
  if 0 ≤ (w32 (i4 + 1)) ∧ (w32 (i4 + 1)) < sc.1 then
  if 0 ≤ (w32 (i4 + 2)) ∧ (w32 (i4 + 2)) < sc.1 then
  clI (Cl sc d mL_between [Vr r1, Vi (sc.2 (w32 (i4 + 1)).toNat), Vi (sc.2 (w32 (i4 + 2)).toNat), Vr r3] h) am_xt fun v2 h1 =>
  if 0 ≤ (w32 (i4 + 1)) ∧ (w32 (i4 + 1)) < sc.1 then
  if 0 ≤ (w32 (i4 + 2)) ∧ (w32 (i4 + 2)) < sc.1 then
  am_rcv 12 h1 (Vr r2) (
  clI (Cl sc d mX12_between [Vr r2, Vi (sc.2 (w32 (i4 + 1)).toNat), Vi (sc.2 (w32 (i4 + 2)).toNat)] h1) am_xt fun v4 h3 =>
  am_rcv 12 h3 (Vr r2) (
  clI (Cl sc d mX12_thrown [Vr r2] h3) am_xt fun v6 h5 =>
  if v6 = v2 then
    if v2 = 0 then
      ldA 4 h5 r3 0 fun v7 =>
      if (if v4 < v7 then (1 : Int) else if v7 = v4 then 0 else -1) = 0 then
        Ru sc (d + 1) mL_law_ 2052 [Vx 1, Vr r1, Vr r2, Vr r3, Vi i4, Vi v2, Vi v4] [] h5
      else
        some (.inl (Vi 0), h5)
    else
      Ru sc (d + 1) mL_law_ 2052 [Vx 1, Vr r1, Vr r2, Vr r3, Vi i4, Vi v2, Vi v4] [] h5
  else
    some (.inl (Vi 0), h5)))
  else none
  else none
  else none
  else none := (Ru_at at_L_law_ 202 _ _ _).trans rfl
set_option maxRecDepth 60000 in
theorem q_L_law__247 (sc : Nat × (Nat → Int)) (d : Nat) (r1 : Option Nat) (r2 : Option Nat) (r3 : Option Nat) (i4 : Int) (u5 : am_V) (u6 : am_V) (h : am_H) : Ru sc (d + 1) mL_law_ 247 [Vx 1, Vr r1, Vr r2, Vr r3, Vi i4, u5, u6] [] h =
  if 0 ≤ (w32 (i4 + 1)) ∧ (w32 (i4 + 1)) < sc.1 then
  if 0 ≤ (w32 (i4 + 2)) ∧ (w32 (i4 + 2)) < sc.1 then
  clI (Cl sc d mL_family [Vr r1, Vi (sc.2 (w32 (i4 + 1)).toNat), Vi (sc.2 (w32 (i4 + 2)).toNat), Vr r3] h) am_xt fun v2 h1 =>
  if 0 ≤ (w32 (i4 + 1)) ∧ (w32 (i4 + 1)) < sc.1 then
  if 0 ≤ (w32 (i4 + 2)) ∧ (w32 (i4 + 2)) < sc.1 then
  am_rcv 12 h1 (Vr r2) (
  clI (Cl sc d mX12_family [Vr r2, Vi (sc.2 (w32 (i4 + 1)).toNat), Vi (sc.2 (w32 (i4 + 2)).toNat)] h1) am_xt fun v4 h3 =>
  am_rcv 12 h3 (Vr r2) (
  clI (Cl sc d mX12_thrown [Vr r2] h3) am_xt fun v6 h5 =>
  if v6 = v2 then
    if v2 = 0 then
      ldA 4 h5 r3 0 fun v7 =>
      if (if v4 < v7 then (1 : Int) else if v7 = v4 then 0 else -1) = 0 then
        Ru sc (d + 1) mL_law_ 2052 [Vx 1, Vr r1, Vr r2, Vr r3, Vi i4, Vi v2, Vi v4] [] h5
      else
        some (.inl (Vi 0), h5)
    else
      Ru sc (d + 1) mL_law_ 2052 [Vx 1, Vr r1, Vr r2, Vr r3, Vi i4, Vi v2, Vi v4] [] h5
  else
    some (.inl (Vi 0), h5)))
  else none
  else none
  else none
  else none := (Ru_at at_L_law_ 247 _ _ _).trans rfl
set_option maxRecDepth 60000 in
theorem q_L_law__292 (sc : Nat × (Nat → Int)) (d : Nat) (r1 : Option Nat) (r2 : Option Nat) (r3 : Option Nat) (i4 : Int) (u5 : am_V) (u6 : am_V) (h : am_H) : Ru sc (d + 1) mL_law_ 292 [Vx 1, Vr r1, Vr r2, Vr r3, Vi i4, u5, u6] [] h =
  if 0 ≤ (w32 (i4 + 1)) ∧ (w32 (i4 + 1)) < sc.1 then
  clI (Cl sc d mL_years [Vr r1, Vi (sc.2 (w32 (i4 + 1)).toNat), Vr r3] h) am_xt fun v2 h1 =>
  if 0 ≤ (w32 (i4 + 1)) ∧ (w32 (i4 + 1)) < sc.1 then
  am_rcv 12 h1 (Vr r2) (
  clI (Cl sc d mX12_years [Vr r2, Vi (sc.2 (w32 (i4 + 1)).toNat)] h1) am_xt fun v4 h3 =>
  am_rcv 12 h3 (Vr r2) (
  clI (Cl sc d mX12_thrown [Vr r2] h3) am_xt fun v6 h5 =>
  if v6 = v2 then
    if v2 = 0 then
      ldA 4 h5 r3 0 fun v7 =>
      if (if v4 < v7 then (1 : Int) else if v7 = v4 then 0 else -1) = 0 then
        Ru sc (d + 1) mL_law_ 2052 [Vx 1, Vr r1, Vr r2, Vr r3, Vi i4, Vi v2, Vi v4] [] h5
      else
        some (.inl (Vi 0), h5)
    else
      Ru sc (d + 1) mL_law_ 2052 [Vx 1, Vr r1, Vr r2, Vr r3, Vi i4, Vi v2, Vi v4] [] h5
  else
    some (.inl (Vi 0), h5)))
  else none
  else none := (Ru_at at_L_law_ 292 _ _ _).trans rfl
set_option maxRecDepth 60000 in
theorem q_L_law__327 (sc : Nat × (Nat → Int)) (d : Nat) (r1 : Option Nat) (r2 : Option Nat) (r3 : Option Nat) (i4 : Int) (u5 : am_V) (u6 : am_V) (h : am_H) : Ru sc (d + 1) mL_law_ 327 [Vx 1, Vr r1, Vr r2, Vr r3, Vi i4, u5, u6] [] h =
  if 0 ≤ (w32 (i4 + 1)) ∧ (w32 (i4 + 1)) < sc.1 then
  clI (Cl sc d mL_raise [Vr r1, Vi (sc.2 (w32 (i4 + 1)).toNat), Vr r3] h) am_xt fun v2 h1 =>
  if 0 ≤ (w32 (i4 + 1)) ∧ (w32 (i4 + 1)) < sc.1 then
  am_rcv 12 h1 (Vr r2) (
  clI (Cl sc d mX12_raise [Vr r2, Vi (sc.2 (w32 (i4 + 1)).toNat)] h1) am_xt fun v4 h3 =>
  am_rcv 12 h3 (Vr r2) (
  clI (Cl sc d mX12_thrown [Vr r2] h3) am_xt fun v6 h5 =>
  if v6 = v2 then
    if v2 = 0 then
      ldA 4 h5 r3 0 fun v7 =>
      if (if v4 < v7 then (1 : Int) else if v7 = v4 then 0 else -1) = 0 then
        Ru sc (d + 1) mL_law_ 2052 [Vx 1, Vr r1, Vr r2, Vr r3, Vi i4, Vi v2, Vi v4] [] h5
      else
        some (.inl (Vi 0), h5)
    else
      Ru sc (d + 1) mL_law_ 2052 [Vx 1, Vr r1, Vr r2, Vr r3, Vi i4, Vi v2, Vi v4] [] h5
  else
    some (.inl (Vi 0), h5)))
  else none
  else none := (Ru_at at_L_law_ 327 _ _ _).trans rfl
set_option maxRecDepth 60000 in
theorem q_L_law__362 (sc : Nat × (Nat → Int)) (d : Nat) (r1 : Option Nat) (r2 : Option Nat) (r3 : Option Nat) (i4 : Int) (u5 : am_V) (u6 : am_V) (h : am_H) : Ru sc (d + 1) mL_law_ 362 [Vx 1, Vr r1, Vr r2, Vr r3, Vi i4, u5, u6] [] h =
  if 0 ≤ (w32 (i4 + 1)) ∧ (w32 (i4 + 1)) < sc.1 then
  clI (Cl sc d mL_pull [Vr r1, Vi (sc.2 (w32 (i4 + 1)).toNat), Vr r3] h) am_xt fun v2 h1 =>
  if 0 ≤ (w32 (i4 + 1)) ∧ (w32 (i4 + 1)) < sc.1 then
  am_rcv 12 h1 (Vr r2) (
  clI (Cl sc d mX12_pull [Vr r2, Vi (sc.2 (w32 (i4 + 1)).toNat)] h1) am_xt fun v4 h3 =>
  am_rcv 12 h3 (Vr r2) (
  clI (Cl sc d mX12_thrown [Vr r2] h3) am_xt fun v6 h5 =>
  if v6 = v2 then
    if v2 = 0 then
      ldA 4 h5 r3 0 fun v7 =>
      if (if v4 < v7 then (1 : Int) else if v7 = v4 then 0 else -1) = 0 then
        Ru sc (d + 1) mL_law_ 2052 [Vx 1, Vr r1, Vr r2, Vr r3, Vi i4, Vi v2, Vi v4] [] h5
      else
        some (.inl (Vi 0), h5)
    else
      Ru sc (d + 1) mL_law_ 2052 [Vx 1, Vr r1, Vr r2, Vr r3, Vi i4, Vi v2, Vi v4] [] h5
  else
    some (.inl (Vi 0), h5)))
  else none
  else none := (Ru_at at_L_law_ 362 _ _ _).trans rfl
set_option maxRecDepth 60000 in
theorem q_L_law__397 (sc : Nat × (Nat → Int)) (d : Nat) (r1 : Option Nat) (r2 : Option Nat) (r3 : Option Nat) (i4 : Int) (u5 : am_V) (u6 : am_V) (h : am_H) : Ru sc (d + 1) mL_law_ 397 [Vx 1, Vr r1, Vr r2, Vr r3, Vi i4, u5, u6] [] h =
  if 0 ≤ (w32 (i4 + 1)) ∧ (w32 (i4 + 1)) < sc.1 then
  if 0 ≤ (w32 (i4 + 2)) ∧ (w32 (i4 + 2)) < sc.1 then
  if (sc.2 (w32 (i4 + 2)).toNat) = 0 then
    Ru sc (d + 1) mL_law_ 413 [Vx 1, Vr r1, Vr r2, Vr r3, Vi i4, u5, u6] [Vi 0, Vi (sc.2 (w32 (i4 + 1)).toNat), Vr r1] h
  else
    Ru sc (d + 1) mL_law_ 413 [Vx 1, Vr r1, Vr r2, Vr r3, Vi i4, u5, u6] [Vi 1, Vi (sc.2 (w32 (i4 + 1)).toNat), Vr r1] h
  else none
  else none := (Ru_at at_L_law_ 397 _ _ _).trans rfl
set_option maxRecDepth 60000 in
theorem q_L_law__413 (sc : Nat × (Nat → Int)) (d : Nat) (r1 : Option Nat) (r2 : Option Nat) (r3 : Option Nat) (i4 : Int) (u5 : am_V) (u6 : am_V) (ti0 : Int) (ti1 : Int) (tr2 : Option Nat) (h : am_H) : Ru sc (d + 1) mL_law_ 413 [Vx 1, Vr r1, Vr r2, Vr r3, Vi i4, u5, u6] [Vi ti0, Vi ti1, Vr tr2] h =
  clI (Cl sc d mL_gate [Vr tr2, Vi ti1, Vi ti0, Vr r3] h) am_xt fun v2 h1 =>
  if 0 ≤ (w32 (i4 + 1)) ∧ (w32 (i4 + 1)) < sc.1 then
  if 0 ≤ (w32 (i4 + 2)) ∧ (w32 (i4 + 2)) < sc.1 then
  if (sc.2 (w32 (i4 + 2)).toNat) = 0 then
    Ru sc (d + 1) mL_law_ 432 [Vx 1, Vr r1, Vr r2, Vr r3, Vi i4, Vi v2, u6] [Vi 0, Vi (sc.2 (w32 (i4 + 1)).toNat), Vr r2] h1
  else
    Ru sc (d + 1) mL_law_ 432 [Vx 1, Vr r1, Vr r2, Vr r3, Vi i4, Vi v2, u6] [Vi 1, Vi (sc.2 (w32 (i4 + 1)).toNat), Vr r2] h1
  else none
  else none := (Ru_at at_L_law_ 413 _ _ _).trans rfl
set_option maxRecDepth 60000 in
theorem q_L_law__432 (sc : Nat × (Nat → Int)) (d : Nat) (r1 : Option Nat) (r2 : Option Nat) (r3 : Option Nat) (i4 : Int) (i5 : Int) (u6 : am_V) (ti0 : Int) (ti1 : Int) (tr2 : Option Nat) (h : am_H) : Ru sc (d + 1) mL_law_ 432 [Vx 1, Vr r1, Vr r2, Vr r3, Vi i4, Vi i5, u6] [Vi ti0, Vi ti1, Vr tr2] h =
  am_rcv 12 h (Vr tr2) (
  clI (Cl sc d mX12_gate [Vr tr2, Vi ti1, Vi ti0] h) am_xt fun v2 h1 =>
  am_rcv 12 h1 (Vr r2) (
  clI (Cl sc d mX12_thrown [Vr r2] h1) am_xt fun v4 h3 =>
  if v4 = i5 then
    if i5 = 0 then
      ldA 4 h3 r3 0 fun v5 =>
      if v2 = 0 then
        if (if 0 < v5 then (1 : Int) else if v5 = 0 then 0 else -1) = 0 then
          Ru sc (d + 1) mL_law_ 2052 [Vx 1, Vr r1, Vr r2, Vr r3, Vi i4, Vi i5, Vi v2] [] h3
        else
          some (.inl (Vi 0), h3)
      else
        if (if 1 < v5 then (1 : Int) else if v5 = 1 then 0 else -1) = 0 then
          Ru sc (d + 1) mL_law_ 2052 [Vx 1, Vr r1, Vr r2, Vr r3, Vi i4, Vi i5, Vi v2] [] h3
        else
          some (.inl (Vi 0), h3)
    else
      Ru sc (d + 1) mL_law_ 2052 [Vx 1, Vr r1, Vr r2, Vr r3, Vi i4, Vi i5, Vi v2] [] h3
  else
    some (.inl (Vi 0), h3))) := (Ru_at at_L_law_ 432 _ _ _).trans rfl
set_option maxRecDepth 60000 in
theorem q_L_law__455 (sc : Nat × (Nat → Int)) (d : Nat) (r1 : Option Nat) (r2 : Option Nat) (r3 : Option Nat) (i4 : Int) (u5 : am_V) (u6 : am_V) (h : am_H) : Ru sc (d + 1) mL_law_ 455 [Vx 1, Vr r1, Vr r2, Vr r3, Vi i4, u5, u6] [] h =
  if 0 ≤ (w32 (i4 + 1)) ∧ (w32 (i4 + 1)) < sc.1 then
  if 0 ≤ (w32 (i4 + 2)) ∧ (w32 (i4 + 2)) < sc.1 then
  if (sc.2 (w32 (i4 + 2)).toNat) = 0 then
    Ru sc (d + 1) mL_law_ 471 [Vx 1, Vr r1, Vr r2, Vr r3, Vi i4, u5, u6] [Vi 0, Vi (sc.2 (w32 (i4 + 1)).toNat), Vr r1] h
  else
    Ru sc (d + 1) mL_law_ 471 [Vx 1, Vr r1, Vr r2, Vr r3, Vi i4, u5, u6] [Vi 1, Vi (sc.2 (w32 (i4 + 1)).toNat), Vr r1] h
  else none
  else none := (Ru_at at_L_law_ 455 _ _ _).trans rfl
set_option maxRecDepth 60000 in
theorem q_L_law__471 (sc : Nat × (Nat → Int)) (d : Nat) (r1 : Option Nat) (r2 : Option Nat) (r3 : Option Nat) (i4 : Int) (u5 : am_V) (u6 : am_V) (ti0 : Int) (ti1 : Int) (tr2 : Option Nat) (h : am_H) : Ru sc (d + 1) mL_law_ 471 [Vx 1, Vr r1, Vr r2, Vr r3, Vi i4, u5, u6] [Vi ti0, Vi ti1, Vr tr2] h =
  clI (Cl sc d mL_string [Vr tr2, Vi ti1, Vi ti0, Vr r3] h) am_xt fun v2 h1 =>
  if 0 ≤ (w32 (i4 + 1)) ∧ (w32 (i4 + 1)) < sc.1 then
  if 0 ≤ (w32 (i4 + 2)) ∧ (w32 (i4 + 2)) < sc.1 then
  if (sc.2 (w32 (i4 + 2)).toNat) = 0 then
    Ru sc (d + 1) mL_law_ 490 [Vx 1, Vr r1, Vr r2, Vr r3, Vi i4, Vi v2, u6] [Vi 0, Vi (sc.2 (w32 (i4 + 1)).toNat), Vr r2] h1
  else
    Ru sc (d + 1) mL_law_ 490 [Vx 1, Vr r1, Vr r2, Vr r3, Vi i4, Vi v2, u6] [Vi 1, Vi (sc.2 (w32 (i4 + 1)).toNat), Vr r2] h1
  else none
  else none := (Ru_at at_L_law_ 471 _ _ _).trans rfl
set_option maxRecDepth 60000 in
theorem q_L_law__490 (sc : Nat × (Nat → Int)) (d : Nat) (r1 : Option Nat) (r2 : Option Nat) (r3 : Option Nat) (i4 : Int) (i5 : Int) (u6 : am_V) (ti0 : Int) (ti1 : Int) (tr2 : Option Nat) (h : am_H) : Ru sc (d + 1) mL_law_ 490 [Vx 1, Vr r1, Vr r2, Vr r3, Vi i4, Vi i5, u6] [Vi ti0, Vi ti1, Vr tr2] h =
  am_rcv 12 h (Vr tr2) (
  clI (Cl sc d mX12_string [Vr tr2, Vi ti1, Vi ti0] h) am_xt fun v2 h1 =>
  am_rcv 12 h1 (Vr r2) (
  clI (Cl sc d mX12_thrown [Vr r2] h1) am_xt fun v4 h3 =>
  if v4 = i5 then
    if i5 = 0 then
      ldA 4 h3 r3 0 fun v5 =>
      if v2 = 0 then
        if (if 0 < v5 then (1 : Int) else if v5 = 0 then 0 else -1) = 0 then
          Ru sc (d + 1) mL_law_ 2052 [Vx 1, Vr r1, Vr r2, Vr r3, Vi i4, Vi i5, Vi v2] [] h3
        else
          some (.inl (Vi 0), h3)
      else
        if (if 1 < v5 then (1 : Int) else if v5 = 1 then 0 else -1) = 0 then
          Ru sc (d + 1) mL_law_ 2052 [Vx 1, Vr r1, Vr r2, Vr r3, Vi i4, Vi i5, Vi v2] [] h3
        else
          some (.inl (Vi 0), h3)
    else
      Ru sc (d + 1) mL_law_ 2052 [Vx 1, Vr r1, Vr r2, Vr r3, Vi i4, Vi i5, Vi v2] [] h3
  else
    some (.inl (Vi 0), h3))) := (Ru_at at_L_law_ 490 _ _ _).trans rfl
set_option maxRecDepth 60000 in
theorem q_L_law__513 (sc : Nat × (Nat → Int)) (d : Nat) (r1 : Option Nat) (r2 : Option Nat) (r3 : Option Nat) (i4 : Int) (u5 : am_V) (u6 : am_V) (h : am_H) : Ru sc (d + 1) mL_law_ 513 [Vx 1, Vr r1, Vr r2, Vr r3, Vi i4, u5, u6] [] h =
  if 0 ≤ (w32 (i4 + 1)) ∧ (w32 (i4 + 1)) < sc.1 then
  if 0 ≤ (w32 (i4 + 2)) ∧ (w32 (i4 + 2)) < sc.1 then
  clI (Cl sc d mL_again [Vr r1, Vi (sc.2 (w32 (i4 + 1)).toNat), Vi (sc.2 (w32 (i4 + 2)).toNat), Vr r3] h) am_xt fun v2 h1 =>
  if 0 ≤ (w32 (i4 + 1)) ∧ (w32 (i4 + 1)) < sc.1 then
  if 0 ≤ (w32 (i4 + 2)) ∧ (w32 (i4 + 2)) < sc.1 then
  am_rcv 12 h1 (Vr r2) (
  clI (Cl sc d mX12_again [Vr r2, Vi (sc.2 (w32 (i4 + 1)).toNat), Vi (sc.2 (w32 (i4 + 2)).toNat)] h1) am_xt fun v4 h3 =>
  am_rcv 12 h3 (Vr r2) (
  clI (Cl sc d mX12_thrown [Vr r2] h3) am_xt fun v6 h5 =>
  if v6 = v2 then
    if v2 = 0 then
      ldA 4 h5 r3 0 fun v7 =>
      if (if v4 < v7 then (1 : Int) else if v7 = v4 then 0 else -1) = 0 then
        Ru sc (d + 1) mL_law_ 2052 [Vx 1, Vr r1, Vr r2, Vr r3, Vi i4, Vi v2, Vi v4] [] h5
      else
        some (.inl (Vi 0), h5)
    else
      Ru sc (d + 1) mL_law_ 2052 [Vx 1, Vr r1, Vr r2, Vr r3, Vi i4, Vi v2, Vi v4] [] h5
  else
    some (.inl (Vi 0), h5)))
  else none
  else none
  else none
  else none := (Ru_at at_L_law_ 513 _ _ _).trans rfl
set_option maxRecDepth 60000 in
theorem q_L_law__558 (sc : Nat × (Nat → Int)) (d : Nat) (r1 : Option Nat) (r2 : Option Nat) (r3 : Option Nat) (i4 : Int) (u5 : am_V) (u6 : am_V) (h : am_H) : Ru sc (d + 1) mL_law_ 558 [Vx 1, Vr r1, Vr r2, Vr r3, Vi i4, u5, u6] [] h =
  if 0 ≤ (w32 (i4 + 1)) ∧ (w32 (i4 + 1)) < sc.1 then
  clI (Cl sc d mL_forgive [Vr r1, Vi (sc.2 (w32 (i4 + 1)).toNat), Vr r3] h) am_xt fun v2 h1 =>
  if 0 ≤ (w32 (i4 + 1)) ∧ (w32 (i4 + 1)) < sc.1 then
  am_rcv 12 h1 (Vr r2) (
  clI (Cl sc d mX12_forgive [Vr r2, Vi (sc.2 (w32 (i4 + 1)).toNat)] h1) am_xt fun v4 h3 =>
  am_rcv 12 h3 (Vr r2) (
  clI (Cl sc d mX12_thrown [Vr r2] h3) am_xt fun v6 h5 =>
  if v6 = v2 then
    if v2 = 0 then
      ldA 4 h5 r3 0 fun v7 =>
      if (if v4 < v7 then (1 : Int) else if v7 = v4 then 0 else -1) = 0 then
        Ru sc (d + 1) mL_law_ 2052 [Vx 1, Vr r1, Vr r2, Vr r3, Vi i4, Vi v2, Vi v4] [] h5
      else
        some (.inl (Vi 0), h5)
    else
      Ru sc (d + 1) mL_law_ 2052 [Vx 1, Vr r1, Vr r2, Vr r3, Vi i4, Vi v2, Vi v4] [] h5
  else
    some (.inl (Vi 0), h5)))
  else none
  else none := (Ru_at at_L_law_ 558 _ _ _).trans rfl
set_option maxRecDepth 60000 in
theorem q_L_law__593 (sc : Nat × (Nat → Int)) (d : Nat) (r1 : Option Nat) (r2 : Option Nat) (r3 : Option Nat) (i4 : Int) (u5 : am_V) (u6 : am_V) (h : am_H) : Ru sc (d + 1) mL_law_ 593 [Vx 1, Vr r1, Vr r2, Vr r3, Vi i4, u5, u6] [] h =
  if 0 ≤ (w32 (i4 + 1)) ∧ (w32 (i4 + 1)) < sc.1 then
  if 0 ≤ (w32 (i4 + 2)) ∧ (w32 (i4 + 2)) < sc.1 then
  clI (Cl sc d mL_move [Vr r1, Vi (sc.2 (w32 (i4 + 1)).toNat), Vi (sc.2 (w32 (i4 + 2)).toNat), Vr r3] h) am_xt fun v2 h1 =>
  if 0 ≤ (w32 (i4 + 1)) ∧ (w32 (i4 + 1)) < sc.1 then
  if 0 ≤ (w32 (i4 + 2)) ∧ (w32 (i4 + 2)) < sc.1 then
  am_rcv 12 h1 (Vr r2) (
  clI (Cl sc d mX12_move [Vr r2, Vi (sc.2 (w32 (i4 + 1)).toNat), Vi (sc.2 (w32 (i4 + 2)).toNat)] h1) am_xt fun v4 h3 =>
  am_rcv 12 h3 (Vr r2) (
  clI (Cl sc d mX12_thrown [Vr r2] h3) am_xt fun v6 h5 =>
  if v6 = v2 then
    if v2 = 0 then
      ldA 4 h5 r3 0 fun v7 =>
      if (if v4 < v7 then (1 : Int) else if v7 = v4 then 0 else -1) = 0 then
        Ru sc (d + 1) mL_law_ 2052 [Vx 1, Vr r1, Vr r2, Vr r3, Vi i4, Vi v2, Vi v4] [] h5
      else
        some (.inl (Vi 0), h5)
    else
      Ru sc (d + 1) mL_law_ 2052 [Vx 1, Vr r1, Vr r2, Vr r3, Vi i4, Vi v2, Vi v4] [] h5
  else
    some (.inl (Vi 0), h5)))
  else none
  else none
  else none
  else none := (Ru_at at_L_law_ 593 _ _ _).trans rfl
set_option maxRecDepth 60000 in
theorem q_L_law__638 (sc : Nat × (Nat → Int)) (d : Nat) (r1 : Option Nat) (r2 : Option Nat) (r3 : Option Nat) (i4 : Int) (u5 : am_V) (u6 : am_V) (h : am_H) : Ru sc (d + 1) mL_law_ 638 [Vx 1, Vr r1, Vr r2, Vr r3, Vi i4, u5, u6] [] h =
  if 0 ≤ (w32 (i4 + 1)) ∧ (w32 (i4 + 1)) < sc.1 then
  if 0 ≤ (w32 (i4 + 2)) ∧ (w32 (i4 + 2)) < sc.1 then
  clI (Cl sc d mL_learn [Vr r1, Vi (sc.2 (w32 (i4 + 1)).toNat), Vi (sc.2 (w32 (i4 + 2)).toNat), Vr r3] h) am_xt fun v2 h1 =>
  if 0 ≤ (w32 (i4 + 1)) ∧ (w32 (i4 + 1)) < sc.1 then
  if 0 ≤ (w32 (i4 + 2)) ∧ (w32 (i4 + 2)) < sc.1 then
  am_rcv 12 h1 (Vr r2) (
  clI (Cl sc d mX12_learn [Vr r2, Vi (sc.2 (w32 (i4 + 1)).toNat), Vi (sc.2 (w32 (i4 + 2)).toNat)] h1) am_xt fun v4 h3 =>
  am_rcv 12 h3 (Vr r2) (
  clI (Cl sc d mX12_thrown [Vr r2] h3) am_xt fun v6 h5 =>
  if v6 = v2 then
    if v2 = 0 then
      ldA 4 h5 r3 0 fun v7 =>
      if (if v4 < v7 then (1 : Int) else if v7 = v4 then 0 else -1) = 0 then
        Ru sc (d + 1) mL_law_ 2052 [Vx 1, Vr r1, Vr r2, Vr r3, Vi i4, Vi v2, Vi v4] [] h5
      else
        some (.inl (Vi 0), h5)
    else
      Ru sc (d + 1) mL_law_ 2052 [Vx 1, Vr r1, Vr r2, Vr r3, Vi i4, Vi v2, Vi v4] [] h5
  else
    some (.inl (Vi 0), h5)))
  else none
  else none
  else none
  else none := (Ru_at at_L_law_ 638 _ _ _).trans rfl
set_option maxRecDepth 60000 in
theorem q_L_law__683 (sc : Nat × (Nat → Int)) (d : Nat) (r1 : Option Nat) (r2 : Option Nat) (r3 : Option Nat) (i4 : Int) (u5 : am_V) (u6 : am_V) (h : am_H) : Ru sc (d + 1) mL_law_ 683 [Vx 1, Vr r1, Vr r2, Vr r3, Vi i4, u5, u6] [] h =
  if 0 ≤ (w32 (i4 + 1)) ∧ (w32 (i4 + 1)) < sc.1 then
  if 0 ≤ (w32 (i4 + 2)) ∧ (w32 (i4 + 2)) < sc.1 then
  clI (Cl sc d mL_open [Vr r1, Vi (sc.2 (w32 (i4 + 1)).toNat), Vi (sc.2 (w32 (i4 + 2)).toNat), Vr r3] h) am_xt fun v2 h1 =>
  if 0 ≤ (w32 (i4 + 1)) ∧ (w32 (i4 + 1)) < sc.1 then
  if 0 ≤ (w32 (i4 + 2)) ∧ (w32 (i4 + 2)) < sc.1 then
  am_rcv 12 h1 (Vr r2) (
  clI (Cl sc d mX12_open [Vr r2, Vi (sc.2 (w32 (i4 + 1)).toNat), Vi (sc.2 (w32 (i4 + 2)).toNat)] h1) am_xt fun v4 h3 =>
  am_rcv 12 h3 (Vr r2) (
  clI (Cl sc d mX12_thrown [Vr r2] h3) am_xt fun v6 h5 =>
  if v6 = v2 then
    if v2 = 0 then
      ldA 4 h5 r3 0 fun v7 =>
      if v4 = 0 then
        if (if 0 < v7 then (1 : Int) else if v7 = 0 then 0 else -1) = 0 then
          Ru sc (d + 1) mL_law_ 2052 [Vx 1, Vr r1, Vr r2, Vr r3, Vi i4, Vi v2, Vi v4] [] h5
        else
          some (.inl (Vi 0), h5)
      else
        if (if 1 < v7 then (1 : Int) else if v7 = 1 then 0 else -1) = 0 then
          Ru sc (d + 1) mL_law_ 2052 [Vx 1, Vr r1, Vr r2, Vr r3, Vi i4, Vi v2, Vi v4] [] h5
        else
          some (.inl (Vi 0), h5)
    else
      Ru sc (d + 1) mL_law_ 2052 [Vx 1, Vr r1, Vr r2, Vr r3, Vi i4, Vi v2, Vi v4] [] h5
  else
    some (.inl (Vi 0), h5)))
  else none
  else none
  else none
  else none := (Ru_at at_L_law_ 683 _ _ _).trans rfl
set_option maxRecDepth 60000 in
theorem q_L_law__731 (sc : Nat × (Nat → Int)) (d : Nat) (r1 : Option Nat) (r2 : Option Nat) (r3 : Option Nat) (i4 : Int) (u5 : am_V) (u6 : am_V) (h : am_H) : Ru sc (d + 1) mL_law_ 731 [Vx 1, Vr r1, Vr r2, Vr r3, Vi i4, u5, u6] [] h =
  if 0 ≤ (w32 (i4 + 1)) ∧ (w32 (i4 + 1)) < sc.1 then
  if 0 ≤ (w32 (i4 + 2)) ∧ (w32 (i4 + 2)) < sc.1 then
  clI (Cl sc d mL_far [Vr r1, Vi (sc.2 (w32 (i4 + 1)).toNat), Vi (sc.2 (w32 (i4 + 2)).toNat), Vr r3] h) am_xt fun v2 h1 =>
  if 0 ≤ (w32 (i4 + 1)) ∧ (w32 (i4 + 1)) < sc.1 then
  if 0 ≤ (w32 (i4 + 2)) ∧ (w32 (i4 + 2)) < sc.1 then
  am_rcv 12 h1 (Vr r2) (
  clI (Cl sc d mX12_far [Vr r2, Vi (sc.2 (w32 (i4 + 1)).toNat), Vi (sc.2 (w32 (i4 + 2)).toNat)] h1) am_xt fun v4 h3 =>
  am_rcv 12 h3 (Vr r2) (
  clI (Cl sc d mX12_thrown [Vr r2] h3) am_xt fun v6 h5 =>
  if v6 = v2 then
    if v2 = 0 then
      ldA 4 h5 r3 0 fun v7 =>
      if (if v4 < v7 then (1 : Int) else if v7 = v4 then 0 else -1) = 0 then
        Ru sc (d + 1) mL_law_ 2052 [Vx 1, Vr r1, Vr r2, Vr r3, Vi i4, Vi v2, Vi v4] [] h5
      else
        some (.inl (Vi 0), h5)
    else
      Ru sc (d + 1) mL_law_ 2052 [Vx 1, Vr r1, Vr r2, Vr r3, Vi i4, Vi v2, Vi v4] [] h5
  else
    some (.inl (Vi 0), h5)))
  else none
  else none
  else none
  else none := (Ru_at at_L_law_ 731 _ _ _).trans rfl
set_option maxRecDepth 60000 in
theorem q_L_law__776 (sc : Nat × (Nat → Int)) (d : Nat) (r1 : Option Nat) (r2 : Option Nat) (r3 : Option Nat) (i4 : Int) (u5 : am_V) (u6 : am_V) (h : am_H) : Ru sc (d + 1) mL_law_ 776 [Vx 1, Vr r1, Vr r2, Vr r3, Vi i4, u5, u6] [] h =
  if 0 ≤ (w32 (i4 + 1)) ∧ (w32 (i4 + 1)) < sc.1 then
  if 0 ≤ (w32 (i4 + 2)) ∧ (w32 (i4 + 2)) < sc.1 then
  clI (Cl sc d mL_meet [Vr r1, Vi (sc.2 (w32 (i4 + 1)).toNat), Vi (sc.2 (w32 (i4 + 2)).toNat), Vr r3] h) am_xt fun v2 h1 =>
  if 0 ≤ (w32 (i4 + 1)) ∧ (w32 (i4 + 1)) < sc.1 then
  if 0 ≤ (w32 (i4 + 2)) ∧ (w32 (i4 + 2)) < sc.1 then
  am_rcv 12 h1 (Vr r2) (
  clI (Cl sc d mX12_meet [Vr r2, Vi (sc.2 (w32 (i4 + 1)).toNat), Vi (sc.2 (w32 (i4 + 2)).toNat)] h1) am_xt fun v4 h3 =>
  am_rcv 12 h3 (Vr r2) (
  clI (Cl sc d mX12_thrown [Vr r2] h3) am_xt fun v6 h5 =>
  if v6 = v2 then
    if v2 = 0 then
      ldA 4 h5 r3 0 fun v7 =>
      if v4 = 0 then
        if (if 0 < v7 then (1 : Int) else if v7 = 0 then 0 else -1) = 0 then
          Ru sc (d + 1) mL_law_ 2052 [Vx 1, Vr r1, Vr r2, Vr r3, Vi i4, Vi v2, Vi v4] [] h5
        else
          some (.inl (Vi 0), h5)
      else
        if (if 1 < v7 then (1 : Int) else if v7 = 1 then 0 else -1) = 0 then
          Ru sc (d + 1) mL_law_ 2052 [Vx 1, Vr r1, Vr r2, Vr r3, Vi i4, Vi v2, Vi v4] [] h5
        else
          some (.inl (Vi 0), h5)
    else
      Ru sc (d + 1) mL_law_ 2052 [Vx 1, Vr r1, Vr r2, Vr r3, Vi i4, Vi v2, Vi v4] [] h5
  else
    some (.inl (Vi 0), h5)))
  else none
  else none
  else none
  else none := (Ru_at at_L_law_ 776 _ _ _).trans rfl
set_option maxRecDepth 60000 in
theorem q_L_law__824 (sc : Nat × (Nat → Int)) (d : Nat) (r1 : Option Nat) (r2 : Option Nat) (r3 : Option Nat) (i4 : Int) (u5 : am_V) (u6 : am_V) (h : am_H) : Ru sc (d + 1) mL_law_ 824 [Vx 1, Vr r1, Vr r2, Vr r3, Vi i4, u5, u6] [] h =
  if 0 ≤ (w32 (i4 + 1)) ∧ (w32 (i4 + 1)) < sc.1 then
  if 0 ≤ (w32 (i4 + 2)) ∧ (w32 (i4 + 2)) < sc.1 then
  clI (Cl sc d mL_halfway [Vr r1, Vi (sc.2 (w32 (i4 + 1)).toNat), Vi (sc.2 (w32 (i4 + 2)).toNat), Vr r3] h) am_xt fun v2 h1 =>
  if 0 ≤ (w32 (i4 + 1)) ∧ (w32 (i4 + 1)) < sc.1 then
  if 0 ≤ (w32 (i4 + 2)) ∧ (w32 (i4 + 2)) < sc.1 then
  am_rcv 12 h1 (Vr r2) (
  clI (Cl sc d mX12_halfway [Vr r2, Vi (sc.2 (w32 (i4 + 1)).toNat), Vi (sc.2 (w32 (i4 + 2)).toNat)] h1) am_xt fun v4 h3 =>
  am_rcv 12 h3 (Vr r2) (
  clI (Cl sc d mX12_thrown [Vr r2] h3) am_xt fun v6 h5 =>
  if v6 = v2 then
    if v2 = 0 then
      ldA 4 h5 r3 0 fun v7 =>
      if (if v4 < v7 then (1 : Int) else if v7 = v4 then 0 else -1) = 0 then
        Ru sc (d + 1) mL_law_ 2052 [Vx 1, Vr r1, Vr r2, Vr r3, Vi i4, Vi v2, Vi v4] [] h5
      else
        some (.inl (Vi 0), h5)
    else
      Ru sc (d + 1) mL_law_ 2052 [Vx 1, Vr r1, Vr r2, Vr r3, Vi i4, Vi v2, Vi v4] [] h5
  else
    some (.inl (Vi 0), h5)))
  else none
  else none
  else none
  else none := (Ru_at at_L_law_ 824 _ _ _).trans rfl
set_option maxRecDepth 60000 in
theorem q_L_law__869 (sc : Nat × (Nat → Int)) (d : Nat) (r1 : Option Nat) (r2 : Option Nat) (r3 : Option Nat) (i4 : Int) (u5 : am_V) (u6 : am_V) (h : am_H) : Ru sc (d + 1) mL_law_ 869 [Vx 1, Vr r1, Vr r2, Vr r3, Vi i4, u5, u6] [] h =
  if 0 ≤ (w32 (i4 + 1)) ∧ (w32 (i4 + 1)) < sc.1 then
  if 0 ≤ (w32 (i4 + 2)) ∧ (w32 (i4 + 2)) < sc.1 then
  clI (Cl sc d mL_sees [Vr r1, Vi (sc.2 (w32 (i4 + 1)).toNat), Vi (sc.2 (w32 (i4 + 2)).toNat), Vr r3] h) am_xt fun v2 h1 =>
  if 0 ≤ (w32 (i4 + 1)) ∧ (w32 (i4 + 1)) < sc.1 then
  if 0 ≤ (w32 (i4 + 2)) ∧ (w32 (i4 + 2)) < sc.1 then
  am_rcv 12 h1 (Vr r2) (
  clI (Cl sc d mX12_sees [Vr r2, Vi (sc.2 (w32 (i4 + 1)).toNat), Vi (sc.2 (w32 (i4 + 2)).toNat)] h1) am_xt fun v4 h3 =>
  am_rcv 12 h3 (Vr r2) (
  clI (Cl sc d mX12_thrown [Vr r2] h3) am_xt fun v6 h5 =>
  if v6 = v2 then
    if v2 = 0 then
      ldA 4 h5 r3 0 fun v7 =>
      if v4 = 0 then
        if (if 0 < v7 then (1 : Int) else if v7 = 0 then 0 else -1) = 0 then
          Ru sc (d + 1) mL_law_ 2052 [Vx 1, Vr r1, Vr r2, Vr r3, Vi i4, Vi v2, Vi v4] [] h5
        else
          some (.inl (Vi 0), h5)
      else
        if (if 1 < v7 then (1 : Int) else if v7 = 1 then 0 else -1) = 0 then
          Ru sc (d + 1) mL_law_ 2052 [Vx 1, Vr r1, Vr r2, Vr r3, Vi i4, Vi v2, Vi v4] [] h5
        else
          some (.inl (Vi 0), h5)
    else
      Ru sc (d + 1) mL_law_ 2052 [Vx 1, Vr r1, Vr r2, Vr r3, Vi i4, Vi v2, Vi v4] [] h5
  else
    some (.inl (Vi 0), h5)))
  else none
  else none
  else none
  else none := (Ru_at at_L_law_ 869 _ _ _).trans rfl
set_option maxRecDepth 60000 in
theorem q_L_law__917 (sc : Nat × (Nat → Int)) (d : Nat) (r1 : Option Nat) (r2 : Option Nat) (r3 : Option Nat) (i4 : Int) (u5 : am_V) (u6 : am_V) (h : am_H) : Ru sc (d + 1) mL_law_ 917 [Vx 1, Vr r1, Vr r2, Vr r3, Vi i4, u5, u6] [] h =
  am_rcv 11 h (Vr r1) (
  clI (Cl sc d mX11_waves [Vr r1] h) am_xt fun v2 h1 =>
  am_rcv 12 h1 (Vr r2) (
  clI (Cl sc d mX12_waves [Vr r2] h1) am_xt fun v4 h3 =>
  if v2 = v4 then
    Ru sc (d + 1) mL_law_ 2052 [Vx 1, Vr r1, Vr r2, Vr r3, Vi i4, u5, u6] [] h3
  else
    some (.inl (Vi 0), h3))) := (Ru_at at_L_law_ 917 _ _ _).trans rfl
set_option maxRecDepth 60000 in
theorem q_L_law__924 (sc : Nat × (Nat → Int)) (d : Nat) (r1 : Option Nat) (r2 : Option Nat) (r3 : Option Nat) (i4 : Int) (u5 : am_V) (u6 : am_V) (h : am_H) : Ru sc (d + 1) mL_law_ 924 [Vx 1, Vr r1, Vr r2, Vr r3, Vi i4, u5, u6] [] h =
  am_rcv 11 h (Vr r1) (
  clI (Cl sc d mX11_hidden [Vr r1] h) am_xt fun v2 h1 =>
  am_rcv 12 h1 (Vr r2) (
  clI (Cl sc d mX12_hidden [Vr r2] h1) am_xt fun v4 h3 =>
  if v2 = v4 then
    Ru sc (d + 1) mL_law_ 2052 [Vx 1, Vr r1, Vr r2, Vr r3, Vi i4, u5, u6] [] h3
  else
    some (.inl (Vi 0), h3))) := (Ru_at at_L_law_ 924 _ _ _).trans rfl
set_option maxRecDepth 60000 in
theorem q_L_law__931 (sc : Nat × (Nat → Int)) (d : Nat) (r1 : Option Nat) (r2 : Option Nat) (r3 : Option Nat) (i4 : Int) (u5 : am_V) (u6 : am_V) (h : am_H) : Ru sc (d + 1) mL_law_ 931 [Vx 1, Vr r1, Vr r2, Vr r3, Vi i4, u5, u6] [] h =
  if 0 ≤ (w32 (i4 + 1)) ∧ (w32 (i4 + 1)) < sc.1 then
  if 0 ≤ (w32 (i4 + 2)) ∧ (w32 (i4 + 2)) < sc.1 then
  if 0 ≤ (w32 (i4 + 3)) ∧ (w32 (i4 + 3)) < sc.1 then
  clI (Cl sc d mL_pulls [Vr r1, Vi (sc.2 (w32 (i4 + 1)).toNat), Vi (sc.2 (w32 (i4 + 2)).toNat), Vi (sc.2 (w32 (i4 + 3)).toNat), Vr r3] h) am_xt fun v2 h1 =>
  if 0 ≤ (w32 (i4 + 1)) ∧ (w32 (i4 + 1)) < sc.1 then
  if 0 ≤ (w32 (i4 + 2)) ∧ (w32 (i4 + 2)) < sc.1 then
  if 0 ≤ (w32 (i4 + 3)) ∧ (w32 (i4 + 3)) < sc.1 then
  am_rcv 12 h1 (Vr r2) (
  clI (Cl sc d mX12_pulls [Vr r2, Vi (sc.2 (w32 (i4 + 1)).toNat), Vi (sc.2 (w32 (i4 + 2)).toNat), Vi (sc.2 (w32 (i4 + 3)).toNat)] h1) am_xt fun v4 h3 =>
  am_rcv 12 h3 (Vr r2) (
  clI (Cl sc d mX12_thrown [Vr r2] h3) am_xt fun v6 h5 =>
  if v6 = v2 then
    if v2 = 0 then
      ldA 4 h5 r3 0 fun v7 =>
      if (if v4 < v7 then (1 : Int) else if v7 = v4 then 0 else -1) = 0 then
        Ru sc (d + 1) mL_law_ 2052 [Vx 1, Vr r1, Vr r2, Vr r3, Vi i4, Vi v2, Vi v4] [] h5
      else
        some (.inl (Vi 0), h5)
    else
      Ru sc (d + 1) mL_law_ 2052 [Vx 1, Vr r1, Vr r2, Vr r3, Vi i4, Vi v2, Vi v4] [] h5
  else
    some (.inl (Vi 0), h5)))
  else none
  else none
  else none
  else none
  else none
  else none := (Ru_at at_L_law_ 931 _ _ _).trans rfl
set_option maxRecDepth 60000 in
theorem q_L_law__986 (sc : Nat × (Nat → Int)) (d : Nat) (r1 : Option Nat) (r2 : Option Nat) (r3 : Option Nat) (i4 : Int) (u5 : am_V) (u6 : am_V) (h : am_H) : Ru sc (d + 1) mL_law_ 986 [Vx 1, Vr r1, Vr r2, Vr r3, Vi i4, u5, u6] [] h =
  if 0 ≤ (w32 (i4 + 1)) ∧ (w32 (i4 + 1)) < sc.1 then
  if 0 ≤ (w32 (i4 + 2)) ∧ (w32 (i4 + 2)) < sc.1 then
  clI (Cl sc d mL_lowest [Vr r1, Vi (sc.2 (w32 (i4 + 1)).toNat), Vi (sc.2 (w32 (i4 + 2)).toNat), Vr r3] h) am_xt fun v2 h1 =>
  if 0 ≤ (w32 (i4 + 1)) ∧ (w32 (i4 + 1)) < sc.1 then
  if 0 ≤ (w32 (i4 + 2)) ∧ (w32 (i4 + 2)) < sc.1 then
  am_rcv 12 h1 (Vr r2) (
  clI (Cl sc d mX12_lowest [Vr r2, Vi (sc.2 (w32 (i4 + 1)).toNat), Vi (sc.2 (w32 (i4 + 2)).toNat)] h1) am_xt fun v4 h3 =>
  am_rcv 12 h3 (Vr r2) (
  clI (Cl sc d mX12_thrown [Vr r2] h3) am_xt fun v6 h5 =>
  if v6 = v2 then
    if v2 = 0 then
      ldA 4 h5 r3 0 fun v7 =>
      if (if v4 < v7 then (1 : Int) else if v7 = v4 then 0 else -1) = 0 then
        Ru sc (d + 1) mL_law_ 2052 [Vx 1, Vr r1, Vr r2, Vr r3, Vi i4, Vi v2, Vi v4] [] h5
      else
        some (.inl (Vi 0), h5)
    else
      Ru sc (d + 1) mL_law_ 2052 [Vx 1, Vr r1, Vr r2, Vr r3, Vi i4, Vi v2, Vi v4] [] h5
  else
    some (.inl (Vi 0), h5)))
  else none
  else none
  else none
  else none := (Ru_at at_L_law_ 986 _ _ _).trans rfl
set_option maxRecDepth 60000 in
theorem q_L_law__1031 (sc : Nat × (Nat → Int)) (d : Nat) (r1 : Option Nat) (r2 : Option Nat) (r3 : Option Nat) (i4 : Int) (u5 : am_V) (u6 : am_V) (h : am_H) : Ru sc (d + 1) mL_law_ 1031 [Vx 1, Vr r1, Vr r2, Vr r3, Vi i4, u5, u6] [] h =
  if 0 ≤ (w32 (i4 + 1)) ∧ (w32 (i4 + 1)) < sc.1 then
  if 0 ≤ (w32 (i4 + 2)) ∧ (w32 (i4 + 2)) < sc.1 then
  if 0 ≤ (w32 (i4 + 3)) ∧ (w32 (i4 + 3)) < sc.1 then
  clI (Cl sc d mL_closes [Vr r1, Vi (sc.2 (w32 (i4 + 1)).toNat), Vi (sc.2 (w32 (i4 + 2)).toNat), Vi (sc.2 (w32 (i4 + 3)).toNat), Vr r3] h) am_xt fun v2 h1 =>
  if 0 ≤ (w32 (i4 + 1)) ∧ (w32 (i4 + 1)) < sc.1 then
  if 0 ≤ (w32 (i4 + 2)) ∧ (w32 (i4 + 2)) < sc.1 then
  if 0 ≤ (w32 (i4 + 3)) ∧ (w32 (i4 + 3)) < sc.1 then
  am_rcv 12 h1 (Vr r2) (
  clI (Cl sc d mX12_closes [Vr r2, Vi (sc.2 (w32 (i4 + 1)).toNat), Vi (sc.2 (w32 (i4 + 2)).toNat), Vi (sc.2 (w32 (i4 + 3)).toNat)] h1) am_xt fun v4 h3 =>
  am_rcv 12 h3 (Vr r2) (
  clI (Cl sc d mX12_thrown [Vr r2] h3) am_xt fun v6 h5 =>
  if v6 = v2 then
    if v2 = 0 then
      ldA 4 h5 r3 0 fun v7 =>
      if (if v4 < v7 then (1 : Int) else if v7 = v4 then 0 else -1) = 0 then
        Ru sc (d + 1) mL_law_ 2052 [Vx 1, Vr r1, Vr r2, Vr r3, Vi i4, Vi v2, Vi v4] [] h5
      else
        some (.inl (Vi 0), h5)
    else
      Ru sc (d + 1) mL_law_ 2052 [Vx 1, Vr r1, Vr r2, Vr r3, Vi i4, Vi v2, Vi v4] [] h5
  else
    some (.inl (Vi 0), h5)))
  else none
  else none
  else none
  else none
  else none
  else none := (Ru_at at_L_law_ 1031 _ _ _).trans rfl
set_option maxRecDepth 60000 in
theorem q_L_law__1086 (sc : Nat × (Nat → Int)) (d : Nat) (r1 : Option Nat) (r2 : Option Nat) (r3 : Option Nat) (i4 : Int) (u5 : am_V) (u6 : am_V) (h : am_H) : Ru sc (d + 1) mL_law_ 1086 [Vx 1, Vr r1, Vr r2, Vr r3, Vi i4, u5, u6] [] h =
  if 0 ≤ (w32 (i4 + 1)) ∧ (w32 (i4 + 1)) < sc.1 then
  clI (Cl sc d mL_lands [Vr r1, Vi (sc.2 (w32 (i4 + 1)).toNat), Vr r3] h) am_xt fun v2 h1 =>
  if 0 ≤ (w32 (i4 + 1)) ∧ (w32 (i4 + 1)) < sc.1 then
  am_rcv 12 h1 (Vr r2) (
  clI (Cl sc d mX12_lands [Vr r2, Vi (sc.2 (w32 (i4 + 1)).toNat)] h1) am_xt fun v4 h3 =>
  am_rcv 12 h3 (Vr r2) (
  clI (Cl sc d mX12_thrown [Vr r2] h3) am_xt fun v6 h5 =>
  if v6 = v2 then
    if v2 = 0 then
      ldA 4 h5 r3 0 fun v7 =>
      if (if v4 < v7 then (1 : Int) else if v7 = v4 then 0 else -1) = 0 then
        Ru sc (d + 1) mL_law_ 2052 [Vx 1, Vr r1, Vr r2, Vr r3, Vi i4, Vi v2, Vi v4] [] h5
      else
        some (.inl (Vi 0), h5)
    else
      Ru sc (d + 1) mL_law_ 2052 [Vx 1, Vr r1, Vr r2, Vr r3, Vi i4, Vi v2, Vi v4] [] h5
  else
    some (.inl (Vi 0), h5)))
  else none
  else none := (Ru_at at_L_law_ 1086 _ _ _).trans rfl
set_option maxRecDepth 60000 in
theorem q_L_law__1121 (sc : Nat × (Nat → Int)) (d : Nat) (r1 : Option Nat) (r2 : Option Nat) (r3 : Option Nat) (i4 : Int) (u5 : am_V) (u6 : am_V) (h : am_H) : Ru sc (d + 1) mL_law_ 1121 [Vx 1, Vr r1, Vr r2, Vr r3, Vi i4, u5, u6] [] h =
  if 0 ≤ (w32 (i4 + 1)) ∧ (w32 (i4 + 1)) < sc.1 then
  clI (Cl sc d mL_wide [Vr r1, Vi (sc.2 (w32 (i4 + 1)).toNat), Vr r3] h) am_xt fun v2 h1 =>
  if 0 ≤ (w32 (i4 + 1)) ∧ (w32 (i4 + 1)) < sc.1 then
  am_rcv 12 h1 (Vr r2) (
  clI (Cl sc d mX12_wide [Vr r2, Vi (sc.2 (w32 (i4 + 1)).toNat)] h1) am_xt fun v4 h3 =>
  am_rcv 12 h3 (Vr r2) (
  clI (Cl sc d mX12_thrown [Vr r2] h3) am_xt fun v6 h5 =>
  if v6 = v2 then
    if v2 = 0 then
      ldA 4 h5 r3 0 fun v7 =>
      if (if v4 < v7 then (1 : Int) else if v7 = v4 then 0 else -1) = 0 then
        Ru sc (d + 1) mL_law_ 2052 [Vx 1, Vr r1, Vr r2, Vr r3, Vi i4, Vi v2, Vi v4] [] h5
      else
        some (.inl (Vi 0), h5)
    else
      Ru sc (d + 1) mL_law_ 2052 [Vx 1, Vr r1, Vr r2, Vr r3, Vi i4, Vi v2, Vi v4] [] h5
  else
    some (.inl (Vi 0), h5)))
  else none
  else none := (Ru_at at_L_law_ 1121 _ _ _).trans rfl
set_option maxRecDepth 60000 in
theorem q_L_law__1156 (sc : Nat × (Nat → Int)) (d : Nat) (r1 : Option Nat) (r2 : Option Nat) (r3 : Option Nat) (i4 : Int) (u5 : am_V) (u6 : am_V) (h : am_H) : Ru sc (d + 1) mL_law_ 1156 [Vx 1, Vr r1, Vr r2, Vr r3, Vi i4, u5, u6] [] h =
  if 0 ≤ (w32 (i4 + 1)) ∧ (w32 (i4 + 1)) < sc.1 then
  if 0 ≤ (w32 (i4 + 2)) ∧ (w32 (i4 + 2)) < sc.1 then
  clI (Cl sc d mL_land [Vr r1, Vi (sc.2 (w32 (i4 + 1)).toNat), Vi (sc.2 (w32 (i4 + 2)).toNat), Vr r3] h) am_xt fun v2 h1 =>
  if 0 ≤ (w32 (i4 + 1)) ∧ (w32 (i4 + 1)) < sc.1 then
  if 0 ≤ (w32 (i4 + 2)) ∧ (w32 (i4 + 2)) < sc.1 then
  am_rcv 12 h1 (Vr r2) (
  clI (Cl sc d mX12_land [Vr r2, Vi (sc.2 (w32 (i4 + 1)).toNat), Vi (sc.2 (w32 (i4 + 2)).toNat)] h1) am_xt fun v4 h3 =>
  am_rcv 12 h3 (Vr r2) (
  clI (Cl sc d mX12_thrown [Vr r2] h3) am_xt fun v6 h5 =>
  if v6 = v2 then
    if v2 = 0 then
      ldA 4 h5 r3 0 fun v7 =>
      if (if v4 < v7 then (1 : Int) else if v7 = v4 then 0 else -1) = 0 then
        Ru sc (d + 1) mL_law_ 2052 [Vx 1, Vr r1, Vr r2, Vr r3, Vi i4, Vi v2, Vi v4] [] h5
      else
        some (.inl (Vi 0), h5)
    else
      Ru sc (d + 1) mL_law_ 2052 [Vx 1, Vr r1, Vr r2, Vr r3, Vi i4, Vi v2, Vi v4] [] h5
  else
    some (.inl (Vi 0), h5)))
  else none
  else none
  else none
  else none := (Ru_at at_L_law_ 1156 _ _ _).trans rfl
set_option maxRecDepth 60000 in
theorem q_L_law__1201 (sc : Nat × (Nat → Int)) (d : Nat) (r1 : Option Nat) (r2 : Option Nat) (r3 : Option Nat) (i4 : Int) (u5 : am_V) (u6 : am_V) (h : am_H) : Ru sc (d + 1) mL_law_ 1201 [Vx 1, Vr r1, Vr r2, Vr r3, Vi i4, u5, u6] [] h =
  if 0 ≤ (w32 (i4 + 1)) ∧ (w32 (i4 + 1)) < sc.1 then
  clI (Cl sc d mL_gaps [Vr r1, Vi (sc.2 (w32 (i4 + 1)).toNat), Vr r3] h) am_xt fun v2 h1 =>
  if 0 ≤ (w32 (i4 + 1)) ∧ (w32 (i4 + 1)) < sc.1 then
  am_rcv 12 h1 (Vr r2) (
  clI (Cl sc d mX12_gaps [Vr r2, Vi (sc.2 (w32 (i4 + 1)).toNat)] h1) am_xt fun v4 h3 =>
  am_rcv 12 h3 (Vr r2) (
  clI (Cl sc d mX12_thrown [Vr r2] h3) am_xt fun v6 h5 =>
  if v6 = v2 then
    if v2 = 0 then
      ldA 4 h5 r3 0 fun v7 =>
      if (if v4 < v7 then (1 : Int) else if v7 = v4 then 0 else -1) = 0 then
        Ru sc (d + 1) mL_law_ 2052 [Vx 1, Vr r1, Vr r2, Vr r3, Vi i4, Vi v2, Vi v4] [] h5
      else
        some (.inl (Vi 0), h5)
    else
      Ru sc (d + 1) mL_law_ 2052 [Vx 1, Vr r1, Vr r2, Vr r3, Vi i4, Vi v2, Vi v4] [] h5
  else
    some (.inl (Vi 0), h5)))
  else none
  else none := (Ru_at at_L_law_ 1201 _ _ _).trans rfl
set_option maxRecDepth 60000 in
theorem q_L_law__1236 (sc : Nat × (Nat → Int)) (d : Nat) (r1 : Option Nat) (r2 : Option Nat) (r3 : Option Nat) (i4 : Int) (u5 : am_V) (u6 : am_V) (h : am_H) : Ru sc (d + 1) mL_law_ 1236 [Vx 1, Vr r1, Vr r2, Vr r3, Vi i4, u5, u6] [] h =
  if 0 ≤ (w32 (i4 + 1)) ∧ (w32 (i4 + 1)) < sc.1 then
  clI (Cl sc d mL_all [Vr r1, Vi (sc.2 (w32 (i4 + 1)).toNat), Vr r3] h) am_xt fun v2 h1 =>
  if 0 ≤ (w32 (i4 + 1)) ∧ (w32 (i4 + 1)) < sc.1 then
  am_rcv 12 h1 (Vr r2) (
  clI (Cl sc d mX12_all [Vr r2, Vi (sc.2 (w32 (i4 + 1)).toNat)] h1) am_xt fun v4 h3 =>
  am_rcv 12 h3 (Vr r2) (
  clI (Cl sc d mX12_thrown [Vr r2] h3) am_xt fun v6 h5 =>
  if v6 = v2 then
    if v2 = 0 then
      ldA 4 h5 r3 0 fun v7 =>
      if v4 = 0 then
        if (if 0 < v7 then (1 : Int) else if v7 = 0 then 0 else -1) = 0 then
          Ru sc (d + 1) mL_law_ 2052 [Vx 1, Vr r1, Vr r2, Vr r3, Vi i4, Vi v2, Vi v4] [] h5
        else
          some (.inl (Vi 0), h5)
      else
        if (if 1 < v7 then (1 : Int) else if v7 = 1 then 0 else -1) = 0 then
          Ru sc (d + 1) mL_law_ 2052 [Vx 1, Vr r1, Vr r2, Vr r3, Vi i4, Vi v2, Vi v4] [] h5
        else
          some (.inl (Vi 0), h5)
    else
      Ru sc (d + 1) mL_law_ 2052 [Vx 1, Vr r1, Vr r2, Vr r3, Vi i4, Vi v2, Vi v4] [] h5
  else
    some (.inl (Vi 0), h5)))
  else none
  else none := (Ru_at at_L_law_ 1236 _ _ _).trans rfl
set_option maxRecDepth 60000 in
theorem q_L_law__1274 (sc : Nat × (Nat → Int)) (d : Nat) (r1 : Option Nat) (r2 : Option Nat) (r3 : Option Nat) (i4 : Int) (u5 : am_V) (u6 : am_V) (h : am_H) : Ru sc (d + 1) mL_law_ 1274 [Vx 1, Vr r1, Vr r2, Vr r3, Vi i4, u5, u6] [] h =
  am_rcv 11 h (Vr r1) (
  clI (Cl sc d mX11_reach [Vr r1] h) am_xt fun v2 h1 =>
  am_rcv 12 h1 (Vr r2) (
  clI (Cl sc d mX12_reach [Vr r2] h1) am_xt fun v4 h3 =>
  if v2 = v4 then
    Ru sc (d + 1) mL_law_ 2052 [Vx 1, Vr r1, Vr r2, Vr r3, Vi i4, u5, u6] [] h3
  else
    some (.inl (Vi 0), h3))) := (Ru_at at_L_law_ 1274 _ _ _).trans rfl
set_option maxRecDepth 60000 in
theorem q_L_law__1281 (sc : Nat × (Nat → Int)) (d : Nat) (r1 : Option Nat) (r2 : Option Nat) (r3 : Option Nat) (i4 : Int) (u5 : am_V) (u6 : am_V) (h : am_H) : Ru sc (d + 1) mL_law_ 1281 [Vx 1, Vr r1, Vr r2, Vr r3, Vi i4, u5, u6] [] h =
  am_rcv 11 h (Vr r1) (
  clI (Cl sc d mX11_ladders [Vr r1] h) am_xt fun v2 h1 =>
  am_rcv 12 h1 (Vr r2) (
  clI (Cl sc d mX12_ladders [Vr r2] h1) am_xt fun v4 h3 =>
  if v2 = v4 then
    Ru sc (d + 1) mL_law_ 2052 [Vx 1, Vr r1, Vr r2, Vr r3, Vi i4, u5, u6] [] h3
  else
    some (.inl (Vi 0), h3))) := (Ru_at at_L_law_ 1281 _ _ _).trans rfl
set_option maxRecDepth 60000 in
theorem q_L_law__1288 (sc : Nat × (Nat → Int)) (d : Nat) (r1 : Option Nat) (r2 : Option Nat) (r3 : Option Nat) (i4 : Int) (u5 : am_V) (u6 : am_V) (h : am_H) : Ru sc (d + 1) mL_law_ 1288 [Vx 1, Vr r1, Vr r2, Vr r3, Vi i4, u5, u6] [] h =
  if 0 ≤ (w32 (i4 + 1)) ∧ (w32 (i4 + 1)) < sc.1 then
  if 0 ≤ (w32 (i4 + 2)) ∧ (w32 (i4 + 2)) < sc.1 then
  clI (Cl sc d mL_one [Vr r1, Vi (sc.2 (w32 (i4 + 1)).toNat), Vi (sc.2 (w32 (i4 + 2)).toNat), Vr r3] h) am_xt fun v2 h1 =>
  if 0 ≤ (w32 (i4 + 1)) ∧ (w32 (i4 + 1)) < sc.1 then
  if 0 ≤ (w32 (i4 + 2)) ∧ (w32 (i4 + 2)) < sc.1 then
  am_rcv 12 h1 (Vr r2) (
  clI (Cl sc d mX12_one [Vr r2, Vi (sc.2 (w32 (i4 + 1)).toNat), Vi (sc.2 (w32 (i4 + 2)).toNat)] h1) am_xt fun v4 h3 =>
  am_rcv 12 h3 (Vr r2) (
  clI (Cl sc d mX12_thrown [Vr r2] h3) am_xt fun v6 h5 =>
  if v6 = v2 then
    if v2 = 0 then
      ldA 4 h5 r3 0 fun v7 =>
      if (if v4 < v7 then (1 : Int) else if v7 = v4 then 0 else -1) = 0 then
        Ru sc (d + 1) mL_law_ 2052 [Vx 1, Vr r1, Vr r2, Vr r3, Vi i4, Vi v2, Vi v4] [] h5
      else
        some (.inl (Vi 0), h5)
    else
      Ru sc (d + 1) mL_law_ 2052 [Vx 1, Vr r1, Vr r2, Vr r3, Vi i4, Vi v2, Vi v4] [] h5
  else
    some (.inl (Vi 0), h5)))
  else none
  else none
  else none
  else none := (Ru_at at_L_law_ 1288 _ _ _).trans rfl
set_option maxRecDepth 60000 in
theorem q_L_law__1333 (sc : Nat × (Nat → Int)) (d : Nat) (r1 : Option Nat) (r2 : Option Nat) (r3 : Option Nat) (i4 : Int) (u5 : am_V) (u6 : am_V) (h : am_H) : Ru sc (d + 1) mL_law_ 1333 [Vx 1, Vr r1, Vr r2, Vr r3, Vi i4, u5, u6] [] h =
  if 0 ≤ (w32 (i4 + 1)) ∧ (w32 (i4 + 1)) < sc.1 then
  if 0 ≤ (w32 (i4 + 2)) ∧ (w32 (i4 + 2)) < sc.1 then
  if 0 ≤ (w32 (i4 + 3)) ∧ (w32 (i4 + 3)) < sc.1 then
  clI (Cl sc d mL_walk [Vr r1, Vi (sc.2 (w32 (i4 + 1)).toNat), Vi (sc.2 (w32 (i4 + 2)).toNat), Vi (sc.2 (w32 (i4 + 3)).toNat), Vr r3] h) am_xt fun v2 h1 =>
  if 0 ≤ (w32 (i4 + 1)) ∧ (w32 (i4 + 1)) < sc.1 then
  if 0 ≤ (w32 (i4 + 2)) ∧ (w32 (i4 + 2)) < sc.1 then
  if 0 ≤ (w32 (i4 + 3)) ∧ (w32 (i4 + 3)) < sc.1 then
  am_rcv 12 h1 (Vr r2) (
  clI (Cl sc d mX12_walk [Vr r2, Vi (sc.2 (w32 (i4 + 1)).toNat), Vi (sc.2 (w32 (i4 + 2)).toNat), Vi (sc.2 (w32 (i4 + 3)).toNat)] h1) am_xt fun v4 h3 =>
  am_rcv 12 h3 (Vr r2) (
  clI (Cl sc d mX12_thrown [Vr r2] h3) am_xt fun v6 h5 =>
  if v6 = v2 then
    if v2 = 0 then
      ldA 4 h5 r3 0 fun v7 =>
      if (if v4 < v7 then (1 : Int) else if v7 = v4 then 0 else -1) = 0 then
        Ru sc (d + 1) mL_law_ 2052 [Vx 1, Vr r1, Vr r2, Vr r3, Vi i4, Vi v2, Vi v4] [] h5
      else
        some (.inl (Vi 0), h5)
    else
      Ru sc (d + 1) mL_law_ 2052 [Vx 1, Vr r1, Vr r2, Vr r3, Vi i4, Vi v2, Vi v4] [] h5
  else
    some (.inl (Vi 0), h5)))
  else none
  else none
  else none
  else none
  else none
  else none := (Ru_at at_L_law_ 1333 _ _ _).trans rfl
set_option maxRecDepth 60000 in
theorem q_L_law__1388 (sc : Nat × (Nat → Int)) (d : Nat) (r1 : Option Nat) (r2 : Option Nat) (r3 : Option Nat) (i4 : Int) (u5 : am_V) (u6 : am_V) (h : am_H) : Ru sc (d + 1) mL_law_ 1388 [Vx 1, Vr r1, Vr r2, Vr r3, Vi i4, u5, u6] [] h =
  if 0 ≤ (w32 (i4 + 1)) ∧ (w32 (i4 + 1)) < sc.1 then
  clI (Cl sc d mL_hangs [Vr r1, Vi (sc.2 (w32 (i4 + 1)).toNat), Vr r3] h) am_xt fun v2 h1 =>
  if 0 ≤ (w32 (i4 + 1)) ∧ (w32 (i4 + 1)) < sc.1 then
  am_rcv 12 h1 (Vr r2) (
  clI (Cl sc d mX12_hangs [Vr r2, Vi (sc.2 (w32 (i4 + 1)).toNat)] h1) am_xt fun v4 h3 =>
  am_rcv 12 h3 (Vr r2) (
  clI (Cl sc d mX12_thrown [Vr r2] h3) am_xt fun v6 h5 =>
  if v6 = v2 then
    if v2 = 0 then
      ldA 4 h5 r3 0 fun v7 =>
      if (if v4 < v7 then (1 : Int) else if v7 = v4 then 0 else -1) = 0 then
        Ru sc (d + 1) mL_law_ 2052 [Vx 1, Vr r1, Vr r2, Vr r3, Vi i4, Vi v2, Vi v4] [] h5
      else
        some (.inl (Vi 0), h5)
    else
      Ru sc (d + 1) mL_law_ 2052 [Vx 1, Vr r1, Vr r2, Vr r3, Vi i4, Vi v2, Vi v4] [] h5
  else
    some (.inl (Vi 0), h5)))
  else none
  else none := (Ru_at at_L_law_ 1388 _ _ _).trans rfl
set_option maxRecDepth 60000 in
theorem q_L_law__1423 (sc : Nat × (Nat → Int)) (d : Nat) (r1 : Option Nat) (r2 : Option Nat) (r3 : Option Nat) (i4 : Int) (u5 : am_V) (u6 : am_V) (h : am_H) : Ru sc (d + 1) mL_law_ 1423 [Vx 1, Vr r1, Vr r2, Vr r3, Vi i4, u5, u6] [] h =
  if 0 ≤ (w32 (i4 + 1)) ∧ (w32 (i4 + 1)) < sc.1 then
  clI (Cl sc d mL_ends [Vr r1, Vi (sc.2 (w32 (i4 + 1)).toNat), Vr r3] h) am_xt fun v2 h1 =>
  if 0 ≤ (w32 (i4 + 1)) ∧ (w32 (i4 + 1)) < sc.1 then
  am_rcv 12 h1 (Vr r2) (
  clI (Cl sc d mX12_ends [Vr r2, Vi (sc.2 (w32 (i4 + 1)).toNat)] h1) am_xt fun v4 h3 =>
  am_rcv 12 h3 (Vr r2) (
  clI (Cl sc d mX12_thrown [Vr r2] h3) am_xt fun v6 h5 =>
  if v6 = v2 then
    if v2 = 0 then
      ldA 4 h5 r3 0 fun v7 =>
      if (if v4 < v7 then (1 : Int) else if v7 = v4 then 0 else -1) = 0 then
        Ru sc (d + 1) mL_law_ 2052 [Vx 1, Vr r1, Vr r2, Vr r3, Vi i4, Vi v2, Vi v4] [] h5
      else
        some (.inl (Vi 0), h5)
    else
      Ru sc (d + 1) mL_law_ 2052 [Vx 1, Vr r1, Vr r2, Vr r3, Vi i4, Vi v2, Vi v4] [] h5
  else
    some (.inl (Vi 0), h5)))
  else none
  else none := (Ru_at at_L_law_ 1423 _ _ _).trans rfl
set_option maxRecDepth 60000 in
theorem q_L_law__1458 (sc : Nat × (Nat → Int)) (d : Nat) (r1 : Option Nat) (r2 : Option Nat) (r3 : Option Nat) (i4 : Int) (u5 : am_V) (u6 : am_V) (h : am_H) : Ru sc (d + 1) mL_law_ 1458 [Vx 1, Vr r1, Vr r2, Vr r3, Vi i4, u5, u6] [] h =
  if 0 ≤ (w32 (i4 + 1)) ∧ (w32 (i4 + 1)) < sc.1 then
  if (sc.2 (w32 (i4 + 1)).toNat) = 0 then
    clI (Cl sc d mL_seen [Vr r1, Vi 0, Vr r3] h) am_xt fun v2 h1 =>
    if 0 ≤ (w32 (i4 + 1)) ∧ (w32 (i4 + 1)) < sc.1 then
    if (sc.2 (w32 (i4 + 1)).toNat) = 0 then
      Ru sc (d + 1) mL_law_ 1482 [Vx 1, Vr r1, Vr r2, Vr r3, Vi i4, Vi v2, u6] [Vi 0, Vr r2] h1
    else
      Ru sc (d + 1) mL_law_ 1482 [Vx 1, Vr r1, Vr r2, Vr r3, Vi i4, Vi v2, u6] [Vi 1, Vr r2] h1
    else none
  else
    clI (Cl sc d mL_seen [Vr r1, Vi 1, Vr r3] h) am_xt fun v4 h3 =>
    if 0 ≤ (w32 (i4 + 1)) ∧ (w32 (i4 + 1)) < sc.1 then
    if (sc.2 (w32 (i4 + 1)).toNat) = 0 then
      Ru sc (d + 1) mL_law_ 1482 [Vx 1, Vr r1, Vr r2, Vr r3, Vi i4, Vi v4, u6] [Vi 0, Vr r2] h3
    else
      Ru sc (d + 1) mL_law_ 1482 [Vx 1, Vr r1, Vr r2, Vr r3, Vi i4, Vi v4, u6] [Vi 1, Vr r2] h3
    else none
  else none := (Ru_at at_L_law_ 1458 _ _ _).trans rfl
set_option maxRecDepth 60000 in
theorem q_L_law__1482 (sc : Nat × (Nat → Int)) (d : Nat) (r1 : Option Nat) (r2 : Option Nat) (r3 : Option Nat) (i4 : Int) (i5 : Int) (u6 : am_V) (ti0 : Int) (tr1 : Option Nat) (h : am_H) : Ru sc (d + 1) mL_law_ 1482 [Vx 1, Vr r1, Vr r2, Vr r3, Vi i4, Vi i5, u6] [Vi ti0, Vr tr1] h =
  am_rcv 12 h (Vr tr1) (
  clI (Cl sc d mX12_seen [Vr tr1, Vi ti0] h) am_xt fun v2 h1 =>
  am_rcv 12 h1 (Vr r2) (
  clI (Cl sc d mX12_thrown [Vr r2] h1) am_xt fun v4 h3 =>
  if v4 = i5 then
    if i5 = 0 then
      ldA 4 h3 r3 0 fun v5 =>
      if (if v2 < v5 then (1 : Int) else if v5 = v2 then 0 else -1) = 0 then
        Ru sc (d + 1) mL_law_ 2052 [Vx 1, Vr r1, Vr r2, Vr r3, Vi i4, Vi i5, Vi v2] [] h3
      else
        some (.inl (Vi 0), h3)
    else
      Ru sc (d + 1) mL_law_ 2052 [Vx 1, Vr r1, Vr r2, Vr r3, Vi i4, Vi i5, Vi v2] [] h3
  else
    some (.inl (Vi 0), h3))) := (Ru_at at_L_law_ 1482 _ _ _).trans rfl
set_option maxRecDepth 60000 in
theorem q_L_law__1502 (sc : Nat × (Nat → Int)) (d : Nat) (r1 : Option Nat) (r2 : Option Nat) (r3 : Option Nat) (i4 : Int) (u5 : am_V) (u6 : am_V) (h : am_H) : Ru sc (d + 1) mL_law_ 1502 [Vx 1, Vr r1, Vr r2, Vr r3, Vi i4, u5, u6] [] h =
  clI (Cl sc d mL_ask [Vr r1, Vr r3] h) am_xt fun v2 h1 =>
  am_rcv 12 h1 (Vr r2) (
  clI (Cl sc d mX12_ask [Vr r2] h1) am_xt fun v4 h3 =>
  am_rcv 12 h3 (Vr r2) (
  clI (Cl sc d mX12_thrown [Vr r2] h3) am_xt fun v6 h5 =>
  if v6 = v2 then
    if v2 = 0 then
      ldA 4 h5 r3 0 fun v7 =>
      if (if v4 < v7 then (1 : Int) else if v7 = v4 then 0 else -1) = 0 then
        Ru sc (d + 1) mL_law_ 2052 [Vx 1, Vr r1, Vr r2, Vr r3, Vi i4, Vi v2, Vi v4] [] h5
      else
        some (.inl (Vi 0), h5)
    else
      Ru sc (d + 1) mL_law_ 2052 [Vx 1, Vr r1, Vr r2, Vr r3, Vi i4, Vi v2, Vi v4] [] h5
  else
    some (.inl (Vi 0), h5))) := (Ru_at at_L_law_ 1502 _ _ _).trans rfl
set_option maxRecDepth 60000 in
theorem q_L_law__1527 (sc : Nat × (Nat → Int)) (d : Nat) (r1 : Option Nat) (r2 : Option Nat) (r3 : Option Nat) (i4 : Int) (u5 : am_V) (u6 : am_V) (h : am_H) : Ru sc (d + 1) mL_law_ 1527 [Vx 1, Vr r1, Vr r2, Vr r3, Vi i4, u5, u6] [] h =
  if 0 ≤ (w32 (i4 + 1)) ∧ (w32 (i4 + 1)) < sc.1 then
  if 0 ≤ (w32 (i4 + 2)) ∧ (w32 (i4 + 2)) < sc.1 then
  clI (Cl sc d mL_loses [Vr r1, Vi (sc.2 (w32 (i4 + 1)).toNat), Vi (sc.2 (w32 (i4 + 2)).toNat), Vr r3] h) am_xt fun v2 h1 =>
  if 0 ≤ (w32 (i4 + 1)) ∧ (w32 (i4 + 1)) < sc.1 then
  if 0 ≤ (w32 (i4 + 2)) ∧ (w32 (i4 + 2)) < sc.1 then
  am_rcv 12 h1 (Vr r2) (
  clI (Cl sc d mX12_loses [Vr r2, Vi (sc.2 (w32 (i4 + 1)).toNat), Vi (sc.2 (w32 (i4 + 2)).toNat)] h1) am_xt fun v4 h3 =>
  am_rcv 12 h3 (Vr r2) (
  clI (Cl sc d mX12_thrown [Vr r2] h3) am_xt fun v6 h5 =>
  if v6 = v2 then
    if v2 = 0 then
      ldA 4 h5 r3 0 fun v7 =>
      if (if v4 < v7 then (1 : Int) else if v7 = v4 then 0 else -1) = 0 then
        Ru sc (d + 1) mL_law_ 2052 [Vx 1, Vr r1, Vr r2, Vr r3, Vi i4, Vi v2, Vi v4] [] h5
      else
        some (.inl (Vi 0), h5)
    else
      Ru sc (d + 1) mL_law_ 2052 [Vx 1, Vr r1, Vr r2, Vr r3, Vi i4, Vi v2, Vi v4] [] h5
  else
    some (.inl (Vi 0), h5)))
  else none
  else none
  else none
  else none := (Ru_at at_L_law_ 1527 _ _ _).trans rfl
set_option maxRecDepth 60000 in
theorem q_L_law__1572 (sc : Nat × (Nat → Int)) (d : Nat) (r1 : Option Nat) (r2 : Option Nat) (r3 : Option Nat) (i4 : Int) (u5 : am_V) (u6 : am_V) (h : am_H) : Ru sc (d + 1) mL_law_ 1572 [Vx 1, Vr r1, Vr r2, Vr r3, Vi i4, u5, u6] [] h =
  if 0 ≤ (w32 (i4 + 1)) ∧ (w32 (i4 + 1)) < sc.1 then
  clI (Cl sc d mL_pairs [Vr r1, Vi (sc.2 (w32 (i4 + 1)).toNat), Vr r3] h) am_xt fun v2 h1 =>
  if 0 ≤ (w32 (i4 + 1)) ∧ (w32 (i4 + 1)) < sc.1 then
  am_rcv 12 h1 (Vr r2) (
  clI (Cl sc d mX12_pairs [Vr r2, Vi (sc.2 (w32 (i4 + 1)).toNat)] h1) am_xt fun v4 h3 =>
  am_rcv 12 h3 (Vr r2) (
  clI (Cl sc d mX12_thrown [Vr r2] h3) am_xt fun v6 h5 =>
  if v6 = v2 then
    if v2 = 0 then
      ldA 4 h5 r3 0 fun v7 =>
      if (if v4 < v7 then (1 : Int) else if v7 = v4 then 0 else -1) = 0 then
        Ru sc (d + 1) mL_law_ 2052 [Vx 1, Vr r1, Vr r2, Vr r3, Vi i4, Vi v2, Vi v4] [] h5
      else
        some (.inl (Vi 0), h5)
    else
      Ru sc (d + 1) mL_law_ 2052 [Vx 1, Vr r1, Vr r2, Vr r3, Vi i4, Vi v2, Vi v4] [] h5
  else
    some (.inl (Vi 0), h5)))
  else none
  else none := (Ru_at at_L_law_ 1572 _ _ _).trans rfl
set_option maxRecDepth 60000 in
theorem q_L_law__1607 (sc : Nat × (Nat → Int)) (d : Nat) (r1 : Option Nat) (r2 : Option Nat) (r3 : Option Nat) (i4 : Int) (u5 : am_V) (u6 : am_V) (h : am_H) : Ru sc (d + 1) mL_law_ 1607 [Vx 1, Vr r1, Vr r2, Vr r3, Vi i4, u5, u6] [] h =
  if 0 ≤ (w32 (i4 + 1)) ∧ (w32 (i4 + 1)) < sc.1 then
  if 0 ≤ (w32 (i4 + 2)) ∧ (w32 (i4 + 2)) < sc.1 then
  clI (Cl sc d mL_rests [Vr r1, Vi (sc.2 (w32 (i4 + 1)).toNat), Vi (sc.2 (w32 (i4 + 2)).toNat), Vr r3] h) am_xt fun v2 h1 =>
  if 0 ≤ (w32 (i4 + 1)) ∧ (w32 (i4 + 1)) < sc.1 then
  if 0 ≤ (w32 (i4 + 2)) ∧ (w32 (i4 + 2)) < sc.1 then
  am_rcv 12 h1 (Vr r2) (
  clI (Cl sc d mX12_rests [Vr r2, Vi (sc.2 (w32 (i4 + 1)).toNat), Vi (sc.2 (w32 (i4 + 2)).toNat)] h1) am_xt fun v4 h3 =>
  am_rcv 12 h3 (Vr r2) (
  clI (Cl sc d mX12_thrown [Vr r2] h3) am_xt fun v6 h5 =>
  if v6 = v2 then
    if v2 = 0 then
      ldA 4 h5 r3 0 fun v7 =>
      if (if v4 < v7 then (1 : Int) else if v7 = v4 then 0 else -1) = 0 then
        Ru sc (d + 1) mL_law_ 2052 [Vx 1, Vr r1, Vr r2, Vr r3, Vi i4, Vi v2, Vi v4] [] h5
      else
        some (.inl (Vi 0), h5)
    else
      Ru sc (d + 1) mL_law_ 2052 [Vx 1, Vr r1, Vr r2, Vr r3, Vi i4, Vi v2, Vi v4] [] h5
  else
    some (.inl (Vi 0), h5)))
  else none
  else none
  else none
  else none := (Ru_at at_L_law_ 1607 _ _ _).trans rfl
set_option maxRecDepth 60000 in
theorem q_L_law__1652 (sc : Nat × (Nat → Int)) (d : Nat) (r1 : Option Nat) (r2 : Option Nat) (r3 : Option Nat) (i4 : Int) (u5 : am_V) (u6 : am_V) (h : am_H) : Ru sc (d + 1) mL_law_ 1652 [Vx 1, Vr r1, Vr r2, Vr r3, Vi i4, u5, u6] [] h =
  if 0 ≤ (w32 (i4 + 1)) ∧ (w32 (i4 + 1)) < sc.1 then
  if 0 ≤ (w32 (i4 + 2)) ∧ (w32 (i4 + 2)) < sc.1 then
  clI (Cl sc d mL_odds [Vr r1, Vi (sc.2 (w32 (i4 + 1)).toNat), Vi (sc.2 (w32 (i4 + 2)).toNat), Vr r3] h) am_xt fun v2 h1 =>
  if 0 ≤ (w32 (i4 + 1)) ∧ (w32 (i4 + 1)) < sc.1 then
  if 0 ≤ (w32 (i4 + 2)) ∧ (w32 (i4 + 2)) < sc.1 then
  am_rcv 12 h1 (Vr r2) (
  clI (Cl sc d mX12_odds [Vr r2, Vi (sc.2 (w32 (i4 + 1)).toNat), Vi (sc.2 (w32 (i4 + 2)).toNat)] h1) am_xt fun v4 h3 =>
  am_rcv 12 h3 (Vr r2) (
  clI (Cl sc d mX12_thrown [Vr r2] h3) am_xt fun v6 h5 =>
  if v6 = v2 then
    if v2 = 0 then
      ldA 4 h5 r3 0 fun v7 =>
      if (if v4 < v7 then (1 : Int) else if v7 = v4 then 0 else -1) = 0 then
        Ru sc (d + 1) mL_law_ 2052 [Vx 1, Vr r1, Vr r2, Vr r3, Vi i4, Vi v2, Vi v4] [] h5
      else
        some (.inl (Vi 0), h5)
    else
      Ru sc (d + 1) mL_law_ 2052 [Vx 1, Vr r1, Vr r2, Vr r3, Vi i4, Vi v2, Vi v4] [] h5
  else
    some (.inl (Vi 0), h5)))
  else none
  else none
  else none
  else none := (Ru_at at_L_law_ 1652 _ _ _).trans rfl
set_option maxRecDepth 60000 in
theorem q_L_law__1697 (sc : Nat × (Nat → Int)) (d : Nat) (r1 : Option Nat) (r2 : Option Nat) (r3 : Option Nat) (i4 : Int) (u5 : am_V) (u6 : am_V) (h : am_H) : Ru sc (d + 1) mL_law_ 1697 [Vx 1, Vr r1, Vr r2, Vr r3, Vi i4, u5, u6] [] h =
  am_rcv 11 h (Vr r1) (
  clI (Cl sc d mX11_oldest [Vr r1] h) am_xt fun v2 h1 =>
  am_rcv 12 h1 (Vr r2) (
  clI (Cl sc d mX12_oldest [Vr r2] h1) am_xt fun v4 h3 =>
  if v2 = v4 then
    Ru sc (d + 1) mL_law_ 2052 [Vx 1, Vr r1, Vr r2, Vr r3, Vi i4, u5, u6] [] h3
  else
    some (.inl (Vi 0), h3))) := (Ru_at at_L_law_ 1697 _ _ _).trans rfl
set_option maxRecDepth 60000 in
theorem q_L_law__1704 (sc : Nat × (Nat → Int)) (d : Nat) (r1 : Option Nat) (r2 : Option Nat) (r3 : Option Nat) (i4 : Int) (u5 : am_V) (u6 : am_V) (h : am_H) : Ru sc (d + 1) mL_law_ 1704 [Vx 1, Vr r1, Vr r2, Vr r3, Vi i4, u5, u6] [] h =
  if 0 ≤ (w32 (i4 + 1)) ∧ (w32 (i4 + 1)) < sc.1 then
  if (sc.2 (w32 (i4 + 1)).toNat) = 0 then
    Ru sc (d + 1) mL_law_ 1715 [Vx 1, Vr r1, Vr r2, Vr r3, Vi i4, u5, u6] [Vi 0, Vr r1] h
  else
    Ru sc (d + 1) mL_law_ 1715 [Vx 1, Vr r1, Vr r2, Vr r3, Vi i4, u5, u6] [Vi 1, Vr r1] h
  else none := (Ru_at at_L_law_ 1704 _ _ _).trans rfl
set_option maxRecDepth 60000 in
theorem q_L_law__1715 (sc : Nat × (Nat → Int)) (d : Nat) (r1 : Option Nat) (r2 : Option Nat) (r3 : Option Nat) (i4 : Int) (u5 : am_V) (u6 : am_V) (ti0 : Int) (tr1 : Option Nat) (h : am_H) : Ru sc (d + 1) mL_law_ 1715 [Vx 1, Vr r1, Vr r2, Vr r3, Vi i4, u5, u6] [Vi ti0, Vr tr1] h =
  am_rcv 11 h (Vr tr1) (
  clI (Cl sc d mX11_highest [Vr tr1, Vi ti0] h) am_xt fun v2 h1 =>
  if 0 ≤ (w32 (i4 + 1)) ∧ (w32 (i4 + 1)) < sc.1 then
  if (sc.2 (w32 (i4 + 1)).toNat) = 0 then
    am_rcv 12 h1 (Vr r2) (
    clI (Cl sc d mX12_highest [Vr r2, Vi 0] h1) am_xt fun v4 h3 =>
    if v2 = v4 then
      Ru sc (d + 1) mL_law_ 2052 [Vx 1, Vr r1, Vr r2, Vr r3, Vi i4, u5, u6] [] h3
    else
      some (.inl (Vi 0), h3))
  else
    am_rcv 12 h1 (Vr r2) (
    clI (Cl sc d mX12_highest [Vr r2, Vi 1] h1) am_xt fun v6 h5 =>
    if v2 = v6 then
      Ru sc (d + 1) mL_law_ 2052 [Vx 1, Vr r1, Vr r2, Vr r3, Vi i4, u5, u6] [] h5
    else
      some (.inl (Vi 0), h5))
  else none) := (Ru_at at_L_law_ 1715 _ _ _).trans rfl
set_option maxRecDepth 60000 in
theorem q_L_law__1730 (sc : Nat × (Nat → Int)) (d : Nat) (r1 : Option Nat) (r2 : Option Nat) (r3 : Option Nat) (i4 : Int) (u5 : am_V) (u6 : am_V) (h : am_H) : Ru sc (d + 1) mL_law_ 1730 [Vx 1, Vr r1, Vr r2, Vr r3, Vi i4, u5, u6] [] h =
  am_rcv 11 h (Vr r1) (
  clI (Cl sc d mX11_sorest [Vr r1] h) am_xt fun v2 h1 =>
  am_rcv 12 h1 (Vr r2) (
  clI (Cl sc d mX12_sorest [Vr r2] h1) am_xt fun v4 h3 =>
  if v2 = v4 then
    Ru sc (d + 1) mL_law_ 2052 [Vx 1, Vr r1, Vr r2, Vr r3, Vi i4, u5, u6] [] h3
  else
    some (.inl (Vi 0), h3))) := (Ru_at at_L_law_ 1730 _ _ _).trans rfl
set_option maxRecDepth 60000 in
theorem q_L_law__1737 (sc : Nat × (Nat → Int)) (d : Nat) (r1 : Option Nat) (r2 : Option Nat) (r3 : Option Nat) (i4 : Int) (u5 : am_V) (u6 : am_V) (h : am_H) : Ru sc (d + 1) mL_law_ 1737 [Vx 1, Vr r1, Vr r2, Vr r3, Vi i4, u5, u6] [] h =
  am_rcv 11 h (Vr r1) (
  clI (Cl sc d mX11_twins [Vr r1] h) am_xt fun v2 h1 =>
  am_rcv 12 h1 (Vr r2) (
  clI (Cl sc d mX12_twins [Vr r2] h1) am_xt fun v4 h3 =>
  if v2 = v4 then
    Ru sc (d + 1) mL_law_ 2052 [Vx 1, Vr r1, Vr r2, Vr r3, Vi i4, u5, u6] [] h3
  else
    some (.inl (Vi 0), h3))) := (Ru_at at_L_law_ 1737 _ _ _).trans rfl
set_option maxRecDepth 60000 in
theorem q_L_law__1744 (sc : Nat × (Nat → Int)) (d : Nat) (r1 : Option Nat) (r2 : Option Nat) (r3 : Option Nat) (i4 : Int) (u5 : am_V) (u6 : am_V) (h : am_H) : Ru sc (d + 1) mL_law_ 1744 [Vx 1, Vr r1, Vr r2, Vr r3, Vi i4, u5, u6] [] h =
  if 0 ≤ (w32 (i4 + 1)) ∧ (w32 (i4 + 1)) < sc.1 then
  if 0 ≤ (w32 (i4 + 2)) ∧ (w32 (i4 + 2)) < sc.1 then
  clI (Cl sc d mL_ahead [Vr r1, Vi (sc.2 (w32 (i4 + 1)).toNat), Vi (sc.2 (w32 (i4 + 2)).toNat), Vr r3] h) am_xt fun v2 h1 =>
  if 0 ≤ (w32 (i4 + 1)) ∧ (w32 (i4 + 1)) < sc.1 then
  if 0 ≤ (w32 (i4 + 2)) ∧ (w32 (i4 + 2)) < sc.1 then
  am_rcv 12 h1 (Vr r2) (
  clI (Cl sc d mX12_ahead [Vr r2, Vi (sc.2 (w32 (i4 + 1)).toNat), Vi (sc.2 (w32 (i4 + 2)).toNat)] h1) am_xt fun v4 h3 =>
  am_rcv 12 h3 (Vr r2) (
  clI (Cl sc d mX12_thrown [Vr r2] h3) am_xt fun v6 h5 =>
  if v6 = v2 then
    if v2 = 0 then
      ldA 4 h5 r3 0 fun v7 =>
      if (if v4 < v7 then (1 : Int) else if v7 = v4 then 0 else -1) = 0 then
        Ru sc (d + 1) mL_law_ 2052 [Vx 1, Vr r1, Vr r2, Vr r3, Vi i4, Vi v2, Vi v4] [] h5
      else
        some (.inl (Vi 0), h5)
    else
      Ru sc (d + 1) mL_law_ 2052 [Vx 1, Vr r1, Vr r2, Vr r3, Vi i4, Vi v2, Vi v4] [] h5
  else
    some (.inl (Vi 0), h5)))
  else none
  else none
  else none
  else none := (Ru_at at_L_law_ 1744 _ _ _).trans rfl
set_option maxRecDepth 60000 in
theorem q_L_law__1789 (sc : Nat × (Nat → Int)) (d : Nat) (r1 : Option Nat) (r2 : Option Nat) (r3 : Option Nat) (i4 : Int) (u5 : am_V) (u6 : am_V) (h : am_H) : Ru sc (d + 1) mL_law_ 1789 [Vx 1, Vr r1, Vr r2, Vr r3, Vi i4, u5, u6] [] h =
  if 0 ≤ (w32 (i4 + 1)) ∧ (w32 (i4 + 1)) < sc.1 then
  if 0 ≤ (w32 (i4 + 2)) ∧ (w32 (i4 + 2)) < sc.1 then
  if (sc.2 (w32 (i4 + 2)).toNat) = 0 then
    Ru sc (d + 1) mL_law_ 1805 [Vx 1, Vr r1, Vr r2, Vr r3, Vi i4, u5, u6] [Vi 0, Vi (sc.2 (w32 (i4 + 1)).toNat), Vr r1] h
  else
    Ru sc (d + 1) mL_law_ 1805 [Vx 1, Vr r1, Vr r2, Vr r3, Vi i4, u5, u6] [Vi 1, Vi (sc.2 (w32 (i4 + 1)).toNat), Vr r1] h
  else none
  else none := (Ru_at at_L_law_ 1789 _ _ _).trans rfl
set_option maxRecDepth 60000 in
theorem q_L_law__1805 (sc : Nat × (Nat → Int)) (d : Nat) (r1 : Option Nat) (r2 : Option Nat) (r3 : Option Nat) (i4 : Int) (u5 : am_V) (u6 : am_V) (ti0 : Int) (ti1 : Int) (tr2 : Option Nat) (h : am_H) : Ru sc (d + 1) mL_law_ 1805 [Vx 1, Vr r1, Vr r2, Vr r3, Vi i4, u5, u6] [Vi ti0, Vi ti1, Vr tr2] h =
  clI (Cl sc d mL_trial [Vr tr2, Vi ti1, Vi ti0, Vr r3] h) am_xt fun v2 h1 =>
  if 0 ≤ (w32 (i4 + 1)) ∧ (w32 (i4 + 1)) < sc.1 then
  if 0 ≤ (w32 (i4 + 2)) ∧ (w32 (i4 + 2)) < sc.1 then
  if (sc.2 (w32 (i4 + 2)).toNat) = 0 then
    Ru sc (d + 1) mL_law_ 1824 [Vx 1, Vr r1, Vr r2, Vr r3, Vi i4, Vi v2, u6] [Vi 0, Vi (sc.2 (w32 (i4 + 1)).toNat), Vr r2] h1
  else
    Ru sc (d + 1) mL_law_ 1824 [Vx 1, Vr r1, Vr r2, Vr r3, Vi i4, Vi v2, u6] [Vi 1, Vi (sc.2 (w32 (i4 + 1)).toNat), Vr r2] h1
  else none
  else none := (Ru_at at_L_law_ 1805 _ _ _).trans rfl
set_option maxRecDepth 60000 in
theorem q_L_law__1824 (sc : Nat × (Nat → Int)) (d : Nat) (r1 : Option Nat) (r2 : Option Nat) (r3 : Option Nat) (i4 : Int) (i5 : Int) (u6 : am_V) (ti0 : Int) (ti1 : Int) (tr2 : Option Nat) (h : am_H) : Ru sc (d + 1) mL_law_ 1824 [Vx 1, Vr r1, Vr r2, Vr r3, Vi i4, Vi i5, u6] [Vi ti0, Vi ti1, Vr tr2] h =
  am_rcv 12 h (Vr tr2) (
  clI (Cl sc d mX12_trial [Vr tr2, Vi ti1, Vi ti0] h) am_xt fun v2 h1 =>
  am_rcv 12 h1 (Vr r2) (
  clI (Cl sc d mX12_thrown [Vr r2] h1) am_xt fun v4 h3 =>
  if v4 = i5 then
    if i5 = 0 then
      ldA 4 h3 r3 0 fun v5 =>
      if (if v2 < v5 then (1 : Int) else if v5 = v2 then 0 else -1) = 0 then
        Ru sc (d + 1) mL_law_ 2052 [Vx 1, Vr r1, Vr r2, Vr r3, Vi i4, Vi i5, Vi v2] [] h3
      else
        some (.inl (Vi 0), h3)
    else
      Ru sc (d + 1) mL_law_ 2052 [Vx 1, Vr r1, Vr r2, Vr r3, Vi i4, Vi i5, Vi v2] [] h3
  else
    some (.inl (Vi 0), h3))) := (Ru_at at_L_law_ 1824 _ _ _).trans rfl
set_option maxRecDepth 60000 in
theorem q_L_law__1844 (sc : Nat × (Nat → Int)) (d : Nat) (r1 : Option Nat) (r2 : Option Nat) (r3 : Option Nat) (i4 : Int) (u5 : am_V) (u6 : am_V) (h : am_H) : Ru sc (d + 1) mL_law_ 1844 [Vx 1, Vr r1, Vr r2, Vr r3, Vi i4, u5, u6] [] h =
  if 0 ≤ (w32 (i4 + 1)) ∧ (w32 (i4 + 1)) < sc.1 then
  if 0 ≤ (w32 (i4 + 2)) ∧ (w32 (i4 + 2)) < sc.1 then
  if (sc.2 (w32 (i4 + 2)).toNat) = 0 then
    Ru sc (d + 1) mL_law_ 1860 [Vx 1, Vr r1, Vr r2, Vr r3, Vi i4, u5, u6] [Vi 0, Vi (sc.2 (w32 (i4 + 1)).toNat), Vr r1] h
  else
    Ru sc (d + 1) mL_law_ 1860 [Vx 1, Vr r1, Vr r2, Vr r3, Vi i4, u5, u6] [Vi 1, Vi (sc.2 (w32 (i4 + 1)).toNat), Vr r1] h
  else none
  else none := (Ru_at at_L_law_ 1844 _ _ _).trans rfl
set_option maxRecDepth 60000 in
theorem q_L_law__1860 (sc : Nat × (Nat → Int)) (d : Nat) (r1 : Option Nat) (r2 : Option Nat) (r3 : Option Nat) (i4 : Int) (u5 : am_V) (u6 : am_V) (ti0 : Int) (ti1 : Int) (tr2 : Option Nat) (h : am_H) : Ru sc (d + 1) mL_law_ 1860 [Vx 1, Vr r1, Vr r2, Vr r3, Vi i4, u5, u6] [Vi ti0, Vi ti1, Vr tr2] h =
  clI (Cl sc d mL_span [Vr tr2, Vi ti1, Vi ti0, Vr r3] h) am_xt fun v2 h1 =>
  if 0 ≤ (w32 (i4 + 1)) ∧ (w32 (i4 + 1)) < sc.1 then
  if 0 ≤ (w32 (i4 + 2)) ∧ (w32 (i4 + 2)) < sc.1 then
  if (sc.2 (w32 (i4 + 2)).toNat) = 0 then
    Ru sc (d + 1) mL_law_ 1879 [Vx 1, Vr r1, Vr r2, Vr r3, Vi i4, Vi v2, u6] [Vi 0, Vi (sc.2 (w32 (i4 + 1)).toNat), Vr r2] h1
  else
    Ru sc (d + 1) mL_law_ 1879 [Vx 1, Vr r1, Vr r2, Vr r3, Vi i4, Vi v2, u6] [Vi 1, Vi (sc.2 (w32 (i4 + 1)).toNat), Vr r2] h1
  else none
  else none := (Ru_at at_L_law_ 1860 _ _ _).trans rfl
set_option maxRecDepth 60000 in
theorem q_L_law__1879 (sc : Nat × (Nat → Int)) (d : Nat) (r1 : Option Nat) (r2 : Option Nat) (r3 : Option Nat) (i4 : Int) (i5 : Int) (u6 : am_V) (ti0 : Int) (ti1 : Int) (tr2 : Option Nat) (h : am_H) : Ru sc (d + 1) mL_law_ 1879 [Vx 1, Vr r1, Vr r2, Vr r3, Vi i4, Vi i5, u6] [Vi ti0, Vi ti1, Vr tr2] h =
  am_rcv 12 h (Vr tr2) (
  clI (Cl sc d mX12_span [Vr tr2, Vi ti1, Vi ti0] h) am_xt fun v2 h1 =>
  am_rcv 12 h1 (Vr r2) (
  clI (Cl sc d mX12_thrown [Vr r2] h1) am_xt fun v4 h3 =>
  if v4 = i5 then
    if i5 = 0 then
      ldA 4 h3 r3 0 fun v5 =>
      if (if v2 < v5 then (1 : Int) else if v5 = v2 then 0 else -1) = 0 then
        Ru sc (d + 1) mL_law_ 2052 [Vx 1, Vr r1, Vr r2, Vr r3, Vi i4, Vi i5, Vi v2] [] h3
      else
        some (.inl (Vi 0), h3)
    else
      Ru sc (d + 1) mL_law_ 2052 [Vx 1, Vr r1, Vr r2, Vr r3, Vi i4, Vi i5, Vi v2] [] h3
  else
    some (.inl (Vi 0), h3))) := (Ru_at at_L_law_ 1879 _ _ _).trans rfl
set_option maxRecDepth 60000 in
theorem q_L_law__1899 (sc : Nat × (Nat → Int)) (d : Nat) (r1 : Option Nat) (r2 : Option Nat) (r3 : Option Nat) (i4 : Int) (u5 : am_V) (u6 : am_V) (h : am_H) : Ru sc (d + 1) mL_law_ 1899 [Vx 1, Vr r1, Vr r2, Vr r3, Vi i4, u5, u6] [] h =
  if 0 ≤ (w32 (i4 + 1)) ∧ (w32 (i4 + 1)) < sc.1 then
  if 0 ≤ (w32 (i4 + 2)) ∧ (w32 (i4 + 2)) < sc.1 then
  if (sc.2 (w32 (i4 + 2)).toNat) = 0 then
    Ru sc (d + 1) mL_law_ 1915 [Vx 1, Vr r1, Vr r2, Vr r3, Vi i4, u5, u6] [Vi 0, Vi (sc.2 (w32 (i4 + 1)).toNat), Vr r1] h
  else
    Ru sc (d + 1) mL_law_ 1915 [Vx 1, Vr r1, Vr r2, Vr r3, Vi i4, u5, u6] [Vi 1, Vi (sc.2 (w32 (i4 + 1)).toNat), Vr r1] h
  else none
  else none := (Ru_at at_L_law_ 1899 _ _ _).trans rfl
set_option maxRecDepth 60000 in
theorem q_L_law__1915 (sc : Nat × (Nat → Int)) (d : Nat) (r1 : Option Nat) (r2 : Option Nat) (r3 : Option Nat) (i4 : Int) (u5 : am_V) (u6 : am_V) (ti0 : Int) (ti1 : Int) (tr2 : Option Nat) (h : am_H) : Ru sc (d + 1) mL_law_ 1915 [Vx 1, Vr r1, Vr r2, Vr r3, Vi i4, u5, u6] [Vi ti0, Vi ti1, Vr tr2] h =
  clI (Cl sc d mL_led [Vr tr2, Vi ti1, Vi ti0, Vr r3] h) am_xt fun v2 h1 =>
  if 0 ≤ (w32 (i4 + 1)) ∧ (w32 (i4 + 1)) < sc.1 then
  if 0 ≤ (w32 (i4 + 2)) ∧ (w32 (i4 + 2)) < sc.1 then
  if (sc.2 (w32 (i4 + 2)).toNat) = 0 then
    Ru sc (d + 1) mL_law_ 1934 [Vx 1, Vr r1, Vr r2, Vr r3, Vi i4, Vi v2, u6] [Vi 0, Vi (sc.2 (w32 (i4 + 1)).toNat), Vr r2] h1
  else
    Ru sc (d + 1) mL_law_ 1934 [Vx 1, Vr r1, Vr r2, Vr r3, Vi i4, Vi v2, u6] [Vi 1, Vi (sc.2 (w32 (i4 + 1)).toNat), Vr r2] h1
  else none
  else none := (Ru_at at_L_law_ 1915 _ _ _).trans rfl
set_option maxRecDepth 60000 in
theorem q_L_law__1934 (sc : Nat × (Nat → Int)) (d : Nat) (r1 : Option Nat) (r2 : Option Nat) (r3 : Option Nat) (i4 : Int) (i5 : Int) (u6 : am_V) (ti0 : Int) (ti1 : Int) (tr2 : Option Nat) (h : am_H) : Ru sc (d + 1) mL_law_ 1934 [Vx 1, Vr r1, Vr r2, Vr r3, Vi i4, Vi i5, u6] [Vi ti0, Vi ti1, Vr tr2] h =
  am_rcv 12 h (Vr tr2) (
  clI (Cl sc d mX12_led [Vr tr2, Vi ti1, Vi ti0] h) am_xt fun v2 h1 =>
  am_rcv 12 h1 (Vr r2) (
  clI (Cl sc d mX12_thrown [Vr r2] h1) am_xt fun v4 h3 =>
  if v4 = i5 then
    if i5 = 0 then
      ldA 4 h3 r3 0 fun v5 =>
      if (if v2 < v5 then (1 : Int) else if v5 = v2 then 0 else -1) = 0 then
        Ru sc (d + 1) mL_law_ 2052 [Vx 1, Vr r1, Vr r2, Vr r3, Vi i4, Vi i5, Vi v2] [] h3
      else
        some (.inl (Vi 0), h3)
    else
      Ru sc (d + 1) mL_law_ 2052 [Vx 1, Vr r1, Vr r2, Vr r3, Vi i4, Vi i5, Vi v2] [] h3
  else
    some (.inl (Vi 0), h3))) := (Ru_at at_L_law_ 1934 _ _ _).trans rfl
set_option maxRecDepth 60000 in
theorem q_L_law__1954 (sc : Nat × (Nat → Int)) (d : Nat) (r1 : Option Nat) (r2 : Option Nat) (r3 : Option Nat) (i4 : Int) (u5 : am_V) (u6 : am_V) (h : am_H) : Ru sc (d + 1) mL_law_ 1954 [Vx 1, Vr r1, Vr r2, Vr r3, Vi i4, u5, u6] [] h =
  if 0 ≤ (w32 (i4 + 1)) ∧ (w32 (i4 + 1)) < sc.1 then
  if 0 ≤ (w32 (i4 + 2)) ∧ (w32 (i4 + 2)) < sc.1 then
  clI (Cl sc d mL_log [Vr r1, Vi (sc.2 (w32 (i4 + 1)).toNat), Vi (sc.2 (w32 (i4 + 2)).toNat), Vr r3] h) am_xt fun v2 h1 =>
  if 0 ≤ (w32 (i4 + 1)) ∧ (w32 (i4 + 1)) < sc.1 then
  if 0 ≤ (w32 (i4 + 2)) ∧ (w32 (i4 + 2)) < sc.1 then
  am_rcv 12 h1 (Vr r2) (
  clI (Cl sc d mX12_log [Vr r2, Vi (sc.2 (w32 (i4 + 1)).toNat), Vi (sc.2 (w32 (i4 + 2)).toNat)] h1) am_xt fun v4 h3 =>
  am_rcv 12 h3 (Vr r2) (
  clI (Cl sc d mX12_thrown [Vr r2] h3) am_xt fun v6 h5 =>
  if v6 = v2 then
    if v2 = 0 then
      ldA 4 h5 r3 0 fun v7 =>
      if (if v4 < v7 then (1 : Int) else if v7 = v4 then 0 else -1) = 0 then
        Ru sc (d + 1) mL_law_ 2052 [Vx 1, Vr r1, Vr r2, Vr r3, Vi i4, Vi v2, Vi v4] [] h5
      else
        some (.inl (Vi 0), h5)
    else
      Ru sc (d + 1) mL_law_ 2052 [Vx 1, Vr r1, Vr r2, Vr r3, Vi i4, Vi v2, Vi v4] [] h5
  else
    some (.inl (Vi 0), h5)))
  else none
  else none
  else none
  else none := (Ru_at at_L_law_ 1954 _ _ _).trans rfl
set_option maxRecDepth 60000 in
theorem q_L_law__1999 (sc : Nat × (Nat → Int)) (d : Nat) (r1 : Option Nat) (r2 : Option Nat) (r3 : Option Nat) (i4 : Int) (u5 : am_V) (u6 : am_V) (h : am_H) : Ru sc (d + 1) mL_law_ 1999 [Vx 1, Vr r1, Vr r2, Vr r3, Vi i4, u5, u6] [] h =
  if 0 ≤ (w32 (i4 + 1)) ∧ (w32 (i4 + 1)) < sc.1 then
  am_rcv 11 h (Vr r1) (
  clI (Cl sc d mX11_seed [Vr r1, Vi (sc.2 (w32 (i4 + 1)).toNat)] h) am_xt fun v2 h1 =>
  if 0 ≤ (w32 (i4 + 1)) ∧ (w32 (i4 + 1)) < sc.1 then
  am_rcv 12 h1 (Vr r2) (
  clI (Cl sc d mX12_seed [Vr r2, Vi (sc.2 (w32 (i4 + 1)).toNat)] h1) am_xt fun v4 h3 =>
  if v2 = v4 then
    Ru sc (d + 1) mL_law_ 2052 [Vx 1, Vr r1, Vr r2, Vr r3, Vi i4, u5, u6] [] h3
  else
    some (.inl (Vi 0), h3))
  else none)
  else none := (Ru_at at_L_law_ 1999 _ _ _).trans rfl
set_option maxRecDepth 60000 in
theorem q_L_law__2016 (sc : Nat × (Nat → Int)) (d : Nat) (r1 : Option Nat) (r2 : Option Nat) (r3 : Option Nat) (i4 : Int) (u5 : am_V) (u6 : am_V) (h : am_H) : Ru sc (d + 1) mL_law_ 2016 [Vx 1, Vr r1, Vr r2, Vr r3, Vi i4, u5, u6] [] h =
  am_rcv 11 h (Vr r1) (
  clI (Cl sc d mX11_undo [Vr r1] h) am_xt fun v2 h1 =>
  am_rcv 12 h1 (Vr r2) (
  clI (Cl sc d mX12_undo [Vr r2] h1) am_xt fun v4 h3 =>
  if v2 = v4 then
    Ru sc (d + 1) mL_law_ 2052 [Vx 1, Vr r1, Vr r2, Vr r3, Vi i4, u5, u6] [] h3
  else
    some (.inl (Vi 0), h3))) := (Ru_at at_L_law_ 2016 _ _ _).trans rfl
set_option maxRecDepth 60000 in
theorem q_L_law__2023 (sc : Nat × (Nat → Int)) (d : Nat) (r1 : Option Nat) (r2 : Option Nat) (r3 : Option Nat) (i4 : Int) (u5 : am_V) (u6 : am_V) (h : am_H) : Ru sc (d + 1) mL_law_ 2023 [Vx 1, Vr r1, Vr r2, Vr r3, Vi i4, u5, u6] [] h =
  am_rcv 11 h (Vr r1) (
  clV (Cl sc d mX11_image [Vr r1] h) am_xt fun h1 =>
  am_rcv 12 h1 (Vr r2) (
  clV (Cl sc d mX12_image [Vr r2] h1) am_xt fun h2 =>
  Ru sc (d + 1) mL_law_ 2052 [Vx 1, Vr r1, Vr r2, Vr r3, Vi i4, u5, u6] [] h2)) := (Ru_at at_L_law_ 2023 _ _ _).trans rfl
set_option maxRecDepth 60000 in
theorem q_L_law__2028 (sc : Nat × (Nat → Int)) (d : Nat) (r1 : Option Nat) (r2 : Option Nat) (r3 : Option Nat) (i4 : Int) (u5 : am_V) (u6 : am_V) (h : am_H) : Ru sc (d + 1) mL_law_ 2028 [Vx 1, Vr r1, Vr r2, Vr r3, Vi i4, u5, u6] [] h =
  am_rcv 11 h (Vr r1) (
  clI (Cl sc d mX11_back [Vr r1] h) am_xt fun v2 h1 =>
  am_rcv 12 h1 (Vr r2) (
  clI (Cl sc d mX12_back [Vr r2] h1) am_xt fun v4 h3 =>
  if v2 = v4 then
    Ru sc (d + 1) mL_law_ 2052 [Vx 1, Vr r1, Vr r2, Vr r3, Vi i4, u5, u6] [] h3
  else
    some (.inl (Vi 0), h3))) := (Ru_at at_L_law_ 2028 _ _ _).trans rfl
set_option maxRecDepth 60000 in
theorem q_L_law__2035 (sc : Nat × (Nat → Int)) (d : Nat) (r1 : Option Nat) (r2 : Option Nat) (r3 : Option Nat) (i4 : Int) (u5 : am_V) (u6 : am_V) (h : am_H) : Ru sc (d + 1) mL_law_ 2035 [Vx 1, Vr r1, Vr r2, Vr r3, Vi i4, u5, u6] [] h =
  if 0 ≤ (w32 (i4 + 1)) ∧ (w32 (i4 + 1)) < sc.1 then
  am_rcv 11 h (Vr r1) (
  clI (Cl sc d mX11_count [Vr r1, Vi (sc.2 (w32 (i4 + 1)).toNat)] h) am_xt fun v2 h1 =>
  if 0 ≤ (w32 (i4 + 1)) ∧ (w32 (i4 + 1)) < sc.1 then
  am_rcv 12 h1 (Vr r2) (
  clI (Cl sc d mX12_count [Vr r2, Vi (sc.2 (w32 (i4 + 1)).toNat)] h1) am_xt fun v4 h3 =>
  if v2 = v4 then
    Ru sc (d + 1) mL_law_ 2052 [Vx 1, Vr r1, Vr r2, Vr r3, Vi i4, u5, u6] [] h3
  else
    some (.inl (Vi 0), h3))
  else none)
  else none := (Ru_at at_L_law_ 2035 _ _ _).trans rfl
set_option maxRecDepth 60000 in
theorem q_L_law__2052 (sc : Nat × (Nat → Int)) (d : Nat) (r1 : Option Nat) (r2 : Option Nat) (r3 : Option Nat) (i4 : Int) (u5 : am_V) (u6 : am_V) (h : am_H) : Ru sc (d + 1) mL_law_ 2052 [Vx 1, Vr r1, Vr r2, Vr r3, Vi i4, u5, u6] [] h =
  Ru sc (d + 1) mL_law_ 14 [Vx 1, Vr r1, Vr r2, Vr r3, Vi (w32 (i4 + 6)), u5, u6] [] h := (Ru_at at_L_law_ 2052 _ _ _).trans rfl
