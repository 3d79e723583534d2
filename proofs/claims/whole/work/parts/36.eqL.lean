theorem at_L_county : am_at mL_county = (cd_L_county, hd_L_county, 3) := rfl
set_option maxRecDepth 60000 in
theorem q_L_county_0 (sc : Nat × (Nat → Int)) (d : Nat) (r0 : Option Nat) (r1 : Option Nat) (h : am_H) : Cl sc (d + 1) mL_county [Vr r0, Vr r1] h =
  am_rcv 11 h (Vr r0) (
  clI (Cl sc d mX11_county [Vr r0] h) (am_hx hd_L_county (Ru sc (d + 1) mL_county) 3 [Vr r0, Vr r1, Vx 0]) fun v2 h1 =>
  stA 4 h1 r1 0 v2 fun h3 =>
  some (.inl (Vi 0), h3)) := (Cl_at at_L_county rfl _).trans rfl
set_option maxRecDepth 60000 in
theorem q_L_county_7 (sc : Nat × (Nat → Int)) (d : Nat) (r0 : Option Nat) (r1 : Option Nat) (u2 : am_V) (h : am_H) : Ru sc (d + 1) mL_county 7 [Vr r0, Vr r1, u2] [Vx 0] h =
  some (.inl (Vi 1), h) := (Ru_at at_L_county 7 _ _ _).trans rfl
set_option maxRecDepth 60000 in
theorem q_L_county_10 (sc : Nat × (Nat → Int)) (d : Nat) (r0 : Option Nat) (r1 : Option Nat) (u2 : am_V) (h : am_H) : Ru sc (d + 1) mL_county 10 [Vr r0, Vr r1, u2] [Vx 0] h =
  some (.inl (Vi 2), h) := (Ru_at at_L_county 10 _ _ _).trans rfl
theorem at_L_law : am_at mL_law = (cd_L_law, hd_L_law, 3) := rfl
set_option maxRecDepth 60000 in
theorem q_L_law_0 (sc : Nat × (Nat → Int)) (d : Nat) (r0 : Option Nat) (r1 : Option Nat) (h : am_H) : Cl sc (d + 1) mL_law [Vr r0, Vr r1] h =
  am_rcv 11 h (Vr r0) (
  clI (Cl sc d mX11_law [Vr r0] h) (am_hx hd_L_law (Ru sc (d + 1) mL_law) 3 [Vr r0, Vr r1, Vx 0]) fun v2 h1 =>
  stA 4 h1 r1 0 v2 fun h3 =>
  some (.inl (Vi 0), h3)) := (Cl_at at_L_law rfl _).trans rfl
set_option maxRecDepth 60000 in
theorem q_L_law_7 (sc : Nat × (Nat → Int)) (d : Nat) (r0 : Option Nat) (r1 : Option Nat) (u2 : am_V) (h : am_H) : Ru sc (d + 1) mL_law 7 [Vr r0, Vr r1, u2] [Vx 0] h =
  some (.inl (Vi 1), h) := (Ru_at at_L_law 7 _ _ _).trans rfl
theorem at_L_border : am_at mL_border = (cd_L_border, hd_L_border, 5) := rfl
set_option maxRecDepth 60000 in
theorem q_L_border_0 (sc : Nat × (Nat → Int)) (d : Nat) (r0 : Option Nat) (i1 : Int) (i2 : Int) (r3 : Option Nat) (h : am_H) : Cl sc (d + 1) mL_border [Vr r0, Vi i1, Vi i2, Vr r3] h =
  am_rcv 11 h (Vr r0) (
  clI (Cl sc d mX11_border [Vr r0, Vi i1, Vi i2] h) (am_hx hd_L_border (Ru sc (d + 1) mL_border) 5 [Vr r0, Vi i1, Vi i2, Vr r3, Vx 0]) fun v2 h1 =>
  stA 4 h1 r3 0 v2 fun h3 =>
  some (.inl (Vi 0), h3)) := (Cl_at at_L_border rfl _).trans rfl
set_option maxRecDepth 60000 in
theorem q_L_border_9 (sc : Nat × (Nat → Int)) (d : Nat) (r0 : Option Nat) (i1 : Int) (i2 : Int) (r3 : Option Nat) (u4 : am_V) (h : am_H) : Ru sc (d + 1) mL_border 9 [Vr r0, Vi i1, Vi i2, Vr r3, u4] [Vx 0] h =
  some (.inl (Vi 1), h) := (Ru_at at_L_border 9 _ _ _).trans rfl
set_option maxRecDepth 60000 in
theorem q_L_border_12 (sc : Nat × (Nat → Int)) (d : Nat) (r0 : Option Nat) (i1 : Int) (i2 : Int) (r3 : Option Nat) (u4 : am_V) (h : am_H) : Ru sc (d + 1) mL_border 12 [Vr r0, Vi i1, Vi i2, Vr r3, u4] [Vx 0] h =
  some (.inl (Vi 2), h) := (Ru_at at_L_border 12 _ _ _).trans rfl
theorem at_L_between : am_at mL_between = (cd_L_between, hd_L_between, 5) := rfl
set_option maxRecDepth 60000 in
theorem q_L_between_0 (sc : Nat × (Nat → Int)) (d : Nat) (r0 : Option Nat) (i1 : Int) (i2 : Int) (r3 : Option Nat) (h : am_H) : Cl sc (d + 1) mL_between [Vr r0, Vi i1, Vi i2, Vr r3] h =
  am_rcv 11 h (Vr r0) (
  clI (Cl sc d mX11_between [Vr r0, Vi i1, Vi i2] h) (am_hx hd_L_between (Ru sc (d + 1) mL_between) 5 [Vr r0, Vi i1, Vi i2, Vr r3, Vx 0]) fun v2 h1 =>
  stA 4 h1 r3 0 v2 fun h3 =>
  some (.inl (Vi 0), h3)) := (Cl_at at_L_between rfl _).trans rfl
set_option maxRecDepth 60000 in
theorem q_L_between_9 (sc : Nat × (Nat → Int)) (d : Nat) (r0 : Option Nat) (i1 : Int) (i2 : Int) (r3 : Option Nat) (u4 : am_V) (h : am_H) : Ru sc (d + 1) mL_between 9 [Vr r0, Vi i1, Vi i2, Vr r3, u4] [Vx 0] h =
  some (.inl (Vi 1), h) := (Ru_at at_L_between 9 _ _ _).trans rfl
theorem at_L_family : am_at mL_family = (cd_L_family, hd_L_family, 5) := rfl
set_option maxRecDepth 60000 in
theorem q_L_family_0 (sc : Nat × (Nat → Int)) (d : Nat) (r0 : Option Nat) (i1 : Int) (i2 : Int) (r3 : Option Nat) (h : am_H) : Cl sc (d + 1) mL_family [Vr r0, Vi i1, Vi i2, Vr r3] h =
  am_rcv 11 h (Vr r0) (
  clI (Cl sc d mX11_family [Vr r0, Vi i1, Vi i2] h) (am_hx hd_L_family (Ru sc (d + 1) mL_family) 5 [Vr r0, Vi i1, Vi i2, Vr r3, Vx 0]) fun v2 h1 =>
  stA 4 h1 r3 0 v2 fun h3 =>
  some (.inl (Vi 0), h3)) := (Cl_at at_L_family rfl _).trans rfl
set_option maxRecDepth 60000 in
theorem q_L_family_9 (sc : Nat × (Nat → Int)) (d : Nat) (r0 : Option Nat) (i1 : Int) (i2 : Int) (r3 : Option Nat) (u4 : am_V) (h : am_H) : Ru sc (d + 1) mL_family 9 [Vr r0, Vi i1, Vi i2, Vr r3, u4] [Vx 0] h =
  some (.inl (Vi 1), h) := (Ru_at at_L_family 9 _ _ _).trans rfl
set_option maxRecDepth 60000 in
theorem q_L_family_12 (sc : Nat × (Nat → Int)) (d : Nat) (r0 : Option Nat) (i1 : Int) (i2 : Int) (r3 : Option Nat) (u4 : am_V) (h : am_H) : Ru sc (d + 1) mL_family 12 [Vr r0, Vi i1, Vi i2, Vr r3, u4] [Vx 0] h =
  some (.inl (Vi 2), h) := (Ru_at at_L_family 12 _ _ _).trans rfl
theorem at_L_years : am_at mL_years = (cd_L_years, hd_L_years, 4) := rfl
set_option maxRecDepth 60000 in
theorem q_L_years_0 (sc : Nat × (Nat → Int)) (d : Nat) (r0 : Option Nat) (i1 : Int) (r2 : Option Nat) (h : am_H) : Cl sc (d + 1) mL_years [Vr r0, Vi i1, Vr r2] h =
  am_rcv 11 h (Vr r0) (
  clI (Cl sc d mX11_years [Vr r0, Vi i1] h) (am_hx hd_L_years (Ru sc (d + 1) mL_years) 4 [Vr r0, Vi i1, Vr r2, Vx 0]) fun v2 h1 =>
  stA 4 h1 r2 0 v2 fun h3 =>
  some (.inl (Vi 0), h3)) := (Cl_at at_L_years rfl _).trans rfl
set_option maxRecDepth 60000 in
theorem q_L_years_8 (sc : Nat × (Nat → Int)) (d : Nat) (r0 : Option Nat) (i1 : Int) (r2 : Option Nat) (u3 : am_V) (h : am_H) : Ru sc (d + 1) mL_years 8 [Vr r0, Vi i1, Vr r2, u3] [Vx 0] h =
  some (.inl (Vi 1), h) := (Ru_at at_L_years 8 _ _ _).trans rfl
theorem at_L_raise : am_at mL_raise = (cd_L_raise, hd_L_raise, 4) := rfl
set_option maxRecDepth 60000 in
theorem q_L_raise_0 (sc : Nat × (Nat → Int)) (d : Nat) (r0 : Option Nat) (i1 : Int) (r2 : Option Nat) (h : am_H) : Cl sc (d + 1) mL_raise [Vr r0, Vi i1, Vr r2] h =
  am_rcv 11 h (Vr r0) (
  clI (Cl sc d mX11_raise [Vr r0, Vi i1] h) (am_hx hd_L_raise (Ru sc (d + 1) mL_raise) 4 [Vr r0, Vi i1, Vr r2, Vx 0]) fun v2 h1 =>
  stA 4 h1 r2 0 v2 fun h3 =>
  some (.inl (Vi 0), h3)) := (Cl_at at_L_raise rfl _).trans rfl
set_option maxRecDepth 60000 in
theorem q_L_raise_8 (sc : Nat × (Nat → Int)) (d : Nat) (r0 : Option Nat) (i1 : Int) (r2 : Option Nat) (u3 : am_V) (h : am_H) : Ru sc (d + 1) mL_raise 8 [Vr r0, Vi i1, Vr r2, u3] [Vx 0] h =
  some (.inl (Vi 1), h) := (Ru_at at_L_raise 8 _ _ _).trans rfl
set_option maxRecDepth 60000 in
theorem q_L_raise_11 (sc : Nat × (Nat → Int)) (d : Nat) (r0 : Option Nat) (i1 : Int) (r2 : Option Nat) (u3 : am_V) (h : am_H) : Ru sc (d + 1) mL_raise 11 [Vr r0, Vi i1, Vr r2, u3] [Vx 0] h =
  some (.inl (Vi 2), h) := (Ru_at at_L_raise 11 _ _ _).trans rfl
theorem at_L_pull : am_at mL_pull = (cd_L_pull, hd_L_pull, 4) := rfl
set_option maxRecDepth 60000 in
theorem q_L_pull_0 (sc : Nat × (Nat → Int)) (d : Nat) (r0 : Option Nat) (i1 : Int) (r2 : Option Nat) (h : am_H) : Cl sc (d + 1) mL_pull [Vr r0, Vi i1, Vr r2] h =
  am_rcv 11 h (Vr r0) (
  clI (Cl sc d mX11_pull [Vr r0, Vi i1] h) (am_hx hd_L_pull (Ru sc (d + 1) mL_pull) 4 [Vr r0, Vi i1, Vr r2, Vx 0]) fun v2 h1 =>
  stA 4 h1 r2 0 v2 fun h3 =>
  some (.inl (Vi 0), h3)) := (Cl_at at_L_pull rfl _).trans rfl
set_option maxRecDepth 60000 in
theorem q_L_pull_8 (sc : Nat × (Nat → Int)) (d : Nat) (r0 : Option Nat) (i1 : Int) (r2 : Option Nat) (u3 : am_V) (h : am_H) : Ru sc (d + 1) mL_pull 8 [Vr r0, Vi i1, Vr r2, u3] [Vx 0] h =
  some (.inl (Vi 1), h) := (Ru_at at_L_pull 8 _ _ _).trans rfl
set_option maxRecDepth 60000 in
theorem q_L_pull_11 (sc : Nat × (Nat → Int)) (d : Nat) (r0 : Option Nat) (i1 : Int) (r2 : Option Nat) (u3 : am_V) (h : am_H) : Ru sc (d + 1) mL_pull 11 [Vr r0, Vi i1, Vr r2, u3] [Vx 0] h =
  some (.inl (Vi 2), h) := (Ru_at at_L_pull 11 _ _ _).trans rfl
theorem at_L_gate : am_at mL_gate = (cd_L_gate, hd_L_gate, 5) := rfl
set_option maxRecDepth 60000 in
theorem q_L_gate_0 (sc : Nat × (Nat → Int)) (d : Nat) (r0 : Option Nat) (i1 : Int) (i2 : Int) (r3 : Option Nat) (h : am_H) : Cl sc (d + 1) mL_gate [Vr r0, Vi i1, Vi i2, Vr r3] h =
  am_rcv 11 h (Vr r0) (
  clI (Cl sc d mX11_gate [Vr r0, Vi i1, Vi i2] h) (am_hx hd_L_gate (Ru sc (d + 1) mL_gate) 5 [Vr r0, Vi i1, Vi i2, Vr r3, Vx 0]) fun v2 h1 =>
  if v2 = 0 then
    stA 4 h1 r3 0 0 fun h3 =>
    some (.inl (Vi 0), h3)
  else
    stA 4 h1 r3 0 1 fun h4 =>
    some (.inl (Vi 0), h4)) := (Cl_at at_L_gate rfl _).trans rfl
set_option maxRecDepth 60000 in
theorem q_L_gate_12 (sc : Nat × (Nat → Int)) (d : Nat) (r0 : Option Nat) (i1 : Int) (i2 : Int) (r3 : Option Nat) (u4 : am_V) (h : am_H) : Ru sc (d + 1) mL_gate 12 [Vr r0, Vi i1, Vi i2, Vr r3, u4] [Vx 0] h =
  some (.inl (Vi 1), h) := (Ru_at at_L_gate 12 _ _ _).trans rfl
set_option maxRecDepth 60000 in
theorem q_L_gate_15 (sc : Nat × (Nat → Int)) (d : Nat) (r0 : Option Nat) (i1 : Int) (i2 : Int) (r3 : Option Nat) (u4 : am_V) (h : am_H) : Ru sc (d + 1) mL_gate 15 [Vr r0, Vi i1, Vi i2, Vr r3, u4] [Vx 0] h =
  some (.inl (Vi 2), h) := (Ru_at at_L_gate 15 _ _ _).trans rfl
theorem at_L_string : am_at mL_string = (cd_L_string, hd_L_string, 5) := rfl
set_option maxRecDepth 60000 in
theorem q_L_string_0 (sc : Nat × (Nat → Int)) (d : Nat) (r0 : Option Nat) (i1 : Int) (i2 : Int) (r3 : Option Nat) (h : am_H) : Cl sc (d + 1) mL_string [Vr r0, Vi i1, Vi i2, Vr r3] h =
  am_rcv 11 h (Vr r0) (
  clI (Cl sc d mX11_string [Vr r0, Vi i1, Vi i2] h) (am_hx hd_L_string (Ru sc (d + 1) mL_string) 5 [Vr r0, Vi i1, Vi i2, Vr r3, Vx 0]) fun v2 h1 =>
  if v2 = 0 then
    stA 4 h1 r3 0 0 fun h3 =>
    some (.inl (Vi 0), h3)
  else
    stA 4 h1 r3 0 1 fun h4 =>
    some (.inl (Vi 0), h4)) := (Cl_at at_L_string rfl _).trans rfl
set_option maxRecDepth 60000 in
theorem q_L_string_12 (sc : Nat × (Nat → Int)) (d : Nat) (r0 : Option Nat) (i1 : Int) (i2 : Int) (r3 : Option Nat) (u4 : am_V) (h : am_H) : Ru sc (d + 1) mL_string 12 [Vr r0, Vi i1, Vi i2, Vr r3, u4] [Vx 0] h =
  some (.inl (Vi 1), h) := (Ru_at at_L_string 12 _ _ _).trans rfl
set_option maxRecDepth 60000 in
theorem q_L_string_15 (sc : Nat × (Nat → Int)) (d : Nat) (r0 : Option Nat) (i1 : Int) (i2 : Int) (r3 : Option Nat) (u4 : am_V) (h : am_H) : Ru sc (d + 1) mL_string 15 [Vr r0, Vi i1, Vi i2, Vr r3, u4] [Vx 0] h =
  some (.inl (Vi 2), h) := (Ru_at at_L_string 15 _ _ _).trans rfl
theorem at_L_again : am_at mL_again = (cd_L_again, hd_L_again, 5) := rfl
set_option maxRecDepth 60000 in
theorem q_L_again_0 (sc : Nat × (Nat → Int)) (d : Nat) (r0 : Option Nat) (i1 : Int) (i2 : Int) (r3 : Option Nat) (h : am_H) : Cl sc (d + 1) mL_again [Vr r0, Vi i1, Vi i2, Vr r3] h =
  am_rcv 11 h (Vr r0) (
  clI (Cl sc d mX11_again [Vr r0, Vi i1, Vi i2] h) (am_hx hd_L_again (Ru sc (d + 1) mL_again) 5 [Vr r0, Vi i1, Vi i2, Vr r3, Vx 0]) fun v2 h1 =>
  stA 4 h1 r3 0 v2 fun h3 =>
  some (.inl (Vi 0), h3)) := (Cl_at at_L_again rfl _).trans rfl
set_option maxRecDepth 60000 in
theorem q_L_again_9 (sc : Nat × (Nat → Int)) (d : Nat) (r0 : Option Nat) (i1 : Int) (i2 : Int) (r3 : Option Nat) (u4 : am_V) (h : am_H) : Ru sc (d + 1) mL_again 9 [Vr r0, Vi i1, Vi i2, Vr r3, u4] [Vx 0] h =
  some (.inl (Vi 1), h) := (Ru_at at_L_again 9 _ _ _).trans rfl
set_option maxRecDepth 60000 in
theorem q_L_again_12 (sc : Nat × (Nat → Int)) (d : Nat) (r0 : Option Nat) (i1 : Int) (i2 : Int) (r3 : Option Nat) (u4 : am_V) (h : am_H) : Ru sc (d + 1) mL_again 12 [Vr r0, Vi i1, Vi i2, Vr r3, u4] [Vx 0] h =
  some (.inl (Vi 2), h) := (Ru_at at_L_again 12 _ _ _).trans rfl
set_option maxRecDepth 60000 in
theorem q_L_again_15 (sc : Nat × (Nat → Int)) (d : Nat) (r0 : Option Nat) (i1 : Int) (i2 : Int) (r3 : Option Nat) (u4 : am_V) (h : am_H) : Ru sc (d + 1) mL_again 15 [Vr r0, Vi i1, Vi i2, Vr r3, u4] [Vx 0] h =
  some (.inl (Vi 3), h) := (Ru_at at_L_again 15 _ _ _).trans rfl
theorem at_L_forgive : am_at mL_forgive = (cd_L_forgive, hd_L_forgive, 4) := rfl
set_option maxRecDepth 60000 in
theorem q_L_forgive_0 (sc : Nat × (Nat → Int)) (d : Nat) (r0 : Option Nat) (i1 : Int) (r2 : Option Nat) (h : am_H) : Cl sc (d + 1) mL_forgive [Vr r0, Vi i1, Vr r2] h =
  am_rcv 11 h (Vr r0) (
  clI (Cl sc d mX11_forgive [Vr r0, Vi i1] h) (am_hx hd_L_forgive (Ru sc (d + 1) mL_forgive) 4 [Vr r0, Vi i1, Vr r2, Vx 0]) fun v2 h1 =>
  stA 4 h1 r2 0 v2 fun h3 =>
  some (.inl (Vi 0), h3)) := (Cl_at at_L_forgive rfl _).trans rfl
set_option maxRecDepth 60000 in
theorem q_L_forgive_8 (sc : Nat × (Nat → Int)) (d : Nat) (r0 : Option Nat) (i1 : Int) (r2 : Option Nat) (u3 : am_V) (h : am_H) : Ru sc (d + 1) mL_forgive 8 [Vr r0, Vi i1, Vr r2, u3] [Vx 0] h =
  some (.inl (Vi 1), h) := (Ru_at at_L_forgive 8 _ _ _).trans rfl
theorem at_L_move : am_at mL_move = (cd_L_move, hd_L_move, 5) := rfl
set_option maxRecDepth 60000 in
theorem q_L_move_0 (sc : Nat × (Nat → Int)) (d : Nat) (r0 : Option Nat) (i1 : Int) (i2 : Int) (r3 : Option Nat) (h : am_H) : Cl sc (d + 1) mL_move [Vr r0, Vi i1, Vi i2, Vr r3] h =
  am_rcv 11 h (Vr r0) (
  clI (Cl sc d mX11_move [Vr r0, Vi i1, Vi i2] h) (am_hx hd_L_move (Ru sc (d + 1) mL_move) 5 [Vr r0, Vi i1, Vi i2, Vr r3, Vx 0]) fun v2 h1 =>
  stA 4 h1 r3 0 v2 fun h3 =>
  some (.inl (Vi 0), h3)) := (Cl_at at_L_move rfl _).trans rfl
set_option maxRecDepth 60000 in
theorem q_L_move_9 (sc : Nat × (Nat → Int)) (d : Nat) (r0 : Option Nat) (i1 : Int) (i2 : Int) (r3 : Option Nat) (u4 : am_V) (h : am_H) : Ru sc (d + 1) mL_move 9 [Vr r0, Vi i1, Vi i2, Vr r3, u4] [Vx 0] h =
  some (.inl (Vi 1), h) := (Ru_at at_L_move 9 _ _ _).trans rfl
theorem at_L_learn : am_at mL_learn = (cd_L_learn, hd_L_learn, 5) := rfl
set_option maxRecDepth 60000 in
theorem q_L_learn_0 (sc : Nat × (Nat → Int)) (d : Nat) (r0 : Option Nat) (i1 : Int) (i2 : Int) (r3 : Option Nat) (h : am_H) : Cl sc (d + 1) mL_learn [Vr r0, Vi i1, Vi i2, Vr r3] h =
  am_rcv 11 h (Vr r0) (
  clI (Cl sc d mX11_learn [Vr r0, Vi i1, Vi i2] h) (am_hx hd_L_learn (Ru sc (d + 1) mL_learn) 5 [Vr r0, Vi i1, Vi i2, Vr r3, Vx 0]) fun v2 h1 =>
  stA 4 h1 r3 0 v2 fun h3 =>
  some (.inl (Vi 0), h3)) := (Cl_at at_L_learn rfl _).trans rfl
set_option maxRecDepth 60000 in
theorem q_L_learn_9 (sc : Nat × (Nat → Int)) (d : Nat) (r0 : Option Nat) (i1 : Int) (i2 : Int) (r3 : Option Nat) (u4 : am_V) (h : am_H) : Ru sc (d + 1) mL_learn 9 [Vr r0, Vi i1, Vi i2, Vr r3, u4] [Vx 0] h =
  some (.inl (Vi 1), h) := (Ru_at at_L_learn 9 _ _ _).trans rfl
set_option maxRecDepth 60000 in
theorem q_L_learn_12 (sc : Nat × (Nat → Int)) (d : Nat) (r0 : Option Nat) (i1 : Int) (i2 : Int) (r3 : Option Nat) (u4 : am_V) (h : am_H) : Ru sc (d + 1) mL_learn 12 [Vr r0, Vi i1, Vi i2, Vr r3, u4] [Vx 0] h =
  some (.inl (Vi 2), h) := (Ru_at at_L_learn 12 _ _ _).trans rfl
theorem at_L_open : am_at mL_open = (cd_L_open, hd_L_open, 5) := rfl
set_option maxRecDepth 60000 in
theorem q_L_open_0 (sc : Nat × (Nat → Int)) (d : Nat) (r0 : Option Nat) (i1 : Int) (i2 : Int) (r3 : Option Nat) (h : am_H) : Cl sc (d + 1) mL_open [Vr r0, Vi i1, Vi i2, Vr r3] h =
  am_rcv 11 h (Vr r0) (
  clI (Cl sc d mX11_open [Vr r0, Vi i1, Vi i2] h) (am_hx hd_L_open (Ru sc (d + 1) mL_open) 5 [Vr r0, Vi i1, Vi i2, Vr r3, Vx 0]) fun v2 h1 =>
  if v2 = 0 then
    stA 4 h1 r3 0 0 fun h3 =>
    some (.inl (Vi 0), h3)
  else
    stA 4 h1 r3 0 1 fun h4 =>
    some (.inl (Vi 0), h4)) := (Cl_at at_L_open rfl _).trans rfl
set_option maxRecDepth 60000 in
theorem q_L_open_12 (sc : Nat × (Nat → Int)) (d : Nat) (r0 : Option Nat) (i1 : Int) (i2 : Int) (r3 : Option Nat) (u4 : am_V) (h : am_H) : Ru sc (d + 1) mL_open 12 [Vr r0, Vi i1, Vi i2, Vr r3, u4] [Vx 0] h =
  some (.inl (Vi 1), h) := (Ru_at at_L_open 12 _ _ _).trans rfl
set_option maxRecDepth 60000 in
theorem q_L_open_15 (sc : Nat × (Nat → Int)) (d : Nat) (r0 : Option Nat) (i1 : Int) (i2 : Int) (r3 : Option Nat) (u4 : am_V) (h : am_H) : Ru sc (d + 1) mL_open 15 [Vr r0, Vi i1, Vi i2, Vr r3, u4] [Vx 0] h =
  some (.inl (Vi 2), h) := (Ru_at at_L_open 15 _ _ _).trans rfl
theorem at_L_far : am_at mL_far = (cd_L_far, hd_L_far, 5) := rfl
set_option maxRecDepth 60000 in
theorem q_L_far_0 (sc : Nat × (Nat → Int)) (d : Nat) (r0 : Option Nat) (i1 : Int) (i2 : Int) (r3 : Option Nat) (h : am_H) : Cl sc (d + 1) mL_far [Vr r0, Vi i1, Vi i2, Vr r3] h =
  am_rcv 11 h (Vr r0) (
  clI (Cl sc d mX11_far [Vr r0, Vi i1, Vi i2] h) (am_hx hd_L_far (Ru sc (d + 1) mL_far) 5 [Vr r0, Vi i1, Vi i2, Vr r3, Vx 0]) fun v2 h1 =>
  stA 4 h1 r3 0 v2 fun h3 =>
  some (.inl (Vi 0), h3)) := (Cl_at at_L_far rfl _).trans rfl
set_option maxRecDepth 60000 in
theorem q_L_far_9 (sc : Nat × (Nat → Int)) (d : Nat) (r0 : Option Nat) (i1 : Int) (i2 : Int) (r3 : Option Nat) (u4 : am_V) (h : am_H) : Ru sc (d + 1) mL_far 9 [Vr r0, Vi i1, Vi i2, Vr r3, u4] [Vx 0] h =
  some (.inl (Vi 1), h) := (Ru_at at_L_far 9 _ _ _).trans rfl
theorem at_L_meet : am_at mL_meet = (cd_L_meet, hd_L_meet, 5) := rfl
set_option maxRecDepth 60000 in
theorem q_L_meet_0 (sc : Nat × (Nat → Int)) (d : Nat) (r0 : Option Nat) (i1 : Int) (i2 : Int) (r3 : Option Nat) (h : am_H) : Cl sc (d + 1) mL_meet [Vr r0, Vi i1, Vi i2, Vr r3] h =
  am_rcv 11 h (Vr r0) (
  clI (Cl sc d mX11_meet [Vr r0, Vi i1, Vi i2] h) (am_hx hd_L_meet (Ru sc (d + 1) mL_meet) 5 [Vr r0, Vi i1, Vi i2, Vr r3, Vx 0]) fun v2 h1 =>
  if v2 = 0 then
    stA 4 h1 r3 0 0 fun h3 =>
    some (.inl (Vi 0), h3)
  else
    stA 4 h1 r3 0 1 fun h4 =>
    some (.inl (Vi 0), h4)) := (Cl_at at_L_meet rfl _).trans rfl
set_option maxRecDepth 60000 in
theorem q_L_meet_12 (sc : Nat × (Nat → Int)) (d : Nat) (r0 : Option Nat) (i1 : Int) (i2 : Int) (r3 : Option Nat) (u4 : am_V) (h : am_H) : Ru sc (d + 1) mL_meet 12 [Vr r0, Vi i1, Vi i2, Vr r3, u4] [Vx 0] h =
  some (.inl (Vi 1), h) := (Ru_at at_L_meet 12 _ _ _).trans rfl
set_option maxRecDepth 60000 in
theorem q_L_meet_15 (sc : Nat × (Nat → Int)) (d : Nat) (r0 : Option Nat) (i1 : Int) (i2 : Int) (r3 : Option Nat) (u4 : am_V) (h : am_H) : Ru sc (d + 1) mL_meet 15 [Vr r0, Vi i1, Vi i2, Vr r3, u4] [Vx 0] h =
  some (.inl (Vi 2), h) := (Ru_at at_L_meet 15 _ _ _).trans rfl
theorem at_L_halfway : am_at mL_halfway = (cd_L_halfway, hd_L_halfway, 5) := rfl
set_option maxRecDepth 60000 in
theorem q_L_halfway_0 (sc : Nat × (Nat → Int)) (d : Nat) (r0 : Option Nat) (i1 : Int) (i2 : Int) (r3 : Option Nat) (h : am_H) : Cl sc (d + 1) mL_halfway [Vr r0, Vi i1, Vi i2, Vr r3] h =
  am_rcv 11 h (Vr r0) (
  clI (Cl sc d mX11_halfway [Vr r0, Vi i1, Vi i2] h) (am_hx hd_L_halfway (Ru sc (d + 1) mL_halfway) 5 [Vr r0, Vi i1, Vi i2, Vr r3, Vx 0]) fun v2 h1 =>
  stA 4 h1 r3 0 v2 fun h3 =>
  some (.inl (Vi 0), h3)) := (Cl_at at_L_halfway rfl _).trans rfl
set_option maxRecDepth 60000 in
theorem q_L_halfway_9 (sc : Nat × (Nat → Int)) (d : Nat) (r0 : Option Nat) (i1 : Int) (i2 : Int) (r3 : Option Nat) (u4 : am_V) (h : am_H) : Ru sc (d + 1) mL_halfway 9 [Vr r0, Vi i1, Vi i2, Vr r3, u4] [Vx 0] h =
  some (.inl (Vi 1), h) := (Ru_at at_L_halfway 9 _ _ _).trans rfl
set_option maxRecDepth 60000 in
theorem q_L_halfway_12 (sc : Nat × (Nat → Int)) (d : Nat) (r0 : Option Nat) (i1 : Int) (i2 : Int) (r3 : Option Nat) (u4 : am_V) (h : am_H) : Ru sc (d + 1) mL_halfway 12 [Vr r0, Vi i1, Vi i2, Vr r3, u4] [Vx 0] h =
  some (.inl (Vi 2), h) := (Ru_at at_L_halfway 12 _ _ _).trans rfl
theorem at_L_sees : am_at mL_sees = (cd_L_sees, hd_L_sees, 5) := rfl
set_option maxRecDepth 60000 in
theorem q_L_sees_0 (sc : Nat × (Nat → Int)) (d : Nat) (r0 : Option Nat) (i1 : Int) (i2 : Int) (r3 : Option Nat) (h : am_H) : Cl sc (d + 1) mL_sees [Vr r0, Vi i1, Vi i2, Vr r3] h =
  am_rcv 11 h (Vr r0) (
  clI (Cl sc d mX11_sees [Vr r0, Vi i1, Vi i2] h) (am_hx hd_L_sees (Ru sc (d + 1) mL_sees) 5 [Vr r0, Vi i1, Vi i2, Vr r3, Vx 0]) fun v2 h1 =>
  if v2 = 0 then
    stA 4 h1 r3 0 0 fun h3 =>
    some (.inl (Vi 0), h3)
  else
    stA 4 h1 r3 0 1 fun h4 =>
    some (.inl (Vi 0), h4)) := (Cl_at at_L_sees rfl _).trans rfl
set_option maxRecDepth 60000 in
theorem q_L_sees_12 (sc : Nat × (Nat → Int)) (d : Nat) (r0 : Option Nat) (i1 : Int) (i2 : Int) (r3 : Option Nat) (u4 : am_V) (h : am_H) : Ru sc (d + 1) mL_sees 12 [Vr r0, Vi i1, Vi i2, Vr r3, u4] [Vx 0] h =
  some (.inl (Vi 1), h) := (Ru_at at_L_sees 12 _ _ _).trans rfl
theorem at_L_pulls : am_at mL_pulls = (cd_L_pulls, hd_L_pulls, 6) := rfl
set_option maxRecDepth 60000 in
theorem q_L_pulls_0 (sc : Nat × (Nat → Int)) (d : Nat) (r0 : Option Nat) (i1 : Int) (i2 : Int) (i3 : Int) (r4 : Option Nat) (h : am_H) : Cl sc (d + 1) mL_pulls [Vr r0, Vi i1, Vi i2, Vi i3, Vr r4] h =
  am_rcv 11 h (Vr r0) (
  clI (Cl sc d mX11_pulls [Vr r0, Vi i1, Vi i2, Vi i3] h) (am_hx hd_L_pulls (Ru sc (d + 1) mL_pulls) 7 [Vr r0, Vi i1, Vi i2, Vi i3, Vr r4, Vx 0]) fun v2 h1 =>
  stA 4 h1 r4 0 v2 fun h3 =>
  some (.inl (Vi 0), h3)) := (Cl_at at_L_pulls rfl _).trans rfl
set_option maxRecDepth 60000 in
theorem q_L_pulls_10 (sc : Nat × (Nat → Int)) (d : Nat) (r0 : Option Nat) (i1 : Int) (i2 : Int) (i3 : Int) (r4 : Option Nat) (u5 : am_V) (h : am_H) : Ru sc (d + 1) mL_pulls 10 [Vr r0, Vi i1, Vi i2, Vi i3, Vr r4, u5] [Vx 0] h =
  some (.inl (Vi 1), h) := (Ru_at at_L_pulls 10 _ _ _).trans rfl
set_option maxRecDepth 60000 in
theorem q_L_pulls_13 (sc : Nat × (Nat → Int)) (d : Nat) (r0 : Option Nat) (i1 : Int) (i2 : Int) (i3 : Int) (r4 : Option Nat) (u5 : am_V) (h : am_H) : Ru sc (d + 1) mL_pulls 13 [Vr r0, Vi i1, Vi i2, Vi i3, Vr r4, u5] [Vx 0] h =
  some (.inl (Vi 2), h) := (Ru_at at_L_pulls 13 _ _ _).trans rfl
theorem at_L_lowest : am_at mL_lowest = (cd_L_lowest, hd_L_lowest, 5) := rfl
set_option maxRecDepth 60000 in
theorem q_L_lowest_0 (sc : Nat × (Nat → Int)) (d : Nat) (r0 : Option Nat) (i1 : Int) (i2 : Int) (r3 : Option Nat) (h : am_H) : Cl sc (d + 1) mL_lowest [Vr r0, Vi i1, Vi i2, Vr r3] h =
  am_rcv 11 h (Vr r0) (
  clI (Cl sc d mX11_lowest [Vr r0, Vi i1, Vi i2] h) (am_hx hd_L_lowest (Ru sc (d + 1) mL_lowest) 5 [Vr r0, Vi i1, Vi i2, Vr r3, Vx 0]) fun v2 h1 =>
  stA 4 h1 r3 0 v2 fun h3 =>
  some (.inl (Vi 0), h3)) := (Cl_at at_L_lowest rfl _).trans rfl
set_option maxRecDepth 60000 in
theorem q_L_lowest_9 (sc : Nat × (Nat → Int)) (d : Nat) (r0 : Option Nat) (i1 : Int) (i2 : Int) (r3 : Option Nat) (u4 : am_V) (h : am_H) : Ru sc (d + 1) mL_lowest 9 [Vr r0, Vi i1, Vi i2, Vr r3, u4] [Vx 0] h =
  some (.inl (Vi 1), h) := (Ru_at at_L_lowest 9 _ _ _).trans rfl
theorem at_L_closes : am_at mL_closes = (cd_L_closes, hd_L_closes, 6) := rfl
set_option maxRecDepth 60000 in
theorem q_L_closes_0 (sc : Nat × (Nat → Int)) (d : Nat) (r0 : Option Nat) (i1 : Int) (i2 : Int) (i3 : Int) (r4 : Option Nat) (h : am_H) : Cl sc (d + 1) mL_closes [Vr r0, Vi i1, Vi i2, Vi i3, Vr r4] h =
  am_rcv 11 h (Vr r0) (
  clI (Cl sc d mX11_closes [Vr r0, Vi i1, Vi i2, Vi i3] h) (am_hx hd_L_closes (Ru sc (d + 1) mL_closes) 7 [Vr r0, Vi i1, Vi i2, Vi i3, Vr r4, Vx 0]) fun v2 h1 =>
  stA 4 h1 r4 0 v2 fun h3 =>
  some (.inl (Vi 0), h3)) := (Cl_at at_L_closes rfl _).trans rfl
set_option maxRecDepth 60000 in
theorem q_L_closes_10 (sc : Nat × (Nat → Int)) (d : Nat) (r0 : Option Nat) (i1 : Int) (i2 : Int) (i3 : Int) (r4 : Option Nat) (u5 : am_V) (h : am_H) : Ru sc (d + 1) mL_closes 10 [Vr r0, Vi i1, Vi i2, Vi i3, Vr r4, u5] [Vx 0] h =
  some (.inl (Vi 1), h) := (Ru_at at_L_closes 10 _ _ _).trans rfl
set_option maxRecDepth 60000 in
theorem q_L_closes_13 (sc : Nat × (Nat → Int)) (d : Nat) (r0 : Option Nat) (i1 : Int) (i2 : Int) (i3 : Int) (r4 : Option Nat) (u5 : am_V) (h : am_H) : Ru sc (d + 1) mL_closes 13 [Vr r0, Vi i1, Vi i2, Vi i3, Vr r4, u5] [Vx 0] h =
  some (.inl (Vi 2), h) := (Ru_at at_L_closes 13 _ _ _).trans rfl
theorem at_L_lands : am_at mL_lands = (cd_L_lands, hd_L_lands, 4) := rfl
set_option maxRecDepth 60000 in
theorem q_L_lands_0 (sc : Nat × (Nat → Int)) (d : Nat) (r0 : Option Nat) (i1 : Int) (r2 : Option Nat) (h : am_H) : Cl sc (d + 1) mL_lands [Vr r0, Vi i1, Vr r2] h =
  am_rcv 11 h (Vr r0) (
  clI (Cl sc d mX11_lands [Vr r0, Vi i1] h) (am_hx hd_L_lands (Ru sc (d + 1) mL_lands) 4 [Vr r0, Vi i1, Vr r2, Vx 0]) fun v2 h1 =>
  stA 4 h1 r2 0 v2 fun h3 =>
  some (.inl (Vi 0), h3)) := (Cl_at at_L_lands rfl _).trans rfl
set_option maxRecDepth 60000 in
theorem q_L_lands_8 (sc : Nat × (Nat → Int)) (d : Nat) (r0 : Option Nat) (i1 : Int) (r2 : Option Nat) (u3 : am_V) (h : am_H) : Ru sc (d + 1) mL_lands 8 [Vr r0, Vi i1, Vr r2, u3] [Vx 0] h =
  some (.inl (Vi 1), h) := (Ru_at at_L_lands 8 _ _ _).trans rfl
theorem at_L_wide : am_at mL_wide = (cd_L_wide, hd_L_wide, 4) := rfl
set_option maxRecDepth 60000 in
theorem q_L_wide_0 (sc : Nat × (Nat → Int)) (d : Nat) (r0 : Option Nat) (i1 : Int) (r2 : Option Nat) (h : am_H) : Cl sc (d + 1) mL_wide [Vr r0, Vi i1, Vr r2] h =
  am_rcv 11 h (Vr r0) (
  clI (Cl sc d mX11_wide [Vr r0, Vi i1] h) (am_hx hd_L_wide (Ru sc (d + 1) mL_wide) 4 [Vr r0, Vi i1, Vr r2, Vx 0]) fun v2 h1 =>
  stA 4 h1 r2 0 v2 fun h3 =>
  some (.inl (Vi 0), h3)) := (Cl_at at_L_wide rfl _).trans rfl
set_option maxRecDepth 60000 in
theorem q_L_wide_8 (sc : Nat × (Nat → Int)) (d : Nat) (r0 : Option Nat) (i1 : Int) (r2 : Option Nat) (u3 : am_V) (h : am_H) : Ru sc (d + 1) mL_wide 8 [Vr r0, Vi i1, Vr r2, u3] [Vx 0] h =
  some (.inl (Vi 1), h) := (Ru_at at_L_wide 8 _ _ _).trans rfl
theorem at_L_land : am_at mL_land = (cd_L_land, hd_L_land, 5) := rfl
set_option maxRecDepth 60000 in
theorem q_L_land_0 (sc : Nat × (Nat → Int)) (d : Nat) (r0 : Option Nat) (i1 : Int) (i2 : Int) (r3 : Option Nat) (h : am_H) : Cl sc (d + 1) mL_land [Vr r0, Vi i1, Vi i2, Vr r3] h =
  am_rcv 11 h (Vr r0) (
  clI (Cl sc d mX11_land [Vr r0, Vi i1, Vi i2] h) (am_hx hd_L_land (Ru sc (d + 1) mL_land) 5 [Vr r0, Vi i1, Vi i2, Vr r3, Vx 0]) fun v2 h1 =>
  stA 4 h1 r3 0 v2 fun h3 =>
  some (.inl (Vi 0), h3)) := (Cl_at at_L_land rfl _).trans rfl
set_option maxRecDepth 60000 in
theorem q_L_land_9 (sc : Nat × (Nat → Int)) (d : Nat) (r0 : Option Nat) (i1 : Int) (i2 : Int) (r3 : Option Nat) (u4 : am_V) (h : am_H) : Ru sc (d + 1) mL_land 9 [Vr r0, Vi i1, Vi i2, Vr r3, u4] [Vx 0] h =
  some (.inl (Vi 1), h) := (Ru_at at_L_land 9 _ _ _).trans rfl
set_option maxRecDepth 60000 in
theorem q_L_land_12 (sc : Nat × (Nat → Int)) (d : Nat) (r0 : Option Nat) (i1 : Int) (i2 : Int) (r3 : Option Nat) (u4 : am_V) (h : am_H) : Ru sc (d + 1) mL_land 12 [Vr r0, Vi i1, Vi i2, Vr r3, u4] [Vx 0] h =
  some (.inl (Vi 2), h) := (Ru_at at_L_land 12 _ _ _).trans rfl
theorem at_L_gaps : am_at mL_gaps = (cd_L_gaps, hd_L_gaps, 4) := rfl
set_option maxRecDepth 60000 in
theorem q_L_gaps_0 (sc : Nat × (Nat → Int)) (d : Nat) (r0 : Option Nat) (i1 : Int) (r2 : Option Nat) (h : am_H) : Cl sc (d + 1) mL_gaps [Vr r0, Vi i1, Vr r2] h =
  am_rcv 11 h (Vr r0) (
  clI (Cl sc d mX11_gaps [Vr r0, Vi i1] h) (am_hx hd_L_gaps (Ru sc (d + 1) mL_gaps) 4 [Vr r0, Vi i1, Vr r2, Vx 0]) fun v2 h1 =>
  stA 4 h1 r2 0 v2 fun h3 =>
  some (.inl (Vi 0), h3)) := (Cl_at at_L_gaps rfl _).trans rfl
set_option maxRecDepth 60000 in
theorem q_L_gaps_8 (sc : Nat × (Nat → Int)) (d : Nat) (r0 : Option Nat) (i1 : Int) (r2 : Option Nat) (u3 : am_V) (h : am_H) : Ru sc (d + 1) mL_gaps 8 [Vr r0, Vi i1, Vr r2, u3] [Vx 0] h =
  some (.inl (Vi 1), h) := (Ru_at at_L_gaps 8 _ _ _).trans rfl
theorem at_L_all : am_at mL_all = (cd_L_all, hd_L_all, 4) := rfl
set_option maxRecDepth 60000 in
theorem q_L_all_0 (sc : Nat × (Nat → Int)) (d : Nat) (r0 : Option Nat) (i1 : Int) (r2 : Option Nat) (h : am_H) : Cl sc (d + 1) mL_all [Vr r0, Vi i1, Vr r2] h =
  am_rcv 11 h (Vr r0) (
  clI (Cl sc d mX11_all [Vr r0, Vi i1] h) (am_hx hd_L_all (Ru sc (d + 1) mL_all) 4 [Vr r0, Vi i1, Vr r2, Vx 0]) fun v2 h1 =>
  if v2 = 0 then
    stA 4 h1 r2 0 0 fun h3 =>
    some (.inl (Vi 0), h3)
  else
    stA 4 h1 r2 0 1 fun h4 =>
    some (.inl (Vi 0), h4)) := (Cl_at at_L_all rfl _).trans rfl
set_option maxRecDepth 60000 in
theorem q_L_all_11 (sc : Nat × (Nat → Int)) (d : Nat) (r0 : Option Nat) (i1 : Int) (r2 : Option Nat) (u3 : am_V) (h : am_H) : Ru sc (d + 1) mL_all 11 [Vr r0, Vi i1, Vr r2, u3] [Vx 0] h =
  some (.inl (Vi 1), h) := (Ru_at at_L_all 11 _ _ _).trans rfl
theorem at_L_one : am_at mL_one = (cd_L_one, hd_L_one, 5) := rfl
set_option maxRecDepth 60000 in
theorem q_L_one_0 (sc : Nat × (Nat → Int)) (d : Nat) (r0 : Option Nat) (i1 : Int) (i2 : Int) (r3 : Option Nat) (h : am_H) : Cl sc (d + 1) mL_one [Vr r0, Vi i1, Vi i2, Vr r3] h =
  am_rcv 11 h (Vr r0) (
  clI (Cl sc d mX11_one [Vr r0, Vi i1, Vi i2] h) (am_hx hd_L_one (Ru sc (d + 1) mL_one) 5 [Vr r0, Vi i1, Vi i2, Vr r3, Vx 0]) fun v2 h1 =>
  stA 4 h1 r3 0 v2 fun h3 =>
  some (.inl (Vi 0), h3)) := (Cl_at at_L_one rfl _).trans rfl
set_option maxRecDepth 60000 in
theorem q_L_one_9 (sc : Nat × (Nat → Int)) (d : Nat) (r0 : Option Nat) (i1 : Int) (i2 : Int) (r3 : Option Nat) (u4 : am_V) (h : am_H) : Ru sc (d + 1) mL_one 9 [Vr r0, Vi i1, Vi i2, Vr r3, u4] [Vx 0] h =
  some (.inl (Vi 1), h) := (Ru_at at_L_one 9 _ _ _).trans rfl
theorem at_L_walk : am_at mL_walk = (cd_L_walk, hd_L_walk, 6) := rfl
set_option maxRecDepth 60000 in
theorem q_L_walk_0 (sc : Nat × (Nat → Int)) (d : Nat) (r0 : Option Nat) (i1 : Int) (i2 : Int) (i3 : Int) (r4 : Option Nat) (h : am_H) : Cl sc (d + 1) mL_walk [Vr r0, Vi i1, Vi i2, Vi i3, Vr r4] h =
  am_rcv 11 h (Vr r0) (
  clI (Cl sc d mX11_walk [Vr r0, Vi i1, Vi i2, Vi i3] h) (am_hx hd_L_walk (Ru sc (d + 1) mL_walk) 7 [Vr r0, Vi i1, Vi i2, Vi i3, Vr r4, Vx 0]) fun v2 h1 =>
  stA 4 h1 r4 0 v2 fun h3 =>
  some (.inl (Vi 0), h3)) := (Cl_at at_L_walk rfl _).trans rfl
set_option maxRecDepth 60000 in
theorem q_L_walk_10 (sc : Nat × (Nat → Int)) (d : Nat) (r0 : Option Nat) (i1 : Int) (i2 : Int) (i3 : Int) (r4 : Option Nat) (u5 : am_V) (h : am_H) : Ru sc (d + 1) mL_walk 10 [Vr r0, Vi i1, Vi i2, Vi i3, Vr r4, u5] [Vx 0] h =
  some (.inl (Vi 1), h) := (Ru_at at_L_walk 10 _ _ _).trans rfl
set_option maxRecDepth 60000 in
theorem q_L_walk_13 (sc : Nat × (Nat → Int)) (d : Nat) (r0 : Option Nat) (i1 : Int) (i2 : Int) (i3 : Int) (r4 : Option Nat) (u5 : am_V) (h : am_H) : Ru sc (d + 1) mL_walk 13 [Vr r0, Vi i1, Vi i2, Vi i3, Vr r4, u5] [Vx 0] h =
  some (.inl (Vi 2), h) := (Ru_at at_L_walk 13 _ _ _).trans rfl
theorem at_L_hangs : am_at mL_hangs = (cd_L_hangs, hd_L_hangs, 4) := rfl
set_option maxRecDepth 60000 in
theorem q_L_hangs_0 (sc : Nat × (Nat → Int)) (d : Nat) (r0 : Option Nat) (i1 : Int) (r2 : Option Nat) (h : am_H) : Cl sc (d + 1) mL_hangs [Vr r0, Vi i1, Vr r2] h =
  am_rcv 11 h (Vr r0) (
  clI (Cl sc d mX11_hangs [Vr r0, Vi i1] h) (am_hx hd_L_hangs (Ru sc (d + 1) mL_hangs) 4 [Vr r0, Vi i1, Vr r2, Vx 0]) fun v2 h1 =>
  stA 4 h1 r2 0 v2 fun h3 =>
  some (.inl (Vi 0), h3)) := (Cl_at at_L_hangs rfl _).trans rfl
set_option maxRecDepth 60000 in
theorem q_L_hangs_8 (sc : Nat × (Nat → Int)) (d : Nat) (r0 : Option Nat) (i1 : Int) (r2 : Option Nat) (u3 : am_V) (h : am_H) : Ru sc (d + 1) mL_hangs 8 [Vr r0, Vi i1, Vr r2, u3] [Vx 0] h =
  some (.inl (Vi 1), h) := (Ru_at at_L_hangs 8 _ _ _).trans rfl
theorem at_L_ends : am_at mL_ends = (cd_L_ends, hd_L_ends, 4) := rfl
set_option maxRecDepth 60000 in
theorem q_L_ends_0 (sc : Nat × (Nat → Int)) (d : Nat) (r0 : Option Nat) (i1 : Int) (r2 : Option Nat) (h : am_H) : Cl sc (d + 1) mL_ends [Vr r0, Vi i1, Vr r2] h =
  am_rcv 11 h (Vr r0) (
  clI (Cl sc d mX11_ends [Vr r0, Vi i1] h) (am_hx hd_L_ends (Ru sc (d + 1) mL_ends) 4 [Vr r0, Vi i1, Vr r2, Vx 0]) fun v2 h1 =>
  stA 4 h1 r2 0 v2 fun h3 =>
  some (.inl (Vi 0), h3)) := (Cl_at at_L_ends rfl _).trans rfl
set_option maxRecDepth 60000 in
theorem q_L_ends_8 (sc : Nat × (Nat → Int)) (d : Nat) (r0 : Option Nat) (i1 : Int) (r2 : Option Nat) (u3 : am_V) (h : am_H) : Ru sc (d + 1) mL_ends 8 [Vr r0, Vi i1, Vr r2, u3] [Vx 0] h =
  some (.inl (Vi 1), h) := (Ru_at at_L_ends 8 _ _ _).trans rfl
theorem at_L_seen : am_at mL_seen = (cd_L_seen, hd_L_seen, 4) := rfl
set_option maxRecDepth 60000 in
theorem q_L_seen_0 (sc : Nat × (Nat → Int)) (d : Nat) (r0 : Option Nat) (i1 : Int) (r2 : Option Nat) (h : am_H) : Cl sc (d + 1) mL_seen [Vr r0, Vi i1, Vr r2] h =
  am_rcv 11 h (Vr r0) (
  clI (Cl sc d mX11_seen [Vr r0, Vi i1] h) (am_hx hd_L_seen (Ru sc (d + 1) mL_seen) 4 [Vr r0, Vi i1, Vr r2, Vx 0]) fun v2 h1 =>
  stA 4 h1 r2 0 v2 fun h3 =>
  some (.inl (Vi 0), h3)) := (Cl_at at_L_seen rfl _).trans rfl
set_option maxRecDepth 60000 in
theorem q_L_seen_8 (sc : Nat × (Nat → Int)) (d : Nat) (r0 : Option Nat) (i1 : Int) (r2 : Option Nat) (u3 : am_V) (h : am_H) : Ru sc (d + 1) mL_seen 8 [Vr r0, Vi i1, Vr r2, u3] [Vx 0] h =
  some (.inl (Vi 1), h) := (Ru_at at_L_seen 8 _ _ _).trans rfl
theorem at_L_ask : am_at mL_ask = (cd_L_ask, hd_L_ask, 3) := rfl
set_option maxRecDepth 60000 in
theorem q_L_ask_0 (sc : Nat × (Nat → Int)) (d : Nat) (r0 : Option Nat) (r1 : Option Nat) (h : am_H) : Cl sc (d + 1) mL_ask [Vr r0, Vr r1] h =
  am_rcv 11 h (Vr r0) (
  clI (Cl sc d mX11_ask [Vr r0] h) (am_hx hd_L_ask (Ru sc (d + 1) mL_ask) 3 [Vr r0, Vr r1, Vx 0]) fun v2 h1 =>
  stA 4 h1 r1 0 v2 fun h3 =>
  some (.inl (Vi 0), h3)) := (Cl_at at_L_ask rfl _).trans rfl
set_option maxRecDepth 60000 in
theorem q_L_ask_7 (sc : Nat × (Nat → Int)) (d : Nat) (r0 : Option Nat) (r1 : Option Nat) (u2 : am_V) (h : am_H) : Ru sc (d + 1) mL_ask 7 [Vr r0, Vr r1, u2] [Vx 0] h =
  some (.inl (Vi 1), h) := (Ru_at at_L_ask 7 _ _ _).trans rfl
theorem at_L_loses : am_at mL_loses = (cd_L_loses, hd_L_loses, 5) := rfl
set_option maxRecDepth 60000 in
theorem q_L_loses_0 (sc : Nat × (Nat → Int)) (d : Nat) (r0 : Option Nat) (i1 : Int) (i2 : Int) (r3 : Option Nat) (h : am_H) : Cl sc (d + 1) mL_loses [Vr r0, Vi i1, Vi i2, Vr r3] h =
  am_rcv 11 h (Vr r0) (
  clI (Cl sc d mX11_loses [Vr r0, Vi i1, Vi i2] h) (am_hx hd_L_loses (Ru sc (d + 1) mL_loses) 5 [Vr r0, Vi i1, Vi i2, Vr r3, Vx 0]) fun v2 h1 =>
  stA 4 h1 r3 0 v2 fun h3 =>
  some (.inl (Vi 0), h3)) := (Cl_at at_L_loses rfl _).trans rfl
set_option maxRecDepth 60000 in
theorem q_L_loses_9 (sc : Nat × (Nat → Int)) (d : Nat) (r0 : Option Nat) (i1 : Int) (i2 : Int) (r3 : Option Nat) (u4 : am_V) (h : am_H) : Ru sc (d + 1) mL_loses 9 [Vr r0, Vi i1, Vi i2, Vr r3, u4] [Vx 0] h =
  some (.inl (Vi 1), h) := (Ru_at at_L_loses 9 _ _ _).trans rfl
theorem at_L_pairs : am_at mL_pairs = (cd_L_pairs, hd_L_pairs, 4) := rfl
set_option maxRecDepth 60000 in
theorem q_L_pairs_0 (sc : Nat × (Nat → Int)) (d : Nat) (r0 : Option Nat) (i1 : Int) (r2 : Option Nat) (h : am_H) : Cl sc (d + 1) mL_pairs [Vr r0, Vi i1, Vr r2] h =
  am_rcv 11 h (Vr r0) (
  clI (Cl sc d mX11_pairs [Vr r0, Vi i1] h) (am_hx hd_L_pairs (Ru sc (d + 1) mL_pairs) 4 [Vr r0, Vi i1, Vr r2, Vx 0]) fun v2 h1 =>
  stA 4 h1 r2 0 v2 fun h3 =>
  some (.inl (Vi 0), h3)) := (Cl_at at_L_pairs rfl _).trans rfl
set_option maxRecDepth 60000 in
theorem q_L_pairs_8 (sc : Nat × (Nat → Int)) (d : Nat) (r0 : Option Nat) (i1 : Int) (r2 : Option Nat) (u3 : am_V) (h : am_H) : Ru sc (d + 1) mL_pairs 8 [Vr r0, Vi i1, Vr r2, u3] [Vx 0] h =
  some (.inl (Vi 1), h) := (Ru_at at_L_pairs 8 _ _ _).trans rfl
theorem at_L_rests : am_at mL_rests = (cd_L_rests, hd_L_rests, 5) := rfl
set_option maxRecDepth 60000 in
theorem q_L_rests_0 (sc : Nat × (Nat → Int)) (d : Nat) (r0 : Option Nat) (i1 : Int) (i2 : Int) (r3 : Option Nat) (h : am_H) : Cl sc (d + 1) mL_rests [Vr r0, Vi i1, Vi i2, Vr r3] h =
  am_rcv 11 h (Vr r0) (
  clI (Cl sc d mX11_rests [Vr r0, Vi i1, Vi i2] h) (am_hx hd_L_rests (Ru sc (d + 1) mL_rests) 5 [Vr r0, Vi i1, Vi i2, Vr r3, Vx 0]) fun v2 h1 =>
  stA 4 h1 r3 0 v2 fun h3 =>
  some (.inl (Vi 0), h3)) := (Cl_at at_L_rests rfl _).trans rfl
set_option maxRecDepth 60000 in
theorem q_L_rests_9 (sc : Nat × (Nat → Int)) (d : Nat) (r0 : Option Nat) (i1 : Int) (i2 : Int) (r3 : Option Nat) (u4 : am_V) (h : am_H) : Ru sc (d + 1) mL_rests 9 [Vr r0, Vi i1, Vi i2, Vr r3, u4] [Vx 0] h =
  some (.inl (Vi 1), h) := (Ru_at at_L_rests 9 _ _ _).trans rfl
set_option maxRecDepth 60000 in
theorem q_L_rests_12 (sc : Nat × (Nat → Int)) (d : Nat) (r0 : Option Nat) (i1 : Int) (i2 : Int) (r3 : Option Nat) (u4 : am_V) (h : am_H) : Ru sc (d + 1) mL_rests 12 [Vr r0, Vi i1, Vi i2, Vr r3, u4] [Vx 0] h =
  some (.inl (Vi 2), h) := (Ru_at at_L_rests 12 _ _ _).trans rfl
theorem at_L_odds : am_at mL_odds = (cd_L_odds, hd_L_odds, 5) := rfl
set_option maxRecDepth 60000 in
theorem q_L_odds_0 (sc : Nat × (Nat → Int)) (d : Nat) (r0 : Option Nat) (i1 : Int) (i2 : Int) (r3 : Option Nat) (h : am_H) : Cl sc (d + 1) mL_odds [Vr r0, Vi i1, Vi i2, Vr r3] h =
  am_rcv 11 h (Vr r0) (
  clI (Cl sc d mX11_odds [Vr r0, Vi i1, Vi i2] h) (am_hx hd_L_odds (Ru sc (d + 1) mL_odds) 5 [Vr r0, Vi i1, Vi i2, Vr r3, Vx 0]) fun v2 h1 =>
  stA 4 h1 r3 0 v2 fun h3 =>
  some (.inl (Vi 0), h3)) := (Cl_at at_L_odds rfl _).trans rfl
set_option maxRecDepth 60000 in
theorem q_L_odds_9 (sc : Nat × (Nat → Int)) (d : Nat) (r0 : Option Nat) (i1 : Int) (i2 : Int) (r3 : Option Nat) (u4 : am_V) (h : am_H) : Ru sc (d + 1) mL_odds 9 [Vr r0, Vi i1, Vi i2, Vr r3, u4] [Vx 0] h =
  some (.inl (Vi 1), h) := (Ru_at at_L_odds 9 _ _ _).trans rfl
set_option maxRecDepth 60000 in
theorem q_L_odds_12 (sc : Nat × (Nat → Int)) (d : Nat) (r0 : Option Nat) (i1 : Int) (i2 : Int) (r3 : Option Nat) (u4 : am_V) (h : am_H) : Ru sc (d + 1) mL_odds 12 [Vr r0, Vi i1, Vi i2, Vr r3, u4] [Vx 0] h =
  some (.inl (Vi 2), h) := (Ru_at at_L_odds 12 _ _ _).trans rfl
theorem at_L_ahead : am_at mL_ahead = (cd_L_ahead, hd_L_ahead, 5) := rfl
set_option maxRecDepth 60000 in
theorem q_L_ahead_0 (sc : Nat × (Nat → Int)) (d : Nat) (r0 : Option Nat) (i1 : Int) (i2 : Int) (r3 : Option Nat) (h : am_H) : Cl sc (d + 1) mL_ahead [Vr r0, Vi i1, Vi i2, Vr r3] h =
  am_rcv 11 h (Vr r0) (
  clI (Cl sc d mX11_ahead [Vr r0, Vi i1, Vi i2] h) (am_hx hd_L_ahead (Ru sc (d + 1) mL_ahead) 5 [Vr r0, Vi i1, Vi i2, Vr r3, Vx 0]) fun v2 h1 =>
  stA 4 h1 r3 0 v2 fun h3 =>
  some (.inl (Vi 0), h3)) := (Cl_at at_L_ahead rfl _).trans rfl
set_option maxRecDepth 60000 in
theorem q_L_ahead_9 (sc : Nat × (Nat → Int)) (d : Nat) (r0 : Option Nat) (i1 : Int) (i2 : Int) (r3 : Option Nat) (u4 : am_V) (h : am_H) : Ru sc (d + 1) mL_ahead 9 [Vr r0, Vi i1, Vi i2, Vr r3, u4] [Vx 0] h =
  some (.inl (Vi 1), h) := (Ru_at at_L_ahead 9 _ _ _).trans rfl
set_option maxRecDepth 60000 in
theorem q_L_ahead_12 (sc : Nat × (Nat → Int)) (d : Nat) (r0 : Option Nat) (i1 : Int) (i2 : Int) (r3 : Option Nat) (u4 : am_V) (h : am_H) : Ru sc (d + 1) mL_ahead 12 [Vr r0, Vi i1, Vi i2, Vr r3, u4] [Vx 0] h =
  some (.inl (Vi 2), h) := (Ru_at at_L_ahead 12 _ _ _).trans rfl
theorem at_L_trial : am_at mL_trial = (cd_L_trial, hd_L_trial, 5) := rfl
set_option maxRecDepth 60000 in
theorem q_L_trial_0 (sc : Nat × (Nat → Int)) (d : Nat) (r0 : Option Nat) (i1 : Int) (i2 : Int) (r3 : Option Nat) (h : am_H) : Cl sc (d + 1) mL_trial [Vr r0, Vi i1, Vi i2, Vr r3] h =
  am_rcv 11 h (Vr r0) (
  clI (Cl sc d mX11_trial [Vr r0, Vi i1, Vi i2] h) (am_hx hd_L_trial (Ru sc (d + 1) mL_trial) 5 [Vr r0, Vi i1, Vi i2, Vr r3, Vx 0]) fun v2 h1 =>
  stA 4 h1 r3 0 v2 fun h3 =>
  some (.inl (Vi 0), h3)) := (Cl_at at_L_trial rfl _).trans rfl
set_option maxRecDepth 60000 in
theorem q_L_trial_9 (sc : Nat × (Nat → Int)) (d : Nat) (r0 : Option Nat) (i1 : Int) (i2 : Int) (r3 : Option Nat) (u4 : am_V) (h : am_H) : Ru sc (d + 1) mL_trial 9 [Vr r0, Vi i1, Vi i2, Vr r3, u4] [Vx 0] h =
  some (.inl (Vi 1), h) := (Ru_at at_L_trial 9 _ _ _).trans rfl
theorem at_L_span : am_at mL_span = (cd_L_span, hd_L_span, 5) := rfl
set_option maxRecDepth 60000 in
theorem q_L_span_0 (sc : Nat × (Nat → Int)) (d : Nat) (r0 : Option Nat) (i1 : Int) (i2 : Int) (r3 : Option Nat) (h : am_H) : Cl sc (d + 1) mL_span [Vr r0, Vi i1, Vi i2, Vr r3] h =
  am_rcv 11 h (Vr r0) (
  clI (Cl sc d mX11_span [Vr r0, Vi i1, Vi i2] h) (am_hx hd_L_span (Ru sc (d + 1) mL_span) 5 [Vr r0, Vi i1, Vi i2, Vr r3, Vx 0]) fun v2 h1 =>
  stA 4 h1 r3 0 v2 fun h3 =>
  some (.inl (Vi 0), h3)) := (Cl_at at_L_span rfl _).trans rfl
set_option maxRecDepth 60000 in
theorem q_L_span_9 (sc : Nat × (Nat → Int)) (d : Nat) (r0 : Option Nat) (i1 : Int) (i2 : Int) (r3 : Option Nat) (u4 : am_V) (h : am_H) : Ru sc (d + 1) mL_span 9 [Vr r0, Vi i1, Vi i2, Vr r3, u4] [Vx 0] h =
  some (.inl (Vi 1), h) := (Ru_at at_L_span 9 _ _ _).trans rfl
theorem at_L_led : am_at mL_led = (cd_L_led, hd_L_led, 5) := rfl
set_option maxRecDepth 60000 in
theorem q_L_led_0 (sc : Nat × (Nat → Int)) (d : Nat) (r0 : Option Nat) (i1 : Int) (i2 : Int) (r3 : Option Nat) (h : am_H) : Cl sc (d + 1) mL_led [Vr r0, Vi i1, Vi i2, Vr r3] h =
  am_rcv 11 h (Vr r0) (
  clI (Cl sc d mX11_led [Vr r0, Vi i1, Vi i2] h) (am_hx hd_L_led (Ru sc (d + 1) mL_led) 5 [Vr r0, Vi i1, Vi i2, Vr r3, Vx 0]) fun v2 h1 =>
  stA 4 h1 r3 0 v2 fun h3 =>
  some (.inl (Vi 0), h3)) := (Cl_at at_L_led rfl _).trans rfl
set_option maxRecDepth 60000 in
theorem q_L_led_9 (sc : Nat × (Nat → Int)) (d : Nat) (r0 : Option Nat) (i1 : Int) (i2 : Int) (r3 : Option Nat) (u4 : am_V) (h : am_H) : Ru sc (d + 1) mL_led 9 [Vr r0, Vi i1, Vi i2, Vr r3, u4] [Vx 0] h =
  some (.inl (Vi 1), h) := (Ru_at at_L_led 9 _ _ _).trans rfl
theorem at_L_log : am_at mL_log = (cd_L_log, hd_L_log, 5) := rfl
set_option maxRecDepth 60000 in
theorem q_L_log_0 (sc : Nat × (Nat → Int)) (d : Nat) (r0 : Option Nat) (i1 : Int) (i2 : Int) (r3 : Option Nat) (h : am_H) : Cl sc (d + 1) mL_log [Vr r0, Vi i1, Vi i2, Vr r3] h =
  am_rcv 11 h (Vr r0) (
  clI (Cl sc d mX11_log [Vr r0, Vi i1, Vi i2] h) (am_hx hd_L_log (Ru sc (d + 1) mL_log) 5 [Vr r0, Vi i1, Vi i2, Vr r3, Vx 0]) fun v2 h1 =>
  stA 4 h1 r3 0 v2 fun h3 =>
  some (.inl (Vi 0), h3)) := (Cl_at at_L_log rfl _).trans rfl
set_option maxRecDepth 60000 in
theorem q_L_log_9 (sc : Nat × (Nat → Int)) (d : Nat) (r0 : Option Nat) (i1 : Int) (i2 : Int) (r3 : Option Nat) (u4 : am_V) (h : am_H) : Ru sc (d + 1) mL_log 9 [Vr r0, Vi i1, Vi i2, Vr r3, u4] [Vx 0] h =
  some (.inl (Vi 1), h) := (Ru_at at_L_log 9 _ _ _).trans rfl
