/-! SMALL METHODS OF NUMBERS ALONE -/
def bz (b : Bool) : Int := if b = true then 1 else 0
theorem bz0 {b : Bool} : (bz b = 0) = (b = false) := by cases b <;> simp [bz]
theorem bz1 {b : Bool} : (bz b = 1) = (b = true) := by cases b <;> simp [bz]
theorem bz01 (b : Bool) : bz b = 0 ∨ bz b = 1 := by cases b <;> simp [bz]
theorem lf {x y : Int} {h : am_H} (e : x = y) : (some (.inl (Vi x), h) : am_R) = some (.inl (Vi y), h) := by rw [e]
def lc (b : Nat) : Nat := if b < 30 then b / 5 * 6 + b % 5 else b - 30
def mc (b : Nat) : Nat := if b < 30 then b / 5 * 6 + b % 5 + 1 else b - 30 + 6
def lk (b : Nat) : Nat := if b < 30 then b / 5 * 7 + b % 5 + 1 else ((b - 30) / 6 + 1) * 7 + (b - 30) % 6
def mk (b : Nat) : Nat := lk b + if b < 30 then 7 else 1
/-- the border to a side of a cell -/
def sd (c k : Nat) : Int :=
  if k = 0 then (if c % 6 = 0 then -1 else ((5 * (c / 6) + c % 6 - 1 : Nat) : Int))
  else if k = 1 then (if c % 6 = 5 then -1 else ((5 * (c / 6) + c % 6 : Nat) : Int))
  else if k = 2 then (if c / 6 = 0 then -1 else ((30 + 6 * (c / 6 - 1) + c % 6 : Nat) : Int))
  else (if c / 6 = 5 then -1 else ((30 + 6 * (c / 6) + c % 6 : Nat) : Int))
/-- the cell over a border -/
def ov (b c : Nat) : Nat := lc b + mc b - c
/-- the border between two cells -/
def bo (c o : Nat) : Int := if max c o - min c o = 6 then ((30 + min c o : Nat) : Int) else if max c o - min c o = 1 ∧ min c o / 6 = max c o / 6 then ((min c o / 6 * 5 + min c o % 6 : Nat) : Int) else -1
def ap (a b : Nat) : Nat := ((a % 6 : Nat) - (b % 6 : Nat) : Int).natAbs + ((a / 6 : Nat) - (b / 6 : Nat) : Int).natAbs
theorem lc_lt : ∀ b, b < 60 → lc b < 36 := by decide +kernel
theorem mc_lt : ∀ b, b < 60 → mc b < 36 := by decide +kernel
theorem lk_lt : ∀ b, b < 60 → lk b < 49 := by decide +kernel
theorem mk_lt : ∀ b, b < 60 → mk b < 49 := by decide +kernel
theorem lc_mc : ∀ b, b < 60 → lc b < mc b := by decide +kernel
theorem lk_mk : ∀ b, b < 60 → lk b < mk b := by decide +kernel
theorem sd_lt : ∀ c, c < 36 → ∀ k, k < 4 → -1 ≤ sd c k ∧ sd c k < 60 := by decide +kernel
theorem sd_ov : ∀ c, c < 36 → ∀ k, k < 4 → sd c k ≠ -1 → (lc (sd c k).toNat = c ∨ mc (sd c k).toNat = c) ∧ ov (sd c k).toNat c < 36 := by decide +kernel
theorem bo_lt : ∀ c, c < 36 → ∀ o, o < 36 → -1 ≤ bo c o ∧ bo c o < 60 := by decide +kernel
section
variable {sc : Nat × (Nat → Int)} {d : Nat} {h : am_H}
theorem c_abs {z : Int} (h0 : -2147483647 ≤ z) (h1 : z ≤ 2147483647) : Cl sc (d + 1) mJ9_abs_0f7a4 [Vi z] h = some (.inl (Vi z.natAbs), h) := by
  rw [q_J9_abs_0f7a4_0]
  split
  · exact lf (by rw [w32_id (by omega) (by omega)]; omega)
  · exact lf (by omega)
theorem c_max {a b : Int} : Cl sc (d + 1) mJ9_max_7cf53 [Vi a, Vi b] h = some (.inl (Vi (max a b)), h) := by
  rw [q_J9_max_7cf53_0]
  split
  · exact lf (by omega)
  · exact lf (by omega)
theorem c_min {a b : Int} : Cl sc (d + 1) mJ9_min_7cf53 [Vi a, Vi b] h = some (.inl (Vi (min a b)), h) := by
  rw [q_J9_min_7cf53_0]
  split
  · exact lf (by omega)
  · exact lf (by omega)
theorem c_lessCell {b : Nat} (hb : b < 60) : Cl sc (d + 1) mX2_lessCell [Vi (b : Int)] h = some (.inl (Vi (lc b : Nat)), h) := by
  rw [q_X2_lessCell_0]
  split
  · rename_i h1
    rw [if_neg (by decide), if_neg (by decide)]
    refine lf ?_
    revert h1 hb
    revert b
    decide +kernel
  · rename_i h1
    refine lf ?_
    revert h1 hb
    revert b
    decide +kernel
theorem c_moreCell {b : Nat} (hb : b < 60) : Cl sc (d + 1) mX2_moreCell [Vi (b : Int)] h = some (.inl (Vi (mc b : Nat)), h) := by
  rw [q_X2_moreCell_0]
  split
  · rename_i h1
    rw [if_neg (by decide), if_neg (by decide)]
    refine lf ?_
    revert h1 hb
    revert b
    decide +kernel
  · rename_i h1
    refine lf ?_
    revert h1 hb
    revert b
    decide +kernel
theorem c_lessCorner {b : Nat} (hb : b < 60) : Cl sc (d + 1) mX2_lessCorner [Vi (b : Int)] h = some (.inl (Vi (lk b : Nat)), h) := by
  rw [q_X2_lessCorner_0]
  split
  · rename_i h1
    rw [if_neg (by decide), if_neg (by decide)]
    refine lf ?_
    revert h1 hb
    revert b
    decide +kernel
  · rename_i h1
    rw [if_neg (by decide), if_neg (by decide)]
    refine lf ?_
    revert h1 hb
    revert b
    decide +kernel
theorem c_moreCorner {b : Nat} (hb : b < 60) : Cl sc (d + 2) mX2_moreCorner [Vi (b : Int)] h = some (.inl (Vi (mk b : Nat)), h) := by
  rw [q_X2_moreCorner_0, c_lessCorner hb, e_clI]
  split
  · rename_i h1
    refine lf ?_
    revert h1 hb
    revert b
    decide +kernel
  · rename_i h1
    refine lf ?_
    revert h1 hb
    revert b
    decide +kernel
theorem c_onSide {c k : Nat} (hc : c < 36) (hk : k < 4) : Cl sc (d + 1) mX2_onSide [Vi (c : Int), Vi (k : Int)] h = some (.inl (Vi (sd c k)), h) := by
  rw [q_X2_onSide_0, if_neg (by decide), if_neg (by decide)]
  have h9 : k = 0 ∨ k = 1 ∨ k = 2 ∨ k = 3 := by omega
  rcases h9 with rfl | rfl | rfl | rfl
  · rw [if_pos (by decide)]
    split
    all_goals
      rename_i h1
      refine lf ?_
      revert h1 hc
      clear hk
      revert c
      decide +kernel
  · rw [if_neg (by decide), if_pos (by decide)]
    split
    all_goals
      rename_i h1
      refine lf ?_
      revert h1 hc
      clear hk
      revert c
      decide +kernel
  · rw [if_neg (by decide), if_neg (by decide), if_pos (by decide)]
    split
    all_goals
      rename_i h1
      refine lf ?_
      revert h1 hc
      clear hk
      revert c
      decide +kernel
  · rw [if_neg (by decide), if_neg (by decide), if_neg (by decide), if_pos (by decide)]
    split
    all_goals
      rename_i h1
      refine lf ?_
      revert h1 hc
      clear hk
      revert c
      decide +kernel
theorem ov_w {b c : Nat} (hb : b < 60) (hc : lc b = c ∨ mc b = c) : w32 (w32 ((lc b : Int) + (mc b : Int)) - (c : Int)) = (ov b c : Nat) := by
  have h1 := lc_lt b hb
  have h2 := mc_lt b hb
  unfold ov
  rw [w32_id (z := (lc b : Int) + (mc b : Int)) (by omega) (by omega), w32_id (by omega) (by omega)]
  omega
theorem c_across {b c : Nat} (hb : b < 60) (hc : lc b = c ∨ mc b = c) : Cl sc (d + 2) mX2_across [Vi (c : Int), Vi (b : Int)] h = some (.inl (Vi (ov b c : Nat)), h) := by
  rw [q_X2_across_0, c_lessCell hb, e_clI, c_moreCell hb, e_clI, ov_w hb hc]
theorem c_isAcross {b : Int} : Cl sc (d + 1) mX12_isAcross [Vi b] h = some (.inl (Vi (bz (decide (30 ≤ b)))), h) := by
  rw [q_X12_isAcross_0]
  split
  · rename_i h1
    rw [decide_eq_false (by omega)]; rfl
  · rename_i h1
    rw [decide_eq_true (by omega)]; rfl
theorem c_lessOf {b : Nat} (hb : b < 60) : Cl sc (d + 2) mX12_lessOf [Vi (b : Int)] h = some (.inl (Vi (lc b : Nat)), h) := by
  rw [q_X12_lessOf_0, c_isAcross, e_clI]
  simp only [bz0, decide_eq_false_iff_not]
  split
  · rename_i h1
    rw [if_neg (by decide), if_neg (by decide)]
    refine lf ?_
    revert h1 hb
    revert b
    decide +kernel
  · rename_i h1
    refine lf ?_
    revert h1 hb
    revert b
    decide +kernel
theorem c_greaterOf {b : Nat} (hb : b < 60) : Cl sc (d + 3) mX12_greaterOf [Vi (b : Int)] h = some (.inl (Vi (mc b : Nat)), h) := by
  rw [q_X12_greaterOf_0, c_lessOf hb, e_clI, c_isAcross, e_clI]
  simp only [bz0, decide_eq_false_iff_not]
  split
  · rename_i h1
    refine lf ?_
    revert h1 hb
    revert b
    decide +kernel
  · rename_i h1
    refine lf ?_
    revert h1 hb
    revert b
    decide +kernel
theorem c_otherOf {b c : Nat} (hb : b < 60) (hc : lc b = c ∨ mc b = c) : Cl sc (d + 4) mX12_otherOf [Vi (b : Int), Vi (c : Int)] h = some (.inl (Vi (ov b c : Nat)), h) := by
  rw [q_X12_otherOf_0, c_lessOf hb, e_clI, c_greaterOf hb, e_clI, ov_w hb hc]
theorem c_sideOf {c k : Nat} (hc : c < 36) (hk : k < 4) : Cl sc (d + 1) mX12_sideOf [Vi (c : Int), Vi (k : Int)] h = some (.inl (Vi (sd c k)), h) := by
  rw [q_X12_sideOf_0, if_neg (by decide), if_neg (by decide)]
  have h9 : k = 0 ∨ k = 1 ∨ k = 2 ∨ k = 3 := by omega
  rcases h9 with rfl | rfl | rfl | rfl
  · rw [if_pos (by decide)]
    split
    all_goals
      rename_i h1
      refine lf ?_
      revert h1 hc
      clear hk
      revert c
      decide +kernel
  · rw [if_neg (by decide), if_pos (by decide)]
    split
    all_goals
      rename_i h1
      refine lf ?_
      revert h1 hc
      clear hk
      revert c
      decide +kernel
  · rw [if_neg (by decide), if_neg (by decide), if_pos (by decide)]
    split
    all_goals
      rename_i h1
      refine lf ?_
      revert h1 hc
      clear hk
      revert c
      decide +kernel
  · rw [if_neg (by decide), if_neg (by decide), if_neg (by decide)]
    split
    all_goals
      rename_i h1
      refine lf ?_
      revert h1 hc
      clear hk
      revert c
      decide +kernel
theorem bo_w1 : ∀ c : Nat, c < 36 → ∀ o : Nat, o < 36 → w32 (max (c : Int) o - min (c : Int) o) = 6 → w32 (30 + min (c : Int) o) = bo c o := by decide +kernel
theorem bo_w2 : ∀ c : Nat, c < 36 → ∀ o : Nat, o < 36 → ¬ w32 (max (c : Int) o - min (c : Int) o) = 6 → w32 (max (c : Int) o - min (c : Int) o) = 1 → w32 ((min (c : Int) o).tdiv 6) = w32 ((max (c : Int) o).tdiv 6) → w32 (w32 (w32 ((min (c : Int) o).tdiv 6) * 5) + (min (c : Int) o).tmod 6) = bo c o := by decide +kernel
theorem bo_w3 : ∀ c : Nat, c < 36 → ∀ o : Nat, o < 36 → ¬ w32 (max (c : Int) o - min (c : Int) o) = 6 → (w32 (max (c : Int) o - min (c : Int) o) = 1 → ¬ w32 ((min (c : Int) o).tdiv 6) = w32 ((max (c : Int) o).tdiv 6)) → -1 = bo c o := by decide +kernel
theorem c_borderOf {c o : Nat} (hc : c < 36) (ho : o < 36) : Cl sc (d + 2) mX2_borderOf [Vi (c : Int), Vi (o : Int)] h = some (.inl (Vi (bo c o)), h) := by
  rw [q_X2_borderOf_0, c_min, e_clI, c_max, e_clI]
  by_cases h1 : w32 (max (c : Int) o - min (c : Int) o) = 6
  · rw [if_pos h1]
    exact lf (bo_w1 c hc o ho h1)
  · rw [if_neg h1]
    by_cases h2 : w32 (max (c : Int) o - min (c : Int) o) = 1
    · rw [if_pos h2, if_neg (by decide), if_neg (by decide)]
      by_cases h3 : w32 ((min (c : Int) o).tdiv 6) = w32 ((max (c : Int) o).tdiv 6)
      · rw [if_pos h3, q_X2_borderOf_33, if_neg (by decide), if_neg (by decide), if_neg (by decide)]
        exact lf (bo_w2 c hc o ho h1 h2 h3)
      · rw [if_neg h3, q_X2_borderOf_33, if_pos rfl]
        exact lf (bo_w3 c hc o ho h1 (fun _ => h3))
    · rw [if_neg h2, q_X2_borderOf_33, if_pos rfl]
      exact lf (bo_w3 c hc o ho h1 (fun h => absurd h h2))
/-- one side of the reference's search -/
def boF (c o : Nat) (k : Nat) (f : Int) : Int := if sd c k ≠ -1 ∧ ov (sd c k).toNat c = o then sd c k else f
theorem boF_bo : ∀ c, c < 36 → ∀ o, o < 36 → boF c o 3 (boF c o 2 (boF c o 1 (boF c o 0 (-1)))) = bo c o := by decide +kernel
theorem c_mborderOf {c o : Nat} (hc : c < 36) (ho : o < 36) : Cl sc (d + 5) mX12_borderOf [Vi (c : Int), Vi (o : Int)] h = some (.inl (Vi (bo c o)), h) := by
  rw [q_X12_borderOf_0]
  have hs : ∀ (k : Nat) (f : Int) (u : am_V), k < 4 → ∃ u2, Ru sc (d + 5) mX12_borderOf 5 [Vi (c : Int), Vi (o : Int), Vi f, Vi (k : Int), u] [] h = Ru sc (d + 5) mX12_borderOf 5 [Vi (c : Int), Vi (o : Int), Vi (boF c o k f), Vi ((k + 1 : Nat) : Int), u2] [] h := by
    intro k f u hk
    rw [q_X12_borderOf_5, if_pos (by omega), c_sideOf hc hk, e_clI, w32_succ (by omega)]
    have h1 := sd_lt c hc k hk
    by_cases h2 : sd c k = -1
    · rw [if_pos h2]
      refine ⟨Vi (sd c k), ?_⟩
      unfold boF
      rw [if_neg (fun h => h.1 h2)]
    · rw [if_neg h2]
      obtain ⟨b, hb⟩ : ∃ b : Nat, sd c k = (b : Int) := ⟨(sd c k).toNat, by omega⟩
      have h3 := sd_ov c hc k hk h2
      rw [hb] at h1 h3 ⊢
      rw [Int.toNat_natCast] at h3
      rw [c_otherOf (by omega) h3.1, e_clI]
      by_cases h4 : ov b c = o
      · rw [if_pos (by omega)]
        refine ⟨Vi (b : Int), ?_⟩
        unfold boF
        rw [hb, Int.toNat_natCast, if_pos ⟨by rw [← hb]; exact h2, h4⟩]
      · rw [if_neg (by omega)]
        refine ⟨Vi (b : Int), ?_⟩
        unfold boF
        rw [hb, Int.toNat_natCast, if_neg (fun h => h4 h.2)]
  obtain ⟨u1, e1⟩ := hs 0 (-1) (Vx 0) (by omega)
  obtain ⟨u2, e2⟩ := hs 1 (boF c o 0 (-1)) u1 (by omega)
  obtain ⟨u3, e3⟩ := hs 2 (boF c o 1 (boF c o 0 (-1))) u2 (by omega)
  obtain ⟨u4, e4⟩ := hs 3 (boF c o 2 (boF c o 1 (boF c o 0 (-1)))) u3 (by omega)
  refine e1.trans (e2.trans (e3.trans (e4.trans ?_)))
  rw [q_X12_borderOf_5, if_neg (by omega), boF_bo c hc o ho]
theorem c_in {v a b : Int} : Cl sc (d + 1) mX12_in [Vi v, Vi a, Vi b] h = some (.inl (Vi (bz (decide (a ≤ v ∧ v ≤ b)))), h) := by
  rw [q_X12_in_0]
  split
  · rw [decide_eq_false (by omega)]; rfl
  · split
    · rw [decide_eq_false (by omega)]; rfl
    · rw [decide_eq_true (by omega)]; rfl
theorem c_noCell {v : Int} : Cl sc (d + 2) mX12_noCell [Vi v] h = some (.inl (Vi (bz (decide (¬ (0 ≤ v ∧ v ≤ 35))))), h) := by
  rw [q_X12_noCell_0, c_in, e_clI]
  by_cases hp : 0 ≤ v ∧ v ≤ 35 <;> simp [bz, hp]
theorem c_noBorder {v : Int} : Cl sc (d + 2) mX12_noBorder [Vi v] h = some (.inl (Vi (bz (decide (¬ (0 ≤ v ∧ v ≤ 59))))), h) := by
  rw [q_X12_noBorder_0, c_in, e_clI]
  by_cases hp : 0 ≤ v ∧ v ≤ 59 <;> simp [bz, hp]
theorem c_noHeight {v : Int} : Cl sc (d + 2) mX12_noHeight [Vi v] h = some (.inl (Vi (bz (decide (¬ (0 ≤ v ∧ v ≤ 999))))), h) := by
  rw [q_X12_noHeight_0, c_in, e_clI]
  by_cases hp : 0 ≤ v ∧ v ≤ 999 <;> simp [bz, hp]
theorem c_at {b w : Nat} (hb : 7 + 5 * b + w < 2147483647) : Cl sc (d + 1) mX12_at [Vi (b : Int), Vi (w : Int)] h = some (.inl (Vi ((7 + 5 * b + w : Nat) : Int)), h) := by
  rw [q_X12_at_0]
  refine lf ?_
  rw [w32_id (z := 5 * (b : Int)) (by omega) (by omega), w32_id (z := 7 + 5 * (b : Int)) (by omega) (by omega), w32_id (by omega) (by omega)]
  omega
theorem c_familyAt {b w : Nat} (hb : 307 + 4 * b + w < 2147483647) : Cl sc (d + 1) mX12_familyAt [Vi (b : Int), Vi (w : Int)] h = some (.inl (Vi ((307 + 4 * b + w : Nat) : Int)), h) := by
  rw [q_X12_familyAt_0]
  refine lf ?_
  rw [w32_id (z := 4 * (b : Int)) (by omega) (by omega), w32_id (z := 307 + 4 * (b : Int)) (by omega) (by omega), w32_id (by omega) (by omega)]
  omega
theorem tm6 : ∀ a : Nat, a < 36 → (a : Int).tmod 6 = ((a % 6 : Nat) : Int) := by decide +kernel
theorem td6 : ∀ a : Nat, a < 36 → w32 ((a : Int).tdiv 6) = ((a / 6 : Nat) : Int) := by decide +kernel
theorem c_gap {a b : Nat} (ha : a < 36) (hb : b < 36) : Cl sc (d + 2) mX12_gapOf [Vi (a : Int), Vi (b : Int)] h = some (.inl (Vi (ap a b : Nat)), h) := by
  rw [q_X12_gapOf_0, if_neg (by decide), if_neg (by decide), tm6 a ha, tm6 b hb, td6 a ha, td6 b hb, w32_id (by omega) (by omega), w32_id (by omega) (by omega), c_abs (by omega) (by omega), e_clI, if_neg (by decide), if_neg (by decide), c_abs (by omega) (by omega), e_clI]
  refine lf ?_
  unfold ap
  rw [w32_id (by omega) (by omega)]
  omega
theorem c_apart {a b : Nat} (ha : a < 36) (hb : b < 36) : Cl sc (d + 2) mX2_apart [Vi (a : Int), Vi (b : Int)] h = some (.inl (Vi (ap a b : Nat)), h) := by
  rw [q_X2_apart_0, if_neg (by decide), if_neg (by decide), tm6 a ha, tm6 b hb, td6 a ha, td6 b hb, w32_id (by omega) (by omega), w32_id (by omega) (by omega), c_abs (by omega) (by omega), e_clI, if_neg (by decide), if_neg (by decide), c_abs (by omega) (by omega), e_clI]
  refine lf ?_
  unfold ap
  rw [w32_id (by omega) (by omega)]
  omega
/-- the direction from a cell to one in line with it -/
def tw (c o : Nat) : Int := if c / 6 = o / 6 then (if o < c then 0 else 1) else if c % 6 = o % 6 then (if o < c then 2 else 3) else -1
theorem c_towards {a b : Nat} (ha : a < 36) (hb : b < 36) : Cl sc (d + 1) mX2_towards [Vi (a : Int), Vi (b : Int)] h = some (.inl (Vi (tw a b)), h) := by
  rw [q_X2_towards_0]
  simp only [show ¬ ((6 : Nat) = 0) from by decide, if_false]
  rw [tm6 a ha, tm6 b hb, td6 a ha, td6 b hb]
  unfold tw
  by_cases h1 : a / 6 = b / 6
  · rw [if_pos (by omega), if_pos h1]
    by_cases h2 : b < a
    · rw [if_pos (by omega), if_pos h2]
    · rw [if_neg (by omega), if_neg h2]
  · rw [if_neg (by omega), if_neg h1]
    by_cases h3 : a % 6 = b % 6
    · rw [if_pos (by omega), if_pos h3]
      by_cases h2 : b < a
      · rw [if_pos (by omega), if_pos h2]
      · rw [if_neg (by omega), if_neg h2]
    · rw [if_neg (by omega), if_neg h3]
theorem c_cornerAt {x y : Nat} (hx : x < 1000) (hy : y < 1000) : Cl sc (d + 1) mX12_cornerAt [Vi (x : Int), Vi (y : Int)] h = some (.inl (Vi ((x + 7 * y : Nat) : Int)), h) := by
  rw [q_X12_cornerAt_0]
  refine lf ?_
  rw [w32_id (z := 7 * (y : Int)) (by omega) (by omega), w32_id (by omega) (by omega)]
  omega
theorem c_beginOf {b : Nat} (hb : b < 60) : Cl sc (d + 3) mX12_beginOf [Vi (b : Int)] h = some (.inl (Vi (lk b : Nat)), h) := by
  have h0 := lc_lt b hb
  have e3 : ∀ a : Nat, a < 36 → w32 ((a : Int).tmod 6 + 1) = ((a % 6 + 1 : Nat) : Int) := by decide +kernel
  have e4 : ∀ a : Nat, a < 36 → w32 (w32 ((a : Int).tdiv 6) + 1) = ((a / 6 + 1 : Nat) : Int) := by decide +kernel
  rw [q_X12_beginOf_0, c_lessOf hb, e_clI, if_neg (by decide), c_lessOf hb, e_clI, if_neg (by decide), c_isAcross, e_clI]
  simp only [bz0, decide_eq_false_iff_not]
  split
  · rename_i h1
    rw [e3 _ h0, td6 _ h0, c_cornerAt (by omega) (by omega), e_clI]
    refine lf ?_
    clear h0 e3 e4
    revert h1 hb
    revert b
    decide +kernel
  · rename_i h1
    rw [tm6 _ h0, e4 _ h0, c_cornerAt (by omega) (by omega), e_clI]
    refine lf ?_
    clear h0 e3 e4
    revert h1 hb
    revert b
    decide +kernel
theorem c_endOf {b : Nat} (hb : b < 60) : Cl sc (d + 4) mX12_endOf [Vi (b : Int)] h = some (.inl (Vi (mk b : Nat)), h) := by
  rw [q_X12_endOf_0, c_beginOf hb, e_clI, c_isAcross, e_clI]
  simp only [bz0, decide_eq_false_iff_not]
  split
  · rename_i h1
    refine lf ?_
    revert h1 hb
    revert b
    decide +kernel
  · rename_i h1
    refine lf ?_
    revert h1 hb
    revert b
    decide +kernel
theorem c_orNone {n : Int} : Cl sc (d + 1) mX12_orNone [Vi n] h = some (.inl (Vi (if n < 1000000 then n else -1)), h) := by
  rw [q_X12_orNone_0]
  split <;> rfl
end
