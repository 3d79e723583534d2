/-! TEXTS: what both do with a word; the class's things -/
theorem lit_c : ∀ j : Nat, j < 23 → ∀ i : Nat, i < 8 → bI2c (bAnd ((am_lit j).getD i 0) 255) = (am_lit j).getD i 0 ∧ 0 ≤ (am_lit j).getD i 0 ∧ (am_lit j).getD i 0 ≤ 122 := by decide +kernel
theorem lit_s : ∀ j : Nat, j < 23 → bShr (((am_lit j).length : Nat) : Int) 0 = (((am_lit j).length : Nat) : Int) := by decide +kernel
section
variable {sc : Nat × (Nat → Int)} {d : Nat} {h : am_H} {I J K : am_I}
theorem r1_0 (h : am_H) : am_ret 1 0 h = some (.inl (Vi 0), h) := e_ret1 (Or.inl rfl)
theorem r1_1 (h : am_H) : am_ret 1 1 h = some (.inl (Vi 1), h) := e_ret1 (Or.inr rfl)
theorem r1_b (b : Bool) (h : am_H) : am_ret 1 (bz b) h = some (.inl (Vi (bz b)), h) := e_ret1 (bz01 b)
theorem c_coder {j : Nat} (hj : j < 23) : Cl sc (d + 1) mJ0_coder_7d493 [Vx (j + 1 + 1)] h = some (.inl (Vi 0), h) := by
  rw [q_J0_coder_7d493_0, if_neg (by decide), if_pos (by omega)]
  rfl
theorem c_len {j : Nat} (hj : j < 23) : Cl sc (d + 2) mJ0_length_8abf5 [Vx (j + 1 + 1)] h = some (.inl (Vi (((am_lit j).length : Nat) : Int)), h) := by
  rw [q_J0_length_8abf5_0, if_pos (by omega), if_pos (by omega), if_pos (by omega), c_coder hj, e_clI, show j + 1 + 1 + 198 - 200 = j by omega, lit_s j hj]
theorem c_latin {j : Nat} (hj : j < 23) : Cl sc (d + 1) mJ0_isLatin1_aae02 [Vx (j + 1 + 1)] h = some (.inl (Vi 1), h) := by
  rw [q_J0_isLatin1_aae02_0, if_neg (by decide), if_pos (by omega), if_pos rfl]
theorem c_check {i n : Nat} (hi : i < n) : Cl sc (d + 2) mJ0_checkIndex_df160 [Vi (i : Int), Vi (n : Int)] h = some (.inl (Vx 0), h) := by
  rw [q_J0_checkIndex_df160_0, q_J3_checkIndex_8e157_0, if_neg (by omega), if_pos (by omega), e_clI]
theorem c_char1 {j i : Nat} (hj : j < 23) (hi : i < (am_lit j).length) : Cl sc (d + 3) mJ1_charAt_3b067 [Vx (j + 200), Vi (i : Int)] h = some (.inl (Vi ((am_lit j).getD i 0)), h) := by
  have hl := lit_len j hj
  have hc := lit_c j hj i (by omega)
  rw [q_J1_charAt_3b067_0, if_pos (by omega), Nat.add_sub_cancel, c_check hi, e_clV, if_pos (by omega), Int.toNat_natCast, hc.1]
  show (if (0 : Int) ≤ (am_lit j).getD i 0 ∧ (am_lit j).getD i 0 < 65536 then _ else _) = _
  rw [if_pos (by omega)]
theorem c_char {j i : Nat} (hj : j < 23) (hi : i < (am_lit j).length) : Cl sc (d + 4) mJ0_charAt_5068e [Vx (j + 1 + 1), Vi (i : Int)] h = some (.inl (Vi ((am_lit j).getD i 0)), h) := by
  have hl := lit_len j hj
  have hc := lit_c j hj i (by omega)
  have h1 : Cl sc (d + 3) mJ1_charAt_3b067 [Vx (j + 1 + 1 + 198), Vi (i : Int)] h = some (.inl (Vi ((am_lit j).getD i 0)), h) := c_char1 hj hi
  rw [q_J0_charAt_5068e_0, if_pos (by omega), c_latin hj, e_clI, if_neg (by decide), if_pos (by omega), h1, e_clI]
  show (if (0 : Int) ≤ (am_lit j).getD i 0 ∧ (am_lit j).getD i 0 < 65536 then _ else _) = _
  rw [if_pos (by omega)]
theorem c_isLetter {x : Int} : Cl sc (d + 1) mX10_isLetter [Vi x] h = some (.inl (Vi (bz (isL x))), h) := by
  rw [q_X10_isLetter_0]
  unfold isL
  by_cases h1 : x < 97
  · rw [if_pos h1, decide_eq_false (by omega)]
    rfl
  · rw [if_neg h1]
    by_cases h2 : 122 < x
    · rw [if_pos h2, decide_eq_false (by omega)]
      rfl
    · rw [if_neg h2, decide_eq_true (by omega)]
      rfl
theorem c_isDigit {x : Int} : Cl sc (d + 1) mX10_isDigit [Vi x] h = some (.inl (Vi (bz (isD x))), h) := by
  rw [q_X10_isDigit_0]
  unfold isD
  by_cases h1 : x < 48
  · rw [if_pos h1, decide_eq_false (by omega)]
    rfl
  · rw [if_neg h1]
    by_cases h2 : 57 < x
    · rw [if_pos h2, decide_eq_false (by omega)]
      rfl
    · rw [if_neg h2, decide_eq_true (by omega)]
      rfl
theorem ar_t1 {q : Nat} (h : q ≤ 400) : w32 ((q : Int) + 1) = ((q + 1 : Nat) : Int) := w32_succ (by omega)
theorem ar_t2 {q e : Nat} (h : q ≤ e) (h4 : e ≤ 400) : w32 ((e : Int) - (q : Int)) = ((e - q : Nat) : Int) := by
  rw [w32_id (by omega) (by omega)]
  omega
theorem ar_t3 {q i : Nat} (h : q + i ≤ 400) : w32 ((q : Int) + (i : Int)) = ((q + i : Nat) : Int) := by
  rw [w32_id (by omega) (by omega)]
  omega
theorem ar_t4 {v x : Int} (h : 0 ≤ v ∧ v ≤ 999) (hx : 48 ≤ x ∧ x ≤ 57) : w32 (w32 (w32 (v * 10) + x) - 48) = v * 10 + x - 48 ∧ w32 (w32 (w32 (10 * v) + x) - 48) = v * 10 + x - 48 := by
  rw [Int.mul_comm 10 v, w32_id (z := v * 10) (by omega) (by omega), w32_id (z := v * 10 + x) (by omega) (by omega), w32_id (by omega) (by omega)]
  exact ⟨rfl, rfl⟩
theorem c_run29 (s : Sh h) {q L : Nat} (hL : L ≤ 400) : ∀ f k, k + f = L → Ru sc (d + 2) mX10_endOfThing 29 [Vr (some 1), Vi (q : Int), Vi (L : Int), Vi (k : Int)] [] (hI h J) = some (.inl (Vi (rn isD (J 2) f k : Int)), hI h J)
  | 0, k, hk => by
    have l1 : ¬ (k : Int) < (L : Int) := by omega
    rw [q_X10_endOfThing_29, if_neg l1]
    rfl
  | f + 1, k, hk => by
    have l1 : (k : Int) < (L : Int) := by omega
    have l2 : (k : Int) < 400 := by omega
    have ih := c_run29 s hL f (k + 1) (by omega) (q := q)
    have z0 : bz false = 0 := rfl
    have z1 : bz true = 1 := rfl
    have ne1 : ¬ (1 : Int) = 0 := by decide
    have e : rn isD (J 2) (f + 1) k = if isD (J 2 k) = true then rn isD (J 2) f (k + 1) else k := rfl
    have cd := c_isDigit (sc := sc) (d := d) (h := hI h J) (x := J 2 k)
    have wn := ar_t1 (q := k) (by omega)
    rw [q_X10_endOfThing_29, e]
    cases hd : isD (J 2 k)
    · rw [hd, z0] at cd
      rw [if_neg (show ¬ false = true by decide)]
      simp (disch := first | assumption | exact Int.natCast_nonneg _ | decide) only [↓BT s, l1, l2, cd, e_clI, e_clV, e_clP, e_clIx, e_clVx, e_clPx, e_xt, Int.toNat_natCast, Int.reduceToNat, bz0, bz1, Nat.add_zero, decide_eq_false_iff_not, decide_eq_true_eq, Int.reduceEq, Nat.reduceEqDiff, Int.reduceLT, Int.reduceLE, not_true_eq_false, not_false_eq_true, eq_self, ↓reduceIte]
    · rw [hd, z1] at cd
      rw [if_pos (show true = true from rfl)]
      simp (disch := first | assumption | exact Int.natCast_nonneg _ | decide) only [↓BT s, l1, l2, cd, ne1, wn, ih, e_clI, e_clV, e_clP, e_clIx, e_clVx, e_clPx, e_xt, Int.toNat_natCast, Int.reduceToNat, bz0, bz1, Nat.add_zero, decide_eq_false_iff_not, decide_eq_true_eq, Int.reduceEq, Nat.reduceEqDiff, Int.reduceLT, Int.reduceLE, not_true_eq_false, not_false_eq_true, eq_self, ↓reduceIte]
theorem c_run11 (s : Sh h) {q L : Nat} (hL : L ≤ 400) : ∀ f k, k + f = L → Ru sc (d + 2) mX10_endOfThing 11 [Vr (some 1), Vi (q : Int), Vi (L : Int), Vi (k : Int)] [] (hI h J) = some (.inl (Vi (rn isL (J 2) f k : Int)), hI h J)
  | 0, k, hk => by
    have l1 : ¬ (k : Int) < (L : Int) := by omega
    rw [q_X10_endOfThing_11, if_neg l1]
    rfl
  | f + 1, k, hk => by
    have l1 : (k : Int) < (L : Int) := by omega
    have l2 : (k : Int) < 400 := by omega
    have ih := c_run11 s hL f (k + 1) (by omega) (q := q)
    have z0 : bz false = 0 := rfl
    have z1 : bz true = 1 := rfl
    have ne1 : ¬ (1 : Int) = 0 := by decide
    have e : rn isL (J 2) (f + 1) k = if isL (J 2 k) = true then rn isL (J 2) f (k + 1) else k := rfl
    have cd := c_isLetter (sc := sc) (d := d) (h := hI h J) (x := J 2 k)
    have wn := ar_t1 (q := k) (by omega)
    rw [q_X10_endOfThing_11, e]
    cases hd : isL (J 2 k)
    · rw [hd, z0] at cd
      rw [if_neg (show ¬ false = true by decide)]
      simp (disch := first | assumption | exact Int.natCast_nonneg _ | decide) only [↓BT s, l1, l2, cd, e_clI, e_clV, e_clP, e_clIx, e_clVx, e_clPx, e_xt, Int.toNat_natCast, Int.reduceToNat, bz0, bz1, Nat.add_zero, decide_eq_false_iff_not, decide_eq_true_eq, Int.reduceEq, Nat.reduceEqDiff, Int.reduceLT, Int.reduceLE, not_true_eq_false, not_false_eq_true, eq_self, ↓reduceIte]
    · rw [hd, z1] at cd
      rw [if_pos (show true = true from rfl)]
      simp (disch := first | assumption | exact Int.natCast_nonneg _ | decide) only [↓BT s, l1, l2, cd, ne1, wn, ih, e_clI, e_clV, e_clP, e_clIx, e_clVx, e_clPx, e_xt, Int.toNat_natCast, Int.reduceToNat, bz0, bz1, Nat.add_zero, decide_eq_false_iff_not, decide_eq_true_eq, Int.reduceEq, Nat.reduceEqDiff, Int.reduceLT, Int.reduceLE, not_true_eq_false, not_false_eq_true, eq_self, ↓reduceIte]
theorem c_endOfTh (s : Sh h) {q L : Nat} (hL : L ≤ 400) (hq : q < L) : Cl sc (d + 2) mX10_endOfThing [Vr (some 1), Vi (q : Int), Vi (L : Int)] (hI h J) = some (.inl (Vi (enT (J 2) L q : Int)), hI h J) := by
  have l2 : (q : Int) < 400 := by omega
  have z0 : bz false = 0 := rfl
  have z1 : bz true = 1 := rfl
  have ne1 : ¬ (1 : Int) = 0 := by decide
  have cl := c_isLetter (sc := sc) (d := d) (h := hI h J) (x := J 2 q)
  have cd := c_isDigit (sc := sc) (d := d) (h := hI h J) (x := J 2 q)
  have r1 := c_run11 (sc := sc) (d := d) (J := J) s (q := q) hL (L - (q + 1)) (q + 1) (by omega)
  have r2 := c_run29 (sc := sc) (d := d) (J := J) s (q := q) hL (L - (q + 1)) (q + 1) (by omega)
  have wn := ar_t1 (q := q) (by omega)
  rw [q_X10_endOfThing_0]
  unfold enT
  cases h1 : isL (J 2 q)
  · rw [h1, z0] at cl
    rw [if_neg (show ¬ false = true by decide)]
    cases h2 : isD (J 2 q)
    · rw [h2, z0] at cd
      rw [if_neg (show ¬ false = true by decide)]
      simp (disch := first | assumption | exact Int.natCast_nonneg _ | decide) only [↓BT s, l2, cl, cd, wn, e_clI, e_clV, e_clP, e_clIx, e_clVx, e_clPx, e_xt, Int.toNat_natCast, Int.reduceToNat, bz0, bz1, Nat.add_zero, decide_eq_false_iff_not, decide_eq_true_eq, Int.reduceEq, Nat.reduceEqDiff, Int.reduceLT, Int.reduceLE, not_true_eq_false, not_false_eq_true, eq_self, ↓reduceIte]
    · rw [h2, z1] at cd
      rw [if_pos (show true = true from rfl)]
      simp (disch := first | assumption | exact Int.natCast_nonneg _ | decide) only [↓BT s, l2, cl, cd, ne1, wn, r2, e_clI, e_clV, e_clP, e_clIx, e_clVx, e_clPx, e_xt, Int.toNat_natCast, Int.reduceToNat, bz0, bz1, Nat.add_zero, decide_eq_false_iff_not, decide_eq_true_eq, Int.reduceEq, Nat.reduceEqDiff, Int.reduceLT, Int.reduceLE, not_true_eq_false, not_false_eq_true, eq_self, ↓reduceIte]
  · rw [h1, z1] at cl
    rw [if_pos (show true = true from rfl)]
    simp (disch := first | assumption | exact Int.natCast_nonneg _ | decide) only [↓BT s, l2, cl, ne1, wn, r1, e_clI, e_clV, e_clP, e_clIx, e_clVx, e_clPx, e_xt, Int.toNat_natCast, Int.reduceToNat, bz0, bz1, Nat.add_zero, decide_eq_false_iff_not, decide_eq_true_eq, Int.reduceEq, Nat.reduceEqDiff, Int.reduceLT, Int.reduceLE, not_true_eq_false, not_false_eq_true, eq_self, ↓reduceIte]
theorem c_sign10 {x : Int} : Cl sc (d + 1) mX10_sign [Vi x] h = some (.inl (Vi (sgT x)), h) := by
  rw [q_X10_sign_0]
  unfold sgT
  by_cases h1 : x = 40
  · rw [if_pos h1, if_pos h1]
  · rw [if_neg h1, if_neg h1]
    by_cases h2 : x = 41
    · rw [if_pos h2, if_pos h2]
    · rw [if_neg h2, if_neg h2]
      by_cases h3 : x = 43
      · rw [if_pos h3, if_pos h3]
      · rw [if_neg h3, if_neg h3]
        by_cases h4 : x = 59
        · rw [if_pos h4, if_pos h4]
        · rw [if_neg h4, if_neg h4]
          by_cases h5 : x = 60
          · rw [if_pos h5, if_pos h5]
          · rw [if_neg h5, if_neg h5]
            by_cases h6 : x = 62
            · rw [if_pos h6, if_pos h6]
            · rw [if_neg h6, if_neg h6]
theorem c_number10 (s : Sh h) {q e : Nat} (hq : q ≤ e) (he : e ≤ 400) (hd : ∀ i, q + i < e → isD (J 2 (q + i)) = true) : Cl sc (d + 1) mX10_number [Vr (some 1), Vi (q : Int), Vi (e : Int)] (hI h J) = some (.inl (Vi (if 3 < e - q then 1000 else nvT (J 2) q (e - q))), hI h J) := by
  have w1 := ar_t2 hq he
  rw [q_X10_number_0, w1]
  clear w1
  by_cases h3 : 3 < e - q
  · rw [if_pos (by omega), if_pos h3]
  · rw [if_neg (by omega), if_neg h3]
    have go : ∀ k, k ≤ e - q → Ru sc (d + 1) mX10_number 12 [Vr (some 1), Vi (q : Int), Vi (e : Int), Vi 0, Vi (q : Int)] [] (hI h J) = Ru sc (d + 1) mX10_number 12 [Vr (some 1), Vi (q : Int), Vi (e : Int), Vi (nvT (J 2) q k), Vi ((q + k : Nat) : Int)] [] (hI h J) := by
      intro k
      induction k with
      | zero => exact fun _ => rfl
      | succ k ih =>
        intro hk
        rw [ih (by omega)]
        have l1 : ((q + k : Nat) : Int) < (e : Int) := by omega
        have l2 : ((q + k : Nat) : Int) < 400 := by omega
        have hb := nv_b (A := J 2) (q := q) (k := k) (by omega) (fun i hi => hd i (by omega))
        have hx := of_decide_eq_true (hd k (by omega))
        have wn := ar_t1 (q := q + k) (by omega)
        have wv := (ar_t4 hb hx).1
        have ev : nvT (J 2) q (k + 1) = nvT (J 2) q k * 10 + J 2 (q + k) - 48 := rfl
        rw [q_X10_number_12, ev]
        simp (disch := first | assumption | exact Int.natCast_nonneg _ | decide) only [↓BT s, l1, l2, wv, wn, e_clI, e_clV, e_clP, e_clIx, e_clVx, e_clPx, e_xt, Int.toNat_natCast, Int.reduceToNat, bz0, bz1, Nat.add_zero, decide_eq_false_iff_not, decide_eq_true_eq, Int.reduceEq, Nat.reduceEqDiff, Int.reduceLT, Int.reduceLE, not_true_eq_false, not_false_eq_true, eq_self, ↓reduceIte]
        rfl
    have l9 : ¬ ((q + (e - q) : Nat) : Int) < (e : Int) := by omega
    rw [go (e - q) (Nat.le_refl _), q_X10_number_12, if_neg l9]
theorem c_isWord10 (s : Sh h) {j q e : Nat} (hj : j < 23) (hq : q ≤ e) (he : e ≤ 400) : Cl sc (d + 5) mX10_isWord [Vr (some 1), Vx (j + 1 + 1), Vi (q : Int), Vi (e : Int)] (hI h J) = some (.inl (Vi (bz (wdEq (J 2) q e (am_lit j)))), hI h J) := by
  have w1 := ar_t2 hq he
  have r2 : 2 ≤ j + 1 + 1 ∧ j + 1 + 1 < 25 := by clear w1; omega
  rw [q_X10_isWord_0, if_pos r2, c_len hj, e_clI, w1]
  clear w1
  by_cases hl : e - q = (am_lit j).length
  · rw [if_pos (by omega)]
    have go : ∀ r i, i + r = (am_lit j).length → (∀ k, k < i → J 2 (q + k) = (am_lit j).getD k 0) → Ru sc (d + 5) mX10_isWord 11 [Vr (some 1), Vx (j + 1 + 1), Vi (q : Int), Vi (e : Int), Vi (i : Int)] [] (hI h J) = some (.inl (Vi (bz (wdEq (J 2) q e (am_lit j)))), hI h J) := by
      intro r
      induction r with
      | zero =>
        intro i hi ho
        have l1 : ¬ (i : Int) < (((am_lit j).length : Nat) : Int) := by omega
        have ew : wdEq (J 2) q e (am_lit j) = true := decide_eq_true ⟨hl, fun k hk => ho k (by omega)⟩
        rw [q_X10_isWord_11, if_pos r2, c_len hj, e_clI, if_neg l1, ew]
        rfl
      | succ r ih =>
        intro i hi ho
        have l1 : (i : Int) < (((am_lit j).length : Nat) : Int) := by omega
        have l2 : ((q + i : Nat) : Int) < 400 := by omega
        have ch := c_char (sc := sc) (d := d) (h := hI h J) hj (show i < (am_lit j).length by omega)
        have lw := lit_len j hj
        have w3 := ar_t3 (q := q) (i := i) (by omega)
        have wn := ar_t1 (q := i) (by clear w3; omega)
        by_cases ec : J 2 (q + i) = (am_lit j).getD i 0
        · have ih2 := ih (i + 1) (by clear w3 wn; omega) (fun k hk => by
            by_cases e : k = i
            · rw [e]
              exact ec
            · exact ho k (by clear w3 wn; omega))
          rw [q_X10_isWord_11, if_pos r2, c_len hj, e_clI, if_pos l1]
          simp (disch := first | assumption | exact Int.natCast_nonneg _ | decide) only [↓BT s, w3, l2, e_clI, e_clV, e_clP, e_clIx, e_clVx, e_clPx, e_xt, Int.toNat_natCast, Int.reduceToNat, bz0, bz1, Nat.add_zero, decide_eq_false_iff_not, decide_eq_true_eq, Int.reduceEq, Nat.reduceEqDiff, Int.reduceLT, Int.reduceLE, not_true_eq_false, not_false_eq_true, eq_self, ↓reduceIte]
          rw [if_pos r2, ch, e_clI, if_pos ec, wn]
          exact ih2
        · have ew : wdEq (J 2) q e (am_lit j) = false := decide_eq_false (fun z => ec (z.2 i (by clear w3 wn; omega)))
          rw [q_X10_isWord_11, if_pos r2, c_len hj, e_clI, if_pos l1, ew]
          simp (disch := first | assumption | exact Int.natCast_nonneg _ | decide) only [↓BT s, w3, l2, e_clI, e_clV, e_clP, e_clIx, e_clVx, e_clPx, e_xt, Int.toNat_natCast, Int.reduceToNat, bz0, bz1, Nat.add_zero, decide_eq_false_iff_not, decide_eq_true_eq, Int.reduceEq, Nat.reduceEqDiff, Int.reduceLT, Int.reduceLE, not_true_eq_false, not_false_eq_true, eq_self, ↓reduceIte]
          rw [if_pos r2, ch, e_clI, if_neg ec]
          rfl
    exact go (am_lit j).length 0 (Nat.zero_add _) (fun k hk => absurd hk (Nat.not_lt_zero k))
  · rw [if_neg (by omega)]
    have ew : wdEq (J 2) q e (am_lit j) = false := decide_eq_false (fun z => hl z.1)
    rw [ew]
    rfl
theorem c_countyWord (s : Sh h) {q e : Nat} (hq : q ≤ e) (he : e ≤ 400) : Cl sc (d + 6) mX10_countyWord [Vr (some 1), Vi (q : Int), Vi (e : Int)] (hI h J) = some (.inl (Vi (wth (J 2) q e 12 0)), hI h J) := by
  have w0 : Cl sc (d + 5) mX10_isWord [Vr (some 1), Vx 2, Vi (q : Int), Vi (e : Int)] (hI h J) = some (.inl (Vi (bz (wdEq (J 2) q e (am_lit 0)))), hI h J) := c_isWord10 (j := 0) s (by decide) hq he
  have w1 : Cl sc (d + 5) mX10_isWord [Vr (some 1), Vx 3, Vi (q : Int), Vi (e : Int)] (hI h J) = some (.inl (Vi (bz (wdEq (J 2) q e (am_lit 1)))), hI h J) := c_isWord10 (j := 1) s (by decide) hq he
  have w2 : Cl sc (d + 5) mX10_isWord [Vr (some 1), Vx 4, Vi (q : Int), Vi (e : Int)] (hI h J) = some (.inl (Vi (bz (wdEq (J 2) q e (am_lit 2)))), hI h J) := c_isWord10 (j := 2) s (by decide) hq he
  have w3 : Cl sc (d + 5) mX10_isWord [Vr (some 1), Vx 5, Vi (q : Int), Vi (e : Int)] (hI h J) = some (.inl (Vi (bz (wdEq (J 2) q e (am_lit 3)))), hI h J) := c_isWord10 (j := 3) s (by decide) hq he
  have w4 : Cl sc (d + 5) mX10_isWord [Vr (some 1), Vx 6, Vi (q : Int), Vi (e : Int)] (hI h J) = some (.inl (Vi (bz (wdEq (J 2) q e (am_lit 4)))), hI h J) := c_isWord10 (j := 4) s (by decide) hq he
  have w5 : Cl sc (d + 5) mX10_isWord [Vr (some 1), Vx 7, Vi (q : Int), Vi (e : Int)] (hI h J) = some (.inl (Vi (bz (wdEq (J 2) q e (am_lit 5)))), hI h J) := c_isWord10 (j := 5) s (by decide) hq he
  have w6 : Cl sc (d + 5) mX10_isWord [Vr (some 1), Vx 8, Vi (q : Int), Vi (e : Int)] (hI h J) = some (.inl (Vi (bz (wdEq (J 2) q e (am_lit 6)))), hI h J) := c_isWord10 (j := 6) s (by decide) hq he
  have w7 : Cl sc (d + 5) mX10_isWord [Vr (some 1), Vx 9, Vi (q : Int), Vi (e : Int)] (hI h J) = some (.inl (Vi (bz (wdEq (J 2) q e (am_lit 7)))), hI h J) := c_isWord10 (j := 7) s (by decide) hq he
  have w8 : Cl sc (d + 5) mX10_isWord [Vr (some 1), Vx 10, Vi (q : Int), Vi (e : Int)] (hI h J) = some (.inl (Vi (bz (wdEq (J 2) q e (am_lit 8)))), hI h J) := c_isWord10 (j := 8) s (by decide) hq he
  have w9 : Cl sc (d + 5) mX10_isWord [Vr (some 1), Vx 11, Vi (q : Int), Vi (e : Int)] (hI h J) = some (.inl (Vi (bz (wdEq (J 2) q e (am_lit 9)))), hI h J) := c_isWord10 (j := 9) s (by decide) hq he
  have w10 : Cl sc (d + 5) mX10_isWord [Vr (some 1), Vx 12, Vi (q : Int), Vi (e : Int)] (hI h J) = some (.inl (Vi (bz (wdEq (J 2) q e (am_lit 10)))), hI h J) := c_isWord10 (j := 10) s (by decide) hq he
  have w11 : Cl sc (d + 5) mX10_isWord [Vr (some 1), Vx 13, Vi (q : Int), Vi (e : Int)] (hI h J) = some (.inl (Vi (bz (wdEq (J 2) q e (am_lit 11)))), hI h J) := c_isWord10 (j := 11) s (by decide) hq he
  have z0 : bz false = 0 := rfl
  have z1 : bz true = 1 := rfl
  have ne1 : ¬ (1 : Int) = 0 := by decide
  have rc := (BT s).1
  rw [q_X10_countyWord_0]
  show _ = (some (.inl (Vi (if wdEq (J 2) q e (am_lit 0) = true then wc 0 else wth (J 2) q e 11 1)), hI h J) : am_R)
  rw [rc, w0, e_clI]
  cases h0 : wdEq (J 2) q e (am_lit 0)
  · rw [z0, if_pos (show (0 : Int) = 0 from rfl), if_neg (show ¬ false = true by decide)]
    show _ = (some (.inl (Vi (if wdEq (J 2) q e (am_lit 1) = true then wc 1 else wth (J 2) q e 10 2)), hI h J) : am_R)
    rw [rc, w1, e_clI]
    cases h1 : wdEq (J 2) q e (am_lit 1)
    · rw [z0, if_pos (show (0 : Int) = 0 from rfl), if_neg (show ¬ false = true by decide)]
      show _ = (some (.inl (Vi (if wdEq (J 2) q e (am_lit 2) = true then wc 2 else wth (J 2) q e 9 3)), hI h J) : am_R)
      rw [rc, w2, e_clI]
      cases h2 : wdEq (J 2) q e (am_lit 2)
      · rw [z0, if_pos (show (0 : Int) = 0 from rfl), if_neg (show ¬ false = true by decide)]
        show _ = (some (.inl (Vi (if wdEq (J 2) q e (am_lit 3) = true then wc 3 else wth (J 2) q e 8 4)), hI h J) : am_R)
        rw [rc, w3, e_clI]
        cases h3 : wdEq (J 2) q e (am_lit 3)
        · rw [z0, if_pos (show (0 : Int) = 0 from rfl), if_neg (show ¬ false = true by decide)]
          show _ = (some (.inl (Vi (if wdEq (J 2) q e (am_lit 4) = true then wc 4 else wth (J 2) q e 7 5)), hI h J) : am_R)
          rw [rc, w4, e_clI]
          cases h4 : wdEq (J 2) q e (am_lit 4)
          · rw [z0, if_pos (show (0 : Int) = 0 from rfl), if_neg (show ¬ false = true by decide)]
            show _ = (some (.inl (Vi (if wdEq (J 2) q e (am_lit 5) = true then wc 5 else wth (J 2) q e 6 6)), hI h J) : am_R)
            rw [rc, w5, e_clI]
            cases h5 : wdEq (J 2) q e (am_lit 5)
            · rw [z0, if_pos (show (0 : Int) = 0 from rfl), if_neg (show ¬ false = true by decide)]
              show _ = (some (.inl (Vi (if wdEq (J 2) q e (am_lit 6) = true then wc 6 else wth (J 2) q e 5 7)), hI h J) : am_R)
              rw [rc, w6, e_clI]
              cases h6 : wdEq (J 2) q e (am_lit 6)
              · rw [z0, if_pos (show (0 : Int) = 0 from rfl), if_neg (show ¬ false = true by decide)]
                show _ = (some (.inl (Vi (if wdEq (J 2) q e (am_lit 7) = true then wc 7 else wth (J 2) q e 4 8)), hI h J) : am_R)
                rw [rc, w7, e_clI]
                cases h7 : wdEq (J 2) q e (am_lit 7)
                · rw [z0, if_pos (show (0 : Int) = 0 from rfl), if_neg (show ¬ false = true by decide)]
                  show _ = (some (.inl (Vi (if wdEq (J 2) q e (am_lit 8) = true then wc 8 else wth (J 2) q e 3 9)), hI h J) : am_R)
                  rw [rc, w8, e_clI]
                  cases h8 : wdEq (J 2) q e (am_lit 8)
                  · rw [z0, if_pos (show (0 : Int) = 0 from rfl), if_neg (show ¬ false = true by decide)]
                    show _ = (some (.inl (Vi (if wdEq (J 2) q e (am_lit 9) = true then wc 9 else wth (J 2) q e 2 10)), hI h J) : am_R)
                    rw [rc, w9, e_clI]
                    cases h9 : wdEq (J 2) q e (am_lit 9)
                    · rw [z0, if_pos (show (0 : Int) = 0 from rfl), if_neg (show ¬ false = true by decide)]
                      show _ = (some (.inl (Vi (if wdEq (J 2) q e (am_lit 10) = true then wc 10 else wth (J 2) q e 1 11)), hI h J) : am_R)
                      rw [rc, w10, e_clI]
                      cases h10 : wdEq (J 2) q e (am_lit 10)
                      · rw [z0, if_pos (show (0 : Int) = 0 from rfl), if_neg (show ¬ false = true by decide)]
                        show _ = (some (.inl (Vi (if wdEq (J 2) q e (am_lit 11) = true then wc 11 else wth (J 2) q e 0 12)), hI h J) : am_R)
                        rw [rc, w11, e_clI]
                        cases h11 : wdEq (J 2) q e (am_lit 11)
                        · rw [z0, if_pos (show (0 : Int) = 0 from rfl), if_neg (show ¬ false = true by decide)]
                          rfl
                        · rw [z1, if_neg ne1, if_pos (show true = true from rfl)]
                          rfl
                      · rw [z1, if_neg ne1, if_pos (show true = true from rfl)]
                        rfl
                    · rw [z1, if_neg ne1, if_pos (show true = true from rfl)]
                      rfl
                  · rw [z1, if_neg ne1, if_pos (show true = true from rfl)]
                    rfl
                · rw [z1, if_neg ne1, if_pos (show true = true from rfl)]
                  rfl
              · rw [z1, if_neg ne1, if_pos (show true = true from rfl)]
                rfl
            · rw [z1, if_neg ne1, if_pos (show true = true from rfl)]
              rfl
          · rw [z1, if_neg ne1, if_pos (show true = true from rfl)]
            rfl
        · rw [z1, if_neg ne1, if_pos (show true = true from rfl)]
          rfl
      · rw [z1, if_neg ne1, if_pos (show true = true from rfl)]
        rfl
    · rw [z1, if_neg ne1, if_pos (show true = true from rfl)]
      rfl
  · rw [z1, if_neg ne1, if_pos (show true = true from rfl)]
    rfl
theorem c_lawWord (s : Sh h) {q e : Nat} (hq : q ≤ e) (he : e ≤ 400) : Cl sc (d + 6) mX10_lawWord [Vr (some 1), Vi (q : Int), Vi (e : Int)] (hI h J) = some (.inl (Vi (wth (J 2) q e 11 12)), hI h J) := by
  have w12 : Cl sc (d + 5) mX10_isWord [Vr (some 1), Vx 14, Vi (q : Int), Vi (e : Int)] (hI h J) = some (.inl (Vi (bz (wdEq (J 2) q e (am_lit 12)))), hI h J) := c_isWord10 (j := 12) s (by decide) hq he
  have w13 : Cl sc (d + 5) mX10_isWord [Vr (some 1), Vx 15, Vi (q : Int), Vi (e : Int)] (hI h J) = some (.inl (Vi (bz (wdEq (J 2) q e (am_lit 13)))), hI h J) := c_isWord10 (j := 13) s (by decide) hq he
  have w14 : Cl sc (d + 5) mX10_isWord [Vr (some 1), Vx 16, Vi (q : Int), Vi (e : Int)] (hI h J) = some (.inl (Vi (bz (wdEq (J 2) q e (am_lit 14)))), hI h J) := c_isWord10 (j := 14) s (by decide) hq he
  have w15 : Cl sc (d + 5) mX10_isWord [Vr (some 1), Vx 17, Vi (q : Int), Vi (e : Int)] (hI h J) = some (.inl (Vi (bz (wdEq (J 2) q e (am_lit 15)))), hI h J) := c_isWord10 (j := 15) s (by decide) hq he
  have w16 : Cl sc (d + 5) mX10_isWord [Vr (some 1), Vx 18, Vi (q : Int), Vi (e : Int)] (hI h J) = some (.inl (Vi (bz (wdEq (J 2) q e (am_lit 16)))), hI h J) := c_isWord10 (j := 16) s (by decide) hq he
  have w17 : Cl sc (d + 5) mX10_isWord [Vr (some 1), Vx 19, Vi (q : Int), Vi (e : Int)] (hI h J) = some (.inl (Vi (bz (wdEq (J 2) q e (am_lit 17)))), hI h J) := c_isWord10 (j := 17) s (by decide) hq he
  have w18 : Cl sc (d + 5) mX10_isWord [Vr (some 1), Vx 20, Vi (q : Int), Vi (e : Int)] (hI h J) = some (.inl (Vi (bz (wdEq (J 2) q e (am_lit 18)))), hI h J) := c_isWord10 (j := 18) s (by decide) hq he
  have w19 : Cl sc (d + 5) mX10_isWord [Vr (some 1), Vx 21, Vi (q : Int), Vi (e : Int)] (hI h J) = some (.inl (Vi (bz (wdEq (J 2) q e (am_lit 19)))), hI h J) := c_isWord10 (j := 19) s (by decide) hq he
  have w20 : Cl sc (d + 5) mX10_isWord [Vr (some 1), Vx 22, Vi (q : Int), Vi (e : Int)] (hI h J) = some (.inl (Vi (bz (wdEq (J 2) q e (am_lit 20)))), hI h J) := c_isWord10 (j := 20) s (by decide) hq he
  have w21 : Cl sc (d + 5) mX10_isWord [Vr (some 1), Vx 23, Vi (q : Int), Vi (e : Int)] (hI h J) = some (.inl (Vi (bz (wdEq (J 2) q e (am_lit 21)))), hI h J) := c_isWord10 (j := 21) s (by decide) hq he
  have w22 : Cl sc (d + 5) mX10_isWord [Vr (some 1), Vx 24, Vi (q : Int), Vi (e : Int)] (hI h J) = some (.inl (Vi (bz (wdEq (J 2) q e (am_lit 22)))), hI h J) := c_isWord10 (j := 22) s (by decide) hq he
  have z0 : bz false = 0 := rfl
  have z1 : bz true = 1 := rfl
  have ne1 : ¬ (1 : Int) = 0 := by decide
  have rc := (BT s).1
  rw [q_X10_lawWord_0]
  show _ = (some (.inl (Vi (if wdEq (J 2) q e (am_lit 12) = true then wc 12 else wth (J 2) q e 10 13)), hI h J) : am_R)
  rw [rc, w12, e_clI]
  cases h12 : wdEq (J 2) q e (am_lit 12)
  · rw [z0, if_pos (show (0 : Int) = 0 from rfl), if_neg (show ¬ false = true by decide)]
    show _ = (some (.inl (Vi (if wdEq (J 2) q e (am_lit 13) = true then wc 13 else wth (J 2) q e 9 14)), hI h J) : am_R)
    rw [rc, w13, e_clI]
    cases h13 : wdEq (J 2) q e (am_lit 13)
    · rw [z0, if_pos (show (0 : Int) = 0 from rfl), if_neg (show ¬ false = true by decide)]
      show _ = (some (.inl (Vi (if wdEq (J 2) q e (am_lit 14) = true then wc 14 else wth (J 2) q e 8 15)), hI h J) : am_R)
      rw [rc, w14, e_clI]
      cases h14 : wdEq (J 2) q e (am_lit 14)
      · rw [z0, if_pos (show (0 : Int) = 0 from rfl), if_neg (show ¬ false = true by decide)]
        show _ = (some (.inl (Vi (if wdEq (J 2) q e (am_lit 15) = true then wc 15 else wth (J 2) q e 7 16)), hI h J) : am_R)
        rw [rc, w15, e_clI]
        cases h15 : wdEq (J 2) q e (am_lit 15)
        · rw [z0, if_pos (show (0 : Int) = 0 from rfl), if_neg (show ¬ false = true by decide)]
          show _ = (some (.inl (Vi (if wdEq (J 2) q e (am_lit 16) = true then wc 16 else wth (J 2) q e 6 17)), hI h J) : am_R)
          rw [rc, w16, e_clI]
          cases h16 : wdEq (J 2) q e (am_lit 16)
          · rw [z0, if_pos (show (0 : Int) = 0 from rfl), if_neg (show ¬ false = true by decide)]
            show _ = (some (.inl (Vi (if wdEq (J 2) q e (am_lit 17) = true then wc 17 else wth (J 2) q e 5 18)), hI h J) : am_R)
            rw [rc, w17, e_clI]
            cases h17 : wdEq (J 2) q e (am_lit 17)
            · rw [z0, if_pos (show (0 : Int) = 0 from rfl), if_neg (show ¬ false = true by decide)]
              show _ = (some (.inl (Vi (if wdEq (J 2) q e (am_lit 18) = true then wc 18 else wth (J 2) q e 4 19)), hI h J) : am_R)
              rw [rc, w18, e_clI]
              cases h18 : wdEq (J 2) q e (am_lit 18)
              · rw [z0, if_pos (show (0 : Int) = 0 from rfl), if_neg (show ¬ false = true by decide)]
                show _ = (some (.inl (Vi (if wdEq (J 2) q e (am_lit 19) = true then wc 19 else wth (J 2) q e 3 20)), hI h J) : am_R)
                rw [rc, w19, e_clI]
                cases h19 : wdEq (J 2) q e (am_lit 19)
                · rw [z0, if_pos (show (0 : Int) = 0 from rfl), if_neg (show ¬ false = true by decide)]
                  show _ = (some (.inl (Vi (if wdEq (J 2) q e (am_lit 20) = true then wc 20 else wth (J 2) q e 2 21)), hI h J) : am_R)
                  rw [rc, w20, e_clI]
                  cases h20 : wdEq (J 2) q e (am_lit 20)
                  · rw [z0, if_pos (show (0 : Int) = 0 from rfl), if_neg (show ¬ false = true by decide)]
                    show _ = (some (.inl (Vi (if wdEq (J 2) q e (am_lit 21) = true then wc 21 else wth (J 2) q e 1 22)), hI h J) : am_R)
                    rw [rc, w21, e_clI]
                    cases h21 : wdEq (J 2) q e (am_lit 21)
                    · rw [z0, if_pos (show (0 : Int) = 0 from rfl), if_neg (show ¬ false = true by decide)]
                      show _ = (some (.inl (Vi (if wdEq (J 2) q e (am_lit 22) = true then wc 22 else wth (J 2) q e 0 23)), hI h J) : am_R)
                      rw [rc, w22, e_clI]
                      cases h22 : wdEq (J 2) q e (am_lit 22)
                      · rw [z0, if_pos (show (0 : Int) = 0 from rfl), if_neg (show ¬ false = true by decide)]
                        rfl
                      · rw [z1, if_neg ne1, if_pos (show true = true from rfl)]
                        rfl
                    · rw [z1, if_neg ne1, if_pos (show true = true from rfl)]
                      rfl
                  · rw [z1, if_neg ne1, if_pos (show true = true from rfl)]
                    rfl
                · rw [z1, if_neg ne1, if_pos (show true = true from rfl)]
                  rfl
              · rw [z1, if_neg ne1, if_pos (show true = true from rfl)]
                rfl
            · rw [z1, if_neg ne1, if_pos (show true = true from rfl)]
              rfl
          · rw [z1, if_neg ne1, if_pos (show true = true from rfl)]
            rfl
        · rw [z1, if_neg ne1, if_pos (show true = true from rfl)]
          rfl
      · rw [z1, if_neg ne1, if_pos (show true = true from rfl)]
        rfl
    · rw [z1, if_neg ne1, if_pos (show true = true from rfl)]
      rfl
  · rw [z1, if_neg ne1, if_pos (show true = true from rfl)]
    rfl
theorem wth_sp {A : Nat → Int} {q e : Nat} : ∀ n k m, k + n ≤ 23 → wth A q e (n + m) k = if wth A q e n k = -2 then wth A q e m (k + n) else wth A q e n k
  | 0, k, m, _ => by
    rw [Nat.zero_add, Nat.add_zero]
    exact (if_pos rfl).symm
  | n + 1, k, m, hk9 => by
    rw [show n + 1 + m = (n + m) + 1 by omega]
    show (if wdEq A q e (am_lit k) = true then wc k else wth A q e (n + m) (k + 1)) = if (if wdEq A q e (am_lit k) = true then wc k else wth A q e n (k + 1)) = -2 then wth A q e m (k + (n + 1)) else (if wdEq A q e (am_lit k) = true then wc k else wth A q e n (k + 1))
    by_cases hk : wdEq A q e (am_lit k) = true
    · rw [if_pos hk, if_pos hk, if_neg (wc_n2 k (by omega)).1]
    · rw [if_neg hk, if_neg hk, wth_sp n (k + 1) m (by omega), show k + 1 + n = k + (n + 1) by omega]
theorem wth_23 {A : Nat → Int} {q e : Nat} : wth A q e 23 0 = if wth A q e 12 0 = -2 then wth A q e 11 12 else wth A q e 12 0 := wth_sp 12 0 11 (by decide)
theorem c_thingOf (s : Sh h) {q L : Nat} (hL : L ≤ 400) (hq : q < L) : Cl sc (d + 7) mX10_thingOf [Vr (some 1), Vi (q : Int), Vi (enT (J 2) L q : Int)] (hI h J) = some (.inl (Vi (thT (J 2) L q)), hI h J) := by
  have hb := enT_b (A := J 2) hq
  have l2 : (q : Int) < 400 := by omega
  have z0 : bz false = 0 := rfl
  have z1 : bz true = 1 := rfl
  have ne1 : ¬ (1 : Int) = 0 := by decide
  have cl := c_isLetter (sc := sc) (d := d + 5) (h := hI h J) (x := J 2 q)
  have cd := c_isDigit (sc := sc) (d := d + 5) (h := hI h J) (x := J 2 q)
  have cs := c_sign10 (sc := sc) (d := d + 5) (h := hI h J) (x := J 2 q)
  have cw := c_countyWord (sc := sc) (d := d) (J := J) s (q := q) (e := enT (J 2) L q) (by omega) (by omega)
  have lw := c_lawWord (sc := sc) (d := d) (J := J) s (q := q) (e := enT (J 2) L q) (by omega) (by omega)
  have et : thT (J 2) L q = if isL (J 2 q) = true then wth (J 2) q (enT (J 2) L q) 23 0 else if isD (J 2 q) = true then (if 3 < enT (J 2) L q - q then 1000 else nvT (J 2) q (enT (J 2) L q - q)) else sgT (J 2 q) := if_neg (by omega)
  rw [q_X10_thingOf_0, et]
  cases h1 : isL (J 2 q)
  · rw [h1, z0] at cl
    rw [if_neg (show ¬ false = true by decide)]
    cases h2 : isD (J 2 q)
    · rw [h2, z0] at cd
      rw [if_neg (show ¬ false = true by decide)]
      simp (disch := first | assumption | exact Int.natCast_nonneg _ | decide) only [↓BT s, l2, cl, cd, cs, e_clI, e_clV, e_clP, e_clIx, e_clVx, e_clPx, e_xt, Int.toNat_natCast, Int.reduceToNat, bz0, bz1, Nat.add_zero, decide_eq_false_iff_not, decide_eq_true_eq, Int.reduceEq, Nat.reduceEqDiff, Int.reduceLT, Int.reduceLE, not_true_eq_false, not_false_eq_true, eq_self, ↓reduceIte]
    · rw [h2, z1] at cd
      rw [if_pos (show true = true from rfl)]
      have cn := c_number10 (sc := sc) (d := d + 5) (J := J) s (q := q) (e := enT (J 2) L q) (by omega) (by omega) (fun i hi => en_D hq h1 h2 i hi)
      simp (disch := first | assumption | exact Int.natCast_nonneg _ | decide) only [↓BT s, l2, cl, cd, ne1, cn, e_clI, e_clV, e_clP, e_clIx, e_clVx, e_clPx, e_xt, Int.toNat_natCast, Int.reduceToNat, bz0, bz1, Nat.add_zero, decide_eq_false_iff_not, decide_eq_true_eq, Int.reduceEq, Nat.reduceEqDiff, Int.reduceLT, Int.reduceLE, not_true_eq_false, not_false_eq_true, eq_self, ↓reduceIte]
  · rw [h1, z1] at cl
    rw [if_pos (show true = true from rfl), wth_23]
    by_cases h2 : wth (J 2) q (enT (J 2) L q) 12 0 = -2
    · rw [if_pos h2]
      rw [h2] at cw
      simp (disch := first | assumption | exact Int.natCast_nonneg _ | decide) only [↓BT s, l2, cl, ne1, cw, lw, e_clI, e_clV, e_clP, e_clIx, e_clVx, e_clPx, e_xt, Int.toNat_natCast, Int.reduceToNat, bz0, bz1, Nat.add_zero, decide_eq_false_iff_not, decide_eq_true_eq, Int.reduceEq, Nat.reduceEqDiff, Int.reduceLT, Int.reduceLE, not_true_eq_false, not_false_eq_true, eq_self, ↓reduceIte]
    · rw [if_neg h2]
      simp (disch := first | assumption | exact Int.natCast_nonneg _ | decide) only [↓BT s, l2, cl, ne1, cw, h2, e_clI, e_clV, e_clP, e_clIx, e_clVx, e_clPx, e_xt, Int.toNat_natCast, Int.reduceToNat, bz0, bz1, Nat.add_zero, decide_eq_false_iff_not, decide_eq_true_eq, Int.reduceEq, Nat.reduceEqDiff, Int.reduceLT, Int.reduceLE, not_true_eq_false, not_false_eq_true, eq_self, ↓reduceIte]
end
