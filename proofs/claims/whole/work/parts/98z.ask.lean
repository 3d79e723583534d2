/-! WHICH YEAR TO ASK FOR -/
theorem wcn {F : Nat → Bool} {n : Nat} (hn : n ≤ 1000) : w32 ((cnF F n : Int) + 1) = ((cnF F n + 1 : Nat) : Int) := (ar_3 (Nat.lt_of_le_of_lt (cnF_le n) (Nat.lt_of_le_of_lt hn (by decide)))).1
theorem wpt {F : Nat → Bool} {y n j : Nat} (hn : n ≤ 1000) : w32 ((ptF F y n).1 j + 1) = (ptF F y n).1 j + 1 := by
  have h := (ptF_b (F := F) (y := y) n).1 j
  exact w32_id (by omega) (by omega)
theorem ptF_s {F : Nat → Bool} {y n : Nat} : ptF F y (n + 1) = if F n = true then (up (ptF F y n).1 (hiN n y) ((ptF F y n).1 (hiN n y) + 1), max (ptF F y n).2 ((ptF F y n).1 (hiN n y) + 1)) else ptF F y n := rfl
theorem cnF_s {F : Nat → Bool} {n : Nat} : cnF F (n + 1) = if F n = true then cnF F n + 1 else cnF F n := rfl
section
variable {sc : Nat × (Nat → Int)} {d a b n f : Nat} {h h1 h2 : am_H} {I J J1 J2 K : am_I} {w v : am_Wd} {F : Nat → Bool}
theorem FtC.sr {C : Nat → Int} {q : Nat} (k : FtC F n J) (h1 : q ≠ 136) (h2 : q ≠ 137) : FtC F n (sr J q C) := by
  unfold FtC
  rw [sr_ne (Ne.symm h1), sr_ne (Ne.symm h2)]
  exact k
theorem c_part (s : Sh h) {y : Nat} (hy : y ≤ 99) (k : FtC F 1000 J) : ∃ C, Cl sc (d + 4) mX9_greatestPart [Vr (some 136), Vi (y : Int)] (hI h J) = some (.inl (Vi (ptF F y 1000).2), hI h (sr J 138 C)) := by
  have fl := c_fill (sc := sc) (d := d + 2) (h := h) (I := J) (q := 138) (n := 900) (s.T 138 rfl) (by decide) (x := 0)
  obtain ⟨k1, k2⟩ := k
  have go : ∀ n, n ≤ 1000 → ∃ C u, (∀ j, j < 900 → C j = (ptF F y n).1 j) ∧ Ru sc (d + 4) mX9_greatestPart 9 [Vr (some 136), Vi (y : Int), Vi 0, Vi 0, Vx 0] [] (hI h (sr J 138 (fun u => if u < 900 then 0 else J 138 u))) = Ru sc (d + 4) mX9_greatestPart 9 [Vr (some 136), Vi (y : Int), Vi (ptF F y n).2, Vi (cnF F n : Int), u] [] (hI h (sr J 138 C)) := by
    intro n
    induction n with
    | zero => exact fun _ => ⟨_, Vx 0, fun j hj => if_pos hj, rfl⟩
    | succ n ih =>
      intro hn
      obtain ⟨C, u, c1, c2⟩ := ih (by omega)
      rw [ptF_s, cnF_s]
      cases hF : F n
      · rw [if_neg (by decide), if_neg (by decide)]
        exact ⟨C, u, c1, c2⟩
      · rw [if_pos rfl, if_pos rfl]
        have hlt := cnF_lt (F := F) (show n < 1000 by omega) hF
        have hle := cnF_le (F := F) 1000
        have e1 := k2 n (by omega) hF
        have hb := hiN_b (p := n) hy
        have l1 : (cnF F n : Int) < (cnF F 1000 : Int) := by omega
        have l2 : (cnF F n : Int) < 1000 := by omega
        have l3 : (hiN n y : Int) < 900 := by omega
        have hi := c_high9 (sc := sc) (d := d + 1) (h := hI h (sr J 138 C)) (p := n) (y := y) (by omega) hy
        have hi2 := c1 (hiN n y) (by omega)
        have n1 : (136 : Nat) ≠ 138 := by decide
        have n2 : (137 : Nat) ≠ 138 := by decide
        have wp := wpt (F := F) (y := y) (n := n) (j := hiN n y) (by omega)
        have wc := wcn (F := F) (n := n) (by clear wp; omega)
        refine ⟨up C (hiN n y) ((ptF F y n).1 (hiN n y) + 1), Vi (hiN n y : Int), fun j hj => ?_, c2.trans ?_⟩
        · show up C (hiN n y) ((ptF F y n).1 (hiN n y) + 1) j = up (ptF F y n).1 (hiN n y) ((ptF F y n).1 (hiN n y) + 1) j
          unfold up
          by_cases e : j = hiN n y
          · rw [if_pos e, if_pos e]
          · rw [if_neg e, if_neg e]
            exact c1 j hj
        · rw [q_X9_greatestPart_9]
          simp (disch := first | assumption | exact Int.natCast_nonneg _ | decide) only [↓BS s, sr_ne n1, sr_ne n2, k1, l1, l2, e1, hi, l3, sr_q, hi2, wp, u2_sr, up_s, c_max, wc, e_clI, e_clV, e_clP, e_clIx, e_clVx, e_clPx, e_xt, Int.toNat_natCast, Int.reduceToNat, bz0, bz1, Nat.add_zero, decide_eq_false_iff_not, decide_eq_true_eq, Int.reduceEq, Nat.reduceEqDiff, Int.reduceLT, Int.reduceLE, not_true_eq_false, not_false_eq_true, eq_self, ↓reduceIte]
  obtain ⟨C, u, c1, c2⟩ := go 1000 (Nat.le_refl _)
  refine ⟨C, ?_⟩
  have l1 : ¬ (cnF F 1000 : Int) < (cnF F 1000 : Int) := by omega
  have n1 : (136 : Nat) ≠ 138 := by decide
  rw [q_X9_greatestPart_0]
  simp (disch := first | assumption | exact Int.natCast_nonneg _ | decide) only [↓BS s, fl, e_clI, e_clV, e_clP, e_clIx, e_clVx, e_clPx, e_xt, Int.toNat_natCast, Int.reduceToNat, bz0, bz1, Nat.add_zero, decide_eq_false_iff_not, decide_eq_true_eq, Int.reduceEq, Nat.reduceEqDiff, Int.reduceLT, Int.reduceLE, not_true_eq_false, not_false_eq_true, eq_self, ↓reduceIte]
  rw [c2, q_X9_greatestPart_9]
  simp (disch := first | assumption | exact Int.natCast_nonneg _ | decide) only [↓BS s, sr_ne n1, k1, l1, e_clI, e_clV, e_clP, e_clIx, e_clVx, e_clPx, e_xt, Int.toNat_natCast, Int.reduceToNat, bz0, bz1, Nat.add_zero, decide_eq_false_iff_not, decide_eq_true_eq, Int.reduceEq, Nat.reduceEqDiff, Int.reduceLT, Int.reduceLE, not_true_eq_false, not_false_eq_true, eq_self, ↓reduceIte]
theorem c_bestYear (s : Sh h) (k : FtC F 1000 J) : ∃ C, Cl sc (d + 5) mX9_bestYear [Vr (some 136)] (hI h J) = some (.inl (Vi (if cnF F 1000 < 2 then -1 else (bsX F 1001 100).1)), hI h (sr J 138 C)) := by
  have k1 := k.1
  by_cases h2 : cnF F 1000 < 2
  · have l1 : (cnF F 1000 : Int) < 2 := by omega
    refine ⟨J 138, ?_⟩
    rw [sr_self, q_X9_bestYear_0, if_pos h2]
    simp (disch := first | assumption | exact Int.natCast_nonneg _ | decide) only [↓BS s, k1, l1, e_clI, e_clV, e_clP, e_clIx, e_clVx, e_clPx, e_xt, Int.toNat_natCast, Int.reduceToNat, bz0, bz1, Nat.add_zero, decide_eq_false_iff_not, decide_eq_true_eq, Int.reduceEq, Nat.reduceEqDiff, Int.reduceLT, Int.reduceLE, not_true_eq_false, not_false_eq_true, eq_self, ↓reduceIte]
  · have l1 : ¬ (cnF F 1000 : Int) < 2 := by omega
    have go : ∀ n, n ≤ 100 → ∃ C u, Ru sc (d + 5) mX9_bestYear 13 [Vr (some 136), Vi (-1), Vi 1001, Vi 0, Vx 0] [] (hI h J) = Ru sc (d + 5) mX9_bestYear 13 [Vr (some 136), Vi (bsX F 1001 n).1, Vi (bsX F 1001 n).2, Vi (n : Int), u] [] (hI h (sr J 138 C)) := by
      intro n
      induction n with
      | zero => exact fun _ => ⟨J 138, Vx 0, by rw [sr_self]; rfl⟩
      | succ n ih =>
        intro hn
        obtain ⟨C, u, c1⟩ := ih (by omega)
        have n1 : (136 : Nat) ≠ 138 := by decide
        obtain ⟨C2, c2⟩ := c_part (sc := sc) (d := d) (h := h) (J := sr J 138 C) (F := F) s (y := n) (by omega) (k.sr (by decide) (by decide))
        rw [sr_sr] at c2
        have l2 : ¬ 99 < (n : Int) := by omega
        have e : bsX F 1001 (n + 1) = if (ptF F n 1000).2 < (bsX F 1001 n).2 then ((n : Int), (ptF F n 1000).2) else bsX F 1001 n := rfl
        have wn := (ar_3 (show n < 1480 by omega)).1
        refine ⟨C2, Vi (ptF F n 1000).2, c1.trans ?_⟩
        rw [q_X9_bestYear_13, e]
        by_cases hl : (ptF F n 1000).2 < (bsX F 1001 n).2
        · rw [if_pos hl]
          simp (disch := first | assumption | exact Int.natCast_nonneg _ | decide) only [↓BS s, l2, c2, hl, wn, e_clI, e_clV, e_clP, e_clIx, e_clVx, e_clPx, e_xt, Int.toNat_natCast, Int.reduceToNat, bz0, bz1, Nat.add_zero, decide_eq_false_iff_not, decide_eq_true_eq, Int.reduceEq, Nat.reduceEqDiff, Int.reduceLT, Int.reduceLE, not_true_eq_false, not_false_eq_true, eq_self, ↓reduceIte]
        · rw [if_neg hl]
          simp (disch := first | assumption | exact Int.natCast_nonneg _ | decide) only [↓BS s, l2, c2, hl, wn, e_clI, e_clV, e_clP, e_clIx, e_clVx, e_clPx, e_xt, Int.toNat_natCast, Int.reduceToNat, bz0, bz1, Nat.add_zero, decide_eq_false_iff_not, decide_eq_true_eq, Int.reduceEq, Nat.reduceEqDiff, Int.reduceLT, Int.reduceLE, not_true_eq_false, not_false_eq_true, eq_self, ↓reduceIte]
    obtain ⟨C, u, c1⟩ := go 100 (Nat.le_refl _)
    have l3 : 99 < ((100 : Nat) : Int) := by decide
    refine ⟨C, ?_⟩
    rw [q_X9_bestYear_0, if_neg h2]
    simp (disch := first | assumption | exact Int.natCast_nonneg _ | decide) only [↓BS s, k1, l1, e_clI, e_clV, e_clP, e_clIx, e_clVx, e_clPx, e_xt, Int.toNat_natCast, Int.reduceToNat, bz0, bz1, Nat.add_zero, decide_eq_false_iff_not, decide_eq_true_eq, Int.reduceEq, Nat.reduceEqDiff, Int.reduceLT, Int.reduceLE, not_true_eq_false, not_false_eq_true, eq_self, ↓reduceIte]
    rw [c1, q_X9_bestYear_13, if_pos l3]
theorem m_partBy (s : Sh h) {y : Nat} (hy : y ≤ 99) (hf : ∀ p, p < 1000 → J 299 p = bz (F p)) : ∃ C, Cl sc (d + 4) mX12_partBy [Vr (some 283), Vi (y : Int)] (hI h J) = some (.inl (Vi (ptF F y 1000).2), hI h (sr J 300 C)) := by
  have z0 : bz false = 0 := rfl
  have z1 : bz true = 1 := rfl
  have ne1 : ¬ (1 : Int) = 0 := by decide
  obtain ⟨K, k1, k2⟩ := lpG (X := fun i (_ : Unit) J => Ru sc (d + 4) mX12_partBy 5 [Vr (some 283), Vi (y : Int), Vi 0, Vi (i : Int), Vx 0] [] (hI h J)) (G := fun _ u => u) (K := fun i _ K => ∃ C, K = sr J 300 C ∧ ∀ j, j < i → C j = 0) (s0 := ()) (I := J) ⟨J 300, by rw [sr_self], fun j hj => absurd hj (Nat.not_lt_zero j)⟩ (N := 1000) (fun i _ K hi k => by
    obtain ⟨C, c1, c2⟩ := k
    subst c1
    have l1 : (i : Int) < 1000 := by omega
    have wn := (ar_3 (show i < 1480 by omega)).1
    refine ⟨sr J 300 (up C i 0), ⟨_, rfl, fun j hj => ?_⟩, ?_⟩
    · unfold up
      by_cases e : j = i
      · rw [if_pos e]
      · rw [if_neg e]
        exact c2 j (by clear wn; omega)
    · try dsimp only
      rw [q_X12_partBy_5]
      simp (disch := first | assumption | exact Int.natCast_nonneg _ | decide) only [↓BM s, l1, u2_sr, wn, e_clI, e_clV, e_clP, e_clIx, e_clVx, e_clPx, e_xt, Int.toNat_natCast, Int.reduceToNat, bz0, bz1, Nat.add_zero, decide_eq_false_iff_not, decide_eq_true_eq, Int.reduceEq, Nat.reduceEqDiff, Int.reduceLT, Int.reduceLE, not_true_eq_false, not_false_eq_true, eq_self, ↓reduceIte])
  obtain ⟨C0, c1, c2⟩ := k1
  have go : ∀ n, n ≤ 1000 → ∃ C u, (∀ j, j < 1000 → C j = (ptF F y n).1 j) ∧ Ru sc (d + 4) mX12_partBy 18 [Vr (some 283), Vi (y : Int), Vi 0, Vi 0, Vx 0] [] (hI h (sr J 300 C0)) = Ru sc (d + 4) mX12_partBy 18 [Vr (some 283), Vi (y : Int), Vi (ptF F y n).2, Vi (n : Int), u] [] (hI h (sr J 300 C)) := by
    intro n
    induction n with
    | zero => exact fun _ => ⟨C0, Vx 0, fun j hj => c2 j hj, rfl⟩
    | succ n ih =>
      intro hn
      obtain ⟨C, u, c1, c2⟩ := ih (by omega)
      have hfn := hf n (by omega)
      have l1 : (n : Int) < 1000 := by omega
      have n1 : (299 : Nat) ≠ 300 := by decide
      have hb := hiN_b (p := n) hy
      have l3 : (hiN n y : Int) < 1000 := by omega
      have hi := m_high12 (sc := sc) (d := d + 1) (h := hI h (sr J 300 C)) (p := n) (y := y) (by omega) hy
      have hi2 := c1 (hiN n y) (by omega)
      have wp := wpt (F := F) (y := y) (n := n) (j := hiN n y) (by omega)
      have wn := (ar_3 (show n < 1480 by clear wp; omega)).1
      rw [ptF_s]
      cases hF : F n
      · rw [if_neg (by decide)]
        rw [hF, z0] at hfn
        refine ⟨C, u, c1, c2.trans ?_⟩
        rw [q_X12_partBy_18]
        simp (disch := first | assumption | exact Int.natCast_nonneg _ | decide) only [↓BM s, l1, sr_ne n1, hfn, wn, e_clI, e_clV, e_clP, e_clIx, e_clVx, e_clPx, e_xt, Int.toNat_natCast, Int.reduceToNat, bz0, bz1, Nat.add_zero, decide_eq_false_iff_not, decide_eq_true_eq, Int.reduceEq, Nat.reduceEqDiff, Int.reduceLT, Int.reduceLE, not_true_eq_false, not_false_eq_true, eq_self, ↓reduceIte]
      · rw [if_pos rfl]
        rw [hF, z1] at hfn
        refine ⟨up C (hiN n y) ((ptF F y n).1 (hiN n y) + 1), Vi (hiN n y : Int), fun j hj => ?_, c2.trans ?_⟩
        · show up C (hiN n y) ((ptF F y n).1 (hiN n y) + 1) j = up (ptF F y n).1 (hiN n y) ((ptF F y n).1 (hiN n y) + 1) j
          unfold up
          by_cases e : j = hiN n y
          · rw [if_pos e, if_pos e]
          · rw [if_neg e, if_neg e]
            exact c1 j hj
        · rw [q_X12_partBy_18]
          simp (disch := first | assumption | exact Int.natCast_nonneg _ | decide) only [↓BM s, l1, sr_ne n1, hfn, ne1, hi, l3, sr_q, hi2, wp, u2_sr, up_s, c_max, wn, e_clI, e_clV, e_clP, e_clIx, e_clVx, e_clPx, e_xt, Int.toNat_natCast, Int.reduceToNat, bz0, bz1, Nat.add_zero, decide_eq_false_iff_not, decide_eq_true_eq, Int.reduceEq, Nat.reduceEqDiff, Int.reduceLT, Int.reduceLE, not_true_eq_false, not_false_eq_true, eq_self, ↓reduceIte]
  obtain ⟨C, u, g1, g2⟩ := go 1000 (Nat.le_refl _)
  have l9 : ¬ ((1000 : Nat) : Int) < 1000 := by decide
  refine ⟨C, ?_⟩
  rw [q_X12_partBy_0]
  refine k2.trans ?_
  try dsimp only
  rw [q_X12_partBy_5, if_neg l9, c1, g2, q_X12_partBy_18, if_neg l9]
theorem m_askLoop (s : Sh h) (hf : ∀ p, p < 1000 → J 299 p = bz (F p)) {i1 : Int} (e1 : i1 = (cnF F 1000 : Int)) {u5 : am_V} : ∃ C, Ru sc (d + 5) mX12_ask 49 [Vr (some 283), Vi i1, Vi (-1), Vi 1000000, Vi 0, u5] [] (hI h J) = some (.inl (Vi (if cnF F 1000 < 2 then -1 else (bsX F 1000000 100).1)), hI h (sr J 300 C)) := by
  have l0 : (0 : Int) < 100 := by decide
  by_cases h2 : cnF F 1000 < 2
  · have l1 : ¬ 1 < i1 := by omega
    refine ⟨J 300, ?_⟩
    rw [sr_self, q_X12_ask_49, if_pos l0, if_neg l1, if_pos h2]
  · have l1 : 1 < i1 := by omega
    have go : ∀ n, n ≤ 100 → ∃ C u, Ru sc (d + 5) mX12_ask 49 [Vr (some 283), Vi i1, Vi (-1), Vi 1000000, Vi 0, u5] [] (hI h J) = Ru sc (d + 5) mX12_ask 49 [Vr (some 283), Vi i1, Vi (bsX F 1000000 n).1, Vi (bsX F 1000000 n).2, Vi (n : Int), u] [] (hI h (sr J 300 C)) := by
      intro n
      induction n with
      | zero => exact fun _ => ⟨J 300, u5, by rw [sr_self]; rfl⟩
      | succ n ih =>
        intro hn
        obtain ⟨C, u, c1⟩ := ih (by omega)
        obtain ⟨C2, c2⟩ := m_partBy (sc := sc) (d := d) (h := h) (J := sr J 300 C) (F := F) s (y := n) (by omega) (fun p hp => by rw [sr_ne (by decide)]; exact hf p hp)
        rw [sr_sr] at c2
        have l2 : (n : Int) < 100 := by omega
        have e : bsX F 1000000 (n + 1) = if (ptF F n 1000).2 < (bsX F 1000000 n).2 then ((n : Int), (ptF F n 1000).2) else bsX F 1000000 n := rfl
        have wn := (ar_3 (show n < 1480 by omega)).1
        refine ⟨C2, Vi (ptF F n 1000).2, c1.trans ?_⟩
        rw [q_X12_ask_49, e]
        by_cases hl : (ptF F n 1000).2 < (bsX F 1000000 n).2
        · rw [if_pos hl]
          have hm : min (bsX F 1000000 n).2 (ptF F n 1000).2 = (ptF F n 1000).2 := Int.min_eq_right (Int.le_of_lt hl)
          simp (disch := first | assumption | exact Int.natCast_nonneg _ | decide) only [↓BM s, l1, l2, c2, hl, c_min, hm, wn, e_clI, e_clV, e_clP, e_clIx, e_clVx, e_clPx, e_xt, Int.toNat_natCast, Int.reduceToNat, bz0, bz1, Nat.add_zero, decide_eq_false_iff_not, decide_eq_true_eq, Int.reduceEq, Nat.reduceEqDiff, Int.reduceLT, Int.reduceLE, not_true_eq_false, not_false_eq_true, eq_self, ↓reduceIte]
        · rw [if_neg hl]
          have hm : min (bsX F 1000000 n).2 (ptF F n 1000).2 = (bsX F 1000000 n).2 := Int.min_eq_left (Int.not_lt.mp hl)
          simp (disch := first | assumption | exact Int.natCast_nonneg _ | decide) only [↓BM s, l1, l2, c2, hl, c_min, hm, wn, e_clI, e_clV, e_clP, e_clIx, e_clVx, e_clPx, e_xt, Int.toNat_natCast, Int.reduceToNat, bz0, bz1, Nat.add_zero, decide_eq_false_iff_not, decide_eq_true_eq, Int.reduceEq, Nat.reduceEqDiff, Int.reduceLT, Int.reduceLE, not_true_eq_false, not_false_eq_true, eq_self, ↓reduceIte]
    obtain ⟨C, u, c1⟩ := go 100 (Nat.le_refl _)
    have l3 : ¬ ((100 : Nat) : Int) < 100 := by decide
    refine ⟨C, ?_⟩
    rw [c1, q_X12_ask_49, if_neg l3, if_neg h2]
theorem m_askFit (s : Sh h) (hF : ∀ (p : Nat) (C : Nat → Int), p < 1000 → Cl sc (d + 4) mX12_fits [Vr (some 283), Vi (p : Int)] (hI h (sr J 299 C)) = some (.inl (Vi (bz (F p))), hI h (sr J 299 C))) : ∃ C u3 u4 u5, (∀ p, p < 1000 → C p = bz (F p)) ∧ Ru sc (d + 5) mX12_ask 19 [Vr (some 283), Vi 0, Vi 0, Vx 0, Vx 0, Vx 0] [] (hI h J) = Ru sc (d + 5) mX12_ask 19 [Vr (some 283), Vi (cnF F 1000 : Int), Vi ((1000 : Nat) : Int), u3, u4, u5] [] (hI h (sr J 299 C)) := by
  have go : ∀ n, n ≤ 1000 → ∃ C, (∀ p, p < n → C p = bz (F p)) ∧ Ru sc (d + 5) mX12_ask 19 [Vr (some 283), Vi 0, Vi 0, Vx 0, Vx 0, Vx 0] [] (hI h J) = Ru sc (d + 5) mX12_ask 19 [Vr (some 283), Vi (cnF F n : Int), Vi (n : Int), Vx 0, Vx 0, Vx 0] [] (hI h (sr J 299 C)) := by
    intro n
    induction n with
    | zero => exact fun _ => ⟨J 299, fun p hp => absurd hp (Nat.not_lt_zero p), by rw [sr_self]; rfl⟩
    | succ n ih =>
      intro hn
      obtain ⟨C, c1, c2⟩ := ih (by omega)
      have l1 : (n : Int) < 1000 := by omega
      have hf := hF n C (by omega)
      have hb := bz01 (F n)
      have wn := (ar_3 (show n < 1480 by omega)).1
      have wc := wcn (F := F) (n := n) (by clear wn; omega)
      have ne1 : ¬ (1 : Int) = 0 := by decide
      refine ⟨up C n (bz (F n)), fun p hp => ?_, c2.trans ?_⟩
      · unfold up
        by_cases e : p = n
        · rw [if_pos e, e]
        · rw [if_neg e]
          exact c1 p (by clear wn wc; omega)
      · rw [q_X12_ask_19, cnF_s]
        cases hFn : F n
        · have z0 : bz false = 0 := rfl
          rw [hFn, z0] at hf hb
          rw [z0, if_neg (show ¬ false = true by decide)]
          have w0 : w32 ((cnF F n : Int) + 0) = (cnF F n : Int) := by
            have := cnF_le (F := F) n
            clear wn wc
            rw [Int.add_zero]
            exact w32_id (by omega) (by omega)
          simp (disch := first | assumption | exact Int.natCast_nonneg _ | decide) only [↓BM s, l1, hf, hb, u2_sr, sr_q, up_s, w0, wn, e_clI, e_clV, e_clP, e_clIx, e_clVx, e_clPx, e_xt, Int.toNat_natCast, Int.reduceToNat, bz0, bz1, Nat.add_zero, decide_eq_false_iff_not, decide_eq_true_eq, Int.reduceEq, Nat.reduceEqDiff, Int.reduceLT, Int.reduceLE, not_true_eq_false, not_false_eq_true, eq_self, ↓reduceIte]
        · have z1 : bz true = 1 := rfl
          rw [hFn, z1] at hf hb
          rw [z1, if_pos (show true = true from rfl)]
          simp (disch := first | assumption | exact Int.natCast_nonneg _ | decide) only [↓BM s, l1, hf, hb, u2_sr, sr_q, up_s, ne1, wc, wn, e_clI, e_clV, e_clP, e_clIx, e_clVx, e_clPx, e_xt, Int.toNat_natCast, Int.reduceToNat, bz0, bz1, Nat.add_zero, decide_eq_false_iff_not, decide_eq_true_eq, Int.reduceEq, Nat.reduceEqDiff, Int.reduceLT, Int.reduceLE, not_true_eq_false, not_false_eq_true, eq_self, ↓reduceIte]
  obtain ⟨C, c1, c2⟩ := go 1000 (Nat.le_refl _)
  exact ⟨C, Vx 0, Vx 0, Vx 0, c1, c2⟩
theorem p_ask (r : Rel h I) : Pub h I (Cl sc (d + 30) mX11_ask [Vr (some 0)]) (Cl sc (d + 30) mX12_ask [Vr (some 283)]) cdA := by
  have t := r.2.2.2.2.1
  obtain ⟨L, hM⟩ : ∃ L : Nat, I 283 9 = L := ⟨(I 283 9).toNat, by have := t.2.1; omega⟩
  have hL : I 1 1 = (L : Int) := t.1.trans hM
  have hl400 : L ≤ 400 := by have := t.2.1; omega
  have ne1 : ¬ (1 : Int) = 0 := by decide
  cases hv : SvT (I 289) L
  · have cr := c_readsBad (sc := sc) (d := d + 24) r.1 t hL hv
    refine pubX (e := 1) (by decide) r (J1 := am_u2 I 1 1 0) ?_ (fun o => ?_)
    · rw [q_X11_ask_0]
      simp (disch := first | assumption | exact Int.natCast_nonneg _ | decide) only [↓BO r.1, ↓BS r.1, cr, e_clI, e_clV, e_clP, e_clIx, e_clVx, e_clPx, e_xt, Int.toNat_natCast, Int.reduceToNat, bz0, bz1, Nat.add_zero, decide_eq_false_iff_not, decide_eq_true_eq, Int.reduceEq, Nat.reduceEqDiff, Int.reduceLT, Int.reduceLE, not_true_eq_false, not_false_eq_true, eq_self, ↓reduceIte]
      rfl
    · have e9 : am_u2 (am_u2 I 1 1 0) 303 0 o 283 9 = (L : Int) := by rw [u2_o (by decide), u2_o (by decide)]; exact hM
      have mu := m_uses (sc := sc) (d := d + 28) (h := am_ex h) (J := am_u2 (am_u2 I 1 1 0) 303 0 o) r.ex.1 e9
      obtain ⟨u1, u2, u3, u4, u5, u6⟩ := usW_f (J := am_u2 (am_u2 I 1 1 0) 303 0 o) (L := L)
      have es : usW (am_u2 (am_u2 I 1 1 0) 303 0 o) L 289 = I 289 := by rw [u1 289 (by decide), u2_o (by decide), u2_o (by decide)]
      have mi := m_isSeen (sc := sc) (d := d + 27) (h := am_ex h) (J := usW (am_u2 (am_u2 I 1 1 0) 303 0 o) L) r.ex.1 hl400 u3
      rw [es, hv] at mi
      have z0 : bz false = 0 := rfl
      rw [z0] at mi
      obtain ⟨v1, v2⟩ := used_up (K := am_u2 (am_u2 I 1 1 0) 303 0 o) (L := L) (Q := am_u2 (usW (am_u2 (am_u2 I 1 1 0) 303 0 o) L) 283 0 1) r (by rw [u2_o (by decide)]; exact u2_same) (fun p j h1 h2 => by
        unfold am_u2
        rw [if_neg (fun e => h2 (by unfold scr; omega)), if_neg h1]) (fun p j h2 => by
        unfold am_u2
        rw [if_neg (fun e => h2 (by unfold scr; omega))])
      refine ⟨_, ?_, v1, v2, u2_same⟩
      rw [q_X12_ask_0]
      simp (disch := first | assumption | exact Int.natCast_nonneg _ | decide) only [↓BM r.ex.1, mu, mi, m_t1 r.ex.1, ne1, e_clI, e_clV, e_clP, e_clIx, e_clVx, e_clPx, e_xt, Int.toNat_natCast, Int.reduceToNat, bz0, bz1, Nat.add_zero, decide_eq_false_iff_not, decide_eq_true_eq, Int.reduceEq, Nat.reduceEqDiff, Int.reduceLT, Int.reduceLE, not_true_eq_false, not_false_eq_true, eq_self, ↓reduceIte]
  · obtain ⟨K, ⟨k1, k2, k3⟩, k5⟩ := c_readsGood (sc := sc) (d := d + 24) r.1 t hL hv
    have kk : ∀ p j, ¬ (p = 1 ∧ j = 1) → ¬ scr p j → K p j = I p j := fun p j h1 h2 => k1 p j h1 (fun e => h2 (by unfold scr; omega)) (fun e => h2 (by unfold scr; omega))
    obtain ⟨C, by9⟩ := c_bestYear (sc := sc) (d := d + 24) (h := h) (J := K) r.1 k3
    have c9 : Cl sc (d + 30) mX11_ask [Vr (some 0)] (hI h I) = some (.inl (Vi (if cnF (fun p => okN (unS (I 289)) p (L / 2)) 1000 < 2 then -1 else (bsX (fun p => okN (unS (I 289)) p (L / 2)) 1001 100).1)), hI h (sr K 138 C)) := by
      rw [q_X11_ask_0]
      simp (disch := first | assumption | exact Int.natCast_nonneg _ | decide) only [↓BO r.1, ↓BS r.1, k5, ne1, by9, e_clI, e_clV, e_clP, e_clIx, e_clVx, e_clPx, e_xt, Int.toNat_natCast, Int.reduceToNat, bz0, bz1, Nat.add_zero, decide_eq_false_iff_not, decide_eq_true_eq, Int.reduceEq, Nat.reduceEqDiff, Int.reduceLT, Int.reduceLE, not_true_eq_false, not_false_eq_true, eq_self, ↓reduceIte]
    rw [show bsX (fun p => okN (unS (I 289)) p (L / 2)) 1001 100 = bsX (fun p => okN (unS (I 289)) p (L / 2)) 1000000 100 from bsX_eq (by decide) (by decide) 99] at c9
    have kk2 : ∀ p j, ¬ (p = 1 ∧ j = 1) → ¬ scr p j → sr K 138 C p j = I p j := fun p j h1 h2 => by
      rw [sr_ne (fun e => h2 (by unfold scr; omega))]
      exact kk p j h1 h2
    have k22 : sr K 138 C 1 1 = 0 := by rw [sr_ne (by decide)]; exact k2
    generalize sr K 138 C = Z at c9 kk2 k22
    refine pubT rfl r (J1 := Z) c9 (fun o => ?_)
    have e9 : am_u2 Z 303 0 o 283 9 = (L : Int) := by rw [u2_o (by decide), kk2 283 9 (by decide) (by unfold scr; omega)]; exact hM
    have mu := m_uses (sc := sc) (d := d + 28) (h := h) (J := am_u2 Z 303 0 o) r.1 e9
    obtain ⟨u1, u2, u3, u4, u5, u6⟩ := usW_f (J := am_u2 Z 303 0 o) (L := L)
    have es : usW (am_u2 Z 303 0 o) L 289 = I 289 := by
      rw [u1 289 (by decide), u2_o (by decide)]
      exact funext fun j => kk2 289 j (by omega) (by unfold scr; omega)
    have mi := m_isSeen (sc := sc) (d := d + 27) (h := h) (J := usW (am_u2 Z 303 0 o) L) r.1 hl400 u3
    rw [es, hv] at mi
    have z1 : bz true = 1 := rfl
    rw [z1] at mi
    obtain ⟨g1, -, -⟩ := tap_un t hl400 hv
    have fit : ∀ (p : Nat) (C : Nat → Int), p < 1000 → Cl sc (d + 29) mX12_fits [Vr (some 283), Vi (p : Int)] (hI h (sr (usW (am_u2 Z 303 0 o) L) 299 C)) = some (.inl (Vi (bz (okN (unS (I 289)) p (L / 2)))), hI h (sr (usW (am_u2 Z 303 0 o) L) 299 C)) := fun p C hp => by
      have e289 : sr (usW (am_u2 Z 303 0 o) L) 299 C 289 = I 289 := by rw [sr_ne (by decide), es]
      have := m_fits (sc := sc) (d := d + 26) (h := h) (J := sr (usW (am_u2 Z 303 0 o) L) 299 C) (M := L / 2) r.1 hp (by rw [sr_ne (by decide), u3, ← g1]) (fun k hk => by rw [e289]; exact (t.2.2.1 k hk).1) (by rw [e289, ← g1]; exact hv)
      rw [e289] at this
      exact this
    obtain ⟨C1, w3, w4, w5, a1, a2⟩ := m_askFit (sc := sc) (d := d + 25) (h := h) (J := usW (am_u2 Z 303 0 o) L) (F := fun p => okN (unS (I 289)) p (L / 2)) r.1 fit
    obtain ⟨C2, b1⟩ := m_askLoop (sc := sc) (d := d + 25) (h := h) (J := sr (usW (am_u2 Z 303 0 o) L) 299 C1) (F := fun p => okN (unS (I 289)) p (L / 2)) r.1 (fun p hp => by rw [sr_q]; exact a1 p hp) rfl (u5 := w5)
    obtain ⟨v1, v2⟩ := used_up (K := am_u2 Z 303 0 o) (L := L) (Q := sr (sr (usW (am_u2 Z 303 0 o) L) 299 C1) 300 C2) r (by rw [u2_o (by decide)]; exact k22) (fun p j h1 h2 => by
      rw [u2_a (fun e => h2 (by unfold scr; omega))]
      exact kk2 p j h1 h2) (fun p j h2 => by rw [sr_ne (fun e => h2 (by unfold scr; omega)), sr_ne (fun e => h2 (by unfold scr; omega))])
    have l9 : ¬ ((1000 : Nat) : Int) < 1000 := by decide
    refine ⟨_, ?_, v1, v2, by rw [sr_ne (by decide), sr_ne (by decide)]; exact u2⟩
    rw [q_X12_ask_0]
    simp (disch := first | assumption | exact Int.natCast_nonneg _ | decide) only [↓BM r.1, mu, mi, m_t0 r.1, ne1, e_clI, e_clV, e_clP, e_clIx, e_clVx, e_clPx, e_xt, Int.toNat_natCast, Int.reduceToNat, bz0, bz1, Nat.add_zero, decide_eq_false_iff_not, decide_eq_true_eq, Int.reduceEq, Nat.reduceEqDiff, Int.reduceLT, Int.reduceLE, not_true_eq_false, not_false_eq_true, eq_self, ↓reduceIte]
    rw [a2, q_X12_ask_19, if_neg l9]
    exact b1
end
