/-! CALLS THAT ASK: BORDER, COUNT, ODDS, THE SOREST -/
section
variable {sc : Nat × (Nat → Int)} {d : Nat} {h : am_H} {I : am_I}
theorem r0L (r : Rel h I) : LR h I 11 (I 284) := r.2.1.2.2
theorem p_border (r : Rel h I) {x y : Int} : Pub h I (Cl sc (d + 30) mX11_border [Vr (some 0), Vi x, Vi y]) (Cl sc (d + 30) mX12_border [Vr (some 283), Vi x, Vi y]) cdB := by
  by_cases hx : 0 ≤ x ∧ x < 60
  · obtain ⟨b, rfl⟩ : ∃ b : Nat, x = b := ⟨x.toNat, by omega⟩
    have hb : b < 60 := by omega
    by_cases hy : 0 ≤ y ∧ y ≤ 6
    · have hy1 : ¬ y < 0 := by omega
      have hy2 : ¬ 6 < y := by omega
      have R := r.R
      have hth := R.th hb
      have hv := r.V.fe hb
      have hin : ∀ g : am_H, Cl sc (d + 28 + 1) mX12_in [Vi y, Vi 0, Vi 6] g = some (.inl (Vi 1), g) := fun g => by
        rw [c_in, decide_eq_true hy]; rfl
      by_cases hf : I 284 (7 + 5 * b) = 1
      · have hag := R.ag hb hf
        have hhi := R.hi hb hf
        have hga := R.ga hb hf
        have hst := R.st hb hf
        by_cases h5 : y = 5
        · subst h5
          obtain ⟨J, g1, g2⟩ := c_growth (sc := sc) (d := d + 25) r.c (by omega) R r.V (r0L r) hb hf
          refine pubQ (x := 0) (v := grW (I 284) b) r (CO.ok (J := J) ?_ g1.sm) (fun h1 J1 r1 e1 => ?_) (fun _ => rfl)
          · rw [q_X11_border_0]
            simp (disch := first | (simp (disch := omega) only [w32_id]; omega) | omega) only [↓BO r.1, ↓BC r.c, c_nB hx, hth, hf, g2, e_clI, e_clV, e_clP, e_clIx, e_clVx, e_clPx, e_xt, Int.toNat_natCast, Int.reduceToNat, bz0, bz1, Nat.add_zero, decide_eq_false_iff_not, decide_eq_true_eq, Int.reduceEq, Nat.reduceEqDiff, Int.reduceLT, Int.reduceLE, not_true_eq_false, not_false_eq_true, ↓reduceIte]
          · have V2 : WW (I 284) := r.V
            obtain ⟨K, k1, k2⟩ := m_growsBy (sc := sc) (d := d + 23) (w := I 284) (I := am_u2 J1 283 0 0) r1.1 (by rw [w283, e1.w]) r.V (r0L r).ml hb
            refine MO.okJ (J := K) ?_ (s283.tr k1.sm) (by rw [k1 283 (by decide)]; exact u2_same)
            rw [q_X12_border_0]
            simp (disch := first | (simp (disch := omega) only [w32_id]; omega) | omega) only [↓BM r1.1, m_nB hx, m_t0 r1.1, hin, q_X12_border_19, m_hasFence r1.1, w283, e1.w, hf, k2, e_clI, e_clV, e_clP, e_clIx, e_clVx, e_clPx, e_xt, Int.toNat_natCast, Int.reduceToNat, bz0, bz1, Nat.add_zero, decide_eq_false_iff_not, decide_eq_true_eq, Int.reduceEq, Nat.reduceEqDiff, Int.reduceLT, Int.reduceLE, not_true_eq_false, not_false_eq_true, ↓reduceIte]
        by_cases h6 : y = 6
        · subst h6
          obtain ⟨J, g1, g2⟩ := c_soreness (sc := sc) (d := d + 25) r.c (by omega) R r.V (r0L r) hb hf
          refine pubQ (x := 0) (v := srW (I 284) b) r (CO.ok (J := J) ?_ g1.sm) (fun h1 J1 r1 e1 => ?_) (fun _ => rfl)
          · rw [q_X11_border_0]
            simp (disch := first | (simp (disch := omega) only [w32_id]; omega) | omega) only [↓BO r.1, ↓BC r.c, c_nB hx, hth, hf, g2, e_clI, e_clV, e_clP, e_clIx, e_clVx, e_clPx, e_xt, Int.toNat_natCast, Int.reduceToNat, bz0, bz1, Nat.add_zero, decide_eq_false_iff_not, decide_eq_true_eq, Int.reduceEq, Nat.reduceEqDiff, Int.reduceLT, Int.reduceLE, not_true_eq_false, not_false_eq_true, ↓reduceIte]
          · obtain ⟨K, k1, k2⟩ := m_soresBy (sc := sc) (d := d + 23) (w := I 284) (I := am_u2 J1 283 0 0) r1.1 (by rw [w283, e1.w]) r.V (r0L r).ml hb
            refine MO.okJ (J := K) ?_ (s283.tr k1.sm) (by rw [k1 283 (by decide)]; exact u2_same)
            rw [q_X12_border_0]
            simp (disch := first | (simp (disch := omega) only [w32_id]; omega) | omega) only [↓BM r1.1, m_nB hx, m_t0 r1.1, hin, q_X12_border_19, m_hasFence r1.1, w283, e1.w, hf, k2, e_clI, e_clV, e_clP, e_clIx, e_clVx, e_clPx, e_xt, Int.toNat_natCast, Int.reduceToNat, bz0, bz1, Nat.add_zero, decide_eq_false_iff_not, decide_eq_true_eq, Int.reduceEq, Nat.reduceEqDiff, Int.reduceLT, Int.reduceLE, not_true_eq_false, not_false_eq_true, ↓reduceIte]
        refine pubQ (x := 0) (v := I 284 (7 + 5 * b + y.toNat)) r (CO.ok ?_ (Same.rf I)) (fun h1 J1 r1 e1 => ?_) (fun _ => rfl)
        · have h9 : y = 0 ∨ y = 1 ∨ y = 2 ∨ y = 3 ∨ y = 4 := by omega
          rw [q_X11_border_0]
          rcases h9 with rfl | rfl | rfl | rfl | rfl
          · simp (disch := first | (simp (disch := omega) only [w32_id]; omega) | omega) only [↓BO r.1, ↓BC r.c, c_nB hx, hth, hf, e_clI, e_clV, e_clP, e_clIx, e_clVx, e_clPx, e_xt, Int.toNat_natCast, Int.reduceToNat, bz0, bz1, Nat.add_zero, decide_eq_false_iff_not, decide_eq_true_eq, Int.reduceEq, Nat.reduceEqDiff, Int.reduceLT, Int.reduceLE, not_true_eq_false, not_false_eq_true, ↓reduceIte]
          · simp (disch := first | (simp (disch := omega) only [w32_id]; omega) | omega) only [↓BO r.1, ↓BC r.c, c_nB hx, hth, hf, hag, e_clI, e_clV, e_clP, e_clIx, e_clVx, e_clPx, e_xt, Int.toNat_natCast, Int.reduceToNat, bz0, bz1, Nat.add_zero, decide_eq_false_iff_not, decide_eq_true_eq, Int.reduceEq, Nat.reduceEqDiff, Int.reduceLT, Int.reduceLE, not_true_eq_false, not_false_eq_true, ↓reduceIte]
          · simp (disch := first | (simp (disch := omega) only [w32_id]; omega) | omega) only [↓BO r.1, ↓BC r.c, c_nB hx, hth, hf, hhi, e_clI, e_clV, e_clP, e_clIx, e_clVx, e_clPx, e_xt, Int.toNat_natCast, Int.reduceToNat, bz0, bz1, Nat.add_zero, decide_eq_false_iff_not, decide_eq_true_eq, Int.reduceEq, Nat.reduceEqDiff, Int.reduceLT, Int.reduceLE, not_true_eq_false, not_false_eq_true, ↓reduceIte]
          · have h3 : I 284 (7 + 5 * b + 3) = 0 ∨ I 284 (7 + 5 * b + 3) = 1 := by omega
            rcases h3 with h3 | h3
            · simp (disch := first | (simp (disch := omega) only [w32_id]; omega) | omega) only [↓BO r.1, ↓BC r.c, c_nB hx, hth, hf, hga, h3, e_clI, e_clV, e_clP, e_clIx, e_clVx, e_clPx, e_xt, Int.toNat_natCast, Int.reduceToNat, bz0, bz1, Nat.add_zero, decide_eq_false_iff_not, decide_eq_true_eq, Int.reduceEq, Nat.reduceEqDiff, Int.reduceLT, Int.reduceLE, not_true_eq_false, not_false_eq_true, ↓reduceIte]
            · simp (disch := first | (simp (disch := omega) only [w32_id]; omega) | omega) only [↓BO r.1, ↓BC r.c, c_nB hx, hth, hf, hga, h3, e_clI, e_clV, e_clP, e_clIx, e_clVx, e_clPx, e_xt, Int.toNat_natCast, Int.reduceToNat, bz0, bz1, Nat.add_zero, decide_eq_false_iff_not, decide_eq_true_eq, Int.reduceEq, Nat.reduceEqDiff, Int.reduceLT, Int.reduceLE, not_true_eq_false, not_false_eq_true, ↓reduceIte]
          · have h3 : I 284 (7 + 5 * b + 4) = 0 ∨ I 284 (7 + 5 * b + 4) = 1 := by omega
            rcases h3 with h3 | h3
            · simp (disch := first | (simp (disch := omega) only [w32_id]; omega) | omega) only [↓BO r.1, ↓BC r.c, c_nB hx, hth, hf, hst, h3, e_clI, e_clV, e_clP, e_clIx, e_clVx, e_clPx, e_xt, Int.toNat_natCast, Int.reduceToNat, bz0, bz1, Nat.add_zero, decide_eq_false_iff_not, decide_eq_true_eq, Int.reduceEq, Nat.reduceEqDiff, Int.reduceLT, Int.reduceLE, not_true_eq_false, not_false_eq_true, ↓reduceIte]
            · simp (disch := first | (simp (disch := omega) only [w32_id]; omega) | omega) only [↓BO r.1, ↓BC r.c, c_nB hx, hth, hf, hst, h3, e_clI, e_clV, e_clP, e_clIx, e_clVx, e_clPx, e_xt, Int.toNat_natCast, Int.reduceToNat, bz0, bz1, Nat.add_zero, decide_eq_false_iff_not, decide_eq_true_eq, Int.reduceEq, Nat.reduceEqDiff, Int.reduceLT, Int.reduceLE, not_true_eq_false, not_false_eq_true, ↓reduceIte]
        · refine MO.ok0 ?_
          rw [q_X12_border_0]
          simp (disch := first | (simp (disch := omega) only [w32_id]; omega) | omega) only [↓BM r1.1, m_nB hx, m_t0 r1.1, hin, q_X12_border_19, m_hasFence r1.1, w283, e1.w, hf, h5, h6, m_of r1.1, e_clI, e_clV, e_clP, e_clIx, e_clVx, e_clPx, e_xt, Int.toNat_natCast, Int.reduceToNat, bz0, bz1, Nat.add_zero, decide_eq_false_iff_not, decide_eq_true_eq, Int.reduceEq, Nat.reduceEqDiff, Int.reduceLT, Int.reduceLE, not_true_eq_false, not_false_eq_true, ↓reduceIte]
      · have h0 : I 284 (7 + 5 * b) = 0 := by omega
        refine pubQ (x := 0) (v := 0) r (CO.ok ?_ (Same.rf I)) (fun h1 J1 r1 e1 => ?_) (fun _ => rfl)
        · rw [q_X11_border_0]
          simp (disch := first | (simp (disch := omega) only [w32_id]; omega) | omega) only [↓BO r.1, ↓BC r.c, c_nB hx, hth, h0, hy1, hy2, e_clI, e_clV, e_clP, e_clIx, e_clVx, e_clPx, e_xt, Int.toNat_natCast, Int.reduceToNat, bz0, bz1, Nat.add_zero, decide_eq_false_iff_not, decide_eq_true_eq, Int.reduceEq, Nat.reduceEqDiff, Int.reduceLT, Int.reduceLE, not_true_eq_false, not_false_eq_true, ↓reduceIte]
        · refine MO.ok0 ?_
          rw [q_X12_border_0]
          simp (disch := first | (simp (disch := omega) only [w32_id]; omega) | omega) only [↓BM r1.1, m_nB hx, m_t0 r1.1, hin, q_X12_border_19, m_hasFence r1.1, w283, e1.w, h0, e_clI, e_clV, e_clP, e_clIx, e_clVx, e_clPx, e_xt, Int.toNat_natCast, Int.reduceToNat, bz0, bz1, Nat.add_zero, decide_eq_false_iff_not, decide_eq_true_eq, Int.reduceEq, Nat.reduceEqDiff, Int.reduceLT, Int.reduceLE, not_true_eq_false, not_false_eq_true, ↓reduceIte]
    · have hin : ∀ g : am_H, Cl sc (d + 28 + 1) mX12_in [Vi y, Vi 0, Vi 6] g = some (.inl (Vi 0), g) := fun g => by
        rw [c_in, decide_eq_false hy]; rfl
      refine pubQ (x := 4) (v := 0) (v' := 0) r (CO.no (J := I) (by decide) ?_ (Same.rf I)) (fun h1 J1 r1 e1 => ?_) (fun h => absurd h (by decide))
      · rw [q_X11_border_0]
        by_cases hy1 : y < 0
        · simp (disch := first | (simp (disch := omega) only [w32_id]; omega) | omega) only [c_nB hx, hy1, hI_exI, e_clI, e_clV, e_clP, e_clIx, e_clVx, e_clPx, e_xt, Int.toNat_natCast, Int.reduceToNat, bz0, bz1, Nat.add_zero, decide_eq_false_iff_not, decide_eq_true_eq, Int.reduceEq, Nat.reduceEqDiff, Int.reduceLT, Int.reduceLE, not_true_eq_false, not_false_eq_true, ↓reduceIte]
        · have hy2 : 6 < y := by omega
          simp (disch := first | (simp (disch := omega) only [w32_id]; omega) | omega) only [c_nB hx, hy1, hy2, hI_exI, e_clI, e_clV, e_clP, e_clIx, e_clVx, e_clPx, e_xt, Int.toNat_natCast, Int.reduceToNat, bz0, bz1, Nat.add_zero, decide_eq_false_iff_not, decide_eq_true_eq, Int.reduceEq, Nat.reduceEqDiff, Int.reduceLT, Int.reduceLE, not_true_eq_false, not_false_eq_true, ↓reduceIte]
      · refine MO.thr ?_
        rw [q_X12_border_0]
        simp (disch := first | (simp (disch := omega) only [w32_id]; omega) | omega) only [↓BM r1.1, m_nB hx, m_t0 r1.1, m_t1 r1.1, hin, q_X12_border_19, e_clI, e_clV, e_clP, e_clIx, e_clVx, e_clPx, e_xt, Int.toNat_natCast, Int.reduceToNat, bz0, bz1, Nat.add_zero, decide_eq_false_iff_not, decide_eq_true_eq, Int.reduceEq, Nat.reduceEqDiff, Int.reduceLT, Int.reduceLE, not_true_eq_false, not_false_eq_true, ↓reduceIte]
        try rfl
  · skip
    refine pubQ (x := 3) (v := 0) (v' := 0) r (CO.no (J := I) (by decide) ?_ (Same.rf I)) (fun h1 J1 r1 e1 => ?_) (fun h => absurd h (by decide))
    · rw [q_X11_border_0]
      simp (disch := first | (simp (disch := omega) only [w32_id]; omega) | omega) only [c_nBx hx, hI_exI, e_clI, e_clV, e_clP, e_clIx, e_clVx, e_clPx, e_xt, Int.toNat_natCast, Int.reduceToNat, bz0, bz1, Nat.add_zero, decide_eq_false_iff_not, decide_eq_true_eq, Int.reduceEq, Nat.reduceEqDiff, Int.reduceLT, Int.reduceLE, not_true_eq_false, not_false_eq_true, ↓reduceIte]
    · refine MO.thr ?_
      rw [q_X12_border_0]
      simp (disch := first | (simp (disch := omega) only [w32_id]; omega) | omega) only [↓BM r1.1, m_nBx hx, m_t1 r1.1, e_clI, e_clV, e_clP, e_clIx, e_clVx, e_clPx, e_xt, Int.toNat_natCast, Int.reduceToNat, bz0, bz1, Nat.add_zero, decide_eq_false_iff_not, decide_eq_true_eq, Int.reduceEq, Nat.reduceEqDiff, Int.reduceLT, Int.reduceLE, not_true_eq_false, not_false_eq_true, ↓reduceIte]
      try rfl
theorem p_count (r : Rel h I) {x : Int} : Pub h I (Cl sc (d + 30) mX11_count [Vr (some 0), Vi x]) (Cl sc (d + 30) mX12_count [Vr (some 283), Vi x]) cdA := by
  have R := r.R
  have V := r.V
  have hF := V.fa
  refine pubQ (x := 0) (v := if x = 0 then I 284 0 else if x = 1 then sumF (I 284) 0 else if x = 2 then I 284 1 else if x = 3 then (if I 284 2 = 1 then I 284 631 else -1) else if x = 4 then I 284 3 else if x = 5 then I 284 4 else if x = 6 then sumF (I 284) 3 else if x = 7 then sumF (I 284) 4 else if x = 8 then sumF (I 284) 2 else if x = 9 then sorW (I 284) else if x = 10 then I 284 5 else if x = 11 then I 283 7 else -1) r (CO.ok ?_ (Same.rf I)) (fun h1 J1 r1 e1 => ?_) (fun _ => rfl)
  · rw [q_X11_count_0]
    by_cases h3 : x = 3
    · subst h3
      rcases r0L r with ⟨M0, M1⟩ | ⟨M0, n, ln, cc, M1, M2, M3, M4, M5⟩
      · simp (disch := first | (simp (disch := omega) only [w32_id]; omega) | omega) only [↓BO r.1, M0, e_clI, e_clV, e_clP, e_clIx, e_clVx, e_clPx, e_xt, Int.toNat_natCast, Int.reduceToNat, bz0, bz1, Nat.add_zero, decide_eq_false_iff_not, decide_eq_true_eq, Int.reduceEq, Nat.reduceEqDiff, Int.reduceLT, Int.reduceLE, not_true_eq_false, not_false_eq_true, ↓reduceIte]
        rw [e_gfP r.c.1 M1, if_pos rfl]
      · simp (disch := first | (simp (disch := omega) only [w32_id]; omega) | omega) only [↓BO r.1, M0, e_clI, e_clV, e_clP, e_clIx, e_clVx, e_clPx, e_xt, Int.toNat_natCast, Int.reduceToNat, bz0, bz1, Nat.add_zero, decide_eq_false_iff_not, decide_eq_true_eq, Int.reduceEq, Nat.reduceEqDiff, Int.reduceLT, Int.reduceLE, not_true_eq_false, not_false_eq_true, ↓reduceIte]
        rw [e_gfP r.c.1 M1, if_neg (by simp), e_gfP r.c.1 M1]
        simp (disch := first | (simp (disch := omega) only [w32_id]; omega) | omega) only [↓BLw M3, M4.1, M5.1, e_clI, e_clV, e_clP, e_clIx, e_clVx, e_clPx, e_xt, Int.toNat_natCast, Int.reduceToNat, bz0, bz1, Nat.add_zero, decide_eq_false_iff_not, decide_eq_true_eq, Int.reduceEq, Nat.reduceEqDiff, Int.reduceLT, Int.reduceLE, not_true_eq_false, not_false_eq_true, ↓reduceIte]
    · have h9 : x = 0 ∨ x = 1 ∨ x = 2 ∨ x = 4 ∨ x = 5 ∨ x = 6 ∨ x = 7 ∨ x = 8 ∨ x = 9 ∨ x = 10 ∨ x = 11 ∨ (x ≠ 0 ∧ x ≠ 1 ∧ x ≠ 2 ∧ x ≠ 4 ∧ x ≠ 5 ∧ x ≠ 6 ∧ x ≠ 7 ∧ x ≠ 8 ∧ x ≠ 9 ∧ x ≠ 10 ∧ x ≠ 11) := by omega
      rcases h9 with rfl | rfl | rfl | rfl | rfl | rfl | rfl | rfl | rfl | rfl | rfl | ⟨k0, k1, k2, k4, k5, k6, k7, k8, k9, k10, k11⟩
      · simp (disch := first | (simp (disch := omega) only [w32_id]; omega) | omega) only [↓BO r.1, ↓BC r.c, R.fa, e_clI, e_clV, e_clP, e_clIx, e_clVx, e_clPx, e_xt, Int.toNat_natCast, Int.reduceToNat, bz0, bz1, Nat.add_zero, decide_eq_false_iff_not, decide_eq_true_eq, Int.reduceEq, Nat.reduceEqDiff, Int.reduceLT, Int.reduceLE, not_true_eq_false, not_false_eq_true, ↓reduceIte]
      · simp (disch := first | (simp (disch := omega) only [w32_id]; omega) | omega) only [↓BO r.1, ↓BC r.c, c_fences r.c R V, e_clI, e_clV, e_clP, e_clIx, e_clVx, e_clPx, e_xt, Int.toNat_natCast, Int.reduceToNat, bz0, bz1, Nat.add_zero, decide_eq_false_iff_not, decide_eq_true_eq, Int.reduceEq, Nat.reduceEqDiff, Int.reduceLT, Int.reduceLE, not_true_eq_false, not_false_eq_true, ↓reduceIte]
      · simp (disch := first | (simp (disch := omega) only [w32_id]; omega) | omega) only [↓BO r.1, ↓BC r.c, R.te, e_clI, e_clV, e_clP, e_clIx, e_clVx, e_clPx, e_xt, Int.toNat_natCast, Int.reduceToNat, bz0, bz1, Nat.add_zero, decide_eq_false_iff_not, decide_eq_true_eq, Int.reduceEq, Nat.reduceEqDiff, Int.reduceLT, Int.reduceLE, not_true_eq_false, not_false_eq_true, ↓reduceIte]
      · simp (disch := first | (simp (disch := omega) only [w32_id]; omega) | omega) only [↓BO r.1, ↓BC r.c, R.ye, e_clI, e_clV, e_clP, e_clIx, e_clVx, e_clPx, e_xt, Int.toNat_natCast, Int.reduceToNat, bz0, bz1, Nat.add_zero, decide_eq_false_iff_not, decide_eq_true_eq, Int.reduceEq, Nat.reduceEqDiff, Int.reduceLT, Int.reduceLE, not_true_eq_false, not_false_eq_true, ↓reduceIte]
      · simp (disch := first | (simp (disch := omega) only [w32_id]; omega) | omega) only [↓BO r.1, ↓BC r.c, R.qu, e_clI, e_clV, e_clP, e_clIx, e_clVx, e_clPx, e_xt, Int.toNat_natCast, Int.reduceToNat, bz0, bz1, Nat.add_zero, decide_eq_false_iff_not, decide_eq_true_eq, Int.reduceEq, Nat.reduceEqDiff, Int.reduceLT, Int.reduceLE, not_true_eq_false, not_false_eq_true, ↓reduceIte]
      · simp (disch := first | (simp (disch := omega) only [w32_id]; omega) | omega) only [↓BO r.1, ↓BC r.c, c_gates r.c R V, e_clI, e_clV, e_clP, e_clIx, e_clVx, e_clPx, e_xt, Int.toNat_natCast, Int.reduceToNat, bz0, bz1, Nat.add_zero, decide_eq_false_iff_not, decide_eq_true_eq, Int.reduceEq, Nat.reduceEqDiff, Int.reduceLT, Int.reduceLE, not_true_eq_false, not_false_eq_true, ↓reduceIte]
      · simp (disch := first | (simp (disch := omega) only [w32_id]; omega) | omega) only [↓BO r.1, ↓BC r.c, c_strings r.c R V, e_clI, e_clV, e_clP, e_clIx, e_clVx, e_clPx, e_xt, Int.toNat_natCast, Int.reduceToNat, bz0, bz1, Nat.add_zero, decide_eq_false_iff_not, decide_eq_true_eq, Int.reduceEq, Nat.reduceEqDiff, Int.reduceLT, Int.reduceLE, not_true_eq_false, not_false_eq_true, ↓reduceIte]
      · simp (disch := first | (simp (disch := omega) only [w32_id]; omega) | omega) only [↓BO r.1, ↓BC r.c, c_highTogether r.c R V, e_clI, e_clV, e_clP, e_clIx, e_clVx, e_clPx, e_xt, Int.toNat_natCast, Int.reduceToNat, bz0, bz1, Nat.add_zero, decide_eq_false_iff_not, decide_eq_true_eq, Int.reduceEq, Nat.reduceEqDiff, Int.reduceLT, Int.reduceLE, not_true_eq_false, not_false_eq_true, ↓reduceIte]
      · simp (disch := first | (simp (disch := omega) only [w32_id]; omega) | omega) only [↓BO r.1, ↓BC r.c, c_soreTogether r.c R V, e_clI, e_clV, e_clP, e_clIx, e_clVx, e_clPx, e_xt, Int.toNat_natCast, Int.reduceToNat, bz0, bz1, Nat.add_zero, decide_eq_false_iff_not, decide_eq_true_eq, Int.reduceEq, Nat.reduceEqDiff, Int.reduceLT, Int.reduceLE, not_true_eq_false, not_false_eq_true, ↓reduceIte]
      · simp (disch := first | (simp (disch := omega) only [w32_id]; omega) | omega) only [↓BO r.1, ↓BC r.c, R.lg.1, e_clI, e_clV, e_clP, e_clIx, e_clVx, e_clPx, e_xt, Int.toNat_natCast, Int.reduceToNat, bz0, bz1, Nat.add_zero, decide_eq_false_iff_not, decide_eq_true_eq, Int.reduceEq, Nat.reduceEqDiff, Int.reduceLT, Int.reduceLE, not_true_eq_false, not_false_eq_true, ↓reduceIte]
      · simp (disch := first | (simp (disch := omega) only [w32_id]; omega) | omega) only [↓BO r.1, ↓BC r.c, r.2.2.2.1.1, e_clI, e_clV, e_clP, e_clIx, e_clVx, e_clPx, e_xt, Int.toNat_natCast, Int.reduceToNat, bz0, bz1, Nat.add_zero, decide_eq_false_iff_not, decide_eq_true_eq, Int.reduceEq, Nat.reduceEqDiff, Int.reduceLT, Int.reduceLE, not_true_eq_false, not_false_eq_true, ↓reduceIte]
      · simp (disch := first | (simp (disch := omega) only [w32_id]; omega) | omega) only [h3, k0, k1, k2, k4, k5, k6, k7, k8, k9, k10, k11, e_clI, e_clV, e_clP, e_clIx, e_clVx, e_clPx, e_xt, Int.toNat_natCast, Int.reduceToNat, bz0, bz1, Nat.add_zero, decide_eq_false_iff_not, decide_eq_true_eq, Int.reduceEq, Nat.reduceEqDiff, Int.reduceLT, Int.reduceLE, not_true_eq_false, not_false_eq_true, ↓reduceIte]
  · have V2 : WW (am_u2 J1 283 0 0 284) := by rw [w283, e1.w]; exact V
    refine MO.ok0 ?_
    rw [q_X12_count_0]
    simp (disch := first | (simp (disch := omega) only [w32_id]; omega) | omega) only [↓BM r1.1, e_clI, e_clV, e_clP, e_clIx, e_clVx, e_clPx, e_xt, Int.toNat_natCast, Int.reduceToNat, bz0, bz1, Nat.add_zero, decide_eq_false_iff_not, decide_eq_true_eq, Int.reduceEq, Nat.reduceEqDiff, Int.reduceLT, Int.reduceLE, not_true_eq_false, not_false_eq_true, ↓reduceIte]
    have hr := sm_run (F := fun i t => Ru sc (d + 30) mX12_count 8 [Vr (some 283), Vi x, Vi t, Vi (i : Int)] [] (hI h1 (am_u2 J1 283 0 0))) (f := fun f => I 284 (307 + 4 * f + 3)) (N := (I 284 0).toNat) (fun i hi => by
      have hb := sorW_b V (n := i) (by omega)
      have hv := V.fm (f := i) (by omega)
      have hlt : (i : Int) < I 284 0 := by omega
      try dsimp only
      rw [q_X12_count_8]
      have hlt2 : (i : Int) < am_u2 J1 283 0 0 284 0 := by rw [w283, e1.w]; exact hlt
      rw [(BM r1.1).1, m_families r1.1, e_clI, if_pos hlt2, (BM r1.1).1, m_ofFamily r1.1 (by decide) (by omega), e_clI, w283, e1.w, w32_succ (by omega), show (3 : Int).toNat = 3 from rfl, w32_id (by omega) (by omega)])
    have hlt : ¬ (((I 284 0).toNat : Nat) : Int) < I 284 0 := by omega
    refine Eq.trans hr ?_
    try dsimp only
    rw [q_X12_count_8]
    have f0 := m_sumOfFences (sc := sc) (d := d + 26) (k := 0) r1.1 V2 (by omega)
    have f2 := m_sumOfFences (sc := sc) (d := d + 26) (k := 2) r1.1 V2 (by omega)
    have f3 := m_sumOfFences (sc := sc) (d := d + 26) (k := 3) r1.1 V2 (by omega)
    have f4 := m_sumOfFences (sc := sc) (d := d + 26) (k := 4) r1.1 V2 (by omega)
    rw [w283, e1.w] at f0 f2 f3 f4
    have hlt2 : ¬ (((I 284 0).toNat : Nat) : Int) < am_u2 J1 283 0 0 284 0 := by rw [w283, e1.w]; exact hlt
    rw [(BM r1.1).1, m_families r1.1, e_clI, if_neg hlt2]
    have h9 : x = 0 ∨ x = 1 ∨ x = 2 ∨ x = 3 ∨ x = 4 ∨ x = 5 ∨ x = 6 ∨ x = 7 ∨ x = 8 ∨ x = 9 ∨ x = 10 ∨ x = 11 ∨ (x ≠ 0 ∧ x ≠ 1 ∧ x ≠ 2 ∧ x ≠ 3 ∧ x ≠ 4 ∧ x ≠ 5 ∧ x ≠ 6 ∧ x ≠ 7 ∧ x ≠ 8 ∧ x ≠ 9 ∧ x ≠ 10 ∧ x ≠ 11) := by omega
    rcases h9 with rfl | rfl | rfl | rfl | rfl | rfl | rfl | rfl | rfl | rfl | rfl | rfl | ⟨k0, k1, k2, k3, k4, k5, k6, k7, k8, k9, k10, k11⟩
    · simp (disch := first | (simp (disch := omega) only [w32_id]; omega) | omega) only [↓BM r1.1, w283, e1.w, m_families r1.1, e_clI, e_clV, e_clP, e_clIx, e_clVx, e_clPx, e_xt, Int.toNat_natCast, Int.reduceToNat, bz0, bz1, Nat.add_zero, decide_eq_false_iff_not, decide_eq_true_eq, Int.reduceEq, Nat.reduceEqDiff, Int.reduceLT, Int.reduceLE, not_true_eq_false, not_false_eq_true, ↓reduceIte]
    · simp (disch := first | (simp (disch := omega) only [w32_id]; omega) | omega) only [↓BM r1.1, w283, e1.w, f0, e_clI, e_clV, e_clP, e_clIx, e_clVx, e_clPx, e_xt, Int.toNat_natCast, Int.reduceToNat, bz0, bz1, Nat.add_zero, decide_eq_false_iff_not, decide_eq_true_eq, Int.reduceEq, Nat.reduceEqDiff, Int.reduceLT, Int.reduceLE, not_true_eq_false, not_false_eq_true, ↓reduceIte]
    · simp (disch := first | (simp (disch := omega) only [w32_id]; omega) | omega) only [↓BM r1.1, w283, e1.w, e_clI, e_clV, e_clP, e_clIx, e_clVx, e_clPx, e_xt, Int.toNat_natCast, Int.reduceToNat, bz0, bz1, Nat.add_zero, decide_eq_false_iff_not, decide_eq_true_eq, Int.reduceEq, Nat.reduceEqDiff, Int.reduceLT, Int.reduceLE, not_true_eq_false, not_false_eq_true, ↓reduceIte]
    · by_cases hl : I 284 2 = 1
      · simp (disch := first | (simp (disch := omega) only [w32_id]; omega) | omega) only [↓BM r1.1, w283, e1.w, hl, e_clI, e_clV, e_clP, e_clIx, e_clVx, e_clPx, e_xt, Int.toNat_natCast, Int.reduceToNat, bz0, bz1, Nat.add_zero, decide_eq_false_iff_not, decide_eq_true_eq, Int.reduceEq, Nat.reduceEqDiff, Int.reduceLT, Int.reduceLE, not_true_eq_false, not_false_eq_true, ↓reduceIte]
      · simp (disch := first | (simp (disch := omega) only [w32_id]; omega) | omega) only [↓BM r1.1, w283, e1.w, hl, e_clI, e_clV, e_clP, e_clIx, e_clVx, e_clPx, e_xt, Int.toNat_natCast, Int.reduceToNat, bz0, bz1, Nat.add_zero, decide_eq_false_iff_not, decide_eq_true_eq, Int.reduceEq, Nat.reduceEqDiff, Int.reduceLT, Int.reduceLE, not_true_eq_false, not_false_eq_true, ↓reduceIte]
    · simp (disch := first | (simp (disch := omega) only [w32_id]; omega) | omega) only [↓BM r1.1, w283, e1.w, e_clI, e_clV, e_clP, e_clIx, e_clVx, e_clPx, e_xt, Int.toNat_natCast, Int.reduceToNat, bz0, bz1, Nat.add_zero, decide_eq_false_iff_not, decide_eq_true_eq, Int.reduceEq, Nat.reduceEqDiff, Int.reduceLT, Int.reduceLE, not_true_eq_false, not_false_eq_true, ↓reduceIte]
    · simp (disch := first | (simp (disch := omega) only [w32_id]; omega) | omega) only [↓BM r1.1, w283, e1.w, e_clI, e_clV, e_clP, e_clIx, e_clVx, e_clPx, e_xt, Int.toNat_natCast, Int.reduceToNat, bz0, bz1, Nat.add_zero, decide_eq_false_iff_not, decide_eq_true_eq, Int.reduceEq, Nat.reduceEqDiff, Int.reduceLT, Int.reduceLE, not_true_eq_false, not_false_eq_true, ↓reduceIte]
    · simp (disch := first | (simp (disch := omega) only [w32_id]; omega) | omega) only [↓BM r1.1, w283, e1.w, f3, e_clI, e_clV, e_clP, e_clIx, e_clVx, e_clPx, e_xt, Int.toNat_natCast, Int.reduceToNat, bz0, bz1, Nat.add_zero, decide_eq_false_iff_not, decide_eq_true_eq, Int.reduceEq, Nat.reduceEqDiff, Int.reduceLT, Int.reduceLE, not_true_eq_false, not_false_eq_true, ↓reduceIte]
    · simp (disch := first | (simp (disch := omega) only [w32_id]; omega) | omega) only [↓BM r1.1, w283, e1.w, f4, e_clI, e_clV, e_clP, e_clIx, e_clVx, e_clPx, e_xt, Int.toNat_natCast, Int.reduceToNat, bz0, bz1, Nat.add_zero, decide_eq_false_iff_not, decide_eq_true_eq, Int.reduceEq, Nat.reduceEqDiff, Int.reduceLT, Int.reduceLE, not_true_eq_false, not_false_eq_true, ↓reduceIte]
    · simp (disch := first | (simp (disch := omega) only [w32_id]; omega) | omega) only [↓BM r1.1, w283, e1.w, f2, e_clI, e_clV, e_clP, e_clIx, e_clVx, e_clPx, e_xt, Int.toNat_natCast, Int.reduceToNat, bz0, bz1, Nat.add_zero, decide_eq_false_iff_not, decide_eq_true_eq, Int.reduceEq, Nat.reduceEqDiff, Int.reduceLT, Int.reduceLE, not_true_eq_false, not_false_eq_true, ↓reduceIte]
    · rfl
    · simp (disch := first | (simp (disch := omega) only [w32_id]; omega) | omega) only [↓BM r1.1, w283, e1.w, e_clI, e_clV, e_clP, e_clIx, e_clVx, e_clPx, e_xt, Int.toNat_natCast, Int.reduceToNat, bz0, bz1, Nat.add_zero, decide_eq_false_iff_not, decide_eq_true_eq, Int.reduceEq, Nat.reduceEqDiff, Int.reduceLT, Int.reduceLE, not_true_eq_false, not_false_eq_true, ↓reduceIte]
    · simp (disch := first | (simp (disch := omega) only [w32_id]; omega) | omega) only [↓BM r1.1, w283, e1.w, u2_jj, e1.m, e_clI, e_clV, e_clP, e_clIx, e_clVx, e_clPx, e_xt, Int.toNat_natCast, Int.reduceToNat, bz0, bz1, Nat.add_zero, decide_eq_false_iff_not, decide_eq_true_eq, Int.reduceEq, Nat.reduceEqDiff, Int.reduceLT, Int.reduceLE, not_true_eq_false, not_false_eq_true, ↓reduceIte]
    · simp (disch := first | (simp (disch := omega) only [w32_id]; omega) | omega) only [k0, k1, k2, k3, k4, k5, k6, k7, k8, k9, k10, k11, e_clI, e_clV, e_clP, e_clIx, e_clVx, e_clPx, e_xt, Int.toNat_natCast, Int.reduceToNat, bz0, bz1, Nat.add_zero, decide_eq_false_iff_not, decide_eq_true_eq, Int.reduceEq, Nat.reduceEqDiff, Int.reduceLT, Int.reduceLE, not_true_eq_false, not_false_eq_true, ↓reduceIte]
end
