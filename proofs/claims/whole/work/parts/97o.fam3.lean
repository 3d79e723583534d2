/-! A FAMILY'S NUMBERS -/
section
variable {sc : Nat × (Nat → Int)} {d : Nat} {h : am_H} {I : am_I} {lb : Nat → Nat}
theorem m_in8 {y : Int} {h : am_H} (hy : 0 ≤ y ∧ y ≤ 8) : Cl sc (d + 1) mX12_in [Vi y, Vi 0, Vi 8] h = some (.inl (Vi 1), h) := by
  rw [c_in, decide_eq_true (by omega)]; rfl
theorem m_in8x {y : Int} {h : am_H} (hy : ¬ (0 ≤ y ∧ y ≤ 8)) : Cl sc (d + 1) mX12_in [Vi y, Vi 0, Vi 8] h = some (.inl (Vi 0), h) := by
  rw [c_in, decide_eq_false (by omega)]; rfl
theorem p_family (r : Rel h I) {x y : Int} : Pub h I (Cl sc (d + 30) mX11_family [Vr (some 0), Vi x, Vi y]) (Cl sc (d + 30) mX12_family [Vr (some 283), Vi x, Vi y]) cdB := by
  have R := r.R
  have V := r.V
  have hF := V.fa
  by_cases hx : 0 ≤ x ∧ x < I 284 0
  · obtain ⟨f, rfl⟩ : ∃ f : Nat, x = f := ⟨x.toNat, by omega⟩
    have hf : f < 6 := by omega
    have hv := V.fm hf
    have hm := hmW_e V hf
    have hx1 : ∀ {J : am_I}, Same I J → 0 ≤ (f : Int) ∧ (f : Int) < am_u2 J 283 0 0 284 0 := fun e => by rw [w283, e.w]; exact hx
    have VV : ∀ {J : am_I}, Same I J → WW (am_u2 J 283 0 0 284) := fun e => by rw [w283, e.w]; exact V
    by_cases hy : 0 ≤ y ∧ y ≤ 8
    · have hk : y = 0 ∨ y = 1 ∨ y = 2 ∨ y = 3 ∨ y = 4 ∨ y = 5 ∨ y = 6 ∨ y = 7 ∨ y = 8 := by omega
      rcases hk with rfl | rfl | rfl | rfl | rfl | rfl | rfl | rfl | rfl
      · refine pubQ (x := 0) (v := I 284 (307 + 4 * f)) r (CO.ok ?_ (Same.rf I)) (fun h1 J1 r1 e1 => ?_) (fun _ => rfl)
        · rw [q_X11_family_0]
          simp (disch := first | (simp (disch := omega) only [w32_id]; omega) | omega) only [↓BO r.1, ↓BC r.c, c_nF r.1 r.fa hx, R.ho hf, e_clI, e_clV, e_clP, e_clIx, e_clVx, e_clPx, e_xt, Int.toNat_natCast, Int.reduceToNat, bz0, bz1, Nat.add_zero, decide_eq_false_iff_not, decide_eq_true_eq, Int.reduceEq, Nat.reduceEqDiff, Int.reduceLT, Int.reduceLE, not_true_eq_false, not_false_eq_true, eq_self, ↓reduceIte]
        · refine MO.ok0 ?_
          rw [q_X12_family_0]
          simp (disch := first | (simp (disch := omega) only [w32_id]; omega) | omega) only [↓BM r1.1, q_X12_family_20, m_nF r1.1 (VV e1) (hx1 e1), m_in8, m_t0 r1.1, m_ofFamily r1.1, w283, e1.w, e_clI, e_clV, e_clP, e_clIx, e_clVx, e_clPx, e_xt, Int.toNat_natCast, Int.reduceToNat, bz0, bz1, Nat.add_zero, decide_eq_false_iff_not, decide_eq_true_eq, Int.reduceEq, Nat.reduceEqDiff, Int.reduceLT, Int.reduceLE, not_true_eq_false, not_false_eq_true, eq_self, ↓reduceIte]
      · refine pubQ (x := 0) (v := I 284 (307 + 4 * f + 1)) r (CO.ok ?_ (Same.rf I)) (fun h1 J1 r1 e1 => ?_) (fun _ => rfl)
        · rw [q_X11_family_0]
          simp (disch := first | (simp (disch := omega) only [w32_id]; omega) | omega) only [↓BO r.1, ↓BC r.c, c_nF r.1 r.fa hx, R.cl hf, e_clI, e_clV, e_clP, e_clIx, e_clVx, e_clPx, e_xt, Int.toNat_natCast, Int.reduceToNat, bz0, bz1, Nat.add_zero, decide_eq_false_iff_not, decide_eq_true_eq, Int.reduceEq, Nat.reduceEqDiff, Int.reduceLT, Int.reduceLE, not_true_eq_false, not_false_eq_true, eq_self, ↓reduceIte]
        · refine MO.ok0 ?_
          rw [q_X12_family_0]
          simp (disch := first | (simp (disch := omega) only [w32_id]; omega) | omega) only [↓BM r1.1, q_X12_family_20, m_nF r1.1 (VV e1) (hx1 e1), m_in8, m_t0 r1.1, m_ofFamily r1.1, w283, e1.w, e_clI, e_clV, e_clP, e_clIx, e_clVx, e_clPx, e_xt, Int.toNat_natCast, Int.reduceToNat, bz0, bz1, Nat.add_zero, decide_eq_false_iff_not, decide_eq_true_eq, Int.reduceEq, Nat.reduceEqDiff, Int.reduceLT, Int.reduceLE, not_true_eq_false, not_false_eq_true, eq_self, ↓reduceIte]
      · refine pubQ (x := 0) (v := I 284 (307 + 4 * f + 2)) r (CO.ok ?_ (Same.rf I)) (fun h1 J1 r1 e1 => ?_) (fun _ => rfl)
        · rw [q_X11_family_0]
          simp (disch := first | (simp (disch := omega) only [w32_id]; omega) | omega) only [↓BO r.1, ↓BC r.c, c_nF r.1 r.fa hx, R.ey hf, e_clI, e_clV, e_clP, e_clIx, e_clVx, e_clPx, e_xt, Int.toNat_natCast, Int.reduceToNat, bz0, bz1, Nat.add_zero, decide_eq_false_iff_not, decide_eq_true_eq, Int.reduceEq, Nat.reduceEqDiff, Int.reduceLT, Int.reduceLE, not_true_eq_false, not_false_eq_true, eq_self, ↓reduceIte]
        · refine MO.ok0 ?_
          rw [q_X12_family_0]
          simp (disch := first | (simp (disch := omega) only [w32_id]; omega) | omega) only [↓BM r1.1, q_X12_family_20, m_nF r1.1 (VV e1) (hx1 e1), m_in8, m_t0 r1.1, m_ofFamily r1.1, w283, e1.w, e_clI, e_clV, e_clP, e_clIx, e_clVx, e_clPx, e_xt, Int.toNat_natCast, Int.reduceToNat, bz0, bz1, Nat.add_zero, decide_eq_false_iff_not, decide_eq_true_eq, Int.reduceEq, Nat.reduceEqDiff, Int.reduceLT, Int.reduceLE, not_true_eq_false, not_false_eq_true, eq_self, ↓reduceIte]
      · refine pubQ (x := 0) (v := I 284 (307 + 4 * f + 3)) r (CO.ok ?_ (Same.rf I)) (fun h1 J1 r1 e1 => ?_) (fun _ => rfl)
        · rw [q_X11_family_0]
          simp (disch := first | (simp (disch := omega) only [w32_id]; omega) | omega) only [↓BO r.1, ↓BC r.c, c_nF r.1 r.fa hx, R.so hf, e_clI, e_clV, e_clP, e_clIx, e_clVx, e_clPx, e_xt, Int.toNat_natCast, Int.reduceToNat, bz0, bz1, Nat.add_zero, decide_eq_false_iff_not, decide_eq_true_eq, Int.reduceEq, Nat.reduceEqDiff, Int.reduceLT, Int.reduceLE, not_true_eq_false, not_false_eq_true, eq_self, ↓reduceIte]
        · refine MO.ok0 ?_
          rw [q_X12_family_0]
          simp (disch := first | (simp (disch := omega) only [w32_id]; omega) | omega) only [↓BM r1.1, q_X12_family_20, m_nF r1.1 (VV e1) (hx1 e1), m_in8, m_t0 r1.1, m_ofFamily r1.1, w283, e1.w, e_clI, e_clV, e_clP, e_clIx, e_clVx, e_clPx, e_xt, Int.toNat_natCast, Int.reduceToNat, bz0, bz1, Nat.add_zero, decide_eq_false_iff_not, decide_eq_true_eq, Int.reduceEq, Nat.reduceEqDiff, Int.reduceLT, Int.reduceLE, not_true_eq_false, not_false_eq_true, eq_self, ↓reduceIte]
      · obtain ⟨J, lb, ⟨k1, k2⟩, k3⟩ := c_waysOf (sc := sc) (d := d + 26) r.1 R V hf
        refine pubQ (x := 0) (v := nn (fun v => decide (lb v = lb (I 284 (307 + 4 * f)).toNat)) 36) r (CO.ok (J := J) ?_ k1.sm) (fun h1 J1 r1 e1 => ?_) (fun _ => rfl)
        · rw [q_X11_family_0]
          simp (disch := first | (simp (disch := omega) only [w32_id]; omega) | omega) only [↓BO r.1, ↓BC r.c, c_nF r.1 r.fa hx, k3, e_clI, e_clV, e_clP, e_clIx, e_clVx, e_clPx, e_xt, Int.toNat_natCast, Int.reduceToNat, bz0, bz1, Nat.add_zero, decide_eq_false_iff_not, decide_eq_true_eq, Int.reduceEq, Nat.reduceEqDiff, Int.reduceLT, Int.reduceLE, not_true_eq_false, not_false_eq_true, eq_self, ↓reduceIte]
        · obtain ⟨G, g1, g2⟩ := m_waysOf (sc := sc) (d := d + 21) (I := am_u2 J1 283 0 0) r1.1 (VV e1) hf
          rw [w283, e1.w, u2_j (by decide), u2_j (by decide), rel18 r1, rel19 r1] at g1
          have w2 := ways_eq V hm.2 k2.1.2 opE_f g1
          refine MO.okJ (J := sr (am_u2 J1 283 0 0) 292 G) ?_ (s283.tr (sr292 (G := G))) ?_
          · rw [q_X12_family_0]
            simp (disch := first | (simp (disch := omega) only [w32_id]; omega) | omega) only [↓BM r1.1, q_X12_family_20, m_nF r1.1 (VV e1) (hx1 e1), m_in8, m_t0 r1.1, g2, e_clI, e_clV, e_clP, e_clIx, e_clVx, e_clPx, e_xt, Int.toNat_natCast, Int.reduceToNat, bz0, bz1, Nat.add_zero, decide_eq_false_iff_not, decide_eq_true_eq, Int.reduceEq, Nat.reduceEqDiff, Int.reduceLT, Int.reduceLE, not_true_eq_false, not_false_eq_true, eq_self, ↓reduceIte]
            rw [← w2]
            try rfl
          · rw [sr_ne (by decide)]
            exact u2_same
      · obtain ⟨J, lb, ⟨k1, k2⟩, k3⟩ := c_waysOf (sc := sc) (d := d + 26) r.1 R V hf
        have nb := nn_b (p := fun v => decide (lb v = lb (I 284 (307 + 4 * f)).toNat)) (N := 36)
        refine pubQ (x := 0) (v := w32 ((w32 (nn (fun v => decide (lb v = lb (I 284 (307 + 4 * f)).toNat)) 36 * 100)).tdiv 36)) r (CO.ok (J := J) ?_ k1.sm) (fun h1 J1 r1 e1 => ?_) (fun _ => rfl)
        · rw [q_X11_family_0]
          simp (disch := first | (simp (disch := omega) only [w32_id]; omega) | omega) only [↓BO r.1, ↓BC r.c, c_nF r.1 r.fa hx, k3, e_clI, e_clV, e_clP, e_clIx, e_clVx, e_clPx, e_xt, Int.toNat_natCast, Int.reduceToNat, bz0, bz1, Nat.add_zero, decide_eq_false_iff_not, decide_eq_true_eq, Int.reduceEq, Nat.reduceEqDiff, Int.reduceLT, Int.reduceLE, not_true_eq_false, not_false_eq_true, eq_self, ↓reduceIte]
        · obtain ⟨G, g1, g2⟩ := m_waysOf (sc := sc) (d := d + 21) (I := am_u2 J1 283 0 0) r1.1 (VV e1) hf
          rw [w283, e1.w, u2_j (by decide), u2_j (by decide), rel18 r1, rel19 r1] at g1
          have w2 := ways_eq V hm.2 k2.1.2 opE_f g1
          refine MO.okJ (J := sr (am_u2 J1 283 0 0) 292 G) ?_ (s283.tr (sr292 (G := G))) ?_
          · rw [q_X12_family_0]
            simp (disch := first | (simp (disch := omega) only [w32_id]; omega) | omega) only [↓BM r1.1, q_X12_family_20, m_nF r1.1 (VV e1) (hx1 e1), m_in8, m_t0 r1.1, g2, e_clI, e_clV, e_clP, e_clIx, e_clVx, e_clPx, e_xt, Int.toNat_natCast, Int.reduceToNat, bz0, bz1, Nat.add_zero, decide_eq_false_iff_not, decide_eq_true_eq, Int.reduceEq, Nat.reduceEqDiff, Int.reduceLT, Int.reduceLE, not_true_eq_false, not_false_eq_true, eq_self, ↓reduceIte]
            rw [← w2, Int.mul_comm]
            try rfl
          · rw [sr_ne (by decide)]
            exact u2_same
      · have t1 := c_tower (sc := sc) (d := d + 27) (I := I) r.c R V hm.2
        rw [← hm.1] at t1
        refine pubQ (x := 0) (v := toS (I 284) (hmW (I 284) f) 4) r (CO.ok ?_ (Same.rf I)) (fun h1 J1 r1 e1 => ?_) (fun _ => rfl)
        · rw [q_X11_family_0]
          simp (disch := first | (simp (disch := omega) only [w32_id]; omega) | omega) only [↓BO r.1, ↓BC r.c, c_nF r.1 r.fa hx, R.ho hf, t1, e_clI, e_clV, e_clP, e_clIx, e_clVx, e_clPx, e_xt, Int.toNat_natCast, Int.reduceToNat, bz0, bz1, Nat.add_zero, decide_eq_false_iff_not, decide_eq_true_eq, Int.reduceEq, Nat.reduceEqDiff, Int.reduceLT, Int.reduceLE, not_true_eq_false, not_false_eq_true, eq_self, ↓reduceIte]
        · refine MO.ok0 ?_
          have t2 := m_towerOf (sc := sc) (d := d + 25) (I := am_u2 J1 283 0 0) r1.1 (VV e1) hf
          rw [w283, e1.w] at t2
          rw [q_X12_family_0]
          simp (disch := first | (simp (disch := omega) only [w32_id]; omega) | omega) only [↓BM r1.1, q_X12_family_20, m_nF r1.1 (VV e1) (hx1 e1), m_in8, m_t0 r1.1, t2, e_clI, e_clV, e_clP, e_clIx, e_clVx, e_clPx, e_xt, Int.toNat_natCast, Int.reduceToNat, bz0, bz1, Nat.add_zero, decide_eq_false_iff_not, decide_eq_true_eq, Int.reduceEq, Nat.reduceEqDiff, Int.reduceLT, Int.reduceLE, not_true_eq_false, not_false_eq_true, eq_self, ↓reduceIte]
      · have t1 := c_share (sc := sc) (d := d + 25) (I := I) r.1 r.c R V (by omega) (f := f)
        refine pubQ (x := 0) (v := nn (fun x => decide (nrW (I 284) x = f)) 36) r (CO.ok ?_ (Same.rf I)) (fun h1 J1 r1 e1 => ?_) (fun _ => rfl)
        · rw [q_X11_family_0]
          simp (disch := first | (simp (disch := omega) only [w32_id]; omega) | omega) only [↓BO r.1, ↓BC r.c, ↓BN r.1, c_nF r.1 r.fa hx, t1, e_clI, e_clV, e_clP, e_clIx, e_clVx, e_clPx, e_xt, Int.toNat_natCast, Int.reduceToNat, bz0, bz1, Nat.add_zero, decide_eq_false_iff_not, decide_eq_true_eq, Int.reduceEq, Nat.reduceEqDiff, Int.reduceLT, Int.reduceLE, not_true_eq_false, not_false_eq_true, eq_self, ↓reduceIte]
          try rfl
        · refine MO.ok0 ?_
          have t2 := m_shareOf (sc := sc) (d := d + 25) (I := am_u2 J1 283 0 0) r1.1 (VV e1) (by rw [w283, e1.w]; omega) (f := f)
          rw [w283, e1.w] at t2
          rw [q_X12_family_0]
          simp (disch := first | (simp (disch := omega) only [w32_id]; omega) | omega) only [↓BM r1.1, q_X12_family_20, m_nF r1.1 (VV e1) (hx1 e1), m_in8, m_t0 r1.1, t2, e_clI, e_clV, e_clP, e_clIx, e_clVx, e_clPx, e_xt, Int.toNat_natCast, Int.reduceToNat, bz0, bz1, Nat.add_zero, decide_eq_false_iff_not, decide_eq_true_eq, Int.reduceEq, Nat.reduceEqDiff, Int.reduceLT, Int.reduceLE, not_true_eq_false, not_false_eq_true, eq_self, ↓reduceIte]
          try rfl
      · obtain ⟨J, lb, ⟨k1, k2⟩, k3⟩ := c_bestPull (sc := sc) (d := d + 26) r.1 R V hf
        refine pubQ (x := 0) (v := (fo (puF (I 284) lb (hmW (I 284) f) (I 284 (307 + 4 * f + 1))) 60 (-1, 0)).1) r (CO.ok (J := J) ?_ k1.sm) (fun h1 J1 r1 e1 => ?_) (fun _ => rfl)
        · rw [q_X11_family_0]
          simp (disch := first | (simp (disch := omega) only [w32_id]; omega) | omega) only [↓BO r.1, ↓BC r.c, c_nF r.1 r.fa hx, k3, e_clI, e_clV, e_clP, e_clIx, e_clVx, e_clPx, e_xt, Int.toNat_natCast, Int.reduceToNat, bz0, bz1, Nat.add_zero, decide_eq_false_iff_not, decide_eq_true_eq, Int.reduceEq, Nat.reduceEqDiff, Int.reduceLT, Int.reduceLE, not_true_eq_false, not_false_eq_true, eq_self, ↓reduceIte]
          try rfl
        · have e2 : am_u2 J1 283 0 0 284 = I 284 := by rw [w283, e1.w]
          obtain ⟨K, ⟨g1, g0⟩, g2⟩ := m_givesOf (sc := sc) (d := d + 20) (I := am_u2 J1 283 0 0) (lb := lb) r1.1 (VV e1) (by rw [u2_j (by decide)]; exact rel18 r1) (by rw [u2_j (by decide)]; exact rel19 r1) hf k2.1.1 (by rw [e2]; exact k2.1.2)
          rw [e2] at g2
          refine MO.okJ (J := K) ?_ (s283.tr g1) (g0.trans u2_same)
          rw [q_X12_family_0]
          simp (disch := first | (simp (disch := omega) only [w32_id]; omega) | omega) only [↓BM r1.1, q_X12_family_20, m_nF r1.1 (VV e1) (hx1 e1), m_in8, m_t0 r1.1, g2, e_clI, e_clV, e_clP, e_clIx, e_clVx, e_clPx, e_xt, Int.toNat_natCast, Int.reduceToNat, bz0, bz1, Nat.add_zero, decide_eq_false_iff_not, decide_eq_true_eq, Int.reduceEq, Nat.reduceEqDiff, Int.reduceLT, Int.reduceLE, not_true_eq_false, not_false_eq_true, eq_self, ↓reduceIte]
          try rfl
    · have n0 : ¬ y = 0 := by omega
      have n1 : ¬ y = 1 := by omega
      have n2 : ¬ y = 2 := by omega
      have n3 : ¬ y = 3 := by omega
      have n4 : ¬ y = 4 := by omega
      have n5 : ¬ y = 5 := by omega
      have n6 : ¬ y = 6 := by omega
      have n7 : ¬ y = 7 := by omega
      have n8 : ¬ y = 8 := by omega
      refine pubQ (x := 4) (v := 0) (v' := 0) r (CO.no (J := I) (by decide) ?_ (Same.rf I)) (fun h1 J1 r1 e1 => ?_) (fun h => absurd h (by decide))
      · rw [q_X11_family_0, c_nF r.1 r.fa hx, e_clV, if_neg n0, if_neg n1, if_neg n2, if_neg n3, if_neg n4, if_neg n5, if_neg n6, if_neg n7, if_neg n8]
        simp (disch := first | (simp (disch := omega) only [w32_id]; omega) | omega) only [↓BO r.1, hI_exI, e_clI, e_clV, e_clP, e_clIx, e_clVx, e_clPx, e_xt, Int.toNat_natCast, Int.reduceToNat, bz0, bz1, Nat.add_zero, decide_eq_false_iff_not, decide_eq_true_eq, Int.reduceEq, Nat.reduceEqDiff, Int.reduceLT, Int.reduceLE, not_true_eq_false, not_false_eq_true, eq_self, ↓reduceIte]
        try rfl
      · refine MO.thr ?_
        rw [q_X12_family_0]
        simp (disch := first | (simp (disch := omega) only [w32_id]; omega) | omega) only [↓BM r1.1, m_nF r1.1 (VV e1) (hx1 e1), m_in8x hy, m_t0 r1.1, e_clI, e_clV, e_clP, e_clIx, e_clVx, e_clPx, e_xt, Int.toNat_natCast, Int.reduceToNat, bz0, bz1, Nat.add_zero, decide_eq_false_iff_not, decide_eq_true_eq, Int.reduceEq, Nat.reduceEqDiff, Int.reduceLT, Int.reduceLE, not_true_eq_false, not_false_eq_true, eq_self, ↓reduceIte]
        rw [q_X12_family_20, m_t1 r1.1, e_clI, if_neg (by omega)]
        simp (disch := first | (simp (disch := omega) only [w32_id]; omega) | omega) only [↓BM r1.1, e_clI, e_clV, e_clP, e_clIx, e_clVx, e_clPx, e_xt, Int.toNat_natCast, Int.reduceToNat, bz0, bz1, Nat.add_zero, decide_eq_false_iff_not, decide_eq_true_eq, Int.reduceEq, Nat.reduceEqDiff, Int.reduceLT, Int.reduceLE, not_true_eq_false, not_false_eq_true, eq_self, ↓reduceIte]
        try rfl
  · refine pubQ (x := 3) (v := 0) (v' := 0) r (CO.no (J := I) (by decide) ?_ (Same.rf I)) (fun h1 J1 r1 e1 => ?_) (fun h => absurd h (by decide))
    · rw [q_X11_family_0, c_nFx r.1 r.fa hx, e_clVx]
      simp (disch := first | (simp (disch := omega) only [w32_id]; omega) | omega) only [↓BO r.1, hI_exI, e_clI, e_clV, e_clP, e_clIx, e_clVx, e_clPx, e_xt, Int.toNat_natCast, Int.reduceToNat, bz0, bz1, Nat.add_zero, decide_eq_false_iff_not, decide_eq_true_eq, Int.reduceEq, Nat.reduceEqDiff, Int.reduceLT, Int.reduceLE, not_true_eq_false, not_false_eq_true, eq_self, ↓reduceIte]
    · refine MO.thr ?_
      have hx2 : ¬ (0 ≤ x ∧ x < am_u2 J1 283 0 0 284 0) := by rw [w283, e1.w]; exact hx
      have V2 : WW (am_u2 J1 283 0 0 284) := by rw [w283, e1.w]; exact V
      rw [q_X12_family_0]
      simp (disch := first | (simp (disch := omega) only [w32_id]; omega) | omega) only [↓BM r1.1, m_nFx r1.1 V2 hx2, m_t1 r1.1, e_clI, e_clV, e_clP, e_clIx, e_clVx, e_clPx, e_xt, Int.toNat_natCast, Int.reduceToNat, bz0, bz1, Nat.add_zero, decide_eq_false_iff_not, decide_eq_true_eq, Int.reduceEq, Nat.reduceEqDiff, Int.reduceLT, Int.reduceLE, not_true_eq_false, not_false_eq_true, eq_self, ↓reduceIte]
      try rfl
end
