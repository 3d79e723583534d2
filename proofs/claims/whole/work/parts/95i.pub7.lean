/-! CALLS THAT ASK: SEES, HIDDEN, THE LOG'S ROWS -/
theorem bO0 {z : Int} (h : z = 0 ∨ z = 1) : bOr z 0 = z := by rcases h with rfl | rfl <;> decide
theorem bO1 {z : Int} (h : z = 0 ∨ z = 1) : bOr z 1 = 1 := by rcases h with rfl | rfl <;> decide
/-- whether one of the first n sees f -/
def anS (w : am_Wd) (f : Nat) : Nat → Bool
  | 0 => false
  | n + 1 => anS w f n || (decide (n ≠ f) && seeW w n (w (307 + 4 * f)).toNat)
def hid1 (w : am_Wd) (f : Nat) (t : Int) : Int := if anS w f (w 0).toNat = true then bOr t 0 else bOr t (bShl 1 (f : Int))
section
variable {sc : Nat × (Nat → Int)} {d a : Nat} {h : am_H} {I : am_I} {w : am_Wd}
theorem p_sees (r : Rel h I) {x y : Int} : Pub h I (Cl sc (d + 30) mX11_sees [Vr (some 0), Vi x, Vi y]) (Cl sc (d + 30) mX12_sees [Vr (some 283), Vi x, Vi y]) cdA := by
  have R := r.R
  have V := r.V
  have hF := V.fa
  by_cases hx : 0 ≤ x ∧ x < I 284 0
  · obtain ⟨f, rfl⟩ : ∃ f : Nat, x = f := ⟨x.toNat, by omega⟩
    have hf : f < 6 := by omega
    by_cases hy : 0 ≤ y ∧ y < 36
    · obtain ⟨c, rfl⟩ : ∃ c : Nat, y = c := ⟨y.toNat, by omega⟩
      have hc : c < 36 := by omega
      refine pubQ (x := 0) (v := bz (seeW (I 284) f c)) r (CO.ok ?_ (Same.rf I)) (fun h1 J1 r1 e1 => ?_) (fun _ => rfl)
      · rw [q_X11_sees_0]
        simp (disch := first | (simp (disch := omega) only [w32_id]; omega) | omega) only [↓BO r.1, ↓BC r.c, ↓BN r.1, c_nF r.1 r.fa hx, c_nC hy, c_doesSee r.1 r.c R V hf hc, e_ret1 (bz01 _), e_clI, e_clV, e_clP, e_clIx, e_clVx, e_clPx, e_xt, Int.toNat_natCast, Int.reduceToNat, bz0, bz1, Nat.add_zero, decide_eq_false_iff_not, decide_eq_true_eq, Int.reduceEq, Nat.reduceEqDiff, Int.reduceLT, Int.reduceLE, not_true_eq_false, not_false_eq_true, ↓reduceIte]
      · refine MO.ok0 ?_
        have V2 : WW (am_u2 J1 283 0 0 284) := by rw [w283, e1.w]; exact V
        have hx2 : 0 ≤ (f : Int) ∧ (f : Int) < am_u2 J1 283 0 0 284 0 := by rw [w283, e1.w]; exact hx
        have b1 := m_seesCell (sc := sc) (d := d + 24) r1.1 V2 hf hc
        rw [w283, e1.w] at b1
        rw [q_X12_sees_0]
        simp (disch := first | (simp (disch := omega) only [w32_id]; omega) | omega) only [↓BM r1.1, m_nF r1.1 V2 hx2, m_nC hy, m_t0 r1.1, q_X12_sees_15, b1, e_clI, e_clV, e_clP, e_clIx, e_clVx, e_clPx, e_xt, Int.toNat_natCast, Int.reduceToNat, bz0, bz1, Nat.add_zero, decide_eq_false_iff_not, decide_eq_true_eq, Int.reduceEq, Nat.reduceEqDiff, Int.reduceLT, Int.reduceLE, not_true_eq_false, not_false_eq_true, ↓reduceIte]
        cases seeW (I 284) f c <;> rfl
    · refine pubQ (x := 3) (v := 0) (v' := 0) r (CO.no (J := I) (by decide) ?_ (Same.rf I)) (fun h1 J1 r1 e1 => ?_) (fun h => absurd h (by decide))
      · rw [q_X11_sees_0]
        simp (disch := first | (simp (disch := omega) only [w32_id]; omega) | omega) only [↓BO r.1, c_nF r.1 r.fa hx, c_nCx hy, hI_exI, e_clI, e_clV, e_clP, e_clIx, e_clVx, e_clPx, e_xt, Int.toNat_natCast, Int.reduceToNat, bz0, bz1, Nat.add_zero, decide_eq_false_iff_not, decide_eq_true_eq, Int.reduceEq, Nat.reduceEqDiff, Int.reduceLT, Int.reduceLE, not_true_eq_false, not_false_eq_true, ↓reduceIte]
      · refine MO.thr ?_
        have V2 : WW (am_u2 J1 283 0 0 284) := by rw [w283, e1.w]; exact V
        have hx2 : 0 ≤ (f : Int) ∧ (f : Int) < am_u2 J1 283 0 0 284 0 := by rw [w283, e1.w]; exact hx
        rw [q_X12_sees_0]
        simp (disch := first | (simp (disch := omega) only [w32_id]; omega) | omega) only [↓BM r1.1, m_nF r1.1 V2 hx2, m_nCx hy, m_t1 r1.1, q_X12_sees_15, e_clI, e_clV, e_clP, e_clIx, e_clVx, e_clPx, e_xt, Int.toNat_natCast, Int.reduceToNat, bz0, bz1, Nat.add_zero, decide_eq_false_iff_not, decide_eq_true_eq, Int.reduceEq, Nat.reduceEqDiff, Int.reduceLT, Int.reduceLE, not_true_eq_false, not_false_eq_true, ↓reduceIte]
        try rfl
  · refine pubQ (x := 3) (v := 0) (v' := 0) r (CO.no (J := I) (by decide) ?_ (Same.rf I)) (fun h1 J1 r1 e1 => ?_) (fun h => absurd h (by decide))
    · rw [q_X11_sees_0]
      simp (disch := first | (simp (disch := omega) only [w32_id]; omega) | omega) only [↓BO r.1, c_nFx r.1 r.fa hx, hI_exI, e_clI, e_clV, e_clP, e_clIx, e_clVx, e_clPx, e_xt, Int.toNat_natCast, Int.reduceToNat, bz0, bz1, Nat.add_zero, decide_eq_false_iff_not, decide_eq_true_eq, Int.reduceEq, Nat.reduceEqDiff, Int.reduceLT, Int.reduceLE, not_true_eq_false, not_false_eq_true, ↓reduceIte]
    · refine MO.thr ?_
      have V2 : WW (am_u2 J1 283 0 0 284) := by rw [w283, e1.w]; exact V
      have hx2 : ¬ (0 ≤ x ∧ x < am_u2 J1 283 0 0 284 0) := by rw [w283, e1.w]; exact hx
      rw [q_X12_sees_0]
      simp (disch := first | (simp (disch := omega) only [w32_id]; omega) | omega) only [↓BM r1.1, m_nFx r1.1 V2 hx2, m_t1 r1.1, q_X12_sees_15, e_clI, e_clV, e_clP, e_clIx, e_clVx, e_clPx, e_xt, Int.toNat_natCast, Int.reduceToNat, bz0, bz1, Nat.add_zero, decide_eq_false_iff_not, decide_eq_true_eq, Int.reduceEq, Nat.reduceEqDiff, Int.reduceLT, Int.reduceLE, not_true_eq_false, not_false_eq_true, ↓reduceIte]
      try rfl
theorem p_hidden (r : Rel h I) : Pub h I (Cl sc (d + 30) mX11_hidden [Vr (some 0)]) (Cl sc (d + 30) mX12_hidden [Vr (some 283)]) cdA := by
  have R := r.R
  have V := r.V
  have hF := V.fa
  have hFn : (I 284 0).toNat ≤ 6 := by omega
  have hlt0 : ¬ (((I 284 0).toNat : Nat) : Int) < I 284 0 := by omega
  have hhm : ∀ f, f < 6 → ∃ z : Nat, I 284 (307 + 4 * f) = z ∧ z < 36 := fun f hf => by
    have := V.fm hf
    exact ⟨(I 284 (307 + 4 * f)).toNat, by omega, by omega⟩
  refine pubQ (x := 0) (v := fo (hid1 (I 284)) (I 284 0).toNat 0) r (CO.ok ?_ (Same.rf I)) (fun h1 J1 r1 e1 => ?_) (fun _ => rfl)
  · rw [q_X11_hidden_0]
    have inn : ∀ f t, f < (I 284 0).toNat → ∀ n, n ≤ (I 284 0).toNat → Ru sc (d + 30) mX11_hidden 15 [Vr (some 0), Vi t, Vi (f : Int), Vi 0, Vi 0] [] (hI h I) = Ru sc (d + 30) mX11_hidden 15 [Vr (some 0), Vi t, Vi (f : Int), Vi (bz (anS (I 284) f n)), Vi (n : Int)] [] (hI h I) := by
      intro f t hf n
      induction n with
      | zero => exact fun _ => rfl
      | succ n ih =>
        intro hn
        have hlt : (n : Int) < I 284 0 := by omega
        have h1 := R.ho (f := f) (by omega)
        obtain ⟨z1, k1, l1⟩ := hhm f (by omega)
        have b1 := c_doesSee (sc := sc) (d := d + 26) r.1 r.c R V (f := n) (cell := z1) (by omega) l1
        rw [ih (by omega), q_X11_hidden_15]
        cases ha : anS (I 284) f n
        · by_cases h2 : n = f
          · subst h2
            have e : anS (I 284) n (n + 1) = false := by simp [anS, ha]
            simp (disch := first | (simp (disch := omega) only [w32_id]; omega) | omega) only [↓BO r.1, ↓BC r.c, R.fa, hlt, w32_succ, e, e_clI, e_clV, e_clP, e_clIx, e_clVx, e_clPx, e_xt, Int.toNat_natCast, Int.reduceToNat, bz0, bz1, Nat.add_zero, decide_eq_false_iff_not, decide_eq_true_eq, Int.reduceEq, Nat.reduceEqDiff, Int.reduceLT, Int.reduceLE, not_true_eq_false, not_false_eq_true, ↓reduceIte]
            try rfl
          · have h3 : ¬ (n : Int) = (f : Int) := by omega
            have e : anS (I 284) f (n + 1) = seeW (I 284) n z1 := by
              show (anS (I 284) f n || (decide (n ≠ f) && seeW (I 284) n (I 284 (307 + 4 * f)).toNat)) = _
              rw [decide_eq_true h2, k1, Int.toNat_natCast, Bool.true_and, ha, Bool.false_or]
            simp (disch := first | (simp (disch := omega) only [w32_id]; omega) | omega) only [↓BO r.1, ↓BC r.c, ↓BN r.1, R.fa, hlt, h3, h1, k1, b1, w32_succ, e, e_clI, e_clV, e_clP, e_clIx, e_clVx, e_clPx, e_xt, Int.toNat_natCast, Int.reduceToNat, bz0, bz1, Nat.add_zero, decide_eq_false_iff_not, decide_eq_true_eq, Int.reduceEq, Nat.reduceEqDiff, Int.reduceLT, Int.reduceLE, not_true_eq_false, not_false_eq_true, ↓reduceIte]
            cases seeW (I 284) n z1
            · rfl
            · rfl
        · have e : anS (I 284) f (n + 1) = true := by simp [anS, ha]
          simp (disch := first | (simp (disch := omega) only [w32_id]; omega) | omega) only [↓BO r.1, ↓BC r.c, R.fa, hlt, w32_succ, e, Bool.true_eq_false, e_clI, e_clV, e_clP, e_clIx, e_clVx, e_clPx, e_xt, Int.toNat_natCast, Int.reduceToNat, bz0, bz1, Nat.add_zero, decide_eq_false_iff_not, decide_eq_true_eq, Int.reduceEq, Nat.reduceEqDiff, Int.reduceLT, Int.reduceLE, not_true_eq_false, not_false_eq_true, ↓reduceIte]
          try rfl
    have go : ∀ n, n ≤ (I 284 0).toNat → ∃ u1 u2, Ru sc (d + 30) mX11_hidden 5 [Vr (some 0), Vi 0, Vi 0, Vx 0, Vx 0] [] (hI h I) = Ru sc (d + 30) mX11_hidden 5 [Vr (some 0), Vi (fo (hid1 (I 284)) n 0), Vi (n : Int), u1, u2] [] (hI h I) := by
      intro n
      induction n with
      | zero => exact fun _ => ⟨_, _, rfl⟩
      | succ n ih =>
        intro hn
        obtain ⟨u1, u2, hu⟩ := ih (by omega)
        have hlt : (n : Int) < I 284 0 := by omega
        have hin := inn n (fo (hid1 (I 284)) n 0) (by omega) (I 284 0).toNat (Nat.le_refl _)
        refine ⟨Vi (bz (anS (I 284) n (I 284 0).toNat)), Vi ((I 284 0).toNat : Int), ?_⟩
        rw [hu, q_X11_hidden_5]
        simp (disch := first | (simp (disch := omega) only [w32_id]; omega) | omega) only [↓BO r.1, ↓BC r.c, R.fa, hlt, e_clI, e_clV, e_clP, e_clIx, e_clVx, e_clPx, e_xt, Int.toNat_natCast, Int.reduceToNat, bz0, bz1, Nat.add_zero, decide_eq_false_iff_not, decide_eq_true_eq, Int.reduceEq, Nat.reduceEqDiff, Int.reduceLT, Int.reduceLE, not_true_eq_false, not_false_eq_true, ↓reduceIte]
        refine hin.trans ?_
        rw [q_X11_hidden_15]
        simp (disch := first | (simp (disch := omega) only [w32_id]; omega) | omega) only [↓BO r.1, ↓BC r.c, R.fa, hlt0, w32_succ, e_clI, e_clV, e_clP, e_clIx, e_clVx, e_clPx, e_xt, Int.toNat_natCast, Int.reduceToNat, bz0, bz1, Nat.add_zero, decide_eq_false_iff_not, decide_eq_true_eq, Int.reduceEq, Nat.reduceEqDiff, Int.reduceLT, Int.reduceLE, not_true_eq_false, not_false_eq_true, ↓reduceIte]
        have e : fo (hid1 (I 284)) (n + 1) 0 = hid1 (I 284) n (fo (hid1 (I 284)) n 0) := rfl
        rw [e]
        unfold hid1
        cases anS (I 284) n (I 284 0).toNat
        · rw [if_pos rfl, if_neg (by simp)]
        · rw [if_neg (by simp), if_pos rfl]
    obtain ⟨u1, u2, hu⟩ := go _ (Nat.le_refl _)
    refine hu.trans ?_
    rw [q_X11_hidden_5]
    simp (disch := first | (simp (disch := omega) only [w32_id]; omega) | omega) only [↓BO r.1, ↓BC r.c, R.fa, hlt0, e_clI, e_clV, e_clP, e_clIx, e_clVx, e_clPx, e_xt, Int.toNat_natCast, Int.reduceToNat, bz0, bz1, Nat.add_zero, decide_eq_false_iff_not, decide_eq_true_eq, Int.reduceEq, Nat.reduceEqDiff, Int.reduceLT, Int.reduceLE, not_true_eq_false, not_false_eq_true, ↓reduceIte]
  · refine MO.ok0 ?_
    have V2 : WW (am_u2 J1 283 0 0 284) := by rw [w283, e1.w]; exact V
    rw [q_X12_hidden_0]
    simp (disch := first | (simp (disch := omega) only [w32_id]; omega) | omega) only [↓BM r1.1, e_clI, e_clV, e_clP, e_clIx, e_clVx, e_clPx, e_xt, Int.toNat_natCast, Int.reduceToNat, bz0, bz1, Nat.add_zero, decide_eq_false_iff_not, decide_eq_true_eq, Int.reduceEq, Nat.reduceEqDiff, Int.reduceLT, Int.reduceLE, not_true_eq_false, not_false_eq_true, ↓reduceIte]
    have inn : ∀ f t, f < (I 284 0).toNat → ∀ n, n ≤ (I 284 0).toNat → Ru sc (d + 30) mX12_hidden 17 [Vr (some 283), Vi t, Vi (f : Int), Vi 0, Vi 0] [] (hI h1 (am_u2 J1 283 0 0)) = Ru sc (d + 30) mX12_hidden 17 [Vr (some 283), Vi t, Vi (f : Int), Vi (bz (anS (I 284) f n)), Vi (n : Int)] [] (hI h1 (am_u2 J1 283 0 0)) := by
      intro f t hf n
      induction n with
      | zero => exact fun _ => rfl
      | succ n ih =>
        intro hn
        have hlt : (n : Int) < I 284 0 := by omega
        obtain ⟨z1, k1, l1⟩ := hhm f (by omega)
        have b1 := m_seesCell (sc := sc) (d := d + 24) r1.1 V2 (f := n) (cell := z1) (by omega) l1
        rw [w283, e1.w] at b1
        rw [ih (by omega), q_X12_hidden_17]
        cases ha : anS (I 284) f n
        · by_cases h2 : n = f
          · subst h2
            have e : anS (I 284) n (n + 1) = false := by simp [anS, ha]
            simp (disch := first | (simp (disch := omega) only [w32_id]; omega) | omega) only [↓BM r1.1, m_families r1.1, w283, e1.w, hlt, w32_succ, e, e_clI, e_clV, e_clP, e_clIx, e_clVx, e_clPx, e_xt, Int.toNat_natCast, Int.reduceToNat, bz0, bz1, Nat.add_zero, decide_eq_false_iff_not, decide_eq_true_eq, Int.reduceEq, Nat.reduceEqDiff, Int.reduceLT, Int.reduceLE, not_true_eq_false, not_false_eq_true, ↓reduceIte]
            rfl
          · have h3 : ¬ (n : Int) = (f : Int) := by omega
            have e : anS (I 284) f (n + 1) = seeW (I 284) n z1 := by
              show (anS (I 284) f n || (decide (n ≠ f) && seeW (I 284) n (I 284 (307 + 4 * f)).toNat)) = _
              rw [decide_eq_true h2, k1, Int.toNat_natCast, Bool.true_and, ha, Bool.false_or]
            simp (disch := first | (simp (disch := omega) only [w32_id]; omega) | omega) only [↓BM r1.1, m_families r1.1, w283, e1.w, hlt, h3, m_ofFamily r1.1, k1, b1, w32_succ, e, e_clI, e_clV, e_clP, e_clIx, e_clVx, e_clPx, e_xt, Int.toNat_natCast, Int.reduceToNat, bz0, bz1, Nat.add_zero, decide_eq_false_iff_not, decide_eq_true_eq, Int.reduceEq, Nat.reduceEqDiff, Int.reduceLT, Int.reduceLE, not_true_eq_false, not_false_eq_true, ↓reduceIte]
            cases seeW (I 284) n z1
            · rfl
            · rfl
        · have e : anS (I 284) f (n + 1) = true := by simp [anS, ha]
          simp (disch := first | (simp (disch := omega) only [w32_id]; omega) | omega) only [↓BM r1.1, m_families r1.1, w283, e1.w, hlt, w32_succ, e, Bool.true_eq_false, e_clI, e_clV, e_clP, e_clIx, e_clVx, e_clPx, e_xt, Int.toNat_natCast, Int.reduceToNat, bz0, bz1, Nat.add_zero, decide_eq_false_iff_not, decide_eq_true_eq, Int.reduceEq, Nat.reduceEqDiff, Int.reduceLT, Int.reduceLE, not_true_eq_false, not_false_eq_true, ↓reduceIte]
          rfl
    have go : ∀ n, n ≤ (I 284 0).toNat → ∃ u1 u2, Ru sc (d + 30) mX12_hidden 8 [Vr (some 283), Vi 0, Vi 0, Vx 0, Vx 0] [] (hI h1 (am_u2 J1 283 0 0)) = Ru sc (d + 30) mX12_hidden 8 [Vr (some 283), Vi (fo (hid1 (I 284)) n 0), Vi (n : Int), u1, u2] [] (hI h1 (am_u2 J1 283 0 0)) := by
      intro n
      induction n with
      | zero => exact fun _ => ⟨_, _, rfl⟩
      | succ n ih =>
        intro hn
        obtain ⟨u1, u2, hu⟩ := ih (by omega)
        have hlt : (n : Int) < I 284 0 := by omega
        have hin := inn n (fo (hid1 (I 284)) n 0) (by omega) (I 284 0).toNat (Nat.le_refl _)
        refine ⟨Vi (bz (anS (I 284) n (I 284 0).toNat)), Vi ((I 284 0).toNat : Int), ?_⟩
        rw [hu, q_X12_hidden_8]
        simp (disch := first | (simp (disch := omega) only [w32_id]; omega) | omega) only [↓BM r1.1, m_families r1.1, w283, e1.w, hlt, e_clI, e_clV, e_clP, e_clIx, e_clVx, e_clPx, e_xt, Int.toNat_natCast, Int.reduceToNat, bz0, bz1, Nat.add_zero, decide_eq_false_iff_not, decide_eq_true_eq, Int.reduceEq, Nat.reduceEqDiff, Int.reduceLT, Int.reduceLE, not_true_eq_false, not_false_eq_true, ↓reduceIte]
        refine hin.trans ?_
        rw [q_X12_hidden_17]
        simp (disch := first | (simp (disch := omega) only [w32_id]; omega) | omega) only [↓BM r1.1, m_families r1.1, w283, e1.w, hlt0, w32_succ, e_clI, e_clV, e_clP, e_clIx, e_clVx, e_clPx, e_xt, Int.toNat_natCast, Int.reduceToNat, bz0, bz1, Nat.add_zero, decide_eq_false_iff_not, decide_eq_true_eq, Int.reduceEq, Nat.reduceEqDiff, Int.reduceLT, Int.reduceLE, not_true_eq_false, not_false_eq_true, ↓reduceIte]
        have e : fo (hid1 (I 284)) (n + 1) 0 = hid1 (I 284) n (fo (hid1 (I 284)) n 0) := rfl
        rw [e]
        unfold hid1
        cases anS (I 284) n (I 284 0).toNat
        · rw [if_pos rfl, if_neg (by simp)]
        · rw [if_neg (by simp), if_pos rfl]
    obtain ⟨u1, u2, hu⟩ := go _ (Nat.le_refl _)
    refine hu.trans ?_
    rw [q_X12_hidden_8]
    simp (disch := first | (simp (disch := omega) only [w32_id]; omega) | omega) only [↓BM r1.1, m_families r1.1, w283, e1.w, hlt0, e_clI, e_clV, e_clP, e_clIx, e_clVx, e_clPx, e_xt, Int.toNat_natCast, Int.reduceToNat, bz0, bz1, Nat.add_zero, decide_eq_false_iff_not, decide_eq_true_eq, Int.reduceEq, Nat.reduceEqDiff, Int.reduceLT, Int.reduceLE, not_true_eq_false, not_false_eq_true, ↓reduceIte]
end
