/-! CALLS THAT ASK: FIRST ONES -/
section
variable {sc : Nat × (Nat → Int)} {d : Nat} {h : am_H} {I : am_I}
theorem MO.ok0 {r : am_R} {h : am_H} {I : am_I} {v : Int} (e : r = some (.inl (Vi v), hI h (am_u2 I 283 0 0))) : MO r h I 0 v := ⟨_, e, s283, u2_same⟩
theorem MO.thr {r : am_R} {h : am_H} {I : am_I} {v k : Int} (e : r = some (.inl (Vi v), hI h (am_u2 (am_u2 I 283 0 0) 283 0 k))) : MO r h I k v := ⟨_, e, s283.x283, u2_same⟩
theorem MO.okJ {r : am_R} {h : am_H} {I J : am_I} {v : Int} (e : r = some (.inl (Vi v), hI h J)) (hs : Same I J) (h0 : J 283 0 = 0) : MO r h I 0 v := ⟨J, e, hs, h0⟩
theorem Rel.R {h : am_H} {I : am_I} (r : Rel h I) : CRep I 11 (I 284) := r.2.1.1
theorem Rel.V {h : am_H} {I : am_I} (r : Rel h I) : WW (I 284) := r.2.1.2.1
theorem Rel.c {h : am_H} {I : am_I} (r : Rel h I) : Cty h 11 := cty_of r.1 isC_now
theorem Rel.fa {h : am_H} {I : am_I} (r : Rel h I) : I 11 5 = I 284 0 := r.R.fa
theorem p_open (r : Rel h I) {x y : Int} : Pub h I (Cl sc (d + 30) mX11_open [Vr (some 0), Vi x, Vi y]) (Cl sc (d + 30) mX12_open [Vr (some 283), Vi x, Vi y]) cdB := by
  by_cases hx : 0 ≤ x ∧ x < 60
  · obtain ⟨b, rfl⟩ : ∃ b : Nat, x = b := ⟨x.toNat, by omega⟩
    have hb : b < 60 := by omega
    by_cases hy : 0 ≤ y ∧ y ≤ 999
    · refine pubQ (x := 0) (v := bz (opW (I 284) b y)) r (CO.ok ?_ (Same.rf I)) (fun h1 J1 r1 e1 => ?_) (fun _ => rfl)
      · rw [q_X11_open_0]
        simp (disch := first | (simp (disch := omega) only [w32_id]; omega) | omega) only [↓BO r.1, ↓BC r.c, c_nB hx, c_nH hy, c_isOpen r.c r.R r.V hb, e_ret1 (bz01 _), e_clI, e_clV, e_clP, e_clIx, e_clVx, e_clPx, e_xt, Int.toNat_natCast, Int.reduceToNat, bz0, bz1, Nat.add_zero, decide_eq_false_iff_not, decide_eq_true_eq, Int.reduceEq, Nat.reduceEqDiff, Int.reduceLT, Int.reduceLE, not_true_eq_false, not_false_eq_true, ↓reduceIte]
      · refine MO.ok0 ?_
        rw [q_X12_open_0]
        simp (disch := first | (simp (disch := omega) only [w32_id]; omega) | omega) only [↓BM r1.1, m_nB hx, m_nH hy, m_t0 r1.1, m_isOpen r1.1 hb, w283, u2_jj, r1.2.2.2.2.2.1, r1.2.2.2.2.2.2.1, opS_no, e1.w, e_clI, e_clV, e_clP, e_clIx, e_clVx, e_clPx, e_xt, Int.toNat_natCast, Int.reduceToNat, bz0, bz1, Nat.add_zero, decide_eq_false_iff_not, decide_eq_true_eq, Int.reduceEq, Nat.reduceEqDiff, Int.reduceLT, Int.reduceLE, not_true_eq_false, not_false_eq_true, ↓reduceIte]
        cases opW (I 284) b y <;> rfl
    · skip
      refine pubQ (x := 1) (v := 0) (v' := 0) r (CO.no (J := I) (by decide) ?_ (Same.rf I)) (fun h1 J1 r1 e1 => ?_) (fun h => absurd h (by decide))
      · rw [q_X11_open_0]
        simp (disch := first | (simp (disch := omega) only [w32_id]; omega) | omega) only [c_nB hx, c_nHx hy, hI_exI, e_clI, e_clV, e_clP, e_clIx, e_clVx, e_clPx, e_xt, Int.toNat_natCast, Int.reduceToNat, bz0, bz1, Nat.add_zero, decide_eq_false_iff_not, decide_eq_true_eq, Int.reduceEq, Nat.reduceEqDiff, Int.reduceLT, Int.reduceLE, not_true_eq_false, not_false_eq_true, ↓reduceIte]
      · refine MO.thr ?_
        rw [q_X12_open_0]
        simp (disch := first | (simp (disch := omega) only [w32_id]; omega) | omega) only [↓BM r1.1, m_nB hx, m_nHx hy, m_t0 r1.1, m_t1 r1.1, e_clI, e_clV, e_clP, e_clIx, e_clVx, e_clPx, e_xt, Int.toNat_natCast, Int.reduceToNat, bz0, bz1, Nat.add_zero, decide_eq_false_iff_not, decide_eq_true_eq, Int.reduceEq, Nat.reduceEqDiff, Int.reduceLT, Int.reduceLE, not_true_eq_false, not_false_eq_true, ↓reduceIte]
        try rfl
  · skip
    refine pubQ (x := 3) (v := 0) (v' := 0) r (CO.no (J := I) (by decide) ?_ (Same.rf I)) (fun h1 J1 r1 e1 => ?_) (fun h => absurd h (by decide))
    · rw [q_X11_open_0]
      simp (disch := first | (simp (disch := omega) only [w32_id]; omega) | omega) only [c_nBx hx, hI_exI, e_clI, e_clV, e_clP, e_clIx, e_clVx, e_clPx, e_xt, Int.toNat_natCast, Int.reduceToNat, bz0, bz1, Nat.add_zero, decide_eq_false_iff_not, decide_eq_true_eq, Int.reduceEq, Nat.reduceEqDiff, Int.reduceLT, Int.reduceLE, not_true_eq_false, not_false_eq_true, ↓reduceIte]
    · refine MO.thr ?_
      rw [q_X12_open_0]
      simp (disch := first | (simp (disch := omega) only [w32_id]; omega) | omega) only [↓BM r1.1, m_nBx hx, m_t1 r1.1, e_clI, e_clV, e_clP, e_clIx, e_clVx, e_clPx, e_xt, Int.toNat_natCast, Int.reduceToNat, bz0, bz1, Nat.add_zero, decide_eq_false_iff_not, decide_eq_true_eq, Int.reduceEq, Nat.reduceEqDiff, Int.reduceLT, Int.reduceLE, not_true_eq_false, not_false_eq_true, ↓reduceIte]
      try rfl
theorem p_between (r : Rel h I) {x y : Int} : Pub h I (Cl sc (d + 30) mX11_between [Vr (some 0), Vi x, Vi y]) (Cl sc (d + 30) mX12_between [Vr (some 283), Vi x, Vi y]) cdA := by
  by_cases hx : 0 ≤ x ∧ x < 36
  · obtain ⟨b, rfl⟩ : ∃ b : Nat, x = b := ⟨x.toNat, by omega⟩
    by_cases hy : 0 ≤ y ∧ y < 36
    · obtain ⟨c, rfl⟩ : ∃ c : Nat, y = c := ⟨y.toNat, by omega⟩
      refine pubQ (x := 0) (v := bo b c) r (CO.ok ?_ (Same.rf I)) (fun h1 J1 r1 e1 => ?_) (fun _ => rfl)
      · rw [q_X11_between_0]
        simp (disch := first | (simp (disch := omega) only [w32_id]; omega) | omega) only [c_nC hx, c_nC hy, c_borderOf, e_clI, e_clV, e_clP, e_clIx, e_clVx, e_clPx, e_xt, Int.toNat_natCast, Int.reduceToNat, bz0, bz1, Nat.add_zero, decide_eq_false_iff_not, decide_eq_true_eq, Int.reduceEq, Nat.reduceEqDiff, Int.reduceLT, Int.reduceLE, not_true_eq_false, not_false_eq_true, ↓reduceIte]
      · refine MO.ok0 ?_
        rw [q_X12_between_0]
        simp (disch := first | (simp (disch := omega) only [w32_id]; omega) | omega) only [↓BM r1.1, m_nC hx, m_nC hy, m_t0 r1.1, c_mborderOf, e_clI, e_clV, e_clP, e_clIx, e_clVx, e_clPx, e_xt, Int.toNat_natCast, Int.reduceToNat, bz0, bz1, Nat.add_zero, decide_eq_false_iff_not, decide_eq_true_eq, Int.reduceEq, Nat.reduceEqDiff, Int.reduceLT, Int.reduceLE, not_true_eq_false, not_false_eq_true, ↓reduceIte]
        try rfl
    · skip
      refine pubQ (x := 3) (v := 0) (v' := 0) r (CO.no (J := I) (by decide) ?_ (Same.rf I)) (fun h1 J1 r1 e1 => ?_) (fun h => absurd h (by decide))
      · rw [q_X11_between_0]
        simp (disch := first | (simp (disch := omega) only [w32_id]; omega) | omega) only [c_nC hx, c_nCx hy, hI_exI, e_clI, e_clV, e_clP, e_clIx, e_clVx, e_clPx, e_xt, Int.toNat_natCast, Int.reduceToNat, bz0, bz1, Nat.add_zero, decide_eq_false_iff_not, decide_eq_true_eq, Int.reduceEq, Nat.reduceEqDiff, Int.reduceLT, Int.reduceLE, not_true_eq_false, not_false_eq_true, ↓reduceIte]
      · refine MO.thr ?_
        rw [q_X12_between_0]
        simp (disch := first | (simp (disch := omega) only [w32_id]; omega) | omega) only [↓BM r1.1, m_nC hx, m_nCx hy, m_t1 r1.1, e_clI, e_clV, e_clP, e_clIx, e_clVx, e_clPx, e_xt, Int.toNat_natCast, Int.reduceToNat, bz0, bz1, Nat.add_zero, decide_eq_false_iff_not, decide_eq_true_eq, Int.reduceEq, Nat.reduceEqDiff, Int.reduceLT, Int.reduceLE, not_true_eq_false, not_false_eq_true, ↓reduceIte]
        try rfl
  · skip
    refine pubQ (x := 3) (v := 0) (v' := 0) r (CO.no (J := I) (by decide) ?_ (Same.rf I)) (fun h1 J1 r1 e1 => ?_) (fun h => absurd h (by decide))
    · rw [q_X11_between_0]
      simp (disch := first | (simp (disch := omega) only [w32_id]; omega) | omega) only [c_nCx hx, hI_exI, e_clI, e_clV, e_clP, e_clIx, e_clVx, e_clPx, e_xt, Int.toNat_natCast, Int.reduceToNat, bz0, bz1, Nat.add_zero, decide_eq_false_iff_not, decide_eq_true_eq, Int.reduceEq, Nat.reduceEqDiff, Int.reduceLT, Int.reduceLE, not_true_eq_false, not_false_eq_true, ↓reduceIte]
    · refine MO.thr ?_
      rw [q_X12_between_0]
      simp (disch := first | (simp (disch := omega) only [w32_id]; omega) | omega) only [↓BM r1.1, m_nCx hx, m_t1 r1.1, e_clI, e_clV, e_clP, e_clIx, e_clVx, e_clPx, e_xt, Int.toNat_natCast, Int.reduceToNat, bz0, bz1, Nat.add_zero, decide_eq_false_iff_not, decide_eq_true_eq, Int.reduceEq, Nat.reduceEqDiff, Int.reduceLT, Int.reduceLE, not_true_eq_false, not_false_eq_true, ↓reduceIte]
      try rfl
theorem p_fault (r : Rel h I) : Pub h I (Cl sc (d + 30) mX11_fault [Vr (some 0)]) (Cl sc (d + 30) mX12_fault [Vr (some 283)]) cdA := by
  refine pubQ (x := 0) (v := I 283 14) r (CO.ok ?_ (Same.rf I)) (fun h1 J1 r1 e1 => ?_) (fun _ => rfl)
  · rw [q_X11_fault_0]
    simp (disch := first | (simp (disch := omega) only [w32_id]; omega) | omega) only [↓BO r.1, ↓BT r.1, r.2.2.2.2.1.2.2.2, e_clI, e_clV, e_clP, e_clIx, e_clVx, e_clPx, e_xt, Int.toNat_natCast, Int.reduceToNat, bz0, bz1, Nat.add_zero, decide_eq_false_iff_not, decide_eq_true_eq, Int.reduceEq, Nat.reduceEqDiff, Int.reduceLT, Int.reduceLE, not_true_eq_false, not_false_eq_true, ↓reduceIte]
  · refine MO.ok0 ?_
    rw [q_X12_fault_0]
    simp (disch := first | (simp (disch := omega) only [w32_id]; omega) | omega) only [↓BM r1.1, u2_jj, e1.m, e_clI, e_clV, e_clP, e_clIx, e_clVx, e_clPx, e_xt, Int.toNat_natCast, Int.reduceToNat, bz0, bz1, Nat.add_zero, decide_eq_false_iff_not, decide_eq_true_eq, Int.reduceEq, Nat.reduceEqDiff, Int.reduceLT, Int.reduceLE, not_true_eq_false, not_false_eq_true, ↓reduceIte]
    try rfl
theorem p_seedQ (r : Rel h I) : I 11 12 = I 284 6 := r.R.se
end
