/-! WALK -/
section
variable {sc : Nat × (Nat → Int)} {d a : Nat} {h : am_H} {I J : am_I} {w : am_Wd}
theorem m_in48 {y : Int} {h : am_H} (hy : 0 ≤ y ∧ y < 49) : Cl sc (d + 1) mX12_in [Vi y, Vi 0, Vi 48] h = some (.inl (Vi 1), h) := by
  rw [c_in, decide_eq_true (by omega)]; rfl
theorem m_in48x {y : Int} {h : am_H} (hy : ¬ (0 ≤ y ∧ y < 49)) : Cl sc (d + 1) mX12_in [Vi y, Vi 0, Vi 48] h = some (.inl (Vi 0), h) := by
  rw [c_in, decide_eq_false (by omega)]; rfl
theorem c_walking (s : Sh h) (c : Cty h a) (ha : a + 11 < 48) (R : CRep I a w) (V : WW w) {t : Int} {x y : Nat} (hx : x < 49) (hy : y < 49) : ∃ J F, (Ks I J ∧ Wk (fun b => toW w b t) x F) ∧ Cl sc (d + 6) mX7_walking [Vr (some 53), Vr (some a), Vi t, Vi (x : Int), Vi (y : Int)] (hI h I) = some (.inl (Vi (if F y < 1000000 then F y else -1)), hI h J) := by
  have hr := fo_run0 (F := fun i C => Ru sc (d + 6) mX7_walking 3 [Vr (some 53), Vr (some a), Vi t, Vi (x : Int), Vi (y : Int), Vi (i : Int)] [] (hI h (sr I 54 C))) (f := fun i C => up C i (if toA w t i = 1000000 then -1 else toA w t i)) (N := 60) (s0 := I 54) (fun i C hi => by
    have hlt : (i : Int) < 60 := by omega
    have R2 : CRep (sr I 54 C) a w := R.eq fun k hk => sr_ne (by omega)
    try dsimp only
    unfold toA
    rw [q_X7_walking_3]
    cases ho : toW w i t
    · simp (disch := first | (simp (disch := omega) only [w32_id]; omega) | omega) only [↓BW s, ↓BC c, hlt, c_isTop c R2 V hi, ho, u2_sr, w32_succ, Bool.false_eq_true, e_clI, e_clV, e_clP, e_clIx, e_clVx, e_clPx, e_xt, Int.toNat_natCast, Int.reduceToNat, bz0, bz1, Nat.add_zero, decide_eq_false_iff_not, decide_eq_true_eq, Int.reduceEq, Nat.reduceEqDiff, Int.reduceLT, Int.reduceLE, not_true_eq_false, not_false_eq_true, eq_self, ↓reduceIte]
    · simp (disch := first | (simp (disch := omega) only [w32_id]; omega) | omega) only [↓BW s, ↓BC c, hlt, c_isTop c R2 V hi, ho, u2_sr, w32_succ, Bool.true_eq_false, Int.reduceEq, e_clI, e_clV, e_clP, e_clIx, e_clVx, e_clPx, e_xt, Int.toNat_natCast, Int.reduceToNat, bz0, bz1, Nat.add_zero, decide_eq_false_iff_not, decide_eq_true_eq, Int.reduceEq, Nat.reduceEqDiff, Int.reduceLT, Int.reduceLE, not_true_eq_false, not_false_eq_true, eq_self, ↓reduceIte])
  rw [fo_row] at hr
  try dsimp only at hr
  rw [sr_self] at hr
  have e54 : ∀ b, b < 60 → (sr I 54 (fun u => if u < 60 then (if toA w t u = 1000000 then -1 else toA w t u) else I 54 u)) 54 b = (if toA w t b = 1000000 then -1 else toA w t b) := fun b hb => by
    rw [sr_q]
    exact if_pos hb
  generalize hJ : sr I 54 (fun u => if u < 60 then (if toA w t u = 1000000 then -1 else toA w t u) else I 54 u) = J at hr e54
  have hab : ∀ b, b < 60 → 0 ≤ toA w t b ∧ (toA w t b = 1000000 ∨ toA w t b ≤ 1000) := fun b hb => by
    unfold toA
    split <;> omega
  have hE : isE 1 lk mk 49 := Or.inr ⟨rfl, rfl, rfl, rfl⟩
  have hA := okC_of e54 hab
  have hc2 := adC_of e54 (fun b hb => (hab b hb).1)
  have ha9 : ∀ b, b < 60 → 0 ≤ adC J b := fun b hb => by rw [hc2 b hb]; exact (hab b hb).1
  have hi : ∀ u, u < 49 → from0 x (J 55) 49 u = ini x u := fun u hu => by
    unfold from0 ini
    by_cases h : u = x
    · rw [if_pos h, if_pos h]
    · rw [if_neg h, if_neg h, if_pos (by omega)]
  have hst := it_done (e1 := lk) (e2 := mk) (ad := adC J) (C := from0 x (J 55) 49) (n := 49) (by omega) hE.lt ha9 (fun u hu => by
    rw [hi u hu]
    exact ini_b.1) 48 (by omega)
  have hle : ∀ k u, it pl lk mk (adC J) k (from0 x (J 55) 49) u ≤ from0 x (J 55) 49 u := by
    intro k u
    induction k with
    | zero => exact Int.le_refl _
    | succ k ih => exact Int.le_trans (it_le u k) ih
  have hmax : ∀ G, stb pl lk mk (adC J) G → (∀ u, u < 49 → G u ≤ ini x u) → ∀ u, u < 49 → G u ≤ it pl lk mk (adC J) 48 (from0 x (J 55) 49) u := fun G hG hg u hu => it_ge mon_pl hE.lt hG (fun u hu => by rw [hi u hu]; exact hg u hu) 48 u hu
  have hsp := c_spread (sc := sc) (d := d) (I := J) s (s.T 55 rfl) (by decide) (by decide) hE (by decide) hA (c := x) hx
  refine ⟨sr J 55 (it pl lk mk (adC J) 48 (from0 x (J 55) 49)), it pl lk mk (adC J) 48 (from0 x (J 55) 49), ⟨?_, ?_⟩, ?_⟩
  · rw [← hJ]
    exact ((Ks.rf I).sr (by omega)).sr (by omega)
  · exact Wk_of hx (A := adC J) (fun b hb => by rw [hc2 b hb]; rfl) hst (fun u hu => hmax (fun _ => 0) (fun b hb => ⟨mon_pl.2 0 _ (ha9 b hb), mon_pl.2 0 _ (ha9 b hb)⟩) (fun u hu => ini_b.1) u hu) (fun u hu => by rw [← hi u hu]; exact hle 48 u) hmax
  · rw [q_X7_walking_0]
    refine hr.trans ?_
    have hlt : ¬ ((60 : Nat) : Int) < 60 := by omega
    rw [q_X7_walking_3]
    simp (disch := first | (simp (disch := omega) only [w32_id]; omega) | omega) only [↓BW s, hlt, hsp, sr_q, c_orNone7, e_clI, e_clV, e_clP, e_clIx, e_clVx, e_clPx, e_xt, Int.toNat_natCast, Int.reduceToNat, bz0, bz1, Nat.add_zero, decide_eq_false_iff_not, decide_eq_true_eq, Int.reduceEq, Nat.reduceEqDiff, Int.reduceLT, Int.reduceLE, not_true_eq_false, not_false_eq_true, eq_self, ↓reduceIte]
theorem p_walk (r : Rel h I) {x y t : Int} : Pub h I (Cl sc (d + 30) mX11_walk [Vr (some 0), Vi x, Vi y, Vi t]) (Cl sc (d + 30) mX12_walk [Vr (some 283), Vi x, Vi y, Vi t]) cdB := by
  have R := r.R
  have V := r.V
  by_cases hx : 0 ≤ x ∧ x < 49
  · by_cases hy : 0 ≤ y ∧ y < 49
    · by_cases ht : 0 ≤ t ∧ t ≤ 999
      · obtain ⟨u, rfl⟩ : ∃ u : Nat, x = u := ⟨x.toNat, by omega⟩
        obtain ⟨v, rfl⟩ : ∃ v : Nat, y = v := ⟨y.toNat, by omega⟩
        have hu : u < 49 := by omega
        have hv : v < 49 := by omega
        obtain ⟨J, F, ⟨k1, W⟩, k3⟩ := c_walking (sc := sc) (d := d + 23) (t := t) r.1 r.c (by omega) R V hu hv
        refine pubQ (x := 0) (v := if F v < 1000000 then F v else -1) (v' := if F v < 1000000 then F v else -1) r (CO.ok (J := J) ?_ k1.sm) (fun h1 J1 r1 e1 => ?_) (fun _ => rfl)
        · rw [q_X11_walk_0]
          simp (disch := first | (simp (disch := omega) only [w32_id]; omega) | omega) only [↓BO r.1, ↓BW r.1, c_nK hx, c_nK hy, c_nH ht, k3, e_clI, e_clV, e_clP, e_clIx, e_clVx, e_clPx, e_xt, Int.toNat_natCast, Int.reduceToNat, bz0, bz1, Nat.add_zero, decide_eq_false_iff_not, decide_eq_true_eq, Int.reduceEq, Nat.reduceEqDiff, Int.reduceLT, Int.reduceLE, not_true_eq_false, not_false_eq_true, eq_self, ↓reduceIte]
        · have e4 : am_u2 J1 283 0 0 284 = I 284 := by rw [w283, e1.w]
          obtain ⟨D, l, m5⟩ := m_walks (sc := sc) (d := d + 23) (I := am_u2 J1 283 0 0) (t := t) r1.1 hu (F := F) (by rw [e4]; exact W)
          have lv := l v hv
          have le := W.le hu hv
          have eD : D v = if F v < 1000000 then F v else -1 := by
            rw [lv]
            by_cases g : F v < 1000000
            · rw [if_pos (by have := le g; omega), if_pos g]
            · rw [if_neg (by omega), if_neg g]
          refine MO.okJ (J := sr (am_u2 J1 283 0 0) 298 D) ?_ (s283.tr (fun k j hk => congrFun (sr_ne (fun e => hk (by unfold scr; omega))) j)) (by rw [sr_ne (by decide)]; exact u2_same)
          rw [q_X12_walk_0]
          simp (disch := first | (simp (disch := omega) only [w32_id]; omega) | omega) only [↓BM r1.1, q_X12_walk_18, m_in48 hx, m_in48 hy, m_nH ht, m_t0 r1.1, m5, sr_q, eD, e_clI, e_clV, e_clP, e_clIx, e_clVx, e_clPx, e_xt, Int.toNat_natCast, Int.reduceToNat, bz0, bz1, Nat.add_zero, decide_eq_false_iff_not, decide_eq_true_eq, Int.reduceEq, Nat.reduceEqDiff, Int.reduceLT, Int.reduceLE, not_true_eq_false, not_false_eq_true, eq_self, ↓reduceIte]
      · skip
        refine pubQ (x := 1) (v := 0) (v' := 0) r (CO.no (J := I) (by decide) ?_ (Same.rf I)) (fun h1 J1 r1 e1 => ?_) (fun h => absurd h (by decide))
        · rw [q_X11_walk_0, c_nK hx, e_clV, c_nK hy, e_clV, c_nHx ht, e_clVx]
          simp (disch := first | (simp (disch := omega) only [w32_id]; omega) | omega) only [↓BO r.1, hI_exI, e_clI, e_clV, e_clP, e_clIx, e_clVx, e_clPx, e_xt, Int.toNat_natCast, Int.reduceToNat, bz0, bz1, Nat.add_zero, decide_eq_false_iff_not, decide_eq_true_eq, Int.reduceEq, Nat.reduceEqDiff, Int.reduceLT, Int.reduceLE, not_true_eq_false, not_false_eq_true, eq_self, ↓reduceIte]
        · refine MO.thr ?_
          rw [q_X12_walk_0]
          simp (disch := first | (simp (disch := omega) only [w32_id]; omega) | omega) only [↓BM r1.1, m_in48 hx, m_in48 hy, e_clI, e_clV, e_clP, e_clIx, e_clVx, e_clPx, e_xt, Int.toNat_natCast, Int.reduceToNat, bz0, bz1, Nat.add_zero, decide_eq_false_iff_not, decide_eq_true_eq, Int.reduceEq, Nat.reduceEqDiff, Int.reduceLT, Int.reduceLE, not_true_eq_false, not_false_eq_true, eq_self, ↓reduceIte]
          rw [q_X12_walk_18]
          simp (disch := first | (simp (disch := omega) only [w32_id]; omega) | omega) only [↓BM r1.1, m_nHx ht, m_t0 r1.1, m_t1 r1.1, e_clI, e_clV, e_clP, e_clIx, e_clVx, e_clPx, e_xt, Int.toNat_natCast, Int.reduceToNat, bz0, bz1, Nat.add_zero, decide_eq_false_iff_not, decide_eq_true_eq, Int.reduceEq, Nat.reduceEqDiff, Int.reduceLT, Int.reduceLE, not_true_eq_false, not_false_eq_true, eq_self, ↓reduceIte]
          try rfl
    · skip
      refine pubQ (x := 3) (v := 0) (v' := 0) r (CO.no (J := I) (by decide) ?_ (Same.rf I)) (fun h1 J1 r1 e1 => ?_) (fun h => absurd h (by decide))
      · rw [q_X11_walk_0, c_nK hx, e_clV, c_nKx hy, e_clVx]
        simp (disch := first | (simp (disch := omega) only [w32_id]; omega) | omega) only [↓BO r.1, hI_exI, e_clI, e_clV, e_clP, e_clIx, e_clVx, e_clPx, e_xt, Int.toNat_natCast, Int.reduceToNat, bz0, bz1, Nat.add_zero, decide_eq_false_iff_not, decide_eq_true_eq, Int.reduceEq, Nat.reduceEqDiff, Int.reduceLT, Int.reduceLE, not_true_eq_false, not_false_eq_true, eq_self, ↓reduceIte]
      · refine MO.thr ?_
        rw [q_X12_walk_0]
        simp (disch := first | (simp (disch := omega) only [w32_id]; omega) | omega) only [↓BM r1.1, m_in48 hx, m_in48x hy, e_clI, e_clV, e_clP, e_clIx, e_clVx, e_clPx, e_xt, Int.toNat_natCast, Int.reduceToNat, bz0, bz1, Nat.add_zero, decide_eq_false_iff_not, decide_eq_true_eq, Int.reduceEq, Nat.reduceEqDiff, Int.reduceLT, Int.reduceLE, not_true_eq_false, not_false_eq_true, eq_self, ↓reduceIte]
        rw [q_X12_walk_18]
        simp (disch := first | (simp (disch := omega) only [w32_id]; omega) | omega) only [↓BM r1.1, m_t1 r1.1, e_clI, e_clV, e_clP, e_clIx, e_clVx, e_clPx, e_xt, Int.toNat_natCast, Int.reduceToNat, bz0, bz1, Nat.add_zero, decide_eq_false_iff_not, decide_eq_true_eq, Int.reduceEq, Nat.reduceEqDiff, Int.reduceLT, Int.reduceLE, not_true_eq_false, not_false_eq_true, eq_self, ↓reduceIte]
        try rfl
  · skip
    refine pubQ (x := 3) (v := 0) (v' := 0) r (CO.no (J := I) (by decide) ?_ (Same.rf I)) (fun h1 J1 r1 e1 => ?_) (fun h => absurd h (by decide))
    · rw [q_X11_walk_0, c_nKx hx, e_clVx]
      simp (disch := first | (simp (disch := omega) only [w32_id]; omega) | omega) only [↓BO r.1, hI_exI, e_clI, e_clV, e_clP, e_clIx, e_clVx, e_clPx, e_xt, Int.toNat_natCast, Int.reduceToNat, bz0, bz1, Nat.add_zero, decide_eq_false_iff_not, decide_eq_true_eq, Int.reduceEq, Nat.reduceEqDiff, Int.reduceLT, Int.reduceLE, not_true_eq_false, not_false_eq_true, eq_self, ↓reduceIte]
    · refine MO.thr ?_
      rw [q_X12_walk_0]
      simp (disch := first | (simp (disch := omega) only [w32_id]; omega) | omega) only [↓BM r1.1, m_in48x hx, e_clI, e_clV, e_clP, e_clIx, e_clVx, e_clPx, e_xt, Int.toNat_natCast, Int.reduceToNat, bz0, bz1, Nat.add_zero, decide_eq_false_iff_not, decide_eq_true_eq, Int.reduceEq, Nat.reduceEqDiff, Int.reduceLT, Int.reduceLE, not_true_eq_false, not_false_eq_true, eq_self, ↓reduceIte]
      rw [q_X12_walk_18]
      simp (disch := first | (simp (disch := omega) only [w32_id]; omega) | omega) only [↓BM r1.1, m_t1 r1.1, e_clI, e_clV, e_clP, e_clIx, e_clVx, e_clPx, e_xt, Int.toNat_natCast, Int.reduceToNat, bz0, bz1, Nat.add_zero, decide_eq_false_iff_not, decide_eq_true_eq, Int.reduceEq, Nat.reduceEqDiff, Int.reduceLT, Int.reduceLE, not_true_eq_false, not_false_eq_true, eq_self, ↓reduceIte]
      try rfl
end
