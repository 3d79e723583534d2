/-! TRIALS: years that do not stay -/
def OK2 (w v : am_Wd) : Prop := WW v ∧ ML v ∧ T2 w v
theorem OK2.tr {w v u : am_Wd} (h : OK2 w v) (g : OK2 v u) : OK2 w u := ⟨g.1, g.2.1, h.2.2.tr g.2.2⟩
theorem OK2.mk {w v : am_Wd} (M : ML w) (V : WW v) (t : T2 w v) : OK2 w v := ⟨V, M.cg t.1 t.2, t⟩
theorem yGrow_ok {w : am_Wd} (V : WW w) (M : ML w) : OK2 w (yGrow w) := fo_inv (P := fun _ v => OK2 w v) ⟨V, M, T2.rf w⟩ (fun b v hb k => k.tr (OK2.mk k.2.1 (grown_w k.1 k.2.1 hb) (grown_t hb)))
theorem yFret_ok {w : am_Wd} (V : WW w) (M : ML w) : OK2 w (yFret w) := by
  have hF := V.fa
  exact fo_inv (P := fun _ v => OK2 w v) ⟨V, M, T2.rf w⟩ (fun f v hf k => k.tr (OK2.mk k.2.1 (fretted_w k.1 k.2.1 (by omega)) (fretted_t (by omega))))
theorem yQuar_ok {w : am_Wd} (V : WW w) (M : ML w) : OK2 w (yQuar w).1 := by
  have hF := V.fa
  exact fo_inv (P := fun _ (v : am_Wd × Int) => OK2 w v.1) ⟨V, M, T2.rf w⟩ (fun f v hf k => by
    have q := quar_w (f := f) k.1 (by omega)
    exact k.tr (OK2.mk k.2.1 q.1 q.2.1))
theorem yEnd_ok {w : am_Wd} (V : WW w) (M : ML w) : OK2 w (yEnd w) := OK2.mk M (yEnd_w V) yEnd_t
theorem oneY_ok {w : am_Wd} (V : WW w) (M : ML w) : OK2 w (oneY w).1 := by
  have a1 := yGrow_ok V M
  have a2 := a1.tr (yFret_ok a1.1 a1.2.1)
  have a3 := a2.tr (yQuar_ok a2.1 a2.2.1)
  exact a3.tr (yEnd_ok a3.1 a3.2.1)
theorem calmY_ok {w : am_Wd} (V : WW w) (M : ML w) : OK2 w (calmY w) := by
  have a1 := yGrow_ok V M
  have a2 := a1.tr (yFret_ok a1.1 a1.2.1)
  exact a2.tr (yEnd_ok a2.1 a2.2.1)
theorem goY_ok {w : am_Wd} (V : WW w) (M : ML w) {n : Nat} : OK2 w (goY w n).1 := fo_inv (P := fun _ (v : am_Wd × Int) => OK2 w v.1) ⟨V, M, T2.rf w⟩ (fun i v hi k => k.tr (oneY_ok k.1 k.2.1))
theorem goC_ok {w : am_Wd} (V : WW w) (M : ML w) {n : Nat} : OK2 w (goC w n) := fo_inv (P := fun _ v => OK2 w v) ⟨V, M, T2.rf w⟩ (fun i v hi k => k.tr (calmY_ok k.1 k.2.1))
theorem Cg.s23 {I J : am_I} (g : Cg 23 I J) : Same I J := fun k j hk => by
  rw [g k (by unfold scr at hk; omega) (by unfold scr at hk; omega)]
section
variable {sc : Nat × (Nat → Int)} {d a b n f : Nat} {h h1 h2 : am_H} {I J J1 J2 K : am_I} {w v : am_Wd} {y : Int}
theorem isC_23 : isC 23 := Or.inr (Or.inl rfl)
/-- the draft is laid -/
theorem c_draft (s : Sh h) (S : St h I 11 w) (B : BBo I 11) : ∃ h1 J1, (QQ h I h1 J1 ∧ St h1 J1 23 w ∧ hC h1 = hC h ∧ hS h1 = hS h) ∧ Sh h1 ∧ Cl sc (d + 2) mX0_copyFrom [Vr (some 23), Vr (some 11)] (hI h I) = some (.inl (Vx 0), hI h1 J1) := by
  obtain ⟨J, ⟨j1, j2, j3⟩, j4⟩ := c_copyFrom (sc := sc) (d := d) (a := 23) (b := 11) s isC_23 isC_now (by omega) S.2.1 S.1 B
  have g : Cg 23 I J := fun p hp _ => j1 p hp
  refine ⟨wP h 23 14 (rP h 11 14), J, ⟨⟨g.s23, rfl, rfl, fun p j hp => rP_w14n hp⟩, ⟨j2, S.2.1, ?_⟩, rfl, rfl⟩, s.w14 isC_23, j4⟩
  exact S.2.2.mv rfl (Nat.le_refl _) rP_w14 (fun p j hp => rP_w14n (by omega)) (fun n k hk => by rw [j1 _ (by omega)])
theorem m_keepsAll (s : Sh h) : Cl sc (d + 1) mX12_keepsAll [Vr (some 283)] (hI h J) = some (.inl (Vx 0), hI h (sr J 287 (fun j => if j < 631 then J 284 (0 + j) else J 287 j))) := by
  rw [q_X12_keepsAll_0]
  refine (m_lay (h := h) (J := J) (m := 287) (q := 284) (o := 0) (N := 631) (L := fun i hh => Ru sc (d + 1) mX12_keepsAll 3 [Vr (some 283), Vi (i : Int)] [] hh) (by decide) (fun i K hi kq k283 => by
    obtain ⟨wn, l1, l2⟩ := ar_3 (Nat.lt_trans hi (by decide))
    have l3 : (i : Int) < 631 := Int.ofNat_lt.mpr hi
    rw [Nat.zero_add] at kq
    rw [Nat.zero_add]
    try dsimp only
    rw [q_X12_keepsAll_3]
    simp (disch := first | assumption | exact Int.natCast_nonneg _ | decide) only [↓BM s, l3, l2, wn, kq, e_clI, e_clV, e_clP, e_clIx, e_clVx, e_clPx, e_xt, Int.toNat_natCast, Int.reduceToNat, bz0, bz1, Nat.add_zero, decide_eq_false_iff_not, decide_eq_true_eq, Int.reduceEq, Nat.reduceEqDiff, Int.reduceLT, Int.reduceLE, not_true_eq_false, not_false_eq_true, eq_self, ↓reduceIte]) (by decide) (by decide)).trans ?_
  try dsimp only
  rw [q_X12_keepsAll_3, if_neg (by omega)]
theorem m_bringsBack (s : Sh h) : Cl sc (d + 1) mX12_bringsBack [Vr (some 283)] (hI h J) = some (.inl (Vx 0), hI h (sr J 284 (fun j => if j < 631 then J 287 (0 + j) else J 284 j))) := by
  rw [q_X12_bringsBack_0]
  refine (m_lay (h := h) (J := J) (m := 284) (q := 287) (o := 0) (N := 631) (L := fun i hh => Ru sc (d + 1) mX12_bringsBack 3 [Vr (some 283), Vi (i : Int)] [] hh) (by decide) (fun i K hi kq k283 => by
    obtain ⟨wn, l1, l2⟩ := ar_3 (Nat.lt_trans hi (by decide))
    have l3 : (i : Int) < 631 := Int.ofNat_lt.mpr hi
    rw [Nat.zero_add] at kq
    rw [Nat.zero_add]
    try dsimp only
    rw [q_X12_bringsBack_3]
    simp (disch := first | assumption | exact Int.natCast_nonneg _ | decide) only [↓BM s, l3, l2, wn, kq, e_clI, e_clV, e_clP, e_clIx, e_clVx, e_clPx, e_xt, Int.toNat_natCast, Int.reduceToNat, bz0, bz1, Nat.add_zero, decide_eq_false_iff_not, decide_eq_true_eq, Int.reduceEq, Nat.reduceEqDiff, Int.reduceLT, Int.reduceLE, not_true_eq_false, not_false_eq_true, eq_self, ↓reduceIte]) (by decide) (by decide)).trans ?_
  try dsimp only
  rw [q_X12_bringsBack_3, if_neg (by omega)]
/-- behind a trial all is as it was -/
theorem trial_same (g0 : K 287 = (fun j => if j < 631 then J 284 (0 + j) else J 287 j)) (g1 : ∀ p, p ≠ 284 → p ≠ 287 → p ≠ 291 → K p = J p) (t : ∀ j, 631 ≤ j → K 284 j = J 284 j) : Same J (sr K 284 (fun j => if j < 631 then K 287 (0 + j) else K 284 j)) ∧ sr K 284 (fun j => if j < 631 then K 287 (0 + j) else K 284 j) 284 = J 284 ∧ sr K 284 (fun j => if j < 631 then K 287 (0 + j) else K 284 j) 287 = K 287 ∧ ∀ p, p ≠ 284 → p ≠ 287 → p ≠ 291 → sr K 284 (fun j => if j < 631 then K 287 (0 + j) else K 284 j) p = J p := by
  have e : sr K 284 (fun j => if j < 631 then K 287 (0 + j) else K 284 j) 284 = J 284 := by
    rw [sr_q]
    funext j
    rw [g0]
    try dsimp only
    by_cases hj : j < 631
    · rw [if_pos hj, if_pos (by omega), Nat.zero_add, Nat.zero_add]
    · rw [if_neg hj]
      exact t j (by omega)
  refine ⟨fun k j hk => ?_, e, sr_ne (by decide), fun p h1 h2 h3 => (sr_ne h1).trans (g1 p h1 h2 h3)⟩
  by_cases h1 : k = 284
  · rw [h1, e]
  · rw [sr_ne h1, g1 k h1 (by unfold scr at hk; omega) (by unfold scr at hk; omega)]
theorem m_nA {z : Int} {h : am_H} (hz : 0 ≤ z ∧ z ≤ 100) : Cl sc (d + 2) mX12_noAhead [Vi z] h = some (.inl (Vi 0), h) := by
  have : Cl sc (d + 1) mX12_in [Vi z, Vi 0, Vi 100] h = some (.inl (Vi 1), h) := by
    rw [c_in, decide_eq_true (by omega)]
    rfl
  rw [q_X12_noAhead_0]
  simp (disch := first | assumption | exact Int.natCast_nonneg _ | decide) only [this, e_clI, e_clV, e_clP, e_clIx, e_clVx, e_clPx, e_xt, Int.toNat_natCast, Int.reduceToNat, bz0, bz1, Nat.add_zero, decide_eq_false_iff_not, decide_eq_true_eq, Int.reduceEq, Nat.reduceEqDiff, Int.reduceLT, Int.reduceLE, not_true_eq_false, not_false_eq_true, eq_self, ↓reduceIte]
theorem m_nAx {z : Int} {h : am_H} (hz : ¬ (0 ≤ z ∧ z ≤ 100)) : Cl sc (d + 2) mX12_noAhead [Vi z] h = some (.inl (Vi 1), h) := by
  have : Cl sc (d + 1) mX12_in [Vi z, Vi 0, Vi 100] h = some (.inl (Vi 0), h) := by
    rw [c_in, decide_eq_false (by omega)]
    rfl
  rw [q_X12_noAhead_0]
  simp (disch := first | assumption | exact Int.natCast_nonneg _ | decide) only [this, e_clI, e_clV, e_clP, e_clIx, e_clVx, e_clPx, e_xt, Int.toNat_natCast, Int.reduceToNat, bz0, bz1, Nat.add_zero, decide_eq_false_iff_not, decide_eq_true_eq, Int.reduceEq, Nat.reduceEqDiff, Int.reduceLT, Int.reduceLE, not_true_eq_false, not_false_eq_true, eq_self, ↓reduceIte]
theorem p_trial (r : Rel h I) (B : BBo I 11) {x : Int} : Pub h I (Cl sc (d + 30) mX11_trial [Vr (some 0), Vi x, Vi y]) (Cl sc (d + 30) mX12_trial [Vr (some 283), Vi x, Vi y]) cdA := by
  by_cases hx : 0 ≤ x ∧ x ≤ 100
  · obtain ⟨n, rfl⟩ : ∃ n : Nat, x = n := ⟨x.toNat, by omega⟩
    obtain ⟨h1, J1, ⟨q1, S1, hc, hs⟩, s1, c1⟩ := c_draft (sc := sc) (d := d + 27) r.1 r.2.1 B
    have cy := cty_of s1 isC_23
    obtain ⟨K, ⟨k1, k2, k3⟩, k4⟩ := c_passYears (sc := sc) (d := d + 23) (a := 23) (h := h1) (I := J1) cy (by decide) S1 (n := n) (by omega)
    have q2 : QQ h I h1 K := q1.tr (QQ.of k1.s23)
    have f1 := c_fences (sc := sc) (d := d + 28) (h := h1) (I := K) cy k2.1 k2.2.1
    have f2 := c_highTogether (sc := sc) (d := d + 28) (h := h1) (I := K) cy k2.1 k2.2.1
    have ok := goY_ok (n := n) r.V r.2.1.2.2.ml
    refine pubQ (x := 0) (v := sumF (goY (I 284) n).1 (if y = 0 then 0 else 2)) (v' := sumF (goY (I 284) n).1 (if y = 0 then 0 else 2)) r ⟨h1, K, ?_, q2, by unfold Bd; omega⟩ (fun h3 J3 r3 e3 => ?_) (fun _ => rfl)
    · show Cl sc (d + 30) mX11_trial [Vr (some 0), Vi (n : Int), Vi y] (hI h I) = some (.inl (Vi (sumF (goY (I 284) n).1 (if y = 0 then 0 else 2))), hI h1 K)
      rw [q_X11_trial_0]
      by_cases hy : y = 0
      · rw [if_pos hy]
        simp (disch := first | assumption | exact Int.natCast_nonneg _ | decide) only [↓BO r.1, c_nY hx, ↓BC (cty_of r.1 isC_23), c1, ↓BO s1, ↓BC cy, k4, hy, f1, e_clI, e_clV, e_clP, e_clIx, e_clVx, e_clPx, e_xt, Int.toNat_natCast, Int.reduceToNat, bz0, bz1, Nat.add_zero, decide_eq_false_iff_not, decide_eq_true_eq, Int.reduceEq, Nat.reduceEqDiff, Int.reduceLT, Int.reduceLE, not_true_eq_false, not_false_eq_true, eq_self, ↓reduceIte]
      · rw [if_neg hy]
        simp (disch := first | assumption | exact Int.natCast_nonneg _ | decide) only [↓BO r.1, c_nY hx, ↓BC (cty_of r.1 isC_23), c1, ↓BO s1, ↓BC cy, k4, hy, f2, e_clI, e_clV, e_clP, e_clIx, e_clVx, e_clPx, e_xt, Int.toNat_natCast, Int.reduceToNat, bz0, bz1, Nat.add_zero, decide_eq_false_iff_not, decide_eq_true_eq, Int.reduceEq, Nat.reduceEqDiff, Int.reduceLT, Int.reduceLE, not_true_eq_false, not_false_eq_true, eq_self, ↓reduceIte]
    · have ka := m_keepsAll (sc := sc) (d := d + 28) (h := h3) (J := am_u2 J3 283 0 0) r3.1
      have e4 : am_u2 J3 283 0 0 284 = I 284 := by rw [w283, e3.w]
      obtain ⟨K2, ⟨g1, g2, -⟩, g3⟩ := m_goesOn (sc := sc) (d := d + 20) (h := h3) (I := sr (am_u2 J3 283 0 0) 287 (fun j => if j < 631 then am_u2 J3 283 0 0 284 (0 + j) else am_u2 J3 283 0 0 287 j)) (w := I 284) r3.1 ⟨by rw [sr_ne (by decide), e4], r.V, r.2.1.2.2.ml⟩ (n := n) (by omega)
      obtain ⟨t1, t2, t3, t4⟩ := trial_same (K := K2) (J := am_u2 J3 283 0 0) (by rw [g1 287 (by decide) (by decide), sr_q]) (fun p h1 h2 h3 => by rw [g1 p h1 h3, sr_ne h2]) (fun j hj => by rw [g2.1, e4, ok.2.2.2 j hj])
      have bb := m_bringsBack (sc := sc) (d := d + 28) (h := h3) (J := K2) r3.1
      have sm0 := m_sumOfFences (sc := sc) (d := d + 26) (h := h3) (I := K2) r3.1 (by rw [g2.1]; exact ok.1) (k := 0) (by omega)
      have sm2 := m_sumOfFences (sc := sc) (d := d + 26) (h := h3) (I := K2) r3.1 (by rw [g2.1]; exact ok.1) (k := 2) (by omega)
      rw [g2.1] at sm0 sm2
      have sm0 : Cl sc (d + 29) mX12_sumOfFences [Vr (some 283), Vi 0] (hI h3 K2) = some (.inl (Vi (sumF (goY (I 284) n).1 0)), hI h3 K2) := sm0
      have sm2 : Cl sc (d + 29) mX12_sumOfFences [Vr (some 283), Vi 2] (hI h3 K2) = some (.inl (Vi (sumF (goY (I 284) n).1 2)), hI h3 K2) := sm2
      refine MO.okJ (J := sr K2 284 (fun j => if j < 631 then K2 287 (0 + j) else K2 284 j)) ?_ (s283.tr t1) (by rw [t4 283 (by decide) (by decide) (by decide)]; exact u2_same)
      rw [q_X12_trial_0]
      by_cases hy : y = 0
      · rw [if_pos hy]
        simp (disch := first | assumption | exact Int.natCast_nonneg _ | decide) only [↓BM r3.1, m_nA hx, m_t0 r3.1, ka, g3, hy, sm0, bb, e_clI, e_clV, e_clP, e_clIx, e_clVx, e_clPx, e_xt, Int.toNat_natCast, Int.reduceToNat, bz0, bz1, Nat.add_zero, decide_eq_false_iff_not, decide_eq_true_eq, Int.reduceEq, Nat.reduceEqDiff, Int.reduceLT, Int.reduceLE, not_true_eq_false, not_false_eq_true, eq_self, ↓reduceIte]
      · rw [if_neg hy]
        simp (disch := first | assumption | exact Int.natCast_nonneg _ | decide) only [↓BM r3.1, m_nA hx, m_t0 r3.1, ka, g3, hy, sm2, bb, e_clI, e_clV, e_clP, e_clIx, e_clVx, e_clPx, e_xt, Int.toNat_natCast, Int.reduceToNat, bz0, bz1, Nat.add_zero, decide_eq_false_iff_not, decide_eq_true_eq, Int.reduceEq, Nat.reduceEqDiff, Int.reduceLT, Int.reduceLE, not_true_eq_false, not_false_eq_true, eq_self, ↓reduceIte]
  · skip
    refine pubQ (x := 1) (v := 0) (v' := 0) r (CO.no (J := I) (by decide) ?_ (Same.rf I)) (fun h1 J1 r1 e1 => ?_) (fun h => absurd h (by decide))
    · rw [q_X11_trial_0]
      simp (disch := first | (simp (disch := omega) only [w32_id]; omega) | omega) only [c_nYx hx, hI_exI, e_clI, e_clV, e_clP, e_clIx, e_clVx, e_clPx, e_xt, Int.toNat_natCast, Int.reduceToNat, bz0, bz1, Nat.add_zero, decide_eq_false_iff_not, decide_eq_true_eq, Int.reduceEq, Nat.reduceEqDiff, Int.reduceLT, Int.reduceLE, not_true_eq_false, not_false_eq_true, eq_self, ↓reduceIte]
    · refine MO.thr ?_
      rw [q_X12_trial_0]
      simp (disch := first | (simp (disch := omega) only [w32_id]; omega) | omega) only [↓BM r1.1, m_nAx hx, m_t1 r1.1, e_clI, e_clV, e_clP, e_clIx, e_clVx, e_clPx, e_xt, Int.toNat_natCast, Int.reduceToNat, bz0, bz1, Nat.add_zero, decide_eq_false_iff_not, decide_eq_true_eq, Int.reduceEq, Nat.reduceEqDiff, Int.reduceLT, Int.reduceLE, not_true_eq_false, not_false_eq_true, eq_self, ↓reduceIte]
      try rfl
end
