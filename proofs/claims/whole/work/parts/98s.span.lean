/-! SPANS -/
def spV (w : am_Wd) (n s : Nat) : Int := sumF (goY (up w 6 (s : Int)) n).1 0
def spB (w : am_Wd) (n : Nat) (y : Int) : Nat → Int
  | 0 => -1
  | k + 1 => if spB w n y k = -1 then spV w n (k + 1) else if y = 0 then min (spB w n y k) (spV w n (k + 1)) else max (spB w n y k) (spV w n (k + 1))
theorem i32_s {s : Nat} (hs : s ≤ 6) : i32 (s : Int) := by
  unfold i32
  omega
theorem spV_b {w : am_Wd} (V : WW w) (M : ML w) {n s : Nat} (hs : s ≤ 6) : 0 ≤ spV w n s := by
  have t : T2 w (up w 6 (s : Int)) := (T2.rf w).up (by decide) (by decide)
  have ok := goY_ok (n := n) (up6_w V (i32_s hs)) (M.cg t.1 t.2)
  exact (sumF_b ok.1 (k := 0) (n := 60) (by decide) (by decide)).1
theorem spB_b {w : am_Wd} (V : WW w) (M : ML w) {n : Nat} {y : Int} : ∀ k, k ≤ 6 → spB w n y k = -1 ∨ 0 ≤ spB w n y k
  | 0, _ => Or.inl rfl
  | k + 1, hk => by
    have ih := spB_b V M (n := n) (y := y) k (by omega)
    have hv := spV_b V M (n := n) (s := k + 1) hk
    have e : spB w n y (k + 1) = if spB w n y k = -1 then spV w n (k + 1) else if y = 0 then min (spB w n y k) (spV w n (k + 1)) else max (spB w n y k) (spV w n (k + 1)) := rfl
    rw [e]
    generalize spB w n y k = b at ih ⊢
    generalize spV w n (k + 1) = v at hv ⊢
    refine Or.inr ?_
    split
    · exact hv
    · split <;> omega
section
variable {sc : Nat × (Nat → Int)} {d a b n f : Nat} {h h1 h2 : am_H} {I J J1 J2 K : am_I} {w v : am_Wd} {y : Int}
theorem c_spanLoop (s : Sh h) (S : St h I 11 w) (B : BBo I 11) (hn : n ≤ 100) : ∀ k, k ≤ 6 → ∃ h1 J1 u, (QQ h I h1 J1 ∧ hC h1 = hC h ∧ hS h1 = hS h) ∧ Sh h1 ∧ Ru sc (d + 30) mX11_span 7 [Vr (some 0), Vi (n : Int), Vi y, Vi (-1), Vi 1, Vx 0] [] (hI h I) = Ru sc (d + 30) mX11_span 7 [Vr (some 0), Vi (n : Int), Vi y, Vi (spB w n y k), Vi ((k + 1 : Nat) : Int), u] [] (hI h1 J1) := by
  intro k
  induction k with
  | zero => exact fun _ => ⟨h, I, Vx 0, ⟨QQ.rf h I, rfl, rfl⟩, s, rfl⟩
  | succ k ih =>
    intro hk
    obtain ⟨h1, J1, u, ⟨q1, hc, hs⟩, s1, c1⟩ := ih (by omega)
    have S1 : St h1 J1 11 w := S.same q1 isK_now (by decide)
    have B1 : BBo J1 11 := fun i hi => by
      rw [q1.1.cty isK_now (k := 1) (by decide), q1.1.cty isK_now (k := 4) (by decide), q1.1.cty isK_now (k := 5) (by decide)]
      exact B i hi
    obtain ⟨h2, J2, ⟨q2, S2, hc2, hs2⟩, s2, c2⟩ := c_draft (sc := sc) (d := d + 27) s1 S1 B1
    have cy := cty_of s2 isC_23
    have g := u12 (x := ((k + 1 : Nat) : Int)) cy S2.1 S2.2.1
    have t : T2 w (up w 6 ((k + 1 : Nat) : Int)) := (T2.rf _).up (by decide) (by decide)
    have S3 := S2.go (by decide) g.1 g.2 (up6_w S2.2.1 (i32_s hk)) t
    obtain ⟨K, ⟨k1, k2, k3⟩, k4⟩ := c_passYears (sc := sc) (d := d + 23) (a := 23) (h := h2) cy (by decide) S3 (n := n) hn
    have f1 := c_fences (sc := sc) (d := d + 28) (h := h2) (I := K) cy k2.1 k2.2.1
    have q3 : QQ h1 J1 h2 K := (q2.tr (QQ.of g.1.s23)).tr (QQ.of k1.s23)
    have l1 : ¬ 6 < ((k + 1 : Nat) : Int) := by omega
    have wn : w32 (((k + 1 : Nat) : Int) + 1) = ((k + 1 + 1 : Nat) : Int) := w32_succ (by omega)
    have e : spB w n y (k + 1) = if spB w n y k = -1 then spV w n (k + 1) else if y = 0 then min (spB w n y k) (spV w n (k + 1)) else max (spB w n y k) (spV w n (k + 1)) := rfl
    have f1 : Cl sc (d + 29) mX0_fences [Vr (some 23)] (hI h2 K) = some (.inl (Vi (spV w n (k + 1))), hI h2 K) := f1
    refine ⟨h2, K, Vi (spV w n (k + 1)), ⟨q1.tr q3, hc2.trans hc, hs2.trans hs⟩, s2, c1.trans ?_⟩
    rw [q_X11_span_7]
    rw [e]
    generalize spB w n y k = bb
    generalize spV w n (k + 1) = vv at f1 ⊢
    by_cases b1 : bb = -1
    · rw [if_pos b1]
      simp (disch := first | assumption | exact Int.natCast_nonneg _ | decide) only [↓BO s1, ↓BC (cty_of s1 isC_23), c2, ↓BO s2, ↓BC cy, l1, k4, f1, b1, wn, e_clI, e_clV, e_clP, e_clIx, e_clVx, e_clPx, e_xt, Int.toNat_natCast, Int.reduceToNat, bz0, bz1, Nat.add_zero, decide_eq_false_iff_not, decide_eq_true_eq, Int.reduceEq, Nat.reduceEqDiff, Int.reduceLT, Int.reduceLE, not_true_eq_false, not_false_eq_true, eq_self, ↓reduceIte]
    · rw [if_neg b1]
      by_cases b2 : y = 0
      · rw [if_pos b2]
        by_cases b3 : vv < bb
        · rw [Int.min_eq_right (by omega)]
          simp (disch := first | assumption | exact Int.natCast_nonneg _ | decide) only [↓BO s1, ↓BC (cty_of s1 isC_23), c2, ↓BO s2, ↓BC cy, l1, k4, f1, b1, b2, b3, wn, e_clI, e_clV, e_clP, e_clIx, e_clVx, e_clPx, e_xt, Int.toNat_natCast, Int.reduceToNat, bz0, bz1, Nat.add_zero, decide_eq_false_iff_not, decide_eq_true_eq, Int.reduceEq, Nat.reduceEqDiff, Int.reduceLT, Int.reduceLE, not_true_eq_false, not_false_eq_true, eq_self, ↓reduceIte]
        · rw [Int.min_eq_left (by omega)]
          simp (disch := first | assumption | exact Int.natCast_nonneg _ | decide) only [↓BO s1, ↓BC (cty_of s1 isC_23), c2, ↓BO s2, ↓BC cy, l1, k4, f1, b1, b2, b3, wn, e_clI, e_clV, e_clP, e_clIx, e_clVx, e_clPx, e_xt, Int.toNat_natCast, Int.reduceToNat, bz0, bz1, Nat.add_zero, decide_eq_false_iff_not, decide_eq_true_eq, Int.reduceEq, Nat.reduceEqDiff, Int.reduceLT, Int.reduceLE, not_true_eq_false, not_false_eq_true, eq_self, ↓reduceIte]
      · rw [if_neg b2]
        by_cases b3 : bb < vv
        · rw [Int.max_eq_right (by omega)]
          simp (disch := first | assumption | exact Int.natCast_nonneg _ | decide) only [↓BO s1, ↓BC (cty_of s1 isC_23), c2, ↓BO s2, ↓BC cy, l1, k4, f1, b1, b2, b3, wn, e_clI, e_clV, e_clP, e_clIx, e_clVx, e_clPx, e_xt, Int.toNat_natCast, Int.reduceToNat, bz0, bz1, Nat.add_zero, decide_eq_false_iff_not, decide_eq_true_eq, Int.reduceEq, Nat.reduceEqDiff, Int.reduceLT, Int.reduceLE, not_true_eq_false, not_false_eq_true, eq_self, ↓reduceIte]
        · rw [Int.max_eq_left (by omega)]
          simp (disch := first | assumption | exact Int.natCast_nonneg _ | decide) only [↓BO s1, ↓BC (cty_of s1 isC_23), c2, ↓BO s2, ↓BC cy, l1, k4, f1, b1, b2, b3, wn, e_clI, e_clV, e_clP, e_clIx, e_clVx, e_clPx, e_xt, Int.toNat_natCast, Int.reduceToNat, bz0, bz1, Nat.add_zero, decide_eq_false_iff_not, decide_eq_true_eq, Int.reduceEq, Nat.reduceEqDiff, Int.reduceLT, Int.reduceLE, not_true_eq_false, not_false_eq_true, eq_self, ↓reduceIte]
theorem m_spanLoop (s : Sh h) (V : WW w) (M : ML w) (e4 : J 284 = w) (hn : n ≤ 100) : ∀ k, k ≤ 6 → ∃ K u, (K 287 = (fun j => if j < 631 then J 284 (0 + j) else J 287 j) ∧ K 284 = w ∧ ∀ p, p ≠ 284 → p ≠ 287 → p ≠ 291 → K p = J p) ∧ Ru sc (d + 30) mX12_span 18 [Vr (some 283), Vi (n : Int), Vi y, Vi (-1), Vi 1, Vx 0] [] (hI h (sr J 287 (fun j => if j < 631 then J 284 (0 + j) else J 287 j))) = Ru sc (d + 30) mX12_span 18 [Vr (some 283), Vi (n : Int), Vi y, Vi (spB w n y k), Vi ((k + 1 : Nat) : Int), u] [] (hI h K) := by
  intro k
  induction k with
  | zero => exact fun _ => ⟨_, Vx 0, ⟨sr_q, by rw [sr_ne (by decide), e4], fun p h1 h2 h3 => sr_ne h2⟩, rfl⟩
  | succ k ih =>
    intro hk
    obtain ⟨K, u, ⟨k1, k2, k3⟩, c1⟩ := ih (by omega)
    have t : T2 w (up w 6 ((k + 1 : Nat) : Int)) := (T2.rf _).up (by decide) (by decide)
    have V2 := up6_w V (i32_s hk)
    have M2 := M.cg t.1 t.2
    have ok := goY_ok (n := n) V2 M2
    obtain ⟨K2, ⟨g1, g2, -⟩, g3⟩ := m_goesOn (sc := sc) (d := d + 20) (h := h) (I := am_u2 K 284 6 ((k + 1 : Nat) : Int)) (w := up w 6 ((k + 1 : Nat) : Int)) s ⟨by rw [u2_up, k2], V2, M2⟩ (n := n) hn
    have e2 : ∀ p, p ≠ 284 → p ≠ 291 → K2 p = K p := fun p h1 h3 => by rw [g1 p h1 h3, u2_o h1]
    obtain ⟨t1, t2, t3, t4⟩ := trial_same (K := K2) (J := J) (by rw [e2 287 (by decide) (by decide), k1]) (fun p h1 h2 h3 => by rw [e2 p h1 h3, k3 p h1 h2 h3]) (fun j hj => by rw [g2.1, e4, ok.2.2.2 j hj, t.2 j hj])
    have bb := m_bringsBack (sc := sc) (d := d + 28) (h := h) (J := K2) s
    have sm := m_sumOfFences (sc := sc) (d := d + 26) (h := h) (I := K2) s (by rw [g2.1]; exact ok.1) (k := 0) (by omega)
    rw [g2.1] at sm
    have sm : Cl sc (d + 29) mX12_sumOfFences [Vr (some 283), Vi 0] (hI h K2) = some (.inl (Vi (spV w n (k + 1))), hI h K2) := sm
    have l1 : ¬ 6 < ((k + 1 : Nat) : Int) := by omega
    have l6 : (6 : Int) < 2329 := by decide
    have l0 : (0 : Int) ≤ 6 := by decide
    have wn : w32 (((k + 1 : Nat) : Int) + 1) = ((k + 1 + 1 : Nat) : Int) := w32_succ (by omega)
    have e : spB w n y (k + 1) = if spB w n y k = -1 then spV w n (k + 1) else if y = 0 then min (spB w n y k) (spV w n (k + 1)) else max (spB w n y k) (spV w n (k + 1)) := rfl
    have hb := spB_b V M (n := n) (y := y) k (by omega)
    refine ⟨_, Vi (spV w n (k + 1)), ⟨t3.trans (by rw [e2 287 (by decide) (by decide), k1]), by rw [t2, e4], t4⟩, c1.trans ?_⟩
    rw [q_X12_span_18]
    rw [e]
    generalize spB w n y k = bb9 at hb ⊢
    generalize spV w n (k + 1) = vv at sm ⊢
    by_cases b1 : bb9 = -1
    · have b0 : bb9 < 0 := by omega
      rw [if_pos b1]
      simp (disch := first | assumption | exact Int.natCast_nonneg _ | decide) only [↓BM s, l1, l6, l0, g3, sm, bb, b0, wn, e_clI, e_clV, e_clP, e_clIx, e_clVx, e_clPx, e_xt, Int.toNat_natCast, Int.reduceToNat, bz0, bz1, Nat.add_zero, decide_eq_false_iff_not, decide_eq_true_eq, Int.reduceEq, Nat.reduceEqDiff, Int.reduceLT, Int.reduceLE, not_true_eq_false, not_false_eq_true, eq_self, ↓reduceIte]
    · have b0 : ¬ bb9 < 0 := by omega
      rw [if_neg b1]
      by_cases b2 : y = 0
      · rw [if_pos b2]
        simp (disch := first | assumption | exact Int.natCast_nonneg _ | decide) only [↓BM s, l1, l6, l0, g3, sm, bb, b0, b2, c_min, wn, e_clI, e_clV, e_clP, e_clIx, e_clVx, e_clPx, e_xt, Int.toNat_natCast, Int.reduceToNat, bz0, bz1, Nat.add_zero, decide_eq_false_iff_not, decide_eq_true_eq, Int.reduceEq, Nat.reduceEqDiff, Int.reduceLT, Int.reduceLE, not_true_eq_false, not_false_eq_true, eq_self, ↓reduceIte]
      · rw [if_neg b2]
        simp (disch := first | assumption | exact Int.natCast_nonneg _ | decide) only [↓BM s, l1, l6, l0, g3, sm, bb, b0, b2, c_max, wn, e_clI, e_clV, e_clP, e_clIx, e_clVx, e_clPx, e_xt, Int.toNat_natCast, Int.reduceToNat, bz0, bz1, Nat.add_zero, decide_eq_false_iff_not, decide_eq_true_eq, Int.reduceEq, Nat.reduceEqDiff, Int.reduceLT, Int.reduceLE, not_true_eq_false, not_false_eq_true, eq_self, ↓reduceIte]
theorem p_span (r : Rel h I) (B : BBo I 11) {x : Int} : Pub h I (Cl sc (d + 30) mX11_span [Vr (some 0), Vi x, Vi y]) (Cl sc (d + 30) mX12_span [Vr (some 283), Vi x, Vi y]) cdA := by
  by_cases hx : 0 ≤ x ∧ x ≤ 100
  · obtain ⟨n, rfl⟩ : ∃ n : Nat, x = n := ⟨x.toNat, by omega⟩
    obtain ⟨h1, J1, u, ⟨q1, hc, hs⟩, s1, c1⟩ := c_spanLoop (sc := sc) (d := d) (y := y) r.1 r.2.1 B (n := n) (by omega) 6 (by decide)
    have l7 : (6 : Int) < ((6 + 1 : Nat) : Int) := by omega
    refine pubQ (x := 0) (v := spB (I 284) n y 6) (v' := spB (I 284) n y 6) r ⟨h1, J1, ?_, q1, by unfold Bd; omega⟩ (fun h3 J3 r3 e3 => ?_) (fun _ => rfl)
    · show Cl sc (d + 30) mX11_span [Vr (some 0), Vi (n : Int), Vi y] (hI h I) = some (.inl (Vi (spB (I 284) n y 6)), hI h1 J1)
      rw [q_X11_span_0]
      simp (disch := first | assumption | exact Int.natCast_nonneg _ | decide) only [c_nY hx, e_clI, e_clV, e_clP, e_clIx, e_clVx, e_clPx, e_xt, Int.toNat_natCast, Int.reduceToNat, bz0, bz1, Nat.add_zero, decide_eq_false_iff_not, decide_eq_true_eq, Int.reduceEq, Nat.reduceEqDiff, Int.reduceLT, Int.reduceLE, not_true_eq_false, not_false_eq_true, eq_self, ↓reduceIte]
      refine c1.trans ?_
      rw [q_X11_span_7, if_pos l7]
    · have ka := m_keepsAll (sc := sc) (d := d + 28) (h := h3) (J := am_u2 J3 283 0 0) r3.1
      have e4 : am_u2 J3 283 0 0 284 = I 284 := by rw [w283, e3.w]
      obtain ⟨K, u2, ⟨k1, k2, k3⟩, c2⟩ := m_spanLoop (sc := sc) (d := d) (y := y) (J := am_u2 J3 283 0 0) r3.1 r.V r.2.1.2.2.ml e4 (n := n) (by omega) 6 (by decide)
      refine MO.okJ (J := K) ?_ (fun k j hk => ?_) ?_
      · rw [q_X12_span_0]
        simp (disch := first | assumption | exact Int.natCast_nonneg _ | decide) only [↓BM r3.1, m_nA hx, m_t0 r3.1, ka, e_clI, e_clV, e_clP, e_clIx, e_clVx, e_clPx, e_xt, Int.toNat_natCast, Int.reduceToNat, bz0, bz1, Nat.add_zero, decide_eq_false_iff_not, decide_eq_true_eq, Int.reduceEq, Nat.reduceEqDiff, Int.reduceLT, Int.reduceLE, not_true_eq_false, not_false_eq_true, eq_self, ↓reduceIte]
        refine c2.trans ?_
        rw [q_X12_span_18, if_pos l7]
      · by_cases h4 : k = 284
        · rw [h4, k2, e3.w]
        · rw [k3 k h4 (by unfold scr at hk; omega) (by unfold scr at hk; omega)]
          exact s283 k j hk
      · rw [k3 283 (by decide) (by decide) (by decide)]
        exact u2_same
  · skip
    refine pubQ (x := 1) (v := 0) (v' := 0) r (CO.no (J := I) (by decide) ?_ (Same.rf I)) (fun h1 J1 r1 e1 => ?_) (fun h => absurd h (by decide))
    · rw [q_X11_span_0]
      simp (disch := first | (simp (disch := omega) only [w32_id]; omega) | omega) only [c_nYx hx, hI_exI, e_clI, e_clV, e_clP, e_clIx, e_clVx, e_clPx, e_xt, Int.toNat_natCast, Int.reduceToNat, bz0, bz1, Nat.add_zero, decide_eq_false_iff_not, decide_eq_true_eq, Int.reduceEq, Nat.reduceEqDiff, Int.reduceLT, Int.reduceLE, not_true_eq_false, not_false_eq_true, eq_self, ↓reduceIte]
    · refine MO.thr ?_
      rw [q_X12_span_0]
      simp (disch := first | (simp (disch := omega) only [w32_id]; omega) | omega) only [↓BM r1.1, m_nAx hx, m_t1 r1.1, e_clI, e_clV, e_clP, e_clIx, e_clVx, e_clPx, e_xt, Int.toNat_natCast, Int.reduceToNat, bz0, bz1, Nat.add_zero, decide_eq_false_iff_not, decide_eq_true_eq, Int.reduceEq, Nat.reduceEqDiff, Int.reduceLT, Int.reduceLE, not_true_eq_false, not_false_eq_true, eq_self, ↓reduceIte]
      try rfl
end
