/-! LOSES, HALFWAY -/
section
variable {sc : Nat × (Nat → Int)} {d a : Nat} {h : am_H} {I J : am_I} {w : am_Wd}
theorem opE_shut {w : am_Wd} {t : Int} {b : Nat} (h : opW w b t = false) : opE w t (b : Int) = opE w t (-1) := by
  funext x
  unfold opE
  by_cases e : x = b
  · rw [e, h, Bool.and_false, Bool.and_false]
  · rw [decide_eq_true (show (x : Int) ≠ (b : Int) by omega), decide_eq_true (show (x : Int) ≠ -1 by omega)]
theorem p_loses (r : Rel h I) {x y : Int} : Pub h I (Cl sc (d + 30) mX11_loses [Vr (some 0), Vi x, Vi y]) (Cl sc (d + 30) mX12_loses [Vr (some 283), Vi x, Vi y]) cdA := by
  have R := r.R
  have V := r.V
  have hF := V.fa
  by_cases hx : 0 ≤ x ∧ x < I 284 0
  · obtain ⟨f, rfl⟩ : ∃ f : Nat, x = f := ⟨x.toNat, by omega⟩
    have hf : f < 6 := by omega
    have hv := V.fm hf
    obtain ⟨hm, hh⟩ : ∃ hm : Nat, I 284 (307 + 4 * f) = hm := ⟨(I 284 (307 + 4 * f)).toNat, by omega⟩
    have hm36 : hm < 36 := by omega
    by_cases hy : 0 ≤ y ∧ y < 60
    · obtain ⟨b, rfl⟩ : ∃ b : Nat, y = b := ⟨y.toNat, by omega⟩
      have hb : b < 60 := by omega
      obtain ⟨J, lb, ⟨k1, k2⟩, k3⟩ := c_waysOf (sc := sc) (d := d + 26) r.1 R V hf
      rw [hh, Int.toNat_natCast] at k3
      have R2 : CRep J 11 (I 284) := k1.ks.c (by omega) R
      obtain ⟨K, lb2, ⟨m1, m2⟩, m3⟩ := c_ofCells (sc := sc) (d := d + 27) (I := J) (t := I 284 (307 + 4 * f + 1)) (x := (b : Int)) r.1 r.c (by omega) R2 V
      have R3 : CRep K 11 (I 284) := m1.ks.c (by omega) R2
      have m4 := c_nodesWith (sc := sc) (d := d + 28) r.1 m2 (by omega) hm36
      have b1 := nn_b (p := fun v => decide (lb v = lb hm)) (N := 36)
      have b2 := nn_b (p := fun v => decide (lb2 v = lb2 hm)) (N := 36)
      have o1 := R2.cl hf
      have o2 := R3.ho hf
      have ev : w32 (nn (fun v => decide (lb v = lb hm)) 36 - nn (fun v => decide (lb2 v = lb2 hm)) 36) = nn (fun v => decide (lb v = lb hm)) 36 - nn (fun v => decide (lb2 v = lb2 hm)) 36 := w32_id (by omega) (by omega)
      refine pubQ (x := 0) (v := nn (fun v => decide (lb v = lb hm)) 36 - nn (fun v => decide (lb2 v = lb2 hm)) 36) (v' := nn (fun v => decide (lb v = lb hm)) 36 - nn (fun v => decide (lb2 v = lb2 hm)) 36) r (CO.ok (J := K) ?_ (k1.tr m1).sm) (fun h1 J1 r1 e1 => ?_) (fun _ => rfl)
      · rw [q_X11_loses_0]
        simp (disch := first | assumption | exact Int.natCast_nonneg _ | decide) only [↓BO r.1, c_nF r.1 r.fa hx, c_nB hy, k3, e_clI, e_clV, e_clP, e_clIx, e_clVx, e_clPx, e_xt, Int.toNat_natCast, Int.reduceToNat, bz0, bz1, Nat.add_zero, decide_eq_false_iff_not, decide_eq_true_eq, Int.reduceEq, Nat.reduceEqDiff, Int.reduceLT, Int.reduceLE, not_true_eq_false, not_false_eq_true, eq_self, ↓reduceIte]
        have hf6 : (f : Int) < 6 := by clear ev; omega
        simp (disch := first | assumption | exact Int.natCast_nonneg _ | decide) only [↓BO r.1, ↓BC r.c, ↓BP r.1, o1, m3, o2, hh, m4, ev, e_clI, e_clV, e_clP, e_clIx, e_clVx, e_clPx, e_xt, Int.toNat_natCast, Int.reduceToNat, bz0, bz1, Nat.add_zero, decide_eq_false_iff_not, decide_eq_true_eq, Int.reduceEq, Nat.reduceEqDiff, Int.reduceLT, Int.reduceLE, not_true_eq_false, not_false_eq_true, eq_self, ↓reduceIte]
      · have V2 : WW (am_u2 J1 283 0 0 284) := by rw [w283, e1.w]; exact V
        have hx2 : 0 ≤ (f : Int) ∧ (f : Int) < am_u2 J1 283 0 0 284 0 := by rw [w283, e1.w]; exact hx
        have hin : Cl sc (d + 29) mX12_noFamily [Vr (some 283), Vi (f : Int)] (hI h1 (am_u2 J1 283 0 0)) = some (.inl (Vi 0), hI h1 (am_u2 J1 283 0 0)) := m_nF r1.1 V2 hx2
        have ho := m_isOpen (sc := sc) (d := d + 25) (I := am_u2 J1 283 0 0) (t := I 284 (307 + 4 * f + 1)) r1.1 hb
        rw [w283, e1.w, u2_j (by decide), u2_j (by decide), rel18 r1, rel19 r1, opS_no] at ho
        cases hE : opW (I 284) b (I 284 (307 + 4 * f + 1))
        · rw [hE] at ho
          have e0 : nn (fun v => decide (lb v = lb hm)) 36 = nn (fun v => decide (lb2 v = lb2 hm)) 36 := nn_cg (fun v hv => by
            rw [decide_eq_decide]
            have kk := m2.1.2
            rw [opE_shut hE] at kk
            exact kern k2.1.2 kk v hm hv hm36)
          rw [e0, Int.sub_self]
          refine MO.ok0 ?_
          rw [q_X12_loses_0]
          clear ev b1 b2
          simp (disch := first | (simp (disch := omega) only [w32_id]; omega) | omega) only [↓BM r1.1, hin, m_nB hy, m_t0 r1.1, q_X12_loses_15, m_ofFamily r1.1, w283, e1.w, ho, e_clI, e_clV, e_clP, e_clIx, e_clVx, e_clPx, e_xt, Int.toNat_natCast, Int.reduceToNat, bz0, bz1, Nat.add_zero, decide_eq_false_iff_not, decide_eq_true_eq, Int.reduceEq, Nat.reduceEqDiff, Int.reduceLT, Int.reduceLE, not_true_eq_false, not_false_eq_true, eq_self, ↓reduceIte]
        · rw [hE] at ho
          obtain ⟨G, g1, g2⟩ := m_waysOf (sc := sc) (d := d + 21) (I := am_u2 J1 283 0 0) r1.1 V2 hf
          rw [w283, e1.w, u2_j (by decide), u2_j (by decide), rel18 r1, rel19 r1, hh, Int.toNat_natCast] at g1
          have V3 : WW (am_u2 (sr (am_u2 J1 283 0 0) 292 G) 283 18 (b : Int) 284) := by rw [u2_o (by decide), sr_ne (by decide)]; exact V2
          obtain ⟨G2, g3, g4⟩ := m_waysOf (sc := sc) (d := d + 21) (I := am_u2 (sr (am_u2 J1 283 0 0) 292 G) 283 18 (b : Int)) r1.1 V3 hf
          rw [u2_o (by decide), sr_ne (by decide), w283, e1.w, u2_same, u2_j (by decide), sr_ne (by decide), u2_j (by decide), rel19 r1, hh, Int.toNat_natCast] at g3
          have w1 := ways_eq V hm36 k2.1.2 opE_f g1
          have w2 := ways_eq V hm36 m2.1.2 opE_f g3
          refine MO.okJ (J := am_u2 (sr (am_u2 (sr (am_u2 J1 283 0 0) 292 G) 283 18 (b : Int)) 292 G2) 283 18 (-1)) ?_ ?_ ?_
          · rw [q_X12_loses_0]
            rw [← w1] at g2
            rw [← w2] at g4
            have hf2 : 307 + 4 * f + (1 : Int).toNat < 2329 := by clear ev; rw [show (1 : Int).toNat = 1 from rfl]; omega
            have of1 := m_ofFamily (sc := sc) (d := d + 27) (I := am_u2 J1 283 0 0) (f := f) (k := 1) r1.1 (by decide) hf2
            rw [w283, e1.w] at of1
            have of1 : Cl sc (d + 29) mX12_ofFamily [Vr (some 283), Vi (f : Int), Vi 1] (hI h1 (am_u2 J1 283 0 0)) = some (.inl (Vi (I 284 (307 + 4 * f + 1))), hI h1 (am_u2 J1 283 0 0)) := of1
            simp (disch := first | assumption | exact Int.natCast_nonneg _ | decide) only [↓BM r1.1, hin, m_nB hy, m_t0 r1.1, q_X12_loses_15, of1, ho, g2, g4, ev, Bool.true_eq_false, e_clI, e_clV, e_clP, e_clIx, e_clVx, e_clPx, e_xt, Int.toNat_natCast, Int.reduceToNat, bz0, bz1, Nat.add_zero, decide_eq_false_iff_not, decide_eq_true_eq, Int.reduceEq, Nat.reduceEqDiff, Int.reduceLT, Int.reduceLE, not_true_eq_false, not_false_eq_true, eq_self, ↓reduceIte]
          · intro k j hk
            have h1 : k ≠ 292 := fun e => hk (by unfold scr; omega)
            by_cases e : k = 283 ∧ j = 18
            · rw [e.1, e.2, u2_same]
              exact (rel18 r1).symm
            · by_cases e3 : k = 283 ∧ j = 0
              · exact absurd (by unfold scr; omega) hk
              · have z1 : am_u2 (sr (am_u2 (sr (am_u2 J1 283 0 0) 292 G) 283 18 (b : Int)) 292 G2) 283 18 (-1) k j = J1 k j := by
                  unfold am_u2
                  rw [if_neg e, sr_ne h1, if_neg e, sr_ne h1, if_neg e3]
                exact z1
          · rw [u2_j (by decide), sr_ne (by decide), u2_j (by decide), sr_ne (by decide)]
            exact u2_same
    · refine pubQ (x := 3) (v := 0) (v' := 0) r (CO.no (J := I) (by decide) ?_ (Same.rf I)) (fun h1 J1 r1 e1 => ?_) (fun h => absurd h (by decide))
      · rw [q_X11_loses_0]
        simp (disch := first | (simp (disch := omega) only [w32_id]; omega) | omega) only [↓BO r.1, c_nF r.1 r.fa hx, c_nBx hy, hI_exI, e_clI, e_clV, e_clP, e_clIx, e_clVx, e_clPx, e_xt, Int.toNat_natCast, Int.reduceToNat, bz0, bz1, Nat.add_zero, decide_eq_false_iff_not, decide_eq_true_eq, Int.reduceEq, Nat.reduceEqDiff, Int.reduceLT, Int.reduceLE, not_true_eq_false, not_false_eq_true, eq_self, ↓reduceIte]
      · refine MO.thr ?_
        have V2 : WW (am_u2 J1 283 0 0 284) := by rw [w283, e1.w]; exact V
        have hx2 : 0 ≤ (f : Int) ∧ (f : Int) < am_u2 J1 283 0 0 284 0 := by rw [w283, e1.w]; exact hx
        rw [q_X12_loses_0]
        simp (disch := first | (simp (disch := omega) only [w32_id]; omega) | omega) only [↓BM r1.1, m_nF r1.1 V2 hx2, m_nBx hy, m_t1 r1.1, q_X12_loses_15, e_clI, e_clV, e_clP, e_clIx, e_clVx, e_clPx, e_xt, Int.toNat_natCast, Int.reduceToNat, bz0, bz1, Nat.add_zero, decide_eq_false_iff_not, decide_eq_true_eq, Int.reduceEq, Nat.reduceEqDiff, Int.reduceLT, Int.reduceLE, not_true_eq_false, not_false_eq_true, eq_self, ↓reduceIte]
        try rfl
  · refine pubQ (x := 3) (v := 0) (v' := 0) r (CO.no (J := I) (by decide) ?_ (Same.rf I)) (fun h1 J1 r1 e1 => ?_) (fun h => absurd h (by decide))
    · rw [q_X11_loses_0]
      simp (disch := first | (simp (disch := omega) only [w32_id]; omega) | omega) only [↓BO r.1, c_nFx r.1 r.fa hx, hI_exI, e_clI, e_clV, e_clP, e_clIx, e_clVx, e_clPx, e_xt, Int.toNat_natCast, Int.reduceToNat, bz0, bz1, Nat.add_zero, decide_eq_false_iff_not, decide_eq_true_eq, Int.reduceEq, Nat.reduceEqDiff, Int.reduceLT, Int.reduceLE, not_true_eq_false, not_false_eq_true, eq_self, ↓reduceIte]
    · refine MO.thr ?_
      have V2 : WW (am_u2 J1 283 0 0 284) := by rw [w283, e1.w]; exact V
      have hx2 : ¬ (0 ≤ x ∧ x < am_u2 J1 283 0 0 284 0) := by rw [w283, e1.w]; exact hx
      rw [q_X12_loses_0]
      simp (disch := first | (simp (disch := omega) only [w32_id]; omega) | omega) only [↓BM r1.1, m_nFx r1.1 V2 hx2, m_t1 r1.1, q_X12_loses_15, e_clI, e_clV, e_clP, e_clIx, e_clVx, e_clPx, e_xt, Int.toNat_natCast, Int.reduceToNat, bz0, bz1, Nat.add_zero, decide_eq_false_iff_not, decide_eq_true_eq, Int.reduceEq, Nat.reduceEqDiff, Int.reduceLT, Int.reduceLE, not_true_eq_false, not_false_eq_true, eq_self, ↓reduceIte]
      try rfl
end
