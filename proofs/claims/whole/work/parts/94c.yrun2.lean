/-! SORENESS, QUARRELS -/
section
variable {sc : Nat × (Nat → Int)} {d a b f : Nat} {h : am_H} {I J : am_I} {w v : am_Wd}
theorem c_fret (c : Cty h a) (ha : a < 290) (S : St h I a w) (hf : f < 6) : ∃ J, Cg a I J ∧ CRep J a (fretted w f) ∧ Cl sc (d + 5) mX0_fret [Vr (some a), Vi (f : Int)] (hI h I) = some (.inl (Vx 0), hI h J) := by
  obtain ⟨R, V, M⟩ := S
  have hv := V.fm hf
  obtain ⟨hm, hh⟩ : ∃ hm : Nat, w (307 + 4 * f) = hm := ⟨(w (307 + 4 * f)).toNat, by omega⟩
  have hm36 : hm < 36 := by omega
  have hgo : ∀ n, n ≤ 4 → ∃ J u, Ls I J ∧ Ru sc (d + 5) mX0_fret 5 [Vr (some a), Vi (f : Int), Vi 0, Vi 0, Vx 0] [] (hI h I) = Ru sc (d + 5) mX0_fret 5 [Vr (some a), Vi (f : Int), Vi (sm (fun k => if sd hm k = -1 then 0 else srW w (sd hm k).toNat) n), Vi (n : Int), u] [] (hI h J) := by
    intro n
    induction n with
    | zero => exact fun _ => ⟨I, Vx 0, Ls.rf I, rfl⟩
    | succ n ih =>
      intro hn
      obtain ⟨J, u, h1, h2⟩ := ih (by omega)
      have hb1 := soreAt_b M.ml (f := f) (n := n) (by omega)
      have hb2 := soreAt_b M.ml (f := f) (n := n + 1) (by omega)
      rw [hh, Int.toNat_natCast] at hb1 hb2
      have es : sm (fun k => if sd hm k = -1 then 0 else srW w (sd hm k).toNat) (n + 1) = sm (fun k => if sd hm k = -1 then 0 else srW w (sd hm k).toNat) n + (if sd hm n = -1 then 0 else srW w (sd hm n).toNat) := rfl
      have hs := sd_lt hm hm36 n (by omega)
      have R2 := R.ls h1 ha
      have hlt : (n : Int) < 4 := by omega
      rw [h2, q_X0_fret_5]
      by_cases h3 : sd hm n = -1
      · refine ⟨J, Vi (sd hm n), h1, ?_⟩
        simp (disch := first | (simp (disch := omega) only [w32_id]; omega) | omega) only [↓BC c, hlt, R2.ho hf, hh, c_onSide hm36 (show n < 4 by omega), h3, w32_succ, e_clI, e_clV, e_clP, e_clIx, e_clVx, e_clPx, e_xt, Int.toNat_natCast, Int.reduceToNat, bz0, bz1, Nat.add_zero, decide_eq_false_iff_not, decide_eq_true_eq, Int.reduceEq, Nat.reduceEqDiff, Int.reduceLT, Int.reduceLE, not_true_eq_false, not_false_eq_true, ↓reduceIte]
        rw [es, if_pos h3, Int.add_zero]
      · obtain ⟨b, hb⟩ : ∃ b : Nat, sd hm n = b := ⟨(sd hm n).toNat, by omega⟩
        have hb60 : b < 60 := by omega
        have hbn : ¬ (b : Int) = -1 := by omega
        rw [hb, Int.toNat_natCast, if_neg (by omega)] at es
        by_cases h4 : w (7 + 5 * b) = 1
        · obtain ⟨K, k1, k2⟩ := c_soreness (sc := sc) (d := d) c ha R2 V (M.ls h1) hb60 h4
          refine ⟨K, Vi (b : Int), h1.tr k1, ?_⟩
          simp (disch := first | (simp (disch := omega) only [w32_id]; omega) | omega) only [↓BC c, hlt, R2.ho hf, hh, c_onSide hm36 (show n < 4 by omega), hb, hbn, R2.th hb60, h4, k2, w32_succ, e_clI, e_clV, e_clP, e_clIx, e_clVx, e_clPx, e_xt, Int.toNat_natCast, Int.reduceToNat, bz0, bz1, Nat.add_zero, decide_eq_false_iff_not, decide_eq_true_eq, Int.reduceEq, Nat.reduceEqDiff, Int.reduceLT, Int.reduceLE, not_true_eq_false, not_false_eq_true, ↓reduceIte]
          rw [es, w32_id (by omega) (by omega)]
        · have h5 : w (7 + 5 * b) = 0 := by have := V.fe hb60; omega
          have e0 : srW w b = 0 := by unfold srW; rw [if_neg (fun x => h4 x.1)]
          refine ⟨J, Vi (b : Int), h1, ?_⟩
          simp (disch := first | (simp (disch := omega) only [w32_id]; omega) | omega) only [↓BC c, hlt, R2.ho hf, hh, c_onSide hm36 (show n < 4 by omega), hb, hbn, R2.th hb60, h5, w32_succ, e_clI, e_clV, e_clP, e_clIx, e_clVx, e_clPx, e_xt, Int.toNat_natCast, Int.reduceToNat, bz0, bz1, Nat.add_zero, decide_eq_false_iff_not, decide_eq_true_eq, Int.reduceEq, Nat.reduceEqDiff, Int.reduceLT, Int.reduceLE, not_true_eq_false, not_false_eq_true, ↓reduceIte]
          rw [es, e0, Int.add_zero]
  obtain ⟨J, u, h1, h2⟩ := hgo 4 (by omega)
  have R2 := R.ls h1 ha
  have hb1 := soreAt_b M.ml (f := f) (Nat.le_refl 4)
  have hs : soreAt w f = sm (fun k => if sd hm k = -1 then 0 else srW w (sd hm k).toNat) 4 := by unfold soreAt; rw [hh, Int.toNat_natCast]
  rw [hh, Int.toNat_natCast, ← hs] at hb1
  rw [← hs] at h2
  have h44 : ¬ ((4 : Nat) : Int) < 4 := by omega
  rw [q_X0_fret_0, h2, q_X0_fret_5]
  simp (disch := first | (simp (disch := omega) only [w32_id]; omega) | omega) only [↓BC c, h44, R2.so hf, c_min, e_clI, e_clV, e_clP, e_clIx, e_clVx, e_clPx, e_xt, Int.toNat_natCast, Int.reduceToNat, bz0, bz1, Nat.add_zero, decide_eq_false_iff_not, decide_eq_true_eq, Int.reduceEq, Nat.reduceEqDiff, Int.reduceLT, Int.reduceLE, not_true_eq_false, not_false_eq_true, ↓reduceIte]
  rw [w32_id (by omega) (by omega)]
  refine ⟨_, ?_, ?_, rfl⟩
  · intro p hp hp2
    rw [u2_o (by omega)]
    exact h1 p hp2
  · refine R2.chM (f := f) V (u2_o (by omega)) (fun k h1 h2 h3 => u2_o (by omega)) (fun k x h1 h2 h3 => u2_j h3) (fun j hj => fretted_g (by omega)) hf ?_
    unfold MR
    rw [fretted_g (by omega), fretted_g (by omega), fretted_g (by omega), u2_a (by omega), u2_a (by omega), u2_a (by omega), u2_same]
    unfold fretted
    rw [up_s]
    exact ⟨R2.ho hf, R2.cl hf, R2.ey hf, rfl⟩
theorem m_soresAt (s : Sh h) (S : Mt I w) (hf : f < 6) : ∃ J, Lv I J ∧ Cl sc (d + 7) mX12_soresAt [Vr (some 283), Vi (f : Int)] (hI h I) = some (.inl (Vi (soreAt w f)), hI h J) := by
  obtain ⟨R, V, M⟩ := S
  have hv := V.fm hf
  obtain ⟨hm, hh⟩ : ∃ hm : Nat, w (307 + 4 * f) = hm := ⟨(w (307 + 4 * f)).toNat, by omega⟩
  have hm36 : hm < 36 := by omega
  have hgo : ∀ n, n ≤ 4 → ∃ J u, Lv I J ∧ Ru sc (d + 7) mX12_soresAt 5 [Vr (some 283), Vi (f : Int), Vi 0, Vi 0, Vx 0] [] (hI h I) = Ru sc (d + 7) mX12_soresAt 5 [Vr (some 283), Vi (f : Int), Vi (sm (fun k => if sd hm k = -1 then 0 else srW w (sd hm k).toNat) n), Vi (n : Int), u] [] (hI h J) := by
    intro n
    induction n with
    | zero => exact fun _ => ⟨I, Vx 0, Lv.rf I, rfl⟩
    | succ n ih =>
      intro hn
      obtain ⟨J, u, h1, h2⟩ := ih (by omega)
      have hb1 := soreAt_b M (f := f) (n := n) (by omega)
      have hb2 := soreAt_b M (f := f) (n := n + 1) (by omega)
      rw [hh, Int.toNat_natCast] at hb1 hb2
      have es : sm (fun k => if sd hm k = -1 then 0 else srW w (sd hm k).toNat) (n + 1) = sm (fun k => if sd hm k = -1 then 0 else srW w (sd hm k).toNat) n + (if sd hm n = -1 then 0 else srW w (sd hm n).toNat) := rfl
      have hs := sd_lt hm hm36 n (by omega)
      have R2 := h1.w.trans R
      have hlt : (n : Int) < 4 := by omega
      rw [h2, q_X12_soresAt_5]
      by_cases h3 : sd hm n = -1
      · refine ⟨J, Vi (sd hm n), h1, ?_⟩
        simp (disch := first | (simp (disch := omega) only [w32_id]; omega) | omega) only [↓BM s, hlt, m_ofFamily s, R2, hh, c_sideOf hm36 (show n < 4 by omega), h3, w32_succ, e_clI, e_clV, e_clP, e_clIx, e_clVx, e_clPx, e_xt, Int.toNat_natCast, Int.reduceToNat, bz0, bz1, Nat.add_zero, decide_eq_false_iff_not, decide_eq_true_eq, Int.reduceEq, Nat.reduceEqDiff, Int.reduceLT, Int.reduceLE, not_true_eq_false, not_false_eq_true, ↓reduceIte]
        rw [es, if_pos h3, Int.add_zero, w32_id (by omega) (by omega)]
      · obtain ⟨b, hb⟩ : ∃ b : Nat, sd hm n = b := ⟨(sd hm n).toNat, by omega⟩
        have hb60 : b < 60 := by omega
        have hbn : ¬ (b : Int) = -1 := by omega
        rw [hb, Int.toNat_natCast, if_neg (by omega)] at es
        obtain ⟨K, k1, k2⟩ := m_soresBy (sc := sc) (d := d) s R2 V M hb60
        refine ⟨K, Vi (b : Int), h1.tr k1, ?_⟩
        simp (disch := first | (simp (disch := omega) only [w32_id]; omega) | omega) only [↓BM s, hlt, m_ofFamily s, R2, hh, c_sideOf hm36 (show n < 4 by omega), hb, hbn, k2, w32_succ, e_clI, e_clV, e_clP, e_clIx, e_clVx, e_clPx, e_xt, Int.toNat_natCast, Int.reduceToNat, bz0, bz1, Nat.add_zero, decide_eq_false_iff_not, decide_eq_true_eq, Int.reduceEq, Nat.reduceEqDiff, Int.reduceLT, Int.reduceLE, not_true_eq_false, not_false_eq_true, ↓reduceIte]
        rw [es, w32_id (by omega) (by omega)]
  obtain ⟨J, u, h1, h2⟩ := hgo 4 (by omega)
  have hs : soreAt w f = sm (fun k => if sd hm k = -1 then 0 else srW w (sd hm k).toNat) 4 := by unfold soreAt; rw [hh, Int.toNat_natCast]
  rw [← hs] at h2
  refine ⟨J, h1, ?_⟩
  rw [q_X12_soresAt_0, h2, q_X12_soresAt_5, if_neg (by omega)]
theorem shW_step {w : am_Wd} {t : Nat} (ht : t < 295) : up (shW w t) (630 - t) (shW w t (625 - t)) = shW w (t + 1) := by
  funext j
  unfold up shW
  by_cases h1 : j = 630 - t
  · subst h1
    rw [if_pos rfl, if_neg (by omega), if_pos (by omega)]
    exact congrArg w (by omega)
  · rw [if_neg h1]
    by_cases h2 : 631 ≤ j + t ∧ j < 631
    · rw [if_pos h2, if_pos (by omega)]
    · rw [if_neg h2, if_neg (by omega)]
theorem m_tells (s : Sh h) (hw : I 284 = w) (V : WW w) {x k y hi : Int} : ∃ J, Mg I J ∧ J 284 = teW w x k y hi ∧ Cl sc (d + 2) mX12_tells [Vr (some 283), Vi x, Vi k, Vi y, Vi hi] (hI h I) = some (.inl (Vx 0), hI h J) := by
  have h5 := V.ws.2.2.2.2.2.1
  have hgo : ∀ t, t ≤ 295 → ∃ J, Mg I J ∧ J 284 = shW w t ∧ Ru sc (d + 2) mX12_tells 3 [Vr (some 283), Vi x, Vi k, Vi y, Vi hi, Vi 299] [] (hI h I) = Ru sc (d + 2) mX12_tells 3 [Vr (some 283), Vi x, Vi k, Vi y, Vi hi, Vi ((299 - t : Nat) : Int)] [] (hI h J) := by
    intro t
    induction t with
    | zero =>
      refine fun _ => ⟨I, Mg.rf I, ?_, rfl⟩
      rw [hw]
      funext j
      unfold shW
      rw [if_neg (by omega)]
    | succ t ih =>
      intro hn
      obtain ⟨J, h1, h2, h3⟩ := ih (by omega)
      have e1 : w32 (331 + ((299 - t : Nat) : Int)) = ((630 - t : Nat) : Int) := by rw [w32_id (by omega) (by omega)]; omega
      have e2 : w32 (((630 - t : Nat) : Int) - 5) = ((625 - t : Nat) : Int) := by rw [w32_id (by omega) (by omega)]; omega
      have e3 : w32 (((299 - t : Nat) : Int) + (-1)) = ((299 - (t + 1) : Nat) : Int) := by rw [w32_id (by omega) (by omega)]; omega
      refine ⟨am_u2 J 284 (630 - t) (shW w t (625 - t)), h1.tr (fun p hp _ => u2_o hp), ?_, ?_⟩
      · rw [u2_up, h2, shW_step (by omega)]
      · rw [h3, q_X12_tells_3, if_neg (by omega), e1, e2, e3]
        clear e1 e2 e3
        simp (disch := first | (simp (disch := omega) only [w32_id]; omega) | omega) only [↓BM s, h2, e_clI, e_clV, e_clP, e_clIx, e_clVx, e_clPx, e_xt, Int.toNat_natCast, Int.reduceToNat, bz0, bz1, Nat.add_zero, decide_eq_false_iff_not, decide_eq_true_eq, Int.reduceEq, Nat.reduceEqDiff, Int.reduceLT, Int.reduceLE, not_true_eq_false, not_false_eq_true, ↓reduceIte]
  obtain ⟨J, h1, h2, h3⟩ := hgo 295 (by omega)
  rw [q_X12_tells_0, h3, q_X12_tells_3, if_pos (by omega)]
  have e3 : shW w 295 3 = w 3 := by unfold shW; rw [if_neg (by omega)]
  have e5 : shW w 295 5 = w 5 := by unfold shW; rw [if_neg (by omega)]
  simp (disch := first | (simp (disch := omega) only [w32_id]; omega) | omega) only [↓BM s, h2, e3, u2_up, up_o, e5, c_min, e_clI, e_clV, e_clP, e_clIx, e_clVx, e_clPx, e_xt, Int.toNat_natCast, Int.reduceToNat, bz0, bz1, Nat.add_zero, decide_eq_false_iff_not, decide_eq_true_eq, Int.reduceEq, Nat.reduceEqDiff, Int.reduceLT, Int.reduceLE, not_true_eq_false, not_false_eq_true, ↓reduceIte]
  rw [w32_id (by omega) (by omega)]
  refine ⟨_, h1.tr (fun p hp _ => ?_), ?_, rfl⟩
  · rw [u2_o hp, u2_o hp, u2_o hp, u2_o hp, u2_o hp, u2_o hp]
  · rw [u2_up, u2_up, u2_up, u2_up, u2_up, u2_up, h2]
    funext j
    unfold up teW shW
    by_cases h : j ≤ 335
    · have h9 : j = 5 ∨ j = 331 ∨ j = 332 ∨ j = 333 ∨ j = 334 ∨ j = 335 ∨ (j ≠ 5 ∧ j < 331) := by omega
      rcases h9 with rfl | rfl | rfl | rfl | rfl | rfl | h9
      · rfl
      · rfl
      · rfl
      · rfl
      · rfl
      · rfl
      · rw [if_neg (by omega), if_neg (by omega), if_neg (by omega), if_neg (by omega), if_neg (by omega), if_neg (by omega), if_neg (by omega), if_neg (by omega), if_neg (by omega), if_neg (by omega), if_neg (by omega), if_neg (by omega), if_neg (by omega), if_neg (by omega)]
    · rw [if_neg (by omega), if_neg (by omega), if_neg (by omega), if_neg (by omega), if_neg (by omega), if_neg (by omega), if_neg (show ¬ j = 5 by omega), if_neg (show ¬ j = 331 by omega), if_neg (show ¬ j = 332 by omega), if_neg (show ¬ j = 333 by omega), if_neg (show ¬ j = 334 by omega), if_neg (show ¬ j = 335 by omega)]
      by_cases h2 : j < 631
      · rw [if_pos (by omega), if_pos (by omega)]
      · rw [if_neg (by omega), if_neg (by omega)]
end
