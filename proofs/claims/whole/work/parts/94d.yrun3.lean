/-! QUARRELS, YEARS -/
section
variable {sc : Nat × (Nat → Int)} {d a b f : Nat} {h : am_H} {I J : am_I} {w v : am_Wd}
theorem quar_no {w : am_Wd} {f : Nat} (h : ¬ drW (lcg (w 6)) % 100 < w 4 + w (307 + 4 * f + 3)) : quar w f = (up w 6 (lcg (w 6)), 0) := by
  unfold quar
  dsimp only
  rw [if_neg h]
theorem quar_rim {w : am_Wd} {f : Nat} (h : drW (lcg (w 6)) % 100 < w 4 + w (307 + 4 * f + 3)) (h2 : sd (w (307 + 4 * f)).toNat (drW (lcg (lcg (w 6))) % 4).toNat = -1) : quar w f = (up (up w 6 (lcg (w 6))) 6 (lcg (lcg (w 6))), 0) := by
  unfold quar
  dsimp only
  rw [if_pos h, if_pos h2]
theorem quar_is {w : am_Wd} {f b : Nat} (h : drW (lcg (w 6)) % 100 < w 4 + w (307 + 4 * f + 3)) (h2 : sd (w (307 + 4 * f)).toNat (drW (lcg (lcg (w 6))) % 4).toNat = b) (h3 : w (7 + 5 * b) = 1) : quar w f = (up (up w 6 (lcg (w 6))) 6 (lcg (lcg (w 6))), 0) := by
  unfold quar
  dsimp only
  rw [if_pos h, h2, if_neg (by omega), Int.toNat_natCast, if_pos h3]
theorem quar_go {w : am_Wd} {f b : Nat} (h : drW (lcg (w 6)) % 100 < w 4 + w (307 + 4 * f + 3)) (h2 : sd (w (307 + 4 * f)).toNat (drW (lcg (lcg (w 6))) % 4).toNat = b) (h3 : ¬ w (7 + 5 * b) = 1) : quar w f = (teW (feW (up (up w 6 (lcg (w 6))) 6 (lcg (lcg (w 6)))) b 0 0 0 0) b 0 f 0, 1) := by
  unfold quar
  dsimp only
  rw [if_pos h, h2, if_neg (by omega), Int.toNat_natCast, if_neg h3]
theorem c_quarrelOf (c : Cty h a) (S : St h I a w) (hf : f < 6) : ∃ J, Cg a I J ∧ CRep J a (quar w f).1 ∧ Cl sc (d + 3) mX0_quarrelOf [Vr (some a), Vi (f : Int)] (hI h I) = some (.inl (Vi (quar w f).2), hI h J) := by
  obtain ⟨R, V, M⟩ := S
  have hv := V.fm hf
  have hq := V.ws.2.2.2.2.1
  obtain ⟨hm, hh⟩ : ∃ hm : Nat, w (307 + 4 * f) = hm := ⟨(w (307 + 4 * f)).toNat, by omega⟩
  have hm36 : hm < 36 := by omega
  obtain ⟨g1, R1⟩ := u12 c R V (x := lcg (w 6))
  have V1 := up6_w V (lcg_b (w 6))
  obtain ⟨g2, R2⟩ := u12 c R1 V1 (x := lcg (lcg (w 6)))
  have V2 := up6_w V1 (lcg_b (lcg (w 6)))
  have d1 := drW_b (lcg (w 6))
  have d2 := drW_b (lcg (lcg (w 6)))
  have q1 : up w 6 (lcg (w 6)) 4 = w 4 := up_o (by omega)
  have q2 : up w 6 (lcg (w 6)) (307 + 4 * f + 3) = w (307 + 4 * f + 3) := up_o (by omega)
  have q3 : up w 6 (lcg (w 6)) (307 + 4 * f) = w (307 + 4 * f) := up_o (by omega)
  have e100 : (drW (lcg (w 6))).tmod 100 = drW (lcg (w 6)) % 100 := tm_e d1.1
  rw [q_X0_quarrelOf_0]
  by_cases h1 : drW (lcg (w 6)) % 100 < w 4 + w (307 + 4 * f + 3)
  · obtain ⟨k, hk⟩ : ∃ k : Nat, drW (lcg (lcg (w 6))) % 4 = k := ⟨(drW (lcg (lcg (w 6))) % 4).toNat, by omega⟩
    have hk4 : k < 4 := by omega
    have e4 : (drW (lcg (lcg (w 6)))).tmod 4 = (k : Int) := by rw [tm_e d2.1, hk]
    have hs := sd_lt hm hm36 k hk4
    have D2 := c_draw (sc := sc) (d := d + 1) c R1
    rw [up_s] at D2
    by_cases h2 : sd hm k = -1
    · rw [quar_rim h1 (by rw [hh, hk, Int.toNat_natCast, Int.toNat_natCast]; exact h2)]
      refine ⟨_, g1.tr g2, R2, ?_⟩
      simp (disch := first | (simp (disch := omega) only [w32_id]; omega) | omega) only [↓BC c, c_draw c R, R1.qu, R1.so hf, R1.ho hf, q1, q2, q3, e100, w32_id, h1, hh, D2, e4, c_onSide hm36 hk4, h2, e_clI, e_clV, e_clP, e_clIx, e_clVx, e_clPx, e_xt, Int.toNat_natCast, Int.reduceToNat, bz0, bz1, Nat.add_zero, decide_eq_false_iff_not, decide_eq_true_eq, Int.reduceEq, Nat.reduceEqDiff, Int.reduceLT, Int.reduceLE, not_true_eq_false, not_false_eq_true, ↓reduceIte]
    · obtain ⟨b, hb⟩ : ∃ b : Nat, sd hm k = b := ⟨(sd hm k).toNat, by omega⟩
      have hb60 : b < 60 := by omega
      have hbn : ¬ (b : Int) = -1 := by omega
      have hsd : sd (w (307 + 4 * f)).toNat (drW (lcg (lcg (w 6))) % 4).toNat = b := by rw [hh, hk, Int.toNat_natCast, Int.toNat_natCast]; exact hb
      have q4 : up (up w 6 (lcg (w 6))) 6 (lcg (lcg (w 6))) (7 + 5 * b) = w (7 + 5 * b) := by rw [up_o (by omega), up_o (by omega)]
      by_cases h3 : w (7 + 5 * b) = 1
      · rw [quar_is h1 hsd h3]
        refine ⟨_, g1.tr g2, R2, ?_⟩
        simp (disch := first | (simp (disch := omega) only [w32_id]; omega) | omega) only [↓BC c, c_draw c R, R1.qu, R1.so hf, R1.ho hf, q1, q2, q3, e100, w32_id, h1, hh, D2, e4, c_onSide hm36 hk4, hb, hbn, R2.th hb60, q4, h3, e_clI, e_clV, e_clP, e_clIx, e_clVx, e_clPx, e_xt, Int.toNat_natCast, Int.reduceToNat, bz0, bz1, Nat.add_zero, decide_eq_false_iff_not, decide_eq_true_eq, Int.reduceEq, Nat.reduceEqDiff, Int.reduceLT, Int.reduceLE, not_true_eq_false, not_false_eq_true, ↓reduceIte]
      · have h4 : w (7 + 5 * b) = 0 := by have := V.fe hb60; omega
        rw [quar_go h1 hsd h3]
        obtain ⟨J3, g3, R3, P3⟩ := c_put (sc := sc) (d := d + 1) c R2 V2 hb60 (hi := 0)
        have V3 := feW_w V2 hb60 (ag := 0) (hi := 0) (ga := 0) (st := 0) (by omega) (by omega) (Or.inl rfl) (Or.inl rfl)
        obtain ⟨J4, g4, R4, P4⟩ := c_add (sc := sc) (d := d) c R3 V3 (x := b) (k := 0) (f := f) (hi := 0) (y := J3 a 10) R3.ye
        refine ⟨J4, (g1.tr g2).tr (g3.tr g4), R4, ?_⟩
        simp (disch := first | (simp (disch := omega) only [w32_id]; omega) | omega) only [↓BC c, c_draw c R, R1.qu, R1.so hf, R1.ho hf, q1, q2, q3, e100, w32_id, h1, hh, D2, e4, c_onSide hm36 hk4, hb, hbn, R2.th hb60, q4, h4, P3, P4, e_clI, e_clV, e_clP, e_clIx, e_clVx, e_clPx, e_xt, Int.toNat_natCast, Int.reduceToNat, bz0, bz1, Nat.add_zero, decide_eq_false_iff_not, decide_eq_true_eq, Int.reduceEq, Nat.reduceEqDiff, Int.reduceLT, Int.reduceLE, not_true_eq_false, not_false_eq_true, ↓reduceIte]
  · rw [quar_no h1]
    refine ⟨_, g1, R1, ?_⟩
    simp (disch := first | (simp (disch := omega) only [w32_id]; omega) | omega) only [↓BC c, c_draw c R, R1.qu, R1.so hf, q1, q2, e100, w32_id, h1, e_clI, e_clV, e_clP, e_clIx, e_clVx, e_clPx, e_xt, Int.toNat_natCast, Int.reduceToNat, bz0, bz1, Nat.add_zero, decide_eq_false_iff_not, decide_eq_true_eq, Int.reduceEq, Nat.reduceEqDiff, Int.reduceLT, Int.reduceLE, not_true_eq_false, not_false_eq_true, ↓reduceIte]
theorem m_quarrels (s : Sh h) (S : Mt I w) (hf : f < 6) : ∃ J, Mg I J ∧ J 284 = (quar w f).1 ∧ Cl sc (d + 4) mX12_quarrels [Vr (some 283), Vi (f : Int)] (hI h I) = some (.inl (Vi (quar w f).2), hI h J) := by
  obtain ⟨R, V, M⟩ := S
  have hv := V.fm hf
  have hq := V.ws.2.2.2.2.1
  obtain ⟨hm, hh⟩ : ∃ hm : Nat, w (307 + 4 * f) = hm := ⟨(w (307 + 4 * f)).toNat, by omega⟩
  have hm36 : hm < 36 := by omega
  have V1 := up6_w V (lcg_b (w 6))
  have V2 := up6_w V1 (lcg_b (lcg (w 6)))
  have d1 := drW_b (lcg (w 6))
  have d2 := drW_b (lcg (lcg (w 6)))
  have q1 : up w 6 (lcg (w 6)) 4 = w 4 := up_o (by omega)
  have q2 : up w 6 (lcg (w 6)) (307 + 4 * f + 3) = w (307 + 4 * f + 3) := up_o (by omega)
  have q3 : up w 6 (lcg (w 6)) (307 + 4 * f) = w (307 + 4 * f) := up_o (by omega)
  obtain ⟨J1, g1, w1, P1⟩ := m_drawn (sc := sc) (d := d + 2) s R (n := 100) (by omega)
  rw [q_X12_quarrels_0]
  by_cases h1 : drW (lcg (w 6)) % 100 < w 4 + w (307 + 4 * f + 3)
  · obtain ⟨k, hk⟩ : ∃ k : Nat, drW (lcg (lcg (w 6))) % 4 = k := ⟨(drW (lcg (lcg (w 6))) % 4).toNat, by omega⟩
    have hk4 : k < 4 := by omega
    have hs := sd_lt hm hm36 k hk4
    obtain ⟨J2, g2, w2, P2⟩ := m_drawn (sc := sc) (d := d + 2) s w1 (n := 4) (by omega)
    rw [up_s] at w2 P2
    rw [hk] at P2
    by_cases h2 : sd hm k = -1
    · rw [quar_rim h1 (by rw [hh, hk, Int.toNat_natCast, Int.toNat_natCast]; exact h2)]
      refine ⟨_, g1.tr g2, w2, ?_⟩
      simp (disch := first | (simp (disch := omega) only [w32_id]; omega) | omega) only [↓BM s, P1, w1, m_ofFamily s, q1, q2, q3, w32_id, h1, hh, P2, c_sideOf hm36 hk4, h2, e_clI, e_clV, e_clP, e_clIx, e_clVx, e_clPx, e_xt, Int.toNat_natCast, Int.reduceToNat, bz0, bz1, Nat.add_zero, decide_eq_false_iff_not, decide_eq_true_eq, Int.reduceEq, Nat.reduceEqDiff, Int.reduceLT, Int.reduceLE, not_true_eq_false, not_false_eq_true, ↓reduceIte]
    · obtain ⟨b, hb⟩ : ∃ b : Nat, sd hm k = b := ⟨(sd hm k).toNat, by omega⟩
      have hb60 : b < 60 := by omega
      have hbn : ¬ (b : Int) = -1 := by omega
      have hsd : sd (w (307 + 4 * f)).toNat (drW (lcg (lcg (w 6))) % 4).toNat = b := by rw [hh, hk, Int.toNat_natCast, Int.toNat_natCast]; exact hb
      have q4 : up (up w 6 (lcg (w 6))) 6 (lcg (lcg (w 6))) (7 + 5 * b) = w (7 + 5 * b) := by rw [up_o (by omega), up_o (by omega)]
      by_cases h3 : w (7 + 5 * b) = 1
      · rw [quar_is h1 hsd h3]
        refine ⟨_, g1.tr g2, w2, ?_⟩
        simp (disch := first | (simp (disch := omega) only [w32_id]; omega) | omega) only [↓BM s, P1, w1, m_ofFamily s, q1, q2, q3, w32_id, h1, hh, P2, c_sideOf hm36 hk4, hb, hbn, m_hasFence s, w2, q4, h3, e_clI, e_clV, e_clP, e_clIx, e_clVx, e_clPx, e_xt, Int.toNat_natCast, Int.reduceToNat, bz0, bz1, Nat.add_zero, decide_eq_false_iff_not, decide_eq_true_eq, Int.reduceEq, Nat.reduceEqDiff, Int.reduceLT, Int.reduceLE, not_true_eq_false, not_false_eq_true, ↓reduceIte]
      · rw [quar_go h1 hsd h3]
        obtain ⟨J3, g3, w3, P3⟩ := m_isFence (sc := sc) (d := d + 1) (I := J2) s hb60 (ag := 0) (hi := 0) (ga := 0) (st := 0)
        rw [w2] at w3
        have V3 := feW_w V2 hb60 (ag := 0) (hi := 0) (ga := 0) (st := 0) (by omega) (by omega) (Or.inl rfl) (Or.inl rfl)
        obtain ⟨J4, g4, w4, P4⟩ := m_tells (sc := sc) (d := d + 1) s w3 V3 (x := b) (k := 0) (y := f) (hi := 0)
        refine ⟨J4, (g1.tr g2).tr (g3.tr g4), w4, ?_⟩
        simp (disch := first | (simp (disch := omega) only [w32_id]; omega) | omega) only [↓BM s, P1, w1, m_ofFamily s, q1, q2, q3, w32_id, h1, hh, P2, c_sideOf hm36 hk4, hb, hbn, m_hasFence s, w2, q4, h3, P3, P4, e_clI, e_clV, e_clP, e_clIx, e_clVx, e_clPx, e_xt, Int.toNat_natCast, Int.reduceToNat, bz0, bz1, Nat.add_zero, decide_eq_false_iff_not, decide_eq_true_eq, Int.reduceEq, Nat.reduceEqDiff, Int.reduceLT, Int.reduceLE, not_true_eq_false, not_false_eq_true, ↓reduceIte]
  · rw [quar_no h1]
    refine ⟨_, g1, w1, ?_⟩
    simp (disch := first | (simp (disch := omega) only [w32_id]; omega) | omega) only [↓BM s, P1, w1, m_ofFamily s, q1, q2, w32_id, h1, e_clI, e_clV, e_clP, e_clIx, e_clVx, e_clPx, e_xt, Int.toNat_natCast, Int.reduceToNat, bz0, bz1, Nat.add_zero, decide_eq_false_iff_not, decide_eq_true_eq, Int.reduceEq, Nat.reduceEqDiff, Int.reduceLT, Int.reduceLE, not_true_eq_false, not_false_eq_true, ↓reduceIte]
theorem c_endYear (c : Cty h a) (R : CRep I a w) (V : WW w) : ∃ J, Cg a I J ∧ CRep J a (yEnd w) ∧ Cl sc (d + 2) mX0_endYear [Vr (some a)] (hI h I) = some (.inl (Vx 0), hI h J) := by
  have h3 := V.ws.2.2.2.1
  rw [q_X0_endYear_0]
  simp (disch := first | (simp (disch := omega) only [w32_id]; omega) | omega) only [↓BC c, R.ye, c_min, w32_id, e_clI, e_clV, e_clP, e_clIx, e_clVx, e_clPx, e_xt, Int.toNat_natCast, Int.reduceToNat, bz0, bz1, Nat.add_zero, decide_eq_false_iff_not, decide_eq_true_eq, Int.reduceEq, Nat.reduceEqDiff, Int.reduceLT, Int.reduceLE, not_true_eq_false, not_false_eq_true, ↓reduceIte]
  refine ⟨am_u2 I a 10 (min 9999 (w 3 + 1)), fun p hp _ => u2_o (by omega), R.chS V (fun k h1 h2 => u2_o (by omega)) (fun j hj => up_o (by omega)) ?_, rfl⟩
  unfold SR yEnd
  rw [u2_same, u2_j (by omega), u2_j (by omega), u2_j (by omega), u2_j (by omega), up_s, up_o (by omega), up_o (by omega), up_o (by omega), up_o (by omega)]
  exact ⟨R.fa, rfl, R.qu, R.se, R.te⟩
end
