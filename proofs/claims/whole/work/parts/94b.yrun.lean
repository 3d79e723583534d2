/-! A YEAR'S STEPS -/
section
variable {sc : Nat × (Nat → Int)} {d a b : Nat} {h : am_H} {I J : am_I} {w v : am_Wd}
theorem c_grow (c : Cty h a) (ha : a < 290) (S : St h I a w) (hb : b < 60) : ∃ J, Cg a I J ∧ CRep J a (grown w b) ∧ Cl sc (d + 5) mX0_grow [Vr (some a), Vi (b : Int)] (hI h I) = some (.inl (Vx 0), hI h J) := by
  obtain ⟨R, V, M⟩ := S
  have hv := V.fe hb
  rw [q_X0_grow_0]
  unfold grown
  by_cases h1 : w (7 + 5 * b) = 1
  · have hg := grW_b M.ml (b := b)
    obtain ⟨J, g1, g2⟩ := c_growth (sc := sc) (d := d) c ha R V M hb h1
    have R2 := R.ls g1 ha
    simp (disch := first | (simp (disch := omega) only [w32_id]; omega) | omega) only [↓BC c, R.th hb, R.hi hb h1, h1, g2, c_min, c_max, u2_o5, R2.ag hb h1, e_clI, e_clV, e_clP, e_clIx, e_clVx, e_clPx, e_xt, Int.toNat_natCast, Int.reduceToNat, bz0, bz1, Nat.add_zero, decide_eq_false_iff_not, decide_eq_true_eq, Int.reduceEq, Nat.reduceEqDiff, Int.reduceLT, Int.reduceLE, not_true_eq_false, not_false_eq_true, ↓reduceIte]
    rw [w32_id (by omega) (by omega), w32_id (by omega) (by omega)]
    refine ⟨_, ?_, ?_, rfl⟩
    · intro p hp h2
      rw [u2_o (by omega), u2_o (by omega)]
      exact g1 p h2
    · refine R2.chF (b := b) V ?_ (fun k h1 h2 => ?_) (fun k x h1 h2 h3 => ?_) (fun j hj => ?_) hb ?_
      · rw [u2_o (by omega), u2_o (by omega)]
      · rw [u2_o (by omega), u2_o (by omega)]
      · rw [u2_j h3, u2_j h3]
      · rw [up_o (by omega), up_o (by omega)]
      · unfold FR
        rw [up_s, up_o (show 7 + 5 * b ≠ 7 + 5 * b + 1 by omega), up_o (show 7 + 5 * b + 2 ≠ 7 + 5 * b + 1 by omega), up_s, up_o (show 7 + 5 * b + 3 ≠ 7 + 5 * b + 1 by omega), up_o (show 7 + 5 * b + 3 ≠ 7 + 5 * b + 2 by omega), up_o (show 7 + 5 * b + 4 ≠ 7 + 5 * b + 1 by omega), up_o (show 7 + 5 * b + 4 ≠ 7 + 5 * b + 2 by omega), up_o (show 7 + 5 * b ≠ 7 + 5 * b + 2 by omega), u2_same, u2_a (by omega), u2_a (by omega), u2_a (by omega), u2_same, u2_a (by omega), u2_a (by omega), u2_a (by omega), u2_a (by omega)]
        exact ⟨R2.th hb, fun _ => ⟨rfl, rfl, R2.ga hb h1, R2.st hb h1⟩⟩
  · rw [if_neg h1]
    simp (disch := first | (simp (disch := omega) only [w32_id]; omega) | omega) only [↓BC c, R.th hb, e_clI, e_clV, e_clP, e_clIx, e_clVx, e_clPx, e_xt, Int.toNat_natCast, Int.reduceToNat, bz0, bz1, Nat.add_zero, decide_eq_false_iff_not, decide_eq_true_eq, Int.reduceEq, Nat.reduceEqDiff, Int.reduceLT, Int.reduceLE, not_true_eq_false, not_false_eq_true, ↓reduceIte]
    rw [if_pos (by omega)]
    exact ⟨I, Cg.rf a I, R, rfl⟩
theorem m_grows (s : Sh h) (S : Mt I w) (hb : b < 60) : ∃ J, Mg I J ∧ J 284 = grown w b ∧ Cl sc (d + 7) mX12_grows [Vr (some 283), Vi (b : Int)] (hI h I) = some (.inl (Vx 0), hI h J) := by
  obtain ⟨R, V, M⟩ := S
  have hv := V.fe hb
  rw [q_X12_grows_0]
  unfold grown
  by_cases h1 : w (7 + 5 * b) = 1
  · have hg := grW_b M (b := b)
    obtain ⟨J, g1, g2⟩ := m_growsBy (sc := sc) (d := d) s R V M hb
    have R2 := g1.w.trans R
    simp (disch := first | (simp (disch := omega) only [w32_id]; omega) | omega) only [↓BM s, m_hasFence s, m_of s, m_at, R, h1, g2, c_min, c_max, R2, u2_up, up_o, e_clI, e_clV, e_clP, e_clIx, e_clVx, e_clPx, e_xt, Int.toNat_natCast, Int.reduceToNat, bz0, bz1, Nat.add_zero, decide_eq_false_iff_not, decide_eq_true_eq, Int.reduceEq, Nat.reduceEqDiff, Int.reduceLT, Int.reduceLE, not_true_eq_false, not_false_eq_true, ↓reduceIte]
    rw [w32_id (by omega) (by omega), w32_id (by omega) (by omega)]
    refine ⟨_, ?_, ?_, rfl⟩
    · intro p hp h2
      rw [u2_o hp, u2_o hp]
      exact g1 p h2
    · rw [u2_up, u2_up, R2]
  · rw [if_neg h1]
    simp (disch := first | (simp (disch := omega) only [w32_id]; omega) | omega) only [↓BM s, m_hasFence s, R, h1, e_clI, e_clV, e_clP, e_clIx, e_clVx, e_clPx, e_xt, Int.toNat_natCast, Int.reduceToNat, bz0, bz1, Nat.add_zero, decide_eq_false_iff_not, decide_eq_true_eq, Int.reduceEq, Nat.reduceEqDiff, Int.reduceLT, Int.reduceLE, not_true_eq_false, not_false_eq_true, ↓reduceIte]
    exact ⟨I, Mg.rf I, R, rfl⟩
theorem c_draw (c : Cty h a) (R : CRep I a w) : Cl sc (d + 1) mX0_draw [Vr (some a)] (hI h I) = some (.inl (Vi (drW (lcg (w 6)))), hI h (am_u2 I a 12 (lcg (w 6)))) := by
  rw [q_X0_draw_0]
  simp (disch := first | (simp (disch := omega) only [w32_id]; omega) | omega) only [↓BC c, R.se, u2_same, drW_u, e_clI, e_clV, e_clP, e_clIx, e_clVx, e_clPx, e_xt, Int.toNat_natCast, Int.reduceToNat, bz0, bz1, Nat.add_zero, decide_eq_false_iff_not, decide_eq_true_eq, Int.reduceEq, Nat.reduceEqDiff, Int.reduceLT, Int.reduceLE, not_true_eq_false, not_false_eq_true, ↓reduceIte]
  rfl
theorem u12 (c : Cty h a) (R : CRep I a w) (V : WW w) {x : Int} : Cg a I (am_u2 I a 12 x) ∧ CRep (am_u2 I a 12 x) a (up w 6 x) := by
  refine ⟨fun p hp _ => u2_o (by omega), R.chS V (fun k h1 h2 => u2_o (by omega)) (fun j hj => up_o (by omega)) ?_⟩
  unfold SR
  rw [u2_same, u2_j (by omega), u2_j (by omega), u2_j (by omega), u2_j (by omega), up_s, up_o (by omega), up_o (by omega), up_o (by omega), up_o (by omega)]
  exact ⟨R.fa, R.ye, R.qu, rfl, R.te⟩
theorem m_drawn (s : Sh h) (hw : I 284 = w) {n : Int} (hn : 0 < n) : ∃ J, Mg I J ∧ J 284 = up w 6 (lcg (w 6)) ∧ Cl sc (d + 1) mX12_drawn [Vr (some 283), Vi n] (hI h I) = some (.inl (Vi (drW (lcg (w 6)) % n)), hI h J) := by
  have hd := drW_b (lcg (w 6))
  rw [q_X12_drawn_0]
  have e : bAnd (bShr (w32 (w32 (1103515245 * w 6) + 12345)) 16) 32767 = drW (lcg (w 6)) := rfl
  simp (disch := first | (simp (disch := omega) only [w32_id]; omega) | omega) only [↓BM s, u2_up, up_s, hw, e, e_clI, e_clV, e_clP, e_clIx, e_clVx, e_clPx, e_xt, Int.toNat_natCast, Int.reduceToNat, bz0, bz1, Nat.add_zero, decide_eq_false_iff_not, decide_eq_true_eq, Int.reduceEq, Nat.reduceEqDiff, Int.reduceLT, Int.reduceLE, not_true_eq_false, not_false_eq_true, ↓reduceIte]
  rw [if_neg (by omega), tm_e (by omega)]
  refine ⟨_, fun p hp _ => u2_o hp, ?_, rfl⟩
  rw [u2_up, hw]
  rfl
end
