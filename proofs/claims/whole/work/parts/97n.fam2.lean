/-! FAMILY -/
section
variable {sc : Nat × (Nat → Int)} {d a : Nat} {h : am_H} {I J : am_I} {w : am_Wd} {lb : Nat → Nat}
theorem c_gain (s : Sh h) {E : Nat → Bool} (P : PcI lc mc E 36 60 lb I) {hm b : Nat} (hm36 : hm < 36) (hb : b < 60) : Cl sc (d + 2) mX8_gain [Vr (some 48), Vi (hm : Int), Vi (b : Int)] (hI h I) = some (.inl (Vi (gaI lb hm b)), hI h I) := by
  have l1 := lc_lt b hb
  have l2 := mc_lt b hb
  have t1 := c_areTogether (sc := sc) (d := d) s P (by omega) l1 l2
  have t2 := c_areTogether (sc := sc) (d := d) s P (by omega) hm36 l1
  have t3 := c_areTogether (sc := sc) (d := d) s P (by omega) hm36 l2
  have n1 := c_nodesWith (sc := sc) (d := d) s P (by omega) l1
  have n2 := c_nodesWith (sc := sc) (d := d) s P (by omega) l2
  rw [q_X8_gain_0]
  unfold gaI
  by_cases g : lb (lc b) = lb (mc b)
  · simp (disch := first | (simp (disch := omega) only [w32_id]; omega) | omega) only [↓BP s, c_lessCell hb, c_moreCell hb, t1, g, decide_true, Bool.true_eq_false, e_clI, e_clV, e_clP, e_clIx, e_clVx, e_clPx, e_xt, Int.toNat_natCast, Int.reduceToNat, bz0, bz1, Nat.add_zero, decide_eq_false_iff_not, decide_eq_true_eq, Int.reduceEq, Nat.reduceEqDiff, Int.reduceLT, Int.reduceLE, not_true_eq_false, not_false_eq_true, eq_self, ↓reduceIte]
  · by_cases g1 : lb hm = lb (lc b)
    · simp (disch := first | (simp (disch := omega) only [w32_id]; omega) | omega) only [↓BP s, c_lessCell hb, c_moreCell hb, t1, g, decide_false, t2, n2, g1, decide_true, Bool.true_eq_false, e_clI, e_clV, e_clP, e_clIx, e_clVx, e_clPx, e_xt, Int.toNat_natCast, Int.reduceToNat, bz0, bz1, Nat.add_zero, decide_eq_false_iff_not, decide_eq_true_eq, Int.reduceEq, Nat.reduceEqDiff, Int.reduceLT, Int.reduceLE, not_true_eq_false, not_false_eq_true, eq_self, ↓reduceIte]
    · by_cases g2 : lb hm = lb (mc b)
      · have g3 : ¬ lb (mc b) = lb (lc b) := fun z => g z.symm
        simp (disch := first | (simp (disch := omega) only [w32_id]; omega) | omega) only [↓BP s, c_lessCell hb, c_moreCell hb, t1, g, decide_false, t2, g1, t3, g2, g3, n1, decide_true, Bool.true_eq_false, e_clI, e_clV, e_clP, e_clIx, e_clVx, e_clPx, e_xt, Int.toNat_natCast, Int.reduceToNat, bz0, bz1, Nat.add_zero, decide_eq_false_iff_not, decide_eq_true_eq, Int.reduceEq, Nat.reduceEqDiff, Int.reduceLT, Int.reduceLE, not_true_eq_false, not_false_eq_true, eq_self, ↓reduceIte]
      · simp (disch := first | (simp (disch := omega) only [w32_id]; omega) | omega) only [↓BP s, c_lessCell hb, c_moreCell hb, t1, g, decide_false, t2, g1, t3, g2, e_clI, e_clV, e_clP, e_clIx, e_clVx, e_clPx, e_xt, Int.toNat_natCast, Int.reduceToNat, bz0, bz1, Nat.add_zero, decide_eq_false_iff_not, decide_eq_true_eq, Int.reduceEq, Nat.reduceEqDiff, Int.reduceLT, Int.reduceLE, not_true_eq_false, not_false_eq_true, eq_self, ↓reduceIte]
theorem puF_b {w : am_Wd} {hm : Nat} {t : Int} : ∀ {n : Nat}, 0 ≤ (fo (puF w lb hm t) n (-1, 0)).2 ∧ (fo (puF w lb hm t) n (-1, 0)).2 ≤ 36
  | 0 => ⟨Int.le_refl 0, (by show (0 : Int) ≤ 36; omega)⟩
  | n + 1 => by
    have ih := puF_b (w := w) (hm := hm) (t := t) (n := n)
    show 0 ≤ (puF w lb hm t n (fo (puF w lb hm t) n (-1, 0))).2 ∧ (puF w lb hm t n (fo (puF w lb hm t) n (-1, 0))).2 ≤ 36
    generalize fo (puF w lb hm t) n (-1, 0) = z at ih ⊢
    have := gaI_b (lb := lb) (hm := hm) (b := n)
    unfold puF
    split
    · exact ih
    · split
      · exact this
      · exact ih
theorem c_bestPull (s : Sh h) (R : CRep I 11 (I 284)) (V : WW (I 284)) {f : Nat} (hf : f < 6) : ∃ J lb, (Ps I J ∧ PcI lc mc (opE (I 284) (I 284 (307 + 4 * f + 1)) (-1)) 36 60 lb J) ∧ Cl sc (d + 3) mX11_bestPull [Vr (some 0), Vi (f : Int)] (hI h I) = some (.inl (Vi (fo (puF (I 284) lb (hmW (I 284) f) (I 284 (307 + 4 * f + 1))) 60 (-1, 0)).1), hI h J) := by
  have c := cty_of s isC_now
  obtain ⟨J, lb, ⟨k1, k2⟩, k3⟩ := c_ofCells (sc := sc) (d := d) (t := I 284 (307 + 4 * f + 1)) (x := -1) s c (by omega) R V
  have R2 : CRep J 11 (I 284) := k1.ks.c (by omega) R
  have e1 := hmW_e V hf
  have o1 := R.cl hf
  have o2 := R2.ho hf
  refine ⟨J, lb, ⟨k1, k2⟩, ?_⟩
  have go : ∀ n, n ≤ 60 → ∃ u, Ru sc (d + 3) mX11_bestPull 20 [Vr (some 0), Vi (f : Int), Vi (I 284 (307 + 4 * f + 1)), Vi (-1), Vi 0, Vi 0, Vx 0] [] (hI h J) = Ru sc (d + 3) mX11_bestPull 20 [Vr (some 0), Vi (f : Int), Vi (I 284 (307 + 4 * f + 1)), Vi (fo (puF (I 284) lb (hmW (I 284) f) (I 284 (307 + 4 * f + 1))) n (-1, 0)).1, Vi (fo (puF (I 284) lb (hmW (I 284) f) (I 284 (307 + 4 * f + 1))) n (-1, 0)).2, Vi (n : Int), u] [] (hI h J) := by
    intro n
    induction n with
    | zero => exact fun _ => ⟨_, rfl⟩
    | succ n ih =>
      intro hn
      obtain ⟨u, hu⟩ := ih (by omega)
      have hlt : (n : Int) < 60 := by omega
      have hn60 : n < 60 := by omega
      have hb := puF_b (w := I 284) (lb := lb) (hm := hmW (I 284) f) (t := I 284 (307 + 4 * f + 1)) (n := n)
      have hg := c_gain (sc := sc) (d := d) s k2 e1.2 hn60
      have ho := c_isOpen (sc := sc) (d := d + 1) (t := I 284 (307 + 4 * f + 1)) c R2 V hn60
      have es : fo (puF (I 284) lb (hmW (I 284) f) (I 284 (307 + 4 * f + 1))) (n + 1) (-1, 0) = puF (I 284) lb (hmW (I 284) f) (I 284 (307 + 4 * f + 1)) n (fo (puF (I 284) lb (hmW (I 284) f) (I 284 (307 + 4 * f + 1))) n (-1, 0)) := rfl
      rw [hu, q_X11_bestPull_20, es]
      generalize fo (puF (I 284) lb (hmW (I 284) f) (I 284 (307 + 4 * f + 1))) n (-1, 0) = z at hb
      obtain ⟨z1, z2⟩ := z
      try dsimp only at hb ⊢
      unfold puF
      cases hE : opW (I 284) n (I 284 (307 + 4 * f + 1))
      · rw [hE] at ho
        refine ⟨Vi (gaI lb (hmW (I 284) f) n), ?_⟩
        simp (disch := first | (simp (disch := omega) only [w32_id]; omega) | omega) only [↓BO s, ↓BC c, ↓BP s, hlt, ho, o2, e1.1, hg, w32_succ, Bool.false_eq_true, e_clI, e_clV, e_clP, e_clIx, e_clVx, e_clPx, e_xt, Int.toNat_natCast, Int.reduceToNat, bz0, bz1, Nat.add_zero, decide_eq_false_iff_not, decide_eq_true_eq, Int.reduceEq, Nat.reduceEqDiff, Int.reduceLT, Int.reduceLE, not_true_eq_false, not_false_eq_true, eq_self, ↓reduceIte]
        split <;> rfl
      · rw [hE] at ho
        have hz : ¬ z2 < 0 := by omega
        refine ⟨Vi 0, ?_⟩
        simp (disch := first | (simp (disch := omega) only [w32_id]; omega) | omega) only [↓BO s, ↓BC c, hlt, ho, hz, w32_succ, Bool.true_eq_false, e_clI, e_clV, e_clP, e_clIx, e_clVx, e_clPx, e_xt, Int.toNat_natCast, Int.reduceToNat, bz0, bz1, Nat.add_zero, decide_eq_false_iff_not, decide_eq_true_eq, Int.reduceEq, Nat.reduceEqDiff, Int.reduceLT, Int.reduceLE, not_true_eq_false, not_false_eq_true, eq_self, ↓reduceIte]
  obtain ⟨u, hu⟩ := go 60 (Nat.le_refl 60)
  rw [q_X11_bestPull_0]
  simp (disch := first | (simp (disch := omega) only [w32_id]; omega) | omega) only [↓BO s, ↓BC c, ↓BP s, o1, k3, e_clI, e_clV, e_clP, e_clIx, e_clVx, e_clPx, e_xt, Int.toNat_natCast, Int.reduceToNat, bz0, bz1, Nat.add_zero, decide_eq_false_iff_not, decide_eq_true_eq, Int.reduceEq, Nat.reduceEqDiff, Int.reduceLT, Int.reduceLE, not_true_eq_false, not_false_eq_true, eq_self, ↓reduceIte]
  rw [hu, q_X11_bestPull_20, if_neg (by omega)]
theorem opS_pu {w : am_Wd} {t : Int} {b : Nat} : opS w (-1) (b : Int) b t = true ∧ ∀ x, x ≠ b → opS w (-1) (b : Int) x t = opE w t (-1) x := by
  unfold opS opE
  refine ⟨?_, fun x hx => ?_⟩
  · rw [decide_eq_true (show (b : Int) ≠ -1 by omega), decide_eq_true rfl]
    rfl
  · rw [decide_eq_false (show ¬ (x : Int) = (b : Int) by omega), Bool.false_or]
theorem m_givesOf (s : Sh h) (V : WW (I 284)) (h18 : I 283 18 = -1) (h19 : I 283 19 = -1) {f : Nat} (hf : f < 6) (r1 : ∀ u, u < 36 → lb u < 36 ∧ lb (lb u) = lb u) (k1 : ∀ u v, u < 36 → v < 36 → (lb u = lb v ↔ conn lc mc (opE (I 284) (I 284 (307 + 4 * f + 1)) (-1)) 60 u v)) : ∃ J, (Same I J ∧ J 283 0 = I 283 0) ∧ Cl sc (d + 9) mX12_givesOf [Vr (some 283), Vi (f : Int)] (hI h I) = some (.inl (Vi (fo (puF (I 284) lb (hmW (I 284) f) (I 284 (307 + 4 * f + 1))) 60 (-1, 0)).1), hI h J) := by
  have e1 := hmW_e V hf
  obtain ⟨G, g1, g2⟩ := m_waysOf (sc := sc) (d := d) (I := I) s V hf
  rw [h18, h19] at g1
  have w1 := ways_eq V e1.2 k1 opE_f g1
  rw [← w1] at g2
  have bb := nn_b (p := fun v => decide (lb v = lb (hmW (I 284) f))) (N := 36)
  generalize hB : nn (fun v => decide (lb v = lb (hmW (I 284) f))) 36 = B at g2 bb
  have go : ∀ n, n ≤ 60 → ∃ (L : am_I) (u : am_V), (Same I L ∧ L 284 = I 284 ∧ L 283 = I 283) ∧ Ru sc (d + 9) mX12_givesOf 9 [Vr (some 283), Vi (f : Int), Vi (-1), Vi B, Vi 0, Vx 0] [] (hI h (sr I 292 G)) = Ru sc (d + 9) mX12_givesOf 9 [Vr (some 283), Vi (f : Int), Vi (fo (puF (I 284) lb (hmW (I 284) f) (I 284 (307 + 4 * f + 1))) n (-1, 0)).1, Vi (B + (fo (puF (I 284) lb (hmW (I 284) f) (I 284 (307 + 4 * f + 1))) n (-1, 0)).2), Vi (n : Int), u] [] (hI h L) := by
    intro n
    induction n with
    | zero =>
      intro _
      refine ⟨sr I 292 G, Vx 0, ⟨sr292, sr_ne (by decide), sr_ne (by decide)⟩, ?_⟩
      rw [show fo (puF (I 284) lb (hmW (I 284) f) (I 284 (307 + 4 * f + 1))) 0 (-1, 0) = (-1, 0) from rfl, Int.add_zero]
      rfl
    | succ n ih =>
      intro hn
      obtain ⟨L, u, ⟨a1, a2, a3⟩, a4⟩ := ih (by omega)
      have hlt : (n : Int) < 60 := by omega
      have hn60 : n < 60 := by omega
      have hb := puF_b (w := I 284) (lb := lb) (hm := hmW (I 284) f) (t := I 284 (307 + 4 * f + 1)) (n := n)
      have ho := m_isOpen (sc := sc) (d := d + 4) (I := L) (t := I 284 (307 + 4 * f + 1)) s hn60
      rw [a2, a3, h18, h19, opS_no] at ho
      have es : fo (puF (I 284) lb (hmW (I 284) f) (I 284 (307 + 4 * f + 1))) (n + 1) (-1, 0) = puF (I 284) lb (hmW (I 284) f) (I 284 (307 + 4 * f + 1)) n (fo (puF (I 284) lb (hmW (I 284) f) (I 284 (307 + 4 * f + 1))) n (-1, 0)) := rfl
      rw [a4, q_X12_givesOf_9, es]
      generalize fo (puF (I 284) lb (hmW (I 284) f) (I 284 (307 + 4 * f + 1))) n (-1, 0) = z at hb
      obtain ⟨z1, z2⟩ := z
      try dsimp only at hb ⊢
      unfold puF
      cases hE : opW (I 284) n (I 284 (307 + 4 * f + 1))
      · rw [hE] at ho
        have V3 : WW (am_u2 L 283 19 (n : Int) 284) := by rw [u2_o (by decide), a2]; exact V
        obtain ⟨G2, q1, q2⟩ := m_waysOf (sc := sc) (d := d) (I := am_u2 L 283 19 (n : Int)) s V3 hf
        rw [u2_o (by decide), u2_j (by decide), u2_same, a2, a3, h18] at q1
        have kk := add_one hn60 (E' := fun b => opS (I 284) (-1) (n : Int) b (I 284 (307 + 4 * f + 1))) (E := opE (I 284) (I 284 (307 + 4 * f + 1)) (-1)) opS_pu.1 opS_pu.2 (by
          unfold opE
          rw [hE, Bool.and_false]) r1 k1
        have w2 := ways_eq V e1.2 kk rfl q1
        rw [ga_jn, hB] at w2
        rw [← w2] at q2
        have hga := gaI_b (lb := lb) (hm := hmW (I 284) f) (b := n)
        refine ⟨am_u2 (sr (am_u2 L 283 19 (n : Int)) 292 G2) 283 19 (-1), Vi (B + gaI lb (hmW (I 284) f) n), ⟨?_, ?_, ?_⟩, ?_⟩
        · intro k j hk
          have h1 : k ≠ 292 := fun e => hk (by unfold scr; omega)
          by_cases e : k = 283 ∧ j = 19
          · rw [e.1, e.2, u2_same]
            exact h19.symm
          · have z9 : am_u2 (sr (am_u2 L 283 19 (n : Int)) 292 G2) 283 19 (-1) k j = L k j := by
              unfold am_u2
              rw [if_neg e, sr_ne h1, if_neg e]
            rw [z9]
            exact a1 k j hk
        · rw [u2_o (by decide), sr_ne (by decide), u2_o (by decide)]
          exact a2
        · funext j
          by_cases e : j = 19
          · rw [e, u2_same]
            exact h19.symm
          · rw [u2_j e, sr_ne (by decide), u2_j e, a3]
        · simp (disch := first | (simp (disch := omega) only [w32_id]; omega) | omega) only [↓BM s, hlt, m_ofFamily s, a2, ho, q2, c_max, w32_succ, Bool.false_eq_true, e_clI, e_clV, e_clP, e_clIx, e_clVx, e_clPx, e_xt, Int.toNat_natCast, Int.reduceToNat, bz0, bz1, Nat.add_zero, decide_eq_false_iff_not, decide_eq_true_eq, Int.reduceEq, Nat.reduceEqDiff, Int.reduceLT, Int.reduceLE, not_true_eq_false, not_false_eq_true, eq_self, ↓reduceIte]
          by_cases g9 : z2 < gaI lb (hmW (I 284) f) n
          · rw [if_pos (by omega), if_pos g9, Int.max_eq_right (by omega)]
          · rw [if_neg (by omega), if_neg g9, Int.max_eq_left (by omega)]
      · rw [hE] at ho
        refine ⟨L, u, ⟨a1, a2, a3⟩, ?_⟩
        simp (disch := first | (simp (disch := omega) only [w32_id]; omega) | omega) only [↓BM s, hlt, m_ofFamily s, a2, ho, w32_succ, Bool.true_eq_false, e_clI, e_clV, e_clP, e_clIx, e_clVx, e_clPx, e_xt, Int.toNat_natCast, Int.reduceToNat, bz0, bz1, Nat.add_zero, decide_eq_false_iff_not, decide_eq_true_eq, Int.reduceEq, Nat.reduceEqDiff, Int.reduceLT, Int.reduceLE, not_true_eq_false, not_false_eq_true, eq_self, ↓reduceIte]
  obtain ⟨L, u, ⟨a1, a2, a3⟩, a4⟩ := go 60 (Nat.le_refl 60)
  refine ⟨L, ⟨a1, by rw [a3]⟩, ?_⟩
  rw [q_X12_givesOf_0]
  simp (disch := first | (simp (disch := omega) only [w32_id]; omega) | omega) only [↓BM s, g2, e_clI, e_clV, e_clP, e_clIx, e_clVx, e_clPx, e_xt, Int.toNat_natCast, Int.reduceToNat, bz0, bz1, Nat.add_zero, decide_eq_false_iff_not, decide_eq_true_eq, Int.reduceEq, Nat.reduceEqDiff, Int.reduceLT, Int.reduceLE, not_true_eq_false, not_false_eq_true, eq_self, ↓reduceIte]
  rw [a4, q_X12_givesOf_9, if_neg (by omega)]
end
