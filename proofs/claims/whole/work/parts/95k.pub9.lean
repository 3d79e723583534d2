/-! CALLS THAT ASK: RESTS -/
theorem td2 : ∀ k : Nat, k < 4 → w32 ((k : Int).tdiv 2) = ((k / 2 : Nat) : Int) := by decide
theorem tm2 : ∀ k : Nat, k < 4 → (k : Int).tmod 2 = ((k % 2 : Nat) : Int) := by decide
theorem sb2 : ∀ k : Nat, k < 2 → w32 (1 - (k : Int)) = 1 - (k : Int) := by decide
theorem mb2 : ∀ a : Nat, a < 2 → ∀ b : Nat, b < 2 → w32 (w32 (2 * (a : Int)) + (b : Int)) = ((2 * a + b : Nat) : Int) := by decide
section
variable {sc : Nat × (Nat → Int)} {d a : Nat} {h : am_H} {I : am_I} {w : am_Wd}
theorem c_rests (c : Cty h a) (R : CRep I a w) (V : WW w) {f g : Nat} (hf : f < 6) (hg : g < 6) : Cl sc (d + 2) mX6_restingChoices [Vr (some 124), Vr (some a), Vi (f : Int), Vi (g : Int)] (hI h I) = some (.inl (Vi (fo (rst w f g) 4 0)), hI h I) := by
  rw [q_X6_restingChoices_0]
  have go : ∀ n, n ≤ 4 → ∃ u6 u7 u8, Ru sc (d + 2) mX6_restingChoices 5 [Vr (some 124), Vr (some a), Vi (f : Int), Vi (g : Int), Vi 0, Vi 0, Vx 0, Vx 0, Vx 0] [] (hI h I) = Ru sc (d + 2) mX6_restingChoices 5 [Vr (some 124), Vr (some a), Vi (f : Int), Vi (g : Int), Vi (fo (rst w f g) n 0), Vi (n : Int), u6, u7, u8] [] (hI h I) := by
    intro n
    induction n with
    | zero => exact fun _ => ⟨_, _, _, rfl⟩
    | succ n ih =>
      intro hn
      obtain ⟨u6, u7, u8, hu⟩ := ih (by omega)
      have hlt : (n : Int) < 4 := by omega
      have hn9 : n < 2147483647 := by omega
      have e : fo (rst w f g) (n + 1) 0 = rst w f g n (fo (rst w f g) n 0) := rfl
      rw [hu, q_X6_restingChoices_5, if_pos hlt, if_neg (by decide), if_neg (by decide), td2 n (by omega), tm2 n (by omega), sb2 (n / 2) (by omega), sb2 (n % 2) (by omega), c_payoff c R V hf, e_clI, c_payoff c R V hf, e_clI, e]
      unfold rst
      by_cases h1 : pay w f (n / 2 : Nat) (n % 2 : Nat) < pay w f (1 - (n / 2 : Nat)) (n % 2 : Nat)
      · rw [if_pos h1, if_pos h1, q_X6_restingChoices_46, if_pos rfl, w32_succ hn9]
        exact ⟨_, _, _, rfl⟩
      · rw [if_neg h1, if_neg h1, c_payoff c R V hg, e_clI, c_payoff c R V hg, e_clI]
        by_cases h2 : pay w g (n % 2 : Nat) (n / 2 : Nat) < pay w g (1 - (n % 2 : Nat)) (n / 2 : Nat)
        · rw [if_pos h2, if_pos h2, q_X6_restingChoices_46, if_pos rfl, w32_succ hn9]
          exact ⟨_, _, _, rfl⟩
        · rw [if_neg h2, if_neg h2, q_X6_restingChoices_46, if_neg (by decide), w32_succ hn9]
          exact ⟨_, _, _, rfl⟩
  obtain ⟨u6, u7, u8, hu⟩ := go 4 (Nat.le_refl 4)
  rw [hu, q_X6_restingChoices_5, if_neg (by omega)]
theorem m_restI (s : Sh h) (V : WW (I 284)) {f g : Nat} (hf : f < 6) (hg : g < 6) {x : Nat} (hx : x < 2) {t : Int} : Ru sc (d + 4) mX12_rests 18 [Vr (some 283), Vi (f : Int), Vi (g : Int), Vi t, Vi (x : Int), Vi 0] [] (hI h I) = Ru sc (d + 4) mX12_rests 12 [Vr (some 283), Vi (f : Int), Vi (g : Int), Vi (rst (I 284) f g (2 * x + 1) (rst (I 284) f g (2 * x) t)), Vi ((x + 1 : Nat) : Int), Vi 2] [] (hI h I) := by
  have st : ∀ (y : Nat) (t : Int), y < 2 → Ru sc (d + 4) mX12_rests 18 [Vr (some 283), Vi (f : Int), Vi (g : Int), Vi t, Vi (x : Int), Vi (y : Int)] [] (hI h I) = Ru sc (d + 4) mX12_rests 18 [Vr (some 283), Vi (f : Int), Vi (g : Int), Vi (rst (I 284) f g (2 * x + y) t), Vi (x : Int), Vi ((y + 1 : Nat) : Int)] [] (hI h I) := by
    intro y t hy
    have e1 : (2 * x + y) / 2 = x := by omega
    have e2 : (2 * x + y) % 2 = y := by omega
    have hlt : (y : Int) < 2 := by omega
    have hn9 : y < 2147483647 := by omega
    rw [q_X12_rests_18, if_pos hlt, (BM s).1, m_payoff s V hf, e_clI, (BM s).1, sb2 x hx, sb2 y hy, m_payoff s V hf, e_clI]
    unfold rst
    rw [e1, e2]
    by_cases h1 : pay (I 284) f x y < pay (I 284) f (1 - (x : Int)) y
    · rw [if_pos h1, if_pos h1, w32_succ hn9]
    · rw [if_neg h1, if_neg h1, (BM s).1, m_payoff s V hg, e_clI, (BM s).1, m_payoff s V hg, e_clI]
      by_cases h2 : pay (I 284) g y x < pay (I 284) g (1 - (y : Int)) x
      · rw [if_pos h2, if_pos h2, w32_succ hn9]
      · rw [if_neg h2, if_neg h2, w32_succ hn9, mb2 x hx y hy]
  refine (st 0 t (by omega)).trans ((st 1 _ (by omega)).trans ?_)
  rw [q_X12_rests_18, if_neg (by omega), w32_succ (by omega)]
  rfl
theorem p_rests (r : Rel h I) {x y : Int} : Pub h I (Cl sc (d + 30) mX11_rests [Vr (some 0), Vi x, Vi y]) (Cl sc (d + 30) mX12_rests [Vr (some 283), Vi x, Vi y]) cdB := by
  have R := r.R
  have V := r.V
  have hF := V.fa
  by_cases hx : (0 ≤ x ∧ x < I 284 0) ∧ 0 ≤ y ∧ y < I 284 0
  · obtain ⟨f, rfl⟩ : ∃ f : Nat, x = f := ⟨x.toNat, by omega⟩
    obtain ⟨g, rfl⟩ : ∃ g : Nat, y = g := ⟨y.toNat, by omega⟩
    have hf : f < 6 := by omega
    have hg : g < 6 := by omega
    by_cases hfg : f = g
    · subst hfg
      refine pubQ (x := 1) (v := 0) (v' := 0) r (CO.no (J := I) (by decide) ?_ (Same.rf I)) (fun h1 J1 r1 e1 => ?_) (fun h => absurd h (by decide))
      · rw [q_X11_rests_0]
        simp (disch := first | (simp (disch := omega) only [w32_id]; omega) | omega) only [↓BO r.1, c_nTy r.1 r.fa hx.1, e_clI, e_clV, e_clP, e_clIx, e_clVx, e_clPx, e_xt, Int.toNat_natCast, Int.reduceToNat, bz0, bz1, Nat.add_zero, decide_eq_false_iff_not, decide_eq_true_eq, Int.reduceEq, Nat.reduceEqDiff, Int.reduceLT, Int.reduceLE, not_true_eq_false, not_false_eq_true, ↓reduceIte]
      · refine MO.thr ?_
        have V1 : WW (J1 284) := by rw [e1.w]; exact V
        have hx2 : 0 ≤ (f : Int) ∧ (f : Int) < J1 284 0 := by rw [e1.w]; exact hx.1
        rw [q_X12_rests_0]
        simp (disch := first | (simp (disch := omega) only [w32_id]; omega) | omega) only [↓BM r1.1, m_nTy r1.1 V1 hx2, e_clI, e_clV, e_clP, e_clIx, e_clVx, e_clPx, e_xt, Int.toNat_natCast, Int.reduceToNat, bz0, bz1, Nat.add_zero, decide_eq_false_iff_not, decide_eq_true_eq, Int.reduceEq, Nat.reduceEqDiff, Int.reduceLT, Int.reduceLE, not_true_eq_false, not_false_eq_true, ↓reduceIte]
        try rfl
    · have hfg2 : (f : Int) ≠ (g : Int) := by omega
      refine pubQ (x := 0) (v := fo (rst (I 284) f g) 4 0) r (CO.ok ?_ (Same.rf I)) (fun h1 J1 r1 e1 => ?_) (fun _ => rfl)
      · rw [q_X11_rests_0]
        simp (disch := first | (simp (disch := omega) only [w32_id]; omega) | omega) only [↓BO r.1, ↓BC r.c, ↓BN r.1, c_nT r.1 r.fa hx.1 hx.2 hfg2, c_rests r.c R V hf hg, e_clI, e_clV, e_clP, e_clIx, e_clVx, e_clPx, e_xt, Int.toNat_natCast, Int.reduceToNat, bz0, bz1, Nat.add_zero, decide_eq_false_iff_not, decide_eq_true_eq, Int.reduceEq, Nat.reduceEqDiff, Int.reduceLT, Int.reduceLE, not_true_eq_false, not_false_eq_true, ↓reduceIte]
      · refine MO.ok0 ?_
        have V1 : WW (J1 284) := by rw [e1.w]; exact V
        have V2 : WW (am_u2 J1 283 0 0 284) := by rw [w283, e1.w]; exact V
        have hx2 : 0 ≤ (f : Int) ∧ (f : Int) < J1 284 0 := by rw [e1.w]; exact hx.1
        have hy2 : 0 ≤ (g : Int) ∧ (g : Int) < J1 284 0 := by rw [e1.w]; exact hx.2
        have k0 := m_restI (sc := sc) (d := d + 26) (t := 0) r1.1 V2 hf hg (x := 0) (by omega)
        have k1 := m_restI (sc := sc) (d := d + 26) (t := rst (I 284) f g 1 (rst (I 284) f g 0 0)) r1.1 V2 hf hg (x := 1) (by omega)
        rw [w283, e1.w] at k0 k1
        rw [q_X12_rests_0]
        simp (disch := first | (simp (disch := omega) only [w32_id]; omega) | omega) only [↓BM r1.1, m_nT r1.1 V1 hx2 hy2 hfg2, e_clI, e_clV, e_clP, e_clIx, e_clVx, e_clPx, e_xt, Int.toNat_natCast, Int.reduceToNat, bz0, bz1, Nat.add_zero, decide_eq_false_iff_not, decide_eq_true_eq, Int.reduceEq, Nat.reduceEqDiff, Int.reduceLT, Int.reduceLE, not_true_eq_false, not_false_eq_true, ↓reduceIte]
        rw [q_X12_rests_12, if_pos (by decide)]
        refine k0.trans ?_
        rw [q_X12_rests_12, if_pos (by omega)]
        refine k1.trans ?_
        rw [q_X12_rests_12, if_neg (by omega)]
        simp only [fo, Nat.reduceMul, Nat.reduceAdd]
  · refine pubQ (x := 3) (v := 0) (v' := 0) r (CO.no (J := I) (by decide) ?_ (Same.rf I)) (fun h1 J1 r1 e1 => ?_) (fun h => absurd h (by decide))
    · rw [q_X11_rests_0]
      simp (disch := first | (simp (disch := omega) only [w32_id]; omega) | omega) only [↓BO r.1, c_nTx r.1 r.fa hx, e_clI, e_clV, e_clP, e_clIx, e_clVx, e_clPx, e_xt, Int.toNat_natCast, Int.reduceToNat, bz0, bz1, Nat.add_zero, decide_eq_false_iff_not, decide_eq_true_eq, Int.reduceEq, Nat.reduceEqDiff, Int.reduceLT, Int.reduceLE, not_true_eq_false, not_false_eq_true, ↓reduceIte]
    · refine MO.thr ?_
      have V1 : WW (J1 284) := by rw [e1.w]; exact V
      have hx2 : ¬ ((0 ≤ x ∧ x < J1 284 0) ∧ 0 ≤ y ∧ y < J1 284 0) := by rw [e1.w]; exact hx
      rw [q_X12_rests_0]
      simp (disch := first | (simp (disch := omega) only [w32_id]; omega) | omega) only [↓BM r1.1, m_nTx r1.1 V1 hx2, e_clI, e_clV, e_clP, e_clIx, e_clVx, e_clPx, e_xt, Int.toNat_natCast, Int.reduceToNat, bz0, bz1, Nat.add_zero, decide_eq_false_iff_not, decide_eq_true_eq, Int.reduceEq, Nat.reduceEqDiff, Int.reduceLT, Int.reduceLE, not_true_eq_false, not_false_eq_true, ↓reduceIte]
      try rfl
end
