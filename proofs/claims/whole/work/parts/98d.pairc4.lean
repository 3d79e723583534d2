/-! PAIRS: the class's sets -/
section
variable {sc : Nat × (Nat → Int)} {d a : Nat} {h : am_H} {I J : am_I} {w : am_Wd}
theorem c_firstBest (s : Sh h) {n S : Nat} (hn : n < 7) (h1 : 1 ≤ S) (hS : S < 2 ^ n) (hW : WN (2 ^ n) (vpc I) (I 134)) (hv : ∀ f g, f < g → g < n → 0 ≤ vpc I f g ∧ vpc I f g ≤ 100000) : Cl sc (d + 2) mX6_firstBestPartner [Vr (some 124), Vi (S : Int), Vi (lw S : Int), Vi (n : Int)] (hI h I) = some (.inl (Vi (if ch (vpc I) (I 134) S n = n then -1 else (ch (vpc I) (I 134) S n : Int))), hI h I) := by
  have h64 := two_le hn
  have hS64 : S < 64 := by omega
  have t4 := tb_4 S hS64 h1
  have hr := rs_lt hS64 h1
  have t3 : ∀ k, k < 6 → tb (rs S) k = (tb S k && decide (k ≠ lw S)) := tb_3 S hS64 (lw S) t4.1.2 t4.1.1
  have hfn : lw S < n := tb_6 n hn S hS64 (lw S) t4.1.2 ⟨hS, t4.1.1⟩
  have wr : w32 ((S : Int) - bShl 1 (lw S : Int)) = ((rs S : Nat) : Int) := w_less hS64 t4.1.2 t4.1.1
  have wp := s.wp t4.1.2
  have t1 : rP h 127 (lw S) = some (128 + lw S) := wp.1
  have hf6 : (lw S : Int) < 6 := by omega
  have hS' : (S : Int) < 64 := by omega
  have low : ∀ g, g < lw S + 1 → cnd (vpc I) (I 134) S g = false := fun g hg => by
    unfold cnd
    rw [t3 g (by omega)]
    by_cases e : g = lw S
    · rw [e, decide_eq_false (show ¬ lw S ≠ lw S from fun z => z rfl), Bool.and_false, Bool.false_and]
    · rw [t4.2 g (by omega) (by omega), Bool.false_and, Bool.false_and]
  have cp := ch_p (vp := vpc I) (W := I 134) (S := S) (n := n)
  have go : ∀ m g, g + m = n → lw S + 1 ≤ g → (∀ k, k < g → cnd (vpc I) (I 134) S k = false) → Ru sc (d + 2) mX6_firstBestPartner 11 [Vr (some 124), Vi (S : Int), Vi (lw S : Int), Vi (n : Int), Vi (rs S : Int), Vi (g : Int)] [] (hI h I) = some (.inl (Vi (if ch (vpc I) (I 134) S n = n then -1 else (ch (vpc I) (I 134) S n : Int))), hI h I) := by
    intro m
    induction m with
    | zero =>
      intro g hg hl hk
      have hgn : g = n := by omega
      have e : ch (vpc I) (I 134) S n = n := by
        rcases cp with z | ⟨z1, z2, -⟩
        · exact z.1
        · rw [hk _ (by omega)] at z2
          cases z2
      rw [q_X6_firstBestPartner_11, if_neg (by omega), if_pos e]
    | succ m ih =>
      intro g hg hl hk
      have hlt : (g : Int) < (n : Int) := by omega
      have hg6 : g < 6 := by omega
      have hg6' : (g : Int) < 6 := by omega
      have hg6n : (g : Int) < ((6 : Nat) : Int) := hg6'
      have wn : w32 ((g : Int) + 1) = ((g + 1 : Nat) : Int) := w32_succ (by omega)
      have nx := ih (g + 1) (by omega) (by omega)
      have ev : I (128 + lw S) g = vpc I (lw S) g := (if_pos t4.1.2).symm
      have nof : cnd (vpc I) (I 134) S g = false → ∀ k, k < g + 1 → cnd (vpc I) (I 134) S k = false := fun hc k hk2 => by
        by_cases e : k = g
        · rw [e]; exact hc
        · exact hk k (by omega)
      cases hb : tb (rs S) g
      · rw [q_X6_firstBestPartner_11, if_pos hlt, if_neg (tb_F (by omega) hg6 hb), wn]
        exact nx (nof (by unfold cnd; rw [hb]; rfl))
      · have hvv := hv (lw S) g (by omega) (by omega)
        have bT := (hW.2 (rs S - 2 ^ g) (Nat.lt_of_le_of_lt (Nat.sub_le _ _) (by omega))).1
        have wl := w_less (S := rs S) (by omega) hg6 hb
        have hTl := tb_lt (S := rs S) (by omega) hg6 hb
        rw [q_X6_firstBestPartner_11, if_pos hlt, if_pos (tb_T (by omega) hg6 hb)]
        obtain ⟨T, eT⟩ : ∃ T, T = rs S - 2 ^ g := ⟨_, rfl⟩
        have ec : cnd (vpc I) (I 134) S g = (tb (rs S) g && (decide (0 < vpc I (lw S) g) && decide (vpc I (lw S) g + I 134 T = I 134 S))) := by rw [eT]; rfl
        rw [← eT] at wl hTl bT
        clear nof low t3 eT
        have nof : cnd (vpc I) (I 134) S g = false → ∀ k, k < g + 1 → cnd (vpc I) (I 134) S k = false := fun hc k hk2 => by
          by_cases e : k = g
          · rw [e]; exact hc
          · exact hk k (Nat.lt_of_le_of_ne (Nat.le_of_lt_succ hk2) e)
        have hl64 : (T : Int) < 64 := by clear cp wl wn nof hk nx; omega
        have w1 : w32 (vpc I (lw S) g + I 134 T) = vpc I (lw S) g + I 134 T := by
          clear cp wl wn nof hk nx
          exact w32_id (by omega) (by omega)
        by_cases hp : 0 < vpc I (lw S) g
        · by_cases hq : vpc I (lw S) g + I 134 T = I 134 S
          · have hc : cnd (vpc I) (I 134) S g = true := by
              rw [ec, hb, decide_eq_true hp, decide_eq_true hq]
              rfl
            have e : ch (vpc I) (I 134) S n = g := by
              rcases cp with z | ⟨z1, z2, z3⟩
              · rw [z.2 g (by omega)] at hc
                cases hc
              · rcases Nat.lt_trichotomy g (ch (vpc I) (I 134) S n) with y | y | y
                · rw [z3 g y] at hc
                  cases hc
                · exact y.symm
                · rw [hk _ y] at z2
                  cases z2
            have w2 : w32 (I 134 S) = I 134 S := by rw [← hq]; exact w1
            rw [e, if_neg (by clear w1 w2; omega)]
            simp (disch := first | assumption | exact Int.natCast_nonneg _ | decide) only [↓BN s, hf6, hg6', t1, e_ldA wp.2, ev, hp, wl, hl64, w2, hS', hq, e_clI, e_clV, e_clP, e_clIx, e_clVx, e_clPx, e_xt, Int.toNat_natCast, Int.reduceToNat, bz0, bz1, Nat.add_zero, decide_eq_false_iff_not, decide_eq_true_eq, Int.reduceEq, Nat.reduceEqDiff, Int.reduceLT, Int.reduceLE, not_true_eq_false, not_false_eq_true, eq_self, ↓reduceIte]
          · have hc : cnd (vpc I) (I 134) S g = false := by
              rw [ec, decide_eq_false hq, Bool.and_false, Bool.and_false]
            simp (disch := first | assumption | exact Int.natCast_nonneg _ | decide) only [↓BN s, hf6, hg6', t1, e_ldA wp.2, ev, hp, wl, hl64, w1, hS', hq, wn, e_clI, e_clV, e_clP, e_clIx, e_clVx, e_clPx, e_xt, Int.toNat_natCast, Int.reduceToNat, bz0, bz1, Nat.add_zero, decide_eq_false_iff_not, decide_eq_true_eq, Int.reduceEq, Nat.reduceEqDiff, Int.reduceLT, Int.reduceLE, not_true_eq_false, not_false_eq_true, eq_self, ↓reduceIte]
            exact nx (nof hc)
        · have hc : cnd (vpc I) (I 134) S g = false := by
            rw [ec, decide_eq_false hp, Bool.false_and, Bool.and_false]
          simp (disch := first | assumption | exact Int.natCast_nonneg _ | decide) only [↓BN s, hf6, hg6', t1, e_ldA wp.2, ev, hp, wn, e_clI, e_clV, e_clP, e_clIx, e_clVx, e_clPx, e_xt, Int.toNat_natCast, Int.reduceToNat, bz0, bz1, Nat.add_zero, decide_eq_false_iff_not, decide_eq_true_eq, Int.reduceEq, Nat.reduceEqDiff, Int.reduceLT, Int.reduceLE, not_true_eq_false, not_false_eq_true, eq_self, ↓reduceIte]
          exact nx (nof hc)
  have w1 : w32 ((lw S : Int) + 1) = ((lw S + 1 : Nat) : Int) := w32_succ (by omega)
  rw [q_X6_firstBestPartner_0, wr, w1]
  exact go (n - (lw S + 1)) (lw S + 1) (by omega) (Nat.le_refl _) low
end
