/-! PAIRS: the class's sets -/
def AtB (vp : Nat → Nat → Int) (W : Nat → Int) (S : Nat) (B : Int) : Prop := B = W (rs S) ∨ ∃ g, g < 6 ∧ tb (rs S) g = true ∧ B = vp (lw S) g + W (rs S - 2 ^ g)
section
variable {sc : Nat × (Nat → Int)} {d a : Nat} {h : am_H} {I J : am_I} {w : am_Wd}
theorem tb_F {S g : Nat} (hS : S < 64) (hg : g < 6) (hb : tb S g = false) : ¬ bAnd (bShr (S : Int) (g : Int)) 1 = 1 := by
  rw [tb_1 S hS g hg, hb]
  decide
theorem tb_T {S g : Nat} (hS : S < 64) (hg : g < 6) (hb : tb S g = true) : bAnd (bShr (S : Int) (g : Int)) 1 = 1 := by
  rw [tb_1 S hS g hg, hb]
  rfl
theorem tb_F0 {S g : Nat} (hS : S < 64) (hg : g < 6) (hb : tb S g = false) : bAnd (bShr (S : Int) (g : Int)) 1 = 0 := by
  rw [tb_1 S hS g hg, hb]
  rfl
theorem c_bestWorth (s : Sh h) {n S : Nat} (hn : n < 7) (h1 : 1 ≤ S) (hS : S < 2 ^ n) (hW : WN S (vpc I) (I 134)) (hv : ∀ f g, f < g → g < n → 0 ≤ vpc I f g ∧ vpc I f g ≤ 100000) : ∃ B, ((I 134 (rs S) ≤ B ∧ ∀ g, g < 6 → tb (rs S) g = true → vpc I (lw S) g + I 134 (rs S - 2 ^ g) ≤ B) ∧ AtB (vpc I) (I 134) S B ∧ (0 ≤ B ∧ B ≤ 100000 * S)) ∧ Cl sc (d + 2) mX6_bestWorth [Vr (some 124), Vi (S : Int), Vi (n : Int)] (hI h I) = some (.inl (Vi B), hI h I) := by
  have h64 := two_le hn
  have hS64 : S < 64 := by omega
  have t4 := tb_4 S hS64 h1
  have hr := rs_lt hS64 h1
  have t3 : ∀ k, k < 6 → tb (rs S) k = (tb S k && decide (k ≠ lw S)) := tb_3 S hS64 (lw S) t4.1.2 t4.1.1
  have hfn : lw S < n := tb_6 n hn S hS64 (lw S) t4.1.2 ⟨hS, t4.1.1⟩
  have hgt : ∀ k, k < 6 → tb (rs S) k = true → lw S < k ∧ k < n := fun k hk hb => by
    rw [t3 k hk, Bool.and_eq_true, decide_eq_true_eq] at hb
    refine ⟨?_, tb_6 n hn S hS64 k hk ⟨hS, hb.1⟩⟩
    rcases Nat.lt_or_ge k (lw S) with y | y
    · rw [t4.2 k hk y] at hb
      cases hb.1
    · omega
  have wr : w32 ((S : Int) - bShl 1 (lw S : Int)) = ((rs S : Nat) : Int) := w_less hS64 t4.1.2 t4.1.1
  have hr64 : (rs S : Int) < 64 := by omega
  have bW : ∀ T, T ≤ rs S → 0 ≤ I 134 T ∧ I 134 T ≤ 100000 * T := fun T hT => (hW.2 T (by omega)).1
  have wp := s.wp t4.1.2
  have t1 : rP h 127 (lw S) = some (128 + lw S) := wp.1
  have hf6 : (lw S : Int) < 6 := by omega
  have go : ∀ m, lw S + 1 + m ≤ n → ∃ B, ((I 134 (rs S) ≤ B ∧ ∀ g, g < lw S + 1 + m → tb (rs S) g = true → vpc I (lw S) g + I 134 (rs S - 2 ^ g) ≤ B) ∧ AtB (vpc I) (I 134) S B ∧ (0 ≤ B ∧ B ≤ 100000 * S)) ∧ Ru sc (d + 2) mX6_bestWorth 19 [Vr (some 124), Vi (S : Int), Vi (n : Int), Vi (lw S : Int), Vi (rs S : Int), Vi (I 134 (rs S)), Vi ((lw S + 1 : Nat) : Int)] [] (hI h I) = Ru sc (d + 2) mX6_bestWorth 19 [Vr (some 124), Vi (S : Int), Vi (n : Int), Vi (lw S : Int), Vi (rs S : Int), Vi B, Vi ((lw S + 1 + m : Nat) : Int)] [] (hI h I) := by
    intro m
    induction m with
    | zero =>
      intro _
      have b0 := bW (rs S) (Nat.le_refl _)
      refine ⟨I 134 (rs S), ⟨⟨Int.le_refl _, fun g hg hb => ?_⟩, Or.inl rfl, by omega⟩, rfl⟩
      have := hgt g (by omega) hb
      omega
    | succ m ih =>
      intro hm
      obtain ⟨B, ⟨⟨b1, b2⟩, b3, b4⟩, b5⟩ := ih (by omega)
      have hlt : ((lw S + 1 + m : Nat) : Int) < (n : Int) := by omega
      have hg6 : lw S + 1 + m < 6 := by omega
      have hg6' : ((lw S + 1 + m : Nat) : Int) < 6 := by omega
      have hg6n : ((lw S + 1 + m : Nat) : Int) < ((6 : Nat) : Int) := hg6'
      have wn : w32 (((lw S + 1 + m : Nat) : Int) + 1) = ((lw S + 1 + (m + 1) : Nat) : Int) := w32_succ (by omega)
      cases hb : tb (rs S) (lw S + 1 + m)
      · refine ⟨B, ⟨⟨b1, fun g hg h2 => ?_⟩, b3, b4⟩, ?_⟩
        · by_cases e : g = lw S + 1 + m
          · rw [e, hb] at h2
            cases h2
          · exact b2 g (by omega) h2
        · rw [b5, q_X6_bestWorth_19, if_pos hlt, if_neg (tb_F (by omega) hg6 hb), wn]
      · have hvv := hv (lw S) (lw S + 1 + m) (by omega) (by omega)
        have wl := w_less (S := rs S) (by omega) hg6 hb
        have hTl := tb_lt (S := rs S) (by omega) hg6 hb
        have ev : I (128 + lw S) (lw S + 1 + m) = vpc I (lw S) (lw S + 1 + m) := (if_pos t4.1.2).symm
        have b2' := b2
        have eT : ∃ T, T = rs S - 2 ^ (lw S + 1 + m) := ⟨_, rfl⟩
        obtain ⟨T, eT⟩ := eT
        rw [← eT] at wl hTl
        have bT := bW T (Nat.le_of_lt hTl)
        have hl64 : (T : Int) < 64 := by clear b3 b2 b2' b5 eT wn ev wl; omega
        have bS : 0 ≤ vpc I (lw S) (lw S + 1 + m) + I 134 T ∧ vpc I (lw S) (lw S + 1 + m) + I 134 T ≤ 100000 * S := by clear b3 b2 b2' b5 eT wn ev wl; omega
        have bS2 : 100000 * (S : Int) ≤ 6400000 := by clear b3 b2 b2' b5 eT wn ev wl; omega
        have w1 : w32 (vpc I (lw S) (lw S + 1 + m) + I 134 T) = vpc I (lw S) (lw S + 1 + m) + I 134 T := by
          clear b3 b2 b2' b5 eT wn ev wl
          exact w32_id (by omega) (by omega)
        refine ⟨max B (vpc I (lw S) (lw S + 1 + m) + I 134 T), ⟨⟨Int.le_trans b1 (Int.le_max_left _ _), fun g hg h2 => ?_⟩, ?_, by clear b3 b2 b2' b5 eT wn ev wl w1; omega⟩, ?_⟩
        · by_cases e : g = lw S + 1 + m
          · rw [e, ← eT]
            exact Int.le_max_right _ _
          · exact Int.le_trans (b2 g (by omega) h2) (Int.le_max_left _ _)
        · by_cases g9 : B ≤ vpc I (lw S) (lw S + 1 + m) + I 134 T
          · rw [Int.max_eq_right g9]
            exact Or.inr ⟨_, hg6, hb, by rw [← eT]⟩
          · rw [Int.max_eq_left (Int.le_of_lt (Int.not_le.mp g9))]
            exact b3
        · rw [b5, q_X6_bestWorth_19, if_pos hlt, if_pos (tb_T (by omega) hg6 hb)]
          simp (disch := first | assumption | exact Int.natCast_nonneg _ | decide) only [↓BN s, hf6, hg6', t1, e_ldA wp.2, ev, wl, hl64, w1, c_max, wn, e_clI, e_clV, e_clP, e_clIx, e_clVx, e_clPx, e_xt, Int.toNat_natCast, Int.reduceToNat, bz0, bz1, Nat.add_zero, decide_eq_false_iff_not, decide_eq_true_eq, Int.reduceEq, Nat.reduceEqDiff, Int.reduceLT, Int.reduceLE, not_true_eq_false, not_false_eq_true, eq_self, ↓reduceIte]
  obtain ⟨B, ⟨⟨b1, b2⟩, b3, b4⟩, b5⟩ := go (n - (lw S + 1)) (by omega)
  have hfin : lw S + 1 + (n - (lw S + 1)) = n := by omega
  rw [hfin] at b2 b5
  refine ⟨B, ⟨⟨b1, fun g hg hb => b2 g (hgt g hg hb).2 hb⟩, b3, b4⟩, ?_⟩
  have w1 : w32 ((lw S : Int) + 1) = ((lw S + 1 : Nat) : Int) := w32_succ (by omega)
  have hlt : ¬ (n : Int) < (n : Int) := by omega
  rw [q_X6_bestWorth_0]
  simp (disch := first | (simp (disch := omega) only [w32_id]; omega) | omega) only [c_lowestOf hS64 h1, ↓BN s, wr, w1, e_clI, e_clV, e_clP, e_clIx, e_clVx, e_clPx, e_xt, Int.toNat_natCast, Int.reduceToNat, bz0, bz1, Nat.add_zero, decide_eq_false_iff_not, decide_eq_true_eq, Int.reduceEq, Nat.reduceEqDiff, Int.reduceLT, Int.reduceLE, not_true_eq_false, not_false_eq_true, eq_self, ↓reduceIte]
  rw [b5, q_X6_bestWorth_19, if_neg hlt]
end
