/-! PAIRS: the class runs -/
section
variable {sc : Nat × (Nat → Int)} {d a : Nat} {h : am_H} {I J : am_I} {w : am_Wd}
theorem vpc_sr {I : am_I} {q : Nat} {C : Nat → Int} (hq : q < 128 ∨ 133 < q) : vpc (sr I q C) = vpc I := by
  funext f g
  unfold vpc
  by_cases h : f < 6
  · rw [if_pos h, if_pos h, sr_ne (by omega)]
  · rw [if_neg h, if_neg h]
theorem w_lo {S g : Nat} (hS : S < 64) (hg : g < 6) (hb : tb S g = true) : w32 ((S : Int) - ((2 ^ g : Nat) : Int)) = ((S - 2 ^ g : Nat) : Int) := by
  have := w_less hS hg hb
  rw [shl_6 g hg] at this
  exact this
theorem c_pairUp (s : Sh h) (c : Cty h a) (ha : a + 11 < 48) (R : CRep I a w) (V : WW w) : ∃ K, ∃ k : Nat, (Ks I K ∧ (∀ f g, f < g → g < (w 0).toNat → VP1 w f g (vpc K f g)) ∧ Wp (w 0).toNat (vpc K) (K 134) ∧ (∀ x, x < (w 0).toNat → K 135 x = prF (vpc K) (K 134) (w 0).toNat x 64 (2 ^ (w 0).toNat - 1)) ∧ nn (fun x => decide (K 135 x ≠ -1)) 6 = 2 * (k : Int) ∧ 96400 * (k : Int) ≤ K 134 (2 ^ (w 0).toNat - 1) ∧ K 134 (2 ^ (w 0).toNat - 1) ≤ 100000 * (k : Int)) ∧ Cl sc (d + 8) mX6_pairUp [Vr (some 124), Vr (some a)] (hI h I) = some (.inl (Vx 0), hI h K) := by
  have hF := V.fa
  obtain ⟨J, ⟨j1, j2⟩, j3⟩ := c_valuePairs (sc := sc) (d := d) s c ha R V
  have hn : (w 0).toNat < 7 := by omega
  have hw : w 0 = (((w 0).toNat : Nat) : Int) := by omega
  have hw0 : ∀ K, Ks I K → K a 5 = (((w 0).toNat : Nat) : Int) := fun K hK => (hK.c (Or.inl ha) R).fa.trans hw
  generalize (w 0).toNat = n at hn hw hw0 j2
  have h64 := two_le hn
  have hp1 : 1 ≤ 2 ^ n := Nat.one_le_two_pow
  have hsh := (shl_t n hn).1
  have hv : ∀ f g, f < g → g < n → vpc J f g = 0 ∨ (96400 ≤ vpc J f g ∧ vpc J f g ≤ 100000) := fun f g h1 h2 => (j2 f g h1 h2).b V (by omega) (by omega)
  have hv' : ∀ f g, f < g → g < n → 0 ≤ vpc J f g ∧ vpc J f g ≤ 100000 := fun f g h1 h2 => by
    have := hv f g h1 h2
    omega
  have go : ∀ N, N + 1 ≤ 2 ^ n → ∃ W, WN (N + 1) (vpc J) W ∧ Ru sc (d + 8) mX6_pairUp 16 [Vr (some 124), Vr (some a), Vi ((2 ^ n : Nat) : Int), Vi 1, Vx 0, Vx 0] [] (hI h (sr J 134 (up (J 134) 0 0))) = Ru sc (d + 8) mX6_pairUp 16 [Vr (some 124), Vr (some a), Vi ((2 ^ n : Nat) : Int), Vi ((N + 1 : Nat) : Int), Vx 0, Vx 0] [] (hI h (sr J 134 W)) := by
    intro N
    induction N with
    | zero =>
      intro _
      refine ⟨_, ⟨up_s, fun S hS => ?_⟩, rfl⟩
      have : S = 0 := by omega
      subst this
      rw [up_s]
      exact ⟨⟨Int.le_refl 0, Int.le_refl 0⟩, fun z => by omega⟩
    | succ N ih =>
      intro hN
      obtain ⟨W, w1, w2⟩ := ih (by omega)
      have e1 := vpc_sr (I := J) (q := 134) (C := W) (Or.inr (by decide))
      have e2 : sr J 134 W 134 = W := sr_q
      obtain ⟨B, ⟨b1, b2, b3⟩, b4⟩ := c_bestWorth (sc := sc) (d := d + 5) (I := sr J 134 W) s hn (S := N + 1) (by omega) (by omega) (by rw [e1, e2]; exact w1) (by rw [e1]; exact hv')
      rw [e1, e2] at b1 b2
      refine ⟨up W (N + 1) B, w1.add (by omega) (by omega) b1 b2 b3, ?_⟩
      have hlt : ((N + 1 : Nat) : Int) < ((2 ^ n : Nat) : Int) := by omega
      have h64' : ((N + 1 : Nat) : Int) < 64 := by omega
      have e0 := hw0 (sr J 134 W) (j1.sr (by omega))
      have wn : w32 (((N + 1 : Nat) : Int) + 1) = ((N + 1 + 1 : Nat) : Int) := w32_succ (by omega)
      rw [w2, q_X6_pairUp_16, if_pos hlt]
      simp (disch := first | assumption | exact Int.natCast_nonneg _ | decide) only [↓BC c, ↓BN s, e0, b4, h64', u2_sr, wn, e_clI, e_clV, e_clP, e_clIx, e_clVx, e_clPx, e_xt, Int.toNat_natCast, Int.reduceToNat, bz0, bz1, Nat.add_zero, decide_eq_false_iff_not, decide_eq_true_eq, Int.reduceEq, Nat.reduceEqDiff, Int.reduceLT, Int.reduceLE, not_true_eq_false, not_false_eq_true, eq_self, ↓reduceIte]
  obtain ⟨W, w1, w2⟩ := go (2 ^ n - 1) (by omega)
  have en : 2 ^ n - 1 + 1 = 2 ^ n := by omega
  rw [en] at w1 w2
  have hWp : Wp n (vpc J) W := w1.q.p hn (fun f g h1 h2 => (hv' f g h1 h2).1)
  have pst : ∀ f, f ≤ n → ∃ S P u5, Pv (vpc J) W n f S P ∧ Ru sc (d + 8) mX6_pairUp 41 [Vr (some 124), Vr (some a), Vi ((2 ^ n : Nat) : Int), Vi ((2 ^ n - 1 : Nat) : Int), Vi 0, Vx 0] [] (hI h (sr (sr J 134 W) 135 (fun u => if u < 6 then (-1 : Int) else J 135 u))) = Ru sc (d + 8) mX6_pairUp 41 [Vr (some 124), Vr (some a), Vi ((2 ^ n : Nat) : Int), Vi (S : Int), Vi (f : Int), u5] [] (hI h (sr (sr J 134 W) 135 P)) := by
    intro f
    induction f with
    | zero => exact fun _ => ⟨2 ^ n - 1, _, Vx 0, Pv.st hn (fun x hx => if_pos hx), rfl⟩
    | succ f ih =>
      intro hf
      obtain ⟨S, P, u5, p1, p2⟩ := ih (by omega)
      have hS64 : S < 64 := Nat.lt_of_lt_of_le p1.1 h64
      have e0 := hw0 (sr (sr J 134 W) 135 P) ((j1.sr (by omega)).sr (by omega))
      have hlt : (f : Int) < (n : Int) := by omega
      have wn : w32 ((f : Int) + 1) = ((f + 1 : Nat) : Int) := w32_succ (by omega)
      cases hb : tb S f
      · refine ⟨S, P, u5, p1.no hb, ?_⟩
        rw [p2, q_X6_pairUp_41]
        simp (disch := first | assumption | exact Int.natCast_nonneg _ | decide) only [↓BC c, e0, hlt, if_pos (tb_F0 hS64 (show f < 6 by omega) hb), wn, e_clI, e_clV, e_clP, e_clIx, e_clVx, e_clPx, e_xt, Int.toNat_natCast, Int.reduceToNat, bz0, bz1, Nat.add_zero, decide_eq_false_iff_not, decide_eq_true_eq, Int.reduceEq, Nat.reduceEqDiff, Int.reduceLT, Int.reduceLE, not_true_eq_false, not_false_eq_true, eq_self, ↓reduceIte]
      · obtain ⟨⟨l1, l2⟩, l3⟩ := p1.lws hn (by omega) hb
        have e1 : vpc (sr (sr J 134 W) 135 P) = vpc J := by rw [vpc_sr (Or.inr (by decide)), vpc_sr (Or.inr (by decide))]
        have e2 : sr (sr J 134 W) 135 P 134 = W := by rw [sr_ne (by decide), sr_q]
        have fb := c_firstBest (sc := sc) (d := d + 5) (I := sr (sr J 134 W) 135 P) s hn l1 p1.1 (by rw [e1, e2]; exact w1) (by rw [e1]; exact hv')
        rw [e1, e2, l3] at fb
        have ci := ch_in (vp := vpc J) (W := W) l2 l1 hn
        rw [l3] at ci
        have nx := p1.go hn hWp hv (by omega) hb
        have hbT : ¬ bAnd (bShr (S : Int) (f : Int)) 1 = 0 := by
          have := tb_T hS64 (show f < 6 by omega) hb
          rw [this]
          decide
        have er : rs S = S - 2 ^ f := by unfold rs; rw [l3]
        have wl : w32 ((S : Int) - bShl 1 (f : Int)) = ((rs S : Nat) : Int) := by
          rw [er]
          exact w_less l2 (by omega) hb
        have hf6 : (f : Int) < 6 := by clear hbT; omega
        by_cases hc : ch (vpc J) W S n = n
        · rw [if_pos hc] at fb nx
          have en : nxt (vpc J) W S n = rs S := if_pos hc
          refine ⟨_, _, Vi (-1), nx, ?_⟩
          rw [p2, q_X6_pairUp_41, en]
          simp (disch := first | assumption | exact Int.natCast_nonneg _ | decide) only [↓BC c, ↓BN s, e0, hlt, if_neg hbT, fb, wl, wn, e_clI, e_clV, e_clP, e_clIx, e_clVx, e_clPx, e_xt, Int.toNat_natCast, Int.reduceToNat, bz0, bz1, Nat.add_zero, decide_eq_false_iff_not, decide_eq_true_eq, Int.reduceEq, Nat.reduceEqDiff, Int.reduceLT, Int.reduceLE, not_true_eq_false, not_false_eq_true, eq_self, ↓reduceIte]
        · rw [if_neg hc] at fb nx
          rcases ci.2.2.1 with z | ⟨g1, g2, g3, g4, g5⟩
          · exact absurd z hc
          · have en : nxt (vpc J) W S n = rs S - 2 ^ ch (vpc J) W S n := if_neg hc
            have wl2 : w32 (((rs S : Nat) : Int) - bShl 1 (ch (vpc J) W S n : Int)) = ((rs S - 2 ^ ch (vpc J) W S n : Nat) : Int) := w_less (by have := rs_lt l2 l1; clear hbT; omega) (by clear hbT wl; omega) g4
            have hq6 : (ch (vpc J) W S n : Int) < 6 := by clear hbT wl wl2; omega
            have hqn : ¬ (ch (vpc J) W S n : Int) = -1 := by clear hbT wl wl2; omega
            refine ⟨_, _, Vi (ch (vpc J) W S n : Int), nx, ?_⟩
            rw [p2, q_X6_pairUp_41, en]
            simp (disch := first | assumption | exact Int.natCast_nonneg _ | decide) only [↓BC c, ↓BN s, e0, hlt, if_neg hbT, fb, hqn, hf6, hq6, u2_sr, wl, wl2, wn, e_clI, e_clV, e_clP, e_clIx, e_clVx, e_clPx, e_xt, Int.toNat_natCast, Int.reduceToNat, bz0, bz1, Nat.add_zero, decide_eq_false_iff_not, decide_eq_true_eq, Int.reduceEq, Nat.reduceEqDiff, Int.reduceLT, Int.reduceLE, not_true_eq_false, not_false_eq_true, eq_self, ↓reduceIte]
  obtain ⟨S, P, u5, p1, p2⟩ := pst n (Nat.le_refl n)
  obtain ⟨q1, k, q2, q3, q4⟩ := p1.en hn hWp
  have e0 := hw0 J j1
  have e0' := hw0 (sr (sr J 134 W) 135 P) ((j1.sr (by omega)).sr (by omega))
  have f134 : sr (sr J 134 W) 135 P 134 = W := by rw [sr_ne (by decide), sr_q]
  have f135 : sr (sr J 134 W) 135 P 135 = P := sr_q
  have fv : vpc (sr (sr J 134 W) 135 P) = vpc J := by rw [vpc_sr (Or.inr (by decide)), vpc_sr (Or.inr (by decide))]
  refine ⟨sr (sr J 134 W) 135 P, k, ⟨(j1.sr (by omega)).sr (by omega), by rw [fv]; exact j2, by rw [fv, f134]; exact hWp, by rw [fv, f134, f135]; exact q1, by rw [f135]; exact q2, by rw [f134]; exact q3, by rw [f134]; exact q4⟩, ?_⟩
  have hlt : ¬ ((2 ^ n : Nat) : Int) < ((2 ^ n : Nat) : Int) := by omega
  have hlt2 : ¬ (n : Int) < (n : Int) := by omega
  have w9 : w32 (((2 ^ n : Nat) : Int) - 1) = ((2 ^ n - 1 : Nat) : Int) := by
    rw [show ((2 ^ n : Nat) : Int) - 1 = ((2 ^ n - 1 : Nat) : Int) by omega]
    exact w32_id (by omega) (by omega)
  have fI : sr J 134 W 135 = J 135 := sr_ne (by decide)
  have z0 : (0 : Int) < 64 := by decide
  have zz : (0 : Int) ≤ 0 := by decide
  rw [q_X6_pairUp_0]
  simp (disch := first | assumption | exact Int.natCast_nonneg _ | decide) only [↓BC c, ↓BN s, j3, e0, z0, zz, hsh, u2_as, e_clI, e_clV, e_clP, e_clIx, e_clVx, e_clPx, e_xt, Int.toNat_natCast, Int.reduceToNat, bz0, bz1, Nat.add_zero, decide_eq_false_iff_not, decide_eq_true_eq, Int.reduceEq, Nat.reduceEqDiff, Int.reduceLT, Int.reduceLE, not_true_eq_false, not_false_eq_true, eq_self, ↓reduceIte]
  rw [w2, q_X6_pairUp_16, if_neg hlt]
  simp (disch := first | assumption | exact Int.natCast_nonneg _ | decide) only [↓BN s, c_fill (s.T 135 rfl), fI, w9, e_clI, e_clV, e_clP, e_clIx, e_clVx, e_clPx, e_xt, Int.toNat_natCast, Int.reduceToNat, bz0, bz1, Nat.add_zero, decide_eq_false_iff_not, decide_eq_true_eq, Int.reduceEq, Nat.reduceEqDiff, Int.reduceLT, Int.reduceLE, not_true_eq_false, not_false_eq_true, eq_self, ↓reduceIte]
  rw [p2, q_X6_pairUp_41]
  simp (disch := first | assumption | exact Int.natCast_nonneg _ | decide) only [↓BC c, e0', hlt2, e_clI, e_clV, e_clP, e_clIx, e_clVx, e_clPx, e_xt, Int.toNat_natCast, Int.reduceToNat, bz0, bz1, Nat.add_zero, decide_eq_false_iff_not, decide_eq_true_eq, Int.reduceEq, Nat.reduceEqDiff, Int.reduceLT, Int.reduceLE, not_true_eq_false, not_false_eq_true, eq_self, ↓reduceIte]
theorem c_pairCount (s : Sh h) {k : Nat} (hk : nn (fun x => decide (I 135 x ≠ -1)) 6 = 2 * (k : Int)) : Cl sc (d + 1) mX6_pairCount [Vr (some 124)] (hI h I) = some (.inl (Vi (k : Int)), hI h I) := by
  have hr := sm_run (F := fun i z => Ru sc (d + 1) mX6_pairCount 5 [Vr (some 124), Vi z, Vi (i : Int)] [] (hI h I)) (f := fun x => if decide (I 135 x ≠ -1) = true then 1 else 0) (N := 6) (fun i hi => by
    have hlt : (i : Int) < 6 := by omega
    have hb : 0 ≤ nn (fun x => decide (I 135 x ≠ -1)) i ∧ nn (fun x => decide (I 135 x ≠ -1)) i ≤ i := nn_b
    unfold nn at hb
    try dsimp only
    generalize sm (fun x => if decide (I 135 x ≠ -1) = true then (1 : Int) else 0) i = z at hb ⊢
    rw [q_X6_pairCount_5]
    by_cases g : I 135 i = -1
    · rw [decide_eq_false (fun z => z g), if_neg (show ¬ (false = true) by decide)]
      simp (disch := first | (simp (disch := omega) only [w32_id]; omega) | omega) only [↓BN s, hlt, g, w32_succ, e_clI, e_clV, e_clP, e_clIx, e_clVx, e_clPx, e_xt, Int.toNat_natCast, Int.reduceToNat, bz0, bz1, Nat.add_zero, decide_eq_false_iff_not, decide_eq_true_eq, Int.reduceEq, Nat.reduceEqDiff, Int.reduceLT, Int.reduceLE, not_true_eq_false, not_false_eq_true, eq_self, ↓reduceIte]
      rw [w32_id (by omega) (by omega)]
    · rw [decide_eq_true (show I 135 i ≠ -1 from g), if_pos (show true = true from rfl)]
      simp (disch := first | (simp (disch := omega) only [w32_id]; omega) | omega) only [↓BN s, hlt, g, w32_succ, e_clI, e_clV, e_clP, e_clIx, e_clVx, e_clPx, e_xt, Int.toNat_natCast, Int.reduceToNat, bz0, bz1, Nat.add_zero, decide_eq_false_iff_not, decide_eq_true_eq, Int.reduceEq, Nat.reduceEqDiff, Int.reduceLT, Int.reduceLE, not_true_eq_false, not_false_eq_true, eq_self, ↓reduceIte]
      rw [w32_id (by omega) (by omega)])
  have hb := nn_b (p := fun x => decide (I 135 x ≠ -1)) (N := 6)
  have e : sm (fun x => if decide (I 135 x ≠ -1) = true then (1 : Int) else 0) 6 = 2 * (k : Int) := hk
  rw [e] at hr
  rw [q_X6_pairCount_0]
  refine hr.trans ?_
  have e2 : (2 * (k : Int)).tdiv 2 = (k : Int) := Int.mul_tdiv_cancel_left _ (by decide)
  have w9 : w32 (k : Int) = (k : Int) := w32_id (by omega) (by omega)
  have z2 : ¬ (2 : Nat) = 0 := by decide
  have hlt : ¬ ((6 : Nat) : Int) < 6 := by decide
  rw [q_X6_pairCount_5, if_neg hlt, if_neg z2, e2, w9]
end
