/-! UNDONE, BACK, AN IMAGE, THE SEED -/
theorem WL.cg8 {w v : am_Wd} {ln cc : Nat} (W : WL w ln cc) (g : ∀ j, 631 ≤ j → j < 1480 → v j = w j) : WL v ln cc := by
  have t : ∀ s n, s + n ≤ 400 → tF v s n = tF w s n := by
    intro s n
    induction n with
    | zero => exact fun _ => rfl
    | succ n ih =>
      intro hn
      unfold tF
      rw [ih (by omega), g _ (by omega) (by omega), g _ (by omega) (by omega)]
  unfold WL at W ⊢
  obtain ⟨W1, W2, W3, W4⟩ := W
  rw [g 631 (by omega) (by omega)]
  refine ⟨W1, W2, W3, fun k hk => ?_⟩
  rw [g _ (by omega) (by omega), g _ (by omega) (by omega), g _ (by omega) (by omega), g _ (by omega) (by omega)]
  obtain ⟨a1, a2, s, e, b1, b2, b3, b4, b5⟩ := W4 k hk
  refine ⟨a1, a2, s, e, b1, b2, b3, b4, ?_⟩
  rw [t s (e - s) (by omega)]
  exact b5
theorem LR.cg8 {h : am_H} {I : am_I} {a : Nat} {w v : am_Wd} (M : LR h I a w) (g2 : v 2 = w 2) (g : ∀ j, 631 ≤ j → j < 1480 → v j = w j) : LR h I a v := by
  unfold LR at M ⊢
  rw [g2]
  rcases M with M | ⟨M0, n, ln, cc, M1, M2, M3, M4, M5⟩
  · exact Or.inl M
  · refine Or.inr ⟨M0, n, ln, cc, M1, M2, M3, ?_, M5.cg8 g⟩
    have h12 := M5.2.1
    have h400 := M5.2.2.1
    unfold LC at M4 ⊢
    refine ⟨M4.1, fun k hk => ?_, fun i hi => ?_⟩
    · rw [g _ (by omega) (by omega), g _ (by omega) (by omega), g _ (by omega) (by omega), g _ (by omega) (by omega)]
      exact M4.2.1 k hk
    · rw [g _ (by omega) (by omega), g _ (by omega) (by omega)]
      exact M4.2.2 i hi
/-- the same with another place of the county -/
theorem LR.mv {h h' : am_H} {I J : am_I} {a b : Nat} {w : am_Wd} (M : LR h I a w) (eT : hT h' = hT h) (eZ : hZ h ≤ hZ h') (eP : rP h' b 14 = rP h a 14) (eQ : ∀ p j, 304 ≤ p → rP h' p j = rP h p j) (e : ∀ n k, k < 5 → J (304 + 6 * n + k) = I (304 + 6 * n + k)) : LR h' J b w := by
  have M2 : LR h I a w := M
  unfold LR at M ⊢
  rw [eP]
  rcases M with M | ⟨M0, n, ln, cc, M1, M2, M3, M4, M5⟩
  · exact Or.inl M
  · refine Or.inr ⟨M0, n, ln, cc, M1, by omega, ?_, ?_, M5⟩
    · unfold LO at M3 ⊢
      rw [eT, eQ _ _ (by omega), eQ _ _ (by omega), eQ _ _ (by omega), eQ _ _ (by omega), eQ _ _ (by omega)]
      exact M3
    · unfold LC at M4 ⊢
      have e0 := e n 0 (by omega)
      rw [Nat.add_zero] at e0
      rw [e0, e n 1 (by omega), e n 2 (by omega), e n 3 (by omega), e n 4 (by omega)]
      exact M4
theorem ar_1 {n i : Nat} (hn : n < 12) (hi : i < 631) : ((631 * n + i : Nat) : Int) < 7572 := by omega
theorem ar_2 {n i : Nat} (hn : n < 12) (hi : i < 631) : w32 (w32 (631 * (n : Int)) + (i : Int)) = ((631 * n + i : Nat) : Int) := by
  rw [w32_id (z := 631 * (n : Int)) (by omega) (by omega), w32_id (by omega) (by omega)]
  omega
theorem ar_3 {i : Nat} (hi : i < 1480) : w32 ((i : Int) + 1) = ((i + 1 : Nat) : Int) ∧ (i : Int) < 1480 ∧ (i : Int) < 2329 := ⟨w32_succ (by omega), by omega, by omega⟩
def PubV (h : am_H) (I : am_I) (C M : am_H → am_R) : Prop := ∃ h1 J1, C (hI h I) = some (.inl (Vx 0), hI h1 J1) ∧ Sh h1 ∧ ∃ h2 J2, M (hI h1 J1) = some (.inl (Vx 0), hI h2 J2) ∧ Rel h2 J2 ∧ Bd h h2
section
variable {sc : Nat × (Nat → Int)} {d a b n f : Nat} {h h1 h2 : am_H} {I J J1 J2 K : am_I} {w v : am_Wd} {rows : Nat → am_Wd} {y : Int}
theorem CA.rf (r : Rel h I) : CA h I h I (I 284) (I 283 7).toNat (rowA I) := by
  obtain ⟨g1, g2, g3, g4⟩ := r.2.2.2.1
  refine ⟨⟨rfl, rfl, rfl, rfl⟩, fun _ _ _ => rfl, fun _ _ => rfl, rfl, r.2.1, ?_, ?_, g3, fun k hk => ?_⟩
  · omega
  · omega
  · obtain ⟨q1, q2, q3, q4⟩ := g4 k (by omega)
    exact ⟨q1, q4⟩
theorem rows_rf (r : Rel h I) : ∀ k, k < (I 283 7).toNat → WW (rowA I k) ∧ rowA I k 2 = I 284 2 := fun k hk => by
  obtain ⟨g1, g2, g3, g4⟩ := r.2.2.2.1
  obtain ⟨q1, q2, q3, q4⟩ := g4 k (by omega)
  exact ⟨q2, q3⟩
theorem MA.rf (h7 : I 283 7 = (n : Int)) (e8 : I 288 = K 288) : MA I I (I 284) n (rowA K) := ⟨fun _ _ => rfl, rfl, rfl, fun _ _ => rfl, rfl, h7, fun k hk j hj => by rw [e8]; rfl⟩
theorem p_seed (r : Rel h I) {x : Int} (hx : i32 x) : Pub h I (Cl sc (d + 30) mX11_seed [Vr (some 0), Vi x]) (Cl sc (d + 30) mX12_seed [Vr (some 283), Vi x]) cdA := by
  have R := r.R
  have V := r.V
  have g := (u12 (x := x) r.c R V)
  have t : T2 (I 284) (up (I 284) 6 x) := (T2.rf _).up (by decide) (by decide)
  have se := R.se
  refine pubA rfl r (x := I 284 6) (h1 := h) (J1 := am_u2 I 11 12 x) ?_ ((CA.rf r).go g.1 g.2 (up6_w V hx) t) (fun k hk => by rw [t.1]; exact rows_rf r k hk) (fun J s e3 e4 e8 => ?_)
  · rw [q_X11_seed_0]
    simp (disch := first | assumption | exact Int.natCast_nonneg _ | decide) only [↓BO r.1, ↓BC r.c, se, e_clI, e_clV, e_clP, e_clIx, e_clVx, e_clPx, e_xt, Int.toNat_natCast, Int.reduceToNat, bz0, bz1, Nat.add_zero, decide_eq_false_iff_not, decide_eq_true_eq, Int.reduceEq, Nat.reduceEqDiff, Int.reduceLT, Int.reduceLE, not_true_eq_false, not_false_eq_true, eq_self, ↓reduceIte]
  · have l6 : (6 : Int) < 2329 := by decide
    have l0 : (0 : Int) ≤ 6 := by decide
    have e6 : am_u2 J 283 0 0 284 = I 284 := by rw [w283, e4]
    refine ⟨am_u2 (am_u2 J 283 0 0) 284 6 x, ?_, ?_, ?_⟩
    · rw [q_X12_seed_0]
      simp (disch := first | assumption | exact Int.natCast_nonneg _ | decide) only [↓BM s, l6, l0, e6, e_clI, e_clV, e_clP, e_clIx, e_clVx, e_clPx, e_xt, Int.toNat_natCast, Int.reduceToNat, bz0, bz1, Nat.add_zero, decide_eq_false_iff_not, decide_eq_true_eq, Int.reduceEq, Nat.reduceEqDiff, Int.reduceLT, Int.reduceLE, not_true_eq_false, not_false_eq_true, eq_self, ↓reduceIte]
    · refine ⟨fun p hp => ?_, ?_, ?_, fun j hj => ?_, ?_, ?_, fun k hk j hj => ?_⟩
      · rw [u2_o (by omega), u2_o (by omega)]
      · rw [u2_o (by decide), u2_o (by decide)]
      · rw [u2_o (by decide), u2_o (by decide)]
      · rw [u2_o (by decide), u2_j (by omega)]
      · rw [u2_up, e6]
      · obtain ⟨g1, g2, g3, g4⟩ := r.2.2.2.1
        rw [u2_o (by decide), u2_j (by decide), e3]
        omega
      · rw [u2_o (by decide), u2_o (by decide), e8]
        rfl
    · rw [u2_o (by decide)]
      exact u2_same
/-- one county laid over the present one -/
theorem CA.lay {I' : am_I} (r : Rel h I) (i1 : ∀ p, 0 < p → I' p = I p) (B : BBo I b) (cb : isC b) (hb : 22 < b) (R : CRep I b v) (V : WW v) {v' : am_Wd} (e' : ∀ j, j < 631 → v' j = v j) (ev : ∀ h1 J, hT h1 = hT h → hZ h1 = hZ h → rP h1 11 14 = rP h b 14 → (∀ p j, 304 ≤ p → rP h1 p j = rP h p j) → (∀ n k, k < 5 → J (304 + 6 * n + k) = I (304 + 6 * n + k)) → LR h1 J 11 v') {n : Nat} (hn : n ≤ 12) (hr : ∀ k, k < n → CRep I (ring I k) (rows k) ∧ rP h (ring I k) 14 = rP h b 14) : ∃ h1 J1, ((∀ Jf : am_I, (∀ p, 0 < p → Jf p = J1 p) → Jf 0 9 = (n : Int) → (∀ j, j ≠ 9 → Jf 0 j = I 0 j) → CA h I h1 Jf v' n rows) ∧ (∀ p, p < 11 → J1 p = I' p)) ∧ Sh h1 ∧ Cl sc (d + 2) mX0_copyFrom [Vr (some 11), Vr (some b)] (hI h I') = some (.inl (Vx 0), hI h1 J1) := by
  obtain ⟨g1, g2, g3, g4⟩ := r.2.2.2.1
  have hc := isC_n cb
  have B' : BBo I' b := fun i hi => by
    rw [i1 _ (by omega), i1 _ (by omega), i1 _ (by omega)]
    exact B i hi
  obtain ⟨J, ⟨j1, j2, j3⟩, j4⟩ := c_copyFrom (sc := sc) (d := d) (a := 11) (b := b) (I := I') r.1 isC_now cb (by omega) V (R.eq fun k hk => i1 _ (by omega)) B'
  have ej : ∀ p, 0 < p → p < 11 ∨ 22 < p → J p = I p := fun p h0 hp => (j1 p hp).trans (i1 p h0)
  refine ⟨wP h 11 14 (rP h b 14), J, ⟨fun Jf f1 f2 f3 => ?_, fun p hp => j1 p (by omega)⟩, r.1.w14 isC_now, j4⟩
  have er : ∀ k, ring Jf k = ring I k := fun k => by unfold ring; rw [f3 8 (by decide)]
  refine ⟨⟨rfl, rfl, rfl, rfl⟩, fun p j hp => rP_w14n ?_, fun p hp => ?_, f3 6 (by decide), ⟨?_, V.cgw e', ?_⟩, f2, hn, ?_, fun k hk => ?_⟩
  · unfold kpP at hp
    omega
  · unfold kpC at hp
    rw [f1 p (by omega), ej p (by omega) (by omega)]
  · exact CRep.cgw e' V (j2.eq fun k hk => f1 _ (by omega))
  · exact ev _ _ rfl rfl rP_w14 (fun p j hp => rP_w14n (by omega)) (fun n k hk => by rw [f1 _ (by omega), ej _ (by omega) (by omega)])
  · rw [f3 8 (by decide)]
    exact g3
  · obtain ⟨q1, q2⟩ := hr k hk
    have hk9 := ring_n (I := I) (k := k)
    rw [er k]
    refine ⟨q1.eq fun k hk => by rw [f1 _ (by omega), ej _ (by omega) (by omega)], ?_⟩
    rw [rP_w14, rP_w14n (by omega)]
    exact q2
/-- the world laid out of a row of the reference -/
theorem m_lay {m : Nat} {q o N : Nat} {L : Nat → am_H → am_R} (hN : N ≤ 1480) (hL : ∀ (i : Nat) (K : am_I), i < N → K q (o + i) = J q (o + i) → (∀ j, K 283 j = J 283 j) → L i (hI h K) = L (i + 1) (hI h (am_u2 K m i (J q (o + i))))) (hq : q ≠ m) (h283 : (283 : Nat) ≠ m) : L 0 (hI h J) = L N (hI h (sr J m (fun j => if j < N then J q (o + j) else J m j))) := by
  have go : ∀ n, n ≤ N → L 0 (hI h J) = L n (hI h (sr J m (fun j => if j < n then J q (o + j) else J m j))) := by
    intro n
    induction n with
    | zero =>
      intro _
      rw [show (fun j => if j < 0 then J q (o + j) else J m j) = J m from funext fun j => if_neg (by omega), sr_self]
    | succ n ih =>
      intro hn
      rw [ih (by omega), hL n _ (by omega) (by rw [sr_ne hq]) (fun j => by rw [sr_ne h283]), u2_sr]
      congr 3
      funext j
      unfold up
      try dsimp only
      by_cases e : j = n
      · rw [if_pos e, if_pos (by omega), e]
      · rw [if_neg e]
        by_cases e2 : j < n
        · rw [if_pos e2, if_pos (by omega)]
        · rw [if_neg e2, if_neg (by omega)]
  exact go N (Nat.le_refl N)
theorem p_undo (r : Rel h I) (B : ∀ a, isC a → BBo I a) : Pub h I (Cl sc (d + 30) mX11_undo [Vr (some 0)]) (Cl sc (d + 30) mX12_undo [Vr (some 283)]) cdA := by
  obtain ⟨g1, g2, g3, g4⟩ := r.2.2.2.1
  by_cases h0 : I 283 7 = 0
  · have c0 := g1.trans h0
    refine pubQ (x := 0) (v := 0) (v' := 0) r (CO.ok (J := I) ?_ (Same.rf I)) (fun h1 J1 r1 e1 => ?_) (fun _ => rfl)
    · rw [q_X11_undo_0]
      simp (disch := first | (simp (disch := omega) only [w32_id]; omega) | omega) only [↓BO r.1, c0, e_clI, e_clV, e_clP, e_clIx, e_clVx, e_clPx, e_xt, Int.toNat_natCast, Int.reduceToNat, bz0, bz1, Nat.add_zero, decide_eq_false_iff_not, decide_eq_true_eq, Int.reduceEq, Nat.reduceEqDiff, Int.reduceLT, Int.reduceLE, not_true_eq_false, not_false_eq_true, eq_self, ↓reduceIte]
    · refine MO.ok0 ?_
      have h02 : am_u2 J1 283 0 0 283 7 = 0 := by rw [u2_j (by decide), e1.m (by omega)]; exact h0
      rw [q_X12_undo_0]
      simp (disch := first | (simp (disch := omega) only [w32_id]; omega) | omega) only [↓BM r1.1, h02, e_clI, e_clV, e_clP, e_clIx, e_clVx, e_clPx, e_xt, Int.toNat_natCast, Int.reduceToNat, bz0, bz1, Nat.add_zero, decide_eq_false_iff_not, decide_eq_true_eq, Int.reduceEq, Nat.reduceEqDiff, Int.reduceLT, Int.reduceLE, not_true_eq_false, not_false_eq_true, eq_self, ↓reduceIte]
  · obtain ⟨n, hn⟩ : ∃ n : Nat, I 283 7 = ((n + 1 : Nat) : Int) := ⟨(I 283 7 - 1).toNat, by omega⟩
    have c0 : I 0 9 = ((n + 1 : Nat) : Int) := g1.trans hn
    have hk9 := ring_n (I := I) (k := n)
    obtain ⟨q1, q2, q3, q4⟩ := g4 n (by omega)
    obtain ⟨h1, J1, ⟨ca, cp⟩, s1, c1⟩ := CA.lay (sc := sc) (d := d + 27) (b := ring I n) (v := rowA I n) (v' := fun j => if j < 631 then rowA I n j else I 284 j) (n := n) (rows := rowA I) (I' := am_u2 I 0 9 (n : Int)) r (fun p hp => u2_o (by omega)) (B _ hk9.2.2) hk9.2.2 (by omega) q1 q2 (fun j hj => if_pos hj) (fun h1 J eT eZ eP eQ e => by
      have M : LR h1 J 11 (I 284) := r.2.1.2.2.mv eT (Nat.le_of_eq eZ.symm) (eP.trans q4) eQ e
      refine M.cg ?_ (fun j hj => if_neg (by omega))
      rw [if_pos (by decide)]
      exact q3) (by omega) (fun k hk => by
      obtain ⟨z1, z2, z3, z4⟩ := g4 k (by omega)
      exact ⟨z1, z4.trans q4.symm⟩)
    have cA := ca J1 (fun _ _ => rfl) (by rw [cp 0 (by omega)]; exact u2_same) (fun j hj => by rw [cp 0 (by omega), u2_j hj])
    have w1 : w32 (((n + 1 : Nat) : Int) - 1) = (n : Int) := by rw [w32_id (by omega) (by omega)]; omega
    have t1 : (w32 (I 0 8 + (n : Int))).tmod 12 = ((((I 0 8).toNat + n) % 12 : Nat) : Int) := by
      rw [w32_id (by omega) (by omega), tm_e (by omega)]
      omega
    have t3 : ((((I 0 8).toNat + n) % 12 : Nat) : Int) < 12 := by omega
    have ha := acts_ring r.1 I n
    have ne0 : ¬ ((n + 1 : Nat) : Int) = 0 := by omega
    have e8 : am_u2 I 0 9 (n : Int) 0 8 = I 0 8 := u2_j (by decide)
    have hw2 : (if 2 < 631 then rowA I n 2 else I 284 2) = I 284 2 := by
      rw [if_pos (by decide)]
      exact q3
    have hn12 : n < 12 := by omega
    refine pubA rfl r (x := 1) (h1 := h1) (J1 := J1) ?_ cA (fun k hk => by rw [hw2]; exact rows_rf r k (by omega)) (fun J s e3 e4 e8 => ?_)
    · rw [q_X11_undo_0]
      simp (disch := first | assumption | exact Int.natCast_nonneg _ | decide) only [↓BO r.1, c0, ne0, w1, u2_same, e8, t1, t3, ha, ↓BC r.c, c1, e_clI, e_clV, e_clP, e_clIx, e_clVx, e_clPx, e_xt, Int.toNat_natCast, Int.reduceToNat, bz0, bz1, Nat.add_zero, decide_eq_false_iff_not, decide_eq_true_eq, Int.reduceEq, Nat.reduceEqDiff, Int.reduceLT, Int.reduceLE, not_true_eq_false, not_false_eq_true, eq_self, ↓reduceIte]
    · have k7 : am_u2 J 283 0 0 283 7 = ((n + 1 : Nat) : Int) := by rw [u2_j (by decide), e3]; exact hn
      have go := m_lay (h := h1) (J := am_u2 (am_u2 J 283 0 0) 283 7 (n : Int)) (m := 284) (q := 288) (o := 631 * n) (N := 631) (L := fun i hh => Ru sc (d + 30) mX12_undo 17 [Vr (some 283), Vi (i : Int)] [] hh) (by decide) (fun i K hi kq k283 => by
        have l1 : (i : Int) < 631 := Int.ofNat_lt.mpr hi
        have l2 : (i : Int) < 2329 := (ar_3 (Nat.lt_trans hi (by decide))).2.2
        have k7' : K 283 7 = (n : Int) := by rw [k283]; exact u2_same
        have w2 := ar_2 hn12 hi
        have l3 := ar_1 hn12 hi
        have wn := (ar_3 (Nat.lt_trans hi (by decide))).1
        try dsimp only
        rw [q_X12_undo_17]
        simp (disch := first | assumption | exact Int.natCast_nonneg _ | decide) only [↓BM s, l1, l2, k7', w2, l3, wn, kq, e_clI, e_clV, e_clP, e_clIx, e_clVx, e_clPx, e_xt, Int.toNat_natCast, Int.reduceToNat, bz0, bz1, Nat.add_zero, decide_eq_false_iff_not, decide_eq_true_eq, Int.reduceEq, Nat.reduceEqDiff, Int.reduceLT, Int.reduceLE, not_true_eq_false, not_false_eq_true, eq_self, ↓reduceIte]) (by decide) (by decide)
      have e88 : ∀ j, am_u2 (am_u2 J 283 0 0) 283 7 (n : Int) 288 j = I 288 j := fun j => by rw [u2_o (by decide), u2_o (by decide), e8]
      have e84 : ∀ j, am_u2 (am_u2 J 283 0 0) 283 7 (n : Int) 284 j = I 284 j := fun j => by rw [u2_o (by decide), u2_o (by decide), e4]
      refine ⟨sr (am_u2 (am_u2 J 283 0 0) 283 7 (n : Int)) 284 (fun j => if j < 631 then am_u2 (am_u2 J 283 0 0) 283 7 (n : Int) 288 (631 * n + j) else am_u2 (am_u2 J 283 0 0) 283 7 (n : Int) 284 j), ?_, ⟨fun p hp => ?_, ?_, ?_, fun j hj => ?_, ?_, ?_, fun k hk j hj => ?_⟩, ?_⟩
      · rw [q_X12_undo_0]
        simp (disch := first | assumption | exact Int.natCast_nonneg _ | decide) only [↓BM s, k7, ne0, w1, e_clI, e_clV, e_clP, e_clIx, e_clVx, e_clPx, e_xt, Int.toNat_natCast, Int.reduceToNat, bz0, bz1, Nat.add_zero, decide_eq_false_iff_not, decide_eq_true_eq, Int.reduceEq, Nat.reduceEqDiff, Int.reduceLT, Int.reduceLE, not_true_eq_false, not_false_eq_true, eq_self, ↓reduceIte]
        refine go.trans ?_
        try dsimp only
        rw [q_X12_undo_17, if_neg (by omega)]
      · rw [sr_ne (by omega), u2_o (by omega), u2_o (by omega)]
      · rw [sr_ne (by decide), u2_o (by decide), u2_o (by decide)]
      · rw [sr_ne (by decide), u2_o (by decide), u2_o (by decide)]
      · rw [sr_ne (by decide), u2_j (by omega), u2_j (by omega)]
      · rw [sr_q]
        funext j
        rw [e88, e84]
        rfl
      · rw [sr_ne (by decide)]
        exact u2_same
      · rw [sr_ne (by decide), e88]
        rfl
      · rw [sr_ne (by decide), u2_j (by decide)]
        exact u2_same
theorem pubA2 {C M : am_H → am_R} {cd : Nat → Int} (h0 : cd 0 = 0) (r : Rel h I) {x : Int} (c : C (hI h I) = some (.inl (Vi x), hI h1 J1)) (ca : CA h I h1 J1 w n rows) (hr : ∀ k, k < n → WW (rows k) ∧ rows k 2 = w 2) (m : ∀ J, Sh h1 → (∀ p, 283 ≤ p → p ≤ 302 → J p = I p) → ∃ J2, M (hI h1 J) = some (.inl (Vi x), hI h1 J2) ∧ MA J J2 w n rows ∧ J2 283 0 = 0) : Pub h I C M cd := by
  refine ⟨0, x, x, h1, J1, c, ca.sh r.1, fun _ => rfl, fun o => ?_⟩
  have cx := ca.x303 (o := o)
  have k := cx.2.2.1
  obtain ⟨J2, m1, m2, m3⟩ := m (am_u2 J1 303 0 o) (ca.sh r.1) (fun p h1 h2 => k p (by unfold kpC; omega))
  refine ⟨h1, J2, m1, r.act cx m2 hr, by rw [m3, h0], ?_⟩
  have e1 := ca.1.2.2.1
  have e2 := ca.1.2.2.2
  unfold Bd
  omega
theorem p_back (r : Rel h I) (B : ∀ a, isC a → BBo I a) : Pub h I (Cl sc (d + 30) mX11_back [Vr (some 0)]) (Cl sc (d + 30) mX12_back [Vr (some 283)]) cdA := by
  obtain ⟨i1, i2⟩ := r.2.2.1
  rcases i2 with h0 | ⟨h1', S35⟩
  · have c0 := i1.trans h0
    refine pubQ (x := 0) (v := 0) (v' := 0) r (CO.ok (J := I) ?_ (Same.rf I)) (fun h1 J1 r1 e1 => ?_) (fun _ => rfl)
    · rw [q_X11_back_0]
      simp (disch := first | (simp (disch := omega) only [w32_id]; omega) | omega) only [↓BO r.1, c0, e_clI, e_clV, e_clP, e_clIx, e_clVx, e_clPx, e_xt, Int.toNat_natCast, Int.reduceToNat, bz0, bz1, Nat.add_zero, decide_eq_false_iff_not, decide_eq_true_eq, Int.reduceEq, Nat.reduceEqDiff, Int.reduceLT, Int.reduceLE, not_true_eq_false, not_false_eq_true, eq_self, ↓reduceIte]
    · refine MO.ok0 ?_
      have h02 : am_u2 J1 283 0 0 283 6 = 0 := by rw [u2_j (by decide), e1.m (by omega)]; exact h0
      rw [q_X12_back_0]
      simp (disch := first | (simp (disch := omega) only [w32_id]; omega) | omega) only [↓BM r1.1, h02, e_clI, e_clV, e_clP, e_clIx, e_clVx, e_clPx, e_xt, Int.toNat_natCast, Int.reduceToNat, bz0, bz1, Nat.add_zero, decide_eq_false_iff_not, decide_eq_true_eq, Int.reduceEq, Nat.reduceEqDiff, Int.reduceLT, Int.reduceLE, not_true_eq_false, not_false_eq_true, eq_self, ↓reduceIte]
  · have c0 : I 0 6 = 1 := i1.trans h1'
    obtain ⟨h1, J1, ⟨ca, cp⟩, s1, c1⟩ := CA.lay (sc := sc) (d := d + 27) (b := 35) (v := I 285) (v' := fun j => if j < 1480 then I 285 j else I 284 j) (n := 0) (rows := rowA I) (I' := I) r (fun p hp => rfl) (B _ (Or.inr (Or.inr (Or.inl rfl)))) (Or.inr (Or.inr (Or.inl rfl))) (by decide) S35.1 S35.2.1 (fun j hj => if_pos (by omega)) (fun h1 J eT eZ eP eQ e => by
      have M : LR h1 J 11 (I 285) := S35.2.2.mv eT (Nat.le_of_eq eZ.symm) eP eQ e
      exact M.cg8 (if_pos (by decide)) (fun j h6 h8 => if_pos h8)) (by decide) (fun k hk => absurd hk (Nat.not_lt_zero k))
    have cA := ca (am_u2 J1 0 9 0) (fun p hp => u2_o (by omega)) u2_same (fun j hj => by rw [u2_j hj, cp 0 (by omega)])
    refine pubA2 rfl r (x := 1) (h1 := h1) (J1 := am_u2 J1 0 9 0) ?_ cA (fun k hk => absurd hk (Nat.not_lt_zero k)) (fun J s e3 => ?_)
    · rw [q_X11_back_0]
      simp (disch := first | assumption | exact Int.natCast_nonneg _ | decide) only [↓BO r.1, c0, ↓BC r.c, c1, ↓BO s1, e_clI, e_clV, e_clP, e_clIx, e_clVx, e_clPx, e_xt, Int.toNat_natCast, Int.reduceToNat, bz0, bz1, Nat.add_zero, decide_eq_false_iff_not, decide_eq_true_eq, Int.reduceEq, Nat.reduceEqDiff, Int.reduceLT, Int.reduceLE, not_true_eq_false, not_false_eq_true, eq_self, ↓reduceIte]
    · have k6 : am_u2 J 283 0 0 283 6 = 1 := by rw [u2_j (by decide), e3 _ (by decide) (by decide)]; exact h1'
      have ne1 : ¬ (1 : Int) = 0 := by decide
      have go := m_lay (h := h1) (J := am_u2 J 283 0 0) (m := 284) (q := 285) (o := 0) (N := 1480) (L := fun i hh => Ru sc (d + 30) mX12_back 11 [Vr (some 283), Vi (i : Int)] [] hh) (by decide) (fun i K hi kq k283 => by
        obtain ⟨wn, l1, l2⟩ := ar_3 hi
        rw [Nat.zero_add] at kq
        rw [Nat.zero_add]
        try dsimp only
        rw [q_X12_back_11]
        simp (disch := first | assumption | exact Int.natCast_nonneg _ | decide) only [↓BM s, l1, l2, wn, kq, e_clI, e_clV, e_clP, e_clIx, e_clVx, e_clPx, e_xt, Int.toNat_natCast, Int.reduceToNat, bz0, bz1, Nat.add_zero, decide_eq_false_iff_not, decide_eq_true_eq, Int.reduceEq, Nat.reduceEqDiff, Int.reduceLT, Int.reduceLE, not_true_eq_false, not_false_eq_true, eq_self, ↓reduceIte]) (by decide) (by decide)
      have e85 : ∀ j, am_u2 J 283 0 0 285 (0 + j) = I 285 j := fun j => by rw [Nat.zero_add, u2_o (by decide), e3 _ (by decide) (by decide)]
      have e84 : ∀ j, am_u2 J 283 0 0 284 j = I 284 j := fun j => by rw [u2_o (by decide), e3 _ (by decide) (by decide)]
      refine ⟨am_u2 (sr (am_u2 J 283 0 0) 284 (fun j => if j < 1480 then am_u2 J 283 0 0 285 (0 + j) else am_u2 J 283 0 0 284 j)) 283 7 0, ?_, ⟨fun p hp => ?_, ?_, ?_, fun j hj => ?_, ?_, ?_, fun k hk j hj => ?_⟩, ?_⟩
      · rw [q_X12_back_0]
        simp (disch := first | assumption | exact Int.natCast_nonneg _ | decide) only [↓BM s, k6, ne1, e_clI, e_clV, e_clP, e_clIx, e_clVx, e_clPx, e_xt, Int.toNat_natCast, Int.reduceToNat, bz0, bz1, Nat.add_zero, decide_eq_false_iff_not, decide_eq_true_eq, Int.reduceEq, Nat.reduceEqDiff, Int.reduceLT, Int.reduceLE, not_true_eq_false, not_false_eq_true, eq_self, ↓reduceIte]
        refine go.trans ?_
        try dsimp only
        rw [q_X12_back_11, if_neg (by omega)]
        simp (disch := first | assumption | exact Int.natCast_nonneg _ | decide) only [↓BM s, e_clI, e_clV, e_clP, e_clIx, e_clVx, e_clPx, e_xt, Int.toNat_natCast, Int.reduceToNat, bz0, bz1, Nat.add_zero, decide_eq_false_iff_not, decide_eq_true_eq, Int.reduceEq, Nat.reduceEqDiff, Int.reduceLT, Int.reduceLE, not_true_eq_false, not_false_eq_true, eq_self, ↓reduceIte]
      · rw [u2_o (by omega), sr_ne (by omega), u2_o (by omega)]
      · rw [u2_o (by decide), sr_ne (by decide), u2_o (by decide)]
      · rw [u2_o (by decide), sr_ne (by decide), u2_o (by decide)]
      · rw [u2_j (by omega), sr_ne (by decide), u2_j (by omega)]
      · rw [u2_o (by decide), sr_q]
        funext j
        rw [e85, e84]
      · exact u2_same
      · exact absurd hk (Nat.not_lt_zero k)
      · rw [u2_j (by decide), sr_ne (by decide)]
        exact u2_same
theorem p_image (r : Rel h I) (B : ∀ a, isC a → BBo I a) : PubV h I (Cl sc (d + 30) mX11_image [Vr (some 0)]) (Cl sc (d + 30) mX12_image [Vr (some 283)]) := by
  have S := r.2.1
  obtain ⟨g1, g2, g3, g4⟩ := r.2.2.2.1
  obtain ⟨s, -, i, -, t, x1, x2, x9, z, hz⟩ := id r
  have c35 : isC 35 := Or.inr (Or.inr (Or.inl rfl))
  obtain ⟨J, ⟨j1, j2, j3⟩, j4⟩ := c_copyFrom (sc := sc) (d := d + 27) (a := 35) (b := 11) r.1 c35 isC_now (by omega) S.2.1 S.1 (B 11 isC_now)
  have s1 : Sh (wP h 35 14 (rP h 11 14)) := r.1.w14 c35
  have ej : ∀ p, p < 35 ∨ 46 < p → J p = I p := j1
  refine ⟨wP h 35 14 (rP h 11 14), am_u2 J 0 6 1, ?_, s1, ?_⟩
  · have z1 : (1 : Int) = 0 ∨ (1 : Int) = 1 := Or.inr rfl
    rw [q_X11_image_0]
    simp (disch := first | assumption | exact Int.natCast_nonneg _ | decide) only [↓BO r.1, ↓BC (cty_of r.1 c35), j4, ↓BO s1, z1, e_clI, e_clV, e_clP, e_clIx, e_clVx, e_clPx, e_xt, Int.toNat_natCast, Int.reduceToNat, bz0, bz1, Nat.add_zero, decide_eq_false_iff_not, decide_eq_true_eq, Int.reduceEq, Nat.reduceEqDiff, Int.reduceLT, Int.reduceLE, not_true_eq_false, not_false_eq_true, eq_self, ↓reduceIte]
  · have go := m_lay (h := wP h 35 14 (rP h 11 14)) (J := am_u2 (am_u2 J 0 6 1) 283 0 0) (m := 285) (q := 284) (o := 0) (N := 1480) (L := fun i hh => Ru sc (d + 30) mX12_image 6 [Vr (some 283), Vi (i : Int)] [] hh) (by decide) (fun i K hi kq k283 => by
      obtain ⟨wn, l1, l2⟩ := ar_3 hi
      rw [Nat.zero_add] at kq
      rw [Nat.zero_add]
      try dsimp only
      rw [q_X12_image_6]
      simp (disch := first | assumption | exact Int.natCast_nonneg _ | decide) only [↓BM s1, l1, l2, wn, kq, e_clI, e_clV, e_clP, e_clIx, e_clVx, e_clPx, e_xt, Int.toNat_natCast, Int.reduceToNat, bz0, bz1, Nat.add_zero, decide_eq_false_iff_not, decide_eq_true_eq, Int.reduceEq, Nat.reduceEqDiff, Int.reduceLT, Int.reduceLE, not_true_eq_false, not_false_eq_true, eq_self, ↓reduceIte]) (by decide) (by decide)
    have z1 : (1 : Int) = 0 ∨ (1 : Int) = 1 := Or.inr rfl
    have e84 : ∀ j, am_u2 (am_u2 J 0 6 1) 283 0 0 284 j = I 284 j := fun j => by rw [u2_o (by decide), u2_o (by decide), ej _ (by decide)]
    have e85 : ∀ j, am_u2 (am_u2 J 0 6 1) 283 0 0 285 j = I 285 j := fun j => by rw [u2_o (by decide), u2_o (by decide), ej _ (by decide)]
    have eK : ∃ K, K = am_u2 (sr (am_u2 (am_u2 J 0 6 1) 283 0 0) 285 (fun j => if j < 1480 then am_u2 (am_u2 J 0 6 1) 283 0 0 284 (0 + j) else am_u2 (am_u2 J 0 6 1) 283 0 0 285 j)) 283 6 1 := ⟨_, rfl⟩
    obtain ⟨K, eK⟩ := eK
    have k285 : ∀ j, j < 1480 → K 285 j = I 284 j := fun j hj => by
      rw [eK, u2_o (by decide), sr_q, if_pos hj, Nat.zero_add, e84]
    have kp : ∀ p, p ≠ 0 → p ≠ 283 → p ≠ 285 → K p = J p := fun p h1 h2 h3 => by rw [eK, u2_o h2, sr_ne h3, u2_o h2, u2_o h1]
    have k0 : ∀ j, j ≠ 6 → K 0 j = I 0 j := fun j hj => by rw [eK, u2_o (by decide), sr_ne (by decide), u2_o (by decide), u2_j hj, ej _ (by decide)]
    have k06 : K 0 6 = 1 := by rw [eK, u2_o (by decide), sr_ne (by decide), u2_o (by decide)]; exact u2_same
    have k83 : ∀ j, j ≠ 0 → j ≠ 6 → K 283 j = I 283 j := fun j h0 h6 => by rw [eK, u2_j h6, sr_ne (by decide), u2_j h0, u2_o (by decide), ej _ (by decide)]
    have k836 : K 283 6 = 1 := by rw [eK]; exact u2_same
    have k84 : K 284 = I 284 := by rw [kp _ (by decide) (by decide) (by decide), ej _ (by decide)]
    refine ⟨wP h 35 14 (rP h 11 14), K, ?_, ⟨s1, ?_, ⟨?_, Or.inr ⟨k836, ?_, ?_, ?_⟩⟩, ⟨?_, ?_, ?_, fun k hk => ?_⟩, ⟨?_, ?_, ?_, ?_⟩, ?_, ?_, ?_, z, ?_⟩, ?_⟩
    · rw [q_X12_image_0]
      simp (disch := first | assumption | exact Int.natCast_nonneg _ | decide) only [↓BM s1, e_clI, e_clV, e_clP, e_clIx, e_clVx, e_clPx, e_xt, Int.toNat_natCast, Int.reduceToNat, bz0, bz1, Nat.add_zero, decide_eq_false_iff_not, decide_eq_true_eq, Int.reduceEq, Nat.reduceEqDiff, Int.reduceLT, Int.reduceLE, not_true_eq_false, not_false_eq_true, eq_self, ↓reduceIte]
      refine go.trans ?_
      try dsimp only
      rw [q_X12_image_6, if_neg (by omega)]
      simp (disch := first | assumption | exact Int.natCast_nonneg _ | decide) only [↓BM s1, z1, e_clI, e_clV, e_clP, e_clIx, e_clVx, e_clPx, e_xt, Int.toNat_natCast, Int.reduceToNat, bz0, bz1, Nat.add_zero, decide_eq_false_iff_not, decide_eq_true_eq, Int.reduceEq, Nat.reduceEqDiff, Int.reduceLT, Int.reduceLE, not_true_eq_false, not_false_eq_true, eq_self, ↓reduceIte]
      rw [eK]
    · rw [k84]
      refine ⟨S.1.eq fun k hk => by rw [kp _ (by omega) (by omega) (by omega), ej _ (by omega)], S.2.1, S.2.2.same rfl (Nat.le_refl _) (rP_w14n (by omega)) (fun p j hp => rP_w14n (by omega)) (fun n k hk => by rw [kp _ (by omega) (by omega) (by omega), ej _ (by omega)])⟩
    · rw [k06, k836]
    · exact CRep.cgw (fun j hj => k285 j (by omega)) S.2.1 (j2.eq fun k hk => kp _ (by omega) (by omega) (by omega))
    · exact S.2.1.cgw (fun j hj => k285 j (by omega))
    · have M : LR (wP h 35 14 (rP h 11 14)) K 35 (I 284) := S.2.2.mv rfl (Nat.le_refl _) rP_w14 (fun p j hp => rP_w14n (by omega)) (fun n k hk => by rw [kp _ (by omega) (by omega) (by omega), ej _ (by omega)])
      exact M.cg8 (k285 2 (by decide)) (fun j h6 h8 => k285 j h8)
    · rw [k0 9 (by decide), k83 7 (by decide) (by decide)]
      exact g1
    · rw [k83 7 (by decide) (by decide)]
      exact g2
    · rw [k0 8 (by decide)]
      exact g3
    · rw [k83 7 (by decide) (by decide)] at hk
      obtain ⟨q1, q2, q3, q4⟩ := g4 k hk
      have hk9 := ring_n (I := I) (k := k)
      have er : ring K k = ring I k := by unfold ring; rw [k0 8 (by decide)]
      have ew : rowA K k = rowA I k := by unfold rowA; rw [kp 288 (by decide) (by decide) (by decide), ej _ (by decide)]
      rw [er, ew, k84, rP_w14n (by omega), rP_w14n (by omega)]
      exact ⟨q1.eq fun k hk => by rw [kp _ (by omega) (by omega) (by omega), ej _ (by omega)], q2, q3, q4⟩
    · rw [kp 1 (by decide) (by decide) (by decide), ej _ (by decide), k83 9 (by decide) (by decide)]
      exact t.1
    · rw [k83 9 (by decide) (by decide)]
      exact t.2.1
    · rw [kp 2 (by decide) (by decide) (by decide), ej _ (by decide), kp 289 (by decide) (by decide) (by decide), ej _ (by decide)]
      exact t.2.2.1
    · rw [kp 1 (by decide) (by decide) (by decide), ej _ (by decide), k83 14 (by decide) (by decide)]
      exact t.2.2.2
    · rw [k83 18 (by decide) (by decide)]
      exact x1
    · rw [k83 19 (by decide) (by decide)]
      exact x2
    · rw [kp 9 (by decide) (by decide) (by decide), ej _ (by decide)]
      exact x9
    · exact hz
    · exact ⟨Nat.le_add_right _ _, Nat.le_add_right _ _⟩
end
