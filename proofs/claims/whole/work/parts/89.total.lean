/-! THE LAW'S SUMS -/
theorem tF_len {w : am_Wd} (V : WW w) {b s n : Nat} (hb : b < 60) (ht : tF w s n = some [] ∨ tF w s n = some [true]) : sF w b s n = [] ∨ ∃ x, sF w b s n = [x] ∧ (x = 0 ∨ x = 1) := by
  rcases ht with ht | ht
  · have := (sF_ok V hb ht).1
    match sF w b s n, this with
    | [], _ => exact Or.inl rfl
  · have := (sF_ok V hb ht).1
    match sF w b s n, this with
    | [x], h => exact Or.inr ⟨x, rfl, h.1⟩
section
variable {sc : Nat × (Nat → Int)} {d a L ln cc : Nat} {h : am_H} {I J : am_I} {w : am_Wd}
theorem LC.eq (e : ∀ p, p ≠ L + 5 → J p = I p) (C : LC I w L ln cc) : LC J w L ln cc := by
  unfold LC at C ⊢
  rw [e L (by omega), e (L + 1) (by omega), e (L + 2) (by omega), e (L + 3) (by omega), e (L + 4) (by omega)]
  exact C
theorem CRep.law (e : ∀ p, p ≠ L + 5 → J p = I p) (hL : 304 ≤ L) (ha : a < 290) (R : CRep I a w) : CRep J a w := R.eq fun k hk => e _ (by omega)
theorem c_holds (o : LO h L ln cc) (c : Cty h a) (ha : a < 290) (R : CRep I a w) (V : WW w) (hL : 304 ≤ L) (C : LC I w L ln cc) (W : WL w ln cc) {b : Nat} (hb : b < 60) (hf : w (7 + 5 * b) = 1) {k : Nat} (hk : k < ln) :
  ∃ J, (∀ p, p ≠ L + 5 → J p = I p) ∧ Cl sc (d + 2) mX3_holds [Vr (some L), Vi (k : Int), Vr (some a), Vi (b : Int)] (hI h I) = some (.inl (Vi (bz (hoW w k b))), hI h J) := by
  obtain ⟨W0, W1, W2, W3⟩ := W
  obtain ⟨-, -, s, e, hs, he, hse, hec, ht⟩ := W3 k hk
  have C3 := C.2.1 k hk
  have hgo : ∀ t, t ≤ e - s → ∃ J u, (∀ p, p ≠ L + 5 → J p = I p) ∧ Sk (J (L + 5)) (sF w b s t) ∧ Ru sc (d + 2) mX3_holds 11 [Vr (some L), Vi (k : Int), Vr (some a), Vi (b : Int), Vi (lc b : Nat), Vi 0, Vi (s : Int), Vx 0] [] (hI h I) = Ru sc (d + 2) mX3_holds 11 [Vr (some L), Vi (k : Int), Vr (some a), Vi (b : Int), Vi (lc b : Nat), Vi ((sF w b s t).length : Int), Vi ((s + t : Nat) : Int), u] [] (hI h J) := by
    intro t
    induction t with
    | zero => exact fun _ => ⟨I, Vx 0, fun _ _ => rfl, trivial, rfl⟩
    | succ t ih =>
      intro hle
      obtain ⟨J, u, h1, h2, h3⟩ := ih (by omega)
      obtain ⟨t2, ht2⟩ : ∃ t2, tF w s (t + 1) = some t2 := by
        rcases ht with ht | ht
        · exact tF_pre ht hle
        · exact tF_pre ht hle
      obtain ⟨t3, ht3, hl3, ht4⟩ := tF_step ht2
      have hv := sF_ok V hb ht3
      obtain ⟨J2, u2, g1, g2, g3⟩ := c_hstep (sc := sc) (d := d) (i := s + t) (e := e) (k := k) (u := u) o c (R.law h1 hL ha) V hL W1 W2 hb hf hk h2 hv.1 hl3 (by omega) ht4 (by rw [h1 _ (by omega)]; exact C.2.2 (s + t) (by omega)) (by omega) (by rw [h1 _ (by omega), C3.2.2.2, he]) (by omega)
      exact ⟨J2, u2, fun p hp => (g1 p hp).trans (h1 p hp), g2, h3.trans g3⟩
  obtain ⟨J, u, h1, h2, h3⟩ := hgo (e - s) (Nat.le_refl _)
  refine ⟨J, h1, ?_⟩
  rw [q_X3_holds_0]
  simp (disch := first | omega | (simp (disch := omega) only [w32_id]; omega)) only [↓BLw o, c_lessCell hb, C3.2.2.1, e_clI, e_clV, e_clP, e_clIx, e_clVx, e_clPx, e_xt, Int.toNat_natCast, Int.reduceToNat, bz0, bz1, Nat.add_zero, decide_eq_false_iff_not, decide_eq_true_eq, Int.reduceEq, Nat.reduceEqDiff, Int.reduceLT, Int.reduceLE, reduceIte]
  rw [hs, h3, q_X3_holds_11]
  have hend : J (L + 3) (k + 1) = (e : Int) := by rw [h1 _ (by omega), C3.2.2.2, he]
  simp (disch := first | omega | (simp (disch := omega) only [w32_id]; omega)) only [↓BLw o, w32_succ, hend, e_clI, e_clV, e_clP, e_clIx, e_clVx, e_clPx, e_xt, Int.toNat_natCast, Int.reduceToNat, bz0, bz1, Nat.add_zero, decide_eq_false_iff_not, decide_eq_true_eq, Int.reduceEq, Nat.reduceEqDiff, Int.reduceLT, Int.reduceLE, reduceIte]
  rw [if_neg (by omega)]
  unfold hoW
  rw [hs, he, Int.toNat_natCast, Int.toNat_natCast]
  rcases tF_len V hb ht with h4 | ⟨x, h4, h5⟩
  · rw [h4]
    rfl
  · rw [h4] at h2 ⊢
    have h6 : J (L + 5) 0 = x := h2.1
    rw [if_neg (by simp)]
    have e1 : w32 (((([x] : List Int).length : Nat) : Int) - 1) = 0 := by simp [w32]
    simp (disch := first | omega | (simp (disch := omega) only [w32_id]; omega)) only [↓BLw o, e1, h6, e_clI, e_clV, e_clP, e_clIx, e_clVx, e_clPx, e_xt, Int.toNat_natCast, Int.reduceToNat, bz0, bz1, Nat.add_zero, decide_eq_false_iff_not, decide_eq_true_eq, Int.reduceEq, Nat.reduceEqDiff, Int.reduceLT, Int.reduceLE, reduceIte]
    rcases h5 with rfl | rfl
    · rfl
    · rfl
theorem laW_b {ln cc : Nat} (W : WL w ln cc) {k : Int} {b : Nat} {n : Nat} (hn : n ≤ ln) : 0 ≤ sm (fun ln => if w (632 + 4 * ln) = k ∧ hoW w ln b = true then w (633 + 4 * ln) else 0) n ∧ sm (fun ln => if w (632 + 4 * ln) = k ∧ hoW w ln b = true then w (633 + 4 * ln) else 0) n ≤ 60 * n := by
  have h := sm_le (f := fun ln => if w (632 + 4 * ln) = k ∧ hoW w ln b = true then w (633 + 4 * ln) else 0) (A := 0) (B := 60) (N := n) (fun i hi => by
    have := W.2.2.2 i (by omega)
    split <;> omega)
  omega
/-- a sum that goes on a heap that changes -/
theorem c_total (o : LO h L ln cc) (c : Cty h a) (ha : a < 290) (R : CRep I a w) (V : WW w) (hL : 304 ≤ L) (C : LC I w L ln cc) (W : WL w ln cc) {b : Nat} (hb : b < 60) (hf : w (7 + 5 * b) = 1) {kd : Int} (hkd : 0 ≤ kd ∧ kd ≤ 2) :
  ∃ J, (∀ p, p ≠ L + 5 → J p = I p) ∧ Cl sc (d + 3) mX3_total [Vr (some L), Vi (-13 - kd), Vr (some a), Vi (b : Int)] (hI h I) = some (.inl (Vi (laW w kd b)), hI h J) := by
  have hgo : ∀ n, n ≤ ln → ∃ J, (∀ p, p ≠ L + 5 → J p = I p) ∧ Ru sc (d + 3) mX3_total 5 [Vr (some L), Vi (-13 - kd), Vr (some a), Vi (b : Int), Vi 0, Vi 0] [] (hI h I) = Ru sc (d + 3) mX3_total 5 [Vr (some L), Vi (-13 - kd), Vr (some a), Vi (b : Int), Vi (sm (fun ln => if w (632 + 4 * ln) = kd ∧ hoW w ln b = true then w (633 + 4 * ln) else 0) n), Vi (n : Int)] [] (hI h J) := by
    intro n
    induction n with
    | zero => exact fun _ => ⟨I, fun _ _ => rfl, rfl⟩
    | succ n ih =>
      intro hle
      obtain ⟨J, h1, h2⟩ := ih (by omega)
      have hln := W.2.1
      have C2 := C.eq h1
      have C3 := C2.2.1 n (by omega)
      have hw := W.2.2.2 n (by omega)
      have hb1 := laW_b (k := kd) (b := b) W (n := n) (by omega)
      have hb2 := laW_b (k := kd) (b := b) W (n := n + 1) (by omega)
      have es : sm (fun ln => if w (632 + 4 * ln) = kd ∧ hoW w ln b = true then w (633 + 4 * ln) else 0) (n + 1) = sm (fun ln => if w (632 + 4 * ln) = kd ∧ hoW w ln b = true then w (633 + 4 * ln) else 0) n + (if w (632 + 4 * n) = kd ∧ hoW w n b = true then w (633 + 4 * n) else 0) := rfl
      rw [h2]
      clear h2
      rw [q_X3_total_5]
      simp (disch := first | omega | (simp (disch := omega) only [w32_id]; omega)) only [↓BLw o, C2.1, C3.1, w32_succ, e_clI, e_clV, e_clP, e_clIx, e_clVx, e_clPx, e_xt, Int.toNat_natCast, Int.reduceToNat, bz0, bz1, Nat.add_zero, decide_eq_false_iff_not, decide_eq_true_eq, Int.reduceEq, Nat.reduceEqDiff, Int.reduceLT, Int.reduceLE, reduceIte]
      rw [if_pos (by omega)]
      by_cases h3 : w (632 + 4 * n) = kd
      · rw [if_pos (by omega)]
        obtain ⟨J2, g1, g2⟩ := c_holds (sc := sc) (d := d) o c ha (R.law h1 hL ha) V hL C2 W hb hf (k := n) (by omega)
        have C4 := (C2.eq g1).2.1 n (by omega)
        rw [g2]
        simp (disch := first | omega | (simp (disch := omega) only [w32_id]; omega)) only [↓BLw o, C4.2.1, w32_succ, e_clI, e_clV, e_clP, e_clIx, e_clVx, e_clPx, e_xt, Int.toNat_natCast, Int.reduceToNat, bz0, bz1, Nat.add_zero, decide_eq_false_iff_not, decide_eq_true_eq, Int.reduceEq, Nat.reduceEqDiff, Int.reduceLT, Int.reduceLE, reduceIte]
        refine ⟨J2, fun p hp => (g1 p hp).trans (h1 p hp), ?_⟩
        rw [es]
        cases h4 : hoW w n b
        · rw [if_pos rfl, if_neg (by simp), Int.add_zero]
        · rw [if_pos ⟨h3, h4⟩] at es
          rw [if_neg (by simp), if_pos ⟨h3, rfl⟩, w32_id (by omega) (by omega)]
      · rw [if_neg (by omega), es, if_neg (fun x => h3 x.1), Int.add_zero]
        exact ⟨J, h1, rfl⟩
  obtain ⟨J, h1, h2⟩ := hgo ln (Nat.le_refl _)
  refine ⟨J, h1, ?_⟩
  have hln := W.2.1
  have C2 := C.eq h1
  rw [q_X3_total_0, h2, q_X3_total_5]
  simp (disch := first | omega | (simp (disch := omega) only [w32_id]; omega)) only [↓BLw o, C2.1, e_clI, e_clV, e_clP, e_clIx, e_clVx, e_clPx, e_xt, Int.toNat_natCast, Int.reduceToNat, bz0, bz1, Nat.add_zero, decide_eq_false_iff_not, decide_eq_true_eq, Int.reduceEq, Nat.reduceEqDiff, Int.reduceLT, Int.reduceLE, reduceIte]
  rw [if_neg (by omega)]
  unfold laW
  rw [W.1, Int.toNat_natCast]
/-- the law of a county -/
def LR (h : am_H) (I : am_I) (a : Nat) (w : am_Wd) : Prop := (w 2 = 0 ∧ rP h a 14 = none) ∨ (w 2 = 1 ∧ ∃ n ln cc, rP h a 14 = some (304 + 6 * n) ∧ 304 + 6 * n + 6 ≤ hZ h ∧ LO h (304 + 6 * n) ln cc ∧ LC I w (304 + 6 * n) ln cc ∧ WL w ln cc)
/-- only stacks of laws differ -/
def Ls (I J : am_I) : Prop := ∀ p, ¬ (304 ≤ p ∧ (p - 304) % 6 = 5) → J p = I p
theorem Ls.rf (I : am_I) : Ls I I := fun _ _ => rfl
theorem Ls.tr {I J K : am_I} (h1 : Ls I J) (h2 : Ls J K) : Ls I K := fun p hp => (h2 p hp).trans (h1 p hp)
theorem Ls.of {I J : am_I} {n : Nat} (e : ∀ p, p ≠ 304 + 6 * n + 5 → J p = I p) : Ls I J := fun p hp => e p (by omega)
theorem LR.ls (e : Ls I J) (R : LR h I a w) : LR h J a w := by
  rcases R with R | ⟨R0, n, ln, cc, R1, R2, R3, R4, R5⟩
  · exact Or.inl R
  · refine Or.inr ⟨R0, n, ln, cc, R1, R2, R3, ?_, R5⟩
    unfold LC at R4 ⊢
    rw [e _ (by omega), e (304 + 6 * n + 1) (by omega), e (304 + 6 * n + 2) (by omega), e (304 + 6 * n + 3) (by omega), e (304 + 6 * n + 4) (by omega)]
    exact R4
theorem CRep.ls (e : Ls I J) (ha : a < 290) (R : CRep I a w) : CRep J a w := R.eq fun k hk => e _ (by omega)
theorem c_growth (c : Cty h a) (ha : a < 290) (R : CRep I a w) (V : WW w) (M : LR h I a w) {b : Nat} (hb : b < 60) (hf : w (7 + 5 * b) = 1) : ∃ J, Ls I J ∧ Cl sc (d + 4) mX0_growth [Vr (some a), Vi (b : Int)] (hI h I) = some (.inl (Vi (grW w b)), hI h J) := by
  have hv := V.fe hb
  rw [q_X0_growth_0]
  unfold grW
  simp (disch := first | omega | (simp (disch := omega) only [w32_id]; omega)) only [↓BC c, R.st hb hf, e_clI, e_clV, e_clP, e_clIx, e_clVx, e_clPx, e_xt, Int.toNat_natCast, Int.reduceToNat, bz0, bz1, Nat.add_zero, decide_eq_false_iff_not, decide_eq_true_eq, Int.reduceEq, Nat.reduceEqDiff, Int.reduceLT, Int.reduceLE, reduceIte]
  by_cases h1 : w (7 + 5 * b + 4) = 1
  · rw [if_neg (by omega), if_pos h1]
    exact ⟨I, Ls.rf I, rfl⟩
  · rw [if_pos (by omega), if_neg h1]
    rcases M with ⟨M0, M1⟩ | ⟨M0, n, ln, cc, M1, M2, M3, M4, M5⟩
    · rw [e_gfP c.1 M1, if_pos rfl, if_pos M0]
      exact ⟨I, Ls.rf I, rfl⟩
    · obtain ⟨J, g1, g2⟩ := c_total (sc := sc) (d := d) M3 c ha R V (by omega) M4 M5 hb hf (kd := 0) (by omega)
      have g1' := Ls.of g1
      obtain ⟨K, k1, k2⟩ := c_total (sc := sc) (d := d) M3 c ha (R.ls g1' ha) V (by omega) (M4.eq g1) M5 hb hf (kd := 1) (by omega)
      refine ⟨K, g1'.tr (Ls.of k1), ?_⟩
      have b1 := laW_b (k := 0) (b := b) M5 (Nat.le_refl _)
      have b2 := laW_b (k := 1) (b := b) M5 (Nat.le_refl _)
      have e0 : w 631 = ln := M5.1
      have hln := M5.2.1
      have e1 : (w 631).toNat = ln := by omega
      rw [e_gfP c.1 M1, if_neg (by simp), e_gfP c.1 M1, BLw M3 |>.1]
      have g3 : Cl sc (d + 3) mX3_total [Vr (some (304 + 6 * n)), Vi (-13), Vr (some a), Vi (b : Int)] (hI h I) = some (.inl (Vi (laW w 0 b)), hI h J) := g2
      have k3 : Cl sc (d + 3) mX3_total [Vr (some (304 + 6 * n)), Vi (-14), Vr (some a), Vi (b : Int)] (hI h J) = some (.inl (Vi (laW w 1 b)), hI h K) := k2
      rw [g3, e_clI, e_gfP c.1 M1, BLw M3 |>.1, k3, e_clI, if_neg (by omega)]
      unfold laW
      rw [e1]
      rw [w32_id (by omega) (by omega)]
theorem c_soreness (c : Cty h a) (ha : a < 290) (R : CRep I a w) (V : WW w) (M : LR h I a w) {b : Nat} (hb : b < 60) (hf : w (7 + 5 * b) = 1) : ∃ J, Ls I J ∧ Cl sc (d + 4) mX0_soreness [Vr (some a), Vi (b : Int)] (hI h I) = some (.inl (Vi (srW w b)), hI h J) := by
  rw [q_X0_soreness_0]
  unfold srW
  rcases M with ⟨M0, M1⟩ | ⟨M0, n, ln, cc, M1, M2, M3, M4, M5⟩
  · rw [e_gfP c.1 M1, if_pos rfl, if_neg (by omega)]
    exact ⟨I, Ls.rf I, rfl⟩
  · obtain ⟨J, g1, g2⟩ := c_total (sc := sc) (d := d) M3 c ha R V (by omega) M4 M5 hb hf (kd := 2) (by omega)
    refine ⟨J, Ls.of g1, ?_⟩
    have g3 : Cl sc (d + 3) mX3_total [Vr (some (304 + 6 * n)), Vi (-15), Vr (some a), Vi (b : Int)] (hI h I) = some (.inl (Vi (laW w 2 b)), hI h J) := g2
    rw [e_gfP c.1 M1, if_neg (by simp), e_gfP c.1 M1, BLw M3 |>.1, g3, e_clI, if_pos ⟨hf, M0⟩]
end
