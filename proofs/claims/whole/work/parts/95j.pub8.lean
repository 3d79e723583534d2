/-! CALLS THAT ASK: LOG, LED, RESTS -/
def noL (w : am_Wd) (b : Int) : Nat → Int
  | 0 => 0
  | n + 1 => noL w b n + (if w (331 + 5 * n + 1) = b then 1 else 0)
/-- of the last t of n rows the first that is of b -/
def ltL (w : am_Wd) (b : Int) (n : Nat) : Nat → Int
  | 0 => -1
  | t + 1 => if w (331 + 5 * (n - 1 - t) + 1) = b then w (331 + 5 * (n - 1 - t)) else ltL w b n t
theorem noL_b {w : am_Wd} {b : Int} : ∀ {n : Nat}, 0 ≤ noL w b n ∧ noL w b n ≤ n
  | 0 => ⟨Int.le_refl 0, Int.le_refl 0⟩
  | n + 1 => by
    have := noL_b (w := w) (b := b) (n := n)
    show 0 ≤ noL w b n + _ ∧ noL w b n + _ ≤ _
    split <;> omega
def pay (w : am_Wd) (f : Nat) (o p : Int) : Int := if o = 0 then (if p = 0 then 5 else 1 - w (307 + 4 * f + 3) / 10) else (if p = 0 then 3 else w (307 + 4 * f + 1) / 100)
def rst (w : am_Wd) (f g : Nat) (k : Nat) (t : Int) : Int := if pay w f (k / 2 : Nat) (k % 2 : Nat) < pay w f (1 - (k / 2 : Nat)) (k % 2 : Nat) then bOr t 0 else if pay w g (k % 2 : Nat) (k / 2 : Nat) < pay w g (1 - (k % 2 : Nat)) (k / 2 : Nat) then bOr t 0 else bOr t (bShl 1 (k : Int))
section
variable {sc : Nat × (Nat → Int)} {d a : Nat} {h : am_H} {I : am_I} {w : am_Wd}
theorem m_ofLog (s : Sh h) {n k : Nat} (hn : n < 60) (hk : k < 5) : Cl sc (d + 1) mX12_ofLog [Vr (some 283), Vi (n : Int), Vi (k : Int)] (hI h I) = some (.inl (Vi (I 284 (331 + 5 * n + k))), hI h I) := by
  have e : w32 (w32 (331 + w32 (5 * (n : Int))) + (k : Int)) = ((331 + 5 * n + k : Nat) : Int) := by
    rw [w32_id (z := 5 * (n : Int)) (by omega) (by omega), w32_id (z := 331 + 5 * (n : Int)) (by omega) (by omega), w32_id (by omega) (by omega)]
    omega
  have h0 : (0 : Int) ≤ ((331 + 5 * n + k : Nat) : Int) := Int.natCast_nonneg _
  have h1 : ((331 + 5 * n + k : Nat) : Int) < 2329 := by clear e; omega
  rw [q_X12_ofLog_0]
  simp (disch := assumption) only [BM s, e, Int.toNat_natCast]
theorem p_log (r : Rel h I) {x y : Int} : Pub h I (Cl sc (d + 30) mX11_log [Vr (some 0), Vi x, Vi y]) (Cl sc (d + 30) mX12_log [Vr (some 283), Vi x, Vi y]) cdA := by
  have R := r.R
  have V := r.V
  have h5 := V.ws.2.2.2.2.2.1
  by_cases hy : 0 ≤ y ∧ y ≤ 4
  · obtain ⟨k, rfl⟩ : ∃ k : Nat, y = k := ⟨y.toNat, by omega⟩
    have hk : k < 5 := by omega
    have hin : ∀ g : am_H, Cl sc (d + 28 + 1) mX12_in [Vi (k : Int), Vi 0, Vi 4] g = some (.inl (Vi 1), g) := fun g => by
      rw [c_in, decide_eq_true hy]; rfl
    have hy1 : ¬ (k : Int) < 0 := by omega
    have hy2 : (k : Int) < 5 := by omega
    have hw5 : w32 (I 284 5 - 1) = I 284 5 - 1 := w32_id (by omega) (by omega)
    refine pubQ (x := 0) (v := if 0 ≤ x ∧ x < I 284 5 then I 284 (331 + 5 * x.toNat + k) else -2) r (CO.ok ?_ (Same.rf I)) (fun h1 J1 r1 e1 => ?_) (fun _ => rfl)
    · rw [q_X11_log_0, if_neg hy1, if_pos hy2]
      have hc := c_value (sc := sc) (d := d + 28) (x := x) (k := k) r.c R V hk
      clear hw5
      simp (disch := first | (simp (disch := omega) only [w32_id]; omega) | omega) only [↓BO r.1, ↓BC r.c, e_clI, e_clV, e_clP, e_clIx, e_clVx, e_clPx, e_xt, Int.toNat_natCast, Int.reduceToNat, bz0, bz1, Nat.add_zero, decide_eq_false_iff_not, decide_eq_true_eq, Int.reduceEq, Nat.reduceEqDiff, Int.reduceLT, Int.reduceLE, not_true_eq_false, not_false_eq_true, ↓reduceIte]
      rw [hc, e_clI]
    · refine MO.ok0 ?_
      rw [q_X12_log_0]
      by_cases hx : 0 ≤ x ∧ x < I 284 5
      · obtain ⟨n, rfl⟩ : ∃ n : Nat, x = n := ⟨x.toNat, by omega⟩
        have hin2 : ∀ g : am_H, Cl sc (d + 28 + 1) mX12_in [Vi (n : Int), Vi 0, Vi (I 284 5 - 1)] g = some (.inl (Vi 1), g) := fun g => by
          rw [c_in, decide_eq_true (by omega)]; rfl
        have hol := m_ofLog (sc := sc) (d := d + 28) (I := am_u2 J1 283 0 0) (n := n) (k := k) r1.1 (by omega) hk
        rw [w283, e1.w] at hol
        rw [if_pos hx, Int.toNat_natCast]
        clear hx hy hy1 hy2
        simp (disch := first | (simp (disch := omega) only [w32_id]; omega) | omega) only [↓BM r1.1, hin, m_t0 r1.1, q_X12_log_13, w283, e1.w, hw5, hin2, hol, e_clI, e_clV, e_clP, e_clIx, e_clVx, e_clPx, e_xt, Int.toNat_natCast, Int.reduceToNat, bz0, bz1, Nat.add_zero, decide_eq_false_iff_not, decide_eq_true_eq, Int.reduceEq, Nat.reduceEqDiff, Int.reduceLT, Int.reduceLE, not_true_eq_false, not_false_eq_true, ↓reduceIte]
      · have hin2 : ∀ g : am_H, Cl sc (d + 28 + 1) mX12_in [Vi x, Vi 0, Vi (I 284 5 - 1)] g = some (.inl (Vi 0), g) := fun g => by
          rw [c_in, decide_eq_false (by omega)]; rfl
        rw [if_neg hx]
        clear hx hy hy1 hy2
        simp (disch := first | (simp (disch := omega) only [w32_id]; omega) | omega) only [↓BM r1.1, hin, m_t0 r1.1, q_X12_log_13, w283, e1.w, hw5, hin2, e_clI, e_clV, e_clP, e_clIx, e_clVx, e_clPx, e_xt, Int.toNat_natCast, Int.reduceToNat, bz0, bz1, Nat.add_zero, decide_eq_false_iff_not, decide_eq_true_eq, Int.reduceEq, Nat.reduceEqDiff, Int.reduceLT, Int.reduceLE, not_true_eq_false, not_false_eq_true, ↓reduceIte]
  · have hin : ∀ g : am_H, Cl sc (d + 28 + 1) mX12_in [Vi y, Vi 0, Vi 4] g = some (.inl (Vi 0), g) := fun g => by
      rw [c_in, decide_eq_false hy]; rfl
    refine pubQ (x := 4) (v := 0) (v' := 0) r (CO.no (J := I) (by decide) ?_ (Same.rf I)) (fun h1 J1 r1 e1 => ?_) (fun h => absurd h (by decide))
    · rw [q_X11_log_0]
      by_cases hy1 : y < 0
      · rw [if_pos hy1, hI_exI]
      · rw [if_neg hy1, if_neg (by omega), hI_exI]
    · refine MO.thr ?_
      rw [q_X12_log_0]
      simp (disch := first | (simp (disch := omega) only [w32_id]; omega) | omega) only [↓BM r1.1, hin, m_t1 r1.1, q_X12_log_13, e_clI, e_clV, e_clP, e_clIx, e_clVx, e_clPx, e_xt, Int.toNat_natCast, Int.reduceToNat, bz0, bz1, Nat.add_zero, decide_eq_false_iff_not, decide_eq_true_eq, Int.reduceEq, Nat.reduceEqDiff, Int.reduceLT, Int.reduceLE, not_true_eq_false, not_false_eq_true, ↓reduceIte]
      try rfl
theorem c_rowsOf (c : Cty h a) (R : CRep I a w) (V : WW w) {b : Int} : Cl sc (d + 2) mX5_rowsOf [Vr (some (a + 10)), Vi b] (hI h I) = some (.inl (Vi (noL w b (w 5).toNat)), hI h I) := by
  have h5 := V.ws.2.2.2.2.2.1
  have hlt0 : ¬ (((w 5).toNat : Nat) : Int) < w 5 := by omega
  rw [q_X5_rowsOf_0]
  have go : ∀ n, n ≤ (w 5).toNat → Ru sc (d + 2) mX5_rowsOf 5 [Vr (some (a + 10)), Vi b, Vi 0, Vi 0] [] (hI h I) = Ru sc (d + 2) mX5_rowsOf 5 [Vr (some (a + 10)), Vi b, Vi (noL w b n), Vi (n : Int)] [] (hI h I) := by
    intro n
    induction n with
    | zero => exact fun _ => rfl
    | succ n ih =>
      intro hn
      have hlt : (n : Int) < w 5 := by omega
      have hb := noL_b (w := w) (b := b) (n := n)
      have hv := c_value (sc := sc) (d := d) (x := (n : Int)) (k := 1) c R V (by omega)
      rw [if_pos ⟨by omega, hlt⟩, Int.toNat_natCast] at hv
      have hv : Cl sc (d + 1) mX5_value [Vr (some (a + 10)), Vi (n : Int), Vi 1] (hI h I) = _ := hv
      rw [ih (by omega), q_X5_rowsOf_5]
      simp (disch := first | (simp (disch := omega) only [w32_id]; omega) | omega) only [↓BC c, R.lg.1, hlt, hv, w32_succ, e_clI, e_clV, e_clP, e_clIx, e_clVx, e_clPx, e_xt, Int.toNat_natCast, Int.reduceToNat, bz0, bz1, Nat.add_zero, decide_eq_false_iff_not, decide_eq_true_eq, Int.reduceEq, Nat.reduceEqDiff, Int.reduceLT, Int.reduceLE, not_true_eq_false, not_false_eq_true, ↓reduceIte]
      show _ = Ru sc (d + 2) mX5_rowsOf 5 [Vr (some (a + 10)), Vi b, Vi (noL w b n + (if w (331 + 5 * n + 1) = b then 1 else 0)), Vi ((n + 1 : Nat) : Int)] [] (hI h I)
      by_cases h1 : w (331 + 5 * n + 1) = b
      · rw [if_pos h1, if_pos h1, w32_id (by omega) (by omega)]
      · rw [if_neg h1, if_neg h1, w32_id (by omega) (by omega)]
  rw [go _ (Nat.le_refl _), q_X5_rowsOf_5]
  simp (disch := first | (simp (disch := omega) only [w32_id]; omega) | omega) only [↓BC c, R.lg.1, hlt0, e_clI, e_clV, e_clP, e_clIx, e_clVx, e_clPx, e_xt, Int.toNat_natCast, Int.reduceToNat, bz0, bz1, Nat.add_zero, decide_eq_false_iff_not, decide_eq_true_eq, Int.reduceEq, Nat.reduceEqDiff, Int.reduceLT, Int.reduceLE, not_true_eq_false, not_false_eq_true, ↓reduceIte]
theorem c_latest (c : Cty h a) (R : CRep I a w) (V : WW w) {b : Int} : Cl sc (d + 2) mX5_latestYear [Vr (some (a + 10)), Vi b] (hI h I) = some (.inl (Vi (ltL w b (w 5).toNat (w 5).toNat)), hI h I) := by
  have h5 := V.ws.2.2.2.2.2.1
  have hlt0 : ¬ (((w 5).toNat : Nat) : Int) < w 5 := by omega
  rw [q_X5_latestYear_0]
  have go : ∀ t, t ≤ (w 5).toNat → Ru sc (d + 2) mX5_latestYear 3 [Vr (some (a + 10)), Vi b, Vi (((w 5).toNat - t : Nat) : Int)] [] (hI h I) = some (.inl (Vi (ltL w b (w 5).toNat t)), hI h I) := by
    intro t
    induction t with
    | zero =>
      intro _
      rw [q_X5_latestYear_3, Nat.sub_zero]
      simp (disch := first | (simp (disch := omega) only [w32_id]; omega) | omega) only [↓BC c, R.lg.1, hlt0, e_clI, e_clV, e_clP, e_clIx, e_clVx, e_clPx, e_xt, Int.toNat_natCast, Int.reduceToNat, bz0, bz1, Nat.add_zero, decide_eq_false_iff_not, decide_eq_true_eq, Int.reduceEq, Nat.reduceEqDiff, Int.reduceLT, Int.reduceLE, not_true_eq_false, not_false_eq_true, ↓reduceIte]
      rfl
    | succ t ih =>
      intro hn
      have hlt : (((w 5).toNat - (t + 1) : Nat) : Int) < w 5 := by omega
      have hv1 := c_value (sc := sc) (d := d) (x := (((w 5).toNat - (t + 1) : Nat) : Int)) (k := 1) c R V (by omega)
      have hv0 := c_value (sc := sc) (d := d) (x := (((w 5).toNat - (t + 1) : Nat) : Int)) (k := 0) c R V (by omega)
      rw [if_pos ⟨by omega, hlt⟩, Int.toNat_natCast, show (w 5).toNat - (t + 1) = (w 5).toNat - 1 - t by omega] at hv1 hv0
      have hv1 : Cl sc (d + 1) mX5_value [Vr (some (a + 10)), Vi (((w 5).toNat - 1 - t : Nat) : Int), Vi 1] (hI h I) = _ := hv1
      have hv0 : Cl sc (d + 1) mX5_value [Vr (some (a + 10)), Vi (((w 5).toNat - 1 - t : Nat) : Int), Vi 0] (hI h I) = _ := hv0
      rw [show (w 5).toNat - (t + 1) = (w 5).toNat - 1 - t by omega] at hlt ⊢
      have e : (w 5).toNat - 1 - t + 1 = (w 5).toNat - t := by omega
      have hlt9 : (w 5).toNat - 1 - t < 2147483647 := by omega
      rw [q_X5_latestYear_3]
      simp (disch := assumption) only [BC c, R.lg.1, hlt, hv1, hv0, e_clI, ↓reduceIte, w32_succ hlt9, e]
      unfold ltL
      by_cases h1 : w (331 + 5 * ((w 5).toNat - 1 - t) + 1) = b
      · rw [if_pos h1, if_pos h1]
        rfl
      · rw [if_neg h1, if_neg h1]
        exact ih (by omega)
  have := go _ (Nat.le_refl _)
  rw [Nat.sub_self] at this
  exact this
theorem m_ledL (s : Sh h) (V : WW (I 284)) {b : Int} {y : Int} : ∀ t, t ≤ (I 284 5).toNat → Ru sc (d + 2) mX12_led 23 [Vr (some 283), Vi b, Vi y, Vi 0, Vi (-1), Vi (((I 284 5).toNat : Int) - 1)] [] (hI h I) = Ru sc (d + 2) mX12_led 23 [Vr (some 283), Vi b, Vi y, Vi (noL (I 284) b (I 284 5).toNat - noL (I 284) b ((I 284 5).toNat - t)), Vi (ltL (I 284) b (I 284 5).toNat t), Vi (((I 284 5).toNat : Int) - t - 1)] [] (hI h I) := by
  have h5 := V.ws.2.2.2.2.2.1
  intro t
  induction t with
  | zero =>
    intro _
    rw [Nat.sub_zero, Int.sub_self]
    congr 6
  | succ t ih =>
    intro hn
    obtain ⟨m, hm⟩ : ∃ m, m + 1 + t = (I 284 5).toNat := ⟨(I 284 5).toNat - 1 - t, by omega⟩
    have hm60 : m < 60 := by omega
    have e1 : ((I 284 5).toNat : Int) - (t : Int) - 1 = (m : Int) := by omega
    have e2 : ((I 284 5).toNat : Int) - ((t + 1 : Nat) : Int) - 1 = (m : Int) - 1 := by omega
    have e3 : (I 284 5).toNat - t = m + 1 := by omega
    have e4 : (I 284 5).toNat - (t + 1) = m := by omega
    have e5 : (I 284 5).toNat - 1 - t = m := by omega
    have o1 := m_ofLog (sc := sc) (d := d) (I := I) (k := 1) s hm60 (by omega)
    have o0 := m_ofLog (sc := sc) (d := d) (I := I) (k := 0) s hm60 (by omega)
    have o1 : Cl sc (d + 1) mX12_ofLog [Vr (some 283), Vi (m : Int), Vi 1] (hI h I) = _ := o1
    have o0 : Cl sc (d + 1) mX12_ofLog [Vr (some 283), Vi (m : Int), Vi 0] (hI h I) = _ := o0
    have hb := noL_b (w := I 284) (b := b) (n := m)
    have hb2 := noL_b (w := I 284) (b := b) (n := m + 1)
    have hb3 := noL_b (w := I 284) (b := b) (n := (I 284 5).toNat)
    have es : noL (I 284) b (m + 1) = noL (I 284) b m + (if I 284 (331 + 5 * m + 1) = b then 1 else 0) := rfl
    have hm0 : ¬ (m : Int) < 0 := by omega
    rw [ih (by omega), e1, e2, e3, e4, q_X12_led_23, if_neg hm0]
    have el : ltL (I 284) b (I 284 5).toNat (t + 1) = if I 284 (331 + 5 * m + 1) = b then I 284 (331 + 5 * m) else ltL (I 284) b (I 284 5).toNat t := by
      show (if I 284 (331 + 5 * ((I 284 5).toNat - 1 - t) + 1) = b then I 284 (331 + 5 * ((I 284 5).toNat - 1 - t)) else ltL (I 284) b (I 284 5).toNat t) = _
      rw [e5]
    rw [el]
    clear ih el e1 e2 e3 e4 e5
    simp (disch := first | (simp (disch := omega) only [w32_id]; omega) | omega) only [↓BM s, o1, o0, e_clI, e_clV, e_clP, e_clIx, e_clVx, e_clPx, e_xt, Int.toNat_natCast, Int.reduceToNat, bz0, bz1, Nat.add_zero, decide_eq_false_iff_not, decide_eq_true_eq, Int.reduceEq, Nat.reduceEqDiff, Int.reduceLT, Int.reduceLE, not_true_eq_false, not_false_eq_true, ↓reduceIte]
    have hw : w32 ((m : Int) + (-1)) = (m : Int) - 1 := by rw [w32_id (by omega) (by omega)]; omega
    rw [hw]
    clear hw
    by_cases h1 : I 284 (331 + 5 * m + 1) = b
    · rw [if_pos h1] at es
      rw [if_pos h1, if_pos h1, w32_id (by omega) (by omega), es]
      congr 6
      omega
    · rw [if_neg h1] at es
      rw [if_neg h1, if_neg h1, es, Int.add_zero]
theorem p_led (r : Rel h I) {x y : Int} : Pub h I (Cl sc (d + 30) mX11_led [Vr (some 0), Vi x, Vi y]) (Cl sc (d + 30) mX12_led [Vr (some 283), Vi x, Vi y]) cdA := by
  have R := r.R
  have V := r.V
  have h5 := V.ws.2.2.2.2.2.1
  by_cases hx : 0 ≤ x ∧ x < 60
  · refine pubQ (x := 0) (v := if y = 0 then noL (I 284) x (I 284 5).toNat else ltL (I 284) x (I 284 5).toNat (I 284 5).toNat) r (CO.ok ?_ (Same.rf I)) (fun h1 J1 r1 e1 => ?_) (fun _ => rfl)
    · rw [q_X11_led_0]
      have k1 := c_rowsOf (sc := sc) (d := d + 27) (b := x) r.c R V
      have k2 := c_latest (sc := sc) (d := d + 27) (b := x) r.c R V
      by_cases hy : y = 0
      · simp (disch := first | (simp (disch := omega) only [w32_id]; omega) | omega) only [↓BO r.1, ↓BC r.c, c_nB hx, hy, e_clI, e_clV, e_clP, e_clIx, e_clVx, e_clPx, e_xt, Int.toNat_natCast, Int.reduceToNat, bz0, bz1, Nat.add_zero, decide_eq_false_iff_not, decide_eq_true_eq, Int.reduceEq, Nat.reduceEqDiff, Int.reduceLT, Int.reduceLE, not_true_eq_false, not_false_eq_true, ↓reduceIte]
        rw [k1, e_clI]
      · simp (disch := first | (simp (disch := omega) only [w32_id]; omega) | omega) only [↓BO r.1, ↓BC r.c, c_nB hx, hy, e_clI, e_clV, e_clP, e_clIx, e_clVx, e_clPx, e_xt, Int.toNat_natCast, Int.reduceToNat, bz0, bz1, Nat.add_zero, decide_eq_false_iff_not, decide_eq_true_eq, Int.reduceEq, Nat.reduceEqDiff, Int.reduceLT, Int.reduceLE, not_true_eq_false, not_false_eq_true, ↓reduceIte]
        rw [k2, e_clI]
    · refine MO.ok0 ?_
      have V2 : WW (am_u2 J1 283 0 0 284) := by rw [w283, e1.w]; exact V
      have k1 := m_ledL (sc := sc) (d := d + 28) (b := x) (y := y) (I := am_u2 J1 283 0 0) r1.1 V2
      rw [w283, e1.w] at k1
      have k2 := k1 _ (Nat.le_refl _)
      have e9 : (((I 284 5).toNat : Nat) : Int) - 1 = I 284 5 - 1 := by omega
      have e8 : (((I 284 5).toNat : Nat) : Int) - (((I 284 5).toNat : Nat) : Int) - 1 = -1 := by omega
      have hw5 : w32 (I 284 5 - 1) = I 284 5 - 1 := w32_id (by omega) (by omega)
      rw [e9, e8, Nat.sub_self, show noL (I 284) x 0 = 0 from rfl, Int.sub_zero, q_X12_led_23 sc (d + 29) _ _ _ _ _ (-1), if_pos (by decide)] at k2
      clear e8 e9 k1
      rw [q_X12_led_0]
      simp (disch := first | (simp (disch := omega) only [w32_id]; omega) | omega) only [↓BM r1.1, m_nB hx, m_t0 r1.1, w283, e1.w, hw5, e_clI, e_clV, e_clP, e_clIx, e_clVx, e_clPx, e_xt, Int.toNat_natCast, Int.reduceToNat, bz0, bz1, Nat.add_zero, decide_eq_false_iff_not, decide_eq_true_eq, Int.reduceEq, Nat.reduceEqDiff, Int.reduceLT, Int.reduceLE, not_true_eq_false, not_false_eq_true, ↓reduceIte]
      refine k2.trans ?_
      split <;> rfl
  · skip
    refine pubQ (x := 3) (v := 0) (v' := 0) r (CO.no (J := I) (by decide) ?_ (Same.rf I)) (fun h1 J1 r1 e1 => ?_) (fun h => absurd h (by decide))
    · rw [q_X11_led_0]
      simp (disch := first | (simp (disch := omega) only [w32_id]; omega) | omega) only [c_nBx hx, hI_exI, e_clI, e_clV, e_clP, e_clIx, e_clVx, e_clPx, e_xt, Int.toNat_natCast, Int.reduceToNat, bz0, bz1, Nat.add_zero, decide_eq_false_iff_not, decide_eq_true_eq, Int.reduceEq, Nat.reduceEqDiff, Int.reduceLT, Int.reduceLE, not_true_eq_false, not_false_eq_true, ↓reduceIte]
    · refine MO.thr ?_
      rw [q_X12_led_0]
      simp (disch := first | (simp (disch := omega) only [w32_id]; omega) | omega) only [↓BM r1.1, m_nBx hx, m_t1 r1.1, e_clI, e_clV, e_clP, e_clIx, e_clVx, e_clPx, e_xt, Int.toNat_natCast, Int.reduceToNat, bz0, bz1, Nat.add_zero, decide_eq_false_iff_not, decide_eq_true_eq, Int.reduceEq, Nat.reduceEqDiff, Int.reduceLT, Int.reduceLE, not_true_eq_false, not_false_eq_true, ↓reduceIte]
      try rfl
theorem c_payoff (c : Cty h a) (R : CRep I a w) (V : WW w) {f : Nat} (hf : f < 6) {o p : Int} : Cl sc (d + 1) mX6_payoff [Vr (some a), Vi (f : Int), Vi o, Vi p] (hI h I) = some (.inl (Vi (pay w f o p)), hI h I) := by
  have hv := V.fm hf
  rw [q_X6_payoff_0]
  unfold pay
  by_cases h1 : o = 0
  · by_cases h2 : p = 0
    · simp (disch := first | (simp (disch := omega) only [w32_id]; omega) | omega) only [h1, h2, e_clI, e_clV, e_clP, e_clIx, e_clVx, e_clPx, e_xt, Int.toNat_natCast, Int.reduceToNat, bz0, bz1, Nat.add_zero, decide_eq_false_iff_not, decide_eq_true_eq, Int.reduceEq, Nat.reduceEqDiff, Int.reduceLT, Int.reduceLE, not_true_eq_false, not_false_eq_true, ↓reduceIte]
    · simp (disch := first | (simp (disch := omega) only [w32_id]; omega) | omega) only [↓BC c, h1, h2, R.so hf, td_e, e_clI, e_clV, e_clP, e_clIx, e_clVx, e_clPx, e_xt, Int.toNat_natCast, Int.reduceToNat, bz0, bz1, Nat.add_zero, decide_eq_false_iff_not, decide_eq_true_eq, Int.reduceEq, Nat.reduceEqDiff, Int.reduceLT, Int.reduceLE, not_true_eq_false, not_false_eq_true, ↓reduceIte]
      rw [w32_id (z := w (307 + 4 * f + 3) / 10) (by omega) (by omega), w32_id (by omega) (by omega)]
  · by_cases h2 : p = 0
    · simp (disch := first | (simp (disch := omega) only [w32_id]; omega) | omega) only [h1, h2, e_clI, e_clV, e_clP, e_clIx, e_clVx, e_clPx, e_xt, Int.toNat_natCast, Int.reduceToNat, bz0, bz1, Nat.add_zero, decide_eq_false_iff_not, decide_eq_true_eq, Int.reduceEq, Nat.reduceEqDiff, Int.reduceLT, Int.reduceLE, not_true_eq_false, not_false_eq_true, ↓reduceIte]
    · simp (disch := first | (simp (disch := omega) only [w32_id]; omega) | omega) only [↓BC c, h1, h2, R.cl hf, td_e, e_clI, e_clV, e_clP, e_clIx, e_clVx, e_clPx, e_xt, Int.toNat_natCast, Int.reduceToNat, bz0, bz1, Nat.add_zero, decide_eq_false_iff_not, decide_eq_true_eq, Int.reduceEq, Nat.reduceEqDiff, Int.reduceLT, Int.reduceLE, not_true_eq_false, not_false_eq_true, ↓reduceIte]
      rw [w32_id (by omega) (by omega)]
theorem m_payoff (s : Sh h) (V : WW (I 284)) {f : Nat} (hf : f < 6) {o p : Int} : Cl sc (d + 3) mX12_neighbourHas [Vr (some 283), Vi (f : Int), Vi o, Vi p] (hI h I) = some (.inl (Vi (pay (I 284) f o p)), hI h I) := by
  have hv := V.fm hf
  rw [q_X12_neighbourHas_0]
  unfold pay
  by_cases h1 : o = 0
  · by_cases h2 : p = 0
    · simp (disch := first | (simp (disch := omega) only [w32_id]; omega) | omega) only [h1, h2, e_clI, e_clV, e_clP, e_clIx, e_clVx, e_clPx, e_xt, Int.toNat_natCast, Int.reduceToNat, bz0, bz1, Nat.add_zero, decide_eq_false_iff_not, decide_eq_true_eq, Int.reduceEq, Nat.reduceEqDiff, Int.reduceLT, Int.reduceLE, not_true_eq_false, not_false_eq_true, ↓reduceIte]
    · simp (disch := first | (simp (disch := omega) only [w32_id]; omega) | omega) only [↓BM s, h1, h2, m_ofFamily s, td_e, e_clI, e_clV, e_clP, e_clIx, e_clVx, e_clPx, e_xt, Int.toNat_natCast, Int.reduceToNat, bz0, bz1, Nat.add_zero, decide_eq_false_iff_not, decide_eq_true_eq, Int.reduceEq, Nat.reduceEqDiff, Int.reduceLT, Int.reduceLE, not_true_eq_false, not_false_eq_true, ↓reduceIte]
      rw [w32_id (z := I 284 (307 + 4 * f + 3) / 10) (by omega) (by omega), w32_id (by omega) (by omega)]
  · by_cases h2 : p = 0
    · simp (disch := first | (simp (disch := omega) only [w32_id]; omega) | omega) only [h1, h2, e_clI, e_clV, e_clP, e_clIx, e_clVx, e_clPx, e_xt, Int.toNat_natCast, Int.reduceToNat, bz0, bz1, Nat.add_zero, decide_eq_false_iff_not, decide_eq_true_eq, Int.reduceEq, Nat.reduceEqDiff, Int.reduceLT, Int.reduceLE, not_true_eq_false, not_false_eq_true, ↓reduceIte]
    · simp (disch := first | (simp (disch := omega) only [w32_id]; omega) | omega) only [↓BM s, h1, h2, m_ofFamily s, td_e, e_clI, e_clV, e_clP, e_clIx, e_clVx, e_clPx, e_xt, Int.toNat_natCast, Int.reduceToNat, bz0, bz1, Nat.add_zero, decide_eq_false_iff_not, decide_eq_true_eq, Int.reduceEq, Nat.reduceEqDiff, Int.reduceLT, Int.reduceLE, not_true_eq_false, not_false_eq_true, ↓reduceIte]
      rw [w32_id (by omega) (by omega)]
end
