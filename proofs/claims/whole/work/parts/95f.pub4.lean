/-! CALLS THAT ASK: ODDS, THE SOREST, THE LOG -/
def odF (q : Int) (_ : Nat) (t : Int) : Int := t * (100 - q) / 100
theorem odF_b {q t : Int} {i : Nat} (hq : 0 ≤ q ∧ q ≤ 100) (ht : 0 ≤ t ∧ t ≤ 10000) : 0 ≤ odF q i t ∧ odF q i t ≤ 10000 ∧ 0 ≤ t * (100 - q) ∧ t * (100 - q) ≤ 1000000 := by
  have h1 : 0 ≤ t * (100 - q) := Int.mul_nonneg ht.1 (by omega)
  have h2 : t * (100 - q) ≤ 10000 * 100 := Int.mul_le_mul ht.2 (by omega) (by omega) (by omega)
  unfold odF
  omega
def so1 (w : am_Wd) (f : Nat) (t : Int × Int) : Int × Int := if t.2 < w (307 + 4 * f + 3) then ((f : Int), w (307 + 4 * f + 3)) else t
theorem orX {k x : Nat} (hk : k = x) : k = x := hk
section
variable {sc : Nat × (Nat → Int)} {d a : Nat} {h : am_H} {I : am_I} {w : am_Wd}
theorem p_odds (r : Rel h I) {x y : Int} : Pub h I (Cl sc (d + 30) mX11_odds [Vr (some 0), Vi x, Vi y]) (Cl sc (d + 30) mX12_odds [Vr (some 283), Vi x, Vi y]) cdB := by
  have R := r.R
  have V := r.V
  have hF := V.fa
  by_cases hx : 0 ≤ x ∧ x < I 284 0
  · obtain ⟨f, rfl⟩ : ∃ f : Nat, x = f := ⟨x.toNat, by omega⟩
    have hf : f < 6 := by omega
    have hv := V.fm hf
    have hq := V.ws.2.2.2.2.1
    by_cases hy : 0 ≤ y ∧ y ≤ 4
    · have hy1 : ¬ y < 0 := by omega
      have hy2 : ¬ 4 < y := by omega
      obtain ⟨n, rfl⟩ : ∃ n : Nat, y = n := ⟨y.toNat, by omega⟩
      have hqb : 0 ≤ min 100 (I 284 4 + I 284 (307 + 4 * f + 3)) ∧ min 100 (I 284 4 + I 284 (307 + 4 * f + 3)) ≤ 100 := by omega
      have hws : w32 (I 284 4 + I 284 (307 + 4 * f + 3)) = I 284 4 + I 284 (307 + 4 * f + 3) := w32_id (by omega) (by omega)
      have hso := R.so hf
      refine pubQ (x := 0) (v := fo (odF (min 100 (I 284 4 + I 284 (307 + 4 * f + 3)))) n 10000) r (CO.ok ?_ (Same.rf I)) (fun h1 J1 r1 e1 => ?_) (fun _ => rfl)
      · rw [q_X11_odds_0]
        simp (disch := first | (simp (disch := omega) only [w32_id]; omega) | omega) only [↓BO r.1, ↓BC r.c, c_nF r.1 r.fa hx, hy1, hy2, R.qu, hso, hws, c_min, e_clI, e_clV, e_clP, e_clIx, e_clVx, e_clPx, e_xt, Int.toNat_natCast, Int.reduceToNat, bz0, bz1, Nat.add_zero, decide_eq_false_iff_not, decide_eq_true_eq, Int.reduceEq, Nat.reduceEqDiff, Int.reduceLT, Int.reduceLE, not_true_eq_false, not_false_eq_true, ↓reduceIte]
        generalize min 100 (I 284 4 + I 284 (307 + 4 * f + 3)) = q at hqb
        have hr := fo_run (F := fun i t => Ru sc (d + 30) mX11_odds 29 [Vr (some 0), Vi (f : Int), Vi (n : Int), Vi q, Vi t, Vi (i : Int)] [] (hI h I)) (f := odF q) (P := fun _ t => 0 ≤ t ∧ t ≤ 10000) (N := n) (s0 := 10000) ⟨by omega, by omega⟩ (fun i t hi hP => by
          have hb := odF_b (i := i) hqb hP
          refine ⟨?_, hb.1, hb.2.1⟩
          have hlt : (i : Int) < (n : Int) := by omega
          have e1 : w32 (100 - q) = 100 - q := w32_id (by omega) (by omega)
          have e2 : w32 (t * (100 - q)) = t * (100 - q) := w32_id (by omega) (by omega)
          have e3 : (t * (100 - q)).tdiv 100 = odF q i t := td_e hb.2.2.1
          rw [q_X11_odds_29, if_pos hlt, if_neg (by decide), e1, e2, e3, w32_succ (by omega), w32_id (by omega) (by omega)])
        refine Eq.trans hr.1 ?_
        rw [q_X11_odds_29, if_neg (Int.lt_irrefl _)]
      · refine MO.ok0 ?_
        have V2 : WW (am_u2 J1 283 0 0 284) := by rw [w283, e1.w]; exact V
        have hx2 : 0 ≤ (f : Int) ∧ (f : Int) < am_u2 J1 283 0 0 284 0 := by rw [w283, e1.w]; exact hx
        have hin : ∀ g : am_H, Cl sc (d + 28 + 1) mX12_in [Vi (n : Int), Vi 0, Vi 4] g = some (.inl (Vi 1), g) := fun g => by
          rw [c_in, decide_eq_true hy]; rfl
        rw [q_X12_odds_0]
        simp (disch := first | (simp (disch := omega) only [w32_id]; omega) | omega) only [↓BM r1.1, m_nF r1.1 V2 hx2, m_t0 r1.1, hin, q_X12_odds_20, w283, e1.w, m_ofFamily r1.1, hws, c_min, e_clI, e_clV, e_clP, e_clIx, e_clVx, e_clPx, e_xt, Int.toNat_natCast, Int.reduceToNat, bz0, bz1, Nat.add_zero, decide_eq_false_iff_not, decide_eq_true_eq, Int.reduceEq, Nat.reduceEqDiff, Int.reduceLT, Int.reduceLE, not_true_eq_false, not_false_eq_true, ↓reduceIte]
        generalize min 100 (I 284 4 + I 284 (307 + 4 * f + 3)) = q at hqb
        have e1 : w32 (100 - q) = 100 - q := w32_id (by omega) (by omega)
        rw [e1]
        have hr := fo_run (F := fun i t => Ru sc (d + 30) mX12_odds 44 [Vr (some 283), Vi (f : Int), Vi (n : Int), Vi (100 - q), Vi t, Vi (i : Int)] [] (hI h1 (am_u2 J1 283 0 0))) (f := odF q) (P := fun _ t => 0 ≤ t ∧ t ≤ 10000) (N := n) (s0 := 10000) ⟨by omega, by omega⟩ (fun i t hi hP => by
          have hb := odF_b (i := i) hqb hP
          refine ⟨?_, hb.1, hb.2.1⟩
          have hlt : (i : Int) < (n : Int) := by omega
          have e2 : w32 (t * (100 - q)) = t * (100 - q) := w32_id (by omega) (by omega)
          have e3 : (t * (100 - q)).tdiv 100 = odF q i t := td_e hb.2.2.1
          rw [q_X12_odds_44, if_pos hlt, if_neg (by decide), e2, e3, w32_succ (by omega), w32_id (by omega) (by omega)])
        refine Eq.trans hr.1 ?_
        rw [q_X12_odds_44, if_neg (Int.lt_irrefl _)]
    · have hin : ∀ g : am_H, Cl sc (d + 28 + 1) mX12_in [Vi y, Vi 0, Vi 4] g = some (.inl (Vi 0), g) := fun g => by
        rw [c_in, decide_eq_false hy]; rfl
      refine pubQ (x := 1) (v := 0) (v' := 0) r (CO.no (J := I) (by decide) ?_ (Same.rf I)) (fun h1 J1 r1 e1 => ?_) (fun h => absurd h (by decide))
      · rw [q_X11_odds_0]
        by_cases hy1 : y < 0
        · simp (disch := first | (simp (disch := omega) only [w32_id]; omega) | omega) only [↓BO r.1, c_nF r.1 r.fa hx, hy1, hI_exI, e_clI, e_clV, e_clP, e_clIx, e_clVx, e_clPx, e_xt, Int.toNat_natCast, Int.reduceToNat, bz0, bz1, Nat.add_zero, decide_eq_false_iff_not, decide_eq_true_eq, Int.reduceEq, Nat.reduceEqDiff, Int.reduceLT, Int.reduceLE, not_true_eq_false, not_false_eq_true, ↓reduceIte]
        · have hy2 : 4 < y := by omega
          simp (disch := first | (simp (disch := omega) only [w32_id]; omega) | omega) only [↓BO r.1, c_nF r.1 r.fa hx, hy1, hy2, hI_exI, e_clI, e_clV, e_clP, e_clIx, e_clVx, e_clPx, e_xt, Int.toNat_natCast, Int.reduceToNat, bz0, bz1, Nat.add_zero, decide_eq_false_iff_not, decide_eq_true_eq, Int.reduceEq, Nat.reduceEqDiff, Int.reduceLT, Int.reduceLE, not_true_eq_false, not_false_eq_true, ↓reduceIte]
      · refine MO.thr ?_
        have V2 : WW (am_u2 J1 283 0 0 284) := by rw [w283, e1.w]; exact V
        have hx2 : 0 ≤ (f : Int) ∧ (f : Int) < am_u2 J1 283 0 0 284 0 := by rw [w283, e1.w]; exact hx
        rw [q_X12_odds_0]
        simp (disch := first | (simp (disch := omega) only [w32_id]; omega) | omega) only [↓BM r1.1, m_nF r1.1 V2 hx2, m_t0 r1.1, m_t1 r1.1, hin, q_X12_odds_20, e_clI, e_clV, e_clP, e_clIx, e_clVx, e_clPx, e_xt, Int.toNat_natCast, Int.reduceToNat, bz0, bz1, Nat.add_zero, decide_eq_false_iff_not, decide_eq_true_eq, Int.reduceEq, Nat.reduceEqDiff, Int.reduceLT, Int.reduceLE, not_true_eq_false, not_false_eq_true, ↓reduceIte]
        try rfl
  · refine pubQ (x := 3) (v := 0) (v' := 0) r (CO.no (J := I) (by decide) ?_ (Same.rf I)) (fun h1 J1 r1 e1 => ?_) (fun h => absurd h (by decide))
    · rw [q_X11_odds_0]
      simp (disch := first | (simp (disch := omega) only [w32_id]; omega) | omega) only [↓BO r.1, c_nFx r.1 r.fa hx, hI_exI, e_clI, e_clV, e_clP, e_clIx, e_clVx, e_clPx, e_xt, Int.toNat_natCast, Int.reduceToNat, bz0, bz1, Nat.add_zero, decide_eq_false_iff_not, decide_eq_true_eq, Int.reduceEq, Nat.reduceEqDiff, Int.reduceLT, Int.reduceLE, not_true_eq_false, not_false_eq_true, ↓reduceIte]
    · refine MO.thr ?_
      have V2 : WW (am_u2 J1 283 0 0 284) := by rw [w283, e1.w]; exact V
      have hx2 : ¬ (0 ≤ x ∧ x < am_u2 J1 283 0 0 284 0) := by rw [w283, e1.w]; exact hx
      rw [q_X12_odds_0]
      simp (disch := first | (simp (disch := omega) only [w32_id]; omega) | omega) only [↓BM r1.1, m_nFx r1.1 V2 hx2, m_t1 r1.1, e_clI, e_clV, e_clP, e_clIx, e_clVx, e_clPx, e_xt, Int.toNat_natCast, Int.reduceToNat, bz0, bz1, Nat.add_zero, decide_eq_false_iff_not, decide_eq_true_eq, Int.reduceEq, Nat.reduceEqDiff, Int.reduceLT, Int.reduceLE, not_true_eq_false, not_false_eq_true, ↓reduceIte]
      try rfl
theorem p_sorest (r : Rel h I) : Pub h I (Cl sc (d + 30) mX11_sorest [Vr (some 0)]) (Cl sc (d + 30) mX12_sorest [Vr (some 283)]) cdA := by
  have R := r.R
  have V := r.V
  have hF := V.fa
  have hlt0 : ¬ (((I 284 0).toNat : Nat) : Int) < I 284 0 := by omega
  refine pubQ (x := 0) (v := (fo (so1 (I 284)) (I 284 0).toNat (-1, 0)).1) r (CO.ok ?_ (Same.rf I)) (fun h1 J1 r1 e1 => ?_) (fun _ => rfl)
  · rw [q_X11_sorest_0]
    refine Eq.trans (fo_run0 (F := fun i (t : Int × Int) => Ru sc (d + 30) mX11_sorest 7 [Vr (some 0), Vi t.1, Vi t.2, Vi (i : Int)] [] (hI h I)) (f := so1 (I 284)) (N := (I 284 0).toNat) (s0 := (-1, 0)) (fun f t hi => ?_)) ?_
    · have hlt : (f : Int) < I 284 0 := by omega
      have hso := R.so (f := f) (by omega)
      try dsimp only
      unfold so1
      rw [q_X11_sorest_7]
      simp (disch := first | (simp (disch := omega) only [w32_id]; omega) | omega) only [↓BO r.1, ↓BC r.c, R.fa, hlt, hso, w32_succ, e_clI, e_clV, e_clP, e_clIx, e_clVx, e_clPx, e_xt, Int.toNat_natCast, Int.reduceToNat, bz0, bz1, Nat.add_zero, decide_eq_false_iff_not, decide_eq_true_eq, Int.reduceEq, Nat.reduceEqDiff, Int.reduceLT, Int.reduceLE, not_true_eq_false, not_false_eq_true, ↓reduceIte]
      split <;> rfl
    · try dsimp only
      rw [q_X11_sorest_7]
      simp (disch := first | (simp (disch := omega) only [w32_id]; omega) | omega) only [↓BO r.1, ↓BC r.c, R.fa, hlt0, e_clI, e_clV, e_clP, e_clIx, e_clVx, e_clPx, e_xt, Int.toNat_natCast, Int.reduceToNat, bz0, bz1, Nat.add_zero, decide_eq_false_iff_not, decide_eq_true_eq, Int.reduceEq, Nat.reduceEqDiff, Int.reduceLT, Int.reduceLE, not_true_eq_false, not_false_eq_true, ↓reduceIte]
  · refine MO.ok0 ?_
    rw [q_X12_sorest_0]
    simp (disch := first | (simp (disch := omega) only [w32_id]; omega) | omega) only [↓BM r1.1, e_clI, e_clV, e_clP, e_clIx, e_clVx, e_clPx, e_xt, Int.toNat_natCast, Int.reduceToNat, bz0, bz1, Nat.add_zero, decide_eq_false_iff_not, decide_eq_true_eq, Int.reduceEq, Nat.reduceEqDiff, Int.reduceLT, Int.reduceLE, not_true_eq_false, not_false_eq_true, ↓reduceIte]
    refine Eq.trans (fo_run0 (F := fun i (t : Int × Int) => Ru sc (d + 30) mX12_sorest 10 [Vr (some 283), Vi t.1, Vi t.2, Vi (i : Int)] [] (hI h1 (am_u2 J1 283 0 0))) (f := so1 (I 284)) (N := (I 284 0).toNat) (s0 := (-1, 0)) (fun f t hi => ?_)) ?_
    · have hlt : (f : Int) < I 284 0 := by omega
      try dsimp only
      unfold so1
      rw [q_X12_sorest_10]
      simp (disch := first | (simp (disch := omega) only [w32_id]; omega) | omega) only [↓BM r1.1, m_families r1.1, m_ofFamily r1.1, w283, e1.w, hlt, c_max, w32_succ, e_clI, e_clV, e_clP, e_clIx, e_clVx, e_clPx, e_xt, Int.toNat_natCast, Int.reduceToNat, bz0, bz1, Nat.add_zero, decide_eq_false_iff_not, decide_eq_true_eq, Int.reduceEq, Nat.reduceEqDiff, Int.reduceLT, Int.reduceLE, not_true_eq_false, not_false_eq_true, ↓reduceIte]
      split
      · rename_i h9
        rw [Int.max_eq_right (Int.le_of_lt h9)]
      · rename_i h9
        rw [Int.max_eq_left (by omega)]
    · try dsimp only
      rw [q_X12_sorest_10]
      simp (disch := first | (simp (disch := omega) only [w32_id]; omega) | omega) only [↓BM r1.1, m_families r1.1, w283, e1.w, hlt0, e_clI, e_clV, e_clP, e_clIx, e_clVx, e_clPx, e_xt, Int.toNat_natCast, Int.reduceToNat, bz0, bz1, Nat.add_zero, decide_eq_false_iff_not, decide_eq_true_eq, Int.reduceEq, Nat.reduceEqDiff, Int.reduceLT, Int.reduceLE, not_true_eq_false, not_false_eq_true, ↓reduceIte]
theorem c_value (c : Cty h a) (R : CRep I a w) (V : WW w) {x : Int} {k : Nat} (hk : k < 5) : Cl sc (d + 1) mX5_value [Vr (some (a + 10)), Vi x, Vi (k : Int)] (hI h I) = some (.inl (Vi (if 0 ≤ x ∧ x < w 5 then w (331 + 5 * x.toNat + k) else -2)), hI h I) := by
  have h5 := V.ws.2.2.2.2.2.1
  obtain ⟨r1, r2, r3⟩ := R.lg
  rw [q_X5_value_0]
  by_cases h0 : x < 0
  · rw [if_pos h0, if_neg (by omega)]
  · obtain ⟨m, rfl⟩ : ∃ m : Nat, x = m := ⟨x.toNat, by omega⟩
    by_cases h1 : (m : Int) < w 5
    · obtain ⟨n, hn⟩ : ∃ n : Nat, I (a + 10) 1 = n := ⟨(I (a + 10) 1).toNat, by omega⟩
      have r3 := r3 m h1 k hk
      rw [hn, Int.toNat_natCast] at r3
      have hb : (n + 59 - m) % 60 * 5 + k < 300 := by omega
      have hb0 : (0 : Int) ≤ (((n + 59 - m) % 60 * 5 + k : Nat) : Int) := by omega
      have hb1 : (((n + 59 - m) % 60 * 5 + k : Nat) : Int) < 300 := by omega
      have hc0 : 0 ≤ (m : Int) ∧ (m : Int) < w 5 := ⟨by omega, h1⟩
      have e2 : (((n + 59 - m : Nat) : Int)).tmod 60 = (((n + 59 - m) % 60 : Nat) : Int) := by
        rw [tm_e (by omega)]; omega
      have e3 : w32 (w32 ((((n + 59 - m) % 60 : Nat) : Int) * 5) + (k : Int)) = (((n + 59 - m) % 60 * 5 + k : Nat) : Int) := by
        rw [w32_id (z := (((n + 59 - m) % 60 : Nat) : Int) * 5) (by omega) (by omega), w32_id (by omega) (by omega)]
        omega
      have e1 : w32 (w32 (w32 ((n : Int) - 1) - (m : Int)) + 60) = ((n + 59 - m : Nat) : Int) := by
        clear e3
        rw [w32_id (z := (n : Int) - 1) (by omega) (by omega), w32_id (z := (n : Int) - 1 - m) (by omega) (by omega), w32_id (z := (n : Int) - 1 - m + 60) (by omega) (by omega)]
        omega
      rw [if_neg h0, if_pos hc0, Int.toNat_natCast, ← r3]
      simp (disch := assumption) only [BC c, hn, r1, h1, e1, e2, e3, Int.toNat_natCast, Nat.reduceEqDiff, ↓reduceIte]
    · rw [if_neg h0, if_neg (fun x => h1 x.2)]
      simp (disch := first | (simp (disch := omega) only [w32_id]; omega) | omega) only [↓BC c, r1, h1, e_clI, e_clV, e_clP, e_clIx, e_clVx, e_clPx, e_xt, Int.toNat_natCast, Int.reduceToNat, bz0, bz1, Nat.add_zero, decide_eq_false_iff_not, decide_eq_true_eq, Int.reduceEq, Nat.reduceEqDiff, Int.reduceLT, Int.reduceLE, not_true_eq_false, not_false_eq_true, ↓reduceIte]
end
