/-! CALLS THAT ASK: SUMS AND FIRSTS -/
theorem Ls.sm {I J : am_I} (h : Ls I J) : Same I J := fun k j hk => by
  rw [h k (fun x => hk (by unfold scr; omega))]
theorem Lv.sm {I J : am_I} (h : Lv I J) : Same I J := fun k j hk => by
  rw [h k (fun x => hk (by unfold scr; omega))]
def mo1 (w : am_Wd) (k : Nat) (le : Bool) (b : Nat) (t : Int) : Int := if w (7 + 5 * b) = 1 ∧ (t = -1 ∨ (le = true ∧ w (7 + 5 * b + k) < w (7 + 5 * t.toNat + k)) ∨ (le = false ∧ w (7 + 5 * t.toNat + k) < w (7 + 5 * b + k))) then (b : Int) else t
def moW (w : am_Wd) (k : Nat) (le : Bool) : Int := fo (mo1 w k le) 60 (-1)
def moP (w : am_Wd) (t : Int) : Prop := t = -1 ∨ ∃ c : Nat, t = c ∧ c < 60 ∧ w (7 + 5 * c) = 1
theorem mo1_P {w : am_Wd} {k b : Nat} {le : Bool} {t : Int} (hb : b < 60) (h : moP w t) : moP w (mo1 w k le b t) := by
  unfold mo1
  split
  · rename_i h1
    exact Or.inr ⟨b, rfl, hb, h1.1⟩
  · exact h
section
variable {sc : Nat × (Nat → Int)} {d : Nat} {h : am_H} {I : am_I}
theorem m_mostOf (s : Sh h) (V : WW (I 284)) {k : Nat} (hk : k < 5) {le : Bool} : Cl sc (d + 4) mX12_mostOf [Vr (some 283), Vi (k : Int), Vi (bz le)] (hI h I) = some (.inl (Vi (moW (I 284) k le)), hI h I) := by
  rw [q_X12_mostOf_0]
  have hr := fo_run (F := fun i t => Ru sc (d + 4) mX12_mostOf 5 [Vr (some 283), Vi (k : Int), Vi (bz le), Vi t, Vi (i : Int)] [] (hI h I)) (f := mo1 (I 284) k le) (P := fun _ t => moP (I 284) t) (N := 60) (s0 := -1) (Or.inl rfl) (fun b t hb hP => by
    refine ⟨?_, mo1_P hb hP⟩
    have hlt : (b : Int) < 60 := by omega
    have hv := V.fe hb
    rw [q_X12_mostOf_5]
    by_cases hf : I 284 (7 + 5 * b) = 1
    · rcases hP with rfl | ⟨c, rfl, hc, hcf⟩
      · have e : mo1 (I 284) k le b (-1) = b := by unfold mo1; rw [if_pos ⟨hf, Or.inl rfl⟩]
        simp (disch := first | (simp (disch := omega) only [w32_id]; omega) | omega) only [↓BM s, hlt, m_hasFence s, hf, w32_succ, e_clI, e_clV, e_clP, e_clIx, e_clVx, e_clPx, e_xt, Int.toNat_natCast, Int.reduceToNat, bz0, bz1, Nat.add_zero, decide_eq_false_iff_not, decide_eq_true_eq, Int.reduceEq, Nat.reduceEqDiff, Int.reduceLT, Int.reduceLE, not_true_eq_false, not_false_eq_true, ↓reduceIte]
        rw [e]
      · have hc1 : ¬ (c : Int) = -1 := by omega
        unfold mo1
        cases le
        · simp (disch := first | (simp (disch := omega) only [w32_id]; omega) | omega) only [↓BM s, hlt, m_hasFence s, m_of s, hf, hc1, w32_succ, true_and, false_or, Bool.false_eq_true, Bool.true_eq_false, false_and, or_false, e_clI, e_clV, e_clP, e_clIx, e_clVx, e_clPx, e_xt, Int.toNat_natCast, Int.reduceToNat, bz0, bz1, Nat.add_zero, decide_eq_false_iff_not, decide_eq_true_eq, Int.reduceEq, Nat.reduceEqDiff, Int.reduceLT, Int.reduceLE, not_true_eq_false, not_false_eq_true, ↓reduceIte]
          split <;> rfl
        · simp (disch := first | (simp (disch := omega) only [w32_id]; omega) | omega) only [↓BM s, hlt, m_hasFence s, m_of s, hf, hc1, w32_succ, true_and, false_or, Bool.false_eq_true, Bool.true_eq_false, false_and, or_false, e_clI, e_clV, e_clP, e_clIx, e_clVx, e_clPx, e_xt, Int.toNat_natCast, Int.reduceToNat, bz0, bz1, Nat.add_zero, decide_eq_false_iff_not, decide_eq_true_eq, Int.reduceEq, Nat.reduceEqDiff, Int.reduceLT, Int.reduceLE, not_true_eq_false, not_false_eq_true, ↓reduceIte]
          split <;> rfl
    · have e : mo1 (I 284) k le b t = t := by unfold mo1; rw [if_neg (fun x => hf x.1)]
      simp (disch := first | (simp (disch := omega) only [w32_id]; omega) | omega) only [↓BM s, hlt, m_hasFence s, hf, w32_succ, e_clI, e_clV, e_clP, e_clIx, e_clVx, e_clPx, e_xt, Int.toNat_natCast, Int.reduceToNat, bz0, bz1, Nat.add_zero, decide_eq_false_iff_not, decide_eq_true_eq, Int.reduceEq, Nat.reduceEqDiff, Int.reduceLT, Int.reduceLE, not_true_eq_false, not_false_eq_true, ↓reduceIte]
      rw [e])
  refine Eq.trans hr.1 ?_
  rw [q_X12_mostOf_5, if_neg (by omega)]
  rfl
theorem p_oldest (r : Rel h I) : Pub h I (Cl sc (d + 30) mX11_oldest [Vr (some 0)]) (Cl sc (d + 30) mX12_oldest [Vr (some 283)]) cdA := by
  refine pubQ (x := 0) (v := moW (I 284) 1 false) r (CO.ok ?_ (Same.rf I)) (fun h1 J1 r1 e1 => ?_) (fun _ => rfl)
  · have R := r.R
    rw [q_X11_oldest_0]
    have hr := fo_run (F := fun i t => Ru sc (d + 30) mX11_oldest 5 [Vr (some 0), Vi t, Vi (i : Int)] [] (hI h I)) (f := mo1 (I 284) 1 false) (P := fun _ t => moP (I 284) t) (N := 60) (s0 := -1) (Or.inl rfl) (fun b t hb hP => by
      refine ⟨?_, mo1_P hb hP⟩
      have hlt : (b : Int) < 60 := by omega
      have hv := r.V.fe hb
      have hth := R.th hb
      have hag := R.ag hb
      rw [q_X11_oldest_5]
      by_cases hf : I 284 (7 + 5 * b) = 1
      · have hag := hag hf
        rcases hP with rfl | ⟨c, rfl, hc, hcf⟩
        · have e : mo1 (I 284) 1 false b (-1) = b := by unfold mo1; rw [if_pos ⟨hf, Or.inl rfl⟩]
          simp (disch := first | (simp (disch := omega) only [w32_id]; omega) | omega) only [↓BO r.1, ↓BC r.c, hlt, hth, hf, w32_succ, e_clI, e_clV, e_clP, e_clIx, e_clVx, e_clPx, e_xt, Int.toNat_natCast, Int.reduceToNat, bz0, bz1, Nat.add_zero, decide_eq_false_iff_not, decide_eq_true_eq, Int.reduceEq, Nat.reduceEqDiff, Int.reduceLT, Int.reduceLE, not_true_eq_false, not_false_eq_true, ↓reduceIte]
          rw [e]
        · have hc1 : ¬ (c : Int) = -1 := by omega
          have hcg := R.ag hc hcf
          unfold mo1
          simp (disch := first | (simp (disch := omega) only [w32_id]; omega) | omega) only [↓BO r.1, ↓BC r.c, hlt, hth, hf, hc1, hag, hcg, w32_succ, true_and, false_or, Bool.false_eq_true, false_and, e_clI, e_clV, e_clP, e_clIx, e_clVx, e_clPx, e_xt, Int.toNat_natCast, Int.reduceToNat, bz0, bz1, Nat.add_zero, decide_eq_false_iff_not, decide_eq_true_eq, Int.reduceEq, Nat.reduceEqDiff, Int.reduceLT, Int.reduceLE, not_true_eq_false, not_false_eq_true, ↓reduceIte]
          split <;> rfl
      · have e : mo1 (I 284) 1 false b t = t := by unfold mo1; rw [if_neg (fun x => hf x.1)]
        have h0 : I 284 (7 + 5 * b) = 0 := by omega
        simp (disch := first | (simp (disch := omega) only [w32_id]; omega) | omega) only [↓BO r.1, ↓BC r.c, hlt, hth, h0, w32_succ, e_clI, e_clV, e_clP, e_clIx, e_clVx, e_clPx, e_xt, Int.toNat_natCast, Int.reduceToNat, bz0, bz1, Nat.add_zero, decide_eq_false_iff_not, decide_eq_true_eq, Int.reduceEq, Nat.reduceEqDiff, Int.reduceLT, Int.reduceLE, not_true_eq_false, not_false_eq_true, ↓reduceIte]
        rw [e])
    refine Eq.trans hr.1 ?_
    rw [q_X11_oldest_5, if_neg (by omega)]
    rfl
  · refine MO.ok0 ?_
    have V2 : WW (am_u2 J1 283 0 0 284) := by rw [w283, e1.w]; exact r.V
    have e := m_mostOf (sc := sc) (d := d + 25) (k := 1) (le := false) r1.1 V2 (by omega)
    rw [w283, e1.w] at e
    have e2 : Cl sc (d + 25 + 4) mX12_mostOf [Vr (some 283), Vi 1, Vi 0] (hI h1 (am_u2 J1 283 0 0)) = _ := e
    rw [q_X12_oldest_0]
    simp (disch := first | (simp (disch := omega) only [w32_id]; omega) | omega) only [↓BM r1.1, e2, e_clI, e_clV, e_clP, e_clIx, e_clVx, e_clPx, e_xt, Int.toNat_natCast, Int.reduceToNat, bz0, bz1, Nat.add_zero, decide_eq_false_iff_not, decide_eq_true_eq, Int.reduceEq, Nat.reduceEqDiff, Int.reduceLT, Int.reduceLE, not_true_eq_false, not_false_eq_true, ↓reduceIte]
theorem p_highest (r : Rel h I) {x : Int} (hx : x = 0 ∨ x = 1) : Pub h I (Cl sc (d + 30) mX11_highest [Vr (some 0), Vi x]) (Cl sc (d + 30) mX12_highest [Vr (some 283), Vi x]) cdA := by
  refine pubQ (x := 0) (v := moW (I 284) 2 (decide (x = 0))) r (CO.ok ?_ (Same.rf I)) (fun h1 J1 r1 e1 => ?_) (fun _ => rfl)
  · have R := r.R
    rw [q_X11_highest_0]
    have hr := fo_run (F := fun i (t : Int × am_V) => Ru sc (d + 30) mX11_highest 5 [Vr (some 0), Vi x, Vi t.1, Vi (i : Int), t.2] [] (hI h I)) (f := fun b t => (mo1 (I 284) 2 (decide (x = 0)) b t.1, if I 284 (7 + 5 * b) = 1 then (if mo1 (I 284) 2 (decide (x = 0)) b t.1 = b then Vi 1 else Vi 0) else t.2)) (P := fun i t => moP (I 284) t.1 ∧ t.1 < i) (N := 60) (s0 := (-1, Vx 0)) ⟨Or.inl rfl, (by dsimp only; omega)⟩ (fun b t hb hP => by
      obtain ⟨t, u⟩ := t
      obtain ⟨hP, hPl⟩ := hP
      dsimp only at hP hPl ⊢
      refine ⟨?_, mo1_P hb hP, ?_⟩
      · have hlt : (b : Int) < 60 := by omega
        have hv := r.V.fe hb
        have hth := R.th hb
        rw [q_X11_highest_5]
        by_cases hf : I 284 (7 + 5 * b) = 1
        · have hag := R.hi hb hf
          rcases hP with rfl | ⟨c, rfl, hc, hcf⟩
          · have e : mo1 (I 284) 2 (decide (x = 0)) b (-1) = b := by unfold mo1; rw [if_pos ⟨hf, Or.inl rfl⟩]
            simp (disch := first | (simp (disch := omega) only [w32_id]; omega) | omega) only [↓BO r.1, ↓BC r.c, hlt, hth, hf, q_X11_highest_44, w32_succ, e, e_clI, e_clV, e_clP, e_clIx, e_clVx, e_clPx, e_xt, Int.toNat_natCast, Int.reduceToNat, bz0, bz1, Nat.add_zero, decide_eq_false_iff_not, decide_eq_true_eq, Int.reduceEq, Nat.reduceEqDiff, Int.reduceLT, Int.reduceLE, not_true_eq_false, not_false_eq_true, ↓reduceIte]
          · have hc1 : ¬ (c : Int) = -1 := by omega
            have hcb : ¬ (c : Int) = (b : Int) := by omega
            have hcg := R.hi hc hcf
            unfold mo1
            rcases hx with rfl | rfl
            · simp (disch := first | (simp (disch := omega) only [w32_id]; omega) | omega) only [↓BO r.1, ↓BC r.c, hlt, hth, hf, hc1, hag, hcg, q_X11_highest_44, w32_succ, true_and, false_or, Bool.false_eq_true, false_and, decide_true, Bool.true_eq_false, or_false, e_clI, e_clV, e_clP, e_clIx, e_clVx, e_clPx, e_xt, Int.toNat_natCast, Int.reduceToNat, bz0, bz1, Nat.add_zero, decide_eq_false_iff_not, decide_eq_true_eq, Int.reduceEq, Nat.reduceEqDiff, Int.reduceLT, Int.reduceLE, not_true_eq_false, not_false_eq_true, ↓reduceIte]
              split
              · rw [if_pos rfl]
              · rfl
            · simp (disch := first | (simp (disch := omega) only [w32_id]; omega) | omega) only [↓BO r.1, ↓BC r.c, hlt, hth, hf, hc1, hag, hcg, q_X11_highest_44, w32_succ, true_and, false_or, Bool.false_eq_true, false_and, decide_false, Bool.true_eq_false, or_false, e_clI, e_clV, e_clP, e_clIx, e_clVx, e_clPx, e_xt, Int.toNat_natCast, Int.reduceToNat, bz0, bz1, Nat.add_zero, decide_eq_false_iff_not, decide_eq_true_eq, Int.reduceEq, Nat.reduceEqDiff, Int.reduceLT, Int.reduceLE, not_true_eq_false, not_false_eq_true, ↓reduceIte]
              split
              · rw [if_pos rfl]
              · rfl
        · have e : mo1 (I 284) 2 (decide (x = 0)) b t = t := by unfold mo1; rw [if_neg (fun x => hf x.1)]
          have h0 : I 284 (7 + 5 * b) = 0 := by omega
          simp (disch := first | (simp (disch := omega) only [w32_id]; omega) | omega) only [↓BO r.1, ↓BC r.c, hlt, hth, h0, w32_succ, e, e_clI, e_clV, e_clP, e_clIx, e_clVx, e_clPx, e_xt, Int.toNat_natCast, Int.reduceToNat, bz0, bz1, Nat.add_zero, decide_eq_false_iff_not, decide_eq_true_eq, Int.reduceEq, Nat.reduceEqDiff, Int.reduceLT, Int.reduceLE, not_true_eq_false, not_false_eq_true, ↓reduceIte]
      · unfold mo1
        split <;> omega)
    refine Eq.trans hr.1 ?_
    rw [q_X11_highest_5, if_neg (by omega)]
    have e3 : ∀ n, (fo (fun b (t : Int × am_V) => (mo1 (I 284) 2 (decide (x = 0)) b t.1, if I 284 (7 + 5 * b) = 1 then (if mo1 (I 284) 2 (decide (x = 0)) b t.1 = b then Vi 1 else Vi 0) else t.2)) n (-1, Vx 0)).1 = fo (mo1 (I 284) 2 (decide (x = 0))) n (-1) := by
      intro n
      induction n with
      | zero => rfl
      | succ n ih =>
        unfold fo
        rw [ih]
    rw [e3]
    rfl
  · refine MO.ok0 ?_
    have V2 : WW (am_u2 J1 283 0 0 284) := by rw [w283, e1.w]; exact r.V
    have e := m_mostOf (sc := sc) (d := d + 25) (k := 2) (le := decide (x = 0)) r1.1 V2 (by omega)
    rw [w283, e1.w] at e
    rw [q_X12_highest_0]
    rcases hx with rfl | rfl
    · have e2 : Cl sc (d + 25 + 4) mX12_mostOf [Vr (some 283), Vi 2, Vi 1] (hI h1 (am_u2 J1 283 0 0)) = _ := e
      simp (disch := first | (simp (disch := omega) only [w32_id]; omega) | omega) only [↓BM r1.1, e2, e_clI, e_clV, e_clP, e_clIx, e_clVx, e_clPx, e_xt, Int.toNat_natCast, Int.reduceToNat, bz0, bz1, Nat.add_zero, decide_eq_false_iff_not, decide_eq_true_eq, Int.reduceEq, Nat.reduceEqDiff, Int.reduceLT, Int.reduceLE, not_true_eq_false, not_false_eq_true, ↓reduceIte]
    · have e2 : Cl sc (d + 25 + 4) mX12_mostOf [Vr (some 283), Vi 2, Vi 0] (hI h1 (am_u2 J1 283 0 0)) = _ := e
      simp (disch := first | (simp (disch := omega) only [w32_id]; omega) | omega) only [↓BM r1.1, e2, e_clI, e_clV, e_clP, e_clIx, e_clVx, e_clPx, e_xt, Int.toNat_natCast, Int.reduceToNat, bz0, bz1, Nat.add_zero, decide_eq_false_iff_not, decide_eq_true_eq, Int.reduceEq, Nat.reduceEqDiff, Int.reduceLT, Int.reduceLE, not_true_eq_false, not_false_eq_true, ↓reduceIte]
end
