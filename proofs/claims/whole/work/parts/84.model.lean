/-! THE REFERENCE'S READERS -/
theorem bz_t {b : Bool} : b = true ↔ 1 = bz b := by cases b <;> simp [bz]
theorem bz_f {b : Bool} : b = false ↔ 0 = bz b := by cases b <;> simp [bz]
theorem tn0 : (0 : Int).toNat = 0 := rfl
theorem tn1 : (1 : Int).toNat = 1 := rfl
theorem tn2 : (2 : Int).toNat = 2 := rfl
theorem tn3 : (3 : Int).toNat = 3 := rfl
theorem tn4 : (4 : Int).toNat = 4 := rfl
/-- open, where one may be taken as shut and one as pulled -/
def opS (w : am_Wd) (su pu : Int) (b : Nat) (t : Int) : Bool := decide ((b : Int) ≠ su) && (decide ((b : Int) = pu) || opW w b t)
theorem opS_no {w : am_Wd} {b : Nat} {t : Int} : opS w (-1) (-1) b t = opW w b t := by
  unfold opS
  rw [decide_eq_true (show (b : Int) ≠ -1 by omega), decide_eq_false (show ¬ (b : Int) = -1 by omega)]
  rfl
section
variable {sc : Nat × (Nat → Int)} {d : Nat} {h : am_H} {I : am_I}
theorem m_at {b : Nat} {k : Int} (hk : 0 ≤ k) (hb : 7 + 5 * b + k.toNat < 2147483647) : Cl sc (d + 1) mX12_at [Vi (b : Int), Vi k] h = some (.inl (Vi ((7 + 5 * b + k.toNat : Nat) : Int)), h) := by
  have := c_at (sc := sc) (d := d) (h := h) (b := b) (w := k.toNat) hb
  rwa [Int.toNat_of_nonneg hk] at this
theorem m_familyAt {b : Nat} {k : Int} (hk : 0 ≤ k) (hb : 307 + 4 * b + k.toNat < 2147483647) : Cl sc (d + 1) mX12_familyAt [Vi (b : Int), Vi k] h = some (.inl (Vi ((307 + 4 * b + k.toNat : Nat) : Int)), h) := by
  have := c_familyAt (sc := sc) (d := d) (h := h) (b := b) (w := k.toNat) hb
  rwa [Int.toNat_of_nonneg hk] at this
theorem m_of (s : Sh h) {b : Nat} {k : Int} (hk : 0 ≤ k) (hb : 7 + 5 * b + k.toNat < 2329) : Cl sc (d + 2) mX12_of [Vr (some 283), Vi (b : Int), Vi k] (hI h I) = some (.inl (Vi (I 284 (7 + 5 * b + k.toNat))), hI h I) := by
  rw [q_X12_of_0]
  simp (disch := omega) only [BM s, m_at, e_clI, e_clV, e_clP, e_clIx, e_clVx, e_clPx, e_xt, Int.toNat_natCast, Int.reduceToNat, bz0, bz1, Nat.add_zero, decide_eq_false_iff_not, decide_eq_true_eq, Int.reduceEq, Nat.reduceEqDiff, Int.reduceLT, Int.reduceLE, reduceIte]
theorem m_hasFence (s : Sh h) {b : Nat} (hb : b < 60) : Cl sc (d + 3) mX12_hasFence [Vr (some 283), Vi (b : Int)] (hI h I) = some (.inl (Vi (bz (decide (I 284 (7 + 5 * b) = 1)))), hI h I) := by
  rw [q_X12_hasFence_0]
  simp (disch := omega) only [BM s, m_of s, e_clI, e_clV, e_clP, e_clIx, e_clVx, e_clPx, e_xt, Int.toNat_natCast, Int.reduceToNat, bz0, bz1, Nat.add_zero, decide_eq_false_iff_not, decide_eq_true_eq, Int.reduceEq, Nat.reduceEqDiff, Int.reduceLT, Int.reduceLE, reduceIte]
  split
  · rename_i h1
    rw [decide_eq_true h1]; rfl
  · rename_i h1
    rw [decide_eq_false h1]; rfl
theorem m_families (s : Sh h) : Cl sc (d + 1) mX12_families [Vr (some 283)] (hI h I) = some (.inl (Vi (I 284 0)), hI h I) := by
  rw [q_X12_families_0]
  simp (disch := omega) only [BM s, e_clI, e_clV, e_clP, e_clIx, e_clVx, e_clPx, e_xt, Int.toNat_natCast, Int.reduceToNat, bz0, bz1, Nat.add_zero, decide_eq_false_iff_not, decide_eq_true_eq, Int.reduceEq, Nat.reduceEqDiff, Int.reduceLT, Int.reduceLE, reduceIte]
theorem m_ofFamily (s : Sh h) {f : Nat} {k : Int} (hk : 0 ≤ k) (hb : 307 + 4 * f + k.toNat < 2329) : Cl sc (d + 2) mX12_ofFamily [Vr (some 283), Vi (f : Int), Vi k] (hI h I) = some (.inl (Vi (I 284 (307 + 4 * f + k.toNat))), hI h I) := by
  rw [q_X12_ofFamily_0]
  simp (disch := omega) only [BM s, m_familyAt, e_clI, e_clV, e_clP, e_clIx, e_clVx, e_clPx, e_xt, Int.toNat_natCast, Int.reduceToNat, bz0, bz1, Nat.add_zero, decide_eq_false_iff_not, decide_eq_true_eq, Int.reduceEq, Nat.reduceEqDiff, Int.reduceLT, Int.reduceLE, reduceIte]
theorem m_isOpen (s : Sh h) {b : Nat} (hb : b < 60) {t : Int} : Cl sc (d + 4) mX12_isOpen [Vr (some 283), Vi (b : Int), Vi t] (hI h I) = some (.inl (Vi (bz (opS (I 284) (I 283 18) (I 283 19) b t))), hI h I) := by
  rw [q_X12_isOpen_0]
  simp (disch := omega) only [BM s, m_hasFence s, m_of s, e_clI, e_clV, e_clP, e_clIx, e_clVx, e_clPx, e_xt, Int.toNat_natCast, Int.reduceToNat, bz0, bz1, Nat.add_zero, decide_eq_false_iff_not, decide_eq_true_eq, Int.reduceEq, Nat.reduceEqDiff, Int.reduceLT, Int.reduceLE, reduceIte]
  unfold opS opW
  repeat' split
  all_goals
    refine lf ?_
    first
      | rw [← bz_f]
        simp [*]
        done
      | rw [← bz_t]
        simp [*]
        done
      | rw [← bz_t]
        simp [*]
        omega
      | rw [← bz_f]
        simp [*]
        omega
theorem m_isTop (s : Sh h) {b : Nat} (hb : b < 60) {t : Int} : Cl sc (d + 4) mX12_isTop [Vr (some 283), Vi (b : Int), Vi t] (hI h I) = some (.inl (Vi (bz (toW (I 284) b t))), hI h I) := by
  rw [q_X12_isTop_0]
  simp (disch := omega) only [BM s, m_hasFence s, m_of s, e_clI, e_clV, e_clP, e_clIx, e_clVx, e_clPx, e_xt, Int.toNat_natCast, Int.reduceToNat, bz0, bz1, Nat.add_zero, decide_eq_false_iff_not, decide_eq_true_eq, Int.reduceEq, Nat.reduceEqDiff, Int.reduceLT, Int.reduceLE, reduceIte]
  unfold toW
  repeat' split
  all_goals first | (refine lf (bz_f.mp ?_); rw [decide_eq_false_iff_not]; omega) | (refine lf (bz_t.mp ?_); rw [decide_eq_true_eq]; omega)
theorem m_costOf (s : Sh h) (V : WW (I 284)) {b : Nat} (hb : b < 60) : Cl sc (d + 4) mX12_costOf [Vr (some 283), Vi (b : Int)] (hI h I) = some (.inl (Vi (tlW (I 284) b)), hI h I) := by
  have hv := V.fe hb
  rw [q_X12_costOf_0]
  simp (disch := omega) only [BM s, m_hasFence s, m_of s, e_clI, e_clV, e_clP, e_clIx, e_clVx, e_clPx, e_xt, Int.toNat_natCast, Int.reduceToNat, bz0, bz1, Nat.add_zero, decide_eq_false_iff_not, decide_eq_true_eq, Int.reduceEq, Nat.reduceEqDiff, Int.reduceLT, Int.reduceLE, reduceIte]
  unfold tlW
  repeat' split
  all_goals first | omega | rfl | skip
  rw [tl_w (by omega) (by omega)]
theorem m_noFamily (s : Sh h) (V : WW (I 284)) {f : Int} : Cl sc (d + 2) mX12_noFamily [Vr (some 283), Vi f] (hI h I) = some (.inl (Vi (bz (decide (¬ (0 ≤ f ∧ f < I 284 0))))), hI h I) := by
  have hF := V.fa
  rw [q_X12_noFamily_0]
  simp (disch := omega) only [BM s, m_families s, c_in, e_clI, e_clV, e_clP, e_clIx, e_clVx, e_clPx, e_xt, Int.toNat_natCast, Int.reduceToNat, bz0, bz1, Nat.add_zero, decide_eq_false_iff_not, decide_eq_true_eq, Int.reduceEq, Nat.reduceEqDiff, Int.reduceLT, Int.reduceLE, reduceIte]
  rw [w32_id (by omega) (by omega)]
  repeat' split
  all_goals first | (refine lf (bz_f.mp ?_); rw [decide_eq_false_iff_not]; omega) | (refine lf (bz_t.mp ?_); rw [decide_eq_true_eq]; omega)
/-- what it throws -/
def th (I : am_I) (b : Bool) (k : Int) : am_I := if b = true then am_u2 I 283 0 k else I
theorem m_throwsIf (s : Sh h) {b : Bool} {k : Int} : Cl sc (d + 1) mX12_throwsIf [Vr (some 283), Vi (bz b), Vi k] (hI h I) = some (.inl (Vi (bz b)), hI h (th I b k)) := by
  rw [q_X12_throwsIf_0]
  simp only [BM s, bz0]
  unfold th
  cases b
  · rw [if_pos rfl, e_ret1 (bz01 _), if_neg (by simp)]
  · rw [if_neg (by simp), e_ret1 (bz01 _), if_pos rfl]
theorem m_sumOfFences (s : Sh h) (V : WW (I 284)) {k : Int} (hk : 0 ≤ k ∧ k < 5) : Cl sc (d + 3) mX12_sumOfFences [Vr (some 283), Vi k] (hI h I) = some (.inl (Vi (sumF (I 284) k.toNat)), hI h I) := by
  rw [q_X12_sumOfFences_0]
  have hr := sm_run (F := fun i t => Ru sc (d + 3) mX12_sumOfFences 5 [Vr (some 283), Vi k, Vi t, Vi (i : Int)] [] (hI h I)) (f := fun b => I 284 (7 + 5 * b + k.toNat)) (N := 60) (fun i hi => by
    have hb := sumF_b V (k := k.toNat) (n := i) (by omega) (by omega)
    have hb2 := sumF_b V (k := k.toNat) (n := i + 1) (by omega) (by omega)
    have e : sm (fun b => I 284 (7 + 5 * b + k.toNat)) (i + 1) = sm (fun b => I 284 (7 + 5 * b + k.toNat)) i + I 284 (7 + 5 * i + k.toNat) := rfl
    rw [q_X12_sumOfFences_5, if_pos (by omega)]
    simp (disch := omega) only [BM s, m_of s, w32_succ, e_clI, e_clV, e_clP, e_clIx, e_clVx, e_clPx, e_xt, Int.toNat_natCast, Int.reduceToNat, bz0, bz1, Nat.add_zero, decide_eq_false_iff_not, decide_eq_true_eq, Int.reduceEq, Nat.reduceEqDiff, Int.reduceLT, Int.reduceLE, reduceIte]
    rw [w32_id (by omega) (by omega)])
  refine Eq.trans hr ?_
  show Ru sc (d + 3) mX12_sumOfFences 5 [Vr (some 283), Vi k, Vi (sumF (I 284) k.toNat), Vi ((60 : Nat) : Int)] [] (hI h I) = _
  rw [q_X12_sumOfFences_5, if_neg (by omega)]
end
