/-! ACTS: families, undone -/
section
variable {sc : Nat × (Nat → Int)} {d a b n f : Nat} {h h1 h2 : am_H} {I J J1 J2 K : am_I} {w v : am_Wd} {rows : Nat → am_Wd} {y : Int}
theorem m_familyNow (r : Rel h I) (s : Sh h1) (e3 : J 283 = I 283) (e4 : J 284 = I 284) (e8 : J 288 = I 288) (hf : f < 6) {k : Nat} (hk : k < 4) : ∃ K, (MA J K (up (I 284) (307 + 4 * f + k) y) (rN (I 283 7).toNat + 1) (puR (I 283 7).toNat (rowA I) (I 284)) ∧ K 283 0 = 0) ∧ Cl sc (d + 4) mX12_familyNow [Vr (some 283), Vi (f : Int), Vi (k : Int), Vi y] (hI h1 (am_u2 J 283 0 0)) = some (.inl (Vi (I 284 (307 + 4 * f + k))), hI h1 K) := by
  obtain ⟨K1, ⟨ma, k0⟩, m1⟩ := m_rem (sc := sc) (d := d + 2) r s e3 e4 e8
  have ek : K1 284 = I 284 := ma.2.2.2.2.1
  have mo := m_ofFamily (sc := sc) (d := d + 1) (h := h1) (I := K1) s (f := f) (k := (k : Int)) (by omega) (by omega)
  rw [ek, Int.toNat_natCast] at mo
  have mt := m_familyAt (sc := sc) (d := d + 2) (h := hI h1 K1) (b := f) (k := (k : Int)) (by omega) (by omega)
  rw [Int.toNat_natCast] at mt
  have hlt : ((307 + 4 * f + k : Nat) : Int) < 2329 := by omega
  have n1 : Mg K1 (am_u2 K1 284 (307 + 4 * f + k) y) := fun p p1 p2 => u2_o p1
  refine ⟨am_u2 K1 284 (307 + 4 * f + k) y, ⟨ma.go n1 ?_, ?_⟩, ?_⟩
  · rw [u2_up, ek]
  · rw [u2_o (by decide)]
    exact k0
  · rw [q_X12_familyNow_0]
    simp (disch := first | assumption | exact Int.natCast_nonneg _ | decide) only [↓BM s, m1, mo, mt, hlt, e_clI, e_clV, e_clP, e_clIx, e_clVx, e_clPx, e_xt, Int.toNat_natCast, Int.reduceToNat, bz0, bz1, Nat.add_zero, decide_eq_false_iff_not, decide_eq_true_eq, Int.reduceEq, Nat.reduceEqDiff, Int.reduceLT, Int.reduceLE, not_true_eq_false, not_false_eq_true, eq_self, ↓reduceIte]
theorem upM_w (V : WW w) (hf : f < 6) {k : Nat} (hk : k < 4) (hy : (k = 0 → 0 ≤ y ∧ y < 36) ∧ (k = 1 → 0 ≤ y ∧ y ≤ 999) ∧ (k = 2 → 0 ≤ y ∧ y ≤ 999) ∧ (k = 3 → 0 ≤ y ∧ y ≤ 99)) : WW (up w (307 + 4 * f + k) y) := by
  have hv := V.fm hf
  refine V.chM (f := f) (fun j hj => up_o (by omega)) hf ?_
  have h9 : k = 0 ∨ k = 1 ∨ k = 2 ∨ k = 3 := by omega
  have e : ∀ j, j ≠ k → up w (307 + 4 * f + k) y (307 + 4 * f + j) = w (307 + 4 * f + j) := fun j hj => up_o (by omega)
  unfold WM
  rcases h9 with rfl | rfl | rfl | rfl
  · have e0 : up w (307 + 4 * f + 0) y (307 + 4 * f) = y := up_s
    rw [e0, e 1 (by decide), e 2 (by decide), e 3 (by decide)]
    exact ⟨hy.1 rfl, hv.2⟩
  · have e0 : up w (307 + 4 * f + 1) y (307 + 4 * f) = w (307 + 4 * f) := up_o (by omega)
    rw [e0, up_s, e 2 (by decide), e 3 (by decide)]
    exact ⟨hv.1, hy.2.1 rfl, hv.2.2⟩
  · have e0 : up w (307 + 4 * f + 2) y (307 + 4 * f) = w (307 + 4 * f) := up_o (by omega)
    rw [e0, up_s, e 1 (by decide), e 3 (by decide)]
    exact ⟨hv.1, hv.2.1, hy.2.2.1 rfl, hv.2.2.2⟩
  · have e0 : up w (307 + 4 * f + 3) y (307 + 4 * f) = w (307 + 4 * f) := up_o (by omega)
    rw [e0, up_s, e 1 (by decide), e 2 (by decide)]
    exact ⟨hv.1, hv.2.1, hv.2.2.1, hy.2.2.2 rfl⟩
theorem upM_R (R : CRep I a w) (V : WW w) (hf : f < 6) {k : Nat} (hk : k < 4) : CRep (am_u2 I (a + (6 + k)) f y) a (up w (307 + 4 * f + k) y) := by
  refine R.chM (f := f) V (u2_o (by omega)) (fun k h1 h2 h3 => u2_o (by omega)) (fun k x h1 h2 h3 => u2_j h3) (fun j hj => up_o (by omega)) hf ?_
  obtain ⟨r0, r1, r2, r3⟩ := R.2.2.1 f hf
  have h9 : k = 0 ∨ k = 1 ∨ k = 2 ∨ k = 3 := by omega
  have e : ∀ j, j ≠ k → up w (307 + 4 * f + k) y (307 + 4 * f + j) = w (307 + 4 * f + j) := fun j hj => up_o (by omega)
  have g : ∀ p, p ≠ 6 + k → am_u2 I (a + (6 + k)) f y (a + p) = I (a + p) := fun p h1 => u2_o (by omega)
  have g0 : am_u2 I (a + (6 + k)) f y (a + (6 + k)) f = y := u2_same
  unfold MR
  rcases h9 with rfl | rfl | rfl | rfl
  · have e0 : up w (307 + 4 * f + 0) y (307 + 4 * f) = y := up_s
    rw [e0, e 1 (by decide), e 2 (by decide), e 3 (by decide), g 7 (by decide), g 8 (by decide), g 9 (by decide)]
    exact ⟨g0, r1, r2, r3⟩
  · have e0 : up w (307 + 4 * f + 1) y (307 + 4 * f) = w (307 + 4 * f) := up_o (by omega)
    rw [e0, up_s, e 2 (by decide), e 3 (by decide), g 6 (by decide), g 8 (by decide), g 9 (by decide)]
    exact ⟨r0, g0, r2, r3⟩
  · have e0 : up w (307 + 4 * f + 2) y (307 + 4 * f) = w (307 + 4 * f) := up_o (by omega)
    rw [e0, up_s, e 1 (by decide), e 3 (by decide), g 6 (by decide), g 7 (by decide), g 9 (by decide)]
    exact ⟨r0, r1, g0, r3⟩
  · have e0 : up w (307 + 4 * f + 3) y (307 + 4 * f) = w (307 + 4 * f) := up_o (by omega)
    rw [e0, up_s, e 1 (by decide), e 2 (by decide), g 6 (by decide), g 7 (by decide), g 8 (by decide)]
    exact ⟨r0, r1, r2, g0⟩
theorem famT {k : Nat} (hf : f < 6) (hk : k < 4) : T2 w (up w (307 + 4 * f + k) y) := (T2.rf _).up (by omega) (by omega)
theorem nf_0 (s : Sh h1) (e4 : J 284 = w) (V : WW w) {x : Int} (hx : 0 ≤ x ∧ x < w 0) : Cl sc (d + 2) mX12_noFamily [Vr (some 283), Vi x] (hI h1 (am_u2 J 283 0 0)) = some (.inl (Vi 0), hI h1 (am_u2 J 283 0 0)) := m_nF s (by rw [w283, e4]; exact V) (by rw [w283, e4]; exact hx)
theorem nf_1 (s : Sh h1) (e4 : J 284 = w) (V : WW w) {x : Int} (hx : ¬ (0 ≤ x ∧ x < w 0)) : Cl sc (d + 2) mX12_noFamily [Vr (some 283), Vi x] (hI h1 (am_u2 J 283 0 0)) = some (.inl (Vi 1), hI h1 (am_u2 J 283 0 0)) := m_nFx s (by rw [w283, e4]; exact V) (by rw [w283, e4]; exact hx)
theorem p_forgive (r : Rel h I) (B : BBo I 11) {x : Int} : Pub h I (Cl sc (d + 30) mX11_forgive [Vr (some 0), Vi x]) (Cl sc (d + 30) mX12_forgive [Vr (some 283), Vi x]) cdA := by
  have R := r.R
  have V := r.V
  have hF := V.fa
  by_cases hx : 0 ≤ x ∧ x < I 284 0
  · obtain ⟨f, rfl⟩ : ∃ f : Nat, x = f := ⟨x.toNat, by omega⟩
    have hf : f < 6 := by omega
    have hf6 : (f : Int) < 6 := by omega
    obtain ⟨h1, J1, ca, c1⟩ := c_remember (sc := sc) (d := d + 26) r B
    have s1 := ca.sh r.1
    have S := ca.2.2.2.2.1
    have cy := cty_of s1 isC_now
    have so := S.1.so hf
    have g2 : Cg 11 J1 (am_u2 J1 (11 + 9) f 0) := fun p hp _ => u2_o (by omega)
    have t3 : T2 (I 284) (up (I 284) (307 + 4 * f + 3) 0) := famT hf (by decide)
    refine pubA rfl r (x := I 284 (307 + 4 * f + 3)) (h1 := h1) (J1 := am_u2 J1 (11 + 9) f 0) ?_ (ca.go g2 (upM_R (k := 3) S.1 V hf (by decide)) (upM_w (k := 3) V hf (by decide) ⟨fun h => absurd h (by decide), fun h => absurd h (by decide), fun h => absurd h (by decide), fun _ => by omega⟩) t3) (rows_go r t3.1) (fun J s e3 e4 e8 => ?_)
    · rw [q_X11_forgive_0]
      simp (disch := first | assumption | exact Int.natCast_nonneg _ | decide) only [↓BO r.1, c_nF r.1 r.fa hx, c1, ↓BO s1, ↓BC cy, hf6, so, e_clI, e_clV, e_clP, e_clIx, e_clVx, e_clPx, e_xt, Int.toNat_natCast, Int.reduceToNat, bz0, bz1, Nat.add_zero, decide_eq_false_iff_not, decide_eq_true_eq, Int.reduceEq, Nat.reduceEqDiff, Int.reduceLT, Int.reduceLE, not_true_eq_false, not_false_eq_true, eq_self, ↓reduceIte]
    · obtain ⟨K1, ⟨ma, k0⟩, m1⟩ := m_familyNow (sc := sc) (d := d + 25) (y := 0) r s e3 e4 e8 hf (k := 3) (by decide)
      have m1 : Cl sc (d + 29) mX12_familyNow [Vr (some 283), Vi (f : Int), Vi 3, Vi 0] (hI h1 (am_u2 J 283 0 0)) = some (.inl (Vi (I 284 (307 + 4 * f + 3))), hI h1 K1) := m1
      refine ⟨K1, ?_, ma, k0⟩
      rw [q_X12_forgive_0]
      simp (disch := first | assumption | exact Int.natCast_nonneg _ | decide) only [↓BM s, nf_0 s e4 V hx, m_t0 s, m1, e_clI, e_clV, e_clP, e_clIx, e_clVx, e_clPx, e_xt, Int.toNat_natCast, Int.reduceToNat, bz0, bz1, Nat.add_zero, decide_eq_false_iff_not, decide_eq_true_eq, Int.reduceEq, Nat.reduceEqDiff, Int.reduceLT, Int.reduceLE, not_true_eq_false, not_false_eq_true, eq_self, ↓reduceIte]
  · refine pubQ (x := 3) (v := 0) (v' := 0) r (CO.no (J := I) (by decide) ?_ (Same.rf I)) (fun h1 J1 r1 e1 => ?_) (fun h => absurd h (by decide))
    · rw [q_X11_forgive_0]
      simp (disch := first | (simp (disch := omega) only [w32_id]; omega) | omega) only [↓BO r.1, c_nFx r.1 r.fa hx, hI_exI, e_clI, e_clV, e_clP, e_clIx, e_clVx, e_clPx, e_xt, Int.toNat_natCast, Int.reduceToNat, bz0, bz1, Nat.add_zero, decide_eq_false_iff_not, decide_eq_true_eq, Int.reduceEq, Nat.reduceEqDiff, Int.reduceLT, Int.reduceLE, not_true_eq_false, not_false_eq_true, eq_self, ↓reduceIte]
    · refine MO.thr ?_
      rw [q_X12_forgive_0]
      simp (disch := first | (simp (disch := omega) only [w32_id]; omega) | omega) only [↓BM r1.1, nf_1 r1.1 e1.w V hx, m_t1 r1.1, e_clI, e_clV, e_clP, e_clIx, e_clVx, e_clPx, e_xt, Int.toNat_natCast, Int.reduceToNat, bz0, bz1, Nat.add_zero, decide_eq_false_iff_not, decide_eq_true_eq, Int.reduceEq, Nat.reduceEqDiff, Int.reduceLT, Int.reduceLE, not_true_eq_false, not_false_eq_true, eq_self, ↓reduceIte]
      try rfl
theorem p_move (r : Rel h I) (B : BBo I 11) {x : Int} : Pub h I (Cl sc (d + 30) mX11_move [Vr (some 0), Vi x, Vi y]) (Cl sc (d + 30) mX12_move [Vr (some 283), Vi x, Vi y]) cdA := by
  have R := r.R
  have V := r.V
  have hF := V.fa
  by_cases hx : 0 ≤ x ∧ x < I 284 0
  · obtain ⟨f, rfl⟩ : ∃ f : Nat, x = f := ⟨x.toNat, by omega⟩
    have hf : f < 6 := by omega
    have hf6 : (f : Int) < 6 := by omega
    by_cases hy : 0 ≤ y ∧ y < 36
    · obtain ⟨h1, J1, ca, c1⟩ := c_remember (sc := sc) (d := d + 26) r B
      have s1 := ca.sh r.1
      have S := ca.2.2.2.2.1
      have cy := cty_of s1 isC_now
      have so := S.1.ho hf
      have g2 : Cg 11 J1 (am_u2 J1 (11 + 6) f y) := fun p hp _ => u2_o (by omega)
      have t3 : T2 (I 284) (up (I 284) (307 + 4 * f + 0) y) := famT hf (by decide)
      refine pubA rfl r (x := I 284 (307 + 4 * f)) (h1 := h1) (J1 := am_u2 J1 (11 + 6) f y) ?_ (ca.go g2 (upM_R (k := 0) S.1 V hf (by decide)) (upM_w (k := 0) V hf (by decide) ⟨fun _ => hy, fun h => absurd h (by decide), fun h => absurd h (by decide), fun h => absurd h (by decide)⟩) t3) (rows_go r t3.1) (fun J s e3 e4 e8 => ?_)
      · rw [q_X11_move_0]
        simp (disch := first | assumption | exact Int.natCast_nonneg _ | decide) only [↓BO r.1, c_nF r.1 r.fa hx, c_nC hy, c1, ↓BO s1, ↓BC cy, hf6, so, e_clI, e_clV, e_clP, e_clIx, e_clVx, e_clPx, e_xt, Int.toNat_natCast, Int.reduceToNat, bz0, bz1, Nat.add_zero, decide_eq_false_iff_not, decide_eq_true_eq, Int.reduceEq, Nat.reduceEqDiff, Int.reduceLT, Int.reduceLE, not_true_eq_false, not_false_eq_true, eq_self, ↓reduceIte]
      · obtain ⟨K1, ⟨ma, k0⟩, m1⟩ := m_familyNow (sc := sc) (d := d + 25) (y := y) r s e3 e4 e8 hf (k := 0) (by decide)
        have m1 : Cl sc (d + 29) mX12_familyNow [Vr (some 283), Vi (f : Int), Vi 0, Vi y] (hI h1 (am_u2 J 283 0 0)) = some (.inl (Vi (I 284 (307 + 4 * f))), hI h1 K1) := m1
        refine ⟨K1, ?_, ma, k0⟩
        rw [q_X12_move_0]
        simp (disch := first | assumption | exact Int.natCast_nonneg _ | decide) only [↓BM s, nf_0 s e4 V hx, m_nC hy, m_t0 s, m1, e_clI, e_clV, e_clP, e_clIx, e_clVx, e_clPx, e_xt, Int.toNat_natCast, Int.reduceToNat, bz0, bz1, Nat.add_zero, decide_eq_false_iff_not, decide_eq_true_eq, Int.reduceEq, Nat.reduceEqDiff, Int.reduceLT, Int.reduceLE, not_true_eq_false, not_false_eq_true, eq_self, ↓reduceIte]
    · refine pubQ (x := 3) (v := 0) (v' := 0) r (CO.no (J := I) (by decide) ?_ (Same.rf I)) (fun h1 J1 r1 e1 => ?_) (fun h => absurd h (by decide))
      · rw [q_X11_move_0]
        simp (disch := first | (simp (disch := omega) only [w32_id]; omega) | omega) only [↓BO r.1, c_nF r.1 r.fa hx, c_nCx hy, hI_exI, e_clI, e_clV, e_clP, e_clIx, e_clVx, e_clPx, e_xt, Int.toNat_natCast, Int.reduceToNat, bz0, bz1, Nat.add_zero, decide_eq_false_iff_not, decide_eq_true_eq, Int.reduceEq, Nat.reduceEqDiff, Int.reduceLT, Int.reduceLE, not_true_eq_false, not_false_eq_true, eq_self, ↓reduceIte]
      · refine MO.thr ?_
        rw [q_X12_move_0]
        simp (disch := first | (simp (disch := omega) only [w32_id]; omega) | omega) only [↓BM r1.1, nf_0 r1.1 e1.w V hx, m_nCx hy, m_t1 r1.1, e_clI, e_clV, e_clP, e_clIx, e_clVx, e_clPx, e_xt, Int.toNat_natCast, Int.reduceToNat, bz0, bz1, Nat.add_zero, decide_eq_false_iff_not, decide_eq_true_eq, Int.reduceEq, Nat.reduceEqDiff, Int.reduceLT, Int.reduceLE, not_true_eq_false, not_false_eq_true, eq_self, ↓reduceIte]
        try rfl
  · refine pubQ (x := 3) (v := 0) (v' := 0) r (CO.no (J := I) (by decide) ?_ (Same.rf I)) (fun h1 J1 r1 e1 => ?_) (fun h => absurd h (by decide))
    · rw [q_X11_move_0]
      simp (disch := first | (simp (disch := omega) only [w32_id]; omega) | omega) only [↓BO r.1, c_nFx r.1 r.fa hx, hI_exI, e_clI, e_clV, e_clP, e_clIx, e_clVx, e_clPx, e_xt, Int.toNat_natCast, Int.reduceToNat, bz0, bz1, Nat.add_zero, decide_eq_false_iff_not, decide_eq_true_eq, Int.reduceEq, Nat.reduceEqDiff, Int.reduceLT, Int.reduceLE, not_true_eq_false, not_false_eq_true, eq_self, ↓reduceIte]
    · refine MO.thr ?_
      rw [q_X12_move_0]
      simp (disch := first | (simp (disch := omega) only [w32_id]; omega) | omega) only [↓BM r1.1, nf_1 r1.1 e1.w V hx, m_t1 r1.1, e_clI, e_clV, e_clP, e_clIx, e_clVx, e_clPx, e_xt, Int.toNat_natCast, Int.reduceToNat, bz0, bz1, Nat.add_zero, decide_eq_false_iff_not, decide_eq_true_eq, Int.reduceEq, Nat.reduceEqDiff, Int.reduceLT, Int.reduceLE, not_true_eq_false, not_false_eq_true, eq_self, ↓reduceIte]
      try rfl
theorem p_learn (r : Rel h I) (B : BBo I 11) {x : Int} : Pub h I (Cl sc (d + 30) mX11_learn [Vr (some 0), Vi x, Vi y]) (Cl sc (d + 30) mX12_learn [Vr (some 283), Vi x, Vi y]) cdB := by
  have R := r.R
  have V := r.V
  have hF := V.fa
  by_cases hx : 0 ≤ x ∧ x < I 284 0
  · obtain ⟨f, rfl⟩ : ∃ f : Nat, x = f := ⟨x.toNat, by omega⟩
    have hf : f < 6 := by omega
    have hf6 : (f : Int) < 6 := by omega
    by_cases hy : 0 ≤ y ∧ y ≤ 999
    · obtain ⟨h1, J1, ca, c1⟩ := c_remember (sc := sc) (d := d + 26) r B
      have s1 := ca.sh r.1
      have S := ca.2.2.2.2.1
      have cy := cty_of s1 isC_now
      have so := S.1.cl hf
      have g2 : Cg 11 J1 (am_u2 J1 (11 + 7) f y) := fun p hp _ => u2_o (by omega)
      have t3 : T2 (I 284) (up (I 284) (307 + 4 * f + 1) y) := famT hf (by decide)
      refine pubA rfl r (x := I 284 (307 + 4 * f + 1)) (h1 := h1) (J1 := am_u2 J1 (11 + 7) f y) ?_ (ca.go g2 (upM_R (k := 1) S.1 V hf (by decide)) (upM_w (k := 1) V hf (by decide) ⟨fun h => absurd h (by decide), fun _ => hy, fun h => absurd h (by decide), fun h => absurd h (by decide)⟩) t3) (rows_go r t3.1) (fun J s e3 e4 e8 => ?_)
      · rw [q_X11_learn_0]
        simp (disch := first | assumption | exact Int.natCast_nonneg _ | decide) only [↓BO r.1, c_nF r.1 r.fa hx, c_nH hy, c1, ↓BO s1, ↓BC cy, hf6, so, e_clI, e_clV, e_clP, e_clIx, e_clVx, e_clPx, e_xt, Int.toNat_natCast, Int.reduceToNat, bz0, bz1, Nat.add_zero, decide_eq_false_iff_not, decide_eq_true_eq, Int.reduceEq, Nat.reduceEqDiff, Int.reduceLT, Int.reduceLE, not_true_eq_false, not_false_eq_true, eq_self, ↓reduceIte]
      · obtain ⟨K1, ⟨ma, k0⟩, m1⟩ := m_familyNow (sc := sc) (d := d + 25) (y := y) r s e3 e4 e8 hf (k := 1) (by decide)
        have m1 : Cl sc (d + 29) mX12_familyNow [Vr (some 283), Vi (f : Int), Vi 1, Vi y] (hI h1 (am_u2 J 283 0 0)) = some (.inl (Vi (I 284 (307 + 4 * f + 1))), hI h1 K1) := m1
        refine ⟨K1, ?_, ma, k0⟩
        rw [q_X12_learn_0]
        simp (disch := first | assumption | exact Int.natCast_nonneg _ | decide) only [↓BM s, nf_0 s e4 V hx, m_nH hy, m_t0 s, m1, e_clI, e_clV, e_clP, e_clIx, e_clVx, e_clPx, e_xt, Int.toNat_natCast, Int.reduceToNat, bz0, bz1, Nat.add_zero, decide_eq_false_iff_not, decide_eq_true_eq, Int.reduceEq, Nat.reduceEqDiff, Int.reduceLT, Int.reduceLE, not_true_eq_false, not_false_eq_true, eq_self, ↓reduceIte]
    · refine pubQ (x := 1) (v := 0) (v' := 0) r (CO.no (J := I) (by decide) ?_ (Same.rf I)) (fun h1 J1 r1 e1 => ?_) (fun h => absurd h (by decide))
      · rw [q_X11_learn_0]
        simp (disch := first | (simp (disch := omega) only [w32_id]; omega) | omega) only [↓BO r.1, c_nF r.1 r.fa hx, c_nHx hy, hI_exI, e_clI, e_clV, e_clP, e_clIx, e_clVx, e_clPx, e_xt, Int.toNat_natCast, Int.reduceToNat, bz0, bz1, Nat.add_zero, decide_eq_false_iff_not, decide_eq_true_eq, Int.reduceEq, Nat.reduceEqDiff, Int.reduceLT, Int.reduceLE, not_true_eq_false, not_false_eq_true, eq_self, ↓reduceIte]
      · refine MO.thr ?_
        rw [q_X12_learn_0]
        simp (disch := first | (simp (disch := omega) only [w32_id]; omega) | omega) only [↓BM r1.1, nf_0 r1.1 e1.w V hx, m_nHx hy, m_t0 r1.1, m_t1 r1.1, e_clI, e_clV, e_clP, e_clIx, e_clVx, e_clPx, e_xt, Int.toNat_natCast, Int.reduceToNat, bz0, bz1, Nat.add_zero, decide_eq_false_iff_not, decide_eq_true_eq, Int.reduceEq, Nat.reduceEqDiff, Int.reduceLT, Int.reduceLE, not_true_eq_false, not_false_eq_true, eq_self, ↓reduceIte]
        try rfl
  · refine pubQ (x := 3) (v := 0) (v' := 0) r (CO.no (J := I) (by decide) ?_ (Same.rf I)) (fun h1 J1 r1 e1 => ?_) (fun h => absurd h (by decide))
    · rw [q_X11_learn_0]
      simp (disch := first | (simp (disch := omega) only [w32_id]; omega) | omega) only [↓BO r.1, c_nFx r.1 r.fa hx, hI_exI, e_clI, e_clV, e_clP, e_clIx, e_clVx, e_clPx, e_xt, Int.toNat_natCast, Int.reduceToNat, bz0, bz1, Nat.add_zero, decide_eq_false_iff_not, decide_eq_true_eq, Int.reduceEq, Nat.reduceEqDiff, Int.reduceLT, Int.reduceLE, not_true_eq_false, not_false_eq_true, eq_self, ↓reduceIte]
    · refine MO.thr ?_
      rw [q_X12_learn_0]
      simp (disch := first | (simp (disch := omega) only [w32_id]; omega) | omega) only [↓BM r1.1, nf_1 r1.1 e1.w V hx, m_t1 r1.1, e_clI, e_clV, e_clP, e_clIx, e_clVx, e_clPx, e_xt, Int.toNat_natCast, Int.reduceToNat, bz0, bz1, Nat.add_zero, decide_eq_false_iff_not, decide_eq_true_eq, Int.reduceEq, Nat.reduceEqDiff, Int.reduceLT, Int.reduceLE, not_true_eq_false, not_false_eq_true, eq_self, ↓reduceIte]
      try rfl
end
