/-! ACTS: gates, strings, begun again; families; undone -/
section
variable {sc : Nat × (Nat → Int)} {d a b n f : Nat} {h h1 h2 : am_H} {I J J1 J2 K : am_I} {w v : am_Wd} {rows : Nat → am_Wd} {y : Int}
theorem up34_w (V : WW w) (hb : b < 60) (hf : w (7 + 5 * b) = 1) {k : Nat} (hk : k = 3 ∨ k = 4) (hy : y = 0 ∨ y = 1) : WW (up w (7 + 5 * b + k) y) := by
  have hv := V.fe hb
  refine V.chF (b := b) (fun j hj => up_o (by omega)) hb (Or.inr ⟨?_, ?_, ?_, ?_, ?_⟩)
  · rw [up_o (by omega)]
    exact hf
  · rw [up_o (by omega)]
    omega
  · rw [up_o (by omega)]
    omega
  · rcases hk with rfl | rfl
    · rw [up_s]
      exact hy
    · rw [up_o (by omega)]
      omega
  · rcases hk with rfl | rfl
    · rw [up_o (by omega)]
      omega
    · rw [up_s]
      exact hy
theorem up3_R (R : CRep I a w) (V : WW w) (hb : b < 60) (hf : w (7 + 5 * b) = 1) : CRep (am_u2 I (a + 4) b y) a (up w (7 + 5 * b + 3) y) := by
  refine R.chF (b := b) V (u2_o (by omega)) (fun k h1 h2 => u2_o (by omega)) (fun k x h1 h2 h3 => u2_j h3) (fun j hj => up_o (by omega)) hb ?_
  obtain ⟨r0, r1⟩ := R.1 b hb
  obtain ⟨q1, q2, q3, q4⟩ := r1 hf
  unfold FR
  rw [up_o (by omega), up_o (by omega), up_o (by omega), up_s, up_o (by omega), u2_o (by omega), u2_o (by omega), u2_o (by omega), u2_same, u2_o (by omega)]
  exact ⟨r0, fun _ => ⟨q1, q2, rfl, q4⟩⟩
theorem up4_R (R : CRep I a w) (V : WW w) (hb : b < 60) (hf : w (7 + 5 * b) = 1) : CRep (am_u2 I (a + 5) b y) a (up w (7 + 5 * b + 4) y) := by
  refine R.chF (b := b) V (u2_o (by omega)) (fun k h1 h2 => u2_o (by omega)) (fun k x h1 h2 h3 => u2_j h3) (fun j hj => up_o (by omega)) hb ?_
  obtain ⟨r0, r1⟩ := R.1 b hb
  obtain ⟨q1, q2, q3, q4⟩ := r1 hf
  unfold FR
  rw [up_o (by omega), up_o (by omega), up_o (by omega), up_o (by omega), up_s, u2_o (by omega), u2_o (by omega), u2_o (by omega), u2_o (by omega), u2_same]
  exact ⟨r0, fun _ => ⟨q1, q2, q3, rfl⟩⟩
theorem m_isNow (r : Rel h I) (s : Sh h1) (e3 : J 283 = I 283) (e4 : J 284 = I 284) (e8 : J 288 = I 288) (hb : b < 60) {k : Nat} (hk : k = 3 ∨ k = 4) (hy : y = 0 ∨ y = 1) (hf : I 284 (7 + 5 * b) = 1) : ∃ K, (MA J K (up (I 284) (7 + 5 * b + k) y) (rN (I 283 7).toNat + 1) (puR (I 283 7).toNat (rowA I) (I 284)) ∧ K 283 0 = 0) ∧ Cl sc (d + 4) mX12_isNow [Vr (some 283), Vi (b : Int), Vi (k : Int), Vi y] (hI h1 (am_u2 J 283 0 0)) = some (.inl (Vi (if I 284 (7 + 5 * b + k) = y then 0 else 1)), hI h1 K) := by
  obtain ⟨K1, ⟨ma, k0⟩, m1⟩ := m_rem (sc := sc) (d := d + 2) r s e3 e4 e8
  have ek : K1 284 = I 284 := ma.2.2.2.2.1
  have mo := m_of (sc := sc) (d := d + 1) (h := h1) (I := K1) s (b := b) (k := (k : Int)) (by omega) (by omega)
  rw [ek, Int.toNat_natCast] at mo
  have mt := m_at (sc := sc) (d := d + 2) (h := hI h1 K1) (b := b) (k := (k : Int)) (by omega) (by omega)
  rw [Int.toNat_natCast] at mt
  have hlt : ((7 + 5 * b + k : Nat) : Int) < 2329 := by omega
  have hv := r.V.fe hb
  have hv2 : I 284 (7 + 5 * b + k) = 0 ∨ I 284 (7 + 5 * b + k) = 1 := by rcases hk with rfl | rfl <;> omega
  have n1 : Mg K1 (am_u2 K1 284 (7 + 5 * b + k) y) := fun p p1 p2 => u2_o p1
  refine ⟨am_u2 K1 284 (7 + 5 * b + k) y, ⟨ma.go n1 ?_, ?_⟩, ?_⟩
  · rw [u2_up, ek]
  · rw [u2_o (by decide)]
    exact k0
  · rw [q_X12_isNow_0]
    rcases hv2 with z | z <;> rcases hy with rfl | rfl
    · rw [z] at mo ⊢
      simp (disch := first | assumption | exact Int.natCast_nonneg _ | decide) only [↓BM s, m1, mo, q_X12_isNow_12, mt, hlt, e_clI, e_clV, e_clP, e_clIx, e_clVx, e_clPx, e_xt, Int.toNat_natCast, Int.reduceToNat, bz0, bz1, Nat.add_zero, decide_eq_false_iff_not, decide_eq_true_eq, Int.reduceEq, Nat.reduceEqDiff, Int.reduceLT, Int.reduceLE, not_true_eq_false, not_false_eq_true, eq_self, ↓reduceIte]
    · rw [z] at mo ⊢
      simp (disch := first | assumption | exact Int.natCast_nonneg _ | decide) only [↓BM s, m1, mo, q_X12_isNow_12, mt, hlt, e_clI, e_clV, e_clP, e_clIx, e_clVx, e_clPx, e_xt, Int.toNat_natCast, Int.reduceToNat, bz0, bz1, Nat.add_zero, decide_eq_false_iff_not, decide_eq_true_eq, Int.reduceEq, Nat.reduceEqDiff, Int.reduceLT, Int.reduceLE, not_true_eq_false, not_false_eq_true, eq_self, ↓reduceIte]
    · rw [z] at mo ⊢
      simp (disch := first | assumption | exact Int.natCast_nonneg _ | decide) only [↓BM s, m1, mo, q_X12_isNow_12, mt, hlt, e_clI, e_clV, e_clP, e_clIx, e_clVx, e_clPx, e_xt, Int.toNat_natCast, Int.reduceToNat, bz0, bz1, Nat.add_zero, decide_eq_false_iff_not, decide_eq_true_eq, Int.reduceEq, Nat.reduceEqDiff, Int.reduceLT, Int.reduceLE, not_true_eq_false, not_false_eq_true, eq_self, ↓reduceIte]
    · rw [z] at mo ⊢
      simp (disch := first | assumption | exact Int.natCast_nonneg _ | decide) only [↓BM s, m1, mo, q_X12_isNow_12, mt, hlt, e_clI, e_clV, e_clP, e_clIx, e_clVx, e_clPx, e_xt, Int.toNat_natCast, Int.reduceToNat, bz0, bz1, Nat.add_zero, decide_eq_false_iff_not, decide_eq_true_eq, Int.reduceEq, Nat.reduceEqDiff, Int.reduceLT, Int.reduceLE, not_true_eq_false, not_false_eq_true, eq_self, ↓reduceIte]
theorem p_gate (r : Rel h I) (B : BBo I 11) {x : Int} (hy : y = 0 ∨ y = 1) : Pub h I (Cl sc (d + 30) mX11_gate [Vr (some 0), Vi x, Vi y]) (Cl sc (d + 30) mX12_gate [Vr (some 283), Vi x, Vi y]) cdB := by
  have R := r.R
  have V := r.V
  by_cases hx : 0 ≤ x ∧ x < 60
  · obtain ⟨b, rfl⟩ : ∃ b : Nat, x = b := ⟨x.toNat, by omega⟩
    have hb : b < 60 := by omega
    have hb6 : (b : Int) < 60 := hx.2
    by_cases hf1 : I 284 (7 + 5 * b) = 1
    · obtain ⟨h1, J1, ca, c1⟩ := c_remember (sc := sc) (d := d + 26) r B
      have s1 := ca.sh r.1
      have S := ca.2.2.2.2.1
      have cy := cty_of s1 isC_now
      have ga := S.1.ga hb hf1
      have g2 : Cg 11 J1 (am_u2 J1 (11 + 4) b y) := fun p hp _ => u2_o (by omega)
      have t3 : T2 (I 284) (up (I 284) (7 + 5 * b + 3) y) := (T2.rf _).up (by omega) (by omega)
      refine pubA rfl r (x := if I 284 (7 + 5 * b + 3) = y then 0 else 1) (h1 := h1) (J1 := am_u2 J1 (11 + 4) b y) ?_ (ca.go g2 (up3_R S.1 V hb hf1) (up34_w V hb hf1 (Or.inl rfl) hy) t3) (rows_go r t3.1) (fun J s e3 e4 e8 => ?_)
      · rw [q_X11_gate_0]
        by_cases e : I 284 (7 + 5 * b + 3) = y
        · rw [if_pos e]
          simp (disch := first | assumption | exact Int.natCast_nonneg _ | decide) only [↓BO r.1, c_nB hx, c_nE r.1 R hb hf1, c1, ↓BO s1, ↓BC cy, hx, hy, ga, e, e_clI, e_clV, e_clP, e_clIx, e_clVx, e_clPx, e_xt, Int.toNat_natCast, Int.reduceToNat, bz0, bz1, Nat.add_zero, decide_eq_false_iff_not, decide_eq_true_eq, Int.reduceEq, Nat.reduceEqDiff, Int.reduceLT, Int.reduceLE, not_true_eq_false, not_false_eq_true, eq_self, ↓reduceIte]
        · rw [if_neg e]
          simp (disch := first | assumption | exact Int.natCast_nonneg _ | decide) only [↓BO r.1, c_nB hx, c_nE r.1 R hb hf1, c1, ↓BO s1, ↓BC cy, hx, hy, ga, e, e_clI, e_clV, e_clP, e_clIx, e_clVx, e_clPx, e_xt, Int.toNat_natCast, Int.reduceToNat, bz0, bz1, Nat.add_zero, decide_eq_false_iff_not, decide_eq_true_eq, Int.reduceEq, Nat.reduceEqDiff, Int.reduceLT, Int.reduceLE, not_true_eq_false, not_false_eq_true, eq_self, ↓reduceIte]
      · obtain ⟨K1, ⟨ma, k0⟩, m1⟩ := m_isNow (sc := sc) (d := d + 25) r s e3 e4 e8 hb (k := 3) (Or.inl rfl) hy hf1
        have m1 : Cl sc (d + 29) mX12_isNow [Vr (some 283), Vi (b : Int), Vi 3, Vi y] (hI h1 (am_u2 J 283 0 0)) = some (.inl (Vi (if I 284 (7 + 5 * b + 3) = y then 0 else 1)), hI h1 K1) := m1
        have cn := m_can (sc := sc) (d := d + 25) (h := h1) (J := J) s hx (by rw [e4]; exact hf1)
        refine ⟨K1, ?_, ma, k0⟩
        rw [q_X12_gate_0]
        simp (disch := first | assumption | exact Int.natCast_nonneg _ | decide) only [↓BM s, cn, m1, e_clI, e_clV, e_clP, e_clIx, e_clVx, e_clPx, e_xt, Int.toNat_natCast, Int.reduceToNat, bz0, bz1, Nat.add_zero, decide_eq_false_iff_not, decide_eq_true_eq, Int.reduceEq, Nat.reduceEqDiff, Int.reduceLT, Int.reduceLE, not_true_eq_false, not_false_eq_true, eq_self, ↓reduceIte]
        by_cases e : I 284 (7 + 5 * b + 3) = y
        · rw [if_pos e, if_pos rfl]
        · rw [if_neg e, if_neg (by decide)]
    · refine pubQ (x := 5) (v := 0) (v' := 0) r (CO.no (J := I) (by decide) ?_ (Same.rf I)) (fun h1 J1 r1 e1 => ?_) (fun h => absurd h (by decide))
      · rw [q_X11_gate_0]
        simp (disch := first | (simp (disch := omega) only [w32_id]; omega) | omega) only [↓BO r.1, c_nB hx, c_nEx r.1 R hb (by have := V.fe hb; omega), hI_exI, e_clI, e_clV, e_clP, e_clIx, e_clVx, e_clPx, e_xt, Int.toNat_natCast, Int.reduceToNat, bz0, bz1, Nat.add_zero, decide_eq_false_iff_not, decide_eq_true_eq, Int.reduceEq, Nat.reduceEqDiff, Int.reduceLT, Int.reduceLE, not_true_eq_false, not_false_eq_true, eq_self, ↓reduceIte]
      · refine MO.thr ?_
        rw [q_X12_gate_0]
        simp (disch := first | (simp (disch := omega) only [w32_id]; omega) | omega) only [↓BM r1.1, m_can2 (J := J1) r1.1 hx (by rw [e1.w]; exact hf1), e_clI, e_clV, e_clP, e_clIx, e_clVx, e_clPx, e_xt, Int.toNat_natCast, Int.reduceToNat, bz0, bz1, Nat.add_zero, decide_eq_false_iff_not, decide_eq_true_eq, Int.reduceEq, Nat.reduceEqDiff, Int.reduceLT, Int.reduceLE, not_true_eq_false, not_false_eq_true, eq_self, ↓reduceIte]
        try rfl
  · refine pubQ (x := 3) (v := 0) (v' := 0) r (CO.no (J := I) (by decide) ?_ (Same.rf I)) (fun h1 J1 r1 e1 => ?_) (fun h => absurd h (by decide))
    · rw [q_X11_gate_0]
      simp (disch := first | (simp (disch := omega) only [w32_id]; omega) | omega) only [↓BO r.1, c_nBx hx, hI_exI, e_clI, e_clV, e_clP, e_clIx, e_clVx, e_clPx, e_xt, Int.toNat_natCast, Int.reduceToNat, bz0, bz1, Nat.add_zero, decide_eq_false_iff_not, decide_eq_true_eq, Int.reduceEq, Nat.reduceEqDiff, Int.reduceLT, Int.reduceLE, not_true_eq_false, not_false_eq_true, eq_self, ↓reduceIte]
    · refine MO.thr ?_
      rw [q_X12_gate_0]
      simp (disch := first | (simp (disch := omega) only [w32_id]; omega) | omega) only [↓BM r1.1, m_can1 (J := J1) r1.1 hx, e_clI, e_clV, e_clP, e_clIx, e_clVx, e_clPx, e_xt, Int.toNat_natCast, Int.reduceToNat, bz0, bz1, Nat.add_zero, decide_eq_false_iff_not, decide_eq_true_eq, Int.reduceEq, Nat.reduceEqDiff, Int.reduceLT, Int.reduceLE, not_true_eq_false, not_false_eq_true, eq_self, ↓reduceIte]
      try rfl
theorem p_string (r : Rel h I) (B : BBo I 11) {x : Int} (hy : y = 0 ∨ y = 1) : Pub h I (Cl sc (d + 30) mX11_string [Vr (some 0), Vi x, Vi y]) (Cl sc (d + 30) mX12_string [Vr (some 283), Vi x, Vi y]) cdB := by
  have R := r.R
  have V := r.V
  by_cases hx : 0 ≤ x ∧ x < 60
  · obtain ⟨b, rfl⟩ : ∃ b : Nat, x = b := ⟨x.toNat, by omega⟩
    have hb : b < 60 := by omega
    have hb6 : (b : Int) < 60 := hx.2
    by_cases hf1 : I 284 (7 + 5 * b) = 1
    · obtain ⟨h1, J1, ca, c1⟩ := c_remember (sc := sc) (d := d + 26) r B
      have s1 := ca.sh r.1
      have S := ca.2.2.2.2.1
      have cy := cty_of s1 isC_now
      have ga := S.1.st hb hf1
      have g2 : Cg 11 J1 (am_u2 J1 (11 + 5) b y) := fun p hp _ => u2_o (by omega)
      have t3 : T2 (I 284) (up (I 284) (7 + 5 * b + 4) y) := (T2.rf _).up (by omega) (by omega)
      refine pubA rfl r (x := if I 284 (7 + 5 * b + 4) = y then 0 else 1) (h1 := h1) (J1 := am_u2 J1 (11 + 5) b y) ?_ (ca.go g2 (up4_R S.1 V hb hf1) (up34_w V hb hf1 (Or.inr rfl) hy) t3) (rows_go r t3.1) (fun J s e3 e4 e8 => ?_)
      · rw [q_X11_string_0]
        by_cases e : I 284 (7 + 5 * b + 4) = y
        · rw [if_pos e]
          simp (disch := first | assumption | exact Int.natCast_nonneg _ | decide) only [↓BO r.1, c_nB hx, c_nE r.1 R hb hf1, c1, ↓BO s1, ↓BC cy, hx, hy, ga, e, e_clI, e_clV, e_clP, e_clIx, e_clVx, e_clPx, e_xt, Int.toNat_natCast, Int.reduceToNat, bz0, bz1, Nat.add_zero, decide_eq_false_iff_not, decide_eq_true_eq, Int.reduceEq, Nat.reduceEqDiff, Int.reduceLT, Int.reduceLE, not_true_eq_false, not_false_eq_true, eq_self, ↓reduceIte]
        · rw [if_neg e]
          simp (disch := first | assumption | exact Int.natCast_nonneg _ | decide) only [↓BO r.1, c_nB hx, c_nE r.1 R hb hf1, c1, ↓BO s1, ↓BC cy, hx, hy, ga, e, e_clI, e_clV, e_clP, e_clIx, e_clVx, e_clPx, e_xt, Int.toNat_natCast, Int.reduceToNat, bz0, bz1, Nat.add_zero, decide_eq_false_iff_not, decide_eq_true_eq, Int.reduceEq, Nat.reduceEqDiff, Int.reduceLT, Int.reduceLE, not_true_eq_false, not_false_eq_true, eq_self, ↓reduceIte]
      · obtain ⟨K1, ⟨ma, k0⟩, m1⟩ := m_isNow (sc := sc) (d := d + 25) r s e3 e4 e8 hb (k := 4) (Or.inr rfl) hy hf1
        have m1 : Cl sc (d + 29) mX12_isNow [Vr (some 283), Vi (b : Int), Vi 4, Vi y] (hI h1 (am_u2 J 283 0 0)) = some (.inl (Vi (if I 284 (7 + 5 * b + 4) = y then 0 else 1)), hI h1 K1) := m1
        have cn := m_can (sc := sc) (d := d + 25) (h := h1) (J := J) s hx (by rw [e4]; exact hf1)
        refine ⟨K1, ?_, ma, k0⟩
        rw [q_X12_string_0]
        simp (disch := first | assumption | exact Int.natCast_nonneg _ | decide) only [↓BM s, cn, m1, e_clI, e_clV, e_clP, e_clIx, e_clVx, e_clPx, e_xt, Int.toNat_natCast, Int.reduceToNat, bz0, bz1, Nat.add_zero, decide_eq_false_iff_not, decide_eq_true_eq, Int.reduceEq, Nat.reduceEqDiff, Int.reduceLT, Int.reduceLE, not_true_eq_false, not_false_eq_true, eq_self, ↓reduceIte]
        by_cases e : I 284 (7 + 5 * b + 4) = y
        · rw [if_pos e, if_pos rfl]
        · rw [if_neg e, if_neg (by decide)]
    · refine pubQ (x := 5) (v := 0) (v' := 0) r (CO.no (J := I) (by decide) ?_ (Same.rf I)) (fun h1 J1 r1 e1 => ?_) (fun h => absurd h (by decide))
      · rw [q_X11_string_0]
        simp (disch := first | (simp (disch := omega) only [w32_id]; omega) | omega) only [↓BO r.1, c_nB hx, c_nEx r.1 R hb (by have := V.fe hb; omega), hI_exI, e_clI, e_clV, e_clP, e_clIx, e_clVx, e_clPx, e_xt, Int.toNat_natCast, Int.reduceToNat, bz0, bz1, Nat.add_zero, decide_eq_false_iff_not, decide_eq_true_eq, Int.reduceEq, Nat.reduceEqDiff, Int.reduceLT, Int.reduceLE, not_true_eq_false, not_false_eq_true, eq_self, ↓reduceIte]
      · refine MO.thr ?_
        rw [q_X12_string_0]
        simp (disch := first | (simp (disch := omega) only [w32_id]; omega) | omega) only [↓BM r1.1, m_can2 (J := J1) r1.1 hx (by rw [e1.w]; exact hf1), e_clI, e_clV, e_clP, e_clIx, e_clVx, e_clPx, e_xt, Int.toNat_natCast, Int.reduceToNat, bz0, bz1, Nat.add_zero, decide_eq_false_iff_not, decide_eq_true_eq, Int.reduceEq, Nat.reduceEqDiff, Int.reduceLT, Int.reduceLE, not_true_eq_false, not_false_eq_true, eq_self, ↓reduceIte]
        try rfl
  · refine pubQ (x := 3) (v := 0) (v' := 0) r (CO.no (J := I) (by decide) ?_ (Same.rf I)) (fun h1 J1 r1 e1 => ?_) (fun h => absurd h (by decide))
    · rw [q_X11_string_0]
      simp (disch := first | (simp (disch := omega) only [w32_id]; omega) | omega) only [↓BO r.1, c_nBx hx, hI_exI, e_clI, e_clV, e_clP, e_clIx, e_clVx, e_clPx, e_xt, Int.toNat_natCast, Int.reduceToNat, bz0, bz1, Nat.add_zero, decide_eq_false_iff_not, decide_eq_true_eq, Int.reduceEq, Nat.reduceEqDiff, Int.reduceLT, Int.reduceLE, not_true_eq_false, not_false_eq_true, eq_self, ↓reduceIte]
    · refine MO.thr ?_
      rw [q_X12_string_0]
      simp (disch := first | (simp (disch := omega) only [w32_id]; omega) | omega) only [↓BM r1.1, m_can1 (J := J1) r1.1 hx, e_clI, e_clV, e_clP, e_clIx, e_clVx, e_clPx, e_xt, Int.toNat_natCast, Int.reduceToNat, bz0, bz1, Nat.add_zero, decide_eq_false_iff_not, decide_eq_true_eq, Int.reduceEq, Nat.reduceEqDiff, Int.reduceLT, Int.reduceLE, not_true_eq_false, not_false_eq_true, eq_self, ↓reduceIte]
      try rfl
theorem agW_w (V : WW w) (hb : b < 60) (hf : w (7 + 5 * b) = 1) (hy : 0 ≤ y ∧ y ≤ 999) : WW (up (up w (7 + 5 * b + 1) 0) (7 + 5 * b + 2) y) := by
  have hv := V.fe hb
  refine V.chF (b := b) (fun j hj => by rw [up_o (by omega), up_o (by omega)]) hb (Or.inr ⟨?_, ?_, ?_, ?_, ?_⟩)
  · rw [up_o (by omega), up_o (by omega)]
    exact hf
  · rw [up_o (by omega), up_s]
    omega
  · rw [up_s]
    exact hy
  · rw [up_o (by omega), up_o (by omega)]
    omega
  · rw [up_o (by omega), up_o (by omega)]
    omega
theorem agW_R (R : CRep I a w) (V : WW w) (hb : b < 60) (hf : w (7 + 5 * b) = 1) : CRep (am_u2 (am_u2 I (a + 2) b 0) (a + 3) b y) a (up (up w (7 + 5 * b + 1) 0) (7 + 5 * b + 2) y) := by
  refine R.chF (b := b) V (by rw [u2_o (by omega), u2_o (by omega)]) (fun k h1 h2 => by rw [u2_o (by omega), u2_o (by omega)]) (fun k x h1 h2 h3 => by rw [u2_j h3, u2_j h3]) (fun j hj => by rw [up_o (by omega), up_o (by omega)]) hb ?_
  obtain ⟨r0, r1⟩ := R.1 b hb
  obtain ⟨q1, q2, q3, q4⟩ := r1 hf
  have e : ∀ k, k ≠ 1 → k ≠ 2 → up (up w (7 + 5 * b + 1) 0) (7 + 5 * b + 2) y (7 + 5 * b + k) = w (7 + 5 * b + k) := fun k h1 h2 => by rw [up_o (by omega), up_o (by omega)]
  have e0 : up (up w (7 + 5 * b + 1) 0) (7 + 5 * b + 2) y (7 + 5 * b) = w (7 + 5 * b) := e 0 (by omega) (by omega)
  have e1 : up (up w (7 + 5 * b + 1) 0) (7 + 5 * b + 2) y (7 + 5 * b + 1) = 0 := by rw [up_o (by omega), up_s]
  unfold FR
  rw [e0, e1, up_s, e 3 (by omega) (by omega), e 4 (by omega) (by omega)]
  have g : ∀ p, p ≠ 2 → p ≠ 3 → am_u2 (am_u2 I (a + 2) b 0) (a + 3) b y (a + p) = I (a + p) := fun p h1 h2 => by rw [u2_o (by omega), u2_o (by omega)]
  rw [g 1 (by omega) (by omega), g 4 (by omega) (by omega), g 5 (by omega) (by omega), u2_same, u2_o (show a + 2 ≠ a + 3 by omega), u2_same]
  exact ⟨r0, fun _ => ⟨rfl, rfl, q3, q4⟩⟩
theorem p_again (r : Rel h I) (B : BBo I 11) {x : Int} : Pub h I (Cl sc (d + 30) mX11_again [Vr (some 0), Vi x, Vi y]) (Cl sc (d + 30) mX12_again [Vr (some 283), Vi x, Vi y]) cdG := by
  have R := r.R
  have V := r.V
  by_cases hx : 0 ≤ x ∧ x < 60
  · obtain ⟨b, rfl⟩ : ∃ b : Nat, x = b := ⟨x.toNat, by omega⟩
    have hb : b < 60 := by omega
    have hb6 : (b : Int) < 60 := hx.2
    by_cases hy : 0 ≤ y ∧ y ≤ 999
    · by_cases hf1 : I 284 (7 + 5 * b) = 1
      · have hi0 := R.hi hb hf1
        have mo2 : ∀ {h9 : am_H} {J9 : am_I}, Sh h9 → J9 284 = I 284 → Cl sc (d + 29) mX12_of [Vr (some 283), Vi (b : Int), Vi 2] (hI h9 J9) = some (.inl (Vi (I 284 (7 + 5 * b + 2))), hI h9 J9) := fun {h9 J9} s e => by
          have mo := m_of (sc := sc) (d := d + 27) (h := h9) (I := J9) s (b := b) (k := 2) (by omega) (by omega)
          rw [e] at mo
          exact mo
        by_cases hl : I 284 (7 + 5 * b + 2) < y
        · refine pubQ (x := 5) (v := 0) (v' := 0) r (CO.no (J := I) (by decide) ?_ (Same.rf I)) (fun h1 J1 r1 e1 => ?_) (fun h => absurd h (by decide))
          · rw [q_X11_again_0]
            simp (disch := first | (simp (disch := omega) only [w32_id]; omega) | omega) only [↓BO r.1, ↓BC r.c, c_nB hx, c_nH hy, c_nE r.1 R hb hf1, hi0, hl, hI_exI, e_clI, e_clV, e_clP, e_clIx, e_clVx, e_clPx, e_xt, Int.toNat_natCast, Int.reduceToNat, bz0, bz1, Nat.add_zero, decide_eq_false_iff_not, decide_eq_true_eq, Int.reduceEq, Nat.reduceEqDiff, Int.reduceLT, Int.reduceLE, not_true_eq_false, not_false_eq_true, eq_self, ↓reduceIte]
          · refine MO.thr ?_
            have hf2 := hf_1 (sc := sc) (d := d + 26) (h := h1) r1.1 hb (show am_u2 J1 283 0 0 284 (7 + 5 * b) = 1 by rw [w283, e1.w]; exact hf1)
            have mo := mo2 r1.1 (show am_u2 J1 283 0 0 284 = I 284 by rw [w283, e1.w])
            rw [q_X12_again_0]
            simp (disch := first | (simp (disch := omega) only [w32_id]; omega) | omega) only [↓BM r1.1, m_nB hx, m_nH hy, m_t0 r1.1, hf2, mo, hl, e_clI, e_clV, e_clP, e_clIx, e_clVx, e_clPx, e_xt, Int.toNat_natCast, Int.reduceToNat, bz0, bz1, Nat.add_zero, decide_eq_false_iff_not, decide_eq_true_eq, Int.reduceEq, Nat.reduceEqDiff, Int.reduceLT, Int.reduceLE, not_true_eq_false, not_false_eq_true, eq_self, ↓reduceIte]
            rw [q_X12_again_30]
            simp (disch := first | (simp (disch := omega) only [w32_id]; omega) | omega) only [↓BM r1.1, m_t1 r1.1, e_clI, e_clV, e_clP, e_clIx, e_clVx, e_clPx, e_xt, Int.toNat_natCast, Int.reduceToNat, bz0, bz1, Nat.add_zero, decide_eq_false_iff_not, decide_eq_true_eq, Int.reduceEq, Nat.reduceEqDiff, Int.reduceLT, Int.reduceLE, not_true_eq_false, not_false_eq_true, eq_self, ↓reduceIte]
            try rfl
        · obtain ⟨h1, J1, ca, c1⟩ := c_remember (sc := sc) (d := d + 26) r B
          have s1 := ca.sh r.1
          have S := ca.2.2.2.2.1
          have cy := cty_of s1 isC_now
          have V2 := agW_w V hb hf1 hy
          have R2 := agW_R (y := y) S.1 V hb hf1
          have g2 : Cg 11 J1 (am_u2 (am_u2 J1 (11 + 2) b 0) (11 + 3) b y) := fun p hp _ => by rw [u2_o (by omega), u2_o (by omega)]
          obtain ⟨J3, g3, R3, p3⟩ := c_add (sc := sc) (d := d + 27) cy R2 V2 (x := (b : Int)) (k := 3) (f := -1) (hi := I 284 (7 + 5 * b + 2)) R2.ye
          have t3 : T2 (I 284) (teW (up (up (I 284) (7 + 5 * b + 1) 0) (7 + 5 * b + 2) y) (b : Int) 3 (-1) (I 284 (7 + 5 * b + 2))) := (((T2.rf _).up (by omega) (by omega)).up (by omega) (by omega)).tr teW_t
          have e10 : am_u2 (am_u2 J1 (11 + 2) b 0) (11 + 3) b y 11 10 = J1 11 10 := by rw [u2_a (by omega), u2_a (by omega)]
          rw [e10] at p3
          refine pubA rfl r (x := I 284 (7 + 5 * b + 2)) (h1 := h1) (J1 := J3) ?_ (ca.go (g2.tr g3) R3 (teW_w V2) t3) (rows_go r t3.1) (fun J s e3 e4 e8 => ?_)
          · rw [q_X11_again_0]
            simp (disch := first | assumption | exact Int.natCast_nonneg _ | decide) only [↓BO r.1, ↓BC r.c, c_nB hx, c_nH hy, c_nE r.1 R hb hf1, hi0, hx, hl, c1, ↓BO s1, ↓BC cy, e10, p3, e_clI, e_clV, e_clP, e_clIx, e_clVx, e_clPx, e_xt, Int.toNat_natCast, Int.reduceToNat, bz0, bz1, Nat.add_zero, decide_eq_false_iff_not, decide_eq_true_eq, Int.reduceEq, Nat.reduceEqDiff, Int.reduceLT, Int.reduceLE, not_true_eq_false, not_false_eq_true, eq_self, ↓reduceIte]
          · obtain ⟨K1, ⟨ma, k0⟩, m1⟩ := m_rem (sc := sc) (d := d + 28) r s e3 e4 e8
            have ek : K1 284 = I 284 := ma.2.2.2.2.1
            have hf2 := hf_1 (sc := sc) (d := d + 26) (h := h1) s hb (show am_u2 J 283 0 0 284 (7 + 5 * b) = 1 by rw [w283, e4]; exact hf1)
            have mo := mo2 s (show am_u2 J 283 0 0 284 = I 284 by rw [w283, e4])
            have mo3 := mo2 s ek
            have mt : ∀ (k : Nat), k < 5 → ∀ (J : am_I), Cl sc (d + 29) mX12_at [Vi (b : Int), Vi (k : Int)] (hI h1 J) = some (.inl (Vi ((7 + 5 * b + k : Nat) : Int)), hI h1 J) := fun k hk J => by
              have := m_at (sc := sc) (d := d + 28) (h := hI h1 J) (b := b) (k := (k : Int)) (by omega) (by omega)
              rwa [Int.toNat_natCast] at this
            have mt1 : ∀ (J : am_I), Cl sc (d + 29) mX12_at [Vi (b : Int), Vi 1] (hI h1 J) = some (.inl (Vi ((7 + 5 * b + 1 : Nat) : Int)), hI h1 J) := mt 1 (by decide)
            have mt2 : ∀ (J : am_I), Cl sc (d + 29) mX12_at [Vi (b : Int), Vi 2] (hI h1 J) = some (.inl (Vi ((7 + 5 * b + 2 : Nat) : Int)), hI h1 J) := mt 2 (by decide)
            have l1 : ((7 + 5 * b + 1 : Nat) : Int) < 2329 := by omega
            have l2 : ((7 + 5 * b + 2 : Nat) : Int) < 2329 := by omega
            have n1 : Mg K1 (am_u2 (am_u2 K1 284 (7 + 5 * b + 1) 0) 284 (7 + 5 * b + 2) y) := fun p p1 p2 => by rw [u2_o p1, u2_o p1]
            have n2 : am_u2 (am_u2 K1 284 (7 + 5 * b + 1) 0) 284 (7 + 5 * b + 2) y 284 = up (up (I 284) (7 + 5 * b + 1) 0) (7 + 5 * b + 2) y := by rw [u2_up, u2_up, ek]
            obtain ⟨K3, o1, o2, o3⟩ := m_tells (sc := sc) (d := d + 27) (h := h1) s n2 V2 (x := (b : Int)) (k := 3) (y := -1) (hi := I 284 (7 + 5 * b + 2))
            refine ⟨K3, ?_, (ma.go n1 n2).go o1 o2, ?_⟩
            · rw [q_X12_again_0]
              simp (disch := first | assumption | exact Int.natCast_nonneg _ | decide) only [↓BM s, m_nB hx, m_nH hy, m_t0 s, hf2, mo, hl, e_clI, e_clV, e_clP, e_clIx, e_clVx, e_clPx, e_xt, Int.toNat_natCast, Int.reduceToNat, bz0, bz1, Nat.add_zero, decide_eq_false_iff_not, decide_eq_true_eq, Int.reduceEq, Nat.reduceEqDiff, Int.reduceLT, Int.reduceLE, not_true_eq_false, not_false_eq_true, eq_self, ↓reduceIte]
              rw [q_X12_again_30]
              simp (disch := first | assumption | exact Int.natCast_nonneg _ | decide) only [↓BM s, m_t0 s, m1, mo3, mt1, mt2, l1, l2, o3, e_clI, e_clV, e_clP, e_clIx, e_clVx, e_clPx, e_xt, Int.toNat_natCast, Int.reduceToNat, bz0, bz1, Nat.add_zero, decide_eq_false_iff_not, decide_eq_true_eq, Int.reduceEq, Nat.reduceEqDiff, Int.reduceLT, Int.reduceLE, not_true_eq_false, not_false_eq_true, eq_self, ↓reduceIte]
            · rw [o1 283 (by decide) (by decide), n1 283 (by decide) (by decide)]
              exact k0
      · refine pubQ (x := 5) (v := 0) (v' := 0) r (CO.no (J := I) (by decide) ?_ (Same.rf I)) (fun h1 J1 r1 e1 => ?_) (fun h => absurd h (by decide))
        · rw [q_X11_again_0]
          simp (disch := first | (simp (disch := omega) only [w32_id]; omega) | omega) only [↓BO r.1, ↓BC r.c, c_nB hx, c_nH hy, c_nEx r.1 R hb (by have := V.fe hb; omega), hI_exI, e_clI, e_clV, e_clP, e_clIx, e_clVx, e_clPx, e_xt, Int.toNat_natCast, Int.reduceToNat, bz0, bz1, Nat.add_zero, decide_eq_false_iff_not, decide_eq_true_eq, Int.reduceEq, Nat.reduceEqDiff, Int.reduceLT, Int.reduceLE, not_true_eq_false, not_false_eq_true, eq_self, ↓reduceIte]
        · refine MO.thr ?_
          have hf2 := hf_0 (sc := sc) (d := d + 26) (h := h1) r1.1 hb (show ¬ am_u2 J1 283 0 0 284 (7 + 5 * b) = 1 by rw [w283, e1.w]; exact hf1)
          rw [q_X12_again_0]
          simp (disch := first | (simp (disch := omega) only [w32_id]; omega) | omega) only [↓BM r1.1, m_nB hx, m_nH hy, m_t0 r1.1, hf2, e_clI, e_clV, e_clP, e_clIx, e_clVx, e_clPx, e_xt, Int.toNat_natCast, Int.reduceToNat, bz0, bz1, Nat.add_zero, decide_eq_false_iff_not, decide_eq_true_eq, Int.reduceEq, Nat.reduceEqDiff, Int.reduceLT, Int.reduceLE, not_true_eq_false, not_false_eq_true, eq_self, ↓reduceIte]
          rw [q_X12_again_30]
          simp (disch := first | (simp (disch := omega) only [w32_id]; omega) | omega) only [↓BM r1.1, m_t1 r1.1, e_clI, e_clV, e_clP, e_clIx, e_clVx, e_clPx, e_xt, Int.toNat_natCast, Int.reduceToNat, bz0, bz1, Nat.add_zero, decide_eq_false_iff_not, decide_eq_true_eq, Int.reduceEq, Nat.reduceEqDiff, Int.reduceLT, Int.reduceLE, not_true_eq_false, not_false_eq_true, eq_self, ↓reduceIte]
          try rfl
    · skip
      refine pubQ (x := 1) (v := 0) (v' := 0) r (CO.no (J := I) (by decide) ?_ (Same.rf I)) (fun h1 J1 r1 e1 => ?_) (fun h => absurd h (by decide))
      · rw [q_X11_again_0]
        simp (disch := first | (simp (disch := omega) only [w32_id]; omega) | omega) only [c_nB hx, c_nHx hy, hI_exI, e_clI, e_clV, e_clP, e_clIx, e_clVx, e_clPx, e_xt, Int.toNat_natCast, Int.reduceToNat, bz0, bz1, Nat.add_zero, decide_eq_false_iff_not, decide_eq_true_eq, Int.reduceEq, Nat.reduceEqDiff, Int.reduceLT, Int.reduceLE, not_true_eq_false, not_false_eq_true, eq_self, ↓reduceIte]
      · refine MO.thr ?_
        rw [q_X12_again_0]
        simp (disch := first | (simp (disch := omega) only [w32_id]; omega) | omega) only [↓BM r1.1, m_nB hx, m_nHx hy, m_t0 r1.1, m_t1 r1.1, e_clI, e_clV, e_clP, e_clIx, e_clVx, e_clPx, e_xt, Int.toNat_natCast, Int.reduceToNat, bz0, bz1, Nat.add_zero, decide_eq_false_iff_not, decide_eq_true_eq, Int.reduceEq, Nat.reduceEqDiff, Int.reduceLT, Int.reduceLE, not_true_eq_false, not_false_eq_true, eq_self, ↓reduceIte]
        try rfl
  · skip
    refine pubQ (x := 3) (v := 0) (v' := 0) r (CO.no (J := I) (by decide) ?_ (Same.rf I)) (fun h1 J1 r1 e1 => ?_) (fun h => absurd h (by decide))
    · rw [q_X11_again_0]
      simp (disch := first | (simp (disch := omega) only [w32_id]; omega) | omega) only [c_nBx hx, hI_exI, e_clI, e_clV, e_clP, e_clIx, e_clVx, e_clPx, e_xt, Int.toNat_natCast, Int.reduceToNat, bz0, bz1, Nat.add_zero, decide_eq_false_iff_not, decide_eq_true_eq, Int.reduceEq, Nat.reduceEqDiff, Int.reduceLT, Int.reduceLE, not_true_eq_false, not_false_eq_true, eq_self, ↓reduceIte]
    · refine MO.thr ?_
      rw [q_X12_again_0]
      simp (disch := first | (simp (disch := omega) only [w32_id]; omega) | omega) only [↓BM r1.1, m_nBx hx, m_t1 r1.1, e_clI, e_clV, e_clP, e_clIx, e_clVx, e_clPx, e_xt, Int.toNat_natCast, Int.reduceToNat, bz0, bz1, Nat.add_zero, decide_eq_false_iff_not, decide_eq_true_eq, Int.reduceEq, Nat.reduceEqDiff, Int.reduceLT, Int.reduceLE, not_true_eq_false, not_false_eq_true, eq_self, ↓reduceIte]
      try rfl
end
