/-! ACTS: the calls -/
def goneW (w : am_Wd) (b : Nat) : am_Wd := fun j => if 7 + 5 * b ≤ j ∧ j < 7 + 5 * b + 5 then 0 else w j
section
variable {sc : Nat × (Nat → Int)} {d a b n : Nat} {h h1 h2 : am_H} {I J J1 J2 K : am_I} {w v : am_Wd} {rows : Nat → am_Wd}
theorem hf_1 (s : Sh h) (hb : b < 60) (hf : J 284 (7 + 5 * b) = 1) : Cl sc (d + 3) mX12_hasFence [Vr (some 283), Vi (b : Int)] (hI h J) = some (.inl (Vi 1), hI h J) := by
  rw [m_hasFence s hb, decide_eq_true hf]
  rfl
theorem hf_0 (s : Sh h) (hb : b < 60) (hf : ¬ J 284 (7 + 5 * b) = 1) : Cl sc (d + 3) mX12_hasFence [Vr (some 283), Vi (b : Int)] (hI h J) = some (.inl (Vi 0), hI h J) := by
  rw [m_hasFence s hb, decide_eq_false hf]
  rfl
theorem m_can (s : Sh h) (hx : 0 ≤ (b : Int) ∧ (b : Int) < 60) (hf : J 284 (7 + 5 * b) = 1) : Cl sc (d + 4) mX12_cannot [Vr (some 283), Vi (b : Int)] (hI h J) = some (.inl (Vi 0), hI h (am_u2 J 283 0 0)) := by
  rw [q_X12_cannot_0]
  simp (disch := first | (simp (disch := omega) only [w32_id]; omega) | omega) only [↓BM s, m_nB hx, m_t0 s, hf_1 s (show b < 60 by omega) (show am_u2 J 283 0 0 284 (7 + 5 * b) = 1 by rw [w283]; exact hf), e_clI, e_clV, e_clP, e_clIx, e_clVx, e_clPx, e_xt, Int.toNat_natCast, Int.reduceToNat, bz0, bz1, Nat.add_zero, decide_eq_false_iff_not, decide_eq_true_eq, Int.reduceEq, Nat.reduceEqDiff, Int.reduceLT, Int.reduceLE, not_true_eq_false, not_false_eq_true, eq_self, ↓reduceIte]
theorem m_can2 (s : Sh h) (hx : 0 ≤ (b : Int) ∧ (b : Int) < 60) (hf : ¬ J 284 (7 + 5 * b) = 1) : Cl sc (d + 4) mX12_cannot [Vr (some 283), Vi (b : Int)] (hI h J) = some (.inl (Vi 1), hI h (am_u2 (am_u2 J 283 0 0) 283 0 2)) := by
  rw [q_X12_cannot_0]
  simp (disch := first | (simp (disch := omega) only [w32_id]; omega) | omega) only [↓BM s, m_nB hx, m_t0 s, m_t1 s, hf_0 s (show b < 60 by omega) (show ¬ am_u2 J 283 0 0 284 (7 + 5 * b) = 1 by rw [w283]; exact hf), e_clI, e_clV, e_clP, e_clIx, e_clVx, e_clPx, e_xt, Int.toNat_natCast, Int.reduceToNat, bz0, bz1, Nat.add_zero, decide_eq_false_iff_not, decide_eq_true_eq, Int.reduceEq, Nat.reduceEqDiff, Int.reduceLT, Int.reduceLE, not_true_eq_false, not_false_eq_true, eq_self, ↓reduceIte]
theorem m_can1 (s : Sh h) {x : Int} (hx : ¬ (0 ≤ x ∧ x < 60)) : Cl sc (d + 4) mX12_cannot [Vr (some 283), Vi x] (hI h J) = some (.inl (Vi 1), hI h (am_u2 (am_u2 J 283 0 0) 283 0 1)) := by
  rw [q_X12_cannot_0]
  simp (disch := first | (simp (disch := omega) only [w32_id]; omega) | omega) only [↓BM s, m_nBx hx, m_t1 s, e_clI, e_clV, e_clP, e_clIx, e_clVx, e_clPx, e_xt, Int.toNat_natCast, Int.reduceToNat, bz0, bz1, Nat.add_zero, decide_eq_false_iff_not, decide_eq_true_eq, Int.reduceEq, Nat.reduceEqDiff, Int.reduceLT, Int.reduceLE, not_true_eq_false, not_false_eq_true, eq_self, ↓reduceIte]
theorem p_years (r : Rel h I) (B : BBo I 11) {x : Int} : Pub h I (Cl sc (d + 30) mX11_years [Vr (some 0), Vi x]) (Cl sc (d + 30) mX12_years [Vr (some 283), Vi x]) cdA := by
  by_cases hx : 1 ≤ x ∧ x ≤ 100
  · obtain ⟨n, rfl⟩ : ∃ n : Nat, x = n := ⟨x.toNat, by omega⟩
    obtain ⟨h1, J1, ca, c1⟩ := c_remember (sc := sc) (d := d + 26) r B
    have s1 := ca.sh r.1
    have S := ca.2.2.2.2.1
    obtain ⟨K, ⟨k1, k2, k3⟩, k4⟩ := c_passYears (sc := sc) (d := d + 23) (a := 11) (h := h1) (I := J1) (cty_of s1 isC_now) (by decide) S (n := n) (by omega)
    have l1 : ¬ (n : Int) < 1 := by omega
    have l2 : ¬ 100 < (n : Int) := by omega
    refine pubA rfl r (x := (goY (I 284) n).2) (h1 := h1) (J1 := K) ?_ (ca.goS k1 k2) (rows_go r (LR.u S.2.2 k2.2.2)) (fun J s e3 e4 e8 => ?_)
    · rw [q_X11_years_0]
      simp (disch := first | assumption | exact Int.natCast_nonneg _ | decide) only [↓BO r.1, l1, l2, c1, ↓BO s1, ↓BC (cty_of s1 isC_now), k4, e_clI, e_clV, e_clP, e_clIx, e_clVx, e_clPx, e_xt, Int.toNat_natCast, Int.reduceToNat, bz0, bz1, Nat.add_zero, decide_eq_false_iff_not, decide_eq_true_eq, Int.reduceEq, Nat.reduceEqDiff, Int.reduceLT, Int.reduceLE, not_true_eq_false, not_false_eq_true, eq_self, ↓reduceIte]
    · obtain ⟨K1, ⟨ma, k0⟩, m1⟩ := m_rem (sc := sc) (d := d + 28) r s e3 e4 e8
      have hin : Cl sc (d + 29) mX12_in [Vi (n : Int), Vi 1, Vi 100] (hI h1 (am_u2 J 283 0 0)) = some (.inl (Vi 1), hI h1 (am_u2 J 283 0 0)) := by
        rw [c_in, decide_eq_true (by omega)]
        rfl
      obtain ⟨K2, ⟨g1, g2, -⟩, g3⟩ := m_goesOn (sc := sc) (d := d + 20) (h := h1) (I := K1) (w := I 284) s ⟨ma.2.2.2.2.1, r.V, r.2.1.2.2.ml⟩ (n := n) (by omega)
      refine ⟨K2, ?_, ma.go g1 g2.1, ?_⟩
      · rw [q_X12_years_0]
        simp (disch := first | assumption | exact Int.natCast_nonneg _ | decide) only [↓BM s, hin, m_t0 s, m1, g3, e_clI, e_clV, e_clP, e_clIx, e_clVx, e_clPx, e_xt, Int.toNat_natCast, Int.reduceToNat, bz0, bz1, Nat.add_zero, decide_eq_false_iff_not, decide_eq_true_eq, Int.reduceEq, Nat.reduceEqDiff, Int.reduceLT, Int.reduceLE, not_true_eq_false, not_false_eq_true, eq_self, ↓reduceIte]
      · rw [g1 283 (by decide) (by decide)]
        exact k0
  · refine pubQ (x := 1) (v := 0) (v' := 0) r (CO.no (J := I) (by decide) ?_ (Same.rf I)) (fun h1 J1 r1 e1 => ?_) (fun h => absurd h (by decide))
    · rw [q_X11_years_0]
      by_cases h1 : x < 1
      · rw [if_pos h1]
        rfl
      · rw [if_neg h1, if_pos (by omega)]
        rfl
    · refine MO.thr ?_
      have hin : Cl sc (d + 29) mX12_in [Vi x, Vi 1, Vi 100] (hI h1 (am_u2 J1 283 0 0)) = some (.inl (Vi 0), hI h1 (am_u2 J1 283 0 0)) := by
        rw [c_in, decide_eq_false (by omega)]
        rfl
      rw [q_X12_years_0]
      simp (disch := first | (simp (disch := omega) only [w32_id]; omega) | omega) only [↓BM r1.1, hin, m_t1 r1.1, e_clI, e_clV, e_clP, e_clIx, e_clVx, e_clPx, e_xt, Int.toNat_natCast, Int.reduceToNat, bz0, bz1, Nat.add_zero, decide_eq_false_iff_not, decide_eq_true_eq, Int.reduceEq, Nat.reduceEqDiff, Int.reduceLT, Int.reduceLE, not_true_eq_false, not_false_eq_true, eq_self, ↓reduceIte]
      try rfl
theorem p_raise (r : Rel h I) (B : BBo I 11) {x : Int} : Pub h I (Cl sc (d + 30) mX11_raise [Vr (some 0), Vi x]) (Cl sc (d + 30) mX12_raise [Vr (some 283), Vi x]) cdB := by
  have R := r.R
  have V := r.V
  by_cases hx : 0 ≤ x ∧ x < 60
  · obtain ⟨b, rfl⟩ : ∃ b : Nat, x = b := ⟨x.toNat, by omega⟩
    have hb : b < 60 := by omega
    have hb6 : (b : Int) < 60 := hx.2
    have hf := V.fe hb
    have th := R.th hb
    by_cases hf1 : I 284 (7 + 5 * b) = 1
    · refine pubQ (x := 5) (v := 0) (v' := 0) r (CO.no (J := I) (by decide) ?_ (Same.rf I)) (fun h1 J1 r1 e1 => ?_) (fun h => absurd h (by decide))
      · rw [q_X11_raise_0]
        simp (disch := first | (simp (disch := omega) only [w32_id]; omega) | omega) only [↓BO r.1, ↓BC r.c, c_nB hx, th, hf1, hI_exI, e_clI, e_clV, e_clP, e_clIx, e_clVx, e_clPx, e_xt, Int.toNat_natCast, Int.reduceToNat, bz0, bz1, Nat.add_zero, decide_eq_false_iff_not, decide_eq_true_eq, Int.reduceEq, Nat.reduceEqDiff, Int.reduceLT, Int.reduceLE, not_true_eq_false, not_false_eq_true, eq_self, ↓reduceIte]
      · refine MO.thr ?_
        rw [q_X12_raise_0]
        simp (disch := first | (simp (disch := omega) only [w32_id]; omega) | omega) only [↓BM r1.1, m_nB hx, m_t0 r1.1, m_t1 r1.1, hf_1 r1.1 hb (show am_u2 J1 283 0 0 284 (7 + 5 * b) = 1 by rw [w283, e1.w]; exact hf1), e_clI, e_clV, e_clP, e_clIx, e_clVx, e_clPx, e_xt, Int.toNat_natCast, Int.reduceToNat, bz0, bz1, Nat.add_zero, decide_eq_false_iff_not, decide_eq_true_eq, Int.reduceEq, Nat.reduceEqDiff, Int.reduceLT, Int.reduceLE, not_true_eq_false, not_false_eq_true, eq_self, ↓reduceIte]
        try rfl
    · have hf0 : I 284 (7 + 5 * b) = 0 := by omega
      obtain ⟨h1, J1, ca, c1⟩ := c_remember (sc := sc) (d := d + 26) r B
      have s1 := ca.sh r.1
      have S := ca.2.2.2.2.1
      have cy := cty_of s1 isC_now
      obtain ⟨J2, g2, R2, p2⟩ := c_put (sc := sc) (d := d + 28) cy S.1 V hb (hi := 0)
      have V2 : WW (feW (I 284) b 0 0 0 0) := feW_w V hb (by omega) (by omega) (Or.inl rfl) (Or.inl rfl)
      obtain ⟨J3, g3, R3, p3⟩ := c_add (sc := sc) (d := d + 27) cy R2 V2 (x := (b : Int)) (k := 1) (f := -1) (hi := 0) R2.ye
      have V3 : WW (teW (feW (I 284) b 0 0 0 0) (b : Int) 1 (-1) 0) := teW_w V2
      have p4 := c_fences (sc := sc) (d := d + 28) cy R3 V3
      have t3 : T2 (I 284) (teW (feW (I 284) b 0 0 0 0) (b : Int) 1 (-1) 0) := (feW_t hb).tr teW_t
      refine pubA rfl r (x := sumF (teW (feW (I 284) b 0 0 0 0) (b : Int) 1 (-1) 0) 0) (h1 := h1) (J1 := J3) ?_ (ca.go (g2.tr g3) R3 V3 t3) (rows_go r t3.1) (fun J s e3 e4 e8 => ?_)
      · rw [q_X11_raise_0]
        simp (disch := first | assumption | exact Int.natCast_nonneg _ | decide) only [↓BO r.1, ↓BC r.c, c_nB hx, hx, th, hf0, c1, ↓BO s1, ↓BC cy, p2, p3, p4, e_clI, e_clV, e_clP, e_clIx, e_clVx, e_clPx, e_xt, Int.toNat_natCast, Int.reduceToNat, bz0, bz1, Nat.add_zero, decide_eq_false_iff_not, decide_eq_true_eq, Int.reduceEq, Nat.reduceEqDiff, Int.reduceLT, Int.reduceLE, not_true_eq_false, not_false_eq_true, eq_self, ↓reduceIte]
      · obtain ⟨K1, ⟨ma, k0⟩, m1⟩ := m_rem (sc := sc) (d := d + 28) r s e3 e4 e8
        have ek : K1 284 = I 284 := ma.2.2.2.2.1
        obtain ⟨K2, n1, n2, n3⟩ := m_isFence (sc := sc) (d := d + 27) (h := h1) (I := K1) s hb (ag := 0) (hi := 0) (ga := 0) (st := 0)
        rw [ek] at n2
        obtain ⟨K3, o1, o2, o3⟩ := m_tells (sc := sc) (d := d + 27) (h := h1) (I := K2) s n2 V2 (x := (b : Int)) (k := 1) (y := -1) (hi := 0)
        have sm := m_sumOfFences (sc := sc) (d := d + 26) (h := h1) (I := K3) s (by rw [o2]; exact V3) (k := 0) (by omega)
        rw [o2] at sm
        have hf2 := hf_0 (sc := sc) (d := d + 26) (h := h1) s hb (show ¬ am_u2 J 283 0 0 284 (7 + 5 * b) = 1 by rw [w283, e4]; omega)
        refine ⟨K3, ?_, (ma.go n1 n2).go o1 o2, ?_⟩
        · rw [q_X12_raise_0]
          simp (disch := first | assumption | exact Int.natCast_nonneg _ | decide) only [↓BM s, m_nB hx, m_t0 s, hf2, m1, n3, o3, sm, e_clI, e_clV, e_clP, e_clIx, e_clVx, e_clPx, e_xt, Int.toNat_natCast, Int.reduceToNat, bz0, bz1, Nat.add_zero, decide_eq_false_iff_not, decide_eq_true_eq, Int.reduceEq, Nat.reduceEqDiff, Int.reduceLT, Int.reduceLE, not_true_eq_false, not_false_eq_true, eq_self, ↓reduceIte]
        · rw [o1 283 (by decide) (by decide), n1 283 (by decide) (by decide)]
          exact k0
  · skip
    refine pubQ (x := 3) (v := 0) (v' := 0) r (CO.no (J := I) (by decide) ?_ (Same.rf I)) (fun h1 J1 r1 e1 => ?_) (fun h => absurd h (by decide))
    · rw [q_X11_raise_0]
      simp (disch := first | (simp (disch := omega) only [w32_id]; omega) | omega) only [c_nBx hx, hI_exI, e_clI, e_clV, e_clP, e_clIx, e_clVx, e_clPx, e_xt, Int.toNat_natCast, Int.reduceToNat, bz0, bz1, Nat.add_zero, decide_eq_false_iff_not, decide_eq_true_eq, Int.reduceEq, Nat.reduceEqDiff, Int.reduceLT, Int.reduceLE, not_true_eq_false, not_false_eq_true, eq_self, ↓reduceIte]
    · refine MO.thr ?_
      rw [q_X12_raise_0]
      simp (disch := first | (simp (disch := omega) only [w32_id]; omega) | omega) only [↓BM r1.1, m_nBx hx, m_t1 r1.1, e_clI, e_clV, e_clP, e_clIx, e_clVx, e_clPx, e_xt, Int.toNat_natCast, Int.reduceToNat, bz0, bz1, Nat.add_zero, decide_eq_false_iff_not, decide_eq_true_eq, Int.reduceEq, Nat.reduceEqDiff, Int.reduceLT, Int.reduceLE, not_true_eq_false, not_false_eq_true, eq_self, ↓reduceIte]
      try rfl
theorem goneW_g {j : Nat} (hj : j < 7 + 5 * b ∨ 7 + 5 * b + 5 ≤ j) : goneW w b j = w j := if_neg (by omega)
theorem goneW_v : goneW w b (7 + 5 * b) = 0 ∧ goneW w b (7 + 5 * b + 1) = 0 ∧ goneW w b (7 + 5 * b + 2) = 0 ∧ goneW w b (7 + 5 * b + 3) = 0 ∧ goneW w b (7 + 5 * b + 4) = 0 := ⟨if_pos (by omega), if_pos (by omega), if_pos (by omega), if_pos (by omega), if_pos (by omega)⟩
theorem goneW_w (V : WW w) (hb : b < 60) : WW (goneW w b) := V.chF (b := b) (fun j hj => goneW_g hj) hb (Or.inl goneW_v)
theorem goneW_t (hb : b < 60) : T2 w (goneW w b) := ⟨goneW_g (by omega), fun j hj => goneW_g (by omega)⟩
theorem m_isGone (s : Sh h) (hb : b < 60) : ∃ J, Mg I J ∧ J 284 = goneW (I 284) b ∧ Cl sc (d + 2) mX12_isGone [Vr (some 283), Vi (b : Int)] (hI h I) = some (.inl (Vx 0), hI h J) := by
  have hlt : ∀ k : Nat, k < 5 → ((7 + 5 * b + k : Nat) : Int) < 2329 := fun k hk => by omega
  have m : ∀ (k : Nat), k < 5 → ∀ (J : am_I), Cl sc (d + 1) mX12_at [Vi (b : Int), Vi (k : Int)] (hI h J) = some (.inl (Vi ((7 + 5 * b + k : Nat) : Int)), hI h J) := fun k hk J => by
    have := m_at (sc := sc) (d := d) (h := hI h J) (b := b) (k := (k : Int)) (by omega) (by omega)
    rwa [Int.toNat_natCast] at this
  obtain ⟨K, k1, k2⟩ := lpG (X := fun i (_ : Unit) J => Ru sc (d + 2) mX12_isGone 3 [Vr (some 283), Vi (b : Int), Vi (i : Int)] [] (hI h J)) (G := fun _ u => u) (K := fun i _ K => K = sr I 284 (fun j => if 7 + 5 * b ≤ j ∧ j < 7 + 5 * b + i then 0 else I 284 j)) (s0 := ()) (I := I) (by
    rw [show (fun j => if 7 + 5 * b ≤ j ∧ j < 7 + 5 * b + 0 then 0 else I 284 j) = I 284 from funext fun j => if_neg (by omega), sr_self]) (N := 5) (fun i _ K hi k => by
    subst k
    refine ⟨_, rfl, ?_⟩
    have hlt1 : (i : Int) < 5 := by omega
    have hlt2 := hlt i hi
    have m1 := m i hi
    have wn : w32 ((i : Int) + 1) = ((i + 1 : Nat) : Int) := w32_succ (by omega)
    try dsimp only
    rw [q_X12_isGone_3]
    simp (disch := first | assumption | exact Int.natCast_nonneg _ | decide) only [↓BM s, hlt1, hlt2, m1, u2_sr, wn, e_clI, e_clV, e_clP, e_clIx, e_clVx, e_clPx, e_xt, Int.toNat_natCast, Int.reduceToNat, bz0, bz1, Nat.add_zero, decide_eq_false_iff_not, decide_eq_true_eq, Int.reduceEq, Nat.reduceEqDiff, Int.reduceLT, Int.reduceLE, not_true_eq_false, not_false_eq_true, eq_self, ↓reduceIte]
    refine congrArg (fun C => Ru sc (d + 2) mX12_isGone 3 [Vr (some 283), Vi (b : Int), Vi ((i + 1 : Nat) : Int)] [] (hI h (sr I 284 C))) (funext fun j => ?_)
    unfold up
    try dsimp only
    by_cases e : j = 7 + 5 * b + i
    · rw [if_pos e, if_pos (by omega)]
    · rw [if_neg e]
      by_cases e2 : 7 + 5 * b ≤ j ∧ j < 7 + 5 * b + i
      · rw [if_pos e2, if_pos (by omega)]
      · rw [if_neg e2, if_neg (by omega)])
  refine ⟨K, fun p p1 p2 => ?_, ?_, ?_⟩
  · rw [k1, sr_ne p1]
  · rw [k1, sr_q]
    rfl
  · rw [q_X12_isGone_0]
    refine k2.trans ?_
    try dsimp only
    rw [q_X12_isGone_3, if_neg (by omega)]
theorem p_pull (r : Rel h I) (B : BBo I 11) {x : Int} : Pub h I (Cl sc (d + 30) mX11_pull [Vr (some 0), Vi x]) (Cl sc (d + 30) mX12_pull [Vr (some 283), Vi x]) cdB := by
  have R := r.R
  have V := r.V
  by_cases hx : 0 ≤ x ∧ x < 60
  · obtain ⟨b, rfl⟩ : ∃ b : Nat, x = b := ⟨x.toNat, by omega⟩
    have hb : b < 60 := by omega
    have hb6 : (b : Int) < 60 := hx.2
    have hf := V.fe hb
    by_cases hf1 : I 284 (7 + 5 * b) = 1
    · obtain ⟨h1, J1, ca, c1⟩ := c_remember (sc := sc) (d := d + 26) r B
      have s1 := ca.sh r.1
      have S := ca.2.2.2.2.1
      have cy := cty_of s1 isC_now
      have hi := S.1.hi hb hf1
      have V2 : WW (goneW (I 284) b) := goneW_w V hb
      have R2 : CRep (am_u2 J1 (11 + 1) b 0) 11 (goneW (I 284) b) := by
        refine S.1.chF (b := b) V (u2_o (by decide)) (fun k h1 h2 => u2_o (by omega)) (fun k x h1 h2 h3 => u2_j h3) (fun j hj => goneW_g hj) hb ?_
        obtain ⟨e0, e1, e2, e3, e4⟩ := goneW_v (w := I 284) (b := b)
        unfold FR
        rw [e0]
        exact ⟨u2_same, fun e => absurd e (by decide)⟩
      have g2 : Cg 11 J1 (am_u2 J1 (11 + 1) b 0) := fun p hp _ => u2_o (by omega)
      obtain ⟨J3, g3, R3, p3⟩ := c_add (sc := sc) (d := d + 27) cy R2 V2 (x := (b : Int)) (k := 2) (f := -1) (hi := I 284 (7 + 5 * b + 2)) R2.ye
      have V3 : WW (teW (goneW (I 284) b) (b : Int) 2 (-1) (I 284 (7 + 5 * b + 2))) := teW_w V2
      have t3 : T2 (I 284) (teW (goneW (I 284) b) (b : Int) 2 (-1) (I 284 (7 + 5 * b + 2))) := (goneW_t hb).tr teW_t
      refine pubA rfl r (x := I 284 (7 + 5 * b + 2)) (h1 := h1) (J1 := J3) ?_ (ca.go (g2.tr g3) R3 V3 t3) (rows_go r t3.1) (fun J s e3 e4 e8 => ?_)
      · rw [q_X11_pull_0]
        simp (disch := first | assumption | exact Int.natCast_nonneg _ | decide) only [↓BO r.1, c_nB hx, c_nE r.1 R hb hf1, c1, ↓BO s1, ↓BC cy, hx, hi, true_or, p3, e_clI, e_clV, e_clP, e_clIx, e_clVx, e_clPx, e_xt, Int.toNat_natCast, Int.reduceToNat, bz0, bz1, Nat.add_zero, decide_eq_false_iff_not, decide_eq_true_eq, Int.reduceEq, Nat.reduceEqDiff, Int.reduceLT, Int.reduceLE, not_true_eq_false, not_false_eq_true, eq_self, ↓reduceIte]
      · obtain ⟨K1, ⟨ma, k0⟩, m1⟩ := m_rem (sc := sc) (d := d + 28) r s e3 e4 e8
        have ek : K1 284 = I 284 := ma.2.2.2.2.1
        have mo := m_of (sc := sc) (d := d + 27) (h := h1) (I := K1) s (b := b) (k := 2) (by omega) (by omega)
        rw [ek] at mo
        have mo : Cl sc (d + 29) mX12_of [Vr (some 283), Vi (b : Int), Vi 2] (hI h1 K1) = some (.inl (Vi (I 284 (7 + 5 * b + 2))), hI h1 K1) := mo
        obtain ⟨K2, n1, n2, n3⟩ := m_isGone (sc := sc) (d := d + 27) (h := h1) (I := K1) s hb
        rw [ek] at n2
        obtain ⟨K3, o1, o2, o3⟩ := m_tells (sc := sc) (d := d + 27) (h := h1) (I := K2) s n2 V2 (x := (b : Int)) (k := 2) (y := -1) (hi := I 284 (7 + 5 * b + 2))
        have cn := m_can (sc := sc) (d := d + 25) (h := h1) (J := J) s hx (by rw [e4]; exact hf1)
        refine ⟨K3, ?_, (ma.go n1 n2).go o1 o2, ?_⟩
        · rw [q_X12_pull_0]
          simp (disch := first | assumption | exact Int.natCast_nonneg _ | decide) only [↓BM s, cn, m1, mo, n3, o3, e_clI, e_clV, e_clP, e_clIx, e_clVx, e_clPx, e_xt, Int.toNat_natCast, Int.reduceToNat, bz0, bz1, Nat.add_zero, decide_eq_false_iff_not, decide_eq_true_eq, Int.reduceEq, Nat.reduceEqDiff, Int.reduceLT, Int.reduceLE, not_true_eq_false, not_false_eq_true, eq_self, ↓reduceIte]
        · rw [o1 283 (by decide) (by decide), n1 283 (by decide) (by decide)]
          exact k0
    · refine pubQ (x := 5) (v := 0) (v' := 0) r (CO.no (J := I) (by decide) ?_ (Same.rf I)) (fun h1 J1 r1 e1 => ?_) (fun h => absurd h (by decide))
      · rw [q_X11_pull_0]
        simp (disch := first | (simp (disch := omega) only [w32_id]; omega) | omega) only [↓BO r.1, c_nB hx, c_nEx r.1 R hb (by omega), hI_exI, e_clI, e_clV, e_clP, e_clIx, e_clVx, e_clPx, e_xt, Int.toNat_natCast, Int.reduceToNat, bz0, bz1, Nat.add_zero, decide_eq_false_iff_not, decide_eq_true_eq, Int.reduceEq, Nat.reduceEqDiff, Int.reduceLT, Int.reduceLE, not_true_eq_false, not_false_eq_true, eq_self, ↓reduceIte]
      · refine MO.thr ?_
        rw [q_X12_pull_0]
        simp (disch := first | (simp (disch := omega) only [w32_id]; omega) | omega) only [↓BM r1.1, m_can2 (J := J1) r1.1 hx (by rw [e1.w]; exact hf1), e_clI, e_clV, e_clP, e_clIx, e_clVx, e_clPx, e_xt, Int.toNat_natCast, Int.reduceToNat, bz0, bz1, Nat.add_zero, decide_eq_false_iff_not, decide_eq_true_eq, Int.reduceEq, Nat.reduceEqDiff, Int.reduceLT, Int.reduceLE, not_true_eq_false, not_false_eq_true, eq_self, ↓reduceIte]
        try rfl
  · refine pubQ (x := 3) (v := 0) (v' := 0) r (CO.no (J := I) (by decide) ?_ (Same.rf I)) (fun h1 J1 r1 e1 => ?_) (fun h => absurd h (by decide))
    · rw [q_X11_pull_0]
      simp (disch := first | (simp (disch := omega) only [w32_id]; omega) | omega) only [↓BO r.1, c_nBx hx, hI_exI, e_clI, e_clV, e_clP, e_clIx, e_clVx, e_clPx, e_xt, Int.toNat_natCast, Int.reduceToNat, bz0, bz1, Nat.add_zero, decide_eq_false_iff_not, decide_eq_true_eq, Int.reduceEq, Nat.reduceEqDiff, Int.reduceLT, Int.reduceLE, not_true_eq_false, not_false_eq_true, eq_self, ↓reduceIte]
    · refine MO.thr ?_
      rw [q_X12_pull_0]
      simp (disch := first | (simp (disch := omega) only [w32_id]; omega) | omega) only [↓BM r1.1, m_can1 (J := J1) r1.1 hx, e_clI, e_clV, e_clP, e_clIx, e_clVx, e_clPx, e_xt, Int.toNat_natCast, Int.reduceToNat, bz0, bz1, Nat.add_zero, decide_eq_false_iff_not, decide_eq_true_eq, Int.reduceEq, Nat.reduceEqDiff, Int.reduceLT, Int.reduceLE, not_true_eq_false, not_false_eq_true, eq_self, ↓reduceIte]
      try rfl
end
