/-! PULLS, ONE -/
theorem adM1_b {w : am_Wd} {su pu t : Int} {b : Nat} : adM w su pu 1 t b = 0 ∨ adM w su pu 1 t b = 1 := by
  unfold adM
  rw [if_neg (by decide), if_pos rfl]
  split
  · exact Or.inl rfl
  · exact Or.inr rfl
section
variable {sc : Nat × (Nat → Int)} {d a : Nat} {h : am_H} {I : am_I} {w : am_Wd}
theorem c_pulling (s : Sh h) (c : Cty h a) (ha : a + 11 < 48) (R : CRep I a w) (V : WW w) {t : Int} {x y : Nat} (hx : x < 36) (hy : y < 36) : ∃ J F, (Ks I J ∧ Lst pl (adM w (-1) (-1) 1 t) (ini x) F) ∧ Cl sc (d + 6) mX7_pulling [Vr (some 53), Vr (some a), Vi t, Vi (x : Int), Vi (y : Int)] (hI h I) = some (.inl (Vi (if F y < 1000000 then F y else -1)), hI h J) := by
  have hr := fo_run0 (F := fun i C => Ru sc (d + 6) mX7_pulling 3 [Vr (some 53), Vr (some a), Vi t, Vi (x : Int), Vi (y : Int), Vi (i : Int)] [] (hI h (sr I 54 C))) (f := fun i C => up C i (adM w (-1) (-1) 1 t i)) (N := 60) (s0 := I 54) (fun i C hi => by
    have hlt : (i : Int) < 60 := by omega
    have R2 : CRep (sr I 54 C) a w := R.eq fun k hk => sr_ne (by omega)
    try dsimp only
    unfold adM
    rw [q_X7_pulling_3]
    cases ho : opW w i t
    · simp (disch := first | (simp (disch := omega) only [w32_id]; omega) | omega) only [↓BW s, ↓BC c, hlt, c_isOpen c R2 V hi, ho, u2_sr, w32_succ, opS_no, Bool.false_eq_true, e_clI, e_clV, e_clP, e_clIx, e_clVx, e_clPx, e_xt, Int.toNat_natCast, Int.reduceToNat, bz0, bz1, Nat.add_zero, decide_eq_false_iff_not, decide_eq_true_eq, Int.reduceEq, Nat.reduceEqDiff, Int.reduceLT, Int.reduceLE, not_true_eq_false, not_false_eq_true, ↓reduceIte]
    · simp (disch := first | (simp (disch := omega) only [w32_id]; omega) | omega) only [↓BW s, ↓BC c, hlt, c_isOpen c R2 V hi, ho, u2_sr, w32_succ, opS_no, Bool.true_eq_false, e_clI, e_clV, e_clP, e_clIx, e_clVx, e_clPx, e_xt, Int.toNat_natCast, Int.reduceToNat, bz0, bz1, Nat.add_zero, decide_eq_false_iff_not, decide_eq_true_eq, Int.reduceEq, Nat.reduceEqDiff, Int.reduceLT, Int.reduceLE, not_true_eq_false, not_false_eq_true, ↓reduceIte])
  rw [fo_row] at hr
  try dsimp only at hr
  rw [sr_self] at hr
  have e54 : ∀ b, b < 60 → (sr I 54 (fun u => if u < 60 then adM w (-1) (-1) 1 t u else I 54 u)) 54 b = (if adM w (-1) (-1) 1 t b = 1000000 then -1 else adM w (-1) (-1) 1 t b) := fun b hb => by
    have := adM1_b (w := w) (su := -1) (pu := -1) (t := t) (b := b)
    rw [sr_q, if_neg (show ¬ adM w (-1) (-1) 1 t b = 1000000 by omega)]
    exact if_pos hb
  generalize hJ : sr I 54 (fun u => if u < 60 then adM w (-1) (-1) 1 t u else I 54 u) = J at hr e54
  have hab : ∀ b, b < 60 → 0 ≤ adM w (-1) (-1) 1 t b ∧ (adM w (-1) (-1) 1 t b = 1000000 ∨ adM w (-1) (-1) 1 t b ≤ 1000) := fun b hb => by
    have := adM1_b (w := w) (su := -1) (pu := -1) (t := t) (b := b)
    omega
  obtain ⟨F, l1, l2, l3⟩ := c_spreadL (sc := sc) (d := d) (I := J) s (s.T 55 rfl) (n := 49) (by omega) (by omega) (by omega) (okC_of e54 hab) hx
  have kJ : Ks I J := by rw [← hJ]; exact (Ks.rf I).sr (by omega)
  refine ⟨sr J 55 F, F, ⟨kJ.sr (by omega), l1.cg (adC_of e54 (fun b hb => (hab b hb).1))⟩, ?_⟩
  rw [q_X7_pulling_0]
  refine hr.trans ?_
  have hlt : ¬ ((60 : Nat) : Int) < 60 := by omega
  rw [q_X7_pulling_3]
  simp (disch := first | (simp (disch := omega) only [w32_id]; omega) | omega) only [↓BW s, hlt, l3, sr_q, c_orNone7, e_clI, e_clV, e_clP, e_clIx, e_clVx, e_clPx, e_xt, Int.toNat_natCast, Int.reduceToNat, bz0, bz1, Nat.add_zero, decide_eq_false_iff_not, decide_eq_true_eq, Int.reduceEq, Nat.reduceEqDiff, Int.reduceLT, Int.reduceLE, not_true_eq_false, not_false_eq_true, ↓reduceIte]
theorem c_chargeLadders (s : Sh h) (c : Cty h a) (ha : a + 11 < 48) (R : CRep I a w) (V : WW w) : ∃ J, (Ks I J ∧ (∀ p, p ≠ 54 → J p = I p) ∧ ∀ b, b < 60 → J 54 b = adM w (-1) (-1) 3 0 b) ∧ Cl sc (d + 3) mX7_chargeLadders [Vr (some 53), Vr (some a)] (hI h I) = some (.inl (Vx 0), hI h J) := by
  have hr := fo_run0 (F := fun i C => Ru sc (d + 3) mX7_chargeLadders 3 [Vr (some 53), Vr (some a), Vi (i : Int)] [] (hI h (sr I 54 C))) (f := fun i C => up C i (adM w (-1) (-1) 3 0 i)) (N := 60) (s0 := I 54) (fun i C hi => by
    have hlt : (i : Int) < 60 := by omega
    have R2 : CRep (sr I 54 C) a w := R.eq fun k hk => sr_ne (by omega)
    try dsimp only
    unfold adM
    rw [q_X7_chargeLadders_3]
    simp (disch := first | (simp (disch := omega) only [w32_id]; omega) | omega) only [↓BW s, ↓BC c, hlt, c_ladder c R2 V hi, u2_sr, w32_succ, opS_no, e_clI, e_clV, e_clP, e_clIx, e_clVx, e_clPx, e_xt, Int.toNat_natCast, Int.reduceToNat, bz0, bz1, Nat.add_zero, decide_eq_false_iff_not, decide_eq_true_eq, Int.reduceEq, Nat.reduceEqDiff, Int.reduceLT, Int.reduceLE, not_true_eq_false, not_false_eq_true, ↓reduceIte])
  rw [fo_row] at hr
  try dsimp only at hr
  rw [sr_self] at hr
  refine ⟨sr I 54 (fun u => if u < 60 then adM w (-1) (-1) 3 0 u else I 54 u), ⟨(Ks.rf I).sr (by omega), fun p hp => sr_ne hp, fun b hb => ?_⟩, ?_⟩
  · rw [sr_q]
    exact if_pos hb
  · rw [q_X7_chargeLadders_0]
    refine hr.trans ?_
    rw [q_X7_chargeLadders_3, if_neg (by omega)]
theorem adM3_b {w : am_Wd} (V : WW w) {su pu t : Int} {b : Nat} (hb : b < 60) : 0 ≤ adM w su pu 3 t b ∧ adM w su pu 3 t b ≤ 999 := by
  have := adM_b V (su := su) (pu := pu) (way := 3) (t := t) hb
  exact ⟨this.1, this.2.2 (by decide)⟩
theorem e54_3 {w : am_Wd} (V : WW w) {J : am_I} (e : ∀ b, b < 60 → J 54 b = adM w (-1) (-1) 3 0 b) : ∀ b, b < 60 → J 54 b = (if adM w (-1) (-1) 3 0 b = 1000000 then -1 else adM w (-1) (-1) 3 0 b) := fun b hb => by
  have := adM3_b V (su := -1) (pu := -1) (t := 0) hb
  rw [e b hb, if_neg (by omega)]
theorem hab_3 {w : am_Wd} (V : WW w) : ∀ b, b < 60 → 0 ≤ adM w (-1) (-1) 3 0 b ∧ (adM w (-1) (-1) 3 0 b = 1000000 ∨ adM w (-1) (-1) 3 0 b ≤ 1000) := fun b hb => by
  have := adM3_b V (su := -1) (pu := -1) (t := 0) hb
  omega
theorem c_laddersBetween (s : Sh h) (c : Cty h a) (ha : a + 11 < 48) (R : CRep I a w) (V : WW w) {x y : Nat} (hx : x < 36) (hy : y < 36) : ∃ J F, (Ks I J ∧ Lst pl (adM w (-1) (-1) 3 0) (ini x) F) ∧ Cl sc (d + 6) mX7_laddersBetween [Vr (some 53), Vr (some a), Vi (x : Int), Vi (y : Int)] (hI h I) = some (.inl (Vi (if F y < 1000000 then F y else -1)), hI h J) := by
  obtain ⟨J, ⟨j1, j2, j3⟩, j4⟩ := c_chargeLadders (sc := sc) (d := d + 2) s c ha R V
  obtain ⟨F, l1, l2, l3⟩ := c_spreadL (sc := sc) (d := d) (I := J) s (s.T 55 rfl) (n := 49) (by omega) (by omega) (by omega) (okC_of (e54_3 V j3) (hab_3 V)) hx
  refine ⟨sr J 55 F, F, ⟨j1.sr (by omega), l1.cg (adC_of (e54_3 V j3) (fun b hb => (hab_3 V b hb).1))⟩, ?_⟩
  rw [q_X7_laddersBetween_0]
  simp (disch := first | (simp (disch := omega) only [w32_id]; omega) | omega) only [↓BW s, j4, l3, sr_q, c_orNone7, e_clI, e_clV, e_clP, e_clIx, e_clVx, e_clPx, e_xt, Int.toNat_natCast, Int.reduceToNat, bz0, bz1, Nat.add_zero, decide_eq_false_iff_not, decide_eq_true_eq, Int.reduceEq, Nat.reduceEqDiff, Int.reduceLT, Int.reduceLE, not_true_eq_false, not_false_eq_true, ↓reduceIte]
/-- no cell is far over borders of 999 at most -/
theorem Lst.near {ad F : Nat → Int} {x : Nat} (L : Lst pl ad (ini x) F) (hA : ∀ b, b < 60 → ad b ≤ 999) (hx : x < 36) {y : Nat} (hy : y < 36) : F y < 1000000 := by
  have h0 : F x ≤ 0 := by
    have := L.2.1 x hx
    unfold ini at this
    rw [if_pos rfl] at this
    exact this
  have h1 := nearG (A := 999) L.1 (fun b z hb => Or.inl (by have := hA b hb; rw [pl_e]; omega)) (by omega) hx h0 _ y hy rfl
  have h2 := (ap_b y hy x hx).1
  omega
theorem p_pulls (r : Rel h I) {x y z : Int} : Pub h I (Cl sc (d + 30) mX11_pulls [Vr (some 0), Vi x, Vi y, Vi z]) (Cl sc (d + 30) mX12_pulls [Vr (some 283), Vi x, Vi y, Vi z]) cdB := by
  have R := r.R
  have V := r.V
  by_cases hxy : (0 ≤ x ∧ x < 36) ∧ 0 ≤ y ∧ y < 36
  · obtain ⟨hx, hy⟩ := hxy
    obtain ⟨b, rfl⟩ : ∃ b : Nat, x = b := ⟨x.toNat, by omega⟩
    obtain ⟨c, rfl⟩ : ∃ c : Nat, y = c := ⟨y.toNat, by omega⟩
    have hb : b < 36 := by omega
    have hc : c < 36 := by omega
    by_cases hz : 0 ≤ z ∧ z ≤ 999
    · obtain ⟨J, F, ⟨k1, k2⟩, k3⟩ := c_pulling (sc := sc) (d := d + 23) r.1 r.c (by omega) R V (t := z) hb hc
      have hn := k2.near (fun b hb => by have := adM1_b (w := I 284) (su := -1) (pu := -1) (t := z) (b := b); omega) hb hc
      refine pubQ (x := 0) (v := F c) (v' := F c) r (CO.ok (J := J) ?_ k1.sm) (fun h1 J1 r1 e1 => ?_) (fun _ => rfl)
      · rw [q_X11_pulls_0]
        simp (disch := first | (simp (disch := omega) only [w32_id]; omega) | omega) only [↓BO r.1, ↓BC r.c, ↓BW r.1, c_nC hx, c_nC hy, c_nH hz, k3, hn, e_clI, e_clV, e_clP, e_clIx, e_clVx, e_clPx, e_xt, Int.toNat_natCast, Int.reduceToNat, bz0, bz1, Nat.add_zero, decide_eq_false_iff_not, decide_eq_true_eq, Int.reduceEq, Nat.reduceEqDiff, Int.reduceLT, Int.reduceLE, not_true_eq_false, not_false_eq_true, ↓reduceIte]
      · have V2 : WW (am_u2 J1 283 0 0 284) := by rw [w283, e1.w]; exact V
        obtain ⟨G, g1, g2⟩ := m_from (sc := sc) (d := d + 22) (I := am_u2 J1 283 0 0) r1.1 V2 hb (way := 1) (t := z)
        rw [w283, e1.w, u2_j (by decide), u2_j (by decide), r1.2.2.2.2.2.1, r1.2.2.2.2.2.2.1, opv_pl (by decide)] at g1
        have e := k2.uni g1 c hc
        refine MO.okJ (J := sr (am_u2 J1 283 0 0) 292 G) ?_ (s283.tr sr292) (by rw [sr_ne (by decide)]; exact u2_same)
        rw [q_X12_pulls_0]
        simp (disch := first | (simp (disch := omega) only [w32_id]; omega) | omega) only [↓BM r1.1, m_nCs r1.1 hx hy hz, g2, sr_q, e_clI, e_clV, e_clP, e_clIx, e_clVx, e_clPx, e_xt, Int.toNat_natCast, Int.reduceToNat, bz0, bz1, Nat.add_zero, decide_eq_false_iff_not, decide_eq_true_eq, Int.reduceEq, Nat.reduceEqDiff, Int.reduceLT, Int.reduceLE, not_true_eq_false, not_false_eq_true, ↓reduceIte]
        rw [e]
    · refine pubQ (x := 1) (v := 0) (v' := 0) r (CO.no (J := I) (by decide) ?_ (Same.rf I)) (fun h1 J1 r1 e1 => ?_) (fun h => absurd h (by decide))
      · rw [q_X11_pulls_0]
        simp (disch := first | (simp (disch := omega) only [w32_id]; omega) | omega) only [c_nC hx, c_nC hy, c_nHx hz, hI_exI, e_clI, e_clV, e_clP, e_clIx, e_clVx, e_clPx, e_xt, Int.toNat_natCast, Int.reduceToNat, bz0, bz1, Nat.add_zero, decide_eq_false_iff_not, decide_eq_true_eq, Int.reduceEq, Nat.reduceEqDiff, Int.reduceLT, Int.reduceLE, not_true_eq_false, not_false_eq_true, ↓reduceIte]
      · refine MO.thr ?_
        rw [q_X12_pulls_0]
        simp (disch := first | (simp (disch := omega) only [w32_id]; omega) | omega) only [↓BM r1.1, m_nCsy r1.1 hx hy hz, e_clI, e_clV, e_clP, e_clIx, e_clVx, e_clPx, e_xt, Int.toNat_natCast, Int.reduceToNat, bz0, bz1, Nat.add_zero, decide_eq_false_iff_not, decide_eq_true_eq, Int.reduceEq, Nat.reduceEqDiff, Int.reduceLT, Int.reduceLE, not_true_eq_false, not_false_eq_true, ↓reduceIte]
        try rfl
  · refine pubQ (x := 3) (v := 0) (v' := 0) r (CO.no (J := I) (by decide) ?_ (Same.rf I)) (fun h1 J1 r1 e1 => ?_) (fun h => absurd h (by decide))
    · rw [q_X11_pulls_0]
      by_cases hx : 0 ≤ x ∧ x < 36
      · simp (disch := first | (simp (disch := omega) only [w32_id]; omega) | omega) only [c_nC hx, c_nCx (fun q => hxy ⟨hx, q⟩), hI_exI, e_clI, e_clV, e_clP, e_clIx, e_clVx, e_clPx, e_xt, Int.toNat_natCast, Int.reduceToNat, bz0, bz1, Nat.add_zero, decide_eq_false_iff_not, decide_eq_true_eq, Int.reduceEq, Nat.reduceEqDiff, Int.reduceLT, Int.reduceLE, not_true_eq_false, not_false_eq_true, ↓reduceIte]
      · simp (disch := first | (simp (disch := omega) only [w32_id]; omega) | omega) only [c_nCx hx, hI_exI, e_clI, e_clV, e_clP, e_clIx, e_clVx, e_clPx, e_xt, Int.toNat_natCast, Int.reduceToNat, bz0, bz1, Nat.add_zero, decide_eq_false_iff_not, decide_eq_true_eq, Int.reduceEq, Nat.reduceEqDiff, Int.reduceLT, Int.reduceLE, not_true_eq_false, not_false_eq_true, ↓reduceIte]
    · refine MO.thr ?_
      rw [q_X12_pulls_0]
      simp (disch := first | (simp (disch := omega) only [w32_id]; omega) | omega) only [↓BM r1.1, m_nCsx r1.1 hxy, e_clI, e_clV, e_clP, e_clIx, e_clVx, e_clPx, e_xt, Int.toNat_natCast, Int.reduceToNat, bz0, bz1, Nat.add_zero, decide_eq_false_iff_not, decide_eq_true_eq, Int.reduceEq, Nat.reduceEqDiff, Int.reduceLT, Int.reduceLE, not_true_eq_false, not_false_eq_true, ↓reduceIte]
      try rfl
theorem p_one (r : Rel h I) {x y : Int} : Pub h I (Cl sc (d + 30) mX11_one [Vr (some 0), Vi x, Vi y]) (Cl sc (d + 30) mX12_one [Vr (some 283), Vi x, Vi y]) cdA := by
  have R := r.R
  have V := r.V
  by_cases hxy : (0 ≤ x ∧ x < 36) ∧ 0 ≤ y ∧ y < 36
  · obtain ⟨hx, hy⟩ := hxy
    obtain ⟨b, rfl⟩ : ∃ b : Nat, x = b := ⟨x.toNat, by omega⟩
    obtain ⟨c, rfl⟩ : ∃ c : Nat, y = c := ⟨y.toNat, by omega⟩
    have hb : b < 36 := by omega
    have hc : c < 36 := by omega
    obtain ⟨J, F, ⟨k1, k2⟩, k3⟩ := c_laddersBetween (sc := sc) (d := d + 23) r.1 r.c (by omega) R V hb hc
    have hn := k2.near (fun b hb => (adM3_b V hb).2) hb hc
    refine pubQ (x := 0) (v := F c) (v' := F c) r (CO.ok (J := J) ?_ k1.sm) (fun h1 J1 r1 e1 => ?_) (fun _ => rfl)
    · rw [q_X11_one_0]
      simp (disch := first | (simp (disch := omega) only [w32_id]; omega) | omega) only [↓BO r.1, ↓BC r.c, ↓BW r.1, c_nC hx, c_nC hy, k3, hn, e_clI, e_clV, e_clP, e_clIx, e_clVx, e_clPx, e_xt, Int.toNat_natCast, Int.reduceToNat, bz0, bz1, Nat.add_zero, decide_eq_false_iff_not, decide_eq_true_eq, Int.reduceEq, Nat.reduceEqDiff, Int.reduceLT, Int.reduceLE, not_true_eq_false, not_false_eq_true, ↓reduceIte]
    · have V2 : WW (am_u2 J1 283 0 0 284) := by rw [w283, e1.w]; exact V
      obtain ⟨G, g1, g2⟩ := m_from (sc := sc) (d := d + 22) (I := am_u2 J1 283 0 0) r1.1 V2 hb (way := 3) (t := 0)
      rw [w283, e1.w, u2_j (by decide), u2_j (by decide), r1.2.2.2.2.2.1, r1.2.2.2.2.2.2.1, opv_pl (by decide)] at g1
      have e := k2.uni g1 c hc
      refine MO.okJ (J := sr (am_u2 J1 283 0 0) 292 G) ?_ (s283.tr sr292) (by rw [sr_ne (by decide)]; exact u2_same)
      rw [q_X12_one_0]
      have hz : (0 : Int) ≤ 0 ∧ (0 : Int) ≤ 999 := by omega
      simp (disch := first | (simp (disch := omega) only [w32_id]; omega) | omega) only [↓BM r1.1, m_nCs r1.1 hx hy hz, g2, sr_q, e_clI, e_clV, e_clP, e_clIx, e_clVx, e_clPx, e_xt, Int.toNat_natCast, Int.reduceToNat, bz0, bz1, Nat.add_zero, decide_eq_false_iff_not, decide_eq_true_eq, Int.reduceEq, Nat.reduceEqDiff, Int.reduceLT, Int.reduceLE, not_true_eq_false, not_false_eq_true, ↓reduceIte]
      rw [e]
  · refine pubQ (x := 3) (v := 0) (v' := 0) r (CO.no (J := I) (by decide) ?_ (Same.rf I)) (fun h1 J1 r1 e1 => ?_) (fun h => absurd h (by decide))
    · rw [q_X11_one_0]
      by_cases hx : 0 ≤ x ∧ x < 36
      · simp (disch := first | (simp (disch := omega) only [w32_id]; omega) | omega) only [c_nC hx, c_nCx (fun q => hxy ⟨hx, q⟩), hI_exI, e_clI, e_clV, e_clP, e_clIx, e_clVx, e_clPx, e_xt, Int.toNat_natCast, Int.reduceToNat, bz0, bz1, Nat.add_zero, decide_eq_false_iff_not, decide_eq_true_eq, Int.reduceEq, Nat.reduceEqDiff, Int.reduceLT, Int.reduceLE, not_true_eq_false, not_false_eq_true, ↓reduceIte]
      · simp (disch := first | (simp (disch := omega) only [w32_id]; omega) | omega) only [c_nCx hx, hI_exI, e_clI, e_clV, e_clP, e_clIx, e_clVx, e_clPx, e_xt, Int.toNat_natCast, Int.reduceToNat, bz0, bz1, Nat.add_zero, decide_eq_false_iff_not, decide_eq_true_eq, Int.reduceEq, Nat.reduceEqDiff, Int.reduceLT, Int.reduceLE, not_true_eq_false, not_false_eq_true, ↓reduceIte]
    · refine MO.thr ?_
      rw [q_X12_one_0]
      simp (disch := first | (simp (disch := omega) only [w32_id]; omega) | omega) only [↓BM r1.1, m_nCsx r1.1 hxy, e_clI, e_clV, e_clP, e_clIx, e_clVx, e_clPx, e_xt, Int.toNat_natCast, Int.reduceToNat, bz0, bz1, Nat.add_zero, decide_eq_false_iff_not, decide_eq_true_eq, Int.reduceEq, Nat.reduceEqDiff, Int.reduceLT, Int.reduceLE, not_true_eq_false, not_false_eq_true, ↓reduceIte]
      try rfl
end
