/-! MEET, LOSES, LAND -/
/-- only the row of costs differs -/
def Fr (I J : am_I) : Prop := ∀ p, p ≠ 292 → J p = I p
theorem Fr.rf (I : am_I) : Fr I I := fun _ _ => rfl
theorem Fr.tr {I J K : am_I} (h1 : Fr I J) (h2 : Fr J K) : Fr I K := fun p hp => (h2 p hp).trans (h1 p hp)
theorem Fr.sm {I J : am_I} (h : Fr I J) : Same I J := fun k j hk => by rw [h k (fun x => hk (by unfold scr; omega))]
theorem opE_f {w : am_Wd} {t su : Int} : opE w t su = fun b => opS w su (-1) b t := by funext b; exact opE_S.symm
section
variable {sc : Nat × (Nat → Int)} {d a : Nat} {h : am_H} {I J : am_I} {w : am_Wd}
theorem c_comes (s : Sh h) (c : Cty h a) (ha : a + 11 < 48) (R : CRep I a w) (V : WW w) {f g : Nat} (hf : f < 6) (hg : g < 6) : ∃ J b, (Ps I J ∧ (b = true ↔ conn lc mc (fun b => opS w (-1) (-1) b (w (307 + 4 * f + 1))) 60 (w (307 + 4 * f)).toNat (w (307 + 4 * g)).toNat)) ∧ Cl sc (d + 3) mX6_comesHomeTo [Vr (some 124), Vr (some a), Vi (f : Int), Vi (g : Int)] (hI h I) = some (.inl (Vi (bz b)), hI h J) := by
  have hv := V.fm hf
  have hv2 := V.fm hg
  obtain ⟨hm, hh⟩ : ∃ hm : Nat, w (307 + 4 * f) = hm := ⟨(w (307 + 4 * f)).toNat, by omega⟩
  obtain ⟨hn, hh2⟩ : ∃ hn : Nat, w (307 + 4 * g) = hn := ⟨(w (307 + 4 * g)).toNat, by omega⟩
  have hm36 : hm < 36 := by omega
  have hn36 : hn < 36 := by omega
  obtain ⟨J, lb, ⟨k1, k2⟩, k3⟩ := c_ofCells (sc := sc) (d := d) (t := w (307 + 4 * f + 1)) (x := -1) s c ha R V
  have R2 : CRep J a w := k1.ks.c (by omega) R
  have h1 := R.cl hf
  have h2 := R2.ho hf
  have h3 := R2.ho hg
  have k4 := c_areTogether (sc := sc) (d := d + 1) s k2 (by omega) hm36 hn36
  refine ⟨J, decide (lb hm = lb hn), ⟨k1, ?_⟩, ?_⟩
  · rw [hh, hh2, Int.toNat_natCast, Int.toNat_natCast, decide_eq_true_eq, ← opE_f]
    exact k2.1.2 hm hn hm36 hn36
  · rw [q_X6_comesHomeTo_0]
    simp (disch := first | (simp (disch := omega) only [w32_id]; omega) | omega) only [↓BN s, ↓BC c, ↓BP s, h1, k3, h2, h3, hh, hh2, k4, e_ret1 (bz01 _), e_clI, e_clV, e_clP, e_clIx, e_clVx, e_clPx, e_xt, Int.toNat_natCast, Int.reduceToNat, bz0, bz1, Nat.add_zero, decide_eq_false_iff_not, decide_eq_true_eq, Int.reduceEq, Nat.reduceEqDiff, Int.reduceLT, Int.reduceLE, not_true_eq_false, not_false_eq_true, eq_self, ↓reduceIte]
theorem c_doMeet (s : Sh h) (c : Cty h a) (ha : a + 11 < 48) (R : CRep I a w) (V : WW w) {f g : Nat} (hf : f < 6) (hg : g < 6) : ∃ J b, (Ps I J ∧ (b = true ↔ (conn lc mc (fun b => opS w (-1) (-1) b (w (307 + 4 * f + 1))) 60 (w (307 + 4 * f)).toNat (w (307 + 4 * g)).toNat ∧ conn lc mc (fun b => opS w (-1) (-1) b (w (307 + 4 * g + 1))) 60 (w (307 + 4 * g)).toNat (w (307 + 4 * f)).toNat))) ∧ Cl sc (d + 4) mX6_doMeet [Vr (some 124), Vr (some a), Vi (f : Int), Vi (g : Int)] (hI h I) = some (.inl (Vi (bz b)), hI h J) := by
  obtain ⟨J, b, ⟨k1, k2⟩, k3⟩ := c_comes (sc := sc) (d := d) s c ha R V hf hg
  rw [q_X6_doMeet_0]
  cases b
  · refine ⟨J, false, ⟨k1, ⟨(fun h => by cases h), fun h => k2.mpr h.1⟩⟩, ?_⟩
    simp (disch := first | (simp (disch := omega) only [w32_id]; omega) | omega) only [↓BN s, k3, e_clI, e_clV, e_clP, e_clIx, e_clVx, e_clPx, e_xt, Int.toNat_natCast, Int.reduceToNat, bz0, bz1, Nat.add_zero, decide_eq_false_iff_not, decide_eq_true_eq, Int.reduceEq, Nat.reduceEqDiff, Int.reduceLT, Int.reduceLE, not_true_eq_false, not_false_eq_true, eq_self, ↓reduceIte]
    rfl
  · have R2 : CRep J a w := k1.ks.c (by omega) R
    obtain ⟨K, b, ⟨m1, m2⟩, m3⟩ := c_comes (sc := sc) (d := d) s c ha R2 V hg hf
    refine ⟨K, b, ⟨k1.tr m1, ⟨fun h => ⟨k2.mp rfl, m2.mp h⟩, fun h => m2.mpr h.2⟩⟩, ?_⟩
    simp (disch := first | (simp (disch := omega) only [w32_id]; omega) | omega) only [↓BN s, k3, m3, Bool.true_eq_false, e_clI, e_clV, e_clP, e_clIx, e_clVx, e_clPx, e_xt, Int.toNat_natCast, Int.reduceToNat, bz0, bz1, Nat.add_zero, decide_eq_false_iff_not, decide_eq_true_eq, Int.reduceEq, Nat.reduceEqDiff, Int.reduceLT, Int.reduceLE, not_true_eq_false, not_false_eq_true, eq_self, ↓reduceIte]
    cases b <;> rfl
theorem m_canMeet (s : Sh h) (V : WW (I 284)) (hs : I 283 18 = -1) (hp : I 283 19 = -1) {f g : Nat} (hf : f < 6) (hg : g < 6) : ∃ J b, (Fr I J ∧ (b = true ↔ (conn lc mc (fun b => opS (I 284) (-1) (-1) b (I 284 (307 + 4 * f + 1))) 60 (I 284 (307 + 4 * f)).toNat (I 284 (307 + 4 * g)).toNat ∧ conn lc mc (fun b => opS (I 284) (-1) (-1) b (I 284 (307 + 4 * g + 1))) 60 (I 284 (307 + 4 * g)).toNat (I 284 (307 + 4 * f)).toNat))) ∧ Cl sc (d + 9) mX12_canMeet [Vr (some 283), Vi (f : Int), Vi (g : Int)] (hI h I) = some (.inl (Vi (bz b)), hI h J) := by
  have hv := V.fm hf
  have hv2 := V.fm hg
  obtain ⟨hm, hh⟩ : ∃ hm : Nat, I 284 (307 + 4 * f) = hm := ⟨(I 284 (307 + 4 * f)).toNat, by omega⟩
  obtain ⟨hn, hh2⟩ : ∃ hn : Nat, I 284 (307 + 4 * g) = hn := ⟨(I 284 (307 + 4 * g)).toNat, by omega⟩
  have hm36 : hm < 36 := by omega
  have hn36 : hn < 36 := by omega
  obtain ⟨G, g1, g2⟩ := m_farOf (sc := sc) (d := d) s V hs hp hf hn36
  have e284 : ∀ G, sr I 292 G 284 = I 284 := fun G => sr_ne (by decide)
  have e283 : ∀ G, sr I 292 G 283 = I 283 := fun G => sr_ne (by decide)
  obtain ⟨G2, g3, g4⟩ := m_farOf (sc := sc) (d := d) (I := sr I 292 G) s (by rw [e284]; exact V) (by rw [e283]; exact hs) (by rw [e283]; exact hp) hg hm36
  rw [e284] at g3
  rw [sr_sr] at g4
  rw [hh, Int.toNat_natCast] at g1
  rw [hh2, Int.toNat_natCast] at g3
  have i1 := far_iff V hm36 g1 hn36
  have i2 := far_iff V hn36 g3 hm36
  rw [hh, hh2, Int.toNat_natCast, Int.toNat_natCast, ← i1, ← i2, q_X12_canMeet_0]
  by_cases c1 : G hn < 1000000
  · by_cases c2 : G2 hm < 1000000
    · refine ⟨sr I 292 G2, true, ⟨fun p hp => sr_ne hp, ⟨fun _ => ⟨c1, c2⟩, fun _ => rfl⟩⟩, ?_⟩
      · simp (disch := first | (simp (disch := omega) only [w32_id]; omega) | omega) only [↓BM s, m_ofFamily s, e284, hh, hh2, g2, c1, g4, c2, e_clI, e_clV, e_clP, e_clIx, e_clVx, e_clPx, e_xt, Int.toNat_natCast, Int.reduceToNat, bz0, bz1, Nat.add_zero, decide_eq_false_iff_not, decide_eq_true_eq, Int.reduceEq, Nat.reduceEqDiff, Int.reduceLT, Int.reduceLE, not_true_eq_false, not_false_eq_true, eq_self, ↓reduceIte]
        rfl
    · refine ⟨sr I 292 G2, false, ⟨fun p hp => sr_ne hp, ⟨(fun h => by cases h), fun h => absurd h.2 c2⟩⟩, ?_⟩
      · simp (disch := first | (simp (disch := omega) only [w32_id]; omega) | omega) only [↓BM s, m_ofFamily s, e284, hh, hh2, g2, c1, g4, c2, e_clI, e_clV, e_clP, e_clIx, e_clVx, e_clPx, e_xt, Int.toNat_natCast, Int.reduceToNat, bz0, bz1, Nat.add_zero, decide_eq_false_iff_not, decide_eq_true_eq, Int.reduceEq, Nat.reduceEqDiff, Int.reduceLT, Int.reduceLE, not_true_eq_false, not_false_eq_true, eq_self, ↓reduceIte]
        rfl
  · refine ⟨sr I 292 G, false, ⟨fun p hp => sr_ne hp, ⟨(fun h => by cases h), fun h => absurd h.1 c1⟩⟩, ?_⟩
    · simp (disch := first | (simp (disch := omega) only [w32_id]; omega) | omega) only [↓BM s, m_ofFamily s, e284, hh, hh2, g2, c1, e_clI, e_clV, e_clP, e_clIx, e_clVx, e_clPx, e_xt, Int.toNat_natCast, Int.reduceToNat, bz0, bz1, Nat.add_zero, decide_eq_false_iff_not, decide_eq_true_eq, Int.reduceEq, Nat.reduceEqDiff, Int.reduceLT, Int.reduceLE, not_true_eq_false, not_false_eq_true, eq_self, ↓reduceIte]
      rfl
theorem p_meet (r : Rel h I) {x y : Int} : Pub h I (Cl sc (d + 30) mX11_meet [Vr (some 0), Vi x, Vi y]) (Cl sc (d + 30) mX12_meet [Vr (some 283), Vi x, Vi y]) cdB := by
  have R := r.R
  have V := r.V
  have hF := V.fa
  by_cases hx : (0 ≤ x ∧ x < I 284 0) ∧ 0 ≤ y ∧ y < I 284 0
  · obtain ⟨f, rfl⟩ : ∃ f : Nat, x = f := ⟨x.toNat, by omega⟩
    obtain ⟨g, rfl⟩ : ∃ g : Nat, y = g := ⟨y.toNat, by omega⟩
    have hf : f < 6 := by omega
    have hg : g < 6 := by omega
    by_cases hfg : f = g
    · subst hfg
      refine pubQ (x := 1) (v := 0) (v' := 0) r (CO.no (J := I) (by decide) ?_ (Same.rf I)) (fun h1 J1 r1 e1 => ?_) (fun h => absurd h (by decide))
      · rw [q_X11_meet_0]
        simp (disch := first | (simp (disch := omega) only [w32_id]; omega) | omega) only [↓BO r.1, c_nTy r.1 r.fa hx.1, e_clI, e_clV, e_clP, e_clIx, e_clVx, e_clPx, e_xt, Int.toNat_natCast, Int.reduceToNat, bz0, bz1, Nat.add_zero, decide_eq_false_iff_not, decide_eq_true_eq, Int.reduceEq, Nat.reduceEqDiff, Int.reduceLT, Int.reduceLE, not_true_eq_false, not_false_eq_true, eq_self, ↓reduceIte]
      · refine MO.thr ?_
        have V1 : WW (J1 284) := by rw [e1.w]; exact V
        have hx2 : 0 ≤ (f : Int) ∧ (f : Int) < J1 284 0 := by rw [e1.w]; exact hx.1
        rw [q_X12_meet_0]
        simp (disch := first | (simp (disch := omega) only [w32_id]; omega) | omega) only [↓BM r1.1, m_nTy r1.1 V1 hx2, e_clI, e_clV, e_clP, e_clIx, e_clVx, e_clPx, e_xt, Int.toNat_natCast, Int.reduceToNat, bz0, bz1, Nat.add_zero, decide_eq_false_iff_not, decide_eq_true_eq, Int.reduceEq, Nat.reduceEqDiff, Int.reduceLT, Int.reduceLE, not_true_eq_false, not_false_eq_true, eq_self, ↓reduceIte]
        try rfl
    · have hfg2 : (f : Int) ≠ (g : Int) := by omega
      obtain ⟨J, b, ⟨k1, k2⟩, k3⟩ := c_doMeet (sc := sc) (d := d + 25) r.1 r.c (by omega) R V hf hg
      refine pubQ (x := 0) (v := bz b) (v' := bz b) r (CO.ok (J := J) ?_ k1.sm) (fun h1 J1 r1 e1 => ?_) (fun _ => rfl)
      · rw [q_X11_meet_0]
        simp (disch := first | (simp (disch := omega) only [w32_id]; omega) | omega) only [↓BO r.1, ↓BN r.1, c_nT r.1 r.fa hx.1 hx.2 hfg2, k3, e_ret1 (bz01 _), e_clI, e_clV, e_clP, e_clIx, e_clVx, e_clPx, e_xt, Int.toNat_natCast, Int.reduceToNat, bz0, bz1, Nat.add_zero, decide_eq_false_iff_not, decide_eq_true_eq, Int.reduceEq, Nat.reduceEqDiff, Int.reduceLT, Int.reduceLE, not_true_eq_false, not_false_eq_true, eq_self, ↓reduceIte]
      · have V1 : WW (J1 284) := by rw [e1.w]; exact V
        have V2 : WW (am_u2 J1 283 0 0 284) := by rw [w283, e1.w]; exact V
        have hx2 : 0 ≤ (f : Int) ∧ (f : Int) < J1 284 0 := by rw [e1.w]; exact hx.1
        have hy2 : 0 ≤ (g : Int) ∧ (g : Int) < J1 284 0 := by rw [e1.w]; exact hx.2
        obtain ⟨K, b2, ⟨m1, m2⟩, m3⟩ := m_canMeet (sc := sc) (d := d + 20) (I := am_u2 J1 283 0 0) r1.1 V2 (by rw [u2_j (by decide)]; exact r1.2.2.2.2.2.1) (by rw [u2_j (by decide)]; exact r1.2.2.2.2.2.2.1) hf hg
        rw [w283, e1.w] at m2
        have eb : b2 = b := by rw [Bool.eq_iff_iff, m2, k2]
        subst eb
        refine MO.okJ (J := K) ?_ (s283.tr m1.sm) (by rw [m1 283 (by decide)]; exact u2_same)
        rw [q_X12_meet_0]
        simp (disch := first | (simp (disch := omega) only [w32_id]; omega) | omega) only [↓BM r1.1, m_nT r1.1 V1 hx2 hy2 hfg2, m3, e_clI, e_clV, e_clP, e_clIx, e_clVx, e_clPx, e_xt, Int.toNat_natCast, Int.reduceToNat, bz0, bz1, Nat.add_zero, decide_eq_false_iff_not, decide_eq_true_eq, Int.reduceEq, Nat.reduceEqDiff, Int.reduceLT, Int.reduceLE, not_true_eq_false, not_false_eq_true, eq_self, ↓reduceIte]
        cases b2 <;> rfl
  · refine pubQ (x := 3) (v := 0) (v' := 0) r (CO.no (J := I) (by decide) ?_ (Same.rf I)) (fun h1 J1 r1 e1 => ?_) (fun h => absurd h (by decide))
    · rw [q_X11_meet_0]
      simp (disch := first | (simp (disch := omega) only [w32_id]; omega) | omega) only [↓BO r.1, c_nTx r.1 r.fa hx, e_clI, e_clV, e_clP, e_clIx, e_clVx, e_clPx, e_xt, Int.toNat_natCast, Int.reduceToNat, bz0, bz1, Nat.add_zero, decide_eq_false_iff_not, decide_eq_true_eq, Int.reduceEq, Nat.reduceEqDiff, Int.reduceLT, Int.reduceLE, not_true_eq_false, not_false_eq_true, eq_self, ↓reduceIte]
    · refine MO.thr ?_
      have V1 : WW (J1 284) := by rw [e1.w]; exact V
      have hx2 : ¬ ((0 ≤ x ∧ x < J1 284 0) ∧ 0 ≤ y ∧ y < J1 284 0) := by rw [e1.w]; exact hx
      rw [q_X12_meet_0]
      simp (disch := first | (simp (disch := omega) only [w32_id]; omega) | omega) only [↓BM r1.1, m_nTx r1.1 V1 hx2, e_clI, e_clV, e_clP, e_clIx, e_clVx, e_clPx, e_xt, Int.toNat_natCast, Int.reduceToNat, bz0, bz1, Nat.add_zero, decide_eq_false_iff_not, decide_eq_true_eq, Int.reduceEq, Nat.reduceEqDiff, Int.reduceLT, Int.reduceLE, not_true_eq_false, not_false_eq_true, eq_self, ↓reduceIte]
      try rfl
theorem p_land (r : Rel h I) {x y : Int} : Pub h I (Cl sc (d + 30) mX11_land [Vr (some 0), Vi x, Vi y]) (Cl sc (d + 30) mX12_land [Vr (some 283), Vi x, Vi y]) cdB := by
  have R := r.R
  have V := r.V
  by_cases hx : 0 ≤ x ∧ x < 36
  · obtain ⟨u, rfl⟩ : ∃ u : Nat, x = u := ⟨x.toNat, by omega⟩
    have hu : u < 36 := by omega
    by_cases hy : 0 ≤ y ∧ y ≤ 999
    · obtain ⟨J, lb, ⟨k1, k2⟩, k3⟩ := c_ofCells (sc := sc) (d := d + 27) (t := y) (x := -1) r.1 r.c (by omega) R V
      have k4 := c_nodesWith (sc := sc) (d := d + 28) r.1 k2 (by omega) hu
      refine pubQ (x := 0) (v := nn (fun v => decide (lb v = lb u)) 36) (v' := nn (fun v => decide (lb v = lb u)) 36) r (CO.ok (J := J) ?_ k1.sm) (fun h1 J1 r1 e1 => ?_) (fun _ => rfl)
      · rw [q_X11_land_0]
        simp (disch := first | (simp (disch := omega) only [w32_id]; omega) | omega) only [↓BO r.1, ↓BP r.1, c_nC hx, c_nH hy, k3, k4, e_clI, e_clV, e_clP, e_clIx, e_clVx, e_clPx, e_xt, Int.toNat_natCast, Int.reduceToNat, bz0, bz1, Nat.add_zero, decide_eq_false_iff_not, decide_eq_true_eq, Int.reduceEq, Nat.reduceEqDiff, Int.reduceLT, Int.reduceLE, not_true_eq_false, not_false_eq_true, eq_self, ↓reduceIte]
      · obtain ⟨K, mb, m1, m2, m3, m4, m5⟩ := m_laysLands (sc := sc) (d := d + 23) (I := am_u2 J1 283 0 0) (t := y) r1.1 rfl
        rw [w283, e1.w, u2_j (by decide), u2_j (by decide), rel18 r1, rel19 r1, ← opE_f] at m4
        have e : nn (fun v => decide (lb v = lb u)) 36 = nn (fun v => decide (mb v = mb u)) 36 := nn_cg (fun v hv => by
          rw [decide_eq_decide]
          exact kern k2.1.2 m4 v u hv hu)
        have m6 := m_sizeOf (sc := sc) (d := d + 27) (x := mb u) r1.1 m2
        have m7 := m2 u hu
        refine MO.okJ (J := K) ?_ (s283.tr m1.sm) (by rw [m1 283 (by decide)]; exact u2_same)
        rw [q_X12_land_0]
        simp (disch := first | (simp (disch := omega) only [w32_id]; omega) | omega) only [↓BM r1.1, m_nC hx, m_nH hy, m_t0 r1.1, m5, m7, m6, e_clI, e_clV, e_clP, e_clIx, e_clVx, e_clPx, e_xt, Int.toNat_natCast, Int.reduceToNat, bz0, bz1, Nat.add_zero, decide_eq_false_iff_not, decide_eq_true_eq, Int.reduceEq, Nat.reduceEqDiff, Int.reduceLT, Int.reduceLE, not_true_eq_false, not_false_eq_true, eq_self, ↓reduceIte]
        rw [e]
    · skip
      refine pubQ (x := 1) (v := 0) (v' := 0) r (CO.no (J := I) (by decide) ?_ (Same.rf I)) (fun h1 J1 r1 e1 => ?_) (fun h => absurd h (by decide))
      · rw [q_X11_land_0]
        simp (disch := first | (simp (disch := omega) only [w32_id]; omega) | omega) only [c_nC hx, c_nHx hy, hI_exI, e_clI, e_clV, e_clP, e_clIx, e_clVx, e_clPx, e_xt, Int.toNat_natCast, Int.reduceToNat, bz0, bz1, Nat.add_zero, decide_eq_false_iff_not, decide_eq_true_eq, Int.reduceEq, Nat.reduceEqDiff, Int.reduceLT, Int.reduceLE, not_true_eq_false, not_false_eq_true, eq_self, ↓reduceIte]
      · refine MO.thr ?_
        rw [q_X12_land_0]
        simp (disch := first | (simp (disch := omega) only [w32_id]; omega) | omega) only [↓BM r1.1, m_nC hx, m_nHx hy, m_t0 r1.1, m_t1 r1.1, e_clI, e_clV, e_clP, e_clIx, e_clVx, e_clPx, e_xt, Int.toNat_natCast, Int.reduceToNat, bz0, bz1, Nat.add_zero, decide_eq_false_iff_not, decide_eq_true_eq, Int.reduceEq, Nat.reduceEqDiff, Int.reduceLT, Int.reduceLE, not_true_eq_false, not_false_eq_true, eq_self, ↓reduceIte]
        try rfl
  · skip
    refine pubQ (x := 3) (v := 0) (v' := 0) r (CO.no (J := I) (by decide) ?_ (Same.rf I)) (fun h1 J1 r1 e1 => ?_) (fun h => absurd h (by decide))
    · rw [q_X11_land_0]
      simp (disch := first | (simp (disch := omega) only [w32_id]; omega) | omega) only [c_nCx hx, hI_exI, e_clI, e_clV, e_clP, e_clIx, e_clVx, e_clPx, e_xt, Int.toNat_natCast, Int.reduceToNat, bz0, bz1, Nat.add_zero, decide_eq_false_iff_not, decide_eq_true_eq, Int.reduceEq, Nat.reduceEqDiff, Int.reduceLT, Int.reduceLE, not_true_eq_false, not_false_eq_true, eq_self, ↓reduceIte]
    · refine MO.thr ?_
      rw [q_X12_land_0]
      simp (disch := first | (simp (disch := omega) only [w32_id]; omega) | omega) only [↓BM r1.1, m_nCx hx, m_t1 r1.1, e_clI, e_clV, e_clP, e_clIx, e_clVx, e_clPx, e_xt, Int.toNat_natCast, Int.reduceToNat, bz0, bz1, Nat.add_zero, decide_eq_false_iff_not, decide_eq_true_eq, Int.reduceEq, Nat.reduceEqDiff, Int.reduceLT, Int.reduceLE, not_true_eq_false, not_false_eq_true, eq_self, ↓reduceIte]
      try rfl
end
