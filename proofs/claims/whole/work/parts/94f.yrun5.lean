/-! YEARS BY THE REFERENCE -/
def calmY (w : am_Wd) : am_Wd := yEnd (yFret (yGrow w))
def goC (w : am_Wd) (n : Nat) : am_Wd := fo (fun _ v => calmY v) n w
section
variable {sc : Nat × (Nat → Int)} {d f : Nat} {h : am_H} {I J : am_I} {w v : am_Wd}
theorem m_yGrow (s : Sh h) (S : Mt I w) {i1 i2 : Int} : ∃ J, (Mg I J ∧ Mt J (yGrow w) ∧ yGrow w 0 = w 0) ∧ Ru sc (d + 8) mX12_oneYear 5 [Vr (some 283), Vi i1, Vi i2, Vi 0] [] (hI h I) = Ru sc (d + 8) mX12_oneYear 16 [Vr (some 283), Vi i1, Vi i2, Vi 0] [] (hI h J) := by
  obtain ⟨J, k1, k2⟩ := lpG (X := fun i (_ : am_Wd) J => Ru sc (d + 8) mX12_oneYear 5 [Vr (some 283), Vi i1, Vi i2, Vi (i : Int)] [] (hI h J)) (G := fun b v => grown v b) (K := fun _ v J => Mg I J ∧ Mt J v ∧ v 0 = w 0) (s0 := w) (I := I) ⟨Mg.rf I, S, rfl⟩ (N := 60) (fun i v J hi k => by
    obtain ⟨J2, g1, g2, g3⟩ := m_grows (sc := sc) (d := d) s k.2.1 hi
    refine ⟨J2, ⟨k.1.tr g1, k.2.1.go g2 (grown_w k.2.1.2.1 k.2.1.2.2 hi) (grown_t hi), (grown_g (by omega)).trans k.2.2⟩, ?_⟩
    have hlt : (i : Int) < 60 := by omega
    try dsimp only
    rw [q_X12_oneYear_5]
    simp (disch := first | (simp (disch := omega) only [w32_id]; omega) | omega) only [↓BM s, hlt, g3, w32_succ, e_clI, e_clV, e_clP, e_clIx, e_clVx, e_clPx, e_xt, Int.toNat_natCast, Int.reduceToNat, bz0, bz1, Nat.add_zero, decide_eq_false_iff_not, decide_eq_true_eq, Int.reduceEq, Nat.reduceEqDiff, Int.reduceLT, Int.reduceLE, not_true_eq_false, not_false_eq_true, ↓reduceIte])
  refine ⟨J, k1, k2.trans ?_⟩
  try dsimp only
  rw [q_X12_oneYear_5, if_neg (by omega)]
theorem m_yFret (s : Sh h) (S : Mt I w) {i1 i2 : Int} : ∃ J, (Mg I J ∧ Mt J (yFret w) ∧ yFret w 0 = w 0) ∧ Ru sc (d + 8) mX12_oneYear 16 [Vr (some 283), Vi i1, Vi i2, Vi 0] [] (hI h I) = Ru sc (d + 8) mX12_oneYear 41 [Vr (some 283), Vi i1, Vi i2, Vi 0] [] (hI h J) := by
  have hF := S.2.1.fa
  obtain ⟨J, k1, k2⟩ := lpG (X := fun i (_ : am_Wd) J => Ru sc (d + 8) mX12_oneYear 16 [Vr (some 283), Vi i1, Vi i2, Vi (i : Int)] [] (hI h J)) (G := fun b v => fretted v b) (K := fun _ v J => Mg I J ∧ Mt J v ∧ v 0 = w 0) (s0 := w) (I := I) ⟨Mg.rf I, S, rfl⟩ (N := (w 0).toNat) (fun i v J hi k => by
    have hi6 : i < 6 := by omega
    have hlt : (i : Int) < w 0 := by omega
    have hv := k.2.1.2.1.fm hi6
    have hsb := soreAt_b k.2.1.2.2 (f := i) (Nat.le_refl 4)
    have hs0 : soreAt v i = sm (fun k => if sd (v (307 + 4 * i)).toNat k = -1 then 0 else srW v (sd (v (307 + 4 * i)).toNat k).toNat) 4 := rfl
    rw [← hs0] at hsb
    obtain ⟨J2, g1, g2⟩ := m_soresAt (sc := sc) (d := d) s k.2.1 hi6
    have w2 := g1.w.trans k.2.1.1
    have hw3 : w32 (v (307 + 4 * i + 3) + soreAt v i) = v (307 + 4 * i + 3) + soreAt v i := w32_id (by omega) (by omega)
    refine ⟨am_u2 J2 284 (307 + 4 * i + 3) (min 99 (v (307 + 4 * i + 3) + soreAt v i)), ⟨k.1.tr ((Mg.lv g1).tr (fun p hp _ => u2_o hp)), k.2.1.go ?_ (fretted_w k.2.1.2.1 k.2.1.2.2 hi6) (fretted_t hi6), (fretted_g (by omega)).trans k.2.2⟩, ?_⟩
    · rw [u2_up, w2]
      rfl
    · try dsimp only
      rw [q_X12_oneYear_16]
      simp (disch := first | (simp (disch := omega) only [w32_id]; omega) | omega) only [↓BM s, m_families s, k.2.1.1, k.2.2, hlt, m_familyAt, m_ofFamily s, g2, c_min, hw3, w32_succ, e_clI, e_clV, e_clP, e_clIx, e_clVx, e_clPx, e_xt, Int.toNat_natCast, Int.reduceToNat, bz0, bz1, Nat.add_zero, decide_eq_false_iff_not, decide_eq_true_eq, Int.reduceEq, Nat.reduceEqDiff, Int.reduceLT, Int.reduceLE, not_true_eq_false, not_false_eq_true, ↓reduceIte])
  refine ⟨J, k1, k2.trans ?_⟩
  have e : fo (fun b v => fretted v b) (w 0).toNat w 0 = w 0 := k1.2.2
  have hlt : ¬ ((w 0).toNat : Int) < w 0 := by omega
  try dsimp only
  rw [q_X12_oneYear_16]
  simp (disch := first | (simp (disch := omega) only [w32_id]; omega) | omega) only [↓BM s, m_families s, k1.2.1.1, e, hlt, e_clI, e_clV, e_clP, e_clIx, e_clVx, e_clPx, e_xt, Int.toNat_natCast, Int.reduceToNat, bz0, bz1, Nat.add_zero, decide_eq_false_iff_not, decide_eq_true_eq, Int.reduceEq, Nat.reduceEqDiff, Int.reduceLT, Int.reduceLE, not_true_eq_false, not_false_eq_true, ↓reduceIte]
theorem m_yQuar (s : Sh h) (S : Mt I w) : ∃ J, (Mg I J ∧ Mt J (yQuar w).1 ∧ (yQuar w).1 0 = w 0 ∧ 0 ≤ (yQuar w).2 ∧ (yQuar w).2 ≤ 6) ∧ Ru sc (d + 8) mX12_oneYear 41 [Vr (some 283), Vi 0, Vi 0, Vi 0] [] (hI h I) = Ru sc (d + 8) mX12_oneYear 41 [Vr (some 283), Vi 0, Vi (yQuar w).2, Vi ((w 0).toNat : Int)] [] (hI h J) := by
  have hF := S.2.1.fa
  obtain ⟨J, k1, k2⟩ := lpG (X := fun i (s : am_Wd × Int) J => Ru sc (d + 8) mX12_oneYear 41 [Vr (some 283), Vi 0, Vi s.2, Vi (i : Int)] [] (hI h J)) (G := fun f v => ((quar v.1 f).1, v.2 + (quar v.1 f).2)) (K := fun i s J => Mg I J ∧ Mt J s.1 ∧ s.1 0 = w 0 ∧ 0 ≤ s.2 ∧ s.2 ≤ i) (s0 := (w, 0)) (I := I) ⟨Mg.rf I, S, rfl, (by dsimp only; omega), (by dsimp only; omega)⟩ (N := (w 0).toNat) (fun i z J hi k => by
    obtain ⟨v, q⟩ := z
    dsimp only at k
    have hi6 : i < 6 := by omega
    obtain ⟨J2, g1, g2, g3⟩ := m_quarrels (sc := sc) (d := d + 3) s k.2.1 hi6
    have hq := quar_w k.2.1.2.1 hi6
    refine ⟨J2, ⟨k.1.tr g1, k.2.1.go g2 hq.1 hq.2.1, hq.2.2.2.trans k.2.2.1, ?_, ?_⟩, ?_⟩
    · dsimp only
      omega
    · dsimp only
      omega
    · have hlt : (i : Int) < w 0 := by omega
      dsimp only
      have h01 : (quar v i).2 = 0 ∨ (quar v i).2 = 1 := by omega
      rw [q_X12_oneYear_41]
      rcases h01 with h01 | h01
      · simp (disch := first | (simp (disch := omega) only [w32_id]; omega) | omega) only [↓BM s, m_families s, k.2.1.1, k.2.2.1, hlt, g3, h01, w32_succ, e_clI, e_clV, e_clP, e_clIx, e_clVx, e_clPx, e_xt, Int.toNat_natCast, Int.reduceToNat, bz0, bz1, Nat.add_zero, decide_eq_false_iff_not, decide_eq_true_eq, Int.reduceEq, Nat.reduceEqDiff, Int.reduceLT, Int.reduceLE, not_true_eq_false, not_false_eq_true, ↓reduceIte]
        rw [w32_id (by omega) (by omega)]
      · simp (disch := first | (simp (disch := omega) only [w32_id]; omega) | omega) only [↓BM s, m_families s, k.2.1.1, k.2.2.1, hlt, g3, h01, w32_succ, e_clI, e_clV, e_clP, e_clIx, e_clVx, e_clPx, e_xt, Int.toNat_natCast, Int.reduceToNat, bz0, bz1, Nat.add_zero, decide_eq_false_iff_not, decide_eq_true_eq, Int.reduceEq, Nat.reduceEqDiff, Int.reduceLT, Int.reduceLE, not_true_eq_false, not_false_eq_true, ↓reduceIte]
        rw [w32_id (by omega) (by omega)])
  refine ⟨J, ⟨k1.1, k1.2.1, k1.2.2.1, k1.2.2.2.1, ?_⟩, ?_⟩
  · have := k1.2.2.2.2
    unfold yQuar
    omega
  · exact k2
theorem m_endYear (s : Sh h) (S : Mt I w) {i1 i2 i3 : Int} (hc : i1 ≠ 0 ∨ ¬ i3 < w 0) : ∃ J, Mg I J ∧ Mt J (yEnd w) ∧ Ru sc (d + 8) mX12_oneYear 41 [Vr (some 283), Vi i1, Vi i2, Vi i3] [] (hI h I) = some (.inl (Vi i2), hI h J) := by
  have h3 := S.2.1.ws.2.2.2.1
  refine ⟨am_u2 I 284 3 (min 9999 (w 3 + 1)), fun p hp _ => u2_o hp, S.go (by rw [u2_up, S.1]; rfl) (yEnd_w S.2.1) yEnd_t, ?_⟩
  have hw3 : w32 (w 3 + 1) = w 3 + 1 := w32_id (by omega) (by omega)
  rw [q_X12_oneYear_41]
  by_cases h1 : i3 < w 0
  · have h2 : ¬ i1 = 0 := by omega
    simp (disch := first | (simp (disch := omega) only [w32_id]; omega) | omega) only [↓BM s, m_families s, S.1, h1, h2, c_min, hw3, e_clI, e_clV, e_clP, e_clIx, e_clVx, e_clPx, e_xt, Int.toNat_natCast, Int.reduceToNat, bz0, bz1, Nat.add_zero, decide_eq_false_iff_not, decide_eq_true_eq, Int.reduceEq, Nat.reduceEqDiff, Int.reduceLT, Int.reduceLE, not_true_eq_false, not_false_eq_true, ↓reduceIte]
  · simp (disch := first | (simp (disch := omega) only [w32_id]; omega) | omega) only [↓BM s, m_families s, S.1, h1, c_min, hw3, e_clI, e_clV, e_clP, e_clIx, e_clVx, e_clPx, e_xt, Int.toNat_natCast, Int.reduceToNat, bz0, bz1, Nat.add_zero, decide_eq_false_iff_not, decide_eq_true_eq, Int.reduceEq, Nat.reduceEqDiff, Int.reduceLT, Int.reduceLE, not_true_eq_false, not_false_eq_true, ↓reduceIte]
theorem m_oneYear (s : Sh h) (S : Mt I w) : ∃ J, (Mg I J ∧ Mt J (oneY w).1 ∧ 0 ≤ (oneY w).2 ∧ (oneY w).2 ≤ 6) ∧ Cl sc (d + 8) mX12_oneYear [Vr (some 283), Vi 0] (hI h I) = some (.inl (Vi (oneY w).2), hI h J) := by
  have hF := S.2.1.fa
  have hlt : ¬ ((w 0).toNat : Int) < w 0 := by omega
  obtain ⟨J1, k1, r1⟩ := m_yGrow (sc := sc) (d := d) s S (i1 := 0) (i2 := 0)
  obtain ⟨J2, k2, r2⟩ := m_yFret (sc := sc) (d := d) s k1.2.1 (i1 := 0) (i2 := 0)
  obtain ⟨J3, k3, r3⟩ := m_yQuar (sc := sc) (d := d) s k2.2.1
  have e0 : yFret (yGrow w) 0 = w 0 := k2.2.2.trans k1.2.2
  have e9 : oneY w = (yEnd (yQuar (yFret (yGrow w))).1, (yQuar (yFret (yGrow w))).2) := rfl
  rw [e0] at k3 r3
  have c1 := k1.1.tr (k2.1.tr k3.1)
  clear k1 k2
  generalize yQuar (yFret (yGrow w)) = Q at k3 r3 e9
  obtain ⟨J4, g4, R4, r4⟩ := m_endYear (sc := sc) (d := d) s k3.2.1 (i1 := 0) (i2 := Q.2) (i3 := ((w 0).toNat : Int)) (Or.inr (by rw [k3.2.2.1]; exact hlt))
  refine ⟨J4, ?_, ?_⟩
  · rw [e9]
    exact ⟨c1.tr g4, R4, k3.2.2.2⟩
  · rw [e9, q_X12_oneYear_0, r1, r2, r3, r4]
theorem m_calmYear (s : Sh h) (S : Mt I w) {i1 : Int} (h1 : i1 ≠ 0) : ∃ J, (Mg I J ∧ Mt J (calmY w)) ∧ Cl sc (d + 8) mX12_oneYear [Vr (some 283), Vi i1] (hI h I) = some (.inl (Vi 0), hI h J) := by
  obtain ⟨J1, k1, r1⟩ := m_yGrow (sc := sc) (d := d) s S (i1 := i1) (i2 := 0)
  obtain ⟨J2, k2, r2⟩ := m_yFret (sc := sc) (d := d) s k1.2.1 (i1 := i1) (i2 := 0)
  obtain ⟨J4, g4, R4, r4⟩ := m_endYear (sc := sc) (d := d) s k2.2.1 (i1 := i1) (i2 := 0) (i3 := 0) (Or.inl h1)
  exact ⟨J4, ⟨k1.1.tr (k2.1.tr g4), R4⟩, by rw [q_X12_oneYear_0, r1, r2, r4]⟩
theorem m_goesOn (s : Sh h) (S : Mt I w) {n : Nat} (hn : n ≤ 100) : ∃ J, (Mg I J ∧ Mt J (goY w n).1 ∧ 0 ≤ (goY w n).2 ∧ (goY w n).2 ≤ 6 * n) ∧ Cl sc (d + 9) mX12_goesOn [Vr (some 283), Vi (n : Int), Vi 0] (hI h I) = some (.inl (Vi (goY w n).2), hI h J) := by
  obtain ⟨J, k1, k2⟩ := lpG (X := fun i (z : am_Wd × Int) J => Ru sc (d + 9) mX12_goesOn 5 [Vr (some 283), Vi (n : Int), Vi 0, Vi z.2, Vi (i : Int)] [] (hI h J)) (G := fun _ v => ((oneY v.1).1, v.2 + (oneY v.1).2)) (K := fun i z J => Mg I J ∧ Mt J z.1 ∧ 0 ≤ z.2 ∧ z.2 ≤ 6 * i) (s0 := (w, 0)) (I := I) ⟨Mg.rf I, S, (by dsimp only; omega), (by dsimp only; omega)⟩ (N := n) (fun i z J hi k => by
    obtain ⟨v, q⟩ := z
    dsimp only at k
    obtain ⟨J2, g1, g2⟩ := m_oneYear (sc := sc) (d := d) s k.2.1
    have hlt : (i : Int) < (n : Int) := by omega
    have hb := yb k.2.2 g1.2.2
    generalize oneY v = Q at g1 g2 hb
    have hw3 : w32 (q + Q.2) = q + Q.2 := w32_id (by omega) (by omega)
    refine ⟨J2, ⟨k.1.tr g1.1, g1.2.1, hb.1, hb.2⟩, ?_⟩
    dsimp only
    rw [q_X12_goesOn_5]
    simp (disch := first | (simp (disch := omega) only [w32_id]; omega) | omega) only [↓BM s, hlt, g2, hw3, w32_succ, e_clI, e_clV, e_clP, e_clIx, e_clVx, e_clPx, e_xt, Int.toNat_natCast, Int.reduceToNat, bz0, bz1, Nat.add_zero, decide_eq_false_iff_not, decide_eq_true_eq, Int.reduceEq, Nat.reduceEqDiff, Int.reduceLT, Int.reduceLE, not_true_eq_false, not_false_eq_true, ↓reduceIte])
  refine ⟨J, k1, ?_⟩
  rw [q_X12_goesOn_0]
  refine k2.trans ?_
  try dsimp only
  rw [q_X12_goesOn_5, if_neg (Int.lt_irrefl _)]
  rfl
theorem m_goesCalm (s : Sh h) (S : Mt I w) {n : Nat} (hn : n ≤ 100) : ∃ J, (Mg I J ∧ Mt J (goC w n)) ∧ Cl sc (d + 9) mX12_goesOn [Vr (some 283), Vi (n : Int), Vi 1] (hI h I) = some (.inl (Vi 0), hI h J) := by
  obtain ⟨J, k1, k2⟩ := lpG (X := fun i (z : am_Wd) J => Ru sc (d + 9) mX12_goesOn 5 [Vr (some 283), Vi (n : Int), Vi 1, Vi 0, Vi (i : Int)] [] (hI h J)) (G := fun _ v => calmY v) (K := fun i z J => Mg I J ∧ Mt J z) (s0 := w) (I := I) ⟨Mg.rf I, S⟩ (N := n) (fun i v J hi k => by
    obtain ⟨J2, g1, g2⟩ := m_calmYear (sc := sc) (d := d) s k.2 (i1 := 1) (by decide)
    have hlt : (i : Int) < (n : Int) := by omega
    refine ⟨J2, ⟨k.1.tr g1.1, g1.2⟩, ?_⟩
    try dsimp only
    rw [q_X12_goesOn_5]
    simp (disch := first | (simp (disch := omega) only [w32_id]; omega) | omega) only [↓BM s, hlt, g2, w32_succ, e_clI, e_clV, e_clP, e_clIx, e_clVx, e_clPx, e_xt, Int.toNat_natCast, Int.reduceToNat, bz0, bz1, Nat.add_zero, decide_eq_false_iff_not, decide_eq_true_eq, Int.reduceEq, Nat.reduceEqDiff, Int.reduceLT, Int.reduceLE, not_true_eq_false, not_false_eq_true, ↓reduceIte]
    rfl)
  refine ⟨J, k1, ?_⟩
  rw [q_X12_goesOn_0]
  refine k2.trans ?_
  try dsimp only
  rw [q_X12_goesOn_5, if_neg (Int.lt_irrefl _)]
end
