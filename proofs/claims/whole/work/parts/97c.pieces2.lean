/-! THE CLASS'S PIECES: laid and asked -/
theorem nn_all {p : Nat → Bool} : ∀ {N : Nat}, (∀ u, u < N → p u = true) → nn p N = N
  | 0, _ => rfl
  | N + 1, h => by
    rw [nn_s, nn_all (N := N) (fun u hu => h u (by omega)), h N (Nat.lt_succ_self N), if_pos rfl]
    omega
section
variable {sc : Nat × (Nat → Int)} {d a n N : Nat} {h : am_H} {I : am_I} {e1 e2 : Nat → Nat} {E : Nat → Bool} {lb : Nat → Nat} {w : am_Wd}
theorem c_start (s : Sh h) (hN : N ≤ 49) : ∃ J, Ps I J ∧ PcI e1 e2 E N 0 (fun u => u) J ∧ Cl sc (d + 1) mX8_start [Vr (some 48), Vi (N : Int)] (hI h I) = some (.inl (Vx 0), hI h J) := by
  obtain ⟨J, k1, k2⟩ := lpG (X := fun i (_ : Unit) J => Ru sc (d + 1) mX8_start 9 [Vr (some 48), Vi (N : Int), Vi (i : Int)] [] (hI h J)) (G := fun _ z => z) (K := fun i _ J => Ps I J ∧ J 48 4 = (N : Int) ∧ J 48 5 = (N : Int) ∧ ∀ u, u < i → J 49 u = (u : Int) ∧ J 50 u = 1 ∧ J 51 u = 0 ∧ J 52 u = 0) (s0 := ()) (I := am_u2 (am_u2 I 48 4 N) 48 5 N) ⟨fun p hp => by rw [u2_o (by omega), u2_o (by omega)], by rw [u2_j (by decide), u2_same], u2_same, fun u hu => absurd hu (Nat.not_lt_zero u)⟩ (N := 49) (fun i _ J hi k => by
    refine ⟨am_u2 (am_u2 (am_u2 (am_u2 J 49 i i) 50 i 1) 51 i 0) 52 i 0, ⟨fun p hp => ?_, ?_, ?_, fun u hu => ?_⟩, ?_⟩
    · rw [u2_o (by omega), u2_o (by omega), u2_o (by omega), u2_o (by omega)]
      exact k.1 p hp
    · rw [u2_a (by decide), u2_a (by decide), u2_a (by decide), u2_a (by decide)]
      exact k.2.1
    · rw [u2_a (by decide), u2_a (by decide), u2_a (by decide), u2_a (by decide)]
      exact k.2.2.1
    · by_cases g : u = i
      · subst g
        simp [am_u2]
      · have := k.2.2.2 u (by omega)
        simp [am_u2, g, this]
    · have hlt : (i : Int) < 49 := by omega
      try dsimp only
      rw [q_X8_start_9]
      simp (disch := first | (simp (disch := omega) only [w32_id]; omega) | omega) only [↓BP s, hlt, w32_succ, e_clI, e_clV, e_clP, e_clIx, e_clVx, e_clPx, e_xt, Int.toNat_natCast, Int.reduceToNat, bz0, bz1, Nat.add_zero, decide_eq_false_iff_not, decide_eq_true_eq, Int.reduceEq, Nat.reduceEqDiff, Int.reduceLT, Int.reduceLE, not_true_eq_false, not_false_eq_true, eq_self, ↓reduceIte])
  obtain ⟨k1, k3, k4, k5⟩ := k1
  refine ⟨J, k1, ⟨PI.st, fun u hu => (k5 u (by omega)).1, fun r hr _ => ⟨?_, ?_⟩, fun u hu => ?_, k3, ?_⟩, ?_⟩
  · rw [(k5 r (by omega)).2.1]
    exact (nn_one (x := r) hr (decide_eq_true rfl) (fun u hu hp => of_decide_eq_true hp)).symm
  · rw [(k5 r (by omega)).2.2.1]
    rfl
  · rw [(k5 u (by omega)).2.2.2]
    rfl
  · rw [k4]
    exact (nn_all (fun u hu => decide_eq_true rfl)).symm
  · rw [q_X8_start_0]
    simp (disch := first | (simp (disch := omega) only [w32_id]; omega) | omega) only [↓BP s, e_clI, e_clV, e_clP, e_clIx, e_clVx, e_clPx, e_xt, Int.toNat_natCast, Int.reduceToNat, bz0, bz1, Nat.add_zero, decide_eq_false_iff_not, decide_eq_true_eq, Int.reduceEq, Nat.reduceEqDiff, Int.reduceLT, Int.reduceLE, not_true_eq_false, not_false_eq_true, eq_self, ↓reduceIte]
    refine k2.trans ?_
    try dsimp only
    rw [q_X8_start_9, if_neg (by omega)]
/-- cells by open borders, one taken as shut -/
def opE (w : am_Wd) (t sh : Int) (b : Nat) : Bool := decide ((b : Int) ≠ sh) && opW w b t
theorem c_ofCells (s : Sh h) (c : Cty h a) (ha : a + 11 < 48) (R : CRep I a w) (V : WW w) {t x : Int} : ∃ J lb, (Ps I J ∧ PcI lc mc (opE w t x) 36 60 lb J) ∧ Cl sc (d + 2) mX8_ofCells [Vr (some 48), Vr (some a), Vi t, Vi x] (hI h I) = some (.inl (Vx 0), hI h J) := by
  obtain ⟨J0, j1, j2, j3⟩ := c_start (sc := sc) (d := d) (I := I) (e1 := lc) (e2 := mc) (E := opE w t x) (N := 36) s (by omega)
  have hgo : ∀ n, n ≤ 60 → ∃ J lb, (Ps I J ∧ PcI lc mc (opE w t x) 36 n lb J) ∧ Ru sc (d + 2) mX8_ofCells 6 [Vr (some 48), Vr (some a), Vi t, Vi x, Vi 0] [] (hI h J0) = Ru sc (d + 2) mX8_ofCells 6 [Vr (some 48), Vr (some a), Vi t, Vi x, Vi (n : Int)] [] (hI h J) := by
    intro n
    induction n with
    | zero => exact fun _ => ⟨J0, _, ⟨j1, j2⟩, rfl⟩
    | succ n ih =>
      intro hn
      obtain ⟨J, lb, ⟨k1, k2⟩, k3⟩ := ih (by omega)
      have hlt : (n : Int) < 60 := by omega
      have hn60 : n < 60 := by omega
      have R2 : CRep J a w := k1.ks.c (by omega) R
      by_cases hE : opE w t x n = true
      · have hE2 := hE
        unfold opE at hE2
        rw [Bool.and_eq_true, decide_eq_true_eq] at hE2
        obtain ⟨K, m1, m2, m3⟩ := c_join (sc := sc) (d := d) s k2 (by omega) hn60 hE (fun b hb => ⟨lc_lt b (by omega), mc_lt b (by omega)⟩) (by have := lc_mc n hn60; omega)
        refine ⟨K, _, ⟨k1.tr m1, m2⟩, ?_⟩
        rw [k3, q_X8_ofCells_6]
        simp (disch := first | (simp (disch := omega) only [w32_id]; omega) | omega) only [↓BP s, ↓BC c, hlt, hE2.1, c_isOpen c R2 V hn60, hE2.2, c_lessCell hn60, c_moreCell hn60, m3, w32_succ, Bool.true_eq_false, e_clI, e_clV, e_clP, e_clIx, e_clVx, e_clPx, e_xt, Int.toNat_natCast, Int.reduceToNat, bz0, bz1, Nat.add_zero, decide_eq_false_iff_not, decide_eq_true_eq, Int.reduceEq, Nat.reduceEqDiff, Int.reduceLT, Int.reduceLE, not_true_eq_false, not_false_eq_true, eq_self, ↓reduceIte]
      · have hE3 : opE w t x n = false := by cases h9 : opE w t x n <;> simp_all
        refine ⟨J, lb, ⟨k1, k2.no hE3⟩, ?_⟩
        rw [k3, q_X8_ofCells_6]
        by_cases g : (n : Int) = x
        · rw [if_pos hlt, if_pos g, w32_succ (by omega)]
        · have g2 : opW w n t = false := by
            unfold opE at hE3
            rw [decide_eq_true g, Bool.true_and] at hE3
            exact hE3
          simp (disch := first | (simp (disch := omega) only [w32_id]; omega) | omega) only [↓BP s, ↓BC c, hlt, g, c_isOpen c R2 V hn60, g2, w32_succ, e_clI, e_clV, e_clP, e_clIx, e_clVx, e_clPx, e_xt, Int.toNat_natCast, Int.reduceToNat, bz0, bz1, Nat.add_zero, decide_eq_false_iff_not, decide_eq_true_eq, Int.reduceEq, Nat.reduceEqDiff, Int.reduceLT, Int.reduceLE, not_true_eq_false, not_false_eq_true, eq_self, ↓reduceIte]
  obtain ⟨J, lb, k1, k3⟩ := hgo 60 (Nat.le_refl 60)
  refine ⟨J, lb, k1, ?_⟩
  have j3 : Cl sc (d + 1) mX8_start [Vr (some 48), Vi 36] (hI h I) = some (.inl (Vx 0), hI h J0) := j3
  rw [q_X8_ofCells_0]
  simp (disch := first | (simp (disch := omega) only [w32_id]; omega) | omega) only [↓BP s, j3, e_clI, e_clV, e_clP, e_clIx, e_clVx, e_clPx, e_xt, Int.toNat_natCast, Int.reduceToNat, bz0, bz1, Nat.add_zero, decide_eq_false_iff_not, decide_eq_true_eq, Int.reduceEq, Nat.reduceEqDiff, Int.reduceLT, Int.reduceLE, not_true_eq_false, not_false_eq_true, eq_self, ↓reduceIte]
  rw [k3, q_X8_ofCells_6, if_neg (by omega)]
theorem c_ofTops (s : Sh h) (c : Cty h a) (ha : a + 11 < 48) (R : CRep I a w) (V : WW w) {t : Int} : ∃ J lb, (Ps I J ∧ PcI lk mk (fun b => toW w b t) 49 60 lb J) ∧ Cl sc (d + 3) mX8_ofTops [Vr (some 48), Vr (some a), Vi t] (hI h I) = some (.inl (Vx 0), hI h J) := by
  obtain ⟨J0, j1, j2, j3⟩ := c_start (sc := sc) (d := d + 1) (I := I) (e1 := lk) (e2 := mk) (E := fun b => toW w b t) (N := 49) s (by omega)
  have hgo : ∀ n, n ≤ 60 → ∃ J lb, (Ps I J ∧ PcI lk mk (fun b => toW w b t) 49 n lb J) ∧ Ru sc (d + 3) mX8_ofTops 6 [Vr (some 48), Vr (some a), Vi t, Vi 0] [] (hI h J0) = Ru sc (d + 3) mX8_ofTops 6 [Vr (some 48), Vr (some a), Vi t, Vi (n : Int)] [] (hI h J) := by
    intro n
    induction n with
    | zero => exact fun _ => ⟨J0, _, ⟨j1, j2⟩, rfl⟩
    | succ n ih =>
      intro hn
      obtain ⟨J, lb, ⟨k1, k2⟩, k3⟩ := ih (by omega)
      have hlt : (n : Int) < 60 := by omega
      have hn60 : n < 60 := by omega
      have R2 : CRep J a w := k1.ks.c (by omega) R
      cases hE : toW w n t
      · refine ⟨J, lb, ⟨k1, k2.no hE⟩, ?_⟩
        rw [k3, q_X8_ofTops_6]
        simp (disch := first | (simp (disch := omega) only [w32_id]; omega) | omega) only [↓BP s, ↓BC c, hlt, c_isTop c R2 V hn60, hE, w32_succ, e_clI, e_clV, e_clP, e_clIx, e_clVx, e_clPx, e_xt, Int.toNat_natCast, Int.reduceToNat, bz0, bz1, Nat.add_zero, decide_eq_false_iff_not, decide_eq_true_eq, Int.reduceEq, Nat.reduceEqDiff, Int.reduceLT, Int.reduceLE, not_true_eq_false, not_false_eq_true, eq_self, ↓reduceIte]
      · obtain ⟨K, m1, m2, m3⟩ := c_join (sc := sc) (d := d + 1) s k2 (by omega) hn60 hE (fun b hb => ⟨lk_lt b (by omega), mk_lt b (by omega)⟩) (by have := lk_mk n hn60; omega)
        refine ⟨K, _, ⟨k1.tr m1, m2⟩, ?_⟩
        rw [k3, q_X8_ofTops_6]
        simp (disch := first | (simp (disch := omega) only [w32_id]; omega) | omega) only [↓BP s, ↓BC c, hlt, c_isTop c R2 V hn60, hE, c_lessCorner hn60, c_moreCorner hn60, m3, w32_succ, Bool.true_eq_false, e_clI, e_clV, e_clP, e_clIx, e_clVx, e_clPx, e_xt, Int.toNat_natCast, Int.reduceToNat, bz0, bz1, Nat.add_zero, decide_eq_false_iff_not, decide_eq_true_eq, Int.reduceEq, Nat.reduceEqDiff, Int.reduceLT, Int.reduceLE, not_true_eq_false, not_false_eq_true, eq_self, ↓reduceIte]
  obtain ⟨J, lb, k1, k3⟩ := hgo 60 (Nat.le_refl 60)
  refine ⟨J, lb, k1, ?_⟩
  have j3 : Cl sc (d + 2) mX8_start [Vr (some 48), Vi 49] (hI h I) = some (.inl (Vx 0), hI h J0) := j3
  rw [q_X8_ofTops_0]
  simp (disch := first | (simp (disch := omega) only [w32_id]; omega) | omega) only [↓BP s, j3, e_clI, e_clV, e_clP, e_clIx, e_clVx, e_clPx, e_xt, Int.toNat_natCast, Int.reduceToNat, bz0, bz1, Nat.add_zero, decide_eq_false_iff_not, decide_eq_true_eq, Int.reduceEq, Nat.reduceEqDiff, Int.reduceLT, Int.reduceLE, not_true_eq_false, not_false_eq_true, eq_self, ↓reduceIte]
  rw [k3, q_X8_ofTops_6, if_neg (by omega)]
theorem c_areTogether (s : Sh h) (P : PcI e1 e2 E N n lb I) (hN : N ≤ 49) {u v : Nat} (hu : u < N) (hv : v < N) : Cl sc (d + 1) mX8_areTogether [Vr (some 48), Vi (u : Int), Vi (v : Int)] (hI h I) = some (.inl (Vi (bz (decide (lb u = lb v)))), hI h I) := by
  have p1 := P.2.1 u hu
  have p2 := P.2.1 v hv
  rw [q_X8_areTogether_0]
  simp (disch := first | (simp (disch := omega) only [w32_id]; omega) | omega) only [↓BP s, p1, p2, e_clI, e_clV, e_clP, e_clIx, e_clVx, e_clPx, e_xt, Int.toNat_natCast, Int.reduceToNat, bz0, bz1, Nat.add_zero, decide_eq_false_iff_not, decide_eq_true_eq, Int.reduceEq, Nat.reduceEqDiff, Int.reduceLT, Int.reduceLE, not_true_eq_false, not_false_eq_true, eq_self, ↓reduceIte]
  by_cases g : lb u = lb v
  · rw [if_pos (by omega), decide_eq_true g]
    rfl
  · rw [if_neg (by omega), decide_eq_false g]
    rfl
theorem c_nodesWith (s : Sh h) (P : PcI e1 e2 E N n lb I) (hN : N ≤ 49) {u : Nat} (hu : u < N) : Cl sc (d + 1) mX8_nodesWith [Vr (some 48), Vi (u : Int)] (hI h I) = some (.inl (Vi (nn (fun v => decide (lb v = lb u)) N)), hI h I) := by
  have p1 := P.2.1 u hu
  have p0 := P.1.1 u hu
  have p2 := (P.2.2.1 _ p0.1 p0.2).1
  rw [q_X8_nodesWith_0]
  simp (disch := first | (simp (disch := omega) only [w32_id]; omega) | omega) only [↓BP s, p1, p2, e_clI, e_clV, e_clP, e_clIx, e_clVx, e_clPx, e_xt, Int.toNat_natCast, Int.reduceToNat, bz0, bz1, Nat.add_zero, decide_eq_false_iff_not, decide_eq_true_eq, Int.reduceEq, Nat.reduceEqDiff, Int.reduceLT, Int.reduceLE, not_true_eq_false, not_false_eq_true, eq_self, ↓reduceIte]
end
