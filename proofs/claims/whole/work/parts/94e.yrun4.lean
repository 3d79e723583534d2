/-! YEARS ON END -/
theorem lpG {β : Type} {X : Nat → β → am_I → am_R} {G : Nat → β → β} {K : Nat → β → am_I → Prop} {s0 : β} {I : am_I} (h0 : K 0 s0 I) : ∀ {N : Nat}, (∀ i s J, i < N → K i s J → ∃ J', K (i + 1) (G i s) J' ∧ X i s J = X (i + 1) (G i s) J') → ∃ J, K N (fo G N s0) J ∧ X 0 s0 I = X N (fo G N s0) J
  | 0, _ => ⟨I, h0, rfl⟩
  | N + 1, hs => by
    obtain ⟨J, k1, k2⟩ := lpG h0 (N := N) (fun i s J hi => hs i s J (by omega))
    obtain ⟨J', k3, k4⟩ := hs N _ J (Nat.lt_succ_self N) k1
    exact ⟨J', k3, k2.trans k4⟩
theorem yb {q z : Int} {i : Nat} (h1 : 0 ≤ q ∧ q ≤ 6 * (i : Int)) (h2 : 0 ≤ z ∧ z ≤ 6) : 0 ≤ q + z ∧ q + z ≤ 6 * ((i + 1 : Nat) : Int) := by omega
theorem yEnd_t {w : am_Wd} : T2 w (yEnd w) := (T2.rf w).up (by decide) (by decide)
theorem yEnd_0 {w : am_Wd} : yEnd w 0 = w 0 := up_o (by decide)
theorem go3 (w : am_Wd) : ∀ n, (fo (fun _ (v : am_Wd × Int × am_V) => ((oneY v.1).1, v.2.1 + (oneY v.1).2, Vi ((v.1 0).toNat : Int))) n (w, 0, Vx 0)).1 = (goY w n).1 ∧ (fo (fun _ (v : am_Wd × Int × am_V) => ((oneY v.1).1, v.2.1 + (oneY v.1).2, Vi ((v.1 0).toNat : Int))) n (w, 0, Vx 0)).2.1 = (goY w n).2
  | 0 => ⟨rfl, rfl⟩
  | n + 1 => by
    have ih := go3 w n
    unfold goY at ih ⊢
    unfold fo
    dsimp only
    rw [ih.1, ih.2]
    exact ⟨rfl, rfl⟩
section
variable {sc : Nat × (Nat → Int)} {d a b f : Nat} {h : am_H} {I J : am_I} {w v : am_Wd}
theorem c_yGrow (c : Cty h a) (ha : a < 290) (S : St h I a w) {i1 i2 i3 : Int} : ∃ J, (Cg a I J ∧ St h J a (yGrow w) ∧ yGrow w 0 = w 0) ∧ Ru sc (d + 6) mX0_passYears 11 [Vr (some a), Vi i1, Vi i2, Vi i3, Vi 0] [] (hI h I) = Ru sc (d + 6) mX0_passYears 22 [Vr (some a), Vi i1, Vi i2, Vi i3, Vi 0] [] (hI h J) := by
  obtain ⟨J, k1, k2⟩ := lpG (X := fun i (_ : am_Wd) J => Ru sc (d + 6) mX0_passYears 11 [Vr (some a), Vi i1, Vi i2, Vi i3, Vi (i : Int)] [] (hI h J)) (G := fun b v => grown v b) (K := fun _ v J => Cg a I J ∧ St h J a v ∧ v 0 = w 0) (s0 := w) (I := I) ⟨Cg.rf a I, S, rfl⟩ (N := 60) (fun i v J hi k => by
    obtain ⟨J2, g1, g2, g3⟩ := c_grow (sc := sc) (d := d) c ha k.2.1 hi
    refine ⟨J2, ⟨k.1.tr g1, k.2.1.go ha g1 g2 (grown_w k.2.1.2.1 k.2.1.2.2.ml hi) (grown_t hi), (grown_g (by omega)).trans k.2.2⟩, ?_⟩
    have hlt : (i : Int) < 60 := by omega
    try dsimp only
    rw [q_X0_passYears_11]
    simp (disch := first | (simp (disch := omega) only [w32_id]; omega) | omega) only [↓BC c, hlt, g3, w32_succ, e_clI, e_clV, e_clP, e_clIx, e_clVx, e_clPx, e_xt, Int.toNat_natCast, Int.reduceToNat, bz0, bz1, Nat.add_zero, decide_eq_false_iff_not, decide_eq_true_eq, Int.reduceEq, Nat.reduceEqDiff, Int.reduceLT, Int.reduceLE, not_true_eq_false, not_false_eq_true, ↓reduceIte])
  refine ⟨J, k1, k2.trans ?_⟩
  try dsimp only
  rw [q_X0_passYears_11, if_neg (by omega)]
theorem fo_zero {G : Nat → am_Wd → am_Wd} {w : am_Wd} (hg : ∀ i v, i < 6 → G i v 0 = v 0) : ∀ {n : Nat}, n ≤ 6 → fo G n w 0 = w 0
  | 0, _ => rfl
  | n + 1, hn => (hg n _ (by omega)).trans (fo_zero hg (by omega))
theorem c_yFret (c : Cty h a) (ha : a < 290) (S : St h I a w) {i1 i2 i3 : Int} : ∃ J, (Cg a I J ∧ St h J a (yFret w) ∧ yFret w 0 = w 0) ∧ Ru sc (d + 6) mX0_passYears 22 [Vr (some a), Vi i1, Vi i2, Vi i3, Vi 0] [] (hI h I) = Ru sc (d + 6) mX0_passYears 34 [Vr (some a), Vi i1, Vi i2, Vi i3, Vi 0] [] (hI h J) := by
  have hF := S.2.1.fa
  obtain ⟨J, k1, k2⟩ := lpG (X := fun i (_ : am_Wd) J => Ru sc (d + 6) mX0_passYears 22 [Vr (some a), Vi i1, Vi i2, Vi i3, Vi (i : Int)] [] (hI h J)) (G := fun b v => fretted v b) (K := fun _ v J => Cg a I J ∧ St h J a v ∧ v 0 = w 0) (s0 := w) (I := I) ⟨Cg.rf a I, S, rfl⟩ (N := (w 0).toNat) (fun i v J hi k => by
    have hi6 : i < 6 := by omega
    obtain ⟨J2, g1, g2, g3⟩ := c_fret (sc := sc) (d := d) c ha k.2.1 hi6
    refine ⟨J2, ⟨k.1.tr g1, k.2.1.go ha g1 g2 (fretted_w k.2.1.2.1 k.2.1.2.2.ml hi6) (fretted_t hi6), (fretted_g (by omega)).trans k.2.2⟩, ?_⟩
    have hlt : (i : Int) < w 0 := by omega
    try dsimp only
    rw [q_X0_passYears_22]
    simp (disch := first | (simp (disch := omega) only [w32_id]; omega) | omega) only [↓BC c, k.2.1.1.fa, k.2.2, hlt, g3, w32_succ, e_clI, e_clV, e_clP, e_clIx, e_clVx, e_clPx, e_xt, Int.toNat_natCast, Int.reduceToNat, bz0, bz1, Nat.add_zero, decide_eq_false_iff_not, decide_eq_true_eq, Int.reduceEq, Nat.reduceEqDiff, Int.reduceLT, Int.reduceLE, not_true_eq_false, not_false_eq_true, ↓reduceIte])
  refine ⟨J, k1, k2.trans ?_⟩
  have e : fo (fun b v => fretted v b) (w 0).toNat w 0 = w 0 := k1.2.2
  have hlt : ¬ ((w 0).toNat : Int) < w 0 := by omega
  try dsimp only
  rw [q_X0_passYears_22]
  simp (disch := first | (simp (disch := omega) only [w32_id]; omega) | omega) only [↓BC c, k1.2.1.1.fa, e, hlt, e_clI, e_clV, e_clP, e_clIx, e_clVx, e_clPx, e_xt, Int.toNat_natCast, Int.reduceToNat, bz0, bz1, Nat.add_zero, decide_eq_false_iff_not, decide_eq_true_eq, Int.reduceEq, Nat.reduceEqDiff, Int.reduceLT, Int.reduceLE, not_true_eq_false, not_false_eq_true, ↓reduceIte]
theorem c_yQuar (c : Cty h a) (ha : a < 290) (S : St h I a w) {i1 i3 : Int} {p : Int} (hp : 0 ≤ p ∧ p ≤ 1000000) : ∃ J, (Cg a I J ∧ St h J a (yQuar w).1 ∧ (yQuar w).1 0 = w 0 ∧ 0 ≤ (yQuar w).2 ∧ (yQuar w).2 ≤ 6) ∧ Ru sc (d + 6) mX0_passYears 34 [Vr (some a), Vi i1, Vi p, Vi i3, Vi 0] [] (hI h I) = Ru sc (d + 6) mX0_passYears 34 [Vr (some a), Vi i1, Vi (p + (yQuar w).2), Vi i3, Vi ((w 0).toNat : Int)] [] (hI h J) := by
  have hF := S.2.1.fa
  obtain ⟨J, k1, k2⟩ := lpG (X := fun i (s : am_Wd × Int) J => Ru sc (d + 6) mX0_passYears 34 [Vr (some a), Vi i1, Vi (p + s.2), Vi i3, Vi (i : Int)] [] (hI h J)) (G := fun f v => ((quar v.1 f).1, v.2 + (quar v.1 f).2)) (K := fun i s J => Cg a I J ∧ St h J a s.1 ∧ s.1 0 = w 0 ∧ 0 ≤ s.2 ∧ s.2 ≤ i) (s0 := (w, 0)) (I := I) ⟨Cg.rf a I, S, rfl, (by dsimp only; omega), (by dsimp only; omega)⟩ (N := (w 0).toNat) (fun i s J hi k => by
    obtain ⟨v, q⟩ := s
    dsimp only at k
    have hi6 : i < 6 := by omega
    obtain ⟨J2, g1, g2, g3⟩ := c_quarrelOf (sc := sc) (d := d + 2) c k.2.1 hi6
    have hq := quar_w k.2.1.2.1 hi6
    refine ⟨J2, ⟨k.1.tr g1, k.2.1.go ha g1 g2 hq.1 hq.2.1, hq.2.2.2.trans k.2.2.1, ?_, ?_⟩, ?_⟩
    · dsimp only
      omega
    · dsimp only
      omega
    · have hlt : (i : Int) < w 0 := by omega
      dsimp only
      rw [q_X0_passYears_34]
      simp (disch := first | (simp (disch := omega) only [w32_id]; omega) | omega) only [↓BC c, k.2.1.1.fa, k.2.2.1, hlt, g3, w32_succ, e_clI, e_clV, e_clP, e_clIx, e_clVx, e_clPx, e_xt, Int.toNat_natCast, Int.reduceToNat, bz0, bz1, Nat.add_zero, decide_eq_false_iff_not, decide_eq_true_eq, Int.reduceEq, Nat.reduceEqDiff, Int.reduceLT, Int.reduceLE, not_true_eq_false, not_false_eq_true, ↓reduceIte]
      rw [w32_id (by omega) (by omega), Int.add_assoc])
  refine ⟨J, ⟨k1.1, k1.2.1, k1.2.2.1, k1.2.2.2.1, ?_⟩, ?_⟩
  · have := k1.2.2.2.2
    unfold yQuar
    omega
  · refine Eq.trans ?_ k2
    try dsimp only
    rw [Int.add_zero]
    rfl
theorem c_passYears (c : Cty h a) (ha : a < 290) (S : St h I a w) {n : Nat} (hn : n ≤ 100) : ∃ J, (Cg a I J ∧ St h J a (goY w n).1 ∧ (goY w n).1 0 = w 0) ∧ Cl sc (d + 6) mX0_passYears [Vr (some a), Vi (n : Int)] (hI h I) = some (.inl (Vi (goY w n).2), hI h J) := by
  obtain ⟨J, k1, k2⟩ := lpG (X := fun i (s : am_Wd × Int × am_V) J => Ru sc (d + 6) mX0_passYears 5 [Vr (some a), Vi (n : Int), Vi s.2.1, Vi (i : Int), s.2.2] [] (hI h J)) (G := fun _ v => ((oneY v.1).1, v.2.1 + (oneY v.1).2, Vi ((v.1 0).toNat : Int))) (K := fun i s J => Cg a I J ∧ St h J a s.1 ∧ s.1 0 = w 0 ∧ 0 ≤ s.2.1 ∧ s.2.1 ≤ 6 * i) (s0 := (w, 0, Vx 0)) (I := I) ⟨Cg.rf a I, S, rfl, (by dsimp only; omega), (by dsimp only; omega)⟩ (N := n) (fun i s J hi k => by
    obtain ⟨v, q, u⟩ := s
    dsimp only at k
    have hq1 : 0 ≤ q ∧ q ≤ 1000000 := by omega
    have hlt0 : (i : Int) < (n : Int) := by omega
    have hF := k.2.1.2.1.fa
    have hlt : ¬ ((v 0).toNat : Int) < v 0 := by omega
    have hi9 : i < 2147483647 := by omega
    obtain ⟨J1, k1, r1⟩ := c_yGrow (sc := sc) (d := d) c ha k.2.1 (i1 := n) (i2 := q) (i3 := i)
    obtain ⟨J2, k2, r2⟩ := c_yFret (sc := sc) (d := d) c ha k1.2.1 (i1 := n) (i2 := q) (i3 := i)
    obtain ⟨J3, k3, r3⟩ := c_yQuar (sc := sc) (d := d) c ha k2.2.1 (i1 := n) (i3 := i) (p := q) hq1
    have e0 : yFret (yGrow v) 0 = v 0 := k2.2.2.trans k1.2.2
    have e9 : oneY v = (yEnd (yQuar (yFret (yGrow v))).1, (yQuar (yFret (yGrow v))).2) := rfl
    rw [e0] at k3 r3
    have c1 := k.1.tr (k1.1.tr (k2.1.tr k3.1))
    clear k1 k2
    generalize yQuar (yFret (yGrow v)) = Q at k3 r3 e9
    obtain ⟨J4, g4, R4, r4⟩ := c_endYear (sc := sc) (d := d + 3) c k3.2.1.1 k3.2.1.2.1
    have hb := yb k.2.2.2 k3.2.2.2
    refine ⟨J4, ?_, ?_⟩
    · dsimp only
      rw [e9]
      exact ⟨c1.tr g4, k3.2.1.go ha g4 R4 (yEnd_w k3.2.1.2.1) yEnd_t, yEnd_0.trans (k3.2.2.1.trans k.2.2.1), hb.1, hb.2⟩
    · dsimp only
      rw [e9, q_X0_passYears_5, if_pos hlt0, r1, r2, r3, q_X0_passYears_34]
      simp (disch := first | (simp (disch := omega) only [w32_id]; omega) | omega) only [↓BC c, k3.2.1.1.fa, k3.2.2.1, hlt, r4, w32_succ hi9, e_clI, e_clV, e_clP, e_clIx, e_clVx, e_clPx, e_xt, Int.toNat_natCast, Int.reduceToNat, bz0, bz1, Nat.add_zero, decide_eq_false_iff_not, decide_eq_true_eq, Int.reduceEq, Nat.reduceEqDiff, Int.reduceLT, Int.reduceLE, not_true_eq_false, not_false_eq_true, ↓reduceIte])
  have e := go3 w n
  dsimp only at k1 k2
  rw [e.1, e.2] at k1
  rw [e.2] at k2
  refine ⟨J, ⟨k1.1, k1.2.1, k1.2.2.1⟩, ?_⟩
  rw [q_X0_passYears_0]
  refine k2.trans ?_
  rw [q_X0_passYears_5, if_neg (Int.lt_irrefl _)]
end
