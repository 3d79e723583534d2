/-! WIDE, ALL, GAPS, LOSES -/
def mxF (f : Nat → Int) : Nat → Int
  | 0 => 0
  | n + 1 => max (mxF f n) (f n)
theorem mxF_le {f g : Nat → Int} : ∀ {n m : Nat}, (∀ i, i < n → f i ≤ 0 ∨ ∃ j, j < m ∧ f i ≤ g j) → mxF f n ≤ mxF g m := by
  have ub : ∀ (g : Nat → Int) (m : Nat), 0 ≤ mxF g m ∧ ∀ j, j < m → g j ≤ mxF g m := by
    intro g m
    induction m with
    | zero => exact ⟨Int.le_refl 0, fun j hj => absurd hj (Nat.not_lt_zero j)⟩
    | succ m ih =>
      refine ⟨?_, fun j hj => ?_⟩
      · show 0 ≤ max (mxF g m) (g m)
        have := ih.1
        omega
      · show g j ≤ max (mxF g m) (g m)
        by_cases e : j = m
        · rw [e]
          omega
        · have := ih.2 j (by omega)
          omega
  intro n m
  induction n with
  | zero => exact fun _ => (ub g m).1
  | succ n ih =>
    intro h
    have h1 := ih (fun i hi => h i (by omega))
    have h2 : f n ≤ mxF g m := by
      rcases h n (Nat.lt_succ_self n) with h3 | ⟨j, hj, h3⟩
      · have := (ub g m).1
        omega
      · have := (ub g m).2 j hj
        omega
    show max (mxF f n) (f n) ≤ _
    omega
/-- all of the first n families' homes bear one name -/
def tgW (w : am_Wd) (lb : Nat → Nat) : Nat → Bool
  | 0 => true
  | n + 1 => tgW w lb n && (decide (n = 0) || decide (lb (w 307).toNat = lb (w (307 + 4 * n)).toNat))
theorem tgW_cg {w : am_Wd} (V : WW w) {lb mb : Nat → Nat} (k : ∀ u v, u < 36 → v < 36 → (lb u = lb v ↔ mb u = mb v)) : ∀ {n : Nat}, n ≤ 6 → tgW w lb n = tgW w mb n
  | 0, _ => rfl
  | n + 1, hn => by
    have v0 := V.fm (f := 0) (by omega)
    have vn := V.fm (f := n) (by omega)
    show (tgW w lb n && _) = (tgW w mb n && _)
    rw [tgW_cg V k (n := n) (by omega)]
    congr 2
    rw [decide_eq_decide]
    exact k _ _ (by have : 307 + 4 * 0 = 307 := rfl; rw [this] at v0; omega) (by omega)
section
variable {sc : Nat × (Nat → Int)} {d a : Nat} {h : am_H} {I J : am_I} {w : am_Wd}
theorem p_wide (r : Rel h I) {x : Int} : Pub h I (Cl sc (d + 30) mX11_wide [Vr (some 0), Vi x]) (Cl sc (d + 30) mX12_wide [Vr (some 283), Vi x]) cdA := by
  have R := r.R
  have V := r.V
  by_cases hx : 0 ≤ x ∧ x ≤ 999
  · obtain ⟨J, lb, ⟨k1, k2⟩, k3⟩ := c_ofCells (sc := sc) (d := d + 27) (t := x) (x := -1) r.1 r.c (by omega) R V
    refine pubQ (x := 0) (v := mxF (fun u => nn (fun v => decide (lb v = lb u)) 36) 36) (v' := mxF (fun u => nn (fun v => decide (lb v = lb u)) 36) 36) r (CO.ok (J := J) ?_ k1.sm) (fun h1 J1 r1 e1 => ?_) (fun _ => rfl)
    · have go : ∀ n, n ≤ 36 → Ru sc (d + 29) mX8_mostNodes 5 [Vr (some 48), Vi 0, Vi 0] [] (hI h J) = Ru sc (d + 29) mX8_mostNodes 5 [Vr (some 48), Vi (mxF (fun u => nn (fun v => decide (lb v = lb u)) 36) n), Vi (n : Int)] [] (hI h J) := by
        intro n
        induction n with
        | zero => exact fun _ => rfl
        | succ n ih =>
          intro hn
          have hlt : (n : Int) < 36 := by omega
          have k4 := c_nodesWith (sc := sc) (d := d + 27) (u := n) r.1 k2 (by omega) (by omega)
          have h48 : J 48 4 = 36 := k2.2.2.2.2.1
          rw [ih (by omega), q_X8_mostNodes_5]
          simp (disch := first | (simp (disch := omega) only [w32_id]; omega) | omega) only [↓BP r.1, h48, hlt, k4, c_max, w32_succ, e_clI, e_clV, e_clP, e_clIx, e_clVx, e_clPx, e_xt, Int.toNat_natCast, Int.reduceToNat, bz0, bz1, Nat.add_zero, decide_eq_false_iff_not, decide_eq_true_eq, Int.reduceEq, Nat.reduceEqDiff, Int.reduceLT, Int.reduceLE, not_true_eq_false, not_false_eq_true, eq_self, ↓reduceIte]
          rfl
      have h48 : J 48 4 = 36 := k2.2.2.2.2.1
      have hlt : ¬ ((36 : Nat) : Int) < 36 := by omega
      rw [q_X11_wide_0]
      simp (disch := first | (simp (disch := omega) only [w32_id]; omega) | omega) only [↓BO r.1, ↓BP r.1, c_nH hx, k3, e_clI, e_clV, e_clP, e_clIx, e_clVx, e_clPx, e_xt, Int.toNat_natCast, Int.reduceToNat, bz0, bz1, Nat.add_zero, decide_eq_false_iff_not, decide_eq_true_eq, Int.reduceEq, Nat.reduceEqDiff, Int.reduceLT, Int.reduceLE, not_true_eq_false, not_false_eq_true, eq_self, ↓reduceIte]
      rw [q_X8_mostNodes_0, go 36 (Nat.le_refl 36), q_X8_mostNodes_5]
      simp (disch := first | (simp (disch := omega) only [w32_id]; omega) | omega) only [↓BP r.1, h48, hlt, e_clI, e_clV, e_clP, e_clIx, e_clVx, e_clPx, e_xt, Int.toNat_natCast, Int.reduceToNat, bz0, bz1, Nat.add_zero, decide_eq_false_iff_not, decide_eq_true_eq, Int.reduceEq, Nat.reduceEqDiff, Int.reduceLT, Int.reduceLE, not_true_eq_false, not_false_eq_true, eq_self, ↓reduceIte]
    · obtain ⟨K, mb, m1, m2, m3, m4, m5⟩ := m_laysLands (sc := sc) (d := d + 23) (I := am_u2 J1 283 0 0) (t := x) r1.1 rfl
      rw [w283, e1.w, u2_j (by decide), u2_j (by decide), rel18 r1, rel19 r1, ← opE_f] at m4
      have kk := kern k2.1.2 m4
      have e : mxF (fun u => nn (fun v => decide (lb v = lb u)) 36) 36 = mxF (fun c => nn (fun v => decide (mb v = c)) 36) 36 := by
        have e0 : ∀ u, u < 36 → nn (fun v => decide (lb v = lb u)) 36 = nn (fun v => decide (mb v = mb u)) 36 := fun u hu => nn_cg (fun v hv => by
          rw [decide_eq_decide]
          exact kk v u hv hu)
        refine Int.le_antisymm (mxF_le (fun u hu => Or.inr ⟨mb u, (m3 u hu).1, by rw [e0 u hu]; exact Int.le_refl _⟩)) (mxF_le (fun c hc => ?_))
        by_cases g : ∃ u, u < 36 ∧ mb u = c
        · obtain ⟨u, hu, e2⟩ := g
          refine Or.inr ⟨u, hu, ?_⟩
          rw [e0 u hu, e2]
          exact Int.le_refl _
        · refine Or.inl ?_
          rw [nn_zero (fun u hu => decide_eq_false (fun e2 => g ⟨u, hu, e2⟩))]
          exact Int.le_refl _
      have go : ∀ n, n ≤ 36 → Ru sc (d + 30) mX12_wide 15 [Vr (some 283), Vi x, Vi 0, Vi 0] [] (hI h1 K) = Ru sc (d + 30) mX12_wide 15 [Vr (some 283), Vi x, Vi (mxF (fun c => nn (fun v => decide (mb v = c)) 36) n), Vi (n : Int)] [] (hI h1 K) := by
        intro n
        induction n with
        | zero => exact fun _ => rfl
        | succ n ih =>
          intro hn
          have hlt : (n : Int) < 36 := by omega
          have k4 := m_sizeOf (sc := sc) (d := d + 27) (x := n) r1.1 m2
          rw [ih (by omega), q_X12_wide_15]
          simp (disch := first | (simp (disch := omega) only [w32_id]; omega) | omega) only [↓BM r1.1, hlt, k4, c_max, w32_succ, e_clI, e_clV, e_clP, e_clIx, e_clVx, e_clPx, e_xt, Int.toNat_natCast, Int.reduceToNat, bz0, bz1, Nat.add_zero, decide_eq_false_iff_not, decide_eq_true_eq, Int.reduceEq, Nat.reduceEqDiff, Int.reduceLT, Int.reduceLE, not_true_eq_false, not_false_eq_true, eq_self, ↓reduceIte]
          rfl
      have hlt : ¬ ((36 : Nat) : Int) < 36 := by omega
      refine MO.okJ (J := K) ?_ (s283.tr m1.sm) (by rw [m1 283 (by decide)]; exact u2_same)
      rw [q_X12_wide_0]
      simp (disch := first | (simp (disch := omega) only [w32_id]; omega) | omega) only [↓BM r1.1, m_wrongHeight r1.1 hx, m5, e_clI, e_clV, e_clP, e_clIx, e_clVx, e_clPx, e_xt, Int.toNat_natCast, Int.reduceToNat, bz0, bz1, Nat.add_zero, decide_eq_false_iff_not, decide_eq_true_eq, Int.reduceEq, Nat.reduceEqDiff, Int.reduceLT, Int.reduceLE, not_true_eq_false, not_false_eq_true, eq_self, ↓reduceIte]
      rw [go 36 (Nat.le_refl 36), q_X12_wide_15, if_neg hlt, e]
  · refine pubQ (x := 1) (v := 0) (v' := 0) r (CO.no (J := I) (by decide) ?_ (Same.rf I)) (fun h1 J1 r1 e1 => ?_) (fun h => absurd h (by decide))
    · rw [q_X11_wide_0]
      simp (disch := first | (simp (disch := omega) only [w32_id]; omega) | omega) only [c_nHx hx, hI_exI, e_clI, e_clV, e_clP, e_clIx, e_clVx, e_clPx, e_xt, Int.toNat_natCast, Int.reduceToNat, bz0, bz1, Nat.add_zero, decide_eq_false_iff_not, decide_eq_true_eq, Int.reduceEq, Nat.reduceEqDiff, Int.reduceLT, Int.reduceLE, not_true_eq_false, not_false_eq_true, eq_self, ↓reduceIte]
    · refine MO.thr ?_
      rw [q_X12_wide_0]
      simp (disch := first | (simp (disch := omega) only [w32_id]; omega) | omega) only [↓BM r1.1, m_wrongHeightx r1.1 hx, e_clI, e_clV, e_clP, e_clIx, e_clVx, e_clPx, e_xt, Int.toNat_natCast, Int.reduceToNat, bz0, bz1, Nat.add_zero, decide_eq_false_iff_not, decide_eq_true_eq, Int.reduceEq, Nat.reduceEqDiff, Int.reduceLT, Int.reduceLE, not_true_eq_false, not_false_eq_true, eq_self, ↓reduceIte]
      try rfl
theorem c_homes (s : Sh h) (R : CRep I 11 (I 284)) (V : WW (I 284)) {t : Int} : ∃ J lb, (Ps I J ∧ PcI lc mc (opE (I 284) t (-1)) 36 60 lb J) ∧ Cl sc (d + 3) mX11_areHomesTogether [Vr (some 0), Vi t] (hI h I) = some (.inl (Vi (bz (tgW (I 284) lb (I 284 0).toNat))), hI h J) := by
  have c := cty_of s isC_now
  have hF := V.fa
  obtain ⟨J, lb, ⟨k1, k2⟩, k3⟩ := c_ofCells (sc := sc) (d := d) (t := t) (x := -1) s c (by omega) R V
  have R2 : CRep J 11 (I 284) := k1.ks.c (by omega) R
  refine ⟨J, lb, ⟨k1, k2⟩, ?_⟩
  have hhm : ∀ f, f < 6 → ∃ z : Nat, I 284 (307 + 4 * f) = z ∧ z < 36 := fun f hf => by
    have := V.fm hf
    exact ⟨(I 284 (307 + 4 * f)).toNat, by omega, by omega⟩
  have hend : ∀ n, ¬ (n : Int) < I 284 0 → Ru sc (d + 3) mX11_areHomesTogether 10 [Vr (some 0), Vi t, Vi (n : Int)] [] (hI h J) = some (.inl (Vi 1), hI h J) := fun n hlt => by
    rw [q_X11_areHomesTogether_10]
    simp (disch := first | (simp (disch := omega) only [w32_id]; omega) | omega) only [↓BO s, ↓BC c, R2.fa, hlt, e_clI, e_clV, e_clP, e_clIx, e_clVx, e_clPx, e_xt, Int.toNat_natCast, Int.reduceToNat, bz0, bz1, Nat.add_zero, decide_eq_false_iff_not, decide_eq_true_eq, Int.reduceEq, Nat.reduceEqDiff, Int.reduceLT, Int.reduceLE, not_true_eq_false, not_false_eq_true, eq_self, ↓reduceIte]
  have go : ∀ m n, 1 ≤ n → n + m = (I 284 0).toNat → tgW (I 284) lb n = true → Ru sc (d + 3) mX11_areHomesTogether 10 [Vr (some 0), Vi t, Vi (n : Int)] [] (hI h J) = some (.inl (Vi (bz (tgW (I 284) lb (n + m)))), hI h J) := by
    intro m
    induction m with
    | zero =>
      intro n h1 hn ht
      rw [hend n (by omega), Nat.add_zero, ht]
      rfl
    | succ m ih =>
      intro n h1 hn ht
      have hlt : (n : Int) < I 284 0 := by omega
      obtain ⟨z0, a0, b0⟩ := hhm 0 (by omega)
      obtain ⟨z1, a1, b1⟩ := hhm n (by omega)
      have o0 := R2.ho (f := 0) (by omega)
      have o1 := R2.ho (f := n) (by omega)
      have a0' : I 284 307 = z0 := a0
      have k4 := c_areTogether (sc := sc) (d := d + 1) s k2 (by omega) b0 b1
      have es : tgW (I 284) lb (n + 1) = decide (lb z0 = lb z1) := by
        show (tgW (I 284) lb n && (decide (n = 0) || decide (lb (I 284 307).toNat = lb (I 284 (307 + 4 * n)).toNat))) = _
        rw [ht, Bool.true_and, decide_eq_false (show ¬ n = 0 by omega), Bool.false_or, a0', a1, Int.toNat_natCast, Int.toNat_natCast]
      rw [q_X11_areHomesTogether_10]
      simp (disch := first | (simp (disch := omega) only [w32_id]; omega) | omega) only [↓BO s, ↓BC c, ↓BP s, R2.fa, hlt, o0, o1, a0, a1, k4, w32_succ, e_clI, e_clV, e_clP, e_clIx, e_clVx, e_clPx, e_xt, Int.toNat_natCast, Int.reduceToNat, bz0, bz1, Nat.add_zero, decide_eq_false_iff_not, decide_eq_true_eq, Int.reduceEq, Nat.reduceEqDiff, Int.reduceLT, Int.reduceLE, not_true_eq_false, not_false_eq_true, eq_self, ↓reduceIte]
      by_cases g : lb z0 = lb z1
      · rw [if_neg (fun z => z g)]
        have := ih (n + 1) (by omega) (by omega) (by rw [es]; exact decide_eq_true g)
        rw [this, show n + 1 + m = n + (m + 1) by omega]
      · rw [if_pos g]
        have hf : ∀ k, tgW (I 284) lb (n + 1 + k) = false := by
          intro k
          induction k with
          | zero => rw [Nat.add_zero, es]; exact decide_eq_false g
          | succ k ihk =>
            show (tgW (I 284) lb (n + 1 + k) && _) = false
            rw [ihk, Bool.false_and]
        rw [show n + (m + 1) = n + 1 + m by omega, hf m]
        rfl
  rw [q_X11_areHomesTogether_0]
  simp (disch := first | (simp (disch := omega) only [w32_id]; omega) | omega) only [↓BO s, ↓BP s, k3, e_clI, e_clV, e_clP, e_clIx, e_clVx, e_clPx, e_xt, Int.toNat_natCast, Int.reduceToNat, bz0, bz1, Nat.add_zero, decide_eq_false_iff_not, decide_eq_true_eq, Int.reduceEq, Nat.reduceEqDiff, Int.reduceLT, Int.reduceLE, not_true_eq_false, not_false_eq_true, eq_self, ↓reduceIte]
  by_cases h0 : (I 284 0).toNat = 0
  · have h1 : ¬ ((1 : Nat) : Int) < I 284 0 := by omega
    have := hend 1 h1
    rw [h0]
    exact this
  · have h1 : tgW (I 284) lb 1 = true := rfl
    have := go ((I 284 0).toNat - 1) 1 (Nat.le_refl 1) (by omega) h1
    rw [show 1 + ((I 284 0).toNat - 1) = (I 284 0).toNat by omega] at this
    exact this
theorem m_allMeet (s : Sh h) (V : WW (I 284)) {t : Int} : ∃ J mb, Fl I J ∧ (∀ u v, u < 36 → v < 36 → (mb u = mb v ↔ conn lc mc (fun b => opS (I 284) (I 283 18) (I 283 19) b t) 60 u v)) ∧ Cl sc (d + 7) mX12_allMeet [Vr (some 283), Vi t] (hI h I) = some (.inl (Vi (bz (tgW (I 284) mb (I 284 0).toNat))), hI h J) := by
  have hF := V.fa
  obtain ⟨K, mb, m1, m2, m3, m4, m5⟩ := m_laysLands (sc := sc) (d := d) (I := I) (t := t) s rfl
  refine ⟨K, mb, m1, m4, ?_⟩
  have f284 : K 284 = I 284 := m1 284 (by decide)
  have hhm : ∀ f, f < 6 → ∃ z : Nat, I 284 (307 + 4 * f) = z ∧ z < 36 := fun f hf => by
    have := V.fm hf
    exact ⟨(I 284 (307 + 4 * f)).toNat, by omega, by omega⟩
  have hlt0 : ¬ (((I 284 0).toNat : Nat) : Int) < I 284 0 := by omega
  rw [q_X12_allMeet_0]
  simp (disch := first | (simp (disch := omega) only [w32_id]; omega) | omega) only [↓BM s, m5, e_clI, e_clV, e_clP, e_clIx, e_clVx, e_clPx, e_xt, Int.toNat_natCast, Int.reduceToNat, bz0, bz1, Nat.add_zero, decide_eq_false_iff_not, decide_eq_true_eq, Int.reduceEq, Nat.reduceEqDiff, Int.reduceLT, Int.reduceLE, not_true_eq_false, not_false_eq_true, eq_self, ↓reduceIte]
  by_cases h0 : (I 284 0).toNat = 0
  · have h1 : ¬ (1 : Int) < I 284 0 := by omega
    rw [q_X12_allMeet_9]
    simp (disch := first | (simp (disch := omega) only [w32_id]; omega) | omega) only [↓BM s, m_families s, f284, h1, e_clI, e_clV, e_clP, e_clIx, e_clVx, e_clPx, e_xt, Int.toNat_natCast, Int.reduceToNat, bz0, bz1, Nat.add_zero, decide_eq_false_iff_not, decide_eq_true_eq, Int.reduceEq, Nat.reduceEqDiff, Int.reduceLT, Int.reduceLE, not_true_eq_false, not_false_eq_true, eq_self, ↓reduceIte]
    rw [h0]
    rfl
  · have go : ∀ n, 1 ≤ n → n ≤ (I 284 0).toNat → Ru sc (d + 7) mX12_allMeet 9 [Vr (some 283), Vi t, Vi 1, Vi 1] [] (hI h K) = Ru sc (d + 7) mX12_allMeet 9 [Vr (some 283), Vi t, Vi (bz (tgW (I 284) mb n)), Vi (n : Int)] [] (hI h K) := by
      intro n hn1
      induction n with
      | zero => exact absurd hn1 (by omega)
      | succ n ih =>
        intro hn
        by_cases hn0 : n = 0
        · subst hn0
          rfl
        · have hlt : (n : Int) < I 284 0 := by omega
          obtain ⟨z0, a0, b0⟩ := hhm 0 (by omega)
          obtain ⟨z1, a1, b1⟩ := hhm n (by omega)
          have a0' : I 284 307 = z0 := a0
          have q0 := m2 z0 b0
          have q1 := m2 z1 b1
          have es : tgW (I 284) mb (n + 1) = (tgW (I 284) mb n && decide (mb z0 = mb z1)) := by
            show (tgW (I 284) mb n && (decide (n = 0) || decide (mb (I 284 307).toNat = mb (I 284 (307 + 4 * n)).toNat))) = _
            rw [decide_eq_false hn0, Bool.false_or, a0', a1, Int.toNat_natCast, Int.toNat_natCast]
          have o0 := m_ofFamily (sc := sc) (d := d + 4) (I := K) (f := 0) (k := 0) s (by decide) (by decide)
          have o0' : Cl sc (d + 6) mX12_ofFamily [Vr (some 283), Vi 0, Vi 0] (hI h K) = some (.inl (Vi (z0 : Int)), hI h K) := by
            refine o0.trans ?_
            rw [f284]
            exact lf a0
          rw [ih (by omega) (by omega), q_X12_allMeet_9, es]
          cases ht : tgW (I 284) mb n
          · simp (disch := first | (simp (disch := omega) only [w32_id]; omega) | omega) only [↓BM s, m_families s, f284, hlt, w32_succ, e_clI, e_clV, e_clP, e_clIx, e_clVx, e_clPx, e_xt, Int.toNat_natCast, Int.reduceToNat, bz0, bz1, Nat.add_zero, decide_eq_false_iff_not, decide_eq_true_eq, Int.reduceEq, Nat.reduceEqDiff, Int.reduceLT, Int.reduceLE, not_true_eq_false, not_false_eq_true, eq_self, ↓reduceIte]
            rfl
          · simp (disch := first | (simp (disch := omega) only [w32_id]; omega) | omega) only [↓BM s, m_families s, f284, hlt, m_ofFamily s, a1, q1, o0', q0, w32_succ, Bool.true_eq_false, e_clI, e_clV, e_clP, e_clIx, e_clVx, e_clPx, e_xt, Int.toNat_natCast, Int.reduceToNat, bz0, bz1, Nat.add_zero, decide_eq_false_iff_not, decide_eq_true_eq, Int.reduceEq, Nat.reduceEqDiff, Int.reduceLT, Int.reduceLE, not_true_eq_false, not_false_eq_true, eq_self, ↓reduceIte]
            by_cases g : mb z0 = mb z1
            · rw [if_pos (by omega), decide_eq_true g]
              rfl
            · rw [if_neg (by omega), decide_eq_false g]
              rfl
    rw [go (I 284 0).toNat (by omega) (Nat.le_refl _), q_X12_allMeet_9]
    simp (disch := first | (simp (disch := omega) only [w32_id]; omega) | omega) only [↓BM s, m_families s, f284, hlt0, e_clI, e_clV, e_clP, e_clIx, e_clVx, e_clPx, e_xt, Int.toNat_natCast, Int.reduceToNat, bz0, bz1, Nat.add_zero, decide_eq_false_iff_not, decide_eq_true_eq, Int.reduceEq, Nat.reduceEqDiff, Int.reduceLT, Int.reduceLE, not_true_eq_false, not_false_eq_true, eq_self, ↓reduceIte]
    rw [e_ret1 (bz01 _)]
theorem p_all (r : Rel h I) {x : Int} : Pub h I (Cl sc (d + 30) mX11_all [Vr (some 0), Vi x]) (Cl sc (d + 30) mX12_all [Vr (some 283), Vi x]) cdA := by
  have R := r.R
  have V := r.V
  have hF := V.fa
  by_cases hx : 0 ≤ x ∧ x ≤ 999
  · obtain ⟨J, lb, ⟨k1, k2⟩, k3⟩ := c_homes (sc := sc) (d := d + 26) (t := x) r.1 R V
    refine pubQ (x := 0) (v := bz (tgW (I 284) lb (I 284 0).toNat)) (v' := bz (tgW (I 284) lb (I 284 0).toNat)) r (CO.ok (J := J) ?_ k1.sm) (fun h1 J1 r1 e1 => ?_) (fun _ => rfl)
    · rw [q_X11_all_0]
      simp (disch := first | (simp (disch := omega) only [w32_id]; omega) | omega) only [↓BO r.1, c_nH hx, k3, e_ret1 (bz01 _), e_clI, e_clV, e_clP, e_clIx, e_clVx, e_clPx, e_xt, Int.toNat_natCast, Int.reduceToNat, bz0, bz1, Nat.add_zero, decide_eq_false_iff_not, decide_eq_true_eq, Int.reduceEq, Nat.reduceEqDiff, Int.reduceLT, Int.reduceLE, not_true_eq_false, not_false_eq_true, eq_self, ↓reduceIte]
    · have V2 : WW (am_u2 J1 283 0 0 284) := by rw [w283, e1.w]; exact V
      obtain ⟨K, mb, m1, m4, m5⟩ := m_allMeet (sc := sc) (d := d + 22) (I := am_u2 J1 283 0 0) (t := x) r1.1 V2
      rw [w283, e1.w] at m5
      rw [w283, e1.w, u2_j (by decide), u2_j (by decide), rel18 r1, rel19 r1, ← opE_f] at m4
      have e := tgW_cg V (kern k2.1.2 m4) (n := (I 284 0).toNat) (by omega)
      refine MO.okJ (J := K) ?_ (s283.tr m1.sm) (by rw [m1 283 (by decide)]; exact u2_same)
      rw [q_X12_all_0]
      simp (disch := first | (simp (disch := omega) only [w32_id]; omega) | omega) only [↓BM r1.1, m_wrongHeight r1.1 hx, m5, e_clI, e_clV, e_clP, e_clIx, e_clVx, e_clPx, e_xt, Int.toNat_natCast, Int.reduceToNat, bz0, bz1, Nat.add_zero, decide_eq_false_iff_not, decide_eq_true_eq, Int.reduceEq, Nat.reduceEqDiff, Int.reduceLT, Int.reduceLE, not_true_eq_false, not_false_eq_true, eq_self, ↓reduceIte]
      rw [e]
      cases tgW (I 284) mb (I 284 0).toNat <;> rfl
  · refine pubQ (x := 1) (v := 0) (v' := 0) r (CO.no (J := I) (by decide) ?_ (Same.rf I)) (fun h1 J1 r1 e1 => ?_) (fun h => absurd h (by decide))
    · rw [q_X11_all_0]
      simp (disch := first | (simp (disch := omega) only [w32_id]; omega) | omega) only [c_nHx hx, hI_exI, e_clI, e_clV, e_clP, e_clIx, e_clVx, e_clPx, e_xt, Int.toNat_natCast, Int.reduceToNat, bz0, bz1, Nat.add_zero, decide_eq_false_iff_not, decide_eq_true_eq, Int.reduceEq, Nat.reduceEqDiff, Int.reduceLT, Int.reduceLE, not_true_eq_false, not_false_eq_true, eq_self, ↓reduceIte]
    · refine MO.thr ?_
      rw [q_X12_all_0]
      simp (disch := first | (simp (disch := omega) only [w32_id]; omega) | omega) only [↓BM r1.1, m_wrongHeightx r1.1 hx, e_clI, e_clV, e_clP, e_clIx, e_clVx, e_clPx, e_xt, Int.toNat_natCast, Int.reduceToNat, bz0, bz1, Nat.add_zero, decide_eq_false_iff_not, decide_eq_true_eq, Int.reduceEq, Nat.reduceEqDiff, Int.reduceLT, Int.reduceLE, not_true_eq_false, not_false_eq_true, eq_self, ↓reduceIte]
      try rfl
end
