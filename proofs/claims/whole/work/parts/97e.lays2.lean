/-! LANDS BY BOTH -/
section
variable {sc : Nat × (Nat → Int)} {d a : Nat} {h : am_H} {I J : am_I} {E : Nat → Bool} {mb : Nat → Nat} {t : Int} {w : am_Wd}
theorem opE_S {w : am_Wd} {t su : Int} {b : Nat} : opS w su (-1) b t = opE w t su b := by
  unfold opS opE
  rw [decide_eq_false (show ¬ (b : Int) = -1 by omega), Bool.false_or]
theorem m_laysLands (s : Sh h) (hE : E = fun b => opS (I 284) (I 283 18) (I 283 19) b t) : ∃ (J : am_I) (mb : Nat → Nat), Fl I J ∧ (∀ u, u < 36 → J 296 u = (mb u : Int)) ∧ (∀ u, u < 36 → mb u < 36 ∧ mb (mb u) = mb u) ∧ (∀ u v, u < 36 → v < 36 → (mb u = mb v ↔ conn lc mc E 60 u v)) ∧ Cl sc (d + 6) mX12_laysLands [Vr (some 283), Vi t] (hI h I) = some (.inl (Vi (nn (fun u => decide (mb u = u)) 36)), hI h J) := by
  obtain ⟨J0, j1, j2⟩ := lpG (X := fun i (_ : Unit) J => Ru sc (d + 6) mX12_laysLands 3 [Vr (some 283), Vi t, Vi (i : Int), Vx 0, Vx 0, Vx 0, Vx 0] [] (hI h J)) (G := fun _ z => z) (K := fun i _ K => Fl I K ∧ ∀ u, u < i → K 296 u = (u : Int)) (s0 := ()) (I := I) ⟨Fl.rf I, fun u hu => absurd hu (Nat.not_lt_zero u)⟩ (N := 36) (fun i _ K hi k => by
    have hlt : (i : Int) < 36 := by omega
    refine ⟨am_u2 K 296 i i, ⟨fun p hp => (u2_o hp).trans (k.1 p hp), fun u hu => ?_⟩, ?_⟩
    · by_cases g : u = i
      · rw [g, u2_same]
      · rw [u2_j g]
        exact k.2 u (by omega)
    · try dsimp only
      rw [q_X12_laysLands_3]
      simp (disch := first | (simp (disch := omega) only [w32_id]; omega) | omega) only [↓BM s, hlt, w32_succ, e_clI, e_clV, e_clP, e_clIx, e_clVx, e_clPx, e_xt, Int.toNat_natCast, Int.reduceToNat, bz0, bz1, Nat.add_zero, decide_eq_false_iff_not, decide_eq_true_eq, Int.reduceEq, Nat.reduceEqDiff, Int.reduceLT, Int.reduceLE, not_true_eq_false, not_false_eq_true, eq_self, ↓reduceIte])
  have hall : ∀ (N : Nat) (J : am_I) (mb : Nat → Nat) (u4 u5 u6 u3 : am_V), Fl I J → (∀ u, u < 36 → J 296 u = (mb u : Int)) → LI E mb → rps mb ≤ N → ∃ (K : am_I) (mb2 : Nat → Nat) (v4 v5 v6 u3' : am_V), Fl I K ∧ (∀ u, u < 36 → K 296 u = (mb2 u : Int)) ∧ LI E mb2 ∧ (∀ b, b < 60 → E b = true → mb2 (lc b) = mb2 (mc b)) ∧ Ru sc (d + 6) mX12_laysLands 16 [Vr (some 283), Vi t, Vi 1, u3, u4, u5, u6] [] (hI h J) = Ru sc (d + 6) mX12_laysLands 16 [Vr (some 283), Vi t, Vi 0, u3', v4, v5, v6] [] (hI h K) := by
    intro N
    induction N with
    | zero =>
      intro J mb u4 u5 u6 u3 hJ0 hJ L hN
      obtain ⟨K, mb2, ch, v3, v4, v5, v6, k1, k2, k3, k4, k5, k6, k7⟩ := m_lround (sc := sc) (d := d) s hE hJ0 hJ L (u4 := u4) (u5 := u5) (u6 := u6)
      rcases k4 with rfl | rfl
      · refine ⟨K, mb2, v4, v5, v6, v3, k1, k2, k3, k5 rfl, ?_⟩
        rw [q_X12_laysLands_16, if_neg (by decide)]
        exact k7
      · have h1 := k6 rfl
        have h2 : 0 ≤ rps mb2 := nn_b.1
        exact absurd h1 (by omega)
    | succ N ih =>
      intro J mb u4 u5 u6 u3 hJ0 hJ L hN
      obtain ⟨K, mb2, ch, v3, v4, v5, v6, k1, k2, k3, k4, k5, k6, k7⟩ := m_lround (sc := sc) (d := d) s hE hJ0 hJ L (u4 := u4) (u5 := u5) (u6 := u6)
      rcases k4 with rfl | rfl
      · refine ⟨K, mb2, v4, v5, v6, v3, k1, k2, k3, k5 rfl, ?_⟩
        rw [q_X12_laysLands_16, if_neg (by decide)]
        exact k7
      · have h1 := k6 rfl
        obtain ⟨K2, mb3, w4, w5, w6, w3, r1, r2, r3, r4, r5⟩ := ih K mb2 v4 v5 v6 v3 k1 k2 k3 (by omega)
        refine ⟨K2, mb3, w4, w5, w6, w3, r1, r2, r3, r4, ?_⟩
        rw [q_X12_laysLands_16, if_neg (by decide)]
        exact k7.trans r5
  have L0 : LI E (fun u => u) := ⟨fun u hu => ⟨hu, rfl⟩, fun u v _ _ e => by
    have e : u = v := e
    rw [e]
    exact conn.rf⟩
  obtain ⟨K, mb, v4, v5, v6, u3, k1, k2, k3, k4, k5⟩ := hall 36 J0 (fun u => u) (Vx 0) (Vx 0) (Vx 0) (Vx 0) j1.1 (fun u hu => j1.2 u hu) L0 nn_b.2
  refine ⟨K, mb, k1, k2, k3.1, fun u v hu hv => ⟨k3.2 u v hu hv, fun c => ?_⟩, ?_⟩
  · refine c (fun z => mb u = mb z) rfl (fun b hb hEb => ?_)
    try dsimp only
    rw [k4 b hb hEb]
  · have hr := sm_run (F := fun i z => Ru sc (d + 6) mX12_laysLands 85 [Vr (some 283), Vi t, Vi 0, Vi z, Vi (i : Int), v5, v6] [] (hI h K)) (f := fun u => if decide (mb u = u) = true then 1 else 0) (N := 36) (fun i hi => by
      have hlt : (i : Int) < 36 := by omega
      have hv := k2 i hi
      have hb : 0 ≤ nn (fun u => decide (mb u = u)) i ∧ nn (fun u => decide (mb u = u)) i ≤ i := nn_b
      unfold nn at hb
      try dsimp only
      rw [q_X12_laysLands_85]
      simp (disch := first | (simp (disch := omega) only [w32_id]; omega) | omega) only [↓BM s, hlt, hv, w32_succ, e_clI, e_clV, e_clP, e_clIx, e_clVx, e_clPx, e_xt, Int.toNat_natCast, Int.reduceToNat, bz0, bz1, Nat.add_zero, decide_eq_false_iff_not, decide_eq_true_eq, Int.reduceEq, Nat.reduceEqDiff, Int.reduceLT, Int.reduceLE, not_true_eq_false, not_false_eq_true, eq_self, ↓reduceIte]
      simp only [decide_eq_true_eq] at hb
      by_cases g : mb i = i
      · rw [if_pos (by omega), if_pos g, w32_id (by omega) (by omega)]
      · rw [if_neg (by omega), if_neg g, w32_id (by omega) (by omega)])
    rw [q_X12_laysLands_0]
    refine j2.trans ?_
    try dsimp only
    rw [q_X12_laysLands_3, if_neg (by omega)]
    refine k5.trans ?_
    rw [q_X12_laysLands_16, if_pos rfl]
    refine hr.trans ?_
    rw [q_X12_laysLands_85, if_neg (by omega)]
    rfl
theorem m_sizeOf (s : Sh h) (hJ : ∀ u, u < 36 → I 296 u = (mb u : Int)) {x : Nat} : Cl sc (d + 2) mX12_sizeOf [Vr (some 283), Vi (x : Int)] (hI h I) = some (.inl (Vi (nn (fun v => decide (mb v = x)) 36)), hI h I) := by
  have hr := sm_run (F := fun i z => Ru sc (d + 2) mX12_sizeOf 5 [Vr (some 283), Vi (x : Int), Vi z, Vi (i : Int)] [] (hI h I)) (f := fun u => if decide (mb u = x) = true then 1 else 0) (N := 36) (fun i hi => by
    have hlt : (i : Int) < 36 := by omega
    have hv := hJ i hi
    have hb : 0 ≤ nn (fun u => decide (mb u = x)) i ∧ nn (fun u => decide (mb u = x)) i ≤ i := nn_b
    unfold nn at hb
    try dsimp only
    rw [q_X12_sizeOf_5]
    simp (disch := first | (simp (disch := omega) only [w32_id]; omega) | omega) only [↓BM s, hlt, hv, w32_succ, e_clI, e_clV, e_clP, e_clIx, e_clVx, e_clPx, e_xt, Int.toNat_natCast, Int.reduceToNat, bz0, bz1, Nat.add_zero, decide_eq_false_iff_not, decide_eq_true_eq, Int.reduceEq, Nat.reduceEqDiff, Int.reduceLT, Int.reduceLE, not_true_eq_false, not_false_eq_true, eq_self, ↓reduceIte]
    simp only [decide_eq_true_eq] at hb
    by_cases g : mb i = x
    · rw [if_pos (by omega), if_pos g, w32_id (by omega) (by omega)]
    · rw [if_neg (by omega), if_neg g, w32_id (by omega) (by omega)])
  rw [q_X12_sizeOf_0]
  refine hr.trans ?_
  rw [q_X12_sizeOf_5, if_neg (by omega)]
  rfl
theorem m_wrongHeight (s : Sh h) {x : Int} (hx : 0 ≤ x ∧ x ≤ 999) : Cl sc (d + 3) mX12_wrongHeight [Vr (some 283), Vi x] (hI h I) = some (.inl (Vi 0), hI h (am_u2 I 283 0 0)) := by
  rw [q_X12_wrongHeight_0]
  simp (disch := first | (simp (disch := omega) only [w32_id]; omega) | omega) only [↓BM s, m_nH hx, m_t0 s, e_clI, e_clV, e_clP, e_clIx, e_clVx, e_clPx, e_xt, Int.toNat_natCast, Int.reduceToNat, bz0, bz1, Nat.add_zero, decide_eq_false_iff_not, decide_eq_true_eq, Int.reduceEq, Nat.reduceEqDiff, Int.reduceLT, Int.reduceLE, not_true_eq_false, not_false_eq_true, eq_self, ↓reduceIte]
  rfl
theorem m_wrongHeightx (s : Sh h) {x : Int} (hx : ¬ (0 ≤ x ∧ x ≤ 999)) : Cl sc (d + 3) mX12_wrongHeight [Vr (some 283), Vi x] (hI h I) = some (.inl (Vi 1), hI h (am_u2 (am_u2 I 283 0 0) 283 0 1)) := by
  rw [q_X12_wrongHeight_0]
  simp (disch := first | (simp (disch := omega) only [w32_id]; omega) | omega) only [↓BM s, m_nHx hx, m_t1 s, e_clI, e_clV, e_clP, e_clIx, e_clVx, e_clPx, e_xt, Int.toNat_natCast, Int.reduceToNat, bz0, bz1, Nat.add_zero, decide_eq_false_iff_not, decide_eq_true_eq, Int.reduceEq, Nat.reduceEqDiff, Int.reduceLT, Int.reduceLE, not_true_eq_false, not_false_eq_true, eq_self, ↓reduceIte]
  rfl
theorem rel18 (r : Rel h I) : I 283 18 = -1 := r.2.2.2.2.2.1
theorem rel19 (r : Rel h I) : I 283 19 = -1 := r.2.2.2.2.2.2.1
/-- the two namings of lands -/
theorem kern {e1 e2 : Nat → Nat} {lb mb : Nat → Nat} {E : Nat → Bool} (a : ∀ u v, u < 36 → v < 36 → (lb u = lb v ↔ conn e1 e2 E 60 u v)) (b : ∀ u v, u < 36 → v < 36 → (mb u = mb v ↔ conn e1 e2 E 60 u v)) : ∀ u v, u < 36 → v < 36 → (lb u = lb v ↔ mb u = mb v) := fun u v hu hv => (a u v hu hv).trans (b u v hu hv).symm
theorem p_lands (r : Rel h I) {x : Int} : Pub h I (Cl sc (d + 30) mX11_lands [Vr (some 0), Vi x]) (Cl sc (d + 30) mX12_lands [Vr (some 283), Vi x]) cdA := by
  have R := r.R
  have V := r.V
  by_cases hx : 0 ≤ x ∧ x ≤ 999
  · obtain ⟨J, lb, ⟨k1, k2⟩, k3⟩ := c_ofCells (sc := sc) (d := d + 27) (t := x) (x := -1) r.1 r.c (by omega) R V
    refine pubQ (x := 0) (v := nn (fun u => decide (lb u = u)) 36) (v' := nn (fun u => decide (lb u = u)) 36) r (CO.ok (J := J) ?_ k1.sm) (fun h1 J1 r1 e1 => ?_) (fun _ => rfl)
    · rw [q_X11_lands_0]
      simp (disch := first | (simp (disch := omega) only [w32_id]; omega) | omega) only [↓BO r.1, ↓BP r.1, c_nH hx, k3, k2.2.2.2.2.2, e_clI, e_clV, e_clP, e_clIx, e_clVx, e_clPx, e_xt, Int.toNat_natCast, Int.reduceToNat, bz0, bz1, Nat.add_zero, decide_eq_false_iff_not, decide_eq_true_eq, Int.reduceEq, Nat.reduceEqDiff, Int.reduceLT, Int.reduceLE, not_true_eq_false, not_false_eq_true, eq_self, ↓reduceIte]
    · obtain ⟨K, mb, m1, m2, m3, m4, m5⟩ := m_laysLands (sc := sc) (d := d + 23) (I := am_u2 J1 283 0 0) (t := x) r1.1 rfl
      have e : nn (fun u => decide (lb u = u)) 36 = nn (fun u => decide (mb u = u)) 36 := by
        refine reps2 k2.1.1 m3 (kern k2.1.2 ?_)
        rw [w283, e1.w, u2_j (by decide), u2_j (by decide), rel18 r1, rel19 r1] at m4
        have e2 : (fun b => opS (I 284) (-1) (-1) b x) = opE (I 284) x (-1) := by funext b; exact opE_S
        rw [e2] at m4
        exact m4
      refine MO.okJ (J := K) ?_ (s283.tr m1.sm) (by rw [m1 283 (by decide)]; exact u2_same)
      rw [q_X12_lands_0]
      simp (disch := first | (simp (disch := omega) only [w32_id]; omega) | omega) only [↓BM r1.1, m_wrongHeight r1.1 hx, m5, e_clI, e_clV, e_clP, e_clIx, e_clVx, e_clPx, e_xt, Int.toNat_natCast, Int.reduceToNat, bz0, bz1, Nat.add_zero, decide_eq_false_iff_not, decide_eq_true_eq, Int.reduceEq, Nat.reduceEqDiff, Int.reduceLT, Int.reduceLE, not_true_eq_false, not_false_eq_true, eq_self, ↓reduceIte]
      rw [e]
  · refine pubQ (x := 1) (v := 0) (v' := 0) r (CO.no (J := I) (by decide) ?_ (Same.rf I)) (fun h1 J1 r1 e1 => ?_) (fun h => absurd h (by decide))
    · rw [q_X11_lands_0]
      simp (disch := first | (simp (disch := omega) only [w32_id]; omega) | omega) only [c_nHx hx, hI_exI, e_clI, e_clV, e_clP, e_clIx, e_clVx, e_clPx, e_xt, Int.toNat_natCast, Int.reduceToNat, bz0, bz1, Nat.add_zero, decide_eq_false_iff_not, decide_eq_true_eq, Int.reduceEq, Nat.reduceEqDiff, Int.reduceLT, Int.reduceLE, not_true_eq_false, not_false_eq_true, eq_self, ↓reduceIte]
    · refine MO.thr ?_
      rw [q_X12_lands_0]
      simp (disch := first | (simp (disch := omega) only [w32_id]; omega) | omega) only [↓BM r1.1, m_wrongHeightx r1.1 hx, e_clI, e_clV, e_clP, e_clIx, e_clVx, e_clPx, e_xt, Int.toNat_natCast, Int.reduceToNat, bz0, bz1, Nat.add_zero, decide_eq_false_iff_not, decide_eq_true_eq, Int.reduceEq, Nat.reduceEqDiff, Int.reduceLT, Int.reduceLE, not_true_eq_false, not_false_eq_true, eq_self, ↓reduceIte]
      try rfl
end
