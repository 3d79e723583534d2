/-! GAPS, LOSES -/
/-- one border less makes one land more at most -/
theorem gap_one {E E' : Nat → Bool} {lb lb' : Nat → Nat} {b : Nat} (hb : b < 60) (h1 : E b = true) (h2 : E' b = false) (h3 : ∀ x, x ≠ b → E' x = E x) (r1 : ∀ u, u < 36 → lb u < 36 ∧ lb (lb u) = lb u) (k1 : ∀ u v, u < 36 → v < 36 → (lb u = lb v ↔ conn lc mc E 60 u v)) (r2 : ∀ u, u < 36 → lb' u < 36 ∧ lb' (lb' u) = lb' u) (k2 : ∀ u v, u < 36 → v < 36 → (lb' u = lb' v ↔ conn lc mc E' 60 u v)) : rps lb' = rps lb ∨ rps lb' = rps lb + 1 := by
  have sub : ∀ x, x < 60 → E' x = true → E x = true := fun x hx h => by
    by_cases e : x = b
    · rw [e, h2] at h
      cases h
    · rw [← h3 x e]
      exact h
  have L : LI E lb' := ⟨r2, fun u v hu hv e => ((k2 u v hu hv).mp e).cg sub⟩
  have l1 := lc_lt b hb
  have l2 := mc_lt b hb
  have ce : conn lc mc E 60 (lc b) (mc b) := conn.ed hb h1
  by_cases g : lb' (lc b) = lb' (mc b)
  · refine Or.inl (reps2 r2 r1 (fun u v hu hv => (k2 u v hu hv).trans (Iff.trans ⟨fun c => c.cg sub, fun c => ?_⟩ (k1 u v hu hv).symm)))
    have := c (fun z => conn lc mc E' 60 u z) conn.rf (fun x hx hE => by
      by_cases e : x = b
      · rw [e]
        have c1 := (k2 _ _ l1 l2).mp g
        exact ⟨fun z => z.tr c1, fun z => z.tr c1.sy⟩
      · have c1 : conn lc mc E' 60 (lc x) (mc x) := conn.ed hx (by rw [h3 x e]; exact hE)
        exact ⟨fun z => z.tr c1, fun z => z.tr c1.sy⟩)
    exact this
  · refine Or.inr ?_
    have p1 := r2 _ l1
    have p2 := r2 _ l2
    have cM : conn lc mc E 60 (lb' (mc b)) (lb' (lc b)) := (L.2 _ _ p2.1 l2 p2.2).tr (ce.sy.tr (L.2 _ _ p1.1 l1 p1.2).sy)
    obtain ⟨j1, j2⟩ := L.join (M := lb' (mc b)) (m := lb' (lc b)) p2 p1 g cM
    have e : rps (jq lb' (lb' (mc b)) (lb' (lc b))) = rps lb := reps2 j1.1 r1 (fun u v hu hv => Iff.trans ⟨j1.2 u v hu hv, fun c => ?_⟩ (k1 u v hu hv).symm)
    · omega
    · refine c (fun z => jq lb' (lb' (mc b)) (lb' (lc b)) u = jq lb' (lb' (mc b)) (lb' (lc b)) z) rfl (fun x hx hE => ?_)
      have e2 : jq lb' (lb' (mc b)) (lb' (lc b)) (lc x) = jq lb' (lb' (mc b)) (lb' (lc b)) (mc x) := by
        by_cases e : x = b
        · rw [e]
          unfold jq
          rw [if_neg g, if_pos rfl]
        · have := (k2 _ _ (lc_lt x hx) (mc_lt x hx)).mpr (conn.ed hx (by rw [h3 x e]; exact hE))
          unfold jq
          rw [this]
      try dsimp only
      rw [e2]
def gapF (w : am_Wd) (t : Int) (c0 : Int) (c : Nat → Int) (b : Nat) : Int := if opW w b t = true then c b - c0 else 0
section
variable {sc : Nat × (Nat → Int)} {d a : Nat} {h : am_H} {I J : am_I} {w : am_Wd}
theorem opE_b {w : am_Wd} {t : Int} {b : Nat} : opE w t (b : Int) b = false ∧ (opW w b t = true → opE w t (-1) b = true) ∧ ∀ x, x ≠ b → opE w t (b : Int) x = opE w t (-1) x := by
  unfold opE
  refine ⟨?_, fun h => ?_, fun x hx => ?_⟩
  · rw [decide_eq_false (fun z => z rfl), Bool.false_and]
  · rw [h, Bool.and_true]
    exact decide_eq_true (by omega)
  · rw [decide_eq_true (show (x : Int) ≠ (b : Int) by omega), decide_eq_true (show (x : Int) ≠ -1 by omega)]
/-- what the reference's lands number with one border shut -/
theorem gapC (V : WW w) {t : Int} {b : Nat} (hb : b < 60) (ho : opW w b t = true) {lb lb' mb mb' : Nat → Nat} (a1 : PI lc mc (opE w t (-1)) 36 60 lb) (a2 : PI lc mc (opE w t (b : Int)) 36 60 lb') : rps lb' = rps lb ∨ rps lb' = rps lb + 1 :=
  gap_one hb (opE_b.2.1 ho) opE_b.1 opE_b.2.2 a1.1 a1.2 a2.1 a2.2
theorem p_gaps (r : Rel h I) {x : Int} : Pub h I (Cl sc (d + 30) mX11_gaps [Vr (some 0), Vi x]) (Cl sc (d + 30) mX12_gaps [Vr (some 283), Vi x]) cdA := by
  have R := r.R
  have V := r.V
  by_cases hx : 0 ≤ x ∧ x ≤ 999
  · obtain ⟨J, lb, ⟨k1, k2⟩, k3⟩ := c_ofCells (sc := sc) (d := d + 27) (t := x) (x := -1) r.1 r.c (by omega) R V
    have lbn := nn_b (p := fun u => decide (lb u = u)) (N := 36)
    have go : ∀ n, n ≤ 60 → ∃ (K : am_I) (c : Nat → Int), (Ps I K ∧ (∀ b, b < n → opW (I 284) b x = true → ∃ lb', PI lc mc (opE (I 284) x (b : Int)) 36 60 lb' ∧ c b = rps lb') ∧ (∀ b, b < n → c b = rps lb ∨ c b = rps lb + 1)) ∧ Ru sc (d + 30) mX11_gaps 18 [Vr (some 0), Vi x, Vi (rps lb), Vi 0, Vi 0] [] (hI h J) = Ru sc (d + 30) mX11_gaps 18 [Vr (some 0), Vi x, Vi (rps lb), Vi (sm (gapF (I 284) x (rps lb) c) n), Vi (n : Int)] [] (hI h K) := by
      intro n
      induction n with
      | zero => exact fun _ => ⟨J, fun _ => 0, ⟨k1, fun b hb => absurd hb (Nat.not_lt_zero b), fun b hb => absurd hb (Nat.not_lt_zero b)⟩, rfl⟩
      | succ n ih =>
        intro hn
        obtain ⟨K, c, ⟨m1, m2, m3⟩, m4⟩ := ih (by omega)
        have hlt : (n : Int) < 60 := by omega
        have hn60 : n < 60 := by omega
        have R2 : CRep K 11 (I 284) := m1.ks.c (by omega) R
        have hb := sm_le (f := gapF (I 284) x (rps lb) c) (A := 0) (B := 1) (N := n) (fun i hi => by
          unfold gapF
          have := m3 i hi
          split <;> omega)
        have ho := c_isOpen (sc := sc) (d := d + 28) (t := x) r.c R2 V hn60
        cases hE : opW (I 284) n x
        · rw [hE] at ho
          refine ⟨K, up c n (rps lb), ⟨m1, fun b hb2 hbo => ?_, fun b hb2 => ?_⟩, ?_⟩
          · by_cases e : b = n
            · rw [e, hE] at hbo
              cases hbo
            · rw [up_o e]
              exact m2 b (by omega) hbo
          · by_cases e : b = n
            · rw [e, up_s]
              exact Or.inl rfl
            · rw [up_o e]
              exact m3 b (by omega)
          · have es : sm (gapF (I 284) x (rps lb) (up c n (rps lb))) (n + 1) = sm (gapF (I 284) x (rps lb) c) n := by
              show sm _ n + gapF (I 284) x (rps lb) (up c n (rps lb)) n = _
              rw [sm_congr (g := gapF (I 284) x (rps lb) c) (fun i hi => by unfold gapF; rw [up_o (show i ≠ n by omega)])]
              unfold gapF
              rw [hE, if_neg (by decide), Int.add_zero]
            rw [es, m4, q_X11_gaps_18]
            simp (disch := first | (simp (disch := omega) only [w32_id]; omega) | omega) only [↓BO r.1, ↓BC r.c, hlt, ho, w32_succ, e_clI, e_clV, e_clP, e_clIx, e_clVx, e_clPx, e_xt, Int.toNat_natCast, Int.reduceToNat, bz0, bz1, Nat.add_zero, decide_eq_false_iff_not, decide_eq_true_eq, Int.reduceEq, Nat.reduceEqDiff, Int.reduceLT, Int.reduceLE, not_true_eq_false, not_false_eq_true, eq_self, ↓reduceIte]
        · rw [hE] at ho
          obtain ⟨K2, lb2, ⟨q1, q2⟩, q3⟩ := c_ofCells (sc := sc) (d := d + 27) (I := K) (t := x) (x := (n : Int)) r.1 r.c (by omega) R2 V
          have hg := gapC V hn60 hE (mb := lb) (mb' := lb) k2.1 q2.1
          have q4 : K2 48 5 = rps lb2 := q2.2.2.2.2.2
          have lbn2 := nn_b (p := fun u => decide (lb2 u = u)) (N := 36)
          refine ⟨K2, up c n (rps lb2), ⟨m1.tr q1, fun b hb2 hbo => ?_, fun b hb2 => ?_⟩, ?_⟩
          · by_cases e : b = n
            · rw [e, up_s]
              exact ⟨lb2, q2.1, rfl⟩
            · rw [up_o e]
              exact m2 b (by omega) hbo
          · by_cases e : b = n
            · rw [e, up_s]
              exact hg
            · rw [up_o e]
              exact m3 b (by omega)
          · have es : sm (gapF (I 284) x (rps lb) (up c n (rps lb2))) (n + 1) = sm (gapF (I 284) x (rps lb) c) n + (rps lb2 - rps lb) := by
              show sm _ n + gapF (I 284) x (rps lb) (up c n (rps lb2)) n = _
              rw [sm_congr (g := gapF (I 284) x (rps lb) c) (fun i hi => by unfold gapF; rw [up_o (show i ≠ n by omega)])]
              unfold gapF
              rw [hE, if_pos rfl, up_s]
            have lbn3 : 0 ≤ rps lb ∧ rps lb ≤ 36 := lbn
            rw [es, m4, q_X11_gaps_18]
            simp (disch := first | (simp (disch := omega) only [w32_id]; omega) | omega) only [↓BO r.1, ↓BC r.c, ↓BP r.1, hlt, ho, q3, q4, w32_succ, Bool.true_eq_false, e_clI, e_clV, e_clP, e_clIx, e_clVx, e_clPx, e_xt, Int.toNat_natCast, Int.reduceToNat, bz0, bz1, Nat.add_zero, decide_eq_false_iff_not, decide_eq_true_eq, Int.reduceEq, Nat.reduceEqDiff, Int.reduceLT, Int.reduceLE, not_true_eq_false, not_false_eq_true, eq_self, ↓reduceIte]
            rw [w32_id (z := rps lb2 - rps lb) (by omega) (by omega), w32_id (by omega) (by omega)]
    obtain ⟨K, c, ⟨m1, m2, m3⟩, m4⟩ := go 60 (Nat.le_refl 60)
    refine pubQ (x := 0) (v := sm (gapF (I 284) x (rps lb) c) 60) (v' := sm (gapF (I 284) x (rps lb) c) 60) r (CO.ok (J := K) ?_ m1.sm) (fun h1 J1 r1 e1 => ?_) (fun _ => rfl)
    · have k5 : J 48 5 = rps lb := k2.2.2.2.2.2
      rw [q_X11_gaps_0]
      simp (disch := first | (simp (disch := omega) only [w32_id]; omega) | omega) only [↓BO r.1, ↓BP r.1, c_nH hx, k3, k5, e_clI, e_clV, e_clP, e_clIx, e_clVx, e_clPx, e_xt, Int.toNat_natCast, Int.reduceToNat, bz0, bz1, Nat.add_zero, decide_eq_false_iff_not, decide_eq_true_eq, Int.reduceEq, Nat.reduceEqDiff, Int.reduceLT, Int.reduceLE, not_true_eq_false, not_false_eq_true, eq_self, ↓reduceIte]
      rw [m4, q_X11_gaps_18, if_neg (by omega)]
    · obtain ⟨K0, mb, n1, n2, n3, n4, n5⟩ := m_laysLands (sc := sc) (d := d + 23) (I := am_u2 J1 283 0 0) (t := x) r1.1 rfl
      rw [w283, e1.w, u2_j (by decide), u2_j (by decide), rel18 r1, rel19 r1, ← opE_f] at n4
      have e0 : rps lb = rps mb := reps2 k2.1.1 n3 (kern k2.1.2 n4)
      have f18 : ∀ L, Fl (am_u2 J1 283 0 0) L → L 284 = I 284 ∧ L 283 18 = -1 ∧ L 283 19 = -1 := fun L hL => by
        rw [hL 284 (by decide), hL 283 (by decide), w283, e1.w, u2_j (by decide), u2_j (by decide), rel18 r1, rel19 r1]
        exact ⟨rfl, rfl, rfl⟩
      have mgo : ∀ n, n ≤ 60 → ∃ (L : am_I) (u : am_V), Same (am_u2 J1 283 0 0) L ∧ L 284 = I 284 ∧ L 283 18 = -1 ∧ L 283 19 = -1 ∧ L 283 0 = 0 ∧ Ru sc (d + 30) mX12_gaps 15 [Vr (some 283), Vi x, Vi (rps lb), Vi 0, Vi 0, Vx 0] [] (hI h1 K0) = Ru sc (d + 30) mX12_gaps 15 [Vr (some 283), Vi x, Vi (rps lb), Vi (sm (gapF (I 284) x (rps lb) c) n), Vi (n : Int), u] [] (hI h1 L) := by
        intro n
        induction n with
        | zero =>
          intro _
          have := f18 K0 n1
          exact ⟨K0, Vx 0, n1.sm, this.1, this.2.1, this.2.2, (by rw [n1 283 (by decide)]; exact u2_same), rfl⟩
        | succ n ih =>
          intro hn
          obtain ⟨L, u, a1, a2, a3, a4, a5, a6⟩ := ih (by omega)
          have hlt : (n : Int) < 60 := by omega
          have hn60 : n < 60 := by omega
          have ho := m_isOpen (sc := sc) (d := d + 25) (I := L) (t := x) r1.1 hn60
          rw [a2, a3, a4, opS_no] at ho
          have hb := sm_le (f := gapF (I 284) x (rps lb) c) (A := 0) (B := 1) (N := n) (fun i hi => by
            unfold gapF
            have := m3 i (by omega)
            split <;> omega)
          have es : sm (gapF (I 284) x (rps lb) c) (n + 1) = sm (gapF (I 284) x (rps lb) c) n + gapF (I 284) x (rps lb) c n := rfl
          have hsame : ∀ (L2 : am_I) (v : Int), Same (am_u2 J1 283 0 0) L2 → L2 283 18 = v → Same (am_u2 J1 283 0 0) (am_u2 L2 283 18 (-1)) := fun L2 v hs _ k j hk => by
            by_cases e : k = 283 ∧ j = 18
            · rw [e.1, e.2, u2_same, u2_j (by decide)]
              exact (rel18 r1).symm
            · unfold am_u2
              rw [if_neg e]
              exact hs k j hk
          cases hE : opW (I 284) n x
          · rw [hE] at ho
            refine ⟨am_u2 (am_u2 L 283 18 (-1)) 283 18 (-1), Vi (bz false), ?_, ?_, u2_same, ?_, ?_, ?_⟩
            · exact hsame _ (-1) (hsame L _ a1 a3) u2_same
            · rw [u2_o (by decide), u2_o (by decide)]
              exact a2
            · rw [u2_j (by decide), u2_j (by decide)]
              exact a4
            · rw [u2_j (by decide), u2_j (by decide)]
              exact a5
            · have gv : gapF (I 284) x (rps lb) c n = 0 := by unfold gapF; rw [hE, if_neg (by decide)]
              rw [a6, q_X12_gaps_15, es, gv]
              simp (disch := first | (simp (disch := omega) only [w32_id]; omega) | omega) only [↓BM r1.1, hlt, ho, q_X12_gaps_30, w32_succ, Int.add_zero, e_clI, e_clV, e_clP, e_clIx, e_clVx, e_clPx, e_xt, Int.toNat_natCast, Int.reduceToNat, bz0, bz1, Nat.add_zero, decide_eq_false_iff_not, decide_eq_true_eq, Int.reduceEq, Nat.reduceEqDiff, Int.reduceLT, Int.reduceLE, not_true_eq_false, not_false_eq_true, eq_self, ↓reduceIte]
              rw [w32_id (by omega) (by omega)]
          · rw [hE] at ho
            obtain ⟨L2, mb2, b1, b2, b3, b4, b5⟩ := m_laysLands (sc := sc) (d := d + 23) (I := am_u2 L 283 18 (n : Int)) (t := x) r1.1 rfl
            rw [u2_o (by decide), u2_same, u2_j (by decide), a2, a4, ← opE_f] at b4
            obtain ⟨lb2, q1, q2⟩ := m2 n hn60 hE
            have e2 : rps lb2 = rps mb2 := reps2 q1.1 b3 (kern q1.2 b4)
            have e3 : c n = rps mb2 := q2.trans e2
            have b5' : Cl sc (d + 29) mX12_laysLands [Vr (some 283), Vi x] (hI h1 (am_u2 L 283 18 (n : Int))) = some (.inl (Vi (c n)), hI h1 L2) := by rw [e3]; exact b5
            have hcn := m3 n hn60
            refine ⟨am_u2 L2 283 18 (-1), Vi (bz true), ?_, ?_, u2_same, ?_, ?_, ?_⟩
            · refine fun k j hk => ?_
              by_cases e : k = 283 ∧ j = 18
              · rw [e.1, e.2, u2_same, u2_j (by decide)]
                exact (rel18 r1).symm
              · have h9 : am_u2 L2 283 18 (-1) k j = L2 k j := by unfold am_u2; rw [if_neg e]
                rw [h9, b1 k (fun z => hk (by unfold scr; omega))]
                have h8 : am_u2 L 283 18 (n : Int) k j = L k j := by unfold am_u2; rw [if_neg e]
                rw [h8]
                exact a1 k j hk
            · rw [u2_o (by decide), b1 284 (by decide), u2_o (by decide)]
              exact a2
            · rw [u2_j (by decide), b1 283 (by decide), u2_j (by decide)]
              exact a4
            · rw [u2_j (by decide), b1 283 (by decide), u2_j (by decide)]
              exact a5
            · have gv : gapF (I 284) x (rps lb) c n = c n - rps lb := by unfold gapF; rw [hE, if_pos rfl]
              rw [a6, q_X12_gaps_15, es, gv]
              simp (disch := first | (simp (disch := omega) only [w32_id]; omega) | omega) only [↓BM r1.1, hlt, ho, q_X12_gaps_30, b5', w32_succ, Bool.true_eq_false, e_clI, e_clV, e_clP, e_clIx, e_clVx, e_clPx, e_xt, Int.toNat_natCast, Int.reduceToNat, bz0, bz1, Nat.add_zero, decide_eq_false_iff_not, decide_eq_true_eq, Int.reduceEq, Nat.reduceEqDiff, Int.reduceLT, Int.reduceLE, not_true_eq_false, not_false_eq_true, eq_self, ↓reduceIte]
              rcases hcn with hcn | hcn
              · rw [if_neg (by omega), hcn, Int.sub_self, Int.add_zero, w32_id (by omega) (by omega)]
              · have e9 : c n - rps lb = 1 := by omega
                rw [if_pos (by omega), e9, w32_id (by omega) (by omega)]
      obtain ⟨L, u, a1, a2, a3, a4, a5, a6⟩ := mgo 60 (Nat.le_refl 60)
      refine MO.okJ (J := L) ?_ (s283.tr a1) a5
      have n5' : Cl sc (d + 29) mX12_laysLands [Vr (some 283), Vi x] (hI h1 (am_u2 J1 283 0 0)) = some (.inl (Vi (rps lb)), hI h1 K0) := by rw [e0]; exact n5
      rw [q_X12_gaps_0]
      simp (disch := first | (simp (disch := omega) only [w32_id]; omega) | omega) only [↓BM r1.1, m_wrongHeight r1.1 hx, n5', e_clI, e_clV, e_clP, e_clIx, e_clVx, e_clPx, e_xt, Int.toNat_natCast, Int.reduceToNat, bz0, bz1, Nat.add_zero, decide_eq_false_iff_not, decide_eq_true_eq, Int.reduceEq, Nat.reduceEqDiff, Int.reduceLT, Int.reduceLE, not_true_eq_false, not_false_eq_true, eq_self, ↓reduceIte]
      rw [a6, q_X12_gaps_15, if_neg (by omega)]
  · refine pubQ (x := 1) (v := 0) (v' := 0) r (CO.no (J := I) (by decide) ?_ (Same.rf I)) (fun h1 J1 r1 e1 => ?_) (fun h => absurd h (by decide))
    · rw [q_X11_gaps_0]
      simp (disch := first | (simp (disch := omega) only [w32_id]; omega) | omega) only [c_nHx hx, hI_exI, e_clI, e_clV, e_clP, e_clIx, e_clVx, e_clPx, e_xt, Int.toNat_natCast, Int.reduceToNat, bz0, bz1, Nat.add_zero, decide_eq_false_iff_not, decide_eq_true_eq, Int.reduceEq, Nat.reduceEqDiff, Int.reduceLT, Int.reduceLE, not_true_eq_false, not_false_eq_true, eq_self, ↓reduceIte]
    · refine MO.thr ?_
      rw [q_X12_gaps_0]
      simp (disch := first | (simp (disch := omega) only [w32_id]; omega) | omega) only [↓BM r1.1, m_wrongHeightx r1.1 hx, e_clI, e_clV, e_clP, e_clIx, e_clVx, e_clPx, e_xt, Int.toNat_natCast, Int.reduceToNat, bz0, bz1, Nat.add_zero, decide_eq_false_iff_not, decide_eq_true_eq, Int.reduceEq, Nat.reduceEqDiff, Int.reduceLT, Int.reduceLE, not_true_eq_false, not_false_eq_true, eq_self, ↓reduceIte]
      try rfl
end
