/-! HALFWAY -/
def hw (F G : Nat → Int) (c : Nat) (t : Int × Int) : Int × Int := if F c + G c < t.2 then ((c : Int), F c + G c) else t
section
variable {sc : Nat × (Nat → Int)} {d a : Nat} {h : am_H} {I J : am_I} {w : am_Wd}
theorem hw_cg {F G F' G' : Nat → Int} (hF : ∀ u, u < 36 → F u = F' u) (hG : ∀ u, u < 36 → G u = G' u) : fo (hw F G) 36 (-1, 1000000) = fo (hw F' G') 36 (-1, 1000000) := fo_congr (fun i s hi => by
  unfold hw
  rw [hF i hi, hG i hi])
def hwP (F G : Nat → Int) (t : Int × Int) : Prop := (t.1 = -1 ∧ t.2 = 1000000) ∨ ∃ b : Nat, t.1 = b ∧ b < 36 ∧ t.2 = F b + G b ∧ F b < 1000000 ∧ G b < 1000000 ∧ F b + G b < 1000000
theorem c_isNever {n : Int} {h : am_H} : Cl sc (d + 1) mX7_isNever [Vr (some 53), Vi n] h = some (.inl (Vi (bz (decide (1000000 ≤ n)))), h) := by
  rw [q_X7_isNever_0]
  split
  · rw [decide_eq_false (by omega)]; rfl
  · rw [decide_eq_true (by omega)]; rfl
theorem c_middleL (s : Sh h) {F G : Nat → Int} (hJ1 : I 125 = F) (hJ2 : I 126 = G) (bF : ∀ u, u < 36 → 0 ≤ F u ∧ F u ≤ 1000000 ∧ (F u < 1000000 → F u ≤ 3600)) (bG : ∀ u, u < 36 → 0 ≤ G u ∧ G u ≤ 1000000 ∧ (G u < 1000000 → G u ≤ 3600)) {x y : Int} : Ru sc (d + 2) mX6_middle 19 [Vr (some 124), Vr (some a), Vi x, Vi y, Vi (-1), Vi 0] [] (hI h I) = some (.inl (Vi (fo (hw F G) 36 (-1, 1000000)).1), hI h I) := by
  have hr := fo_run (F := fun i (t : Int × Int) => Ru sc (d + 2) mX6_middle 19 [Vr (some 124), Vr (some a), Vi x, Vi y, Vi t.1, Vi (i : Int)] [] (hI h I)) (f := hw F G) (P := fun _ t => hwP F G t) (N := 36) (s0 := (-1, 1000000)) (Or.inl ⟨rfl, rfl⟩) (fun c t hc hP => by
    obtain ⟨b0, b1, b2⟩ := bF c hc
    obtain ⟨c0, c1, c2⟩ := bG c hc
    obtain ⟨t1, t2⟩ := t
    have hlt : (c : Int) < 36 := by omega
    have h2 : t2 ≤ 1000000 := by
      rcases hP with ⟨-, e⟩ | ⟨b, -, -, e, -, -, l⟩
      · dsimp only at e
        omega
      · dsimp only at e
        omega
    try dsimp only
    by_cases g1 : F c < 1000000
    · by_cases g2 : G c < 1000000
      · have n1 : ¬ 1000000 ≤ F c := by omega
        have n2 : ¬ 1000000 ≤ G c := by omega
        have hn : hwP F G ((c : Int), F c + G c) := Or.inr ⟨c, rfl, hc, rfl, g1, g2, by omega⟩
        rcases hP with ⟨e1, e2⟩ | ⟨b, e1, e2, e3, e4, e5, e6⟩
        · dsimp only at e1 e2
          subst e1
          subst e2
          have ew : hw F G c (-1, 1000000) = ((c : Int), F c + G c) := by unfold hw; rw [if_pos (by dsimp only; omega)]
          refine ⟨?_, by rw [ew]; exact hn⟩
          rw [ew, q_X6_middle_19]
          simp (disch := first | (simp (disch := omega) only [w32_id]; omega) | omega) only [↓BN s, ↓BW s, hlt, hJ1, hJ2, c_isNever, n1, n2, decide_false, w32_succ, e_clI, e_clV, e_clP, e_clIx, e_clVx, e_clPx, e_xt, Int.toNat_natCast, Int.reduceToNat, bz0, bz1, Nat.add_zero, decide_eq_false_iff_not, decide_eq_true_eq, Int.reduceEq, Nat.reduceEqDiff, Int.reduceLT, Int.reduceLE, not_true_eq_false, not_false_eq_true, eq_self, ↓reduceIte]
        · dsimp only at e1 e3
          subst e1
          subst e3
          have hb1 : ¬ (b : Int) = -1 := by omega
          obtain ⟨p0, p1, p2⟩ := bF b e2
          obtain ⟨q0, q1, q2⟩ := bG b e2
          have w1 : w32 (F c + G c) = F c + G c := w32_id (by omega) (by omega)
          have w2 : w32 (F b + G b) = F b + G b := by clear w1; exact w32_id (by omega) (by omega)
          have hb36 : (b : Int) < 36 := by clear w1 w2; omega
          have hc9 : c < 2147483647 := by clear w1 w2; omega
          by_cases g3 : F c + G c < F b + G b
          · have ew : hw F G c ((b : Int), F b + G b) = ((c : Int), F c + G c) := by unfold hw; rw [if_pos g3]
            refine ⟨?_, by rw [ew]; exact hn⟩
            rw [ew, q_X6_middle_19]
            simp (disch := first | assumption | exact Int.natCast_nonneg _ | decide) only [↓BN s, ↓BW s, hlt, hJ1, hJ2, c_isNever, n1, n2, decide_false, hb1, w1, w2, g3, w32_succ hc9, e_clI, e_clV, e_clP, e_clIx, e_clVx, e_clPx, e_xt, Int.toNat_natCast, Int.reduceToNat, bz0, bz1, Nat.add_zero, decide_eq_false_iff_not, decide_eq_true_eq, Int.reduceEq, Nat.reduceEqDiff, Int.reduceLT, Int.reduceLE, not_true_eq_false, not_false_eq_true, eq_self, ↓reduceIte]
          · have ew : hw F G c ((b : Int), F b + G b) = ((b : Int), F b + G b) := by unfold hw; rw [if_neg g3]
            refine ⟨?_, by rw [ew]; exact Or.inr ⟨b, rfl, e2, rfl, e4, e5, e6⟩⟩
            rw [ew, q_X6_middle_19]
            simp (disch := first | assumption | exact Int.natCast_nonneg _ | decide) only [↓BN s, ↓BW s, hlt, hJ1, hJ2, c_isNever, n1, n2, decide_false, hb1, w1, w2, g3, w32_succ hc9, e_clI, e_clV, e_clP, e_clIx, e_clVx, e_clPx, e_xt, Int.toNat_natCast, Int.reduceToNat, bz0, bz1, Nat.add_zero, decide_eq_false_iff_not, decide_eq_true_eq, Int.reduceEq, Nat.reduceEqDiff, Int.reduceLT, Int.reduceLE, not_true_eq_false, not_false_eq_true, eq_self, ↓reduceIte]
      · have n1 : ¬ 1000000 ≤ F c := by omega
        have n2 : 1000000 ≤ G c := by omega
        have ew : hw F G c (t1, t2) = (t1, t2) := by unfold hw; rw [if_neg (by dsimp only; omega)]
        refine ⟨?_, by rw [ew]; exact hP⟩
        rw [ew, q_X6_middle_19]
        simp (disch := first | (simp (disch := omega) only [w32_id]; omega) | omega) only [↓BN s, ↓BW s, hlt, hJ1, hJ2, c_isNever, n1, n2, decide_false, decide_true, Bool.true_eq_false, w32_succ, e_clI, e_clV, e_clP, e_clIx, e_clVx, e_clPx, e_xt, Int.toNat_natCast, Int.reduceToNat, bz0, bz1, Nat.add_zero, decide_eq_false_iff_not, decide_eq_true_eq, Int.reduceEq, Nat.reduceEqDiff, Int.reduceLT, Int.reduceLE, not_true_eq_false, not_false_eq_true, eq_self, ↓reduceIte]
    · have n1 : 1000000 ≤ F c := by omega
      have ew : hw F G c (t1, t2) = (t1, t2) := by unfold hw; rw [if_neg (by dsimp only; omega)]
      refine ⟨?_, by rw [ew]; exact hP⟩
      rw [ew, q_X6_middle_19]
      simp (disch := first | (simp (disch := omega) only [w32_id]; omega) | omega) only [↓BN s, ↓BW s, hlt, hJ1, hJ2, c_isNever, n1, decide_true, Bool.true_eq_false, w32_succ, e_clI, e_clV, e_clP, e_clIx, e_clVx, e_clPx, e_xt, Int.toNat_natCast, Int.reduceToNat, bz0, bz1, Nat.add_zero, decide_eq_false_iff_not, decide_eq_true_eq, Int.reduceEq, Nat.reduceEqDiff, Int.reduceLT, Int.reduceLE, not_true_eq_false, not_false_eq_true, eq_self, ↓reduceIte])
  refine hr.1.trans ?_
  rw [q_X6_middle_19, if_neg (by omega)]
/-- the bounds of a family's costs -/
theorem farB (V : WW w) {t : Int} {c : Nat} (hc : c < 36) {F : Nat → Int} (L : Lst pl (adM w (-1) (-1) 0 t) (ini c) F) : ∀ u, u < 36 → 0 ≤ F u ∧ F u ≤ 1000000 ∧ (F u < 1000000 → F u ≤ 3600) := fun u hu =>
  ⟨L.pos mon_pl (fun b hb => adM0_pos V hb) (fun u _ => ini_b.1) u hu, Int.le_trans (L.2.1 u hu) ini_b.2, fun h => conn_far V hc L (far_conn V L hu h)⟩
theorem p_halfway (r : Rel h I) {x y : Int} : Pub h I (Cl sc (d + 30) mX11_halfway [Vr (some 0), Vi x, Vi y]) (Cl sc (d + 30) mX12_halfway [Vr (some 283), Vi x, Vi y]) cdB := by
  have R := r.R
  have V := r.V
  have hF := V.fa
  by_cases hx : (0 ≤ x ∧ x < I 284 0) ∧ 0 ≤ y ∧ y < I 284 0
  · obtain ⟨f, rfl⟩ : ∃ f : Nat, x = f := ⟨x.toNat, by omega⟩
    obtain ⟨g, rfl⟩ : ∃ g : Nat, y = g := ⟨y.toNat, by omega⟩
    have hf : f < 6 := by omega
    have hg : g < 6 := by omega
    by_cases hfg : f = g
    · subst hfg
      refine pubQ (x := 1) (v := 0) (v' := 0) r (CO.no (J := I) (by decide) ?_ (Same.rf I)) (fun h1 J1 r1 e1 => ?_) (fun h => absurd h (by decide))
      · rw [q_X11_halfway_0]
        simp (disch := first | (simp (disch := omega) only [w32_id]; omega) | omega) only [↓BO r.1, c_nTy r.1 r.fa hx.1, e_clI, e_clV, e_clP, e_clIx, e_clVx, e_clPx, e_xt, Int.toNat_natCast, Int.reduceToNat, bz0, bz1, Nat.add_zero, decide_eq_false_iff_not, decide_eq_true_eq, Int.reduceEq, Nat.reduceEqDiff, Int.reduceLT, Int.reduceLE, not_true_eq_false, not_false_eq_true, eq_self, ↓reduceIte]
      · refine MO.thr ?_
        have V1 : WW (J1 284) := by rw [e1.w]; exact V
        have hx2 : 0 ≤ (f : Int) ∧ (f : Int) < J1 284 0 := by rw [e1.w]; exact hx.1
        rw [q_X12_halfway_0]
        simp (disch := first | (simp (disch := omega) only [w32_id]; omega) | omega) only [↓BM r1.1, m_nTy r1.1 V1 hx2, e_clI, e_clV, e_clP, e_clIx, e_clVx, e_clPx, e_xt, Int.toNat_natCast, Int.reduceToNat, bz0, bz1, Nat.add_zero, decide_eq_false_iff_not, decide_eq_true_eq, Int.reduceEq, Nat.reduceEqDiff, Int.reduceLT, Int.reduceLE, not_true_eq_false, not_false_eq_true, eq_self, ↓reduceIte]
        try rfl
    · have hfg2 : (f : Int) ≠ (g : Int) := by omega
      have v1 := V.fm hf
      have v2 := V.fm hg
      obtain ⟨J, F, ⟨k1, k2, k3, k4, k5⟩, k6⟩ := c_fromHome (sc := sc) (d := d + 22) r.1 r.c (by omega) R V hf (q := 125) (n := 36) (r.1.T 125 rfl) (by omega) (by omega) (by omega) (by omega)
      have R2 : CRep J 11 (I 284) := k1.c (by omega) R
      obtain ⟨K, G, ⟨m1, m2, m3, m4, m5⟩, m6⟩ := c_fromHome (sc := sc) (d := d + 22) (I := J) r.1 r.c (by omega) R2 V hg (q := 126) (n := 36) (r.1.T 126 rfl) (by omega) (by omega) (by omega) (by omega)
      have kF : K 125 = F := (m2 125 (by decide) (by decide)).trans k3
      have bF := farB V (by omega) k5
      have bG := farB V (by omega) m5
      refine pubQ (x := 0) (v := (fo (hw F G) 36 (-1, 1000000)).1) (v' := (fo (hw F G) 36 (-1, 1000000)).1) r (CO.ok (J := K) ?_ (k1.tr m1).sm) (fun h1 J1 r1 e1 => ?_) (fun _ => rfl)
      · rw [q_X11_halfway_0]
        simp (disch := first | (simp (disch := omega) only [w32_id]; omega) | omega) only [↓BO r.1, ↓BN r.1, c_nT r.1 r.fa hx.1 hx.2 hfg2, e_clI, e_clV, e_clP, e_clIx, e_clVx, e_clPx, e_xt, Int.toNat_natCast, Int.reduceToNat, bz0, bz1, Nat.add_zero, decide_eq_false_iff_not, decide_eq_true_eq, Int.reduceEq, Nat.reduceEqDiff, Int.reduceLT, Int.reduceLE, not_true_eq_false, not_false_eq_true, eq_self, ↓reduceIte]
        rw [q_X6_middle_0]
        simp (disch := first | (simp (disch := omega) only [w32_id]; omega) | omega) only [↓BN r.1, ↓BW r.1, k6, m6, e_clI, e_clV, e_clP, e_clIx, e_clVx, e_clPx, e_xt, Int.toNat_natCast, Int.reduceToNat, bz0, bz1, Nat.add_zero, decide_eq_false_iff_not, decide_eq_true_eq, Int.reduceEq, Nat.reduceEqDiff, Int.reduceLT, Int.reduceLE, not_true_eq_false, not_false_eq_true, eq_self, ↓reduceIte]
        rw [c_middleL r.1 kF m3 bF bG, e_clI]
      · have V1 : WW (J1 284) := by rw [e1.w]; exact V
        have V2 : WW (am_u2 J1 283 0 0 284) := by rw [w283, e1.w]; exact V
        have hx2 : 0 ≤ (f : Int) ∧ (f : Int) < J1 284 0 := by rw [e1.w]; exact hx.1
        have hy2 : 0 ≤ (g : Int) ∧ (g : Int) < J1 284 0 := by rw [e1.w]; exact hx.2
        obtain ⟨F', g1, g2⟩ := m_waysOf (sc := sc) (d := d + 21) (I := am_u2 J1 283 0 0) r1.1 V2 hf
        rw [w283, e1.w, u2_j (by decide), u2_j (by decide), rel18 r1, rel19 r1] at g1
        have eF := k5.uni g1
        have hr := fo_run0 (F := fun i C => Ru sc (d + 30) mX12_halfway 14 [Vr (some 283), Vi (f : Int), Vi (g : Int), Vi (i : Int), Vx 0, Vx 0, Vx 0] [] (hI h1 (sr (sr (am_u2 J1 283 0 0) 292 F') 293 C))) (f := fun i C => up C i (F' i)) (N := 36) (s0 := am_u2 J1 283 0 0 293) (fun i C hi => by
          have hlt : (i : Int) < 36 := by omega
          have e292 : sr (sr (am_u2 J1 283 0 0) 292 F') 293 C 292 = F' := by rw [sr_ne (by decide), sr_q]
          try dsimp only
          rw [q_X12_halfway_14]
          simp (disch := first | (simp (disch := omega) only [w32_id]; omega) | omega) only [↓BM r1.1, hlt, e292, u2_sr, w32_succ, e_clI, e_clV, e_clP, e_clIx, e_clVx, e_clPx, e_xt, Int.toNat_natCast, Int.reduceToNat, bz0, bz1, Nat.add_zero, decide_eq_false_iff_not, decide_eq_true_eq, Int.reduceEq, Nat.reduceEqDiff, Int.reduceLT, Int.reduceLE, not_true_eq_false, not_false_eq_true, eq_self, ↓reduceIte])
        rw [fo_row] at hr
        try dsimp only at hr
        have e0 : sr (sr (am_u2 J1 283 0 0) 292 F') 293 (am_u2 J1 283 0 0 293) = sr (am_u2 J1 283 0 0) 292 F' := by
          have : am_u2 J1 283 0 0 293 = sr (am_u2 J1 283 0 0) 292 F' 293 := (sr_ne (by decide)).symm
          rw [this, sr_self]
        rw [e0] at hr
        have f284 : ∀ C, sr (sr (am_u2 J1 283 0 0) 292 F') 293 C 284 = I 284 := fun C => by rw [sr_ne (by decide), sr_ne (by decide), w283, e1.w]
        have f18 : ∀ C, sr (sr (am_u2 J1 283 0 0) 292 F') 293 C 283 18 = -1 := fun C => by rw [sr_ne (by decide), sr_ne (by decide), u2_j (by decide)]; exact rel18 r1
        have f19 : ∀ C, sr (sr (am_u2 J1 283 0 0) 292 F') 293 C 283 19 = -1 := fun C => by rw [sr_ne (by decide), sr_ne (by decide), u2_j (by decide)]; exact rel19 r1
        obtain ⟨G', g3, g4⟩ := m_waysOf (sc := sc) (d := d + 21) (I := sr (sr (am_u2 J1 283 0 0) 292 F') 293 (fun u => if u < 36 then F' u else am_u2 J1 283 0 0 293 u)) r1.1 (by rw [f284]; exact V) hg
        rw [f284, f18, f19] at g3
        have eG := m5.uni g3
        have bF' : ∀ u, u < 36 → 0 ≤ F' u ∧ F' u ≤ 1000000 := fun u hu => by rw [← eF u hu]; exact ⟨(bF u hu).1, (bF u hu).2.1⟩
        have bG' : ∀ u, u < 36 → 0 ≤ G' u ∧ G' u ≤ 1000000 := fun u hu => by rw [← eG u hu]; exact ⟨(bG u hu).1, (bG u hu).2.1⟩
        generalize hL : sr (sr (sr (am_u2 J1 283 0 0) 292 F') 293 (fun u => if u < 36 then F' u else am_u2 J1 283 0 0 293 u)) 292 G' = L at g4
        have L292 : L 292 = G' := by rw [← hL]; exact sr_q
        have L293 : ∀ u, u < 36 → L 293 u = F' u := fun u hu => by
          rw [← hL, sr_ne (by decide), sr_q]
          exact if_pos hu
        have hLs : Same (am_u2 J1 283 0 0) L := fun k j hk => by
          have h1 : k ≠ 292 := fun e => hk (by unfold scr; omega)
          have h2 : k ≠ 293 := fun e => hk (by unfold scr; omega)
          rw [← hL, sr_ne h1, sr_ne h2, sr_ne h1]
        have L0 : L 283 0 = 0 := by rw [← hL, sr_ne (by decide), sr_ne (by decide), sr_ne (by decide)]; exact u2_same
        have mgo : ∀ n, n ≤ 36 → ∃ u, Ru sc (d + 30) mX12_halfway 38 [Vr (some 283), Vi (f : Int), Vi (g : Int), Vi (-1), Vi 1000000, Vi 0, Vx 0] [] (hI h1 L) = Ru sc (d + 30) mX12_halfway 38 [Vr (some 283), Vi (f : Int), Vi (g : Int), Vi (fo (hw F' G') n (-1, 1000000)).1, Vi (fo (hw F' G') n (-1, 1000000)).2, Vi (n : Int), u] [] (hI h1 L) := by
          intro n
          induction n with
          | zero => exact fun _ => ⟨_, rfl⟩
          | succ n ih =>
            intro hn
            obtain ⟨u, hu⟩ := ih (by omega)
            have hlt : (n : Int) < 36 := by omega
            have a1 := L293 n (by omega)
            have a2 := bF' n (by omega)
            have a3 := bG' n (by omega)
            have es : fo (hw F' G') (n + 1) (-1, 1000000) = hw F' G' n (fo (hw F' G') n (-1, 1000000)) := rfl
            generalize fo (hw F' G') n (-1, 1000000) = t at hu es
            obtain ⟨t1, t2⟩ := t
            have hn9 : n < 2147483647 := by omega
            have w1 : w32 (F' n + G' n) = F' n + G' n := w32_id (by omega) (by omega)
            refine ⟨Vi (F' n + G' n), ?_⟩
            rw [hu, q_X12_halfway_38, es]
            try dsimp only
            unfold hw
            simp (disch := first | assumption | exact Int.natCast_nonneg _ | decide) only [↓BM r1.1, hlt, a1, L292, w1, c_min, w32_succ hn9, e_clI, e_clV, e_clP, e_clIx, e_clVx, e_clPx, e_xt, Int.toNat_natCast, Int.reduceToNat, bz0, bz1, Nat.add_zero, decide_eq_false_iff_not, decide_eq_true_eq, Int.reduceEq, Nat.reduceEqDiff, Int.reduceLT, Int.reduceLE, not_true_eq_false, not_false_eq_true, eq_self, ↓reduceIte]
            clear w1
            split
            · rename_i g9
              rw [Int.min_eq_right (Int.le_of_lt g9)]
            · rename_i g9
              rw [Int.min_eq_left (by omega)]
        obtain ⟨u, hu⟩ := mgo 36 (Nat.le_refl 36)
        refine MO.okJ (J := L) ?_ (s283.tr hLs) L0
        have hlt : ¬ ((36 : Nat) : Int) < 36 := by omega
        rw [q_X12_halfway_0]
        simp (disch := first | (simp (disch := omega) only [w32_id]; omega) | omega) only [↓BM r1.1, m_nT r1.1 V1 hx2 hy2 hfg2, g2, e_clI, e_clV, e_clP, e_clIx, e_clVx, e_clPx, e_xt, Int.toNat_natCast, Int.reduceToNat, bz0, bz1, Nat.add_zero, decide_eq_false_iff_not, decide_eq_true_eq, Int.reduceEq, Nat.reduceEqDiff, Int.reduceLT, Int.reduceLE, not_true_eq_false, not_false_eq_true, eq_self, ↓reduceIte]
        refine hr.trans ?_
        rw [q_X12_halfway_14]
        simp (disch := first | (simp (disch := omega) only [w32_id]; omega) | omega) only [↓BM r1.1, hlt, g4, e_clI, e_clV, e_clP, e_clIx, e_clVx, e_clPx, e_xt, Int.toNat_natCast, Int.reduceToNat, bz0, bz1, Nat.add_zero, decide_eq_false_iff_not, decide_eq_true_eq, Int.reduceEq, Nat.reduceEqDiff, Int.reduceLT, Int.reduceLE, not_true_eq_false, not_false_eq_true, eq_self, ↓reduceIte]
        rw [hu, q_X12_halfway_38, if_neg hlt, hw_cg eF eG]
  · refine pubQ (x := 3) (v := 0) (v' := 0) r (CO.no (J := I) (by decide) ?_ (Same.rf I)) (fun h1 J1 r1 e1 => ?_) (fun h => absurd h (by decide))
    · rw [q_X11_halfway_0]
      simp (disch := first | (simp (disch := omega) only [w32_id]; omega) | omega) only [↓BO r.1, c_nTx r.1 r.fa hx, e_clI, e_clV, e_clP, e_clIx, e_clVx, e_clPx, e_xt, Int.toNat_natCast, Int.reduceToNat, bz0, bz1, Nat.add_zero, decide_eq_false_iff_not, decide_eq_true_eq, Int.reduceEq, Nat.reduceEqDiff, Int.reduceLT, Int.reduceLE, not_true_eq_false, not_false_eq_true, eq_self, ↓reduceIte]
    · refine MO.thr ?_
      have V1 : WW (J1 284) := by rw [e1.w]; exact V
      have hx2 : ¬ ((0 ≤ x ∧ x < J1 284 0) ∧ 0 ≤ y ∧ y < J1 284 0) := by rw [e1.w]; exact hx
      rw [q_X12_halfway_0]
      simp (disch := first | (simp (disch := omega) only [w32_id]; omega) | omega) only [↓BM r1.1, m_nTx r1.1 V1 hx2, e_clI, e_clV, e_clP, e_clIx, e_clVx, e_clPx, e_xt, Int.toNat_natCast, Int.reduceToNat, bz0, bz1, Nat.add_zero, decide_eq_false_iff_not, decide_eq_true_eq, Int.reduceEq, Nat.reduceEqDiff, Int.reduceLT, Int.reduceLE, not_true_eq_false, not_false_eq_true, eq_self, ↓reduceIte]
      try rfl
end
