/-! HANGS AND ENDS -/
theorem Wk.con {E : Nat → Bool} {F : Nat → Int} {c u : Nat} (hc : c < 49) (W : Wk E c F) (hu : u < 49) : F u < 1000000 ↔ conn lk mk E 60 c u := by
  constructor
  · have key : ∀ n : Nat, ∀ u, u < 49 → F u = n → n < 1000000 → conn lk mk E 60 c u := by
      intro n
      induction n with
      | zero =>
        intro u hu hf _
        by_cases e : u = c
        · rw [e]
          exact conn.rf
        · obtain ⟨b, b1, b2, b3⟩ := W.2.2.2 u hu e (by omega)
          rcases b3 with ⟨-, z⟩ | ⟨-, z⟩
          · have := W.1 _ (mk_lt b b1)
            omega
          · have := W.1 _ (lk_lt b b1)
            omega
      | succ n ih =>
        intro u hu hf hn
        have e : u ≠ c := fun e => by rw [e, W.2.1] at hf; omega
        obtain ⟨b, b1, b2, b3⟩ := W.2.2.2 u hu e (by omega)
        rcases b3 with ⟨z1, z⟩ | ⟨z1, z⟩
        · have i := ih (mk b) (mk_lt b b1) (by omega) (by omega)
          rw [← z1]
          exact i.tr (conn.ed b1 b2).sy
        · have i := ih (lk b) (lk_lt b b1) (by omega) (by omega)
          rw [← z1]
          exact i.tr (conn.ed b1 b2)
    intro hf
    have h0 := W.1 u hu
    exact key (F u).toNat u hu (by omega) (by omega)
  · intro h
    refine h (fun x => F x < 1000000) (by rw [W.2.1]; omega) (fun b hb he => ?_)
    have a := W.2.2.1 b hb he
    have l1 := W.le hc (lk_lt b hb)
    have l2 := W.le hc (mk_lt b hb)
    constructor
    · intro z
      have := l1 z
      omega
    · intro z
      have := l2 z
      omega
theorem Wk_ex {E : Nat → Bool} {c : Nat} (hc : c < 49) : ∃ F, Wk E c F := by
  have hE : isE 1 lk mk 49 := Or.inr ⟨rfl, rfl, rfl, rfl⟩
  have ha : ∀ b, b < 60 → 0 ≤ (fun b => if E b = true then (1 : Int) else 1000000) b := fun b hb => by
    try dsimp only
    split <;> omega
  have hst := it_done (e1 := lk) (e2 := mk) (ad := fun b => if E b = true then (1 : Int) else 1000000) (C := ini c) (n := 49) (by omega) hE.lt ha (fun u hu => ini_b.1) 48 (by omega)
  have hle : ∀ k u, it pl lk mk (fun b => if E b = true then (1 : Int) else 1000000) k (ini c) u ≤ ini c u := by
    intro k u
    induction k with
    | zero => exact Int.le_refl _
    | succ k ih => exact Int.le_trans (it_le u k) ih
  exact ⟨_, Wk_of hc (A := fun b => if E b = true then (1 : Int) else 1000000) (fun b hb => rfl) hst (fun u hu => it_ge mon_pl hE.lt (fun b hb => ⟨mon_pl.2 0 _ (ha b hb), mon_pl.2 0 _ (ha b hb)⟩) (fun u hu => ini_b.1) 48 u hu) (fun u hu => hle 48 u) (fun G hG hg u hu => it_ge mon_pl hE.lt hG hg 48 u hu)⟩
theorem lkmk : ∀ b, b < 60 → lk b ≠ mk b := by decide +kernel
theorem nn_or {p q : Nat → Bool} : ∀ {N : Nat}, (∀ b, b < N → ¬ (p b = true ∧ q b = true)) → nn p N + nn q N = nn (fun b => p b || q b) N
  | 0, _ => rfl
  | N + 1, h => by
    have i := nn_or (p := p) (q := q) (N := N) (fun b hb => h b (by omega))
    have a := h N (Nat.lt_succ_self N)
    show nn p N + (if p N = true then 1 else 0) + (nn q N + (if q N = true then 1 else 0)) = nn (fun b => p b || q b) N + (if (p N || q N) = true then 1 else 0)
    rw [← i]
    cases h1 : p N <;> cases h2 : q N
    · simp
      try omega
    · simp
      try omega
    · simp
      try omega
    · exact absurd ⟨h1, h2⟩ a
section
variable {sc : Nat × (Nat → Int)} {d a : Nat} {h : am_H} {I J : am_I} {w : am_Wd} {lb : Nat → Nat}
theorem edC_b {e1 : Nat → Nat} {E : Nat → Bool} {r n : Nat} : 0 ≤ edC e1 E lb r n ∧ edC e1 E lb r n ≤ n := nn_b
theorem c_mostEdges (s : Sh h) {E : Nat → Bool} (P : PcI lk mk E 49 60 lb I) : Cl sc (d + 2) mX8_mostEdges [Vr (some 48)] (hI h I) = some (.inl (Vi (mxF (fun u => edC lk E lb (lb u) 60) 49)), hI h I) := by
  have go : ∀ n, n ≤ 49 → Ru sc (d + 2) mX8_mostEdges 5 [Vr (some 48), Vi 0, Vi 0] [] (hI h I) = Ru sc (d + 2) mX8_mostEdges 5 [Vr (some 48), Vi (mxF (fun u => edC lk E lb (lb u) 60) n), Vi (n : Int)] [] (hI h I) := by
    intro n
    induction n with
    | zero => exact fun _ => rfl
    | succ n ih =>
      intro hn
      have hlt : (n : Int) < 49 := by omega
      have p0 := P.1.1 n (by omega)
      have p1 := P.2.1 n (by omega)
      have p2 := (P.2.2.1 (lb n) p0.1 p0.2).2
      have p3 : I 48 4 = 49 := P.2.2.2.2.1
      rw [ih (by omega), q_X8_mostEdges_5]
      simp (disch := first | (simp (disch := omega) only [w32_id]; omega) | omega) only [↓BP s, p3, hlt, p1, p2, c_max, w32_succ, e_clI, e_clV, e_clP, e_clIx, e_clVx, e_clPx, e_xt, Int.toNat_natCast, Int.reduceToNat, bz0, bz1, Nat.add_zero, decide_eq_false_iff_not, decide_eq_true_eq, Int.reduceEq, Nat.reduceEqDiff, Int.reduceLT, Int.reduceLE, not_true_eq_false, not_false_eq_true, eq_self, ↓reduceIte]
      try rfl
  have p3 : I 48 4 = 49 := P.2.2.2.2.1
  have hlt : ¬ ((49 : Nat) : Int) < 49 := by omega
  rw [q_X8_mostEdges_0, go 49 (Nat.le_refl 49), q_X8_mostEdges_5]
  simp (disch := first | (simp (disch := omega) only [w32_id]; omega) | omega) only [↓BP s, p3, hlt, e_clI, e_clV, e_clP, e_clIx, e_clVx, e_clPx, e_xt, Int.toNat_natCast, Int.reduceToNat, bz0, bz1, Nat.add_zero, decide_eq_false_iff_not, decide_eq_true_eq, Int.reduceEq, Nat.reduceEqDiff, Int.reduceLT, Int.reduceLE, not_true_eq_false, not_false_eq_true, eq_self, ↓reduceIte]
theorem c_ofOne (s : Sh h) {E : Nat → Bool} (P : PcI lk mk E 49 60 lb I) : Cl sc (d + 2) mX8_nodesOfOneEdge [Vr (some 48)] (hI h I) = some (.inl (Vi (nn (fun u => decide (eaC lk mk E u 60 = 1)) 49)), hI h I) := by
  have p3 : I 48 4 = 49 := P.2.2.2.2.1
  have hr := sm_run (F := fun i z => Ru sc (d + 2) mX8_nodesOfOneEdge 5 [Vr (some 48), Vi z, Vi (i : Int)] [] (hI h I)) (f := fun u => if decide (eaC lk mk E u 60 = 1) = true then 1 else 0) (N := 49) (fun i hi => by
    have hlt : (i : Int) < 49 := by omega
    have hb : 0 ≤ nn (fun u => decide (eaC lk mk E u 60 = 1)) i ∧ nn (fun u => decide (eaC lk mk E u 60 = 1)) i ≤ i := nn_b
    have p4 := P.2.2.2.1 i hi
    unfold nn at hb
    try dsimp only
    rw [q_X8_nodesOfOneEdge_5]
    simp (disch := first | (simp (disch := omega) only [w32_id]; omega) | omega) only [↓BP s, p3, hlt, p4, w32_succ, e_clI, e_clV, e_clP, e_clIx, e_clVx, e_clPx, e_xt, Int.toNat_natCast, Int.reduceToNat, bz0, bz1, Nat.add_zero, decide_eq_false_iff_not, decide_eq_true_eq, Int.reduceEq, Nat.reduceEqDiff, Int.reduceLT, Int.reduceLE, not_true_eq_false, not_false_eq_true, eq_self, ↓reduceIte]
    simp only [decide_eq_true_eq] at hb
    by_cases g : eaC lk mk E i 60 = 1
    · rw [if_pos g, if_pos g, w32_id (by omega) (by omega)]
    · rw [if_neg g, if_neg g, w32_id (by omega) (by omega)])
  rw [q_X8_nodesOfOneEdge_0]
  refine hr.trans ?_
  have hlt : ¬ ((49 : Nat) : Int) < 49 := by omega
  rw [q_X8_nodesOfOneEdge_5]
  unfold nn
  simp (disch := first | (simp (disch := omega) only [w32_id]; omega) | omega) only [↓BP s, p3, hlt, e_clI, e_clV, e_clP, e_clIx, e_clVx, e_clPx, e_xt, Int.toNat_natCast, Int.reduceToNat, bz0, bz1, Nat.add_zero, decide_eq_false_iff_not, decide_eq_true_eq, Int.reduceEq, Nat.reduceEqDiff, Int.reduceLT, Int.reduceLE, not_true_eq_false, not_false_eq_true, eq_self, ↓reduceIte]
theorem m_hangsB (s : Sh h) {t i2 : Int} {c : Nat} {D : Nat → Int} (hD : ∀ b, b < 60 → D (lk b) = I 298 (lk b)) : Ru sc (d + 6) mX12_hangs 23 [Vr (some 283), Vi t, Vi i2, Vi (c : Int), Vi 0, Vi 0] [] (hI h I) = Ru sc (d + 6) mX12_hangs 23 [Vr (some 283), Vi t, Vi i2, Vi (c : Int), Vi (nn (fun b => toW (I 284) b t && decide (D (lk b) ≠ -1)) 60), Vi ((60 : Nat) : Int)] [] (hI h I) := by
  have hr := sm_run (F := fun i z => Ru sc (d + 6) mX12_hangs 23 [Vr (some 283), Vi t, Vi i2, Vi (c : Int), Vi z, Vi (i : Int)] [] (hI h I)) (f := fun b => if (toW (I 284) b t && decide (D (lk b) ≠ -1)) = true then 1 else 0) (N := 60) (fun i hi => by
    have hlt : (i : Int) < 60 := by omega
    have hb : 0 ≤ nn (fun b => toW (I 284) b t && decide (D (lk b) ≠ -1)) i ∧ nn (fun b => toW (I 284) b t && decide (D (lk b) ≠ -1)) i ≤ i := nn_b
    have l1 := lk_lt i hi
    have hd := hD i hi
    unfold nn at hb
    have ht := m_isTop (sc := sc) (d := d + 1) (I := I) (t := t) s hi
    try dsimp only
    generalize sm (fun b => if (toW (I 284) b t && decide (D (lk b) ≠ -1)) = true then (1 : Int) else 0) i = z at hb ⊢
    rw [q_X12_hangs_23]
    cases hE : toW (I 284) i t
    · rw [hE] at ht
      simp (disch := first | (simp (disch := omega) only [w32_id]; omega) | omega) only [↓BM s, hlt, ht, w32_succ, Bool.false_and, Bool.false_eq_true, e_clI, e_clV, e_clP, e_clIx, e_clVx, e_clPx, e_xt, Int.toNat_natCast, Int.reduceToNat, bz0, bz1, Nat.add_zero, decide_eq_false_iff_not, decide_eq_true_eq, Int.reduceEq, Nat.reduceEqDiff, Int.reduceLT, Int.reduceLE, not_true_eq_false, not_false_eq_true, eq_self, ↓reduceIte]
      rw [w32_id (by omega) (by omega)]
      try rfl
    · rw [hE] at ht
      by_cases g : D (lk i) = -1
      · rw [decide_eq_false (by omega), Bool.and_false, if_neg (show ¬ (false = true) by decide)]
        have g2 : I 298 (lk i) = -1 := by rw [← hd]; exact g
        simp (disch := first | (simp (disch := omega) only [w32_id]; omega) | omega) only [↓BM s, hlt, ht, c_beginOf hi, g2, w32_succ, Bool.true_eq_false, e_clI, e_clV, e_clP, e_clIx, e_clVx, e_clPx, e_xt, Int.toNat_natCast, Int.reduceToNat, bz0, bz1, Nat.add_zero, decide_eq_false_iff_not, decide_eq_true_eq, Int.reduceEq, Nat.reduceEqDiff, Int.reduceLT, Int.reduceLE, not_true_eq_false, not_false_eq_true, eq_self, ↓reduceIte]
        rw [w32_id (by omega) (by omega)]
      · rw [decide_eq_true g, Bool.and_true, if_pos (show true = true from rfl)]
        have g2 : ¬ I 298 (lk i) = -1 := by rw [← hd]; exact g
        simp (disch := first | (simp (disch := omega) only [w32_id]; omega) | omega) only [↓BM s, hlt, ht, c_beginOf hi, g2, w32_succ, Bool.true_eq_false, e_clI, e_clV, e_clP, e_clIx, e_clVx, e_clPx, e_xt, Int.toNat_natCast, Int.reduceToNat, bz0, bz1, Nat.add_zero, decide_eq_false_iff_not, decide_eq_true_eq, Int.reduceEq, Nat.reduceEqDiff, Int.reduceLT, Int.reduceLE, not_true_eq_false, not_false_eq_true, eq_self, ↓reduceIte]
        rw [w32_id (by omega) (by omega)])
  exact hr
theorem p_hangs (r : Rel h I) {x : Int} : Pub h I (Cl sc (d + 30) mX11_hangs [Vr (some 0), Vi x]) (Cl sc (d + 30) mX12_hangs [Vr (some 283), Vi x]) cdA := by
  have R := r.R
  have V := r.V
  by_cases hx : 0 ≤ x ∧ x ≤ 999
  · obtain ⟨J, lb, ⟨k1, k2⟩, k3⟩ := c_ofTops (sc := sc) (d := d + 26) (t := x) r.1 r.c (by omega) R V
    have k4 := c_mostEdges (sc := sc) (d := d + 27) r.1 k2
    refine pubQ (x := 0) (v := mxF (fun u => edC lk (fun b => toW (I 284) b x) lb (lb u) 60) 49) (v' := mxF (fun u => edC lk (fun b => toW (I 284) b x) lb (lb u) 60) 49) r (CO.ok (J := J) ?_ k1.sm) (fun h1 J1 r1 e1 => ?_) (fun _ => rfl)
    · rw [q_X11_hangs_0]
      simp (disch := first | (simp (disch := omega) only [w32_id]; omega) | omega) only [↓BO r.1, ↓BP r.1, c_nH hx, k3, k4, e_clI, e_clV, e_clP, e_clIx, e_clVx, e_clPx, e_xt, Int.toNat_natCast, Int.reduceToNat, bz0, bz1, Nat.add_zero, decide_eq_false_iff_not, decide_eq_true_eq, Int.reduceEq, Nat.reduceEqDiff, Int.reduceLT, Int.reduceLE, not_true_eq_false, not_false_eq_true, eq_self, ↓reduceIte]
    · have e4 : am_u2 J1 283 0 0 284 = I 284 := by rw [w283, e1.w]
      have go : ∀ n, n ≤ 49 → ∃ C v4 v5, Ru sc (d + 30) mX12_hangs 11 [Vr (some 283), Vi x, Vi 0, Vi 0, Vx 0, Vx 0] [] (hI h1 (am_u2 J1 283 0 0)) = Ru sc (d + 30) mX12_hangs 11 [Vr (some 283), Vi x, Vi (mxF (fun u => edC lk (fun b => toW (I 284) b x) lb (lb u) 60) n), Vi (n : Int), v4, v5] [] (hI h1 (sr (am_u2 J1 283 0 0) 298 C)) := by
        intro n
        induction n with
        | zero =>
          intro _
          refine ⟨am_u2 J1 283 0 0 298, Vx 0, Vx 0, ?_⟩
          rw [sr_self]
          rfl
        | succ n ih =>
          intro hn
          obtain ⟨C, v4, v5, e⟩ := ih (by omega)
          have hlt : (n : Int) < 49 := by omega
          have e5 : sr (am_u2 J1 283 0 0) 298 C 284 = I 284 := by rw [sr_ne (by decide), e4]
          obtain ⟨F, W⟩ := Wk_ex (E := fun b => toW (I 284) b x) (c := n) (by omega)
          obtain ⟨D, l, m5⟩ := m_walks (sc := sc) (d := d + 23) (I := sr (am_u2 J1 283 0 0) 298 C) (t := x) r1.1 (c := n) (by omega) (F := F) (by rw [e5]; exact W)
          rw [sr_sr] at m5
          have e6 : sr (am_u2 J1 283 0 0) 298 D 284 = I 284 := by rw [sr_ne (by decide), e4]
          have mb := m_hangsB (sc := sc) (d := d + 24) (I := sr (am_u2 J1 283 0 0) 298 D) (t := x) (i2 := mxF (fun u => edC lk (fun b => toW (I 284) b x) lb (lb u) 60) n) (c := n) (D := D) r1.1 (fun b hb => by rw [sr_q])
          rw [e6] at mb
          have ec : nn (fun b => toW (I 284) b x && decide (D (lk b) ≠ -1)) 60 = edC lk (fun b => toW (I 284) b x) lb (lb n) 60 := by
            unfold edC
            refine nn_cg (fun b hb => ?_)
            have lv := l (lk b) (lk_lt b hb)
            have cn := W.con (by omega) (lk_lt b hb)
            have le := W.le (by omega) (lk_lt b hb)
            have f0 := W.1 (lk b) (lk_lt b hb)
            have pc := k2.1.2 (lk b) n (lk_lt b hb) (by omega)
            have eq : (D (lk b) ≠ -1) = (lb (lk b) = lb n) := propext (by
              rw [pc, lv]
              constructor
              · intro z
                by_cases g : F (lk b) < 1000000
                · exact (cn.mp g).sy
                · rw [if_neg (by omega)] at z
                  exact absurd rfl z
              · intro z
                have := le (cn.mpr z.sy)
                rw [if_pos (by omega)]
                omega)
            simp only [eq]
          rw [ec] at mb
          refine ⟨D, Vi (edC lk (fun b => toW (I 284) b x) lb (lb n) 60), Vi ((60 : Nat) : Int), ?_⟩
          have hlt2 : ¬ ((60 : Nat) : Int) < 60 := by omega
          rw [e, q_X12_hangs_11]
          simp (disch := first | (simp (disch := omega) only [w32_id]; omega) | omega) only [↓BM r1.1, hlt, m5, e_clI, e_clV, e_clP, e_clIx, e_clVx, e_clPx, e_xt, Int.toNat_natCast, Int.reduceToNat, bz0, bz1, Nat.add_zero, decide_eq_false_iff_not, decide_eq_true_eq, Int.reduceEq, Nat.reduceEqDiff, Int.reduceLT, Int.reduceLE, not_true_eq_false, not_false_eq_true, eq_self, ↓reduceIte]
          rw [mb, q_X12_hangs_23]
          simp (disch := first | (simp (disch := omega) only [w32_id]; omega) | omega) only [↓BM r1.1, hlt2, c_max, w32_succ, e_clI, e_clV, e_clP, e_clIx, e_clVx, e_clPx, e_xt, Int.toNat_natCast, Int.reduceToNat, bz0, bz1, Nat.add_zero, decide_eq_false_iff_not, decide_eq_true_eq, Int.reduceEq, Nat.reduceEqDiff, Int.reduceLT, Int.reduceLE, not_true_eq_false, not_false_eq_true, eq_self, ↓reduceIte]
          try rfl
      obtain ⟨C, v4, v5, e⟩ := go 49 (Nat.le_refl 49)
      have hlt : ¬ ((49 : Nat) : Int) < 49 := by omega
      refine MO.okJ (J := sr (am_u2 J1 283 0 0) 298 C) ?_ (s283.tr (fun k j hk => congrFun (sr_ne (fun e => hk (by unfold scr; omega))) j)) (by rw [sr_ne (by decide)]; exact u2_same)
      rw [q_X12_hangs_0]
      simp (disch := first | (simp (disch := omega) only [w32_id]; omega) | omega) only [↓BM r1.1, m_wrongHeight r1.1 hx, e_clI, e_clV, e_clP, e_clIx, e_clVx, e_clPx, e_xt, Int.toNat_natCast, Int.reduceToNat, bz0, bz1, Nat.add_zero, decide_eq_false_iff_not, decide_eq_true_eq, Int.reduceEq, Nat.reduceEqDiff, Int.reduceLT, Int.reduceLE, not_true_eq_false, not_false_eq_true, eq_self, ↓reduceIte]
      rw [e, q_X12_hangs_11, if_neg hlt]
  · skip
    refine pubQ (x := 1) (v := 0) (v' := 0) r (CO.no (J := I) (by decide) ?_ (Same.rf I)) (fun h1 J1 r1 e1 => ?_) (fun h => absurd h (by decide))
    · rw [q_X11_hangs_0, c_nHx hx, e_clVx]
      try rfl
    · refine MO.thr ?_
      rw [q_X12_hangs_0]
      simp (disch := first | (simp (disch := omega) only [w32_id]; omega) | omega) only [↓BM r1.1, m_wrongHeightx r1.1 hx, e_clI, e_clV, e_clP, e_clIx, e_clVx, e_clPx, e_xt, Int.toNat_natCast, Int.reduceToNat, bz0, bz1, Nat.add_zero, decide_eq_false_iff_not, decide_eq_true_eq, Int.reduceEq, Nat.reduceEqDiff, Int.reduceLT, Int.reduceLE, not_true_eq_false, not_false_eq_true, eq_self, ↓reduceIte]
      try rfl
theorem m_endsB (s : Sh h) {t i2 : Int} {c : Nat} : Ru sc (d + 6) mX12_ends 19 [Vr (some 283), Vi t, Vi i2, Vi (c : Int), Vi 0, Vi 0] [] (hI h I) = Ru sc (d + 6) mX12_ends 19 [Vr (some 283), Vi t, Vi i2, Vi (c : Int), Vi (eaC lk mk (fun b => toW (I 284) b t) c 60), Vi ((60 : Nat) : Int)] [] (hI h I) := by
  have hr := sm_run (F := fun i z => Ru sc (d + 6) mX12_ends 19 [Vr (some 283), Vi t, Vi i2, Vi (c : Int), Vi z, Vi (i : Int)] [] (hI h I)) (f := fun b => if ((toW (I 284) b t && decide (lk b = c)) || (toW (I 284) b t && decide (mk b = c))) = true then 1 else 0) (N := 60) (fun i hi => by
    have hlt : (i : Int) < 60 := by omega
    have hb : 0 ≤ nn (fun b => (toW (I 284) b t && decide (lk b = c)) || (toW (I 284) b t && decide (mk b = c))) i ∧ nn (fun b => (toW (I 284) b t && decide (lk b = c)) || (toW (I 284) b t && decide (mk b = c))) i ≤ i := nn_b
    have l1 := lk_lt i hi
    have l2 := mk_lt i hi
    unfold nn at hb
    have ht := m_isTop (sc := sc) (d := d + 1) (I := I) (t := t) s hi
    try dsimp only
    generalize sm (fun b => if ((toW (I 284) b t && decide (lk b = c)) || (toW (I 284) b t && decide (mk b = c))) = true then (1 : Int) else 0) i = z at hb ⊢
    rw [q_X12_ends_19]
    cases hE : toW (I 284) i t
    · rw [hE] at ht
      simp (disch := first | (simp (disch := omega) only [w32_id]; omega) | omega) only [↓BM s, hlt, ht, w32_succ, Bool.false_and, Bool.false_or, Bool.false_eq_true, e_clI, e_clV, e_clP, e_clIx, e_clVx, e_clPx, e_xt, Int.toNat_natCast, Int.reduceToNat, bz0, bz1, Nat.add_zero, decide_eq_false_iff_not, decide_eq_true_eq, Int.reduceEq, Nat.reduceEqDiff, Int.reduceLT, Int.reduceLE, not_true_eq_false, not_false_eq_true, eq_self, ↓reduceIte]
      rw [w32_id (by omega) (by omega)]
      try rfl
    · rw [hE] at ht
      by_cases g1 : lk i = c
      · have g1' : ((lk i : Nat) : Int) = c := by omega
        rw [decide_eq_true g1, Bool.and_true, Bool.true_or, if_pos (show true = true from rfl)]
        simp (disch := first | (simp (disch := omega) only [w32_id]; omega) | omega) only [↓BM s, hlt, ht, c_beginOf hi, g1', w32_succ, Bool.true_eq_false, e_clI, e_clV, e_clP, e_clIx, e_clVx, e_clPx, e_xt, Int.toNat_natCast, Int.reduceToNat, bz0, bz1, Nat.add_zero, decide_eq_false_iff_not, decide_eq_true_eq, Int.reduceEq, Nat.reduceEqDiff, Int.reduceLT, Int.reduceLE, not_true_eq_false, not_false_eq_true, eq_self, ↓reduceIte]
        rw [w32_id (by omega) (by omega)]
      · have g1' : ¬ ((lk i : Nat) : Int) = c := by omega
        rw [decide_eq_false g1, Bool.and_false, Bool.false_or, Bool.true_and]
        by_cases g2 : mk i = c
        · have g2' : ((mk i : Nat) : Int) = c := by omega
          rw [decide_eq_true g2, if_pos (show true = true from rfl)]
          simp (disch := first | (simp (disch := omega) only [w32_id]; omega) | omega) only [↓BM s, hlt, ht, c_beginOf hi, c_endOf hi, g1', g2', w32_succ, Bool.true_eq_false, e_clI, e_clV, e_clP, e_clIx, e_clVx, e_clPx, e_xt, Int.toNat_natCast, Int.reduceToNat, bz0, bz1, Nat.add_zero, decide_eq_false_iff_not, decide_eq_true_eq, Int.reduceEq, Nat.reduceEqDiff, Int.reduceLT, Int.reduceLE, not_true_eq_false, not_false_eq_true, eq_self, ↓reduceIte]
          rw [w32_id (by omega) (by omega)]
        · have g2' : ¬ ((mk i : Nat) : Int) = c := by omega
          rw [decide_eq_false g2, if_neg (show ¬ (false = true) by decide)]
          simp (disch := first | (simp (disch := omega) only [w32_id]; omega) | omega) only [↓BM s, hlt, ht, c_beginOf hi, c_endOf hi, g1', g2', w32_succ, Bool.true_eq_false, e_clI, e_clV, e_clP, e_clIx, e_clVx, e_clPx, e_xt, Int.toNat_natCast, Int.reduceToNat, bz0, bz1, Nat.add_zero, decide_eq_false_iff_not, decide_eq_true_eq, Int.reduceEq, Nat.reduceEqDiff, Int.reduceLT, Int.reduceLE, not_true_eq_false, not_false_eq_true, eq_self, ↓reduceIte]
          rw [w32_id (by omega) (by omega)])
  have e : eaC lk mk (fun b => toW (I 284) b t) c 60 = sm (fun b => if ((toW (I 284) b t && decide (lk b = c)) || (toW (I 284) b t && decide (mk b = c))) = true then 1 else 0) 60 := by
    unfold eaC
    rw [nn_or (fun b hb => ?_)]
    · rfl
    · intro z
      rw [Bool.and_eq_true, Bool.and_eq_true, decide_eq_true_eq, decide_eq_true_eq] at z
      exact lkmk b hb (z.1.2.trans z.2.2.symm)
  rw [e]
  exact hr
theorem p_ends (r : Rel h I) {x : Int} : Pub h I (Cl sc (d + 30) mX11_ends [Vr (some 0), Vi x]) (Cl sc (d + 30) mX12_ends [Vr (some 283), Vi x]) cdA := by
  have R := r.R
  have V := r.V
  by_cases hx : 0 ≤ x ∧ x ≤ 999
  · obtain ⟨J, lb, ⟨k1, k2⟩, k3⟩ := c_ofTops (sc := sc) (d := d + 26) (t := x) r.1 r.c (by omega) R V
    have k4 := c_ofOne (sc := sc) (d := d + 27) r.1 k2
    refine pubQ (x := 0) (v := nn (fun u => decide (eaC lk mk (fun b => toW (I 284) b x) u 60 = 1)) 49) (v' := nn (fun u => decide (eaC lk mk (fun b => toW (I 284) b x) u 60 = 1)) 49) r (CO.ok (J := J) ?_ k1.sm) (fun h1 J1 r1 e1 => ?_) (fun _ => rfl)
    · rw [q_X11_ends_0]
      simp (disch := first | (simp (disch := omega) only [w32_id]; omega) | omega) only [↓BO r.1, ↓BP r.1, c_nH hx, k3, k4, e_clI, e_clV, e_clP, e_clIx, e_clVx, e_clPx, e_xt, Int.toNat_natCast, Int.reduceToNat, bz0, bz1, Nat.add_zero, decide_eq_false_iff_not, decide_eq_true_eq, Int.reduceEq, Nat.reduceEqDiff, Int.reduceLT, Int.reduceLE, not_true_eq_false, not_false_eq_true, eq_self, ↓reduceIte]
    · have e4 : am_u2 J1 283 0 0 284 = I 284 := by rw [w283, e1.w]
      have go : ∀ n, n ≤ 49 → ∃ v4 v5, Ru sc (d + 30) mX12_ends 11 [Vr (some 283), Vi x, Vi 0, Vi 0, Vx 0, Vx 0] [] (hI h1 (am_u2 J1 283 0 0)) = Ru sc (d + 30) mX12_ends 11 [Vr (some 283), Vi x, Vi (nn (fun u => decide (eaC lk mk (fun b => toW (I 284) b x) u 60 = 1)) n), Vi (n : Int), v4, v5] [] (hI h1 (am_u2 J1 283 0 0)) := by
        intro n
        induction n with
        | zero => exact fun _ => ⟨_, _, rfl⟩
        | succ n ih =>
          intro hn
          obtain ⟨v4, v5, e⟩ := ih (by omega)
          have hlt : (n : Int) < 49 := by omega
          have hb : 0 ≤ nn (fun u => decide (eaC lk mk (fun b => toW (I 284) b x) u 60 = 1)) n ∧ nn (fun u => decide (eaC lk mk (fun b => toW (I 284) b x) u 60 = 1)) n ≤ n := nn_b
          have mb := m_endsB (sc := sc) (d := d + 24) (I := am_u2 J1 283 0 0) (t := x) (i2 := nn (fun u => decide (eaC lk mk (fun b => toW (I 284) b x) u 60 = 1)) n) (c := n) r1.1
          rw [e4] at mb
          have hlt2 : ¬ ((60 : Nat) : Int) < 60 := by omega
          have es : nn (fun u => decide (eaC lk mk (fun b => toW (I 284) b x) u 60 = 1)) (n + 1) = nn (fun u => decide (eaC lk mk (fun b => toW (I 284) b x) u 60 = 1)) n + (if decide (eaC lk mk (fun b => toW (I 284) b x) n 60 = 1) = true then 1 else 0) := rfl
          refine ⟨Vi (eaC lk mk (fun b => toW (I 284) b x) n 60), Vi ((60 : Nat) : Int), ?_⟩
          rw [e, es, q_X12_ends_11]
          simp (disch := first | (simp (disch := omega) only [w32_id]; omega) | omega) only [↓BM r1.1, hlt, e_clI, e_clV, e_clP, e_clIx, e_clVx, e_clPx, e_xt, Int.toNat_natCast, Int.reduceToNat, bz0, bz1, Nat.add_zero, decide_eq_false_iff_not, decide_eq_true_eq, Int.reduceEq, Nat.reduceEqDiff, Int.reduceLT, Int.reduceLE, not_true_eq_false, not_false_eq_true, eq_self, ↓reduceIte]
          rw [mb, q_X12_ends_19]
          simp (disch := first | (simp (disch := omega) only [w32_id]; omega) | omega) only [↓BM r1.1, hlt2, w32_succ, e_clI, e_clV, e_clP, e_clIx, e_clVx, e_clPx, e_xt, Int.toNat_natCast, Int.reduceToNat, bz0, bz1, Nat.add_zero, decide_eq_false_iff_not, decide_eq_true_eq, Int.reduceEq, Nat.reduceEqDiff, Int.reduceLT, Int.reduceLE, not_true_eq_false, not_false_eq_true, eq_self, ↓reduceIte]
          by_cases g : eaC lk mk (fun b => toW (I 284) b x) n 60 = 1
          · rw [if_pos g, if_pos g, w32_id (by omega) (by omega)]
          · rw [if_neg g, if_neg g, w32_id (by omega) (by omega)]
      obtain ⟨v4, v5, e⟩ := go 49 (Nat.le_refl 49)
      have hlt : ¬ ((49 : Nat) : Int) < 49 := by omega
      refine MO.ok0 ?_
      rw [q_X12_ends_0]
      simp (disch := first | (simp (disch := omega) only [w32_id]; omega) | omega) only [↓BM r1.1, m_wrongHeight r1.1 hx, e_clI, e_clV, e_clP, e_clIx, e_clVx, e_clPx, e_xt, Int.toNat_natCast, Int.reduceToNat, bz0, bz1, Nat.add_zero, decide_eq_false_iff_not, decide_eq_true_eq, Int.reduceEq, Nat.reduceEqDiff, Int.reduceLT, Int.reduceLE, not_true_eq_false, not_false_eq_true, eq_self, ↓reduceIte]
      rw [e, q_X12_ends_11, if_neg hlt]
  · skip
    refine pubQ (x := 1) (v := 0) (v' := 0) r (CO.no (J := I) (by decide) ?_ (Same.rf I)) (fun h1 J1 r1 e1 => ?_) (fun h => absurd h (by decide))
    · rw [q_X11_ends_0, c_nHx hx, e_clVx]
      try rfl
    · refine MO.thr ?_
      rw [q_X12_ends_0]
      simp (disch := first | (simp (disch := omega) only [w32_id]; omega) | omega) only [↓BM r1.1, m_wrongHeightx r1.1 hx, e_clI, e_clV, e_clP, e_clIx, e_clVx, e_clPx, e_xt, Int.toNat_natCast, Int.reduceToNat, bz0, bz1, Nat.add_zero, decide_eq_false_iff_not, decide_eq_true_eq, Int.reduceEq, Nat.reduceEqDiff, Int.reduceLT, Int.reduceLE, not_true_eq_false, not_false_eq_true, eq_self, ↓reduceIte]
      try rfl
end
