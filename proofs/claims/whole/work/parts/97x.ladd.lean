/-! LADDERS FOR ALL -/
section
variable {sc : Nat × (Nat → Int)} {d a : Nat} {h : am_H} {I J : am_I} {w : am_Wd}
/-- the class's row of one set, first the homes -/
theorem c_treeHomes (s : Sh h) (c : Cty h a) (ha : a + 11 < 48) (R : CRep I a w) (V : WW w) {S N : Nat} (hS : S < 64) : ∀ n : Nat, n ≤ (w 0).toNat → ∃ C, (∀ u, u < 36 → C u = bs w S u n) ∧ Ru sc (d + 6) mX7_laddersForAll 30 [Vr (some 53), Vr (some a), Vi (N : Int), Vi (S : Int), Vr (some (57 + S)), Vi 0] [] (hI h (sr I (57 + S) (fun u => if u < 36 then (1000000 : Int) else I (57 + S) u))) = Ru sc (d + 6) mX7_laddersForAll 30 [Vr (some 53), Vr (some a), Vi (N : Int), Vi (S : Int), Vr (some (57 + S)), Vi (n : Int)] [] (hI h (sr I (57 + S) C)) := by
  have hF := V.fa
  have hT := (s.tree hS).2
  intro n
  induction n with
  | zero => exact fun _ => ⟨_, fun u hu => if_pos hu, rfl⟩
  | succ n ih =>
    intro hn
    obtain ⟨C, c1, c2⟩ := ih (by omega)
    have R2 : CRep (sr I (57 + S) C) a w := R.eq fun k hk => sr_ne (by omega)
    have hlt : (n : Int) < w 0 := by omega
    have hn6 : (n : Int) < 6 := by omega
    have hfa := R2.fa
    have hho := R2.ho (f := n) (by omega)
    have hm := hmW_e V (f := n) (by omega)
    have hm36 : (hmW w n : Int) < 36 := by omega
    by_cases g : (S : Int) = bShl 1 (n : Int)
    · refine ⟨up C (hmW w n) 0, fun u hu => ?_, ?_⟩
      · show _ = bsF w S u n (bs w S u n)
        unfold bsF
        by_cases e : u = hmW w n
        · rw [e, up_s, if_pos ⟨g, rfl⟩]
        · rw [up_o e, if_neg (fun z => e z.2.symm)]
          exact c1 u hu
      · rw [c2, q_X7_laddersForAll_30]
        simp (disch := first | (simp (disch := omega) only [w32_id]; omega) | omega) only [↓BC c, hfa, hlt, if_pos g, hho, hm.1, e_stA hT, u2_sr, w32_succ, e_clI, e_clV, e_clP, e_clIx, e_clVx, e_clPx, e_xt, Int.toNat_natCast, Int.reduceToNat, bz0, bz1, Nat.add_zero, decide_eq_false_iff_not, decide_eq_true_eq, Int.reduceEq, Nat.reduceEqDiff, Int.reduceLT, Int.reduceLE, not_true_eq_false, not_false_eq_true, eq_self, ↓reduceIte]
    · refine ⟨C, fun u hu => ?_, ?_⟩
      · show _ = bsF w S u n (bs w S u n)
        unfold bsF
        rw [if_neg (fun z => g z.1)]
        exact c1 u hu
      · rw [c2, q_X7_laddersForAll_30]
        simp (disch := first | (simp (disch := omega) only [w32_id]; omega) | omega) only [↓BC c, hfa, hlt, if_neg g, w32_succ, e_clI, e_clV, e_clP, e_clIx, e_clVx, e_clPx, e_xt, Int.toNat_natCast, Int.reduceToNat, bz0, bz1, Nat.add_zero, decide_eq_false_iff_not, decide_eq_true_eq, Int.reduceEq, Nat.reduceEqDiff, Int.reduceLT, Int.reduceLE, not_true_eq_false, not_false_eq_true, eq_self, ↓reduceIte]
theorem c_treeParts (s : Sh h) (c : Cty h a) {S N : Nat} (h1 : 1 ≤ S) (hS : S < 64) (hb : ∀ p, 1 ≤ p → p < S → bnd (I (57 + p)) 36) {C0' : Nat → Int} (hC : ∀ u, u < 36 → C0' u = bs w S u (w 0).toNat) : ∀ n : Nat, n ≤ S - 1 → ∃ C, (∀ u, u < 36 → C u = jt w (fun p => I (57 + p)) S u n) ∧ Ru sc (d + 6) mX7_laddersForAll 51 [Vr (some 53), Vr (some a), Vi (N : Int), Vi (S : Int), Vr (some (57 + S)), Vi 1] [] (hI h (sr I (57 + S) C0')) = Ru sc (d + 6) mX7_laddersForAll 51 [Vr (some 53), Vr (some a), Vi (N : Int), Vi (S : Int), Vr (some (57 + S)), Vi ((n + 1 : Nat) : Int)] [] (hI h (sr I (57 + S) C)) := by
  have hT := (s.tree hS).2
  intro n
  induction n with
  | zero => exact fun _ => ⟨_, hC, rfl⟩
  | succ n ih =>
    intro hn
    obtain ⟨C, c1, c2⟩ := ih (by omega)
    have hlt : ((n + 1 : Nat) : Int) < (S : Int) := by omega
    have st := sub_t S hS (n + 1) (by omega)
    have es : ∀ u, jt w (fun p => I (57 + p)) S u (n + 1) = jtF (fun p => I (57 + p)) S u n (jt w (fun p => I (57 + p)) S u n) := fun u => rfl
    by_cases g : bAnd ((n + 1 : Nat) : Int) (S : Int) = ((n + 1 : Nat) : Int)
    · have hsb : subB (n + 1) S = true := decide_eq_true g
      have hle := (st.2 hsb).1
      have T1 := s.tree (show n + 1 < 64 by omega)
      have T2 := s.tree (show S - (n + 1) < 64 by omega)
      have w1 : w32 ((S : Int) - ((n + 1 : Nat) : Int)) = ((S - (n + 1) : Nat) : Int) := by
        rw [show (S : Int) - ((n + 1 : Nat) : Int) = ((S - (n + 1) : Nat) : Int) by omega]
        exact w32_id (by omega) (by omega)
      have f1 : sr I (57 + S) C (57 + (n + 1)) = I (57 + (n + 1)) := sr_ne (by omega)
      have f2 : sr I (57 + S) C (57 + (S - (n + 1))) = I (57 + (S - (n + 1))) := sr_ne (by omega)
      have hj := c_joinTrees (sc := sc) (d := d + 3) (I := sr I (57 + S) C) hT T1.2 T2.2 (by omega) (by omega) (by rw [f1]; exact hb _ (by omega) (by omega)) (by rw [f2]; exact hb _ (by omega) (by omega))
      rw [f1, f2, sr_q, sr_sr] at hj
      refine ⟨fun u => if u < 36 then min (C u) (I (57 + (n + 1)) u + I (57 + (S - (n + 1))) u) else C u, fun u hu => ?_, ?_⟩
      · rw [es]
        unfold jtF
        rw [if_pos hsb]
        dsimp only
        rw [if_pos hu, c1 u hu]
      · have t1 : rP h 56 (n + 1) = some (57 + (n + 1)) := T1.1
        have t2 : rP h 56 (S - (n + 1)) = some (57 + (S - (n + 1))) := T2.1
        have wn : w32 (((n + 1 : Nat) : Int) + 1) = ((n + 1 + 1 : Nat) : Int) := w32_succ (by omega)
        rw [c2, q_X7_laddersForAll_51, if_pos hlt, if_pos g]
        simp (disch := first | (simp (disch := omega) only [w32_id]; omega) | omega) only [↓BW s, t1, w1, t2, hj, wn, e_clI, e_clV, e_clP, e_clIx, e_clVx, e_clPx, e_xt, Int.toNat_natCast, Int.reduceToNat, bz0, bz1, Nat.add_zero, decide_eq_false_iff_not, decide_eq_true_eq, Int.reduceEq, Nat.reduceEqDiff, Int.reduceLT, Int.reduceLE, not_true_eq_false, not_false_eq_true, eq_self, ↓reduceIte]
    · have hsb : subB (n + 1) S = false := decide_eq_false g
      refine ⟨C, fun u hu => ?_, ?_⟩
      · rw [es]
        unfold jtF
        rw [if_neg (by rw [hsb]; decide)]
        exact c1 u hu
      · have wn : w32 (((n + 1 : Nat) : Int) + 1) = ((n + 1 + 1 : Nat) : Int) := w32_succ (by omega)
        rw [c2, q_X7_laddersForAll_51, if_pos hlt, if_neg g, wn]
def Tc (I : am_I) : Nat → Nat → Int := fun p => I (57 + p)
theorem Tc_sr {I : am_I} {S p : Nat} {C : Nat → Int} (hp : p ≠ S) : Tc (sr I (57 + S) C) p = Tc I p := sr_ne (by omega)
theorem c_treeRow (s : Sh h) (c : Cty h a) (ha : a + 11 < 48) (R : CRep I a w) (V : WW w) {ad : Nat → Int} (hA : okC I) (had : ∀ b, b < 60 → adC I b = ad b) (hA0 : ∀ b, b < 60 → 0 ≤ ad b) {S N : Nat} (h1 : 1 ≤ S) (hS : S < N) (hN : N ≤ 64) (hT : TR w ad S (Tc I)) {u4 u5 : am_V} : ∃ C v5, TR w ad (S + 1) (Tc (sr I (57 + S) C)) ∧ Ru sc (d + 6) mX7_laddersForAll 16 [Vr (some 53), Vr (some a), Vi (N : Int), Vi (S : Int), u4, u5] [] (hI h I) = Ru sc (d + 6) mX7_laddersForAll 16 [Vr (some 53), Vr (some a), Vi (N : Int), Vi ((S + 1 : Nat) : Int), Vr (some (57 + S)), v5] [] (hI h (sr I (57 + S) C)) := by
  have hF := V.fa
  have hb : ∀ p, 1 ≤ p → p < S → bnd (I (57 + p)) 36 := fun p p1 p2 => (hT p p1 p2).1
  obtain ⟨A, a1, a2⟩ := c_treeHomes (sc := sc) (d := d) s c ha R V (S := S) (N := N) (by omega) (w 0).toNat (Nat.le_refl _)
  obtain ⟨B, b1, b2⟩ := c_treeParts (sc := sc) (d := d) (a := a) s c (w := w) (S := S) (N := N) h1 (by omega) hb a1 (S - 1) (Nat.le_refl _)
  have tT := s.tree (show S < 64 by omega)
  have e54 : sr I (57 + S) B 54 = I 54 := sr_ne (by omega)
  have hA2 : okC (sr I (57 + S) B) := fun b hb => by rw [e54]; exact hA b hb
  have had2 : ∀ b, b < 60 → adC (sr I (57 + S) B) b = ad b := fun b hb => by
    rw [← had b hb]
    unfold adC
    rw [e54]
  have hB : ∀ u, u < 36 → B u = C0 w (Tc I) S u := b1
  have hBb : bnd B 36 := fun u hu => by
    rw [b1 u hu]
    exact jt_b (fun p p1 p2 => (hb p p1 p2 u hu).1) (Nat.le_refl _)
  have hE : isE 0 lc mc 36 := Or.inl ⟨rfl, rfl, rfl, rfl⟩
  have st := c_settle (sc := sc) (d := d + 1) (I := sr I (57 + S) B) s tT.2 (by omega) hE (Nat.le_refl 36) hA2 (by rw [sr_q]; exact hBb)
  rw [sr_q, sr_sr] at st
  have hst := it_done (e1 := lc) (e2 := mc) (ad := adC (sr I (57 + S) B)) (C := B) (n := 36) (by omega) hE.lt (fun b hb => by rw [had2 b hb]; exact hA0 b hb) (fun u hu => (hBb u hu).1) 48 (by omega)
  have hL := (Lst.of (C0 := C0 w (Tc I) S) mon_pl hB hst).cg had2
  generalize it pl lc mc (adC (sr I (57 + S) B)) 48 B = Z at hL st
  have eZ : Tc (sr I (57 + S) Z) S = Z := sr_q
  refine ⟨Z, Vi ((S - 1 + 1 : Nat) : Int), hT.add (fun p p1 p2 u hu => by rw [Tc_sr (by omega)]) ?_ ?_, ?_⟩
  · rw [eZ]
    refine fun u hu => ⟨hL.pos mon_pl hA0 (fun v hv => ?_) u hu, Int.le_trans (hL.2.1 u hu) ?_⟩
    · rw [← hB v hv]
      exact (hBb v hv).1
    · rw [← hB u hu]
      exact (hBb u hu).2
  · rw [eZ]
    exact hL
  · have hlt : (S : Int) < (N : Int) := by omega
    have hS64 : (S : Int) < 64 := by omega
    have t1 : rP h 56 S = some (57 + S) := tT.1
    have R2 : CRep (sr I (57 + S) A) a w := R.eq fun k hk => sr_ne (by omega)
    have hfa := R2.fa
    have hlt2 : ¬ (((w 0).toNat : Nat) : Int) < w 0 := by omega
    have hlt3 : ¬ ((S - 1 + 1 : Nat) : Int) < (S : Int) := by omega
    rw [q_X7_laddersForAll_16, if_pos hlt]
    simp (disch := first | (simp (disch := omega) only [w32_id]; omega) | omega) only [↓BW s, t1, c_fill tT.2, e_clI, e_clV, e_clP, e_clIx, e_clVx, e_clPx, e_xt, Int.toNat_natCast, Int.reduceToNat, bz0, bz1, Nat.add_zero, decide_eq_false_iff_not, decide_eq_true_eq, Int.reduceEq, Nat.reduceEqDiff, Int.reduceLT, Int.reduceLE, not_true_eq_false, not_false_eq_true, eq_self, ↓reduceIte]
    rw [a2, q_X7_laddersForAll_30]
    simp (disch := first | (simp (disch := omega) only [w32_id]; omega) | omega) only [↓BC c, hfa, hlt2, e_clI, e_clV, e_clP, e_clIx, e_clVx, e_clPx, e_xt, Int.toNat_natCast, Int.reduceToNat, bz0, bz1, Nat.add_zero, decide_eq_false_iff_not, decide_eq_true_eq, Int.reduceEq, Nat.reduceEqDiff, Int.reduceLT, Int.reduceLE, not_true_eq_false, not_false_eq_true, eq_self, ↓reduceIte]
    rw [b2, q_X7_laddersForAll_51, if_neg hlt3]
    simp (disch := first | (simp (disch := omega) only [w32_id]; omega) | omega) only [↓BW s, st, w32_succ, e_clI, e_clV, e_clP, e_clIx, e_clVx, e_clPx, e_xt, Int.toNat_natCast, Int.reduceToNat, bz0, bz1, Nat.add_zero, decide_eq_false_iff_not, decide_eq_true_eq, Int.reduceEq, Nat.reduceEqDiff, Int.reduceLT, Int.reduceLE, not_true_eq_false, not_false_eq_true, eq_self, ↓reduceIte]
theorem c_laddersForAll (s : Sh h) (c : Cty h a) (ha : a + 11 < 48) (R : CRep I a w) (V : WW w) : (w 0 = 0 → Cl sc (d + 6) mX7_laddersForAll [Vr (some 53), Vr (some a)] (hI h I) = some (.inl (Vi 0), hI h I)) ∧ (1 ≤ w 0 → ∃ J, (Ks I J ∧ TR w (adM w (-1) (-1) 3 0) (2 ^ (w 0).toNat) (Tc J)) ∧ Cl sc (d + 6) mX7_laddersForAll [Vr (some 53), Vr (some a)] (hI h I) = some (.inl (Vi (Tc J (2 ^ (w 0).toNat - 1) (hmW w 0))), hI h J)) := by
  have hF := V.fa
  have hfa := R.fa
  refine ⟨fun h0 => ?_, fun h0 => ?_⟩
  · rw [q_X7_laddersForAll_0]
    simp (disch := first | (simp (disch := omega) only [w32_id]; omega) | omega) only [↓BC c, hfa, h0, e_clI, e_clV, e_clP, e_clIx, e_clVx, e_clPx, e_xt, Int.toNat_natCast, Int.reduceToNat, bz0, bz1, Nat.add_zero, decide_eq_false_iff_not, decide_eq_true_eq, Int.reduceEq, Nat.reduceEqDiff, Int.reduceLT, Int.reduceLE, not_true_eq_false, not_false_eq_true, eq_self, ↓reduceIte]
  · obtain ⟨J, ⟨j1, j2, j3⟩, j4⟩ := c_chargeLadders (sc := sc) (d := d + 2) s c ha R V
    have hsh := shl_t (w 0).toNat (by omega)
    have hA := okC_of (e54_3 V j3) (hab_3 V)
    have had := adC_of (e54_3 V j3) (fun b hb => (hab_3 V b hb).1)
    have hA0 : ∀ b, b < 60 → 0 ≤ adM w (-1) (-1) 3 0 b := fun b hb => (hab_3 V b hb).1
    have hp1 : 1 ≤ 2 ^ (w 0).toNat := Nat.one_le_two_pow
    have go : ∀ n : Nat, n + 1 ≤ 2 ^ (w 0).toNat → ∃ K v4 v5, ((Ks J K ∧ K 54 = J 54) ∧ TR w (adM w (-1) (-1) 3 0) (n + 1) (Tc K)) ∧ Ru sc (d + 6) mX7_laddersForAll 16 [Vr (some 53), Vr (some a), Vi ((2 ^ (w 0).toNat : Nat) : Int), Vi 1, Vx 0, Vx 0] [] (hI h J) = Ru sc (d + 6) mX7_laddersForAll 16 [Vr (some 53), Vr (some a), Vi ((2 ^ (w 0).toNat : Nat) : Int), Vi ((n + 1 : Nat) : Int), v4, v5] [] (hI h K) := by
      intro n
      induction n with
      | zero => exact fun _ => ⟨J, Vx 0, Vx 0, ⟨⟨Ks.rf J, rfl⟩, fun S h1 h2 => by omega⟩, rfl⟩
      | succ n ih =>
        intro hn
        obtain ⟨K, v4, v5, ⟨⟨k1, k2⟩, k3⟩, k4⟩ := ih (by omega)
        have RK : CRep K a w := (j1.tr k1).c (by omega) R
        obtain ⟨C, x5, l1, l2⟩ := c_treeRow (sc := sc) (d := d) (I := K) s c ha RK V (ad := adM w (-1) (-1) 3 0) (fun b hb => by rw [k2]; exact hA b hb) (fun b hb => by rw [← had b hb]; unfold adC; rw [k2]) hA0 (S := n + 1) (N := 2 ^ (w 0).toNat) (by omega) (by omega) hsh.2 k3 (u4 := v4) (u5 := v5)
        exact ⟨_, _, x5, ⟨⟨k1.sr (by omega), (sr_ne (by omega)).trans k2⟩, l1⟩, k4.trans l2⟩
    obtain ⟨K, v4, v5, ⟨⟨k1, k2⟩, k3⟩, k4⟩ := go (2 ^ (w 0).toNat - 1) (by omega)
    have en : 2 ^ (w 0).toNat - 1 + 1 = 2 ^ (w 0).toNat := by omega
    rw [en] at k3 k4
    refine ⟨K, ⟨j1.tr k1, k3⟩, ?_⟩
    have hfJ := (j1.c (Or.inl ha) R).fa
    have hfK := ((j1.tr k1).c (Or.inl ha) R).ho (f := 0) (by omega)
    have hm := hmW_e V (f := 0) (by omega)
    have tT := s.tree (show 2 ^ (w 0).toNat - 1 < 64 by omega)
    have t1 : rP h 56 (2 ^ (w 0).toNat - 1) = some (57 + (2 ^ (w 0).toNat - 1)) := tT.1
    have hn0 : ¬ w 0 = 0 := by omega
    have esh : bShl 1 (w 0) = ((2 ^ (w 0).toNat : Nat) : Int) := by
      have := hsh.1
      rw [show (((w 0).toNat : Nat) : Int) = w 0 by omega] at this
      exact this
    have hlt : ¬ ((2 ^ (w 0).toNat : Nat) : Int) < ((2 ^ (w 0).toNat : Nat) : Int) := by omega
    have w1 : w32 (((2 ^ (w 0).toNat : Nat) : Int) - 1) = ((2 ^ (w 0).toNat - 1 : Nat) : Int) := by
      rw [show ((2 ^ (w 0).toNat : Nat) : Int) - 1 = ((2 ^ (w 0).toNat - 1 : Nat) : Int) by omega]
      exact w32_id (by omega) (by omega)
    have hm36 : (hmW w 0 : Int) < 36 := by omega
    have hm0 : K (a + 6) 0 = (hmW w 0 : Int) := hfK.trans hm.1
    rw [q_X7_laddersForAll_0]
    simp (disch := first | (simp (disch := omega) only [w32_id]; omega) | omega) only [↓BW s, ↓BC c, hfa, hn0, j4, hfJ, esh, e_clI, e_clV, e_clP, e_clIx, e_clVx, e_clPx, e_xt, Int.toNat_natCast, Int.reduceToNat, bz0, bz1, Nat.add_zero, decide_eq_false_iff_not, decide_eq_true_eq, Int.reduceEq, Nat.reduceEqDiff, Int.reduceLT, Int.reduceLE, not_true_eq_false, not_false_eq_true, eq_self, ↓reduceIte]
    rw [k4, q_X7_laddersForAll_16, if_neg hlt]
    simp (disch := first | (simp (disch := omega) only [w32_id]; omega) | omega) only [↓BW s, ↓BC c, w1, t1, hm0, e_ldA tT.2, e_clI, e_clV, e_clP, e_clIx, e_clVx, e_clPx, e_xt, Int.toNat_natCast, Int.reduceToNat, bz0, bz1, Nat.add_zero, decide_eq_false_iff_not, decide_eq_true_eq, Int.reduceEq, Nat.reduceEqDiff, Int.reduceLT, Int.reduceLE, not_true_eq_false, not_false_eq_true, eq_self, ↓reduceIte]
    rfl
end
