/-! AHEAD: one fence alone -/
def Eqb (b : Nat) (u v : am_Wd) : Prop := (∀ k, k < 5 → u (7 + 5 * b + k) = v (7 + 5 * b + k)) ∧ u 3 = v 3 ∧ u 2 = v 2 ∧ ∀ j, 631 ≤ j → u j = v j
section
variable {u v w : am_Wd} {b : Nat}
theorem Eqb.rf (b : Nat) (u : am_Wd) : Eqb b u u := ⟨fun _ _ => rfl, rfl, rfl, fun _ _ => rfl⟩
theorem Eqb.tr (h : Eqb b u v) (g : Eqb b v w) : Eqb b u w := ⟨fun k hk => (h.1 k hk).trans (g.1 k hk), h.2.1.trans g.2.1, h.2.2.1.trans g.2.2.1, fun j hj => (h.2.2.2 j hj).trans (g.2.2.2 j hj)⟩
theorem Eqb.of (h : ∀ j, 7 + 5 * b ≤ j ∧ j < 7 + 5 * b + 5 ∨ j = 3 ∨ j = 2 ∨ 631 ≤ j → u j = v j) : Eqb b u v := ⟨fun k hk => h _ (by omega), h 3 (by omega), h 2 (by omega), fun j hj => h j (by omega)⟩
theorem fW_eqb (e : Eqb b u v) {c n : Int} : fW u b c n = fW v b c n := by
  unfold fW
  rw [e.1 1 (by decide), e.1 2 (by decide), e.1 3 (by decide), e.1 4 (by decide), e.2.1]
theorem sF_eqb (e : Eqb b u v) {st : Nat} : ∀ k, sF u b st k = sF v b st k
  | 0 => rfl
  | k + 1 => by
    unfold sF
    rw [sF_eqb e k, e.2.2.2 _ (by omega), e.2.2.2 _ (by omega)]
    unfold s1
    rw [fW_eqb e]
theorem laW_eqb (e : Eqb b u v) {k : Int} : laW u k b = laW v k b := by
  unfold laW
  rw [e.2.2.2 631 (by omega)]
  refine sm_congr (fun ln _ => ?_)
  unfold hoW
  rw [e.2.2.2 (632 + 4 * ln) (by omega), e.2.2.2 (633 + 4 * ln) (by omega), e.2.2.2 (634 + 4 * ln) (by omega), e.2.2.2 (635 + 4 * ln) (by omega), sF_eqb e]
theorem grW_eqb (e : Eqb b u v) : grW u b = grW v b := by
  unfold grW
  rw [e.1 4 (by decide), e.2.2.1, laW_eqb e, laW_eqb e]
theorem grown_eqb (e : Eqb b u v) : Eqb b (grown u b) (grown v b) := by
  have e0 : u (7 + 5 * b) = v (7 + 5 * b) := e.1 0 (by decide)
  unfold grown
  rw [grW_eqb e, e.1 1 (by decide), e.1 2 (by decide), e0]
  by_cases h : v (7 + 5 * b) = 1
  · rw [if_pos h, if_pos h]
    refine Eqb.of (fun j hj => ?_)
    unfold up
    by_cases h1 : j = 7 + 5 * b + 1
    · rw [if_pos h1, if_pos h1]
    · rw [if_neg h1, if_neg h1]
      by_cases h2 : j = 7 + 5 * b + 2
      · rw [if_pos h2, if_pos h2]
      · rw [if_neg h2, if_neg h2]
        rcases hj with hj | hj | hj | hj
        · obtain ⟨k, rfl⟩ : ∃ k, j = 7 + 5 * b + k := ⟨j - (7 + 5 * b), by omega⟩
          exact e.1 k (by omega)
        · rw [hj]
          exact e.2.1
        · rw [hj]
          exact e.2.2.1
        · exact e.2.2.2 j hj
  · rw [if_neg h, if_neg h]
    exact e
theorem yGrow_eqb (e : Eqb b u v) (hb : b < 60) : Eqb b (yGrow u) (grown v b) := by
  have h := fo_inv (f := fun c v => grown v c) (P := fun i s => (i ≤ b → Eqb b s v) ∧ (b < i → Eqb b s (grown v b))) (s0 := u) (N := 60) ⟨fun _ => e, fun z => absurd z (Nat.not_lt_zero b)⟩ (fun i s hi k => by
    by_cases z : i = b
    · refine ⟨fun y => by omega, fun _ => ?_⟩
      rw [z]
      exact grown_eqb (k.1 (by omega))
    · have g : Eqb b (grown s i) s := Eqb.of (fun j hj => grown_g (by omega))
      exact ⟨fun y => g.tr (k.1 (by omega)), fun y => g.tr (k.2 (by omega))⟩)
  exact h.2 hb
theorem yFret_eqb (V : WW u) (hb : b < 60) : Eqb b (yFret u) u := by
  have hF := V.fa
  exact fo_inv (f := fun f v => fretted v f) (P := fun _ s => Eqb b s u) (s0 := u) (N := (u 0).toNat) (Eqb.rf b u) (fun f s hf k => (Eqb.of (fun j hj => fretted_g (by omega))).tr k)
theorem yEnd_eqb (e : Eqb b u v) (hb : b < 60) : Eqb b (yEnd u) (yEnd v) := by
  unfold yEnd
  rw [e.2.1]
  refine Eqb.of (fun j hj => ?_)
  unfold up
  by_cases h1 : j = 3
  · rw [if_pos h1, if_pos h1]
  · rw [if_neg h1, if_neg h1]
    rcases hj with hj | hj | hj | hj
    · obtain ⟨k, rfl⟩ : ∃ k, j = 7 + 5 * b + k := ⟨j - (7 + 5 * b), by omega⟩
      exact e.1 k (by omega)
    · exact absurd hj h1
    · rw [hj]
      exact e.2.2.1
    · exact e.2.2.2 j hj
def ahW (w : am_Wd) (b n : Nat) : am_Wd := fo (fun _ v => yEnd (grown v b)) n w
theorem ahW_s {n : Nat} : ahW w b (n + 1) = yEnd (grown (ahW w b n) b) := rfl
theorem goC_eqb (V : WW w) (M : ML w) (hb : b < 60) : ∀ n, Eqb b (goC w n) (ahW w b n)
  | 0 => Eqb.rf b w
  | n + 1 => by
    have ih := goC_eqb V M hb n
    have ok := goC_ok V M (n := n)
    have e1 : goC w (n + 1) = calmY (goC w n) := rfl
    rw [e1, ahW_s]
    unfold calmY
    exact yEnd_eqb ((yFret_eqb (yGrow_ok ok.1 ok.2.1).1 hb).tr (yGrow_eqb ih hb)) hb
theorem ahW_f (hb : b < 60) : ∀ n, ahW w b n (7 + 5 * b) = w (7 + 5 * b)
  | 0 => rfl
  | n + 1 => by
    rw [ahW_s]
    unfold yEnd
    rw [up_o (by omega)]
    unfold grown
    split
    · rw [up_o (by omega), up_o (by omega)]
      exact ahW_f hb n
    · exact ahW_f hb n
theorem ahW_0 (hb : b < 60) (h0 : w (7 + 5 * b) = 0) : ∀ n, ahW w b n (7 + 5 * b + 2) = w (7 + 5 * b + 2)
  | 0 => rfl
  | n + 1 => by
    rw [ahW_s]
    unfold yEnd
    rw [up_o (by omega)]
    unfold grown
    rw [if_neg (by rw [ahW_f hb, h0]; decide)]
    exact ahW_0 hb h0 n
theorem ahW_ok (V : WW w) (M : ML w) (hb : b < 60) {n : Nat} : OK2 w (ahW w b n) := fo_inv (P := fun _ v => OK2 w v) ⟨V, M, T2.rf w⟩ (fun i v hi k => by
  have a1 := k.tr (OK2.mk k.2.1 (grown_w k.1 k.2.1 hb) (grown_t hb))
  exact a1.tr (yEnd_ok a1.1 a1.2.1))
end
section
variable {sc : Nat × (Nat → Int)} {d a b n f : Nat} {h h1 h2 : am_H} {I J J1 J2 K : am_I} {w v : am_Wd} {y : Int}
theorem m_ahead (s : Sh h) (V : WW w) (M : ML w) (e4 : J 284 = w) (hn : n ≤ 100) (hx : 0 ≤ (b : Int) ∧ (b : Int) < 60) : ∃ K, Same J K ∧ K 283 0 = 0 ∧ Cl sc (d + 30) mX12_ahead [Vr (some 283), Vi (b : Int), Vi (n : Int)] (hI h J) = some (.inl (Vi (ahW w b n (7 + 5 * b + 2))), hI h K) := by
  have hb : b < 60 := by omega
  have hy : 0 ≤ (n : Int) ∧ (n : Int) ≤ 100 := by omega
  have ok := goC_ok V M (n := n)
  have e9 : am_u2 J 283 0 0 284 = w := by rw [w283, e4]
  have ka := m_keepsAll (sc := sc) (d := d + 28) (h := h) (J := am_u2 J 283 0 0) s
  obtain ⟨K2, ⟨g1, g2⟩, g3⟩ := m_goesCalm (sc := sc) (d := d + 20) (h := h) (I := sr (am_u2 J 283 0 0) 287 (fun j => if j < 631 then am_u2 J 283 0 0 284 (0 + j) else am_u2 J 283 0 0 287 j)) (w := w) s ⟨by rw [sr_ne (by decide), e9], V, M⟩ (n := n) hn
  obtain ⟨t1, t2, t3, t4⟩ := trial_same (K := K2) (J := am_u2 J 283 0 0) (by rw [g1 287 (by decide) (by decide), sr_q]) (fun p h1 h2 h3 => by rw [g1 p h1 h3, sr_ne h2]) (fun j hj => by rw [g2.1, e9, ok.2.2.2 j hj])
  have bb := m_bringsBack (sc := sc) (d := d + 28) (h := h) (J := K2) s
  have mo := m_of (sc := sc) (d := d + 27) (h := h) (I := K2) s (b := b) (k := 2) (by omega) (by omega)
  rw [g2.1] at mo
  have ev : goC w n (7 + 5 * b + 2) = ahW w b n (7 + 5 * b + 2) := (goC_eqb V M hb n).1 2 (by decide)
  have mo : Cl sc (d + 29) mX12_of [Vr (some 283), Vi (b : Int), Vi 2] (hI h K2) = some (.inl (Vi (goC w n (7 + 5 * b + 2))), hI h K2) := mo
  rw [ev] at mo
  refine ⟨_, s283.tr t1, ?_, ?_⟩
  · rw [t4 283 (by decide) (by decide) (by decide)]
    exact u2_same
  · rw [q_X12_ahead_0]
    simp (disch := first | assumption | exact Int.natCast_nonneg _ | decide) only [↓BM s, m_nB hx, m_nA hy, m_t0 s, ka, g3, mo, bb, e_clI, e_clV, e_clP, e_clIx, e_clVx, e_clPx, e_xt, Int.toNat_natCast, Int.reduceToNat, bz0, bz1, Nat.add_zero, decide_eq_false_iff_not, decide_eq_true_eq, Int.reduceEq, Nat.reduceEqDiff, Int.reduceLT, Int.reduceLE, not_true_eq_false, not_false_eq_true, eq_self, ↓reduceIte]
theorem p_ahead (r : Rel h I) (B : BBo I 11) {x : Int} : Pub h I (Cl sc (d + 30) mX11_ahead [Vr (some 0), Vi x, Vi y]) (Cl sc (d + 30) mX12_ahead [Vr (some 283), Vi x, Vi y]) cdB := by
  have R := r.R
  have V := r.V
  have M := r.2.1.2.2.ml
  by_cases hx : 0 ≤ x ∧ x < 60
  · obtain ⟨b, rfl⟩ : ∃ b : Nat, x = b := ⟨x.toNat, by omega⟩
    have hb : b < 60 := by omega
    have hb6 : (b : Int) < 60 := hx.2
    have hf := V.fe hb
    have th := R.th hb
    by_cases hy : 0 ≤ y ∧ y ≤ 100
    · obtain ⟨n, rfl⟩ : ∃ n : Nat, y = n := ⟨y.toNat, by omega⟩
      by_cases hf1 : I 284 (7 + 5 * b) = 1
      · have ne1 : ¬ (1 : Int) = 0 := by decide
        obtain ⟨h1, J1, ⟨q1, S1, hc, hs⟩, s1, c1⟩ := c_draft (sc := sc) (d := d + 27) r.1 r.2.1 B
        have cy := cty_of s1 isC_23
        obtain ⟨K, ⟨k1, k2⟩, k3⟩ := lpG (X := fun i (_ : am_Wd) J => Ru sc (d + 30) mX11_ahead 20 [Vr (some 0), Vi (b : Int), Vi (n : Int), Vi (i : Int)] [] (hI h1 J)) (G := fun _ v => yEnd (grown v b)) (K := fun _ v J => Cg 23 J1 J ∧ St h1 J 23 v) (s0 := I 284) (I := J1) ⟨Cg.rf _ _, S1⟩ (N := n) (fun i v J hi k => by
          obtain ⟨J2, g1, g2, g3⟩ := c_grow (sc := sc) (d := d + 24) cy (by decide) k.2 hb
          have S2 := k.2.go (by decide) g1 g2 (grown_w k.2.2.1 k.2.2.2.ml hb) (grown_t hb)
          obtain ⟨J3, o1, o2, o3⟩ := c_endYear (sc := sc) (d := d + 27) cy S2.1 S2.2.1
          refine ⟨J3, ⟨(k.1.tr g1).tr o1, S2.go (by decide) o1 o2 (yEnd_w S2.2.1) yEnd_t⟩, ?_⟩
          have hlt : (i : Int) < (n : Int) := by omega
          have wn : w32 ((i : Int) + 1) = ((i + 1 : Nat) : Int) := w32_succ (by omega)
          try dsimp only
          rw [q_X11_ahead_20]
          simp (disch := first | assumption | exact Int.natCast_nonneg _ | decide) only [↓BO s1, ↓BC cy, hlt, g3, o3, wn, e_clI, e_clV, e_clP, e_clIx, e_clVx, e_clPx, e_xt, Int.toNat_natCast, Int.reduceToNat, bz0, bz1, Nat.add_zero, decide_eq_false_iff_not, decide_eq_true_eq, Int.reduceEq, Nat.reduceEqDiff, Int.reduceLT, Int.reduceLE, not_true_eq_false, not_false_eq_true, eq_self, ↓reduceIte])
        have k2 : St h1 K 23 (ahW (I 284) b n) := k2
        have hi := k2.1.hi hb (by rw [ahW_f hb]; exact hf1)
        refine pubQ (x := 0) (v := ahW (I 284) b n (7 + 5 * b + 2)) (v' := ahW (I 284) b n (7 + 5 * b + 2)) r ⟨h1, K, ?_, q1.tr (QQ.of k1.s23), by unfold Bd; omega⟩ (fun h3 J3 r3 e3 => ?_) (fun _ => rfl)
        · show Cl sc (d + 30) mX11_ahead [Vr (some 0), Vi (b : Int), Vi (n : Int)] (hI h I) = some (.inl (Vi (ahW (I 284) b n (7 + 5 * b + 2))), hI h1 K)
          rw [q_X11_ahead_0]
          simp (disch := first | assumption | exact Int.natCast_nonneg _ | decide) only [↓BO r.1, c_nB hx, c_nY hy, ↓BC r.c, th, hf1, ne1, ↓BC (cty_of r.1 isC_23), c1, e_clI, e_clV, e_clP, e_clIx, e_clVx, e_clPx, e_xt, Int.toNat_natCast, Int.reduceToNat, bz0, bz1, Nat.add_zero, decide_eq_false_iff_not, decide_eq_true_eq, Int.reduceEq, Nat.reduceEqDiff, Int.reduceLT, Int.reduceLE, not_true_eq_false, not_false_eq_true, eq_self, ↓reduceIte]
          refine k3.trans ?_
          try dsimp only
          rw [q_X11_ahead_20, if_neg (by omega)]
          simp (disch := first | assumption | exact Int.natCast_nonneg _ | decide) only [↓BO s1, ↓BC cy, hi, e_clI, e_clV, e_clP, e_clIx, e_clVx, e_clPx, e_xt, Int.toNat_natCast, Int.reduceToNat, bz0, bz1, Nat.add_zero, decide_eq_false_iff_not, decide_eq_true_eq, Int.reduceEq, Nat.reduceEqDiff, Int.reduceLT, Int.reduceLE, not_true_eq_false, not_false_eq_true, eq_self, ↓reduceIte]
        · obtain ⟨K3, m1, m2, m3⟩ := m_ahead (sc := sc) (d := d) (b := b) (J := J3) r3.1 V M e3.w (n := n) (by omega) hx
          exact MO.okJ m3 m1 m2
      · have h0 : I 284 (7 + 5 * b) = 0 := by omega
        refine pubQ (x := 0) (v := 0) (v' := 0) r (CO.ok (J := I) ?_ (Same.rf I)) (fun h3 J3 r3 e3 => ?_) (fun _ => rfl)
        · rw [q_X11_ahead_0]
          simp (disch := first | assumption | exact Int.natCast_nonneg _ | decide) only [↓BO r.1, c_nB hx, c_nY hy, ↓BC r.c, th, h0, e_clI, e_clV, e_clP, e_clIx, e_clVx, e_clPx, e_xt, Int.toNat_natCast, Int.reduceToNat, bz0, bz1, Nat.add_zero, decide_eq_false_iff_not, decide_eq_true_eq, Int.reduceEq, Nat.reduceEqDiff, Int.reduceLT, Int.reduceLE, not_true_eq_false, not_false_eq_true, eq_self, ↓reduceIte]
        · obtain ⟨K3, m1, m2, m3⟩ := m_ahead (sc := sc) (d := d) (b := b) (J := J3) r3.1 V M e3.w (n := n) (by omega) hx
          have e0 : ahW (I 284) b n (7 + 5 * b + 2) = 0 := by
            rw [ahW_0 hb h0]
            omega
          rw [e0] at m3
          exact MO.okJ m3 m1 m2
    · skip
      refine pubQ (x := 1) (v := 0) (v' := 0) r (CO.no (J := I) (by decide) ?_ (Same.rf I)) (fun h1 J1 r1 e1 => ?_) (fun h => absurd h (by decide))
      · rw [q_X11_ahead_0]
        simp (disch := first | (simp (disch := omega) only [w32_id]; omega) | omega) only [c_nB hx, c_nYx hy, hI_exI, e_clI, e_clV, e_clP, e_clIx, e_clVx, e_clPx, e_xt, Int.toNat_natCast, Int.reduceToNat, bz0, bz1, Nat.add_zero, decide_eq_false_iff_not, decide_eq_true_eq, Int.reduceEq, Nat.reduceEqDiff, Int.reduceLT, Int.reduceLE, not_true_eq_false, not_false_eq_true, eq_self, ↓reduceIte]
      · refine MO.thr ?_
        rw [q_X12_ahead_0]
        simp (disch := first | (simp (disch := omega) only [w32_id]; omega) | omega) only [↓BM r1.1, m_nB hx, m_nAx hy, m_t0 r1.1, m_t1 r1.1, e_clI, e_clV, e_clP, e_clIx, e_clVx, e_clPx, e_xt, Int.toNat_natCast, Int.reduceToNat, bz0, bz1, Nat.add_zero, decide_eq_false_iff_not, decide_eq_true_eq, Int.reduceEq, Nat.reduceEqDiff, Int.reduceLT, Int.reduceLE, not_true_eq_false, not_false_eq_true, eq_self, ↓reduceIte]
        try rfl
  · skip
    refine pubQ (x := 3) (v := 0) (v' := 0) r (CO.no (J := I) (by decide) ?_ (Same.rf I)) (fun h1 J1 r1 e1 => ?_) (fun h => absurd h (by decide))
    · rw [q_X11_ahead_0]
      simp (disch := first | (simp (disch := omega) only [w32_id]; omega) | omega) only [c_nBx hx, hI_exI, e_clI, e_clV, e_clP, e_clIx, e_clVx, e_clPx, e_xt, Int.toNat_natCast, Int.reduceToNat, bz0, bz1, Nat.add_zero, decide_eq_false_iff_not, decide_eq_true_eq, Int.reduceEq, Nat.reduceEqDiff, Int.reduceLT, Int.reduceLE, not_true_eq_false, not_false_eq_true, eq_self, ↓reduceIte]
    · refine MO.thr ?_
      rw [q_X12_ahead_0]
      simp (disch := first | (simp (disch := omega) only [w32_id]; omega) | omega) only [↓BM r1.1, m_nBx hx, m_t1 r1.1, e_clI, e_clV, e_clP, e_clIx, e_clVx, e_clPx, e_xt, Int.toNat_natCast, Int.reduceToNat, bz0, bz1, Nat.add_zero, decide_eq_false_iff_not, decide_eq_true_eq, Int.reduceEq, Nat.reduceEqDiff, Int.reduceLT, Int.reduceLE, not_true_eq_false, not_false_eq_true, eq_self, ↓reduceIte]
      try rfl
end
