/-! THE TAPE: feed and end -/
def tpk (p j : Nat) : Prop := p = 1 ∨ p = 2 ∨ p = 289 ∨ (p = 283 ∧ (j = 9 ∨ j = 14))
section
variable {sc : Nat × (Nat → Int)} {d a b n f : Nat} {h h1 h2 : am_H} {I J J1 J2 K : am_I} {w v : am_Wd} {y : Int}
theorem Rel.tap (r : Rel h I) (e : ∀ p j, ¬ tpk p j → ¬ scr p j → J p j = I p j) (t : Tap J) : Rel h J := by
  obtain ⟨s, S, i, g, t0, x1, x2, x9, z, hz⟩ := r
  have eI : ∃ I' : am_I, I' = fun p j => if p = 1 ∨ p = 2 ∨ p = 289 ∨ (p = 283 ∧ (j = 9 ∨ j = 14)) then J p j else I p j := ⟨_, rfl⟩
  obtain ⟨I', eI⟩ := eI
  have k1 : ∀ p, p ≠ 1 → p ≠ 2 → p ≠ 289 → p ≠ 283 → I' p = I p := fun p h1 h2 h3 h4 => by
    rw [eI]
    funext j
    exact if_neg (by omega)
  have k2 : ∀ j, j ≠ 9 → j ≠ 14 → I' 283 j = I 283 j := fun j h1 h2 => by
    rw [eI]
    exact if_neg (by omega)
  have k3 : ∀ p, p = 1 ∨ p = 2 ∨ p = 289 → I' p = J p := fun p hp => by
    rw [eI]
    funext j
    exact if_pos (by omega)
  have k4 : ∀ j, j = 9 ∨ j = 14 → I' 283 j = J 283 j := fun j hj => by
    rw [eI]
    exact if_pos (by omega)
  have k84 : I' 284 = I 284 := k1 284 (by decide) (by decide) (by decide) (by decide)
  have k85 : I' 285 = I 285 := k1 285 (by decide) (by decide) (by decide) (by decide)
  have k0 : I' 0 = I 0 := k1 0 (by decide) (by decide) (by decide) (by decide)
  have r' : Rel h I' := by
    refine ⟨s, ?_, ⟨?_, ?_⟩, ⟨?_, ?_, ?_, fun k hk => ?_⟩, ⟨?_, ?_, ?_, ?_⟩, ?_, ?_, ?_, z, hz⟩
    · rw [k84]
      exact ⟨S.1.eq fun k hk => k1 _ (by omega) (by omega) (by omega) (by omega), S.2.1, S.2.2.same rfl (Nat.le_refl _) rfl (fun _ _ _ => rfl) (fun n k hk => k1 _ (by omega) (by omega) (by omega) (by omega))⟩
    · rw [k0, k2 6 (by decide) (by decide)]
      exact i.1
    · rw [k2 6 (by decide) (by decide), k85]
      rcases i.2 with i2 | ⟨i2, i3⟩
      · exact Or.inl i2
      · exact Or.inr ⟨i2, i3.1.eq fun k hk => k1 _ (by omega) (by omega) (by omega) (by omega), i3.2.1, i3.2.2.same rfl (Nat.le_refl _) rfl (fun _ _ _ => rfl) (fun n k hk => k1 _ (by omega) (by omega) (by omega) (by omega))⟩
    · rw [k0, k2 7 (by decide) (by decide)]
      exact g.1
    · rw [k2 7 (by decide) (by decide)]
      exact g.2.1
    · rw [k0]
      exact g.2.2.1
    · rw [k2 7 (by decide) (by decide)] at hk
      obtain ⟨q1, q2, q3, q4⟩ := g.2.2.2 k hk
      have hk9 := ring_n (I := I) (k := k)
      have er : ring I' k = ring I k := by unfold ring; rw [k0]
      have ew : rowA I' k = rowA I k := by unfold rowA; rw [k1 288 (by decide) (by decide) (by decide) (by decide)]
      rw [er, ew, k84]
      exact ⟨q1.eq fun k hk => k1 _ (by omega) (by omega) (by omega) (by omega), q2, q3, q4⟩
    · rw [k3 1 (by omega), k4 9 (by omega)]
      exact t.1
    · rw [k4 9 (by omega)]
      exact t.2.1
    · rw [k3 2 (by omega), k3 289 (by omega)]
      exact t.2.2.1
    · rw [k3 1 (by omega), k4 14 (by omega)]
      exact t.2.2.2
    · rw [k2 18 (by decide) (by decide)]
      exact x1
    · rw [k2 19 (by decide) (by decide)]
      exact x2
    · rw [k1 9 (by decide) (by decide) (by decide) (by decide)]
      exact x9
  refine r'.q (QQ.of (fun p j hn => ?_))
  rw [eI]
  try dsimp only
  by_cases hp : p = 1 ∨ p = 2 ∨ p = 289 ∨ (p = 283 ∧ (j = 9 ∨ j = 14))
  · rw [if_pos hp]
  · rw [if_neg hp]
    exact e p j hp hn
theorem Tap.same (t : Tap I) (e : Same I J) : Tap J := by
  unfold Tap
  rw [e.t (by omega), e.m (j := 9) (by omega), e.pl (p := 2) (by omega), e.pl (p := 289) (by omega), e.t (by omega), e.m (j := 14) (by omega)]
  exact t
theorem pubT {C M : am_H → am_R} {cd : Nat → Int} {x : Int} (h0 : cd 0 = 0) (r : Rel h I) (c : C (hI h I) = some (.inl (Vi x), hI h J1)) (m : ∀ o, ∃ J2, M (hI h (am_u2 J1 303 0 o)) = some (.inl (Vi x), hI h J2) ∧ (∀ p j, ¬ tpk p j → ¬ scr p j → J2 p j = I p j) ∧ Tap J2 ∧ J2 283 0 = 0) : Pub h I C M cd := by
  refine ⟨0, x, x, h, J1, c, r.1, fun _ => rfl, fun o => ?_⟩
  obtain ⟨J2, m1, m2, m3, m4⟩ := m o
  exact ⟨h, J2, m1, r.tap m2 m3, by rw [m4, h0], Bd.rf h⟩
theorem ar_4 {L : Nat} (h : L ≤ 400) : w32 ((L : Int) + 20) = ((L + 20 : Nat) : Int) := by rw [w32_id (by omega) (by omega)]; omega
theorem ar_5 {i : Nat} (hi : i < 20) : w32 ((i : Int).tdiv 4) = ((i / 4 : Nat) : Int) ∧ w32 (24 - w32 (8 * (i : Int).tmod 4)) = 24 - 8 * ((i % 4 : Nat) : Int) ∧ w32 ((i : Int) + 1) = ((i + 1 : Nat) : Int) ∧ (i : Int) < 20 ∧ ((i / 4 : Nat) : Int) < 5 := by
  refine ⟨?_, ?_, w32_succ (by omega), by omega, by omega⟩
  · rw [td_e (by omega), w32_id (by omega) (by omega)]
    omega
  · rw [tm_e (by omega), w32_id (z := 8 * ((i : Int) % 4)) (by omega) (by omega), w32_id (by omega) (by omega)]
    omega
theorem ar_6 {L i : Nat} (h : L + 20 ≤ 400) (hi : i < 20) : w32 ((L : Int) + (i : Int)) = ((L + i : Nat) : Int) ∧ ((L + i : Nat) : Int) < 400 := by
  refine ⟨?_, by omega⟩
  rw [w32_id (by omega) (by omega)]
  omega
theorem ar_7 {L m i : Nat} (h : L + 4 * m + 4 ≤ 400) (hi : i < 4) : w32 (24 - 8 * (i : Int) + -8) = 24 - 8 * ((i + 1 : Nat) : Int) ∧ w32 (((L + (4 * m + i) : Nat) : Int) + 1) = ((L + (4 * m + i + 1) : Nat) : Int) ∧ ¬ 24 - 8 * (i : Int) < 0 ∧ ((L + (4 * m + i) : Nat) : Int) < 400 := by
  refine ⟨?_, ?_, by omega, by omega⟩
  · rw [w32_id (by omega) (by omega)]
    omega
  · rw [w32_id (by omega) (by omega)]
    omega
def byC (x : Int) (k : Nat) : Int := bAnd (bUshr x (24 - 8 * (k : Int))) 255
def byM (x : Int) (k : Nat) : Int := bI2b (bShr x (24 - 8 * (k : Int)))
theorem by_CM (x : Int) {k : Nat} (hk : k < 4) : byC x k = byM x k % 256 := by
  have h9 : k = 0 ∨ k = 1 ∨ k = 2 ∨ k = 3 := by omega
  rcases h9 with rfl | rfl | rfl | rfl
  · exact by_24 x
  · exact by_16 x
  · exact by_8 x
  · exact by_0 x
/-- m numbers put on the class's tape behind L bytes -/
def PuC (xs : Nat → Int) (L : Nat) (J : am_I) (m : Nat) (K : am_I) : Prop := K 1 1 = ((L + m : Nat) : Int) ∧ (∀ p j, p ≠ 2 → ¬ (p = 1 ∧ j = 1) → K p j = J p j) ∧ ∀ j, K 2 j = if L ≤ j ∧ j < L + m then byC (xs ((j - L) / 4)) ((j - L) % 4) else J 2 j
theorem c_put4 (s : Sh h) {xs : Nat → Int} {L m : Nat} (hL : L + 4 * m + 4 ≤ 400) (k : PuC xs L J (4 * m) K) : ∃ K', PuC xs L J (4 * (m + 1)) K' ∧ Cl sc (d + 1) mX10_put [Vr (some 1), Vi (xs m)] (hI h K) = some (.inl (Vx 0), hI h K') := by
  obtain ⟨K', k1, k2⟩ := lpG (X := fun i (_ : Unit) J => Ru sc (d + 1) mX10_put 3 [Vr (some 1), Vi (xs m), Vi (24 - 8 * (i : Int))] [] (hI h J)) (G := fun _ u => u) (K := fun i _ K => PuC xs L J (4 * m + i) K) (s0 := ()) (I := K) k (N := 4) (fun i _ K hi k => by
    obtain ⟨k1, k2, k3⟩ := k
    have n12 : (1 : Nat) ≠ 2 := by decide
    refine ⟨am_u2 (am_u2 K 2 (L + (4 * m + i)) (byC (xs m) i)) 1 1 ((L + (4 * m + i + 1) : Nat) : Int), ⟨u2_same, fun p j h1 h2 => ?_, fun j => ?_⟩, ?_⟩
    · unfold am_u2
      rw [if_neg (by omega), if_neg (by omega)]
      exact k2 p j h1 h2
    · rw [u2_o (by decide)]
      by_cases e : j = L + (4 * m + i)
      · rw [e, u2_same, if_pos (by omega), show (L + (4 * m + i) - L) / 4 = m by omega, show (L + (4 * m + i) - L) % 4 = i by omega]
      · rw [u2_j e, k3]
        by_cases e2 : L ≤ j ∧ j < L + (4 * m + i)
        · rw [if_pos e2, if_pos (by omega)]
        · rw [if_neg e2, if_neg (by omega)]
    · obtain ⟨e1, e2, l1, l2⟩ := ar_7 hL hi
      try dsimp only
      rw [q_X10_put_3]
      simp (disch := first | assumption | exact Int.natCast_nonneg _ | decide) only [↓BT s, l1, k1, l2, e1, u2_a n12, e2, e_clI, e_clV, e_clP, e_clIx, e_clVx, e_clPx, e_xt, Int.toNat_natCast, Int.reduceToNat, bz0, bz1, Nat.add_zero, decide_eq_false_iff_not, decide_eq_true_eq, Int.reduceEq, Nat.reduceEqDiff, Int.reduceLT, Int.reduceLE, not_true_eq_false, not_false_eq_true, eq_self, ↓reduceIte]
      rfl)
  refine ⟨K', k1, ?_⟩
  rw [q_X10_put_0]
  refine k2.trans ?_
  try dsimp only
  rw [q_X10_put_3, if_pos (by omega)]
def x5 (a b c e f : Int) (m : Nat) : Int := if m = 0 then a else if m = 1 then b else if m = 2 then c else if m = 3 then e else f
theorem p_feed (r : Rel h I) {x0 x1 x2 x3 x4 : Int} : Pub h I (Cl sc (d + 30) mX11_feed [Vr (some 0), Vi x0, Vi x1, Vi x2, Vi x3, Vi x4]) (Cl sc (d + 30) mX12_feed [Vr (some 283), Vi x0, Vi x1, Vi x2, Vi x3, Vi x4]) cdA := by
  have t := r.2.2.2.2.1
  obtain ⟨L, hL⟩ : ∃ L : Nat, I 1 1 = L := ⟨(I 1 1).toNat, by have := t.1; have := t.2.1; omega⟩
  have hM : I 283 9 = (L : Int) := t.1.symm.trans hL
  have hl400 : L ≤ 400 := by have := t.2.1; omega
  by_cases hr : 400 < L + 20
  · have l1 : 400 < ((L + 20 : Nat) : Int) := by omega
    have hro : Cl sc (d + 29) mX10_hasRoom [Vr (some 1), Vi 20] (hI h I) = some (.inl (Vi 0), hI h I) := by
      rw [q_X10_hasRoom_0]
      simp (disch := first | assumption | exact Int.natCast_nonneg _ | decide) only [↓BT r.1, hL, ar_4 hl400, l1, e_clI, e_clV, e_clP, e_clIx, e_clVx, e_clPx, e_xt, Int.toNat_natCast, Int.reduceToNat, bz0, bz1, Nat.add_zero, decide_eq_false_iff_not, decide_eq_true_eq, Int.reduceEq, Nat.reduceEqDiff, Int.reduceLT, Int.reduceLE, not_true_eq_false, not_false_eq_true, eq_self, ↓reduceIte]
    refine pubQ (x := 0) (v := -1) (v' := -1) r (CO.ok (J := I) ?_ (Same.rf I)) (fun h1 J1 r1 e1 => ?_) (fun _ => rfl)
    · rw [q_X11_feed_0]
      simp (disch := first | assumption | exact Int.natCast_nonneg _ | decide) only [↓BO r.1, ↓BT r.1, hro, e_clI, e_clV, e_clP, e_clIx, e_clVx, e_clPx, e_xt, Int.toNat_natCast, Int.reduceToNat, bz0, bz1, Nat.add_zero, decide_eq_false_iff_not, decide_eq_true_eq, Int.reduceEq, Nat.reduceEqDiff, Int.reduceLT, Int.reduceLE, not_true_eq_false, not_false_eq_true, eq_self, ↓reduceIte]
    · refine MO.ok0 ?_
      have e9 : am_u2 J1 283 0 0 283 9 = (L : Int) := by rw [u2_j (by decide), e1.m (by omega)]; exact hM
      rw [q_X12_feed_0]
      simp (disch := first | assumption | exact Int.natCast_nonneg _ | decide) only [↓BM r1.1, e9, ar_4 hl400, l1, e_clI, e_clV, e_clP, e_clIx, e_clVx, e_clPx, e_xt, Int.toNat_natCast, Int.reduceToNat, bz0, bz1, Nat.add_zero, decide_eq_false_iff_not, decide_eq_true_eq, Int.reduceEq, Nat.reduceEqDiff, Int.reduceLT, Int.reduceLE, not_true_eq_false, not_false_eq_true, eq_self, ↓reduceIte]
  · have l1 : ¬ 400 < ((L + 20 : Nat) : Int) := by omega
    have hro : Cl sc (d + 29) mX10_hasRoom [Vr (some 1), Vi 20] (hI h I) = some (.inl (Vi 1), hI h I) := by
      rw [q_X10_hasRoom_0]
      simp (disch := first | assumption | exact Int.natCast_nonneg _ | decide) only [↓BT r.1, hL, ar_4 hl400, l1, e_clI, e_clV, e_clP, e_clIx, e_clVx, e_clPx, e_xt, Int.toNat_natCast, Int.reduceToNat, bz0, bz1, Nat.add_zero, decide_eq_false_iff_not, decide_eq_true_eq, Int.reduceEq, Nat.reduceEqDiff, Int.reduceLT, Int.reduceLE, not_true_eq_false, not_false_eq_true, eq_self, ↓reduceIte]
    have ne1 : ¬ (1 : Int) = 0 := by decide
    have P0 : PuC (x5 x0 x1 x2 x3 x4) L I (4 * 0) I := ⟨hL, fun _ _ _ _ => rfl, fun j => (if_neg (by omega)).symm⟩
    obtain ⟨K1, P1, c1⟩ := c_put4 (sc := sc) (d := d + 28) r.1 (by omega) P0
    obtain ⟨K2, P2, c2⟩ := c_put4 (sc := sc) (d := d + 28) r.1 (by omega) P1
    obtain ⟨K3, P3, c3⟩ := c_put4 (sc := sc) (d := d + 28) r.1 (by omega) P2
    obtain ⟨K4, P4, c4⟩ := c_put4 (sc := sc) (d := d + 28) r.1 (by omega) P3
    obtain ⟨K5, P5, c5⟩ := c_put4 (sc := sc) (d := d + 28) r.1 (by omega) P4
    have c1 : Cl sc (d + 29) mX10_put [Vr (some 1), Vi x0] (hI h I) = some (.inl (Vx 0), hI h K1) := c1
    have c2 : Cl sc (d + 29) mX10_put [Vr (some 1), Vi x1] (hI h K1) = some (.inl (Vx 0), hI h K2) := c2
    have c3 : Cl sc (d + 29) mX10_put [Vr (some 1), Vi x2] (hI h K2) = some (.inl (Vx 0), hI h K3) := c3
    have c4 : Cl sc (d + 29) mX10_put [Vr (some 1), Vi x3] (hI h K3) = some (.inl (Vx 0), hI h K4) := c4
    have c5 : Cl sc (d + 29) mX10_put [Vr (some 1), Vi x4] (hI h K4) = some (.inl (Vx 0), hI h K5) := c5
    obtain ⟨p1, p2, p3⟩ := P5
    have p1 : K5 1 1 = ((L + 20 : Nat) : Int) := p1
    refine pubT rfl r (x := ((L + 20 : Nat) : Int)) (J1 := K5) ?_ (fun o => ?_)
    · rw [q_X11_feed_0]
      simp (disch := first | assumption | exact Int.natCast_nonneg _ | decide) only [↓BO r.1, ↓BT r.1, hro, ne1, c1, c2, c3, c4, c5, p1, e_clI, e_clV, e_clP, e_clIx, e_clVx, e_clPx, e_xt, Int.toNat_natCast, Int.reduceToNat, bz0, bz1, Nat.add_zero, decide_eq_false_iff_not, decide_eq_true_eq, Int.reduceEq, Nat.reduceEqDiff, Int.reduceLT, Int.reduceLE, not_true_eq_false, not_false_eq_true, eq_self, ↓reduceIte]
    · have eQ : ∃ Q, Q = am_u2 (am_u2 (am_u2 (am_u2 (am_u2 (am_u2 (am_u2 K5 303 0 o) 283 0 0) 290 0 x0) 290 1 x1) 290 2 x2) 290 3 x3) 290 4 x4 := ⟨_, rfl⟩
      obtain ⟨Q, eQ⟩ := eQ
      have q5 : ∀ m, m < 5 → Q 290 m = x5 x0 x1 x2 x3 x4 m := fun m hm => by
        have h9 : m = 0 ∨ m = 1 ∨ m = 2 ∨ m = 3 ∨ m = 4 := by omega
        rw [eQ]
        rcases h9 with rfl | rfl | rfl | rfl | rfl <;> simp [am_u2, x5]
      have qo : ∀ p j, p ≠ 290 → p ≠ 303 → ¬ (p = 283 ∧ j = 0) → Q p j = K5 p j := fun p j h1 h2 h3 => by
        rw [eQ, u2_a h1, u2_a h1, u2_a h1, u2_a h1, u2_a h1]
        unfold am_u2
        rw [if_neg h3, if_neg (by omega)]
      have q0 : Q 283 0 = 0 := by
        rw [eQ, u2_a (by decide), u2_a (by decide), u2_a (by decide), u2_a (by decide), u2_a (by decide)]
        exact u2_same
      have q9 : Q 283 9 = (L : Int) := by rw [qo 283 9 (by decide) (by decide) (by decide), p2 283 9 (by decide) (by decide), hM]
      obtain ⟨Z, ⟨z1, z2⟩, z3⟩ := lpG (X := fun i (_ : Unit) J => Ru sc (d + 30) mX12_feed 39 [Vr (some 283), Vi x0, Vi x1, Vi x2, Vi x3, Vi x4, Vi (i : Int)] [] (hI h J)) (G := fun _ u => u) (K := fun i _ Z => (∀ p, p ≠ 289 → Z p = Q p) ∧ ∀ j, Z 289 j = if L ≤ j ∧ j < L + i then byM (x5 x0 x1 x2 x3 x4 ((j - L) / 4)) ((j - L) % 4) else Q 289 j) (s0 := ()) (I := Q) ⟨fun _ _ => rfl, fun j => (if_neg (by omega)).symm⟩ (N := 20) (fun i _ Z hi k => by
        obtain ⟨k1, k2⟩ := k
        have b9 : Z 283 9 = (L : Int) := by rw [k1 283 (by decide), q9]
        have b5 : Z 290 (i / 4) = x5 x0 x1 x2 x3 x4 (i / 4) := by rw [k1 290 (by decide), q5 _ (Nat.div_lt_of_lt_mul hi)]
        have n4 : ¬ (4 : Int) = 0 := by decide
        refine ⟨am_u2 Z 289 (L + i) (byM (x5 x0 x1 x2 x3 x4 (i / 4)) (i % 4)), ⟨fun p hp => (u2_o hp).trans (k1 p hp), fun j => ?_⟩, ?_⟩
        · by_cases e : j = L + i
          · rw [e, u2_same, if_pos (by omega), show (L + i - L) / 4 = i / 4 by omega, show (L + i - L) % 4 = i % 4 by omega]
          · rw [u2_j e, k2]
            by_cases e2 : L ≤ j ∧ j < L + i
            · rw [if_pos e2, if_pos (by omega)]
            · rw [if_neg e2, if_neg (by omega)]
        · obtain ⟨a2, a3, wn, a1, a4⟩ := ar_5 hi
          obtain ⟨a5, a6⟩ := ar_6 (L := L) (by clear a2 a3 wn; omega) hi
          have a7 := by_rng (bShr (x5 x0 x1 x2 x3 x4 (i / 4)) (24 - 8 * ((i % 4 : Nat) : Int)))
          try dsimp only
          rw [q_X12_feed_39]
          simp (disch := first | assumption | exact Int.natCast_nonneg _ | decide) only [↓BM r.1, a1, a2, a3, a4, b5, b9, n4, a5, a6, a7, wn, e_clI, e_clV, e_clP, e_clIx, e_clVx, e_clPx, e_xt, Int.toNat_natCast, Int.reduceToNat, bz0, bz1, Nat.add_zero, decide_eq_false_iff_not, decide_eq_true_eq, Int.reduceEq, Nat.reduceEqDiff, Int.reduceLT, Int.reduceLE, not_true_eq_false, not_false_eq_true, eq_self, ↓reduceIte]
          rfl)
      have z9 : Z 283 9 = (L : Int) := by rw [z1 283 (by decide), q9]
      refine ⟨am_u2 Z 283 9 ((L + 20 : Nat) : Int), ?_, fun p j hp hs => ?_, ⟨?_, ?_, fun k hk => ?_, ?_⟩, ?_⟩
      · have e9 : am_u2 (am_u2 K5 303 0 o) 283 0 0 283 9 = (L : Int) := by
          rw [u2_j (by decide), u2_o (by decide), p2 283 9 (by decide) (by decide), hM]
        have f0 : (0 : Int) < 5 := by decide
        have f1 : (1 : Int) < 5 := by decide
        have f2 : (2 : Int) < 5 := by decide
        have f3 : (3 : Int) < 5 := by decide
        have f4 : (4 : Int) < 5 := by decide
        rw [q_X12_feed_0]
        simp (disch := first | assumption | exact Int.natCast_nonneg _ | decide) only [↓BM r.1, e9, ar_4 hl400, l1, f0, f1, f2, f3, f4, e_clI, e_clV, e_clP, e_clIx, e_clVx, e_clPx, e_xt, Int.toNat_natCast, Int.reduceToNat, bz0, bz1, Nat.add_zero, decide_eq_false_iff_not, decide_eq_true_eq, Int.reduceEq, Nat.reduceEqDiff, Int.reduceLT, Int.reduceLE, not_true_eq_false, not_false_eq_true, eq_self, ↓reduceIte]
        rw [← eQ]
        refine z3.trans ?_
        try dsimp only
        rw [q_X12_feed_39, if_neg (by omega)]
        simp (disch := first | assumption | exact Int.natCast_nonneg _ | decide) only [↓BM r.1, z9, ar_4 hl400, u2_same, e_clI, e_clV, e_clP, e_clIx, e_clVx, e_clPx, e_xt, Int.toNat_natCast, Int.reduceToNat, bz0, bz1, Nat.add_zero, decide_eq_false_iff_not, decide_eq_true_eq, Int.reduceEq, Nat.reduceEqDiff, Int.reduceLT, Int.reduceLE, not_true_eq_false, not_false_eq_true, eq_self, ↓reduceIte]
      · unfold tpk at hp
        have s0 : p ≠ 290 := fun e => hs (by unfold scr; omega)
        have s1 : p ≠ 303 := fun e => hs (by unfold scr; omega)
        have s2 : ¬ (p = 283 ∧ j = 0) := fun e => hs (by unfold scr; omega)
        unfold am_u2
        rw [if_neg (by omega), z1 p (by omega), qo p j s0 s1 s2]
        exact p2 p j (by omega) (by omega)
      · rw [u2_same, u2_o (by decide), z1 1 (by decide), qo 1 1 (by decide) (by decide) (by decide)]
        exact p1
      · rw [u2_same]
        omega
      · rw [u2_o (by decide), u2_o (by decide), z1 2 (by decide), qo 2 k (by decide) (by decide) (by omega), z2 k, p3 k]
        by_cases e : L ≤ k ∧ k < L + 20
        · rw [if_pos e, if_pos e]
          exact ⟨by_rng _, by_CM _ (Nat.mod_lt _ (by decide))⟩
        · rw [if_neg e, if_neg e, qo 289 k (by decide) (by decide) (by omega), p2 289 k (by decide) (by omega)]
          exact t.2.2.1 k hk
      · rw [u2_a (show (1 : Nat) ≠ 283 by decide), u2_j (show (14 : Nat) ≠ 9 by decide), z1 1 (by decide), z1 283 (by decide), qo 1 2 (by decide) (by decide) (by decide), qo 283 14 (by decide) (by decide) (by decide), p2 1 2 (by decide) (by decide), p2 283 14 (by decide) (by decide)]
        exact t.2.2.2
      · rw [u2_j (by decide), z1 283 (by decide), q0]
theorem p_end (r : Rel h I) {x : Int} : Pub h I (Cl sc (d + 30) mX11_end [Vr (some 0), Vi x]) (Cl sc (d + 30) mX12_end [Vr (some 283), Vi x]) cdA := by
  have t := r.2.2.2.2.1
  have h01 : (0 : Int) = 0 ∨ (0 : Int) = 1 := Or.inl rfl
  by_cases hx : 0 ≤ x ∧ x ≤ I 283 9
  · have l1 : ¬ x < 0 := by omega
    have l2 : ¬ I 283 9 < x := by omega
    have cut : Cl sc (d + 29) mX10_cut [Vr (some 1), Vi x] (hI h I) = some (.inl (Vi 1), hI h (am_u2 I 1 1 x)) := by
      rw [q_X10_cut_0]
      simp (disch := first | assumption | exact Int.natCast_nonneg _ | decide) only [↓BT r.1, t.1, l1, l2, e_clI, e_clV, e_clP, e_clIx, e_clVx, e_clPx, e_xt, Int.toNat_natCast, Int.reduceToNat, bz0, bz1, Nat.add_zero, decide_eq_false_iff_not, decide_eq_true_eq, Int.reduceEq, Nat.reduceEqDiff, Int.reduceLT, Int.reduceLE, not_true_eq_false, not_false_eq_true, eq_self, ↓reduceIte]
    refine pubT rfl r (x := 1) (J1 := am_u2 I 1 1 x) ?_ (fun o => ⟨am_u2 (am_u2 (am_u2 (am_u2 I 1 1 x) 303 0 o) 283 0 0) 283 9 x, ?_, fun p j hp hs => ?_, ⟨?_, ?_, fun k hk => ?_, ?_⟩, ?_⟩)
    · rw [q_X11_end_0]
      simp (disch := first | assumption | exact Int.natCast_nonneg _ | decide) only [↓BO r.1, ↓BT r.1, cut, e_clI, e_clV, e_clP, e_clIx, e_clVx, e_clPx, e_xt, Int.toNat_natCast, Int.reduceToNat, bz0, bz1, Nat.add_zero, decide_eq_false_iff_not, decide_eq_true_eq, Int.reduceEq, Nat.reduceEqDiff, Int.reduceLT, Int.reduceLE, not_true_eq_false, not_false_eq_true, eq_self, ↓reduceIte]
      exact e_ret1 (Or.inr rfl)
    · have e9 : am_u2 (am_u2 (am_u2 I 1 1 x) 303 0 o) 283 0 0 283 9 = I 283 9 := by rw [u2_j (by decide), u2_o (by decide), u2_o (by decide)]
      rw [q_X12_end_0]
      simp (disch := first | assumption | exact Int.natCast_nonneg _ | decide) only [↓BM r.1, e9, l1, l2, e_clI, e_clV, e_clP, e_clIx, e_clVx, e_clPx, e_xt, Int.toNat_natCast, Int.reduceToNat, bz0, bz1, Nat.add_zero, decide_eq_false_iff_not, decide_eq_true_eq, Int.reduceEq, Nat.reduceEqDiff, Int.reduceLT, Int.reduceLE, not_true_eq_false, not_false_eq_true, eq_self, ↓reduceIte]
    · unfold tpk at hp
      have s1 : p ≠ 303 := fun e => hs (by unfold scr; omega)
      have s2 : ¬ (p = 283 ∧ j = 0) := fun e => hs (by unfold scr; omega)
      unfold am_u2
      rw [if_neg (by omega), if_neg s2, if_neg (by omega), if_neg (by omega)]
    · rw [u2_same, u2_o (by decide), u2_o (by decide), u2_o (by decide)]
      exact u2_same
    · rw [u2_same]
      have := t.2.1
      omega
    · rw [u2_o (by decide), u2_o (by decide), u2_o (by decide), u2_o (by decide), u2_o (by decide), u2_o (by decide), u2_o (by decide), u2_o (by decide)]
      exact t.2.2.1 k hk
    · rw [u2_o (by decide), u2_o (by decide), u2_o (by decide), u2_j (by decide), u2_j (by decide), u2_j (by decide), u2_o (by decide), u2_o (by decide)]
      exact t.2.2.2
    · rw [u2_j (by decide)]
      exact u2_same
  · have cut : Cl sc (d + 29) mX10_cut [Vr (some 1), Vi x] (hI h I) = some (.inl (Vi 0), hI h I) := by
      rw [q_X10_cut_0]
      by_cases l1 : x < 0
      · rw [if_pos l1]
      · have l2 : I 283 9 < x := by omega
        simp (disch := first | assumption | exact Int.natCast_nonneg _ | decide) only [↓BT r.1, t.1, l1, l2, e_clI, e_clV, e_clP, e_clIx, e_clVx, e_clPx, e_xt, Int.toNat_natCast, Int.reduceToNat, bz0, bz1, Nat.add_zero, decide_eq_false_iff_not, decide_eq_true_eq, Int.reduceEq, Nat.reduceEqDiff, Int.reduceLT, Int.reduceLE, not_true_eq_false, not_false_eq_true, eq_self, ↓reduceIte]
    refine pubQ (x := 0) (v := 0) (v' := 0) r (CO.ok (J := I) ?_ (Same.rf I)) (fun h1 J1 r1 e1 => ?_) (fun _ => rfl)
    · rw [q_X11_end_0]
      simp (disch := first | assumption | exact Int.natCast_nonneg _ | decide) only [↓BO r.1, ↓BT r.1, cut, e_clI, e_clV, e_clP, e_clIx, e_clVx, e_clPx, e_xt, Int.toNat_natCast, Int.reduceToNat, bz0, bz1, Nat.add_zero, decide_eq_false_iff_not, decide_eq_true_eq, Int.reduceEq, Nat.reduceEqDiff, Int.reduceLT, Int.reduceLE, not_true_eq_false, not_false_eq_true, eq_self, ↓reduceIte]
      exact e_ret1 (Or.inl rfl)
    · refine MO.ok0 ?_
      have e9 : am_u2 J1 283 0 0 283 9 = I 283 9 := by rw [u2_j (by decide), e1.m (by omega)]
      rw [q_X12_end_0]
      by_cases l1 : x < 0
      · simp (disch := first | assumption | exact Int.natCast_nonneg _ | decide) only [↓BM r1.1, l1, e_clI, e_clV, e_clP, e_clIx, e_clVx, e_clPx, e_xt, Int.toNat_natCast, Int.reduceToNat, bz0, bz1, Nat.add_zero, decide_eq_false_iff_not, decide_eq_true_eq, Int.reduceEq, Nat.reduceEqDiff, Int.reduceLT, Int.reduceLE, not_true_eq_false, not_false_eq_true, eq_self, ↓reduceIte]
      · have l2 : I 283 9 < x := by omega
        simp (disch := first | assumption | exact Int.natCast_nonneg _ | decide) only [↓BM r1.1, e9, l1, l2, e_clI, e_clV, e_clP, e_clIx, e_clVx, e_clPx, e_xt, Int.toNat_natCast, Int.reduceToNat, bz0, bz1, Nat.add_zero, decide_eq_false_iff_not, decide_eq_true_eq, Int.reduceEq, Nat.reduceEqDiff, Int.reduceLT, Int.reduceLE, not_true_eq_false, not_false_eq_true, eq_self, ↓reduceIte]
end
