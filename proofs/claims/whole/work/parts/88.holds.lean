/-! WHETHER A LINE HOLDS -/
theorem u2_o {I : am_I} {a j p : Nat} {v : Int} (hp : p ≠ a) : am_u2 I a j v p = I p := funext fun _ => u2_a hp
theorem w32_pred {n : Nat} (h0 : 0 < n) (h : n < 2147483647) : w32 ((n : Int) - 1) = ((n - 1 : Nat) : Int) := by rw [w32_id (by omega) (by omega)]; omega
theorem w32_pred2 {n : Nat} (h0 : 0 < n) (h : n < 2147483647) : w32 ((n : Int) + (-1)) = ((n - 1 : Nat) : Int) := by rw [w32_id (by omega) (by omega)]; omega
theorem CRep.eq {I J : am_I} {a : Nat} {w : am_Wd} (e : ∀ k, k < 12 → J (a + k) = I (a + k)) (R : CRep I a w) : CRep J a w := by
  have e0 : J a = I a := e 0 (by omega)
  unfold CRep LgRep at R ⊢
  simp only [e0, e 1 (by omega), e 2 (by omega), e 3 (by omega), e 4 (by omega), e 5 (by omega), e 6 (by omega), e 7 (by omega), e 8 (by omega), e 9 (by omega), e 10 (by omega), e 11 (by omega)]
  exact R
section
variable {sc : Nat × (Nat → Int)} {d a L ln cc : Nat} {h : am_H} {I J : am_I} {w : am_Wd}
theorem c_ofTwo {c n x y : Int} {h : am_H} (hc : (c = 10 ∧ -1000000 ≤ x + y ∧ x + y ≤ 1000000) ∨ c = 11 ∨ c = 12 ∨ ((c = 14 ∨ c = 15) ∧ (x = 0 ∨ x = 1) ∧ (y = 0 ∨ y = 1))) : Cl sc (d + 1) mX3_ofTwo [Vi (tr c n), Vi x, Vi y] h = some (.inl (Vi (o2 c x y)), h) := by
  rw [q_X3_ofTwo_0]
  unfold o2 tr
  rcases hc with ⟨rfl, h1, h2⟩ | rfl | rfl | ⟨rfl | rfl, rfl | rfl, rfl | rfl⟩
  all_goals
    simp only [Int.reduceEq, Int.reduceLE, reduceIte, Int.reduceNeg, Int.reduceAdd, Int.reduceLT]
  · rw [w32_id (by omega) (by omega)]
  · split <;> rfl
  · split <;> rfl
  all_goals rfl
theorem c_hstep (o : LO h L ln cc) (c : Cty h a) (R : CRep J a w) (V : WW w) (hL : 304 ≤ L) (hln : ln ≤ 12) (hcc : cc ≤ 400) {b : Nat} (hb : b < 60) (hf : w (7 + 5 * b) = 1) {k : Nat} (hk : k < ln) {S : List Int} {ts ts2 : List Bool} {c1 n1 : Int} {i e : Nat} {u : am_V} (hS : Sk (J (L + 5)) S) (hT : vT ts S) (hlen : ts.length ≤ 31) (hsum : lsum S ≤ 400000) (ht : t1 c1 n1 ts = some ts2) (hcode : J (L + 4) i = tr c1 n1) (hi : i < cc) (hend : J (L + 3) (k + 1) = (e : Int)) (hie : i < e) :
  ∃ J2 u2, (∀ p, p ≠ L + 5 → J2 p = J p) ∧ Sk (J2 (L + 5)) (s1 w b c1 n1 S) ∧ Ru sc (d + 2) mX3_holds 11 [Vr (some L), Vi (k : Int), Vr (some a), Vi (b : Int), Vi (lc b : Nat), Vi (S.length : Int), Vi (i : Int), u] [] (hI h J) = Ru sc (d + 2) mX3_holds 11 [Vr (some L), Vi (k : Int), Vr (some a), Vi (b : Int), Vi (lc b : Nat), Vi ((s1 w b c1 n1 S).length : Int), Vi ((i + 1 : Nat) : Int), u2] [] (hI h J2) := by
  have hl := vT_len hT
  have hfb : ∀ z, z ≠ L + 5 → ∀ v x, am_u2 J (L + 5) v x z = J z := fun z hz v x => u2_o hz
  rw [q_X3_holds_11]
  simp (disch := first | omega | (simp (disch := omega) only [w32_id]; omega)) only [↓BLw o, w32_succ, hcode, hend, e_clI, e_clV, e_clP, e_clIx, e_clVx, e_clPx, e_xt, Int.toNat_natCast, Int.reduceToNat, bz0, bz1, Nat.add_zero, decide_eq_false_iff_not, decide_eq_true_eq, Int.reduceEq, Nat.reduceEqDiff, Int.reduceLT, Int.reduceLE, reduceIte]
  rw [if_pos (by omega)]
  by_cases h1 : 0 ≤ c1 ∧ c1 ≤ 8
  · have e1 : tr c1 n1 = -17 - c1 := by unfold tr; rw [if_pos h1.2]
    have e2 : s1 w b c1 n1 S = fW w b c1 n1 :: S := by unfold s1; rw [if_pos (by omega)]
    rw [e1, if_pos (by omega), if_neg (by omega), if_pos (by omega), if_pos (by omega), c_fact c R V hb hf h1 (n := n1)]
    simp (disch := first | omega | (simp (disch := omega) only [w32_id]; omega)) only [↓BLw o, w32_succ, e_clI, e_clV, e_clP, e_clIx, e_clVx, e_clPx, e_xt, Int.toNat_natCast, Int.reduceToNat, bz0, bz1, Nat.add_zero, decide_eq_false_iff_not, decide_eq_true_eq, Int.reduceEq, Nat.reduceEqDiff, Int.reduceLT, Int.reduceLE, reduceIte]
    rw [e2]
    exact ⟨_, _, fun p hp => u2_o hp, Sk_push hS, rfl⟩
  by_cases h2 : c1 = 9
  · subst h2
    have hn : 0 ≤ n1 ∧ n1 ≤ 999 := by
      by_cases hn : 0 ≤ n1 ∧ n1 ≤ 999
      · exact hn
      · unfold t1 at ht
        rw [if_neg (by decide), if_pos rfl, if_neg hn] at ht
        cases ht
    have e1 : tr 9 n1 = n1 := rfl
    have e2 : s1 w b 9 n1 S = n1 :: S := rfl
    rw [e1, if_pos (by omega), if_neg (by omega), if_pos (by omega), if_neg (by omega)]
    try simp (disch := first | omega | (simp (disch := omega) only [w32_id]; omega)) only [↓BLw o, w32_succ, e_clI, e_clV, e_clP, e_clIx, e_clVx, e_clPx, e_xt, Int.toNat_natCast, Int.reduceToNat, bz0, bz1, Nat.add_zero, decide_eq_false_iff_not, decide_eq_true_eq, Int.reduceEq, Nat.reduceEqDiff, Int.reduceLT, Int.reduceLE, reduceIte]
    rw [e2]
    exact ⟨_, _, fun p hp => u2_o hp, Sk_push hS, rfl⟩
  unfold t1 at ht
  rw [if_neg (by omega), if_neg h2, if_neg (by omega)] at ht
  by_cases h3 : c1 = 13
  · subst h3
    rw [if_neg (by decide), if_neg (by decide), if_pos rfl] at ht
    have e1 : tr 13 n1 = -26 := rfl
    match ts, S, hT, ht, hS with
    | true :: r, x :: q, hT, ht, hS =>
      simp only [List.length_cons] at hl hlen
      have hx := hT.1
      have hq := hS.1
      rw [e1, if_pos (by decide), if_pos rfl, if_neg (by simp only [List.length_cons]; omega)]
      simp (disch := first | omega | (simp (disch := omega) only [w32_id]; omega)) only [↓BLw o, w32_succ, w32_pred, List.length_cons, Nat.add_sub_cancel, hq, e_clI, e_clV, e_clP, e_clIx, e_clVx, e_clPx, e_xt, Int.toNat_natCast, Int.reduceToNat, bz0, bz1, Nat.add_zero, decide_eq_false_iff_not, decide_eq_true_eq, Int.reduceEq, Nat.reduceEqDiff, Int.reduceLT, Int.reduceLE, reduceIte]
      rw [w32_id (by omega) (by omega)]
      have e2 : s1 w b 13 n1 (x :: q) = (1 - x) :: q := rfl
      rw [e2]
      exact ⟨_, _, fun p hp => u2_o hp, Sk_push hS.2, rfl⟩
  have h5 : c1 = 10 ∨ c1 = 11 ∨ c1 = 12 ∨ c1 = 14 ∨ c1 = 15 := by
    by_cases h5 : c1 = 10 ∨ c1 = 11 ∨ c1 = 12 ∨ c1 = 14 ∨ c1 = 15
    · exact h5
    · rw [if_neg (by omega), if_neg (by omega), if_neg h3, if_neg (by omega)] at ht
      cases ht
  have h6 : ∃ y x q, S = y :: x :: q ∧ ((c1 = 10 ∧ -1000000 ≤ x + y ∧ x + y ≤ 1000000) ∨ c1 = 11 ∨ c1 = 12 ∨ ((c1 = 14 ∨ c1 = 15) ∧ (x = 0 ∨ x = 1) ∧ (y = 0 ∨ y = 1))) := by
    rcases h5 with rfl | rfl | rfl | rfl | rfl
    all_goals simp only [Int.reduceEq, reduceIte, or_true, true_or, or_self, or_false, false_or] at ht
    · match ts, S, hT, ht with
      | false :: false :: r, y :: x :: q, hT, ht =>
        refine ⟨y, x, q, rfl, Or.inl ⟨rfl, ?_⟩⟩
        have := hT.1
        have := hT.2.1
        have := vT_pos hT.2.2
        have : lsum (y :: x :: q) = y + (x + lsum q) := rfl
        omega
    · match ts, S, hT, ht with
      | false :: false :: r, y :: x :: q, hT, ht => exact ⟨y, x, q, rfl, Or.inr (Or.inl rfl)⟩
    · match ts, S, hT, ht with
      | false :: false :: r, y :: x :: q, hT, ht => exact ⟨y, x, q, rfl, Or.inr (Or.inr (Or.inl rfl))⟩
    · match ts, S, hT, ht with
      | true :: true :: r, y :: x :: q, hT, ht => exact ⟨y, x, q, rfl, Or.inr (Or.inr (Or.inr ⟨Or.inl rfl, hT.2.1, hT.1⟩))⟩
    · match ts, S, hT, ht with
      | true :: true :: r, y :: x :: q, hT, ht => exact ⟨y, x, q, rfl, Or.inr (Or.inr (Or.inr ⟨Or.inr rfl, hT.2.1, hT.1⟩))⟩
  obtain ⟨y, x, q, rfl, h7⟩ := h6
  simp only [List.length_cons] at hl
  have h8 : ¬ -27 < tr c1 n1 := by
    rcases h5 with rfl | rfl | rfl | rfl | rfl <;> simp [tr]
  have hq1 : J (L + 5) (q.length + 1) = y := hS.1
  have hq2 : J (L + 5) q.length = x := hS.2.1
  rw [if_neg h8, if_neg (by simp only [List.length_cons]; omega)]
  simp (disch := first | omega | (simp (disch := omega) only [w32_id]; omega)) only [↓BLw o, w32_succ, w32_pred, w32_pred2, List.length_cons, Nat.add_sub_cancel, hq1, hq2, c_ofTwo h7, e_clI, e_clV, e_clP, e_clIx, e_clVx, e_clPx, e_xt, Int.toNat_natCast, Int.reduceToNat, bz0, bz1, Nat.add_zero, decide_eq_false_iff_not, decide_eq_true_eq, Int.reduceEq, Nat.reduceEqDiff, Int.reduceLT, Int.reduceLE, reduceIte]
  have e2 : s1 w b c1 n1 (y :: x :: q) = o2 c1 x y :: q := by
    unfold s1
    rw [if_neg (by omega), if_neg h3]
  rw [e2]
  exact ⟨_, _, fun p hp => u2_o hp, Sk_push hS.2.2, rfl⟩
end
