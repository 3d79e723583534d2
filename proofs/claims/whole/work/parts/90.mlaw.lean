/-! THE LAW BY THE REFERENCE -/
theorem w32_3 {k : Nat} (h : k < 2000000) : w32 ((k : Int) + 3) = ((k + 3 : Nat) : Int) := by rw [w32_id (by omega) (by omega)]; omega
theorem w32_2 {k : Nat} (h : k < 2000000) : w32 ((k : Int) + 2) = ((k + 2 : Nat) : Int) := by rw [w32_id (by omega) (by omega)]; omega
theorem w32_680 {i : Nat} (h : i < 1000000) : w32 (680 + w32 (2 * (i : Int))) = ((680 + 2 * i : Nat) : Int) := by rw [w32_id (z := 2 * (i : Int)) (by omega) (by omega), w32_id (by omega) (by omega)]; omega
theorem w32_681 {i : Nat} (h : i < 1000000) : w32 (((680 + 2 * i : Nat) : Int) + 1) = ((681 + 2 * i : Nat) : Int) := by rw [w32_id (by omega) (by omega)]; omega
theorem w32_632 {i : Nat} (h : i < 1000000) : w32 (632 + w32 (4 * (i : Int))) = ((632 + 4 * i : Nat) : Int) := by rw [w32_id (z := 4 * (i : Int)) (by omega) (by omega), w32_id (by omega) (by omega)]; omega
theorem w32_633 {i : Nat} (h : i < 1000000) : w32 (((632 + 4 * i : Nat) : Int) + 1) = ((633 + 4 * i : Nat) : Int) := by rw [w32_id (by omega) (by omega)]; omega
section
variable {sc : Nat × (Nat → Int)} {d : Nat} {h : am_H} {I J : am_I} {w : am_Wd}
theorem m_hstep (s : Sh h) (hw : J 284 = w) (V : WW w) {b : Nat} (hb : b < 60) {S : List Int} {ts ts2 : List Bool} {c1 n1 : Int} {i e kk : Nat} {u6 u7 u8 u9 : am_V} {lnI : Int} (hS : Sk (J 291) S) (hT : vT ts S) (hlen : ts.length ≤ 31) (hsum : lsum S ≤ 400000) (ht : t1 c1 n1 ts = some ts2) (hc : w (680 + 2 * i) = c1) (hn : w (681 + 2 * i) = n1) (hi : i < 400) (hkk : kk < 1400) (hend : w (kk + 3) = (e : Int)) (hie : i < e) :
  ∃ J2 v6 v7 v8 v9, (∀ p, p ≠ 291 → J2 p = J p) ∧ Sk (J2 291) (s1 w b c1 n1 S) ∧ Ru sc (d + 4) mX12_holdsLine 16 [Vr (some 283), Vi lnI, Vi (b : Int), Vi (S.length : Int), Vi (kk : Int), Vi (i : Int), u6, u7, u8, u9] [] (hI h J) = Ru sc (d + 4) mX12_holdsLine 16 [Vr (some 283), Vi lnI, Vi (b : Int), Vi ((s1 w b c1 n1 S).length : Int), Vi (kk : Int), Vi ((i + 1 : Nat) : Int), v6, v7, v8, v9] [] (hI h J2) := by
  have hl := vT_len hT
  have hV : WW (J 284) := by rw [hw]; exact V
  have hie2 : (i : Int) < (e : Int) := by omega
  by_cases h1 : 0 ≤ c1 ∧ c1 ≤ 9
  · have e2 : s1 w b c1 n1 S = fW w b c1 n1 :: S := by unfold s1; rw [if_pos (by omega)]
    have h9 : ¬ 9 < c1 := by omega
    rw [q_X12_holdsLine_16]
    simp (disch := first | (simp (disch := omega) only [w32_id]; omega) | omega) only [↓BM s, w32_3, w32_680, w32_681, hw, hc, hn, hend, hie2, h9, e_clI, e_clV, e_clP, e_clIx, e_clVx, e_clPx, e_xt, Int.toNat_natCast, Int.reduceToNat, bz0, bz1, Nat.add_zero, decide_eq_false_iff_not, decide_eq_true_eq, Int.reduceEq, Nat.reduceEqDiff, Int.reduceLT, Int.reduceLE, ↓reduceIte]
    rw [m_fact s hV hb h1, hw]
    simp (disch := first | (simp (disch := omega) only [w32_id]; omega) | omega) only [↓BM s, w32_succ, e_clI, e_clV, e_clP, e_clIx, e_clVx, e_clPx, e_xt, Int.toNat_natCast, Int.reduceToNat, bz0, bz1, Nat.add_zero, decide_eq_false_iff_not, decide_eq_true_eq, Int.reduceEq, Nat.reduceEqDiff, Int.reduceLT, Int.reduceLE, ↓reduceIte]
    rw [e2]
    exact ⟨_, _, _, _, _, fun p hp => u2_o hp, Sk_push hS, rfl⟩
  unfold t1 at ht
  rw [if_neg (by omega), if_neg (by omega), if_neg (by omega)] at ht
  by_cases h3 : c1 = 13
  · subst h3
    rw [if_neg (by decide), if_neg (by decide), if_pos rfl] at ht
    match ts, S, hT, ht, hS with
    | true :: r, x :: q, hT, ht, hS =>
      simp only [List.length_cons] at hl hlen
      have hx := hT.1
      have hq := hS.1
      rw [q_X12_holdsLine_16]
      simp (disch := first | (simp (disch := omega) only [w32_id]; omega) | omega) only [↓BM s, w32_3, w32_680, hw, hc, hend, hie2, w32_succ, w32_pred, List.length_cons, Nat.add_sub_cancel, hq, e_clI, e_clV, e_clP, e_clIx, e_clVx, e_clPx, e_xt, Int.toNat_natCast, Int.reduceToNat, bz0, bz1, Nat.add_zero, decide_eq_false_iff_not, decide_eq_true_eq, Int.reduceEq, Nat.reduceEqDiff, Int.reduceLT, Int.reduceLE, ↓reduceIte]
      rw [w32_id (by omega) (by omega)]
      have e2 : s1 w b 13 n1 (x :: q) = (1 - x) :: q := rfl
      rw [e2]
      exact ⟨_, _, _, _, _, fun p hp => u2_o hp, Sk_push hS.2, rfl⟩
  have h5 : c1 = 10 ∨ c1 = 11 ∨ c1 = 12 ∨ c1 = 14 ∨ c1 = 15 := by
    by_cases h5 : c1 = 10 ∨ c1 = 11 ∨ c1 = 12 ∨ c1 = 14 ∨ c1 = 15
    · exact h5
    · rw [if_neg (by omega), if_neg (by omega), if_neg h3, if_neg (by omega)] at ht
      cases ht
  have h6 : ∃ y x q, S = y :: x :: q ∧ -1000000 ≤ x + y ∧ x + y ≤ 1000000 := by
    have h7 : ∀ r : List Bool, ∀ k1 k2 : Bool, ts = k1 :: k2 :: r → ∃ y x q, S = y :: x :: q ∧ -1000000 ≤ x + y ∧ x + y ≤ 1000000 := by
      intro r k1 k2 e
      subst e
      cases k1 <;> cases k2
      all_goals
        match S, hT with
        | y :: x :: q, hT =>
          refine ⟨y, x, q, rfl, ?_⟩
          have := hT.1
          have := hT.2.1
          have := vT_pos hT.2.2
          have : lsum (y :: x :: q) = y + (x + lsum q) := rfl
          omega
    rcases h5 with rfl | rfl | rfl | rfl | rfl
    all_goals simp only [Int.reduceEq, reduceIte, or_true, true_or, or_self, or_false, false_or] at ht
    all_goals
      split at ht
      · exact h7 _ _ _ rfl
      · cases ht
  obtain ⟨y, x, q, rfl, h7⟩ := h6
  simp only [List.length_cons] at hl
  have hq1 : J 291 (q.length + 1) = y := hS.1
  have hq2 : J 291 q.length = x := hS.2.1
  have e2 : s1 w b c1 n1 (y :: x :: q) = o2 c1 x y :: q := by
    unfold s1
    rw [if_neg (by omega), if_neg h3]
  have h9 : 9 < c1 := by omega
  have h2s : 2 ≤ (y :: x :: q).length := by simp only [List.length_cons]; omega
  rw [q_X12_holdsLine_16, e2]
  simp (disch := first | (simp (disch := omega) only [w32_id]; omega) | omega) only [↓BM s, w32_3, w32_680, hw, hc, hend, hie2, h9, h3, w32_succ, w32_pred, w32_pred2, List.length_cons, Nat.add_sub_cancel, hq1, hq2, e_clI, e_clV, e_clP, e_clIx, e_clVx, e_clPx, e_xt, Int.toNat_natCast, Int.reduceToNat, bz0, bz1, Nat.add_zero, decide_eq_false_iff_not, decide_eq_true_eq, Int.reduceEq, Nat.reduceEqDiff, Int.reduceLT, Int.reduceLE, ↓reduceIte]
  rw [w32_id (z := x + y) (by omega) (by omega)]
  have h127 : ∀ t : Int, (c1 ≠ 10 → t = o2 c1 x y) → t = 0 ∨ t = 1 → Ru sc (d + 4) mX12_holdsLine 127 [Vr (some 283), Vi lnI, Vi (b : Int), Vi ((q.length + 1 : Nat) : Int), Vi (kk : Int), Vi (i : Int), Vi c1, Vi x, Vi y, u9] [Vi t] (hI h J) = Ru sc (d + 4) mX12_holdsLine 16 [Vr (some 283), Vi lnI, Vi (b : Int), Vi ((q.length + 1 : Nat) : Int), Vi (kk : Int), Vi ((i + 1 : Nat) : Int), Vi c1, Vi x, Vi y, Vi t] [] (hI h (am_u2 J 291 q.length (o2 c1 x y))) := by
    intro t h8 h9
    rw [q_X12_holdsLine_127]
    simp (disch := first | (simp (disch := omega) only [w32_id]; omega) | omega) only [↓BM s, w32_succ, w32_pred, Nat.add_sub_cancel, e_clI, e_clV, e_clP, e_clIx, e_clVx, e_clPx, e_xt, Int.toNat_natCast, Int.reduceToNat, bz0, bz1, Nat.add_zero, decide_eq_false_iff_not, decide_eq_true_eq, Int.reduceEq, Nat.reduceEqDiff, Int.reduceLT, Int.reduceLE, ↓reduceIte]
    by_cases h10 : c1 = 10
    · subst h10
      rw [if_pos rfl, w32_id (by omega) (by omega)]
      rfl
    · rw [if_neg h10, ← h8 h10]
      rcases h9 with rfl | rfl
      · rfl
      · rfl
  have hfin : ∀ t : Int, (c1 ≠ 10 → t = o2 c1 x y) → t = 0 ∨ t = 1 → ∃ J2 v6 v7 v8 v9, (∀ p, p ≠ 291 → J2 p = J p) ∧ Sk (J2 291) (o2 c1 x y :: q) ∧ Ru sc (d + 4) mX12_holdsLine 127 [Vr (some 283), Vi lnI, Vi (b : Int), Vi ((q.length + 1 : Nat) : Int), Vi (kk : Int), Vi (i : Int), Vi c1, Vi x, Vi y, u9] [Vi t] (hI h J) = Ru sc (d + 4) mX12_holdsLine 16 [Vr (some 283), Vi lnI, Vi (b : Int), Vi ((q.length + 1 : Nat) : Int), Vi (kk : Int), Vi ((i + 1 : Nat) : Int), v6, v7, v8, v9] [] (hI h J2) := fun t h8 h9 => ⟨_, _, _, _, _, fun p hp => u2_o hp, Sk_push hS.2.2, h127 t h8 h9⟩
  rcases h5 with rfl | rfl | rfl | rfl | rfl
  all_goals simp only [Int.reduceEq, reduceIte]
  · split
    · exact hfin 1 (fun h => absurd rfl h) (Or.inr rfl)
    · exact hfin 0 (fun h => absurd rfl h) (Or.inl rfl)
  · split
    · rename_i h8
      exact hfin 1 (fun _ => by unfold o2; simp [h8]) (Or.inr rfl)
    · rename_i h8
      exact hfin 0 (fun _ => by unfold o2; simp [h8]) (Or.inl rfl)
  · split
    · rename_i h8
      exact hfin 1 (fun _ => by unfold o2; simp [h8]) (Or.inr rfl)
    · rename_i h8
      exact hfin 0 (fun _ => by unfold o2; simp [h8]) (Or.inl rfl)
  · split
    · rename_i h8
      exact hfin 1 (fun _ => by unfold o2; simp [h8]) (Or.inr rfl)
    · rename_i h8
      exact hfin 0 (fun _ => by unfold o2; simp [h8]) (Or.inl rfl)
  · split
    · rename_i h8
      exact hfin 1 (fun _ => by unfold o2; simp [h8]) (Or.inr rfl)
    · rename_i h8
      exact hfin 0 (fun _ => by unfold o2; simp [h8]) (Or.inl rfl)
end
