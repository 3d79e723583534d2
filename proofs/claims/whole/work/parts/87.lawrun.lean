/-! THE LAW'S RUNS -/
/-- a law's object -/
def LO (h : am_H) (L ln cc : Nat) : Prop := hT h L = (0, 3) ∧ hT h (L + 1) = (1, ln) ∧ hT h (L + 2) = (1, ln) ∧ hT h (L + 3) = (1, ln + 1) ∧ hT h (L + 4) = (1, cc) ∧ hT h (L + 5) = (1, 32) ∧ rP h L 1 = some (L + 1) ∧ rP h L 2 = some (L + 2) ∧ rP h L 3 = some (L + 3) ∧ rP h L 4 = some (L + 4) ∧ rP h L 5 = some (L + 5)
def LC (I : am_I) (w : am_Wd) (L ln cc : Nat) : Prop := I L 0 = ln ∧ (∀ k, k < ln → I (L + 1) k = -13 - w (632 + 4 * k) ∧ I (L + 2) k = w (633 + 4 * k) ∧ I (L + 3) k = w (634 + 4 * k) ∧ I (L + 3) (k + 1) = w (635 + 4 * k)) ∧ ∀ i, i < cc → I (L + 4) i = tr (w (680 + 2 * i)) (w (681 + 2 * i))
theorem BLw {h : am_H} {L ln cc : Nat} (c : LO h L ln cc) : (∀ (I : am_I) (k : am_R), am_rcv 3 (hI h I) (Vr (some L)) k = k) ∧
  (∀ (I : am_I) (k : Int → am_R), gfI 3 0 (hI h I) (some L) k = k (I L 0)) ∧
  (∀ (I : am_I) (k : Option Nat → am_R), gfP 3 1 (hI h I) (some L) k = k (some (L + 1))) ∧
  (∀ (I : am_I) (k : Option Nat → am_R), gfP 3 2 (hI h I) (some L) k = k (some (L + 2))) ∧
  (∀ (I : am_I) (k : Option Nat → am_R), gfP 3 3 (hI h I) (some L) k = k (some (L + 3))) ∧
  (∀ (I : am_I) (k : Option Nat → am_R), gfP 3 4 (hI h I) (some L) k = k (some (L + 4))) ∧
  (∀ (I : am_I) (k : Option Nat → am_R), gfP 3 5 (hI h I) (some L) k = k (some (L + 5))) ∧
  (∀ (I : am_I) (i : Int) (k : Int → am_R), 0 ≤ i → i < ln → ldA 1 (hI h I) (some (L + 1)) i k = k (I (L + 1) i.toNat)) ∧
  (∀ (I : am_I) (i : Int) (k : Int → am_R), 0 ≤ i → i < ln → ldA 1 (hI h I) (some (L + 2)) i k = k (I (L + 2) i.toNat)) ∧
  (∀ (I : am_I) (i : Int) (k : Int → am_R), 0 ≤ i → i < (ln + 1 : Nat) → ldA 1 (hI h I) (some (L + 3)) i k = k (I (L + 3) i.toNat)) ∧
  (∀ (I : am_I) (i : Int) (k : Int → am_R), 0 ≤ i → i < cc → ldA 1 (hI h I) (some (L + 4)) i k = k (I (L + 4) i.toNat)) ∧
  (∀ (I : am_I) (i : Int) (k : Int → am_R), 0 ≤ i → i < 32 → ldA 1 (hI h I) (some (L + 5)) i k = k (I (L + 5) i.toNat)) ∧
  (∀ (I : am_I) (i v : Int) (k : am_H → am_R), 0 ≤ i → i < 32 → stA 1 (hI h I) (some (L + 5)) i v k = k (hI h (am_u2 I (L + 5) i.toNat v))) :=
  ⟨fun _ _ => e_rcv c.1, fun _ _ => e_gfI c.1, fun _ _ => e_gfP c.1 c.2.2.2.2.2.2.1, fun _ _ => e_gfP c.1 c.2.2.2.2.2.2.2.1, fun _ _ => e_gfP c.1 c.2.2.2.2.2.2.2.2.1, fun _ _ => e_gfP c.1 c.2.2.2.2.2.2.2.2.2.1, fun _ _ => e_gfP c.1 c.2.2.2.2.2.2.2.2.2.2, fun _ _ _ h0 h1 => e_ldA c.2.1 h0 h1, fun _ _ _ h0 h1 => e_ldA c.2.2.1 h0 h1, fun _ _ _ h0 h1 => e_ldA c.2.2.2.1 h0 h1, fun _ _ _ h0 h1 => e_ldA c.2.2.2.2.1 h0 h1, fun _ _ _ h0 h1 => e_ldA c.2.2.2.2.2.1 h0 h1, fun _ _ _ _ h0 h1 => e_stA c.2.2.2.2.2.1 h0 h1⟩
theorem td_e {x n : Int} (h0 : 0 ≤ x) : x.tdiv n = x / n := Int.tdiv_eq_ediv_of_nonneg h0
theorem tm_e {x n : Int} (h0 : 0 ≤ x) : x.tmod n = x % n := Int.tmod_eq_emod_of_nonneg h0
section
variable {sc : Nat × (Nat → Int)} {d a L ln cc : Nat} {h : am_H} {I : am_I} {w : am_Wd}
theorem c_fact (c : Cty h a) (R : CRep I a w) (V : WW w) {b : Nat} (hb : b < 60) (hf : w (7 + 5 * b) = 1) {k n : Int} (hk : 0 ≤ k ∧ k ≤ 8) : Cl sc (d + 1) mX3_fact [Vi (-17 - k), Vr (some a), Vi (b : Int), Vi (lc b : Nat)] (hI h I) = some (.inl (Vi (fW w b k n)), hI h I) := by
  have hv := V.fe hb
  have hl := lc_lt b hb
  have hy : 0 ≤ w 3 := V.2.2.2.2.2.1.1
  have h9 : k = 0 ∨ k = 1 ∨ k = 2 ∨ k = 3 ∨ k = 4 ∨ k = 5 ∨ k = 6 ∨ k = 7 ∨ k = 8 := by omega
  rw [q_X3_fact_0]
  unfold fW
  rcases h9 with rfl | rfl | rfl | rfl | rfl | rfl | rfl | rfl | rfl
  all_goals
    simp (disch := omega) only [BC c, Int.reduceSub, R.hi hb hf, R.ag hb hf, R.ga hb hf, R.st hb hf, R.ye, td_e, tm_e, w32_id, Int.reduceNeg, e_clI, e_clV, e_clP, e_clIx, e_clVx, e_clPx, e_xt, Int.toNat_natCast, Int.reduceToNat, bz0, bz1, Nat.add_zero, decide_eq_false_iff_not, decide_eq_true_eq, Int.reduceEq, Nat.reduceEqDiff, Int.reduceLT, Int.reduceLE, reduceIte]
  all_goals (repeat' split)
  all_goals first | (exact lf (by omega)) | (exfalso; omega) | rfl | skip 
theorem m_fact (s : Sh h) (V : WW (I 284)) {b : Nat} (hb : b < 60) {k n : Int} (hk : 0 ≤ k ∧ k ≤ 9) : Cl sc (d + 3) mX12_factOf [Vr (some 283), Vi k, Vi n, Vi (b : Int)] (hI h I) = some (.inl (Vi (fW (I 284) b k n)), hI h I) := by
  have hl := lc_lt b hb
  have hy : 0 ≤ I 284 3 := V.2.2.2.2.2.1.1
  have h9 : k = 0 ∨ k = 1 ∨ k = 2 ∨ k = 3 ∨ k = 4 ∨ k = 5 ∨ k = 6 ∨ k = 7 ∨ k = 8 ∨ k = 9 := by omega
  rw [q_X12_factOf_0]
  unfold fW
  rcases h9 with rfl | rfl | rfl | rfl | rfl | rfl | rfl | rfl | rfl | rfl
  all_goals
    simp (disch := omega) only [BM s, m_of s, c_lessOf, c_isAcross, td_e, tm_e, w32_id, e_clI, e_clV, e_clP, e_clIx, e_clVx, e_clPx, e_xt, Int.toNat_natCast, Int.reduceToNat, bz0, bz1, Nat.add_zero, decide_eq_false_iff_not, decide_eq_true_eq, Int.reduceEq, Nat.reduceEqDiff, Int.reduceLT, Int.reduceLE, reduceIte]
  all_goals (repeat' split)
  all_goals first | (exact lf (by omega)) | (exfalso; omega) | rfl | skip 
end
