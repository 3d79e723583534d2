/-! LANDS LAID BY THE REFERENCE -/
def LI (E : Nat → Bool) (mb : Nat → Nat) : Prop := (∀ u, u < 36 → mb u < 36 ∧ mb (mb u) = mb u) ∧ ∀ u v, u < 36 → v < 36 → mb u = mb v → conn lc mc E 60 u v
def Fl (I J : am_I) : Prop := ∀ p, p ≠ 296 → J p = I p
theorem Fl.rf (I : am_I) : Fl I I := fun _ _ => rfl
theorem Fl.tr {I J K : am_I} (h1 : Fl I J) (h2 : Fl J K) : Fl I K := fun p hp => (h2 p hp).trans (h1 p hp)
theorem Fl.sm {I J : am_I} (h : Fl I J) : Same I J := fun k j hk => by rw [h k (fun x => hk (by unfold scr; omega))]
def jq (mb : Nat → Nat) (M m : Nat) : Nat → Nat := fun i => if mb i = M then m else mb i
def rps (mb : Nat → Nat) : Int := nn (fun u => decide (mb u = u)) 36
theorem LI.join {E : Nat → Bool} {mb : Nat → Nat} (L : LI E mb) {M m : Nat} (hM : M < 36 ∧ mb M = M) (hm : m < 36 ∧ mb m = m) (hne : m ≠ M) (hc : conn lc mc E 60 M m) : LI E (jq mb M m) ∧ rps (jq mb M m) + 1 = rps mb := by
  have hj : ∀ i, jq mb M m i = if mb i = M then m else mb i := fun i => rfl
  have hcM : ∀ u, u < 36 → mb u = M → conn lc mc E 60 u M := fun u hu e => L.2 u M hu hM.1 (by rw [hM.2]; exact e)
  have hcm : ∀ u, u < 36 → mb u = m → conn lc mc E 60 u m := fun u hu e => L.2 u m hu hm.1 (by rw [hm.2]; exact e)
  refine ⟨⟨fun u hu => ?_, fun u v hu hv g => ?_⟩, ?_⟩
  · rw [hj u]
    by_cases g : mb u = M
    · rw [if_pos g, hj m, hm.2, if_neg hne]
      exact ⟨hm.1, rfl⟩
    · rw [if_neg g, hj, (L.1 u hu).2, if_neg g]
      exact ⟨(L.1 u hu).1, rfl⟩
  · rw [hj, hj] at g
    by_cases g1 : mb u = M
    · rw [if_pos g1] at g
      by_cases g2 : mb v = M
      · exact L.2 u v hu hv (g1.trans g2.symm)
      · rw [if_neg g2] at g
        exact (hcM u hu g1).tr (hc.tr (hcm v hv g.symm).sy)
    · rw [if_neg g1] at g
      by_cases g2 : mb v = M
      · rw [if_pos g2] at g
        exact (hcm u hu g).tr (hc.sy.tr (hcM v hv g2).sy)
      · rw [if_neg g2] at g
        exact L.2 u v hu hv g
  · unfold rps
    have h1 := nn_one (p := fun u => decide (u = M)) (x := M) (N := 36) hM.1 (decide_eq_true rfl) (fun u hu hp => of_decide_eq_true hp)
    rw [← h1]
    refine (nn_add (fun u hu => ?_)).symm
    rw [hj]
    by_cases g1 : u = M
    · subst g1
      rw [hM.2, if_pos rfl]
      exact Or.inr (Or.inl ⟨decide_eq_false hne, decide_eq_true rfl, decide_eq_true rfl⟩)
    · by_cases g2 : mb u = M
      · rw [if_pos g2, g2]
        have h2 : ¬ m = u := fun e => by
          rw [← e, hm.2] at g2
          exact hne g2
        exact Or.inr (Or.inr ⟨decide_eq_false h2, decide_eq_false g1, decide_eq_false (fun e => g1 e.symm)⟩)
      · rw [if_neg g2]
        by_cases g3 : mb u = u
        · exact Or.inl ⟨decide_eq_true g3, decide_eq_false g1, decide_eq_true g3⟩
        · exact Or.inr (Or.inr ⟨decide_eq_false g3, decide_eq_false g1, decide_eq_false g3⟩)
section
variable {sc : Nat × (Nat → Int)} {d : Nat} {h : am_H} {I J : am_I} {E : Nat → Bool} {mb : Nat → Nat} {t : Int}
theorem m_relabel (s : Sh h) (hJ : ∀ u, u < 36 → J 296 u = (mb u : Int)) {M m : Nat} {x y : Int} {b : Int} {c0 : Int} (hM : max x y = (M : Int)) (hm : min x y = (m : Int)) (hne : m ≠ M) : ∃ K, Fl J K ∧ (∀ u, u < 36 → K 296 u = (jq mb M m u : Int)) ∧ Ru sc (d + 6) mX12_laysLands 50 [Vr (some 283), Vi t, Vi c0, Vi b, Vi x, Vi y, Vi 0] [] (hI h J) = Ru sc (d + 6) mX12_laysLands 50 [Vr (some 283), Vi t, Vi c0, Vi b, Vi x, Vi y, Vi ((36 : Nat) : Int)] [] (hI h K) := by
  obtain ⟨K, k1, k2⟩ := lpG (X := fun i (_ : Unit) J => Ru sc (d + 6) mX12_laysLands 50 [Vr (some 283), Vi t, Vi c0, Vi b, Vi x, Vi y, Vi (i : Int)] [] (hI h J)) (G := fun _ z => z) (K := fun i _ K => Fl J K ∧ ∀ u, u < 36 → K 296 u = if u < i then (jq mb M m u : Int) else (mb u : Int)) (s0 := ()) (I := J) ⟨Fl.rf J, fun u hu => by rw [if_neg (Nat.not_lt_zero u)]; exact hJ u hu⟩ (N := 36) (fun i _ K hi k => by
    have hlt : (i : Int) < 36 := by omega
    have hv := k.2 i hi
    rw [if_neg (Nat.lt_irrefl i)] at hv
    refine ⟨am_u2 K 296 i (jq mb M m i : Nat), ⟨fun p hp => (u2_o hp).trans (k.1 p hp), fun u hu => ?_⟩, ?_⟩
    · by_cases g : u = i
      · rw [g, u2_same, if_pos (Nat.lt_succ_self i)]
      · rw [u2_j g, k.2 u hu]
        by_cases g2 : u < i
        · rw [if_pos g2, if_pos (by omega)]
        · rw [if_neg g2, if_neg (by omega)]
    · try dsimp only
      rw [q_X12_laysLands_50]
      have e : jq mb M m i = if mb i = M then m else mb i := rfl
      by_cases g : mb i = M
      · have g2 : (mb i : Int) = (M : Int) := by omega
        rw [e, if_pos g]
        simp (disch := first | (simp (disch := omega) only [w32_id]; omega) | omega) only [↓BM s, hlt, hv, c_max, hM, g2, c_min, hm, w32_succ, e_clI, e_clV, e_clP, e_clIx, e_clVx, e_clPx, e_xt, Int.toNat_natCast, Int.reduceToNat, bz0, bz1, Nat.add_zero, decide_eq_false_iff_not, decide_eq_true_eq, Int.reduceEq, Nat.reduceEqDiff, Int.reduceLT, Int.reduceLE, not_true_eq_false, not_false_eq_true, eq_self, ↓reduceIte]
      · have g2 : ¬ (mb i : Int) = (M : Int) := by omega
        rw [e, if_neg g]
        simp (disch := first | (simp (disch := omega) only [w32_id]; omega) | omega) only [↓BM s, hlt, hv, c_max, hM, g2, w32_succ, e_clI, e_clV, e_clP, e_clIx, e_clVx, e_clPx, e_xt, Int.toNat_natCast, Int.reduceToNat, bz0, bz1, Nat.add_zero, decide_eq_false_iff_not, decide_eq_true_eq, Int.reduceEq, Nat.reduceEqDiff, Int.reduceLT, Int.reduceLE, not_true_eq_false, not_false_eq_true, eq_self, ↓reduceIte])
  refine ⟨K, k1.1, fun u hu => ?_, k2⟩
  rw [k1.2 u hu, if_pos hu]
/-- a round of the borders -/
theorem m_lround (s : Sh h) (hE : E = fun b => opS (I 284) (I 283 18) (I 283 19) b t) (hI0 : Fl I J) (hJ : ∀ u, u < 36 → J 296 u = (mb u : Int)) (L : LI E mb) {u4 u5 u6 : am_V} : ∃ (K : am_I) (mb2 : Nat → Nat) (ch : Int) (v3 v4 v5 v6 : am_V), Fl I K ∧ (∀ u, u < 36 → K 296 u = (mb2 u : Int)) ∧ LI E mb2 ∧ (ch = 0 ∨ ch = 1) ∧ (ch = 0 → ∀ b, b < 60 → E b = true → mb2 (lc b) = mb2 (mc b)) ∧ (ch = 1 → rps mb2 < rps mb) ∧ Ru sc (d + 6) mX12_laysLands 23 [Vr (some 283), Vi t, Vi 0, Vi 0, u4, u5, u6] [] (hI h J) = Ru sc (d + 6) mX12_laysLands 16 [Vr (some 283), Vi t, Vi ch, v3, v4, v5, v6] [] (hI h K) := by
  have hgo : ∀ n, n ≤ 60 → ∃ (K : am_I) (mb2 : Nat → Nat) (ch : Int) (v4 v5 v6 : am_V), Fl I K ∧ (∀ u, u < 36 → K 296 u = (mb2 u : Int)) ∧ LI E mb2 ∧ (ch = 0 ∨ ch = 1) ∧ (ch = 0 → ∀ b, b < n → E b = true → mb2 (lc b) = mb2 (mc b)) ∧ (ch = 1 → rps mb2 < rps mb) ∧ (ch = 0 → rps mb2 ≤ rps mb) ∧ Ru sc (d + 6) mX12_laysLands 23 [Vr (some 283), Vi t, Vi 0, Vi 0, u4, u5, u6] [] (hI h J) = Ru sc (d + 6) mX12_laysLands 23 [Vr (some 283), Vi t, Vi ch, Vi (n : Int), v4, v5, v6] [] (hI h K) := by
    intro n
    induction n with
    | zero => exact fun _ => ⟨J, mb, 0, u4, u5, u6, hI0, hJ, L, Or.inl rfl, (fun _ b hb => absurd hb (Nat.not_lt_zero b)), (fun h => by cases h), (fun _ => Int.le_refl _), rfl⟩
    | succ n ih =>
      intro hn
      obtain ⟨K, mb2, ch, v4, v5, v6, k1, k2, k3, k4, k5, k6, k7, k8⟩ := ih (by omega)
      have hlt : (n : Int) < 60 := by omega
      have hn60 : n < 60 := by omega
      have l1 := lc_lt n hn60
      have l2 := mc_lt n hn60
      have q1 := k2 _ l1
      have q2 := k2 _ l2
      have f284 : K 284 = I 284 := k1 284 (by decide)
      have f283 : K 283 = I 283 := k1 283 (by decide)
      have hop := m_isOpen (sc := sc) (d := d + 1) (I := K) (t := t) s hn60
      rw [f284, f283] at hop
      by_cases g : mb2 (lc n) = mb2 (mc n)
      · refine ⟨K, mb2, ch, Vi (mb2 (lc n) : Int), Vi (mb2 (mc n) : Int), v6, k1, k2, k3, k4, fun hc b hb hEb => ?_, k6, k7, ?_⟩
        · by_cases e : b = n
          · subst e
            exact g
          · exact k5 hc b (by omega) hEb
        · have g2 : (mb2 (lc n) : Int) = (mb2 (mc n) : Int) := by omega
          rw [k8, q_X12_laysLands_23]
          simp (disch := first | (simp (disch := omega) only [w32_id]; omega) | omega) only [↓BM s, hlt, c_lessOf hn60, c_greaterOf hn60, q1, q2, g2, w32_succ, e_clI, e_clV, e_clP, e_clIx, e_clVx, e_clPx, e_xt, Int.toNat_natCast, Int.reduceToNat, bz0, bz1, Nat.add_zero, decide_eq_false_iff_not, decide_eq_true_eq, Int.reduceEq, Nat.reduceEqDiff, Int.reduceLT, Int.reduceLE, not_true_eq_false, not_false_eq_true, eq_self, ↓reduceIte]
      · have g2 : ¬ (mb2 (lc n) : Int) = (mb2 (mc n) : Int) := by omega
        cases hEn : opS (I 284) (I 283 18) (I 283 19) n t
        · refine ⟨K, mb2, ch, Vi (mb2 (lc n) : Int), Vi (mb2 (mc n) : Int), v6, k1, k2, k3, k4, fun hc b hb hEb => ?_, k6, k7, ?_⟩
          · by_cases e : b = n
            · subst e
              have hEb : opS (I 284) (I 283 18) (I 283 19) b t = true := by rw [hE] at hEb; exact hEb
              rw [hEn] at hEb
              cases hEb
            · exact k5 hc b (by omega) hEb
          · rw [k8, q_X12_laysLands_23]
            simp (disch := first | (simp (disch := omega) only [w32_id]; omega) | omega) only [↓BM s, hlt, c_lessOf hn60, c_greaterOf hn60, q1, q2, g2, hop, hEn, w32_succ, e_clI, e_clV, e_clP, e_clIx, e_clVx, e_clPx, e_xt, Int.toNat_natCast, Int.reduceToNat, bz0, bz1, Nat.add_zero, decide_eq_false_iff_not, decide_eq_true_eq, Int.reduceEq, Nat.reduceEqDiff, Int.reduceLT, Int.reduceLE, not_true_eq_false, not_false_eq_true, eq_self, ↓reduceIte]
        · have p1 := k3.1 _ l1
          have p2 := k3.1 _ l2
          have ce : conn lc mc E 60 (lc n) (mc n) := conn.ed hn60 (by rw [hE]; exact hEn)
          have c1 : conn lc mc E 60 (mb2 (lc n)) (lc n) := k3.2 _ _ p1.1 l1 p1.2
          have c2 : conn lc mc E 60 (mb2 (mc n)) (mc n) := k3.2 _ _ p2.1 l2 p2.2
          have hmx : ∃ M m : Nat, max (mb2 (lc n) : Int) (mb2 (mc n) : Int) = (M : Int) ∧ min (mb2 (lc n) : Int) (mb2 (mc n) : Int) = (m : Int) ∧ m ≠ M ∧ (M < 36 ∧ mb2 M = M) ∧ (m < 36 ∧ mb2 m = m) ∧ conn lc mc E 60 M m := by
            rcases Nat.lt_or_ge (mb2 (lc n)) (mb2 (mc n)) with hl | hl
            · exact ⟨mb2 (mc n), mb2 (lc n), by omega, by omega, g, p2, p1, c2.tr (ce.sy.tr c1.sy)⟩
            · exact ⟨mb2 (lc n), mb2 (mc n), by omega, by omega, fun e => g e.symm, p1, p2, c1.tr (ce.tr c2.sy)⟩
          obtain ⟨M, m, m1, m2, m3, m4, m5, m6⟩ := hmx
          obtain ⟨K2, r1, r2, r3⟩ := m_relabel (sc := sc) (d := d) (J := K) s k2 (t := t) (b := (n : Int)) (c0 := ch) m1 m2 m3
          obtain ⟨j1, j2⟩ := k3.join m4 m5 m3 m6
          have hr : rps mb2 ≤ rps mb := by
            rcases k4 with h0 | h0
            · exact k7 h0
            · exact Int.le_of_lt (k6 h0)
          refine ⟨K2, jq mb2 M m, 1, Vi (mb2 (lc n) : Int), Vi (mb2 (mc n) : Int), Vi ((36 : Nat) : Int), k1.tr r1, r2, j1, Or.inr rfl, (fun h => by cases h), (fun _ => by omega), (fun h => by cases h), ?_⟩
          rw [k8, q_X12_laysLands_23]
          simp (disch := first | (simp (disch := omega) only [w32_id]; omega) | omega) only [↓BM s, hlt, c_lessOf hn60, c_greaterOf hn60, q1, q2, g2, hop, hEn, Bool.true_eq_false, e_clI, e_clV, e_clP, e_clIx, e_clVx, e_clPx, e_xt, Int.toNat_natCast, Int.reduceToNat, bz0, bz1, Nat.add_zero, decide_eq_false_iff_not, decide_eq_true_eq, Int.reduceEq, Nat.reduceEqDiff, Int.reduceLT, Int.reduceLE, not_true_eq_false, not_false_eq_true, eq_self, ↓reduceIte]
          rw [r3, q_X12_laysLands_50, if_neg (by omega), w32_succ (by omega)]
  obtain ⟨K, mb2, ch, v4, v5, v6, k1, k2, k3, k4, k5, k6, k7, k8⟩ := hgo 60 (Nat.le_refl 60)
  refine ⟨K, mb2, ch, Vi ((60 : Nat) : Int), v4, v5, v6, k1, k2, k3, k4, k5, k6, ?_⟩
  rw [k8, q_X12_laysLands_23, if_neg (by omega)]
end
