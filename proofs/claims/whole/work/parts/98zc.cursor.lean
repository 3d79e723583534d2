/-! TEXTS: the class's things laid, and its place among them -/
def bgT (A : Nat → Int) (L : Nat) : Nat → Nat
  | 0 => blk A L 0
  | k + 1 => nxT A L (bgT A L k)
def CTok (A : Nat → Int) (L N : Nat) (K : am_I) : Prop := (N ≤ 400 ∧ L ≤ 400) ∧ bgT A L N = L ∧ (∀ k, k < N → bgT A L k < L) ∧ ∀ k, k ≤ N → K 4 k = (bgT A L k : Int) ∧ K 3 k = thT A L (bgT A L k)
def CQ (A : Nat → Int) (L N : Nat) (K : am_I) (q : Nat) : Prop := CTok A L N K ∧ ∃ t : Nat, K 1 5 = (t : Int) ∧ t ≤ N ∧ bgT A L t = q
def Fx (J K : am_I) : Prop := ∀ x j, ¬ (x = 1 ∧ 5 ≤ j) → K x j = J x j
theorem Fx.rf (J : am_I) : Fx J J := fun _ _ _ => rfl
theorem Fx.tr {I J K : am_I} (a : Fx I J) (b : Fx J K) : Fx I K := fun x j h => (b x j h).trans (a x j h)
theorem Fx.p {J K : am_I} (a : Fx J K) {x : Nat} (h : x ≠ 1) : K x = J x := funext fun j => a x j (fun e => h e.1)
theorem Fx.u5 {J K : am_I} (a : Fx J K) {j : Nat} {v : Int} (h : 5 ≤ j) : Fx J (am_u2 K 1 j v) := fun x i hn => by
  unfold am_u2
  rw [if_neg (fun e => hn ⟨e.1, by omega⟩)]
  exact a x i hn
section
variable {sc : Nat × (Nat → Int)} {d : Nat} {h : am_H} {I J K : am_I} {A : Nat → Int} {L N q : Nat}
theorem CTok.fr (k : CTok A L N J) (f : Fx J K) : CTok A L N K := by
  unfold CTok
  rw [f.p (show (3 : Nat) ≠ 1 by decide), f.p (show (4 : Nat) ≠ 1 by decide)]
  exact k
theorem CTok.same (k : CTok A L N J) (e3 : K 3 = J 3) (e4 : K 4 = J 4) : CTok A L N K := by
  unfold CTok
  rw [e3, e4]
  exact k
theorem CQ.same (k : CQ A L N J q) (e3 : K 3 = J 3) (e4 : K 4 = J 4) (e5 : K 1 5 = J 1 5) : CQ A L N K q := by
  obtain ⟨k1, t, k2, k3, k4⟩ := k
  exact ⟨k1.same e3 e4, t, e5.trans k2, k3, k4⟩
theorem CTok.tq (k : CTok A L N J) : ∀ t, t ≤ N → TQ A L (bgT A L t)
  | 0, _ => blk_TQ (Nat.zero_le _)
  | t + 1, ht => (nxT_b (k.2.2.1 t (by omega))).2.2
theorem CQ.tq (k : CQ A L N J q) : TQ A L q := by
  obtain ⟨k1, t, k2, k3, k4⟩ := k
  rw [← k4]
  exact k1.tq t k3
/-- what stands at the place; one further -/
theorem CQ.at (k : CQ A L N J q) : ∃ t : Nat, J 1 5 = (t : Int) ∧ t ≤ 400 ∧ J 3 t = thT A L q ∧ J 4 t = (q : Int) ∧ (thT A L q ≠ -1 → ∀ K, Fx J K → K 1 5 = ((t + 1 : Nat) : Int) → CQ A L N K (nxT A L q)) := by
  have hq := k.tq
  obtain ⟨k1, t, k2, k3, k4⟩ := k
  have k12 := k1.2.1
  have e := k1.2.2.2 t k3
  have h400 := k1.1.1
  rw [k4] at e
  refine ⟨t, k2, by omega, e.2, e.1, fun hn K f e5 => ⟨k1.fr f, t + 1, e5, ?_, ?_⟩⟩
  · have hl : ¬ L ≤ q := fun z => hn ((th_end hq).mpr z)
    rcases Nat.lt_or_ge t N with z | z
    · exact z
    · exfalso
      have : t = N := by omega
      rw [this, k12] at k4
      omega
  · show nxT A L (bgT A L t) = _
    rw [k4]
theorem ar_t5 {t : Nat} (h : t ≤ 400) : w32 ((t : Int) + 1) = ((t + 1 : Nat) : Int) ∧ (t : Int) < 401 := ⟨ar_t1 h, by omega⟩
theorem c_takes (s : Sh h) (k : CQ A L N J q) {c : Int} (hc : c ≠ -1) : (thT A L q = c ∧ ∃ K, Fx J K ∧ CQ A L N K (nxT A L q) ∧ Cl sc (d + 1) mX10_takes [Vr (some 1), Vi c] (hI h J) = some (.inl (Vi 1), hI h K)) ∨ (thT A L q ≠ c ∧ Cl sc (d + 1) mX10_takes [Vr (some 1), Vi c] (hI h J) = some (.inl (Vi 0), hI h J)) := by
  obtain ⟨t, t1, t2, t3, t4, t5⟩ := k.at
  have ne1 : ¬ (1 : Int) = 0 := by decide
  obtain ⟨wn, l1⟩ := ar_t5 t2
  by_cases e : thT A L q = c
  · refine Or.inl ⟨e, am_u2 J 1 5 ((t + 1 : Nat) : Int), (Fx.rf J).u5 (by decide), t5 (by rw [e]; exact hc) _ ((Fx.rf J).u5 (by decide)) u2_same, ?_⟩
    rw [q_X10_takes_0]
    simp (disch := first | assumption | exact Int.natCast_nonneg _ | decide) only [↓BT s, t1, l1, t3, e, hc, ne1, wn, e_clI, e_clV, e_clP, e_clIx, e_clVx, e_clPx, e_xt, Int.toNat_natCast, Int.reduceToNat, bz0, bz1, Nat.add_zero, decide_eq_false_iff_not, decide_eq_true_eq, Int.reduceEq, Nat.reduceEqDiff, Int.reduceLT, Int.reduceLE, not_true_eq_false, not_false_eq_true, eq_self, ↓reduceIte]
  · refine Or.inr ⟨e, ?_⟩
    rw [q_X10_takes_0]
    simp (disch := first | assumption | exact Int.natCast_nonneg _ | decide) only [↓BT s, t1, l1, t3, e, e_clI, e_clV, e_clP, e_clIx, e_clVx, e_clPx, e_xt, Int.toNat_natCast, Int.reduceToNat, bz0, bz1, Nat.add_zero, decide_eq_false_iff_not, decide_eq_true_eq, Int.reduceEq, Nat.reduceEqDiff, Int.reduceLT, Int.reduceLE, not_true_eq_false, not_false_eq_true, eq_self, ↓reduceIte]
theorem c_takesN (s : Sh h) (k : CQ A L N J q) {m : Int} : ((0 ≤ thT A L q ∧ thT A L q ≤ m) ∧ ∃ K, Fx J K ∧ CQ A L N K (nxT A L q) ∧ K 1 6 = thT A L q ∧ Cl sc (d + 1) mX10_takesNumber [Vr (some 1), Vi m] (hI h J) = some (.inl (Vi 1), hI h K)) ∨ (¬ (0 ≤ thT A L q ∧ thT A L q ≤ m) ∧ Cl sc (d + 1) mX10_takesNumber [Vr (some 1), Vi m] (hI h J) = some (.inl (Vi 0), hI h J)) := by
  obtain ⟨t, t1, t2, t3, t4, t5⟩ := k.at
  have ne1 : ¬ (1 : Int) = 0 := by decide
  have n65 : (5 : Nat) ≠ 6 := by decide
  have n56 : (6 : Nat) ≠ 5 := by decide
  obtain ⟨wn, l1⟩ := ar_t5 t2
  by_cases e0 : thT A L q < 0
  · refine Or.inr ⟨fun z => by clear wn; omega, ?_⟩
    rw [q_X10_takesNumber_0]
    simp (disch := first | assumption | exact Int.natCast_nonneg _ | decide) only [↓BT s, t1, l1, t3, e0, q_X10_takesNumber_17, r1_0, e_clI, e_clV, e_clP, e_clIx, e_clVx, e_clPx, e_xt, Int.toNat_natCast, Int.reduceToNat, bz0, bz1, Nat.add_zero, decide_eq_false_iff_not, decide_eq_true_eq, Int.reduceEq, Nat.reduceEqDiff, Int.reduceLT, Int.reduceLE, not_true_eq_false, not_false_eq_true, eq_self, ↓reduceIte]
  · by_cases e1 : m < thT A L q
    · refine Or.inr ⟨fun z => by clear wn; omega, ?_⟩
      rw [q_X10_takesNumber_0]
      simp (disch := first | assumption | exact Int.natCast_nonneg _ | decide) only [↓BT s, t1, l1, t3, e0, e1, q_X10_takesNumber_17, r1_0, e_clI, e_clV, e_clP, e_clIx, e_clVx, e_clPx, e_xt, Int.toNat_natCast, Int.reduceToNat, bz0, bz1, Nat.add_zero, decide_eq_false_iff_not, decide_eq_true_eq, Int.reduceEq, Nat.reduceEqDiff, Int.reduceLT, Int.reduceLE, not_true_eq_false, not_false_eq_true, eq_self, ↓reduceIte]
    · refine Or.inl ⟨by clear wn; omega, am_u2 (am_u2 J 1 6 (thT A L q)) 1 5 ((t + 1 : Nat) : Int), ((Fx.rf J).u5 (by decide)).u5 (by decide), t5 (by clear wn; omega) _ (((Fx.rf J).u5 (by decide)).u5 (by decide)) u2_same, ?_, ?_⟩
      · rw [u2_j n56]
        exact u2_same
      · rw [q_X10_takesNumber_0]
        simp (disch := first | assumption | exact Int.natCast_nonneg _ | decide) only [↓BT s, t1, l1, t3, e0, e1, e_clI, e_clV, e_clP, e_clIx, e_clVx, e_clPx, e_xt, Int.toNat_natCast, Int.reduceToNat, bz0, bz1, Nat.add_zero, decide_eq_false_iff_not, decide_eq_true_eq, Int.reduceEq, Nat.reduceEqDiff, Int.reduceLT, Int.reduceLE, not_true_eq_false, not_false_eq_true, eq_self, ↓reduceIte]
        rw [q_X10_takesNumber_17, if_neg ne1]
        simp (disch := first | assumption | exact Int.natCast_nonneg _ | decide) only [↓BT s, t1, l1, t3, u2_j n65, wn, r1_1, e_clI, e_clV, e_clP, e_clIx, e_clVx, e_clPx, e_xt, Int.toNat_natCast, Int.reduceToNat, bz0, bz1, Nat.add_zero, decide_eq_false_iff_not, decide_eq_true_eq, Int.reduceEq, Nat.reduceEqDiff, Int.reduceLT, Int.reduceLE, not_true_eq_false, not_false_eq_true, eq_self, ↓reduceIte]
theorem c_takesB (s : Sh h) (k : CQ A L N J q) {c : Nat} (hc : c < 36) : ((0 ≤ thT A L q ∧ thT A L q ≤ 35) ∧ bo c (thT A L q).toNat ≠ -1 ∧ ∃ K, Fx J K ∧ CQ A L N K (nxT A L q) ∧ K 1 6 = bo c (thT A L q).toNat ∧ Cl sc (d + 3) mX10_takesBorderFrom [Vr (some 1), Vi (c : Int)] (hI h J) = some (.inl (Vi 1), hI h K)) ∨ (¬ ((0 ≤ thT A L q ∧ thT A L q ≤ 35) ∧ bo c (thT A L q).toNat ≠ -1) ∧ Cl sc (d + 3) mX10_takesBorderFrom [Vr (some 1), Vi (c : Int)] (hI h J) = some (.inl (Vi 0), hI h J)) := by
  obtain ⟨t, t1, t2, t3, t4, t5⟩ := k.at
  have ne1 : ¬ (1 : Int) = 0 := by decide
  have n65 : (5 : Nat) ≠ 6 := by decide
  have n56 : (6 : Nat) ≠ 5 := by decide
  obtain ⟨wn, l1⟩ := ar_t5 t2
  by_cases e0 : thT A L q < 0
  · refine Or.inr ⟨fun z => by clear wn; omega, ?_⟩
    rw [q_X10_takesBorderFrom_0]
    simp (disch := first | assumption | exact Int.natCast_nonneg _ | decide) only [↓BT s, t1, l1, t3, e0, q_X10_takesBorderFrom_29, e_clI, e_clV, e_clP, e_clIx, e_clVx, e_clPx, e_xt, Int.toNat_natCast, Int.reduceToNat, bz0, bz1, Nat.add_zero, decide_eq_false_iff_not, decide_eq_true_eq, Int.reduceEq, Nat.reduceEqDiff, Int.reduceLT, Int.reduceLE, not_true_eq_false, not_false_eq_true, eq_self, ↓reduceIte]
  · by_cases e1 : thT A L q < 36
    · obtain ⟨o, ho⟩ : ∃ o : Nat, thT A L q = (o : Int) := ⟨(thT A L q).toNat, by clear wn; omega⟩
      have ho36 : o < 36 := by clear wn; omega
      have cb := c_borderOf (sc := sc) (d := d) (h := hI h J) hc ho36
      rw [ho] at t3 t5 e0 e1 ⊢
      rw [Int.toNat_natCast]
      by_cases e2 : bo c o = -1
      · refine Or.inr ⟨fun z => z.2 e2, ?_⟩
        rw [e2] at cb
        rw [q_X10_takesBorderFrom_0]
        simp (disch := first | assumption | exact Int.natCast_nonneg _ | decide) only [↓BT s, t1, l1, t3, e0, e1, ne1, cb, e_clI, e_clV, e_clP, e_clIx, e_clVx, e_clPx, e_xt, Int.toNat_natCast, Int.reduceToNat, bz0, bz1, Nat.add_zero, decide_eq_false_iff_not, decide_eq_true_eq, Int.reduceEq, Nat.reduceEqDiff, Int.reduceLT, Int.reduceLE, not_true_eq_false, not_false_eq_true, eq_self, ↓reduceIte]
        rw [q_X10_takesBorderFrom_29, if_pos rfl]
      · refine Or.inl ⟨by clear wn; omega, e2, am_u2 (am_u2 J 1 6 (bo c o)) 1 5 ((t + 1 : Nat) : Int), ((Fx.rf J).u5 (by decide)).u5 (by decide), t5 (by clear wn; omega) _ (((Fx.rf J).u5 (by decide)).u5 (by decide)) u2_same, ?_, ?_⟩
        · rw [u2_j n56]
          exact u2_same
        · rw [q_X10_takesBorderFrom_0]
          simp (disch := first | assumption | exact Int.natCast_nonneg _ | decide) only [↓BT s, t1, l1, t3, e0, e1, ne1, cb, e_clI, e_clV, e_clP, e_clIx, e_clVx, e_clPx, e_xt, Int.toNat_natCast, Int.reduceToNat, bz0, bz1, Nat.add_zero, decide_eq_false_iff_not, decide_eq_true_eq, Int.reduceEq, Nat.reduceEqDiff, Int.reduceLT, Int.reduceLE, not_true_eq_false, not_false_eq_true, eq_self, ↓reduceIte]
          rw [q_X10_takesBorderFrom_29, if_neg e2]
          simp (disch := first | assumption | exact Int.natCast_nonneg _ | decide) only [↓BT s, t1, l1, t3, u2_j n65, wn, e_clI, e_clV, e_clP, e_clIx, e_clVx, e_clPx, e_xt, Int.toNat_natCast, Int.reduceToNat, bz0, bz1, Nat.add_zero, decide_eq_false_iff_not, decide_eq_true_eq, Int.reduceEq, Nat.reduceEqDiff, Int.reduceLT, Int.reduceLE, not_true_eq_false, not_false_eq_true, eq_self, ↓reduceIte]
    · refine Or.inr ⟨fun z => by clear wn; omega, ?_⟩
      rw [q_X10_takesBorderFrom_0]
      simp (disch := first | assumption | exact Int.natCast_nonneg _ | decide) only [↓BT s, t1, l1, t3, e0, e1, q_X10_takesBorderFrom_29, e_clI, e_clV, e_clP, e_clIx, e_clVx, e_clPx, e_xt, Int.toNat_natCast, Int.reduceToNat, bz0, bz1, Nat.add_zero, decide_eq_false_iff_not, decide_eq_true_eq, Int.reduceEq, Nat.reduceEqDiff, Int.reduceLT, Int.reduceLE, not_true_eq_false, not_false_eq_true, eq_self, ↓reduceIte]
theorem c_refuses (s : Sh h) (k : CQ A L N J q) : Cl sc (d + 1) mX10_refuses [Vr (some 1)] (hI h J) = some (.inl (Vi 0), hI h (am_u2 J 1 2 (q : Int))) := by
  obtain ⟨t, t1, t2, t3, t4, t5⟩ := k.at
  obtain ⟨wn, l1⟩ := ar_t5 t2
  rw [q_X10_refuses_0]
  simp (disch := first | assumption | exact Int.natCast_nonneg _ | decide) only [↓BT s, t1, l1, t4, e_clI, e_clV, e_clP, e_clIx, e_clVx, e_clPx, e_xt, Int.toNat_natCast, Int.reduceToNat, bz0, bz1, Nat.add_zero, decide_eq_false_iff_not, decide_eq_true_eq, Int.reduceEq, Nat.reduceEqDiff, Int.reduceLT, Int.reduceLE, not_true_eq_false, not_false_eq_true, eq_self, ↓reduceIte]
theorem c_isAtEnd (s : Sh h) (k : CQ A L N J q) : Cl sc (d + 1) mX10_isAtEnd [Vr (some 1)] (hI h J) = some (.inl (Vi (if thT A L q = -1 then 1 else 0)), hI h J) := by
  obtain ⟨t, t1, t2, t3, t4, t5⟩ := k.at
  obtain ⟨wn, l1⟩ := ar_t5 t2
  rw [q_X10_isAtEnd_0]
  by_cases e : thT A L q = -1
  · rw [if_pos e]
    simp (disch := first | assumption | exact Int.natCast_nonneg _ | decide) only [↓BT s, t1, l1, t3, e, e_clI, e_clV, e_clP, e_clIx, e_clVx, e_clPx, e_xt, Int.toNat_natCast, Int.reduceToNat, bz0, bz1, Nat.add_zero, decide_eq_false_iff_not, decide_eq_true_eq, Int.reduceEq, Nat.reduceEqDiff, Int.reduceLT, Int.reduceLE, not_true_eq_false, not_false_eq_true, eq_self, ↓reduceIte]
  · rw [if_neg e]
    simp (disch := first | assumption | exact Int.natCast_nonneg _ | decide) only [↓BT s, t1, l1, t3, e, e_clI, e_clV, e_clP, e_clIx, e_clVx, e_clPx, e_xt, Int.toNat_natCast, Int.reduceToNat, bz0, bz1, Nat.add_zero, decide_eq_false_iff_not, decide_eq_true_eq, Int.reduceEq, Nat.reduceEqDiff, Int.reduceLT, Int.reduceLE, not_true_eq_false, not_false_eq_true, eq_self, ↓reduceIte]
theorem c_thing (s : Sh h) (k : CQ A L N J q) : Cl sc (d + 1) mX10_thing [Vr (some 1)] (hI h J) = some (.inl (Vi (thT A L q)), hI h J) := by
  obtain ⟨t, t1, t2, t3, t4, t5⟩ := k.at
  obtain ⟨wn, l1⟩ := ar_t5 t2
  rw [q_X10_thing_0]
  simp (disch := first | assumption | exact Int.natCast_nonneg _ | decide) only [↓BT s, t1, l1, t3, e_clI, e_clV, e_clP, e_clIx, e_clVx, e_clPx, e_xt, Int.toNat_natCast, Int.reduceToNat, bz0, bz1, Nat.add_zero, decide_eq_false_iff_not, decide_eq_true_eq, Int.reduceEq, Nat.reduceEqDiff, Int.reduceLT, Int.reduceLE, not_true_eq_false, not_false_eq_true, eq_self, ↓reduceIte]
theorem c_next (s : Sh h) (k : CQ A L N J q) (hn : thT A L q ≠ -1) : ∃ K, Fx J K ∧ CQ A L N K (nxT A L q) ∧ Cl sc (d + 1) mX10_next [Vr (some 1)] (hI h J) = some (.inl (Vx 0), hI h K) := by
  obtain ⟨t, t1, t2, t3, t4, t5⟩ := k.at
  obtain ⟨wn, l1⟩ := ar_t5 t2
  refine ⟨am_u2 J 1 5 ((t + 1 : Nat) : Int), (Fx.rf J).u5 (by decide), t5 hn _ ((Fx.rf J).u5 (by decide)) u2_same, ?_⟩
  rw [q_X10_next_0]
  simp (disch := first | assumption | exact Int.natCast_nonneg _ | decide) only [↓BT s, t1, l1, t3, hn, wn, e_clI, e_clV, e_clP, e_clIx, e_clVx, e_clPx, e_xt, Int.toNat_natCast, Int.reduceToNat, bz0, bz1, Nat.add_zero, decide_eq_false_iff_not, decide_eq_true_eq, Int.reduceEq, Nat.reduceEqDiff, Int.reduceLT, Int.reduceLE, not_true_eq_false, not_false_eq_true, eq_self, ↓reduceIte]
/-- the loop that lays the things -/
theorem c_layLoop (s : Sh h) (hL : L ≤ 400) (eA : J 2 = A) : ∀ r c p i (K : am_I) (u : am_V), L ≤ p + r → p ≤ L → c ≤ p → i ≤ p → blk A L p = bgT A L c → (∀ k, k < c → bgT A L k < L ∧ K 4 k = (bgT A L k : Int) ∧ K 3 k = thT A L (bgT A L k)) → (∀ x, x ≠ 3 → x ≠ 4 → K x = J x) → ∃ K' N i' u', (N ≤ 400 ∧ bgT A L N = L ∧ (∀ k, k < N → bgT A L k < L ∧ K' 4 k = (bgT A L k : Int) ∧ K' 3 k = thT A L (bgT A L k)) ∧ (∀ x, x ≠ 3 → x ≠ 4 → K' x = J x)) ∧ Ru sc (d + 8) mX10_startText 10 [Vr (some 1), Vi (L : Int), Vi (c : Int), Vi (p : Int), Vi (i : Int), u] [] (hI h K) = Ru sc (d + 8) mX10_startText 47 [Vr (some 1), Vi (L : Int), Vi (N : Int), Vi (L : Int), Vi i', u'] [] (hI h K') := by
  have fin : ∀ c i (K : am_I) (u : am_V), c ≤ L → blk A L L = bgT A L c → (∀ k, k < c → bgT A L k < L ∧ K 4 k = (bgT A L k : Int) ∧ K 3 k = thT A L (bgT A L k)) → (∀ x, x ≠ 3 → x ≠ 4 → K x = J x) → ∃ K' N i' u', (N ≤ 400 ∧ bgT A L N = L ∧ (∀ k, k < N → bgT A L k < L ∧ K' 4 k = (bgT A L k : Int) ∧ K' 3 k = thT A L (bgT A L k)) ∧ (∀ x, x ≠ 3 → x ≠ 4 → K' x = J x)) ∧ Ru sc (d + 8) mX10_startText 10 [Vr (some 1), Vi (L : Int), Vi (c : Int), Vi (L : Int), Vi i, u] [] (hI h K) = Ru sc (d + 8) mX10_startText 47 [Vr (some 1), Vi (L : Int), Vi (N : Int), Vi (L : Int), Vi i', u'] [] (hI h K') := by
    intro c i K u hc hb hk hf
    have hbL : blk A L L = L := blk_self ⟨Nat.le_refl _, fun z => absurd z (Nat.lt_irrefl _)⟩
    refine ⟨K, c, i, u, ⟨by omega, by rw [← hb, hbL], hk, hf⟩, ?_⟩
    have l2 : ¬ (L : Int) < (L : Int) := by omega
    rw [q_X10_startText_10]
    by_cases l1 : i < 400
    · rw [if_pos l1, if_neg l2]
    · rw [if_neg l1]
  intro r
  induction r with
  | zero =>
    intro c p i K u h1 h2 h3 h4 h5 h6 h7
    have : p = L := by omega
    subst this
    exact fin c i K u h3 h5 h6 h7
  | succ r ih =>
    intro c p i K u h1 h2 h3 h4 h5 h6 h7
    by_cases hp : p = L
    · subst hp
      exact fin c i K u h3 h5 h6 h7
    · have hpL : p < L := by omega
      have l1 : (i : Int) < 400 := by omega
      have l2 : (p : Int) < (L : Int) := by omega
      have l3 : (p : Int) < 400 := by omega
      have l4 : (c : Int) < 401 := by omega
      have eK : K 2 = A := (h7 2 (by decide) (by decide)).trans eA
      by_cases hb : A p = 32
      · obtain ⟨K', N, i', u', g1, g2⟩ := ih c (p + 1) (i + 1) K u (by omega) (by omega) (by omega) (by omega) (by rw [← blk_blank hpL hb]; exact h5) h6 h7
        refine ⟨K', N, i', u', g1, ?_⟩
        have w1 := ar_t1 (q := p) (by omega)
        have w2 := ar_t1 (q := i) (by clear w1; omega)
        rw [q_X10_startText_10]
        simp (disch := first | assumption | exact Int.natCast_nonneg _ | decide) only [↓BT s, l1, l2, l3, eK, hb, w1, w2, e_clI, e_clV, e_clP, e_clIx, e_clVx, e_clPx, e_xt, Int.toNat_natCast, Int.reduceToNat, bz0, bz1, Nat.add_zero, decide_eq_false_iff_not, decide_eq_true_eq, Int.reduceEq, Nat.reduceEqDiff, Int.reduceLT, Int.reduceLE, not_true_eq_false, not_false_eq_true, eq_self, ↓reduceIte]
        exact g2
      · have ht : TQ A L p := ⟨h2, fun _ => hb⟩
        have hbp : bgT A L c = p := by rw [← h5]; exact blk_self ht
        have he := enT_b (A := A) hpL
        have ce := c_endOfTh (sc := sc) (d := d + 5) (J := K) s hL hpL
        have ct := c_thingOf (sc := sc) (d := d) (J := K) s hL hpL
        rw [eK] at ce ct
        obtain ⟨K', N, i', u', g1, g2⟩ := ih (c + 1) (enT A L p) (i + 1) (am_u2 (am_u2 K 3 c (thT A L p)) 4 c (p : Int)) (Vi (enT A L p : Int)) (by omega) he.2 (by omega) (by omega) (by
          show blk A L (enT A L p) = nxT A L (bgT A L c)
          rw [hbp]
          rfl) (fun k hk => by
          by_cases e : k = c
          · rw [e, hbp, u2_same, u2_o (by decide), u2_same]
            exact ⟨hpL, rfl, rfl⟩
          · rw [u2_j e, u2_o (by decide), u2_o (by decide), u2_j e]
            exact h6 k (by omega)) (fun x h3 h4 => by rw [u2_o h4, u2_o h3]; exact h7 x h3 h4)
        refine ⟨K', N, i', u', g1, ?_⟩
        have w1 := ar_t1 (q := c) (by omega)
        have w2 := ar_t1 (q := i) (by clear w1; omega)
        have rc := (BT s).1
        rw [q_X10_startText_10]
        simp (disch := first | assumption | exact Int.natCast_nonneg _ | decide) only [↓BT s, l1, l2, l3, l4, eK, hb, ce, ct, w1, w2, e_clI, e_clV, e_clP, e_clIx, e_clVx, e_clPx, e_xt, Int.toNat_natCast, Int.reduceToNat, bz0, bz1, Nat.add_zero, decide_eq_false_iff_not, decide_eq_true_eq, Int.reduceEq, Nat.reduceEqDiff, Int.reduceLT, Int.reduceLE, not_true_eq_false, not_false_eq_true, eq_self, ↓reduceIte]
        exact g2
theorem c_startTx (s : Sh h) (hL : L ≤ 400) (e1 : I 1 1 = (L : Int)) : ∃ K N, (CQ (I 2) L N K (blk (I 2) L 0) ∧ K 1 1 = 0 ∧ K 1 2 = -1 ∧ ∀ x j, ¬ (x = 1 ∧ (j = 1 ∨ j = 2 ∨ 5 ≤ j)) → x ≠ 3 → x ≠ 4 → K x j = I x j) ∧ Cl sc (d + 8) mX10_startText [Vr (some 1)] (hI h I) = some (.inl (Vx 0), hI h K) := by
  have use : Cl sc (d + 7) mX10_useUp [Vr (some 1)] (hI h I) = some (.inl (Vi (L : Int)), hI h (am_u2 I 1 1 0)) := by
    rw [q_X10_useUp_0]
    simp (disch := first | assumption | exact Int.natCast_nonneg _ | decide) only [↓BT s, e1, e_clI, e_clV, e_clP, e_clIx, e_clVx, e_clPx, e_xt, Int.toNat_natCast, Int.reduceToNat, bz0, bz1, Nat.add_zero, decide_eq_false_iff_not, decide_eq_true_eq, Int.reduceEq, Nat.reduceEqDiff, Int.reduceLT, Int.reduceLE, not_true_eq_false, not_false_eq_true, eq_self, ↓reduceIte]
  obtain ⟨K, N, i', u', ⟨g1, g2, g3, g4⟩, g5⟩ := c_layLoop (sc := sc) (d := d) (h := h) (J := am_u2 I 1 1 0) (A := I 2) (L := L) s hL (u2_o (by decide)) L 0 0 0 (am_u2 I 1 1 0) (Vx 0) (by omega) (Nat.zero_le _) (Nat.le_refl _) (Nat.le_refl _) rfl (fun k hk => absurd hk (Nat.not_lt_zero k)) (fun _ _ _ => rfl)
  have l4 : (N : Int) < 401 := by omega
  have thL : thT (I 2) L L = -1 := if_pos (Nat.le_refl _)
  refine ⟨am_u2 (am_u2 (am_u2 (am_u2 K 3 N (-1)) 4 N (L : Int)) 1 5 0) 1 2 (-1), N, ⟨⟨⟨⟨g1, hL⟩, g2, fun k hk => (g3 k hk).1, fun k hk => ?_⟩, 0, ?_, Nat.zero_le _, rfl⟩, ?_, u2_same, fun x j hn h3 h4 => ?_⟩, ?_⟩
  · rw [u2_o (by decide), u2_o (by decide), u2_o (show (3 : Nat) ≠ 1 by decide), u2_o (show (3 : Nat) ≠ 1 by decide), u2_o (show (3 : Nat) ≠ 4 by decide)]
    by_cases e : k = N
    · rw [e, u2_same, u2_same, g2]
      exact ⟨rfl, thL.symm⟩
    · rw [u2_j e, u2_o (show (4 : Nat) ≠ 3 by decide), u2_j e]
      exact (g3 k (by omega)).2
  · rw [u2_j (by decide)]
    exact u2_same
  · rw [u2_j (by decide), u2_j (by decide), u2_o (by decide), u2_o (by decide), g4 1 (by decide) (by decide)]
    exact u2_same
  · unfold am_u2
    rw [if_neg (by omega), if_neg (by omega), if_neg (fun e => h4 e.1), if_neg (fun e => h3 e.1), g4 x h3 h4]
    unfold am_u2
    rw [if_neg (by omega)]
  · rw [q_X10_startText_0]
    simp (disch := first | assumption | exact Int.natCast_nonneg _ | decide) only [↓BT s, use, e_clI, e_clV, e_clP, e_clIx, e_clVx, e_clPx, e_xt, Int.toNat_natCast, Int.reduceToNat, bz0, bz1, Nat.add_zero, decide_eq_false_iff_not, decide_eq_true_eq, Int.reduceEq, Nat.reduceEqDiff, Int.reduceLT, Int.reduceLE, not_true_eq_false, not_false_eq_true, eq_self, ↓reduceIte]
    refine g5.trans ?_
    rw [q_X10_startText_47]
    simp (disch := first | assumption | exact Int.natCast_nonneg _ | decide) only [↓BT s, l4, e_clI, e_clV, e_clP, e_clIx, e_clVx, e_clPx, e_xt, Int.toNat_natCast, Int.reduceToNat, bz0, bz1, Nat.add_zero, decide_eq_false_iff_not, decide_eq_true_eq, Int.reduceEq, Nat.reduceEqDiff, Int.reduceLT, Int.reduceLE, not_true_eq_false, not_false_eq_true, eq_self, ↓reduceIte]
end
