/-! WHAT WAS SEEN: the calls -/
section
variable {sc : Nat × (Nat → Int)} {d a b n f : Nat} {h h1 h2 : am_H} {I J J1 J2 K : am_I} {w v : am_Wd}
theorem fsF_0 {F : Nat → Bool} : ∀ n, (fsF F n = -1 ∧ cnF F n = 0) ∨ ∃ k : Nat, k < n ∧ F k = true ∧ fsF F n = (k : Int) ∧ cnF F k = 0 ∧ 0 < cnF F n
  | 0 => Or.inl ⟨rfl, rfl⟩
  | n + 1 => by
    have ec : cnF F (n + 1) = if F n = true then cnF F n + 1 else cnF F n := rfl
    have ef : fsF F (n + 1) = if fsF F n = -1 then (if F n = true then (n : Int) else -1) else fsF F n := rfl
    rw [ec, ef]
    rcases fsF_0 (F := F) n with ⟨z1, z2⟩ | ⟨k, k1, k2, k3, k4, k5⟩
    · rw [if_pos z1]
      by_cases hF : F n = true
      · rw [if_pos hF, if_pos hF]
        exact Or.inr ⟨n, Nat.lt_succ_self n, hF, rfl, z2, by omega⟩
      · rw [if_neg hF, if_neg hF]
        exact Or.inl ⟨rfl, z2⟩
    · rw [if_neg (by omega)]
      refine Or.inr ⟨k, by omega, k2, k3, k4, ?_⟩
      split <;> omega
/-- the class's tape as the reference has it -/
theorem tap_un (t : Tap I) {L : Nat} (hL : L ≤ 400) (hv : SvT (I 289) L = true) : L = 2 * (L / 2) ∧ SeT (I 2) (L / 2) ∧ ∀ p m, m ≤ L / 2 → okN (I 2) p m = okN (unS (I 289)) p m := by
  unfold SvT at hv
  rw [Bool.and_eq_true, Bool.and_eq_true, decide_eq_true_eq, decide_eq_true_eq, decide_eq_true_eq] at hv
  obtain ⟨t1, t2, t3⟩ := hv
  have tb := t.2.2.1
  refine ⟨by omega, ⟨by omega, fun k hk => ?_, fun k hk => ?_⟩, ?_⟩
  · have := tb k hk
    omega
  · have h1 := tb (2 * k) (by omega)
    have h2 := t3 k hk
    omega
  · intro p m
    induction m with
    | zero => exact fun _ => rfl
    | succ m ih =>
      intro hm
      unfold okN
      rw [ih (by omega)]
      unfold okS unS
      rw [(tb (2 * m) (by omega)).2, (tb (2 * m + 1) (by omega)).2]
theorem bad_by {z : Int} (h : -128 ≤ z ∧ z ≤ 127) (hn : ¬ (0 ≤ z ∧ z ≤ 99)) : 99 < z % 256 := by omega
theorem good_by {z : Int} (h : 0 ≤ z ∧ z ≤ 99) : ¬ 99 < z % 256 := by omega
/-- the class reads what was seen -/
theorem c_readsBad (s : Sh h) (t : Tap I) {L : Nat} (hL : I 1 1 = (L : Int)) (hv : SvT (I 289) L = false) : Cl sc (d + 5) mX9_reads [Vr (some 136), Vr (some 1)] (hI h I) = some (.inl (Vi 0), hI h (am_u2 I 1 1 0)) := by
  have hl400 : L ≤ 400 := by
    have := t.1
    have := t.2.1
    omega
  have use : Cl sc (d + 4) mX10_useUp [Vr (some 1)] (hI h I) = some (.inl (Vi (L : Int)), hI h (am_u2 I 1 1 0)) := by
    rw [q_X10_useUp_0]
    simp (disch := first | assumption | exact Int.natCast_nonneg _ | decide) only [↓BT s, hL, e_clI, e_clV, e_clP, e_clIx, e_clVx, e_clPx, e_xt, Int.toNat_natCast, Int.reduceToNat, bz0, bz1, Nat.add_zero, decide_eq_false_iff_not, decide_eq_true_eq, Int.reduceEq, Nat.reduceEqDiff, Int.reduceLT, Int.reduceLE, not_true_eq_false, not_false_eq_true, eq_self, ↓reduceIte]
  have n2 : ¬ (2 : Int) = 0 := by decide
  by_cases h40 : 40 < L
  · have l1 : 40 < (L : Int) := by omega
    rw [q_X9_reads_0]
    simp (disch := first | assumption | exact Int.natCast_nonneg _ | decide) only [↓BT s, use, l1, e_clI, e_clV, e_clP, e_clIx, e_clVx, e_clPx, e_xt, Int.toNat_natCast, Int.reduceToNat, bz0, bz1, Nat.add_zero, decide_eq_false_iff_not, decide_eq_true_eq, Int.reduceEq, Nat.reduceEqDiff, Int.reduceLT, Int.reduceLE, not_true_eq_false, not_false_eq_true, eq_self, ↓reduceIte]
  · have l1 : ¬ 40 < (L : Int) := by omega
    by_cases h2 : L % 2 = 0
    · have l2 : ((L : Int)).tmod 2 = 0 := by rw [tm_e (by omega)]; omega
      unfold SvT at hv
      rw [decide_eq_true h2, decide_eq_true (show L ≤ 40 by omega), Bool.true_and, Bool.true_and] at hv
      have hv := of_decide_eq_false hv
      have go : ∀ r m, m + r = L / 2 → (∀ k, k < m → 0 ≤ I 289 (2 * k) ∧ I 289 (2 * k) ≤ 99) → Ru sc (d + 5) mX9_reads 15 [Vr (some 136), Vr (some 1), Vi (L : Int), Vi ((2 * m : Nat) : Int)] [] (hI h (am_u2 I 1 1 0)) = some (.inl (Vi 0), hI h (am_u2 I 1 1 0)) := by
        intro r
        induction r with
        | zero =>
          intro m hm ho
          exact absurd (fun k hk => ho k (by omega)) hv
        | succ r ih =>
          intro m hm ho
          have a1 : ((2 * m : Nat) : Int) < (L : Int) := by omega
          have a2 : ((2 * m : Nat) : Int) < 400 := by omega
          have tb := t.2.2.1 (2 * m) (by omega)
          have e2 : am_u2 I 1 1 0 2 (2 * m) = I 2 (2 * m) := u2_a (by decide)
          by_cases hb : 0 ≤ I 289 (2 * m) ∧ I 289 (2 * m) ≤ 99
          · have a3 : ¬ 99 < I 2 (2 * m) := by rw [tb.2]; exact good_by hb
            have ih2 := ih (m + 1) (by omega) (fun k hk => by
              by_cases e : k = m
              · rw [e]
                exact hb
              · exact ho k (by omega))
            obtain ⟨w1, w2, w3⟩ := ar_h5 (m := m) (by omega)
            rw [q_X9_reads_15]
            simp (disch := first | assumption | exact Int.natCast_nonneg _ | decide) only [↓BT s, a1, a2, e2, a3, w3, ih2, e_clI, e_clV, e_clP, e_clIx, e_clVx, e_clPx, e_xt, Int.toNat_natCast, Int.reduceToNat, bz0, bz1, Nat.add_zero, decide_eq_false_iff_not, decide_eq_true_eq, Int.reduceEq, Nat.reduceEqDiff, Int.reduceLT, Int.reduceLE, not_true_eq_false, not_false_eq_true, eq_self, ↓reduceIte]
          · have a3 : 99 < I 2 (2 * m) := by rw [tb.2]; exact bad_by tb.1 hb
            rw [q_X9_reads_15]
            simp (disch := first | assumption | exact Int.natCast_nonneg _ | decide) only [↓BT s, a1, a2, e2, a3, e_clI, e_clV, e_clP, e_clIx, e_clVx, e_clPx, e_xt, Int.toNat_natCast, Int.reduceToNat, bz0, bz1, Nat.add_zero, decide_eq_false_iff_not, decide_eq_true_eq, Int.reduceEq, Nat.reduceEqDiff, Int.reduceLT, Int.reduceLE, not_true_eq_false, not_false_eq_true, eq_self, ↓reduceIte]
      rw [q_X9_reads_0]
      simp (disch := first | assumption | exact Int.natCast_nonneg _ | decide) only [↓BT s, use, l1, n2, l2, e_clI, e_clV, e_clP, e_clIx, e_clVx, e_clPx, e_xt, Int.toNat_natCast, Int.reduceToNat, bz0, bz1, Nat.add_zero, decide_eq_false_iff_not, decide_eq_true_eq, Int.reduceEq, Nat.reduceEqDiff, Int.reduceLT, Int.reduceLE, not_true_eq_false, not_false_eq_true, eq_self, ↓reduceIte]
      exact go (L / 2) 0 (by omega) (fun k hk => absurd hk (Nat.not_lt_zero k))
    · have l2 : ¬ ((L : Int)).tmod 2 = 0 := by rw [tm_e (by omega)]; omega
      rw [q_X9_reads_0]
      simp (disch := first | assumption | exact Int.natCast_nonneg _ | decide) only [↓BT s, use, l1, n2, l2, e_clI, e_clV, e_clP, e_clIx, e_clVx, e_clPx, e_xt, Int.toNat_natCast, Int.reduceToNat, bz0, bz1, Nat.add_zero, decide_eq_false_iff_not, decide_eq_true_eq, Int.reduceEq, Nat.reduceEqDiff, Int.reduceLT, Int.reduceLE, not_true_eq_false, not_false_eq_true, eq_self, ↓reduceIte]
theorem c_readsGood (s : Sh h) (t : Tap I) {L : Nat} (hL : I 1 1 = (L : Int)) (hv : SvT (I 289) L = true) : ∃ K, ((∀ p j, ¬ (p = 1 ∧ j = 1) → p ≠ 137 → ¬ (p = 136 ∧ j = 2) → K p j = I p j) ∧ K 1 1 = 0 ∧ FtC (fun p => okN (unS (I 289)) p (L / 2)) 1000 K) ∧ Cl sc (d + 5) mX9_reads [Vr (some 136), Vr (some 1)] (hI h I) = some (.inl (Vi 1), hI h K) := by
  have hl400 : L ≤ 400 := by
    have := t.1
    have := t.2.1
    omega
  obtain ⟨u1, u2, u3⟩ := tap_un t hl400 hv
  have use : Cl sc (d + 4) mX10_useUp [Vr (some 1)] (hI h I) = some (.inl (Vi (L : Int)), hI h (am_u2 I 1 1 0)) := by
    rw [q_X10_useUp_0]
    simp (disch := first | assumption | exact Int.natCast_nonneg _ | decide) only [↓BT s, hL, e_clI, e_clV, e_clP, e_clIx, e_clVx, e_clPx, e_xt, Int.toNat_natCast, Int.reduceToNat, bz0, bz1, Nat.add_zero, decide_eq_false_iff_not, decide_eq_true_eq, Int.reduceEq, Nat.reduceEqDiff, Int.reduceLT, Int.reduceLE, not_true_eq_false, not_false_eq_true, eq_self, ↓reduceIte]
  have n2 : ¬ (2 : Int) = 0 := by decide
  have l1 : ¬ 40 < (L : Int) := by have := u2.1; omega
  have l2 : ((L : Int)).tmod 2 = 0 := by rw [tm_e (by omega)]; omega
  have go : ∀ m, m ≤ L / 2 → Ru sc (d + 5) mX9_reads 15 [Vr (some 136), Vr (some 1), Vi (L : Int), Vi 0] [] (hI h (am_u2 I 1 1 0)) = Ru sc (d + 5) mX9_reads 15 [Vr (some 136), Vr (some 1), Vi (L : Int), Vi ((2 * m : Nat) : Int)] [] (hI h (am_u2 I 1 1 0)) := by
    intro m
    induction m with
    | zero => exact fun _ => rfl
    | succ m ih =>
      intro hm
      rw [ih (by omega)]
      have a1 : ((2 * m : Nat) : Int) < (L : Int) := by omega
      have a2 : ((2 * m : Nat) : Int) < 400 := by omega
      have e2 : am_u2 I 1 1 0 2 (2 * m) = I 2 (2 * m) := u2_a (by decide)
      have a3 : ¬ 99 < I 2 (2 * m) := by
        have := u2.2.2 m hm
        omega
      obtain ⟨w1, w2, w3⟩ := ar_h5 (m := m) (by omega)
      rw [q_X9_reads_15]
      simp (disch := first | assumption | exact Int.natCast_nonneg _ | decide) only [↓BT s, a1, a2, e2, a3, w3, e_clI, e_clV, e_clP, e_clIx, e_clVx, e_clPx, e_xt, Int.toNat_natCast, Int.reduceToNat, bz0, bz1, Nat.add_zero, decide_eq_false_iff_not, decide_eq_true_eq, Int.reduceEq, Nat.reduceEqDiff, Int.reduceLT, Int.reduceLE, not_true_eq_false, not_false_eq_true, eq_self, ↓reduceIte]
  have e2 : am_u2 (am_u2 I 1 1 0) 136 2 0 2 = I 2 := by rw [u2_o (by decide), u2_o (by decide)]
  obtain ⟨K, ⟨k1, k2⟩, k3⟩ := c_fitLoop (sc := sc) (d := d + 1) (I := am_u2 (am_u2 I 1 1 0) 136 2 0) (M := L / 2) s (by rw [e2]; exact u2) u2_same
  rw [e2] at k2
  have eF : (fun p => okN (I 2) p (L / 2)) = (fun p => okN (unS (I 289)) p (L / 2)) := funext fun p => u3 p (L / 2) (Nat.le_refl _)
  rw [eF] at k2
  rw [← u1] at k3
  refine ⟨K, ⟨fun p j h1 h2 h3 => ?_, ?_, k2⟩, ?_⟩
  · rw [k1 p j h2 h3]
    unfold am_u2
    rw [if_neg h3, if_neg h1]
  · rw [k1 1 1 (by decide) (by decide), u2_o (by decide)]
    exact u2_same
  · have l3 : ¬ ((2 * (L / 2) : Nat) : Int) < (L : Int) := by omega
    rw [q_X9_reads_0]
    simp (disch := first | assumption | exact Int.natCast_nonneg _ | decide) only [↓BT s, use, l1, n2, l2, e_clI, e_clV, e_clP, e_clIx, e_clVx, e_clPx, e_xt, Int.toNat_natCast, Int.reduceToNat, bz0, bz1, Nat.add_zero, decide_eq_false_iff_not, decide_eq_true_eq, Int.reduceEq, Nat.reduceEqDiff, Int.reduceLT, Int.reduceLE, not_true_eq_false, not_false_eq_true, eq_self, ↓reduceIte]
    rw [go (L / 2) (Nat.le_refl _), q_X9_reads_15]
    simp (disch := first | assumption | exact Int.natCast_nonneg _ | decide) only [↓BS s, l3, e_clI, e_clV, e_clP, e_clIx, e_clVx, e_clPx, e_xt, Int.toNat_natCast, Int.reduceToNat, bz0, bz1, Nat.add_zero, decide_eq_false_iff_not, decide_eq_true_eq, Int.reduceEq, Nat.reduceEqDiff, Int.reduceLT, Int.reduceLE, not_true_eq_false, not_false_eq_true, eq_self, ↓reduceIte]
    exact k3
theorem Rel.ex (r : Rel h I) : Rel (am_ex h) I := r.q (QQ.ex (Same.rf I))
theorem pubX {C M : am_H → am_R} {cd : Nat → Int} {e : Nat} (he : e ≠ 0) (r : Rel h I) (c : C (hI h I) = some (.inr e, hI (am_ex h) J1)) (m : ∀ o, ∃ J2, M (hI (am_ex h) (am_u2 J1 303 0 o)) = some (.inl (Vi 0), hI (am_ex h) J2) ∧ (∀ p j, ¬ tpk p j → ¬ scr p j → J2 p j = I p j) ∧ Tap J2 ∧ J2 283 0 = cd e) : Pub h I C M cd := by
  refine ⟨e, 0, 0, am_ex h, J1, by unfold out; rw [if_neg he]; exact c, r.ex.1, fun z => absurd z he, fun o => ?_⟩
  obtain ⟨J2, m1, m2, m3, m4⟩ := m o
  exact ⟨am_ex h, J2, m1, r.ex.tap m2 m3, m4, Bd.ex h⟩
/-- the reference uses its tape up -/
def usW (J : am_I) (L : Nat) : am_I := am_u2 (am_u2 (am_u2 (am_u2 J 283 0 0) 283 11 (L : Int)) 283 9 0) 283 10 0
theorem m_uses (s : Sh h) {L : Nat} (e9 : J 283 9 = (L : Int)) : Cl sc (d + 1) mX12_uses [Vr (some 283)] (hI h J) = some (.inl (Vx 0), hI h (usW J L)) := by
  have e91 : am_u2 J 283 0 0 283 9 = (L : Int) := by rw [u2_j (by decide)]; exact e9
  rw [q_X12_uses_0]
  simp (disch := first | assumption | exact Int.natCast_nonneg _ | decide) only [↓BM s, e91, e_clI, e_clV, e_clP, e_clIx, e_clVx, e_clPx, e_xt, Int.toNat_natCast, Int.reduceToNat, bz0, bz1, Nat.add_zero, decide_eq_false_iff_not, decide_eq_true_eq, Int.reduceEq, Nat.reduceEqDiff, Int.reduceLT, Int.reduceLE, not_true_eq_false, not_false_eq_true, eq_self, ↓reduceIte]
  rfl
theorem usW_f {L : Nat} : (∀ p, p ≠ 283 → usW J L p = J p) ∧ usW J L 283 0 = 0 ∧ usW J L 283 11 = (L : Int) ∧ usW J L 283 9 = 0 ∧ usW J L 283 10 = 0 ∧ ∀ j, j ≠ 0 → j ≠ 9 → j ≠ 10 → j ≠ 11 → usW J L 283 j = J 283 j := by
  unfold usW
  refine ⟨fun p hp => by rw [u2_o hp, u2_o hp, u2_o hp, u2_o hp], ?_, ?_, ?_, u2_same, fun j h0 h1 h2 h3 => by rw [u2_j h2, u2_j h1, u2_j h3, u2_j h0]⟩
  · rw [u2_j (by decide), u2_j (by decide), u2_j (by decide)]
    exact u2_same
  · rw [u2_j (by decide), u2_j (by decide)]
    exact u2_same
  · rw [u2_j (by decide)]
    exact u2_same
/-- both tapes used up -/
theorem used_up (r : Rel h I) {L : Nat} (k1 : K 1 1 = 0) (k : ∀ p j, ¬ (p = 1 ∧ j = 1) → ¬ scr p j → K p j = I p j) {Q : am_I} (q : ∀ p j, ¬ scr p j → Q p j = usW K L p j) : (∀ p j, ¬ tpk p j → ¬ scr p j → Q p j = I p j) ∧ Tap Q := by
  have t := r.2.2.2.2.1
  obtain ⟨u1, u2, u3, u4, u5, u6⟩ := usW_f (J := K) (L := L)
  refine ⟨fun p j hp hs => ?_, ?_, ?_, fun k9 hk => ?_, ?_⟩
  · rw [q p j hs]
    unfold tpk at hp
    by_cases e : p = 283
    · rw [e] at hp hs ⊢
      rw [u6 j (fun z => hs (by unfold scr; omega)) (by omega) (fun z => hs (by unfold scr; omega)) (fun z => hs (by unfold scr; omega))]
      exact k 283 j (by omega) hs
    · rw [u1 p e]
      exact k p j (by omega) hs
  · rw [q 1 1 (by unfold scr; omega), q 283 9 (by unfold scr; omega), u4, u1 1 (by decide)]
    exact k1
  · rw [q 283 9 (by unfold scr; omega), u4]
    decide
  · rw [q 289 k9 (by unfold scr; omega), q 2 k9 (by unfold scr; omega), u1 289 (by decide), u1 2 (by decide), k 289 k9 (by omega) (by unfold scr; omega), k 2 k9 (by omega) (by unfold scr; omega)]
    exact t.2.2.1 k9 hk
  · rw [q 1 2 (by unfold scr; omega), q 283 14 (by unfold scr; omega), u1 1 (by decide), u6 14 (by decide) (by decide) (by decide) (by decide), k 1 2 (by omega) (by unfold scr; omega), k 283 14 (by omega) (by unfold scr; omega)]
    exact t.2.2.2
theorem p_seen (r : Rel h I) {y : Int} : Pub h I (Cl sc (d + 30) mX11_seen [Vr (some 0), Vi y]) (Cl sc (d + 30) mX12_seen [Vr (some 283), Vi y]) cdA := by
  have t := r.2.2.2.2.1
  obtain ⟨L, hM⟩ : ∃ L : Nat, I 283 9 = L := ⟨(I 283 9).toNat, by have := t.2.1; omega⟩
  have hL : I 1 1 = (L : Int) := t.1.trans hM
  have hl400 : L ≤ 400 := by have := t.2.1; omega
  have ne1 : ¬ (1 : Int) = 0 := by decide
  cases hv : SvT (I 289) L
  · have cr := c_readsBad (sc := sc) (d := d + 24) r.1 t hL hv
    refine pubX (e := 1) (by decide) r (J1 := am_u2 I 1 1 0) ?_ (fun o => ?_)
    · rw [q_X11_seen_0]
      simp (disch := first | assumption | exact Int.natCast_nonneg _ | decide) only [↓BO r.1, ↓BS r.1, cr, e_clI, e_clV, e_clP, e_clIx, e_clVx, e_clPx, e_xt, Int.toNat_natCast, Int.reduceToNat, bz0, bz1, Nat.add_zero, decide_eq_false_iff_not, decide_eq_true_eq, Int.reduceEq, Nat.reduceEqDiff, Int.reduceLT, Int.reduceLE, not_true_eq_false, not_false_eq_true, eq_self, ↓reduceIte]
      rfl
    · have e9 : am_u2 (am_u2 I 1 1 0) 303 0 o 283 9 = (L : Int) := by rw [u2_o (by decide), u2_o (by decide)]; exact hM
      have mu := m_uses (sc := sc) (d := d + 28) (h := am_ex h) (J := am_u2 (am_u2 I 1 1 0) 303 0 o) r.ex.1 e9
      obtain ⟨u1, u2, u3, u4, u5, u6⟩ := usW_f (J := am_u2 (am_u2 I 1 1 0) 303 0 o) (L := L)
      have es : usW (am_u2 (am_u2 I 1 1 0) 303 0 o) L 289 = I 289 := by rw [u1 289 (by decide), u2_o (by decide), u2_o (by decide)]
      have mi := m_isSeen (sc := sc) (d := d + 27) (h := am_ex h) (J := usW (am_u2 (am_u2 I 1 1 0) 303 0 o) L) r.ex.1 hl400 u3
      rw [es, hv] at mi
      have z0 : bz false = 0 := rfl
      rw [z0] at mi
      obtain ⟨v1, v2⟩ := used_up (K := am_u2 (am_u2 I 1 1 0) 303 0 o) (L := L) (Q := am_u2 (usW (am_u2 (am_u2 I 1 1 0) 303 0 o) L) 283 0 1) r (by rw [u2_o (by decide)]; exact u2_same) (fun p j h1 h2 => by
        unfold am_u2
        rw [if_neg (fun e => h2 (by unfold scr; omega)), if_neg h1]) (fun p j h2 => by
        unfold am_u2
        rw [if_neg (fun e => h2 (by unfold scr; omega))])
      refine ⟨_, ?_, v1, v2, u2_same⟩
      rw [q_X12_seen_0]
      simp (disch := first | assumption | exact Int.natCast_nonneg _ | decide) only [↓BM r.ex.1, mu, mi, m_t1 r.ex.1, ne1, e_clI, e_clV, e_clP, e_clIx, e_clVx, e_clPx, e_xt, Int.toNat_natCast, Int.reduceToNat, bz0, bz1, Nat.add_zero, decide_eq_false_iff_not, decide_eq_true_eq, Int.reduceEq, Nat.reduceEqDiff, Int.reduceLT, Int.reduceLE, not_true_eq_false, not_false_eq_true, eq_self, ↓reduceIte]
  · obtain ⟨K, ⟨k1, k2, k3, k4⟩, k5⟩ := c_readsGood (sc := sc) (d := d + 24) r.1 t hL hv
    have kk : ∀ p j, ¬ (p = 1 ∧ j = 1) → ¬ scr p j → K p j = I p j := fun p j h1 h2 => k1 p j h1 (fun e => h2 (by unfold scr; omega)) (fun e => h2 (by unfold scr; omega))
    have c9 : Cl sc (d + 30) mX11_seen [Vr (some 0), Vi y] (hI h I) = some (.inl (Vi (if y = 0 then (cnF (fun p => okN (unS (I 289)) p (L / 2)) 1000 : Int) else fsF (fun p => okN (unS (I 289)) p (L / 2)) 1000)), hI h K) := by
      rw [q_X11_seen_0]
      by_cases hy : y = 0
      · rw [if_pos hy]
        simp (disch := first | assumption | exact Int.natCast_nonneg _ | decide) only [↓BO r.1, ↓BS r.1, k5, ne1, hy, k3, e_clI, e_clV, e_clP, e_clIx, e_clVx, e_clPx, e_xt, Int.toNat_natCast, Int.reduceToNat, bz0, bz1, Nat.add_zero, decide_eq_false_iff_not, decide_eq_true_eq, Int.reduceEq, Nat.reduceEqDiff, Int.reduceLT, Int.reduceLE, not_true_eq_false, not_false_eq_true, eq_self, ↓reduceIte]
      · rw [if_neg hy]
        have ff : Cl sc (d + 29) mX9_firstFit [Vr (some 136)] (hI h K) = some (.inl (Vi (fsF (fun p => okN (unS (I 289)) p (L / 2)) 1000)), hI h K) := by
          rw [q_X9_firstFit_0]
          rcases fsF_0 (F := fun p => okN (unS (I 289)) p (L / 2)) 1000 with ⟨z1, z2⟩ | ⟨k, z1, z2, z3, z4, z5⟩
          · rw [z2] at k3
            have k3 : K 136 2 = 0 := k3
            rw [z1]
            simp (disch := first | assumption | exact Int.natCast_nonneg _ | decide) only [↓BS r.1, k3, e_clI, e_clV, e_clP, e_clIx, e_clVx, e_clPx, e_xt, Int.toNat_natCast, Int.reduceToNat, bz0, bz1, Nat.add_zero, decide_eq_false_iff_not, decide_eq_true_eq, Int.reduceEq, Nat.reduceEqDiff, Int.reduceLT, Int.reduceLE, not_true_eq_false, not_false_eq_true, eq_self, ↓reduceIte]
          · have l1 : ¬ (cnF (fun p => okN (unS (I 289)) p (L / 2)) 1000 : Int) = 0 := by omega
            have e := k4 k z1 z2
            rw [z4] at e
            have z0 : (0 : Int) ≤ 0 := by decide
            have z1000 : (0 : Int) < 1000 := by decide
            rw [z3]
            simp (disch := first | assumption | exact Int.natCast_nonneg _ | decide) only [↓BS r.1, k3, l1, z0, z1000, e, e_clI, e_clV, e_clP, e_clIx, e_clVx, e_clPx, e_xt, Int.toNat_natCast, Int.reduceToNat, bz0, bz1, Nat.add_zero, decide_eq_false_iff_not, decide_eq_true_eq, Int.reduceEq, Nat.reduceEqDiff, Int.reduceLT, Int.reduceLE, not_true_eq_false, not_false_eq_true, eq_self, ↓reduceIte]
        simp (disch := first | assumption | exact Int.natCast_nonneg _ | decide) only [↓BO r.1, ↓BS r.1, k5, ne1, hy, ff, e_clI, e_clV, e_clP, e_clIx, e_clVx, e_clPx, e_xt, Int.toNat_natCast, Int.reduceToNat, bz0, bz1, Nat.add_zero, decide_eq_false_iff_not, decide_eq_true_eq, Int.reduceEq, Nat.reduceEqDiff, Int.reduceLT, Int.reduceLE, not_true_eq_false, not_false_eq_true, eq_self, ↓reduceIte]
    refine pubT rfl r (x := if y = 0 then (cnF (fun p => okN (unS (I 289)) p (L / 2)) 1000 : Int) else fsF (fun p => okN (unS (I 289)) p (L / 2)) 1000) (J1 := K) c9 (fun o => ?_)
    have e9 : am_u2 K 303 0 o 283 9 = (L : Int) := by rw [u2_o (by decide), kk 283 9 (by decide) (by unfold scr; omega)]; exact hM
    have mu := m_uses (sc := sc) (d := d + 28) (h := h) (J := am_u2 K 303 0 o) r.1 e9
    obtain ⟨u1, u2, u3, u4, u5, u6⟩ := usW_f (J := am_u2 K 303 0 o) (L := L)
    have es : usW (am_u2 K 303 0 o) L 289 = I 289 := by
      rw [u1 289 (by decide), u2_o (by decide)]
      exact funext fun j => kk 289 j (by omega) (by unfold scr; omega)
    have mi := m_isSeen (sc := sc) (d := d + 27) (h := h) (J := usW (am_u2 K 303 0 o) L) r.1 hl400 u3
    rw [es, hv] at mi
    have z1 : bz true = 1 := rfl
    rw [z1] at mi
    obtain ⟨g1, -, -⟩ := tap_un t hl400 hv
    have fit : ∀ p : Nat, p < 1000 → Cl sc (d + 29) mX12_fits [Vr (some 283), Vi (p : Int)] (hI h (usW (am_u2 K 303 0 o) L)) = some (.inl (Vi (bz (okN (unS (I 289)) p (L / 2)))), hI h (usW (am_u2 K 303 0 o) L)) := fun p hp => by
      have := m_fits (sc := sc) (d := d + 26) (h := h) (J := usW (am_u2 K 303 0 o) L) (M := L / 2) r.1 hp (by rw [u3, ← g1]) (fun k hk => by rw [es]; exact (t.2.2.1 k hk).1) (by rw [es, ← g1]; exact hv)
      rw [es] at this
      exact this
    have lp := m_seenLoop (sc := sc) (d := d + 26) (h := h) (J := usW (am_u2 K 303 0 o) L) (F := fun p => okN (unS (I 289)) p (L / 2)) (i1 := y) r.1 fit
    obtain ⟨v1, v2⟩ := used_up (K := am_u2 K 303 0 o) (L := L) (Q := usW (am_u2 K 303 0 o) L) r (by rw [u2_o (by decide)]; exact k2) (fun p j h1 h2 => by
      rw [u2_a (fun e => h2 (by unfold scr; omega))]
      exact kk p j h1 h2) (fun p j h2 => rfl)
    refine ⟨_, ?_, v1, v2, u2⟩
    rw [q_X12_seen_0]
    simp (disch := first | assumption | exact Int.natCast_nonneg _ | decide) only [↓BM r.1, mu, mi, m_t0 r.1, ne1, e_clI, e_clV, e_clP, e_clIx, e_clVx, e_clPx, e_xt, Int.toNat_natCast, Int.reduceToNat, bz0, bz1, Nat.add_zero, decide_eq_false_iff_not, decide_eq_true_eq, Int.reduceEq, Nat.reduceEqDiff, Int.reduceLT, Int.reduceLE, not_true_eq_false, not_false_eq_true, eq_self, ↓reduceIte]
    exact lp
end
