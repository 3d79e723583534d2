/-! WHAT WAS SEEN: the reference -/
/-- what the tape is, by both -/
def SvT (B : Nat → Int) (L : Nat) : Bool := decide (L % 2 = 0) && (decide (L ≤ 40) && decide (∀ k, k < L / 2 → 0 ≤ B (2 * k) ∧ B (2 * k) ≤ 99))
theorem bAnd255 (z : Int) : bAnd z 255 = ((Int32.ofInt z).toBitVec.toNat % 256 : Nat) := by
  unfold bAnd
  rw [show Int32.ofInt 255 = 255 from rfl, by_and]
theorem and_by {z : Int} (h : -128 ≤ z ∧ z ≤ 127) : bAnd z 255 = z % 256 := by
  have e : ∀ n : Nat, n < 256 → bAnd ((n : Int) - 128) 255 = ((n : Int) - 128) % 256 := by decide +kernel
  have := e (z + 128).toNat (by omega)
  rwa [show (((z + 128).toNat : Nat) : Int) - 128 = z by omega] at this
section
variable {sc : Nat × (Nat → Int)} {d a b n f : Nat} {h h1 h2 : am_H} {I J J1 J2 K : am_I} {w v : am_Wd}
theorem m_isSeen (s : Sh h) {L : Nat} (hL : L ≤ 400) (e11 : J 283 11 = (L : Int)) : Cl sc (d + 2) mX12_isSeen [Vr (some 283)] (hI h J) = some (.inl (Vi (bz (SvT (J 289) L))), hI h J) := by
  have n2 : ¬ (2 : Int) = 0 := by decide
  have r0 : ∀ (h : am_H), am_ret 1 0 h = some (.inl (Vi 0), h) := fun h => e_ret1 (Or.inl rfl)
  have r1 : ∀ (h : am_H), am_ret 1 1 h = some (.inl (Vi 1), h) := fun h => e_ret1 (Or.inr rfl)
  have bad : ∀ i : Int, Ru sc (d + 2) mX12_isSeen 16 [Vr (some 283), Vi 0, Vi i] [] (hI h J) = some (.inl (Vi 0), hI h J) := by
    intro i
    rw [q_X12_isSeen_16]
    by_cases hi : i < (L : Int)
    · simp (disch := first | assumption | exact Int.natCast_nonneg _ | decide) only [↓BM s, e11, hi, r0, e_clI, e_clV, e_clP, e_clIx, e_clVx, e_clPx, e_xt, Int.toNat_natCast, Int.reduceToNat, bz0, bz1, Nat.add_zero, decide_eq_false_iff_not, decide_eq_true_eq, Int.reduceEq, Nat.reduceEqDiff, Int.reduceLT, Int.reduceLE, not_true_eq_false, not_false_eq_true, eq_self, ↓reduceIte]
    · simp (disch := first | assumption | exact Int.natCast_nonneg _ | decide) only [↓BM s, e11, hi, r0, e_clI, e_clV, e_clP, e_clIx, e_clVx, e_clPx, e_xt, Int.toNat_natCast, Int.reduceToNat, bz0, bz1, Nat.add_zero, decide_eq_false_iff_not, decide_eq_true_eq, Int.reduceEq, Nat.reduceEqDiff, Int.reduceLT, Int.reduceLE, not_true_eq_false, not_false_eq_true, eq_self, ↓reduceIte]
  by_cases h2 : L % 2 = 0
  · obtain ⟨M, rfl⟩ : ∃ M, L = 2 * M := ⟨L / 2, by omega⟩
    have l2 : (((2 * M : Nat) : Int)).tmod 2 = 0 := by rw [tm_e (by omega)]; omega
    by_cases h40 : 2 * M ≤ 40
    · have l3 : ¬ 40 < ((2 * M : Nat) : Int) := by omega
      have go : ∀ r m, m + r = M → (∀ k, k < m → 0 ≤ J 289 (2 * k) ∧ J 289 (2 * k) ≤ 99) → Ru sc (d + 2) mX12_isSeen 16 [Vr (some 283), Vi 1, Vi ((2 * m : Nat) : Int)] [] (hI h J) = some (.inl (Vi (bz (SvT (J 289) (2 * M)))), hI h J) := by
        intro r
        induction r with
        | zero =>
          intro m hm ho
          have e : m = M := by omega
          subst e
          have l1 : ¬ ((2 * m : Nat) : Int) < ((2 * m : Nat) : Int) := by omega
          have e1 : SvT (J 289) (2 * m) = true := by
            unfold SvT
            rw [decide_eq_true (by omega), decide_eq_true h40, decide_eq_true (fun k hk => ho k (by omega))]
            rfl
          rw [q_X12_isSeen_16, e1]
          simp (disch := first | assumption | exact Int.natCast_nonneg _ | decide) only [↓BM s, e11, l1, r1, e_clI, e_clV, e_clP, e_clIx, e_clVx, e_clPx, e_xt, Int.toNat_natCast, Int.reduceToNat, bz0, bz1, Nat.add_zero, decide_eq_false_iff_not, decide_eq_true_eq, Int.reduceEq, Nat.reduceEqDiff, Int.reduceLT, Int.reduceLE, not_true_eq_false, not_false_eq_true, eq_self, ↓reduceIte]
          rfl
        | succ r ih =>
          intro m hm ho
          have hmM : m < M := by omega
          have l1 : ((2 * m : Nat) : Int) < ((2 * M : Nat) : Int) := by omega
          have l4 : ((2 * m : Nat) : Int) < 400 := by omega
          have ne1 : ¬ (1 : Int) = 0 := by decide
          by_cases hb : 0 ≤ J 289 (2 * m) ∧ J 289 (2 * m) ≤ 99
          · have hin : Cl sc (d + 1) mX12_in [Vi (J 289 (2 * m)), Vi 0, Vi 99] (hI h J) = some (.inl (Vi 1), hI h J) := by
              rw [c_in, decide_eq_true hb]
              rfl
            have ih2 := ih (m + 1) (by omega) (fun k hk => by
              by_cases e : k = m
              · rw [e]
                exact hb
              · exact ho k (by omega))
            obtain ⟨w1, w2, w3⟩ := ar_h5 (m := m) (by omega)
            rw [q_X12_isSeen_16]
            simp (disch := first | assumption | exact Int.natCast_nonneg _ | decide) only [↓BM s, e11, l1, l4, ne1, hin, w3, ih2, e_clI, e_clV, e_clP, e_clIx, e_clVx, e_clPx, e_xt, Int.toNat_natCast, Int.reduceToNat, bz0, bz1, Nat.add_zero, decide_eq_false_iff_not, decide_eq_true_eq, Int.reduceEq, Nat.reduceEqDiff, Int.reduceLT, Int.reduceLE, not_true_eq_false, not_false_eq_true, eq_self, ↓reduceIte]
          · have hin : Cl sc (d + 1) mX12_in [Vi (J 289 (2 * m)), Vi 0, Vi 99] (hI h J) = some (.inl (Vi 0), hI h J) := by
              rw [c_in, decide_eq_false hb]
              rfl
            have e1 : SvT (J 289) (2 * M) = false := by
              unfold SvT
              rw [decide_eq_false (p := ∀ k, k < 2 * M / 2 → 0 ≤ J 289 (2 * k) ∧ J 289 (2 * k) ≤ 99) (fun z => hb (z m (by omega))), Bool.and_false, Bool.and_false]
            rw [q_X12_isSeen_16, e1]
            simp (disch := first | assumption | exact Int.natCast_nonneg _ | decide) only [↓BM s, e11, l1, l4, ne1, hin, bad, e_clI, e_clV, e_clP, e_clIx, e_clVx, e_clPx, e_xt, Int.toNat_natCast, Int.reduceToNat, bz0, bz1, Nat.add_zero, decide_eq_false_iff_not, decide_eq_true_eq, Int.reduceEq, Nat.reduceEqDiff, Int.reduceLT, Int.reduceLE, not_true_eq_false, not_false_eq_true, eq_self, ↓reduceIte]
            rfl
      rw [q_X12_isSeen_0]
      simp (disch := first | assumption | exact Int.natCast_nonneg _ | decide) only [↓BM s, e11, n2, l2, l3, e_clI, e_clV, e_clP, e_clIx, e_clVx, e_clPx, e_xt, Int.toNat_natCast, Int.reduceToNat, bz0, bz1, Nat.add_zero, decide_eq_false_iff_not, decide_eq_true_eq, Int.reduceEq, Nat.reduceEqDiff, Int.reduceLT, Int.reduceLE, not_true_eq_false, not_false_eq_true, eq_self, ↓reduceIte]
      exact go M 0 (by omega) (fun k hk => absurd hk (Nat.not_lt_zero k))
    · have l3 : 40 < ((2 * M : Nat) : Int) := by omega
      have e1 : SvT (J 289) (2 * M) = false := by
        unfold SvT
        rw [decide_eq_false h40, Bool.false_and, Bool.and_false]
      rw [q_X12_isSeen_0, e1]
      simp (disch := first | assumption | exact Int.natCast_nonneg _ | decide) only [↓BM s, e11, n2, l2, l3, bad, e_clI, e_clV, e_clP, e_clIx, e_clVx, e_clPx, e_xt, Int.toNat_natCast, Int.reduceToNat, bz0, bz1, Nat.add_zero, decide_eq_false_iff_not, decide_eq_true_eq, Int.reduceEq, Nat.reduceEqDiff, Int.reduceLT, Int.reduceLE, not_true_eq_false, not_false_eq_true, eq_self, ↓reduceIte]
      rfl
  · have l2 : ¬ ((L : Int)).tmod 2 = 0 := by rw [tm_e (by omega)]; omega
    have e1 : SvT (J 289) L = false := by
      unfold SvT
      rw [decide_eq_false h2, Bool.false_and]
    rw [q_X12_isSeen_0, e1]
    simp (disch := first | assumption | exact Int.natCast_nonneg _ | decide) only [↓BM s, e11, n2, l2, bad, e_clI, e_clV, e_clP, e_clIx, e_clVx, e_clPx, e_xt, Int.toNat_natCast, Int.reduceToNat, bz0, bz1, Nat.add_zero, decide_eq_false_iff_not, decide_eq_true_eq, Int.reduceEq, Nat.reduceEqDiff, Int.reduceLT, Int.reduceLE, not_true_eq_false, not_false_eq_true, eq_self, ↓reduceIte]
    rfl
/-- the class's tape of the reference's -/
def unS (B : Nat → Int) : Nat → Int := fun j => B j % 256
theorem m_fits (s : Sh h) {M p : Nat} (hp : p < 1000) (e11 : J 283 11 = ((2 * M : Nat) : Int)) (hB : ∀ k, k < 400 → -128 ≤ J 289 k ∧ J 289 k ≤ 127) (t : SvT (J 289) (2 * M) = true) : Cl sc (d + 3) mX12_fits [Vr (some 283), Vi (p : Int)] (hI h J) = some (.inl (Vi (bz (okN (unS (J 289)) p M))), hI h J) := by
  unfold SvT at t
  rw [Bool.and_eq_true, Bool.and_eq_true, decide_eq_true_eq, decide_eq_true_eq, decide_eq_true_eq] at t
  obtain ⟨t1, t2, t3⟩ := t
  have r0 : ∀ (b : Bool) (h : am_H), am_ret 1 (bz b) h = some (.inl (Vi (bz b)), h) := fun b h => e_ret1 (bz01 b)
  have go : ∀ m, m ≤ M → Ru sc (d + 3) mX12_fits 5 [Vr (some 283), Vi (p : Int), Vi 1, Vi 0] [] (hI h J) = Ru sc (d + 3) mX12_fits 5 [Vr (some 283), Vi (p : Int), Vi (bz (okN (unS (J 289)) p m)), Vi ((2 * m : Nat) : Int)] [] (hI h J) := by
    intro m
    induction m with
    | zero => exact fun _ => rfl
    | succ m ih =>
      intro hm
      rw [ih (by omega)]
      have l1 : ((2 * m : Nat) : Int) < ((2 * M : Nat) : Int) := by omega
      have l2 : ((2 * m : Nat) : Int) < 400 := by omega
      have l3 : ((2 * m + 1 : Nat) : Int) < 400 := by omega
      have b0 := hB (2 * m) (by omega)
      have b1 := hB (2 * m + 1) (by omega)
      have y0 := t3 m (by omega)
      have ey : J 289 (2 * m) = ((unS (J 289) (2 * m)).toNat : Int) ∧ (unS (J 289) (2 * m)).toNat ≤ 99 := by
        unfold unS
        omega
      have a1 := and_by b1
      have u0 : 0 ≤ unS (J 289) (2 * m + 1) ∧ unS (J 289) (2 * m + 1) ≤ 255 := by
        unfold unS
        omega
      have hh := hiN_b (p := p) ey.2
      have hh0 : 0 ≤ (hiN p (unS (J 289) (2 * m)).toNat : Int) ∧ (hiN p (unS (J 289) (2 * m)).toNat : Int) ≤ 891 := by clear a1; omega
      have hi := m_high12 (sc := sc) (d := d) (h := hI h J) hp ey.2
      rw [← ey.1] at hi
      have a2 : bAnd (J 289 (2 * m + 1)) 255 = unS (J 289) (2 * m + 1) := a1
      have ab := c_abs (sc := sc) (d := d + 1) (h := hI h J) (z := (hiN p (unS (J 289) (2 * m)).toNat : Int) - unS (J 289) (2 * m + 1)) (by clear a1 a2; omega) (by clear a1 a2; omega)
      have ek : okN (unS (J 289)) p (m + 1) = (okN (unS (J 289)) p m && okS (unS (J 289)) p m) := rfl
      have z0 : bz false = 0 := rfl
      have z1 : bz true = 1 := rfl
      have ne1 : ¬ (1 : Int) = 0 := by decide
      rw [ek]
      cases ho : okN (unS (J 289)) p m
      · rw [Bool.false_and]
        obtain ⟨w1, w2, w3⟩ := ar_h5 (m := m) (by clear a1 a2; omega)
        rw [q_X12_fits_5]
        simp (disch := first | assumption | exact Int.natCast_nonneg _ | decide) only [↓BM s, e11, l1, z0, w3, e_clI, e_clV, e_clP, e_clIx, e_clVx, e_clPx, e_xt, Int.toNat_natCast, Int.reduceToNat, bz0, bz1, Nat.add_zero, decide_eq_false_iff_not, decide_eq_true_eq, Int.reduceEq, Nat.reduceEqDiff, Int.reduceLT, Int.reduceLE, not_true_eq_false, not_false_eq_true, eq_self, ↓reduceIte]
      · rw [Bool.true_and]
        cases hok : okS (unS (J 289)) p m
        · have l4 : 1 < ((((hiN p (unS (J 289) (2 * m)).toNat : Int) - unS (J 289) (2 * m + 1)).natAbs : Nat) : Int) := by
            have := of_decide_eq_false hok
            clear a1 a2
            omega
          obtain ⟨w1, w2, w3⟩ := ar_h5 (m := m) (by clear a1 a2; omega)
          rw [q_X12_fits_5]
          simp (disch := first | assumption | exact Int.natCast_nonneg _ | decide) only [↓BM s, e11, l1, z0, z1, ne1, l2, hi, w2, l3, a2, ar_h4 hh0 u0, ab, l4, w3, e_clI, e_clV, e_clP, e_clIx, e_clVx, e_clPx, e_xt, Int.toNat_natCast, Int.reduceToNat, bz0, bz1, Nat.add_zero, decide_eq_false_iff_not, decide_eq_true_eq, Int.reduceEq, Nat.reduceEqDiff, Int.reduceLT, Int.reduceLE, not_true_eq_false, not_false_eq_true, eq_self, ↓reduceIte]
        · have l4 : ¬ 1 < ((((hiN p (unS (J 289) (2 * m)).toNat : Int) - unS (J 289) (2 * m + 1)).natAbs : Nat) : Int) := by
            have := of_decide_eq_true hok
            clear a1 a2
            omega
          obtain ⟨w1, w2, w3⟩ := ar_h5 (m := m) (by clear a1 a2; omega)
          rw [q_X12_fits_5]
          simp (disch := first | assumption | exact Int.natCast_nonneg _ | decide) only [↓BM s, e11, l1, z0, z1, ne1, l2, hi, w2, l3, a2, ar_h4 hh0 u0, ab, l4, w3, e_clI, e_clV, e_clP, e_clIx, e_clVx, e_clPx, e_xt, Int.toNat_natCast, Int.reduceToNat, bz0, bz1, Nat.add_zero, decide_eq_false_iff_not, decide_eq_true_eq, Int.reduceEq, Nat.reduceEqDiff, Int.reduceLT, Int.reduceLE, not_true_eq_false, not_false_eq_true, eq_self, ↓reduceIte]
  have l9 : ¬ ((2 * M : Nat) : Int) < ((2 * M : Nat) : Int) := by omega
  rw [q_X12_fits_0, go M (Nat.le_refl _), q_X12_fits_5]
  simp (disch := first | assumption | exact Int.natCast_nonneg _ | decide) only [↓BM s, e11, l9, r0, e_clI, e_clV, e_clP, e_clIx, e_clVx, e_clPx, e_xt, Int.toNat_natCast, Int.reduceToNat, bz0, bz1, Nat.add_zero, decide_eq_false_iff_not, decide_eq_true_eq, Int.reduceEq, Nat.reduceEqDiff, Int.reduceLT, Int.reduceLE, not_true_eq_false, not_false_eq_true, eq_self, ↓reduceIte]
/-- from the last pair down -/
theorem m_seenLoop (s : Sh h) {F : Nat → Bool} {i1 : Int} (hF : ∀ p : Nat, p < 1000 → Cl sc (d + 3) mX12_fits [Vr (some 283), Vi (p : Int)] (hI h J) = some (.inl (Vi (bz (F p))), hI h J)) : Ru sc (d + 4) mX12_seen 21 [Vr (some 283), Vi i1, Vi 0, Vi (-1), Vi 999] [] (hI h J) = some (.inl (Vi (if i1 = 0 then (cnF F 1000 : Int) else fsF F 1000)), hI h J) := by
  have go : ∀ r, r ≤ 1000 → ∃ c : Nat, ∃ q : Int, (c + cnF F (1000 - r) = cnF F 1000 ∧ fsF F 1000 = (if fsF F (1000 - r) = -1 then q else fsF F (1000 - r))) ∧ Ru sc (d + 4) mX12_seen 21 [Vr (some 283), Vi i1, Vi 0, Vi (-1), Vi 999] [] (hI h J) = Ru sc (d + 4) mX12_seen 21 [Vr (some 283), Vi i1, Vi (c : Int), Vi q, Vi (999 - (r : Int))] [] (hI h J) := by
    intro r
    induction r with
    | zero =>
      intro _
      refine ⟨0, -1, ⟨Nat.zero_add _, ?_⟩, rfl⟩
      show fsF F 1000 = if fsF F 1000 = -1 then -1 else fsF F 1000
      split
      · assumption
      · rfl
    | succ r ih =>
      intro hr
      obtain ⟨c, q, ⟨c1, c2⟩, c3⟩ := ih (by omega)
      obtain ⟨p, hp⟩ : ∃ p, 1000 - r = p + 1 := ⟨999 - r, by omega⟩
      have hp2 : 1000 - (r + 1) = p := by omega
      have hpi : 999 - (r : Int) = (p : Int) := by omega
      have hpn : ((p : Nat) : Int) + -1 = 999 - ((r + 1 : Nat) : Int) := by omega
      rw [hp] at c1 c2
      rw [hp2]
      rw [hpi] at c3
      have l1 : ¬ (p : Int) < 0 := by omega
      have hf := hF p (by omega)
      have z0 : bz false = 0 := rfl
      have z1 : bz true = 1 := rfl
      have ne1 : ¬ (1 : Int) = 0 := by decide
      have ec : cnF F (p + 1) = if F p = true then cnF F p + 1 else cnF F p := rfl
      have ef : fsF F (p + 1) = if fsF F p = -1 then (if F p = true then (p : Int) else -1) else fsF F p := rfl
      have hcl := cnF_le (F := F) 1000
      have hcb : c < 1480 := by omega
      have wc := (ar_3 hcb).1
      have wp : w32 ((p : Int) + -1) = 999 - ((r + 1 : Nat) : Int) := by
        rw [hpn]
        clear wc
        exact w32_id (by omega) (by omega)
      clear hpn
      cases hFp : F p
      · rw [hFp] at hf ec ef
        rw [if_neg (by decide)] at ec
        rw [if_neg (show ¬ false = true by decide)] at ef
        refine ⟨c, q, ⟨by rw [← ec]; exact c1, ?_⟩, ?_⟩
        · rw [c2, ef]
          by_cases e : fsF F p = -1
          · rw [if_pos e, if_pos rfl, if_pos e]
          · rw [if_neg e, if_neg e]
        · rw [c3, q_X12_seen_21]
          simp (disch := first | assumption | exact Int.natCast_nonneg _ | decide) only [↓BM s, l1, hf, z0, wp, e_clI, e_clV, e_clP, e_clIx, e_clVx, e_clPx, e_xt, Int.toNat_natCast, Int.reduceToNat, bz0, bz1, Nat.add_zero, decide_eq_false_iff_not, decide_eq_true_eq, Int.reduceEq, Nat.reduceEqDiff, Int.reduceLT, Int.reduceLE, not_true_eq_false, not_false_eq_true, eq_self, ↓reduceIte]
      · rw [hFp] at hf ec ef
        rw [if_pos rfl] at ec
        rw [if_pos (show true = true from rfl)] at ef
        refine ⟨c + 1, (p : Int), ⟨by rw [← c1, ec]; clear wc wp; omega, ?_⟩, ?_⟩
        · rw [c2, ef]
          by_cases e : fsF F p = -1
          · rw [if_pos e, if_neg (by clear wc wp; omega)]
          · rw [if_neg e, if_neg e]
        · rw [c3, q_X12_seen_21]
          simp (disch := first | assumption | exact Int.natCast_nonneg _ | decide) only [↓BM s, l1, hf, z1, ne1, wc, wp, e_clI, e_clV, e_clP, e_clIx, e_clVx, e_clPx, e_xt, Int.toNat_natCast, Int.reduceToNat, bz0, bz1, Nat.add_zero, decide_eq_false_iff_not, decide_eq_true_eq, Int.reduceEq, Nat.reduceEqDiff, Int.reduceLT, Int.reduceLE, not_true_eq_false, not_false_eq_true, eq_self, ↓reduceIte]
  obtain ⟨c, q, ⟨c1, c2⟩, c3⟩ := go 1000 (Nat.le_refl _)
  have e0 : c = cnF F 1000 := c1
  have e1 : fsF F 1000 = q := c2
  have l1 : 999 - ((1000 : Nat) : Int) < 0 := by omega
  rw [c3, q_X12_seen_21, if_pos l1, e0, e1]
  by_cases h0 : i1 = 0
  · rw [if_pos h0, if_pos h0]
  · rw [if_neg h0, if_neg h0]
end
