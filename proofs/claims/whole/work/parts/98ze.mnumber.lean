/-! TEXTS: the reference's numbers -/
theorem rn_D {A : Nat → Int} {L q : Nat} (hq : q < L) (h1 : isL (A q) = false) (h2 : isD (A q) = true) : rn isD A (L - q) q = enT A L q := by
  obtain ⟨f, hf⟩ : ∃ f, L - q = f + 1 := ⟨L - q - 1, by omega⟩
  have hf2 : L - (q + 1) = f := by omega
  unfold enT
  rw [hf, hf2, if_neg (by rw [h1]; decide), if_pos h2]
  exact if_pos h2
theorem rn_nD {A : Nat → Int} {L q : Nat} (h : ¬ (q < L ∧ isD (A q) = true)) : rn isD A (L - q) q = q := by
  by_cases hq : q < L
  · obtain ⟨f, hf⟩ : ∃ f, L - q = f + 1 := ⟨L - q - 1, by omega⟩
    rw [hf]
    exact if_neg (fun z => h ⟨hq, z⟩)
  · rw [show L - q = 0 by omega]
    rfl
theorem isD_d {x : Int} {p L : Nat} : decide (p < L ∧ 48 ≤ x ∧ x ≤ 57) = (decide (p < L) && isD x) := by
  unfold isD
  rw [Bool.decide_and]
/-- what the digits come to -/
def vE (A : Nat → Int) (q e : Nat) : Int := nvT A q (min (e - q) 3)
def nuR (A : Nat → Int) (q e : Nat) (hi : Int) : Int := if e = q ∨ 3 < e - q ∨ hi < vE A q e then -1 else vE A q e
section
variable {sc : Nat × (Nat → Int)} {d : Nat} {h : am_H} {I J K : am_I} {B : Nat → Int} {L q : Nat}
theorem m_numLoop (s : Sh h) (t : TB B L) {hi : Int} (hq : q ≤ L) : ∀ f k (J : am_I), k + f = L → q ≤ k → (∀ i, q + i < k → isD (unS B (q + i)) = true) → MX B L J → J 283 10 = (k : Int) → J 283 12 = (q : Int) → ∃ K, (Fy J K ∧ K 283 10 = (rn isD (unS B) f k : Int) ∧ K 283 12 = (q : Int)) ∧ Ru sc (d + 2) mX12_number 5 [Vr (some 283), Vi 0, Vi hi, Vi (vE (unS B) q k)] [] (hI h J) = some (.inl (Vi (nuR (unS B) q (rn isD (unS B) f k) hi)), hI h K) := by
  have h400 := t.1
  have vb : ∀ k, (∀ i, q + i < k → isD (unS B (q + i)) = true) → 0 ≤ vE (unS B) q k ∧ vE (unS B) q k ≤ 999 := fun k hd => nv_b (by omega) (fun i hi => hd i (by omega))
  have stop : ∀ k (J : am_I), k ≤ L → q ≤ k → (∀ i, q + i < k → isD (unS B (q + i)) = true) → J 283 10 = (k : Int) → J 283 12 = (q : Int) → Cl sc (d + 1) mX12_isAt [Vr (some 283), Vi 48, Vi 57] (hI h J) = some (.inl (Vi 0), hI h J) → Ru sc (d + 2) mX12_number 5 [Vr (some 283), Vi 0, Vi hi, Vi (vE (unS B) q k)] [] (hI h J) = some (.inl (Vi (nuR (unS B) q k hi)), hI h J) := by
    intro k J hk hqk hd e10 e12 ia
    have v0 := (vb k hd).1
    unfold nuR
    generalize vE (unS B) q k = v at v0 ⊢
    by_cases c1 : k = q
    · have c1' : (k : Int) = (q : Int) := by omega
      rw [if_pos (Or.inl c1), q_X12_number_5]
      simp (disch := first | assumption | exact Int.natCast_nonneg _ | decide) only [↓BM s, ia, e_clI, e_clV, e_clP, e_clIx, e_clVx, e_clPx, e_xt, Int.toNat_natCast, Int.reduceToNat, bz0, bz1, Nat.add_zero, decide_eq_false_iff_not, decide_eq_true_eq, Int.reduceEq, Nat.reduceEqDiff, Int.reduceLT, Int.reduceLE, not_true_eq_false, not_false_eq_true, eq_self, ↓reduceIte]
      rw [e10, e12, if_pos c1']
    · have c1' : ¬ (k : Int) = (q : Int) := by omega
      by_cases c2 : 3 < k - q
      · have c2' : 3 < ((k - q : Nat) : Int) := by omega
        have w1 := ar_t2 (q := q) (e := k) hqk (by omega)
        rw [if_pos (Or.inr (Or.inl c2)), q_X12_number_5]
        simp (disch := first | assumption | exact Int.natCast_nonneg _ | decide) only [↓BM s, ia, e_clI, e_clV, e_clP, e_clIx, e_clVx, e_clPx, e_xt, Int.toNat_natCast, Int.reduceToNat, bz0, bz1, Nat.add_zero, decide_eq_false_iff_not, decide_eq_true_eq, Int.reduceEq, Nat.reduceEqDiff, Int.reduceLT, Int.reduceLE, not_true_eq_false, not_false_eq_true, eq_self, ↓reduceIte]
        rw [e10, e12, if_neg c1', w1, if_pos c2']
      · have c2' : ¬ 3 < ((k - q : Nat) : Int) := by omega
        have v0' : ¬ v < 0 := by omega
        by_cases c3 : hi < v
        · have w1 := ar_t2 (q := q) (e := k) hqk (by omega)
          rw [if_pos (Or.inr (Or.inr c3)), q_X12_number_5]
          simp (disch := first | assumption | exact Int.natCast_nonneg _ | decide) only [↓BM s, ia, e_clI, e_clV, e_clP, e_clIx, e_clVx, e_clPx, e_xt, Int.toNat_natCast, Int.reduceToNat, bz0, bz1, Nat.add_zero, decide_eq_false_iff_not, decide_eq_true_eq, Int.reduceEq, Nat.reduceEqDiff, Int.reduceLT, Int.reduceLE, not_true_eq_false, not_false_eq_true, eq_self, ↓reduceIte]
          rw [e10, e12, if_neg c1', w1, if_neg c2', if_neg v0', if_pos c3]
        · have w1 := ar_t2 (q := q) (e := k) hqk (by omega)
          rw [if_neg (by rintro (z | z | z) <;> contradiction), q_X12_number_5]
          simp (disch := first | assumption | exact Int.natCast_nonneg _ | decide) only [↓BM s, ia, e_clI, e_clV, e_clP, e_clIx, e_clVx, e_clPx, e_xt, Int.toNat_natCast, Int.reduceToNat, bz0, bz1, Nat.add_zero, decide_eq_false_iff_not, decide_eq_true_eq, Int.reduceEq, Nat.reduceEqDiff, Int.reduceLT, Int.reduceLE, not_true_eq_false, not_false_eq_true, eq_self, ↓reduceIte]
          rw [e10, e12, if_neg c1', w1, if_neg c2', if_neg v0', if_neg c3]
  intro f
  induction f with
  | zero =>
    intro k J h1 hqk hd kx e10 e12
    have ia := m_isAt (sc := sc) (d := d) s t kx e10 (by omega) (lo := 48) (hi := 57) (by decide) (by decide)
    rw [decide_eq_false (by omega)] at ia
    exact ⟨J, ⟨Fy.rf J, e10, e12⟩, stop k J (by omega) hqk hd e10 e12 ia⟩
  | succ f ih =>
    intro k J h1 hqk hd kx e10 e12
    have ia := m_isAt (sc := sc) (d := d) s t kx e10 (by omega) (lo := 48) (hi := 57) (by decide) (by decide)
    rw [isD_d, decide_eq_true (show k < L by omega), Bool.true_and] at ia
    have er : rn isD (unS B) (f + 1) k = if isD (unS B k) = true then rn isD (unS B) f (k + 1) else k := rfl
    rw [er]
    cases hl : isD (unS B k)
    · have z0 : bz false = 0 := rfl
      rw [hl, z0] at ia
      rw [if_neg (show ¬ false = true by decide)]
      exact ⟨J, ⟨Fy.rf J, e10, e12⟩, stop k J (by omega) hqk hd e10 e12 ia⟩
    · have z1 : bz true = 1 := rfl
      have ne1 : ¬ (1 : Int) = 0 := by decide
      rw [hl, z1] at ia
      rw [if_pos (show true = true from rfl)]
      have hd2 : ∀ i, q + i < k + 1 → isD (unS B (q + i)) = true := fun i hi => by
        by_cases e : q + i = k
        · rw [e]
          exact hl
        · exact hd i (by omega)
      obtain ⟨K, ⟨k1, k2, k3⟩, k4⟩ := ih (k + 1) (am_u2 J 283 10 ((k + 1 : Nat) : Int)) (by omega) (by omega) hd2 (kx.fy ((Fy.rf J).u (Or.inl rfl))) u2_same (by rw [u2_j (by decide)]; exact e12)
      refine ⟨K, ⟨((Fy.rf J).u (Or.inl rfl)).tr k1, k2, k3⟩, ?_⟩
      have hx := of_decide_eq_true hl
      have hb := t.2 k (by omega)
      have hB : B k = unS B k := by
        unfold unS at hx ⊢
        omega
      have hv := vb k hd
      have l2 : (k : Int) < 400 := by omega
      have e89 := kx.1
      by_cases c3 : k - q < 3
      · have c3' : ((k - q : Nat) : Int) < 3 := by omega
        have ev : vE (unS B) q (k + 1) = vE (unS B) q k * 10 + unS B k - 48 := by
          unfold vE
          rw [show min (k + 1 - q) 3 = (k - q) + 1 by omega, show min (k - q) 3 = k - q by omega]
          show nvT (unS B) q (k - q) * 10 + unS B (q + (k - q)) - 48 = _
          rw [show q + (k - q) = k by omega]
        rw [ev] at k4
        have w0 := ar_t2 (q := q) (e := k) hqk (by omega)
        have wn := ar_t1 (q := k) (by clear w0; omega)
        have wv := (ar_t4 hv hx).2
        rw [q_X12_number_5]
        simp (disch := first | assumption | exact Int.natCast_nonneg _ | decide) only [↓BM s, ia, ne1, e_clI, e_clV, e_clP, e_clIx, e_clVx, e_clPx, e_xt, Int.toNat_natCast, Int.reduceToNat, bz0, bz1, Nat.add_zero, decide_eq_false_iff_not, decide_eq_true_eq, Int.reduceEq, Nat.reduceEqDiff, Int.reduceLT, Int.reduceLE, not_true_eq_false, not_false_eq_true, eq_self, ↓reduceIte]
        rw [e10, e12, w0, if_pos c3']
        simp (disch := first | assumption | exact Int.natCast_nonneg _ | decide) only [↓BM s, e10, l2, e89, hB, wn, wv, e_clI, e_clV, e_clP, e_clIx, e_clVx, e_clPx, e_xt, Int.toNat_natCast, Int.reduceToNat, bz0, bz1, Nat.add_zero, decide_eq_false_iff_not, decide_eq_true_eq, Int.reduceEq, Nat.reduceEqDiff, Int.reduceLT, Int.reduceLE, not_true_eq_false, not_false_eq_true, eq_self, ↓reduceIte]
        exact k4
      · have c3' : ¬ ((k - q : Nat) : Int) < 3 := by omega
        have ev : vE (unS B) q (k + 1) = vE (unS B) q k := by
          unfold vE
          rw [show min (k + 1 - q) 3 = 3 by omega, show min (k - q) 3 = 3 by omega]
        rw [ev] at k4
        have w0 := ar_t2 (q := q) (e := k) hqk (by omega)
        have wn := ar_t1 (q := k) (by clear w0; omega)
        rw [q_X12_number_5]
        simp (disch := first | assumption | exact Int.natCast_nonneg _ | decide) only [↓BM s, ia, ne1, e_clI, e_clV, e_clP, e_clIx, e_clVx, e_clPx, e_xt, Int.toNat_natCast, Int.reduceToNat, bz0, bz1, Nat.add_zero, decide_eq_false_iff_not, decide_eq_true_eq, Int.reduceEq, Nat.reduceEqDiff, Int.reduceLT, Int.reduceLE, not_true_eq_false, not_false_eq_true, eq_self, ↓reduceIte]
        rw [e10, e12, w0, if_neg c3']
        simp (disch := first | assumption | exact Int.natCast_nonneg _ | decide) only [↓BM s, e10, wn, e_clI, e_clV, e_clP, e_clIx, e_clVx, e_clPx, e_xt, Int.toNat_natCast, Int.reduceToNat, bz0, bz1, Nat.add_zero, decide_eq_false_iff_not, decide_eq_true_eq, Int.reduceEq, Nat.reduceEqDiff, Int.reduceLT, Int.reduceLE, not_true_eq_false, not_false_eq_true, eq_self, ↓reduceIte]
        exact k4
/-- what a number comes to, by the thing that stands there -/
theorem nu_th {A : Nat → Int} (hq : TQ A L q) {hi : Int} (h1 : hi ≤ 999) : nuR A q (rn isD A (L - q) q) hi = (if 0 ≤ thT A L q ∧ thT A L q ≤ hi then thT A L q else -1) ∧ ((0 ≤ thT A L q ∧ thT A L q ≤ hi) → rn isD A (L - q) q = enT A L q ∧ q < L) := by
  have no : rn isD A (L - q) q = q → thT A L q < 0 → nuR A q (rn isD A (L - q) q) hi = (if 0 ≤ thT A L q ∧ thT A L q ≤ hi then thT A L q else -1) ∧ ((0 ≤ thT A L q ∧ thT A L q ≤ hi) → rn isD A (L - q) q = enT A L q ∧ q < L) := fun e hn => by
    refine ⟨?_, fun z => by omega⟩
    unfold nuR
    rw [if_pos (Or.inl e), if_neg (by omega)]
  rcases th_cases hq with ⟨a1, a4⟩ | ⟨a1, a2, a3, a4⟩ | ⟨a1, a2, a3, a4⟩ | ⟨a1, a2, a3, a4⟩
  · exact no (rn_nD (fun z => by omega)) (by omega)
  · refine no (rn_nD (fun z => by rw [a3] at z; exact absurd z.2 (by decide))) ?_
    rw [a4]
    rcases wth_rng (A := A) (q := q) (e := enT A L q) 23 0 (by decide) with y | ⟨j, j1, y⟩
    · omega
    · rw [y]
      exact (wc_n2 j j1).2.2.1
  · have er := rn_D a1 a2 a3
    have eb := enT_b (A := A) a1
    rw [er]
    rcases a4 with ⟨b1, b2⟩ | ⟨b1, b2, b3, b4⟩
    · refine ⟨?_, fun z => by omega⟩
      unfold nuR
      rw [if_pos (Or.inr (Or.inl b1)), if_neg (by omega)]
    · refine ⟨?_, fun _ => ⟨rfl, a1⟩⟩
      have ev : vE A q (enT A L q) = thT A L q := by
        unfold vE
        rw [b2, show min (enT A L q - q) 3 = enT A L q - q by omega]
      unfold nuR
      rw [ev]
      by_cases c : hi < thT A L q
      · rw [if_pos (Or.inr (Or.inr c)), if_neg (by omega)]
      · rw [if_neg (by omega), if_pos (by omega)]
  · refine no (rn_nD (fun z => by rw [a3] at z; exact absurd z.2 (by decide))) ?_
    rw [a4]
    have := sg_rng (A q)
    omega
theorem m_number (s : Sh h) (t : TB B L) (k : MQt B L J q) {hi : Int} (h1 : hi ≤ 999) : ((0 ≤ thT (unS B) L q ∧ thT (unS B) L q ≤ hi) ∧ ∃ K, (Fy J K ∧ MQt B L K (nxT (unS B) L q) ∧ K 283 12 = (q : Int)) ∧ Cl sc (d + 3) mX12_number [Vr (some 283), Vi 0, Vi hi] (hI h J) = some (.inl (Vi (thT (unS B) L q)), hI h K)) ∨ (¬ (0 ≤ thT (unS B) L q ∧ thT (unS B) L q ≤ hi) ∧ ∃ K, (Fy J K ∧ MX B L K ∧ K 283 12 = (q : Int)) ∧ Cl sc (d + 3) mX12_number [Vr (some 283), Vi 0, Vi hi] (hI h J) = some (.inl (Vi (-1)), hI h K)) := by
  have hq := k.tq t
  obtain ⟨k1, p, k2, k3, k4⟩ := k
  obtain ⟨K1, ⟨a1, a2, a3⟩, a4⟩ := m_blanks (sc := sc) (d := d) s t L p J (by omega) k3 k1 k2
  rw [k4] at a2 a3
  obtain ⟨K2, ⟨b1, b2, b3⟩, b4⟩ := m_numLoop (sc := sc) (d := d + 1) s t (hi := hi) hq.1 (L - q) q K1 (by have := hq.1; omega) (Nat.le_refl _) (fun i hi => by omega) (k1.fy a1) a2 a3
  have v0 : vE (unS B) q q = 0 := by
    unfold vE
    rw [Nat.sub_self]
    rfl
  rw [v0] at b4
  obtain ⟨n1, n2⟩ := nu_th hq h1
  rw [n1] at b4
  have run : Cl sc (d + 3) mX12_number [Vr (some 283), Vi 0, Vi hi] (hI h J) = some (.inl (Vi (if 0 ≤ thT (unS B) L q ∧ thT (unS B) L q ≤ hi then thT (unS B) L q else -1)), hI h K2) := by
    rw [q_X12_number_0]
    simp (disch := first | assumption | exact Int.natCast_nonneg _ | decide) only [↓BM s, a4, e_clI, e_clV, e_clP, e_clIx, e_clVx, e_clPx, e_xt, Int.toNat_natCast, Int.reduceToNat, bz0, bz1, Nat.add_zero, decide_eq_false_iff_not, decide_eq_true_eq, Int.reduceEq, Nat.reduceEqDiff, Int.reduceLT, Int.reduceLE, not_true_eq_false, not_false_eq_true, eq_self, ↓reduceIte]
    exact b4
  by_cases c : 0 ≤ thT (unS B) L q ∧ thT (unS B) L q ≤ hi
  · rw [if_pos c] at run
    obtain ⟨c1, c2⟩ := n2 c
    rw [c1] at b2
    exact Or.inl ⟨c, K2, ⟨a1.tr b1, ((k1.fy a1).fy b1).mq b2 (enT_b c2).2, b3⟩, run⟩
  · rw [if_neg c] at run
    exact Or.inr ⟨c, K2, ⟨a1.tr b1, (k1.fy a1).fy b1, b3⟩, run⟩
/-- a number behind a word that may stand there -/
def opR (A : Nat → Int) (L : Nat) (c : Int) (q : Nat) (dv : Int) : Nat × Option Int := if thT A L q = c then (if 0 ≤ thT A L (nxT A L q) ∧ thT A L (nxT A L q) ≤ 999 then (nxT A L (nxT A L q), some (thT A L (nxT A L q))) else (nxT A L q, none)) else (q, some dv)
theorem m_told (s : Sh h) (t : TB B L) (k : MQt B L J q) {j : Nat} (hj : j < 23) {dv : Int} : (∃ v, opR (unS B) L (wc j) q dv = ((opR (unS B) L (wc j) q dv).1, some v) ∧ ∃ K, (Fy J K ∧ MQt B L K (opR (unS B) L (wc j) q dv).1) ∧ Cl sc (d + 7) mX12_told [Vr (some 283), Vx (j + 1 + 1), Vi dv] (hI h J) = some (.inl (Vi v), hI h K)) ∨ (opR (unS B) L (wc j) q dv = ((opR (unS B) L (wc j) q dv).1, none) ∧ ∃ K, (Fy J K ∧ MX B L K ∧ K 283 12 = ((opR (unS B) L (wc j) q dv).1 : Int)) ∧ Cl sc (d + 7) mX12_told [Vr (some 283), Vx (j + 1 + 1), Vi dv] (hI h J) = some (.inl (Vi (-1)), hI h K)) := by
  have ne1 : ¬ (1 : Int) = 0 := by decide
  rcases m_passes (sc := sc) (d := d) s t k hj with ⟨e, K, ⟨k1, k2, k3⟩, k4⟩ | ⟨e, K, ⟨k1, k2, k3⟩, k4⟩
  · rcases m_number (sc := sc) (d := d + 3) s t k2 (hi := 999) (by decide) with ⟨e2, K2, ⟨a1, a2, a3⟩, a4⟩ | ⟨e2, K2, ⟨a1, a2, a3⟩, a4⟩
    · have eo : opR (unS B) L (wc j) q dv = (nxT (unS B) L (nxT (unS B) L q), some (thT (unS B) L (nxT (unS B) L q))) := by
        unfold opR
        rw [if_pos e, if_pos e2]
      rw [eo]
      refine Or.inl ⟨_, rfl, K2, ⟨k1.tr a1, a2⟩, ?_⟩
      rw [q_X12_told_0]
      simp (disch := first | assumption | exact Int.natCast_nonneg _ | decide) only [↓BM s, k4, ne1, a4, e_clI, e_clV, e_clP, e_clIx, e_clVx, e_clPx, e_xt, Int.toNat_natCast, Int.reduceToNat, bz0, bz1, Nat.add_zero, decide_eq_false_iff_not, decide_eq_true_eq, Int.reduceEq, Nat.reduceEqDiff, Int.reduceLT, Int.reduceLE, not_true_eq_false, not_false_eq_true, eq_self, ↓reduceIte]
    · have eo : opR (unS B) L (wc j) q dv = (nxT (unS B) L q, none) := by
        unfold opR
        rw [if_pos e, if_neg e2]
      rw [eo]
      refine Or.inr ⟨rfl, K2, ⟨k1.tr a1, a2, a3⟩, ?_⟩
      rw [q_X12_told_0]
      simp (disch := first | assumption | exact Int.natCast_nonneg _ | decide) only [↓BM s, k4, ne1, a4, e_clI, e_clV, e_clP, e_clIx, e_clVx, e_clPx, e_xt, Int.toNat_natCast, Int.reduceToNat, bz0, bz1, Nat.add_zero, decide_eq_false_iff_not, decide_eq_true_eq, Int.reduceEq, Nat.reduceEqDiff, Int.reduceLT, Int.reduceLE, not_true_eq_false, not_false_eq_true, eq_self, ↓reduceIte]
  · have eo : opR (unS B) L (wc j) q dv = (q, some dv) := by
      unfold opR
      rw [if_neg e]
    rw [eo]
    refine Or.inl ⟨_, rfl, K, ⟨k1, k2⟩, ?_⟩
    rw [q_X12_told_0]
    simp (disch := first | assumption | exact Int.natCast_nonneg _ | decide) only [↓BM s, k4, e_clI, e_clV, e_clP, e_clIx, e_clVx, e_clPx, e_xt, Int.toNat_natCast, Int.reduceToNat, bz0, bz1, Nat.add_zero, decide_eq_false_iff_not, decide_eq_true_eq, Int.reduceEq, Nat.reduceEqDiff, Int.reduceLT, Int.reduceLE, not_true_eq_false, not_false_eq_true, eq_self, ↓reduceIte]
theorem m_behind (s : Sh h) (t : TB B L) (k : MQt B L J q) {j : Nat} (hj : j < 23) {hi : Int} (h1 : hi ≤ 999) : (thT (unS B) L q ≠ wc j ∧ ∃ K, (Fy J K ∧ MX B L K ∧ K 283 12 = (q : Int)) ∧ Cl sc (d + 6) mX12_behind [Vr (some 283), Vx (j + 1 + 1), Vi 0, Vi hi] (hI h J) = some (.inl (Vi (-1)), hI h K)) ∨ (thT (unS B) L q = wc j ∧ ((¬ (0 ≤ thT (unS B) L (nxT (unS B) L q) ∧ thT (unS B) L (nxT (unS B) L q) ≤ hi) ∧ ∃ K, (Fy J K ∧ MX B L K ∧ K 283 12 = (nxT (unS B) L q : Int)) ∧ Cl sc (d + 6) mX12_behind [Vr (some 283), Vx (j + 1 + 1), Vi 0, Vi hi] (hI h J) = some (.inl (Vi (-1)), hI h K)) ∨ ((0 ≤ thT (unS B) L (nxT (unS B) L q) ∧ thT (unS B) L (nxT (unS B) L q) ≤ hi) ∧ ∃ K, (Fy J K ∧ MQt B L K (nxT (unS B) L (nxT (unS B) L q))) ∧ Cl sc (d + 6) mX12_behind [Vr (some 283), Vx (j + 1 + 1), Vi 0, Vi hi] (hI h J) = some (.inl (Vi (thT (unS B) L (nxT (unS B) L q))), hI h K)))) := by
  have ne1 : ¬ (1 : Int) = 0 := by decide
  obtain ⟨K, ⟨k1, k2⟩, k3⟩ := m_letters (sc := sc) (d := d + 2) s t k
  have iw := m_isW (sc := sc) (d := d) s t k2 hj
  by_cases e : thT (unS B) L q = wc j
  · have z1 : bz true = 1 := rfl
    rw [decide_eq_true e, z1] at iw
    have k9 := k2.nx t hj e
    rcases m_number (sc := sc) (d := d + 2) s t k9 (hi := hi) h1 with ⟨e2, K2, ⟨a1, a2, a3⟩, a4⟩ | ⟨e2, K2, ⟨a1, a2, a3⟩, a4⟩
    · refine Or.inr ⟨e, Or.inr ⟨e2, K2, ⟨k1.tr a1, a2⟩, ?_⟩⟩
      rw [q_X12_behind_0]
      simp (disch := first | assumption | exact Int.natCast_nonneg _ | decide) only [↓BM s, k3, iw, ne1, a4, e_clI, e_clV, e_clP, e_clIx, e_clVx, e_clPx, e_xt, Int.toNat_natCast, Int.reduceToNat, bz0, bz1, Nat.add_zero, decide_eq_false_iff_not, decide_eq_true_eq, Int.reduceEq, Nat.reduceEqDiff, Int.reduceLT, Int.reduceLE, not_true_eq_false, not_false_eq_true, eq_self, ↓reduceIte]
    · refine Or.inr ⟨e, Or.inl ⟨e2, K2, ⟨k1.tr a1, a2, a3⟩, ?_⟩⟩
      rw [q_X12_behind_0]
      simp (disch := first | assumption | exact Int.natCast_nonneg _ | decide) only [↓BM s, k3, iw, ne1, a4, e_clI, e_clV, e_clP, e_clIx, e_clVx, e_clPx, e_xt, Int.toNat_natCast, Int.reduceToNat, bz0, bz1, Nat.add_zero, decide_eq_false_iff_not, decide_eq_true_eq, Int.reduceEq, Nat.reduceEqDiff, Int.reduceLT, Int.reduceLE, not_true_eq_false, not_false_eq_true, eq_self, ↓reduceIte]
  · have z0 : bz false = 0 := rfl
    rw [decide_eq_false e, z0] at iw
    refine Or.inl ⟨e, K, ⟨k1, k2.1, k2.2.2.1⟩, ?_⟩
    rw [q_X12_behind_0]
    simp (disch := first | assumption | exact Int.natCast_nonneg _ | decide) only [↓BM s, k3, iw, e_clI, e_clV, e_clP, e_clIx, e_clVx, e_clPx, e_xt, Int.toNat_natCast, Int.reduceToNat, bz0, bz1, Nat.add_zero, decide_eq_false_iff_not, decide_eq_true_eq, Int.reduceEq, Nat.reduceEqDiff, Int.reduceLT, Int.reduceLE, not_true_eq_false, not_false_eq_true, eq_self, ↓reduceIte]
end
