/-! WHAT WAS SEEN: pure, and the class -/
def hiN (p y : Nat) : Nat := (p % 10) * (y - p / 10)
theorem hiN_b {p y : Nat} (hy : y ≤ 99) : hiN p y ≤ 891 := Nat.le_trans (Nat.mul_le_mul (show p % 10 ≤ 9 by omega) (show y - p / 10 ≤ 99 by omega)) (by decide)
/-- one sighting agrees with a pair -/
def okS (A : Nat → Int) (p k : Nat) : Bool := decide (((hiN p (A (2 * k)).toNat : Int) - A (2 * k + 1)).natAbs ≤ 1)
def okN (A : Nat → Int) (p : Nat) : Nat → Bool
  | 0 => true
  | k + 1 => okN A p k && okS A p k
theorem okN_f {A : Nat → Int} {p m : Nat} : ∀ {n : Nat}, m < n → okS A p m = false → okN A p n = false
  | 0, h, _ => absurd h (Nat.not_lt_zero m)
  | n + 1, h, e => by
    unfold okN
    by_cases z : m = n
    · rw [← z, e, Bool.and_false]
    · rw [okN_f (n := n) (by omega) e, Bool.false_and]
/-- how many fit ahead of n -/
def cnF (F : Nat → Bool) : Nat → Nat
  | 0 => 0
  | n + 1 => if F n = true then cnF F n + 1 else cnF F n
theorem cnF_le {F : Nat → Bool} : ∀ n, cnF F n ≤ n
  | 0 => Nat.le_refl 0
  | n + 1 => by
    have := cnF_le (F := F) n
    unfold cnF
    split <;> omega
theorem cnF_mono {F : Nat → Bool} {m : Nat} : ∀ n, m ≤ n → cnF F m ≤ cnF F n
  | 0, h => by rw [Nat.le_zero.mp h]; exact Nat.le_refl _
  | n + 1, h => by
    by_cases e : m = n + 1
    · rw [e]
      exact Nat.le_refl _
    · have := cnF_mono n (show m ≤ n by omega) (F := F)
      have e2 : cnF F (n + 1) = if F n = true then cnF F n + 1 else cnF F n := rfl
      rw [e2]
      split <;> omega
theorem cnF_lt {F : Nat → Bool} {m n : Nat} (h : m < n) (e : F m = true) : cnF F m < cnF F n := by
  have h1 := cnF_mono (F := F) n (show m + 1 ≤ n from h)
  have e2 : cnF F (m + 1) = if F m = true then cnF F m + 1 else cnF F m := rfl
  rw [e2, if_pos e] at h1
  omega
/-- parts of those that fit, by how high they were -/
def ptF (F : Nat → Bool) (y : Nat) : Nat → (Nat → Int) × Int
  | 0 => (fun _ => 0, 0)
  | n + 1 => if F n = true then (up (ptF F y n).1 (hiN n y) ((ptF F y n).1 (hiN n y) + 1), max (ptF F y n).2 ((ptF F y n).1 (hiN n y) + 1)) else ptF F y n
theorem ptF_b {F : Nat → Bool} {y : Nat} : ∀ n, (∀ j, 0 ≤ (ptF F y n).1 j ∧ (ptF F y n).1 j ≤ n) ∧ 0 ≤ (ptF F y n).2 ∧ (ptF F y n).2 ≤ n
  | 0 => ⟨fun j => ⟨Int.le_refl 0, Int.le_refl 0⟩, Int.le_refl 0, Int.le_refl 0⟩
  | n + 1 => by
    obtain ⟨h1, h2, h3⟩ := ptF_b (F := F) (y := y) n
    have e : ptF F y (n + 1) = if F n = true then (up (ptF F y n).1 (hiN n y) ((ptF F y n).1 (hiN n y) + 1), max (ptF F y n).2 ((ptF F y n).1 (hiN n y) + 1)) else ptF F y n := rfl
    rw [e]
    generalize ptF F y n = s at h1 h2 h3 ⊢
    have hq := h1 (hiN n y)
    split
    · refine ⟨fun j => ?_, ?_, ?_⟩
      · have hj := h1 j
        show 0 ≤ up s.1 (hiN n y) (s.1 (hiN n y) + 1) j ∧ up s.1 (hiN n y) (s.1 (hiN n y) + 1) j ≤ ((n + 1 : Nat) : Int)
        unfold up
        split <;> omega
      · show 0 ≤ max s.2 (s.1 (hiN n y) + 1)
        omega
      · show max s.2 (s.1 (hiN n y) + 1) ≤ ((n + 1 : Nat) : Int)
        omega
    · exact ⟨fun j => by have := h1 j; omega, h2, by omega⟩
def bsX (F : Nat → Bool) (X : Int) : Nat → Int × Int
  | 0 => (-1, X)
  | y + 1 => if (ptF F y 1000).2 < (bsX F X y).2 then ((y : Int), (ptF F y 1000).2) else bsX F X y
theorem bsX_eq {F : Nat → Bool} {X Y : Int} (hX : 1000 < X) (hY : 1000 < Y) : ∀ n, bsX F X (n + 1) = bsX F Y (n + 1)
  | 0 => by
    have h := (ptF_b (F := F) (y := 0) 1000).2.2
    unfold bsX bsX
    rw [if_pos (show (ptF F 0 1000).2 < ((-1 : Int), X).2 from Int.lt_of_le_of_lt h hX), if_pos (show (ptF F 0 1000).2 < ((-1 : Int), Y).2 from Int.lt_of_le_of_lt h hY)]
  | n + 1 => by
    have ih := bsX_eq (F := F) hX hY n
    have e : ∀ X, bsX F X (n + 1 + 1) = if (ptF F (n + 1) 1000).2 < (bsX F X (n + 1)).2 then (((n + 1 : Nat) : Int), (ptF F (n + 1) 1000).2) else bsX F X (n + 1) := fun X => rfl
    rw [e, e, ih]
/-- the first that fits -/
def fsF (F : Nat → Bool) : Nat → Int
  | 0 => -1
  | n + 1 => if fsF F n = -1 then (if F n = true then (n : Int) else -1) else fsF F n
theorem ar_h1 {p y : Nat} (hp : p < 1000) (hy : y ≤ 255) : max 0 (w32 ((y : Int) - w32 ((p : Int).tdiv 10))) = ((y - p / 10 : Nat) : Int) := by
  rw [td_e (by omega), w32_id (z := (p : Int) / 10) (by omega) (by omega), w32_id (by omega) (by omega)]
  omega
theorem ar_h2 {p y : Nat} (hy : y ≤ 99) : w32 (((y - p / 10 : Nat) : Int) * ((p : Int).tmod 10)) = (hiN p y : Int) := by
  have h1 := hiN_b (p := p) hy
  have e : ((y - p / 10 : Nat) : Int) * ((p : Int).tmod 10) = (hiN p y : Int) := by
    rw [tm_e (by omega)]
    unfold hiN
    rw [Int.natCast_mul, Int.mul_comm]
    rfl
  rw [e]
  exact w32_id (by omega) (by omega)
theorem ar_h3 {p y : Nat} (hy : y ≤ 99) : w32 (((p : Int).tmod 10) * ((y - p / 10 : Nat) : Int)) = (hiN p y : Int) := by
  rw [Int.mul_comm]
  exact ar_h2 hy
theorem ar_h4 {z x : Int} (h0 : 0 ≤ z ∧ z ≤ 891) (h1 : 0 ≤ x ∧ x ≤ 255) : w32 (z - x) = z - x := w32_id (by omega) (by omega)
theorem ar_h5 {m : Nat} (hm : m < 1000) : w32 (2 * (m : Int) + 1) = ((2 * m + 1 : Nat) : Int) ∧ w32 (((2 * m : Nat) : Int) + 1) = ((2 * m + 1 : Nat) : Int) ∧ w32 (((2 * m : Nat) : Int) + 2) = ((2 * (m + 1) : Nat) : Int) := by
  refine ⟨?_, ?_, ?_⟩ <;> (rw [w32_id (by omega) (by omega)]; omega)
section
variable {sc : Nat × (Nat → Int)} {d a b n f : Nat} {h h1 h2 : am_H} {I J J1 J2 K : am_I} {w v : am_Wd}
theorem c_high9 {p y : Nat} {h : am_H} (hp : p < 1000) (hy : y ≤ 99) : Cl sc (d + 2) mX9_highIn [Vi (p : Int), Vi (y : Int)] h = some (.inl (Vi (hiN p y : Int)), h) := by
  have n10 : ¬ (10 : Int) = 0 := by decide
  have e1 := ar_h1 (p := p) (y := y) hp (Nat.le_trans hy (by decide))
  have e2 := ar_h2 (p := p) hy
  rw [q_X9_highIn_0]
  simp (disch := first | assumption | exact Int.natCast_nonneg _ | decide) only [c_max, n10, e1, e2, e_clI, e_clV, e_clP, e_clIx, e_clVx, e_clPx, e_xt, Int.toNat_natCast, Int.reduceToNat, bz0, bz1, Nat.add_zero, decide_eq_false_iff_not, decide_eq_true_eq, Int.reduceEq, Nat.reduceEqDiff, Int.reduceLT, Int.reduceLE, not_true_eq_false, not_false_eq_true, eq_self, ↓reduceIte]
theorem m_high12 {p y : Nat} {h : am_H} (hp : p < 1000) (hy : y ≤ 99) : Cl sc (d + 2) mX12_highIn [Vi (p : Int), Vi (y : Int)] h = some (.inl (Vi (hiN p y : Int)), h) := by
  have n10 : ¬ (10 : Int) = 0 := by decide
  have e1 := ar_h1 (p := p) (y := y) hp (Nat.le_trans hy (by decide))
  have e2 := ar_h3 (p := p) hy
  rw [q_X12_highIn_0]
  simp (disch := first | assumption | exact Int.natCast_nonneg _ | decide) only [c_max, n10, e1, e2, e_clI, e_clV, e_clP, e_clIx, e_clVx, e_clPx, e_xt, Int.toNat_natCast, Int.reduceToNat, bz0, bz1, Nat.add_zero, decide_eq_false_iff_not, decide_eq_true_eq, Int.reduceEq, Nat.reduceEqDiff, Int.reduceLT, Int.reduceLE, not_true_eq_false, not_false_eq_true, eq_self, ↓reduceIte]
/-- what the tape must be -/
def SeT (A : Nat → Int) (M : Nat) : Prop := M ≤ 20 ∧ (∀ k, k < 400 → 0 ≤ A k ∧ A k ≤ 255) ∧ ∀ k, k < M → A (2 * k) ≤ 99
theorem SeT.y {A : Nat → Int} {M k : Nat} (t : SeT A M) (hk : k < M) : A (2 * k) = ((A (2 * k)).toNat : Int) ∧ (A (2 * k)).toNat ≤ 99 := by
  have h1 := t.2.1 (2 * k) (by have := t.1; omega)
  have h2 := t.2.2 k hk
  omega
theorem c_doesFit (s : Sh h) {M p : Nat} (hp : p < 1000) (t : SeT (J 2) M) : Cl sc (d + 3) mX9_doesFit [Vi (p : Int), Vr (some 2), Vi ((2 * M : Nat) : Int)] (hI h J) = some (.inl (Vi (bz (okN (J 2) p M))), hI h J) := by
  have go : ∀ r m, m + r = M → okN (J 2) p m = true → Ru sc (d + 3) mX9_doesFit 3 [Vi (p : Int), Vr (some 2), Vi ((2 * M : Nat) : Int), Vi ((2 * m : Nat) : Int)] [] (hI h J) = some (.inl (Vi (bz (okN (J 2) p M))), hI h J) := by
    intro r
    induction r with
    | zero =>
      intro m hm ho
      have e : m = M := by omega
      subst e
      have l1 : ¬ ((2 * m + 1 : Nat) : Int) < ((2 * m : Nat) : Int) := by omega
      have hm2 : m < 1000 := by have := t.1; omega
      rw [q_X9_doesFit_3, (ar_h5 hm2).2.1, if_neg l1, ho]
      rfl
    | succ r ih =>
      intro m hm ho
      have hmM : m < M := by omega
      have h20 := t.1
      have y1 := t.y hmM
      have b1 := t.2.1 (2 * m + 1) (by omega)
      have l1 : ((2 * m + 1 : Nat) : Int) < ((2 * M : Nat) : Int) := by omega
      have l2 : ((2 * m : Nat) : Int) < 400 := by omega
      have l3 : ((2 * m + 1 : Nat) : Int) < 400 := by omega
      have hh := hiN_b (p := p) y1.2
      have hh0 : 0 ≤ (hiN p (J 2 (2 * m)).toNat : Int) ∧ (hiN p (J 2 (2 * m)).toNat : Int) ≤ 891 := by omega
      have hi := c_high9 (sc := sc) (d := d) (h := hI h J) hp y1.2
      rw [← y1.1] at hi
      have ab := c_abs (sc := sc) (d := d + 1) (h := hI h J) (z := (hiN p (J 2 (2 * m)).toNat : Int) - J 2 (2 * m + 1)) (by omega) (by omega)
      by_cases hok : okS (J 2) p m = true
      · have l4 : ¬ 1 < ((((hiN p (J 2 (2 * m)).toNat : Int) - J 2 (2 * m + 1)).natAbs : Nat) : Int) := by
          have := of_decide_eq_true hok
          omega
        have ih2 := ih (m + 1) (by omega) (by unfold okN; rw [ho, hok]; rfl)
        obtain ⟨w1, w2, w3⟩ := ar_h5 (m := m) (by omega)
        rw [q_X9_doesFit_3]
        simp (disch := first | assumption | exact Int.natCast_nonneg _ | decide) only [↓BT s, w2, l1, l2, l3, hi, ar_h4 hh0 b1, ab, l4, w3, ih2, e_clI, e_clV, e_clP, e_clIx, e_clVx, e_clPx, e_xt, Int.toNat_natCast, Int.reduceToNat, bz0, bz1, Nat.add_zero, decide_eq_false_iff_not, decide_eq_true_eq, Int.reduceEq, Nat.reduceEqDiff, Int.reduceLT, Int.reduceLE, not_true_eq_false, not_false_eq_true, eq_self, ↓reduceIte]
      · have hof : okS (J 2) p m = false := Bool.eq_false_iff.mpr hok
        have l4 : 1 < ((((hiN p (J 2 (2 * m)).toNat : Int) - J 2 (2 * m + 1)).natAbs : Nat) : Int) := by
          have := of_decide_eq_false hof
          omega
        rw [okN_f hmM hof]
        obtain ⟨w1, w2, w3⟩ := ar_h5 (m := m) (by omega)
        rw [q_X9_doesFit_3]
        simp (disch := first | assumption | exact Int.natCast_nonneg _ | decide) only [↓BT s, w2, l1, l2, l3, hi, ar_h4 hh0 b1, ab, l4, e_clI, e_clV, e_clP, e_clIx, e_clVx, e_clPx, e_xt, Int.toNat_natCast, Int.reduceToNat, bz0, bz1, Nat.add_zero, decide_eq_false_iff_not, decide_eq_true_eq, Int.reduceEq, Nat.reduceEqDiff, Int.reduceLT, Int.reduceLE, not_true_eq_false, not_false_eq_true, eq_self, ↓reduceIte]
        rfl
  rw [q_X9_doesFit_0]
  exact go M 0 (by omega) rfl
/-- what the class keeps of what fits -/
def FtC (F : Nat → Bool) (n : Nat) (K : am_I) : Prop := K 136 2 = (cnF F n : Int) ∧ ∀ k, k < n → F k = true → K 137 (cnF F k) = (k : Int)
theorem c_fitLoop (s : Sh h) {M : Nat} (t : SeT (I 2) M) (h0 : I 136 2 = 0) : ∃ K, ((∀ p j, p ≠ 137 → ¬ (p = 136 ∧ j = 2) → K p j = I p j) ∧ FtC (fun p => okN (I 2) p M) 1000 K) ∧ Ru sc (d + 4) mX9_reads 34 [Vr (some 136), Vr (some 1), Vi ((2 * M : Nat) : Int), Vi 0] [] (hI h I) = some (.inl (Vi 1), hI h K) := by
  obtain ⟨K, k1, k2⟩ := lpG (X := fun i (_ : Unit) J => Ru sc (d + 4) mX9_reads 34 [Vr (some 136), Vr (some 1), Vi ((2 * M : Nat) : Int), Vi (i : Int)] [] (hI h J)) (G := fun _ u => u) (K := fun i _ K => (∀ p j, p ≠ 137 → ¬ (p = 136 ∧ j = 2) → K p j = I p j) ∧ FtC (fun p => okN (I 2) p M) i K) (s0 := ()) (I := I) ⟨fun _ _ _ _ => rfl, h0, fun k hk => absurd hk (Nat.not_lt_zero k)⟩ (N := 1000) (fun i _ K hi k => by
    obtain ⟨k1, k2, k3⟩ := k
    have e2 : K 2 = I 2 := funext fun j => k1 2 j (by decide) (by omega)
    have df := c_doesFit (sc := sc) (d := d) (J := K) s hi (by rw [e2]; exact t)
    rw [e2] at df
    have l1 : (i : Int) < 1000 := by omega
    have hc := cnF_le (F := fun p => okN (I 2) p M) i
    have l2 : (cnF (fun p => okN (I 2) p M) i : Int) < 1000 := by omega
    have wn : w32 ((i : Int) + 1) = ((i + 1 : Nat) : Int) := (ar_3 (Nat.lt_trans hi (by decide))).1
    have wc : w32 ((cnF (fun p => okN (I 2) p M) i : Int) + 1) = ((cnF (fun p => okN (I 2) p M) i + 1 : Nat) : Int) := (ar_3 (Nat.lt_of_le_of_lt hc (Nat.lt_trans hi (by decide)))).1
    have ec : cnF (fun p => okN (I 2) p M) (i + 1) = if okN (I 2) i M = true then cnF (fun p => okN (I 2) p M) i + 1 else cnF (fun p => okN (I 2) p M) i := rfl
    cases hF : okN (I 2) i M
    · rw [hF] at df ec
      rw [if_neg (by decide)] at ec
      refine ⟨K, ⟨k1, by rw [ec]; exact k2, fun k hk hFk => ?_⟩, ?_⟩
      · by_cases e : k = i
        · rw [e] at hFk
          try dsimp only at hFk
          rw [hF] at hFk
          cases hFk
        · exact k3 k (by clear wn wc; omega) hFk
      · have z0 : bz false = 0 := rfl
        rw [z0] at df
        try dsimp only
        rw [q_X9_reads_34]
        simp (disch := first | assumption | exact Int.natCast_nonneg _ | decide) only [↓BT s, ↓BS s, l1, df, wn, e_clI, e_clV, e_clP, e_clIx, e_clVx, e_clPx, e_xt, Int.toNat_natCast, Int.reduceToNat, bz0, bz1, Nat.add_zero, decide_eq_false_iff_not, decide_eq_true_eq, Int.reduceEq, Nat.reduceEqDiff, Int.reduceLT, Int.reduceLE, not_true_eq_false, not_false_eq_true, eq_self, ↓reduceIte]
    · rw [hF] at df ec
      rw [if_pos rfl] at ec
      refine ⟨am_u2 (am_u2 K 137 (cnF (fun p => okN (I 2) p M) i) (i : Int)) 136 2 ((cnF (fun p => okN (I 2) p M) i + 1 : Nat) : Int), ⟨fun p j h1 h2 => ?_, by rw [ec]; exact u2_same, fun k hk hFk => ?_⟩, ?_⟩
      · unfold am_u2
        rw [if_neg h2, if_neg (fun e => h1 e.1)]
        exact k1 p j h1 h2
      · rw [u2_o (by decide)]
        by_cases e : k = i
        · rw [e]
          exact u2_same
        · have hlt := cnF_lt (F := fun p => okN (I 2) p M) (show k < i by clear wn wc; omega) hFk
          rw [u2_j (Nat.ne_of_lt hlt)]
          exact k3 k (by clear wn wc; omega) hFk
      · have z0 : bz true = 1 := rfl
        rw [z0] at df
        have ne1 : ¬ (1 : Int) = 0 := by decide
        have n1 : (136 : Nat) ≠ 137 := by decide
        try dsimp only
        rw [q_X9_reads_34]
        simp (disch := first | assumption | exact Int.natCast_nonneg _ | decide) only [↓BT s, ↓BS s, l1, df, ne1, k2, l2, u2_a n1, wc, wn, e_clI, e_clV, e_clP, e_clIx, e_clVx, e_clPx, e_xt, Int.toNat_natCast, Int.reduceToNat, bz0, bz1, Nat.add_zero, decide_eq_false_iff_not, decide_eq_true_eq, Int.reduceEq, Nat.reduceEqDiff, Int.reduceLT, Int.reduceLE, not_true_eq_false, not_false_eq_true, eq_self, ↓reduceIte])
  refine ⟨K, k1, k2.trans ?_⟩
  try dsimp only
  rw [q_X9_reads_34, if_neg (by omega)]
end
