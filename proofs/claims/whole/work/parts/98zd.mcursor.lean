/-! TEXTS: the reference's place -/
def Fy (J K : am_I) : Prop := ∀ x j, ¬ (x = 283 ∧ (j = 10 ∨ j = 12)) → K x j = J x j
theorem Fy.rf (J : am_I) : Fy J J := fun _ _ _ => rfl
theorem Fy.tr {I J K : am_I} (a : Fy I J) (b : Fy J K) : Fy I K := fun x j h => (b x j h).trans (a x j h)
theorem Fy.p {J K : am_I} (a : Fy J K) {x : Nat} (h : x ≠ 283) : K x = J x := funext fun j => a x j (fun e => h e.1)
theorem Fy.u {J K : am_I} (a : Fy J K) {j : Nat} {v : Int} (h : j = 10 ∨ j = 12) : Fy J (am_u2 K 283 j v) := fun x i hn => by
  unfold am_u2
  rw [if_neg (fun e => hn ⟨e.1, by omega⟩)]
  exact a x i hn
/-- a tape of the reference -/
def TB (B : Nat → Int) (L : Nat) : Prop := L ≤ 400 ∧ ∀ k, k < 400 → -128 ≤ B k ∧ B k ≤ 127
def MX (B : Nat → Int) (L : Nat) (K : am_I) : Prop := K 289 = B ∧ K 283 11 = (L : Int)
def MQt (B : Nat → Int) (L : Nat) (K : am_I) (q : Nat) : Prop := MX B L K ∧ ∃ p : Nat, K 283 10 = (p : Int) ∧ p ≤ L ∧ blk (unS B) L p = q
theorem un_r {z : Int} {lo hi : Int} (h : -128 ≤ z ∧ z ≤ 127) (h0 : 0 ≤ lo) (h1 : hi ≤ 127) : (lo ≤ z ∧ z ≤ hi) ↔ (lo ≤ z % 256 ∧ z % 256 ≤ hi) := by omega
section
variable {sc : Nat × (Nat → Int)} {d : Nat} {h : am_H} {I J K : am_I} {B : Nat → Int} {L q : Nat}
theorem MX.fy (k : MX B L J) (f : Fy J K) : MX B L K := ⟨(f.p (by decide)).trans k.1, (f 283 11 (by omega)).trans k.2⟩
theorem MQt.tq (t : TB B L) (k : MQt B L J q) : TQ (unS B) L q := by
  obtain ⟨k1, p, k2, k3, k4⟩ := k
  rw [← k4]
  exact blk_TQ k3
theorem MX.mq (k : MX B L J) {p : Nat} (e : J 283 10 = (p : Int)) (hp : p ≤ L) : MQt B L J (blk (unS B) L p) := ⟨k, p, e, hp, rfl⟩
theorem m_isAt (s : Sh h) (t : TB B L) (k : MX B L J) {p : Nat} (e : J 283 10 = (p : Int)) (hp : p ≤ L) {lo hi : Int} (h0 : 0 ≤ lo) (h1 : hi ≤ 127) : Cl sc (d + 1) mX12_isAt [Vr (some 283), Vi lo, Vi hi] (hI h J) = some (.inl (Vi (bz (decide (p < L ∧ lo ≤ unS B p ∧ unS B p ≤ hi)))), hI h J) := by
  have e11 := k.2
  have e89 := k.1
  rw [q_X12_isAt_0]
  by_cases hl : p < L
  · have l1 : (p : Int) < (L : Int) := by omega
    have l2 : (p : Int) < 400 := by have := t.1; omega
    have hb := t.2 p (by have := t.1; omega)
    have hu : (lo ≤ B p ∧ B p ≤ hi) ↔ (lo ≤ unS B p ∧ unS B p ≤ hi) := un_r hb h0 h1
    by_cases c1 : B p < lo
    · rw [decide_eq_false (by omega)]
      simp (disch := first | assumption | exact Int.natCast_nonneg _ | decide) only [↓BM s, e, e11, l1, l2, e89, c1, e_clI, e_clV, e_clP, e_clIx, e_clVx, e_clPx, e_xt, Int.toNat_natCast, Int.reduceToNat, bz0, bz1, Nat.add_zero, decide_eq_false_iff_not, decide_eq_true_eq, Int.reduceEq, Nat.reduceEqDiff, Int.reduceLT, Int.reduceLE, not_true_eq_false, not_false_eq_true, eq_self, ↓reduceIte]
      rfl
    · by_cases c2 : hi < B p
      · rw [decide_eq_false (by omega)]
        simp (disch := first | assumption | exact Int.natCast_nonneg _ | decide) only [↓BM s, e, e11, l1, l2, e89, c1, c2, e_clI, e_clV, e_clP, e_clIx, e_clVx, e_clPx, e_xt, Int.toNat_natCast, Int.reduceToNat, bz0, bz1, Nat.add_zero, decide_eq_false_iff_not, decide_eq_true_eq, Int.reduceEq, Nat.reduceEqDiff, Int.reduceLT, Int.reduceLE, not_true_eq_false, not_false_eq_true, eq_self, ↓reduceIte]
        rfl
      · rw [decide_eq_true (by omega)]
        simp (disch := first | assumption | exact Int.natCast_nonneg _ | decide) only [↓BM s, e, e11, l1, l2, e89, c1, c2, e_clI, e_clV, e_clP, e_clIx, e_clVx, e_clPx, e_xt, Int.toNat_natCast, Int.reduceToNat, bz0, bz1, Nat.add_zero, decide_eq_false_iff_not, decide_eq_true_eq, Int.reduceEq, Nat.reduceEqDiff, Int.reduceLT, Int.reduceLE, not_true_eq_false, not_false_eq_true, eq_self, ↓reduceIte]
        rfl
  · have l1 : ¬ (p : Int) < (L : Int) := by omega
    rw [decide_eq_false (by omega)]
    simp (disch := first | assumption | exact Int.natCast_nonneg _ | decide) only [↓BM s, e, e11, l1, e_clI, e_clV, e_clP, e_clIx, e_clVx, e_clPx, e_xt, Int.toNat_natCast, Int.reduceToNat, bz0, bz1, Nat.add_zero, decide_eq_false_iff_not, decide_eq_true_eq, Int.reduceEq, Nat.reduceEqDiff, Int.reduceLT, Int.reduceLE, not_true_eq_false, not_false_eq_true, eq_self, ↓reduceIte]
    rfl
theorem bl_Ru {h : am_H} : Ru sc (d + 1) mX12_blanks 0 [Vr (some 283)] [] h = Cl sc (d + 1) mX12_blanks [Vr (some 283)] h := by
  unfold Cl
  rw [at_X12_blanks]
  rfl
theorem m_blanks (s : Sh h) (t : TB B L) : ∀ r p (J : am_I), L ≤ p + r → p ≤ L → MX B L J → J 283 10 = (p : Int) → ∃ K, (Fy J K ∧ K 283 10 = (blk (unS B) L p : Int) ∧ K 283 12 = (blk (unS B) L p : Int)) ∧ Cl sc (d + 2) mX12_blanks [Vr (some 283)] (hI h J) = some (.inl (Vx 0), hI h K) := by
  have stop : ∀ p (J : am_I), p ≤ L → MX B L J → J 283 10 = (p : Int) → ¬ (p < L ∧ unS B p = 32) → ∃ K, (Fy J K ∧ K 283 10 = (blk (unS B) L p : Int) ∧ K 283 12 = (blk (unS B) L p : Int)) ∧ Cl sc (d + 2) mX12_blanks [Vr (some 283)] (hI h J) = some (.inl (Vx 0), hI h K) := by
    intro p J hp k e hn
    have hb : blk (unS B) L p = p := blk_self ⟨hp, fun z y => hn ⟨z, y⟩⟩
    have ia := m_isAt (sc := sc) (d := d) s t k e hp (lo := 32) (hi := 32) (by decide) (by decide)
    rw [decide_eq_false (fun z => hn ⟨z.1, by omega⟩)] at ia
    have z0 : bz false = 0 := rfl
    rw [z0] at ia
    rw [hb]
    refine ⟨am_u2 J 283 12 (p : Int), ⟨(Fy.rf J).u (Or.inr rfl), by rw [u2_j (by decide)]; exact e, u2_same⟩, ?_⟩
    rw [q_X12_blanks_0]
    simp (disch := first | assumption | exact Int.natCast_nonneg _ | decide) only [↓BM s, ia, e, e_clI, e_clV, e_clP, e_clIx, e_clVx, e_clPx, e_xt, Int.toNat_natCast, Int.reduceToNat, bz0, bz1, Nat.add_zero, decide_eq_false_iff_not, decide_eq_true_eq, Int.reduceEq, Nat.reduceEqDiff, Int.reduceLT, Int.reduceLE, not_true_eq_false, not_false_eq_true, eq_self, ↓reduceIte]
  intro r
  induction r with
  | zero =>
    intro p J h1 hp k e
    exact stop p J hp k e (by omega)
  | succ r ih =>
    intro p J h1 hp k e
    by_cases hc : p < L ∧ unS B p = 32
    · have ia := m_isAt (sc := sc) (d := d) s t k e hp (lo := 32) (hi := 32) (by decide) (by decide)
      rw [decide_eq_true ⟨hc.1, by omega, by omega⟩] at ia
      have z1 : bz true = 1 := rfl
      have ne1 : ¬ (1 : Int) = 0 := by decide
      rw [z1] at ia
      obtain ⟨K, ⟨k1, k2, k3⟩, k4⟩ := ih (p + 1) (am_u2 J 283 10 ((p + 1 : Nat) : Int)) (by omega) (by omega) (k.fy ((Fy.rf J).u (Or.inl rfl))) u2_same
      rw [blk_blank hc.1 hc.2]
      refine ⟨K, ⟨((Fy.rf J).u (Or.inl rfl)).tr k1, k2, k3⟩, ?_⟩
      have wn := ar_t1 (q := p) (by have := t.1; omega)
      rw [q_X12_blanks_0]
      simp (disch := first | assumption | exact Int.natCast_nonneg _ | decide) only [↓BM s, ia, ne1, e, wn, e_clI, e_clV, e_clP, e_clIx, e_clVx, e_clPx, e_xt, Int.toNat_natCast, Int.reduceToNat, bz0, bz1, Nat.add_zero, decide_eq_false_iff_not, decide_eq_true_eq, Int.reduceEq, Nat.reduceEqDiff, Int.reduceLT, Int.reduceLE, not_true_eq_false, not_false_eq_true, eq_self, ↓reduceIte]
      rw [bl_Ru]
      exact k4
    · exact stop p J hp k e hc
theorem le_rn (A : Nat → Int) {L q : Nat} (hq : q ≤ L) : rn isL A (L - q) q = leT A L q := by
  unfold leT
  by_cases h : q < L
  · obtain ⟨f, hf⟩ : ∃ f, L - q = f + 1 := ⟨L - q - 1, by omega⟩
    have hf2 : L - (q + 1) = f := by omega
    rw [hf]
    show (if isL (A q) = true then rn isL A f (q + 1) else q) = _
    by_cases h1 : isL (A q) = true
    · rw [if_pos h1, if_pos ⟨h, h1⟩]
      unfold enT
      rw [if_pos h1, hf2]
    · rw [if_neg h1, if_neg (fun z => h1 z.2)]
  · rw [if_neg (fun z => h z.1), show L - q = 0 by omega]
    rfl
theorem le_b {A : Nat → Int} {L q : Nat} (hq : q ≤ L) : q ≤ leT A L q ∧ leT A L q ≤ L := by
  rw [← le_rn A hq]
  have := rn_b (P := isL) (A := A) (L - q) q
  omega
theorem isL_d {x : Int} {p L : Nat} : decide (p < L ∧ 97 ≤ x ∧ x ≤ 122) = (decide (p < L) && isL x) := by
  unfold isL
  rw [Bool.decide_and]
theorem m_letLoop (s : Sh h) (t : TB B L) : ∀ f p (J : am_I), p + f = L → MX B L J → J 283 10 = (p : Int) → ∃ K, (Fy J K ∧ K 283 10 = (rn isL (unS B) f p : Int) ∧ K 283 12 = J 283 12) ∧ Ru sc (d + 2) mX12_letters 3 [Vr (some 283)] [] (hI h J) = some (.inl (Vx 0), hI h K) := by
  intro f
  induction f with
  | zero =>
    intro p J h1 k e
    have ia := m_isAt (sc := sc) (d := d) s t k e (by omega) (lo := 97) (hi := 122) (by decide) (by decide)
    rw [decide_eq_false (by omega)] at ia
    have z0 : bz false = 0 := rfl
    rw [z0] at ia
    refine ⟨J, ⟨Fy.rf J, e, rfl⟩, ?_⟩
    rw [q_X12_letters_3]
    simp (disch := first | assumption | exact Int.natCast_nonneg _ | decide) only [↓BM s, ia, e_clI, e_clV, e_clP, e_clIx, e_clVx, e_clPx, e_xt, Int.toNat_natCast, Int.reduceToNat, bz0, bz1, Nat.add_zero, decide_eq_false_iff_not, decide_eq_true_eq, Int.reduceEq, Nat.reduceEqDiff, Int.reduceLT, Int.reduceLE, not_true_eq_false, not_false_eq_true, eq_self, ↓reduceIte]
  | succ f ih =>
    intro p J h1 k e
    have ia := m_isAt (sc := sc) (d := d) s t k e (by omega) (lo := 97) (hi := 122) (by decide) (by decide)
    rw [isL_d, decide_eq_true (show p < L by omega), Bool.true_and] at ia
    have er : rn isL (unS B) (f + 1) p = if isL (unS B p) = true then rn isL (unS B) f (p + 1) else p := rfl
    rw [er]
    cases hl : isL (unS B p)
    · have z0 : bz false = 0 := rfl
      rw [hl, z0] at ia
      rw [if_neg (show ¬ false = true by decide)]
      refine ⟨J, ⟨Fy.rf J, e, rfl⟩, ?_⟩
      rw [q_X12_letters_3]
      simp (disch := first | assumption | exact Int.natCast_nonneg _ | decide) only [↓BM s, ia, e_clI, e_clV, e_clP, e_clIx, e_clVx, e_clPx, e_xt, Int.toNat_natCast, Int.reduceToNat, bz0, bz1, Nat.add_zero, decide_eq_false_iff_not, decide_eq_true_eq, Int.reduceEq, Nat.reduceEqDiff, Int.reduceLT, Int.reduceLE, not_true_eq_false, not_false_eq_true, eq_self, ↓reduceIte]
    · have z1 : bz true = 1 := rfl
      have ne1 : ¬ (1 : Int) = 0 := by decide
      rw [hl, z1] at ia
      rw [if_pos (show true = true from rfl)]
      obtain ⟨K, ⟨k1, k2, k3⟩, k4⟩ := ih (p + 1) (am_u2 J 283 10 ((p + 1 : Nat) : Int)) (by omega) (k.fy ((Fy.rf J).u (Or.inl rfl))) u2_same
      refine ⟨K, ⟨((Fy.rf J).u (Or.inl rfl)).tr k1, k2, k3.trans (u2_j (by decide))⟩, ?_⟩
      have wn := ar_t1 (q := p) (by have := t.1; omega)
      rw [q_X12_letters_3]
      simp (disch := first | assumption | exact Int.natCast_nonneg _ | decide) only [↓BM s, ia, ne1, e, wn, e_clI, e_clV, e_clP, e_clIx, e_clVx, e_clPx, e_xt, Int.toNat_natCast, Int.reduceToNat, bz0, bz1, Nat.add_zero, decide_eq_false_iff_not, decide_eq_true_eq, Int.reduceEq, Nat.reduceEqDiff, Int.reduceLT, Int.reduceLE, not_true_eq_false, not_false_eq_true, eq_self, ↓reduceIte]
      exact k4
/-- a word is passed; nothing is said yet of which it is -/
def MW (B : Nat → Int) (L : Nat) (K : am_I) (q : Nat) : Prop := MX B L K ∧ TQ (unS B) L q ∧ K 283 12 = (q : Int) ∧ K 283 10 = (leT (unS B) L q : Int)
theorem m_letters (s : Sh h) (t : TB B L) (k : MQt B L J q) : ∃ K, (Fy J K ∧ MW B L K q) ∧ Cl sc (d + 3) mX12_letters [Vr (some 283)] (hI h J) = some (.inl (Vx 0), hI h K) := by
  have hq := k.tq t
  obtain ⟨k1, p, k2, k3, k4⟩ := k
  obtain ⟨K1, ⟨a1, a2, a3⟩, a4⟩ := m_blanks (sc := sc) (d := d) s t L p J (by omega) k3 k1 k2
  rw [k4] at a2 a3
  obtain ⟨K2, ⟨b1, b2, b3⟩, b4⟩ := m_letLoop (sc := sc) (d := d + 1) s t (L - q) q K1 (by have := hq.1; omega) (k1.fy a1) a2
  rw [le_rn _ hq.1] at b2
  refine ⟨K2, ⟨a1.tr b1, (k1.fy a1).fy b1, hq, b3.trans a3, b2⟩, ?_⟩
  rw [q_X12_letters_0]
  simp (disch := first | assumption | exact Int.natCast_nonneg _ | decide) only [↓BM s, a4, e_clI, e_clV, e_clP, e_clIx, e_clVx, e_clPx, e_xt, Int.toNat_natCast, Int.reduceToNat, bz0, bz1, Nat.add_zero, decide_eq_false_iff_not, decide_eq_true_eq, Int.reduceEq, Nat.reduceEqDiff, Int.reduceLT, Int.reduceLE, not_true_eq_false, not_false_eq_true, eq_self, ↓reduceIte]
  exact b4
theorem m_isW (s : Sh h) (t : TB B L) (k : MW B L J q) {j : Nat} (hj : j < 23) : Cl sc (d + 5) mX12_isWord [Vr (some 283), Vx (j + 1 + 1)] (hI h J) = some (.inl (Vi (bz (decide (thT (unS B) L q = wc j)))), hI h J) := by
  obtain ⟨k1, hq, k12, k10⟩ := k
  have hle := le_b (A := unS B) hq.1
  have e89 := k1.1
  rw [← th_word hq hj]
  generalize leT (unS B) L q = e at k10 hle
  have h400 := t.1
  have w1 := ar_t2 (q := q) (e := e) hle.1 (by omega)
  have r2 : 2 ≤ j + 1 + 1 ∧ j + 1 + 1 < 25 := by clear w1; omega
  have lw := lit_len j hj
  have cl := c_len (sc := sc) (d := d + 2) (h := hI h J) hj
  rw [q_X12_isWord_0]
  simp (disch := first | assumption | exact Int.natCast_nonneg _ | decide) only [↓BM s, k10, k12, w1, r2, cl, e_clI, e_clV, e_clP, e_clIx, e_clVx, e_clPx, e_xt, Int.toNat_natCast, Int.reduceToNat, bz0, bz1, Nat.add_zero, decide_eq_false_iff_not, decide_eq_true_eq, Int.reduceEq, Nat.reduceEqDiff, Int.reduceLT, Int.reduceLE, not_true_eq_false, not_false_eq_true, eq_self, ↓reduceIte]
  clear w1
  by_cases hl : e - q = (am_lit j).length
  · have go : ∀ r i, i + r = (am_lit j).length → (∀ k, k < i → unS B (q + k) = (am_lit j).getD k 0) → Ru sc (d + 5) mX12_isWord 15 [Vr (some 283), Vx (j + 1 + 1), Vi 1, Vi (i : Int)] [] (hI h J) = some (.inl (Vi (bz (wdEq (unS B) q e (am_lit j)))), hI h J) := by
      intro r
      induction r with
      | zero =>
        intro i hi ho
        have l1 : ¬ (i : Int) < (((am_lit j).length : Nat) : Int) := by omega
        have ew : wdEq (unS B) q e (am_lit j) = true := decide_eq_true ⟨hl, fun k hk => ho k (by omega)⟩
        rw [q_X12_isWord_15, if_neg (by decide), if_pos r2, c_len hj, e_clI, if_neg l1, ew]
        exact r1_1 _
      | succ r ih =>
        intro i hi ho
        have l1 : (i : Int) < (((am_lit j).length : Nat) : Int) := by omega
        have l2 : ((q + i : Nat) : Int) < 400 := by omega
        have ch := c_char (sc := sc) (d := d) (h := hI h J) hj (show i < (am_lit j).length by omega)
        have lc := lit_c j hj i (by omega)
        have hb := t.2 (q + i) (by omega)
        have hu : B (q + i) = (am_lit j).getD i 0 ↔ unS B (q + i) = (am_lit j).getD i 0 := by
          unfold unS
          omega
        have w3 := ar_t3 (q := q) (i := i) (by omega)
        have wn := ar_t1 (q := i) (by clear w3; omega)
        by_cases ec : B (q + i) = (am_lit j).getD i 0
        · have ih2 := ih (i + 1) (by clear w3 wn; omega) (fun k hk => by
            by_cases e : k = i
            · rw [e]
              exact hu.mp ec
            · exact ho k (by clear w3 wn; omega))
          rw [q_X12_isWord_15, if_neg (by decide), if_pos r2, c_len hj, e_clI, if_pos l1]
          simp (disch := first | assumption | exact Int.natCast_nonneg _ | decide) only [↓BM s, k12, w3, l2, e89, e_clI, e_clV, e_clP, e_clIx, e_clVx, e_clPx, e_xt, Int.toNat_natCast, Int.reduceToNat, bz0, bz1, Nat.add_zero, decide_eq_false_iff_not, decide_eq_true_eq, Int.reduceEq, Nat.reduceEqDiff, Int.reduceLT, Int.reduceLE, not_true_eq_false, not_false_eq_true, eq_self, ↓reduceIte]
          rw [if_pos r2, ch, e_clI, if_pos ec, wn]
          exact ih2
        · have ew : wdEq (unS B) q e (am_lit j) = false := decide_eq_false (fun z => ec (hu.mpr (z.2 i (by clear w3 wn; omega))))
          rw [q_X12_isWord_15, if_neg (by decide), if_pos r2, c_len hj, e_clI, if_pos l1, ew]
          simp (disch := first | assumption | exact Int.natCast_nonneg _ | decide) only [↓BM s, k12, w3, l2, e89, e_clI, e_clV, e_clP, e_clIx, e_clVx, e_clPx, e_xt, Int.toNat_natCast, Int.reduceToNat, bz0, bz1, Nat.add_zero, decide_eq_false_iff_not, decide_eq_true_eq, Int.reduceEq, Nat.reduceEqDiff, Int.reduceLT, Int.reduceLE, not_true_eq_false, not_false_eq_true, eq_self, ↓reduceIte]
          rw [if_pos r2, ch, e_clI, if_neg ec, q_X12_isWord_15, if_pos rfl]
          exact r1_0 _
    have e0 : ((e - q : Nat) : Int) = (((am_lit j).length : Nat) : Int) := by rw [hl]
    rw [if_pos e0]
    exact go (am_lit j).length 0 (Nat.zero_add _) (fun k hk => absurd hk (Nat.not_lt_zero k))
  · have e0 : ¬ ((e - q : Nat) : Int) = (((am_lit j).length : Nat) : Int) := by omega
    have ew : wdEq (unS B) q e (am_lit j) = false := decide_eq_false (fun z => hl z.1)
    rw [if_neg e0, ew, q_X12_isWord_15, if_pos rfl]
    exact r1_0 _
theorem MW.nx (t : TB B L) (k : MW B L J q) {j : Nat} (hj : j < 23) (e : thT (unS B) L q = wc j) : MQt B L J (nxT (unS B) L q) := by
  obtain ⟨k1, hq, k12, k10⟩ := k
  obtain ⟨e1, e2⟩ := en_word hq hj e
  rw [e2] at k10
  exact k1.mq k10 (enT_b e1).2
theorem m_passes (s : Sh h) (t : TB B L) (k : MQt B L J q) {j : Nat} (hj : j < 23) : (thT (unS B) L q = wc j ∧ ∃ K, (Fy J K ∧ MQt B L K (nxT (unS B) L q) ∧ K 283 12 = (q : Int)) ∧ Cl sc (d + 6) mX12_passes [Vr (some 283), Vx (j + 1 + 1)] (hI h J) = some (.inl (Vi 1), hI h K)) ∨ (thT (unS B) L q ≠ wc j ∧ ∃ K, (Fy J K ∧ MQt B L K q ∧ K 283 12 = (q : Int)) ∧ Cl sc (d + 6) mX12_passes [Vr (some 283), Vx (j + 1 + 1)] (hI h J) = some (.inl (Vi 0), hI h K)) := by
  obtain ⟨K, ⟨k1, k2⟩, k3⟩ := m_letters (sc := sc) (d := d + 2) s t k
  have iw := m_isW (sc := sc) (d := d) s t k2 hj
  have hq := k2.2.1
  have e12 := k2.2.2.1
  have ne1 : ¬ (1 : Int) = 0 := by decide
  by_cases e : thT (unS B) L q = wc j
  · have z1 : bz true = 1 := rfl
    rw [decide_eq_true e, z1] at iw
    refine Or.inl ⟨e, K, ⟨k1, k2.nx t hj e, e12⟩, ?_⟩
    rw [q_X12_passes_0]
    simp (disch := first | assumption | exact Int.natCast_nonneg _ | decide) only [↓BM s, k3, iw, ne1, e_clI, e_clV, e_clP, e_clIx, e_clVx, e_clPx, e_xt, Int.toNat_natCast, Int.reduceToNat, bz0, bz1, Nat.add_zero, decide_eq_false_iff_not, decide_eq_true_eq, Int.reduceEq, Nat.reduceEqDiff, Int.reduceLT, Int.reduceLE, not_true_eq_false, not_false_eq_true, eq_self, ↓reduceIte]
  · have z0 : bz false = 0 := rfl
    rw [decide_eq_false e, z0] at iw
    have mq : MQt B L (am_u2 K 283 10 (q : Int)) q := by
      have := (k2.1.fy ((Fy.rf K).u (Or.inl rfl))).mq (J := am_u2 K 283 10 (q : Int)) u2_same hq.1
      rwa [blk_self hq] at this
    refine Or.inr ⟨e, am_u2 K 283 10 (q : Int), ⟨k1.u (Or.inl rfl), mq, by rw [u2_j (by decide)]; exact e12⟩, ?_⟩
    rw [q_X12_passes_0]
    simp (disch := first | assumption | exact Int.natCast_nonneg _ | decide) only [↓BM s, k3, iw, e12, e_clI, e_clV, e_clP, e_clIx, e_clVx, e_clPx, e_xt, Int.toNat_natCast, Int.reduceToNat, bz0, bz1, Nat.add_zero, decide_eq_false_iff_not, decide_eq_true_eq, Int.reduceEq, Nat.reduceEqDiff, Int.reduceLT, Int.reduceLE, not_true_eq_false, not_false_eq_true, eq_self, ↓reduceIte]
theorem m_sign (s : Sh h) (t : TB B L) (k : MQt B L J q) {c v : Int} (hc : (c = 40 ∧ v = -4) ∨ (c = 41 ∧ v = -5) ∨ (c = 43 ∧ v = -27) ∨ (c = 59 ∧ v = -3) ∨ (c = 60 ∧ v = -28) ∨ (c = 62 ∧ v = -29)) : (thT (unS B) L q = v ∧ ∃ K, (Fy J K ∧ MQt B L K (nxT (unS B) L q) ∧ K 283 12 = (q : Int)) ∧ Cl sc (d + 3) mX12_sign [Vr (some 283), Vi c] (hI h J) = some (.inl (Vi 1), hI h K)) ∨ (thT (unS B) L q ≠ v ∧ ∃ K, (Fy J K ∧ MQt B L K q ∧ K 283 12 = (q : Int)) ∧ Cl sc (d + 3) mX12_sign [Vr (some 283), Vi c] (hI h J) = some (.inl (Vi 0), hI h K)) := by
  have hq := k.tq t
  obtain ⟨k1, p, k2, k3, k4⟩ := k
  obtain ⟨K1, ⟨a1, a2, a3⟩, a4⟩ := m_blanks (sc := sc) (d := d) s t L p J (by omega) k3 k1 k2
  rw [k4] at a2 a3
  have ia := m_isAt (sc := sc) (d := d + 1) s t (k1.fy a1) a2 hq.1 (lo := c) (hi := c) (by omega) (by omega)
  have hs := th_sign hq hc
  have ne1 : ¬ (1 : Int) = 0 := by decide
  by_cases e : thT (unS B) L q = v
  · have y := hs.mpr e
    have z1 : bz true = 1 := rfl
    rw [decide_eq_true ⟨y.1, by omega, by omega⟩, z1] at ia
    have n1 : isL (unS B q) = false := by unfold isL; exact decide_eq_false (by omega)
    have n2 : isD (unS B q) = false := by unfold isD; exact decide_eq_false (by omega)
    have en := en_sign (L := L) n1 n2
    have mq : MQt B L (am_u2 K1 283 10 ((q + 1 : Nat) : Int)) (nxT (unS B) L q) := by
      unfold nxT
      rw [en]
      exact ((k1.fy a1).fy ((Fy.rf K1).u (Or.inl rfl))).mq u2_same y.1
    refine Or.inl ⟨e, am_u2 K1 283 10 ((q + 1 : Nat) : Int), ⟨a1.u (Or.inl rfl), mq, by rw [u2_j (by decide)]; exact a3⟩, ?_⟩
    have wn := ar_t1 (q := q) (by have := t.1; have := hq.1; omega)
    rw [q_X12_sign_0]
    simp (disch := first | assumption | exact Int.natCast_nonneg _ | decide) only [↓BM s, a4, ia, ne1, a2, wn, e_clI, e_clV, e_clP, e_clIx, e_clVx, e_clPx, e_xt, Int.toNat_natCast, Int.reduceToNat, bz0, bz1, Nat.add_zero, decide_eq_false_iff_not, decide_eq_true_eq, Int.reduceEq, Nat.reduceEqDiff, Int.reduceLT, Int.reduceLE, not_true_eq_false, not_false_eq_true, eq_self, ↓reduceIte]
  · have z0 : bz false = 0 := rfl
    rw [decide_eq_false (fun y => e (hs.mp ⟨y.1, by omega⟩)), z0] at ia
    have mq : MQt B L K1 q := by
      have := (k1.fy a1).mq a2 hq.1
      rwa [blk_self hq] at this
    refine Or.inr ⟨e, K1, ⟨a1, mq, a3⟩, ?_⟩
    rw [q_X12_sign_0]
    simp (disch := first | assumption | exact Int.natCast_nonneg _ | decide) only [↓BM s, a4, ia, e_clI, e_clV, e_clP, e_clIx, e_clVx, e_clPx, e_xt, Int.toNat_natCast, Int.reduceToNat, bz0, bz1, Nat.add_zero, decide_eq_false_iff_not, decide_eq_true_eq, Int.reduceEq, Nat.reduceEqDiff, Int.reduceLT, Int.reduceLE, not_true_eq_false, not_false_eq_true, eq_self, ↓reduceIte]
end
