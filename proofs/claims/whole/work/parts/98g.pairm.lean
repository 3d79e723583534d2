/-! PAIRS: the reference -/
def VS1 (w : am_Wd) (f g : Nat) (v : Int) : Prop := (MtF w f g ∧ ∃ F, Lst pl (adM w (-1) (-1) 0 (w (307 + 4 * f + 1))) (ini (w (307 + 4 * f)).toNat) F ∧ v = 100000 - F (hmW w g)) ∨ (¬ MtF w f g ∧ v = -1)
theorem VS1.p {w : am_Wd} (V : WW w) {f g : Nat} (hf : f < 6) (hg : g < 6) {v : Int} (h : VS1 w f g v) : VP1 w f g (if v = -1 then 0 else v) ∧ (v = -1 ∨ (96400 ≤ v ∧ v ≤ 100000)) := by
  rcases h with ⟨m, F, l, e⟩ | ⟨m, e⟩
  · have h1 : VP1 w f g v := Or.inl ⟨m, F, l, e⟩
    have b := h1.b V hf hg
    have hm := hmW_e V hg
    have hmf := hmW_e V hf
    have b2 := farB V (c := (w (307 + 4 * f)).toNat) hmf.2 l (hmW w g) hm.2
    have lt := (far_iff V hmf.2 l hm.2).mpr m.1
    have b3 := b2.2.2 lt
    rw [if_neg (by omega)]
    exact ⟨h1, by omega⟩
  · rw [if_pos e]
    exact ⟨Or.inr ⟨m, rfl⟩, Or.inl e⟩
def vps (I : am_I) (f g : Nat) : Int := I 302 (6 * f + g)
def vpm (I : am_I) (f g : Nat) : Int := if vps I f g = -1 then 0 else vps I f g
/-- a candidate -/
def pb (I : am_I) (n S g : Nat) : Int := if g = n then I 301 (rs S) else if tb (rs S) g = true then (if vps I (lw S) g = -1 then -1 else vps I (lw S) g + I 301 (rs S - 2 ^ g)) else -1
def Wb (N : Nat) (W : Nat → Int) : Prop := ∀ S, S < N → 0 ≤ W S ∧ W S ≤ 100000 * S
section
variable {sc : Nat × (Nat → Int)} {d a : Nat} {h : am_H} {I J : am_I} {w : am_Wd}
theorem m_worthRow (s : Sh h) (V : WW (I 284)) (h18 : I 283 18 = -1) (h19 : I 283 19 = -1) {f : Nat} (hf : f < (I 284 0).toNat) : ∀ n : Nat, n ≤ (I 284 0).toNat → ∃ K, ((∀ p, p ≠ 292 → p ≠ 302 → K p = I p) ∧ (∀ j, j < 6 * f → K 302 j = I 302 j) ∧ ∀ g, g < n → (f < g → VS1 (I 284) f g (vps K f g)) ∧ (¬ f < g → vps K f g = -1)) ∧ Ru sc (d + 10) mX12_laysWorth 10 [Vr (some 283), Vi (f : Int), Vi 0] [] (hI h I) = Ru sc (d + 10) mX12_laysWorth 10 [Vr (some 283), Vi (f : Int), Vi (n : Int)] [] (hI h K) := by
  have hF := V.fa
  intro n
  induction n with
  | zero => exact fun _ => ⟨I, ⟨fun _ _ _ => rfl, fun _ _ => rfl, fun g hg => absurd hg (Nat.not_lt_zero g)⟩, rfl⟩
  | succ n ih =>
    intro hn
    obtain ⟨K, ⟨k1, k2, k3⟩, k4⟩ := ih (by omega)
    have e284 : K 284 = I 284 := k1 284 (by decide) (by decide)
    have e283 : K 283 = I 283 := k1 283 (by decide) (by decide)
    have hlt : (n : Int) < I 284 0 := by omega
    have hn6 : n < 6 := by omega
    have hf6 : f < 6 := by omega
    have w1 : w32 (6 * (f : Int)) = 6 * (f : Int) := w32_id (by omega) (by omega)
    have w2 : w32 (6 * (f : Int) + (n : Int)) = ((6 * f + n : Nat) : Int) := by
      rw [w32_id (by omega) (by omega)]
      omega
    have k36 : ((6 * f + n : Nat) : Int) < 36 := by omega
    have wn : w32 ((n : Int) + 1) = ((n + 1 : Nat) : Int) := w32_succ (by omega)
    have fin : ∀ (J : am_I) v, (∀ p, p ≠ 292 → J p = K p) → ((f < n → VS1 (I 284) f n v) ∧ (¬ f < n → v = -1)) → (∀ p, p ≠ 292 → p ≠ 302 → am_u2 J 302 (6 * f + n) v p = I p) ∧ (∀ j, j < 6 * f → am_u2 J 302 (6 * f + n) v 302 j = I 302 j) ∧ ∀ g, g < n + 1 → (f < g → VS1 (I 284) f g (vps (am_u2 J 302 (6 * f + n) v) f g)) ∧ (¬ f < g → vps (am_u2 J 302 (6 * f + n) v) f g = -1) := fun J v hJ hv => by
      refine ⟨fun p p1 p2 => ?_, fun j hj => ?_, fun g hg => ?_⟩
      · rw [u2_o p2, hJ p p1]
        exact k1 p p1 p2
      · rw [u2_j (by omega), hJ 302 (by decide)]
        exact k2 j hj
      · unfold vps
        by_cases e : g = n
        · rw [e, u2_same]
          exact hv
        · rw [u2_j (by omega), hJ 302 (by decide)]
          exact k3 g (by omega)
    by_cases hfn : f < n
    · have hfn' : (f : Int) < (n : Int) := by omega
      have hm := hmW_e V hn6
      have hm36 : (hmW (I 284) n : Int) < 36 := by omega
      obtain ⟨J, b, ⟨m1, m2⟩, m3⟩ := m_canMeet (sc := sc) (d := d) (I := K) s (by rw [e284]; exact V) (by rw [e283]; exact h18) (by rw [e283]; exact h19) hf6 hn6
      rw [e284] at m2
      have j284 : J 284 = I 284 := (m1 284 (by decide)).trans e284
      cases b
      · refine ⟨am_u2 J 302 (6 * f + n) (-1), fin J (-1) m1 ⟨fun _ => Or.inr ⟨(fun z => absurd (m2.mpr z) (by decide)), rfl⟩, fun _ => rfl⟩, ?_⟩
        rw [k4, q_X12_laysWorth_10]
        simp (disch := first | assumption | exact Int.natCast_nonneg _ | decide) only [↓BM s, m_families s, e284, hlt, hfn', m3, w1, w2, k36, wn, e_clI, e_clV, e_clP, e_clIx, e_clVx, e_clPx, e_xt, Int.toNat_natCast, Int.reduceToNat, bz0, bz1, Nat.add_zero, decide_eq_false_iff_not, decide_eq_true_eq, Int.reduceEq, Nat.reduceEqDiff, Int.reduceLT, Int.reduceLE, not_true_eq_false, not_false_eq_true, eq_self, ↓reduceIte]
      · obtain ⟨G, g1, g2⟩ := m_farOf (sc := sc) (d := d + 1) (I := J) s (by rw [j284]; exact V) (by rw [m1 283 (by decide), e283]; exact h18) (by rw [m1 283 (by decide), e283]; exact h19) hf6 hm.2
        rw [j284] at g1
        have gb := farB V (c := (I 284 (307 + 4 * f)).toNat) (hmW_e V hf6).2 g1 (hmW (I 284) n) hm.2
        have w3 : w32 (100000 - G (hmW (I 284) n)) = 100000 - G (hmW (I 284) n) := w32_id (by omega) (by omega)
        have hk0 : (0 : Int) ≤ 0 := by decide
        have m0 := m_ofFamily (sc := sc) (d := d + 7) (I := J) s (f := n) (k := 0) hk0 (by show 307 + 4 * n + 0 < 2329; omega)
        have e0 : J 284 (307 + 4 * n + (0 : Int).toNat) = (hmW (I 284) n : Int) := by rw [j284]; exact hm.1
        rw [e0] at m0
        refine ⟨am_u2 (sr J 292 G) 302 (6 * f + n) (100000 - G (hmW (I 284) n)), fin (sr J 292 G) _ (fun p hp => by rw [sr_ne hp]; exact m1 p hp) ⟨fun _ => Or.inl ⟨m2.mp rfl, G, g1, rfl⟩, fun z => absurd hfn z⟩, ?_⟩
        rw [k4, q_X12_laysWorth_10]
        simp (disch := first | assumption | exact Int.natCast_nonneg _ | decide) only [↓BM s, m_families s, e284, hlt, hfn', m3, m0, g2, w1, w2, w3, k36, wn, Bool.true_eq_false, e_clI, e_clV, e_clP, e_clIx, e_clVx, e_clPx, e_xt, Int.toNat_natCast, Int.reduceToNat, bz0, bz1, Nat.add_zero, decide_eq_false_iff_not, decide_eq_true_eq, Int.reduceEq, Nat.reduceEqDiff, Int.reduceLT, Int.reduceLE, not_true_eq_false, not_false_eq_true, eq_self, ↓reduceIte]
    · have hfn' : ¬ (f : Int) < (n : Int) := by omega
      refine ⟨am_u2 K 302 (6 * f + n) (-1), fin K (-1) (fun _ _ => rfl) ⟨fun z => absurd z hfn, fun _ => rfl⟩, ?_⟩
      rw [k4, q_X12_laysWorth_10]
      simp (disch := first | assumption | exact Int.natCast_nonneg _ | decide) only [↓BM s, m_families s, e284, hlt, hfn', w1, w2, k36, wn, e_clI, e_clV, e_clP, e_clIx, e_clVx, e_clPx, e_xt, Int.toNat_natCast, Int.reduceToNat, bz0, bz1, Nat.add_zero, decide_eq_false_iff_not, decide_eq_true_eq, Int.reduceEq, Nat.reduceEqDiff, Int.reduceLT, Int.reduceLE, not_true_eq_false, not_false_eq_true, eq_self, ↓reduceIte]
theorem m_laysWorth (s : Sh h) (V : WW (I 284)) (h18 : I 283 18 = -1) (h19 : I 283 19 = -1) : ∃ K, ((∀ p, p ≠ 292 → p ≠ 302 → K p = I p) ∧ ∀ f g, f < (I 284 0).toNat → g < (I 284 0).toNat → (f < g → VS1 (I 284) f g (vps K f g)) ∧ (¬ f < g → vps K f g = -1)) ∧ Cl sc (d + 10) mX12_laysWorth [Vr (some 283)] (hI h I) = some (.inl (Vx 0), hI h K) := by
  have hF := V.fa
  have go : ∀ n : Nat, n ≤ (I 284 0).toNat → ∃ K u2, ((∀ p, p ≠ 292 → p ≠ 302 → K p = I p) ∧ ∀ f g, f < n → g < (I 284 0).toNat → (f < g → VS1 (I 284) f g (vps K f g)) ∧ (¬ f < g → vps K f g = -1)) ∧ Ru sc (d + 10) mX12_laysWorth 3 [Vr (some 283), Vi 0, Vx 0] [] (hI h I) = Ru sc (d + 10) mX12_laysWorth 3 [Vr (some 283), Vi (n : Int), u2] [] (hI h K) := by
    intro n
    induction n with
    | zero => exact fun _ => ⟨I, Vx 0, ⟨fun _ _ _ => rfl, fun f g hf => absurd hf (Nat.not_lt_zero f)⟩, rfl⟩
    | succ n ih =>
      intro hn
      obtain ⟨K, u2, ⟨k1, k2⟩, k4⟩ := ih (by omega)
      have e284 : K 284 = I 284 := k1 284 (by decide) (by decide)
      have e283 : K 283 = I 283 := k1 283 (by decide) (by decide)
      have hlt : (n : Int) < I 284 0 := by omega
      obtain ⟨J, ⟨j1, j2, j3⟩, j4⟩ := m_worthRow (sc := sc) (d := d) (I := K) s (by rw [e284]; exact V) (by rw [e283]; exact h18) (by rw [e283]; exact h19) (f := n) (by rw [e284]; omega) (I 284 0).toNat (by rw [e284]; exact Nat.le_refl _)
      rw [e284] at j3
      have j284 : J 284 = I 284 := (j1 284 (by decide) (by decide)).trans e284
      have hlt2 : ¬ (((I 284 0).toNat : Nat) : Int) < I 284 0 := by omega
      refine ⟨J, Vi (((I 284 0).toNat : Nat) : Int), ⟨fun p p1 p2 => (j1 p p1 p2).trans (k1 p p1 p2), fun f g hf hg => ?_⟩, ?_⟩
      · by_cases e : f = n
        · rw [e]
          exact j3 g hg
        · have : vps J f g = vps K f g := j2 _ (by omega)
          rw [this]
          exact k2 f g (by omega) hg
      · rw [k4, q_X12_laysWorth_3]
        simp (disch := first | (simp (disch := omega) only [w32_id]; omega) | omega) only [↓BM s, m_families s, e284, hlt, e_clI, e_clV, e_clP, e_clIx, e_clVx, e_clPx, e_xt, Int.toNat_natCast, Int.reduceToNat, bz0, bz1, Nat.add_zero, decide_eq_false_iff_not, decide_eq_true_eq, Int.reduceEq, Nat.reduceEqDiff, Int.reduceLT, Int.reduceLE, not_true_eq_false, not_false_eq_true, eq_self, ↓reduceIte]
        rw [j4, q_X12_laysWorth_10]
        simp (disch := first | (simp (disch := omega) only [w32_id]; omega) | omega) only [↓BM s, m_families s, j284, hlt2, w32_succ, e_clI, e_clV, e_clP, e_clIx, e_clVx, e_clPx, e_xt, Int.toNat_natCast, Int.reduceToNat, bz0, bz1, Nat.add_zero, decide_eq_false_iff_not, decide_eq_true_eq, Int.reduceEq, Nat.reduceEqDiff, Int.reduceLT, Int.reduceLE, not_true_eq_false, not_false_eq_true, eq_self, ↓reduceIte]
  obtain ⟨K, u2, ⟨k1, k2⟩, k4⟩ := go (I 284 0).toNat (Nat.le_refl _)
  refine ⟨K, ⟨k1, k2⟩, ?_⟩
  have e284 : K 284 = I 284 := k1 284 (by decide) (by decide)
  have hlt2 : ¬ (((I 284 0).toNat : Nat) : Int) < I 284 0 := by omega
  rw [q_X12_laysWorth_0, k4, q_X12_laysWorth_3]
  simp (disch := first | (simp (disch := omega) only [w32_id]; omega) | omega) only [↓BM s, m_families s, e284, hlt2, e_clI, e_clV, e_clP, e_clIx, e_clVx, e_clPx, e_xt, Int.toNat_natCast, Int.reduceToNat, bz0, bz1, Nat.add_zero, decide_eq_false_iff_not, decide_eq_true_eq, Int.reduceEq, Nat.reduceEqDiff, Int.reduceLT, Int.reduceLE, not_true_eq_false, not_false_eq_true, eq_self, ↓reduceIte]
theorem m_firstOf {S : Nat} (hS : S < 64) (h1 : 1 ≤ S) {h : am_H} : Cl sc (d + 2) mX12_firstOf [Vi (S : Int)] h = some (.inl (Vi (lw S : Int)), h) := by
  have nt := nt_1 S hS h1
  rw [← nt.2]
  have hX := nt.1
  have e42 : ∀ x a, Ru sc (d + 1) mJ6_numberOfTrailingZeros_0f7a4 42 [Vi x, Vi a] [] h = some (.inl (Vi (ntA x a)), h) := fun x a => by
    rw [q_J6_numberOfTrailingZeros_0f7a4_42]
    unfold ntA
    split <;> rfl
  have key : Cl sc (d + 1) mJ6_numberOfTrailingZeros_0f7a4 [Vi (S : Int)] h = some (.inl (Vi (ntV (S : Int))), h) := by
    rw [q_J6_numberOfTrailingZeros_0f7a4_0]
    show (if 0 < ntX (S : Int) then (if 65536 < ntX (S : Int) then _ else Ru sc (d + 1) mJ6_numberOfTrailingZeros_0f7a4 25 [Vi (ntX (S : Int)), Vi 1] [] h) else some (.inl (Vi (bAnd (ntX (S : Int)) 32)), h)) = _
    unfold ntV
    generalize ntX (S : Int) = x at hX
    by_cases g0 : 0 < x
    · rw [if_pos g0, if_pos g0, if_neg (by omega), q_J6_numberOfTrailingZeros_0f7a4_25, if_neg (by omega)]
      by_cases g1 : 16 < x
      · rw [if_pos g1, if_pos g1, e42]
      · rw [if_neg g1, if_neg g1, e42]
    · rw [if_neg g0, if_neg g0]
  rw [q_X12_firstOf_0, key, e_clI]
theorem m_pairedBy (s : Sh h) {n : Nat} (hn : n < 7) (hw : I 284 0 = (n : Int)) {S g : Nat} (h1 : 1 ≤ S) (hS : S < 2 ^ n) (hg : g ≤ n) (hW : Wb S (I 301)) (hv : ∀ f g, f < g → g < n → vps I f g = -1 ∨ (96400 ≤ vps I f g ∧ vps I f g ≤ 100000)) : Cl sc (d + 3) mX12_pairedBy [Vr (some 283), Vi (S : Int), Vi (g : Int)] (hI h I) = some (.inl (Vi (pb I n S g)), hI h I) := by
  have h64 := two_le hn
  have hS64 : S < 64 := Nat.lt_of_lt_of_le hS h64
  have t4 := tb_4 S hS64 h1
  have hr := rs_lt hS64 h1
  have er : bAnd (S : Int) (bXor (bShl 1 (lw S : Int)) (-1)) = ((rs S : Nat) : Int) := (tb_2 S hS64 (lw S) t4.1.2 t4.1.1).1
  have hr64 : (rs S : Int) < 64 := by clear er; omega
  have hf6 : lw S < 6 := t4.1.2
  rw [q_X12_pairedBy_0]
  unfold pb
  by_cases e : g = n
  · have e' : (g : Int) = I 284 0 := by rw [hw, e]
    rw [if_pos e]
    simp (disch := first | assumption | exact Int.natCast_nonneg _ | decide) only [m_firstOf hS64 h1, ↓BM s, m_families s, e', er, hr64, e_clI, e_clV, e_clP, e_clIx, e_clVx, e_clPx, e_xt, Int.toNat_natCast, Int.reduceToNat, bz0, bz1, Nat.add_zero, decide_eq_false_iff_not, decide_eq_true_eq, Int.reduceEq, Nat.reduceEqDiff, Int.reduceLT, Int.reduceLE, not_true_eq_false, not_false_eq_true, eq_self, ↓reduceIte]
  · have e' : ¬ (g : Int) = I 284 0 := by rw [hw]; clear er; omega
    have hg6 : g < 6 := by clear er; omega
    rw [if_neg e]
    cases hb : tb (rs S) g
    · have hh : Cl sc (d + 2) mX12_has [Vi ((rs S : Nat) : Int), Vi (g : Int)] (hI h I) = some (.inl (Vi 0), hI h I) := by
        rw [q_X12_has_0, if_neg (tb_F (Nat.lt_trans hr hS64) hg6 hb)]
      rw [if_neg (show ¬ (false = true) by decide)]
      simp (disch := first | assumption | exact Int.natCast_nonneg _ | decide) only [m_firstOf hS64 h1, ↓BM s, m_families s, e', er, hh, e_clI, e_clV, e_clP, e_clIx, e_clVx, e_clPx, e_xt, Int.toNat_natCast, Int.reduceToNat, bz0, bz1, Nat.add_zero, decide_eq_false_iff_not, decide_eq_true_eq, Int.reduceEq, Nat.reduceEqDiff, Int.reduceLT, Int.reduceLE, not_true_eq_false, not_false_eq_true, eq_self, ↓reduceIte]
    · have hh : Cl sc (d + 2) mX12_has [Vi ((rs S : Nat) : Int), Vi (g : Int)] (hI h I) = some (.inl (Vi 1), hI h I) := by
        rw [q_X12_has_0, if_pos (tb_T (Nat.lt_trans hr hS64) hg6 hb)]
      have t3 := tb_3 S hS64 (lw S) t4.1.2 t4.1.1 g hg6
      have hb2 : tb (S - 2 ^ lw S) g = true := hb
      rw [t3, Bool.and_eq_true, decide_eq_true_eq] at hb2
      have hgn : g < n := by clear er t3; omega
      have hlg : lw S < g := by
        rcases Nat.lt_or_ge g (lw S) with z | z
        · rw [t4.2 g hg6 z] at hb2
          cases hb2.1
        · have := hb2.2
          clear er t3
          omega
      have hvv := hv (lw S) g hlg hgn
      have w1 : w32 (6 * (lw S : Int)) = 6 * (lw S : Int) := by clear er t3; exact w32_id (by omega) (by omega)
      have w2 : w32 (6 * (lw S : Int) + (g : Int)) = ((6 * lw S + g : Nat) : Int) := by
        clear er t3 w1
        rw [w32_id (by omega) (by omega)]
        omega
      have k36 : ((6 * lw S + g : Nat) : Int) < 36 := by clear er t3 w1 w2; omega
      have ev : I 302 (6 * lw S + g) = vps I (lw S) g := rfl
      rw [if_pos (show true = true from rfl)]
      by_cases hm : vps I (lw S) g = -1
      · rw [if_pos hm]
        simp (disch := first | assumption | exact Int.natCast_nonneg _ | decide) only [m_firstOf hS64 h1, ↓BM s, m_families s, e', er, hh, w1, w2, k36, ev, hm, e_clI, e_clV, e_clP, e_clIx, e_clVx, e_clPx, e_xt, Int.toNat_natCast, Int.reduceToNat, bz0, bz1, Nat.add_zero, decide_eq_false_iff_not, decide_eq_true_eq, Int.reduceEq, Nat.reduceEqDiff, Int.reduceLT, Int.reduceLE, not_true_eq_false, not_false_eq_true, eq_self, ↓reduceIte]
      · rw [if_neg hm]
        have er2 : bAnd ((rs S : Nat) : Int) (bXor (bShl 1 (g : Int)) (-1)) = ((rs S - 2 ^ g : Nat) : Int) := (tb_2 (rs S) (Nat.lt_trans hr hS64) g hg6 hb).1
        have hTl := tb_lt (Nat.lt_trans hr hS64) hg6 hb
        have bT := hW (rs S - 2 ^ g) (Nat.lt_trans hTl hr)
        obtain ⟨T, eT⟩ : ∃ T, T = rs S - 2 ^ g := ⟨_, rfl⟩
        rw [← eT] at er2 hTl bT ⊢
        have hl64 : (T : Int) < 64 := by clear er er2 t3 w1 w2 eT; omega
        have w3 : w32 (vps I (lw S) g + I 301 T) = vps I (lw S) g + I 301 T := by
          clear er er2 t3 w1 w2 eT
          exact w32_id (by omega) (by omega)
        simp (disch := first | assumption | exact Int.natCast_nonneg _ | decide) only [m_firstOf hS64 h1, ↓BM s, m_families s, e', er, er2, hh, w1, w2, w3, k36, ev, hm, hl64, e_clI, e_clV, e_clP, e_clIx, e_clVx, e_clPx, e_xt, Int.toNat_natCast, Int.reduceToNat, bz0, bz1, Nat.add_zero, decide_eq_false_iff_not, decide_eq_true_eq, Int.reduceEq, Nat.reduceEqDiff, Int.reduceLT, Int.reduceLE, not_true_eq_false, not_false_eq_true, eq_self, ↓reduceIte]
end
