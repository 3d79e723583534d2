/-! PAIRS: the class -/
def MtF (w : am_Wd) (f g : Nat) : Prop := conn lc mc (fun b => opS w (-1) (-1) b (w (307 + 4 * f + 1))) 60 (w (307 + 4 * f)).toNat (w (307 + 4 * g)).toNat ∧ conn lc mc (fun b => opS w (-1) (-1) b (w (307 + 4 * g + 1))) 60 (w (307 + 4 * g)).toNat (w (307 + 4 * f)).toNat
def VP1 (w : am_Wd) (f g : Nat) (v : Int) : Prop := (MtF w f g ∧ ∃ F, Lst pl (adM w (-1) (-1) 0 (w (307 + 4 * f + 1))) (ini (w (307 + 4 * f)).toNat) F ∧ v = 100000 - F (hmW w g)) ∨ (¬ MtF w f g ∧ v = 0)
theorem VP1.uni {w : am_Wd} (V : WW w) {f g : Nat} (hg : g < 6) {v v' : Int} (h : VP1 w f g v) (h' : VP1 w f g v') : v = v' := by
  rcases h with ⟨m, F, l, e⟩ | ⟨m, e⟩
  · rcases h' with ⟨m', F', l', e'⟩ | ⟨m', e'⟩
    · rw [e, e', l.uni l' _ (hmW_e V hg).2]
    · exact absurd m m'
  · rcases h' with ⟨m', F', l', e'⟩ | ⟨m', e'⟩
    · exact absurd m' m
    · rw [e, e']
theorem VP1.b {w : am_Wd} (V : WW w) {f g : Nat} (hf : f < 6) (hg : g < 6) {v : Int} (h : VP1 w f g v) : v = 0 ∨ (96400 ≤ v ∧ v ≤ 100000) := by
  rcases h with ⟨m, F, l, e⟩ | ⟨m, e⟩
  · have hm := hmW_e V hg
    have hmf := hmW_e V hf
    have b := farB V (c := (w (307 + 4 * f)).toNat) hmf.2 l (hmW w g) hm.2
    have lt := (far_iff V hmf.2 l hm.2).mpr m.1
    have := b.2.2 lt
    omega
  · exact Or.inl e
section
variable {sc : Nat × (Nat → Int)} {d a : Nat} {h : am_H} {I J : am_I} {w : am_Wd}
theorem Sh.wp (s : Sh h) {f : Nat} (hf : f < 6) : rP h 127 f = some (128 + f) ∧ hT h (128 + f) = (1, 6) := by
  have : (127, f, 128 + f) ∈ shP := (by decide +kernel : ∀ f, f < 6 → (127, f, 128 + f) ∈ shP) f hf
  have h2 : shT.getD (128 + f) (0, 0) = (1, 6) ∧ Nat.blt (128 + f) 304 = true := (by decide +kernel : ∀ f, f < 6 → shT.getD (128 + f) (0, 0) = (1, 6) ∧ Nat.blt (128 + f) 304 = true) f hf
  exact ⟨s.2.1 _ this, by rw [s.T _ h2.2]; exact h2.1⟩
theorem c_valueRow (s : Sh h) (c : Cty h a) (ha : a + 11 < 48) (R : CRep I a w) (V : WW w) {f : Nat} (hf : f < (w 0).toNat) {F : Nat → Int} (hF1 : I 125 = F) (hFb : bnd F 36) (L : Lst pl (adM w (-1) (-1) 0 (w (307 + 4 * f + 1))) (ini (w (307 + 4 * f)).toNat) F) : ∀ n : Nat, f + 1 + n ≤ (w 0).toNat → ∃ K, (Ks I K ∧ K 125 = F ∧ (∀ p, 128 ≤ p → p ≤ 135 → p ≠ 128 + f → K p = I p) ∧ ∀ g, f < g → g < f + 1 + n → VP1 w f g (K (128 + f) g)) ∧ Ru sc (d + 6) mX6_valuePairs 19 [Vr (some 124), Vr (some a), Vi (f : Int), Vi ((f + 1 : Nat) : Int)] [] (hI h I) = Ru sc (d + 6) mX6_valuePairs 19 [Vr (some 124), Vr (some a), Vi (f : Int), Vi ((f + 1 + n : Nat) : Int)] [] (hI h K) := by
  have hfa := V.fa
  have wp := s.wp (show f < 6 by omega)
  have t1 : rP h 127 f = some (128 + f) := wp.1
  intro n
  induction n with
  | zero => exact fun _ => ⟨I, ⟨Ks.rf I, hF1, fun _ _ _ _ => rfl, fun g h1 h2 => by omega⟩, rfl⟩
  | succ n ih =>
    intro hn
    obtain ⟨K, ⟨k1, k2, k3, k4⟩, k5⟩ := ih (by omega)
    have R2 : CRep K a w := k1.c (Or.inl ha) R
    have hg6 : f + 1 + n < 6 := by omega
    have hg6' : ((f + 1 + n : Nat) : Int) < 6 := by omega
    have hf6' : (f : Int) < 6 := by omega
    have hlt : ((f + 1 + n : Nat) : Int) < w 0 := by omega
    have e1 := R2.fa
    obtain ⟨J, b, ⟨j1, j2⟩, j3⟩ := c_doMeet (sc := sc) (d := d + 1) s c ha R2 V (f := f) (g := f + 1 + n) (by omega) hg6
    have hm := hmW_e V hg6
    have hm36 : (hmW w (f + 1 + n) : Int) < 36 := by omega
    have e2 := (j1.ks.c (Or.inl ha) R2).ho hg6
    rw [hm.1] at e2
    have j125 : J 125 = F := (j1 125 (by omega)).trans k2
    have wn : w32 (((f + 1 + n : Nat) : Int) + 1) = ((f + 1 + (n + 1) : Nat) : Int) := w32_succ (by omega)
    have hb := hFb _ hm.2
    have fr : ∀ v, Ks I (am_u2 J (128 + f) (f + 1 + n) v) ∧ am_u2 J (128 + f) (f + 1 + n) v 125 = F ∧ (∀ p, 128 ≤ p → p ≤ 135 → p ≠ 128 + f → am_u2 J (128 + f) (f + 1 + n) v p = I p) := fun v => by
      refine ⟨?_, ?_, fun p p1 p2 p3 => ?_⟩
      · rw [u2_as]
        exact (k1.tr j1.ks).sr (by omega)
      · rw [u2_o (by omega)]
        exact j125
      · rw [u2_o p3, j1 p (by omega)]
        exact k3 p p1 p2 p3
    have old : ∀ v g, f < g → g < f + 1 + n → VP1 w f g (am_u2 J (128 + f) (f + 1 + n) v (128 + f) g) := fun v g g1 g2 => by
      rw [u2_j (by omega), j1 (128 + f) (by omega)]
      exact k4 g g1 g2
    cases b
    · refine ⟨am_u2 J (128 + f) (f + 1 + n) 0, ⟨(fr 0).1, (fr 0).2.1, (fr 0).2.2, fun g g1 g2 => ?_⟩, ?_⟩
      · by_cases e : g = f + 1 + n
        · rw [e, u2_same]
          exact Or.inr ⟨(fun m => absurd (j2.mpr m) (by decide)), rfl⟩
        · exact old 0 g g1 (by omega)
      · rw [k5, q_X6_valuePairs_19]
        simp (disch := first | (simp (disch := omega) only [w32_id]; omega) | omega) only [↓BC c, ↓BN s, e1, hlt, hf6', t1, j3, e_stA wp.2, wn, e_clI, e_clV, e_clP, e_clIx, e_clVx, e_clPx, e_xt, Int.toNat_natCast, Int.reduceToNat, bz0, bz1, Nat.add_zero, decide_eq_false_iff_not, decide_eq_true_eq, Int.reduceEq, Nat.reduceEqDiff, Int.reduceLT, Int.reduceLE, not_true_eq_false, not_false_eq_true, eq_self, ↓reduceIte]
    · refine ⟨am_u2 J (128 + f) (f + 1 + n) (100000 - F (hmW w (f + 1 + n))), ⟨(fr _).1, (fr _).2.1, (fr _).2.2, fun g g1 g2 => ?_⟩, ?_⟩
      · by_cases e : g = f + 1 + n
        · rw [e, u2_same]
          exact Or.inl ⟨j2.mp rfl, F, L, rfl⟩
        · exact old _ g g1 (by omega)
      · have w1 : w32 (100000 - F (hmW w (f + 1 + n))) = 100000 - F (hmW w (f + 1 + n)) := w32_id (by omega) (by omega)
        rw [k5, q_X6_valuePairs_19]
        simp (disch := first | (simp (disch := omega) only [w32_id]; omega) | omega) only [↓BC c, ↓BN s, e1, hlt, hf6', t1, j3, e2, hm36, j125, w1, e_stA wp.2, wn, Bool.true_eq_false, e_clI, e_clV, e_clP, e_clIx, e_clVx, e_clPx, e_xt, Int.toNat_natCast, Int.reduceToNat, bz0, bz1, Nat.add_zero, decide_eq_false_iff_not, decide_eq_true_eq, Int.reduceEq, Nat.reduceEqDiff, Int.reduceLT, Int.reduceLE, not_true_eq_false, not_false_eq_true, eq_self, ↓reduceIte]
def vpc (I : am_I) : Nat → Nat → Int := fun f g => if f < 6 then I (128 + f) g else 0
theorem c_valuePairs (s : Sh h) (c : Cty h a) (ha : a + 11 < 48) (R : CRep I a w) (V : WW w) : ∃ K, (Ks I K ∧ ∀ f g, f < g → g < (w 0).toNat → VP1 w f g (vpc K f g)) ∧ Cl sc (d + 7) mX6_valuePairs [Vr (some 124), Vr (some a)] (hI h I) = some (.inl (Vx 0), hI h K) := by
  have hfa := V.fa
  have go : ∀ n : Nat, n ≤ (w 0).toNat → ∃ K u3, (Ks I K ∧ ∀ f g, f < n → f < g → g < (w 0).toNat → VP1 w f g (vpc K f g)) ∧ Ru sc (d + 7) mX6_valuePairs 3 [Vr (some 124), Vr (some a), Vi 0, Vx 0] [] (hI h I) = Ru sc (d + 7) mX6_valuePairs 3 [Vr (some 124), Vr (some a), Vi (n : Int), u3] [] (hI h K) := by
    intro n
    induction n with
    | zero => exact fun _ => ⟨I, Vx 0, ⟨Ks.rf I, fun f g h1 => absurd h1 (Nat.not_lt_zero f)⟩, rfl⟩
    | succ n ih =>
      intro hn
      obtain ⟨K, u3, ⟨k1, k2⟩, k3⟩ := ih (by omega)
      have R2 : CRep K a w := k1.c (Or.inl ha) R
      have hlt : (n : Int) < w 0 := by omega
      have e1 := R2.fa
      have hT : hT h 125 = (1, 36) := s.T 125 rfl
      obtain ⟨J, F, ⟨j1, j2, j3, j4, j5⟩, j6⟩ := c_fromHome (sc := sc) (d := d) s c ha R2 V (f := n) (by omega) hT (by decide) (by decide) (by decide) (by decide)
      have R3 : CRep J a w := j1.c (Or.inl ha) R2
      obtain ⟨M, ⟨m1, m2, m3, m4⟩, m5⟩ := c_valueRow (sc := sc) (d := d + 1) s c ha R3 V (f := n) (by omega) j3 j4 j5 ((w 0).toNat - (n + 1)) (by omega)
      have hfin : n + 1 + ((w 0).toNat - (n + 1)) = (w 0).toNat := by omega
      rw [hfin] at m4 m5
      have R4 : CRep M a w := m1.c (Or.inl ha) R3
      have e4 := R4.fa
      refine ⟨M, Vi (((w 0).toNat : Nat) : Int), ⟨(k1.tr j1).tr m1, fun f g h1 h2 h3 => ?_⟩, ?_⟩
      · by_cases e : f = n
        · rw [e] at h2 ⊢
          unfold vpc
          rw [if_pos (by omega)]
          exact m4 g h2 h3
        · have k2' := k2 f g (by omega) h2 h3
          unfold vpc at k2' ⊢
          rw [if_pos (by omega)] at k2' ⊢
          rw [m3 (128 + f) (by omega) (by omega) (by omega), j2 (128 + f) (by omega) (by omega)]
          exact k2'
      · have wn : w32 ((n : Int) + 1) = ((n + 1 : Nat) : Int) := w32_succ (by omega)
        have hlt2 : ¬ (((w 0).toNat : Nat) : Int) < w 0 := by omega
        rw [k3, q_X6_valuePairs_3]
        simp (disch := first | (simp (disch := omega) only [w32_id]; omega) | omega) only [↓BC c, ↓BN s, ↓BW s, e1, hlt, j6, wn, e_clI, e_clV, e_clP, e_clIx, e_clVx, e_clPx, e_xt, Int.toNat_natCast, Int.reduceToNat, bz0, bz1, Nat.add_zero, decide_eq_false_iff_not, decide_eq_true_eq, Int.reduceEq, Nat.reduceEqDiff, Int.reduceLT, Int.reduceLE, not_true_eq_false, not_false_eq_true, eq_self, ↓reduceIte]
        rw [m5, q_X6_valuePairs_19]
        simp (disch := first | (simp (disch := omega) only [w32_id]; omega) | omega) only [↓BC c, e4, hlt2, wn, e_clI, e_clV, e_clP, e_clIx, e_clVx, e_clPx, e_xt, Int.toNat_natCast, Int.reduceToNat, bz0, bz1, Nat.add_zero, decide_eq_false_iff_not, decide_eq_true_eq, Int.reduceEq, Nat.reduceEqDiff, Int.reduceLT, Int.reduceLE, not_true_eq_false, not_false_eq_true, eq_self, ↓reduceIte]
  obtain ⟨K, u3, ⟨k1, k2⟩, k3⟩ := go (w 0).toNat (Nat.le_refl _)
  refine ⟨K, ⟨k1, fun f g h1 h2 => k2 f g (by omega) h1 h2⟩, ?_⟩
  have e1 := (k1.c (Or.inl ha) R).fa
  have hlt2 : ¬ (((w 0).toNat : Nat) : Int) < w 0 := by omega
  rw [q_X6_valuePairs_0, k3, q_X6_valuePairs_3]
  simp (disch := first | (simp (disch := omega) only [w32_id]; omega) | omega) only [↓BC c, e1, hlt2, e_clI, e_clV, e_clP, e_clIx, e_clVx, e_clPx, e_xt, Int.toNat_natCast, Int.reduceToNat, bz0, bz1, Nat.add_zero, decide_eq_false_iff_not, decide_eq_true_eq, Int.reduceEq, Nat.reduceEqDiff, Int.reduceLT, Int.reduceLE, not_true_eq_false, not_false_eq_true, eq_self, ↓reduceIte]
theorem c_lowestOf {S : Nat} (hS : S < 64) (h1 : 1 ≤ S) {h : am_H} : Cl sc (d + 1) mX6_lowestOf [Vi (S : Int)] h = some (.inl (Vi (lw S : Int)), h) := by
  have t : ∀ g : Nat, g < 6 → bAnd (bShr (S : Int) (g : Int)) 1 = if tb S g = true then 1 else 0 := tb_1 S hS
  have t4 := tb_4 S hS h1
  have go : ∀ n : Nat, n ≤ lw S → Ru sc (d + 1) mX6_lowestOf 3 [Vi (S : Int), Vi 0] [] h = Ru sc (d + 1) mX6_lowestOf 3 [Vi (S : Int), Vi (n : Int)] [] h := by
    intro n
    induction n with
    | zero => exact fun _ => rfl
    | succ n ih =>
      intro hn
      have t0 := t n (by omega)
      rw [t4.2 n (by omega) (by omega), if_neg (by decide)] at t0
      rw [ih (by omega), q_X6_lowestOf_3, if_pos (by omega), if_pos t0, w32_succ (by omega)]
  rw [q_X6_lowestOf_0, go (lw S) (Nat.le_refl _), q_X6_lowestOf_3]
  by_cases g : (lw S : Int) < 5
  · have t0 := t (lw S) (by omega)
    rw [t4.1.1, if_pos rfl] at t0
    rw [if_pos g, if_neg (by omega)]
  · rw [if_neg g]
end
