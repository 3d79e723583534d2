/-! THE REFERENCE'S CUT -/
section
variable {sc : Nat × (Nat → Int)} {d a : Nat} {h : am_H} {I J : am_I} {w : am_Wd}
theorem m_mayGo (s : Sh h) {O : Nat → Bool} {t : Int} (hO : ∀ b, b < 60 → opS (I 284) (I 283 18) (I 283 19) b t = O b) {b p : Nat} (hb : b < 60) : (Rm O (I 294) b p → Cl sc (d + 5) mX12_mayGo [Vr (some 283), Vi (b : Int), Vi (p : Int), Vi t] (hI h I) = some (.inl (Vi 1), hI h I)) ∧ (¬ Rm O (I 294) b p → Cl sc (d + 5) mX12_mayGo [Vr (some 283), Vi (b : Int), Vi (p : Int), Vi t] (hI h I) = some (.inl (Vi 0), hI h I)) := by
  have ho := m_isOpen (sc := sc) (d := d) (I := I) (t := t) s hb
  rw [hO b hb] at ho
  constructor
  · intro ⟨r1, r2⟩
    rw [r1] at ho
    rw [q_X12_mayGo_0]
    by_cases e : lc b = p
    · have e' : ((lc b : Nat) : Int) = p := by omega
      rw [if_pos e] at r2
      simp (disch := first | (simp (disch := omega) only [w32_id]; omega) | omega) only [↓BM s, ho, c_lessOf hb, e', r2, Bool.true_eq_false, e_clI, e_clV, e_clP, e_clIx, e_clVx, e_clPx, e_xt, Int.toNat_natCast, Int.reduceToNat, bz0, bz1, Nat.add_zero, decide_eq_false_iff_not, decide_eq_true_eq, Int.reduceEq, Nat.reduceEqDiff, Int.reduceLT, Int.reduceLE, not_true_eq_false, not_false_eq_true, eq_self, ↓reduceIte]
    · have e' : ¬ ((lc b : Nat) : Int) = p := by omega
      rw [if_neg e] at r2
      simp (disch := first | (simp (disch := omega) only [w32_id]; omega) | omega) only [↓BM s, ho, c_lessOf hb, e', r2, Bool.true_eq_false, e_clI, e_clV, e_clP, e_clIx, e_clVx, e_clPx, e_xt, Int.toNat_natCast, Int.reduceToNat, bz0, bz1, Nat.add_zero, decide_eq_false_iff_not, decide_eq_true_eq, Int.reduceEq, Nat.reduceEqDiff, Int.reduceLT, Int.reduceLE, not_true_eq_false, not_false_eq_true, eq_self, ↓reduceIte]
  · intro hr
    rw [q_X12_mayGo_0]
    cases r1 : O b
    · rw [r1] at ho
      simp (disch := first | (simp (disch := omega) only [w32_id]; omega) | omega) only [↓BM s, ho, Bool.false_eq_true, e_clI, e_clV, e_clP, e_clIx, e_clVx, e_clPx, e_xt, Int.toNat_natCast, Int.reduceToNat, bz0, bz1, Nat.add_zero, decide_eq_false_iff_not, decide_eq_true_eq, Int.reduceEq, Nat.reduceEqDiff, Int.reduceLT, Int.reduceLE, not_true_eq_false, not_false_eq_true, eq_self, ↓reduceIte]
    · rw [r1] at ho
      by_cases e : lc b = p
      · have e' : ((lc b : Nat) : Int) = p := by omega
        have r2 : I 294 b = 1 := Classical.byContradiction fun z => hr ⟨r1, by rw [if_pos e]; exact z⟩
        simp (disch := first | (simp (disch := omega) only [w32_id]; omega) | omega) only [↓BM s, ho, c_lessOf hb, e', r2, Bool.true_eq_false, e_clI, e_clV, e_clP, e_clIx, e_clVx, e_clPx, e_xt, Int.toNat_natCast, Int.reduceToNat, bz0, bz1, Nat.add_zero, decide_eq_false_iff_not, decide_eq_true_eq, Int.reduceEq, Nat.reduceEqDiff, Int.reduceLT, Int.reduceLE, not_true_eq_false, not_false_eq_true, eq_self, ↓reduceIte]
      · have e' : ¬ ((lc b : Nat) : Int) = p := by omega
        have r2 : I 294 b = -1 := Classical.byContradiction fun z => hr ⟨r1, by rw [if_neg e]; exact z⟩
        simp (disch := first | (simp (disch := omega) only [w32_id]; omega) | omega) only [↓BM s, ho, c_lessOf hb, e', r2, Bool.true_eq_false, e_clI, e_clV, e_clP, e_clIx, e_clVx, e_clPx, e_xt, Int.toNat_natCast, Int.reduceToNat, bz0, bz1, Nat.add_zero, decide_eq_false_iff_not, decide_eq_true_eq, Int.reduceEq, Nat.reduceEqDiff, Int.reduceLT, Int.reduceLE, not_true_eq_false, not_false_eq_true, eq_self, ↓reduceIte]
/-- grown from C, with ch as a sign -/
def Gw (R : Nat → Nat → Prop) (x : Nat) (C : Nat → Int) (ch : Int) (Q : (Nat → Bool) → Prop) (C' : Nat → Int) (ch' : Int) : Prop := (∃ rk, Tr R x C' rk) ∧ C' x = 60 ∧ (∀ v, Vs x C v = true → Vs x C' v = true) ∧ ((ch' = ch ∧ C' = C ∧ Q (Vs x C)) ∨ (ch' = 1 ∧ nn (Vs x C) 36 < nn (Vs x C') 36))
theorem Gw.rf {R : Nat → Nat → Prop} {x : Nat} {C : Nat → Int} {ch : Int} {Q : (Nat → Bool) → Prop} (h1 : ∃ rk, Tr R x C rk) (h2 : C x = 60) (h3 : Q (Vs x C)) : Gw R x C ch Q C ch := ⟨h1, h2, fun _ z => z, Or.inl ⟨rfl, rfl, h3⟩⟩
theorem Gw.tr {R : Nat → Nat → Prop} {x : Nat} {C C1 C2 : Nat → Int} {ch ch1 ch2 : Int} {Q Q1 Q2 : (Nat → Bool) → Prop} (a : Gw R x C ch Q C1 ch1) (b : Gw R x C1 ch1 Q1 C2 ch2) (hq : Q (Vs x C) → Q1 (Vs x C) → Q2 (Vs x C)) : Gw R x C ch Q2 C2 ch2 := by
  obtain ⟨a1, a2, a3, a4⟩ := a
  obtain ⟨b1, b2, b3, b4⟩ := b
  have hm := nn_mono (N := 36) (fun u _ => a3 u)
  have hm2 := nn_mono (N := 36) (fun u _ => b3 u)
  refine ⟨b1, b2, fun v z => b3 v (a3 v z), ?_⟩
  rcases b4 with ⟨b4, b5, b6⟩ | ⟨b4, b5⟩
  · rcases a4 with ⟨a4, a5, a6⟩ | ⟨a4, a5⟩
    · rw [a5] at b6
      exact Or.inl ⟨b4.trans a4, b5.trans a5, hq a6 b6⟩
    · exact Or.inr ⟨b4.trans a4, by rw [b5]; exact a5⟩
  · exact Or.inr ⟨b4, by omega⟩
theorem m_sideStep (s : Sh h) {O : Nat → Bool} {t : Int} (hO : ∀ b, b < 60 → opS (I 284) (I 283 18) (I 283 19) b t = O b) {x y : Nat} (hx : x < 36) {c : Nat} (hc : c < 36) {k : Nat} (hk : k < 4) {C : Nat → Int} {ch : Int} (T : ∃ rk, Tr (Rm O (I 294)) x C rk) (h60 : C x = 60) (hC : ¬ C c = -1) {u7 : am_V} : ∃ ch' C', Gw (Rm O (I 294)) x C ch (fun S => sd c k ≠ -1 → Rm O (I 294) (sd c k).toNat c → S (ov (sd c k).toNat c) = true) C' ch' ∧ Ru sc (d + 6) mX12_goesOnce 40 [Vr (some 283), Vi (x : Int), Vi (y : Int), Vi t, Vi ch, Vi (c : Int), Vi (k : Int), u7] [] (hI h (sr I 295 C)) = Ru sc (d + 6) mX12_goesOnce 40 [Vr (some 283), Vi (x : Int), Vi (y : Int), Vi t, Vi ch', Vi (c : Int), Vi ((k + 1 : Nat) : Int), Vi (sd c k)] [] (hI h (sr I 295 C')) := by
  have hlt : (k : Int) < 4 := by omega
  by_cases hs : sd c k = -1
  · refine ⟨ch, C, Gw.rf T h60 (fun z => absurd hs z), ?_⟩
    rw [q_X12_goesOnce_40, hs]
    simp (disch := first | (simp (disch := omega) only [w32_id]; omega) | omega) only [↓BM s, hlt, sr_q, hC, c_sideOf hc hk, hs, w32_succ, e_clI, e_clV, e_clP, e_clIx, e_clVx, e_clPx, e_xt, Int.toNat_natCast, Int.reduceToNat, bz0, bz1, Nat.add_zero, decide_eq_false_iff_not, decide_eq_true_eq, Int.reduceEq, Nat.reduceEqDiff, Int.reduceLT, Int.reduceLE, not_true_eq_false, not_false_eq_true, eq_self, ↓reduceIte]
  · obtain ⟨s1, s2, s3⟩ := sd_jo c hc k hk hs
    obtain ⟨b, hb⟩ : ∃ b : Nat, sd c k = b := ⟨(sd c k).toNat, by omega⟩
    rw [hb, Int.toNat_natCast] at s2 s3
    have hb60 : b < 60 := by omega
    have hbn : ¬ (b : Int) = -1 := by omega
    have jj := jo_at hb60 s2
    by_cases hC2 : C (ov b c) = -1
    · have rm := m_mayGo (sc := sc) (d := d) (I := sr I 295 C) (O := O) (t := t) s (fun b hb => by
        rw [sr_ne (by decide), sr_ne (by decide)]
        exact hO b hb) (b := b) (p := c) hb60
      rw [sr_ne (show 294 ≠ 295 by decide)] at rm
      by_cases hR : Rm O (I 294) b c
      · have r1 := rm.1 hR
        obtain ⟨rk, T⟩ := T
        have hne : ov b c ≠ x := fun z => by rw [z, h60] at hC2; omega
        have hno := Vs_no (C := C) hne hC2
        obtain ⟨t1, t2, t3⟩ := T.add hb60 hc s3 s2 hR (Vs_c hC) hno
        refine ⟨1, up C (ov b c) b, ⟨t1, by rw [up_o (fun z => hne z.symm)]; exact h60, fun v z => by rw [t3, z, Bool.true_or], Or.inr ⟨rfl, by omega⟩⟩, ?_⟩
        rw [q_X12_goesOnce_40, hb]
        simp (disch := first | (simp (disch := omega) only [w32_id]; omega) | omega) only [↓BM s, hlt, sr_q, hC, c_sideOf hc hk, hb, hbn, c_otherOf hb60 jj.2.2.2.1, hC2, r1, u2_sr, w32_succ, e_clI, e_clV, e_clP, e_clIx, e_clVx, e_clPx, e_xt, Int.toNat_natCast, Int.reduceToNat, bz0, bz1, Nat.add_zero, decide_eq_false_iff_not, decide_eq_true_eq, Int.reduceEq, Nat.reduceEqDiff, Int.reduceLT, Int.reduceLE, not_true_eq_false, not_false_eq_true, eq_self, ↓reduceIte]
      · have r1 := rm.2 hR
        refine ⟨ch, C, Gw.rf T h60 (fun _ z => by rw [hb, Int.toNat_natCast] at z; exact absurd z hR), ?_⟩
        rw [q_X12_goesOnce_40, hb]
        simp (disch := first | (simp (disch := omega) only [w32_id]; omega) | omega) only [↓BM s, hlt, sr_q, hC, c_sideOf hc hk, hb, hbn, c_otherOf hb60 jj.2.2.2.1, hC2, r1, w32_succ, e_clI, e_clV, e_clP, e_clIx, e_clVx, e_clPx, e_xt, Int.toNat_natCast, Int.reduceToNat, bz0, bz1, Nat.add_zero, decide_eq_false_iff_not, decide_eq_true_eq, Int.reduceEq, Nat.reduceEqDiff, Int.reduceLT, Int.reduceLE, not_true_eq_false, not_false_eq_true, eq_self, ↓reduceIte]
    · refine ⟨ch, C, Gw.rf T h60 (fun _ _ => by rw [hb, Int.toNat_natCast]; exact Vs_c hC2), ?_⟩
      rw [q_X12_goesOnce_40, hb]
      simp (disch := first | (simp (disch := omega) only [w32_id]; omega) | omega) only [↓BM s, hlt, sr_q, hC, c_sideOf hc hk, hb, hbn, c_otherOf hb60 jj.2.2.2.1, hC2, w32_succ, e_clI, e_clV, e_clP, e_clIx, e_clVx, e_clPx, e_xt, Int.toNat_natCast, Int.reduceToNat, bz0, bz1, Nat.add_zero, decide_eq_false_iff_not, decide_eq_true_eq, Int.reduceEq, Nat.reduceEqDiff, Int.reduceLT, Int.reduceLE, not_true_eq_false, not_false_eq_true, eq_self, ↓reduceIte]
theorem m_cellStep (s : Sh h) {O : Nat → Bool} {t : Int} (hO : ∀ b, b < 60 → opS (I 284) (I 283 18) (I 283 19) b t = O b) {x y : Nat} (hx : x < 36) {c : Nat} (hc : c < 36) {C : Nat → Int} {ch : Int} (T : ∃ rk, Tr (Rm O (I 294)) x C rk) (h60 : C x = 60) {u6 u7 : am_V} : ∃ ch' C' v6 v7, Gw (Rm O (I 294)) x C ch (fun S => S c = true → Cd (Rm O (I 294)) S c 4) C' ch' ∧ Ru sc (d + 6) mX12_goesOnce 34 [Vr (some 283), Vi (x : Int), Vi (y : Int), Vi t, Vi ch, Vi (c : Int), u6, u7] [] (hI h (sr I 295 C)) = Ru sc (d + 6) mX12_goesOnce 34 [Vr (some 283), Vi (x : Int), Vi (y : Int), Vi t, Vi ch', Vi ((c + 1 : Nat) : Int), v6, v7] [] (hI h (sr I 295 C')) := by
  have hlt : (c : Int) < 36 := by omega
  by_cases hC : C c = -1
  · refine ⟨ch, C, Vi 0, u7, Gw.rf T h60 (fun z => ?_), ?_⟩
    · rw [Vs_no (fun e => by rw [e, h60] at hC; omega) hC] at z
      cases z
    · rw [q_X12_goesOnce_34, if_pos hlt, q_X12_goesOnce_40]
      simp (disch := first | (simp (disch := omega) only [w32_id]; omega) | omega) only [↓BM s, sr_q, hC, w32_succ, e_clI, e_clV, e_clP, e_clIx, e_clVx, e_clPx, e_xt, Int.toNat_natCast, Int.reduceToNat, bz0, bz1, Nat.add_zero, decide_eq_false_iff_not, decide_eq_true_eq, Int.reduceEq, Nat.reduceEqDiff, Int.reduceLT, Int.reduceLE, not_true_eq_false, not_false_eq_true, eq_self, ↓reduceIte]
  · have go : ∀ k : Nat, k ≤ 4 → ∃ ch' C' v7, (Gw (Rm O (I 294)) x C ch (fun S => Cd (Rm O (I 294)) S c k) C' ch' ∧ ¬ C' c = -1) ∧ Ru sc (d + 6) mX12_goesOnce 40 [Vr (some 283), Vi (x : Int), Vi (y : Int), Vi t, Vi ch, Vi (c : Int), Vi 0, u7] [] (hI h (sr I 295 C)) = Ru sc (d + 6) mX12_goesOnce 40 [Vr (some 283), Vi (x : Int), Vi (y : Int), Vi t, Vi ch', Vi (c : Int), Vi (k : Int), v7] [] (hI h (sr I 295 C')) := by
      intro k
      induction k with
      | zero => exact fun _ => ⟨ch, C, u7, ⟨Gw.rf T h60 (fun j hj => absurd hj (Nat.not_lt_zero j)), hC⟩, rfl⟩
      | succ k ih =>
        intro hk
        obtain ⟨ch1, C1, v7, ⟨g1, g2⟩, g3⟩ := ih (by omega)
        obtain ⟨ch2, C2, l1, l2⟩ := m_sideStep (sc := sc) (d := d) (y := y) s hO hx hc (show k < 4 by omega) (ch := ch1) g1.1 g1.2.1 g2 (u7 := v7)
        refine ⟨ch2, C2, Vi (sd c k), ⟨g1.tr l1 (fun q1 q2 j hj h1 h2 => ?_), ?_⟩, g3.trans l2⟩
        · by_cases e : j = k
          · rw [e] at h1 h2 ⊢
            exact q2 h1 h2
          · exact q1 j (by omega) h1 h2
        · have hv := l1.2.2.1 c (Vs_c g2)
          intro z
          rw [Vs_no (fun e => by rw [e, l1.2.1] at z; omega) z] at hv
          cases hv
    obtain ⟨ch', C', v7, ⟨g1, g2⟩, g3⟩ := go 4 (Nat.le_refl 4)
    refine ⟨ch', C', Vi ((4 : Nat) : Int), v7, ⟨g1.1, g1.2.1, g1.2.2.1, ?_⟩, ?_⟩
    · rcases g1.2.2.2 with ⟨q1, q2, q3⟩ | q
      · exact Or.inl ⟨q1, q2, fun _ => q3⟩
      · exact Or.inr q
    · rw [q_X12_goesOnce_34, if_pos hlt]
      refine g3.trans ?_
      rw [q_X12_goesOnce_40, if_neg (by omega), w32_succ (by omega)]
theorem m_roundOf (s : Sh h) {O : Nat → Bool} {t : Int} (hO : ∀ b, b < 60 → opS (I 284) (I 283 18) (I 283 19) b t = O b) {x y : Nat} (hx : x < 36) {C : Nat → Int} {ch : Int} (T : ∃ rk, Tr (Rm O (I 294)) x C rk) (h60 : C x = 60) {u6 u7 : am_V} : ∀ n : Nat, n ≤ 36 → ∃ ch' C' v6 v7, Gw (Rm O (I 294)) x C ch (fun S => ∀ c, c < n → S c = true → Cd (Rm O (I 294)) S c 4) C' ch' ∧ Ru sc (d + 6) mX12_goesOnce 34 [Vr (some 283), Vi (x : Int), Vi (y : Int), Vi t, Vi ch, Vi 0, u6, u7] [] (hI h (sr I 295 C)) = Ru sc (d + 6) mX12_goesOnce 34 [Vr (some 283), Vi (x : Int), Vi (y : Int), Vi t, Vi ch', Vi (n : Int), v6, v7] [] (hI h (sr I 295 C')) := by
  intro n
  induction n with
  | zero => exact fun _ => ⟨ch, C, u6, u7, Gw.rf T h60 (fun c hc => absurd hc (Nat.not_lt_zero c)), rfl⟩
  | succ n ih =>
    intro hn
    obtain ⟨ch1, C1, v6, v7, g1, g2⟩ := ih (by omega)
    obtain ⟨ch2, C2, x6, x7, l1, l2⟩ := m_cellStep (sc := sc) (d := d) (y := y) s hO hx (c := n) (by omega) (ch := ch1) g1.1 g1.2.1 (u6 := v6) (u7 := v7)
    refine ⟨ch2, C2, x6, x7, g1.tr l1 (fun q1 q2 c hc hS => ?_), g2.trans l2⟩
    by_cases e : c = n
    · rw [e] at hS ⊢
      exact q2 hS
    · exact q1 c (by omega) hS
theorem m_searches (s : Sh h) {O : Nat → Bool} {t : Int} (hO : ∀ b, b < 60 → opS (I 284) (I 283 18) (I 283 19) b t = O b) {x y : Nat} (hx : x < 36) (hy : y < 36) (hne : x ≠ y) : ∀ m : Nat, ∀ C : Nat → Int, ∀ u5 u6 u7, (37 : Int) ≤ nn (Vs x C) 36 + m → (∃ rk, Tr (Rm O (I 294)) x C rk) → C x = 60 → ∃ C', ((∃ rk, Tr (Rm O (I 294)) x C' rk) ∧ C' x = 60) ∧ ((Nx O (I 294) x y ∧ Ru sc (d + 6) mX12_goesOnce 21 [Vr (some 283), Vi (x : Int), Vi (y : Int), Vi t, Vi 1, u5, u6, u7] [] (hI h (sr I 295 C)) = some (.inl (Vi 0), hI h (sr I 295 C'))) ∨ (C' y ≠ -1 ∧ ∃ ch v6 v7, Ru sc (d + 6) mX12_goesOnce 21 [Vr (some 283), Vi (x : Int), Vi (y : Int), Vi t, Vi 1, u5, u6, u7] [] (hI h (sr I 295 C)) = Ru sc (d + 6) mX12_goesOnce 96 [Vr (some 283), Vi (x : Int), Vi (y : Int), Vi t, Vi ch, Vi (y : Int), v6, v7] [] (hI h (sr I 295 C')))) := by
  intro m
  induction m with
  | zero =>
    intro C u5 u6 u7 hm T h60
    have := nn_b (p := Vs x C) (N := 36)
    omega
  | succ m ih =>
    intro C u5 u6 u7 hm T h60
    by_cases hC : C y = -1
    · obtain ⟨ch', C', v6, v7, g1, g2⟩ := m_roundOf (sc := sc) (d := d) (y := y) s hO hx (ch := 0) T h60 (u6 := u6) (u7 := u7) 36 (Nat.le_refl 36)
      have e0 : Ru sc (d + 6) mX12_goesOnce 21 [Vr (some 283), Vi (x : Int), Vi (y : Int), Vi t, Vi 1, u5, u6, u7] [] (hI h (sr I 295 C)) = Ru sc (d + 6) mX12_goesOnce 21 [Vr (some 283), Vi (x : Int), Vi (y : Int), Vi t, Vi ch', Vi ((36 : Nat) : Int), v6, v7] [] (hI h (sr I 295 C')) := by
        rw [q_X12_goesOnce_21]
        simp (disch := first | (simp (disch := omega) only [w32_id]; omega) | omega) only [↓BM s, sr_q, hC, e_clI, e_clV, e_clP, e_clIx, e_clVx, e_clPx, e_xt, Int.toNat_natCast, Int.reduceToNat, bz0, bz1, Nat.add_zero, decide_eq_false_iff_not, decide_eq_true_eq, Int.reduceEq, Nat.reduceEqDiff, Int.reduceLT, Int.reduceLE, not_true_eq_false, not_false_eq_true, eq_self, ↓reduceIte]
        refine g2.trans ?_
        rw [q_X12_goesOnce_34, if_neg (by omega)]
      rcases g1.2.2.2 with ⟨q1, q2, q3⟩ | ⟨q1, q2⟩
      · refine ⟨C', ⟨g1.1, g1.2.1⟩, Or.inl ⟨⟨Vs x C, Vs_s, Vs_no (fun z => hne z.symm) hC, Cd.all q3⟩, ?_⟩⟩
        rw [e0, q1, q2, q_X12_goesOnce_21]
        simp (disch := first | (simp (disch := omega) only [w32_id]; omega) | omega) only [↓BM s, sr_q, hC, e_clI, e_clV, e_clP, e_clIx, e_clVx, e_clPx, e_xt, Int.toNat_natCast, Int.reduceToNat, bz0, bz1, Nat.add_zero, decide_eq_false_iff_not, decide_eq_true_eq, Int.reduceEq, Nat.reduceEqDiff, Int.reduceLT, Int.reduceLE, not_true_eq_false, not_false_eq_true, eq_self, ↓reduceIte]
      · obtain ⟨C2, k1, k2⟩ := ih C' (Vi ((36 : Nat) : Int)) v6 v7 (by omega) g1.1 g1.2.1
        rw [q1] at e0
        refine ⟨C2, k1, ?_⟩
        rcases k2 with ⟨k2, k3⟩ | ⟨k2, ch, x6, x7, k3⟩
        · exact Or.inl ⟨k2, e0.trans k3⟩
        · exact Or.inr ⟨k2, ch, x6, x7, e0.trans k3⟩
    · refine ⟨C, ⟨T, h60⟩, Or.inr ⟨hC, 1, u6, u7, ?_⟩⟩
      rw [q_X12_goesOnce_21]
      simp (disch := first | (simp (disch := omega) only [w32_id]; omega) | omega) only [↓BM s, sr_q, hC, e_clI, e_clV, e_clP, e_clIx, e_clVx, e_clPx, e_xt, Int.toNat_natCast, Int.reduceToNat, bz0, bz1, Nat.add_zero, decide_eq_false_iff_not, decide_eq_true_eq, Int.reduceEq, Nat.reduceEqDiff, Int.reduceLT, Int.reduceLE, not_true_eq_false, not_false_eq_true, eq_self, ↓reduceIte]
theorem m_backLoop (s : Sh h) {O : Nat → Bool} {f : Nat → Int} (hf : ∀ b, b < 60 → -1 ≤ f b ∧ f b ≤ 1) {x y : Nat} {t : Int} {rk : Nat → Nat} (T : Tr (Rm O f) x (I 295) rk) {k : Int} (F : FlW O x y k f) {ch : Int} : ∀ n u : Nat, rk u ≤ n → ∀ (u6 u7 : am_V) (g : Nat → Int), u < 36 → Vs x (I 295) u = true → Bk f O x y (I 295) rk u g → ∃ g', FlW O x y (k + 1) g' ∧ Ru sc (d + 6) mX12_goesOnce 96 [Vr (some 283), Vi (x : Int), Vi (y : Int), Vi t, Vi ch, Vi (u : Int), u6, u7] [] (hI h (sr I 294 g)) = some (.inl (Vi 1), hI h (sr I 294 g')) := by
  intro n
  have st : ∀ u : Nat, ∀ (u6 u7 : am_V) (g : Nat → Int), u < 36 → Vs x (I 295) u = true → Bk f O x y (I 295) rk u g → (∃ g', FlW O x y (k + 1) g' ∧ Ru sc (d + 6) mX12_goesOnce 96 [Vr (some 283), Vi (x : Int), Vi (y : Int), Vi t, Vi ch, Vi (u : Int), u6, u7] [] (hI h (sr I 294 g)) = some (.inl (Vi 1), hI h (sr I 294 g'))) ∨ ∃ p g2 v6, rk p < rk u ∧ p < 36 ∧ Vs x (I 295) p = true ∧ Bk f O x y (I 295) rk p g2 ∧ Ru sc (d + 6) mX12_goesOnce 96 [Vr (some 283), Vi (x : Int), Vi (y : Int), Vi t, Vi ch, Vi (u : Int), u6, u7] [] (hI h (sr I 294 g)) = Ru sc (d + 6) mX12_goesOnce 96 [Vr (some 283), Vi (x : Int), Vi (y : Int), Vi t, Vi ch, Vi (p : Int), v6, u7] [] (hI h (sr I 294 g2)) := by
    intro u u6 u7 g hu hV B
    by_cases hux : u = x
    · subst hux
      refine Or.inl ⟨g, B.en F, ?_⟩
      rw [q_X12_goesOnce_96, if_pos rfl]
    · obtain ⟨b, p, ⟨b1, b2, b3, b4, b5, b6⟩, hg, B2⟩ := B.go hf T hu hV hux
      have jj := jo_at b1 b4
      have hf1 := hf b b1
      refine Or.inr ⟨p, _, Vi (b : Int), b6, b2, b5, B2, ?_⟩
      have hux2 : ¬ (u : Int) = (x : Int) := by omega
      have f295 : sr I 294 g 295 = I 295 := sr_ne (by decide)
      rw [q_X12_goesOnce_96]
      unfold wy
      by_cases e : lc b = p
      · have e' : ((lc b : Nat) : Int) = p := by omega
        have w1 : w32 (g b + 1) = g b + 1 := w32_id (by omega) (by omega)
        rw [if_pos e]
        simp (disch := first | (simp (disch := omega) only [w32_id]; omega) | omega) only [↓BM s, hux2, f295, b3, c_otherOf b1 jj.2.2.2.2.1, jj.2.2.1, c_lessOf b1, e', sr_q, w1, u2_sr, e_clI, e_clV, e_clP, e_clIx, e_clVx, e_clPx, e_xt, Int.toNat_natCast, Int.reduceToNat, bz0, bz1, Nat.add_zero, decide_eq_false_iff_not, decide_eq_true_eq, Int.reduceEq, Nat.reduceEqDiff, Int.reduceLT, Int.reduceLE, not_true_eq_false, not_false_eq_true, eq_self, ↓reduceIte]
      · have e' : ¬ ((lc b : Nat) : Int) = p := by omega
        have w1 : w32 (g b + -1) = g b + -1 := w32_id (by omega) (by omega)
        rw [if_neg e]
        simp (disch := first | (simp (disch := omega) only [w32_id]; omega) | omega) only [↓BM s, hux2, f295, b3, c_otherOf b1 jj.2.2.2.2.1, jj.2.2.1, c_lessOf b1, e', sr_q, w1, u2_sr, e_clI, e_clV, e_clP, e_clIx, e_clVx, e_clPx, e_xt, Int.toNat_natCast, Int.reduceToNat, bz0, bz1, Nat.add_zero, decide_eq_false_iff_not, decide_eq_true_eq, Int.reduceEq, Nat.reduceEqDiff, Int.reduceLT, Int.reduceLE, not_true_eq_false, not_false_eq_true, eq_self, ↓reduceIte]
  induction n with
  | zero =>
    intro u hn u6 u7 g hu hV B
    rcases st u u6 u7 g hu hV B with z | ⟨p, g2, v6, z, -⟩
    · exact z
    · omega
  | succ n ih =>
    intro u hn u6 u7 g hu hV B
    rcases st u u6 u7 g hu hV B with z | ⟨p, g2, v6, z1, z2, z3, z4, z5⟩
    · exact z
    · obtain ⟨g', k1, k2⟩ := ih p (by omega) v6 u7 g2 z2 z3 z4
      exact ⟨g', k1, z5.trans k2⟩
/-- only flows and ways change -/
def Fw (I J : am_I) : Prop := ∀ p, p ≠ 294 → p ≠ 295 → J p = I p
theorem m_goesOnce (s : Sh h) {O : Nat → Bool} {t : Int} (hO : ∀ b, b < 60 → opS (I 284) (I 283 18) (I 283 19) b t = O b) {x y : Nat} (hx : x < 36) (hy : y < 36) (hne : x ≠ y) {k : Int} (F : FlW O x y k (I 294)) : ∃ J, Fw I J ∧ ((Nx O (I 294) x y ∧ J 294 = I 294 ∧ Cl sc (d + 6) mX12_goesOnce [Vr (some 283), Vi (x : Int), Vi (y : Int), Vi t] (hI h I) = some (.inl (Vi 0), hI h J)) ∨ (FlW O x y (k + 1) (J 294) ∧ Cl sc (d + 6) mX12_goesOnce [Vr (some 283), Vi (x : Int), Vi (y : Int), Vi t] (hI h I) = some (.inl (Vi 1), hI h J))) := by
  have hr := fo_run0 (F := fun i C => Ru sc (d + 6) mX12_goesOnce 3 [Vr (some 283), Vi (x : Int), Vi (y : Int), Vi t, Vi (i : Int), Vx 0, Vx 0, Vx 0] [] (hI h (sr I 295 C))) (f := fun i C => up C i (-1)) (N := 36) (s0 := I 295) (fun i C hi => by
    have hlt : (i : Int) < 36 := by omega
    try dsimp only
    rw [q_X12_goesOnce_3]
    simp (disch := first | (simp (disch := omega) only [w32_id]; omega) | omega) only [↓BM s, hlt, u2_sr, w32_succ, e_clI, e_clV, e_clP, e_clIx, e_clVx, e_clPx, e_xt, Int.toNat_natCast, Int.reduceToNat, bz0, bz1, Nat.add_zero, decide_eq_false_iff_not, decide_eq_true_eq, Int.reduceEq, Nat.reduceEqDiff, Int.reduceLT, Int.reduceLE, not_true_eq_false, not_false_eq_true, eq_self, ↓reduceIte])
  rw [fo_up] at hr
  try dsimp only at hr
  rw [sr_self] at hr
  have hV : ∀ v, v < 36 → Vs x (up (fun u => if u < 36 then (-1 : Int) else I 295 u) x 60) v = decide (v = x) := fun v hv => by
    by_cases e : v = x
    · rw [e, Vs_s, decide_eq_true rfl]
    · rw [decide_eq_false e]
      exact Vs_no e (by rw [up_o e]; exact if_pos hv)
  have h1 : nn (Vs x (up (fun u => if u < 36 then (-1 : Int) else I 295 u) x 60)) 36 = 1 := by
    rw [nn_cg hV]
    exact nn_one hx (decide_eq_true rfl) (fun v _ z => of_decide_eq_true z)
  obtain ⟨C, ⟨⟨rk, T⟩, h60⟩, k2⟩ := m_searches (sc := sc) (d := d) (I := I) s hO hx hy hne 36 (up (fun u => if u < 36 then (-1 : Int) else I 295 u) x 60) (Vx 0) (Vx 0) (Vx 0) (by rw [h1]; decide) ⟨fun _ => 0, fun u hu z => ⟨by rw [h1]; exact (by decide : ((0 : Nat) : Int) < 1), fun hne => by
    rw [hV u hu, decide_eq_false hne] at z
    cases z⟩⟩ up_s
  have e0 : Cl sc (d + 6) mX12_goesOnce [Vr (some 283), Vi (x : Int), Vi (y : Int), Vi t] (hI h I) = Ru sc (d + 6) mX12_goesOnce 21 [Vr (some 283), Vi (x : Int), Vi (y : Int), Vi t, Vi 1, Vx 0, Vx 0, Vx 0] [] (hI h (sr I 295 (up (fun u => if u < 36 then (-1 : Int) else I 295 u) x 60))) := by
    have hlt : ¬ ((36 : Nat) : Int) < 36 := by omega
    rw [q_X12_goesOnce_0]
    refine hr.trans ?_
    rw [q_X12_goesOnce_3]
    simp (disch := first | (simp (disch := omega) only [w32_id]; omega) | omega) only [↓BM s, hlt, u2_sr, e_clI, e_clV, e_clP, e_clIx, e_clVx, e_clPx, e_xt, Int.toNat_natCast, Int.reduceToNat, bz0, bz1, Nat.add_zero, decide_eq_false_iff_not, decide_eq_true_eq, Int.reduceEq, Nat.reduceEqDiff, Int.reduceLT, Int.reduceLE, not_true_eq_false, not_false_eq_true, eq_self, ↓reduceIte]
  rcases k2 with ⟨k2, k3⟩ | ⟨k2, ch, x6, x7, k3⟩
  · exact ⟨sr I 295 C, fun p _ h2 => sr_ne h2, Or.inl ⟨k2, sr_ne (by decide), e0.trans k3⟩⟩
  · have f294 : sr I 295 C 294 = I 294 := sr_ne (by decide)
    have f295 : sr I 295 C 295 = C := sr_q
    obtain ⟨g', l1, l2⟩ := m_backLoop (sc := sc) (d := d) (I := sr I 295 C) (t := t) (ch := ch) s (fun b hb => (F.1 b hb).1) (by rw [f295]; exact T) F (rk y) y (Nat.le_refl _) x6 x7 (I 294) hy (by rw [f295]; exact Vs_c k2) (Bk.st F)
    rw [← f294, sr_self] at l2
    refine ⟨sr (sr I 295 C) 294 g', fun p h1 h2 => (sr_ne h1).trans (sr_ne h2), Or.inr ⟨by rw [sr_q]; exact l1, ?_⟩⟩
    rw [e0, k3]
    exact l2
theorem m_closesLoop (s : Sh h) {O : Nat → Bool} {t : Int} {x y : Nat} (hx : x < 36) (hy : y < 36) (hne : x ≠ y) : ∀ m n : Nat, n + m = 5 → ∀ I, (∀ b, b < 60 → opS (I 284) (I 283 18) (I 283 19) b t = O b) → FlW O x y (n : Int) (I 294) → ∃ K f, ∃ k : Nat, (Fw I K ∧ FlW O x y (k : Int) f ∧ Nx O f x y) ∧ Ru sc (d + 7) mX12_closes 29 [Vr (some 283), Vi (x : Int), Vi (y : Int), Vi t, Vi (n : Int)] [] (hI h I) = some (.inl (Vi (k : Int)), hI h K) := by
  intro m
  induction m with
  | zero =>
    intro n hn I hO F
    have := val4 F hx hne
    omega
  | succ m ih =>
    intro n hn I hO F
    obtain ⟨J, j1, j2⟩ := m_goesOnce (sc := sc) (d := d) s hO hx hy hne F
    rcases j2 with ⟨j2, j3, j4⟩ | ⟨j2, j4⟩
    · refine ⟨J, I 294, n, ⟨j1, F, j2⟩, ?_⟩
      rw [q_X12_closes_29]
      simp (disch := first | (simp (disch := omega) only [w32_id]; omega) | omega) only [↓BM s, j4, e_clI, e_clV, e_clP, e_clIx, e_clVx, e_clPx, e_xt, Int.toNat_natCast, Int.reduceToNat, bz0, bz1, Nat.add_zero, decide_eq_false_iff_not, decide_eq_true_eq, Int.reduceEq, Nat.reduceEqDiff, Int.reduceLT, Int.reduceLE, not_true_eq_false, not_false_eq_true, eq_self, ↓reduceIte]
    · obtain ⟨K, f, k, ⟨l1, l2, l3⟩, l4⟩ := ih (n + 1) (by omega) J (fun b hb => by
        rw [j1 284 (by decide) (by decide), j1 283 (by decide) (by decide)]
        exact hO b hb) j2
      refine ⟨K, f, k, ⟨fun p h1 h2 => (l1 p h1 h2).trans (j1 p h1 h2), l2, l3⟩, ?_⟩
      rw [q_X12_closes_29]
      simp (disch := first | (simp (disch := omega) only [w32_id]; omega) | omega) only [↓BM s, j4, w32_succ, e_clI, e_clV, e_clP, e_clIx, e_clVx, e_clPx, e_xt, Int.toNat_natCast, Int.reduceToNat, bz0, bz1, Nat.add_zero, decide_eq_false_iff_not, decide_eq_true_eq, Int.reduceEq, Nat.reduceEqDiff, Int.reduceLT, Int.reduceLE, not_true_eq_false, not_false_eq_true, eq_self, ↓reduceIte]
      exact l4
theorem p_closes (r : Rel h I) {x y t : Int} : Pub h I (Cl sc (d + 30) mX11_closes [Vr (some 0), Vi x, Vi y, Vi t]) (Cl sc (d + 30) mX12_closes [Vr (some 283), Vi x, Vi y, Vi t]) cdB := by
  have R := r.R
  have V := r.V
  by_cases hxy : (0 ≤ x ∧ x < 36) ∧ 0 ≤ y ∧ y < 36
  · obtain ⟨hx, hy⟩ := hxy
    by_cases ht : 0 ≤ t ∧ t ≤ 999
    · obtain ⟨u, rfl⟩ : ∃ u : Nat, x = u := ⟨x.toNat, by omega⟩
      obtain ⟨v, rfl⟩ : ∃ v : Nat, y = v := ⟨y.toNat, by omega⟩
      have hu : u < 36 := by omega
      have hv : v < 36 := by omega
      by_cases huv : u = v
      · subst huv
        refine pubQ (x := 0) (v := -1) (v' := -1) r (CO.ok (J := I) ?_ (Same.rf I)) (fun h1 J1 r1 e1 => ?_) (fun _ => rfl)
        · rw [q_X11_closes_0]
          simp (disch := first | (simp (disch := omega) only [w32_id]; omega) | omega) only [↓BO r.1, c_nC hx, c_nH ht, e_clI, e_clV, e_clP, e_clIx, e_clVx, e_clPx, e_xt, Int.toNat_natCast, Int.reduceToNat, bz0, bz1, Nat.add_zero, decide_eq_false_iff_not, decide_eq_true_eq, Int.reduceEq, Nat.reduceEqDiff, Int.reduceLT, Int.reduceLE, not_true_eq_false, not_false_eq_true, eq_self, ↓reduceIte]
        · refine MO.ok0 ?_
          rw [q_X12_closes_0]
          simp (disch := first | (simp (disch := omega) only [w32_id]; omega) | omega) only [↓BM r1.1, m_nCs r1.1 hx hy ht, e_clI, e_clV, e_clP, e_clIx, e_clVx, e_clPx, e_xt, Int.toNat_natCast, Int.reduceToNat, bz0, bz1, Nat.add_zero, decide_eq_false_iff_not, decide_eq_true_eq, Int.reduceEq, Nat.reduceEqDiff, Int.reduceLT, Int.reduceLE, not_true_eq_false, not_false_eq_true, eq_self, ↓reduceIte]
      · have huv2 : ¬ (u : Int) = (v : Int) := by omega
        obtain ⟨J, f, k, ⟨k1, F, kn⟩, k3⟩ := c_shutting (sc := sc) (d := d + 23) (t := t) r.1 r.c (by omega) R V hu hv huv
        refine pubQ (x := 0) (v := (k : Int)) (v' := (k : Int)) r (CO.ok (J := J) ?_ k1.sm) (fun h1 J1 r1 e1 => ?_) (fun _ => rfl)
        · rw [q_X11_closes_0]
          simp (disch := first | (simp (disch := omega) only [w32_id]; omega) | omega) only [↓BO r.1, ↓BW r.1, c_nC hx, c_nC hy, c_nH ht, huv2, k3, e_clI, e_clV, e_clP, e_clIx, e_clVx, e_clPx, e_xt, Int.toNat_natCast, Int.reduceToNat, bz0, bz1, Nat.add_zero, decide_eq_false_iff_not, decide_eq_true_eq, Int.reduceEq, Nat.reduceEqDiff, Int.reduceLT, Int.reduceLE, not_true_eq_false, not_false_eq_true, eq_self, ↓reduceIte]
        · have hr := fo_run0 (F := fun i C => Ru sc (d + 30) mX12_closes 16 [Vr (some 283), Vi (u : Int), Vi (v : Int), Vi t, Vi (i : Int)] [] (hI h1 (sr (am_u2 J1 283 0 0) 294 C))) (f := fun i C => up C i 0) (N := 60) (s0 := am_u2 J1 283 0 0 294) (fun i C hi => by
            have hlt : (i : Int) < 60 := by omega
            try dsimp only
            rw [q_X12_closes_16]
            simp (disch := first | (simp (disch := omega) only [w32_id]; omega) | omega) only [↓BM r1.1, hlt, u2_sr, w32_succ, e_clI, e_clV, e_clP, e_clIx, e_clVx, e_clPx, e_xt, Int.toNat_natCast, Int.reduceToNat, bz0, bz1, Nat.add_zero, decide_eq_false_iff_not, decide_eq_true_eq, Int.reduceEq, Nat.reduceEqDiff, Int.reduceLT, Int.reduceLE, not_true_eq_false, not_false_eq_true, eq_self, ↓reduceIte])
          rw [fo_up] at hr
          try dsimp only at hr
          rw [sr_self] at hr
          have hO : ∀ b, b < 60 → opS ((sr (am_u2 J1 283 0 0) 294 (fun u => if u < 60 then (0 : Int) else am_u2 J1 283 0 0 294 u)) 284) ((sr (am_u2 J1 283 0 0) 294 (fun u => if u < 60 then (0 : Int) else am_u2 J1 283 0 0 294 u)) 283 18) ((sr (am_u2 J1 283 0 0) 294 (fun u => if u < 60 then (0 : Int) else am_u2 J1 283 0 0 294 u)) 283 19) b t = opW (I 284) b t := fun b hb => by
            rw [sr_ne (by decide), sr_ne (by decide), w283, e1.w, u2_j (by decide), u2_j (by decide), rel18 r1, rel19 r1, opS_no]
          obtain ⟨K, g, m, ⟨l1, G, ln⟩, l4⟩ := m_closesLoop (sc := sc) (d := d + 23) (O := fun b => opW (I 284) b t) (t := t) r1.1 hu hv huv 5 0 rfl (sr (am_u2 J1 283 0 0) 294 (fun u => if u < 60 then (0 : Int) else am_u2 J1 283 0 0 294 u)) hO (by
            rw [sr_q]
            exact FlW.z.cg (fun b hb => by rw [if_pos hb]))
          have hmk : m = k := by
            obtain ⟨S, s1, s2, s3⟩ := ln
            have a1 := cut_le G F hu s1 s2 s3
            have a2 := val4 G hu huv
            rcases kn with z | ⟨S', z1, z2, z3⟩
            · omega
            · have := cut_le F G hu z1 z2 z3
              omega
          have hK : Same (am_u2 J1 283 0 0) K := fun p j hp => by
            rw [l1 p (fun e => hp (by unfold scr; omega)) (fun e => hp (by unfold scr; omega)), sr_ne (fun e => hp (by unfold scr; omega))]
          refine MO.okJ (J := K) ?_ (s283.tr hK) (by
            rw [l1 283 (by decide) (by decide), sr_ne (by decide)]
            exact u2_same)
          rw [q_X12_closes_0]
          simp (disch := first | (simp (disch := omega) only [w32_id]; omega) | omega) only [↓BM r1.1, m_nCs r1.1 hx hy ht, huv2, e_clI, e_clV, e_clP, e_clIx, e_clVx, e_clPx, e_xt, Int.toNat_natCast, Int.reduceToNat, bz0, bz1, Nat.add_zero, decide_eq_false_iff_not, decide_eq_true_eq, Int.reduceEq, Nat.reduceEqDiff, Int.reduceLT, Int.reduceLE, not_true_eq_false, not_false_eq_true, eq_self, ↓reduceIte]
          refine hr.trans ?_
          rw [q_X12_closes_16, if_neg (by omega), ← hmk]
          exact l4
    · skip
      refine pubQ (x := 1) (v := 0) (v' := 0) r (CO.no (J := I) (by decide) ?_ (Same.rf I)) (fun h1 J1 r1 e1 => ?_) (fun h => absurd h (by decide))
      · rw [q_X11_closes_0, c_nC hx, e_clV, c_nC hy, e_clV, c_nHx ht, e_clVx]
        simp (disch := first | (simp (disch := omega) only [w32_id]; omega) | omega) only [↓BO r.1, hI_exI, e_clI, e_clV, e_clP, e_clIx, e_clVx, e_clPx, e_xt, Int.toNat_natCast, Int.reduceToNat, bz0, bz1, Nat.add_zero, decide_eq_false_iff_not, decide_eq_true_eq, Int.reduceEq, Nat.reduceEqDiff, Int.reduceLT, Int.reduceLE, not_true_eq_false, not_false_eq_true, eq_self, ↓reduceIte]
      · refine MO.thr ?_
        rw [q_X12_closes_0]
        simp (disch := first | (simp (disch := omega) only [w32_id]; omega) | omega) only [↓BM r1.1, m_nCsy r1.1 hx hy ht, e_clI, e_clV, e_clP, e_clIx, e_clVx, e_clPx, e_xt, Int.toNat_natCast, Int.reduceToNat, bz0, bz1, Nat.add_zero, decide_eq_false_iff_not, decide_eq_true_eq, Int.reduceEq, Nat.reduceEqDiff, Int.reduceLT, Int.reduceLE, not_true_eq_false, not_false_eq_true, eq_self, ↓reduceIte]
        try rfl
  · skip
    refine pubQ (x := 3) (v := 0) (v' := 0) r (CO.no (J := I) (by decide) ?_ (Same.rf I)) (fun h1 J1 r1 e1 => ?_) (fun h => absurd h (by decide))
    · by_cases hx : 0 ≤ x ∧ x < 36
      · rw [q_X11_closes_0, c_nC hx, e_clV, c_nCx (fun z => hxy ⟨hx, z⟩), e_clVx]
        simp (disch := first | (simp (disch := omega) only [w32_id]; omega) | omega) only [↓BO r.1, hI_exI, e_clI, e_clV, e_clP, e_clIx, e_clVx, e_clPx, e_xt, Int.toNat_natCast, Int.reduceToNat, bz0, bz1, Nat.add_zero, decide_eq_false_iff_not, decide_eq_true_eq, Int.reduceEq, Nat.reduceEqDiff, Int.reduceLT, Int.reduceLE, not_true_eq_false, not_false_eq_true, eq_self, ↓reduceIte]
      · rw [q_X11_closes_0, c_nCx hx, e_clVx]
        simp (disch := first | (simp (disch := omega) only [w32_id]; omega) | omega) only [↓BO r.1, hI_exI, e_clI, e_clV, e_clP, e_clIx, e_clVx, e_clPx, e_xt, Int.toNat_natCast, Int.reduceToNat, bz0, bz1, Nat.add_zero, decide_eq_false_iff_not, decide_eq_true_eq, Int.reduceEq, Nat.reduceEqDiff, Int.reduceLT, Int.reduceLE, not_true_eq_false, not_false_eq_true, eq_self, ↓reduceIte]
    · refine MO.thr ?_
      rw [q_X12_closes_0]
      simp (disch := first | (simp (disch := omega) only [w32_id]; omega) | omega) only [↓BM r1.1, m_nCsx r1.1 hxy, e_clI, e_clV, e_clP, e_clIx, e_clVx, e_clPx, e_xt, Int.toNat_natCast, Int.reduceToNat, bz0, bz1, Nat.add_zero, decide_eq_false_iff_not, decide_eq_true_eq, Int.reduceEq, Nat.reduceEqDiff, Int.reduceLT, Int.reduceLE, not_true_eq_false, not_false_eq_true, eq_self, ↓reduceIte]
      try rfl
end
