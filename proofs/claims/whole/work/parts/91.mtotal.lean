/-! THE LAW'S SUMS BY THE REFERENCE -/
/-- only the reference's row of values differs -/
def Lv (I J : am_I) : Prop := ∀ p, p ≠ 291 → J p = I p
theorem Lv.rf (I : am_I) : Lv I I := fun _ _ => rfl
theorem Lv.tr {I J K : am_I} (h1 : Lv I J) (h2 : Lv J K) : Lv I K := fun p hp => (h2 p hp).trans (h1 p hp)
theorem Lv.w {I J : am_I} (h : Lv I J) : J 284 = I 284 := h 284 (by decide)
def ML (w : am_Wd) : Prop := w 2 = 0 ∨ (w 2 = 1 ∧ ∃ ln cc, WL w ln cc)
section
variable {sc : Nat × (Nat → Int)} {d : Nat} {h : am_H} {I J : am_I} {w : am_Wd} {ln cc : Nat}
theorem m_holds (s : Sh h) (hw : I 284 = w) (V : WW w) (W : WL w ln cc) {b : Nat} (hb : b < 60) {k : Nat} (hk : k < ln) : ∃ J, Lv I J ∧ Cl sc (d + 4) mX12_holdsLine [Vr (some 283), Vi (k : Int), Vi (b : Int)] (hI h I) = some (.inl (Vi (bz (hoW w k b))), hI h J) := by
  obtain ⟨W0, W1, W2, W3⟩ := W
  obtain ⟨-, -, st, e, hs, he, hse, hec, ht⟩ := W3 k hk
  have hgo : ∀ t, t ≤ e - st → ∃ J v6 v7 v8 v9, Lv I J ∧ Sk (J 291) (sF w b st t) ∧ Ru sc (d + 4) mX12_holdsLine 16 [Vr (some 283), Vi (k : Int), Vi (b : Int), Vi 0, Vi ((632 + 4 * k : Nat) : Int), Vi (st : Int), Vx 0, Vx 0, Vx 0, Vx 0] [] (hI h I) = Ru sc (d + 4) mX12_holdsLine 16 [Vr (some 283), Vi (k : Int), Vi (b : Int), Vi ((sF w b st t).length : Int), Vi ((632 + 4 * k : Nat) : Int), Vi ((st + t : Nat) : Int), v6, v7, v8, v9] [] (hI h J) := by
    intro t
    induction t with
    | zero => exact fun _ => ⟨I, Vx 0, Vx 0, Vx 0, Vx 0, Lv.rf I, trivial, rfl⟩
    | succ t ih =>
      intro hle
      obtain ⟨J, u6, u7, u8, u9, h1, h2, h3⟩ := ih (by omega)
      obtain ⟨t2, ht2⟩ : ∃ t2, tF w st (t + 1) = some t2 := by
        rcases ht with ht | ht
        · exact tF_pre ht hle
        · exact tF_pre ht hle
      obtain ⟨t3, ht3, hl3, ht4⟩ := tF_step ht2
      have hv := sF_ok V hb ht3
      obtain ⟨J2, v6, v7, v8, v9, g1, g2, g3⟩ := m_hstep (sc := sc) (d := d) (i := st + t) (e := e) (kk := 632 + 4 * k) (u6 := u6) (u7 := u7) (u8 := u8) (u9 := u9) (lnI := k) s (h1.w.trans hw) V hb h2 hv.1 hl3 (by omega) ht4 rfl rfl (by omega) (by omega) (by rw [show 632 + 4 * k + 3 = 635 + 4 * k by omega]; exact he) (by omega)
      exact ⟨J2, v6, v7, v8, v9, h1.tr g1, g2, h3.trans g3⟩
  obtain ⟨J, u6, u7, u8, u9, h1, h2, h3⟩ := hgo (e - st) (Nat.le_refl _)
  refine ⟨J, h1, ?_⟩
  have hs' : w (632 + 4 * k + 2) = st := by rw [show 632 + 4 * k + 2 = 634 + 4 * k by omega]; exact hs
  have he' : w (632 + 4 * k + 3) = e := by rw [show 632 + 4 * k + 3 = 635 + 4 * k by omega]; exact he
  rw [q_X12_holdsLine_0]
  simp (disch := first | (simp (disch := omega) only [w32_id]; omega) | omega) only [↓BM s, w32_632, w32_2, hw, hs', e_clI, e_clV, e_clP, e_clIx, e_clVx, e_clPx, e_xt, Int.toNat_natCast, Int.reduceToNat, bz0, bz1, Nat.add_zero, decide_eq_false_iff_not, decide_eq_true_eq, Int.reduceEq, Nat.reduceEqDiff, Int.reduceLT, Int.reduceLE, ↓reduceIte]
  rw [h3]
  have h4 : ¬ (((st + (e - st) : Nat) : Int) < e) := by omega
  rw [q_X12_holdsLine_16]
  simp (disch := first | (simp (disch := omega) only [w32_id]; omega) | omega) only [↓BM s, w32_3, h1.w, hw, he', h4, e_clI, e_clV, e_clP, e_clIx, e_clVx, e_clPx, e_xt, Int.toNat_natCast, Int.reduceToNat, bz0, bz1, Nat.add_zero, decide_eq_false_iff_not, decide_eq_true_eq, Int.reduceEq, Nat.reduceEqDiff, Int.reduceLT, Int.reduceLE, ↓reduceIte]
  unfold hoW
  rw [hs, he, Int.toNat_natCast, Int.toNat_natCast]
  rcases tF_len V hb ht with h4 | ⟨x, h4, h5⟩
  · rw [h4]
    rfl
  · rw [h4] at h2 ⊢
    have h6 : J 291 0 = x := h2.1
    rw [if_neg (by simp)]
    simp only [h6]
    rcases h5 with rfl | rfl
    · rfl
    · rfl
theorem m_sumOf (s : Sh h) (hw : I 284 = w) (V : WW w) (h2 : w 2 = 1) (W : WL w ln cc) {b : Nat} (hb : b < 60) {kd : Int} : ∃ J, Lv I J ∧ Cl sc (d + 5) mX12_sumOf [Vr (some 283), Vi kd, Vi (b : Int)] (hI h I) = some (.inl (Vi (laW w kd b)), hI h J) := by
  have hln := W.2.1
  have hgo : ∀ n, n ≤ ln → ∃ J, Lv I J ∧ Ru sc (d + 5) mX12_sumOf 5 [Vr (some 283), Vi kd, Vi (b : Int), Vi 0, Vi 0] [] (hI h I) = Ru sc (d + 5) mX12_sumOf 5 [Vr (some 283), Vi kd, Vi (b : Int), Vi (sm (fun ln => if w (632 + 4 * ln) = kd ∧ hoW w ln b = true then w (633 + 4 * ln) else 0) n), Vi (n : Int)] [] (hI h J) := by
    intro n
    induction n with
    | zero => exact fun _ => ⟨I, Lv.rf I, rfl⟩
    | succ n ih =>
      intro hle
      obtain ⟨J, h1, h3⟩ := ih (by omega)
      have hwn := W.2.2.2 n (by omega)
      have hb1 := laW_b (k := kd) (b := b) W (n := n) (by omega)
      have hb2 := laW_b (k := kd) (b := b) W (n := n + 1) (by omega)
      have es : sm (fun ln => if w (632 + 4 * ln) = kd ∧ hoW w ln b = true then w (633 + 4 * ln) else 0) (n + 1) = sm (fun ln => if w (632 + 4 * ln) = kd ∧ hoW w ln b = true then w (633 + 4 * ln) else 0) n + (if w (632 + 4 * n) = kd ∧ hoW w n b = true then w (633 + 4 * n) else 0) := rfl
      have hw2 := h1.w.trans hw
      have e633 : w (632 + 4 * n + 1) = w (633 + 4 * n) := congrArg w (by omega)
      have hlt : (n : Int) < w 631 := by rw [W.1]; omega
      rw [h3]
      rw [q_X12_sumOf_5]
      by_cases h4 : w (632 + 4 * n) = kd
      · obtain ⟨J2, g1, g2⟩ := m_holds (sc := sc) (d := d) s hw2 V W hb (k := n) (by omega)
        refine ⟨J2, h1.tr g1, ?_⟩
        simp (disch := first | (simp (disch := omega) only [w32_id]; omega) | omega) only [↓BM s, hw2, h2, hlt, w32_632, h4, g2, w32_succ, (h1.tr g1).w, hw, e633, e_clI, e_clV, e_clP, e_clIx, e_clVx, e_clPx, e_xt, Int.toNat_natCast, Int.reduceToNat, bz0, bz1, Nat.add_zero, decide_eq_false_iff_not, decide_eq_true_eq, Int.reduceEq, Nat.reduceEqDiff, Int.reduceLT, Int.reduceLE, ↓reduceIte]
        rw [es, h4]
        cases h5 : hoW w n b
        · rw [if_pos rfl, if_neg (by simp), Int.add_zero]
        · rw [if_pos ⟨h4, h5⟩] at es
          rw [if_neg (by simp), if_pos ⟨rfl, rfl⟩, w32_id (by omega) (by omega)]
      · refine ⟨J, h1, ?_⟩
        simp (disch := first | (simp (disch := omega) only [w32_id]; omega) | omega) only [↓BM s, hw2, h2, hlt, w32_632, h4, w32_succ, e_clI, e_clV, e_clP, e_clIx, e_clVx, e_clPx, e_xt, Int.toNat_natCast, Int.reduceToNat, bz0, bz1, Nat.add_zero, decide_eq_false_iff_not, decide_eq_true_eq, Int.reduceEq, Nat.reduceEqDiff, Int.reduceLT, Int.reduceLE, ↓reduceIte]
        rw [es, if_neg (fun x => h4 x.1), Int.add_zero]
  obtain ⟨J, h1, h3⟩ := hgo ln (Nat.le_refl _)
  refine ⟨J, h1, ?_⟩
  have hlt : ¬ (ln : Int) < w 631 := by rw [W.1]; omega
  rw [q_X12_sumOf_0, h3, q_X12_sumOf_5]
  simp (disch := first | (simp (disch := omega) only [w32_id]; omega) | omega) only [↓BM s, h1.w, hw, h2, hlt, e_clI, e_clV, e_clP, e_clIx, e_clVx, e_clPx, e_xt, Int.toNat_natCast, Int.reduceToNat, bz0, bz1, Nat.add_zero, decide_eq_false_iff_not, decide_eq_true_eq, Int.reduceEq, Nat.reduceEqDiff, Int.reduceLT, Int.reduceLE, ↓reduceIte]
  unfold laW
  rw [W.1, Int.toNat_natCast]
theorem m_sumOf0 (s : Sh h) (hw : I 284 = w) (h2 : w 2 = 0) {b : Nat} {kd : Int} : Cl sc (d + 5) mX12_sumOf [Vr (some 283), Vi kd, Vi (b : Int)] (hI h I) = some (.inl (Vi 0), hI h I) := by
  rw [q_X12_sumOf_0, q_X12_sumOf_5]
  simp (disch := first | (simp (disch := omega) only [w32_id]; omega) | omega) only [↓BM s, hw, h2, e_clI, e_clV, e_clP, e_clIx, e_clVx, e_clPx, e_xt, Int.toNat_natCast, Int.reduceToNat, bz0, bz1, Nat.add_zero, decide_eq_false_iff_not, decide_eq_true_eq, Int.reduceEq, Nat.reduceEqDiff, Int.reduceLT, Int.reduceLE, ↓reduceIte]
theorem laW_all {kd : Int} {b : Nat} (W : WL w ln cc) : 0 ≤ laW w kd b ∧ laW w kd b ≤ 720 := by
  have h1 := laW_b (k := kd) (b := b) W (Nat.le_refl _)
  have := W.2.1
  unfold laW
  rw [W.1, Int.toNat_natCast]
  omega
theorem m_growsBy (s : Sh h) (hw : I 284 = w) (V : WW w) (M : ML w) {b : Nat} (hb : b < 60) : ∃ J, Lv I J ∧ Cl sc (d + 6) mX12_growsBy [Vr (some 283), Vi (b : Int)] (hI h I) = some (.inl (Vi (grW w b)), hI h J) := by
  rw [q_X12_growsBy_0]
  unfold grW
  by_cases h1 : w (7 + 5 * b + 4) = 1
  · refine ⟨I, Lv.rf I, ?_⟩
    simp (disch := first | (simp (disch := omega) only [w32_id]; omega) | omega) only [↓BM s, m_of s, hw, h1, e_clI, e_clV, e_clP, e_clIx, e_clVx, e_clPx, e_xt, Int.toNat_natCast, Int.reduceToNat, bz0, bz1, Nat.add_zero, decide_eq_false_iff_not, decide_eq_true_eq, Int.reduceEq, Nat.reduceEqDiff, Int.reduceLT, Int.reduceLE, ↓reduceIte]
  · rcases M with M | ⟨M0, ln, cc, M1⟩
    · refine ⟨I, Lv.rf I, ?_⟩
      simp (disch := first | (simp (disch := omega) only [w32_id]; omega) | omega) only [↓BM s, m_of s, hw, h1, M, e_clI, e_clV, e_clP, e_clIx, e_clVx, e_clPx, e_xt, Int.toNat_natCast, Int.reduceToNat, bz0, bz1, Nat.add_zero, decide_eq_false_iff_not, decide_eq_true_eq, Int.reduceEq, Nat.reduceEqDiff, Int.reduceLT, Int.reduceLE, ↓reduceIte]
    · obtain ⟨J, g1, g2⟩ := m_sumOf (sc := sc) (d := d) s hw V M0 M1 hb (kd := 0)
      obtain ⟨K, k1, k2⟩ := m_sumOf (sc := sc) (d := d) s (g1.w.trans hw) V M0 M1 hb (kd := 1)
      refine ⟨K, g1.tr k1, ?_⟩
      have b1 := laW_all (kd := 0) (b := b) M1
      have b2 := laW_all (kd := 1) (b := b) M1
      simp (disch := first | (simp (disch := omega) only [w32_id]; omega) | omega) only [↓BM s, m_of s, hw, h1, M0, g2, k2, e_clI, e_clV, e_clP, e_clIx, e_clVx, e_clPx, e_xt, Int.toNat_natCast, Int.reduceToNat, bz0, bz1, Nat.add_zero, decide_eq_false_iff_not, decide_eq_true_eq, Int.reduceEq, Nat.reduceEqDiff, Int.reduceLT, Int.reduceLE, ↓reduceIte]
      rw [w32_id (by omega) (by omega)]
theorem m_soresBy (s : Sh h) (hw : I 284 = w) (V : WW w) (M : ML w) {b : Nat} (hb : b < 60) : ∃ J, Lv I J ∧ Cl sc (d + 6) mX12_soresBy [Vr (some 283), Vi (b : Int)] (hI h I) = some (.inl (Vi (srW w b)), hI h J) := by
  rw [q_X12_soresBy_0]
  unfold srW
  by_cases h1 : w (7 + 5 * b) = 1
  · rcases M with M | ⟨M0, ln, cc, M1⟩
    · refine ⟨I, Lv.rf I, ?_⟩
      have e := m_sumOf0 (sc := sc) (d := d) s hw M (b := b) (kd := 2)
      simp (disch := first | (simp (disch := omega) only [w32_id]; omega) | omega) only [↓BM s, m_hasFence s, hw, h1, e, e_clI, e_clV, e_clP, e_clIx, e_clVx, e_clPx, e_xt, Int.toNat_natCast, Int.reduceToNat, bz0, bz1, Nat.add_zero, decide_eq_false_iff_not, decide_eq_true_eq, Int.reduceEq, Nat.reduceEqDiff, Int.reduceLT, Int.reduceLE, ↓reduceIte]
      simp [M]
    · obtain ⟨J, g1, g2⟩ := m_sumOf (sc := sc) (d := d) s hw V M0 M1 hb (kd := 2)
      refine ⟨J, g1, ?_⟩
      simp (disch := first | (simp (disch := omega) only [w32_id]; omega) | omega) only [↓BM s, m_hasFence s, hw, h1, g2, e_clI, e_clV, e_clP, e_clIx, e_clVx, e_clPx, e_xt, Int.toNat_natCast, Int.reduceToNat, bz0, bz1, Nat.add_zero, decide_eq_false_iff_not, decide_eq_true_eq, Int.reduceEq, Nat.reduceEqDiff, Int.reduceLT, Int.reduceLE, ↓reduceIte]
      simp [M0]
  · refine ⟨I, Lv.rf I, ?_⟩
    simp (disch := first | (simp (disch := omega) only [w32_id]; omega) | omega) only [↓BM s, m_hasFence s, hw, h1, e_clI, e_clV, e_clP, e_clIx, e_clVx, e_clPx, e_xt, Int.toNat_natCast, Int.reduceToNat, bz0, bz1, Nat.add_zero, decide_eq_false_iff_not, decide_eq_true_eq, Int.reduceEq, Nat.reduceEqDiff, Int.reduceLT, Int.reduceLE, ↓reduceIte]
    simp [h1]
end
