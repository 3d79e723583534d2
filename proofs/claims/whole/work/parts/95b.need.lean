/-! WHAT IS ASKED FIRST -/
def cdA (x : Nat) : Int := if x = 0 then 0 else 1
def cdB (x : Nat) : Int := if x = 0 then 0 else if x = 3 then 1 else 2
def cdC (x : Nat) : Int := if x = 0 then 0 else if x = 1 then 1 else 2
def cdG (x : Nat) : Int := if x = 0 then 0 else if x = 3 then 1 else if x = 1 then 2 else 3
theorem u2_p {I : am_I} {a j p i : Nat} {v : Int} (hp : p ≠ a) : am_u2 I a j v p i = I p i := u2_a hp
section
variable {sc : Nat × (Nat → Int)} {d : Nat} {h : am_H} {I : am_I}
theorem c_nB {b : Int} (hb : 0 ≤ b ∧ b < 60) : Cl sc (d + 1) mX11_needBorder [Vi b] h = some (.inl (Vx 0), h) := by
  rw [q_X11_needBorder_0, if_neg (by omega), if_pos (by omega)]
theorem c_nBx {b : Int} (hb : ¬ (0 ≤ b ∧ b < 60)) : Cl sc (d + 1) mX11_needBorder [Vi b] h = some (.inr 3, am_ex h) := by
  rw [q_X11_needBorder_0]
  split
  · rfl
  · rw [if_neg (by omega)]
theorem c_nC {b : Int} (hb : 0 ≤ b ∧ b < 36) : Cl sc (d + 1) mX11_needCell [Vi b] h = some (.inl (Vx 0), h) := by
  rw [q_X11_needCell_0, if_neg (by omega), if_pos (by omega)]
theorem c_nCx {b : Int} (hb : ¬ (0 ≤ b ∧ b < 36)) : Cl sc (d + 1) mX11_needCell [Vi b] h = some (.inr 3, am_ex h) := by
  rw [q_X11_needCell_0]
  split
  · rfl
  · rw [if_neg (by omega)]
theorem c_nK {b : Int} (hb : 0 ≤ b ∧ b < 49) : Cl sc (d + 1) mX11_needCorner [Vi b] h = some (.inl (Vx 0), h) := by
  rw [q_X11_needCorner_0, if_neg (by omega), if_pos (by omega)]
theorem c_nKx {b : Int} (hb : ¬ (0 ≤ b ∧ b < 49)) : Cl sc (d + 1) mX11_needCorner [Vi b] h = some (.inr 3, am_ex h) := by
  rw [q_X11_needCorner_0]
  split
  · rfl
  · rw [if_neg (by omega)]
theorem c_nH {b : Int} (hb : 0 ≤ b ∧ b ≤ 999) : Cl sc (d + 1) mX11_needHeight [Vi b] h = some (.inl (Vx 0), h) := by
  rw [q_X11_needHeight_0, if_neg (by omega), if_neg (by omega)]
theorem c_nHx {b : Int} (hb : ¬ (0 ≤ b ∧ b ≤ 999)) : Cl sc (d + 1) mX11_needHeight [Vi b] h = some (.inr 1, am_ex h) := by
  rw [q_X11_needHeight_0]
  split
  · rfl
  · rw [if_pos (by omega)]
theorem c_nY {b : Int} (hb : 0 ≤ b ∧ b ≤ 100) : Cl sc (d + 1) mX11_needYears [Vi b] h = some (.inl (Vx 0), h) := by
  rw [q_X11_needYears_0, if_neg (by omega), if_neg (by omega)]
theorem c_nYx {b : Int} (hb : ¬ (0 ≤ b ∧ b ≤ 100)) : Cl sc (d + 1) mX11_needYears [Vi b] h = some (.inr 1, am_ex h) := by
  rw [q_X11_needYears_0]
  split
  · rfl
  · rw [if_pos (by omega)]
theorem c_nF (s : Sh h) (e : I 11 5 = I 284 0) {f : Int} (hf : 0 ≤ f ∧ f < I 284 0) : Cl sc (d + 1) mX11_needFamily [Vr (some 0), Vi f] (hI h I) = some (.inl (Vx 0), hI h I) := by
  rw [q_X11_needFamily_0]
  simp (disch := first | (simp (disch := omega) only [w32_id]; omega) | omega) only [↓BO s, ↓BC (cty_of s isC_now), e, e_clI, e_clV, e_clP, e_clIx, e_clVx, e_clPx, e_xt, Int.toNat_natCast, Int.reduceToNat, bz0, bz1, Nat.add_zero, decide_eq_false_iff_not, decide_eq_true_eq, Int.reduceEq, Nat.reduceEqDiff, Int.reduceLT, Int.reduceLE, not_true_eq_false, not_false_eq_true, ↓reduceIte]
  rw [if_neg (by omega), if_pos (by omega)]
theorem c_nFx (s : Sh h) (e : I 11 5 = I 284 0) {f : Int} (hf : ¬ (0 ≤ f ∧ f < I 284 0)) : Cl sc (d + 1) mX11_needFamily [Vr (some 0), Vi f] (hI h I) = some (.inr 3, hI (am_ex h) I) := by
  rw [q_X11_needFamily_0]
  simp (disch := first | (simp (disch := omega) only [w32_id]; omega) | omega) only [↓BO s, ↓BC (cty_of s isC_now), e, e_clI, e_clV, e_clP, e_clIx, e_clVx, e_clPx, e_xt, Int.toNat_natCast, Int.reduceToNat, bz0, bz1, Nat.add_zero, decide_eq_false_iff_not, decide_eq_true_eq, Int.reduceEq, Nat.reduceEqDiff, Int.reduceLT, Int.reduceLE, not_true_eq_false, not_false_eq_true, ↓reduceIte]
  split
  · rfl
  · rw [if_neg (by omega)]
    rfl
theorem c_nT (s : Sh h) (e : I 11 5 = I 284 0) {f g : Int} (hf : 0 ≤ f ∧ f < I 284 0) (hg : 0 ≤ g ∧ g < I 284 0) (hn : f ≠ g) : Cl sc (d + 2) mX11_needTwoFamilies [Vr (some 0), Vi f, Vi g] (hI h I) = some (.inl (Vx 0), hI h I) := by
  rw [q_X11_needTwoFamilies_0]
  simp (disch := first | (simp (disch := omega) only [w32_id]; omega) | omega) only [↓BO s, c_nF s e hf, c_nF s e hg, hn, e_clI, e_clV, e_clP, e_clIx, e_clVx, e_clPx, e_xt, Int.toNat_natCast, Int.reduceToNat, bz0, bz1, Nat.add_zero, decide_eq_false_iff_not, decide_eq_true_eq, Int.reduceEq, Nat.reduceEqDiff, Int.reduceLT, Int.reduceLE, not_true_eq_false, not_false_eq_true, ↓reduceIte]
theorem c_nTx (s : Sh h) (e : I 11 5 = I 284 0) {f g : Int} (hf : ¬ ((0 ≤ f ∧ f < I 284 0) ∧ 0 ≤ g ∧ g < I 284 0)) : Cl sc (d + 2) mX11_needTwoFamilies [Vr (some 0), Vi f, Vi g] (hI h I) = some (.inr 3, hI (am_ex h) I) := by
  rw [q_X11_needTwoFamilies_0]
  by_cases h1 : 0 ≤ f ∧ f < I 284 0
  · simp (disch := first | (simp (disch := omega) only [w32_id]; omega) | omega) only [↓BO s, c_nF s e h1, c_nFx s e (show ¬ (0 ≤ g ∧ g < I 284 0) from fun x => hf ⟨h1, x⟩), e_clI, e_clV, e_clP, e_clIx, e_clVx, e_clPx, e_xt, Int.toNat_natCast, Int.reduceToNat, bz0, bz1, Nat.add_zero, decide_eq_false_iff_not, decide_eq_true_eq, Int.reduceEq, Nat.reduceEqDiff, Int.reduceLT, Int.reduceLE, not_true_eq_false, not_false_eq_true, ↓reduceIte]
  · simp (disch := first | (simp (disch := omega) only [w32_id]; omega) | omega) only [↓BO s, c_nFx s e h1, e_clI, e_clV, e_clP, e_clIx, e_clVx, e_clPx, e_xt, Int.toNat_natCast, Int.reduceToNat, bz0, bz1, Nat.add_zero, decide_eq_false_iff_not, decide_eq_true_eq, Int.reduceEq, Nat.reduceEqDiff, Int.reduceLT, Int.reduceLE, not_true_eq_false, not_false_eq_true, ↓reduceIte]
theorem c_nTy (s : Sh h) (e : I 11 5 = I 284 0) {f : Int} (hf : 0 ≤ f ∧ f < I 284 0) : Cl sc (d + 2) mX11_needTwoFamilies [Vr (some 0), Vi f, Vi f] (hI h I) = some (.inr 1, hI (am_ex h) I) := by
  rw [q_X11_needTwoFamilies_0]
  simp (disch := first | (simp (disch := omega) only [w32_id]; omega) | omega) only [↓BO s, c_nF s e hf, hI_exI, e_clI, e_clV, e_clP, e_clIx, e_clVx, e_clPx, e_xt, Int.toNat_natCast, Int.reduceToNat, bz0, bz1, Nat.add_zero, decide_eq_false_iff_not, decide_eq_true_eq, Int.reduceEq, Nat.reduceEqDiff, Int.reduceLT, Int.reduceLE, not_true_eq_false, not_false_eq_true, ↓reduceIte]
theorem c_nE (s : Sh h) (R : CRep I 11 (I 284)) {b : Nat} (hb : b < 60) (hf : I 284 (7 + 5 * b) = 1) : Cl sc (d + 1) mX11_needFence [Vr (some 0), Vi (b : Int)] (hI h I) = some (.inl (Vx 0), hI h I) := by
  rw [q_X11_needFence_0]
  have e := R.th hb
  simp (disch := first | (simp (disch := omega) only [w32_id]; omega) | omega) only [↓BO s, ↓BC (cty_of s isC_now), e, hf, e_clI, e_clV, e_clP, e_clIx, e_clVx, e_clPx, e_xt, Int.toNat_natCast, Int.reduceToNat, bz0, bz1, Nat.add_zero, decide_eq_false_iff_not, decide_eq_true_eq, Int.reduceEq, Nat.reduceEqDiff, Int.reduceLT, Int.reduceLE, not_true_eq_false, not_false_eq_true, ↓reduceIte]
theorem c_nEx (s : Sh h) (R : CRep I 11 (I 284)) {b : Nat} (hb : b < 60) (hf : I 284 (7 + 5 * b) = 0) : Cl sc (d + 1) mX11_needFence [Vr (some 0), Vi (b : Int)] (hI h I) = some (.inr 5, hI (am_ex h) I) := by
  rw [q_X11_needFence_0]
  have e := R.th hb
  simp (disch := first | (simp (disch := omega) only [w32_id]; omega) | omega) only [↓BO s, ↓BC (cty_of s isC_now), e, hf, hI_exI, e_clI, e_clV, e_clP, e_clIx, e_clVx, e_clPx, e_xt, Int.toNat_natCast, Int.reduceToNat, bz0, bz1, Nat.add_zero, decide_eq_false_iff_not, decide_eq_true_eq, Int.reduceEq, Nat.reduceEqDiff, Int.reduceLT, Int.reduceLE, not_true_eq_false, not_false_eq_true, ↓reduceIte]
theorem m_t0 (s : Sh h) {k : Int} : Cl sc (d + 1) mX12_throwsIf [Vr (some 283), Vi 0, Vi k] (hI h I) = some (.inl (Vi 0), hI h I) := m_throwsIf (b := false) s
theorem m_t1 (s : Sh h) {k : Int} : Cl sc (d + 1) mX12_throwsIf [Vr (some 283), Vi 1, Vi k] (hI h I) = some (.inl (Vi 1), hI h (am_u2 I 283 0 k)) := m_throwsIf (b := true) s
theorem m_nB {b : Int} (hb : 0 ≤ b ∧ b < 60) : Cl sc (d + 2) mX12_noBorder [Vi b] h = some (.inl (Vi 0), h) := by
  rw [c_noBorder, decide_eq_false (by omega)]; rfl
theorem m_nBx {b : Int} (hb : ¬ (0 ≤ b ∧ b < 60)) : Cl sc (d + 2) mX12_noBorder [Vi b] h = some (.inl (Vi 1), h) := by
  rw [c_noBorder, decide_eq_true (by omega)]; rfl
theorem m_nC {b : Int} (hb : 0 ≤ b ∧ b < 36) : Cl sc (d + 2) mX12_noCell [Vi b] h = some (.inl (Vi 0), h) := by
  rw [c_noCell, decide_eq_false (by omega)]; rfl
theorem m_nCx {b : Int} (hb : ¬ (0 ≤ b ∧ b < 36)) : Cl sc (d + 2) mX12_noCell [Vi b] h = some (.inl (Vi 1), h) := by
  rw [c_noCell, decide_eq_true (by omega)]; rfl
theorem m_nH {b : Int} (hb : 0 ≤ b ∧ b ≤ 999) : Cl sc (d + 2) mX12_noHeight [Vi b] h = some (.inl (Vi 0), h) := by
  rw [c_noHeight, decide_eq_false (by omega)]; rfl
theorem m_nHx {b : Int} (hb : ¬ (0 ≤ b ∧ b ≤ 999)) : Cl sc (d + 2) mX12_noHeight [Vi b] h = some (.inl (Vi 1), h) := by
  rw [c_noHeight, decide_eq_true (by omega)]; rfl
theorem m_nF (s : Sh h) (V : WW (I 284)) {f : Int} (hf : 0 ≤ f ∧ f < I 284 0) : Cl sc (d + 2) mX12_noFamily [Vr (some 283), Vi f] (hI h I) = some (.inl (Vi 0), hI h I) := by
  rw [m_noFamily s V, decide_eq_false (by omega)]; rfl
theorem m_nFx (s : Sh h) (V : WW (I 284)) {f : Int} (hf : ¬ (0 ≤ f ∧ f < I 284 0)) : Cl sc (d + 2) mX12_noFamily [Vr (some 283), Vi f] (hI h I) = some (.inl (Vi 1), hI h I) := by
  rw [m_noFamily s V, decide_eq_true (by omega)]; rfl
theorem m_nT (s : Sh h) (V : WW (I 284)) {f g : Int} (hf : 0 ≤ f ∧ f < I 284 0) (hg : 0 ≤ g ∧ g < I 284 0) (hn : f ≠ g) : Cl sc (d + 3) mX12_noTwo [Vr (some 283), Vi f, Vi g] (hI h I) = some (.inl (Vi 0), hI h (am_u2 I 283 0 0)) := by
  have V2 : WW (am_u2 I 283 0 0 284) := by rw [w283]; exact V
  rw [q_X12_noTwo_0]
  simp (disch := first | (simp (disch := omega) only [w32_id]; omega) | omega) only [↓BM s, q_X12_noTwo_16, m_nF s V2 (by rw [w283]; exact hf), m_nF s V2 (by rw [w283]; exact hg), m_t0 s, hn, e_clI, e_clV, e_clP, e_clIx, e_clVx, e_clPx, e_xt, Int.toNat_natCast, Int.reduceToNat, bz0, bz1, Nat.add_zero, decide_eq_false_iff_not, decide_eq_true_eq, Int.reduceEq, Nat.reduceEqDiff, Int.reduceLT, Int.reduceLE, not_true_eq_false, not_false_eq_true, ↓reduceIte]
theorem m_nTx (s : Sh h) (V : WW (I 284)) {f g : Int} (hf : ¬ ((0 ≤ f ∧ f < I 284 0) ∧ 0 ≤ g ∧ g < I 284 0)) : Cl sc (d + 3) mX12_noTwo [Vr (some 283), Vi f, Vi g] (hI h I) = some (.inl (Vi 1), hI h (am_u2 (am_u2 I 283 0 0) 283 0 1)) := by
  have V2 : WW (am_u2 I 283 0 0 284) := by rw [w283]; exact V
  rw [q_X12_noTwo_0]
  by_cases h1 : 0 ≤ f ∧ f < I 284 0
  · simp (disch := first | (simp (disch := omega) only [w32_id]; omega) | omega) only [↓BM s, q_X12_noTwo_16, m_nF s V2 (by rw [w283]; exact h1), m_nFx s V2 (f := g) (by rw [w283]; exact fun x => hf ⟨h1, x⟩), m_t1 s, e_clI, e_clV, e_clP, e_clIx, e_clVx, e_clPx, e_xt, Int.toNat_natCast, Int.reduceToNat, bz0, bz1, Nat.add_zero, decide_eq_false_iff_not, decide_eq_true_eq, Int.reduceEq, Nat.reduceEqDiff, Int.reduceLT, Int.reduceLE, not_true_eq_false, not_false_eq_true, ↓reduceIte]
  · simp (disch := first | (simp (disch := omega) only [w32_id]; omega) | omega) only [↓BM s, q_X12_noTwo_16, m_nFx s V2 (by rw [w283]; exact h1), m_t1 s, e_clI, e_clV, e_clP, e_clIx, e_clVx, e_clPx, e_xt, Int.toNat_natCast, Int.reduceToNat, bz0, bz1, Nat.add_zero, decide_eq_false_iff_not, decide_eq_true_eq, Int.reduceEq, Nat.reduceEqDiff, Int.reduceLT, Int.reduceLE, not_true_eq_false, not_false_eq_true, ↓reduceIte]
theorem m_nTy (s : Sh h) (V : WW (I 284)) {f : Int} (hf : 0 ≤ f ∧ f < I 284 0) : Cl sc (d + 3) mX12_noTwo [Vr (some 283), Vi f, Vi f] (hI h I) = some (.inl (Vi 1), hI h (am_u2 (am_u2 I 283 0 0) 283 0 2)) := by
  have V2 : WW (am_u2 I 283 0 0 284) := by rw [w283]; exact V
  rw [q_X12_noTwo_0]
  simp (disch := first | (simp (disch := omega) only [w32_id]; omega) | omega) only [↓BM s, q_X12_noTwo_16, m_nF s V2 (by rw [w283]; exact hf), m_t0 s, m_t1 s, e_clI, e_clV, e_clP, e_clIx, e_clVx, e_clPx, e_xt, Int.toNat_natCast, Int.reduceToNat, bz0, bz1, Nat.add_zero, decide_eq_false_iff_not, decide_eq_true_eq, Int.reduceEq, Nat.reduceEqDiff, Int.reduceLT, Int.reduceLE, not_true_eq_false, not_false_eq_true, ↓reduceIte]
theorem m_nCs (s : Sh h) {a b t : Int} (ha : 0 ≤ a ∧ a < 36) (hb : 0 ≤ b ∧ b < 36) (ht : 0 ≤ t ∧ t ≤ 999) : Cl sc (d + 3) mX12_noCells [Vr (some 283), Vi a, Vi b, Vi t] (hI h I) = some (.inl (Vi 0), hI h (am_u2 I 283 0 0)) := by
  rw [q_X12_noCells_0]
  simp (disch := first | (simp (disch := omega) only [w32_id]; omega) | omega) only [↓BM s, q_X12_noCells_14, m_nC ha, m_nC hb, m_nH ht, m_t0 s, e_clI, e_clV, e_clP, e_clIx, e_clVx, e_clPx, e_xt, Int.toNat_natCast, Int.reduceToNat, bz0, bz1, Nat.add_zero, decide_eq_false_iff_not, decide_eq_true_eq, Int.reduceEq, Nat.reduceEqDiff, Int.reduceLT, Int.reduceLE, not_true_eq_false, not_false_eq_true, ↓reduceIte]
theorem m_nCsx (s : Sh h) {a b t : Int} (ha : ¬ ((0 ≤ a ∧ a < 36) ∧ 0 ≤ b ∧ b < 36)) : Cl sc (d + 3) mX12_noCells [Vr (some 283), Vi a, Vi b, Vi t] (hI h I) = some (.inl (Vi 1), hI h (am_u2 (am_u2 I 283 0 0) 283 0 1)) := by
  rw [q_X12_noCells_0]
  by_cases h1 : 0 ≤ a ∧ a < 36
  · simp (disch := first | (simp (disch := omega) only [w32_id]; omega) | omega) only [↓BM s, q_X12_noCells_14, m_nC h1, m_nCx (show ¬ (0 ≤ b ∧ b < 36) from fun x => ha ⟨h1, x⟩), m_t1 s, e_clI, e_clV, e_clP, e_clIx, e_clVx, e_clPx, e_xt, Int.toNat_natCast, Int.reduceToNat, bz0, bz1, Nat.add_zero, decide_eq_false_iff_not, decide_eq_true_eq, Int.reduceEq, Nat.reduceEqDiff, Int.reduceLT, Int.reduceLE, not_true_eq_false, not_false_eq_true, ↓reduceIte]
  · simp (disch := first | (simp (disch := omega) only [w32_id]; omega) | omega) only [↓BM s, q_X12_noCells_14, m_nCx h1, m_t1 s, e_clI, e_clV, e_clP, e_clIx, e_clVx, e_clPx, e_xt, Int.toNat_natCast, Int.reduceToNat, bz0, bz1, Nat.add_zero, decide_eq_false_iff_not, decide_eq_true_eq, Int.reduceEq, Nat.reduceEqDiff, Int.reduceLT, Int.reduceLE, not_true_eq_false, not_false_eq_true, ↓reduceIte]
theorem m_nCsy (s : Sh h) {a b t : Int} (ha : 0 ≤ a ∧ a < 36) (hb : 0 ≤ b ∧ b < 36) (ht : ¬ (0 ≤ t ∧ t ≤ 999)) : Cl sc (d + 3) mX12_noCells [Vr (some 283), Vi a, Vi b, Vi t] (hI h I) = some (.inl (Vi 1), hI h (am_u2 (am_u2 I 283 0 0) 283 0 2)) := by
  rw [q_X12_noCells_0]
  simp (disch := first | (simp (disch := omega) only [w32_id]; omega) | omega) only [↓BM s, q_X12_noCells_14, m_nC ha, m_nC hb, m_nHx ht, m_t0 s, m_t1 s, e_clI, e_clV, e_clP, e_clIx, e_clVx, e_clPx, e_xt, Int.toNat_natCast, Int.reduceToNat, bz0, bz1, Nat.add_zero, decide_eq_false_iff_not, decide_eq_true_eq, Int.reduceEq, Nat.reduceEqDiff, Int.reduceLT, Int.reduceLE, not_true_eq_false, not_false_eq_true, ↓reduceIte]
end
