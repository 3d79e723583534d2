/-! A COUNTY'S TEXT: the call -/
section
variable {P : Int → Bool} {A A' : Nat → Int} {L q : Nat} {w v : am_Wd}
theorem rn_cg (e : ∀ k, k < L → A k = A' k) : ∀ f q, q + f ≤ L → rn P A f q = rn P A' f q
  | 0, _, _ => rfl
  | f + 1, q, h => by
    have e1 : rn P A (f + 1) q = if P (A q) = true then rn P A f (q + 1) else q := rfl
    have e2 : rn P A' (f + 1) q = if P (A' q) = true then rn P A' f (q + 1) else q := rfl
    rw [e1, e2, e q (by omega), rn_cg e f (q + 1) (by omega)]
theorem blk_cg (e : ∀ k, k < L → A k = A' k) : blk A L q = blk A' L q := by
  unfold blk
  by_cases h : q ≤ L
  · exact rn_cg e _ _ (by omega)
  · rw [show L - q = 0 by omega]
    rfl
theorem enT_cg (e : ∀ k, k < L → A k = A' k) : enT A L q = enT A' L q := by
  unfold enT
  by_cases h : q < L
  · rw [e q h, rn_cg e (L - (q + 1)) (q + 1) (by omega), rn_cg e (L - (q + 1)) (q + 1) (by omega)]
  · have hz : L - (q + 1) = 0 := by omega
    rw [hz]
    have e1 : ∀ (P : Int → Bool) (A : Nat → Int), rn P A 0 (q + 1) = q + 1 := fun _ _ => rfl
    rw [e1, e1, e1, e1]
    simp only [ite_self]
theorem wd_cg (e : ∀ k, k < L → A k = A' k) {x : Nat} (hx : x ≤ L) {s : List Int} : wdEq A q x s = wdEq A' q x s := by
  unfold wdEq
  refine decide_eq_decide.mpr ⟨fun z => ⟨z.1, fun i hi => ?_⟩, fun z => ⟨z.1, fun i hi => ?_⟩⟩
  · rw [← e (q + i) (by have := z.1; omega)]
    exact z.2 i hi
  · rw [e (q + i) (by have := z.1; omega)]
    exact z.2 i hi
theorem wth_cg (e : ∀ k, k < L → A k = A' k) {x : Nat} (hx : x ≤ L) : ∀ n j, wth A q x n j = wth A' q x n j
  | 0, _ => rfl
  | n + 1, j => by
    unfold wth
    rw [wd_cg e hx, wth_cg e hx n (j + 1)]
theorem nvT_cg (e : ∀ k, k < L → A k = A' k) : ∀ k, q + k ≤ L → nvT A q k = nvT A' q k
  | 0, _ => rfl
  | k + 1, h => by
    unfold nvT
    rw [e (q + k) (by omega), nvT_cg e k (by omega)]
theorem th_cg (e : ∀ k, k < L → A k = A' k) : ∀ q, thT A L q = thT A' L q := by
  intro q
  unfold thT
  by_cases h : L ≤ q
  · rw [if_pos h, if_pos h]
  · rw [if_neg h, if_neg h]
    have hb := enT_b (A := A) (L := L) (q := q) (by omega)
    rw [← enT_cg (q := q) e, e q (by omega), wth_cg e hb.2 23 0, nvT_cg e (enT A L q - q) (by omega)]
theorem nx_cg (e : ∀ k, k < L → A k = A' k) : ∀ q, nxT A L q = nxT A' L q := fun q => by
  unfold nxT
  rw [enT_cg e, blk_cg e]
theorem opR_cg (t : ∀ q, thT A L q = thT A' L q) (n : ∀ q, nxT A L q = nxT A' L q) {c dv : Int} : opR A L c q dv = opR A' L c q dv := by
  unfold opR
  simp only [t, n]
theorem rdFe2_cg (t : ∀ q, thT A L q = thT A' L q) (n : ∀ q, nxT A L q = nxT A' L q) {b : Nat} : rdFe2 A L q w b = rdFe2 A' L q w b := by
  unfold rdFe2 tgV tgR
  rw [opR_cg t n]
  cases (opR A' L (-18) q 0).2 with
  | none => rfl
  | some ag =>
    dsimp only
    rw [opR_cg t n]
    cases (opR A' L (-19) (opR A' L (-18) q 0).1 0).2 with
    | none => rfl
    | some hi => simp only [t, n]
theorem rdLine_cg (t : ∀ q, thT A L q = thT A' L q) (n : ∀ q, nxT A L q = nxT A' L q) : rdLine A L q w = rdLine A' L q w := by
  have e2 : ∀ q w b, rdFe2 A L q w b = rdFe2 A' L q w b := fun q w b => rdFe2_cg t n
  have e3 : ∀ c q dv, opR A L c q dv = opR A' L c q dv := fun c q dv => opR_cg t n
  unfold rdLine rdFence rdRow rdFamily rdNum
  simp only [t, n, e2, e3]
theorem rdLs_cg (t : ∀ q, thT A L q = thT A' L q) (n : ∀ q, nxT A L q = nxT A' L q) : ∀ k q (w : am_Wd), rdLs A L k q w = rdLs A' L k q w
  | 0, _, _ => rfl
  | k + 1, q, w => by
    unfold rdLs
    rw [rdLine_cg t n]
    cases (rdLine A' L q w).2 with
    | none => rfl
    | some v =>
      dsimp only
      rw [t, n, rdLs_cg t n k]
theorem rdCo_cg (e : ∀ k, k < L → A k = A' k) : rdCo A L w = rdCo A' L w := by
  unfold rdCo
  rw [blk_cg e, th_cg e, rdLs_cg (th_cg e) (nx_cg e)]
/-- the count of texts stays -/
theorem rdFe2_1 {b : Nat} (h : (rdFe2 A L q w b).2 = some v) : v 1 = w 1 := by
  unfold rdFe2 at h
  cases e1 : (opR A L (-18) q 0).2 with
  | none =>
    rw [e1] at h
    cases h
  | some ag =>
    rw [e1] at h
    cases e2 : (opR A L (-19) (opR A L (-18) q 0).1 0).2 with
    | none =>
      rw [e2] at h
      cases h
    | some hi =>
      rw [e2] at h
      cases h
      exact feW_g (by omega)
theorem roW_1 {y : Nat} {hi : Int} : ∀ n, roW w y hi n 1 = w 1
  | 0 => rfl
  | n + 1 => (feW_g (by omega)).trans (roW_1 n)
theorem rdLine_1 (h : (rdLine A L q w).2 = some v) : v 1 = w 1 := by
  unfold rdLine rdFence rdRow rdFamily rdNum at h
  repeat' split at h
  all_goals first
    | exact rdFe2_1 h
    | (cases h; exact roW_1 6)
    | (cases h; unfold faW; rw [up_o (by decide), up_o (by omega), up_o (by omega), up_o (by omega), up_o (by omega)])
    | (cases h; exact up_o (by decide))
    | cases h
theorem rdLs_1 : ∀ k q (w : am_Wd) {v : am_Wd}, (rdLs A L k q w).2 = some v → v 1 = w 1
  | 0, _, _, _, h => by cases h
  | k + 1, q, w, v, h => by
    unfold rdLs at h
    cases e : (rdLine A L q w).2 with
    | none =>
      rw [e] at h
      cases h
    | some w' =>
      rw [e] at h
      have o := rdLine_1 e
      by_cases h1 : thT A L (rdLine A L q w).1 = -1
      · simp only [if_pos h1] at h
        cases h
        exact o
      · by_cases h2 : thT A L (rdLine A L q w).1 = -3
        · simp only [if_neg h1, if_pos h2] at h
          exact (rdLs_1 k _ w' h).trans o
        · simp only [if_neg h1, if_neg h2] at h
          cases h
theorem rdCo_1 (h : (rdCo A L w).2 = some v) : v 1 = w 1 := by
  unfold rdCo at h
  by_cases h1 : thT A L (blk A L 0) = -1
  · rw [if_pos h1] at h
    cases h
    rfl
  · rw [if_neg h1] at h
    exact rdLs_1 14 _ w h
end
section
variable {sc : Nat × (Nat → Int)} {d : Nat} {h h1 h2 : am_H} {I J J1 J2 K : am_I} {w v : am_Wd} {y : Int}
theorem te_R (R : CRep J 23 w) (V : WW w) {x : Int} : CRep (am_u2 J 23 13 x) 23 (up w 1 x) := by
  refine R.chS V (fun k h1 h2 => u2_o (by omega)) (fun j hj => up_o (by omega)) ?_
  obtain ⟨r0, r1, r2, r3, r4⟩ := R.sr
  unfold SR
  rw [u2_same, u2_j (by decide), u2_j (by decide), u2_j (by decide), u2_j (by decide), up_s, up_o (by decide), up_o (by decide), up_o (by decide), up_o (by decide)]
  exact ⟨r0, r1, r2, r3, rfl⟩
theorem up1_w (V : WW w) {x : Int} (hx : 0 ≤ x ∧ x ≤ 12) : WW (up w 1 x) := by
  refine V.chS (fun j h1 h2 => up_o (by omega)) ?_
  obtain ⟨v0, v1, v2, v3, v4, v5, v6⟩ := V.ws
  unfold WS
  rw [up_s, up_o (by decide), up_o (by decide), up_o (by decide), up_o (by decide), up_o (by decide), up_o (by decide)]
  exact ⟨v0, hx, v2, v3, v4, v5, v6⟩
/-- the reference lays the county aside -/
theorem m_county3 (s : Sh h) {u2 : am_V} : Ru sc (d + 1) mX12_county 3 [Vr (some 283), Vi 0, u2] [] (hI h J) = Ru sc (d + 1) mX12_county 3 [Vr (some 283), Vi 1480, u2] [] (hI h (sr J 286 (fun j => if j < 1480 then J 284 (0 + j) else J 286 j))) :=
  m_lay (h := h) (J := J) (m := 286) (q := 284) (o := 0) (N := 1480) (L := fun i hh => Ru sc (d + 1) mX12_county 3 [Vr (some 283), Vi (i : Int), u2] [] hh) (Nat.le_refl _) (fun i K hi kq k283 => by
    obtain ⟨wn, l1, l2⟩ := ar_3 hi
    rw [Nat.zero_add] at kq
    rw [Nat.zero_add]
    try dsimp only
    rw [q_X12_county_3]
    simp (disch := first | assumption | exact Int.natCast_nonneg _ | decide) only [↓BM s, l1, l2, wn, kq, e_clI, e_clV, e_clP, e_clIx, e_clVx, e_clPx, e_xt, Int.toNat_natCast, Int.reduceToNat, bz0, bz1, Nat.add_zero, decide_eq_false_iff_not, decide_eq_true_eq, Int.reduceEq, Nat.reduceEqDiff, Int.reduceLT, Int.reduceLE, not_true_eq_false, not_false_eq_true, eq_self, ↓reduceIte]) (by decide) (by decide)
/-- the reference brings the county back -/
theorem m_county55 (s : Sh h) {u1 : Int} : Ru sc (d + 1) mX12_county 55 [Vr (some 283), Vi u1, Vi 0] [] (hI h J) = some (.inl (Vi 0), hI h (sr J 284 (fun j => if j < 1480 then J 286 (0 + j) else J 284 j))) := by
  refine (m_lay (h := h) (J := J) (m := 284) (q := 286) (o := 0) (N := 1480) (L := fun i hh => Ru sc (d + 1) mX12_county 55 [Vr (some 283), Vi u1, Vi (i : Int)] [] hh) (Nat.le_refl _) (fun i K hi kq k283 => by
    obtain ⟨wn, l1, l2⟩ := ar_3 hi
    rw [Nat.zero_add] at kq
    rw [Nat.zero_add]
    try dsimp only
    rw [q_X12_county_55]
    simp (disch := first | assumption | exact Int.natCast_nonneg _ | decide) only [↓BM s, l1, l2, wn, kq, e_clI, e_clV, e_clP, e_clIx, e_clVx, e_clPx, e_xt, Int.toNat_natCast, Int.reduceToNat, bz0, bz1, Nat.add_zero, decide_eq_false_iff_not, decide_eq_true_eq, Int.reduceEq, Nat.reduceEqDiff, Int.reduceLT, Int.reduceLE, not_true_eq_false, not_false_eq_true, eq_self, ↓reduceIte]) (by decide) (by decide)).trans ?_
  try dsimp only
  rw [q_X12_county_55, if_neg (by omega)]
end
