/-! WHAT FLOWS BY THE REFERENCE -/
def opv (way x a : Int) : Int := if way = 2 then max x a else pl x a
def opm (way x a : Int) : Int := if way = 2 then max x a else min 1000000 (x + a)
theorem mon_v (way : Int) : mon (opv way) := by
  unfold opv
  by_cases h : way = 2
  · simp only [h, ↓reduceIte]
    exact ⟨fun x y a h => by dsimp only; omega, fun x a h => by dsimp only; omega⟩
  · simp only [h, ↓reduceIte]
    exact mon_pl
def adM (w : am_Wd) (su pu way t : Int) (b : Nat) : Int := if way = 0 then (if opS w su pu b t = true then tlW w b else 1000000) else if way = 1 then (if opS w su pu b t = true then 0 else 1) else (if opS w su pu b 0 = true then 0 else w (7 + 5 * b + 2))
theorem tlW_b {w : am_Wd} (V : WW w) {b : Nat} (hb : b < 60) : 1 ≤ tlW w b ∧ tlW w b ≤ 100 := by
  have hv := V.fe hb
  unfold tlW
  split <;> omega
theorem adM_b {w : am_Wd} (V : WW w) {su pu way t : Int} {b : Nat} (hb : b < 60) : 0 ≤ adM w su pu way t b ∧ adM w su pu way t b ≤ 1000000 ∧ (way ≠ 0 → adM w su pu way t b ≤ 999) := by
  have hv := V.fe hb
  have ht := tlW_b V hb
  unfold adM
  split
  · split <;> omega
  · split
    · split <;> omega
    · split <;> omega
theorem rx_lt {op : Int → Int → Int} {ad : Nat → Int} {e1 e2 : Nat → Nat} {b N : Nat} {C : Nat → Int} (h1 : e1 b < N) (h2 : e2 b < N) (h : op (C (e1 b)) (ad b) < C (e2 b) ∨ op (C (e2 b)) (ad b) < C (e1 b)) : sm (rx op e1 e2 ad b C) N < sm C N := by
  refine sm_lt (fun i hi => rx_le i) ?_
  unfold rx
  by_cases g : op (C (e1 b)) (ad b) < C (e2 b)
  · rw [if_pos g]
    exact ⟨e2 b, h2, by rw [up_s]; exact g⟩
  · rw [if_neg g, if_pos (h.resolve_left g)]
    exact ⟨e1 b, h1, by rw [up_s]; exact h.resolve_left g⟩
section
variable {sc : Nat × (Nat → Int)} {d : Nat} {h : am_H} {I : am_I} {w : am_Wd}
theorem m_addsBy (s : Sh h) (V : WW (I 284)) {way t : Int} {b : Nat} (hb : b < 60) : Cl sc (d + 5) mX12_addsBy [Vr (some 283), Vi way, Vi (b : Int), Vi t] (hI h I) = some (.inl (Vi (adM (I 284) (I 283 18) (I 283 19) way t b)), hI h I) := by
  rw [q_X12_addsBy_0]
  unfold adM
  by_cases h0 : way = 0
  · simp (disch := first | (simp (disch := omega) only [w32_id]; omega) | omega) only [↓BM s, h0, m_isOpen s hb, m_costOf s V hb, e_clI, e_clV, e_clP, e_clIx, e_clVx, e_clPx, e_xt, Int.toNat_natCast, Int.reduceToNat, bz0, bz1, Nat.add_zero, decide_eq_false_iff_not, decide_eq_true_eq, Int.reduceEq, Nat.reduceEqDiff, Int.reduceLT, Int.reduceLE, not_true_eq_false, not_false_eq_true, ↓reduceIte]
    cases opS (I 284) (I 283 18) (I 283 19) b t <;> rfl
  · by_cases h1 : way = 1
    · simp (disch := first | (simp (disch := omega) only [w32_id]; omega) | omega) only [↓BM s, h0, h1, m_isOpen s hb, e_clI, e_clV, e_clP, e_clIx, e_clVx, e_clPx, e_xt, Int.toNat_natCast, Int.reduceToNat, bz0, bz1, Nat.add_zero, decide_eq_false_iff_not, decide_eq_true_eq, Int.reduceEq, Nat.reduceEqDiff, Int.reduceLT, Int.reduceLE, not_true_eq_false, not_false_eq_true, ↓reduceIte]
      cases opS (I 284) (I 283 18) (I 283 19) b t <;> rfl
    · simp (disch := first | (simp (disch := omega) only [w32_id]; omega) | omega) only [↓BM s, h0, h1, m_isOpen s hb, m_of s, e_clI, e_clV, e_clP, e_clIx, e_clVx, e_clPx, e_xt, Int.toNat_natCast, Int.reduceToNat, bz0, bz1, Nat.add_zero, decide_eq_false_iff_not, decide_eq_true_eq, Int.reduceEq, Nat.reduceEqDiff, Int.reduceLT, Int.reduceLE, not_true_eq_false, not_false_eq_true, ↓reduceIte]
      cases opS (I 284) (I 283 18) (I 283 19) b 0 <;> rfl
theorem m_on {way x a : Int} {h : am_H} (hx : 0 ≤ x ∧ x ≤ 1000000) (ha : 0 ≤ a ∧ a ≤ 1000000) : Cl sc (d + 2) mX12_on [Vi way, Vi x, Vi a] h = some (.inl (Vi (opm way x a)), h) := by
  have e : w32 (x + a) = x + a := w32_id (by omega) (by omega)
  rw [q_X12_on_0]
  unfold opm
  by_cases h0 : way = 2
  · rw [if_pos h0, if_pos h0, c_max, e_clI]
  · rw [if_neg h0, if_neg h0, e, c_min, e_clI]
theorem opm_v {way x a y : Int} (hy : y ≤ 1000000) : (opm way x a < y ↔ opv way x a < y) ∧ (opv way x a < y → opm way x a = opv way x a) := by
  unfold opm opv pl
  split
  · exact ⟨Iff.rfl, fun _ => rfl⟩
  · omega
def fM (way : Int) (ad : Nat → Int) (b : Nat) (z : (Nat → Int) × Int × am_V × am_V × am_V) : (Nat → Int) × Int × am_V × am_V × am_V := (rx (opv way) lc mc ad b z.1, if opv way (z.1 (lc b)) (ad b) < z.1 (mc b) then 1 else if opv way (z.1 (mc b)) (ad b) < z.1 (lc b) then 1 else z.2.1, Vi (ad b), Vi (lc b : Nat), Vi (mc b : Nat))
theorem bnd_v {way : Int} {ad C : Nat → Int} {b : Nat} (hb : b < 60) (ha : 0 ≤ ad b) (hC : bnd C 36) : bnd (rx (opv way) lc mc ad b C) 36 := fun u hu => by
  have h0 := rx_ge (G := fun _ => 0) (ad := ad) (mon_v way) (lc_lt b hb) (mc_lt b hb) ⟨(mon_v way).2 0 _ ha, (mon_v way).2 0 _ ha⟩ (fun u hu => (hC u hu).1) u hu
  have h1 := rx_le (op := opv way) (e1 := lc) (e2 := mc) (ad := ad) (b := b) (C := C) u
  have h2 := hC u hu
  exact ⟨h0, by omega⟩
theorem m_fstep (s : Sh h) (V : WW (I 284)) {way t : Int} {b : Nat} (hb : b < 60) {z : (Nat → Int) × Int × am_V × am_V × am_V} (hC : bnd z.1 36) : Ru sc (d + 6) mX12_flows 10 [Vr (some 283), Vi way, Vi t, Vi z.2.1, Vi (b : Int), z.2.2.1, z.2.2.2.1, z.2.2.2.2] [] (hI h (sr I 292 z.1)) = Ru sc (d + 6) mX12_flows 10 [Vr (some 283), Vi way, Vi t, Vi (fM way (adM (I 284) (I 283 18) (I 283 19) way t) b z).2.1, Vi ((b + 1 : Nat) : Int), (fM way (adM (I 284) (I 283 18) (I 283 19) way t) b z).2.2.1, (fM way (adM (I 284) (I 283 18) (I 283 19) way t) b z).2.2.2.1, (fM way (adM (I 284) (I 283 18) (I 283 19) way t) b z).2.2.2.2] [] (hI h (sr I 292 (fM way (adM (I 284) (I 283 18) (I 283 19) way t) b z).1)) := by
  obtain ⟨C, ch, u5, u6, u7⟩ := z
  try dsimp only at hC ⊢
  have l1 := lc_lt b hb
  have l2 := mc_lt b hb
  have c1 := hC _ l1
  have c2 := hC _ l2
  have e284 : sr I 292 C 284 = I 284 := sr_ne (by decide)
  have e283 : sr I 292 C 283 = I 283 := sr_ne (by decide)
  have ha := m_addsBy (sc := sc) (d := d) (I := sr I 292 C) (way := way) (t := t) s (by rw [e284]; exact V) hb
  rw [e284, e283] at ha
  have hab := adM_b V (su := I 283 18) (pu := I 283 19) (way := way) (t := t) hb
  have hab2 : 0 ≤ adM (I 284) (I 283 18) (I 283 19) way t b ∧ adM (I 284) (I 283 18) (I 283 19) way t b ≤ 1000000 := ⟨hab.1, hab.2.1⟩
  unfold fM rx
  dsimp only
  generalize adM (I 284) (I 283 18) (I 283 19) way t = ad at ha hab hab2
  have o1 := opm_v (way := way) (x := C (lc b)) (a := ad b) c2.2
  have o2 := opm_v (way := way) (x := C (mc b)) (a := ad b) c1.2
  have hlt : (b : Int) < 60 := by omega
  have i1 : (lc b : Int).toNat = lc b := Int.toNat_natCast _
  rw [q_X12_flows_10]
  by_cases g1 : opv way (C (lc b)) (ad b) < C (mc b)
  · have g1' : opm way (C (lc b)) (ad b) < C (mc b) := o1.1.mpr g1
    simp (disch := first | (simp (disch := omega) only [w32_id]; omega) | omega) only [↓BM s, hlt, ha, c_lessOf hb, c_greaterOf hb, sr_q, m_on c1 hab2, g1', w32_succ, u2_sr, g1, e_clI, e_clV, e_clP, e_clIx, e_clVx, e_clPx, e_xt, Int.toNat_natCast, Int.reduceToNat, bz0, bz1, Nat.add_zero, decide_eq_false_iff_not, decide_eq_true_eq, Int.reduceEq, Nat.reduceEqDiff, Int.reduceLT, Int.reduceLE, not_true_eq_false, not_false_eq_true, ↓reduceIte]
    rw [o1.2 g1]
  · have g1' : ¬ opm way (C (lc b)) (ad b) < C (mc b) := fun x => g1 (o1.1.mp x)
    by_cases g2 : opv way (C (mc b)) (ad b) < C (lc b)
    · have g2' : opm way (C (mc b)) (ad b) < C (lc b) := o2.1.mpr g2
      simp (disch := first | (simp (disch := omega) only [w32_id]; omega) | omega) only [↓BM s, hlt, ha, c_lessOf hb, c_greaterOf hb, sr_q, m_on c1 hab2, m_on c2 hab2, g1', g2', w32_succ, u2_sr, g1, g2, e_clI, e_clV, e_clP, e_clIx, e_clVx, e_clPx, e_xt, Int.toNat_natCast, Int.reduceToNat, bz0, bz1, Nat.add_zero, decide_eq_false_iff_not, decide_eq_true_eq, Int.reduceEq, Nat.reduceEqDiff, Int.reduceLT, Int.reduceLE, not_true_eq_false, not_false_eq_true, ↓reduceIte]
      rw [o2.2 g2]
    · have g2' : ¬ opm way (C (mc b)) (ad b) < C (lc b) := fun x => g2 (o2.1.mp x)
      simp (disch := first | (simp (disch := omega) only [w32_id]; omega) | omega) only [↓BM s, hlt, ha, c_lessOf hb, c_greaterOf hb, sr_q, m_on c1 hab2, m_on c2 hab2, g1', g2', w32_succ, g1, g2, e_clI, e_clV, e_clP, e_clIx, e_clVx, e_clPx, e_xt, Int.toNat_natCast, Int.reduceToNat, bz0, bz1, Nat.add_zero, decide_eq_false_iff_not, decide_eq_true_eq, Int.reduceEq, Nat.reduceEqDiff, Int.reduceLT, Int.reduceLE, not_true_eq_false, not_false_eq_true, ↓reduceIte]
theorem m_fround (s : Sh h) (V : WW (I 284)) {way t : Int} {C : Nat → Int} (hC : bnd C 36) {u4 u5 u6 u7 : am_V} : ∃ (ch : Int) (v4 v5 v6 v7 : am_V), Ru sc (d + 6) mX12_flows 3 [Vr (some 283), Vi way, Vi t, Vi 1, u4, u5, u6, u7] [] (hI h (sr I 292 C)) = Ru sc (d + 6) mX12_flows 3 [Vr (some 283), Vi way, Vi t, Vi ch, v4, v5, v6, v7] [] (hI h (sr I 292 (rd (opv way) lc mc (adM (I 284) (I 283 18) (I 283 19) way t) C))) ∧ bnd (rd (opv way) lc mc (adM (I 284) (I 283 18) (I 283 19) way t) C) 36 ∧ (ch = 0 ∨ ch = 1) ∧ (ch = 0 → rd (opv way) lc mc (adM (I 284) (I 283 18) (I 283 19) way t) C = C) ∧ (ch = 1 → sm (rd (opv way) lc mc (adM (I 284) (I 283 18) (I 283 19) way t) C) 36 < sm C 36) := by
  have h0 := fo_run (F := fun (b : Nat) (z : (Nat → Int) × Int × am_V × am_V × am_V) => Ru sc (d + 6) mX12_flows 10 [Vr (some 283), Vi way, Vi t, Vi z.2.1, Vi (b : Int), z.2.2.1, z.2.2.2.1, z.2.2.2.2] [] (hI h (sr I 292 z.1))) (f := fM way (adM (I 284) (I 283 18) (I 283 19) way t)) (N := 60) (s0 := (C, 0, u5, u6, u7)) (P := fun b z => bnd z.1 36 ∧ z.1 = fo (rx (opv way) lc mc (adM (I 284) (I 283 18) (I 283 19) way t)) b C ∧ (z.2.1 = 0 ∨ z.2.1 = 1) ∧ (z.2.1 = 0 → z.1 = C) ∧ (z.2.1 = 1 → sm z.1 36 < sm C 36)) ⟨hC, rfl, Or.inl rfl, fun _ => rfl, fun h => by cases h⟩ (fun b z hb hz => ⟨m_fstep s V hb hz.1, by
    obtain ⟨C1, ch, w5, w6, w7⟩ := z
    obtain ⟨z1, z2, z3, z4, z5⟩ := hz
    try dsimp only at z1 z2 z3 z4 z5
    have l1 := lc_lt b hb
    have l2 := mc_lt b hb
    have hab := adM_b V (su := I 283 18) (pu := I 283 19) (way := way) (t := t) hb
    generalize adM (I 284) (I 283 18) (I 283 19) way t = ad at hab z2
    have hle : sm C1 36 ≤ sm C 36 := by
      rw [z2]
      exact sm_mono (fun i hi => fo_rx_le (k := 0) i (Nat.zero_le b))
    have hle2 : sm (rx (opv way) lc mc ad b C1) 36 ≤ sm C1 36 := sm_mono (fun i hi => rx_le i)
    unfold fM
    refine ⟨bnd_v hb hab.1 z1, ?_, ?_, ?_, ?_⟩
    · show rx (opv way) lc mc ad b C1 = rx (opv way) lc mc ad b (fo (rx (opv way) lc mc ad) b C)
      rw [← z2]
    · try dsimp only
      split
      · exact Or.inr rfl
      · split
        · exact Or.inr rfl
        · exact z3
    · try dsimp only
      intro hc
      split at hc
      · cases hc
      · rename_i g1
        split at hc
        · cases hc
        · rename_i g2
          unfold rx
          rw [if_neg g1, if_neg g2]
          exact z4 hc
    · try dsimp only
      intro hc
      by_cases g1 : opv way (C1 (lc b)) (ad b) < C1 (mc b)
      · have := rx_lt l1 l2 (Or.inl g1)
        omega
      · by_cases g2 : opv way (C1 (mc b)) (ad b) < C1 (lc b)
        · have := rx_lt l1 l2 (Or.inr g2)
          omega
        · rw [if_neg g1, if_neg g2] at hc
          have := z5 hc
          omega⟩)
  obtain ⟨h1, h2, h3, h4, h5, h6⟩ := h0
  generalize fo (fM way (adM (I 284) (I 283 18) (I 283 19) way t)) 60 (C, 0, u5, u6, u7) = Z at h1 h2 h3 h4 h5 h6
  obtain ⟨Cz, ch, w5, w6, w7⟩ := Z
  try dsimp only at h1 h2 h3 h4 h5 h6
  have h3 : Cz = rd (opv way) lc mc (adM (I 284) (I 283 18) (I 283 19) way t) C := by unfold rd; exact h3
  rw [h3] at h1 h2 h5 h6
  refine ⟨ch, Vi ((60 : Nat) : Int), w5, w6, w7, ?_, h2, h4, h5, h6⟩
  rw [q_X12_flows_3, if_neg (by decide)]
  refine Eq.trans h1 ?_
  rw [q_X12_flows_10, if_neg (by omega)]
theorem m_flows (s : Sh h) (V : WW (I 284)) {way t : Int} (hC : bnd (I 292) 36) : ∃ K, stb (opv way) lc mc (adM (I 284) (I 283 18) (I 283 19) way t) (it (opv way) lc mc (adM (I 284) (I 283 18) (I 283 19) way t) K (I 292)) ∧ Cl sc (d + 6) mX12_flows [Vr (some 283), Vi way, Vi t] (hI h I) = some (.inl (Vx 0), hI h (sr I 292 (it (opv way) lc mc (adM (I 284) (I 283 18) (I 283 19) way t) K (I 292)))) := by
  have ha : ∀ b, b < 60 → 0 ≤ adM (I 284) (I 283 18) (I 283 19) way t b := fun b hb => (adM_b V hb).1
  have hall : ∀ (N : Nat) (k : Nat) (u4 u5 u6 u7 : am_V), bnd (it (opv way) lc mc (adM (I 284) (I 283 18) (I 283 19) way t) k (I 292)) 36 → sm (it (opv way) lc mc (adM (I 284) (I 283 18) (I 283 19) way t) k (I 292)) 36 ≤ N → ∃ K, stb (opv way) lc mc (adM (I 284) (I 283 18) (I 283 19) way t) (it (opv way) lc mc (adM (I 284) (I 283 18) (I 283 19) way t) K (I 292)) ∧ Ru sc (d + 6) mX12_flows 3 [Vr (some 283), Vi way, Vi t, Vi 1, u4, u5, u6, u7] [] (hI h (sr I 292 (it (opv way) lc mc (adM (I 284) (I 283 18) (I 283 19) way t) k (I 292)))) = some (.inl (Vx 0), hI h (sr I 292 (it (opv way) lc mc (adM (I 284) (I 283 18) (I 283 19) way t) K (I 292)))) := by
    intro N
    induction N with
    | zero =>
      intro k u4 u5 u6 u7 hb hN
      obtain ⟨ch, v4, v5, v6, v7, g1, g2, g3, g4, g5⟩ := m_fround (sc := sc) (d := d) s V (way := way) (t := t) hb (u4 := u4) (u5 := u5) (u6 := u6) (u7 := u7)
      rcases g3 with rfl | rfl
      · refine ⟨k, stb_of (mon_v way) ha (g4 rfl), ?_⟩
        rw [g1, g4 rfl, q_X12_flows_3, if_pos rfl]
      · have h1 := g5 rfl
        have h2 := sm_nonneg (fun u hu => (g2 u hu).1)
        exact absurd h1 (by omega)
    | succ N ih =>
      intro k u4 u5 u6 u7 hb hN
      obtain ⟨ch, v4, v5, v6, v7, g1, g2, g3, g4, g5⟩ := m_fround (sc := sc) (d := d) s V (way := way) (t := t) hb (u4 := u4) (u5 := u5) (u6 := u6) (u7 := u7)
      rcases g3 with rfl | rfl
      · refine ⟨k, stb_of (mon_v way) ha (g4 rfl), ?_⟩
        rw [g1, g4 rfl, q_X12_flows_3, if_pos rfl]
      · have h1 := g5 rfl
        obtain ⟨K, k1, k2⟩ := ih (k + 1) v4 v5 v6 v7 g2 (by
          show sm (rd (opv way) lc mc (adM (I 284) (I 283 18) (I 283 19) way t) (it (opv way) lc mc (adM (I 284) (I 283 18) (I 283 19) way t) k (I 292))) 36 ≤ _
          omega)
        exact ⟨K, k1, g1.trans k2⟩
  obtain ⟨K, k1, k2⟩ := hall (sm (I 292) 36).toNat 0 (Vx 0) (Vx 0) (Vx 0) (Vx 0) hC (by
    have := sm_nonneg (fun u hu => (hC u hu).1)
    show sm (I 292) 36 ≤ _
    omega)
  refine ⟨K, k1, ?_⟩
  rw [q_X12_flows_0]
  rw [show it (opv way) lc mc (adM (I 284) (I 283 18) (I 283 19) way t) 0 (I 292) = I 292 from rfl, sr_self] at k2
  exact k2
end
