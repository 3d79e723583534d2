/-! FAR, PULLS, ONE -/
theorem opv_pl {way : Int} (h : way ≠ 2) : opv way = pl := by
  funext x a
  unfold opv
  rw [if_neg h]
/-- the class's costs are the reference's -/
theorem adC_of {I : am_I} {ad : Nat → Int} (h : ∀ b, b < 60 → I 54 b = (if ad b = 1000000 then -1 else ad b)) (hn : ∀ b, b < 60 → 0 ≤ ad b) : ∀ b, b < 60 → adC I b = ad b := fun b hb => by
  have := hn b hb
  unfold adC
  rw [h b hb]
  by_cases e : ad b = 1000000
  · rw [if_pos e, if_pos rfl, e]
  · rw [if_neg e, if_neg (by omega)]
theorem okC_of {I : am_I} {ad : Nat → Int} (h : ∀ b, b < 60 → I 54 b = (if ad b = 1000000 then -1 else ad b)) (hn : ∀ b, b < 60 → 0 ≤ ad b ∧ (ad b = 1000000 ∨ ad b ≤ 1000)) : okC I := fun b hb => by
  have := hn b hb
  rw [h b hb]
  split
  · exact Or.inl rfl
  · exact Or.inr (by omega)
/-- a row filled -/
theorem u2_r {I : am_I} {q i : Nat} {C : Nat → Int} {v : Int} : am_u2 (sr I q C) q i v = sr I q (up C i v) := u2_sr
theorem fo_row {g : Nat → Int} {C : Nat → Int} : ∀ n, fo (fun i C => up C i (g i)) n C = fun u => if u < n then g u else C u
  | 0 => by
    funext u
    rw [if_neg (Nat.not_lt_zero u)]
    rfl
  | n + 1 => by
    funext u
    show up (fo (fun i C => up C i (g i)) n C) n (g n) u = _
    rw [fo_row n]
    unfold up
    by_cases h : u = n
    · rw [if_pos h, if_pos (by omega), h]
    · rw [if_neg h]
      try dsimp only
      by_cases h2 : u < n
      · rw [if_pos h2, if_pos (by omega)]
      · rw [if_neg h2, if_neg (by omega)]
/-- the scratch of costs -/
def Ks (I J : am_I) : Prop := ∀ p, ¬ (48 ≤ p ∧ p ≤ 135) → J p = I p
theorem Ks.rf (I : am_I) : Ks I I := fun _ _ => rfl
theorem Ks.tr {I J K : am_I} (h1 : Ks I J) (h2 : Ks J K) : Ks I K := fun p hp => (h2 p hp).trans (h1 p hp)
theorem Ks.sr {I J : am_I} {q : Nat} {C : Nat → Int} (h : Ks I J) (hq : 48 ≤ q ∧ q ≤ 135) : Ks I (sr J q C) := fun p hp => (sr_ne (by omega)).trans (h p hp)
theorem Ks.sm {I J : am_I} (h : Ks I J) : Same I J := fun k j hk => by
  rw [h k (fun x => hk (by unfold scr; omega))]
theorem Ks.c {I J : am_I} {a : Nat} {w : am_Wd} (h : Ks I J) (ha : a + 11 < 48 ∨ 135 < a) (R : CRep I a w) : CRep J a w := R.eq fun k hk => h _ (by omega)
section
variable {sc : Nat × (Nat → Int)} {d a : Nat} {h : am_H} {I : am_I} {w : am_Wd}
theorem c_fromHome (s : Sh h) (c : Cty h a) (ha : a + 11 < 48) (R : CRep I a w) (V : WW w) {f : Nat} (hf : f < 6) {q n : Nat} (hq : hT h q = (1, n)) (hn : n ≤ 100000) (h54 : q ≠ 54) (hN : 36 ≤ n) (hqr : 48 ≤ q ∧ q ≤ 135) : ∃ J F, (Ks I J ∧ (∀ p, p ≠ 54 → p ≠ q → J p = I p) ∧ J q = F ∧ bnd F 36 ∧ Lst pl (adM w (-1) (-1) 0 (w (307 + 4 * f + 1))) (ini (w (307 + 4 * f)).toNat) F) ∧ Cl sc (d + 6) mX7_fromHome [Vr (some 53), Vr (some a), Vi (f : Int), Vr (some q)] (hI h I) = some (.inl (Vx 0), hI h J) := by
  have hv := V.fm hf
  obtain ⟨hm, hh⟩ : ∃ hm : Nat, w (307 + 4 * f) = hm := ⟨(w (307 + 4 * f)).toNat, by omega⟩
  have hm36 : hm < 36 := by omega
  have hr := fo_run0 (F := fun i C => Ru sc (d + 6) mX7_fromHome 8 [Vr (some 53), Vr (some a), Vi (f : Int), Vr (some q), Vi (w (307 + 4 * f + 1)), Vi (i : Int)] [] (hI h (sr I 54 C))) (f := fun i C => up C i (if adM w (-1) (-1) 0 (w (307 + 4 * f + 1)) i = 1000000 then -1 else adM w (-1) (-1) 0 (w (307 + 4 * f + 1)) i)) (N := 60) (s0 := I 54) (fun i C hi => by
    have hlt : (i : Int) < 60 := by omega
    have R2 : CRep (sr I 54 C) a w := R.eq fun k hk => sr_ne (by omega)
    have ht := tlW_b V hi
    have hne : ¬ tlW w i = 1000000 := by omega
    try dsimp only
    unfold adM
    rw [q_X7_fromHome_8]
    cases ho : opW w i (w (307 + 4 * f + 1))
    · simp (disch := first | (simp (disch := omega) only [w32_id]; omega) | omega) only [↓BW s, ↓BC c, hlt, c_isOpen c R2 V hi, ho, u2_sr, w32_succ, opS_no, Bool.false_eq_true, e_clI, e_clV, e_clP, e_clIx, e_clVx, e_clPx, e_xt, Int.toNat_natCast, Int.reduceToNat, bz0, bz1, Nat.add_zero, decide_eq_false_iff_not, decide_eq_true_eq, Int.reduceEq, Nat.reduceEqDiff, Int.reduceLT, Int.reduceLE, not_true_eq_false, not_false_eq_true, ↓reduceIte]
    · simp (disch := first | (simp (disch := omega) only [w32_id]; omega) | omega) only [↓BW s, ↓BC c, hlt, c_isOpen c R2 V hi, ho, c_toll c R2 V hi, u2_sr, w32_succ, opS_no, Bool.true_eq_false, hne, e_clI, e_clV, e_clP, e_clIx, e_clVx, e_clPx, e_xt, Int.toNat_natCast, Int.reduceToNat, bz0, bz1, Nat.add_zero, decide_eq_false_iff_not, decide_eq_true_eq, Int.reduceEq, Nat.reduceEqDiff, Int.reduceLT, Int.reduceLE, not_true_eq_false, not_false_eq_true, ↓reduceIte])
  rw [fo_row] at hr
  try dsimp only at hr
  rw [sr_self] at hr
  have e54 : ∀ b, b < 60 → (sr I 54 (fun u => if u < 60 then (if adM w (-1) (-1) 0 (w (307 + 4 * f + 1)) u = 1000000 then -1 else adM w (-1) (-1) 0 (w (307 + 4 * f + 1)) u) else I 54 u)) 54 b = (if adM w (-1) (-1) 0 (w (307 + 4 * f + 1)) b = 1000000 then -1 else adM w (-1) (-1) 0 (w (307 + 4 * f + 1)) b) := fun b hb => by
    rw [sr_q]
    exact if_pos hb
  have hR2 : CRep (sr I 54 (fun u => if u < 60 then (if adM w (-1) (-1) 0 (w (307 + 4 * f + 1)) u = 1000000 then -1 else adM w (-1) (-1) 0 (w (307 + 4 * f + 1)) u) else I 54 u)) a w := R.eq fun k hk => sr_ne (by omega)
  generalize hJ : sr I 54 (fun u => if u < 60 then (if adM w (-1) (-1) 0 (w (307 + 4 * f + 1)) u = 1000000 then -1 else adM w (-1) (-1) 0 (w (307 + 4 * f + 1)) u) else I 54 u) = J at hr e54 hR2
  have hab : ∀ b, b < 60 → 0 ≤ adM w (-1) (-1) 0 (w (307 + 4 * f + 1)) b ∧ (adM w (-1) (-1) 0 (w (307 + 4 * f + 1)) b = 1000000 ∨ adM w (-1) (-1) 0 (w (307 + 4 * f + 1)) b ≤ 1000) := fun b hb => by
    have ht := tlW_b V hb
    unfold adM
    rw [if_pos rfl]
    split <;> omega
  obtain ⟨F, l1, l2, l3⟩ := c_spreadL (sc := sc) (d := d) (I := J) s hq hn h54 hN (okC_of e54 hab) hm36
  have kJ : Ks I J := by rw [← hJ]; exact (Ks.rf I).sr (by omega)
  refine ⟨sr J q F, F, ⟨kJ.sr hqr, fun p h1 h2 => (sr_ne h2).trans (by rw [← hJ]; exact sr_ne h1), sr_q, l2, ?_⟩, ?_⟩
  · rw [hh, Int.toNat_natCast]
    exact l1.cg (adC_of e54 (fun b hb => (hab b hb).1))
  · rw [q_X7_fromHome_0]
    have hcl := R.cl hf
    have hho := hR2.ho hf
    simp (disch := first | (simp (disch := omega) only [w32_id]; omega) | omega) only [↓BC c, hcl, e_clI, e_clV, e_clP, e_clIx, e_clVx, e_clPx, e_xt, Int.toNat_natCast, Int.reduceToNat, bz0, bz1, Nat.add_zero, decide_eq_false_iff_not, decide_eq_true_eq, Int.reduceEq, Nat.reduceEqDiff, Int.reduceLT, Int.reduceLE, not_true_eq_false, not_false_eq_true, ↓reduceIte]
    refine hr.trans ?_
    have hlt : ¬ ((60 : Nat) : Int) < 60 := by omega
    rw [q_X7_fromHome_8]
    simp (disch := first | (simp (disch := omega) only [w32_id]; omega) | omega) only [↓BW s, ↓BC c, hlt, hho, hh, l3, e_clI, e_clV, e_clP, e_clIx, e_clVx, e_clPx, e_xt, Int.toNat_natCast, Int.reduceToNat, bz0, bz1, Nat.add_zero, decide_eq_false_iff_not, decide_eq_true_eq, Int.reduceEq, Nat.reduceEqDiff, Int.reduceLT, Int.reduceLE, not_true_eq_false, not_false_eq_true, ↓reduceIte]
theorem c_orNone7 {n : Int} {h : am_H} : Cl sc (d + 1) mX7_orNone [Vi n] h = some (.inl (Vi (if n < 1000000 then n else -1)), h) := by
  rw [q_X7_orNone_0]
  split <;> rfl
theorem m_farOf (s : Sh h) (V : WW (I 284)) (hs : I 283 18 = -1) (hp : I 283 19 = -1) {f c : Nat} (hf : f < 6) (hc : c < 36) : ∃ G, Lst pl (adM (I 284) (-1) (-1) 0 (I 284 (307 + 4 * f + 1))) (ini (I 284 (307 + 4 * f)).toNat) G ∧ Cl sc (d + 8) mX12_farOf [Vr (some 283), Vi (f : Int), Vi (c : Int)] (hI h I) = some (.inl (Vi (G c)), hI h (sr I 292 G)) := by
  have hv := V.fm hf
  obtain ⟨hm, hh⟩ : ∃ hm : Nat, I 284 (307 + 4 * f) = hm := ⟨(I 284 (307 + 4 * f)).toNat, by omega⟩
  have hm36 : hm < 36 := by omega
  obtain ⟨G, g1, g2⟩ := m_from (sc := sc) (d := d) s V hm36 (way := 0) (t := I 284 (307 + 4 * f + 1))
  rw [hs, hp, opv_pl (by decide)] at g1
  refine ⟨G, by rw [hh, Int.toNat_natCast]; exact g1, ?_⟩
  rw [q_X12_farOf_0]
  simp (disch := first | (simp (disch := omega) only [w32_id]; omega) | omega) only [↓BM s, m_ofFamily s, hh, g2, sr_q, e_clI, e_clV, e_clP, e_clIx, e_clVx, e_clPx, e_xt, Int.toNat_natCast, Int.reduceToNat, bz0, bz1, Nat.add_zero, decide_eq_false_iff_not, decide_eq_true_eq, Int.reduceEq, Nat.reduceEqDiff, Int.reduceLT, Int.reduceLE, not_true_eq_false, not_false_eq_true, ↓reduceIte]
theorem sr292 {I : am_I} {G : Nat → Int} : Same I (sr I 292 G) := fun k j hk => by
  rw [sr_ne (fun e => hk (by unfold scr; omega))]
theorem p_far (r : Rel h I) {x y : Int} : Pub h I (Cl sc (d + 30) mX11_far [Vr (some 0), Vi x, Vi y]) (Cl sc (d + 30) mX12_far [Vr (some 283), Vi x, Vi y]) cdA := by
  have R := r.R
  have V := r.V
  have hF := V.fa
  by_cases hx : 0 ≤ x ∧ x < I 284 0
  · obtain ⟨f, rfl⟩ : ∃ f : Nat, x = f := ⟨x.toNat, by omega⟩
    have hf : f < 6 := by omega
    by_cases hy : 0 ≤ y ∧ y < 36
    · obtain ⟨c, rfl⟩ : ∃ c : Nat, y = c := ⟨y.toNat, by omega⟩
      have hc : c < 36 := by omega
      obtain ⟨J, F, ⟨k1, k2, k3, k4, k5⟩, k6⟩ := c_fromHome (sc := sc) (d := d + 22) r.1 r.c (by omega) R V hf (q := 55) (n := 49) (r.1.T 55 rfl) (by omega) (by omega) (by omega) (by omega)
      refine pubQ (x := 0) (v := if F c < 1000000 then F c else -1) (v' := if F c < 1000000 then F c else -1) r (CO.ok (J := J) ?_ k1.sm) (fun h1 J1 r1 e1 => ?_) (fun _ => rfl)
      · rw [q_X11_far_0]
        simp (disch := first | (simp (disch := omega) only [w32_id]; omega) | omega) only [↓BO r.1, ↓BC r.c, ↓BW r.1, c_nF r.1 r.fa hx, c_nC hy, e_clI, e_clV, e_clP, e_clIx, e_clVx, e_clPx, e_xt, Int.toNat_natCast, Int.reduceToNat, bz0, bz1, Nat.add_zero, decide_eq_false_iff_not, decide_eq_true_eq, Int.reduceEq, Nat.reduceEqDiff, Int.reduceLT, Int.reduceLE, not_true_eq_false, not_false_eq_true, ↓reduceIte]
        rw [q_X7_climbing_0]
        simp (disch := first | (simp (disch := omega) only [w32_id]; omega) | omega) only [↓BW r.1, k6, k3, c_orNone7, e_clI, e_clV, e_clP, e_clIx, e_clVx, e_clPx, e_xt, Int.toNat_natCast, Int.reduceToNat, bz0, bz1, Nat.add_zero, decide_eq_false_iff_not, decide_eq_true_eq, Int.reduceEq, Nat.reduceEqDiff, Int.reduceLT, Int.reduceLE, not_true_eq_false, not_false_eq_true, ↓reduceIte]
      · have V2 : WW (am_u2 J1 283 0 0 284) := by rw [w283, e1.w]; exact V
        have hx2 : 0 ≤ (f : Int) ∧ (f : Int) < am_u2 J1 283 0 0 284 0 := by rw [w283, e1.w]; exact hx
        obtain ⟨G, g1, g2⟩ := m_farOf (sc := sc) (d := d + 21) (I := am_u2 J1 283 0 0) r1.1 V2 (by rw [u2_j (by decide)]; exact r1.2.2.2.2.2.1) (by rw [u2_j (by decide)]; exact r1.2.2.2.2.2.2.1) hf hc
        rw [w283, e1.w] at g1
        have e := k5.uni g1 c hc
        refine MO.okJ (J := sr (am_u2 J1 283 0 0) 292 G) ?_ (s283.tr sr292) (by rw [sr_ne (by decide)]; exact u2_same)
        rw [q_X12_far_0]
        simp (disch := first | (simp (disch := omega) only [w32_id]; omega) | omega) only [↓BM r1.1, m_nF r1.1 V2 hx2, m_nC hy, m_t0 r1.1, g2, c_orNone, e_clI, e_clV, e_clP, e_clIx, e_clVx, e_clPx, e_xt, Int.toNat_natCast, Int.reduceToNat, bz0, bz1, Nat.add_zero, decide_eq_false_iff_not, decide_eq_true_eq, Int.reduceEq, Nat.reduceEqDiff, Int.reduceLT, Int.reduceLE, not_true_eq_false, not_false_eq_true, ↓reduceIte]
        rw [e]
    · refine pubQ (x := 3) (v := 0) (v' := 0) r (CO.no (J := I) (by decide) ?_ (Same.rf I)) (fun h1 J1 r1 e1 => ?_) (fun h => absurd h (by decide))
      · rw [q_X11_far_0]
        simp (disch := first | (simp (disch := omega) only [w32_id]; omega) | omega) only [↓BO r.1, c_nF r.1 r.fa hx, c_nCx hy, hI_exI, e_clI, e_clV, e_clP, e_clIx, e_clVx, e_clPx, e_xt, Int.toNat_natCast, Int.reduceToNat, bz0, bz1, Nat.add_zero, decide_eq_false_iff_not, decide_eq_true_eq, Int.reduceEq, Nat.reduceEqDiff, Int.reduceLT, Int.reduceLE, not_true_eq_false, not_false_eq_true, ↓reduceIte]
      · refine MO.thr ?_
        have V2 : WW (am_u2 J1 283 0 0 284) := by rw [w283, e1.w]; exact V
        have hx2 : 0 ≤ (f : Int) ∧ (f : Int) < am_u2 J1 283 0 0 284 0 := by rw [w283, e1.w]; exact hx
        rw [q_X12_far_0]
        simp (disch := first | (simp (disch := omega) only [w32_id]; omega) | omega) only [↓BM r1.1, m_nF r1.1 V2 hx2, m_nCx hy, m_t1 r1.1, e_clI, e_clV, e_clP, e_clIx, e_clVx, e_clPx, e_xt, Int.toNat_natCast, Int.reduceToNat, bz0, bz1, Nat.add_zero, decide_eq_false_iff_not, decide_eq_true_eq, Int.reduceEq, Nat.reduceEqDiff, Int.reduceLT, Int.reduceLE, not_true_eq_false, not_false_eq_true, ↓reduceIte]
        try rfl
  · refine pubQ (x := 3) (v := 0) (v' := 0) r (CO.no (J := I) (by decide) ?_ (Same.rf I)) (fun h1 J1 r1 e1 => ?_) (fun h => absurd h (by decide))
    · rw [q_X11_far_0]
      simp (disch := first | (simp (disch := omega) only [w32_id]; omega) | omega) only [↓BO r.1, c_nFx r.1 r.fa hx, hI_exI, e_clI, e_clV, e_clP, e_clIx, e_clVx, e_clPx, e_xt, Int.toNat_natCast, Int.reduceToNat, bz0, bz1, Nat.add_zero, decide_eq_false_iff_not, decide_eq_true_eq, Int.reduceEq, Nat.reduceEqDiff, Int.reduceLT, Int.reduceLE, not_true_eq_false, not_false_eq_true, ↓reduceIte]
    · refine MO.thr ?_
      have V2 : WW (am_u2 J1 283 0 0 284) := by rw [w283, e1.w]; exact V
      have hx2 : ¬ (0 ≤ x ∧ x < am_u2 J1 283 0 0 284 0) := by rw [w283, e1.w]; exact hx
      rw [q_X12_far_0]
      simp (disch := first | (simp (disch := omega) only [w32_id]; omega) | omega) only [↓BM r1.1, m_nFx r1.1 V2 hx2, m_t1 r1.1, e_clI, e_clV, e_clP, e_clIx, e_clVx, e_clPx, e_xt, Int.toNat_natCast, Int.reduceToNat, bz0, bz1, Nat.add_zero, decide_eq_false_iff_not, decide_eq_true_eq, Int.reduceEq, Nat.reduceEqDiff, Int.reduceLT, Int.reduceLE, not_true_eq_false, not_false_eq_true, ↓reduceIte]
      try rfl
end
