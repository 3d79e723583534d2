/-! LADDERS FOR ALL: the reference -/
theorem fo_off {g : Nat → Int} {k : Nat} {D : Nat → Int} : ∀ n, fo (fun i D => up D (k + i) (g i)) n D = fun x => if k ≤ x ∧ x < k + n then g (x - k) else D x
  | 0 => by
    funext x
    rw [if_neg (by omega)]
    rfl
  | n + 1 => by
    funext x
    show up (fo (fun i D => up D (k + i) (g i)) n D) (k + n) (g n) x = _
    rw [fo_off n]
    by_cases h : x = k + n
    · rw [h, up_s, if_pos (by omega), show k + n - k = n by omega]
    · rw [up_o h]
      try dsimp only
      by_cases h2 : k ≤ x ∧ x < k + n
      · rw [if_pos h2, if_pos (by omega)]
      · rw [if_neg h2, if_neg (by omega)]
def Tm (I : am_I) : Nat → Nat → Int := fun p c => I 297 (36 * p + c)
section
variable {sc : Nat × (Nat → Int)} {d a : Nat} {h : am_H} {I J : am_I} {w : am_Wd}
theorem m_togetherAt {p c : Nat} (hp : p < 64) (hc : c < 36) {h : am_H} : Cl sc (d + 1) mX12_togetherAt [Vi (p : Int), Vi (c : Int)] h = some (.inl (Vi ((36 * p + c : Nat) : Int)), h) := by
  rw [q_X12_togetherAt_0, w32_id (z := 36 * (p : Int)) (by omega) (by omega), w32_id (z := 36 * (p : Int) + (c : Int)) (by omega) (by omega)]
  congr 4
theorem m_joinsHomes (s : Sh h) (V : WW (I 284)) {S c : Nat} (hc : c < 36) : ∀ n : Nat, n ≤ (I 284 0).toNat → Ru sc (d + 7) mX12_joins 11 [Vr (some 283), Vi (S : Int), Vi (c : Int), Vi 1000000, Vi 0] [] (hI h I) = Ru sc (d + 7) mX12_joins 11 [Vr (some 283), Vi (S : Int), Vi (c : Int), Vi (bs (I 284) S c n), Vi (n : Int)] [] (hI h I) := by
  have hF := V.fa
  intro n
  induction n with
  | zero => exact fun _ => rfl
  | succ n ih =>
    intro hn
    have hlt : (n : Int) < I 284 0 := by omega
    have hm := hmW_e V (f := n) (by omega)
    have hn6 : n < 6 := by omega
    have es : bs (I 284) S c (n + 1) = bsF (I 284) S c n (bs (I 284) S c n) := rfl
    have wn : w32 ((n : Int) + 1) = ((n + 1 : Nat) : Int) := w32_succ (by omega)
    rw [ih (by omega), q_X12_joins_11, es]
    unfold bsF
    by_cases g : (S : Int) = bShl 1 (n : Int)
    · by_cases e : hmW (I 284) n = c
      · have e' : I 284 (307 + 4 * n) = (c : Int) := by rw [hm.1, e]
        rw [if_pos ⟨g, e⟩]
        simp (disch := first | (simp (disch := omega) only [w32_id]; omega) | omega) only [↓BM s, m_families s, hlt, if_pos g, m_ofFamily s, e', wn, e_clI, e_clV, e_clP, e_clIx, e_clVx, e_clPx, e_xt, Int.toNat_natCast, Int.reduceToNat, bz0, bz1, Nat.add_zero, decide_eq_false_iff_not, decide_eq_true_eq, Int.reduceEq, Nat.reduceEqDiff, Int.reduceLT, Int.reduceLE, not_true_eq_false, not_false_eq_true, eq_self, ↓reduceIte]
      · have e' : ¬ I 284 (307 + 4 * n) = (c : Int) := by omega
        rw [if_neg (fun z => e z.2)]
        simp (disch := first | (simp (disch := omega) only [w32_id]; omega) | omega) only [↓BM s, m_families s, hlt, if_pos g, m_ofFamily s, e', wn, e_clI, e_clV, e_clP, e_clIx, e_clVx, e_clPx, e_xt, Int.toNat_natCast, Int.reduceToNat, bz0, bz1, Nat.add_zero, decide_eq_false_iff_not, decide_eq_true_eq, Int.reduceEq, Nat.reduceEqDiff, Int.reduceLT, Int.reduceLE, not_true_eq_false, not_false_eq_true, eq_self, ↓reduceIte]
    · rw [if_neg (fun z => g z.1)]
      simp (disch := first | (simp (disch := omega) only [w32_id]; omega) | omega) only [↓BM s, m_families s, hlt, if_neg g, wn, e_clI, e_clV, e_clP, e_clIx, e_clVx, e_clPx, e_xt, Int.toNat_natCast, Int.reduceToNat, bz0, bz1, Nat.add_zero, decide_eq_false_iff_not, decide_eq_true_eq, Int.reduceEq, Nat.reduceEqDiff, Int.reduceLT, Int.reduceLE, not_true_eq_false, not_false_eq_true, eq_self, ↓reduceIte]
theorem m_joinsParts (s : Sh h) {S c : Nat} (h1 : 1 ≤ S) (hS : S < 64) (hc : c < 36) (hb : ∀ p, 1 ≤ p → p < S → bnd (Tm I p) 36) : ∀ n : Nat, n ≤ S - 1 → Ru sc (d + 7) mX12_joins 33 [Vr (some 283), Vi (S : Int), Vi (c : Int), Vi (bs (I 284) S c (I 284 0).toNat), Vi 1] [] (hI h I) = Ru sc (d + 7) mX12_joins 33 [Vr (some 283), Vi (S : Int), Vi (c : Int), Vi (jt (I 284) (Tm I) S c n), Vi ((n + 1 : Nat) : Int)] [] (hI h I) := by
  intro n
  induction n with
  | zero => exact fun _ => rfl
  | succ n ih =>
    intro hn
    have hlt : ((n + 1 : Nat) : Int) < (S : Int) := by omega
    have st := sub_t S hS (n + 1) (by omega)
    have es : jt (I 284) (Tm I) S c (n + 1) = jtF (Tm I) S c n (jt (I 284) (Tm I) S c n) := rfl
    have wn : w32 (((n + 1 : Nat) : Int) + 1) = ((n + 1 + 1 : Nat) : Int) := w32_succ (by omega)
    rw [ih (by omega), q_X12_joins_33, es, if_pos hlt]
    unfold jtF
    by_cases g : bAnd ((n + 1 : Nat) : Int) (bXor (S : Int) (-1)) = 0
    · have hsb : subB (n + 1) S = true := by rw [st.1]; exact decide_eq_true g
      have hle := st.2 hsb
      have b1 := hb (n + 1) (by omega) (by omega) c hc
      have b2 := hb (S - (n + 1)) (by omega) (by omega) c hc
      have e1 : I 297 (36 * (n + 1) + c) = Tm I (n + 1) c := rfl
      have e2 : I 297 (36 * (S - (n + 1)) + c) = Tm I (S - (n + 1)) c := rfl
      have w1 : w32 (Tm I (n + 1) c + Tm I (S - (n + 1)) c) = Tm I (n + 1) c + Tm I (S - (n + 1)) c := w32_id (by omega) (by omega)
      have m1 := m_togetherAt (sc := sc) (d := d + 5) (p := n + 1) (c := c) (by omega) hc (h := hI h I)
      have m2 := m_togetherAt (sc := sc) (d := d + 5) (p := S - (n + 1)) (c := c) (by omega) hc (h := hI h I)
      have k1 : ((36 * (n + 1) + c : Nat) : Int) < 2304 := by omega
      have k2 : ((36 * (S - (n + 1)) + c : Nat) : Int) < 2304 := by omega
      rw [if_pos hsb, if_pos g, hle.2]
      clear w1
      have w1 : w32 (Tm I (n + 1) c + Tm I (S - (n + 1)) c) = Tm I (n + 1) c + Tm I (S - (n + 1)) c := w32_id (by omega) (by omega)
      simp (disch := first | assumption | exact Int.natCast_nonneg _ | decide) only [↓BM s, m1, m2, k1, k2, e1, e2, w1, c_min, wn, e_clI, e_clV, e_clP, e_clIx, e_clVx, e_clPx, e_xt, Int.toNat_natCast, Int.reduceToNat, bz0, bz1, Nat.add_zero, decide_eq_false_iff_not, decide_eq_true_eq, Int.reduceEq, Nat.reduceEqDiff, Int.reduceLT, Int.reduceLE, not_true_eq_false, not_false_eq_true, eq_self, ↓reduceIte]
    · have hsb : ¬ subB (n + 1) S = true := by rw [st.1, decide_eq_true_eq]; exact g
      rw [if_neg hsb, if_neg g, wn]
theorem m_joins (s : Sh h) (V : WW (I 284)) {S : Nat} (h1 : 1 ≤ S) (hS : S < 64) (hT : TR (I 284) (adM (I 284) (I 283 18) (I 283 19) 3 0) S (Tm I)) : ∃ F D, TR (I 284) (adM (I 284) (I 283 18) (I 283 19) 3 0) (S + 1) (Tm (sr (sr I 292 F) 297 D)) ∧ Cl sc (d + 7) mX12_joins [Vr (some 283), Vi (S : Int)] (hI h I) = some (.inl (Vx 0), hI h (sr (sr I 292 F) 297 D)) := by
  have hF := V.fa
  have hb : ∀ p, 1 ≤ p → p < S → bnd (Tm I p) 36 := fun p p1 p2 => (hT p p1 p2).1
  have cell : ∀ n : Nat, n ≤ 36 → ∃ C u3 u4, (∀ u, u < n → C u = C0 (I 284) (Tm I) S u) ∧ Ru sc (d + 7) mX12_joins 3 [Vr (some 283), Vi (S : Int), Vi 0, Vx 0, Vx 0] [] (hI h I) = Ru sc (d + 7) mX12_joins 3 [Vr (some 283), Vi (S : Int), Vi (n : Int), u3, u4] [] (hI h (sr I 292 C)) := by
    intro n
    induction n with
    | zero => exact fun _ => ⟨I 292, Vx 0, Vx 0, fun u hu => absurd hu (Nat.not_lt_zero u), by rw [sr_self]; rfl⟩
    | succ n ih =>
      intro hn
      obtain ⟨C, u3, u4, c1, c2⟩ := ih (by omega)
      have hlt : (n : Int) < 36 := by omega
      have e284 : sr I 292 C 284 = I 284 := sr_ne (by decide)
      have eT : Tm (sr I 292 C) = Tm I := by
        funext p c
        show sr I 292 C 297 _ = _
        rw [sr_ne (by decide)]
        rfl
      have k1 := m_joinsHomes (sc := sc) (d := d) (I := sr I 292 C) s (by rw [e284]; exact V) (S := S) (c := n) (by omega) (I 284 0).toNat (by rw [e284]; exact Nat.le_refl _)
      have k2 := m_joinsParts (sc := sc) (d := d) (I := sr I 292 C) s (S := S) (c := n) h1 hS (by omega) (by rw [eT]; exact hb) (S - 1) (Nat.le_refl _)
      rw [e284] at k1 k2
      rw [eT] at k2
      have jb := jt_b (w := I 284) (T := Tm I) (S := S) (c := n) (fun p p1 p2 => (hb p p1 p2 n (by omega)).1) (Nat.le_refl _)
      have hlt2 : ¬ (((I 284 0).toNat : Nat) : Int) < I 284 0 := by omega
      have hlt3 : ¬ ((S - 1 + 1 : Nat) : Int) < (S : Int) := by omega
      refine ⟨up C n (C0 (I 284) (Tm I) S n), Vi (jt (I 284) (Tm I) S n (S - 1)), Vi ((S - 1 + 1 : Nat) : Int), fun u hu => ?_, ?_⟩
      · by_cases e : u = n
        · rw [e, up_s]
        · rw [up_o e]
          exact c1 u (by omega)
      · rw [c2, q_X12_joins_3, if_pos hlt, k1, q_X12_joins_11]
        simp (disch := first | (simp (disch := omega) only [w32_id]; omega) | omega) only [↓BM s, m_families s, e284, hlt2, e_clI, e_clV, e_clP, e_clIx, e_clVx, e_clPx, e_xt, Int.toNat_natCast, Int.reduceToNat, bz0, bz1, Nat.add_zero, decide_eq_false_iff_not, decide_eq_true_eq, Int.reduceEq, Nat.reduceEqDiff, Int.reduceLT, Int.reduceLE, not_true_eq_false, not_false_eq_true, eq_self, ↓reduceIte]
        rw [k2, q_X12_joins_33, if_neg hlt3]
        have em : min 1000000 (jt (I 284) (Tm I) S n (S - 1)) = C0 (I 284) (Tm I) S n := by
          show _ = jt (I 284) (Tm I) S n (S - 1)
          omega
        simp (disch := first | (simp (disch := omega) only [w32_id]; omega) | omega) only [↓BM s, c_min, em, u2_sr, w32_succ, e_clI, e_clV, e_clP, e_clIx, e_clVx, e_clPx, e_xt, Int.toNat_natCast, Int.reduceToNat, bz0, bz1, Nat.add_zero, decide_eq_false_iff_not, decide_eq_true_eq, Int.reduceEq, Nat.reduceEqDiff, Int.reduceLT, Int.reduceLE, not_true_eq_false, not_false_eq_true, eq_self, ↓reduceIte]
  obtain ⟨B, u3, u4, b1, b2⟩ := cell 36 (Nat.le_refl 36)
  have e284 : sr I 292 B 284 = I 284 := sr_ne (by decide)
  have e283 : sr I 292 B 283 = I 283 := sr_ne (by decide)
  have hBb : bnd B 36 := fun u hu => by
    rw [b1 u hu]
    exact jt_b (fun p p1 p2 => (hb p p1 p2 u hu).1) (Nat.le_refl _)
  obtain ⟨K, f1, f2⟩ := m_flows (sc := sc) (d := d) (I := sr I 292 B) (way := 3) (t := 0) s (by rw [e284]; exact V) (by rw [sr_q]; exact hBb)
  rw [e284, e283, sr_q] at f1 f2
  rw [sr_sr] at f2
  rw [opv_pl (by decide)] at f1 f2
  have hL := Lst.of (C0 := C0 (I 284) (Tm I) S) mon_pl b1 f1
  have hA0 : ∀ b, b < 60 → 0 ≤ adM (I 284) (I 283 18) (I 283 19) 3 0 b := fun b hb => (adM_b V hb).1
  generalize it pl lc mc (adM (I 284) (I 283 18) (I 283 19) 3 0) K B = F at hL f2
  have hr := fo_run0 (F := fun i D => Ru sc (d + 7) mX12_joins 80 [Vr (some 283), Vi (S : Int), Vi (i : Int), u3, u4] [] (hI h (sr (sr I 292 F) 297 D))) (f := fun i D => up D (36 * S + i) (F i)) (N := 36) (s0 := I 297) (fun i D hi => by
    have hlt : (i : Int) < 36 := by omega
    have m1 := m_togetherAt (sc := sc) (d := d + 5) (p := S) (c := i) hS hi (h := hI h (sr (sr I 292 F) 297 D))
    have k1 : ((36 * S + i : Nat) : Int) < 2304 := by omega
    have f292 : sr (sr I 292 F) 297 D 292 = F := by rw [sr_ne (by decide), sr_q]
    have wn : w32 ((i : Int) + 1) = ((i + 1 : Nat) : Int) := w32_succ (by omega)
    try dsimp only
    rw [q_X12_joins_80]
    simp (disch := first | assumption | exact Int.natCast_nonneg _ | decide) only [↓BM s, hlt, m1, k1, f292, u2_sr, wn, e_clI, e_clV, e_clP, e_clIx, e_clVx, e_clPx, e_xt, Int.toNat_natCast, Int.reduceToNat, bz0, bz1, Nat.add_zero, decide_eq_false_iff_not, decide_eq_true_eq, Int.reduceEq, Nat.reduceEqDiff, Int.reduceLT, Int.reduceLE, not_true_eq_false, not_false_eq_true, eq_self, ↓reduceIte])
  rw [fo_off] at hr
  try dsimp only at hr
  have e0 : sr (sr I 292 F) 297 (I 297) = sr I 292 F := by
    have : I 297 = sr I 292 F 297 := (sr_ne (by decide)).symm
    rw [this, sr_self]
  rw [e0] at hr
  generalize hD : (fun x => if 36 * S ≤ x ∧ x < 36 * S + 36 then F (x - 36 * S) else I 297 x) = D at hr
  have eT : ∀ p c, Tm (sr (sr I 292 F) 297 D) p c = D (36 * p + c) := fun p c => by
    show sr (sr I 292 F) 297 D 297 _ = _
    rw [sr_q]
  have eS : ∀ c, c < 36 → Tm (sr (sr I 292 F) 297 D) S c = F c := fun c hc => by
    rw [eT, ← hD]
    try dsimp only
    rw [if_pos (by omega), show 36 * S + c - 36 * S = c by omega]
  refine ⟨F, D, hT.add (fun p p1 p2 u hu => ?_) (fun u hu => ?_) ⟨?_, ?_, ?_⟩, ?_⟩
  · rw [eT, ← hD]
    try dsimp only
    rw [if_neg (by omega)]
    rfl
  · rw [eS u hu]
    refine ⟨hL.pos mon_pl hA0 (fun v hv => ?_) u hu, Int.le_trans (hL.2.1 u hu) ?_⟩
    · rw [← b1 v hv]
      exact (hBb v hv).1
    · rw [← b1 u hu]
      exact (hBb u hu).2
  · intro b hb
    rw [eS _ (lc_lt b hb), eS _ (mc_lt b hb)]
    exact hL.1 b hb
  · intro u hu
    rw [eS u hu]
    exact hL.2.1 u hu
  · intro G g1 g2 u hu
    rw [eS u hu]
    exact hL.2.2 G g1 g2 u hu
  · have hlt : ¬ ((36 : Nat) : Int) < 36 := by omega
    rw [q_X12_joins_0, b2, q_X12_joins_3, if_neg hlt]
    simp (disch := first | (simp (disch := omega) only [w32_id]; omega) | omega) only [↓BM s, f2, e_clI, e_clV, e_clP, e_clIx, e_clVx, e_clPx, e_xt, Int.toNat_natCast, Int.reduceToNat, bz0, bz1, Nat.add_zero, decide_eq_false_iff_not, decide_eq_true_eq, Int.reduceEq, Nat.reduceEqDiff, Int.reduceLT, Int.reduceLE, not_true_eq_false, not_false_eq_true, eq_self, ↓reduceIte]
    refine hr.trans ?_
    rw [q_X12_joins_80, if_neg hlt]
def Tg (I J : am_I) : Prop := ∀ p, p ≠ 292 → p ≠ 297 → J p = I p
theorem p_ladders (r : Rel h I) : Pub h I (Cl sc (d + 30) mX11_ladders [Vr (some 0)]) (Cl sc (d + 30) mX12_ladders [Vr (some 283)]) cdA := by
  have R := r.R
  have V := r.V
  have hF := V.fa
  have cl := c_laddersForAll (sc := sc) (d := d + 23) (I := I) r.1 r.c (by omega) R V
  by_cases h0 : I 284 0 = 0
  · have c0 := cl.1 h0
    refine pubQ (x := 0) (v := 0) (v' := 0) r (CO.ok (J := I) ?_ (Same.rf I)) (fun h1 J1 r1 e1 => ?_) (fun _ => rfl)
    · rw [q_X11_ladders_0]
      simp (disch := first | (simp (disch := omega) only [w32_id]; omega) | omega) only [↓BO r.1, ↓BW r.1, c0, e_clI, e_clV, e_clP, e_clIx, e_clVx, e_clPx, e_xt, Int.toNat_natCast, Int.reduceToNat, bz0, bz1, Nat.add_zero, decide_eq_false_iff_not, decide_eq_true_eq, Int.reduceEq, Nat.reduceEqDiff, Int.reduceLT, Int.reduceLE, not_true_eq_false, not_false_eq_true, eq_self, ↓reduceIte]
    · refine MO.ok0 ?_
      have h02 : J1 284 0 = 0 := by rw [e1.w]; exact h0
      rw [q_X12_ladders_0]
      simp (disch := first | (simp (disch := omega) only [w32_id]; omega) | omega) only [↓BM r1.1, m_families r1.1, w283, h02, e_clI, e_clV, e_clP, e_clIx, e_clVx, e_clPx, e_xt, Int.toNat_natCast, Int.reduceToNat, bz0, bz1, Nat.add_zero, decide_eq_false_iff_not, decide_eq_true_eq, Int.reduceEq, Nat.reduceEqDiff, Int.reduceLT, Int.reduceLE, not_true_eq_false, not_false_eq_true, eq_self, ↓reduceIte]
  · obtain ⟨J, ⟨k1, k2⟩, k3⟩ := cl.2 (by omega)
    refine pubQ (x := 0) (v := Tc J (2 ^ (I 284 0).toNat - 1) (hmW (I 284) 0)) (v' := Tc J (2 ^ (I 284 0).toNat - 1) (hmW (I 284) 0)) r (CO.ok (J := J) ?_ k1.sm) (fun h1 J1 r1 e1 => ?_) (fun _ => rfl)
    · rw [q_X11_ladders_0]
      simp (disch := first | (simp (disch := omega) only [w32_id]; omega) | omega) only [↓BO r.1, ↓BW r.1, k3, e_clI, e_clV, e_clP, e_clIx, e_clVx, e_clPx, e_xt, Int.toNat_natCast, Int.reduceToNat, bz0, bz1, Nat.add_zero, decide_eq_false_iff_not, decide_eq_true_eq, Int.reduceEq, Nat.reduceEqDiff, Int.reduceLT, Int.reduceLE, not_true_eq_false, not_false_eq_true, eq_self, ↓reduceIte]
    · have e4 : am_u2 J1 283 0 0 284 = I 284 := by rw [w283, e1.w]
      have e18 : am_u2 J1 283 0 0 283 18 = -1 := by rw [u2_j (by decide)]; exact rel18 r1
      have e19 : am_u2 J1 283 0 0 283 19 = -1 := by rw [u2_j (by decide)]; exact rel19 r1
      have hsh := shl_t (I 284 0).toNat (by omega)
      have hp1 : 1 ≤ 2 ^ (I 284 0).toNat := Nat.one_le_two_pow
      have hp2 : 2 ^ 1 ≤ 2 ^ (I 284 0).toNat := Nat.pow_le_pow_right (by decide) (by omega)
      have esh : bShl 1 (I 284 0) = ((2 ^ (I 284 0).toNat : Nat) : Int) := by
        have := hsh.1
        rw [show (((I 284 0).toNat : Nat) : Int) = I 284 0 by omega] at this
        exact this
      have w1 : w32 (((2 ^ (I 284 0).toNat : Nat) : Int) - 1) = ((2 ^ (I 284 0).toNat - 1 : Nat) : Int) := by
        rw [show ((2 ^ (I 284 0).toNat : Nat) : Int) - 1 = ((2 ^ (I 284 0).toNat - 1 : Nat) : Int) by omega]
        exact w32_id (by omega) (by omega)
      have go : ∀ n : Nat, n + 1 ≤ 2 ^ (I 284 0).toNat → ∃ K, (Tg (am_u2 J1 283 0 0) K ∧ TR (I 284) (adM (I 284) (-1) (-1) 3 0) (n + 1) (Tm K)) ∧ Ru sc (d + 30) mX12_ladders 18 [Vr (some 283), Vi ((2 ^ (I 284 0).toNat - 1 : Nat) : Int), Vi 1] [] (hI h1 (am_u2 J1 283 0 0)) = Ru sc (d + 30) mX12_ladders 18 [Vr (some 283), Vi ((2 ^ (I 284 0).toNat - 1 : Nat) : Int), Vi ((n + 1 : Nat) : Int)] [] (hI h1 K) := by
        intro n
        induction n with
        | zero => exact fun _ => ⟨_, ⟨fun _ _ _ => rfl, fun S h1 h2 => by omega⟩, rfl⟩
        | succ n ih =>
          intro hn
          obtain ⟨K, ⟨g1, g2⟩, g3⟩ := ih (by omega)
          have k4 : K 284 = I 284 := by rw [g1 284 (by decide) (by decide), e4]
          have k18 : K 283 18 = -1 := by rw [g1 283 (by decide) (by decide)]; exact e18
          have k19 : K 283 19 = -1 := by rw [g1 283 (by decide) (by decide)]; exact e19
          obtain ⟨F, D, l1, l2⟩ := m_joins (sc := sc) (d := d + 22) (I := K) r1.1 (by rw [k4]; exact V) (S := n + 1) (by omega) (by omega) (by rw [k4, k18, k19]; exact g2)
          rw [k4, k18, k19] at l1
          have hlt : ¬ ((2 ^ (I 284 0).toNat - 1 : Nat) : Int) < ((n + 1 : Nat) : Int) := by omega
          have wn : w32 (((n + 1 : Nat) : Int) + 1) = ((n + 1 + 1 : Nat) : Int) := w32_succ (by omega)
          refine ⟨_, ⟨fun p q1 q2 => by rw [sr_ne q2, sr_ne q1]; exact g1 p q1 q2, l1⟩, ?_⟩
          rw [g3, q_X12_ladders_18, if_neg hlt]
          simp (disch := first | (simp (disch := omega) only [w32_id]; omega) | omega) only [↓BM r1.1, l2, wn, e_clI, e_clV, e_clP, e_clIx, e_clVx, e_clPx, e_xt, Int.toNat_natCast, Int.reduceToNat, bz0, bz1, Nat.add_zero, decide_eq_false_iff_not, decide_eq_true_eq, Int.reduceEq, Nat.reduceEqDiff, Int.reduceLT, Int.reduceLE, not_true_eq_false, not_false_eq_true, eq_self, ↓reduceIte]
      obtain ⟨K, ⟨g1, g2⟩, g3⟩ := go (2 ^ (I 284 0).toNat - 1) (by omega)
      have en : 2 ^ (I 284 0).toNat - 1 + 1 = 2 ^ (I 284 0).toNat := by omega
      rw [en] at g2 g3
      have k4 : K 284 = I 284 := by rw [g1 284 (by decide) (by decide), e4]
      have hm := hmW_e V (f := 0) (by omega)
      have eT := k2.uni g2 (2 ^ (I 284 0).toNat - 1) (by omega) (by omega) (hmW (I 284) 0) hm.2
      refine MO.okJ (J := K) ?_ (s283.tr (fun p j hp => by
        rw [g1 p (fun e => hp (by unfold scr; omega)) (fun e => hp (by unfold scr; omega))])) (by rw [g1 283 (by decide) (by decide)]; exact u2_same)
      have h02 : ¬ J1 284 0 = 0 := by rw [e1.w]; exact h0
      have esh2 : bShl 1 (J1 284 0) = ((2 ^ (I 284 0).toNat : Nat) : Int) := by rw [e1.w]; exact esh
      have hlt : ((2 ^ (I 284 0).toNat - 1 : Nat) : Int) < ((2 ^ (I 284 0).toNat : Nat) : Int) := by omega
      have m1 := m_togetherAt (sc := sc) (d := d + 28) (p := 2 ^ (I 284 0).toNat - 1) (c := hmW (I 284) 0) (by omega) hm.2 (h := hI h1 K)
      have kb : ((36 * (2 ^ (I 284 0).toNat - 1) + hmW (I 284) 0 : Nat) : Int) < 2304 := by omega
      have em : I 284 307 = (hmW (I 284) 0 : Int) := hm.1
      have m0 : Cl sc (d + 29) mX12_ofFamily [Vr (some 283), Vi 0, Vi 0] (hI h1 K) = some (.inl (Vi (K 284 307)), hI h1 K) := m_ofFamily (sc := sc) (d := d + 27) (I := K) r1.1 (f := 0) (k := 0) (by omega) (by decide)
      rw [q_X12_ladders_0]
      simp (disch := first | (simp (disch := omega) only [w32_id]; omega) | omega) only [↓BM r1.1, m_families r1.1, w283, h02, esh2, w1, e_clI, e_clV, e_clP, e_clIx, e_clVx, e_clPx, e_xt, Int.toNat_natCast, Int.reduceToNat, bz0, bz1, Nat.add_zero, decide_eq_false_iff_not, decide_eq_true_eq, Int.reduceEq, Nat.reduceEqDiff, Int.reduceLT, Int.reduceLE, not_true_eq_false, not_false_eq_true, eq_self, ↓reduceIte]
      rw [g3, q_X12_ladders_18, if_pos hlt]
      simp (disch := first | (simp (disch := omega) only [w32_id]; omega) | omega) only [↓BM r1.1, m0, k4, em, m1, kb, e_clI, e_clV, e_clP, e_clIx, e_clVx, e_clPx, e_xt, Int.toNat_natCast, Int.reduceToNat, bz0, bz1, Nat.add_zero, decide_eq_false_iff_not, decide_eq_true_eq, Int.reduceEq, Nat.reduceEqDiff, Int.reduceLT, Int.reduceLE, not_true_eq_false, not_false_eq_true, eq_self, ↓reduceIte]
      rw [eT]
      rfl
end
