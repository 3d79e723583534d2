/-! A COUNTY'S TEXT: the call, both sides -/
section
variable {sc : Nat × (Nat → Int)} {d : Nat} {h h1 h2 : am_H} {I J J1 J2 K : am_I} {w v : am_Wd} {y : Int}
theorem ar_c3 {n : Nat} (h : n ≤ 12) : w32 ((n : Int) + 1) = (n : Int) + 1 := w32_id (by omega) (by omega)
theorem p_county (r : Rel h I) (B : BBh (hI h I)) : Pub h I (Cl sc (d + 30) mX11_county [Vr (some 0)]) (Cl sc (d + 30) mX12_county [Vr (some 283)]) cdC := by
  have ne1 : ¬ (1 : Int) = 0 := by decide
  have n1 : (-1 : Int) < 0 := by decide
  obtain ⟨h1, J1, ⟨q1, S1, hc, hs⟩, s1, c1⟩ := c_draft (sc := sc) (d := d + 27) r.1 r.2.1 (bb_county r.1 B isC_now)
  have r1 := r.q q1
  have B1 : BBh (hI h1 J1) := bb_Cl B _ _ c1
  have t1 := r1.2.2.2.2.1
  have eW : J1 284 = I 284 := q1.1.w
  obtain ⟨L, hM⟩ : ∃ L : Nat, J1 283 9 = L := ⟨(J1 283 9).toNat, by have := t1.2.1; omega⟩
  have hL : J1 1 1 = (L : Int) := t1.1.trans hM
  have hl400 : L ≤ 400 := by have := t1.2.1; omega
  have tb : TB (J1 289) L := ⟨hl400, fun k hk => (t1.2.2.1 k hk).1⟩
  have eA : ∀ k, k < L → J1 2 k = unS (J1 289) k := fun k hk => (t1.2.2.1 k (by omega)).2
  obtain ⟨yc, K, ⟨k1, k2, k3⟩, k4⟩ := c_reads (sc := sc) (d := d + 20) s1 hl400 hL S1.2.1 S1.1
  rw [rdCo_cg eA] at k3
  have B2 : BBh (hI h1 K) := bb_Cl B1 _ _ k4
  have kK : ∀ p, p ≠ 1 → p ≠ 3 → p ≠ 4 → ¬ (23 ≤ p ∧ p ≤ 34) → ¬ (304 ≤ p ∧ (p - 304) % 6 = 5) → K p = J1 p := fun p e1 e2 e3 e4 e5 => funext fun j => k1 p j (by omega) e2 e3 e4 e5
  have mod : ∀ (h9 : am_H) (J : am_I), Sh h9 → J 283 = J1 283 → J 284 = I 284 → J 289 = J1 289 → ∃ y Q, ((∀ x j, ¬ (x = 283 ∧ (j = 0 ∨ j = 9 ∨ j = 10 ∨ j = 11 ∨ j = 12 ∨ j = 16)) → x ≠ 284 → x ≠ 286 → x ≠ 291 → Q x j = J x j) ∧ (∀ j, 631 ≤ j → Q 284 j = I 284 j) ∧ Q 283 0 = 0 ∧ Q 283 9 = 0 ∧ (∀ j, j < 1480 → Q 286 j = I 284 j) ∧ ((∃ w1, (rdCo (unS (J1 289)) L (I 284)).2 = some w1 ∧ 0 ≤ y ∧ Q 284 = w1) ∨ ((rdCo (unS (J1 289)) L (I 284)).2 = none ∧ y = -1 ∧ Q 283 12 = ((rdCo (unS (J1 289)) L (I 284)).1 : Int)))) ∧ Cl sc (d + 30) mX12_county [Vr (some 283)] (hI h9 J) = (if y < 0 then
      gfI 12 12 (hI h9 Q) (some 283) fun v4 =>
      pfI 0 12 14 (hI h9 Q) (some 283) v4 fun h5 =>
      if y < 0 then
        Ru sc (d + 30) mX12_county 35 [Vr (some 283), Vi y, Vx 0] [Vi 1, Vr (some 283)] h5
      else
        Ru sc (d + 30) mX12_county 35 [Vr (some 283), Vi y, Vx 0] [Vi 0, Vr (some 283)] h5
    else
      pfI 0 12 14 (hI h9 Q) (some 283) (-1) fun h3 =>
      if y < 0 then
        Ru sc (d + 30) mX12_county 35 [Vr (some 283), Vi y, Vx 0] [Vi 1, Vr (some 283)] h3
      else
        Ru sc (d + 30) mX12_county 35 [Vr (some 283), Vi y, Vx 0] [Vi 0, Vr (some 283)] h3) := by
    intro h9 J s9 e83 e84 e89
    have f83 : sr J 286 (fun j => if j < 1480 then J 284 (0 + j) else J 286 j) 283 = J1 283 := (sr_ne (by decide)).trans e83
    have f84 : sr J 286 (fun j => if j < 1480 then J 284 (0 + j) else J 286 j) 284 = I 284 := (sr_ne (by decide)).trans e84
    have f89 : sr J 286 (fun j => if j < 1480 then J 284 (0 + j) else J 286 j) 289 = J1 289 := (sr_ne (by decide)).trans e89
    obtain ⟨y, Q, ⟨g1, g2, g3, g4, g5⟩, g6⟩ := m_readAllC (sc := sc) (d := d + 18) (L := L) (w := I 284) s9 (by rw [f83]; exact hM) (by rw [f89]; exact tb) f84 r.V
    rw [f89] at g5
    refine ⟨y, Q, ⟨fun x j e1 e2 e3 e4 => (g1 x j e1 e2 e4).trans (by rw [sr_ne e3]), fun j hj => (g2 j hj).trans (by rw [f84]), g3, g4, fun j hj => ?_, g5⟩, ?_⟩
    · rw [g1 286 j (by omega) (by decide) (by decide), sr_q, if_pos hj, Nat.zero_add, e84]
    · rw [q_X12_county_0, m_county3 s9, q_X12_county_3, if_neg (by decide), m_cal s9 g6]
  have same : ∀ (h9 : am_H) (Z : am_I), Rel h9 J1 → (∀ x j, ¬ (x = 283 ∧ (j = 0 ∨ j = 9 ∨ j = 10 ∨ j = 11 ∨ j = 12 ∨ j = 14 ∨ j = 16)) → x ≠ 284 → x ≠ 286 → x ≠ 291 → x ≠ 303 → Z x j = K x j) → Z 283 9 = 0 → Z 283 14 = K 1 2 → Z 284 = I 284 → Rel h9 Z := by
    intro h9 Z r9 z1 z2 z3 z4
    have zJ : ∀ p j, ¬ tpk p j → ¬ scr p j → Z p j = J1 p j := fun p j hp hs => by
      by_cases e : p = 284
      · rw [e, z4, eW]
      · unfold tpk at hp
        rw [z1 p j (fun z => hs (by unfold scr; omega)) e (fun z => hs (by unfold scr; omega)) (fun z => hs (by unfold scr; omega)) (fun z => hs (by unfold scr; omega)), kK p (by omega) (fun z => hs (by unfold scr; omega)) (fun z => hs (by unfold scr; omega)) (fun z => hs (by unfold scr; omega)) (fun z => hs (by unfold scr; omega))]
    refine r9.tap zJ ⟨?_, ?_, fun k hk => ?_, ?_⟩
    · rw [z1 1 1 (by omega) (by decide) (by decide) (by decide) (by decide), k2, z2]
    · rw [z2]
      decide
    · rw [z1 289 k (by omega) (by decide) (by decide) (by decide) (by decide), z1 2 k (by omega) (by decide) (by decide) (by decide) (by decide), kK 289 (by decide) (by decide) (by decide) (by omega) (by omega), kK 2 (by decide) (by decide) (by decide) (by omega) (by omega)]
      exact t1.2.2.1 k hk
    · rw [z1 1 2 (by omega) (by decide) (by decide) (by decide) (by decide), z3]
  have bex : Bd h (am_ex h1) := ⟨by show hC h1 + 1 ≤ _; omega, by show hS h1 + 6 ≤ _; omega⟩
  have k83 := kK 283 (by decide) (by decide) (by decide) (by omega) (by omega)
  have k84 := (kK 284 (by decide) (by decide) (by decide) (by omega) (by omega)).trans eW
  have k89 := kK 289 (by decide) (by decide) (by decide) (by omega) (by omega)
  -- what is laid back
  have back : ∀ (Q : am_I) (x v : Int), (∀ j, 631 ≤ j → Q 284 j = I 284 j) → (∀ j, j < 1480 → Q 286 j = I 284 j) → sr (am_u2 (am_u2 Q 283 14 v) 283 0 x) 284 (fun j => if j < 1480 then am_u2 (am_u2 Q 283 14 v) 283 0 x 286 (0 + j) else am_u2 (am_u2 Q 283 14 v) 283 0 x 284 j) 284 = I 284 := fun Q x v z1 z2 => by
    rw [sr_q, u2_o (by decide), u2_o (by decide), u2_o (by decide), u2_o (by decide)]
    funext j
    by_cases hj : j < 1480
    · rw [if_pos hj, Nat.zero_add]
      exact z2 j hj
    · rw [if_neg hj]
      exact z1 j (by omega)
  have fin : ∀ (Q : am_I) (x v o : Int), (∀ x j, ¬ (x = 283 ∧ (j = 0 ∨ j = 9 ∨ j = 10 ∨ j = 11 ∨ j = 12 ∨ j = 16)) → x ≠ 284 → x ≠ 286 → x ≠ 291 → Q x j = am_u2 K 303 0 o x j) → (∀ j, 631 ≤ j → Q 284 j = I 284 j) → Q 283 9 = 0 → (∀ j, j < 1480 → Q 286 j = I 284 j) → v = K 1 2 → Rel (am_ex h1) (sr (am_u2 (am_u2 Q 283 14 v) 283 0 x) 284 (fun j => if j < 1480 then am_u2 (am_u2 Q 283 14 v) 283 0 x 286 (0 + j) else am_u2 (am_u2 Q 283 14 v) 283 0 x 284 j)) := fun Q x v o z1 z2 z3 z4 z5 => by
    refine same (am_ex h1) _ r1.ex (fun p j e1 e2 e3 e4 e5 => ?_) ?_ ?_ (back Q x v z2 z4)
    · rw [sr_ne e2]
      by_cases e : p = 283
      · rw [e, u2_j (by omega), u2_j (by omega), z1 283 j (by omega) (by decide) (by decide) (by decide), u2_a (by decide)]
      · rw [u2_a e, u2_a e, z1 p j (by omega) e2 e3 e4, u2_a e5]
    · rw [sr_ne (by decide), u2_j (by decide), u2_j (by decide)]
      exact z3
    · rw [sr_ne (by decide), u2_j (by decide), u2_same]
      exact z5
  rcases k3 with ⟨w1, a1, a2, a3, a4⟩ | ⟨a1, a2, a3⟩
  · subst a2
    have W1 : WW w1 ∧ T2 (I 284) w1 := rdCo_ok r.V a1
    have e1 : w1 1 = I 284 1 := rdCo_1 a1
    have v1 := r.V.ws.2.1
    obtain ⟨n, hn⟩ : ∃ n : Nat, I 284 1 = n := ⟨(I 284 1).toNat, by omega⟩
    rw [hn] at e1
    have k11 : K 11 13 = (n : Int) := by
      rw [kK 11 (by decide) (by decide) (by decide) (by omega) (by omega), r1.R.te, eW, hn]
    have k23 : K 23 13 = (n : Int) := a4.te.trans e1
    by_cases h12 : n < 12
    · have h12' : (n : Int) < 12 := by omega
      have n12 : ¬ (n : Int) = 12 := by omega
      have hle : n ≤ 12 := by omega
      have R2 := te_R (x := (n : Int) + 1) a4 W1.1
      have W2 : WW (up w1 1 ((n : Int) + 1)) := up1_w W1.1 (by omega)
      have B3 : BBo (am_u2 K 23 13 ((n : Int) + 1)) 23 := fun i hi => by
        rw [u2_o (by decide), u2_o (by decide), u2_o (by decide)]
        exact bb_county s1 B2 isC_23 i hi
      obtain ⟨K2, ⟨b1, b2, b3⟩, b4⟩ := c_copyFrom (sc := sc) (d := d + 27) (a := 11) (b := 23) s1 isC_now isC_23 (by omega) W2 R2 B3
      have s2 : Sh (wP h1 11 14 (rP h1 23 14)) := s1.w14 isC_now
      have b0 : ∀ p, 0 < p → p < 11 ∨ 22 < p → p ≠ 23 → am_u2 K2 0 9 0 p = K p := fun p h0 hp h23 => by
        rw [u2_o (by omega), b1 p hp, u2_o h23]
      have b00 : ∀ j, j ≠ 9 → am_u2 K2 0 9 0 0 j = J1 0 j := fun j hj => by
        rw [u2_j hj, b1 0 (by omega), u2_o (by decide), kK 0 (by decide) (by decide) (by decide) (by omega) (by omega)]
      have R3 : CRep (am_u2 K2 0 9 0) 11 (up w1 1 ((n : Int) + 1)) := b2.eq fun k hk => u2_o (by omega)
      have M1 : LR (wP h1 11 14 (rP h1 23 14)) (am_u2 K2 0 9 0) 11 (I 284) := S1.2.2.mv rfl (Nat.le_refl _) rP_w14 (fun p j hp => rP_w14n (by omega)) (fun n k hk => by
        rw [b0 _ (by omega) (by omega) (by omega), kK _ (by omega) (by omega) (by omega) (by omega) (by omega)])
      have T2' : T2 (I 284) (up w1 1 ((n : Int) + 1)) := W1.2.up (by decide) (by decide)
      have S3 : St (wP h1 11 14 (rP h1 23 14)) (am_u2 K2 0 9 0) 11 (up w1 1 ((n : Int) + 1)) := ⟨R3, W2, M1.cg T2'.1 T2'.2⟩
      refine ⟨0, (n : Int) + 1, (n : Int) + 1, wP h1 11 14 (rP h1 23 14), am_u2 K2 0 9 0, ?_, s2, fun _ => rfl, fun o => ?_⟩
      · show Cl sc (d + 30) mX11_county [Vr (some 0)] (hI h I) = some (.inl (Vi ((n : Int) + 1)), hI (wP h1 11 14 (rP h1 23 14)) (am_u2 K2 0 9 0))
        have e13 : am_u2 K2 0 9 0 11 13 = (n : Int) + 1 := R3.te.trans up_s
        rw [q_X11_county_0, e_gfP (r.1.T 0 rfl) (r.1.P 4 rfl), e_gfP (r.1.T 0 rfl) (r.1.P 3 rfl), e_rcv (r.1.T 23 rfl), c1, e_clV, e_gfP (s1.T 0 rfl) (s1.P 1 rfl), e_gfP (s1.T 0 rfl) (s1.P 4 rfl), (BR s1).1, k4, e_clI, if_neg ne1, e_gfP (s1.T 0 rfl) (s1.P 3 rfl), e_gfI (s1.T 11 rfl), k11, if_pos h12', e_gfP (s1.T 0 rfl) (s1.P 4 rfl), e_gfI (s1.T 23 rfl), k23, ar_c3 hle, e_pfI (s1.T 23 rfl), e_gfP (s1.T 0 rfl) (s1.P 3 rfl), e_gfP (s1.T 0 rfl) (s1.P 4 rfl), e_rcv (s1.T 11 rfl), b4, e_clV, e_pfI (s2.T 0 rfl), e_gfP (s2.T 0 rfl) (s2.P 3 rfl), e_gfI (s2.T 11 rfl), e13]
      · obtain ⟨y, Q, ⟨g1, g2, g3, g4, g5, g6⟩, g7⟩ := mod (wP h1 11 14 (rP h1 23 14)) (am_u2 (am_u2 K2 0 9 0) 303 0 o) s2 (by rw [u2_o (by decide), b0 283 (by decide) (by decide) (by decide)]; exact k83) (by rw [u2_o (by decide), b0 284 (by decide) (by decide) (by decide)]; exact k84) (by rw [u2_o (by decide), b0 289 (by decide) (by decide) (by decide)]; exact k89)
        rcases g6 with ⟨w9, x1, x2, x3⟩ | ⟨x1, -⟩
        · have ew : w9 = w1 := by
            rw [a1] at x1
            cases x1
            rfl
          subst ew
          have y0 : ¬ y < 0 := by omega
          have eQ : am_u2 (am_u2 (am_u2 Q 283 14 (-1)) 284 1 ((n : Int) + 1)) 283 7 0 284 = up w9 1 ((n : Int) + 1) := by
            rw [u2_o (by decide), u2_up, u2_o (by decide), x3]
          have eQp : ∀ p, p ≠ 283 → p ≠ 284 → p ≠ 286 → p ≠ 291 → p ≠ 303 → am_u2 (am_u2 (am_u2 Q 283 14 (-1)) 284 1 ((n : Int) + 1)) 283 7 0 p = am_u2 K2 0 9 0 p := fun p e1 e2 e3 e4 e5 => by
            rw [u2_o e1, u2_o e2, u2_o e1]
            funext j
            rw [g1 p j (by omega) e2 e3 e4, u2_a e5]
          have eQm : ∀ j, j ≠ 0 → j ≠ 9 → ¬ (10 ≤ j ∧ j ≤ 12) → j ≠ 16 → j ≠ 7 → j ≠ 14 → am_u2 (am_u2 (am_u2 Q 283 14 (-1)) 284 1 ((n : Int) + 1)) 283 7 0 283 j = J1 283 j := fun j e1 e2 e3 e4 e5 e6 => by
            rw [u2_j e5, u2_a (by decide), u2_j e6, g1 283 j (by omega) (by decide) (by decide) (by decide), u2_a (by decide), b0 283 (by decide) (by decide) (by decide), k83]
          have eQi : ∀ p, p ≠ 283 → p ≠ 284 → p ≠ 286 → p ≠ 291 → p ≠ 303 → 22 < p → p ≠ 23 → ¬ (23 ≤ p ∧ p ≤ 34) → ¬ (304 ≤ p ∧ (p - 304) % 6 = 5) → am_u2 (am_u2 (am_u2 Q 283 14 (-1)) 284 1 ((n : Int) + 1)) 283 7 0 p = J1 p := fun p e1 e2 e3 e4 e5 e6 e7 e8 e9 => by
            rw [eQp p e1 e2 e3 e4 e5, b0 p (by omega) (by omega) e7, kK p (by omega) (by omega) (by omega) e8 e9]
          refine ⟨wP h1 11 14 (rP h1 23 14), am_u2 (am_u2 (am_u2 Q 283 14 (-1)) 284 1 ((n : Int) + 1)) 283 7 0, ?_, ⟨s2, ?_, ⟨?_, ?_⟩, ⟨?_, ?_, ?_, fun k hk => ?_⟩, ⟨?_, ?_, fun k hk => ?_, ?_⟩, ?_, ?_, ?_, ?_⟩, ?_, ?_⟩
          · have l1 : am_u2 Q 283 14 (-1) 284 1 = (n : Int) := by
              rw [u2_a (by decide), x3]
              exact e1
            have l2 : am_u2 (am_u2 (am_u2 Q 283 14 (-1)) 284 1 ((n : Int) + 1)) 283 7 0 284 1 = (n : Int) + 1 := by
              rw [u2_a (by decide)]
              exact u2_same
            rw [g7, if_neg y0, e_pfI (s2.T 283 rfl), if_neg y0, q_X12_county_35, m_cal s2 (m_t0 s2), if_pos rfl, (BM s2).2.2.2.1, e_ldA (s2.T 284 rfl) (by decide) (by decide), show (1 : Int).toNat = 1 from rfl, l1, if_neg n12, q_X12_county_49, m_cal s2 (m_t0 s2), if_pos rfl, (BM s2).2.2.2.1, e_ldA (s2.T 284 rfl) (by decide) (by decide), show (1 : Int).toNat = 1 from rfl, l1, ar_c3 hle, e_stA (s2.T 284 rfl) (by decide) (by decide), show (1 : Int).toNat = 1 from rfl, e_pfI (s2.T 283 rfl), (BM s2).2.2.2.1, e_ldA (s2.T 284 rfl) (by decide) (by decide), show (1 : Int).toNat = 1 from rfl, l2]
          · rw [eQ]
            refine ⟨S3.1.eq fun k hk => eQp _ (by omega) (by omega) (by omega) (by omega) (by omega), S3.2.1, S3.2.2.same rfl (Nat.le_refl _) rfl (fun _ _ _ => rfl) (fun n k hk => eQp _ (by omega) (by omega) (by omega) (by omega) (by omega))⟩
          · rw [eQp 0 (by decide) (by decide) (by decide) (by decide) (by decide), b00 6 (by decide), eQm 6 (by decide) (by decide) (by decide) (by decide) (by decide) (by decide)]
            exact r1.2.2.1.1
          · rw [eQm 6 (by decide) (by decide) (by decide) (by decide) (by decide) (by decide), eQi 285 (by decide) (by decide) (by decide) (by decide) (by decide) (by decide) (by decide) (by omega) (by omega)]
            rcases r1.2.2.1.2 with i2 | ⟨i2, i3⟩
            · exact Or.inl i2
            · exact Or.inr ⟨i2, i3.1.eq fun k hk => eQi _ (by omega) (by omega) (by omega) (by omega) (by omega) (by omega) (by omega) (by omega) (by omega), i3.2.1, i3.2.2.same rfl (Nat.le_refl _) (rP_w14n (by omega)) (fun p j hp => rP_w14n (by omega)) (fun n k hk => eQi _ (by omega) (by omega) (by omega) (by omega) (by omega) (by omega) (by omega) (by omega) (by omega))⟩
          · rw [eQp 0 (by decide) (by decide) (by decide) (by decide) (by decide), u2_same, u2_same]
          · rw [u2_same]
            decide
          · rw [eQp 0 (by decide) (by decide) (by decide) (by decide) (by decide), b00 8 (by decide)]
            exact r1.2.2.2.1.2.2.1
          · rw [u2_same] at hk
            omega
          · rw [eQp 1 (by decide) (by decide) (by decide) (by decide) (by decide), b0 1 (by decide) (by decide) (by decide), k2, u2_j (by decide), u2_a (by decide), u2_j (by decide), g4]
          · rw [u2_j (by decide), u2_a (by decide), u2_j (by decide), g4]
            decide
          · rw [eQi 289 (by decide) (by decide) (by decide) (by decide) (by decide) (by decide) (by decide) (by omega) (by omega), eQp 2 (by decide) (by decide) (by decide) (by decide) (by decide), b0 2 (by decide) (by decide) (by decide), kK 2 (by decide) (by decide) (by decide) (by omega) (by omega)]
            exact t1.2.2.1 k hk
          · rw [eQp 1 (by decide) (by decide) (by decide) (by decide) (by decide), b0 1 (by decide) (by decide) (by decide), a3, u2_j (by decide), u2_a (by decide), u2_same]
          · rw [eQm 18 (by decide) (by decide) (by decide) (by decide) (by decide) (by decide)]
            exact r1.2.2.2.2.2.1
          · rw [eQm 19 (by decide) (by decide) (by decide) (by decide) (by decide) (by decide)]
            exact r1.2.2.2.2.2.2.1
          · rw [eQp 9 (by decide) (by decide) (by decide) (by decide) (by decide), b0 9 (by decide) (by decide) (by decide), kK 9 (by decide) (by decide) (by decide) (by omega) (by omega)]
            exact r1.2.2.2.2.2.2.2.1
          · exact r1.2.2.2.2.2.2.2.2
          · rw [u2_j (by decide), u2_a (by decide), u2_j (by decide), g3]
            rfl
          · exact ⟨by show hC h1 ≤ _; omega, by show hS h1 ≤ _; omega⟩
        · rw [a1] at x1
          cases x1
    · have h12' : ¬ (n : Int) < 12 := by omega
      have n12 : (n : Int) = 12 := by omega
      refine ⟨2, 0, 0, am_ex h1, K, ?_, r1.ex.1, fun z => absurd z (by decide), fun o => ?_⟩
      · show Cl sc (d + 30) mX11_county [Vr (some 0)] (hI h I) = some (.inr 2, hI (am_ex h1) K)
        rw [q_X11_county_0, e_gfP (r.1.T 0 rfl) (r.1.P 4 rfl), e_gfP (r.1.T 0 rfl) (r.1.P 3 rfl), e_rcv (r.1.T 23 rfl), c1, e_clV, e_gfP (s1.T 0 rfl) (s1.P 1 rfl), e_gfP (s1.T 0 rfl) (s1.P 4 rfl), (BR s1).1, k4, e_clI, if_neg ne1, e_gfP (s1.T 0 rfl) (s1.P 3 rfl), e_gfI (s1.T 11 rfl), k11, if_neg h12']
        rfl
      · obtain ⟨y, Q, ⟨g1, g2, g3, g4, g5, g6⟩, g7⟩ := mod (am_ex h1) (am_u2 K 303 0 o) r1.ex.1 (by rw [u2_o (by decide)]; exact k83) (by rw [u2_o (by decide)]; exact k84) (by rw [u2_o (by decide)]; exact k89)
        rcases g6 with ⟨w9, x1, x2, x3⟩ | ⟨x1, -⟩
        · have ew : w9 = w1 := by
            rw [a1] at x1
            cases x1
            rfl
          subst ew
          have y0 : ¬ y < 0 := by omega
          have s2 := r1.ex.1
          refine ⟨am_ex h1, _, ?_, fin Q 2 (-1) o g1 g2 g4 g5 a3.symm, ?_, bex⟩
          · have l1 : am_u2 Q 283 14 (-1) 284 1 = 12 := by
              rw [u2_a (by decide), x3]
              exact e1.trans n12
            rw [g7, if_neg y0, e_pfI (s2.T 283 rfl), if_neg y0, q_X12_county_35, m_cal s2 (m_t0 s2), if_pos rfl, (BM s2).2.2.2.1, e_ldA (s2.T 284 rfl) (by decide) (by decide), show (1 : Int).toNat = 1 from rfl, l1, if_pos rfl, q_X12_county_49, m_cal s2 (m_t1 s2), if_neg ne1]
            exact m_county55 s2
          · rw [sr_ne (by decide), u2_same]
            rfl
        · rw [a1] at x1
          cases x1
  · subst a2
    refine ⟨1, 0, 0, am_ex h1, K, ?_, r1.ex.1, fun z => absurd z (by decide), fun o => ?_⟩
    · show Cl sc (d + 30) mX11_county [Vr (some 0)] (hI h I) = some (.inr 1, hI (am_ex h1) K)
      rw [q_X11_county_0, e_gfP (r.1.T 0 rfl) (r.1.P 4 rfl), e_gfP (r.1.T 0 rfl) (r.1.P 3 rfl), e_rcv (r.1.T 23 rfl), c1, e_clV, e_gfP (s1.T 0 rfl) (s1.P 1 rfl), e_gfP (s1.T 0 rfl) (s1.P 4 rfl), (BR s1).1, k4, e_clI, if_pos rfl]
      rfl
    · obtain ⟨y, Q, ⟨g1, g2, g3, g4, g5, g6⟩, g7⟩ := mod (am_ex h1) (am_u2 K 303 0 o) r1.ex.1 (by rw [u2_o (by decide)]; exact k83) (by rw [u2_o (by decide)]; exact k84) (by rw [u2_o (by decide)]; exact k89)
      rcases g6 with ⟨w9, x1, -⟩ | ⟨x1, x2, x3⟩
      · rw [a1] at x1
        cases x1
      · subst x2
        have s2 := r1.ex.1
        refine ⟨am_ex h1, _, ?_, fin Q 1 (Q 283 12) o g1 g2 g4 g5 (x3.trans a3.symm), ?_, bex⟩
        · rw [g7, if_pos n1, e_gfI (s2.T 283 rfl), e_pfI (s2.T 283 rfl), if_pos n1, q_X12_county_35, m_cal s2 (m_t1 s2), if_neg ne1]
          exact m_county55 s2
        · rw [sr_ne (by decide), u2_same]
          rfl
end
