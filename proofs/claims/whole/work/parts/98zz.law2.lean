/-! A LAW'S TEXT: the call, both sides -/
theorem shP_lt : ∀ z ∈ shP, z.1 < 304 := by decide +kernel
theorem Sh.gs {z : Nat} {g G : am_H} (s : Sh g) (S : GS z g G) (hz : 304 ≤ z) (hZ : 304 ≤ hZ G) : Sh G := ⟨fun k hk => (S k (by omega)).1.trans (s.1 k hk), fun x hx => ((S x.1 (by have := shP_lt x hx; omega)).2.2 x.2.1).trans (s.2.1 x hx), hZ⟩
section
variable {sc : Nat × (Nat → Int)} {d : Nat} {h h1 h2 : am_H} {I J J1 J2 K : am_I} {w v : am_Wd} {y : Int}
theorem p_law (r : Rel h I) : Pub h I (Cl sc (d + 40) mX11_law [Vr (some 0)]) (Cl sc (d + 40) mX12_law [Vr (some 283)]) cdA := by
  have ne1 : ¬ (1 : Int) = 0 := by decide
  have n1 : (-1 : Int) < 0 := by decide
  have s := r.1
  have tp := r.2.2.2.2.1
  obtain ⟨L, hM⟩ : ∃ L : Nat, I 283 9 = L := ⟨(I 283 9).toNat, by have := tp.2.1; omega⟩
  have hL : I 1 1 = (L : Int) := tp.1.trans hM
  have hl400 : L ≤ 400 := by have := tp.2.1; omega
  have tb : TB (I 289) L := ⟨hl400, fun k hk => (tp.2.2.1 k hk).1⟩
  have eA : ∀ k, k < L → I 2 k = unS (I 289) k := fun k hk => (tp.2.2.1 k (by omega)).2
  obtain ⟨yc, K, ⟨k1, k2, k3⟩, k4⟩ := l_rd (sc := sc) (d := d + 20) s hl400 hL
  rw [rdLaw_cg eA] at k3
  have kI : ∀ p, p ≠ 1 → p ≠ 3 → p ≠ 4 → ¬ (6 ≤ p ∧ p ≤ 10) → K p = I p := fun p e1 e2 e3 e4 => funext fun j => k1 p j (by omega) e2 e3 (by omega) (by omega) (by omega) (by omega) (by omega)
  have k90 : K 9 0 = 0 := (k1 9 0 (by omega) (by decide) (by decide) (by omega) (by decide) (by decide) (by omega) (by decide)).trans r.2.2.2.2.2.2.2.1
  have mod : ∀ (h9 : am_H) (J : am_I), Sh h9 → J 283 = I 283 → J 284 = I 284 → J 289 = I 289 → ∃ y Q, ((∀ x j, ¬ (x = 283 ∧ (j = 0 ∨ j = 9 ∨ j = 10 ∨ j = 11 ∨ j = 12 ∨ j = 13 ∨ j = 16)) → x ≠ 284 → Q x j = J x j) ∧ (∀ j, j < 1481 → Q 284 j = I 284 j) ∧ Q 283 0 = 0 ∧ Q 283 9 = 0 ∧ ((∃ n ls cs, (rdLaw (unS (I 289)) L).2 = some (n, ls, cs) ∧ y = (n : Int) ∧ LMm Q n ls ∧ MC Q cs) ∨ ((rdLaw (unS (I 289)) L).2 = none ∧ y = -1 ∧ Q 283 12 = ((rdLaw (unS (I 289)) L).1 : Int)))) ∧ Cl sc (d + 40) mX12_law [Vr (some 283)] (hI h9 J) = (if y < 0 then
      gfI 12 12 (hI h9 Q) (some 283) fun v3 =>
      Ru sc (d + 40) mX12_law 12 [Vr (some 283), Vi y, Vx 0] [Vi v3, Vr (some 283)] (hI h9 Q)
    else
      Ru sc (d + 40) mX12_law 12 [Vr (some 283), Vi y, Vx 0] [Vi (-1), Vr (some 283)] (hI h9 Q)) := by
    intro h9 J s9 e83 e84 e89
    obtain ⟨y, Q, ⟨g1, g2, g3, g4, g5⟩, g6⟩ := m_readAllL (sc := sc) (d := d + 7) (J := J) (L := L) s9 (by rw [e83]; exact hM) (by rw [e89]; exact tb)
    rw [e89] at g5
    refine ⟨y, Q, ⟨g1, fun j hj => (g2 j hj).trans (by rw [e84]), g3, g4, g5⟩, ?_⟩
    rw [q_X12_law_0, m_cal s9 g6]
  rcases k3 with ⟨n, ls, cs, a1, a2, a3, a4, a5, a6⟩ | ⟨a1, a2, a3⟩
  · subst a2
    obtain ⟨hn, lI, hcs⟩ := rdLaw_g a1
    obtain ⟨n0, hZ0⟩ := r.2.2.2.2.2.2.2.2
    obtain ⟨G, ⟨GS0, GZ, GC, GSl, GLO, GL0, GL1, GL3, GL4⟩, gm⟩ := l_made (sc := sc) (d := d + 36) (g := hI h K) s (L := hZ h) rfl (ln := n) (cc := cs.1) hn (by omega) a4 a6.1
    have h304 := s.2.2
    have sG : Sh G := Sh.gs (g := hI h K) s GS0 h304 (by omega)
    have s2 : Sh (wP G 11 14 (some (hZ h))) := sG.w14 isC_now
    have T2 : ∀ b, b < hZ h → hT (wP G 11 14 (some (hZ h))) b = hT h b := fun b hb => (GS0 b hb).1
    have P2 : ∀ p j, p < hZ h → p ≠ 11 ∨ j ≠ 14 → rP (wP G 11 14 (some (hZ h))) p j = rP h p j := fun p j hp hn => (rP_w14n hn).trans ((GS0 p hp).2.2 j)
    have J2 : ∃ J2 : am_I, J2 = am_u2 G.2.2.2.2.1 0 9 0 := ⟨_, rfl⟩
    obtain ⟨J2, eJ2⟩ := J2
    have jK : ∀ p, p ≠ 0 → p < hZ h → J2 p = K p := fun p h0 hp => by
      rw [eJ2, u2_o h0]
      exact funext fun j => (GS0 p hp).2.1 j
    have j0 : ∀ j, j ≠ 9 → J2 0 j = I 0 j := fun j hj => by
      rw [eJ2, u2_j hj]
      exact ((GS0 0 (by omega)).2.1 j).trans (congrFun (kI 0 (by decide) (by decide) (by decide) (by omega)) j)
    have j09 : J2 0 9 = 0 := by
      rw [eJ2]
      exact u2_same
    have jL : ∀ p j, hZ h ≤ p → J2 p j = rI G p j := fun p j hp => by
      rw [eJ2, u2_a (by omega)]
      rfl
    have jI : ∀ p, p ≠ 0 → p < hZ h → p ≠ 1 → p ≠ 3 → p ≠ 4 → ¬ (6 ≤ p ∧ p ≤ 10) → J2 p = I p := fun p h0 hp e1 e2 e3 e4 => (jK p h0 hp).trans (kI p e1 e2 e3 e4)
    refine ⟨0, (n : Int), (n : Int), wP G 11 14 (some (hZ h)), J2, ?_, s2, fun _ => rfl, fun o => ?_⟩
    · show Cl sc (d + 40) mX11_law [Vr (some 0)] (hI h I) = some (.inl (Vi (n : Int)), hI (wP G 11 14 (some (hZ h))) J2)
      have tG11 : hT G 11 = (0, 0) := (GS0 11 (by omega)).1.trans (s.T 11 rfl)
      have t0 : hT (wP G 11 14 (some (hZ h))) 0 = (0, 11) := s2.T 0 rfl
      have e9 : wI (wP G 11 14 (some (hZ h))) 0 9 0 = hI (wP G 11 14 (some (hZ h))) J2 := by rw [eJ2]; rfl
      have eL : J2 (hZ h) 0 = (n : Int) := (jL _ _ (Nat.le_refl _)).trans GL0
      have tL : hT (wP G 11 14 (some (hZ h))) (hZ h) = (0, 3) := GLO.1
      rw [q_X11_law_0, e_gfP (s.T 0 rfl) (s.P 2 rfl), e_rcv (s.T 6 rfl), k4, e_clI, if_neg ne1, e_gfP (s.T 0 rfl) (s.P 3 rfl), e_gfP (s.T 0 rfl) (s.P 2 rfl), e_rcv (s.T 6 rfl), gm, e_clP, r_pfP tG11, r_pfI t0, e9, e_gfP (s2.T 0 rfl) (s2.P 3 rfl), e_gfP (s2.T 11 rfl) rP_w14, e_gfI tL, eL]
    · obtain ⟨y, Q, ⟨g1, g2, g3, g4, g5⟩, g6⟩ := mod (wP G 11 14 (some (hZ h))) (am_u2 J2 303 0 o) s2 (by rw [u2_o (by decide)]; exact jI 283 (by decide) (by omega) (by decide) (by decide) (by decide) (by omega)) (by rw [u2_o (by decide)]; exact jI 284 (by decide) (by omega) (by decide) (by decide) (by decide) (by omega)) (by rw [u2_o (by decide)]; exact jI 289 (by decide) (by omega) (by decide) (by decide) (by decide) (by omega))
      rcases g5 with ⟨n9, ls9, cs9, x1, x2, x3, x4⟩ | ⟨x1, -⟩
      · have ew : n9 = n ∧ ls9 = ls ∧ cs9 = cs := by
          rw [a1] at x1
          cases x1
          exact ⟨rfl, rfl, rfl⟩
        obtain ⟨rfl, rfl, rfl⟩ := ew
        subst x2
        have y0 : ¬ (n9 : Int) < 0 := by omega
        have eZ : ∃ Z, Z = am_u2 (am_u2 (sr (am_u2 (am_u2 Q 283 14 (-1)) 284 1480 (n9 : Int)) 284 (lwF (am_u2 (am_u2 Q 283 14 (-1)) 284 1480 (n9 : Int) 284) 849)) 284 2 1) 283 7 0 := ⟨_, rfl⟩
        obtain ⟨Z, eZ⟩ := eZ
        have zp : ∀ p, p ≠ 283 → p ≠ 284 → p ≠ 303 → Z p = J2 p := fun p e1 e2 e3 => by
          rw [eZ, u2_o e1, u2_o e2, sr_ne e2, u2_o e2, u2_o e1]
          funext j
          rw [g1 p j (by omega) e2, u2_a e3]
        have zm : ∀ j, j ≠ 0 → j ≠ 7 → j ≠ 9 → ¬ (10 ≤ j ∧ j ≤ 14) → j ≠ 16 → Z 283 j = I 283 j := fun j e0 e7 e9 e10 e16 => by
          rw [eZ, u2_j e7, u2_a (by decide), sr_ne (by decide), u2_a (by decide), u2_j (by omega), g1 283 j (by omega) (by decide), u2_a (by decide), jI 283 (by decide) (by omega) (by decide) (by decide) (by decide) (by omega)]
        have z7 : Z 283 7 = 0 := by rw [eZ]; exact u2_same
        have z0 : Z 283 0 = 0 := by
          rw [eZ, u2_j (by decide), u2_a (by decide), sr_ne (by decide), u2_a (by decide), u2_j (by decide)]
          exact g3
        have z9 : Z 283 9 = 0 := by
          rw [eZ, u2_j (by decide), u2_a (by decide), sr_ne (by decide), u2_a (by decide), u2_j (by decide)]
          exact g4
        have z14 : Z 283 14 = -1 := by
          rw [eZ, u2_j (by decide), u2_a (by decide), sr_ne (by decide), u2_a (by decide)]
          exact u2_same
        have zw : ∀ j, Z 284 j = if j = 2 then 1 else if 631 ≤ j ∧ j < 1480 then (if j = 631 then (n9 : Int) else Q 284 (j + 849)) else if j = 1480 then (n9 : Int) else Q 284 j := fun j => by
          rw [eZ, u2_o (show (284 : Nat) ≠ 283 by decide), u2_up, sr_q]
          unfold up lwF
          by_cases e2 : j = 2
          · rw [if_pos e2, if_pos e2]
          · rw [if_neg e2, if_neg e2]
            by_cases e3 : 631 ≤ j ∧ j < 1480
            · rw [if_pos (show 631 ≤ j ∧ j < 631 + 849 by omega), if_pos e3]
              by_cases e4 : j = 631
              · rw [if_pos e4, e4]
                exact u2_same
              · rw [if_neg e4, u2_j (by omega), u2_a (by decide)]
            · rw [if_neg (show ¬ (631 ≤ j ∧ j < 631 + 849) by omega), if_neg e3]
              by_cases e4 : j = 1480
              · rw [if_pos e4, e4]
                exact u2_same
              · rw [if_neg e4, u2_j e4, u2_a (by decide)]
        have w2 : Z 284 2 = 1 := (zw 2).trans (if_pos rfl)
        have w631 : Z 284 631 = (n9 : Int) := by rw [zw, if_neg (by decide), if_pos (by decide), if_pos rfl]
        have wlo : ∀ j, j < 631 → j ≠ 2 → Z 284 j = I 284 j := fun j hj h2 => by
          rw [zw, if_neg h2, if_neg (by omega), if_neg (by omega)]
          exact g2 j (by omega)
        have whi : ∀ j, 631 < j → j < 1480 → Z 284 j = Q 284 (j + 849) := fun j h1 h2 => by
          rw [zw, if_neg (by omega), if_pos (by omega), if_neg (by omega)]
        have R1 : CRep I 11 (up (I 284) 2 1) := by
          refine r.R.chS r.V (fun _ _ _ => rfl) (fun j hj => up_o (by omega)) ?_
          obtain ⟨r0, r1, r2, r3, r4⟩ := r.R.sr
          unfold SR
          rw [up_o (by decide), up_o (by decide), up_o (by decide), up_o (by decide), up_o (by decide)]
          exact ⟨r0, r1, r2, r3, r4⟩
        have W1 : WW (up (I 284) 2 1) := by
          refine r.V.chS (fun j h1 h2 => up_o (by omega)) ?_
          obtain ⟨v0, v1, v2, v3, v4, v5, v6⟩ := r.V.ws
          unfold WS
          rw [up_o (by decide), up_o (by decide), up_s, up_o (by decide), up_o (by decide), up_o (by decide), up_o (by decide)]
          exact ⟨v0, v1, Or.inr rfl, v3, v4, v5, v6⟩
        have ew : ∀ j, j < 631 → Z 284 j = up (I 284) 2 1 j := fun j hj => by
          by_cases e : j = 2
          · rw [e, w2, up_s]
          · rw [wlo j hj e, up_o e]
        have zI : ∀ p, p ≠ 0 → p < hZ h → p ≠ 1 → p ≠ 3 → p ≠ 4 → ¬ (6 ≤ p ∧ p ≤ 10) → p ≠ 283 → p ≠ 284 → p ≠ 303 → Z p = I p := fun p h0 hp e1 e2 e3 e4 e5 e6 e7 => (zp p e5 e6 e7).trans (jI p h0 hp e1 e2 e3 e4)
        have zL : ∀ p j, hZ h ≤ p → Z p j = rI G p j := fun p j hp => by
          rw [zp p (by omega) (by omega) (by omega)]
          exact jL p j hp
        have k9 : ∀ k, k < n9 + 1 → K 9 k = (stL ls9 k : Int) := fun k hk => by
          cases k with
          | zero => exact k90
          | succ k => exact (a5 k (by omega)).2.2
        have lc : LC Z (Z 284) (hZ h) n9 cs9.1 := by
          refine ⟨(zL _ _ (Nat.le_refl _)).trans GL0, fun k hk => ?_, fun i hi => ?_⟩
          · obtain ⟨b1, b2, b3⟩ := a5 k hk
            obtain ⟨m1, m2, m3, m4⟩ := x3 k hk
            obtain ⟨c1, c2⟩ := GL1 k hk
            have c3 := GL3 k (by omega)
            have c4 := GL3 (k + 1) (by omega)
            have d1 := k9 k (by omega)
            have d2 := k9 (k + 1) (by omega)
            refine ⟨?_, ?_, ?_, ?_⟩
            · rw [zL _ _ (by omega), whi _ (by omega) (by omega), show 632 + 4 * k + 849 = 1481 + 4 * k by omega, m1]
              exact c1.trans b1
            · rw [zL _ _ (by omega), whi _ (by omega) (by omega), show 633 + 4 * k + 849 = 1481 + 4 * k + 1 by omega, m2]
              exact c2.trans b2
            · rw [zL _ _ (by omega), whi _ (by omega) (by omega), show 634 + 4 * k + 849 = 1481 + 4 * k + 2 by omega, m3]
              exact c3.trans d1
            · rw [zL _ _ (by omega), whi _ (by omega) (by omega), show 635 + 4 * k + 849 = 1481 + 4 * k + 3 by omega, m4]
              exact c4.trans d2
          · obtain ⟨m1, m2⟩ := x4.2 i hi
            rw [zL _ _ (by omega), whi _ (by omega) (by omega), whi _ (by omega) (by omega), show 680 + 2 * i + 849 = 1529 + 2 * i by omega, show 681 + 2 * i + 849 = 1529 + 2 * i + 1 by omega, m1, m2]
            exact (GL4 i hi).trans (a6.2 i hi)
        have wl : WL (Z 284) n9 cs9.1 := by
          refine ⟨w631, hn, by omega, fun k hk => ?_⟩
          obtain ⟨m1, m2, m3, m4⟩ := x3 k hk
          obtain ⟨b1, b2, b3, b4, b5⟩ := lI.2 k hk
          rw [whi (632 + 4 * k) (by omega) (by omega), whi (633 + 4 * k) (by omega) (by omega), whi (634 + 4 * k) (by omega) (by omega), whi (635 + 4 * k) (by omega) (by omega), show 632 + 4 * k + 849 = 1481 + 4 * k by omega, show 633 + 4 * k + 849 = 1481 + 4 * k + 1 by omega, show 634 + 4 * k + 849 = 1481 + 4 * k + 2 by omega, show 635 + 4 * k + 849 = 1481 + 4 * k + 3 by omega, m1, m2, m3, m4]
          refine ⟨b1, b2, stL ls9 k, stL ls9 (k + 1), rfl, rfl, b3, b4, ?_⟩
          rw [tF_ty (f := cs9.2) (stL ls9 (k + 1) - stL ls9 k) (fun i hi => ?_)]
          · exact b5
          · obtain ⟨q1, q2⟩ := x4.2 (stL ls9 k + i) (by omega)
            rw [whi _ (by omega) (by omega), whi _ (by omega) (by omega), show 680 + 2 * (stL ls9 k + i) + 849 = 1529 + 2 * (stL ls9 k + i) by omega, show 681 + 2 * (stL ls9 k + i) + 849 = 1529 + 2 * (stL ls9 k + i) + 1 by omega, q1, q2]
        refine ⟨wP G 11 14 (some (hZ h)), Z, ?_, ⟨s2, ⟨?_, W1.cgw ew, ?_⟩, ⟨?_, ?_⟩, ⟨?_, ?_, ?_, fun k hk => ?_⟩, ⟨?_, ?_, fun k hk => ?_, ?_⟩, ?_, ?_, ?_, n0 + 1, ?_⟩, z0, ?_⟩
        · rw [g6, if_neg y0, q_X12_law_12, e_pfI (s2.T 283 rfl), if_neg y0, m_cal s2 (m_t0 s2), if_pos rfl, (BM s2).2.2.2.1, e_stA (s2.T 284 rfl) (by decide) (by decide), show (1480 : Int).toNat = 1480 from rfl, m_law32 s2, eZ]
        · exact CRep.cgw ew W1 (R1.eq fun k hk => zI _ (by omega) (by omega) (by omega) (by omega) (by omega) (by omega) (by omega) (by omega) (by omega))
        · refine Or.inr ⟨w2, n0, n9, cs9.1, ?_, ?_, ?_, ?_, wl⟩
          · rw [← hZ0]
            exact rP_w14
          · rw [← hZ0]
            exact Nat.le_of_eq GZ.symm
          · rw [← hZ0]
            obtain ⟨o1, o2, o3, o4, o5, o6, o7, o8, o9, o10, o11⟩ := GLO
            exact ⟨o1, o2, o3, o4, o5, o6, (rP_w14n (by omega)).trans o7, (rP_w14n (by omega)).trans o8, (rP_w14n (by omega)).trans o9, (rP_w14n (by omega)).trans o10, (rP_w14n (by omega)).trans o11⟩
          · rw [← hZ0]
            exact lc
        · rw [zp 0 (by decide) (by decide) (by decide), j0 6 (by decide), zm 6 (by decide) (by decide) (by decide) (by decide) (by decide)]
          exact r.2.2.1.1
        · rw [zm 6 (by decide) (by decide) (by decide) (by decide) (by decide), zI 285 (by decide) (by omega) (by decide) (by decide) (by decide) (by decide) (by decide) (by decide) (by decide)]
          rcases r.2.2.1.2 with i2 | ⟨i2, i3⟩
          · exact Or.inl i2
          · exact Or.inr ⟨i2, i3.1.eq fun k hk => zI _ (by omega) (by omega) (by omega) (by omega) (by omega) (by omega) (by omega) (by omega) (by omega), i3.2.1, i3.2.2.new T2 (by show hZ h ≤ hZ G; omega) (P2 35 14 (by omega) (Or.inl (by decide))) (fun p j h1 h2 => P2 p j h2 (by omega)) (fun n k hk hb => zI _ (by omega) hb (by omega) (by omega) (by omega) (by omega) (by omega) (by omega) (by omega))⟩
        · rw [zp 0 (by decide) (by decide) (by decide), j09, z7]
        · rw [z7]
          decide
        · rw [zp 0 (by decide) (by decide) (by decide), j0 8 (by decide)]
          exact r.2.2.2.1.2.2.1
        · rw [z7] at hk
          omega
        · rw [zp 1 (by decide) (by decide) (by decide), jK 1 (by decide) (by omega), k2, z9]
        · rw [z9]
          decide
        · rw [zI 289 (by decide) (by omega) (by decide) (by decide) (by decide) (by decide) (by decide) (by decide) (by decide), zI 2 (by decide) (by omega) (by decide) (by decide) (by decide) (by decide) (by decide) (by decide) (by decide)]
          exact tp.2.2.1 k hk
        · rw [zp 1 (by decide) (by decide) (by decide), jK 1 (by decide) (by omega), a3, z14]
        · rw [zm 18 (by decide) (by decide) (by decide) (by decide) (by decide)]
          exact r.2.2.2.2.2.1
        · rw [zm 19 (by decide) (by decide) (by decide) (by decide) (by decide)]
          exact r.2.2.2.2.2.2.1
        · rw [zp 9 (by decide) (by decide) (by decide), jK 9 (by decide) (by omega)]
          exact k90
        · show hZ G = _
          omega
        · exact ⟨by show hC G ≤ _; rw [GC]; show hC h + 6 ≤ hC h + 8; omega, by show hS G ≤ _; have : hS G ≤ hS h + 475 := GSl; omega⟩
      · rw [a1] at x1
        cases x1
  · subst a2
    refine ⟨1, 0, 0, am_ex h, K, ?_, r.ex.1, fun z => absurd z (by decide), fun o => ?_⟩
    · show Cl sc (d + 40) mX11_law [Vr (some 0)] (hI h I) = some (.inr 1, hI (am_ex h) K)
      rw [q_X11_law_0, e_gfP (s.T 0 rfl) (s.P 2 rfl), e_rcv (s.T 6 rfl), k4, e_clI, if_pos rfl]
      rfl
    · have s2 := r.ex.1
      obtain ⟨y, Q, ⟨g1, g2, g3, g4, g5⟩, g6⟩ := mod (am_ex h) (am_u2 K 303 0 o) s2 (by rw [u2_o (by decide)]; exact kI 283 (by decide) (by decide) (by decide) (by omega)) (by rw [u2_o (by decide)]; exact kI 284 (by decide) (by decide) (by decide) (by omega)) (by rw [u2_o (by decide)]; exact kI 289 (by decide) (by decide) (by decide) (by omega))
      rcases g5 with ⟨n9, ls9, cs9, x1, -⟩ | ⟨x1, x2, x3⟩
      · rw [a1] at x1
        cases x1
      · subst x2
        have r8 := r.ex.w84 (v := Q 284) (fun j hj => g2 j (by omega))
        have zp : ∀ p, p ≠ 283 → am_u2 (am_u2 Q 283 14 (Q 283 12)) 283 0 1 p = Q p := fun p hp => by rw [u2_o hp, u2_o hp]
        have z9 : am_u2 (am_u2 Q 283 14 (Q 283 12)) 283 0 1 283 9 = 0 := by
          rw [u2_j (by decide), u2_j (by decide)]
          exact g4
        have z14 : am_u2 (am_u2 Q 283 14 (Q 283 12)) 283 0 1 283 14 = K 1 2 := by
          rw [u2_j (by decide), u2_same]
          exact x3.trans a3.symm
        refine ⟨am_ex h, am_u2 (am_u2 Q 283 14 (Q 283 12)) 283 0 1, ?_, r8.tap (fun p j hp hs => ?_) ⟨?_, ?_, fun k hk => ?_, ?_⟩, u2_same, Bd.ex h⟩
        · rw [g6, if_pos n1, e_gfI (s2.T 283 rfl), q_X12_law_12, e_pfI (s2.T 283 rfl), if_pos n1, m_cal s2 (m_t1 s2), if_neg ne1]
        · by_cases e4 : p = 284
          · rw [e4, zp 284 (by decide), sr_q]
          · rw [sr_ne e4]
            unfold tpk at hp
            by_cases e3 : p = 283
            · rw [e3] at hp hs ⊢
              rw [u2_j (fun z => hs (by unfold scr; omega)), u2_j (by omega), g1 283 j (fun z => hs (by unfold scr; omega)) (by decide), u2_a (by decide), kI 283 (by decide) (by decide) (by decide) (by omega)]
            · rw [zp p e3, g1 p j (by omega) e4, u2_a (fun z => hs (by unfold scr; omega)), k1 p j (by omega) (fun z => hs (by unfold scr; omega)) (fun z => hs (by unfold scr; omega)) (fun z => hs (by unfold scr; omega)) (fun z => hs (by unfold scr; omega)) (fun z => hs (by unfold scr; omega)) (fun z => hs (by unfold scr; omega)) (fun z => hs (by unfold scr; omega))]
        · rw [zp 1 (by decide), g1 1 1 (by omega) (by decide), u2_a (by decide), k2, z9]
        · rw [z9]
          decide
        · rw [zp 289 (by decide), zp 2 (by decide), g1 289 k (by omega) (by decide), g1 2 k (by omega) (by decide), u2_a (by decide), u2_a (by decide), kI 289 (by decide) (by decide) (by decide) (by omega), kI 2 (by decide) (by decide) (by decide) (by omega)]
          exact tp.2.2.1 k hk
        · rw [zp 1 (by decide), g1 1 2 (by omega) (by decide), u2_a (by decide), z14]
end
