/-! PAIRS: the call -/
section
variable {sc : Nat × (Nat → Int)} {d a : Nat} {h : am_H} {I J : am_I} {w : am_Wd}
theorem p_pairs (r : Rel h I) {x : Int} : Pub h I (Cl sc (d + 30) mX11_pairs [Vr (some 0), Vi x]) (Cl sc (d + 30) mX12_pairs [Vr (some 283), Vi x]) cdA := by
  have R := r.R
  have V := r.V
  have hF := V.fa
  have hn : (I 284 0).toNat < 7 := by omega
  have hw : I 284 0 = (((I 284 0).toNat : Nat) : Int) := by omega
  by_cases hx : x = -1 ∨ (0 ≤ x ∧ x < I 284 0)
  · obtain ⟨K, k, ⟨k1, k2, k3, k4, k5, k6, k7⟩, k8⟩ := c_pairUp (sc := sc) (d := d + 21) (I := I) r.1 r.c (by omega) R V
    have k8 : Cl sc (d + 29) mX6_pairUp [Vr (some 124), Vr (some 11)] (hI h I) = some (.inl (Vx 0), hI h K) := k8
    have mm : ∀ h1 J1, Rel h1 J1 → Same I J1 → ∃ K', (Same J1 K' ∧ K' 283 0 = 0 ∧ K' 284 0 = I 284 0 ∧ (∀ S, S < 2 ^ (I 284 0).toNat → K 134 S = K' 301 S) ∧ (∀ f g, f < g → g < (I 284 0).toNat → vpc K f g = vpm K' f g) ∧ (∀ f g, f < g → g < (I 284 0).toNat → vps K' f g = -1 ∨ (96400 ≤ vps K' f g ∧ vps K' f g ≤ 100000)) ∧ WR (2 ^ (I 284 0).toNat) (vpm K') (K' 301)) ∧ Cl sc (d + 29) mX12_laysPairs [Vr (some 283)] (hI h1 (am_u2 J1 283 0 0)) = some (.inl (Vx 0), hI h1 K') := by
      intro h1 J1 r1 e1
      have V2 : WW (am_u2 J1 283 0 0 284) := by rw [w283, e1.w]; exact V
      have e18 : am_u2 J1 283 0 0 283 18 = -1 := by rw [u2_j (by decide)]; exact rel18 r1
      have e19 : am_u2 J1 283 0 0 283 19 = -1 := by rw [u2_j (by decide)]; exact rel19 r1
      obtain ⟨K', ⟨m1, m2, m3⟩, m4⟩ := m_laysPairs (sc := sc) (d := d + 18) (I := am_u2 J1 283 0 0) r1.1 V2 e18 e19
      rw [w283, e1.w] at m2 m3
      have hv : ∀ f g, f < g → g < (I 284 0).toNat → vpc K f g = vpm K' f g := fun f g h1 h2 => VP1.uni V (by omega) (k2 f g h1 h2) (((m2 f g h1 h2).p V (by omega) (by omega)).1)
      refine ⟨K', ⟨?_, ?_, ?_, Wp.uni hn hv k3 m3.p, hv, fun f g h1 h2 => ((m2 f g h1 h2).p V (by omega) (by omega)).2, m3⟩, m4⟩
      · intro p j hp
        have n1 : p ≠ 292 := fun e => hp (by unfold scr; omega)
        have n2 : p ≠ 301 := fun e => hp (by unfold scr; omega)
        have n3 : p ≠ 302 := fun e => hp (by unfold scr; omega)
        rw [m1 p n1 n2 n3]
        by_cases e : p = 283
        · rw [e, u2_j (fun e0 => hp (by unfold scr; omega))]
        · rw [u2_a e]
      · rw [m1 283 (by decide) (by decide) (by decide)]
        exact u2_same
      · rw [m1 284 (by decide) (by decide) (by decide), w283, e1.w]
    have hsh := shl_t (I 284 0).toNat hn
    have hp1 : 1 ≤ 2 ^ (I 284 0).toNat := Nat.one_le_two_pow
    have esh : bShl 1 (I 284 0) = ((2 ^ (I 284 0).toNat : Nat) : Int) := by
      have := hsh.1
      rw [← hw] at this
      exact this
    have w1 : w32 (((2 ^ (I 284 0).toNat : Nat) : Int) - 1) = ((2 ^ (I 284 0).toNat - 1 : Nat) : Int) := by
      rw [show ((2 ^ (I 284 0).toNat : Nat) : Int) - 1 = ((2 ^ (I 284 0).toNat - 1 : Nat) : Int) by omega]
      exact w32_id (by omega) (by omega)
    rcases hx with rfl | hx
    · have pc := c_pairCount (sc := sc) (d := d + 28) (I := K) r.1 k5
      have hk3 := nn_b (p := fun x => decide (K 135 x ≠ -1)) (N := 6)
      rw [k5] at hk3
      refine pubQ (x := 0) (v := (k : Int)) (v' := (k : Int)) r (CO.ok (J := K) ?_ k1.sm) (fun h1 J1 r1 e1 => ?_) (fun _ => rfl)
      · rw [q_X11_pairs_0]
        simp (disch := first | assumption | exact Int.natCast_nonneg _ | decide) only [↓BO r.1, ↓BN r.1, q_X11_pairs_7, k8, pc, e_clI, e_clV, e_clP, e_clIx, e_clVx, e_clPx, e_xt, Int.toNat_natCast, Int.reduceToNat, bz0, bz1, Nat.add_zero, decide_eq_false_iff_not, decide_eq_true_eq, Int.reduceEq, Nat.reduceEqDiff, Int.reduceLT, Int.reduceLE, not_true_eq_false, not_false_eq_true, eq_self, ↓reduceIte]
      · obtain ⟨K', ⟨m1, m2, m3, m4, m5, m6, m7⟩, m8⟩ := mm h1 J1 r1 e1
        refine MO.okJ (J := K') ?_ m1 m2
        have e4 := m4 (2 ^ (I 284 0).toNat - 1) (by omega)
        have hlt : ((2 ^ (I 284 0).toNat - 1 : Nat) : Int) < 64 := by omega
        rw [q_X12_pairs_0]
        simp (disch := first | assumption | exact Int.natCast_nonneg _ | decide) only [↓BM r1.1, m_t0 r1.1, q_X12_pairs_15, m8, m_families r1.1, m3, esh, w1, e_clI, e_clV, e_clP, e_clIx, e_clVx, e_clPx, e_xt, Int.toNat_natCast, Int.reduceToNat, bz0, bz1, Nat.add_zero, decide_eq_false_iff_not, decide_eq_true_eq, Int.reduceEq, Nat.reduceEqDiff, Int.reduceLT, Int.reduceLE, not_true_eq_false, not_false_eq_true, eq_self, ↓reduceIte]
        refine lf ?_
        rw [← e4]
        rw [w32_id (z := K 134 (2 ^ (I 284 0).toNat - 1) + 100000) (by omega) (by omega), w32_id (z := K 134 (2 ^ (I 284 0).toNat - 1) + 100000 - 1) (by omega) (by omega), Int.tdiv_eq_ediv_of_nonneg (by omega), w32_id (by omega) (by omega)]
        omega
    · obtain ⟨f, rfl⟩ : ∃ f : Nat, x = f := ⟨x.toNat, by omega⟩
      have hf : f < (I 284 0).toNat := by omega
      have hne : ¬ (f : Int) = -1 := by omega
      have hf6 : (f : Int) < 6 := by omega
      have htb : tb (2 ^ (I 284 0).toNat - 1) f = true := by
        rw [tb_7 _ hn f (by omega)]
        exact decide_eq_true hf
      refine pubQ (x := 0) (v := K 135 f) (v' := K 135 f) r (CO.ok (J := K) ?_ k1.sm) (fun h1 J1 r1 e1 => ?_) (fun _ => rfl)
      · rw [q_X11_pairs_0]
        simp (disch := first | assumption | exact Int.natCast_nonneg _ | decide) only [↓BO r.1, ↓BN r.1, q_X11_pairs_7, c_nF r.1 r.fa hx, hne, k8, e_clI, e_clV, e_clP, e_clIx, e_clVx, e_clPx, e_xt, Int.toNat_natCast, Int.reduceToNat, bz0, bz1, Nat.add_zero, decide_eq_false_iff_not, decide_eq_true_eq, Int.reduceEq, Nat.reduceEqDiff, Int.reduceLT, Int.reduceLE, not_true_eq_false, not_false_eq_true, eq_self, ↓reduceIte]
      · obtain ⟨K', ⟨m1, m2, m3, m4, m5, m6, m7⟩, m8⟩ := mm h1 J1 r1 e1
        refine MO.okJ (J := K') ?_ m1 m2
        have V2 : WW (am_u2 J1 283 0 0 284) := by rw [w283, e1.w]; exact V
        have hx2 : 0 ≤ (f : Int) ∧ (f : Int) < am_u2 J1 283 0 0 284 0 := by rw [w283, e1.w]; exact hx
        have hin : Cl sc (d + 29) mX12_noFamily [Vr (some 283), Vi (f : Int)] (hI h1 (am_u2 J1 283 0 0)) = some (.inl (Vi 0), hI h1 (am_u2 J1 283 0 0)) := m_nF r1.1 V2 hx2
        have lp := m_pairsLoop (sc := sc) (d := d + 26) (I := K') r1.1 hn (m3.trans hw) m7 m6 hf (2 ^ (I 284 0).toNat - 1) (by omega) htb (-1) (Vx 0) (Vx 0)
        rw [← prF_cg hn m5 m4 (by omega) 64 _ (by omega) htb, ← k4 f hf] at lp
        rw [q_X12_pairs_0]
        simp (disch := first | assumption | exact Int.natCast_nonneg _ | decide) only [↓BM r1.1, hin, hne, m_t0 r1.1, q_X12_pairs_15, m8, m_families r1.1, m3, esh, w1, e_clI, e_clV, e_clP, e_clIx, e_clVx, e_clPx, e_xt, Int.toNat_natCast, Int.reduceToNat, bz0, bz1, Nat.add_zero, decide_eq_false_iff_not, decide_eq_true_eq, Int.reduceEq, Nat.reduceEqDiff, Int.reduceLT, Int.reduceLE, not_true_eq_false, not_false_eq_true, eq_self, ↓reduceIte]
        exact lp
  · have hx1 : ¬ (0 ≤ x ∧ x < I 284 0) := fun e => hx (Or.inr e)
    have hne : ¬ x = -1 := fun e => hx (Or.inl e)
    refine pubQ (x := 3) (v := 0) (v' := 0) r (CO.no (J := I) (by decide) ?_ (Same.rf I)) (fun h1 J1 r1 e1 => ?_) (fun h => absurd h (by decide))
    · rw [q_X11_pairs_0]
      simp (disch := first | assumption | exact Int.natCast_nonneg _ | decide) only [↓BO r.1, c_nFx r.1 r.fa hx1, hne, hI_exI, e_clI, e_clV, e_clP, e_clIx, e_clVx, e_clPx, e_xt, Int.toNat_natCast, Int.reduceToNat, bz0, bz1, Nat.add_zero, decide_eq_false_iff_not, decide_eq_true_eq, Int.reduceEq, Nat.reduceEqDiff, Int.reduceLT, Int.reduceLE, not_true_eq_false, not_false_eq_true, eq_self, ↓reduceIte]
    · refine MO.thr ?_
      have V2 : WW (am_u2 J1 283 0 0 284) := by rw [w283, e1.w]; exact V
      have hx2 : ¬ (0 ≤ x ∧ x < am_u2 J1 283 0 0 284 0) := by rw [w283, e1.w]; exact hx1
      rw [q_X12_pairs_0]
      simp (disch := first | assumption | exact Int.natCast_nonneg _ | decide) only [↓BM r1.1, m_nFx r1.1 V2 hx2, hne, m_t1 r1.1, q_X12_pairs_15, e_clI, e_clV, e_clP, e_clIx, e_clVx, e_clPx, e_xt, Int.toNat_natCast, Int.reduceToNat, bz0, bz1, Nat.add_zero, decide_eq_false_iff_not, decide_eq_true_eq, Int.reduceEq, Nat.reduceEqDiff, Int.reduceLT, Int.reduceLE, not_true_eq_false, not_false_eq_true, eq_self, ↓reduceIte]
      try rfl
end
