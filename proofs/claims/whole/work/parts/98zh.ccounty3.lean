/-! A COUNTY'S TEXT: the class's rows, families, lines -/
theorem up_up {w : am_Wd} {k : Nat} {x y : Int} : up (up w k x) k y = up w k y := by
  funext j
  unfold up
  split <;> rfl
section
variable {sc : Nat × (Nat → Int)} {d : Nat} {h : am_H} {I J K : am_I} {A : Nat → Int} {L N q b f : Nat} {w v : am_Wd} {ag hi ga st x : Int} {r : Nat × Option am_Wd}
theorem ar_c1 {y n : Nat} (hy : y ≤ 4) (hn : n ≤ 6) : w32 (30 + w32 (6 * (y : Int))) = ((30 + 6 * y : Nat) : Int) ∧ w32 (((30 + 6 * y : Nat) : Int) + (n : Int)) = ((30 + 6 * y + n : Nat) : Int) ∧ w32 ((n : Int) + 1) = ((n + 1 : Nat) : Int) := by
  rw [w32_id (z := 6 * (y : Int)) (by omega) (by omega), w32_id (z := 30 + 6 * (y : Int)) (by omega) (by omega), w32_id (z := ((30 + 6 * y : Nat) : Int) + (n : Int)) (by omega) (by omega), w32_id (by omega) (by omega)]
  omega
theorem c_ro34 (s : Sh h) (V : WW w) {y : Nat} (hy : y ≤ 4) (h2 : 0 ≤ hi ∧ hi ≤ 999) : ∀ m n (J : am_I), n + m = 6 → CQ A L N J q → J 1 6 = hi → CRep J 23 (roW w y hi n) → ∃ K, (Cg 23 J K ∧ CRep K 23 (roW w y hi 6)) ∧ Ru sc (d + 2) mX1_readsRow 34 [Vr (some 5), Vr (some 23), Vi ((30 + 6 * y : Nat) : Int), Vi (n : Int)] [] (hI h J) = some (.inl (Vi 1), hI h K)
  | 0, n, J, hn, k, e6, R => by
    have : n = 6 := by omega
    subst this
    refine ⟨J, ⟨Cg.rf 23 J, R⟩, ?_⟩
    rw [q_X1_readsRow_34, if_neg (by decide)]
  | m + 1, n, J, hn, k, e6, R => by
    have l1 : (n : Int) < 6 := by omega
    have hb : 30 + 6 * y + n < 60 := by omega
    obtain ⟨K1, c1, c2, c3⟩ := c_put (sc := sc) (d := d) (cty_of s isC_23) R (roW_ok V hy h2 n (by omega)).1 hb (hi := hi)
    obtain ⟨K, ⟨g1, g2⟩, g3⟩ := c_ro34 s V hy h2 m (n + 1) K1 (by omega) (k.cg c1) ((congrFun (c1 1 (by decide) (by decide)) 6).trans e6) c2
    refine ⟨K, ⟨c1.tr g1, g2⟩, ?_⟩
    obtain ⟨-, w2, w3⟩ := ar_c1 hy (show n ≤ 6 by omega)
    rw [q_X1_readsRow_34, if_pos l1, c_tak s, e6, e_rcv (s.T 23 rfl), w2, c3, e_clV, w3]
    exact g3
theorem c_readsRo (s : Sh h) (k : CQ A L N J q) (V : WW w) (R : CRep J 23 w) : ∃ y K, Rz A L N J K y (rdRow A L q w) ∧ Cl sc (d + 4) mX1_readsRow [Vr (some 5), Vr (some 23)] (hI h J) = some (.inl (Vi y), hI h K) := by
  have ne1 : ¬ (1 : Int) = 0 := by decide
  unfold rdRow
  rcases c_takesN (sc := sc) (d := d + 2) s k (m := 4) with ⟨e1, K1, a1, a2, a3, a4⟩ | ⟨e1, a4⟩
  · rw [if_pos e1]
    obtain ⟨y, hy⟩ : ∃ y : Nat, thT A L q = (y : Int) := ⟨(thT A L q).toNat, by omega⟩
    have hy4 : y ≤ 4 := by omega
    rw [hy, Int.toNat_natCast]
    rw [hy] at a3
    rcases c_takes (sc := sc) (d := d + 2) s a2 (c := -19) (by decide) with ⟨e2, K2, b1, b2, b3⟩ | ⟨e2, b3⟩
    · rw [if_pos e2]
      rcases c_takesN (sc := sc) (d := d + 2) s b2 (m := 999) with ⟨e3, K3, c1, c2, c3, c4⟩ | ⟨e3, c4⟩
      · rw [if_pos e3]
        obtain ⟨K, ⟨g1, g2⟩, g3⟩ := c_ro34 (sc := sc) (d := d + 2) s V hy4 e3 6 0 K3 rfl c2 c3 (((R.fx a1).fx b1).fx c1)
        refine ⟨1, K, Rz.ok (((a1.z.tr b1.z).tr c1.z).tr g1.z) (g1.e2.trans (c1.e2.trans (b1.e2.trans a1.e2))) (c2.cg g1) g2, ?_⟩
        obtain ⟨w1, -, -⟩ := ar_c1 hy4 (Nat.zero_le 6)
        rw [q_X1_readsRow_0, c_on s a4, if_neg ne1, c_tak s, a3, c_on s b3, if_neg ne1, c_on s c4, if_neg ne1, w1]
        exact g3
      · rw [if_neg e3]
        refine ⟨0, _, Rz.no (a1.z.tr b1.z), ?_⟩
        rw [q_X1_readsRow_0, c_on s a4, if_neg ne1, c_tak s, c_on s b3, if_neg ne1, c_on s c4, if_pos rfl]
        exact c_ref s b2
    · rw [if_neg e2]
      refine ⟨0, _, Rz.no a1.z, ?_⟩
      rw [q_X1_readsRow_0, c_on s a4, if_neg ne1, c_tak s, c_on s b3, if_pos rfl]
      exact c_ref s a2
  · rw [if_neg e1]
    refine ⟨0, _, Rz.no (Fz.rf J), ?_⟩
    rw [q_X1_readsRow_0, c_on s a4, if_pos rfl]
    exact c_ref s k
theorem fam5_R (R : CRep J 23 w) (V : WW w) {x : Int} : CRep (am_u2 J 23 5 x) 23 (up w 0 x) := by
  refine R.chS V (fun k h1 h2 => u2_o (by omega)) (fun j hj => up_o (by omega)) ?_
  obtain ⟨r0, r1, r2, r3, r4⟩ := R.sr
  unfold SR
  rw [u2_same, u2_j (by decide), u2_j (by decide), u2_j (by decide), u2_j (by decide), up_s, up_o (by decide), up_o (by decide), up_o (by decide), up_o (by decide)]
  exact ⟨rfl, r1, r2, r3, r4⟩
theorem ar_c2 {f : Nat} (hf : f < 6) : w32 ((f : Int) + 1) = (f : Int) + 1 := w32_id (by omega) (by omega)
theorem c_faEnd (s : Sh h) (k : CQ A L N J q) (hf : f < 6) {y : am_Wd} (V : WW y) (e0 : y 0 = (f : Int)) (R : CRep J 23 y) : ∃ K, (Cg 23 J K ∧ CQ A L N K q ∧ CRep K 23 (up (up y (307 + 4 * f + 3) 0) 0 (y 0 + 1))) ∧ (gfP 0 9 (hI h J) (some 23) fun p => stA 1 (hI h J) p (f : Int) 0 fun h34 => pfI 0 0 5 h34 (some 23) (w32 ((f : Int) + 1)) fun h35 => (some (.inl (Vi 1), h35) : am_R)) = some (.inl (Vi 1), hI h K) := by
  have hf6 : (f : Int) < 6 := by omega
  have c1 : Cg 23 J (am_u2 J 32 f 0) := Cg.u (by decide) (by decide)
  have R1 : CRep (am_u2 J 32 f 0) 23 (up y (307 + 4 * f + 3) 0) := upM_R (k := 3) (y := 0) R V hf (by decide)
  have V1 : WW (up y (307 + 4 * f + 3) 0) := upM_w (k := 3) (y := 0) V hf (by decide) ⟨fun z => absurd z (by decide), fun z => absurd z (by decide), fun z => absurd z (by decide), fun _ => by decide⟩
  have R2 := fam5_R (x := y 0 + 1) R1 V1
  have c2 : Cg 23 (am_u2 J 32 f 0) (am_u2 (am_u2 J 32 f 0) 23 5 (y 0 + 1)) := Cg.u (by decide) (by decide)
  refine ⟨_, ⟨c1.tr c2, (k.cg c1).cg c2, R2⟩, ?_⟩
  rw [e_gfP (s.T 23 rfl) (s.P 39 rfl), e_stA (s.T 32 rfl) (Int.natCast_nonneg f) hf6, Int.toNat_natCast, e_pfI (s.T 23 rfl), ar_c2 hf, e0]
theorem c_readsFa (s : Sh h) (k : CQ A L N J q) (V : WW w) (hw : w 0 < 6) (R : CRep J 23 w) : ∃ y K, Rz A L N J K y (rdFamily A L q w) ∧ Cl sc (d + 4) mX1_readsFamily [Vr (some 5), Vr (some 23)] (hI h J) = some (.inl (Vi y), hI h K) := by
  have ne1 : ¬ (1 : Int) = 0 := by decide
  have hF := V.fa
  have e5 := R.fa
  obtain ⟨f, hfw⟩ : ∃ f : Nat, w 0 = (f : Int) := ⟨(w 0).toNat, by omega⟩
  have hf : f < 6 := by omega
  have hf6 : (f : Int) < 6 := by omega
  rw [hfw] at e5
  unfold rdFamily
  rcases c_takes (sc := sc) (d := d + 2) s k (c := -10) (by decide) with ⟨e1, K1, a1, a2, a3⟩ | ⟨e1, a3⟩
  · rw [if_pos e1]
    rcases c_takesN (sc := sc) (d := d + 2) s a2 (m := 35) with ⟨e2, K2, b1, b2, b3, b4⟩ | ⟨e2, b4⟩
    · rw [if_pos e2]
      have R2 : CRep (am_u2 K2 29 f (thT A L (nxT A L q))) 23 (up w (307 + 4 * f) (thT A L (nxT A L q))) := upM_R (k := 0) (y := thT A L (nxT A L q)) ((R.fx a1).fx b1) V hf (by decide)
      have V2 : WW (up w (307 + 4 * f) (thT A L (nxT A L q))) := upM_w (k := 0) V hf (by decide) ⟨fun _ => by omega, fun z => absurd z (by decide), fun z => absurd z (by decide), fun z => absurd z (by decide)⟩
      have c2 : Cg 23 K2 (am_u2 K2 29 f (thT A L (nxT A L q))) := Cg.u (by decide) (by decide)
      have k2 := b2.cg c2
      have f2 := (a1.z.tr b1.z).tr c2.z
      have g2 := c2.e2.trans (b1.e2.trans a1.e2)
      rcases c_takes (sc := sc) (d := d + 2) s k2 (c := -11) (by decide) with ⟨e3, K3, i1, i2, i3⟩ | ⟨e3, i3⟩
      · rw [if_pos e3]
        rcases c_takesN (sc := sc) (d := d + 2) s i2 (m := 999) with ⟨e4, K4, j1, j2, j3, j4⟩ | ⟨e4, j4⟩
        · rw [if_pos e4]
          have R4 : CRep (am_u2 K4 30 f (thT A L (nxT A L (nxT A L (nxT A L q))))) 23 (up (up w (307 + 4 * f) (thT A L (nxT A L q))) (307 + 4 * f + 1) (thT A L (nxT A L (nxT A L (nxT A L q))))) := upM_R (k := 1) ((R2.fx i1).fx j1) V2 hf (by decide)
          have V4 : WW (up (up w (307 + 4 * f) (thT A L (nxT A L q))) (307 + 4 * f + 1) (thT A L (nxT A L (nxT A L (nxT A L q))))) := upM_w (k := 1) V2 hf (by decide) ⟨fun z => absurd z (by decide), fun _ => e4, fun z => absurd z (by decide), fun z => absurd z (by decide)⟩
          have c4 : Cg 23 K4 (am_u2 K4 30 f (thT A L (nxT A L (nxT A L (nxT A L q))))) := Cg.u (by decide) (by decide)
          have e40 : up (up w (307 + 4 * f) (thT A L (nxT A L q))) (307 + 4 * f + 1) (thT A L (nxT A L (nxT A L (nxT A L q)))) 0 = (f : Int) := by
            rw [up_o (by omega), up_o (by omega)]
            exact hfw
          have ef : ∀ ey, faW w (thT A L (nxT A L q)) (thT A L (nxT A L (nxT A L (nxT A L q)))) ey = up (up (up (up (up w (307 + 4 * f) (thT A L (nxT A L q))) (307 + 4 * f + 1) (thT A L (nxT A L (nxT A L (nxT A L q))))) (307 + 4 * f + 2) ey) (307 + 4 * f + 3) 0) 0 ((f : Int) + 1) := fun ey => by
            unfold faW
            rw [hfw, Int.toNat_natCast]
          generalize up (up w (307 + 4 * f) (thT A L (nxT A L q))) (307 + 4 * f + 1) (thT A L (nxT A L (nxT A L (nxT A L q)))) = w4 at R4 V4 e40 ef
          have R5 : CRep (am_u2 (am_u2 K4 30 f (thT A L (nxT A L (nxT A L (nxT A L q))))) 31 f 60) 23 (up w4 (307 + 4 * f + 2) 60) := upM_R (k := 2) R4 V4 hf (by decide)
          have V5 : ∀ {ey : Int}, 0 ≤ ey ∧ ey ≤ 999 → WW (up w4 (307 + 4 * f + 2) ey) := fun {ey} hey => upM_w (k := 2) V4 hf (by decide) ⟨fun z => absurd z (by decide), fun z => absurd z (by decide), fun _ => hey, fun z => absurd z (by decide)⟩
          have c5 : Cg 23 (am_u2 K4 30 f (thT A L (nxT A L (nxT A L (nxT A L q))))) (am_u2 (am_u2 K4 30 f (thT A L (nxT A L (nxT A L (nxT A L q))))) 31 f 60) := Cg.u (by decide) (by decide)
          have k5 := (j2.cg c4).cg c5
          have f5 := f2.tr (((i1.z.tr j1.z).tr c4.z).tr c5.z)
          have g5 := (c5.e2.trans (c4.e2.trans (j1.e2.trans i1.e2))).trans g2
          have e50 : ∀ ey, up w4 (307 + 4 * f + 2) ey 0 = (f : Int) := fun ey => (up_o (by omega)).trans e40
          rcases c_takes (sc := sc) (d := d + 2) s k5 (c := -12) (by decide) with ⟨e6, K6, l1, l2, l3⟩ | ⟨e6, l3⟩
          · rcases c_takesN (sc := sc) (d := d + 2) s l2 (m := 999) with ⟨e7, K7, m1, m2, m3, m4⟩ | ⟨e7, m4⟩
            · have eo : opR A L (-12) (nxT A L (nxT A L (nxT A L (nxT A L q)))) 60 = (nxT A L (nxT A L (nxT A L (nxT A L (nxT A L (nxT A L q))))), some (thT A L (nxT A L (nxT A L (nxT A L (nxT A L (nxT A L q)))))) ) := by
                unfold opR
                rw [if_pos e6, if_pos e7]
              rw [eo]
              have c7 : Cg 23 K7 (am_u2 K7 31 f (thT A L (nxT A L (nxT A L (nxT A L (nxT A L (nxT A L q))))))) := Cg.u (by decide) (by decide)
              have R7 : CRep (am_u2 K7 31 f (thT A L (nxT A L (nxT A L (nxT A L (nxT A L (nxT A L q))))))) 23 (up (up w4 (307 + 4 * f + 2) 60) (307 + 4 * f + 2) (thT A L (nxT A L (nxT A L (nxT A L (nxT A L (nxT A L q))))))) := upM_R (k := 2) ((R5.fx l1).fx m1) (V5 (by decide)) hf (by decide)
              rw [up_up] at R7
              obtain ⟨K, ⟨z1, z2, z3⟩, z4⟩ := c_faEnd s (m2.cg c7) hf (V5 e7) (e50 _) R7
              rw [e50, ← ef] at z3
              refine ⟨1, K, Rz.ok (f5.tr (((l1.z.tr m1.z).tr c7.z).tr z1.z)) ((z1.e2.trans (c7.e2.trans (m1.e2.trans l1.e2))).trans g5) z2 z3, ?_⟩
              rw [q_X1_readsFamily_0, e_gfI (s.T 23 rfl), (R.fa), hfw, c_on s a3, if_neg ne1, c_on s b4, if_neg ne1, e_gfP (s.T 23 rfl) (s.P 36 rfl), c_tak s, e_stA (s.T 29 rfl) (Int.natCast_nonneg f) hf6, Int.toNat_natCast, b3, c_on s i3, if_neg ne1, c_on s j4, if_neg ne1, e_gfP (s.T 23 rfl) (s.P 37 rfl), c_tak s, e_stA (s.T 30 rfl) (Int.natCast_nonneg f) hf6, Int.toNat_natCast, j3, e_gfP (s.T 23 rfl) (s.P 38 rfl), e_stA (s.T 31 rfl) (Int.natCast_nonneg f) hf6, Int.toNat_natCast, c_on s l3, if_neg ne1, c_on s m4, if_neg ne1, e_gfP (s.T 23 rfl) (s.P 38 rfl), c_tak s, e_stA (s.T 31 rfl) (Int.natCast_nonneg f) hf6, Int.toNat_natCast, m3]
              exact z4
            · have eo : opR A L (-12) (nxT A L (nxT A L (nxT A L (nxT A L q)))) 60 = (nxT A L (nxT A L (nxT A L (nxT A L (nxT A L q)))), none) := by
                unfold opR
                rw [if_pos e6, if_neg e7]
              rw [eo]
              refine ⟨0, _, Rz.no (f5.tr l1.z), ?_⟩
              rw [q_X1_readsFamily_0, e_gfI (s.T 23 rfl), (R.fa), hfw, c_on s a3, if_neg ne1, c_on s b4, if_neg ne1, e_gfP (s.T 23 rfl) (s.P 36 rfl), c_tak s, e_stA (s.T 29 rfl) (Int.natCast_nonneg f) hf6, Int.toNat_natCast, b3, c_on s i3, if_neg ne1, c_on s j4, if_neg ne1, e_gfP (s.T 23 rfl) (s.P 37 rfl), c_tak s, e_stA (s.T 30 rfl) (Int.natCast_nonneg f) hf6, Int.toNat_natCast, j3, e_gfP (s.T 23 rfl) (s.P 38 rfl), e_stA (s.T 31 rfl) (Int.natCast_nonneg f) hf6, Int.toNat_natCast, c_on s l3, if_neg ne1, c_on s m4, if_pos rfl]
              exact c_ref s l2
          · have eo : opR A L (-12) (nxT A L (nxT A L (nxT A L (nxT A L q)))) 60 = (nxT A L (nxT A L (nxT A L (nxT A L q))), some 60) := by
              unfold opR
              rw [if_neg e6]
            rw [eo]
            obtain ⟨K, ⟨z1, z2, z3⟩, z4⟩ := c_faEnd s k5 hf (V5 (by decide)) (e50 60) R5
            rw [e50, ← ef] at z3
            refine ⟨1, K, Rz.ok (f5.tr z1.z) (z1.e2.trans g5) z2 z3, ?_⟩
            rw [q_X1_readsFamily_0, e_gfI (s.T 23 rfl), (R.fa), hfw, c_on s a3, if_neg ne1, c_on s b4, if_neg ne1, e_gfP (s.T 23 rfl) (s.P 36 rfl), c_tak s, e_stA (s.T 29 rfl) (Int.natCast_nonneg f) hf6, Int.toNat_natCast, b3, c_on s i3, if_neg ne1, c_on s j4, if_neg ne1, e_gfP (s.T 23 rfl) (s.P 37 rfl), c_tak s, e_stA (s.T 30 rfl) (Int.natCast_nonneg f) hf6, Int.toNat_natCast, j3, e_gfP (s.T 23 rfl) (s.P 38 rfl), e_stA (s.T 31 rfl) (Int.natCast_nonneg f) hf6, Int.toNat_natCast, c_on s l3, if_pos rfl]
            exact z4
        · rw [if_neg e4]
          refine ⟨0, _, Rz.no (f2.tr i1.z), ?_⟩
          rw [q_X1_readsFamily_0, e_gfI (s.T 23 rfl), (R.fa), hfw, c_on s a3, if_neg ne1, c_on s b4, if_neg ne1, e_gfP (s.T 23 rfl) (s.P 36 rfl), c_tak s, e_stA (s.T 29 rfl) (Int.natCast_nonneg f) hf6, Int.toNat_natCast, b3, c_on s i3, if_neg ne1, c_on s j4, if_pos rfl]
          exact c_ref s i2
      · rw [if_neg e3]
        refine ⟨0, _, Rz.no f2, ?_⟩
        rw [q_X1_readsFamily_0, e_gfI (s.T 23 rfl), (R.fa), hfw, c_on s a3, if_neg ne1, c_on s b4, if_neg ne1, e_gfP (s.T 23 rfl) (s.P 36 rfl), c_tak s, e_stA (s.T 29 rfl) (Int.natCast_nonneg f) hf6, Int.toNat_natCast, b3, c_on s i3, if_pos rfl]
        exact c_ref s k2
    · rw [if_neg e2]
      refine ⟨0, _, Rz.no a1.z, ?_⟩
      rw [q_X1_readsFamily_0, e_gfI (s.T 23 rfl), c_on s a3, if_neg ne1, c_on s b4, if_pos rfl]
      exact c_ref s a2
  · rw [if_neg e1]
    refine ⟨0, _, Rz.no (Fz.rf J), ?_⟩
    rw [q_X1_readsFamily_0, e_gfI (s.T 23 rfl), c_on s a3, if_pos rfl]
    exact c_ref s k
theorem qu_R (R : CRep J 23 w) (V : WW w) {x : Int} : CRep (am_u2 J 23 11 x) 23 (up w 4 x) := by
  refine R.chS V (fun k h1 h2 => u2_o (by omega)) (fun j hj => up_o (by omega)) ?_
  obtain ⟨r0, r1, r2, r3, r4⟩ := R.sr
  unfold SR
  rw [u2_same, u2_j (by decide), u2_j (by decide), u2_j (by decide), u2_j (by decide), up_s, up_o (by decide), up_o (by decide), up_o (by decide), up_o (by decide)]
  exact ⟨r0, r1, rfl, r3, r4⟩
theorem ye_R (R : CRep J 23 w) (V : WW w) {x : Int} : CRep (am_u2 J 23 10 x) 23 (up w 3 x) := by
  refine R.chS V (fun k h1 h2 => u2_o (by omega)) (fun j hj => up_o (by omega)) ?_
  obtain ⟨r0, r1, r2, r3, r4⟩ := R.sr
  unfold SR
  rw [u2_same, u2_j (by decide), u2_j (by decide), u2_j (by decide), u2_j (by decide), up_s, up_o (by decide), up_o (by decide), up_o (by decide), up_o (by decide)]
  exact ⟨r0, rfl, r2, r3, r4⟩
theorem c_li31 (s : Sh h) (k : CQ A L N J q) (V : WW w) (R : CRep J 23 w) : ∃ y K, Rz A L N J K y (if thT A L q = -9 then rdNum A L (nxT A L q) w 100 4 else if thT A L q = -22 then rdNum A L (nxT A L q) w 999 3 else (q, none)) ∧ Ru sc (d + 4) mX1_readsLine 31 [Vr (some 5), Vr (some 23)] [] (hI h J) = some (.inl (Vi y), hI h K) := by
  have ne1 : ¬ (1 : Int) = 0 := by decide
  unfold rdNum
  rcases c_takes (sc := sc) (d := d + 2) s k (c := -9) (by decide) with ⟨e1, K1, a1, a2, a3⟩ | ⟨e1, a3⟩
  · rw [if_pos e1]
    rcases c_takesN (sc := sc) (d := d + 2) s a2 (m := 100) with ⟨e2, K2, b1, b2, b3, b4⟩ | ⟨e2, b4⟩
    · rw [if_pos e2]
      have c1 : Cg 23 K2 (am_u2 K2 23 11 (thT A L (nxT A L q))) := Cg.u (by decide) (by decide)
      refine ⟨1, _, Rz.ok ((a1.z.tr b1.z).tr c1.z) (c1.e2.trans (b1.e2.trans a1.e2)) (b2.cg c1) (qu_R ((R.fx a1).fx b1) V), ?_⟩
      rw [q_X1_readsLine_31, c_on s a3, if_neg ne1, c_on s b4, if_neg ne1, c_tak s, e_pfI (s.T 23 rfl), b3]
    · rw [if_neg e2]
      refine ⟨0, _, Rz.no a1.z, ?_⟩
      rw [q_X1_readsLine_31, c_on s a3, if_neg ne1, c_on s b4, if_pos rfl]
      exact c_ref s a2
  · rw [if_neg e1]
    rcases c_takes (sc := sc) (d := d + 2) s k (c := -22) (by decide) with ⟨e3, K1, a1, a2, a5⟩ | ⟨e3, a5⟩
    · rw [if_pos e3]
      rcases c_takesN (sc := sc) (d := d + 2) s a2 (m := 999) with ⟨e2, K2, b1, b2, b3, b4⟩ | ⟨e2, b4⟩
      · rw [if_pos e2]
        have c1 : Cg 23 K2 (am_u2 K2 23 10 (thT A L (nxT A L q))) := Cg.u (by decide) (by decide)
        refine ⟨1, _, Rz.ok ((a1.z.tr b1.z).tr c1.z) (c1.e2.trans (b1.e2.trans a1.e2)) (b2.cg c1) (ye_R ((R.fx a1).fx b1) V), ?_⟩
        rw [q_X1_readsLine_31, c_on s a3, if_pos rfl, c_on s a5, if_neg ne1, c_on s b4, if_neg ne1, c_tak s, e_pfI (s.T 23 rfl), b3]
      · rw [if_neg e2]
        refine ⟨0, _, Rz.no a1.z, ?_⟩
        rw [q_X1_readsLine_31, c_on s a3, if_pos rfl, c_on s a5, if_neg ne1, c_on s b4, if_pos rfl]
        exact c_ref s a2
    · rw [if_neg e3]
      refine ⟨0, _, Rz.no (Fz.rf J), ?_⟩
      rw [q_X1_readsLine_31, c_on s a3, if_pos rfl, c_on s a5, if_pos rfl]
      exact c_ref s k
theorem c_readsLi (s : Sh h) (k : CQ A L N J q) (V : WW w) (R : CRep J 23 w) : ∃ y K, Rz A L N J K y (rdLine A L q w) ∧ Cl sc (d + 5) mX1_readsLine [Vr (some 5), Vr (some 23)] (hI h J) = some (.inl (Vi y), hI h K) := by
  have ne1 : ¬ (1 : Int) = 0 := by decide
  unfold rdLine
  rcases c_takes (sc := sc) (d := d + 3) s k (c := -6) (by decide) with ⟨e1, K1, a1, a2, a3⟩ | ⟨e1, a3⟩
  · rw [if_pos e1]
    obtain ⟨y, K, z1, z2⟩ := c_readsFe (sc := sc) (d := d) s a2 V (R.fx a1)
    refine ⟨y, K, z1.pre a1.z a1.e2, ?_⟩
    rw [q_X1_readsLine_0, c_on s a3, if_neg ne1, (BR s).1, z2, e_clI, e_ret1 z1.v01]
  · rw [if_neg e1]
    rcases c_takes (sc := sc) (d := d + 3) s k (c := -7) (by decide) with ⟨e2, K1, a1, a2, a4⟩ | ⟨e2, a4⟩
    · rw [if_pos e2]
      obtain ⟨y, K, z1, z2⟩ := c_readsRo (sc := sc) (d := d) s a2 V (R.fx a1)
      refine ⟨y, K, z1.pre a1.z a1.e2, ?_⟩
      rw [q_X1_readsLine_0, c_on s a3, if_pos rfl, c_on s a4, if_neg ne1, (BR s).1, z2, e_clI, e_ret1 z1.v01]
    · rw [if_neg e2]
      have ef := R.fa
      by_cases hw : w 0 < 6
      · rcases c_takes (sc := sc) (d := d + 3) s k (c := -8) (by decide) with ⟨e3, K1, a1, a2, a5⟩ | ⟨e3, a5⟩
        · rw [if_pos ⟨e3, hw⟩]
          obtain ⟨y, K, z1, z2⟩ := c_readsFa (sc := sc) (d := d) s a2 V hw (R.fx a1)
          refine ⟨y, K, z1.pre a1.z a1.e2, ?_⟩
          rw [q_X1_readsLine_0, c_on s a3, if_pos rfl, c_on s a4, if_pos rfl, e_gfI (s.T 23 rfl), ef, if_pos hw, c_on s a5, if_neg ne1, (BR s).1, z2, e_clI, e_ret1 z1.v01]
        · rw [if_neg (fun z => e3 z.1)]
          obtain ⟨y, K, z1, z2⟩ := c_li31 (sc := sc) (d := d + 1) s k V R
          refine ⟨y, K, z1, ?_⟩
          rw [q_X1_readsLine_0, c_on s a3, if_pos rfl, c_on s a4, if_pos rfl, e_gfI (s.T 23 rfl), ef, if_pos hw, c_on s a5, if_pos rfl]
          exact z2
      · rw [if_neg (fun z => hw z.2)]
        obtain ⟨y, K, z1, z2⟩ := c_li31 (sc := sc) (d := d + 1) s k V R
        refine ⟨y, K, z1, ?_⟩
        rw [q_X1_readsLine_0, c_on s a3, if_pos rfl, c_on s a4, if_pos rfl, e_gfI (s.T 23 rfl), ef, if_neg hw]
        exact z2
theorem c_reads12 (s : Sh h) : ∀ (m n q : Nat) (w : am_Wd) (J : am_I), n + m = 14 → CQ A L N J q → WW w → CRep J 23 w → ∃ y K, Rz A L N J K y (rdLs A L m q w) ∧ Ru sc (d + 6) mX1_reads 12 [Vr (some 5), Vr (some 23), Vi (n : Int)] [] (hI h J) = some (.inl (Vi y), hI h K)
  | 0, n, q, w, J, hn, k, V, R => by
    refine ⟨0, _, Rz.no (Fz.rf J), ?_⟩
    rw [q_X1_reads_12, if_neg (by omega)]
    exact c_ref s k
  | m + 1, n, q, w, J, hn, k, V, R => by
    have ne1 : ¬ (1 : Int) = 0 := by decide
    have l1 : (n : Int) < 14 := by omega
    obtain ⟨y, K, z1, z2⟩ := c_readsLi (sc := sc) (d := d) s k V R
    unfold rdLs
    rcases z1.2 with ⟨w1, y1, y2, y3, y4, y5⟩ | ⟨y1, y2, y3⟩
    · rw [y1]
      dsimp only
      subst y2
      have ia := c_isAtEnd (sc := sc) (d := d + 4) s y4
      by_cases t1 : thT A L (rdLine A L q w).1 = -1
      · rw [if_pos t1] at ia ⊢
        refine ⟨1, K, Rz.ok z1.1 y3 y4 y5, ?_⟩
        rw [q_X1_reads_12, if_pos l1, (BR s).1, z2, e_clI, if_neg ne1, c_on s ia, if_neg ne1]
      · rw [if_neg t1] at ia ⊢
        rcases c_takes (sc := sc) (d := d + 4) s y4 (c := -3) (by decide) with ⟨e1, K1, a1, a2, a3⟩ | ⟨e1, a3⟩
        · rw [if_pos e1]
          have V1 := (rdLine_ok V y1).1
          obtain ⟨x, K2, b1, b2⟩ := c_reads12 s m (n + 1) (nxT A L (rdLine A L q w).1) w1 K1 (by omega) a2 V1 (y5.fx a1)
          refine ⟨x, K2, b1.pre (z1.1.tr a1.z) (a1.e2.trans y3), ?_⟩
          have wn := ar_t1 (q := n) (by omega)
          rw [q_X1_reads_12, if_pos l1, (BR s).1, z2, e_clI, if_neg ne1, c_on s ia, if_pos rfl, c_on s a3, if_neg ne1, wn]
          exact b2
        · rw [if_neg e1]
          refine ⟨0, _, Rz.no z1.1, ?_⟩
          rw [q_X1_reads_12, if_pos l1, (BR s).1, z2, e_clI, if_neg ne1, c_on s ia, if_pos rfl, c_on s a3, if_pos rfl]
          exact c_ref s y4
    · rw [y1]
      dsimp only
      subst y2
      refine ⟨0, K, ⟨z1.1, Or.inr ⟨rfl, rfl, y3⟩⟩, ?_⟩
      rw [q_X1_reads_12, if_pos l1, (BR s).1, z2, e_clI, if_pos rfl]
/-- the class reads a county's text into the draft -/
theorem c_reads (s : Sh h) (hL : L ≤ 400) (e1 : I 1 1 = (L : Int)) (V : WW w) (R : CRep I 23 w) : ∃ y K, ((∀ x j, ¬ (x = 1 ∧ (j = 1 ∨ 2 ≤ j)) → x ≠ 3 → x ≠ 4 → ¬ (23 ≤ x ∧ x ≤ 34) → ¬ (304 ≤ x ∧ (x - 304) % 6 = 5) → K x j = I x j) ∧ K 1 1 = 0 ∧ ((∃ w1, (rdCo (I 2) L w).2 = some w1 ∧ y = 1 ∧ K 1 2 = -1 ∧ CRep K 23 w1) ∨ ((rdCo (I 2) L w).2 = none ∧ y = 0 ∧ K 1 2 = ((rdCo (I 2) L w).1 : Int)))) ∧ Cl sc (d + 9) mX1_reads [Vr (some 5), Vr (some 23)] (hI h I) = some (.inl (Vi y), hI h K) := by
  have ne1 : ¬ (1 : Int) = 0 := by decide
  obtain ⟨K1, N, ⟨k1, k2, k3, k4⟩, k5⟩ := c_startTx (sc := sc) (d := d) s hL e1
  have ia := c_isAtEnd (sc := sc) (d := d + 7) s k1
  have R1 : CRep K1 23 w := R.eq (fun k hk => funext fun j => k4 _ j (by omega) (by omega) (by omega))
  unfold rdCo
  by_cases t1 : thT (I 2) L (blk (I 2) L 0) = -1
  · rw [if_pos t1] at ia ⊢
    refine ⟨1, K1, ⟨fun x j h1 h2 h3 h4 h5 => k4 x j (by omega) h2 h3, k2, Or.inl ⟨w, rfl, rfl, k3, R1⟩⟩, ?_⟩
    rw [q_X1_reads_0, (BR s).2, (BT s).1, k5, e_clV, c_on s ia, if_neg ne1]
  · rw [if_neg t1] at ia ⊢
    obtain ⟨y, K, z1, z2⟩ := c_reads12 (sc := sc) (d := d + 3) s 14 0 (blk (I 2) L 0) w K1 rfl k1 V R1
    refine ⟨y, K, ⟨fun x j h1 h2 h3 h4 h5 => (z1.1 x j (by omega) h4 h5).trans (k4 x j (by omega) h2 h3), (z1.1 1 1 (by omega) (by omega) (by omega)).trans k2, ?_⟩, ?_⟩
    · rcases z1.2 with ⟨w1, y1, y2, y3, y4, y5⟩ | y
      · exact Or.inl ⟨w1, y1, y2, y3.trans k3, y5⟩
      · exact Or.inr y
    · rw [q_X1_reads_0, (BR s).2, (BT s).1, k5, e_clV, c_on s ia, if_pos rfl]
      exact z2
end
