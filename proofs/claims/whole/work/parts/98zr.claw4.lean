/-! A LAW'S TEXT: the class's reading -/
theorem laL_g {A : Nat → Int} {L : Nat} : ∀ k i q ls cs, TQ A L q → LnI i ls cs → cs.1 ≤ q → ∀ n ls' cs', (laL A L k i q ls cs).2 = some (n, ls', cs') → n ≤ i + k ∧ LnI n ls' cs' ∧ cs'.1 ≤ L
  | 0, _, _, _, _, _, _, _ => fun _ _ _ z => by cases z
  | k + 1, i, q, ls, cs, t, l, hc => by
    intro n ls' cs' z
    unfold laL at z
    rcases e : rdLL A L q cs with ⟨q1, _ | ⟨x, c⟩⟩
    · rw [e] at z
      cases z
    · rw [e, bnR_so] at z
      obtain ⟨g1, g2, g3, g4, g5, g6, g7⟩ := rdLL_g t e (x := x) (cs' := c) rfl
      have l2 := l.go g4 g5 g6 g7
      have g0 := g2.1
      dsimp only at z g0 g1 g3 g2
      by_cases h1 : thT A L q1 = -1
      · rw [if_pos h1] at z
        cases z
        exact ⟨by omega, l2, by omega⟩
      · rw [if_neg h1] at z
        by_cases h2 : thT A L q1 = -3
        · rw [if_pos h2] at z
          obtain ⟨n1, n2⟩ := nx_b g2 h1
          obtain ⟨a1, a2, a3⟩ := laL_g k (i + 1) _ _ c n2 l2 (by omega) n ls' cs' z
          exact ⟨by omega, a2, a3⟩
        · rw [if_neg h2] at z
          cases z
theorem rdLaw_g {A : Nat → Int} {L : Nat} {n : Nat} {ls : am_Ls} {cs : am_Cs} (z : (rdLaw A L).2 = some (n, ls, cs)) : n ≤ 12 ∧ LnI n ls cs ∧ cs.1 ≤ L := by
  unfold rdLaw at z
  have l0 : LnI 0 (fun _ => ((0, 0), 0)) (0, fun _ => (0, 0)) := ⟨rfl, fun k hk => absurd hk (Nat.not_lt_zero k)⟩
  by_cases h1 : thT A L (blk A L 0) = -1
  · rw [if_pos h1] at z
    cases z
    exact ⟨Nat.zero_le _, l0, Nat.zero_le _⟩
  · rw [if_neg h1] at z
    obtain ⟨a1, a2, a3⟩ := laL_g 12 0 _ _ _ (blk_TQ (Nat.zero_le _)) l0 (Nat.zero_le _) n ls cs z
    exact ⟨by omega, a2, a3⟩
section
variable {A A' : Nat → Int} {L q : Nat} {cs : am_Cs}
theorem suL_cg (t : ∀ q, thT A L q = thT A' L q) (n : ∀ q, nxT A L q = nxT A' L q) : ∀ F fst q cs, suL A L F fst q cs = suL A' L F fst q cs
  | 0, _, _, _ => rfl
  | F + 1, fst, q, cs => by
    unfold suL
    rw [t, n, t, n, suL_cg t n F]
theorem cmR_cg (t : ∀ q, thT A L q = thT A' L q) (n : ∀ q, nxT A L q = nxT A' L q) : cmR A L q cs = cmR A' L q cs := by
  have e : ∀ F fst q cs, suL A L F fst q cs = suL A' L F fst q cs := suL_cg t n
  unfold cmR
  simp only [t, n, e]
theorem leR_cg (t : ∀ q, thT A L q = thT A' L q) (n : ∀ q, nxT A L q = nxT A' L q) : leR A L q cs = leR A' L q cs := by
  unfold leR
  rw [t, n, cmR_cg t n]
theorem cdL_cg (t : ∀ q, thT A L q = thT A' L q) (n : ∀ q, nxT A L q = nxT A' L q) {at_ : Nat → am_Cs → Nat × Option am_Cs} : ∀ F due q cs, cdL A L at_ F due q cs = cdL A' L at_ F due q cs
  | 0, _, _, _ => rfl
  | F + 1, due, q, cs => by
    have e : ∀ due q cs, cdL A L at_ F due q cs = cdL A' L at_ F due q cs := cdL_cg t n F
    unfold cdL
    simp only [t, n, e]
theorem coR_cg (t : ∀ q, thT A L q = thT A' L q) (n : ∀ q, nxT A L q = nxT A' L q) {at_ : Nat → am_Cs → Nat × Option am_Cs} : coR A L at_ q cs = coR A' L at_ q cs := by
  have e : ∀ F due q cs, cdL A L at_ F due q cs = cdL A' L at_ F due q cs := cdL_cg t n
  unfold coR
  simp only [e]
theorem rdA_cg (t : ∀ q, thT A L q = thT A' L q) (n : ∀ q, nxT A L q = nxT A' L q) : ∀ k, rdA A L k = rdA A' L k
  | 0 => funext fun q => funext fun cs => leR_cg t n
  | k + 1 => funext fun q => funext fun cs => by
    have e1 : ∀ (at_ : Nat → am_Cs → Nat × Option am_Cs) q cs, coR A L at_ q cs = coR A' L at_ q cs := fun at_ q cs => coR_cg t n
    have e2 : leR A L q cs = leR A' L q cs := leR_cg t n
    unfold rdA
    simp only [t, n, rdA_cg t n k, e1, e2]
theorem rdLL_cg (t : ∀ q, thT A L q = thT A' L q) (n : ∀ q, nxT A L q = nxT A' L q) : rdLL A L q cs = rdLL A' L q cs := by
  have e1 : ∀ (at_ : Nat → am_Cs → Nat × Option am_Cs) q cs, coR A L at_ q cs = coR A' L at_ q cs := fun at_ q cs => coR_cg t n
  unfold rdLL
  simp only [t, n, rdA_cg t n 6, e1]
theorem laL_cg (t : ∀ q, thT A L q = thT A' L q) (n : ∀ q, nxT A L q = nxT A' L q) : ∀ k i q ls cs, laL A L k i q ls cs = laL A' L k i q ls cs
  | 0, _, _, _, _ => rfl
  | k + 1, i, q, ls, cs => by
    have e : ∀ i q ls cs, laL A L k i q ls cs = laL A' L k i q ls cs := laL_cg t n k
    have e1 : ∀ q cs, rdLL A L q cs = rdLL A' L q cs := fun q cs => rdLL_cg t n
    unfold laL
    simp only [t, n, e, e1]
theorem rdLaw_cg (e : ∀ k, k < L → A k = A' k) : rdLaw A L = rdLaw A' L := by
  unfold rdLaw
  rw [blk_cg e, th_cg e, laL_cg (th_cg e) (nx_cg e)]
end
section
variable {sc : Nat × (Nat → Int)} {d D : Nat} {h : am_H} {I J K : am_I} {A : Nat → Int} {L N q b F : Nat} {cs : am_Cs} {ls : am_Ls} {x y dep : Int}
theorem l_rd18 (s : Sh h) : ∀ m i q ls cs (J : am_I), i + m = 12 → cs.1 ≤ q → CQ A L N J q → CC J cs → LSc J i ls → ∃ y K, (FL J K ∧ ((∃ n ls' cs', (laL A L m i q ls cs).2 = some (n, ls', cs') ∧ y = 1 ∧ K 1 2 = J 1 2 ∧ K 6 5 = (n : Int) ∧ LSc K n ls' ∧ CC K cs') ∨ ((laL A L m i q ls cs).2 = none ∧ y = 0 ∧ K 1 2 = ((laL A L m i q ls cs).1 : Int)))) ∧ Ru sc (d + 19) mX4_reads 18 [Vr (some 6), Vi (i : Int)] [] (hI h J) = some (.inl (Vi y), hI h K)
  | 0, i, q, ls, cs, J, hm, hc, k, R, S => by
    refine ⟨0, _, ⟨Fq.u12.l, Or.inr ⟨rfl, rfl, u2_same⟩⟩, ?_⟩
    rw [q_X4_reads_18, if_neg (by omega)]
    exact l_ref s k
  | m + 1, i, q, ls, cs, J, hm, hc, k, R, S => by
    have ne1 : ¬ (1 : Int) = 0 := by decide
    have hi' : (i : Int) < 12 := by omega
    have hi4 : i ≤ 400 := by omega
    have hi13 : ((i + 1 : Nat) : Int) < 13 := by omega
    obtain ⟨y, K, ⟨z1, z2⟩, z3⟩ := l_ln (sc := sc) (d := d) s k R hc (i := i) (by omega)
    have fl : FL J K := fun x j h1 h2 h3 h4 h5 h6 => z1 x j h1 (fun e => h2 ⟨e.1, Or.inr e.2⟩) h6 (fun e => h3 e.1) (fun e => h4 e.1)
    unfold laL
    rcases e9 : rdLL A L q cs with ⟨q1, _ | ⟨v, c⟩⟩
    · rw [e9] at z2
      rcases z2 with ⟨v, c9, w1, -⟩ | ⟨-, rfl, w3⟩
      · cases w1
      · refine ⟨0, K, ⟨fl, Or.inr ⟨rfl, rfl, w3⟩⟩, ?_⟩
        rw [q_X4_reads_18, if_pos hi', l_me s z3, if_pos rfl]
    · obtain ⟨g1, g2, g3, -⟩ := rdLL_g k.tq e9 (x := v) (cs' := c) rfl
      rw [e9] at z2
      rw [bnR_so]
      dsimp only at g1 g2 g3
      rcases z2 with ⟨v9, c9, w1, rfl, w3, w4, w5, w6, w7⟩ | ⟨w1, -⟩
      · cases w1
        dsimp only at w4
        have hq1 := g2.1
        have e66 : am_u2 K 6 5 ((i + 1 : Nat) : Int) 6 6 = (c.1 : Int) := by rw [u2_j (by decide)]; exact w5.1
        have e65 : am_u2 K 6 5 ((i + 1 : Nat) : Int) 6 5 = ((i + 1 : Nat) : Int) := u2_same
        have k2 : CQ A L N (am_u2 (am_u2 K 6 5 ((i + 1 : Nat) : Int)) 9 (i + 1) (c.1 : Int)) q1 := w4.same (by rw [u2_o (by decide), u2_o (by decide)]) (by rw [u2_o (by decide), u2_o (by decide)]) (by rw [u2_a (by decide), u2_a (by decide)])
        have R2 : CC (am_u2 (am_u2 K 6 5 ((i + 1 : Nat) : Int)) 9 (i + 1) (c.1 : Int)) c := w5.l (by rw [u2_a (by decide), u2_j (by decide)]) (by rw [u2_o (by decide), u2_o (by decide)])
        have f2 : FL J (am_u2 (am_u2 K 6 5 ((i + 1 : Nat) : Int)) 9 (i + 1) (c.1 : Int)) := fun x j h1 h2 h3 h4 h5 h6 => by
          unfold am_u2
          rw [if_neg (fun e => h5 ⟨e.1, by omega⟩), if_neg (fun e => h2 ⟨e.1, Or.inl e.2⟩)]
          exact fl x j h1 h2 h3 h4 h5 h6
        have g12 : am_u2 (am_u2 K 6 5 ((i + 1 : Nat) : Int)) 9 (i + 1) (c.1 : Int) 1 2 = J 1 2 := by
          rw [u2_a (by decide), u2_a (by decide)]
          exact w3
        have S2 : LSc (am_u2 (am_u2 K 6 5 ((i + 1 : Nat) : Int)) 9 (i + 1) (c.1 : Int)) (i + 1) (lsU ls i v c.1) := fun k hk => by
          rw [u2_a (by decide), u2_a (by decide), u2_a (by decide), u2_a (by decide)]
          by_cases ek : k = i
          · subst ek
            have e1 : lsU ls k v c.1 k = (v, c.1) := if_pos rfl
            rw [e1, u2_same]
            exact ⟨w6, w7, rfl⟩
          · have e1 : lsU ls i v c.1 k = ls k := if_neg ek
            obtain ⟨a1, a2, a3⟩ := S k (by omega)
            rw [e1, u2_j (by omega), u2_a (by decide), z1 7 k (by omega) (by omega) (by decide) (by omega) (by omega), z1 8 k (by omega) (by omega) (by decide) (by omega) (by omega), z1 9 (k + 1) (by omega) (by omega) (by decide) (by omega) (by omega)]
            exact ⟨a1, a2, a3⟩
        have e655 : am_u2 (am_u2 K 6 5 ((i + 1 : Nat) : Int)) 9 (i + 1) (c.1 : Int) 6 5 = ((i + 1 : Nat) : Int) := by rw [u2_a (by decide)]; exact e65
        have ia := c_isAtEnd (sc := sc) (d := d + 17) s k2
        by_cases t1 : thT A L q1 = -1
        · rw [if_pos t1] at ia ⊢
          refine ⟨1, _, ⟨f2, Or.inl ⟨i + 1, _, c, rfl, rfl, g12, e655, S2, R2⟩⟩, ?_⟩
          rw [q_X4_reads_18, if_pos hi', l_me s z3, if_neg ne1, ar_t1 hi4, e_pfI (s.T 6 rfl), e_gfP (s.T 6 rfl) (s.P 18 rfl), e_gfI (s.T 6 rfl), e65, e_gfI (s.T 6 rfl), e66, e_stA (s.T 9 rfl) (Int.natCast_nonneg _) hi13, Int.toNat_natCast, l_on s ia, if_neg ne1]
        · rw [if_neg t1] at ia ⊢
          rcases c_takes (sc := sc) (d := d + 17) s k2 (c := -3) (by decide) with ⟨e1, K1, a1, a2, a3⟩ | ⟨e1, a3⟩
          · rw [if_pos e1]
            obtain ⟨n1, n2⟩ := nx_b g2 t1
            obtain ⟨x, K2, b1, b2⟩ := l_rd18 s m (i + 1) (nxT A L q1) (lsU ls i v c.1) c K1 (by omega) (by omega) a2 (R2.fx a1) (fun k hk => by
              rw [a1.p (show (7 : Nat) ≠ 1 by decide), a1.p (show (8 : Nat) ≠ 1 by decide), a1.p (show (9 : Nat) ≠ 1 by decide)]
              exact S2 k hk)
            refine ⟨x, K2, ⟨(f2.tr a1.l).tr b1.1, ?_⟩, ?_⟩
            · rcases b1.2 with ⟨n, ls', cs', x1, x2, x3, x4⟩ | x1
              · exact Or.inl ⟨n, ls', cs', x1, x2, x3.trans (a1.e2.trans g12), x4⟩
              · exact Or.inr x1
            · rw [q_X4_reads_18, if_pos hi', l_me s z3, if_neg ne1, ar_t1 hi4, e_pfI (s.T 6 rfl), e_gfP (s.T 6 rfl) (s.P 18 rfl), e_gfI (s.T 6 rfl), e65, e_gfI (s.T 6 rfl), e66, e_stA (s.T 9 rfl) (Int.natCast_nonneg _) hi13, Int.toNat_natCast, l_on s ia, if_pos rfl, l_on s a3, if_neg ne1]
              exact b2
          · rw [if_neg e1]
            refine ⟨0, _, ⟨f2.tr Fq.u12.l, Or.inr ⟨rfl, rfl, u2_same⟩⟩, ?_⟩
            rw [q_X4_reads_18, if_pos hi', l_me s z3, if_neg ne1, ar_t1 hi4, e_pfI (s.T 6 rfl), e_gfP (s.T 6 rfl) (s.P 18 rfl), e_gfI (s.T 6 rfl), e65, e_gfI (s.T 6 rfl), e66, e_stA (s.T 9 rfl) (Int.natCast_nonneg _) hi13, Int.toNat_natCast, l_on s ia, if_pos rfl, l_on s a3, if_pos rfl]
            exact l_ref s k2
      · cases w1
/-- the class reads a law's text -/
theorem l_rd (s : Sh h) (hL : L ≤ 400) (e1 : I 1 1 = (L : Int)) : ∃ y K, ((∀ x j, ¬ (x = 1 ∧ 1 ≤ j) → x ≠ 3 → x ≠ 4 → ¬ (x = 6 ∧ (j = 5 ∨ j = 6)) → x ≠ 7 → x ≠ 8 → ¬ (x = 9 ∧ j ≠ 0) → x ≠ 10 → K x j = I x j) ∧ K 1 1 = 0 ∧ ((∃ n ls cs, (rdLaw (I 2) L).2 = some (n, ls, cs) ∧ y = 1 ∧ K 1 2 = -1 ∧ K 6 5 = (n : Int) ∧ LSc K n ls ∧ CC K cs) ∨ ((rdLaw (I 2) L).2 = none ∧ y = 0 ∧ K 1 2 = ((rdLaw (I 2) L).1 : Int)))) ∧ Cl sc (d + 19) mX4_reads [Vr (some 6)] (hI h I) = some (.inl (Vi y), hI h K) := by
  have ne1 : ¬ (1 : Int) = 0 := by decide
  have e2 : am_u2 (am_u2 I 6 5 0) 6 6 0 2 = I 2 := by rw [u2_o (by decide), u2_o (by decide)]
  obtain ⟨K1, N, ⟨k1, k2, k3, k4⟩, k5⟩ := c_startTx (sc := sc) (d := d + 10) (I := am_u2 (am_u2 I 6 5 0) 6 6 0) s hL (by rw [u2_a (by decide), u2_a (by decide)]; exact e1)
  rw [e2] at k1
  have ia := c_isAtEnd (sc := sc) (d := d + 17) s k1
  have e66 : K1 6 6 = 0 := (k4 6 6 (by omega) (by decide) (by decide)).trans u2_same
  have e65 : K1 6 5 = 0 := (k4 6 5 (by omega) (by decide) (by decide)).trans ((u2_j (by decide)).trans u2_same)
  have R1 : CC K1 (0, fun _ => (0, 0)) := ⟨e66, fun i hi => absurd hi (Nat.not_lt_zero i)⟩
  have fr : ∀ {K : am_I}, FL K1 K → (∀ x j, ¬ (x = 1 ∧ 1 ≤ j) → x ≠ 3 → x ≠ 4 → ¬ (x = 6 ∧ (j = 5 ∨ j = 6)) → x ≠ 7 → x ≠ 8 → ¬ (x = 9 ∧ j ≠ 0) → x ≠ 10 → K x j = I x j) ∧ K 1 1 = 0 := fun {K} f => by
    refine ⟨fun x j h1 h2 h3 h4 h5 h6 h7 h8 => ?_, ?_⟩
    · rw [f x j (by omega) h4 h5 h6 h7 h8, k4 x j (by omega) h2 h3]
      unfold am_u2
      rw [if_neg (fun e => h4 ⟨e.1, Or.inr e.2⟩), if_neg (fun e => h4 ⟨e.1, Or.inl e.2⟩)]
    · rw [f 1 1 (by omega) (by omega) (by decide) (by decide) (by omega) (by decide)]
      exact k2
  unfold rdLaw
  by_cases t1 : thT (I 2) L (blk (I 2) L 0) = -1
  · rw [if_pos t1] at ia ⊢
    obtain ⟨f1, f2⟩ := fr (FL.rf K1)
    refine ⟨1, K1, ⟨f1, f2, Or.inl ⟨0, _, _, rfl, rfl, k3, e65, fun k hk => absurd hk (Nat.not_lt_zero k), R1⟩⟩, ?_⟩
    rw [q_X4_reads_0, e_pfI (s.T 6 rfl), e_pfI (s.T 6 rfl), l_onV s k5, l_on s ia, if_neg ne1]
  · rw [if_neg t1] at ia ⊢
    obtain ⟨y, K, ⟨z1, z2⟩, z3⟩ := l_rd18 (sc := sc) (d := d) s 12 0 (blk (I 2) L 0) (fun _ => ((0, 0), 0)) (0, fun _ => (0, 0)) K1 rfl (Nat.zero_le _) k1 R1 (fun k hk => absurd hk (Nat.not_lt_zero k))
    obtain ⟨f1, f2⟩ := fr z1
    refine ⟨y, K, ⟨f1, f2, ?_⟩, ?_⟩
    · rcases z2 with ⟨n, ls, cs, x1, x2, x3, x4⟩ | x
      · exact Or.inl ⟨n, ls, cs, x1, x2, x3.trans k3, x4⟩
      · exact Or.inr x
    · rw [q_X4_reads_0, e_pfI (s.T 6 rfl), e_pfI (s.T 6 rfl), l_onV s k5, l_on s ia, if_pos rfl]
      exact z3
end
