/-! A LAW'S TEXT: the reference's reading -/
section
variable {sc : Nat × (Nat → Int)} {d D : Nat} {h : am_H} {I J K : am_I} {B : Nat → Int} {L q b F p : Nat} {cs : am_Cs} {ls : am_Ls} {x y dep v : Int}
theorem m_readLineL (s : Sh h) (t : TB B L) (k : MQt B L J q) (R : MC J cs) (hc : cs.1 ≤ q) {i : Nat} : (i < 12 ∧ ∃ y K, (FN i J K ∧ ((∃ x c', (rdLL (unS B) L q cs).2 = some (x, c') ∧ y = 1 ∧ MQt B L K (rdLL (unS B) L q cs).1 ∧ MC K c' ∧ K 284 (1481 + 4 * i) = x.1 ∧ K 284 (1481 + 4 * i + 1) = x.2 ∧ K 284 (1481 + 4 * i + 2) = (cs.1 : Int) ∧ K 284 (1481 + 4 * i + 3) = (c'.1 : Int)) ∨ ((rdLL (unS B) L q cs).2 = none ∧ y = 0 ∧ K 283 12 = ((rdLL (unS B) L q cs).1 : Int)))) ∧ Cl sc (d + 31) mX12_readLine [Vr (some 283), Vi 0, Vi (i : Int)] (hI h J) = some (.inl (Vi y), hI h K)) ∨ (12 ≤ i ∧ ∃ K, (FM J K ∧ K 283 12 = (q : Int)) ∧ Cl sc (d + 31) mX12_readLine [Vr (some 283), Vi 0, Vi (i : Int)] (hI h J) = some (.inl (Vi 0), hI h K)) := by
  have ne1 : ¬ (1 : Int) = 0 := by decide
  obtain ⟨K1, ⟨a1, a2⟩, a3⟩ := m_letters (sc := sc) (d := d + 27) s t k
  by_cases hi : i < 12
  · have hi' : (i : Int) < 12 := by omega
    obtain ⟨y, K, ⟨z1, z2⟩, z3⟩ := m_lawLine (sc := sc) (d := d) s t a2 (R.fy a1) hc hi
    refine Or.inl ⟨hi, y, K, ⟨(a1.m.n (by omega)).tr (Nat.le_refl _) z1, z2⟩, ?_⟩
    rw [q_X12_readLine_0, m_calV s a3, if_pos rfl, q_X12_readLine_9, if_pos hi', if_pos rfl, m_cal s z3]
    have y01 : y = 0 ∨ y = 1 := by
      rcases z2 with ⟨x, c', -, e, -⟩ | ⟨-, e, -⟩
      · exact Or.inr e
      · exact Or.inl e
    rcases y01 with e | e
    · rw [e, if_pos rfl]
    · rw [e, if_neg ne1]
  · have hi' : ¬ (i : Int) < 12 := by omega
    refine Or.inr ⟨by omega, K1, ⟨a1.m, a2.2.2.1⟩, ?_⟩
    rw [q_X12_readLine_0, m_calV s a3, if_pos rfl, q_X12_readLine_9, if_neg hi']
theorem m_all17L (s : Sh h) (t : TB B L) : ∀ m i q ls cs (J : am_I), i + m = 12 → cs.1 ≤ q → stL ls i = cs.1 → MQt B L J q → MC J cs → LMm J i ls → ∃ y K, (FN 0 J K ∧ ((∃ n ls' cs', (laL (unS B) L m i q ls cs).2 = some (n, ls', cs') ∧ y = (n : Int) ∧ LMm K n ls' ∧ MC K cs') ∨ ((laL (unS B) L m i q ls cs).2 = none ∧ y = -1 ∧ K 283 12 = ((laL (unS B) L m i q ls cs).1 : Int)))) ∧ Ru sc (d + 32) mX12_readAll 17 [Vr (some 283), Vi 0, Vi (i : Int)] [] (hI h J) = some (.inl (Vi y), hI h K)
  | 0, i, q, ls, cs, J, hm, hc, e0, k, R, S => by
    rcases m_readLineL (sc := sc) (d := d) s t k R hc (i := i) with ⟨e, -⟩ | ⟨-, K, ⟨z1, z2⟩, z3⟩
    · omega
    · refine ⟨-1, K, ⟨z1.n (by decide), Or.inr ⟨rfl, rfl, z2⟩⟩, ?_⟩
      rw [q_X12_readAll_17, m_cal s z3, if_pos rfl]
  | m + 1, i, q, ls, cs, J, hm, hc, e0, k, R, S => by
    have ne1 : ¬ (1 : Int) = 0 := by decide
    have hi4 : i ≤ 400 := by omega
    rcases m_readLineL (sc := sc) (d := d) s t k R hc (i := i) with ⟨hi, y, K, ⟨z1, z2⟩, z3⟩ | ⟨e, -⟩
    · have f0 : FN 0 J K := (FN.rf 0 J).tr (Nat.zero_le i) z1
      unfold laL
      rcases e9 : rdLL (unS B) L q cs with ⟨q1, _ | ⟨v, c⟩⟩
      · rw [e9] at z2
        rcases z2 with ⟨v, c9, w1, -⟩ | ⟨-, rfl, w3⟩
        · cases w1
        · refine ⟨-1, K, ⟨f0, Or.inr ⟨rfl, rfl, w3⟩⟩, ?_⟩
          rw [q_X12_readAll_17, m_cal s z3, if_pos rfl]
      · obtain ⟨g1, g2, g3, -⟩ := rdLL_g (k.tq t) e9 (x := v) (cs' := c) rfl
        rw [e9] at z2
        rw [bnR_so]
        dsimp only at g1 g2 g3
        rcases z2 with ⟨v9, c9, w1, rfl, w3, w4, w5, w6, w7, w8⟩ | ⟨w1, -⟩
        · cases w1
          dsimp only at w3
          have S2 : LMm K (i + 1) (lsU ls i v c.1) := fun k hk => by
            by_cases ek : k = i
            · subst ek
              have e1 : lsU ls k v c.1 k = (v, c.1) := if_pos rfl
              rw [stL_S, stL_U (Nat.le_refl k), e1, e0]
              exact ⟨w5, w6, w7, w8⟩
            · have e1 : lsU ls i v c.1 k = ls k := if_neg ek
              obtain ⟨a1, a2, a3, a4⟩ := S k (by omega)
              rw [stL_U (show k ≤ i by omega), stL_U (show k + 1 ≤ i by omega), e1, z1.2 _ (by omega), z1.2 _ (by omega), z1.2 _ (by omega), z1.2 _ (by omega)]
              exact ⟨a1, a2, a3, a4⟩
          obtain ⟨K1, a1, a2, a3, a4, a5, a6⟩ := m_after (sc := sc) (d := d + 29) s t w3
          have S3 : LMm K1 (i + 1) (lsU ls i v c.1) := by
            unfold LMm
            rw [a1.p (show (284 : Nat) ≠ 283 by decide)]
            exact S2
          have f1 : FN 0 J K1 := f0.tr (Nat.le_refl _) (a1.m.n (by decide))
          rcases a6 with ⟨e1, e2⟩ | ⟨e1, e2, ⟨e3, b1, b2, b3⟩ | ⟨e3, b1⟩⟩
          · rw [if_pos e1]
            refine ⟨((i + 1 : Nat) : Int), K1, ⟨f1, Or.inl ⟨i + 1, _, c, rfl, rfl, S3, w4.fy a1⟩⟩, ?_⟩
            rw [q_X12_readAll_17, m_cal s z3, if_neg ne1, m_calV s a2, e_gfI (s.T 283 rfl), e_gfI (s.T 283 rfl), a3, a4, if_pos (by rw [e2]), ar_t1 hi4]
          · rw [if_neg e1, if_pos e3]
            obtain ⟨n1, n2⟩ := nx_b g2 e1
            have fy : Fy K1 (am_u2 K1 283 10 ((q1 + 1 : Nat) : Int)) := (Fy.rf K1).u (Or.inl rfl)
            obtain ⟨x, K2, ⟨x1, x2⟩, x3⟩ := m_all17L s t m (i + 1) (nxT (unS B) L q1) (lsU ls i v c.1) c (am_u2 K1 283 10 ((q1 + 1 : Nat) : Int)) (by clear b3; omega) (by clear b3; omega) stL_S b2 ((w4.fy a1).fy fy) (by
              unfold LMm
              rw [fy.p (show (284 : Nat) ≠ 283 by decide)]
              exact S3)
            refine ⟨x, K2, ⟨(f1.tr (Nat.le_refl _) (fy.m.n (by decide))).tr (Nat.le_refl _) x1, x2⟩, ?_⟩
            rw [q_X12_readAll_17, m_cal s z3, if_neg ne1, m_calV s a2, e_gfI (s.T 283 rfl), e_gfI (s.T 283 rfl), a3, a4, if_neg e2, m_cal s b1, if_neg ne1, e_gfI (s.T 283 rfl), a4, b3, e_pfI (s.T 283 rfl), ar_t1 hi4]
            exact x3
          · rw [if_neg e1, if_neg e3]
            refine ⟨-1, K1, ⟨f1, Or.inr ⟨rfl, rfl, a5⟩⟩, ?_⟩
            rw [q_X12_readAll_17, m_cal s z3, if_neg ne1, m_calV s a2, e_gfI (s.T 283 rfl), e_gfI (s.T 283 rfl), a3, a4, if_neg e2, m_cal s b1, if_pos rfl]
        · cases w1
    · omega
/-- the reference reads a law's text -/
theorem m_readAllL (s : Sh h) (e9 : J 283 9 = (L : Int)) (t : TB (J 289) L) : ∃ y K, ((∀ x j, ¬ (x = 283 ∧ (j = 0 ∨ j = 9 ∨ j = 10 ∨ j = 11 ∨ j = 12 ∨ j = 13 ∨ j = 16)) → x ≠ 284 → K x j = J x j) ∧ (∀ j, j < 1481 → K 284 j = J 284 j) ∧ K 283 0 = 0 ∧ K 283 9 = 0 ∧ ((∃ n ls cs, (rdLaw (unS (J 289)) L).2 = some (n, ls, cs) ∧ y = (n : Int) ∧ LMm K n ls ∧ MC K cs) ∨ ((rdLaw (unS (J 289)) L).2 = none ∧ y = -1 ∧ K 283 12 = ((rdLaw (unS (J 289)) L).1 : Int)))) ∧ Cl sc (d + 32) mX12_readAll [Vr (some 283), Vi 0] (hI h J) = some (.inl (Vi y), hI h K) := by
  obtain ⟨u1, u2, u3, u4, u5, u6⟩ := usW_f (J := J) (L := L)
  have mu := m_uses (sc := sc) (d := d + 30) s e9
  have kx : MX (J 289) L (am_u2 (usW J L) 283 16 0) := ⟨by rw [u2_o (by decide), u1 289 (by decide)], by rw [u2_j (by decide)]; exact u3⟩
  obtain ⟨K1, ⟨a1, a2, a3⟩, a4⟩ := m_blanks (sc := sc) (d := d + 29) s t L 0 (am_u2 (usW J L) 283 16 0) (by omega) (Nat.zero_le _) kx (by rw [u2_j (by decide)]; exact u5)
  have hq : TQ (unS (J 289)) L (blk (unS (J 289)) L 0) := blk_TQ (Nat.zero_le _)
  have mq := (kx.fy a1).mq a2 hq.1
  rw [blk_self hq] at mq
  have e11 := (kx.fy a1).2
  have fr : ∀ {K : am_I}, FN 0 K1 K → (∀ x j, ¬ (x = 283 ∧ (j = 0 ∨ j = 9 ∨ j = 10 ∨ j = 11 ∨ j = 12 ∨ j = 13 ∨ j = 16)) → x ≠ 284 → K x j = J x j) ∧ (∀ j, j < 1481 → K 284 j = J 284 j) ∧ K 283 0 = 0 ∧ K 283 9 = 0 := fun {K} f => by
    refine ⟨fun x j h1 h2 => ?_, fun j hj => ?_, ?_, ?_⟩
    · rw [f.1 x j (by omega) h2, a1 x j (by omega)]
      by_cases e : x = 283
      · rw [e, u2_j (by omega), u6 j (by omega) (by omega) (by omega) (by omega)]
      · rw [u2_a e, u1 x e]
    · rw [f.2 j hj, a1 284 j (by omega), u2_a (by decide), u1 284 (by decide)]
    · rw [f.1 283 0 (by omega) (by decide), a1 283 0 (by omega), u2_j (by decide)]
      exact u2
    · rw [f.1 283 9 (by omega) (by decide), a1 283 9 (by omega), u2_j (by decide)]
      exact u4
  have e16 : K1 283 16 = 0 := (a1 283 16 (by omega)).trans u2_same
  have R1 : MC K1 (0, fun _ => (0, 0)) := ⟨e16, fun i hi => absurd hi (Nat.not_lt_zero i)⟩
  unfold rdLaw
  by_cases t1 : thT (unS (J 289)) L (blk (unS (J 289)) L 0) = -1
  · rw [if_pos t1]
    obtain ⟨f1, f2, f3, f4⟩ := fr (FN.rf 0 K1)
    have eL : blk (unS (J 289)) L 0 = L := by
      have := (th_end hq).mp t1
      have := hq.1
      omega
    refine ⟨0, K1, ⟨f1, f2, f3, f4, Or.inl ⟨0, _, _, rfl, rfl, fun k hk => absurd hk (Nat.not_lt_zero k), R1⟩⟩, ?_⟩
    rw [q_X12_readAll_0, m_calV s mu, e_pfI (s.T 283 rfl), m_calV s a4, e_gfI (s.T 283 rfl), e_gfI (s.T 283 rfl), e11, a2, if_pos (by rw [eL])]
  · rw [if_neg t1]
    have eL : ¬ ((blk (unS (J 289)) L 0 : Nat) : Int) = (L : Int) := fun z => t1 ((th_end hq).mpr (by omega))
    obtain ⟨y, K, ⟨z1, z2⟩, z3⟩ := m_all17L (sc := sc) (d := d) s t 12 0 (blk (unS (J 289)) L 0) (fun _ => ((0, 0), 0)) (0, fun _ => (0, 0)) K1 rfl (Nat.zero_le _) rfl mq R1 (fun k hk => absurd hk (Nat.not_lt_zero k))
    obtain ⟨f1, f2, f3, f4⟩ := fr z1
    refine ⟨y, K, ⟨f1, f2, f3, f4, z2⟩, ?_⟩
    rw [q_X12_readAll_0, m_calV s mu, e_pfI (s.T 283 rfl), m_calV s a4, e_gfI (s.T 283 rfl), e_gfI (s.T 283 rfl), e11, a2, if_neg eL]
    exact z3
end
