/-! A COUNTY'S TEXT: the reference's lines -/
section
variable {sc : Nat × (Nat → Int)} {d : Nat} {h : am_H} {I J K : am_I} {B : Nat → Int} {L q b f : Nat} {w v : am_Wd} {ag hi ga st x : Int} {r : Nat × Option am_Wd}
theorem m_readNum (s : Sh h) (t : TB B L) (k : MQt B L J q) (R : J 284 = w) {f : Nat} (hf : f < 631) (h9 : hi ≤ 999) : ∃ y K, Ry B L J K y (rdNum (unS B) L q w hi f) ∧ Cl sc (d + 4) mX12_readNumber [Vr (some 283), Vi (f : Int), Vi 0, Vi hi] (hI h J) = some (.inl (Vi y), hI h K) := by
  have n1 : (-1 : Int) < 0 := by decide
  have gp : ∀ (I : am_I) (k : Option Nat → am_R), gfP 12 1 (hI h I) (some 283) k = k (some 284) := (BM s).2.2.2.1
  have hf9 : (f : Int) < 2329 := by omega
  unfold rdNum
  rcases m_number (sc := sc) (d := d) s t k h9 with ⟨e1, K1, ⟨a1, a2, a3⟩, a4⟩ | ⟨e1, K1, ⟨a1, a2, a3⟩, a4⟩
  · rw [if_pos e1]
    have e0 : ¬ thT (unS B) L q < 0 := by omega
    refine ⟨1, am_u2 K1 284 f (thT (unS B) L q), Ry.ok (a1.v.tr (FzM.u hf)) (a2.same (u2_o (by decide)) (u2_o (by decide))) ?_, ?_⟩
    · rw [u2_up, a1.p (by decide), R]
    · rw [q_X12_readNumber_0, m_cal s a4, gp, if_neg e0, e_stA (s.T 284 rfl) (Int.natCast_nonneg f) hf9, if_neg e0, Int.toNat_natCast]
  · rw [if_neg e1]
    refine ⟨0, am_u2 K1 284 f (K1 284 f), Ry.no (a1.v.tr (FzM.u hf)) ((u2_a (by decide)).trans a3), ?_⟩
    rw [q_X12_readNumber_0, m_cal s a4, gp, if_pos n1, gp, e_ldA (s.T 284 rfl) (Int.natCast_nonneg f) hf9, e_stA (s.T 284 rfl) (Int.natCast_nonneg f) hf9, if_pos n1, Int.toNat_natCast]
theorem m_isWV (s : Sh h) (t : TB B L) (k : MW B L J q) {j : Nat} (hj : j < 23) {c : Int} (hc : wc j = c) : (thT (unS B) L q = c ∧ MQt B L J (nxT (unS B) L q) ∧ Cl sc (d + 5) mX12_isWord [Vr (some 283), Vx (j + 1 + 1)] (hI h J) = some (.inl (Vi 1), hI h J)) ∨ (thT (unS B) L q ≠ c ∧ Cl sc (d + 5) mX12_isWord [Vr (some 283), Vx (j + 1 + 1)] (hI h J) = some (.inl (Vi 0), hI h J)) := by
  subst hc
  have iw := m_isW (sc := sc) (d := d) s t k hj
  by_cases e : thT (unS B) L q = wc j
  · have z1 : bz true = 1 := rfl
    rw [decide_eq_true e, z1] at iw
    exact Or.inl ⟨e, k.nx t hj e, iw⟩
  · have z0 : bz false = 0 := rfl
    rw [decide_eq_false e, z0] at iw
    exact Or.inr ⟨e, iw⟩
theorem m_couLine (s : Sh h) (t : TB B L) (k : MW B L J q) (R : J 284 = w) (V : WW w) : ∃ y K, Ry B L J K y (rdLine (unS B) L q w) ∧ Cl sc (d + 9) mX12_readCountyLine [Vr (some 283)] (hI h J) = some (.inl (Vi y), hI h K) := by
  have ne1 : ¬ (1 : Int) = 0 := by decide
  have hF := V.ws.1
  have w1 := m_isWV (sc := sc) (d := d + 3) s t k (j := 0) (by decide) (c := -6) rfl
  have w2 := m_isWV (sc := sc) (d := d + 3) s t k (j := 1) (by decide) (c := -7) rfl
  have w3 := m_isWV (sc := sc) (d := d + 3) s t k (j := 2) (by decide) (c := -8) rfl
  have w4 := m_isWV (sc := sc) (d := d + 3) s t k (j := 3) (by decide) (c := -9) rfl
  have w5 := m_isWV (sc := sc) (d := d + 3) s t k (j := 4) (by decide) (c := -22) rfl
  simp only [Nat.reduceAdd] at w1 w2 w3 w4 w5
  unfold rdLine
  rcases w1 with ⟨e1, k1, x1⟩ | ⟨e1, x1⟩
  · rw [if_pos e1]
    obtain ⟨y, K, z1, z2⟩ := m_readFe (sc := sc) (d := d) s t k1 R
    refine ⟨y, K, z1, ?_⟩
    rw [q_X12_readCountyLine_0, m_cal s x1, if_neg ne1, m_cal s z2, e_ret1 z1.v01]
  · rw [if_neg e1]
    rcases w2 with ⟨e2, k2, x2⟩ | ⟨e2, x2⟩
    · rw [if_pos e2]
      obtain ⟨y, K, z1, z2⟩ := m_readRo (sc := sc) (d := d + 1) s t k2 R
      refine ⟨y, K, z1, ?_⟩
      rw [q_X12_readCountyLine_0, m_cal s x1, if_pos rfl, m_cal s x2, if_neg ne1, m_cal s z2, e_ret1 z1.v01]
    · rw [if_neg e2]
      rcases w3 with ⟨e3, k3, x3⟩ | ⟨e3, x3⟩
      · by_cases hw : w 0 < 6
        · rw [if_pos ⟨e3, hw⟩]
          obtain ⟨y, K, z1, z2⟩ := m_readFa (sc := sc) (d := d) s t k3 R V hw
          refine ⟨y, K, z1, ?_⟩
          rw [q_X12_readCountyLine_0, m_cal s x1, if_pos rfl, m_cal s x2, if_pos rfl, m_cal s x3, if_neg ne1, m_cal s z2, e_ret1 z1.v01]
        · have hw6 : w 0 = 6 := by omega
          have mf := m_families (sc := sc) (d := d + 6) (I := J) s
          rw [R, hw6] at mf
          rw [if_neg (fun z => hw z.2), if_neg (by omega), if_neg (by omega)]
          refine ⟨0, J, Ry.no (FzM.rf J) k.2.2.1, ?_⟩
          rw [q_X12_readCountyLine_0, m_cal s x1, if_pos rfl, m_cal s x2, if_pos rfl, m_cal s x3, if_neg ne1, q_X12_readFamily_0, m_cal s mf, if_pos rfl, (BM s).1, e_clI, r1_0]
      · rw [if_neg (fun z => e3 z.1)]
        rcases w4 with ⟨e4, k4, x4⟩ | ⟨e4, x4⟩
        · rw [if_pos e4]
          obtain ⟨y, K, z1, z2⟩ := m_readNum (sc := sc) (d := d + 4) s t k4 R (f := 4) (hi := 100) (by decide) (by decide)
          refine ⟨y, K, z1, ?_⟩
          have z2 : Cl sc (d + 8) mX12_readNumber [Vr (some 283), Vi 4, Vi 0, Vi 100] (hI h J) = some (.inl (Vi y), hI h K) := z2
          rw [q_X12_readCountyLine_0, m_cal s x1, if_pos rfl, m_cal s x2, if_pos rfl, m_cal s x3, if_pos rfl, m_cal s x4, if_neg ne1, m_cal s z2, e_ret1 z1.v01]
        · rw [if_neg e4]
          rcases w5 with ⟨e5, k5, x5⟩ | ⟨e5, x5⟩
          · rw [if_pos e5]
            obtain ⟨y, K, z1, z2⟩ := m_readNum (sc := sc) (d := d + 4) s t k5 R (f := 3) (hi := 999) (by decide) (by decide)
            refine ⟨y, K, z1, ?_⟩
            have z2 : Cl sc (d + 8) mX12_readNumber [Vr (some 283), Vi 3, Vi 0, Vi 999] (hI h J) = some (.inl (Vi y), hI h K) := z2
            rw [q_X12_readCountyLine_0, m_cal s x1, if_pos rfl, m_cal s x2, if_pos rfl, m_cal s x3, if_pos rfl, m_cal s x4, if_pos rfl, m_cal s x5, if_neg ne1, m_cal s z2]
            rcases z1.v01 with e | e
            · rw [e, if_pos rfl]
            · rw [e, if_neg ne1]
          · rw [if_neg e5]
            refine ⟨0, J, Ry.no (FzM.rf J) k.2.2.1, ?_⟩
            rw [q_X12_readCountyLine_0, m_cal s x1, if_pos rfl, m_cal s x2, if_pos rfl, m_cal s x3, if_pos rfl, m_cal s x4, if_pos rfl, m_cal s x5, if_pos rfl]
theorem m_readLineC (s : Sh h) (t : TB B L) (k : MQt B L J q) (R : J 284 = w) (V : WW w) {n : Nat} : (n < 14 ∧ ∃ y K, Ry B L J K y (rdLine (unS B) L q w) ∧ Cl sc (d + 10) mX12_readLine [Vr (some 283), Vi 1, Vi (n : Int)] (hI h J) = some (.inl (Vi y), hI h K)) ∨ (14 ≤ n ∧ ∃ K, Ry B L J K 0 (q, none) ∧ Cl sc (d + 10) mX12_readLine [Vr (some 283), Vi 1, Vi (n : Int)] (hI h J) = some (.inl (Vi 0), hI h K)) := by
  have ne1 : ¬ (1 : Int) = 0 := by decide
  obtain ⟨K1, ⟨a1, a2⟩, a3⟩ := m_letters (sc := sc) (d := d + 6) s t k
  by_cases hn : n < 14
  · have hn' : (n : Int) < 14 := by omega
    obtain ⟨y, K, z1, z2⟩ := m_couLine (sc := sc) (d := d) s t a2 ((a1.p (by decide)).trans R) V
    refine Or.inl ⟨hn, y, K, z1.pre a1.v, ?_⟩
    rw [q_X12_readLine_0, m_calV s a3, if_neg ne1, q_X12_readLine_9, if_pos hn', if_neg ne1, m_cal s z2]
    rcases z1.v01 with e | e
    · rw [e, if_pos rfl]
    · rw [e, if_neg ne1]
  · have hn' : ¬ (n : Int) < 14 := by omega
    refine Or.inr ⟨by omega, K1, Ry.no a1.v a2.2.2.1, ?_⟩
    rw [q_X12_readLine_0, m_calV s a3, if_neg ne1, q_X12_readLine_9, if_neg hn']
/-- behind a line: the end, a semicolon, or a fault -/
theorem m_after (s : Sh h) (t : TB B L) (k : MQt B L J q) : ∃ K1, Fy J K1 ∧ Cl sc (d + 2) mX12_blanks [Vr (some 283)] (hI h J) = some (.inl (Vx 0), hI h K1) ∧ K1 283 11 = (L : Int) ∧ K1 283 10 = (q : Int) ∧ K1 283 12 = (q : Int) ∧ ((thT (unS B) L q = -1 ∧ q = L) ∨ (thT (unS B) L q ≠ -1 ∧ ¬ (q : Int) = (L : Int) ∧ ((thT (unS B) L q = -3 ∧ Cl sc (d + 2) mX12_isAt [Vr (some 283), Vi 59, Vi 59] (hI h K1) = some (.inl (Vi 1), hI h K1) ∧ MQt B L (am_u2 K1 283 10 ((q + 1 : Nat) : Int)) (nxT (unS B) L q) ∧ w32 ((q : Int) + 1) = ((q + 1 : Nat) : Int)) ∨ (thT (unS B) L q ≠ -3 ∧ Cl sc (d + 2) mX12_isAt [Vr (some 283), Vi 59, Vi 59] (hI h K1) = some (.inl (Vi 0), hI h K1))))) := by
  have hq := k.tq t
  obtain ⟨k1, p, k2, k3, k4⟩ := k
  obtain ⟨K1, ⟨a1, a2, a3⟩, a4⟩ := m_blanks (sc := sc) (d := d) s t L p J (by omega) k3 k1 k2
  rw [k4] at a2 a3
  refine ⟨K1, a1, a4, (k1.fy a1).2, a2, a3, ?_⟩
  have ia := m_isAt (sc := sc) (d := d + 1) s t (k1.fy a1) a2 hq.1 (lo := 59) (hi := 59) (by omega) (by omega)
  by_cases ee : thT (unS B) L q = -1
  · refine Or.inl ⟨ee, ?_⟩
    have := (th_end hq).mp ee
    have := hq.1
    omega
  · refine Or.inr ⟨ee, fun z => ee ((th_end hq).mpr (by omega)), ?_⟩
    have hs := th_sign hq (c := 59) (s := -3) (by omega)
    by_cases e : thT (unS B) L q = -3
    · have y := hs.mpr e
      have z1 : bz true = 1 := rfl
      rw [decide_eq_true ⟨y.1, by omega, by omega⟩, z1] at ia
      have n1 : isL (unS B q) = false := by unfold isL; exact decide_eq_false (by omega)
      have n2 : isD (unS B q) = false := by unfold isD; exact decide_eq_false (by omega)
      have en := en_sign (L := L) n1 n2
      have mq : MQt B L (am_u2 K1 283 10 ((q + 1 : Nat) : Int)) (nxT (unS B) L q) := by
        unfold nxT
        rw [en]
        exact ((k1.fy a1).fy ((Fy.rf K1).u (Or.inl rfl))).mq u2_same y.1
      exact Or.inl ⟨e, ia, mq, ar_t1 (q := q) (by have := t.1; have := hq.1; omega)⟩
    · have z0 : bz false = 0 := rfl
      rw [decide_eq_false (fun y => e (hs.mp ⟨y.1, by omega⟩)), z0] at ia
      exact Or.inr ⟨e, ia⟩
def Rya (J K : am_I) (y : Int) (r : Nat × Option am_Wd) : Prop := FzM J K ∧ ((∃ w, r.2 = some w ∧ 0 ≤ y ∧ K 284 = w) ∨ (r.2 = none ∧ y = -1 ∧ K 283 12 = (r.1 : Int)))
theorem Rya.pre {y : Int} (e : FzM I J) (z : Rya J K y r) : Rya I K y r := ⟨e.tr z.1, z.2⟩
theorem m_all17C (s : Sh h) (t : TB B L) : ∀ (m n q : Nat) (w : am_Wd) (J : am_I), n + m = 14 → MQt B L J q → J 284 = w → WW w → ∃ y K, Rya J K y (rdLs (unS B) L m q w) ∧ Ru sc (d + 11) mX12_readAll 17 [Vr (some 283), Vi 1, Vi (n : Int)] [] (hI h J) = some (.inl (Vi y), hI h K)
  | 0, n, q, w, J, hn, k, R, V => by
    rcases m_readLineC (sc := sc) (d := d) s t k R V (n := n) with ⟨e, -⟩ | ⟨-, K, z1, z2⟩
    · omega
    · refine ⟨-1, K, ⟨z1.1, ?_⟩, ?_⟩
      · rcases z1.2 with ⟨w1, y1, -⟩ | ⟨y1, y2, y3⟩
        · cases y1
        · exact Or.inr ⟨rfl, rfl, y3⟩
      · rw [q_X12_readAll_17, m_cal s z2, if_pos rfl]
  | m + 1, n, q, w, J, hn, k, R, V => by
    have ne1 : ¬ (1 : Int) = 0 := by decide
    rcases m_readLineC (sc := sc) (d := d) s t k R V (n := n) with ⟨hn14, y, K, z1, z2⟩ | ⟨e, -⟩
    · have wn := ar_t1 (q := n) (by omega)
      have hn0 : (0 : Int) ≤ ((n + 1 : Nat) : Int) := Int.natCast_nonneg _
      unfold rdLs
      rcases z1.2 with ⟨w1, y1, y2, y3, y4⟩ | ⟨y1, y2, y3⟩
      · rw [y1]
        dsimp only
        subst y2
        obtain ⟨K1, a1, a2, a3, a4, a5, a6⟩ := m_after (sc := sc) (d := d + 8) s t y3
        rcases a6 with ⟨e1, e2⟩ | ⟨e1, e2, ⟨e3, b1, b2, b3⟩ | ⟨e3, b1⟩⟩
        · rw [if_pos e1]
          refine ⟨((n + 1 : Nat) : Int), K1, ⟨z1.1.tr a1.v, Or.inl ⟨w1, rfl, hn0, (a1.p (by decide)).trans y4⟩⟩, ?_⟩
          rw [q_X12_readAll_17, m_cal s z2, if_neg ne1, m_calV s a2, e_gfI (s.T 283 rfl), e_gfI (s.T 283 rfl), a3, a4, if_pos (by rw [e2]), wn]
        · rw [if_neg e1, if_pos e3]
          have V1 := (rdLine_ok V y1).1
          obtain ⟨x, K2, c1, c2⟩ := m_all17C s t m (n + 1) (nxT (unS B) L (rdLine (unS B) L q w).1) w1 _ (by omega) b2 (by rw [u2_o (by decide)]; exact (a1.p (by decide)).trans y4) V1
          refine ⟨x, K2, c1.pre (z1.1.tr (a1.tr ((Fy.rf K1).u (Or.inl rfl))).v), ?_⟩
          rw [q_X12_readAll_17, m_cal s z2, if_neg ne1, m_calV s a2, e_gfI (s.T 283 rfl), e_gfI (s.T 283 rfl), a3, a4, if_neg e2, m_cal s b1, if_neg ne1, e_gfI (s.T 283 rfl), a4, b3, e_pfI (s.T 283 rfl), wn]
          exact c2
        · rw [if_neg e1, if_neg e3]
          refine ⟨-1, K1, ⟨z1.1.tr a1.v, Or.inr ⟨rfl, rfl, a5⟩⟩, ?_⟩
          rw [q_X12_readAll_17, m_cal s z2, if_neg ne1, m_calV s a2, e_gfI (s.T 283 rfl), e_gfI (s.T 283 rfl), a3, a4, if_neg e2, m_cal s b1, if_pos rfl]
      · rw [y1]
        dsimp only
        subst y2
        refine ⟨-1, K, ⟨z1.1, Or.inr ⟨rfl, rfl, y3⟩⟩, ?_⟩
        rw [q_X12_readAll_17, m_cal s z2, if_pos rfl]
    · omega
/-- the reference reads a county's text -/
theorem m_readAllC (s : Sh h) (e9 : J 283 9 = (L : Int)) (t : TB (J 289) L) (R : J 284 = w) (V : WW w) : ∃ y K, ((∀ x j, ¬ (x = 283 ∧ (j = 0 ∨ j = 9 ∨ j = 10 ∨ j = 11 ∨ j = 12 ∨ j = 16)) → x ≠ 284 → x ≠ 291 → K x j = J x j) ∧ (∀ j, 631 ≤ j → K 284 j = J 284 j) ∧ K 283 0 = 0 ∧ K 283 9 = 0 ∧ ((∃ w1, (rdCo (unS (J 289)) L w).2 = some w1 ∧ 0 ≤ y ∧ K 284 = w1) ∨ ((rdCo (unS (J 289)) L w).2 = none ∧ y = -1 ∧ K 283 12 = ((rdCo (unS (J 289)) L w).1 : Int)))) ∧ Cl sc (d + 11) mX12_readAll [Vr (some 283), Vi 1] (hI h J) = some (.inl (Vi y), hI h K) := by
  obtain ⟨u1, u2, u3, u4, u5, u6⟩ := usW_f (J := J) (L := L)
  have mu := m_uses (sc := sc) (d := d + 9) s e9
  have kx : MX (J 289) L (am_u2 (usW J L) 283 16 0) := ⟨by rw [u2_o (by decide), u1 289 (by decide)], by rw [u2_j (by decide)]; exact u3⟩
  obtain ⟨K1, ⟨a1, a2, a3⟩, a4⟩ := m_blanks (sc := sc) (d := d + 8) s t L 0 (am_u2 (usW J L) 283 16 0) (by omega) (Nat.zero_le _) kx (by rw [u2_j (by decide)]; exact u5)
  have hq : TQ (unS (J 289)) L (blk (unS (J 289)) L 0) := blk_TQ (Nat.zero_le _)
  have mq := (kx.fy a1).mq a2 hq.1
  rw [blk_self hq] at mq
  have e11 := (kx.fy a1).2
  have fr : ∀ {K : am_I}, FzM K1 K → (∀ x j, ¬ (x = 283 ∧ (j = 0 ∨ j = 9 ∨ j = 10 ∨ j = 11 ∨ j = 12 ∨ j = 16)) → x ≠ 284 → x ≠ 291 → K x j = J x j) ∧ (∀ j, 631 ≤ j → K 284 j = J 284 j) ∧ K 283 0 = 0 ∧ K 283 9 = 0 := fun {K} f => by
    refine ⟨fun x j h1 h2 h3 => ?_, fun j hj => ?_, ?_, ?_⟩
    · rw [f.1 x j (by omega) h2 h3, a1 x j (by omega)]
      by_cases e : x = 283
      · rw [e, u2_j (by omega), u6 j (by omega) (by omega) (by omega) (by omega)]
      · rw [u2_a e, u1 x e]
    · rw [f.2 j hj, a1 284 j (by omega), u2_a (by decide), u1 284 (by decide)]
    · rw [f.1 283 0 (by omega) (by decide) (by decide), a1 283 0 (by omega), u2_j (by decide)]
      exact u2
    · rw [f.1 283 9 (by omega) (by decide) (by decide), a1 283 9 (by omega), u2_j (by decide)]
      exact u4
  have R1 : K1 284 = w := by rw [a1.p (by decide), u2_o (by decide), u1 284 (by decide)]; exact R
  unfold rdCo
  by_cases t1 : thT (unS (J 289)) L (blk (unS (J 289)) L 0) = -1
  · rw [if_pos t1]
    obtain ⟨f1, f2, f3, f4⟩ := fr (FzM.rf K1)
    have eL : blk (unS (J 289)) L 0 = L := by
      have := (th_end hq).mp t1
      have := hq.1
      omega
    refine ⟨0, K1, ⟨f1, f2, f3, f4, Or.inl ⟨w, rfl, Int.le_refl 0, R1⟩⟩, ?_⟩
    rw [q_X12_readAll_0, m_calV s mu, e_pfI (s.T 283 rfl), m_calV s a4, e_gfI (s.T 283 rfl), e_gfI (s.T 283 rfl), e11, a2, if_pos (by rw [eL])]
  · rw [if_neg t1]
    have eL : ¬ ((blk (unS (J 289)) L 0 : Nat) : Int) = (L : Int) := fun z => t1 ((th_end hq).mpr (by omega))
    obtain ⟨y, K, z1, z2⟩ := m_all17C (sc := sc) (d := d) s t 14 0 (blk (unS (J 289)) L 0) w K1 rfl mq R1 V
    obtain ⟨f1, f2, f3, f4⟩ := fr z1.1
    refine ⟨y, K, ⟨f1, f2, f3, f4, z1.2⟩, ?_⟩
    rw [q_X12_readAll_0, m_calV s mu, e_pfI (s.T 283 rfl), m_calV s a4, e_gfI (s.T 283 rfl), e_gfI (s.T 283 rfl), e11, a2, if_neg eL]
    exact z2
end
