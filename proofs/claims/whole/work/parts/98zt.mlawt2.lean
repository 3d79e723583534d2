/-! A LAW'S TEXT: the reference's sums, tags, conditions -/
section
variable {sc : Nat × (Nat → Int)} {d D : Nat} {h : am_H} {I J K : am_I} {B : Nat → Int} {L q b F : Nat} {cs : am_Cs} {x y dep : Int} {r : Nat × Option am_Cs} {at_ : Nat → am_Cs → Nat × Option am_Cs}
theorem m_sum5 (s : Sh h) (t : TB B L) : ∀ F q cs (J : am_I), L < q + F → cs.1 + 1 ≤ q → MQt B L J q → MC J cs → ∃ y K, Rml B L J K y (if thT (unS B) L q = -27 then suL (unS B) L F false (nxT (unS B) L q) cs else (q, some cs)) ∧ Ru sc (d + 8) mX12_readSum 5 [Vr (some 283)] [] (hI h J) = some (.inl (Vi y), hI h K)
  | 0, q, cs, J, hF, hc, k, R => by
    have := (k.tq t).1
    omega
  | F + 1, q, cs, J, hF, hc, k, R => by
    have ne1 : ¬ (1 : Int) = 0 := by decide
    rcases m_sign (sc := sc) (d := d + 4) s t k (c := 43) (v := -27) (by omega) with ⟨e1, K1, ⟨a1, a2, a3⟩, a4⟩ | ⟨e1, K1, ⟨a1, a2, a3⟩, a4⟩
    · rw [if_pos e1]
      obtain ⟨n1, n2⟩ := nx_b (k.tq t) (by omega)
      have h4 := a2.le t
      unfold suL
      rcases m_part (sc := sc) (d := d) s t a2 (R.fy a1) (by omega) with ⟨e2, K2, ⟨b1, b2, b3, b4⟩, b5⟩ | ⟨e2, K2, ⟨b1, b2⟩, b5⟩
      · rw [if_pos e2]
        obtain ⟨n3, n4⟩ := nx_b n2 (by omega)
        have h5 := b3.le t
        obtain ⟨K3, ⟨c1, c2, c3, c4, c5⟩, c6⟩ := m_emits (sc := sc) (d := d + 6) (B := B) (L := L) s b4 (by show cs.1 + 1 < 400; omega) (p := (10, 0))
        obtain ⟨y, K, z1, z2⟩ := m_sum5 s t F _ (emC (emC cs (cdT (thT (unS B) L (nxT (unS B) L q)))) (10, 0)) K3 (by omega) (by show cs.1 + 1 + 1 + 1 ≤ _; omega) (c2 _ b3) c5
        refine ⟨y, K, z1.pre ((a1.m.tr b1).tr c1) (c4.trans (b2.trans a1.e13)), ?_⟩
        rw [q_X12_readSum_5, m_cal s a4, if_neg ne1, m_cal s b5, if_neg ne1, m_calV s c6]
        exact z2
      · rw [if_neg e2]
        refine ⟨0, K2, Rml.no (a1.m.tr b1) b2, ?_⟩
        rw [q_X12_readSum_5, m_cal s a4, if_neg ne1, m_cal s b5, if_pos rfl]
    · rw [if_neg e1]
      refine ⟨1, K1, Rml.ok a1.m a1.e13 a2 (R.fy a1), ?_⟩
      rw [q_X12_readSum_5, m_cal s a4, if_pos rfl]
theorem m_suR (s : Sh h) (t : TB B L) (k : MQt B L J q) (R : MC J cs) (hc : cs.1 + 1 ≤ q) : ∃ y K, Rml B L J K y (suL (unS B) L (L + 1) true q cs) ∧ Cl sc (d + 8) mX12_readSum [Vr (some 283)] (hI h J) = some (.inl (Vi y), hI h K) := by
  have ne1 : ¬ (1 : Int) = 0 := by decide
  have h4 := k.le t
  unfold suL
  rcases m_part (sc := sc) (d := d) s t k R (by omega) with ⟨e2, K2, ⟨b1, b2, b3, b4⟩, b5⟩ | ⟨e2, K2, ⟨b1, b2⟩, b5⟩
  · rw [if_pos e2]
    obtain ⟨n3, n4⟩ := nx_b (k.tq t) (by omega)
    obtain ⟨y, K, z1, z2⟩ := m_sum5 (sc := sc) (d := d) s t L _ (emC cs (cdT (thT (unS B) L q))) K2 (by omega) (by show cs.1 + 1 + 1 ≤ _; omega) b3 b4
    refine ⟨y, K, z1.pre b1 b2, ?_⟩
    rw [q_X12_readSum_0, m_cal s b5, if_neg ne1]
    exact z2
  · rw [if_neg e2]
    refine ⟨0, K2, Rml.no b1 b2, ?_⟩
    rw [q_X12_readSum_0, m_cal s b5, if_pos rfl]
theorem m_tag (s : Sh h) (t : TB B L) (k : MQt B L J q) (R : MC J cs) (hn : cs.1 < 400) : ((-25 ≤ thT (unS B) L q ∧ thT (unS B) L q ≤ -23) ∧ ∃ K, (FM J K ∧ K 283 13 = J 283 13 ∧ MQt B L K (nxT (unS B) L q) ∧ MC K (emC cs (cdT (thT (unS B) L q)))) ∧ Cl sc (d + 6) mX12_readTag [Vr (some 283)] (hI h J) = some (.inl (Vi 1), hI h K)) ∨ (¬ (-25 ≤ thT (unS B) L q ∧ thT (unS B) L q ≤ -23) ∧ ∃ K, (FM J K ∧ K 283 13 = J 283 13 ∧ MQt B L K q ∧ MC K cs) ∧ Cl sc (d + 6) mX12_readTag [Vr (some 283)] (hI h J) = some (.inl (Vi 0), hI h K)) := by
  have ne1 : ¬ (1 : Int) = 0 := by decide
  have n1 : (-1 : Int) < 0 := by decide
  obtain ⟨K1, ⟨a1, a2⟩, a3⟩ := m_letters (sc := sc) (d := d + 2) s t k
  obtain ⟨a4, a5, a6, a7⟩ := id a2
  have R1 := R.fy a1
  have w1 := m_isWV (sc := sc) (d := d) s t a2 (j := 7) (by decide) (c := -23) rfl
  have w2 := m_isWV (sc := sc) (d := d) s t a2 (j := 8) (by decide) (c := -24) rfl
  have w3 := m_isWV (sc := sc) (d := d) s t a2 (j := 19) (by decide) (c := -25) rfl
  simp only [Nat.reduceAdd] at w1 w2 w3
  have go : ∀ {c u : Int}, thT (unS B) L q = c → c = -17 - u → 6 ≤ u ∧ u ≤ 8 → MQt B L K1 (nxT (unS B) L q) → ((-25 ≤ thT (unS B) L q ∧ thT (unS B) L q ≤ -23) ∧ ∃ K, (FM J K ∧ K 283 13 = J 283 13 ∧ MQt B L K (nxT (unS B) L q) ∧ MC K (emC cs (cdT (thT (unS B) L q)))) ∧ Ru sc (d + 6) mX12_readTag 22 [Vr (some 283), Vx 0] [Vi u] (hI h K1) = some (.inl (Vi 1), hI h K)) := by
    intro c u h1 h2 h3 h4
    have u0 : ¬ u < 0 := by omega
    obtain ⟨K3, ⟨c1, c2, c3, c4, c5⟩, c6⟩ := m_emits (sc := sc) (d := d + 4) (B := B) (L := L) s R1 hn (p := (u, 0))
    have ec : cdT (thT (unS B) L q) = (u, 0) := by
      rw [cdT_1 (by omega), h1, h2]
      congr 1
      omega
    rw [ec]
    refine ⟨by omega, K3, ⟨a1.m.tr c1, c4.trans a1.e13, c2 _ h4, c5⟩, ?_⟩
    rw [q_X12_readTag_22, if_neg u0, m_calV s c6, if_neg u0]
  rcases w1 with ⟨e1, k1, x1⟩ | ⟨e1, x1⟩
  · obtain ⟨g1, K, g2, g3⟩ := go e1 (u := 6) rfl (by decide) k1
    refine Or.inl ⟨g1, K, g2, ?_⟩
    rw [q_X12_readTag_0, m_calV s a3, m_cal s x1, if_neg ne1]
    exact g3
  · rcases w2 with ⟨e2, k1, x2⟩ | ⟨e2, x2⟩
    · obtain ⟨g1, K, g2, g3⟩ := go e2 (u := 7) rfl (by decide) k1
      refine Or.inl ⟨g1, K, g2, ?_⟩
      rw [q_X12_readTag_0, m_calV s a3, m_cal s x1, if_pos rfl, m_cal s x2, if_neg ne1]
      exact g3
    · rcases w3 with ⟨e3, k1, x3⟩ | ⟨e3, x3⟩
      · obtain ⟨g1, K, g2, g3⟩ := go e3 (u := 8) rfl (by decide) k1
        refine Or.inl ⟨g1, K, g2, ?_⟩
        rw [q_X12_readTag_0, m_calV s a3, m_cal s x1, if_pos rfl, m_cal s x2, if_pos rfl, m_cal s x3, if_neg ne1]
        exact g3
      · have fy : Fy K1 (am_u2 K1 283 10 (q : Int)) := (Fy.rf K1).u (Or.inl rfl)
        have mq : MQt B L (am_u2 K1 283 10 (q : Int)) q := by
          have := (a4.fy fy).mq (J := am_u2 K1 283 10 (q : Int)) u2_same a5.1
          rwa [blk_self a5] at this
        refine Or.inr ⟨by omega, am_u2 K1 283 10 (q : Int), ⟨(a1.tr fy).m, (a1.tr fy).e13, mq, R1.fy fy⟩, ?_⟩
        rw [q_X12_readTag_0, m_calV s a3, m_cal s x1, if_pos rfl, m_cal s x2, if_pos rfl, m_cal s x3, if_pos rfl, q_X12_readTag_22, if_pos n1, e_gfI (s.T 283 rfl), a6, e_pfI (s.T 283 rfl), if_pos n1]
theorem m_at85 (s : Sh h) (t : TB B L) (hD : 8 ≤ D) (k : MQt B L J q) (R : MC J cs) (hc : cs.1 + 1 ≤ q) {v : Int} {u : Int × Int} (hu : (v = 0 ∧ u = (12, 0)) ∨ (v = 1 ∧ u = (11, 0))) : ∃ y K, Rml B L J K y (bnR (suL (unS B) L (L + 1) true q cs) (fun q2 cs2 => (q2, some (emC cs2 u)))) ∧ Ru sc (D + 1) mX12_readAtom 85 [Vr (some 283), Vi v] [] (hI h J) = some (.inl (Vi y), hI h K) := by
  have ne1 : ¬ (1 : Int) = 0 := by decide
  obtain ⟨d, rfl⟩ : ∃ d, D = d + 8 := ⟨D - 8, by omega⟩
  obtain ⟨y, K, z1, z2⟩ := m_suR (sc := sc) (d := d) s t k R hc
  have g2 := suL_1 (cs := cs) (k.tq t)
  rcases e2 : suL (unS B) L (L + 1) true q cs with ⟨q2, _ | c2⟩
  · rw [e2] at z1
    rcases z1.go with ⟨-, rfl, w3⟩ | ⟨w, w1, -⟩
    · refine ⟨0, K, ⟨z1.1, Or.inr ⟨rfl, rfl, w3⟩⟩, ?_⟩
      rw [q_X12_readAtom_85, m_cal s z2, if_pos rfl]
    · cases w1
  · rw [e2] at z1 g2
    obtain ⟨y1, y2, y3, y4, y5⟩ := g2 c2 rfl
    dsimp only at y1 y2 y3
    rcases z1.go with ⟨w1, -⟩ | ⟨w, w1, rfl, w3, w4, w5⟩
    · cases w1
    · cases w1
      have h400 := w4.le t
      rcases hu with ⟨rfl, rfl⟩ | ⟨rfl, rfl⟩
      · obtain ⟨K3, ⟨c1, c2, c3, c4, c5⟩, c6⟩ := m_emits (sc := sc) (d := d + 7) (B := B) (L := L) s w5 (by omega) (p := (12, 0))
        refine ⟨1, K3, Rml.ok (z1.1.tr c1) (c4.trans w3) (c2 _ w4) c5, ?_⟩
        rw [q_X12_readAtom_85, m_cal s z2, if_neg ne1, if_pos rfl, m_calV s c6]
      · obtain ⟨K3, ⟨c1, c2, c3, c4, c5⟩, c6⟩ := m_emits (sc := sc) (d := d + 7) (B := B) (L := L) s w5 (by omega) (p := (11, 0))
        refine ⟨1, K3, Rml.ok (z1.1.tr c1) (c4.trans w3) (c2 _ w4) c5, ?_⟩
        rw [q_X12_readAtom_85, m_cal s z2, if_neg ne1, if_neg ne1, m_calV s c6]
/-- a leaf: behind ( and not were refused -/
theorem m_leR (s : Sh h) (t : TB B L) (hD : 8 ≤ D) (k : MQt B L J q) (R : MC J cs) (hc : cs.1 + 1 ≤ q) : ∃ y K, Rml B L J K y (leR (unS B) L q cs) ∧ am_rcv 12 (hI h J) (Vr (some 283)) (
      clI (Cl sc D mX12_readTag [Vr (some 283)] (hI h J)) am_xt fun v6 h5 =>
      if v6 = 0 then
        am_rcv 12 h5 (Vr (some 283)) (
        clI (Cl sc D mX12_readSum [Vr (some 283)] h5) am_xt fun v8 h7 =>
        if v8 = 0 then
          some (.inl (Vi 0), h7)
        else
          am_rcv 12 h7 (Vr (some 283)) (
          clI (Cl sc D mX12_sign [Vr (some 283), Vi 60] h7) am_xt fun v10 h9 =>
          if v10 = 0 then
            am_rcv 12 h9 (Vr (some 283)) (
            clI (Cl sc D mX12_sign [Vr (some 283), Vi 62] h9) am_xt fun v12 h11 =>
            if v12 = 0 then
              some (.inl (Vi 0), h11)
            else
              Ru sc (D + 1) mX12_readAtom 85 [Vr (some 283), Vi v10] [] h11)
          else
            Ru sc (D + 1) mX12_readAtom 85 [Vr (some 283), Vi v10] [] h9))
      else
        some (.inl (Vi 1), h5)) = some (.inl (Vi y), hI h K) := by
  have ne1 : ¬ (1 : Int) = 0 := by decide
  have h4 := k.le t
  obtain ⟨d, rfl⟩ : ∃ d, D = d + 8 := ⟨D - 8, by omega⟩
  unfold leR
  rcases m_tag (sc := sc) (d := d + 2) s t k R (by omega) with ⟨e1, K1, ⟨a1, a2, a3, a4⟩, a5⟩ | ⟨e1, K1, ⟨a1, a2, a3, a4⟩, a5⟩
  · rw [if_pos e1]
    refine ⟨1, K1, Rml.ok a1 a2 a3 a4, ?_⟩
    rw [m_cal s a5, if_neg ne1]
  · rw [if_neg e1]
    unfold cmR
    obtain ⟨y, K, z1, z2⟩ := m_suR (sc := sc) (d := d) s t a3 a4 hc
    have g2 := suL_1 (cs := cs) (k.tq t)
    rcases e2 : suL (unS B) L (L + 1) true q cs with ⟨q1, _ | c1⟩
    · rw [e2] at z1
      rcases z1.go with ⟨-, rfl, w3⟩ | ⟨w, w1, -⟩
      · refine ⟨0, K, ⟨a1.tr z1.1, Or.inr ⟨rfl, rfl, w3⟩⟩, ?_⟩
        rw [m_cal s a5, if_pos rfl, m_cal s z2, if_pos rfl]
      · cases w1
    · rw [e2] at z1 g2
      obtain ⟨y1, y2, y3, y4, y5⟩ := g2 c1 rfl
      dsimp only at y1 y2 y3
      rw [bnR_so]
      rcases z1.go with ⟨w1, -⟩ | ⟨w, w1, rfl, w3, w4, w5⟩
      · cases w1
      · cases w1
        rcases m_sign (sc := sc) (d := d + 5) s t w4 (c := 60) (v := -28) (by omega) with ⟨e3, K4, ⟨g1, g3, g5⟩, g4⟩ | ⟨e3, K4, ⟨g1, g3, g5⟩, g4⟩
        · rw [if_pos e3]
          obtain ⟨t1, t2⟩ := nx_b y2 (by omega)
          obtain ⟨v, K5, x1, x2⟩ := m_at85 (sc := sc) (D := d + 8) s t (by omega) g3 (w5.fy g1) (by omega) (v := 1) (u := (11, 0)) (Or.inr ⟨rfl, rfl⟩)
          refine ⟨v, K5, x1.pre ((a1.tr z1.1).tr g1.m) (g1.e13.trans (w3.trans a2)), ?_⟩
          rw [m_cal s a5, if_pos rfl, m_cal s z2, if_neg ne1, m_cal s g4, if_neg ne1]
          exact x2
        · rw [if_neg e3]
          rcases m_sign (sc := sc) (d := d + 5) s t g3 (c := 62) (v := -29) (by omega) with ⟨e5, K6, ⟨i1, i3, i5⟩, i4⟩ | ⟨e5, K6, ⟨i1, i3, i5⟩, i4⟩
          · rw [if_pos e5]
            obtain ⟨t1, t2⟩ := nx_b y2 (by omega)
            obtain ⟨v, K5, x1, x2⟩ := m_at85 (sc := sc) (D := d + 8) s t (by omega) i3 ((w5.fy g1).fy i1) (by omega) (v := 0) (u := (12, 0)) (Or.inl ⟨rfl, rfl⟩)
            refine ⟨v, K5, x1.pre (((a1.tr z1.1).tr g1.m).tr i1.m) (i1.e13.trans (g1.e13.trans (w3.trans a2))), ?_⟩
            rw [m_cal s a5, if_pos rfl, m_cal s z2, if_neg ne1, m_cal s g4, if_pos rfl, m_cal s i4, if_neg ne1]
            exact x2
          · rw [if_neg e5]
            refine ⟨0, K6, Rml.no (((a1.tr z1.1).tr g1.m).tr i1.m) i5, ?_⟩
            rw [m_cal s a5, if_pos rfl, m_cal s z2, if_neg ne1, m_cal s g4, if_pos rfl, m_cal s i4, if_pos rfl]
end
