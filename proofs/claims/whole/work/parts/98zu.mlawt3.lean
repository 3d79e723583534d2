/-! A LAW'S TEXT: the reference's conditions -/
def MLA (sc : Nat × (Nat → Int)) (h : am_H) (B : Nat → Int) (L : Nat) (at_ : Nat → am_Cs → Nat × Option am_Cs) (m : Nat) (D : Nat) (dep : Int) : Prop := ∀ (q : Nat) (cs : am_Cs) (J : am_I), MQt B L J q → MC J cs → cs.1 + 1 ≤ q → J 283 13 = dep → ∃ y K, Rml B L J K y (at_ q cs) ∧ Cl sc D m [Vr (some 283)] (hI h J) = some (.inl (Vi y), hI h K)
section
variable {sc : Nat × (Nat → Int)} {d D : Nat} {h : am_H} {I J K : am_I} {B : Nat → Int} {L q b F : Nat} {cs : am_Cs} {x y dep : Int} {r : Nat × Option am_Cs} {at_ : Nat → am_Cs → Nat × Option am_Cs}
/-- and behind and, to what is no and -/
theorem m_all5 (s : Sh h) (t : TB B L) (g : Ga (unS B) L b at_) (hat : MLA sc h B L at_ mX12_readAtom (D + 6) dep) : ∀ F due q cs (J : am_I), L < q + F → cs.1 + 1 + duN due ≤ q → MQt B L J q → MC J cs → J 283 13 = dep → (∃ K p, FM J K ∧ cdL (unS B) L at_ F due q cs = (p, none) ∧ K 283 12 = (p : Int) ∧ Ru sc (D + 7) mX12_readAllOf 5 [Vr (some 283)] [] (hI h J) = some (.inl (Vi 0), hI h K)) ∨ (∃ K q1 cs1 F1, (FM J K ∧ F1 ≤ F ∧ L < q1 + F1 ∧ q ≤ q1 ∧ cs1.1 + 1 + duN due ≤ q1 ∧ MQt B L K q1 ∧ MC K cs1 ∧ K 283 13 = dep ∧ thT (unS B) L q1 ≠ -30 ∧ cdL (unS B) L at_ F due q cs = cdL (unS B) L at_ F1 due q1 cs1) ∧ Ru sc (D + 7) mX12_readAllOf 5 [Vr (some 283)] [] (hI h J) = some (.inl (Vi 1), hI h K))
  | 0, due, q, cs, J, hF, hc, k, R, e13 => by
    have := (k.tq t).1
    omega
  | F + 1, due, q, cs, J, hF, hc, k, R, e13 => by
    have ne1 : ¬ (1 : Int) = 0 := by decide
    have pa := m_passes (sc := sc) (d := D) s t k (j := 17) (by decide)
    rcases pa with ⟨e1, K1, ⟨a1, a2, a3⟩, a4⟩ | ⟨e1, K1, ⟨a1, a2, a3⟩, a4⟩
    · have e1 : thT (unS B) L q = -30 := e1
      have a4 : Cl sc (D + 6) mX12_passes [Vr (some 283), Vx 19] (hI h J) = some (.inl (Vi 1), hI h K1) := a4
      have ec : cdL (unS B) L at_ (F + 1) due q cs = bnR (at_ (nxT (unS B) L q) cs) (fun q1 cs1 => cdL (unS B) L at_ F due q1 (emC cs1 (14, 0))) := if_pos e1
      rw [ec]
      obtain ⟨n1, n2⟩ := nx_b (k.tq t) (by omega)
      obtain ⟨v, K2, b1, b2⟩ := hat (nxT (unS B) L q) cs K1 a2 (R.fy a1) (by omega) (a1.e13.trans e13)
      have g1 := g (nxT (unS B) L q) cs n2
      rcases e2 : at_ (nxT (unS B) L q) cs with ⟨q1, _ | c1⟩
      · rw [e2] at b1
        rcases b1.go with ⟨-, rfl, w3⟩ | ⟨w, w1, -⟩
        · refine Or.inl ⟨K2, q1, a1.m.tr b1.1, rfl, w3, ?_⟩
          rw [q_X12_readAllOf_5, m_cal s a4, if_neg ne1, m_cal s b2, if_pos rfl]
        · cases w1
      · rw [e2] at b1 g1
        obtain ⟨x1, x2, x3, x4, x5⟩ := g1 c1 rfl
        dsimp only at x1 x2 x3
        rw [bnR_so]
        rcases b1.go with ⟨w1, -⟩ | ⟨w, w1, rfl, w3, w4, w5⟩
        · cases w1
        · cases w1
          have hq1 := w4.le t
          obtain ⟨K3, ⟨d1, d2, d3, d4, d5⟩, d6⟩ := m_emits (sc := sc) (d := D + 5) (B := B) (L := L) s w5 (by omega) (p := (14, 0))
          have run : Ru sc (D + 7) mX12_readAllOf 5 [Vr (some 283)] [] (hI h J) = Ru sc (D + 7) mX12_readAllOf 5 [Vr (some 283)] [] (hI h K3) := by
            rw [q_X12_readAllOf_5, m_cal s a4, if_neg ne1, m_cal s b2, if_neg ne1, m_calV s d6]
          have fm := (a1.m.tr b1.1).tr d1
          rcases m_all5 s t g hat F due q1 (emC c1 (14, 0)) K3 (by omega) (by show c1.1 + 1 + 1 + duN due ≤ q1; omega) (d2 _ w4) d5 (d4.trans (w3.trans (a1.e13.trans e13))) with ⟨K, p, z1, z2, z3, z4⟩ | ⟨K, q9, c9, F9, ⟨z1, z2, z3, z4, z5⟩, z6⟩
          · exact Or.inl ⟨K, p, fm.tr z1, z2, z3, run.trans z4⟩
          · exact Or.inr ⟨K, q9, c9, F9, ⟨fm.tr z1, by omega, z3, by omega, z5⟩, run.trans z6⟩
    · have e1 : thT (unS B) L q ≠ -30 := e1
      have a4 : Cl sc (D + 6) mX12_passes [Vr (some 283), Vx 19] (hI h J) = some (.inl (Vi 0), hI h K1) := a4
      refine Or.inr ⟨K1, q, cs, F + 1, ⟨a1.m, Nat.le_refl _, hF, Nat.le_refl _, hc, a2, R.fy a1, a1.e13.trans e13, e1, rfl⟩, ?_⟩
      rw [q_X12_readAllOf_5, m_cal s a4, if_pos rfl]
theorem m_cond5 (s : Sh h) (t : TB B L) (g : Ga (unS B) L b at_) (hat : MLA sc h B L at_ mX12_readAtom (D + 6) dep) : ∀ M F due q cs (J : am_I), F ≤ M → thT (unS B) L q ≠ -30 → L < q + F → cs.1 + 1 + duN due ≤ q → MQt B L J q → MC J (oC due cs) → J 283 13 = dep → ∃ y K, Rml B L J K y (cdL (unS B) L at_ F due q cs) ∧ Ru sc (D + 8) mX12_readCond 5 [Vr (some 283)] [] (hI h J) = some (.inl (Vi y), hI h K)
  | 0, F, due, q, cs, J, hM, hn, hF, hc, k, R, e13 => by
    have := (k.tq t).1
    omega
  | M + 1, 0, due, q, cs, J, hM, hn, hF, hc, k, R, e13 => by
    have := (k.tq t).1
    omega
  | M + 1, F + 1, due, q, cs, J, hM, hn, hF, hc, k, R, e13 => by
    have ne1 : ¬ (1 : Int) = 0 := by decide
    have o2 := (oC_g (cs := cs) (due := due)).2.1
    have pa := m_passes (sc := sc) (d := D + 1) s t k (j := 16) (by decide)
    unfold cdL
    rw [if_neg hn]
    rcases pa with ⟨e1, K1, ⟨a1, a2, a3⟩, a4⟩ | ⟨e1, K1, ⟨a1, a2, a3⟩, a4⟩
    · have e1 : thT (unS B) L q = -31 := e1
      have a4 : Cl sc (D + 7) mX12_passes [Vr (some 283), Vx 18] (hI h J) = some (.inl (Vi 1), hI h K1) := a4
      rw [if_pos e1]
      obtain ⟨n1, n2⟩ := nx_b (k.tq t) (by omega)
      obtain ⟨v, K2, b1, b2⟩ := hat (nxT (unS B) L q) (oC due cs) K1 a2 (R.fy a1) (by omega) (a1.e13.trans e13)
      have g1 := g (nxT (unS B) L q) (oC due cs) n2
      rcases e2 : at_ (nxT (unS B) L q) (oC due cs) with ⟨q1, _ | c1⟩
      · rw [e2] at b1
        rcases b1.go with ⟨-, rfl, w3⟩ | ⟨w, w1, -⟩
        · have al : Cl sc (D + 7) mX12_readAllOf [Vr (some 283)] (hI h K1) = some (.inl (Vi 0), hI h K2) := by
            rw [q_X12_readAllOf_0, m_cal s b2, if_pos rfl]
          refine ⟨0, K2, ⟨a1.m.tr b1.1, Or.inr ⟨rfl, rfl, w3⟩⟩, ?_⟩
          rw [q_X12_readCond_5, m_cal s a4, if_neg ne1, m_cal s al, if_pos rfl]
        · cases w1
      · rw [e2] at b1 g1
        obtain ⟨x1, x2, x3, x4, x5⟩ := g1 c1 rfl
        dsimp only at x1 x2 x3
        rw [bnR_so]
        rcases b1.go with ⟨w1, -⟩ | ⟨w, w1, rfl, w3, w4, w5⟩
        · cases w1
        · cases w1
          have fm := a1.m.tr b1.1
          rcases m_all5 s t g hat F true q1 c1 K2 (by omega) (by show c1.1 + 1 + 1 ≤ q1; omega) w4 w5 (w3.trans (a1.e13.trans e13)) with ⟨K, p, z1, z2, z3, z4⟩ | ⟨K, q9, c9, F9, ⟨z1, z2, z3, z4, z5, z7, z8, z9, z10, z11⟩, z6⟩
          · have al : Cl sc (D + 7) mX12_readAllOf [Vr (some 283)] (hI h K1) = some (.inl (Vi 0), hI h K) := by
              rw [q_X12_readAllOf_0, m_cal s b2, if_neg ne1]
              exact z4
            rw [z2]
            refine ⟨0, K, Rml.no (fm.tr z1) z3, ?_⟩
            rw [q_X12_readCond_5, m_cal s a4, if_neg ne1, m_cal s al, if_pos rfl]
          · have al : Cl sc (D + 7) mX12_readAllOf [Vr (some 283)] (hI h K1) = some (.inl (Vi 1), hI h K) := by
              rw [q_X12_readAllOf_0, m_cal s b2, if_neg ne1]
              exact z6
            have hq9 := z7.le t
            have z5' : c9.1 + 1 + 1 ≤ q9 := z5
            obtain ⟨K3, ⟨d1, d2, d3, d4, d5⟩, d6⟩ := m_emits (sc := sc) (d := D + 6) (B := B) (L := L) s z8 (by omega) (p := (15, 0))
            rw [z11]
            obtain ⟨y, K4, y1, y2⟩ := m_cond5 s t g hat M F9 true q9 c9 K3 (by omega) z10 z3 z5 (d2 _ z7) d5 (d4.trans z9)
            refine ⟨y, K4, y1.pre ((fm.tr z1).tr d1) (d4.trans (z9.trans e13.symm)), ?_⟩
            rw [q_X12_readCond_5, m_cal s a4, if_neg ne1, m_cal s al, if_neg ne1, m_calV s d6]
            exact y2
    · have e1 : thT (unS B) L q ≠ -31 := e1
      have a4 : Cl sc (D + 7) mX12_passes [Vr (some 283), Vx 18] (hI h J) = some (.inl (Vi 0), hI h K1) := a4
      rw [if_neg e1]
      refine ⟨1, K1, Rml.ok a1.m a1.e13 a2 (R.fy a1), ?_⟩
      rw [q_X12_readCond_5, m_cal s a4, if_pos rfl]
theorem m_co (s : Sh h) (t : TB B L) (g : Ga (unS B) L b at_) (hat : MLA sc h B L at_ mX12_readAtom (D + 6) dep) : MLA sc h B L (coR (unS B) L at_) mX12_readCond (D + 8) dep := by
  intro q cs J k R hc e13
  have ne1 : ¬ (1 : Int) = 0 := by decide
  unfold coR
  obtain ⟨v, K2, b1, b2⟩ := hat q cs J k R hc e13
  have g1 := g q cs (k.tq t)
  rcases e2 : at_ q cs with ⟨q1, _ | c1⟩
  · rw [e2] at b1
    rcases b1.go with ⟨-, rfl, w3⟩ | ⟨w, w1, -⟩
    · have al : Cl sc (D + 7) mX12_readAllOf [Vr (some 283)] (hI h J) = some (.inl (Vi 0), hI h K2) := by
        rw [q_X12_readAllOf_0, m_cal s b2, if_pos rfl]
      refine ⟨0, K2, ⟨b1.1, Or.inr ⟨rfl, rfl, w3⟩⟩, ?_⟩
      rw [q_X12_readCond_0, m_cal s al, if_pos rfl]
    · cases w1
  · rw [e2] at b1 g1
    obtain ⟨x1, x2, x3, x4, x5⟩ := g1 c1 rfl
    dsimp only at x1 x2 x3
    rw [bnR_so]
    rcases b1.go with ⟨w1, -⟩ | ⟨w, w1, rfl, w3, w4, w5⟩
    · cases w1
    · cases w1
      rcases m_all5 s t g hat (L + 1) false q1 c1 K2 (by omega) (by show c1.1 + 1 + 0 ≤ q1; omega) w4 w5 (w3.trans e13) with ⟨K, p, z1, z2, z3, z4⟩ | ⟨K, q9, c9, F9, ⟨z1, z2, z3, z4, z5, z7, z8, z9, z10, z11⟩, z6⟩
      · have al : Cl sc (D + 7) mX12_readAllOf [Vr (some 283)] (hI h J) = some (.inl (Vi 0), hI h K) := by
          rw [q_X12_readAllOf_0, m_cal s b2, if_neg ne1]
          exact z4
        rw [z2]
        refine ⟨0, K, Rml.no (b1.1.tr z1) z3, ?_⟩
        rw [q_X12_readCond_0, m_cal s al, if_pos rfl]
      · have al : Cl sc (D + 7) mX12_readAllOf [Vr (some 283)] (hI h J) = some (.inl (Vi 1), hI h K) := by
          rw [q_X12_readAllOf_0, m_cal s b2, if_neg ne1]
          exact z6
        rw [z11]
        obtain ⟨y, K4, y1, y2⟩ := m_cond5 s t g hat F9 F9 false q9 c9 K (Nat.le_refl _) z10 z3 z5 z7 z8 z9
        refine ⟨y, K4, y1.pre (b1.1.tr z1) (z9.trans e13.symm), ?_⟩
        rw [q_X12_readCond_0, m_cal s al, if_neg ne1]
        exact y2
theorem suL_no {A : Nat → Int} (h : thT A L q = -4 ∨ thT A L q = -26) : leR A L q cs = (q, none) := by
  unfold leR cmR suL
  rw [if_neg (by omega), if_neg (by omega)]
  rfl
theorem m_atR (s : Sh h) (t : TB B L) : ∀ k, k ≤ 6 → ∀ D, 8 + 3 * k ≤ D → MLA sc h B L (rdA (unS B) L k) mX12_readAtom (D + 1) ((6 - k : Nat) : Int)
  | 0, hk, D, hD => by
    intro q cs J k R hc e13
    have ne1 : ¬ (1 : Int) = 0 := by decide
    have e13 : J 283 13 = 6 := e13
    obtain ⟨d, rfl⟩ : ∃ d, D = d + 8 := ⟨D - 8, by omega⟩
    show ∃ y K, Rml B L J K y (leR (unS B) L q cs) ∧ _
    rcases m_sign (sc := sc) (d := d + 5) s t k (c := 40) (v := -4) (by omega) with ⟨e1, K1, ⟨a1, a2, a3⟩, a4⟩ | ⟨e1, K1, ⟨a1, a2, a3⟩, a4⟩
    · rw [suL_no (Or.inl e1)]
      refine ⟨0, K1, Rml.no a1.m a3, ?_⟩
      rw [q_X12_readAtom_0, m_cal s a4, if_neg ne1, e_gfI (s.T 283 rfl), a1.e13, e13, if_pos rfl]
    · rcases m_passes (sc := sc) (d := d + 2) s t a2 (j := 18) (by decide) with ⟨e2, K2, ⟨b1, b2, b3⟩, b4⟩ | ⟨e2, K2, ⟨b1, b2, b3⟩, b4⟩
      · have e2 : thT (unS B) L q = -26 := e2
        have b4 : Cl sc (d + 8) mX12_passes [Vr (some 283), Vx 20] (hI h K1) = some (.inl (Vi 1), hI h K2) := b4
        rw [suL_no (Or.inr e2)]
        refine ⟨0, K2, Rml.no (a1.tr b1).m b3, ?_⟩
        rw [q_X12_readAtom_0, m_cal s a4, if_pos rfl, m_cal s b4, if_neg ne1, e_gfI (s.T 283 rfl), (a1.tr b1).e13, e13, if_pos rfl]
      · have b4 : Cl sc (d + 8) mX12_passes [Vr (some 283), Vx 20] (hI h K1) = some (.inl (Vi 0), hI h K2) := b4
        obtain ⟨y, K, z1, z2⟩ := m_leR (sc := sc) (D := d + 8) s t (by omega) b2 (R.fy (a1.tr b1)) hc
        refine ⟨y, K, z1.pre (a1.tr b1).m (a1.tr b1).e13, ?_⟩
        rw [q_X12_readAtom_0, m_cal s a4, if_pos rfl, m_cal s b4, if_pos rfl]
        exact z2
  | k + 1, hk, D, hD => by
    intro q cs J kq R hc e13
    have ne1 : ¬ (1 : Int) = 0 := by decide
    obtain ⟨d, rfl⟩ : ∃ d, D = d + 8 := ⟨D - 8, by omega⟩
    have n6 : ¬ ((6 - (k + 1) : Nat) : Int) = 6 := by omega
    have wk : w32 (((6 - (k + 1) : Nat) : Int) + 1) = ((6 - k : Nat) : Int) := by
      rw [ar_t1 (by omega)]
      congr 1
      omega
    have wk2 : w32 (((6 - k : Nat) : Int) - 1) = ((6 - (k + 1) : Nat) : Int) := by
      rw [w32_id (by omega) (by omega)]
      omega
    have fy13 : ∀ (Q : am_I) (v : Int), FM Q (am_u2 Q 283 13 v) := fun Q v => ⟨fun x j h1 h2 => by
      unfold am_u2
      rw [if_neg (by clear wk wk2; omega)], fun j hj => u2_a (by decide)⟩
    have m13 : ∀ (Q : am_I) (v : Int) q, MQt B L Q q → MQt B L (am_u2 Q 283 13 v) q := fun Q v q kq => kq.fr (u2_j (by decide)) (u2_j (by decide)) (u2_o (by decide))
    have c13 : ∀ (Q : am_I) (v : Int) cs, MC Q cs → MC (am_u2 Q 283 13 v) cs := fun Q v cs kq => by
      unfold MC
      rw [u2_j (by decide), u2_o (by decide)]
      exact kq
    unfold rdA
    rcases m_sign (sc := sc) (d := d + 5) s t kq (c := 40) (v := -4) (by clear wk wk2; omega) with ⟨e1, K1, ⟨a1, a2, a3⟩, a4⟩ | ⟨e1, K1, ⟨a1, a2, a3⟩, a4⟩
    · rw [if_neg (by clear wk wk2; omega), if_pos e1]
      obtain ⟨n1, n2⟩ := nx_b (kq.tq t) (by clear wk wk2; omega)
      have ih := m_atR s t k (by clear wk wk2; omega) (d + 5) (by clear wk wk2; omega)
      obtain ⟨v, K2, b1, b2⟩ := m_co s t (rdA_g k) ih (nxT (unS B) L q) cs (am_u2 K1 283 13 ((6 - k : Nat) : Int)) (m13 _ _ _ a2) (c13 _ _ _ (R.fy a1)) (by clear wk wk2; omega) u2_same
      have fm := (a1.m.tr (fy13 K1 ((6 - k : Nat) : Int))).tr b1.1
      rcases e2 : coR (unS B) L (rdA (unS B) L k) (nxT (unS B) L q) cs with ⟨q1, _ | c1⟩
      · rw [e2] at b1
        rcases b1.go with ⟨-, rfl, w3⟩ | ⟨w, w1, -⟩
        · refine ⟨0, K2, ⟨fm, Or.inr ⟨rfl, rfl, w3⟩⟩, ?_⟩
          rw [q_X12_readAtom_0, m_cal s a4, if_neg ne1, e_gfI (s.T 283 rfl), a1.e13, e13, if_neg n6, e_gfI (s.T 283 rfl), a1.e13, e13, wk, e_pfI (s.T 283 rfl), m_cal s b2, if_pos rfl]
        · cases w1
      · rw [e2] at b1
        rw [bnR_so]
        rcases b1.go with ⟨w1, -⟩ | ⟨w, w1, rfl, w3, w4, w5⟩
        · cases w1
        · cases w1
          have e9 : K2 283 13 = ((6 - k : Nat) : Int) := w3.trans u2_same
          rcases m_sign (sc := sc) (d := d + 5) s t (m13 K2 ((6 - (k + 1) : Nat) : Int) _ w4) (c := 41) (v := -5) (by clear wk wk2; omega) with ⟨e6, K4, ⟨c1, c2, c3⟩, c4⟩ | ⟨e6, K4, ⟨c1, c2, c3⟩, c4⟩
          · rw [if_pos e6]
            refine ⟨1, K4, Rml.ok ((fm.tr (fy13 K2 _)).tr c1.m) (c1.e13.trans (u2_same.trans e13.symm)) c2 ((c13 _ _ _ w5).fy c1), ?_⟩
            rw [q_X12_readAtom_0, m_cal s a4, if_neg ne1, e_gfI (s.T 283 rfl), a1.e13, e13, if_neg n6, e_gfI (s.T 283 rfl), a1.e13, e13, wk, e_pfI (s.T 283 rfl), m_cal s b2, if_neg ne1, e_gfI (s.T 283 rfl), e9, wk2, e_pfI (s.T 283 rfl), m_cal s c4, r1_1]
          · rw [if_neg e6]
            refine ⟨0, K4, Rml.no ((fm.tr (fy13 K2 _)).tr c1.m) c3, ?_⟩
            rw [q_X12_readAtom_0, m_cal s a4, if_neg ne1, e_gfI (s.T 283 rfl), a1.e13, e13, if_neg n6, e_gfI (s.T 283 rfl), a1.e13, e13, wk, e_pfI (s.T 283 rfl), m_cal s b2, if_neg ne1, e_gfI (s.T 283 rfl), e9, wk2, e_pfI (s.T 283 rfl), m_cal s c4, r1_0]
    · rcases m_passes (sc := sc) (d := d + 2) s t a2 (j := 18) (by decide) with ⟨e3, K3, ⟨d1, d2, d3⟩, d4⟩ | ⟨e3, K3, ⟨d1, d2, d3⟩, d4⟩
      · have e3 : thT (unS B) L q = -26 := e3
        have d4 : Cl sc (d + 8) mX12_passes [Vr (some 283), Vx 20] (hI h K1) = some (.inl (Vi 1), hI h K3) := d4
        have f3 := a1.tr d1
        rw [if_pos e3]
        obtain ⟨n1, n2⟩ := nx_b (kq.tq t) (by clear wk wk2; omega)
        obtain ⟨v, K2, b1, b2⟩ := m_atR s t k (by clear wk wk2; omega) (d + 7) (by clear wk wk2; omega) (nxT (unS B) L q) cs (am_u2 K3 283 13 ((6 - k : Nat) : Int)) (m13 _ _ _ d2) (c13 _ _ _ (R.fy f3)) (by clear wk wk2; omega) u2_same
        have fm := (f3.m.tr (fy13 K3 ((6 - k : Nat) : Int))).tr b1.1
        have g1 := rdA_g k (nxT (unS B) L q) cs n2
        rcases e2 : rdA (unS B) L k (nxT (unS B) L q) cs with ⟨q1, _ | c1⟩
        · rw [e2] at b1
          rcases b1.go with ⟨-, rfl, w3⟩ | ⟨w, w1, -⟩
          · refine ⟨0, K2, ⟨fm, Or.inr ⟨rfl, rfl, w3⟩⟩, ?_⟩
            rw [q_X12_readAtom_0, m_cal s a4, if_pos rfl, m_cal s d4, if_neg ne1, e_gfI (s.T 283 rfl), f3.e13, e13, if_neg n6, e_gfI (s.T 283 rfl), f3.e13, e13, wk, e_pfI (s.T 283 rfl), m_cal s b2, if_pos rfl]
          · cases w1
        · rw [e2] at b1 g1
          obtain ⟨x1, x2, x3, x4, x5⟩ := g1 c1 rfl
          dsimp only at x1 x2 x3
          rw [bnR_so]
          rcases b1.go with ⟨w1, -⟩ | ⟨w, w1, rfl, w3, w4, w5⟩
          · cases w1
          · cases w1
            have hq1 := w4.le t
            have e9 : K2 283 13 = ((6 - k : Nat) : Int) := w3.trans u2_same
            obtain ⟨K5, ⟨i1, i2, i3, i4, i5⟩, i6⟩ := m_emits (sc := sc) (d := d + 7) (B := B) (L := L) s (c13 K2 ((6 - (k + 1) : Nat) : Int) _ w5) (by clear wk wk2; omega) (p := (13, 0))
            refine ⟨1, K5, Rml.ok ((fm.tr (fy13 K2 _)).tr i1) (i4.trans (u2_same.trans e13.symm)) (i2 _ (m13 _ _ _ w4)) i5, ?_⟩
            rw [q_X12_readAtom_0, m_cal s a4, if_pos rfl, m_cal s d4, if_neg ne1, e_gfI (s.T 283 rfl), f3.e13, e13, if_neg n6, e_gfI (s.T 283 rfl), f3.e13, e13, wk, e_pfI (s.T 283 rfl), m_cal s b2, if_neg ne1, e_gfI (s.T 283 rfl), e9, wk2, e_pfI (s.T 283 rfl), m_calV s i6]
      · have e3 : thT (unS B) L q ≠ -26 := e3
        have d4 : Cl sc (d + 8) mX12_passes [Vr (some 283), Vx 20] (hI h K1) = some (.inl (Vi 0), hI h K3) := d4
        rw [if_neg e3, if_neg e1]
        obtain ⟨y, K, z1, z2⟩ := m_leR (sc := sc) (D := d + 8) s t (by clear wk wk2; omega) d2 (R.fy (a1.tr d1)) hc
        refine ⟨y, K, z1.pre (a1.tr d1).m (a1.tr d1).e13, ?_⟩
        rw [q_X12_readAtom_0, m_cal s a4, if_pos rfl, m_cal s d4, if_pos rfl]
        exact z2
end
