/-! A LAW'S TEXT: the reference -/
def MC (K : am_I) (cs : am_Cs) : Prop := K 283 16 = (cs.1 : Int) ∧ ∀ i, i < cs.1 → K 284 (1529 + 2 * i) = (cs.2 i).1 ∧ K 284 (1529 + 2 * i + 1) = (cs.2 i).2
def FM (J K : am_I) : Prop := (∀ x j, ¬ (x = 283 ∧ (j = 10 ∨ j = 12 ∨ j = 13 ∨ j = 16)) → x ≠ 284 → K x j = J x j) ∧ ∀ j, j < 1529 → K 284 j = J 284 j
theorem FM.rf (J : am_I) : FM J J := ⟨fun _ _ _ _ => rfl, fun _ _ => rfl⟩
theorem FM.tr {I J K : am_I} (a : FM I J) (b : FM J K) : FM I K := ⟨fun x j h1 h2 => (b.1 x j h1 h2).trans (a.1 x j h1 h2), fun j h => (b.2 j h).trans (a.2 j h)⟩
theorem Fy.m {J K : am_I} (a : Fy J K) : FM J K := ⟨fun x j h1 _ => a x j (by omega), fun j _ => congrFun (a.p (by decide)) j⟩
theorem Fy.e13 {J K : am_I} (a : Fy J K) : K 283 13 = J 283 13 := a 283 13 (by omega)
def Rml (B : Nat → Int) (L : Nat) (J K : am_I) (v : Int) (r : Nat × Option am_Cs) : Prop := FM J K ∧ ((∃ cs, r.2 = some cs ∧ v = 1 ∧ K 283 13 = J 283 13 ∧ MQt B L K r.1 ∧ MC K cs) ∨ (r.2 = none ∧ v = 0 ∧ K 283 12 = (r.1 : Int)))
section
variable {sc : Nat × (Nat → Int)} {d D : Nat} {h : am_H} {I J K : am_I} {B : Nat → Int} {L q b F : Nat} {cs : am_Cs} {x y dep : Int} {r : Nat × Option am_Cs} {at_ : Nat → am_Cs → Nat × Option am_Cs}
theorem MC.fy (k : MC J cs) (f : Fy J K) : MC K cs := by
  unfold MC
  rw [f 283 16 (by omega), f.p (show (284 : Nat) ≠ 283 by decide)]
  exact k
theorem MQt.fr (k : MQt B L J q) (e10 : K 283 10 = J 283 10) (e11 : K 283 11 = J 283 11) (e9 : K 289 = J 289) : MQt B L K q := by
  obtain ⟨⟨k1, k2⟩, p, k3, k4, k5⟩ := k
  exact ⟨⟨e9.trans k1, e11.trans k2⟩, p, e10.trans k3, k4, k5⟩
theorem MQt.le (t : TB B L) (k : MQt B L J q) : q ≤ 400 := by
  have := (k.tq t).1
  have := t.1
  omega
theorem Rml.v01 (z : Rml B L J K y r) : y = 0 ∨ y = 1 := by
  rcases z.2 with ⟨w, -, e, -⟩ | ⟨-, e, -⟩
  · exact Or.inr e
  · exact Or.inl e
theorem Rml.pre (e : FM I J) (e2 : J 283 13 = I 283 13) (z : Rml B L J K y r) : Rml B L I K y r := by
  refine ⟨e.tr z.1, ?_⟩
  rcases z.2 with ⟨w, z1, z2, z3, z4⟩ | z
  · exact Or.inl ⟨w, z1, z2, z3.trans e2, z4⟩
  · exact Or.inr z
theorem Rml.no (e : FM I J) (e2 : J 283 12 = (q : Int)) : Rml B L I J 0 (q, none) := ⟨e, Or.inr ⟨rfl, rfl, e2⟩⟩
theorem Rml.ok (e : FM I J) (e2 : J 283 13 = I 283 13) (k : MQt B L J q) (R : MC J cs) : Rml B L I J 1 (q, some cs) := ⟨e, Or.inl ⟨cs, rfl, rfl, e2, k, R⟩⟩
theorem Rml.go {q1 : Nat} {o : Option am_Cs} (z : Rml B L J K y (q1, o)) : (o = none ∧ y = 0 ∧ K 283 12 = (q1 : Int)) ∨ ∃ c, o = some c ∧ y = 1 ∧ K 283 13 = J 283 13 ∧ MQt B L K q1 ∧ MC K c := by
  rcases z.2 with ⟨w, w1, w2, w3, w4, w5⟩ | z
  · exact Or.inr ⟨w, w1, w2, w3, w4, w5⟩
  · exact Or.inl z
theorem ar_m1 {n : Nat} (hn : n < 400) : w32 (1529 + w32 (2 * (n : Int))) = ((1529 + 2 * n : Nat) : Int) ∧ w32 (((1529 + 2 * n : Nat) : Int) + 1) = ((1529 + 2 * n + 1 : Nat) : Int) ∧ w32 ((n : Int) + 1) = ((n + 1 : Nat) : Int) ∧ ((1529 + 2 * n : Nat) : Int) < 2329 ∧ ((1529 + 2 * n + 1 : Nat) : Int) < 2329 := by
  rw [w32_id (z := 2 * (n : Int)) (by omega) (by omega), w32_id (z := 1529 + 2 * (n : Int)) (by omega) (by omega), w32_id (z := ((1529 + 2 * n : Nat) : Int) + 1) (by omega) (by omega), w32_id (by omega) (by omega)]
  omega
def emW (J : am_I) (n : Nat) (p q : Int) : am_I := am_u2 (am_u2 (am_u2 J 284 (1529 + 2 * n) p) 284 (1529 + 2 * n + 1) q) 283 16 ((n + 1 : Nat) : Int)
theorem emW_f {n : Nat} {p q : Int} : FM J (emW J n p q) ∧ emW J n p q 283 12 = J 283 12 ∧ emW J n p q 283 13 = J 283 13 ∧ emW J n p q 283 10 = J 283 10 := by
  refine ⟨⟨fun x j h1 h2 => ?_, fun j hj => ?_⟩, ?_, ?_, ?_⟩
  · unfold emW am_u2
    rw [if_neg (by omega), if_neg (by omega), if_neg (by omega)]
  · unfold emW
    rw [u2_a (by decide), u2_j (by omega), u2_j (by omega)]
  · unfold emW
    rw [u2_j (by decide), u2_a (by decide), u2_a (by decide)]
  · unfold emW
    rw [u2_j (by decide), u2_a (by decide), u2_a (by decide)]
  · unfold emW
    rw [u2_j (by decide), u2_a (by decide), u2_a (by decide)]
/-- a code emitted, whatever it be -/
theorem m_emits0 (s : Sh h) (e : J 283 16 = (cs.1 : Int)) (hn : cs.1 < 400) {p q : Int} : Cl sc (d + 1) mX12_emits [Vr (some 283), Vi p, Vi q] (hI h J) = some (.inl (Vx 0), hI h (emW J cs.1 p q)) := by
  have gp : ∀ (I : am_I) (k : Option Nat → am_R), gfP 12 1 (hI h I) (some 283) k = k (some 284) := (BM s).2.2.2.1
  have e2 : am_u2 J 284 (1529 + 2 * cs.1) p 283 16 = (cs.1 : Int) := by rw [u2_a (by decide)]; exact e
  have e3 : am_u2 (am_u2 J 284 (1529 + 2 * cs.1) p) 284 (1529 + 2 * cs.1 + 1) q 283 16 = (cs.1 : Int) := by rw [u2_a (by decide)]; exact e2
  obtain ⟨w1, w2, w3, l1, l2⟩ := ar_m1 hn
  rw [q_X12_emits_0, gp, e_gfI (s.T 283 rfl), e, w1, e_stA (s.T 284 rfl) (Int.natCast_nonneg _) l1, Int.toNat_natCast, gp, e_gfI (s.T 283 rfl), e2, w1, w2, e_stA (s.T 284 rfl) (Int.natCast_nonneg _) l2, Int.toNat_natCast, e_gfI (s.T 283 rfl), e3, w3, e_pfI (s.T 283 rfl)]
  rfl
theorem m_emits (s : Sh h) (k : MC J cs) (hn : cs.1 < 400) {p : Int × Int} : ∃ K, (FM J K ∧ (∀ q, MQt B L J q → MQt B L K q) ∧ K 283 12 = J 283 12 ∧ K 283 13 = J 283 13 ∧ MC K (emC cs p)) ∧ Cl sc (d + 1) mX12_emits [Vr (some 283), Vi p.1, Vi p.2] (hI h J) = some (.inl (Vx 0), hI h K) := by
  obtain ⟨f1, f2, f3, f4⟩ := emW_f (J := J) (n := cs.1) (p := p.1) (q := p.2)
  refine ⟨emW J cs.1 p.1 p.2, ⟨f1, fun q kq => kq.fr f4 (f1.1 283 11 (by omega) (by decide)) (funext fun j => f1.1 289 j (by omega) (by decide)), f2, f3, ?_, fun i hi => ?_⟩, m_emits0 s k.1 hn⟩
  · unfold emW
    exact u2_same
  · have hi : i < cs.1 + 1 := hi
    unfold emW
    rw [u2_o (show (284 : Nat) ≠ 283 by decide)]
    show _ = (if i = cs.1 then p else cs.2 i).1 ∧ _ = (if i = cs.1 then p else cs.2 i).2
    by_cases e9 : i = cs.1
    · rw [if_pos e9, e9, u2_j (show ¬ 1529 + 2 * cs.1 = 1529 + 2 * cs.1 + 1 by omega), u2_same, u2_same]
      exact ⟨rfl, rfl⟩
    · rw [if_neg e9, u2_j (show ¬ 1529 + 2 * i = 1529 + 2 * cs.1 + 1 by omega), u2_j (show ¬ 1529 + 2 * i = 1529 + 2 * cs.1 by omega), u2_j (show ¬ 1529 + 2 * i + 1 = 1529 + 2 * cs.1 + 1 by omega), u2_j (show ¬ 1529 + 2 * i + 1 = 1529 + 2 * cs.1 by omega)]
      exact k.2 i (by omega)
/-- the word of a part -/
theorem m_wop (s : Sh h) (t : TB B L) (k : MW B L J q) : ((-22 ≤ thT (unS B) L q ∧ thT (unS B) L q ≤ -17) ∧ MQt B L J (nxT (unS B) L q) ∧ Cl sc (d + 6) mX12_wordOfPart [Vr (some 283)] (hI h J) = some (.inl (Vi (-17 - thT (unS B) L q)), hI h J)) ∨ (¬ (-22 ≤ thT (unS B) L q ∧ thT (unS B) L q ≤ -17) ∧ Cl sc (d + 6) mX12_wordOfPart [Vr (some 283)] (hI h J) = some (.inl (Vi (-1)), hI h J)) := by
  have ne1 : ¬ (1 : Int) = 0 := by decide
  have w1 := m_isWV (sc := sc) (d := d) s t k (j := 20) (by decide) (c := -17) rfl
  have w2 := m_isWV (sc := sc) (d := d) s t k (j := 5) (by decide) (c := -18) rfl
  have w3 := m_isWV (sc := sc) (d := d) s t k (j := 6) (by decide) (c := -19) rfl
  have w4 := m_isWV (sc := sc) (d := d) s t k (j := 21) (by decide) (c := -20) rfl
  have w5 := m_isWV (sc := sc) (d := d) s t k (j := 22) (by decide) (c := -21) rfl
  have w6 := m_isWV (sc := sc) (d := d) s t k (j := 4) (by decide) (c := -22) rfl
  simp only [Nat.reduceAdd] at w1 w2 w3 w4 w5 w6
  rcases w1 with ⟨e1, k1, x1⟩ | ⟨e1, x1⟩
  · refine Or.inl ⟨by omega, k1, ?_⟩
    rw [q_X12_wordOfPart_0, m_cal s x1, if_neg ne1, e1]
    rfl
  · rcases w2 with ⟨e2, k1, x2⟩ | ⟨e2, x2⟩
    · refine Or.inl ⟨by omega, k1, ?_⟩
      rw [q_X12_wordOfPart_0, m_cal s x1, if_pos rfl, m_cal s x2, if_neg ne1, e2]
      rfl
    · rcases w3 with ⟨e3, k1, x3⟩ | ⟨e3, x3⟩
      · refine Or.inl ⟨by omega, k1, ?_⟩
        rw [q_X12_wordOfPart_0, m_cal s x1, if_pos rfl, m_cal s x2, if_pos rfl, m_cal s x3, if_neg ne1, e3]
        rfl
      · rcases w4 with ⟨e4, k1, x4⟩ | ⟨e4, x4⟩
        · refine Or.inl ⟨by omega, k1, ?_⟩
          rw [q_X12_wordOfPart_0, m_cal s x1, if_pos rfl, m_cal s x2, if_pos rfl, m_cal s x3, if_pos rfl, m_cal s x4, if_neg ne1, e4]
          rfl
        · rcases w5 with ⟨e5, k1, x5⟩ | ⟨e5, x5⟩
          · refine Or.inl ⟨by omega, k1, ?_⟩
            rw [q_X12_wordOfPart_0, m_cal s x1, if_pos rfl, m_cal s x2, if_pos rfl, m_cal s x3, if_pos rfl, m_cal s x4, if_pos rfl, m_cal s x5, if_neg ne1, e5]
            rfl
          · rcases w6 with ⟨e6, k1, x6⟩ | ⟨e6, x6⟩
            · refine Or.inl ⟨by omega, k1, ?_⟩
              rw [q_X12_wordOfPart_0, m_cal s x1, if_pos rfl, m_cal s x2, if_pos rfl, m_cal s x3, if_pos rfl, m_cal s x4, if_pos rfl, m_cal s x5, if_pos rfl, m_cal s x6, if_neg ne1, e6]
              rfl
            · refine Or.inr ⟨by omega, ?_⟩
              rw [q_X12_wordOfPart_0, m_cal s x1, if_pos rfl, m_cal s x2, if_pos rfl, m_cal s x3, if_pos rfl, m_cal s x4, if_pos rfl, m_cal s x5, if_pos rfl, m_cal s x6, if_pos rfl]
/-- letters or not -/
theorem le_is (hq : TQ (unS B) L q) : (leT (unS B) L q = q ∧ ¬ (-22 ≤ thT (unS B) L q ∧ thT (unS B) L q ≤ -17)) ∨ (¬ leT (unS B) L q = q ∧ ¬ (0 ≤ thT (unS B) L q ∧ thT (unS B) L q ≤ 999)) := by
  rcases th_cases hq with ⟨a1, a4⟩ | ⟨a1, a2, a3, a4⟩ | ⟨a1, a2, a3, a4⟩ | ⟨a1, a2, a3, a4⟩
  · refine Or.inl ⟨if_neg (by omega), by omega⟩
  · have e : leT (unS B) L q = enT (unS B) L q := if_pos ⟨a1, a2⟩
    have := enT_b (A := unS B) a1
    refine Or.inr ⟨by omega, ?_⟩
    rw [a4]
    rcases wth_rng (A := unS B) (q := q) (e := enT (unS B) L q) 23 0 (by decide) with y | ⟨j, j1, y⟩
    · omega
    · have := (wc_n2 j j1).2.2.1
      omega
  · refine Or.inl ⟨if_neg (by rw [a2]; simp), ?_⟩
    rcases a4 with ⟨-, z⟩ | ⟨-, -, z, -⟩ <;> omega
  · refine Or.inl ⟨if_neg (by rw [a2]; simp), ?_⟩
    rw [a4]
    have := sg_rng (unS B q)
    omega
theorem m_part (s : Sh h) (t : TB B L) (k : MQt B L J q) (R : MC J cs) (hn : cs.1 < 400) : (((0 ≤ thT (unS B) L q ∧ thT (unS B) L q ≤ 999) ∨ (-22 ≤ thT (unS B) L q ∧ thT (unS B) L q ≤ -17)) ∧ ∃ K, (FM J K ∧ K 283 13 = J 283 13 ∧ MQt B L K (nxT (unS B) L q) ∧ MC K (emC cs (cdT (thT (unS B) L q)))) ∧ Cl sc (d + 7) mX12_readPart [Vr (some 283)] (hI h J) = some (.inl (Vi 1), hI h K)) ∨ (¬ ((0 ≤ thT (unS B) L q ∧ thT (unS B) L q ≤ 999) ∨ (-22 ≤ thT (unS B) L q ∧ thT (unS B) L q ≤ -17)) ∧ ∃ K, (FM J K ∧ K 283 12 = (q : Int)) ∧ Cl sc (d + 7) mX12_readPart [Vr (some 283)] (hI h J) = some (.inl (Vi 0), hI h K)) := by
  have ne1 : ¬ (1 : Int) = 0 := by decide
  have n1 : (-1 : Int) < 0 := by decide
  obtain ⟨K1, ⟨a1, a2⟩, a3⟩ := m_letters (sc := sc) (d := d + 3) s t k
  obtain ⟨a4, a5, a6, a7⟩ := id a2
  have R1 := R.fy a1
  rcases le_is a5 with ⟨e1, e2⟩ | ⟨e1, e2⟩
  · rw [e1] at a7
    have k1 : MQt B L K1 q := by
      have := a4.mq a7 a5.1
      rwa [blk_self a5] at this
    rcases m_number (sc := sc) (d := d + 3) s t k1 (hi := 999) (by decide) with ⟨e3, K2, ⟨b1, b2, b3⟩, b4⟩ | ⟨e3, K2, ⟨b1, b2, b3⟩, b4⟩
    · obtain ⟨K3, ⟨c1, c2, c3, c4, c5⟩, c6⟩ := m_emits (sc := sc) (d := d + 5) (B := B) (L := L) s (R1.fy b1) hn (p := cdT (thT (unS B) L q))
      have e0 : ¬ thT (unS B) L q < 0 := by omega
      refine Or.inl ⟨Or.inl e3, K3, ⟨(a1.tr b1).m.tr c1, c4.trans (a1.tr b1).e13, c2 _ b2, c5⟩, ?_⟩
      rw [cdT_0 (by omega)] at c6
      rw [q_X12_readPart_0, m_calV s a3, e_gfI (s.T 283 rfl), e_gfI (s.T 283 rfl), a6, a7, if_pos rfl, q_X12_readPart_11, if_neg ne1, m_cal s b4, if_neg ne1, q_X12_readPart_29, if_neg ne1, m_calV s c6, if_neg e0]
    · have m0 := m_emits0 (sc := sc) (d := d + 5) s (R1.fy b1).1 hn (p := 9) (q := -1)
      have em := emW_f (J := K2) (n := cs.1) (p := 9) (q := -1)
      refine Or.inr ⟨by omega, _, ⟨(a1.tr b1).m.tr em.1, em.2.1.trans b3⟩, ?_⟩
      rw [q_X12_readPart_0, m_calV s a3, e_gfI (s.T 283 rfl), e_gfI (s.T 283 rfl), a6, a7, if_pos rfl, q_X12_readPart_11, if_neg ne1, m_cal s b4, if_neg ne1, q_X12_readPart_29, if_neg ne1, m_calV s m0, if_pos n1]
  · have nq : ¬ (leT (unS B) L q : Int) = (q : Int) := by omega
    rcases m_wop (sc := sc) (d := d) s t a2 with ⟨e3, k1, b4⟩ | ⟨e3, b4⟩
    · obtain ⟨K3, ⟨c1, c2, c3, c4, c5⟩, c6⟩ := m_emits (sc := sc) (d := d + 5) (B := B) (L := L) s R1 hn (p := cdT (thT (unS B) L q))
      have e0 : ¬ -17 - thT (unS B) L q < 0 := by omega
      refine Or.inl ⟨Or.inr e3, K3, ⟨a1.m.tr c1, c4.trans a1.e13, c2 _ k1, c5⟩, ?_⟩
      rw [cdT_1 (by omega)] at c6
      rw [q_X12_readPart_0, m_calV s a3, e_gfI (s.T 283 rfl), e_gfI (s.T 283 rfl), a6, a7, if_neg nq, q_X12_readPart_11, if_pos rfl, m_cal s b4, if_pos rfl, q_X12_readPart_29, if_pos rfl, m_calV s c6, if_neg e0]
    · have m0 := m_emits0 (sc := sc) (d := d + 5) s R1.1 hn (p := -1) (q := 0)
      have em := emW_f (J := K1) (n := cs.1) (p := -1) (q := 0)
      refine Or.inr ⟨by omega, _, ⟨a1.m.tr em.1, em.2.1.trans a6⟩, ?_⟩
      rw [q_X12_readPart_0, m_calV s a3, e_gfI (s.T 283 rfl), e_gfI (s.T 283 rfl), a6, a7, if_neg nq, q_X12_readPart_11, if_pos rfl, m_cal s b4, if_pos rfl, q_X12_readPart_29, if_pos rfl, m_calV s m0, if_pos n1]
end
