/-! A LAW'S TEXT: the reference's lines -/
def LMm (K : am_I) (n : Nat) (ls : am_Ls) : Prop := ∀ k, k < n → K 284 (1481 + 4 * k) = (ls k).1.1 ∧ K 284 (1481 + 4 * k + 1) = (ls k).1.2 ∧ K 284 (1481 + 4 * k + 2) = (stL ls k : Int) ∧ K 284 (1481 + 4 * k + 3) = (stL ls (k + 1) : Int)
/-- what a line changes -/
def FN (i : Nat) (J K : am_I) : Prop := (∀ x j, ¬ (x = 283 ∧ (j = 10 ∨ j = 12 ∨ j = 13 ∨ j = 16)) → x ≠ 284 → K x j = J x j) ∧ ∀ j, j < 1481 + 4 * i → K 284 j = J 284 j
theorem FN.rf (i : Nat) (J : am_I) : FN i J J := ⟨fun _ _ _ _ => rfl, fun _ _ => rfl⟩
theorem FN.tr {i k : Nat} {I J K : am_I} (h : i ≤ k) (a : FN i I J) (b : FN k J K) : FN i I K := ⟨fun x j h1 h2 => (b.1 x j h1 h2).trans (a.1 x j h1 h2), fun j hj => (b.2 j (by omega)).trans (a.2 j hj)⟩
theorem FM.n {i : Nat} {J K : am_I} (h : i ≤ 12) (a : FM J K) : FN i J K := ⟨a.1, fun j hj => a.2 j (by omega)⟩
theorem FN.u {i p : Nat} {J : am_I} {v : Int} (h : 1481 + 4 * i ≤ p) : FN i J (am_u2 J 284 p v) := ⟨fun x j _ h2 => u2_a h2, fun j hj => u2_j (by omega)⟩
theorem FN.u13 {i : Nat} {J : am_I} {v : Int} : FN i J (am_u2 J 283 13 v) := ⟨fun x j h1 _ => by
  unfold am_u2
  rw [if_neg (by omega)], fun j _ => u2_a (by decide)⟩
section
variable {sc : Nat × (Nat → Int)} {d D : Nat} {h : am_H} {I J K : am_I} {B : Nat → Int} {L q b F p : Nat} {cs : am_Cs} {ls : am_Ls} {x y dep v : Int}
theorem MC.u4 (k : MC J cs) (hp : p < 1529) : MC (am_u2 J 284 p v) cs := by
  unfold MC
  rw [u2_a (by decide)]
  refine ⟨k.1, fun i hi => ?_⟩
  rw [u2_j (by omega), u2_j (by omega)]
  exact k.2 i hi
theorem MC.u13 (k : MC J cs) : MC (am_u2 J 283 13 v) cs := by
  unfold MC
  rw [u2_j (by decide), u2_o (by decide)]
  exact k
theorem MQt.u4 (k : MQt B L J q) : MQt B L (am_u2 J 284 p v) q := k.fr (u2_a (by decide)) (u2_a (by decide)) (u2_o (by decide))
theorem MQt.u13 (k : MQt B L J q) : MQt B L (am_u2 J 283 13 v) q := k.fr (u2_j (by decide)) (u2_j (by decide)) (u2_o (by decide))
theorem ar_m2 {i : Nat} (hi : i < 12) : w32 (1481 + w32 (4 * (i : Int))) = ((1481 + 4 * i : Nat) : Int) ∧ w32 (((1481 + 4 * i : Nat) : Int) + 1) = ((1481 + 4 * i + 1 : Nat) : Int) ∧ w32 (((1481 + 4 * i : Nat) : Int) + 2) = ((1481 + 4 * i + 2 : Nat) : Int) ∧ w32 (((1481 + 4 * i : Nat) : Int) + 3) = ((1481 + 4 * i + 3 : Nat) : Int) := by
  rw [w32_id (z := 4 * (i : Int)) (by omega) (by omega), w32_id (z := 1481 + 4 * (i : Int)) (by omega) (by omega), w32_id (z := ((1481 + 4 * i : Nat) : Int) + 1) (by omega) (by omega), w32_id (z := ((1481 + 4 * i : Nat) : Int) + 2) (by omega) (by omega), w32_id (by omega) (by omega)]
  omega
theorem m_ln29 (s : Sh h) (t : TB B L) (k : MQt B L J q) (R : MC J cs) (hc : cs.1 ≤ q) {i : Nat} (hi : i < 12) {c : Int} (h0 : 0 ≤ c) : ∃ y K, (FN i J K ∧ ((∃ n c', (rdNC (unS B) L q cs).2 = some (n, c') ∧ y = 1 ∧ MQt B L K (rdNC (unS B) L q cs).1 ∧ MC K c' ∧ K 284 (1481 + 4 * i) = c ∧ K 284 (1481 + 4 * i + 1) = n ∧ K 284 (1481 + 4 * i + 2) = (cs.1 : Int) ∧ K 284 (1481 + 4 * i + 3) = (c'.1 : Int)) ∨ ((rdNC (unS B) L q cs).2 = none ∧ y = 0 ∧ K 283 12 = ((rdNC (unS B) L q cs).1 : Int)))) ∧ Ru sc (d + 30) mX12_readLawLine 29 [Vr (some 283), Vi (i : Int), Vi ((1481 + 4 * i : Nat) : Int)] [Vi c, Vi ((1481 + 4 * i : Nat) : Int), Vr (some 284)] (hI h J) = some (.inl (Vi y), hI h K) := by
  have ne1 : ¬ (1 : Int) = 0 := by decide
  have n1 : (-1 : Int) < 0 := by decide
  have gp : ∀ (I : am_I) (k : Option Nat → am_R), gfP 12 1 (hI h I) (some 283) k = k (some 284) := (BM s).2.2.2.1
  have st : ∀ (n : Nat) (I : am_I) (v : Int) (k : am_H → am_R), n < 2329 → stA 1 (hI h I) (some 284) (n : Int) v k = k (hI h (am_u2 I 284 n v)) := fun n I v k hn => e_stA (s.T 284 rfl) (Int.natCast_nonneg n) (by omega)
  have ld : ∀ (n : Nat) (I : am_I) (k : Int → am_R), n < 2329 → ldA 1 (hI h I) (some 284) (n : Int) k = k (I 284 n) := fun n I k hn => e_ldA (s.T 284 rfl) (Int.natCast_nonneg n) (by omega)
  have p0 : 1481 + 4 * i < 2329 := by omega
  have p1 : 1481 + 4 * i + 1 < 2329 := by omega
  have p2 : 1481 + 4 * i + 2 < 2329 := by omega
  have p3 : 1481 + 4 * i + 3 < 2329 := by omega
  have q0 : 1481 + 4 * i < 1529 := by omega
  have q1 : 1481 + 4 * i + 1 < 1529 := by omega
  have q2 : 1481 + 4 * i + 2 < 1529 := by omega
  have q3 : 1481 + 4 * i + 3 < 1529 := by omega
  have c0 : ¬ c < 0 := by omega
  have hi' : i ≤ 12 := by omega
  have l0 : am_u2 J 284 (1481 + 4 * i) c 284 (1481 + 4 * i) = c := u2_same
  unfold rdNC
  rcases m_number (sc := sc) (d := d + 26) s t (k.u4 (p := 1481 + 4 * i) (v := c)) (hi := 60) (by decide) with ⟨e1, K2, ⟨a1, a2, a3⟩, a4⟩ | ⟨e1, K2, ⟨a1, a2, a3⟩, a4⟩
  · rw [if_pos e1]
    have v0 : ¬ thT (unS B) L q < 0 := by omega
    obtain ⟨n3, n4⟩ := nx_b (k.tq t) (by omega)
    have RB : MC (am_u2 K2 284 (1481 + 4 * i + 1) (thT (unS B) L q)) cs := ((R.u4 q0).fy a1).u4 q1
    have RD : MC (am_u2 (am_u2 (am_u2 K2 284 (1481 + 4 * i + 1) (thT (unS B) L q)) 284 (1481 + 4 * i + 2) (cs.1 : Int)) 283 13 0) cs := (RB.u4 q2).u13
    have kD : MQt B L (am_u2 (am_u2 (am_u2 K2 284 (1481 + 4 * i + 1) (thT (unS B) L q)) 284 (1481 + 4 * i + 2) (cs.1 : Int)) 283 13 0) (nxT (unS B) L q) := (a2.u4.u4).u13
    have fD : FN i J (am_u2 (am_u2 (am_u2 K2 284 (1481 + 4 * i + 1) (thT (unS B) L q)) 284 (1481 + 4 * i + 2) (cs.1 : Int)) 283 13 0) := ((((FN.u (Nat.le_refl _)).tr (Nat.le_refl _) (a1.m.n hi')).tr (Nat.le_refl _) (FN.u (by omega))).tr (Nat.le_refl _) (FN.u (by omega))).tr (Nat.le_refl _) FN.u13
    have l1 : am_u2 K2 284 (1481 + 4 * i + 1) (thT (unS B) L q) 284 (1481 + 4 * i + 1) = thT (unS B) L q := u2_same
    have d0 : am_u2 (am_u2 (am_u2 K2 284 (1481 + 4 * i + 1) (thT (unS B) L q)) 284 (1481 + 4 * i + 2) (cs.1 : Int)) 283 13 0 284 (1481 + 4 * i) = c := by
      rw [u2_a (by decide), u2_j (by omega), u2_j (by omega), a1.p (by decide)]
      exact u2_same
    have d1 : am_u2 (am_u2 (am_u2 K2 284 (1481 + 4 * i + 1) (thT (unS B) L q)) 284 (1481 + 4 * i + 2) (cs.1 : Int)) 283 13 0 284 (1481 + 4 * i + 1) = thT (unS B) L q := by
      rw [u2_a (by decide), u2_j (by omega)]
      exact u2_same
    have d2 : am_u2 (am_u2 (am_u2 K2 284 (1481 + 4 * i + 1) (thT (unS B) L q)) 284 (1481 + 4 * i + 2) (cs.1 : Int)) 283 13 0 284 (1481 + 4 * i + 2) = (cs.1 : Int) := by
      rw [u2_a (by decide)]
      exact u2_same
    have d13 : am_u2 (am_u2 (am_u2 K2 284 (1481 + 4 * i + 1) (thT (unS B) L q)) 284 (1481 + 4 * i + 2) (cs.1 : Int)) 283 13 0 283 13 = 0 := u2_same
    have run : ∀ {y : Int} {h9 : am_H}, Cl sc (d + 29) mX12_passes [Vr (some 283), Vx 17] (hI h (am_u2 (am_u2 (am_u2 K2 284 (1481 + 4 * i + 1) (thT (unS B) L q)) 284 (1481 + 4 * i + 2) (cs.1 : Int)) 283 13 0)) = some (.inl (Vi y), h9) → Ru sc (d + 30) mX12_readLawLine 29 [Vr (some 283), Vi (i : Int), Vi ((1481 + 4 * i : Nat) : Int)] [Vi c, Vi ((1481 + 4 * i : Nat) : Int), Vr (some 284)] (hI h J) = (if y = 0 then
        gfP 12 1 h9 (some 283) fun p16 =>
        gfI 12 16 h9 (some 283) fun v17 =>
        stA 1 h9 p16 ((1481 + 4 * i + 3 : Nat) : Int) v17 fun h18 =>
        some (.inl (Vi 1), h18)
      else
        am_rcv 12 h9 (Vr (some 283)) (
        clI (Cl sc (d + 29) mX12_readCond [Vr (some 283)] h9) am_xt fun v20 h19 =>
        if v20 = 0 then
          some (.inl (Vi 0), h19)
        else
          gfP 12 1 h19 (some 283) fun p21 =>
          gfI 12 16 h19 (some 283) fun v22 =>
          stA 1 h19 p21 ((1481 + 4 * i + 3 : Nat) : Int) v22 fun h23 =>
          some (.inl (Vi 1), h23))) := fun {y h9} hy => by
      obtain ⟨w0, w1, w2, w3⟩ := ar_m2 hi
      rw [q_X12_readLawLine_29, st _ _ _ _ p0, gp, ld _ _ _ p0, l0, if_neg c0, gp, m_cal s a4, w1, st _ _ _ _ p1, gp, ld _ _ _ p1, l1, if_neg v0, gp, e_gfI (s.T 283 rfl), RB.1, w2, st _ _ _ _ p2, e_pfI (s.T 283 rfl), m_cal s hy, w3]
    rcases m_passes (sc := sc) (d := d + 23) s t kD (j := 15) (by decide) with ⟨e3, K3, ⟨b1, b2, b3⟩, b4⟩ | ⟨e3, K3, ⟨b1, b2, b3⟩, b4⟩
    · have e3 : thT (unS B) L (nxT (unS B) L q) = -16 := e3
      have b4 : Cl sc (d + 29) mX12_passes [Vr (some 283), Vx 17] (hI h (am_u2 (am_u2 (am_u2 K2 284 (1481 + 4 * i + 1) (thT (unS B) L q)) 284 (1481 + 4 * i + 2) (cs.1 : Int)) 283 13 0)) = some (.inl (Vi 1), hI h K3) := b4
      rw [if_pos e3]
      obtain ⟨n5, n6⟩ := nx_b n4 (by omega)
      obtain ⟨v, K4, x1, x2⟩ := m_co (D := d + 21) s t (rdA_g 6) (m_atR s t 6 (by decide) (d + 26) (by omega)) (nxT (unS B) L (nxT (unS B) L q)) cs K3 b2 (RD.fy b1) (by omega) (b1.e13.trans d13)
      have f4 : FN i J K4 := (fD.tr (Nat.le_refl _) (b1.m.n hi')).tr (Nat.le_refl _) (x1.1.n hi')
      rcases e9 : coR (unS B) L (rdA (unS B) L 6) (nxT (unS B) L (nxT (unS B) L q)) cs with ⟨q9, _ | c9⟩
      · rw [e9] at x1
        rcases x1.go with ⟨-, rfl, w3⟩ | ⟨w, w1, -⟩
        · refine ⟨0, K4, ⟨f4, Or.inr ⟨rfl, rfl, w3⟩⟩, ?_⟩
          rw [run b4, if_neg ne1, m_cal s x2, if_pos rfl]
        · cases w1
      · rw [e9] at x1
        rcases x1.go with ⟨w1, -⟩ | ⟨w, w1, rfl, w3, w4, w5⟩
        · cases w1
        · cases w1
          have k4 : ∀ j, j < 1529 → K4 284 j = am_u2 (am_u2 (am_u2 K2 284 (1481 + 4 * i + 1) (thT (unS B) L q)) 284 (1481 + 4 * i + 2) (cs.1 : Int)) 283 13 0 284 j := fun j hj => (x1.1.2 j hj).trans (congrFun (b1.p (by decide)) j)
          refine ⟨1, am_u2 K4 284 (1481 + 4 * i + 3) (c9.1 : Int), ⟨f4.tr (Nat.le_refl _) (FN.u (by omega)), Or.inl ⟨_, c9, rfl, rfl, w4.u4, w5.u4 q3, ?_, ?_, ?_, u2_same⟩⟩, ?_⟩
          · rw [u2_j (by omega), k4 _ q0, d0]
          · rw [u2_j (by omega), k4 _ q1, d1]
          · rw [u2_j (by omega), k4 _ q2, d2]
          · rw [run b4, if_neg ne1, m_cal s x2, if_neg ne1, gp, e_gfI (s.T 283 rfl), w5.1, st _ _ _ _ p3]
    · have e3 : thT (unS B) L (nxT (unS B) L q) ≠ -16 := e3
      have b4 : Cl sc (d + 29) mX12_passes [Vr (some 283), Vx 17] (hI h (am_u2 (am_u2 (am_u2 K2 284 (1481 + 4 * i + 1) (thT (unS B) L q)) 284 (1481 + 4 * i + 2) (cs.1 : Int)) 283 13 0)) = some (.inl (Vi 0), hI h K3) := b4
      rw [if_neg e3]
      have R3 := RD.fy b1
      have k3 : K3 284 = am_u2 (am_u2 (am_u2 K2 284 (1481 + 4 * i + 1) (thT (unS B) L q)) 284 (1481 + 4 * i + 2) (cs.1 : Int)) 283 13 0 284 := b1.p (by decide)
      refine ⟨1, am_u2 K3 284 (1481 + 4 * i + 3) (cs.1 : Int), ⟨(fD.tr (Nat.le_refl _) (b1.m.n hi')).tr (Nat.le_refl _) (FN.u (by omega)), Or.inl ⟨_, cs, rfl, rfl, b2.u4, R3.u4 q3, ?_, ?_, ?_, u2_same⟩⟩, ?_⟩
      · rw [u2_j (by omega), k3, d0]
      · rw [u2_j (by omega), k3, d1]
      · rw [u2_j (by omega), k3, d2]
      · rw [run b4, if_pos rfl, gp, e_gfI (s.T 283 rfl), R3.1, st _ _ _ _ p3]
  · rw [if_neg e1]
    have l1 : am_u2 K2 284 (1481 + 4 * i + 1) (-1) 284 (1481 + 4 * i + 1) = -1 := u2_same
    refine ⟨0, am_u2 K2 284 (1481 + 4 * i + 1) (-1), ⟨((FN.u (Nat.le_refl _)).tr (Nat.le_refl _) (a1.m.n hi')).tr (Nat.le_refl _) (FN.u (by omega)), Or.inr ⟨rfl, rfl, ?_⟩⟩, ?_⟩
    · rw [u2_a (by decide)]
      exact a3
    · obtain ⟨w0, w1, w2, w3⟩ := ar_m2 hi
      rw [q_X12_readLawLine_29, st _ _ _ _ p0, gp, ld _ _ _ p0, l0, if_neg c0, gp, m_cal s a4, w1, st _ _ _ _ p1, gp, ld _ _ _ p1, l1, if_pos n1]
theorem m_lawLine (s : Sh h) (t : TB B L) (k : MW B L J q) (R : MC J cs) (hc : cs.1 ≤ q) {i : Nat} (hi : i < 12) : ∃ y K, (FN i J K ∧ ((∃ x c', (rdLL (unS B) L q cs).2 = some (x, c') ∧ y = 1 ∧ MQt B L K (rdLL (unS B) L q cs).1 ∧ MC K c' ∧ K 284 (1481 + 4 * i) = x.1 ∧ K 284 (1481 + 4 * i + 1) = x.2 ∧ K 284 (1481 + 4 * i + 2) = (cs.1 : Int) ∧ K 284 (1481 + 4 * i + 3) = (c'.1 : Int)) ∨ ((rdLL (unS B) L q cs).2 = none ∧ y = 0 ∧ K 283 12 = ((rdLL (unS B) L q cs).1 : Int)))) ∧ Cl sc (d + 30) mX12_readLawLine [Vr (some 283), Vi (i : Int)] (hI h J) = some (.inl (Vi y), hI h K) := by
  have ne1 : ¬ (1 : Int) = 0 := by decide
  have n1 : (-1 : Int) < 0 := by decide
  have gp : ∀ (I : am_I) (k : Option Nat → am_R), gfP 12 1 (hI h I) (some 283) k = k (some 284) := (BM s).2.2.2.1
  have w1 := m_isWV (sc := sc) (d := d + 24) s t k (j := 12) (by decide) (c := -13) rfl
  have w2 := m_isWV (sc := sc) (d := d + 24) s t k (j := 13) (by decide) (c := -14) rfl
  have w3 := m_isWV (sc := sc) (d := d + 24) s t k (j := 14) (by decide) (c := -15) rfl
  simp only [Nat.reduceAdd] at w1 w2 w3
  have wp := (ar_m2 hi).1
  rw [rdLL_NC]
  have go : ∀ {c u : Int}, thT (unS B) L q = c → c = -13 - u → 0 ≤ u ∧ u ≤ 2 → MQt B L J (nxT (unS B) L q) → ∃ y K, (FN i J K ∧ ((∃ x c', (if -15 ≤ thT (unS B) L q ∧ thT (unS B) L q ≤ -13 then bnR (rdNC (unS B) L (nxT (unS B) L q) cs) (fun q1 x => (q1, some ((-13 - thT (unS B) L q, x.1), x.2))) else (q, none)).2 = some (x, c') ∧ y = 1 ∧ MQt B L K (if -15 ≤ thT (unS B) L q ∧ thT (unS B) L q ≤ -13 then bnR (rdNC (unS B) L (nxT (unS B) L q) cs) (fun q1 x => (q1, some ((-13 - thT (unS B) L q, x.1), x.2))) else (q, none)).1 ∧ MC K c' ∧ K 284 (1481 + 4 * i) = x.1 ∧ K 284 (1481 + 4 * i + 1) = x.2 ∧ K 284 (1481 + 4 * i + 2) = (cs.1 : Int) ∧ K 284 (1481 + 4 * i + 3) = (c'.1 : Int)) ∨ ((if -15 ≤ thT (unS B) L q ∧ thT (unS B) L q ≤ -13 then bnR (rdNC (unS B) L (nxT (unS B) L q) cs) (fun q1 x => (q1, some ((-13 - thT (unS B) L q, x.1), x.2))) else (q, none)).2 = none ∧ y = 0 ∧ K 283 12 = ((if -15 ≤ thT (unS B) L q ∧ thT (unS B) L q ≤ -13 then bnR (rdNC (unS B) L (nxT (unS B) L q) cs) (fun q1 x => (q1, some ((-13 - thT (unS B) L q, x.1), x.2))) else (q, none)).1 : Int)))) ∧ Ru sc (d + 30) mX12_readLawLine 29 [Vr (some 283), Vi (i : Int), Vi ((1481 + 4 * i : Nat) : Int)] [Vi u, Vi ((1481 + 4 * i : Nat) : Int), Vr (some 284)] (hI h J) = some (.inl (Vi y), hI h K) := by
    intro c u h1 h2 h3 h4
    clear wp
    rw [if_pos (by omega)]
    obtain ⟨n3, n4⟩ := nx_b k.2.1 (by omega)
    have eu : -13 - thT (unS B) L q = u := by omega
    rw [eu]
    obtain ⟨y, K, ⟨z1, z2⟩, z3⟩ := m_ln29 (sc := sc) (d := d) s t h4 R (by omega) hi h3.1
    refine ⟨y, K, ⟨z1, ?_⟩, z3⟩
    rcases e9 : rdNC (unS B) L (nxT (unS B) L q) cs with ⟨q1, _ | ⟨v, c9⟩⟩
    · rw [e9] at z2
      rcases z2 with ⟨v, c9, w1, -⟩ | ⟨-, w2, w3⟩
      · cases w1
      · exact Or.inr ⟨rfl, w2, w3⟩
    · rw [e9] at z2
      rcases z2 with ⟨v, c9, w1, w2, w3, w4, w5⟩ | ⟨w1, -⟩
      · cases w1
        exact Or.inl ⟨_, _, rfl, w2, w3, w4, w5⟩
      · cases w1
  rcases w1 with ⟨e1, k1, x1⟩ | ⟨e1, x1⟩
  · obtain ⟨y, K, z1, z2⟩ := go e1 (u := 0) rfl (by decide) k1
    refine ⟨y, K, z1, ?_⟩
    rw [q_X12_readLawLine_0, gp, m_cal s x1, if_neg ne1, wp]
    exact z2
  · rcases w2 with ⟨e2, k1, x2⟩ | ⟨e2, x2⟩
    · obtain ⟨y, K, z1, z2⟩ := go e2 (u := 1) rfl (by decide) k1
      refine ⟨y, K, z1, ?_⟩
      rw [q_X12_readLawLine_0, gp, m_cal s x1, if_pos rfl, m_cal s x2, if_neg ne1, wp]
      exact z2
    · rcases w3 with ⟨e3, k1, x3⟩ | ⟨e3, x3⟩
      · obtain ⟨y, K, z1, z2⟩ := go e3 (u := 2) rfl (by decide) k1
        refine ⟨y, K, z1, ?_⟩
        rw [q_X12_readLawLine_0, gp, m_cal s x1, if_pos rfl, m_cal s x2, if_pos rfl, m_cal s x3, if_neg ne1, wp]
        exact z2
      · rw [if_neg (by clear wp; omega)]
        have hp : ((1481 + 4 * i : Nat) : Int) < 2329 := by clear wp; omega
        have l0 : am_u2 J 284 (1481 + 4 * i) (-1) 284 (1481 + 4 * i) = -1 := u2_same
        refine ⟨0, am_u2 J 284 (1481 + 4 * i) (-1), ⟨FN.u (Nat.le_refl _), Or.inr ⟨rfl, rfl, (u2_a (by decide)).trans k.2.2.1⟩⟩, ?_⟩
        rw [q_X12_readLawLine_0, gp, m_cal s x1, if_pos rfl, m_cal s x2, if_pos rfl, m_cal s x3, if_pos rfl, wp, q_X12_readLawLine_29, e_stA (s.T 284 rfl) (Int.natCast_nonneg _) hp, gp, e_ldA (s.T 284 rfl) (Int.natCast_nonneg _) hp, Int.toNat_natCast, l0, if_pos n1]
end
