/-! A COUNTY'S TEXT: the reference -/
def FzM (J K : am_I) : Prop := (∀ x j, ¬ (x = 283 ∧ (j = 10 ∨ j = 12)) → x ≠ 284 → x ≠ 291 → K x j = J x j) ∧ ∀ j, 631 ≤ j → K 284 j = J 284 j
theorem FzM.rf (J : am_I) : FzM J J := ⟨fun _ _ _ _ _ => rfl, fun _ _ => rfl⟩
theorem FzM.tr {I J K : am_I} (a : FzM I J) (b : FzM J K) : FzM I K := ⟨fun x j h1 h2 h3 => (b.1 x j h1 h2 h3).trans (a.1 x j h1 h2 h3), fun j h => (b.2 j h).trans (a.2 j h)⟩
theorem Fy.v {J K : am_I} (a : Fy J K) : FzM J K := ⟨fun x j h1 _ _ => a x j h1, fun j _ => congrFun (a.p (by decide)) j⟩
theorem Mg.v {J K : am_I} (a : Mg J K) (t : ∀ j, 631 ≤ j → K 284 j = J 284 j) : FzM J K := ⟨fun x j _ h2 h3 => congrFun (a x h2 h3) j, t⟩
theorem FzM.u {J : am_I} {k : Nat} {v : Int} (hk : k < 631) : FzM J (am_u2 J 284 k v) := ⟨fun x j _ h2 _ => u2_a h2, fun j hj => u2_j (by omega)⟩
def Ry (B : Nat → Int) (L : Nat) (J K : am_I) (v : Int) (r : Nat × Option am_Wd) : Prop := FzM J K ∧ ((∃ w, r.2 = some w ∧ v = 1 ∧ MQt B L K r.1 ∧ K 284 = w) ∨ (r.2 = none ∧ v = 0 ∧ K 283 12 = (r.1 : Int)))
section
variable {sc : Nat × (Nat → Int)} {d : Nat} {h : am_H} {I J K : am_I} {B : Nat → Int} {L q b f : Nat} {w v : am_Wd} {ag hi ga st x : Int} {r : Nat × Option am_Wd}
theorem MQt.same (k : MQt B L J q) (e : K 283 = J 283) (e9 : K 289 = J 289) : MQt B L K q := by
  obtain ⟨⟨k1, k2⟩, p, k3, k4, k5⟩ := k
  exact ⟨⟨e9.trans k1, by rw [e]; exact k2⟩, p, by rw [e]; exact k3, k4, k5⟩
theorem Ry.pre {y : Int} (e : FzM I J) (z : Ry B L J K y r) : Ry B L I K y r := ⟨e.tr z.1, z.2⟩
theorem Ry.no (e : FzM I J) (e2 : J 283 12 = (q : Int)) : Ry B L I J 0 (q, none) := ⟨e, Or.inr ⟨rfl, rfl, e2⟩⟩
theorem Ry.ok (e : FzM I J) (k : MQt B L J q) (R : J 284 = w) : Ry B L I J 1 (q, some w) := ⟨e, Or.inl ⟨w, rfl, rfl, k, R⟩⟩
theorem Ry.v01 {y : Int} (z : Ry B L J K y r) : y = 0 ∨ y = 1 := by
  rcases z.2 with ⟨w, -, e, -⟩ | ⟨-, e, -⟩
  · exact Or.inr e
  · exact Or.inl e
theorem Ry.at (e : w = v) (z : Ry B L J K x r) : Ry B L J K x r := z
theorem m_cal (s : Sh h) {m : Nat} {args : List am_V} {y : Int} {h1 : am_H} {k : Int → am_H → am_R} (e : Cl sc d m args (hI h J) = some (.inl (Vi y), h1)) : am_rcv 12 (hI h J) (Vr (some 283)) (clI (Cl sc d m args (hI h J)) am_xt k) = k y h1 := by
  rw [(BM s).1, e, e_clI]
theorem m_calV (s : Sh h) {m : Nat} {args : List am_V} {y : am_V} {h1 : am_H} {k : am_H → am_R} (e : Cl sc d m args (hI h J) = some (.inl y, h1)) : am_rcv 12 (hI h J) (Vr (some 283)) (clV (Cl sc d m args (hI h J)) am_xt k) = k h1 := by
  rw [(BM s).1, e, e_clV]
theorem m_psV (s : Sh h) (t : TB B L) (k : MQt B L J q) {j : Nat} (hj : j < 23) {c : Int} (hc : wc j = c) : ∃ K, (Fy J K ∧ MQt B L K (tgR (unS B) L c q)) ∧ Cl sc (d + 6) mX12_passes [Vr (some 283), Vx (j + 1 + 1)] (hI h J) = some (.inl (Vi (tgV (unS B) L c q)), hI h K) := by
  subst hc
  unfold tgR tgV
  rcases m_passes (sc := sc) (d := d) s t k hj with ⟨e, K, ⟨k1, k2, k3⟩, k4⟩ | ⟨e, K, ⟨k1, k2, k3⟩, k4⟩
  · rw [if_pos e, if_pos e]
    exact ⟨K, ⟨k1, k2⟩, k4⟩
  · rw [if_neg e, if_neg e]
    exact ⟨K, ⟨k1, k2⟩, k4⟩
theorem m_fe54 (s : Sh h) (t : TB B L) (k : MQt B L J q) (hb : b < 60) (R : J 284 = w) {u1 u2 : Int} {u6 : am_V} : ∃ K, Ry B L J K 1 (tgR (unS B) L (-24) q, some (feW w b ag hi x (tgV (unS B) L (-24) q))) ∧ Ru sc (d + 8) mX12_readFence 54 [Vr (some 283), Vi u1, Vi u2, Vi (b : Int), Vi ag, Vi hi, u6] [Vi x] (hI h J) = some (.inl (Vi 1), hI h K) := by
  obtain ⟨K1, ⟨a1, a2⟩, a3⟩ := m_psV (sc := sc) (d := d + 1) s t k (j := 8) (by decide) (c := -24) rfl
  have a3 : Cl sc (d + 7) mX12_passes [Vr (some 283), Vx 10] (hI h J) = some (.inl (Vi (tgV (unS B) L (-24) q)), hI h K1) := a3
  have R1 : K1 284 = w := (a1.p (by decide)).trans R
  obtain ⟨K, g1, g2, g3⟩ := m_isFence (sc := sc) (d := d + 5) (I := K1) s hb (ag := ag) (hi := hi) (ga := x) (st := tgV (unS B) L (-24) q)
  rw [R1] at g2
  have fv : FzM K1 K := g1.v (fun j hj => by rw [g2, R1]; exact feW_g (by omega))
  refine ⟨K, Ry.ok (a1.v.tr fv) (a2.same (g1 283 (by decide) (by decide)) (g1 289 (by decide) (by decide))) g2, ?_⟩
  rw [q_X12_readFence_54, m_cal s a3]
  rcases tgV_b (A := unS B) (L := L) (q := q) (c := -24) with e | e
  · rw [e] at g3 ⊢
    rw [if_pos rfl, m_calV s g3]
  · rw [e] at g3 ⊢
    rw [if_neg (by decide), m_calV s g3]
theorem m_readFe (s : Sh h) (t : TB B L) (k : MQt B L J q) (R : J 284 = w) : ∃ y K, Ry B L J K y (rdFence (unS B) L q w) ∧ Cl sc (d + 8) mX12_readFence [Vr (some 283)] (hI h J) = some (.inl (Vi y), hI h K) := by
  have n1 : (-1 : Int) < 0 := by decide
  have ne1 : ¬ (1 : Int) = 0 := by decide
  unfold rdFence
  rcases m_number (sc := sc) (d := d + 4) s t k (hi := 35) (by decide) with ⟨e1, K1, ⟨a1, a2, a3⟩, a4⟩ | ⟨e1, K1, ⟨a1, a2, a3⟩, a4⟩
  · rw [if_pos e1]
    obtain ⟨c, hc⟩ : ∃ c : Nat, thT (unS B) L q = (c : Int) := ⟨(thT (unS B) L q).toNat, by omega⟩
    have hc36 : c < 36 := by omega
    have hc0 : ¬ (c : Int) < 0 := by omega
    rw [hc] at a4 ⊢
    rw [Int.toNat_natCast]
    rcases m_number (sc := sc) (d := d + 4) s t a2 (hi := 35) (by decide) with ⟨e2, K2, ⟨b1, b2, b3⟩, b4⟩ | ⟨e2, K2, ⟨b1, b2, b3⟩, b4⟩
    · obtain ⟨o, ho⟩ : ∃ o : Nat, thT (unS B) L (nxT (unS B) L q) = (o : Int) := ⟨(thT (unS B) L (nxT (unS B) L q)).toNat, by omega⟩
      have ho36 : o < 36 := by omega
      have ho0 : ¬ (o : Int) < 0 := by omega
      have cb := c_mborderOf (sc := sc) (d := d + 2) (h := hI h K2) hc36 ho36
      rw [ho] at b4 e2 ⊢
      rw [Int.toNat_natCast]
      by_cases e3 : bo c o = -1
      · rw [if_neg (fun z => z.2 e3)]
        refine ⟨0, K2, Ry.no (a1.tr b1).v b3, ?_⟩
        rw [q_X12_readFence_0, m_cal s a4, if_neg hc0, m_cal s b4, q_X12_readFence_14, if_neg ho0, cb, e_clI, if_pos e3]
      · rw [if_pos ⟨e2, e3⟩]
        obtain ⟨hb, eb⟩ := bo_b hc36 ho36 e3
        rw [eb] at cb e3
        generalize (bo c o).toNat = b at hb cb e3 ⊢
        have R2 : K2 284 = w := ((a1.tr b1).p (by decide)).trans R
        have run : ∀ {y : Int} {h9 : am_H}, Cl sc (d + 7) mX12_told [Vr (some 283), Vx 7, Vi 0] (hI h K2) = some (.inl (Vi y), h9) → Cl sc (d + 8) mX12_readFence [Vr (some 283)] (hI h J) = (if y < 0 then
        if (-1) < 0 then
          some (.inl (Vi 0), h9)
        else
          am_rcv 12 h9 (Vr (some 283)) (
          clI (Cl sc (d + 7) mX12_passes [Vr (some 283), Vx 9] h9) am_xt fun v10 h9 =>
          if v10 = 0 then
            Ru sc (d + 8) mX12_readFence 54 [Vr (some 283), Vi (c : Int), Vi (o : Int), Vi (b : Int), Vi y, Vi (-1), Vx 0] [Vi 0] h9
          else
            Ru sc (d + 8) mX12_readFence 54 [Vr (some 283), Vi (c : Int), Vi (o : Int), Vi (b : Int), Vi y, Vi (-1), Vx 0] [Vi 1] h9)
      else
        am_rcv 12 h9 (Vr (some 283)) (
        clI (Cl sc (d + 7) mX12_told [Vr (some 283), Vx 8, Vi 0] h9) am_xt fun v6 h5 =>
        if v6 < 0 then
          some (.inl (Vi 0), h5)
        else
          am_rcv 12 h5 (Vr (some 283)) (
          clI (Cl sc (d + 7) mX12_passes [Vr (some 283), Vx 9] h5) am_xt fun v8 h7 =>
          if v8 = 0 then
            Ru sc (d + 8) mX12_readFence 54 [Vr (some 283), Vi (c : Int), Vi (o : Int), Vi (b : Int), Vi y, Vi v6, Vx 0] [Vi 0] h7
          else
            Ru sc (d + 8) mX12_readFence 54 [Vr (some 283), Vi (c : Int), Vi (o : Int), Vi (b : Int), Vi y, Vi v6, Vx 0] [Vi 1] h7))) := fun {y h9} hy => by
          rw [q_X12_readFence_0, m_cal s a4, if_neg hc0, m_cal s b4, q_X12_readFence_14, if_neg ho0, cb, e_clI, if_neg e3, m_cal s hy]
        unfold rdFe2
        rcases m_told (sc := sc) (d := d) s t b2 (j := 5) (by decide) (dv := 0) with ⟨ag, g1, K3, ⟨g2, g3⟩, g4⟩ | ⟨g1, K3, ⟨g2, g3, g5⟩, g4⟩
        · have g1 : (opR (unS B) L (-18) (nxT (unS B) L (nxT (unS B) L q)) 0).2 = some ag := congrArg Prod.snd g1
          have g3 : MQt B L K3 (opR (unS B) L (-18) (nxT (unS B) L (nxT (unS B) L q)) 0).1 := g3
          have ga := opR_b (by decide) g1
          rw [g1]
          dsimp only
          have run := run g4
          generalize (opR (unS B) L (-18) (nxT (unS B) L (nxT (unS B) L q)) 0).1 = q3 at g3 ⊢
          rcases m_told (sc := sc) (d := d) s t g3 (j := 6) (by decide) (dv := 0) with ⟨hi, i1, K4, ⟨i2, i3⟩, i4⟩ | ⟨i1, K4, ⟨i2, i3, i5⟩, i4⟩
          · have i1 : (opR (unS B) L (-19) q3 0).2 = some hi := congrArg Prod.snd i1
            have i3 : MQt B L K4 (opR (unS B) L (-19) q3 0).1 := i3
            have i4 : Cl sc (d + 7) mX12_told [Vr (some 283), Vx 8, Vi 0] (hI h K3) = some (.inl (Vi hi), hI h K4) := i4
            have gh := opR_b (by decide) i1
            rw [i1]
            dsimp only
            generalize (opR (unS B) L (-19) q3 0).1 = q4 at i3 ⊢
            obtain ⟨K5, ⟨j1, j2⟩, j3⟩ := m_psV (sc := sc) (d := d + 1) s t i3 (j := 7) (by decide) (c := -23) rfl
            have j3 : Cl sc (d + 7) mX12_passes [Vr (some 283), Vx 9] (hI h K4) = some (.inl (Vi (tgV (unS B) L (-23) q4)), hI h K5) := j3
            have R5 : K5 284 = w := (((g2.tr i2).tr j1).p (by decide)).trans R2
            obtain ⟨K, z1, z2⟩ := m_fe54 (sc := sc) (d := d) s t j2 hb R5 (ag := ag) (hi := hi) (x := tgV (unS B) L (-23) q4) (u1 := (c : Int)) (u2 := (o : Int)) (u6 := Vx 0)
            refine ⟨1, K, z1.pre ((((a1.tr b1).tr g2).tr i2).tr j1).v, ?_⟩
            rw [run, if_neg (by omega), m_cal s i4, if_neg (by omega), m_cal s j3]
            rcases tgV_b (A := unS B) (L := L) (q := q4) (c := -23) with e | e
            · rw [e] at z2 ⊢
              rw [if_pos rfl]
              exact z2
            · rw [e] at z2 ⊢
              rw [if_neg ne1]
              exact z2
          · have i1 : (opR (unS B) L (-19) q3 0).2 = none := congrArg Prod.snd i1
            have i4 : Cl sc (d + 7) mX12_told [Vr (some 283), Vx 8, Vi 0] (hI h K3) = some (.inl (Vi (-1)), hI h K4) := i4
            rw [i1]
            dsimp only
            refine ⟨0, K4, Ry.no (((a1.tr b1).tr g2).tr i2).v i5, ?_⟩
            rw [run, if_neg (by omega), m_cal s i4, if_pos n1]
        · have g1 : (opR (unS B) L (-18) (nxT (unS B) L (nxT (unS B) L q)) 0).2 = none := congrArg Prod.snd g1
          rw [g1]
          dsimp only
          refine ⟨0, K3, Ry.no ((a1.tr b1).tr g2).v g5, ?_⟩
          rw [run g4, if_pos n1, if_pos n1]
    · rw [if_neg (fun z => e2 z.1)]
      refine ⟨0, K2, Ry.no (a1.tr b1).v b3, ?_⟩
      rw [q_X12_readFence_0, m_cal s a4, if_neg hc0, m_cal s b4, q_X12_readFence_14, if_pos n1]
  · rw [if_neg e1]
    refine ⟨0, K1, Ry.no a1.v a3, ?_⟩
    rw [q_X12_readFence_0, m_cal s a4, if_pos n1, q_X12_readFence_14, if_pos n1]
theorem m_ro22 (s : Sh h) {y : Nat} (hy : y ≤ 4) : ∀ (m n : Nat) (J : am_I), n + m = 6 → J 284 = roW w y hi n → ∃ K, (Mg J K ∧ K 284 = roW w y hi 6) ∧ Ru sc (d + 3) mX12_readRow 22 [Vr (some 283), Vi (y : Int), Vi hi, Vi (n : Int)] [] (hI h J) = some (.inl (Vi 1), hI h K)
  | 0, n, J, hn, R => by
    have : n = 6 := by omega
    subst this
    refine ⟨J, ⟨Mg.rf J, R⟩, ?_⟩
    rw [q_X12_readRow_22, if_neg (by decide)]
  | m + 1, n, J, hn, R => by
    have l1 : (n : Int) < 6 := by omega
    have hb : 30 + 6 * y + n < 60 := by omega
    obtain ⟨K1, c1, c2, c3⟩ := m_isFence (sc := sc) (d := d) (I := J) s hb (ag := 0) (hi := hi) (ga := 0) (st := 0)
    rw [R] at c2
    obtain ⟨K, ⟨g1, g2⟩, g3⟩ := m_ro22 s hy m (n + 1) K1 (by omega) c2
    refine ⟨K, ⟨c1.tr g1, g2⟩, ?_⟩
    obtain ⟨w1, w2, w3⟩ := ar_c1 hy (show n ≤ 6 by omega)
    rw [q_X12_readRow_22, if_pos l1, w1, w2, m_calV s c3, w3]
    exact g3
theorem roW_t {y : Nat} (hy : y ≤ 4) : ∀ n, n ≤ 6 → ∀ j, 631 ≤ j → roW w y hi n j = w j
  | 0, _, _, _ => rfl
  | n + 1, hn, j, hj => (feW_g (by omega)).trans (roW_t hy n (by omega) j hj)
theorem m_readRo (s : Sh h) (t : TB B L) (k : MQt B L J q) (R : J 284 = w) : ∃ y K, Ry B L J K y (rdRow (unS B) L q w) ∧ Cl sc (d + 7) mX12_readRow [Vr (some 283)] (hI h J) = some (.inl (Vi y), hI h K) := by
  have n1 : (-1 : Int) < 0 := by decide
  unfold rdRow
  rcases m_number (sc := sc) (d := d + 3) s t k (hi := 4) (by decide) with ⟨e1, K1, ⟨a1, a2, a3⟩, a4⟩ | ⟨e1, K1, ⟨a1, a2, a3⟩, a4⟩
  · rw [if_pos e1]
    obtain ⟨y, hy⟩ : ∃ y : Nat, thT (unS B) L q = (y : Int) := ⟨(thT (unS B) L q).toNat, by omega⟩
    have hy4 : y ≤ 4 := by omega
    have hy0 : ¬ (y : Int) < 0 := by omega
    rw [hy] at a4 ⊢
    rw [Int.toNat_natCast]
    rcases m_behind (sc := sc) (d := d) s t a2 (j := 6) (by decide) (hi := 999) (by decide) with ⟨e2, K2, ⟨b1, b2, b3⟩, b4⟩ | ⟨e2, ⟨e3, K2, ⟨b1, b2, b3⟩, b4⟩ | ⟨e3, K2, ⟨b1, b2⟩, b4⟩⟩
    · have e2 : thT (unS B) L (nxT (unS B) L q) ≠ -19 := e2
      have b4 : Cl sc (d + 6) mX12_behind [Vr (some 283), Vx 8, Vi 0, Vi 999] (hI h K1) = some (.inl (Vi (-1)), hI h K2) := b4
      rw [if_neg e2]
      refine ⟨0, K2, Ry.no (a1.tr b1).v b3, ?_⟩
      rw [q_X12_readRow_0, m_cal s a4, if_neg hy0, m_cal s b4, if_pos n1]
    · have e2 : thT (unS B) L (nxT (unS B) L q) = -19 := e2
      have b4 : Cl sc (d + 6) mX12_behind [Vr (some 283), Vx 8, Vi 0, Vi 999] (hI h K1) = some (.inl (Vi (-1)), hI h K2) := b4
      rw [if_pos e2, if_neg e3]
      refine ⟨0, K2, Ry.no (a1.tr b1).v b3, ?_⟩
      rw [q_X12_readRow_0, m_cal s a4, if_neg hy0, m_cal s b4, if_pos n1]
    · have e2 : thT (unS B) L (nxT (unS B) L q) = -19 := e2
      have b4 : Cl sc (d + 6) mX12_behind [Vr (some 283), Vx 8, Vi 0, Vi 999] (hI h K1) = some (.inl (Vi (thT (unS B) L (nxT (unS B) L (nxT (unS B) L q)))), hI h K2) := b4
      rw [if_pos e2, if_pos e3]
      have R2 : K2 284 = w := ((a1.tr b1).p (by decide)).trans R
      obtain ⟨K, ⟨g1, g2⟩, g3⟩ := m_ro22 (sc := sc) (d := d + 4) (w := w) (hi := thT (unS B) L (nxT (unS B) L (nxT (unS B) L q))) s hy4 6 0 K2 rfl R2
      refine ⟨1, K, Ry.ok ((a1.tr b1).v.tr (g1.v (fun j hj => by rw [g2, R2]; exact roW_t hy4 6 (by decide) j hj))) (b2.same (g1 283 (by decide) (by decide)) (g1 289 (by decide) (by decide))) g2, ?_⟩
      rw [q_X12_readRow_0, m_cal s a4, if_neg hy0, m_cal s b4, if_neg (by omega)]
      exact g3
  · rw [if_neg e1]
    refine ⟨0, K1, Ry.no a1.v a3, ?_⟩
    rw [q_X12_readRow_0, m_cal s a4, if_pos n1, if_pos n1]
theorem m_fa33 (s : Sh h) (k : MQt B L J q) (R : J 284 = w) (hf : f < 6) (hw : w 0 = (f : Int)) {ho cl ey : Int} (hey : ¬ ey < 0) {u4 : am_V} : ∃ K, Ry B L J K 1 (q, some (faW w ho cl ey)) ∧ Ru sc (d + 2) mX12_readFamily 33 [Vr (some 283), Vi (f : Int), Vi ho, Vi cl, u4] [Vi ey] (hI h J) = some (.inl (Vi 1), hI h K) := by
  have fa : ∀ {h9 : am_H} (k : Nat), k < 4 → Cl sc (d + 1) mX12_familyAt [Vi (f : Int), Vi (k : Int)] h9 = some (.inl (Vi ((307 + 4 * f + k : Nat) : Int)), h9) := fun {h9} k hk => by
    have := m_familyAt (sc := sc) (d := d) (h := h9) (b := f) (k := (k : Int)) (by omega) (by omega)
    rw [Int.toNat_natCast] at this
    exact this
  have fa0 : ∀ {h9 : am_H}, Cl sc (d + 1) mX12_familyAt [Vi (f : Int), Vi 0] h9 = some (.inl (Vi ((307 + 4 * f : Nat) : Int)), h9) := fun {h9} => fa 0 (by decide)
  have fa1 : ∀ {h9 : am_H}, Cl sc (d + 1) mX12_familyAt [Vi (f : Int), Vi 1] h9 = some (.inl (Vi ((307 + 4 * f + 1 : Nat) : Int)), h9) := fun {h9} => fa 1 (by decide)
  have fa2 : ∀ {h9 : am_H}, Cl sc (d + 1) mX12_familyAt [Vi (f : Int), Vi 2] h9 = some (.inl (Vi ((307 + 4 * f + 2 : Nat) : Int)), h9) := fun {h9} => fa 2 (by decide)
  have fa3 : ∀ {h9 : am_H}, Cl sc (d + 1) mX12_familyAt [Vi (f : Int), Vi 3] h9 = some (.inl (Vi ((307 + 4 * f + 3 : Nat) : Int)), h9) := fun {h9} => fa 3 (by decide)
  have st : ∀ (n : Nat) (I : am_I) (v : Int) (k : am_H → am_R), n < 2329 → stA 1 (hI h I) (some 284) (n : Int) v k = k (hI h (am_u2 I 284 n v)) := fun n I v k hn => e_stA (s.T 284 rfl) (Int.natCast_nonneg n) (by omega)
  have st0 : ∀ (I : am_I) (v : Int) (k : am_H → am_R), stA 1 (hI h I) (some 284) 0 v k = k (hI h (am_u2 I 284 0 v)) := fun I v k => e_stA (s.T 284 rfl) (by decide) (by decide)
  have ld0 : ∀ (I : am_I) (k : Int → am_R), ldA 1 (hI h I) (some 284) 0 k = k (I 284 0) := fun I k => e_ldA (s.T 284 rfl) (by decide) (by decide)
  have gp : ∀ (I : am_I) (k : Option Nat → am_R), gfP 12 1 (hI h I) (some 283) k = k (some 284) := (BM s).2.2.2.1
  refine ⟨am_u2 (am_u2 (am_u2 (am_u2 (am_u2 J 284 (307 + 4 * f) ho) 284 (307 + 4 * f + 1) cl) 284 (307 + 4 * f + 2) ey) 284 (307 + 4 * f + 3) 0) 284 0 (w 0 + 1), Ry.ok (((((FzM.u (by omega)).tr (FzM.u (by omega))).tr (FzM.u (by omega))).tr (FzM.u (by omega))).tr (FzM.u (by omega))) (k.same ?_ ?_) ?_, ?_⟩
  · rw [u2_o (by decide), u2_o (by decide), u2_o (by decide), u2_o (by decide), u2_o (by decide)]
  · rw [u2_o (by decide), u2_o (by decide), u2_o (by decide), u2_o (by decide), u2_o (by decide)]
  · rw [u2_up, u2_up, u2_up, u2_up, u2_up, R]
    unfold faW
    rw [hw, Int.toNat_natCast]
  · have e0 : am_u2 (am_u2 (am_u2 (am_u2 J 284 (307 + 4 * f) ho) 284 (307 + 4 * f + 1) cl) 284 (307 + 4 * f + 2) ey) 284 (307 + 4 * f + 3) 0 284 0 = (f : Int) := by
      rw [u2_j (by omega), u2_j (by omega), u2_j (by omega), u2_j (by omega), R]
      exact hw
    have h0 : 307 + 4 * f < 2329 := by omega
    have h1 : 307 + 4 * f + 1 < 2329 := by omega
    have h2 : 307 + 4 * f + 2 < 2329 := by omega
    have h3 : 307 + 4 * f + 3 < 2329 := by omega
    rw [q_X12_readFamily_33, if_neg hey, gp, fa0, e_clI, st _ _ _ _ h0, gp, fa1, e_clI, st _ _ _ _ h1, gp, fa2, e_clI, st _ _ _ _ h2, gp, fa3, e_clI, st _ _ _ _ h3, gp, ld0, e0, st0, ar_c2 hf, hw]
theorem m_readFa (s : Sh h) (t : TB B L) (k : MQt B L J q) (R : J 284 = w) (V : WW w) (hw6 : w 0 < 6) : ∃ y K, Ry B L J K y (rdFamily (unS B) L q w) ∧ Cl sc (d + 8) mX12_readFamily [Vr (some 283)] (hI h J) = some (.inl (Vi y), hI h K) := by
  have n1 : (-1 : Int) < 0 := by decide
  have hF := V.fa
  obtain ⟨f, hfw⟩ : ∃ f : Nat, w 0 = (f : Int) := ⟨(w 0).toNat, by omega⟩
  have hf : f < 6 := by omega
  have mf := m_families (sc := sc) (d := d + 6) (I := J) s
  rw [R, hfw] at mf
  have nf : ¬ (f : Int) = 6 := by omega
  unfold rdFamily
  rcases m_behind (sc := sc) (d := d + 1) s t k (j := 9) (by decide) (hi := 35) (by decide) with ⟨e2, K2, ⟨b1, b2, b3⟩, b4⟩ | ⟨e2, ⟨e3, K2, ⟨b1, b2, b3⟩, b4⟩ | ⟨e3, K2, ⟨b1, b2⟩, b4⟩⟩
  · have e2 : thT (unS B) L q ≠ -10 := e2
    have b4 : Cl sc (d + 7) mX12_behind [Vr (some 283), Vx 11, Vi 0, Vi 35] (hI h J) = some (.inl (Vi (-1)), hI h K2) := b4
    rw [if_neg e2]
    refine ⟨0, K2, Ry.no b1.v b3, ?_⟩
    rw [q_X12_readFamily_0, m_cal s mf, if_neg nf, m_cal s b4, if_pos n1, if_pos n1, q_X12_readFamily_33, if_pos n1]
  · have e2 : thT (unS B) L q = -10 := e2
    have b4 : Cl sc (d + 7) mX12_behind [Vr (some 283), Vx 11, Vi 0, Vi 35] (hI h J) = some (.inl (Vi (-1)), hI h K2) := b4
    rw [if_pos e2, if_neg e3]
    refine ⟨0, K2, Ry.no b1.v b3, ?_⟩
    rw [q_X12_readFamily_0, m_cal s mf, if_neg nf, m_cal s b4, if_pos n1, if_pos n1, q_X12_readFamily_33, if_pos n1]
  · have e2 : thT (unS B) L q = -10 := e2
    have b4 : Cl sc (d + 7) mX12_behind [Vr (some 283), Vx 11, Vi 0, Vi 35] (hI h J) = some (.inl (Vi (thT (unS B) L (nxT (unS B) L q))), hI h K2) := b4
    rw [if_pos e2, if_pos e3]
    have h0 : ¬ thT (unS B) L (nxT (unS B) L q) < 0 := by omega
    rcases m_behind (sc := sc) (d := d + 1) s t b2 (j := 10) (by decide) (hi := 999) (by decide) with ⟨e4, K3, ⟨c1, c2, c3⟩, c4⟩ | ⟨e4, ⟨e5, K3, ⟨c1, c2, c3⟩, c4⟩ | ⟨e5, K3, ⟨c1, c2⟩, c4⟩⟩
    · have e4 : thT (unS B) L (nxT (unS B) L (nxT (unS B) L q)) ≠ -11 := e4
      have c4 : Cl sc (d + 7) mX12_behind [Vr (some 283), Vx 12, Vi 0, Vi 999] (hI h K2) = some (.inl (Vi (-1)), hI h K3) := c4
      rw [if_neg e4]
      refine ⟨0, K3, Ry.no (b1.tr c1).v c3, ?_⟩
      rw [q_X12_readFamily_0, m_cal s mf, if_neg nf, m_cal s b4, if_neg h0, m_cal s c4, if_pos n1, q_X12_readFamily_33, if_pos n1]
    · have e4 : thT (unS B) L (nxT (unS B) L (nxT (unS B) L q)) = -11 := e4
      have c4 : Cl sc (d + 7) mX12_behind [Vr (some 283), Vx 12, Vi 0, Vi 999] (hI h K2) = some (.inl (Vi (-1)), hI h K3) := c4
      rw [if_pos e4, if_neg e5]
      refine ⟨0, K3, Ry.no (b1.tr c1).v c3, ?_⟩
      rw [q_X12_readFamily_0, m_cal s mf, if_neg nf, m_cal s b4, if_neg h0, m_cal s c4, if_pos n1, q_X12_readFamily_33, if_pos n1]
    · have e4 : thT (unS B) L (nxT (unS B) L (nxT (unS B) L q)) = -11 := e4
      have c4 : Cl sc (d + 7) mX12_behind [Vr (some 283), Vx 12, Vi 0, Vi 999] (hI h K2) = some (.inl (Vi (thT (unS B) L (nxT (unS B) L (nxT (unS B) L (nxT (unS B) L q))))), hI h K3) := c4
      rw [if_pos e4, if_pos e5]
      have h1 : ¬ thT (unS B) L (nxT (unS B) L (nxT (unS B) L (nxT (unS B) L q))) < 0 := by omega
      have R3 : K3 284 = w := ((b1.tr c1).p (by decide)).trans R
      rcases m_told (sc := sc) (d := d) s t c2 (j := 11) (by decide) (dv := 60) with ⟨ey, i1, K4, ⟨i2, i3⟩, i4⟩ | ⟨i1, K4, ⟨i2, i3, i5⟩, i4⟩
      · have i1 : (opR (unS B) L (-12) (nxT (unS B) L (nxT (unS B) L (nxT (unS B) L (nxT (unS B) L q)))) 60).2 = some ey := congrArg Prod.snd i1
        have i3 : MQt B L K4 (opR (unS B) L (-12) (nxT (unS B) L (nxT (unS B) L (nxT (unS B) L (nxT (unS B) L q)))) 60).1 := i3
        have i4 : Cl sc (d + 7) mX12_told [Vr (some 283), Vx 13, Vi 60] (hI h K3) = some (.inl (Vi ey), hI h K4) := i4
        have gh := opR_b (by decide) i1
        rw [i1]
        dsimp only
        have R4 : K4 284 = w := (i2.p (by decide)).trans R3
        obtain ⟨K, z1, z2⟩ := m_fa33 (sc := sc) (d := d + 6) s i3 R4 hf hfw (ho := thT (unS B) L (nxT (unS B) L q)) (cl := thT (unS B) L (nxT (unS B) L (nxT (unS B) L (nxT (unS B) L q)))) (ey := ey) (by omega) (u4 := Vx 0)
        refine ⟨1, K, z1.pre ((b1.tr c1).tr i2).v, ?_⟩
        rw [q_X12_readFamily_0, m_cal s mf, if_neg nf, m_cal s b4, if_neg h0, m_cal s c4, if_neg h1, m_cal s i4]
        exact z2
      · have i1 : (opR (unS B) L (-12) (nxT (unS B) L (nxT (unS B) L (nxT (unS B) L (nxT (unS B) L q)))) 60).2 = none := congrArg Prod.snd i1
        have i4 : Cl sc (d + 7) mX12_told [Vr (some 283), Vx 13, Vi 60] (hI h K3) = some (.inl (Vi (-1)), hI h K4) := i4
        rw [i1]
        dsimp only
        refine ⟨0, K4, Ry.no ((b1.tr c1).tr i2).v i5, ?_⟩
        rw [q_X12_readFamily_0, m_cal s mf, if_neg nf, m_cal s b4, if_neg h0, m_cal s c4, if_neg h1, m_cal s i4, q_X12_readFamily_33, if_pos n1]
end
