/-! A COUNTY'S TEXT: the class -/
def Fz (J K : am_I) : Prop := ∀ x j, ¬ (x = 1 ∧ 2 ≤ j) → ¬ (23 ≤ x ∧ x ≤ 34) → ¬ (304 ≤ x ∧ (x - 304) % 6 = 5) → K x j = J x j
theorem Fz.rf (J : am_I) : Fz J J := fun _ _ _ _ _ => rfl
theorem Fz.tr {I J K : am_I} (a : Fz I J) (b : Fz J K) : Fz I K := fun x j h1 h2 h3 => (b x j h1 h2 h3).trans (a x j h1 h2 h3)
theorem Fx.z {J K : am_I} (a : Fx J K) : Fz J K := fun x j h1 h2 h3 => a x j (fun e => h1 ⟨e.1, by omega⟩)
theorem Cg.z {J K : am_I} (a : Cg 23 J K) : Fz J K := fun x j h1 h2 h3 => congrFun (a x (by omega) h3) j
theorem Fz.u12 {J : am_I} {v : Int} : Fz J (am_u2 J 1 2 v) := fun x j h1 _ _ => by
  unfold am_u2
  rw [if_neg (fun e => h1 ⟨e.1, by omega⟩)]
theorem Cg.u {a : Nat} {J : am_I} {x j : Nat} {v : Int} (h1 : a ≤ x) (h2 : x ≤ a + 11) : Cg a J (am_u2 J x j v) := fun p hp _ => by
  rw [u2_o (by omega)]
def Rz (A : Nat → Int) (L N : Nat) (J K : am_I) (v : Int) (r : Nat × Option am_Wd) : Prop := Fz J K ∧ ((∃ w, r.2 = some w ∧ v = 1 ∧ K 1 2 = J 1 2 ∧ CQ A L N K r.1 ∧ CRep K 23 w) ∨ (r.2 = none ∧ v = 0 ∧ K 1 2 = (r.1 : Int)))
section
variable {sc : Nat × (Nat → Int)} {d : Nat} {h : am_H} {I J K : am_I} {A : Nat → Int} {L N q b f : Nat} {w v : am_Wd} {ag hi ga st x : Int} {r : Nat × Option am_Wd}
theorem CQ.cg (k : CQ A L N J q) (e : Cg 23 J K) : CQ A L N K q := k.same (e 3 (by decide) (by decide)) (e 4 (by decide) (by decide)) (congrFun (e 1 (by decide) (by decide)) 5)
theorem CRep.fx (R : CRep J 23 w) (f : Fx J K) : CRep K 23 w := R.eq (fun k hk => f.p (by omega))
theorem Fx.e2 (f : Fx J K) : K 1 2 = J 1 2 := f 1 2 (by omega)
theorem Cg.e2 (f : Cg 23 J K) : K 1 2 = J 1 2 := congrFun (f 1 (by decide) (by decide)) 2
theorem Rz.v01 {y : Int} (z : Rz A L N J K y r) : y = 0 ∨ y = 1 := by
  rcases z.2 with ⟨w, -, e, -⟩ | ⟨-, e, -⟩
  · exact Or.inr e
  · exact Or.inl e
theorem Rz.pre {y : Int} (e : Fz I J) (e2 : J 1 2 = I 1 2) (z : Rz A L N J K y r) : Rz A L N I K y r := by
  refine ⟨e.tr z.1, ?_⟩
  rcases z.2 with ⟨w, z1, z2, z3, z4⟩ | z
  · exact Or.inl ⟨w, z1, z2, z3.trans e2, z4⟩
  · exact Or.inr z
theorem Rz.no (e : Fz I J) : Rz A L N I (am_u2 J 1 2 (q : Int)) 0 (q, none) := ⟨e.tr Fz.u12, Or.inr ⟨rfl, rfl, u2_same⟩⟩
theorem Rz.ok (e : Fz I J) (e2 : J 1 2 = I 1 2) (k : CQ A L N J q) (R : CRep J 23 w) : Rz A L N I J 1 (q, some w) := ⟨e, Or.inl ⟨w, rfl, rfl, e2, k, R⟩⟩
/-- a call upon the tape -/
theorem c_on (s : Sh h) {m : Nat} {args : List am_V} {y : Int} {h1 : am_H} {k : Int → am_H → am_R} (e : Cl sc d m (Vr (some 1) :: args) (hI h J) = some (.inl (Vi y), h1)) : (gfP 1 0 (hI h J) (some 5) fun p => am_rcv 10 (hI h J) (Vr p) (clI (Cl sc d m (Vr p :: args) (hI h J)) am_xt k)) = k y h1 := by
  rw [(BR s).2, (BT s).1, e, e_clI]
theorem c_tak (s : Sh h) {k : Int → am_R} : (gfP 1 0 (hI h J) (some 5) fun p => gfI 10 6 (hI h J) p k) = k (J 1 6) := by
  rw [(BR s).2, e_gfI (s.T 1 rfl)]
theorem c_ref (s : Sh h) (k : CQ A L N J q) : (gfP 1 0 (hI h J) (some 5) fun p => am_rcv 10 (hI h J) (Vr p) (clI (Cl sc (d + 1) mX10_refuses [Vr p] (hI h J)) am_xt fun y h1 => am_ret 1 y h1)) = some (.inl (Vi 0), hI h (am_u2 J 1 2 (q : Int))) := by
  rw [c_on s (c_refuses s k), r1_0]
theorem c_takesV (s : Sh h) (k : CQ A L N J q) {c : Int} (hc : c ≠ -1) : ∃ K, Fx J K ∧ CQ A L N K (tgR A L c q) ∧ Cl sc (d + 1) mX10_takes [Vr (some 1), Vi c] (hI h J) = some (.inl (Vi (tgV A L c q)), hI h K) := by
  unfold tgR tgV
  rcases c_takes (sc := sc) (d := d) s k hc with ⟨e, K, k1, k2, k3⟩ | ⟨e, k1⟩
  · rw [if_pos e, if_pos e]
    exact ⟨K, k1, k2, k3⟩
  · rw [if_neg e, if_neg e]
    exact ⟨J, Fx.rf J, k, k1⟩
theorem feW_R1 {a : Nat} (R : CRep J a (feW w b ag hi ga st)) (V : WW (feW w b ag hi ga st)) (hb : b < 60) : CRep (am_u2 J (a + 2) b x) a (feW w b x hi ga st) := by
  refine R.chF (b := b) V (u2_o (by omega)) (fun k h1 h2 => u2_o (by omega)) (fun k x h1 h2 h3 => u2_j h3) (fun j hj => by rw [feW_g hj, feW_g hj]) hb ?_
  obtain ⟨r0, r1⟩ := R.1 b hb
  obtain ⟨e0, e1, e2, e3, e4⟩ := feW_v (w := w) (b := b) (ag := ag) (hi := hi) (ga := ga) (st := st)
  obtain ⟨g0, g1, g2, g3, g4⟩ := feW_v (w := w) (b := b) (ag := x) (hi := hi) (ga := ga) (st := st)
  rw [e0, e1, e2, e3, e4] at r1
  rw [e0] at r0
  obtain ⟨q1, q2, q3, q4⟩ := r1 rfl
  unfold FR
  rw [g0, g1, g2, g3, g4, u2_o (by omega), u2_same, u2_o (by omega), u2_o (by omega), u2_o (by omega)]
  exact ⟨r0, fun _ => ⟨rfl, q2, q3, q4⟩⟩
theorem feW_R2 {a : Nat} (R : CRep J a (feW w b ag hi ga st)) (V : WW (feW w b ag hi ga st)) (hb : b < 60) : CRep (am_u2 J (a + 3) b x) a (feW w b ag x ga st) := by
  refine R.chF (b := b) V (u2_o (by omega)) (fun k h1 h2 => u2_o (by omega)) (fun k x h1 h2 h3 => u2_j h3) (fun j hj => by rw [feW_g hj, feW_g hj]) hb ?_
  obtain ⟨r0, r1⟩ := R.1 b hb
  obtain ⟨e0, e1, e2, e3, e4⟩ := feW_v (w := w) (b := b) (ag := ag) (hi := hi) (ga := ga) (st := st)
  obtain ⟨g0, g1, g2, g3, g4⟩ := feW_v (w := w) (b := b) (ag := ag) (hi := x) (ga := ga) (st := st)
  rw [e0, e1, e2, e3, e4] at r1
  rw [e0] at r0
  obtain ⟨q1, q2, q3, q4⟩ := r1 rfl
  unfold FR
  rw [g0, g1, g2, g3, g4, u2_o (by omega), u2_o (by omega), u2_same, u2_o (by omega), u2_o (by omega)]
  exact ⟨r0, fun _ => ⟨q1, rfl, q3, q4⟩⟩
theorem feW_R3 {a : Nat} (R : CRep J a (feW w b ag hi ga st)) (V : WW (feW w b ag hi ga st)) (hb : b < 60) : CRep (am_u2 J (a + 4) b x) a (feW w b ag hi x st) := by
  refine R.chF (b := b) V (u2_o (by omega)) (fun k h1 h2 => u2_o (by omega)) (fun k x h1 h2 h3 => u2_j h3) (fun j hj => by rw [feW_g hj, feW_g hj]) hb ?_
  obtain ⟨r0, r1⟩ := R.1 b hb
  obtain ⟨e0, e1, e2, e3, e4⟩ := feW_v (w := w) (b := b) (ag := ag) (hi := hi) (ga := ga) (st := st)
  obtain ⟨g0, g1, g2, g3, g4⟩ := feW_v (w := w) (b := b) (ag := ag) (hi := hi) (ga := x) (st := st)
  rw [e0, e1, e2, e3, e4] at r1
  rw [e0] at r0
  obtain ⟨q1, q2, q3, q4⟩ := r1 rfl
  unfold FR
  rw [g0, g1, g2, g3, g4, u2_o (by omega), u2_o (by omega), u2_o (by omega), u2_same, u2_o (by omega)]
  exact ⟨r0, fun _ => ⟨q1, q2, rfl, q4⟩⟩
theorem feW_R4 {a : Nat} (R : CRep J a (feW w b ag hi ga st)) (V : WW (feW w b ag hi ga st)) (hb : b < 60) : CRep (am_u2 J (a + 5) b x) a (feW w b ag hi ga x) := by
  refine R.chF (b := b) V (u2_o (by omega)) (fun k h1 h2 => u2_o (by omega)) (fun k x h1 h2 h3 => u2_j h3) (fun j hj => by rw [feW_g hj, feW_g hj]) hb ?_
  obtain ⟨r0, r1⟩ := R.1 b hb
  obtain ⟨e0, e1, e2, e3, e4⟩ := feW_v (w := w) (b := b) (ag := ag) (hi := hi) (ga := ga) (st := st)
  obtain ⟨g0, g1, g2, g3, g4⟩ := feW_v (w := w) (b := b) (ag := ag) (hi := hi) (ga := ga) (st := x)
  rw [e0, e1, e2, e3, e4] at r1
  rw [e0] at r0
  obtain ⟨q1, q2, q3, q4⟩ := r1 rfl
  unfold FR
  rw [g0, g1, g2, g3, g4, u2_o (by omega), u2_o (by omega), u2_o (by omega), u2_o (by omega), u2_same]
  exact ⟨r0, fun _ => ⟨q1, q2, q3, rfl⟩⟩
def rdFe4 (A : Nat → Int) (L q : Nat) (w : am_Wd) (b : Nat) (ag hi : Int) : Nat × Option am_Wd := (tgR A L (-24) (tgR A L (-23) q), some (feW w b ag hi (tgV A L (-23) q) (tgV A L (-24) (tgR A L (-23) q))))
def rdFe3 (A : Nat → Int) (L q : Nat) (w : am_Wd) (b : Nat) (ag : Int) : Nat × Option am_Wd := match (opR A L (-19) q 0).2 with
  | none => ((opR A L (-19) q 0).1, none)
  | some hi => rdFe4 A L (opR A L (-19) q 0).1 w b ag hi
theorem c_fe68 (s : Sh h) (k : CQ A L N J q) (V : WW w) (hb : b < 60) (h1 : 0 ≤ ag ∧ ag ≤ 999) (h2 : 0 ≤ hi ∧ hi ≤ 999) (R : CRep J 23 (feW w b ag hi 0 0)) : ∃ y K, Rz A L N J K y (rdFe4 A L q w b ag hi) ∧ Ru sc (d + 4) mX1_readsFence 68 [Vr (some 5), Vr (some 23), Vi (b : Int)] [] (hI h J) = some (.inl (Vi y), hI h K) := by
  have hb6 : (b : Int) < 60 := by omega
  obtain ⟨K1, a1, a2, a3⟩ := c_takesV (sc := sc) (d := d + 2) s k (c := -23) (by decide)
  have c1 : Cg 23 K1 (am_u2 K1 27 b (tgV A L (-23) q)) := Cg.u (by decide) (by decide)
  have R1 := feW_R3 (x := tgV A L (-23) q) (R.fx a1) (feW_w V hb h1 h2 (Or.inl rfl) (Or.inl rfl)) hb
  obtain ⟨K2, b1, b2, b3⟩ := c_takesV (sc := sc) (d := d + 2) s (a2.cg c1) (c := -24) (by decide)
  have c2 : Cg 23 K2 (am_u2 K2 28 b (tgV A L (-24) (tgR A L (-23) q))) := Cg.u (by decide) (by decide)
  have R2 := feW_R4 (x := tgV A L (-24) (tgR A L (-23) q)) (R1.fx b1) (feW_w V hb h1 h2 tgV_b (Or.inl rfl)) hb
  refine ⟨1, _, Rz.ok (((a1.z.tr c1.z).tr b1.z).tr c2.z) (c2.e2.trans (b1.e2.trans (c1.e2.trans a1.e2))) (b2.cg c2) R2, ?_⟩
  rw [q_X1_readsFence_68, e_gfP (s.T 23 rfl) (s.P 34 rfl), c_on s a3, e_stB (s.T 27 rfl) (Int.natCast_nonneg b) hb6 tgV_b, Int.toNat_natCast, e_gfP (s.T 23 rfl) (s.P 35 rfl), c_on s b3, e_stB (s.T 28 rfl) (Int.natCast_nonneg b) hb6 tgV_b, Int.toNat_natCast]
theorem c_fe46 (s : Sh h) (k : CQ A L N J q) (V : WW w) (hb : b < 60) (h1 : 0 ≤ ag ∧ ag ≤ 999) (R : CRep J 23 (feW w b ag 0 0 0)) : ∃ y K, Rz A L N J K y (rdFe3 A L q w b ag) ∧ Ru sc (d + 4) mX1_readsFence 46 [Vr (some 5), Vr (some 23), Vi (b : Int)] [] (hI h J) = some (.inl (Vi y), hI h K) := by
  have hb6 : (b : Int) < 60 := by omega
  have ne1 : ¬ (1 : Int) = 0 := by decide
  rcases c_takes (sc := sc) (d := d + 2) s k (c := -19) (by decide) with ⟨e, K1, a1, a2, a3⟩ | ⟨e, a3⟩
  · rcases c_takesN (sc := sc) (d := d + 2) s a2 (m := 999) with ⟨e2, K2, b1, b2, b3, b4⟩ | ⟨e2, b4⟩
    · have eo : opR A L (-19) q 0 = (nxT A L (nxT A L q), some (thT A L (nxT A L q))) := by
        unfold opR
        rw [if_pos e, if_pos e2]
      have er : rdFe3 A L q w b ag = rdFe4 A L (nxT A L (nxT A L q)) w b ag (thT A L (nxT A L q)) := by
        unfold rdFe3
        rw [eo]
      have c1 : Cg 23 K2 (am_u2 K2 26 b (thT A L (nxT A L q))) := Cg.u (by decide) (by decide)
      have R1 := feW_R2 (x := thT A L (nxT A L q)) ((R.fx a1).fx b1) (feW_w V hb h1 (by decide) (Or.inl rfl) (Or.inl rfl)) hb
      obtain ⟨y, K, z1, z2⟩ := c_fe68 (sc := sc) (d := d) s (b2.cg c1) V hb h1 e2 R1
      rw [er]
      refine ⟨y, K, z1.pre ((a1.z.tr b1.z).tr c1.z) (c1.e2.trans (b1.e2.trans a1.e2)), ?_⟩
      rw [q_X1_readsFence_46, c_on s a3, if_neg ne1, c_on s b4, if_neg ne1, e_gfP (s.T 23 rfl) (s.P 33 rfl), c_tak s, e_stA (s.T 26 rfl) (Int.natCast_nonneg b) hb6, Int.toNat_natCast, b3]
      exact z2
    · have eo : opR A L (-19) q 0 = (nxT A L q, none) := by
        unfold opR
        rw [if_pos e, if_neg e2]
      have er : rdFe3 A L q w b ag = (nxT A L q, none) := by
        unfold rdFe3
        rw [eo]
      rw [er]
      refine ⟨0, _, Rz.no a1.z, ?_⟩
      rw [q_X1_readsFence_46, c_on s a3, if_neg ne1, c_on s b4, if_pos rfl]
      exact c_ref s a2
  · have eo : opR A L (-19) q 0 = (q, some 0) := by
      unfold opR
      rw [if_neg e]
    have er : rdFe3 A L q w b ag = rdFe4 A L q w b ag 0 := by
      unfold rdFe3
      rw [eo]
    obtain ⟨y, K, z1, z2⟩ := c_fe68 (sc := sc) (d := d) s k V hb h1 (hi := 0) (by decide) R
    rw [er]
    refine ⟨y, K, z1, ?_⟩
    rw [q_X1_readsFence_46, c_on s a3, if_pos rfl]
    exact z2
theorem c_readsFe (s : Sh h) (k : CQ A L N J q) (V : WW w) (R : CRep J 23 w) : ∃ y K, Rz A L N J K y (rdFence A L q w) ∧ Cl sc (d + 4) mX1_readsFence [Vr (some 5), Vr (some 23)] (hI h J) = some (.inl (Vi y), hI h K) := by
  have ne1 : ¬ (1 : Int) = 0 := by decide
  unfold rdFence
  rcases c_takesN (sc := sc) (d := d + 2) s k (m := 35) with ⟨e1, K1, a1, a2, a3, a4⟩ | ⟨e1, a4⟩
  · rw [if_pos e1]
    obtain ⟨c, hc⟩ : ∃ c : Nat, thT A L q = (c : Int) := ⟨(thT A L q).toNat, by omega⟩
    have hc36 : c < 36 := by omega
    rw [hc, Int.toNat_natCast]
    rw [hc] at a3
    rcases c_takesB (sc := sc) (d := d) s a2 hc36 with ⟨e2, e3, K2, b1, b2, b3, b4⟩ | ⟨e2, b4⟩
    · rw [if_pos ⟨e2, e3⟩]
      obtain ⟨hb, eb⟩ := bo_b hc36 (by omega) e3
      generalize (bo c (thT A L (nxT A L q)).toNat).toNat = b at hb eb ⊢
      rw [eb] at b3
      have hb6 : (b : Int) < 60 := by omega
      have R1 := (R.fx a1).fx b1
      obtain ⟨K3, c1, c2, c3⟩ := c_put (sc := sc) (d := d + 2) (cty_of s isC_23) R1 V hb (hi := 0)
      have k3 := b2.cg c1
      have f3 : Fz J K3 := (a1.z.tr b1.z).tr c1.z
      have g3 : K3 1 2 = J 1 2 := c1.e2.trans (b1.e2.trans a1.e2)
      have run : ∀ {y : Int} {h9 : am_H} {k9 : Int → am_H → am_R}, Cl sc (d + 3) mX10_takes [Vr (some 1), Vi (-18)] (hI h K3) = some (.inl (Vi y), h9) → Cl sc (d + 4) mX1_readsFence [Vr (some 5), Vr (some 23)] (hI h J) = (if y = 0 then Ru sc (d + 4) mX1_readsFence 46 [Vr (some 5), Vr (some 23), Vi (b : Int)] [] h9 else gfP 1 0 h9 (some 5) fun p18 =>
        am_rcv 10 h9 (Vr p18) (
        clI (Cl sc (d + 3) mX10_takesNumber [Vr p18, Vi 999] h9) am_xt fun v20 h19 =>
        if v20 = 0 then
          gfP 1 0 h19 (some 5) fun p25 =>
          am_rcv 10 h19 (Vr p25) (
          clI (Cl sc (d + 3) mX10_refuses [Vr p25] h19) am_xt fun v27 h26 =>
          am_ret 1 v27 h26)
        else
          gfP 0 1 h19 (some 23) fun p21 =>
          gfP 1 0 h19 (some 5) fun p22 =>
          gfI 10 6 h19 p22 fun v23 =>
          stA 1 h19 p21 (b : Int) v23 fun h24 =>
          Ru sc (d + 4) mX1_readsFence 46 [Vr (some 5), Vr (some 23), Vi (b : Int)] [] h24)) := fun {y h9 k9} hy => by
        rw [q_X1_readsFence_0, c_on s a4, if_neg ne1, (BR s).2, (BR s).2, e_gfI (s.T 1 rfl), a3, (BT s).1, b4, e_clI, if_neg ne1, c_tak s, b3, e_rcv (s.T 23 rfl), c3, e_clV, c_on s hy]
      rcases c_takes (sc := sc) (d := d + 2) s k3 (c := -18) (by decide) with ⟨e, K4, a1, a2, a3⟩ | ⟨e, a3⟩
      · rcases c_takesN (sc := sc) (d := d + 2) s a2 (m := 999) with ⟨e2, K5, b1, b2, b3, b4⟩ | ⟨e2, b4⟩
        · have eo : opR A L (-18) (nxT A L (nxT A L q)) 0 = (nxT A L (nxT A L (nxT A L (nxT A L q))), some (thT A L (nxT A L (nxT A L (nxT A L q))))) := by
            unfold opR
            rw [if_pos e, if_pos e2]
          have er : rdFe2 A L (nxT A L (nxT A L q)) w b = rdFe3 A L (nxT A L (nxT A L (nxT A L (nxT A L q)))) w b (thT A L (nxT A L (nxT A L (nxT A L q)))) := by
            unfold rdFe2
            rw [eo]
            rfl
          have c4 : Cg 23 K5 (am_u2 K5 25 b (thT A L (nxT A L (nxT A L (nxT A L q))))) := Cg.u (by decide) (by decide)
          have R4 := feW_R1 (x := thT A L (nxT A L (nxT A L (nxT A L q)))) ((c2.fx a1).fx b1) (feW_w V hb (by decide) (by decide) (Or.inl rfl) (Or.inl rfl)) hb
          obtain ⟨y, K, z1, z2⟩ := c_fe46 (sc := sc) (d := d) s (b2.cg c4) V hb e2 R4
          rw [er]
          refine ⟨y, K, z1.pre (f3.tr ((a1.z.tr b1.z).tr c4.z)) ((c4.e2.trans (b1.e2.trans a1.e2)).trans g3), ?_⟩
          rw [run (k9 := fun _ _ => none) a3, if_neg ne1, c_on s b4, if_neg ne1, e_gfP (s.T 23 rfl) (s.P 32 rfl), c_tak s, e_stA (s.T 25 rfl) (Int.natCast_nonneg b) hb6, Int.toNat_natCast, b3]
          exact z2
        · have eo : opR A L (-18) (nxT A L (nxT A L q)) 0 = (nxT A L (nxT A L (nxT A L q)), none) := by
            unfold opR
            rw [if_pos e, if_neg e2]
          have er : rdFe2 A L (nxT A L (nxT A L q)) w b = (nxT A L (nxT A L (nxT A L q)), none) := by
            unfold rdFe2
            rw [eo]
          rw [er]
          refine ⟨0, _, Rz.no (f3.tr a1.z), ?_⟩
          rw [run (k9 := fun _ _ => none) a3, if_neg ne1, c_on s b4, if_pos rfl]
          exact c_ref s a2
      · have eo : opR A L (-18) (nxT A L (nxT A L q)) 0 = (nxT A L (nxT A L q), some 0) := by
          unfold opR
          rw [if_neg e]
        have er : rdFe2 A L (nxT A L (nxT A L q)) w b = rdFe3 A L (nxT A L (nxT A L q)) w b 0 := by
          unfold rdFe2
          rw [eo]
          rfl
        obtain ⟨y, K, z1, z2⟩ := c_fe46 (sc := sc) (d := d) s k3 V hb (ag := 0) (by decide) c2
        rw [er]
        refine ⟨y, K, z1.pre f3 g3, ?_⟩
        rw [run (k9 := fun _ _ => none) a3, if_pos rfl]
        exact z2
    · rw [if_neg e2]
      refine ⟨0, _, Rz.no a1.z, ?_⟩
      rw [q_X1_readsFence_0, c_on s a4, if_neg ne1, (BR s).2, (BR s).2, e_gfI (s.T 1 rfl), a3, (BT s).1, b4, e_clI, if_pos rfl]
      exact c_ref s a2
  · rw [if_neg e1]
    refine ⟨0, _, Rz.no (Fz.rf J), ?_⟩
    rw [q_X1_readsFence_0, c_on s a4, if_pos rfl]
    exact c_ref s k
end
