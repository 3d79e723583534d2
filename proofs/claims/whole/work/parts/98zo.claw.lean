/-! A LAW'S TEXT: the class -/
def Fq (J K : am_I) : Prop := ∀ x j, ¬ (x = 1 ∧ 2 ≤ j) → ¬ (x = 6 ∧ j = 6) → x ≠ 10 → K x j = J x j
theorem Fq.rf (J : am_I) : Fq J J := fun _ _ _ _ _ => rfl
theorem Fq.tr {I J K : am_I} (a : Fq I J) (b : Fq J K) : Fq I K := fun x j h1 h2 h3 => (b x j h1 h2 h3).trans (a x j h1 h2 h3)
theorem Fx.q {J K : am_I} (a : Fx J K) : Fq J K := fun x j h1 h2 h3 => a x j (fun e => h1 ⟨e.1, by omega⟩)
theorem Fq.u12 {J : am_I} {v : Int} : Fq J (am_u2 J 1 2 v) := fun x j h1 _ _ => by
  unfold am_u2
  rw [if_neg (fun e => h1 ⟨e.1, by omega⟩)]
def CC (K : am_I) (cs : am_Cs) : Prop := K 6 6 = (cs.1 : Int) ∧ ∀ i, i < cs.1 → K 10 i = tr (cs.2 i).1 (cs.2 i).2
def Rw (A : Nat → Int) (L N : Nat) (J K : am_I) (v : Int) (r : Nat × Option am_Cs) : Prop := Fq J K ∧ ((∃ cs, r.2 = some cs ∧ v = 1 ∧ K 1 2 = J 1 2 ∧ CQ A L N K r.1 ∧ CC K cs) ∨ (r.2 = none ∧ v = 0 ∧ K 1 2 = (r.1 : Int)))
section
variable {sc : Nat × (Nat → Int)} {d : Nat} {h : am_H} {I J K : am_I} {A : Nat → Int} {L N q b F : Nat} {cs : am_Cs} {x y : Int} {r : Nat × Option am_Cs} {at_ : Nat → am_Cs → Nat × Option am_Cs}
theorem CC.fx (k : CC J cs) (f : Fx J K) : CC K cs := by
  unfold CC
  rw [f.p (show (6 : Nat) ≠ 1 by decide), f.p (show (10 : Nat) ≠ 1 by decide)]
  exact k
theorem Rw.v01 (z : Rw A L N J K y r) : y = 0 ∨ y = 1 := by
  rcases z.2 with ⟨w, -, e, -⟩ | ⟨-, e, -⟩
  · exact Or.inr e
  · exact Or.inl e
theorem Rw.pre (e : Fq I J) (e2 : J 1 2 = I 1 2) (z : Rw A L N J K y r) : Rw A L N I K y r := by
  refine ⟨e.tr z.1, ?_⟩
  rcases z.2 with ⟨w, z1, z2, z3, z4⟩ | z
  · exact Or.inl ⟨w, z1, z2, z3.trans e2, z4⟩
  · exact Or.inr z
theorem Rw.no (e : Fq I J) : Rw A L N I (am_u2 J 1 2 (q : Int)) 0 (q, none) := ⟨e.tr Fq.u12, Or.inr ⟨rfl, rfl, u2_same⟩⟩
theorem Rw.ok (e : Fq I J) (e2 : J 1 2 = I 1 2) (k : CQ A L N J q) (R : CC J cs) : Rw A L N I J 1 (q, some cs) := ⟨e, Or.inl ⟨cs, rfl, rfl, e2, k, R⟩⟩
/-- a call upon the tape -/
theorem l_on (s : Sh h) {m : Nat} {args : List am_V} {y : Int} {h1 : am_H} {k : Int → am_H → am_R} (e : Cl sc d m (Vr (some 1) :: args) (hI h J) = some (.inl (Vi y), h1)) : (gfP 4 0 (hI h J) (some 6) fun p => am_rcv 10 (hI h J) (Vr p) (clI (Cl sc d m (Vr p :: args) (hI h J)) am_xt k)) = k y h1 := by
  rw [e_gfP (s.T 6 rfl) (s.P 15 rfl), (BT s).1, e, e_clI]
theorem l_onV (s : Sh h) {m : Nat} {args : List am_V} {y : am_V} {h1 : am_H} {k : am_H → am_R} (e : Cl sc d m (Vr (some 1) :: args) (hI h J) = some (.inl y, h1)) : (gfP 4 0 (hI h J) (some 6) fun p => am_rcv 10 (hI h J) (Vr p) (clV (Cl sc d m (Vr p :: args) (hI h J)) am_xt k)) = k h1 := by
  rw [e_gfP (s.T 6 rfl) (s.P 15 rfl), (BT s).1, e, e_clV]
theorem l_ref (s : Sh h) (k : CQ A L N J q) : (gfP 4 0 (hI h J) (some 6) fun p => am_rcv 10 (hI h J) (Vr p) (clI (Cl sc (d + 1) mX10_refuses [Vr p] (hI h J)) am_xt fun y h1 => am_ret 1 y h1)) = some (.inl (Vi 0), hI h (am_u2 J 1 2 (q : Int))) := by
  rw [l_on s (c_refuses s k), r1_0]
/-- a call upon the reader -/
theorem l_me (s : Sh h) {m : Nat} {args : List am_V} {y : Int} {h1 : am_H} {k : Int → am_H → am_R} (e : Cl sc d m args (hI h J) = some (.inl (Vi y), h1)) : am_rcv 4 (hI h J) (Vr (some 6)) (clI (Cl sc d m args (hI h J)) am_xt k) = k y h1 := by
  rw [e_rcv (s.T 6 rfl), e, e_clI]
theorem l_meV (s : Sh h) {m : Nat} {args : List am_V} {y : am_V} {h1 : am_H} {k : am_H → am_R} (e : Cl sc d m args (hI h J) = some (.inl y, h1)) : am_rcv 4 (hI h J) (Vr (some 6)) (clV (Cl sc d m args (hI h J)) am_xt k) = k h1 := by
  rw [e_rcv (s.T 6 rfl), e, e_clV]
theorem l_emit (s : Sh h) (k : CC J cs) (hn : cs.1 < 400) {p : Int × Int} {c : Int} (e : tr p.1 p.2 = c) : ∃ K, (Fq J K ∧ (∀ q, CQ A L N J q → CQ A L N K q) ∧ K 1 2 = J 1 2 ∧ CC K (emC cs p)) ∧ Cl sc (d + 1) mX4_emit [Vr (some 6), Vi c] (hI h J) = some (.inl (Vx 0), hI h K) := by
  obtain ⟨k1, k2⟩ := k
  have hn' : (cs.1 : Int) < ((400 : Nat) : Int) := by omega
  refine ⟨am_u2 (am_u2 J 10 cs.1 c) 6 6 ((cs.1 + 1 : Nat) : Int), ⟨fun x j h1 h2 h3 => ?_, fun q kq => kq.same ?_ ?_ ?_, ?_, u2_same, fun i hi => ?_⟩, ?_⟩
  · unfold am_u2
    rw [if_neg h2, if_neg (fun z => h3 z.1)]
  · rw [u2_o (by decide), u2_o (by decide)]
  · rw [u2_o (by decide), u2_o (by decide)]
  · rw [u2_o (by decide), u2_o (by decide)]
  · rw [u2_o (by decide), u2_o (by decide)]
  · rw [u2_o (by decide)]
    have hi : i < cs.1 + 1 := hi
    show _ = tr (if i = cs.1 then p else cs.2 i).1 (if i = cs.1 then p else cs.2 i).2
    by_cases e9 : i = cs.1
    · rw [if_pos e9, e9, u2_same, e]
    · rw [if_neg e9, u2_j e9]
      exact k2 i (by omega)
  · have e6 : am_u2 J 10 cs.1 c 6 6 = (cs.1 : Int) := by rw [u2_a (by decide)]; exact k1
    rw [q_X4_emit_0, e_gfI (s.T 6 rfl), k1, e_gfP (s.T 6 rfl) (s.P 19 rfl), e_lenA (s.T 10 rfl) (by decide) (by decide), if_pos hn', e_gfP (s.T 6 rfl) (s.P 19 rfl), e_gfI (s.T 6 rfl), k1, e_stA (s.T 10 rfl) (Int.natCast_nonneg _) hn', Int.toNat_natCast, e_gfI (s.T 6 rfl), e6, ar_t1 (q := cs.1) (by omega), e_pfI (s.T 6 rfl)]
theorem l_isP1 {t : Int} (ht : (0 ≤ t ∧ t ≤ 999) ∨ (-22 ≤ t ∧ t ≤ -17)) : Cl sc (d + 1) mX4_isPart [Vi t] h = some (.inl (Vi 1), h) := by
  rw [q_X4_isPart_0]
  by_cases h0 : t < 0
  · rw [if_pos h0, if_neg (by omega), if_neg (by omega)]
  · rw [if_neg h0, if_neg (by omega)]
theorem l_isP0 {t : Int} (ht : ¬ ((0 ≤ t ∧ t ≤ 999) ∨ (-22 ≤ t ∧ t ≤ -17))) : Cl sc (d + 1) mX4_isPart [Vi t] h = some (.inl (Vi 0), h) := by
  rw [q_X4_isPart_0]
  by_cases h0 : t < 0
  · rw [if_pos h0]
    by_cases h1 : -17 < t
    · rw [if_pos h1]
    · rw [if_neg h1, if_pos (by omega)]
  · rw [if_neg h0, if_pos (by omega), if_pos (by omega)]
theorem CQ.le (k : CQ A L N J q) : q ≤ 400 := by
  have := k.tq.1
  have := k.1.1.2
  omega
theorem l_sum3 (s : Sh h) : ∀ F i fst q cs (J : am_I) u, (fst = true ↔ i = 0) → L < q + F → i + 1 ≤ q → ((fst = true → cs.1 + 1 ≤ q) ∧ (fst = false → cs.1 + 2 ≤ q)) → CQ A L N J q → CC J cs → ∃ y K, Rw A L N J K y (suL A L F fst q cs) ∧ Ru sc (d + 2) mX4_readsSum 3 [Vr (some 6), Vi (i : Int), u] [] (hI h J) = some (.inl (Vi y), hI h K)
  | 0, i, fst, q, cs, J, u, e0, hF, hi, hc, k, R => by
    have := k.tq.1
    omega
  | F + 1, i, fst, q, cs, J, u, e0, hF, hi, hc, k, R => by
    have ne1 : ¬ (1 : Int) = 0 := by decide
    have hq := k.le
    have i4 : (i : Int) < 400 := by omega
    have ct := c_thing (sc := sc) (d := d) s k
    unfold suL
    by_cases h1 : (0 ≤ thT A L q ∧ thT A L q ≤ 999) ∨ (-22 ≤ thT A L q ∧ thT A L q ≤ -17)
    · rw [if_pos h1]
      obtain ⟨a1, a2⟩ := nx_b k.tq (by omega)
      obtain ⟨K1, b1, b2, b3⟩ := c_next (sc := sc) (d := d) s k (by omega)
      have hq2 := b2.le
      have ip := l_isP1 (sc := sc) (d := d) (h := hI h J) h1
      have hn4 : cs.1 < 400 := by
        cases fst
        · have := hc.2 rfl
          omega
        · have := hc.1 rfl
          omega
      obtain ⟨K2, ⟨c1, c2, c3, c4⟩, c5⟩ := l_emit (sc := sc) (d := d) (A := A) (L := L) (N := N) s (R.fx b1) hn4 (tr_c (t := thT A L q) (by omega) (by omega))
      have wn := ar_t1 (q := i) (by omega)
      cases fst
      · have hi0 : ¬ i = 0 := fun z => by
          have := e0.mpr z
          cases this
        have hn5 := hc.2 rfl
        clear wn
        have i0 : 0 < (i : Int) := by omega
        obtain ⟨K3, ⟨d1, d2, d3, d4⟩, d5⟩ := l_emit (sc := sc) (d := d) (A := A) (L := L) (N := N) s c4 (show cs.1 + 1 < 400 by omega) (p := (10, 0)) (c := -27) rfl
        have k3 := d2 _ (c2 _ b2)
        have f3 := (b1.q.tr c1).tr d1
        have g3 := d3.trans (c3.trans b1.e2)
        have wn := ar_t1 (q := i) (by omega)
        rcases c_takes (sc := sc) (d := d) s k3 (c := -27) (by decide) with ⟨e1, K4, g1, g2, g4⟩ | ⟨e1, g4⟩
        · rw [if_pos e1]
          obtain ⟨t1, t2⟩ := nx_b a2 (by clear wn; omega)
          obtain ⟨y, K, z1, z2⟩ := l_sum3 s F (i + 1) false _ _ K4 (Vi (thT A L q)) (by simp) (by clear wn; omega) (by clear wn; omega) ⟨fun z => (by cases z), fun _ => by show cs.1 + 1 + 1 + 2 ≤ _; clear wn; omega⟩ g2 (d4.fx g1)
          refine ⟨y, K, z1.pre (f3.tr g1.q) (g1.e2.trans g3), ?_⟩
          rw [q_X4_readsSum_3, if_pos i4, l_on s ct, ip, e_clI, if_neg ne1, l_onV s b3, l_meV s c5, if_pos i0, l_meV s d5, l_on s g4, if_neg ne1, wn]
          exact z2
        · rw [if_neg e1]
          refine ⟨1, K3, Rw.ok f3 g3 k3 d4, ?_⟩
          rw [q_X4_readsSum_3, if_pos i4, l_on s ct, ip, e_clI, if_neg ne1, l_onV s b3, l_meV s c5, if_pos i0, l_meV s d5, l_on s g4, if_pos rfl]
      · have hi0 : i = 0 := e0.mp rfl
        have hn5 := hc.1 rfl
        have i0 : ¬ 0 < (i : Int) := by clear wn; omega
        have k3 := c2 _ b2
        have f3 := b1.q.tr c1
        have g3 := c3.trans b1.e2
        rcases c_takes (sc := sc) (d := d) s k3 (c := -27) (by decide) with ⟨e1, K4, g1, g2, g4⟩ | ⟨e1, g4⟩
        · rw [if_pos e1]
          obtain ⟨t1, t2⟩ := nx_b a2 (by clear wn; omega)
          obtain ⟨y, K, z1, z2⟩ := l_sum3 s F (i + 1) false _ _ K4 (Vi (thT A L q)) (by simp) (by clear wn; omega) (by clear wn; omega) ⟨fun z => (by cases z), fun _ => by show cs.1 + 1 + 2 ≤ _; clear wn; omega⟩ g2 (c4.fx g1)
          refine ⟨y, K, z1.pre (f3.tr g1.q) (g1.e2.trans g3), ?_⟩
          rw [q_X4_readsSum_3, if_pos i4, l_on s ct, ip, e_clI, if_neg ne1, l_onV s b3, l_meV s c5, if_neg i0, l_on s g4, if_neg ne1, wn]
          exact z2
        · rw [if_neg e1]
          refine ⟨1, K2, Rw.ok f3 g3 k3 c4, ?_⟩
          rw [q_X4_readsSum_3, if_pos i4, l_on s ct, ip, e_clI, if_neg ne1, l_onV s b3, l_meV s c5, if_neg i0, l_on s g4, if_pos rfl]
    · rw [if_neg h1]
      have ip := l_isP0 (sc := sc) (d := d) (h := hI h J) h1
      refine ⟨0, _, Rw.no (Fq.rf J), ?_⟩
      rw [q_X4_readsSum_3, if_pos i4, l_on s ct, ip, e_clI, if_pos rfl]
      exact l_ref s k
theorem l_suR (s : Sh h) (k : CQ A L N J q) (R : CC J cs) (hc : cs.1 + 1 ≤ q) : ∃ y K, Rw A L N J K y (suL A L (L + 1) true q cs) ∧ Cl sc (d + 2) mX4_readsSum [Vr (some 6)] (hI h J) = some (.inl (Vi y), hI h K) := by
  obtain ⟨y, K, z1, z2⟩ := l_sum3 (sc := sc) (d := d) s (L + 1) 0 true q cs J (Vx 0) (by simp) (by omega) (by omega) ⟨fun _ => hc, fun z => by cases z⟩ k R
  refine ⟨y, K, z1, ?_⟩
  rw [q_X4_readsSum_0]
  exact z2
theorem l_cm21 (s : Sh h) (k : CQ A L N J q) (R : CC J cs) (hc : cs.1 + 1 ≤ q) {v : Int} {u : Int × Int} (hu : (v = 0 ∧ u = (12, 0)) ∨ (v = 1 ∧ u = (11, 0))) : ∃ y K, Rw A L N J K y (bnR (suL A L (L + 1) true q cs) (fun q2 cs2 => (q2, some (emC cs2 u)))) ∧ Ru sc (d + 3) mX4_readsComparison 21 [Vr (some 6), Vi v] [] (hI h J) = some (.inl (Vi y), hI h K) := by
  have ne1 : ¬ (1 : Int) = 0 := by decide
  obtain ⟨y, K, z1, z2⟩ := l_suR (sc := sc) (d := d) s k R hc
  have g2 := suL_1 (cs := cs) k.tq
  rcases e2 : suL A L (L + 1) true q cs with ⟨q2, _ | c2⟩
  · rw [e2] at z1
    rcases z1.2 with ⟨w, w1, -⟩ | ⟨-, w2, w3⟩
    · cases w1
    · subst w2
      refine ⟨0, K, ⟨z1.1, Or.inr ⟨rfl, rfl, w3⟩⟩, ?_⟩
      rw [q_X4_readsComparison_21, l_me s z2, if_pos rfl]
  · rw [e2] at z1 g2
    obtain ⟨y1, y2, y3, y4, y5⟩ := g2 c2 rfl
    dsimp only at y1 y2 y3
    rcases z1.2 with ⟨w, w1, w2, w3, w4, w5⟩ | ⟨w1, -⟩
    · cases w1
      subst w2
      have h400 := w4.le
      dsimp only at h400
      rcases hu with ⟨rfl, rfl⟩ | ⟨rfl, rfl⟩
      · obtain ⟨K3, ⟨d1, d2, d3, d4⟩, d5⟩ := l_emit (sc := sc) (d := d + 1) (A := A) (L := L) (N := N) s w5 (by omega) (p := (12, 0)) (c := -29) rfl
        refine ⟨1, K3, Rw.ok (z1.1.tr d1) (d3.trans w3) (d2 _ w4) d4, ?_⟩
        rw [q_X4_readsComparison_21, l_me s z2, if_neg ne1, if_pos rfl, l_meV s d5]
      · obtain ⟨K3, ⟨d1, d2, d3, d4⟩, d5⟩ := l_emit (sc := sc) (d := d + 1) (A := A) (L := L) (N := N) s w5 (by omega) (p := (11, 0)) (c := -28) rfl
        refine ⟨1, K3, Rw.ok (z1.1.tr d1) (d3.trans w3) (d2 _ w4) d4, ?_⟩
        rw [q_X4_readsComparison_21, l_me s z2, if_neg ne1, if_neg ne1, l_meV s d5]
    · cases w1
theorem l_cm (s : Sh h) (k : CQ A L N J q) (R : CC J cs) (hc : cs.1 + 1 ≤ q) : ∃ y K, Rw A L N J K y (cmR A L q cs) ∧ Cl sc (d + 3) mX4_readsComparison [Vr (some 6)] (hI h J) = some (.inl (Vi y), hI h K) := by
  have ne1 : ¬ (1 : Int) = 0 := by decide
  obtain ⟨y, K, z1, z2⟩ := l_suR (sc := sc) (d := d) s k R hc
  have g2 := suL_1 (cs := cs) k.tq
  unfold cmR
  rcases e2 : suL A L (L + 1) true q cs with ⟨q1, _ | c1⟩
  · rw [e2] at z1
    rcases z1.2 with ⟨w, w1, -⟩ | ⟨-, w2, w3⟩
    · cases w1
    · subst w2
      refine ⟨0, K, ⟨z1.1, Or.inr ⟨rfl, rfl, w3⟩⟩, ?_⟩
      rw [q_X4_readsComparison_0, l_me s z2, if_pos rfl]
  · rw [e2] at z1 g2
    obtain ⟨y1, y2, y3, y4, y5⟩ := g2 c1 rfl
    dsimp only at y1 y2 y3
    rw [bnR_so]
    rcases z1.2 with ⟨w, w1, w2, w3, w4, w5⟩ | ⟨w1, -⟩
    · cases w1
      subst w2
      dsimp only at w4
      rcases c_takes (sc := sc) (d := d + 1) s w4 (c := -28) (by decide) with ⟨e3, K4, g1, g2, g4⟩ | ⟨e3, g4⟩
      · rw [if_pos e3]
        obtain ⟨t1, t2⟩ := nx_b y2 (by omega)
        obtain ⟨v, K5, x1, x2⟩ := l_cm21 (sc := sc) (d := d) s g2 (w5.fx g1) (by omega) (v := 1) (u := (11, 0)) (Or.inr ⟨rfl, rfl⟩)
        refine ⟨v, K5, x1.pre (z1.1.tr g1.q) (g1.e2.trans w3), ?_⟩
        rw [q_X4_readsComparison_0, l_me s z2, if_neg ne1, l_on s g4, if_neg ne1]
        exact x2
      · rw [if_neg e3]
        rcases c_takes (sc := sc) (d := d + 1) s w4 (c := -29) (by decide) with ⟨e5, K4, g1, g2, g6⟩ | ⟨e5, g6⟩
        · rw [if_pos e5]
          obtain ⟨t1, t2⟩ := nx_b y2 (by omega)
          obtain ⟨v, K5, x1, x2⟩ := l_cm21 (sc := sc) (d := d) s g2 (w5.fx g1) (by omega) (v := 0) (u := (12, 0)) (Or.inl ⟨rfl, rfl⟩)
          refine ⟨v, K5, x1.pre (z1.1.tr g1.q) (g1.e2.trans w3), ?_⟩
          rw [q_X4_readsComparison_0, l_me s z2, if_neg ne1, l_on s g4, if_pos rfl, l_on s g6, if_neg ne1]
          exact x2
        · rw [if_neg e5]
          refine ⟨0, _, Rw.no z1.1, ?_⟩
          rw [q_X4_readsComparison_0, l_me s z2, if_neg ne1, l_on s g4, if_pos rfl, l_on s g6, if_pos rfl]
          exact l_ref s w4
    · cases w1
end
