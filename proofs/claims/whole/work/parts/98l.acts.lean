/-! AN ACT: what the class and the reference have behind it -/
def CRng (h : am_H) (I : am_I) (n : Nat) (rows : Nat → am_Wd) : Prop := I 0 9 = (n : Int) ∧ n ≤ 12 ∧ (0 ≤ I 0 8 ∧ I 0 8 < 12) ∧ ∀ k, k < n → CRep I (ring I k) (rows k) ∧ rP h (ring I k) 14 = rP h 11 14
/-- places that an act of the class leaves -/
def kpC (p : Nat) : Prop := (1 ≤ p ∧ p ≤ 10) ∨ (35 ≤ p ∧ p ≤ 47) ∨ (283 ≤ p ∧ p ≤ 302) ∨ (304 ≤ p ∧ (p - 304) % 6 ≠ 5)
def kpP (p j : Nat) : Prop := j ≠ 14 ∨ ¬ (p = 11 ∨ p = 23 ∨ (139 ≤ p ∧ p ≤ 271))
def CA (h : am_H) (I : am_I) (h1 : am_H) (J : am_I) (w : am_Wd) (n : Nat) (rows : Nat → am_Wd) : Prop := (hT h1 = hT h ∧ hZ h1 = hZ h ∧ hC h1 = hC h ∧ hS h1 = hS h) ∧ (∀ p j, kpP p j → rP h1 p j = rP h p j) ∧ (∀ p, kpC p → J p = I p) ∧ J 0 6 = I 0 6 ∧ St h1 J 11 w ∧ CRng h1 J n rows
def MA (J J2 : am_I) (w : am_Wd) (n : Nat) (rows : Nat → am_Wd) : Prop := (∀ p, ¬ (283 ≤ p ∧ p ≤ 303) → J2 p = J p) ∧ J2 285 = J 285 ∧ J2 289 = J 289 ∧ (∀ j, j = 6 ∨ j = 9 ∨ j = 14 ∨ j = 18 ∨ j = 19 → J2 283 j = J 283 j) ∧ J2 284 = w ∧ J2 283 7 = (n : Int) ∧ ∀ k, k < n → ∀ j, j < 631 → J2 288 (631 * k + j) = rows k j
theorem CRep.cgw {I : am_I} {a : Nat} {w v : am_Wd} (e : ∀ j, j < 631 → v j = w j) (V : WW w) (R : CRep I a w) : CRep I a v := by
  have h5 := V.2.2.2.2.2.2.2.1
  refine ⟨fun b hb => ?_, ?_, fun f hf => ?_, ?_, ?_, ?_, ?_, ?_⟩
  · rw [e (7 + 5 * b) (by omega), e (7 + 5 * b + 1) (by omega), e (7 + 5 * b + 2) (by omega), e (7 + 5 * b + 3) (by omega), e (7 + 5 * b + 4) (by omega)]
    exact R.1 b hb
  · rw [e 0 (by omega)]
    exact R.fa
  · rw [e (307 + 4 * f) (by omega), e (307 + 4 * f + 1) (by omega), e (307 + 4 * f + 2) (by omega), e (307 + 4 * f + 3) (by omega)]
    exact R.2.2.1 f hf
  · rw [e 3 (by omega)]
    exact R.ye
  · rw [e 4 (by omega)]
    exact R.qu
  · rw [e 6 (by omega)]
    exact R.se
  · rw [e 1 (by omega)]
    exact R.te
  · obtain ⟨l1, l2, l3⟩ := R.lg
    unfold LgRep
    rw [e 5 (by omega)]
    refine ⟨l1, l2, fun k hk c hc => ?_⟩
    rw [e (331 + 5 * k + c) (by omega)]
    exact l3 k hk c hc
theorem WW.cgw {w v : am_Wd} (e : ∀ j, j < 631 → v j = w j) (V : WW w) : WW v := by
  refine WW.mk (fun b hb => ?_) (fun f hf => ?_) ?_
  · have := V.fe hb
    exact WF.cg (w := w) this (fun k hk => e _ (by omega))
  · have := V.fm hf
    exact WM.cg (w := w) this (fun k hk => e _ (by omega))
  · exact V.ws.cg (fun k hk => e k (by omega))
section
variable {sc : Nat × (Nat → Int)} {d a b n : Nat} {h h1 h2 : am_H} {I J J1 J2 K : am_I} {w v : am_Wd} {rows : Nat → am_Wd}
theorem CA.sh (s : Sh h) (ca : CA h I h1 J w n rows) : Sh h1 := by
  refine ⟨fun k hk => ?_, fun z hz => ?_, ?_⟩
  · rw [ca.1.1]
    exact s.1 k hk
  · rw [ca.2.1 z.1 z.2.1 ?_]
    · exact s.2.1 z hz
    · by_cases e : z.2.1 = 14
      · have := shP_14 z hz e
        exact Or.inr (by omega)
      · exact Or.inl e
  · rw [ca.1.2.1]
    exact s.2.2
theorem CA.x303 (ca : CA h I h1 J w n rows) {o : Int} : CA h I h1 (am_u2 J 303 0 o) w n rows := by
  obtain ⟨c1, c2, c3, c4, c5, c6⟩ := ca
  have e0 : ∀ p, p ≠ 303 → am_u2 J 303 0 o p = J p := fun p hp => u2_o hp
  refine ⟨c1, c2, fun p hp => ?_, ?_, ⟨?_, c5.2.1, ?_⟩, ?_, c6.2.1, ?_, fun k hk => ?_⟩
  · rw [e0 p (by unfold kpC at hp; omega)]
    exact c3 p hp
  · rw [e0 0 (by decide)]
    exact c4
  · exact c5.1.eq fun k hk => e0 _ (by omega)
  · exact c5.2.2.same rfl (Nat.le_refl _) rfl (fun _ _ _ => rfl) (fun n k hk => e0 _ (by omega))
  · rw [e0 0 (by decide)]
    exact c6.1
  · rw [e0 0 (by decide)]
    exact c6.2.2.1
  · have er : ring (am_u2 J 303 0 o) k = ring J k := by unfold ring; rw [e0 0 (by decide)]
    have hr := ring_n (I := J) (k := k)
    rw [er]
    exact ⟨(c6.2.2.2 k hk).1.eq fun k hk => e0 _ (by omega), (c6.2.2.2 k hk).2⟩
theorem CA.goS (ca : CA h I h1 J w n rows) (g : Cg 11 J K) (S : St h1 K 11 v) : CA h I h1 K v n rows := by
  obtain ⟨c1, c2, c3, c4, c5, c6⟩ := ca
  have e0 : ∀ p, p < 11 ∨ 22 < p → ¬ (304 ≤ p ∧ (p - 304) % 6 = 5) → K p = J p := g
  refine ⟨c1, c2, fun p hp => ?_, ?_, S, ?_, c6.2.1, ?_, fun k hk => ?_⟩
  · rw [e0 p (by unfold kpC at hp; omega) (by unfold kpC at hp; omega)]
    exact c3 p hp
  · rw [e0 0 (by omega) (by omega)]
    exact c4
  · rw [e0 0 (by omega) (by omega)]
    exact c6.1
  · rw [e0 0 (by omega) (by omega)]
    exact c6.2.2.1
  · have er : ring K k = ring J k := by unfold ring; rw [e0 0 (by omega) (by omega)]
    have hr := ring_n (I := J) (k := k)
    rw [er]
    exact ⟨(c6.2.2.2 k hk).1.eq fun k hk => e0 _ (by omega) (by omega), (c6.2.2.2 k hk).2⟩
theorem CA.go (ca : CA h I h1 J w n rows) (g : Cg 11 J K) (R : CRep K 11 v) (V : WW v) (t : T2 w v) : CA h I h1 K v n rows := ca.goS g (ca.2.2.2.2.1.go (by decide) g R V t)
theorem LR.u {h : am_H} {I J : am_I} {a : Nat} {w v : am_Wd} (M : LR h I a w) (N : LR h J a v) : v 2 = w 2 := by
  unfold LR at M N
  rcases M with ⟨m1, m2⟩ | ⟨m1, n, ln, cc, m2, -⟩
  · rcases N with ⟨n1, -⟩ | ⟨n1, n, ln, cc, n2, -⟩
    · omega
    · rw [m2] at n2
      cases n2
  · rcases N with ⟨n1, n2⟩ | ⟨n1, -⟩
    · rw [m2] at n2
      cases n2
    · omega
theorem MA.go (ma : MA I J w n rows) (g : Mg J K) (e : K 284 = v) : MA I K v n rows := by
  obtain ⟨m1, m2, m3, m4, m5, m6, m7⟩ := ma
  refine ⟨fun p hp => ?_, ?_, ?_, fun j hj => ?_, e, ?_, fun k hk j hj => ?_⟩
  · rw [g p (by omega) (by omega)]
    exact m1 p hp
  · rw [g 285 (by decide) (by decide)]
    exact m2
  · rw [g 289 (by decide) (by decide)]
    exact m3
  · rw [g 283 (by decide) (by decide)]
    exact m4 j hj
  · rw [g 283 (by decide) (by decide)]
    exact m6
  · rw [g 288 (by decide) (by decide)]
    exact m7 k hk j hj
theorem Rel.act (r : Rel h I) (ca : CA h I h1 J1 w n rows) (ma : MA J1 J2 w n rows) (hr : ∀ k, k < n → WW (rows k) ∧ rows k 2 = w 2) : Rel h1 J2 := by
  obtain ⟨s, S, i, g, t, x1, x2, x9, z, hz⟩ := r
  obtain ⟨c1, c2, c3, c4, c5, c6⟩ := id ca
  obtain ⟨m1, m2, m3, m4, m5, m6, m7⟩ := ma
  have e0 : ∀ p, ¬ (283 ≤ p ∧ p ≤ 303) → J2 p = J1 p := m1
  have k283 : J1 283 = I 283 := c3 283 (by unfold kpC; omega)
  have er : ∀ k, ring J2 k = ring J1 k := fun k => by unfold ring; rw [e0 0 (by omega)]
  refine ⟨ca.sh s, ?_, ⟨?_, ?_⟩, ⟨?_, ?_, ?_, fun k hk => ?_⟩, ⟨?_, ?_, ?_, ?_⟩, ?_, ?_, ?_, z, ?_⟩
  · rw [m5]
    exact ⟨c5.1.eq fun k hk => e0 _ (by omega), c5.2.1, c5.2.2.same rfl (Nat.le_refl _) rfl (fun _ _ _ => rfl) (fun n k hk => e0 _ (by omega))⟩
  · rw [e0 0 (by omega), c4, m4 6 (by omega), k283]
    exact i.1
  · rw [m4 6 (by omega), k283, m2, c3 285 (by unfold kpC; omega)]
    rcases i.2 with i2 | ⟨i2, i3⟩
    · exact Or.inl i2
    · refine Or.inr ⟨i2, i3.1.eq fun k hk => ?_, i3.2.1, i3.2.2.same c1.1 (Nat.le_of_eq c1.2.1.symm) (c2 _ _ (Or.inr (by omega))) (fun p j hp => c2 p j (Or.inr (by omega))) (fun n k hk => ?_)⟩
      · rw [e0 _ (by omega)]
        exact c3 _ (by unfold kpC; omega)
      · rw [e0 _ (by omega)]
        exact c3 _ (by unfold kpC; omega)
  · rw [e0 0 (by omega), m6]
    exact c6.1
  · rw [m6]
    have := c6.2.1
    omega
  · rw [e0 0 (by omega)]
    exact c6.2.2.1
  · rw [m6] at hk
    have hk : k < n := by omega
    obtain ⟨q1, q2⟩ := c6.2.2.2 k hk
    obtain ⟨w1, w2⟩ := hr k hk
    have hn := ring_n (I := J1) (k := k)
    have ew : ∀ j, j < 631 → rowA J2 k j = rows k j := fun j hj => m7 k hk j hj
    rw [er k, m5]
    refine ⟨?_, w1.cgw ew, ?_, q2⟩
    · exact CRep.cgw ew w1 (q1.eq fun k hk => e0 _ (by omega))
    · rw [ew 2 (by omega)]
      exact w2
  · rw [e0 1 (by omega), c3 1 (by unfold kpC; omega), m4 9 (by omega), k283]
    exact t.1
  · rw [m4 9 (by omega), k283]
    exact t.2.1
  · rw [e0 2 (by omega), c3 2 (by unfold kpC; omega), m3, c3 289 (by unfold kpC; omega)]
    exact t.2.2.1
  · rw [e0 1 (by omega), c3 1 (by unfold kpC; omega), m4 14 (by omega), k283]
    exact t.2.2.2
  · rw [m4 18 (by omega), k283]
    exact x1
  · rw [m4 19 (by omega), k283]
    exact x2
  · rw [e0 9 (by omega), c3 9 (by unfold kpC; omega)]
    exact x9
  · rw [c1.2.1]
    exact hz
theorem pubA {C M : am_H → am_R} {cd : Nat → Int} (h0 : cd 0 = 0) (r : Rel h I) {x : Int} (c : C (hI h I) = some (.inl (Vi x), hI h1 J1)) (ca : CA h I h1 J1 w n rows) (hr : ∀ k, k < n → WW (rows k) ∧ rows k 2 = w 2) (m : ∀ J, Sh h1 → J 283 = I 283 → J 284 = I 284 → J 288 = I 288 → ∃ J2, M (hI h1 J) = some (.inl (Vi x), hI h1 J2) ∧ MA J J2 w n rows ∧ J2 283 0 = 0) : Pub h I C M cd := by
  refine ⟨0, x, x, h1, J1, c, ca.sh r.1, fun _ => rfl, fun o => ?_⟩
  have cx := ca.x303 (o := o)
  have k := cx.2.2.1
  obtain ⟨J2, m1, m2, m3⟩ := m (am_u2 J1 303 0 o) (ca.sh r.1) (k 283 (by unfold kpC; omega)) (k 284 (by unfold kpC; omega)) (k 288 (by unfold kpC; omega))
  refine ⟨h1, J2, m1, r.act cx m2 hr, by rw [m3, h0], ?_⟩
  have e1 := ca.1.2.2.1
  have e2 := ca.1.2.2.2
  unfold Bd
  omega
/-! what is remembered -/
def rN (n : Nat) : Nat := if n = 12 then 11 else n
def rR (n : Nat) (rows : Nat → am_Wd) : Nat → am_Wd := if n = 12 then fun k => rows (k + 1) else rows
def puR (n : Nat) (rows : Nat → am_Wd) (w : am_Wd) : Nat → am_Wd := fun k => if k = rN n then w else rR n rows k
theorem acts_ring (s : Sh h) (I : am_I) (n : Nat) : rP h 47 (((I 0 8).toNat + n) % 12) = some (ring I n) := (acts_of s (Nat.mod_lt _ (by decide))).1
theorem c_rem19 (s : Sh h) (S : St h I 11 w) (B : BBo I 11) (hn : n < 12) (C : CRng h I n rows) : ∃ h1 J1, CA h I h1 J1 w (n + 1) (fun k => if k = n then w else rows k) ∧ Ru sc (d + 3) mX11_rememberAct 19 [Vr (some 0)] [] (hI h I) = some (.inl (Vx 0), hI h1 J1) := by
  obtain ⟨c1, c2, c3, c4⟩ := C
  have hr := ring_n (I := I) (k := n)
  have ha := acts_ring s I n
  obtain ⟨J, ⟨j1, j2, j3⟩, j4⟩ := c_copyFrom (sc := sc) (d := d) (a := ring I n) (b := 11) s hr.2.2 isC_now (by omega) S.2.1 S.1 B
  have s1 : Sh (wP h (ring I n) 14 (rP h 11 14)) := s.w14 hr.2.2
  have ej : ∀ p, p < ring I n ∨ ring I n + 11 < p → J p = I p := j1
  have e0 : ∀ j, j ≠ 9 → am_u2 J 0 9 ((n + 1 : Nat) : Int) 0 j = I 0 j := fun j hj => by rw [u2_j hj, ej 0 (by omega)]
  have ep : ∀ p, 0 < p → am_u2 J 0 9 ((n + 1 : Nat) : Int) p = J p := fun p hp => u2_o (by omega)
  have er : ∀ k, ring (am_u2 J 0 9 ((n + 1 : Nat) : Int)) k = ring I k := fun k => by unfold ring; rw [e0 8 (by decide)]
  refine ⟨wP h (ring I n) 14 (rP h 11 14), am_u2 J 0 9 ((n + 1 : Nat) : Int), ⟨⟨rfl, rfl, rfl, rfl⟩, fun p j hp => rP_w14n ?_, fun p hp => ?_, e0 6 (by decide), ⟨?_, S.2.1, ?_⟩, u2_same, by omega, ?_, fun k hk => ?_⟩, ?_⟩
  · unfold kpP at hp
    omega
  · unfold kpC at hp
    rw [ep p (by omega), ej p (by omega)]
  · exact S.1.eq fun k hk => by rw [ep _ (by omega), ej _ (by omega)]
  · exact S.2.2.same rfl (Nat.le_refl _) (rP_w14n (by omega)) (fun p j hp => rP_w14n (by omega)) (fun n k hk => by rw [ep _ (by omega), ej _ (by omega)])
  · rw [e0 8 (by decide)]
    exact c3
  · rw [er k]
    try dsimp only
    by_cases e : k = n
    · rw [if_pos e, e]
      refine ⟨j2.eq fun k hk => ep _ (by omega), ?_⟩
      rw [rP_w14, rP_w14n (by omega)]
    · rw [if_neg e]
      obtain ⟨q1, q2⟩ := c4 k (by omega)
      have hk9 := ring_n (I := I) (k := k)
      have hne : ring I k + 11 < ring I n ∨ ring I n + 11 < ring I k := by
        unfold ring
        omega
      refine ⟨q1.eq fun k hk => by rw [ep _ (by omega), ej _ (by omega)], ?_⟩
      rw [rP_w14n (by omega), rP_w14n (by omega)]
      exact q2
  · have t1 : (w32 (I 0 8 + I 0 9)).tmod 12 = ((((I 0 8).toNat + n) % 12 : Nat) : Int) := by
      rw [c1, w32_id (by omega) (by omega), tm_e (by omega)]
      omega
    have t2 : w32 (J 0 9 + 1) = ((n + 1 : Nat) : Int) := by
      rw [ej 0 (by omega), c1]
      exact w32_succ (by omega)
    have t3 : ((((I 0 8).toNat + n) % 12 : Nat) : Int) < 12 := by omega
    rw [q_X11_rememberAct_19]
    simp (disch := first | assumption | exact Int.natCast_nonneg _ | decide) only [↓BO s, t1, t3, ha, ↓BC (cty_of s hr.2.2), j4, ↓BO s1, t2, e_clI, e_clV, e_clP, e_clIx, e_clVx, e_clPx, e_xt, Int.toNat_natCast, Int.reduceToNat, bz0, bz1, Nat.add_zero, decide_eq_false_iff_not, decide_eq_true_eq, Int.reduceEq, Nat.reduceEqDiff, Int.reduceLT, Int.reduceLE, not_true_eq_false, not_false_eq_true, eq_self, ↓reduceIte]
theorem c_remember (r : Rel h I) (B : BBo I 11) : ∃ h1 J1, CA h I h1 J1 (I 284) (rN (I 283 7).toNat + 1) (puR (I 283 7).toNat (rowA I) (I 284)) ∧ Cl sc (d + 3) mX11_rememberAct [Vr (some 0)] (hI h I) = some (.inl (Vx 0), hI h1 J1) := by
  have S := r.2.1
  obtain ⟨g1, g2, g3, g4⟩ := r.2.2.2.1
  have s := r.1
  by_cases h12 : I 283 7 = 12
  · have hn : (I 283 7).toNat = 12 := by omega
    have eI : I 0 9 = 12 := g1.trans h12
    have w1 : (w32 (I 0 8 + 1)).tmod 12 = (I 0 8 + 1) % 12 := by rw [w32_id (by omega) (by omega), tm_e (by omega)]
    have e0 : ∀ p, 0 < p → am_u2 (am_u2 I 0 8 ((I 0 8 + 1) % 12)) 0 9 11 p = I p := fun p hp => by rw [u2_o (by omega), u2_o (by omega)]
    have e8 : am_u2 (am_u2 I 0 8 ((I 0 8 + 1) % 12)) 0 9 11 0 8 = (I 0 8 + 1) % 12 := by rw [u2_j (by decide), u2_same]
    have e6 : am_u2 (am_u2 I 0 8 ((I 0 8 + 1) % 12)) 0 9 11 0 6 = I 0 6 := by rw [u2_j (by decide), u2_j (by decide)]
    have er : ∀ k, ring (am_u2 (am_u2 I 0 8 ((I 0 8 + 1) % 12)) 0 9 11) k = ring I (k + 1) := fun k => by unfold ring; rw [e8]; omega
    have w2 : w32 (12 - 1) = 11 := by decide
    have e9 : am_u2 I 0 8 ((I 0 8 + 1) % 12) 0 9 = 12 := by rw [u2_j (by decide)]; exact eI
    have S' : St h (am_u2 (am_u2 I 0 8 ((I 0 8 + 1) % 12)) 0 9 11) 11 (I 284) := ⟨S.1.eq fun k hk => e0 _ (by omega), S.2.1, S.2.2.same rfl (Nat.le_refl _) rfl (fun _ _ _ => rfl) (fun n k hk => e0 _ (by omega))⟩
    have B' : BBo (am_u2 (am_u2 I 0 8 ((I 0 8 + 1) % 12)) 0 9 11) 11 := fun i hi => by
      rw [e0 _ (by omega), e0 _ (by omega), e0 _ (by omega)]
      exact B i hi
    obtain ⟨h1, J1, ⟨a1, a2, a3, a4, a5, a6⟩, b1⟩ := c_rem19 (sc := sc) (d := d) (n := 11) (rows := fun k => rowA I (k + 1)) s S' B' (by decide) ⟨u2_same, by decide, by rw [e8]; omega, fun k hk => by
      obtain ⟨q1, q2, q3, q4⟩ := g4 (k + 1) (by omega)
      rw [er k]
      have hr := ring_n (I := I) (k := k + 1)
      exact ⟨q1.eq fun k hk => e0 _ (by omega), q4⟩⟩
    refine ⟨h1, J1, ⟨a1, a2, fun p hp => ?_, a4.trans e6, a5, ?_⟩, ?_⟩
    · rw [a3 p hp, e0 p (by unfold kpC at hp; omega)]
    · rw [hn]
      exact a6
    · rw [q_X11_rememberAct_0]
      simp (disch := first | assumption | exact Int.natCast_nonneg _ | decide) only [↓BO s, eI, w1, e9, w2, e_clI, e_clV, e_clP, e_clIx, e_clVx, e_clPx, e_xt, Int.toNat_natCast, Int.reduceToNat, bz0, bz1, Nat.add_zero, decide_eq_false_iff_not, decide_eq_true_eq, Int.reduceEq, Nat.reduceEqDiff, Int.reduceLT, Int.reduceLE, not_true_eq_false, not_false_eq_true, eq_self, ↓reduceIte]
      exact b1
  · have hn : rN (I 283 7).toNat = (I 283 7).toNat := if_neg (by omega)
    obtain ⟨h1, J1, ca, b1⟩ := c_rem19 (sc := sc) (d := d) (n := (I 283 7).toNat) (rows := rowA I) s S B (by omega) ⟨by omega, by omega, g3, fun k hk => by
      obtain ⟨q1, q2, q3, q4⟩ := g4 k (by omega)
      exact ⟨q1, q4⟩⟩
    refine ⟨h1, J1, ?_, ?_⟩
    · have e2 : puR (I 283 7).toNat (rowA I) (I 284) = fun k => if k = (I 283 7).toNat then I 284 else rowA I k := by
        funext k
        unfold puR rR
        rw [hn, if_neg (show ¬ (I 283 7).toNat = 12 by omega)]
      rw [hn, e2]
      exact ca
    · have e9 : ¬ I 0 9 = 12 := by omega
      rw [q_X11_rememberAct_0]
      simp (disch := first | assumption | exact Int.natCast_nonneg _ | decide) only [↓BO s, e9, e_clI, e_clV, e_clP, e_clIx, e_clVx, e_clPx, e_xt, Int.toNat_natCast, Int.reduceToNat, bz0, bz1, Nat.add_zero, decide_eq_false_iff_not, decide_eq_true_eq, Int.reduceEq, Nat.reduceEqDiff, Int.reduceLT, Int.reduceLE, not_true_eq_false, not_false_eq_true, eq_self, ↓reduceIte]
      exact b1
theorem rem_rows (r : Rel h I) : ∀ k, k < rN (I 283 7).toNat + 1 → WW (puR (I 283 7).toNat (rowA I) (I 284) k) ∧ puR (I 283 7).toNat (rowA I) (I 284) k 2 = I 284 2 := by
  intro k hk
  obtain ⟨g1, g2, g3, g4⟩ := r.2.2.2.1
  unfold puR
  by_cases e : k = rN (I 283 7).toNat
  · rw [if_pos e]
    exact ⟨r.V, rfl⟩
  · rw [if_neg e]
    unfold rR
    have hn : rN (I 283 7).toNat = if (I 283 7).toNat = 12 then 11 else (I 283 7).toNat := rfl
    by_cases e2 : (I 283 7).toNat = 12
    · rw [if_pos e2] at hn ⊢
      obtain ⟨q1, q2, q3, q4⟩ := g4 (k + 1) (by omega)
      exact ⟨q2, q3⟩
    · rw [if_neg e2] at hn ⊢
      obtain ⟨q1, q2, q3, q4⟩ := g4 k (by omega)
      exact ⟨q2, q3⟩
theorem m_remembers (s : Sh h) (h7 : I 283 7 = (n : Int)) (hn : n ≤ 12) : ∃ K, (MA I K (I 284) (rN n + 1) (puR n (rowA I) (I 284)) ∧ K 283 0 = I 283 0) ∧ Cl sc (d + 1) mX12_remembers [Vr (some 283)] (hI h I) = some (.inl (Vx 0), hI h K) := by
  have tail : ∀ J : am_I, J 283 7 = ((rN n + 1 : Nat) : Int) → J 284 = I 284 → ∃ u, Ru sc (d + 1) mX12_remembers 32 [Vr (some 283), Vi 0] [] (hI h J) = some (.inl (Vx 0), hI h (sr J 288 (fun j => if 631 * rN n ≤ j ∧ j < 631 * rN n + 631 then I 284 (j - 631 * rN n) else J 288 j))) ∧ u = () := by
    intro J j7 j4
    have hrn : rN n ≤ 11 := by unfold rN; split <;> omega
    obtain ⟨K, k1, k2⟩ := lpG (X := fun i (_ : Unit) J => Ru sc (d + 1) mX12_remembers 32 [Vr (some 283), Vi (i : Int)] [] (hI h J)) (G := fun _ u => u) (K := fun i _ K => K = sr J 288 (fun j => if 631 * rN n ≤ j ∧ j < 631 * rN n + i then I 284 (j - 631 * rN n) else J 288 j)) (s0 := ()) (I := J) (by
      rw [show (fun j => if 631 * rN n ≤ j ∧ j < 631 * rN n + 0 then I 284 (j - 631 * rN n) else J 288 j) = J 288 from funext fun j => if_neg (by omega), sr_self]) (N := 631) (fun i _ K hi k => by
      subst k
      refine ⟨_, rfl, ?_⟩
      have hlt : (i : Int) < 631 := by omega
      have hlt2 : (i : Int) < 2329 := by omega
      have e7 : w32 (((rN n + 1 : Nat) : Int) - 1) = (rN n : Int) := by rw [w32_id (by omega) (by omega)]; omega
      have e8 : w32 (w32 (631 * (rN n : Int)) + (i : Int)) = ((631 * rN n + i : Nat) : Int) := by
        rw [w32_id (z := 631 * (rN n : Int)) (by omega) (by omega), w32_id (by omega) (by omega)]
        omega
      have h8 : ((631 * rN n + i : Nat) : Int) < 7572 := by omega
      have n1 : (283 : Nat) ≠ 288 := by decide
      have n2 : (284 : Nat) ≠ 288 := by decide
      have wn : w32 ((i : Int) + 1) = ((i + 1 : Nat) : Int) := w32_succ (by omega)
      try dsimp only
      rw [q_X12_remembers_32]
      simp (disch := first | assumption | exact Int.natCast_nonneg _ | decide) only [↓BM s, hlt, hlt2, sr_ne n1, sr_ne n2, j7, j4, e7, e8, h8, u2_sr, wn, e_clI, e_clV, e_clP, e_clIx, e_clVx, e_clPx, e_xt, Int.toNat_natCast, Int.reduceToNat, bz0, bz1, Nat.add_zero, decide_eq_false_iff_not, decide_eq_true_eq, Int.reduceEq, Nat.reduceEqDiff, Int.reduceLT, Int.reduceLE, not_true_eq_false, not_false_eq_true, eq_self, ↓reduceIte]
      refine congrArg (fun C => Ru sc (d + 1) mX12_remembers 32 [Vr (some 283), Vi ((i + 1 : Nat) : Int)] [] (hI h (sr J 288 C))) (funext fun j => ?_)
      unfold up
      try dsimp only
      by_cases e : j = 631 * rN n + i
      · rw [if_pos e, if_pos (by omega), show j - 631 * rN n = i by omega]
      · rw [if_neg e]
        by_cases e2 : 631 * rN n ≤ j ∧ j < 631 * rN n + i
        · rw [if_pos e2, if_pos (by omega)]
        · rw [if_neg e2, if_neg (by omega)])
    refine ⟨(), k2.trans ?_, rfl⟩
    subst k1
    try dsimp only
    rw [q_X12_remembers_32, if_neg (by omega)]
  by_cases h12 : n = 12
  · obtain ⟨K, k1, k2⟩ := lpG (X := fun i (_ : Unit) J => Ru sc (d + 1) mX12_remembers 7 [Vr (some 283), Vi (i : Int)] [] (hI h J)) (G := fun _ u => u) (K := fun i _ K => K = sr I 288 (fun j => if j < i then I 288 (j + 631) else I 288 j)) (s0 := ()) (I := I) (by
      rw [show (fun j => if j < 0 then I 288 (j + 631) else I 288 j) = I 288 from funext fun j => if_neg (by omega), sr_self]) (N := 6941) (fun i _ K hi k => by
      subst k
      refine ⟨_, rfl, ?_⟩
      have hlt : (i : Int) < 6941 := by omega
      have hlt2 : (i : Int) < 7572 := by omega
      have e8 : w32 ((i : Int) + 631) = ((i + 631 : Nat) : Int) := by rw [w32_id (by omega) (by omega)]; omega
      have h8 : ((i + 631 : Nat) : Int) < 7572 := by omega
      have wn : w32 ((i : Int) + 1) = ((i + 1 : Nat) : Int) := w32_succ (by omega)
      have n3 : ¬ i + 631 < i := by omega
      try dsimp only
      rw [q_X12_remembers_7]
      simp (disch := first | assumption | exact Int.natCast_nonneg _ | decide) only [↓BM s, hlt, hlt2, sr_q, e8, h8, n3, u2_sr, wn, e_clI, e_clV, e_clP, e_clIx, e_clVx, e_clPx, e_xt, Int.toNat_natCast, Int.reduceToNat, bz0, bz1, Nat.add_zero, decide_eq_false_iff_not, decide_eq_true_eq, Int.reduceEq, Nat.reduceEqDiff, Int.reduceLT, Int.reduceLE, not_true_eq_false, not_false_eq_true, eq_self, ↓reduceIte]
      refine congrArg (fun C => Ru sc (d + 1) mX12_remembers 7 [Vr (some 283), Vi ((i + 1 : Nat) : Int)] [] (hI h (sr I 288 C))) (funext fun j => ?_)
      unfold up
      try dsimp only
      by_cases e : j = i
      · rw [if_pos e, if_pos (by omega), e]
      · rw [if_neg e]
        by_cases e2 : j < i
        · rw [if_pos e2, if_pos (by omega)]
        · rw [if_neg e2, if_neg (by omega)])
    have hr : rN n = 11 := if_pos h12
    obtain ⟨-, t1, -⟩ := tail K (by rw [k1, sr_ne (by decide), h7, hr, h12]) (by rw [k1, sr_ne (by decide)])
    refine ⟨sr K 288 (fun j => if 631 * rN n ≤ j ∧ j < 631 * rN n + 631 then I 284 (j - 631 * rN n) else K 288 j), ⟨⟨fun p hp => ?_, ?_, ?_, fun j hj => ?_, ?_, ?_, fun k hk j hj => ?_⟩, ?_⟩, ?_⟩
    · rw [sr_ne (by omega), k1, sr_ne (by omega)]
    · rw [sr_ne (by decide), k1, sr_ne (by decide)]
    · rw [sr_ne (by decide), k1, sr_ne (by decide)]
    · rw [sr_ne (by decide), k1, sr_ne (by decide)]
    · rw [sr_ne (by decide), k1, sr_ne (by decide)]
    · rw [sr_ne (by decide), k1, sr_ne (by decide), h7, hr, h12]
    · rw [sr_q, hr]
      unfold puR rR rowA
      rw [hr, if_pos h12]
      by_cases e : k = 11
      · rw [if_pos e, if_pos (by omega), show 631 * k + j - 631 * 11 = j by omega]
      · rw [if_neg e, if_neg (by omega), k1, sr_q, if_pos (by omega), show 631 * k + j + 631 = 631 * (k + 1) + j by omega]
    · rw [sr_ne (by decide), k1, sr_ne (by decide)]
    · have e7 : I 283 7 = 12 := by omega
      rw [q_X12_remembers_0]
      simp (disch := first | assumption | exact Int.natCast_nonneg _ | decide) only [↓BM s, e7, e_clI, e_clV, e_clP, e_clIx, e_clVx, e_clPx, e_xt, Int.toNat_natCast, Int.reduceToNat, bz0, bz1, Nat.add_zero, decide_eq_false_iff_not, decide_eq_true_eq, Int.reduceEq, Nat.reduceEqDiff, Int.reduceLT, Int.reduceLE, not_true_eq_false, not_false_eq_true, eq_self, ↓reduceIte]
      refine k2.trans ?_
      try dsimp only
      rw [q_X12_remembers_7, if_neg (by omega)]
      exact t1
  · have hr : rN n = n := if_neg h12
    have wn : w32 ((n : Int) + 1) = ((n + 1 : Nat) : Int) := w32_succ (by omega)
    obtain ⟨-, t1, -⟩ := tail (am_u2 I 283 7 ((n + 1 : Nat) : Int)) (by rw [u2_same, hr]) (u2_o (by decide))
    refine ⟨sr (am_u2 I 283 7 ((n + 1 : Nat) : Int)) 288 (fun j => if 631 * rN n ≤ j ∧ j < 631 * rN n + 631 then I 284 (j - 631 * rN n) else am_u2 I 283 7 ((n + 1 : Nat) : Int) 288 j), ⟨⟨fun p hp => ?_, ?_, ?_, fun j hj => ?_, ?_, ?_, fun k hk j hj => ?_⟩, ?_⟩, ?_⟩
    · rw [sr_ne (by omega), u2_o (by omega)]
    · rw [sr_ne (by decide), u2_o (by decide)]
    · rw [sr_ne (by decide), u2_o (by decide)]
    · rw [sr_ne (by decide), u2_j (by omega)]
    · rw [sr_ne (by decide), u2_o (by decide)]
    · rw [sr_ne (by decide), u2_same, hr]
    · rw [sr_q, hr, u2_o (by decide)]
      unfold puR rR rowA
      rw [hr, if_neg h12]
      by_cases e : k = n
      · rw [if_pos e, if_pos (by rw [e]; omega), show 631 * k + j - 631 * n = j by rw [e]; omega]
      · rw [if_neg e, if_neg (by omega)]
    · rw [sr_ne (by decide), u2_j (by decide)]
    · have e7 : ¬ (n : Int) = 12 := by omega
      rw [q_X12_remembers_0]
      simp (disch := first | assumption | exact Int.natCast_nonneg _ | decide) only [↓BM s, h7, e7, wn, e_clI, e_clV, e_clP, e_clIx, e_clVx, e_clPx, e_xt, Int.toNat_natCast, Int.reduceToNat, bz0, bz1, Nat.add_zero, decide_eq_false_iff_not, decide_eq_true_eq, Int.reduceEq, Nat.reduceEqDiff, Int.reduceLT, Int.reduceLE, not_true_eq_false, not_false_eq_true, eq_self, ↓reduceIte]
      exact t1
theorem m_rem (r : Rel h I) (s : Sh h1) (e3 : J 283 = I 283) (e4 : J 284 = I 284) (e8 : J 288 = I 288) : ∃ K, (MA J K (I 284) (rN (I 283 7).toNat + 1) (puR (I 283 7).toNat (rowA I) (I 284)) ∧ K 283 0 = 0) ∧ Cl sc (d + 1) mX12_remembers [Vr (some 283)] (hI h1 (am_u2 J 283 0 0)) = some (.inl (Vx 0), hI h1 K) := by
  obtain ⟨g1, g2, g3, g4⟩ := r.2.2.2.1
  have h7 : am_u2 J 283 0 0 283 7 = (((I 283 7).toNat : Nat) : Int) := by
    rw [u2_j (by decide), e3]
    omega
  obtain ⟨K, ⟨⟨m1, m2, m3, m4, m5, m6, m7⟩, k0⟩, k1⟩ := m_remembers (sc := sc) (d := d) (I := am_u2 J 283 0 0) s h7 (by omega)
  have er : rowA (am_u2 J 283 0 0) = rowA I := by
    funext k
    unfold rowA
    rw [u2_o (by decide), e8]
  rw [er, u2_o (show (284 : Nat) ≠ 283 by decide), e4] at m7
  refine ⟨K, ⟨⟨fun p hp => ?_, ?_, ?_, fun j hj => ?_, ?_, m6, m7⟩, ?_⟩, k1⟩
  · rw [m1 p hp, u2_o (by omega)]
  · rw [m2, u2_o (by decide)]
  · rw [m3, u2_o (by decide)]
  · rw [m4 j hj, u2_j (by omega)]
  · rw [m5, u2_o (by decide), e4]
  · rw [k0]
    exact u2_same
theorem rows_go (r : Rel h I) {v : am_Wd} (t : v 2 = I 284 2) : ∀ k, k < rN (I 283 7).toNat + 1 → WW (puR (I 283 7).toNat (rowA I) (I 284) k) ∧ puR (I 283 7).toNat (rowA I) (I 284) k 2 = v 2 := fun k hk => by
  rw [t]
  exact rem_rows r k hk
end
