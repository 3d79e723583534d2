/-! A LAW'S TEXT: the class's conditions -/
section
variable {sc : Nat × (Nat → Int)} {d D : Nat} {h : am_H} {I J K : am_I} {A : Nat → Int} {L N q b F : Nat} {cs : am_Cs} {x y dep : Int} {r : Nat × Option am_Cs} {at_ : Nat → am_Cs → Nat × Option am_Cs}
/-- the class's atoms are read as at_ says -/
def LA (sc : Nat × (Nat → Int)) (h : am_H) (A : Nat → Int) (L N : Nat) (at_ : Nat → am_Cs → Nat × Option am_Cs) (m : Nat) (args : List am_V) (D : Nat) : Prop := ∀ (q : Nat) (cs : am_Cs) (J : am_I), CQ A L N J q → CC J cs → cs.1 + 1 ≤ q → ∃ y K, Rw A L N J K y (at_ q cs) ∧ Cl sc D m args (hI h J) = some (.inl (Vi y), hI h K)
theorem Rw.go {q1 : Nat} {o : Option am_Cs} (z : Rw A L N J K y (q1, o)) : (o = none ∧ y = 0 ∧ K 1 2 = (q1 : Int)) ∨ ∃ c, o = some c ∧ y = 1 ∧ K 1 2 = J 1 2 ∧ CQ A L N K q1 ∧ CC K c := by
  rcases z.2 with ⟨w, w1, w2, w3, w4, w5⟩ | z
  · exact Or.inr ⟨w, w1, w2, w3, w4, w5⟩
  · exact Or.inl z
theorem l_cd11 (s : Sh h) (g : Ga A L b at_) (hat : LA sc h A L N at_ mX4_readsAtom [Vr (some 6), Vi dep] (D + 1)) : ∀ F due i q cs (J : am_I), L < q + F → i + 1 ≤ q → cs.1 + 1 + duN due ≤ q → CQ A L N J q → CC J cs → ∃ y K, Rw A L N J K y (cdL A L at_ F due q cs) ∧ Ru sc (D + 2) mX4_readsCondition 11 [Vr (some 6), Vi dep, Vi (duN due : Int), Vi (i : Int)] [] (hI h J) = some (.inl (Vi y), hI h K)
  | 0, due, i, q, cs, J, hF, hi, hc, k, R => by
    have := k.tq.1
    omega
  | F + 1, due, i, q, cs, J, hF, hi, hc, k, R => by
    have ne1 : ¬ (1 : Int) = 0 := by decide
    have hq := k.le
    have i4 : (i : Int) < 400 := by omega
    have hle : i ≤ 400 := by omega
    unfold cdL
    rcases c_takes (sc := sc) (d := D) s k (c := -30) (by decide) with ⟨e1, K1, a1, a2, a3⟩ | ⟨e1, a3⟩
    · rw [if_pos e1]
      obtain ⟨n1, n2⟩ := nx_b k.tq (by omega)
      obtain ⟨v, K2, b1, b2⟩ := hat (nxT A L q) cs K1 a2 (R.fx a1) (by omega)
      have g1 := g (nxT A L q) cs n2
      rcases e2 : at_ (nxT A L q) cs with ⟨q1, _ | c1⟩
      · rw [e2] at b1
        rcases b1.go with ⟨-, rfl, w3⟩ | ⟨w, w1, -⟩
        · refine ⟨0, K2, ⟨a1.q.tr b1.1, Or.inr ⟨rfl, rfl, w3⟩⟩, ?_⟩
          rw [q_X4_readsCondition_11, if_pos i4, l_on s a3, if_neg ne1, l_me s b2, if_pos rfl]
        · cases w1
      · rw [e2] at b1 g1
        obtain ⟨x1, x2, x3, x4, x5⟩ := g1 c1 rfl
        dsimp only at x1 x2 x3
        rw [bnR_so]
        rcases b1.go with ⟨w1, -⟩ | ⟨w, w1, rfl, w3, w4, w5⟩
        · cases w1
        · cases w1
          have hq1 := w4.le
          obtain ⟨K3, ⟨d1, d2, d3, d4⟩, d5⟩ := l_emit (sc := sc) (d := D) (A := A) (L := L) (N := N) s w5 (by omega) (p := (14, 0)) (c := -30) rfl
          obtain ⟨y, K, z1, z2⟩ := l_cd11 s g hat F due (i + 1) q1 (emC c1 (14, 0)) K3 (by omega) (by omega) (by show c1.1 + 1 + 1 + duN due ≤ q1; omega) (d2 _ w4) d4
          refine ⟨y, K, z1.pre ((a1.q.tr b1.1).tr d1) (d3.trans (w3.trans a1.e2)), ?_⟩
          rw [q_X4_readsCondition_11, if_pos i4, l_on s a3, if_neg ne1, l_me s b2, if_neg ne1, l_meV s d5, ar_t1 hle]
          exact z2
    · rw [if_neg e1]
      rcases c_takes (sc := sc) (d := D) s k (c := -31) (by decide) with ⟨e3, K1, a1, a2, a5⟩ | ⟨e3, a5⟩
      · rw [if_pos e3]
        obtain ⟨n1, n2⟩ := nx_b k.tq (by omega)
        have tail : ∀ (K9 : am_I), Fq K1 K9 → K9 1 2 = K1 1 2 → CQ A L N K9 (nxT A L q) → CC K9 (oC due cs) → ∃ y K, Rw A L N J K y (bnR (at_ (nxT A L q) (oC due cs)) (fun q1 cs1 => cdL A L at_ F true q1 cs1)) ∧ am_rcv 4 (hI h K9) (Vr (some 6)) (clI (Cl sc (D + 1) mX4_readsAtom [Vr (some 6), Vi dep] (hI h K9)) am_xt fun v10 h9 =>
          if v10 = 0 then
            some (.inl (Vi 0), h9)
          else
            Ru sc (D + 1 + 1) mX4_readsCondition 11 [Vr (some 6), Vi dep, Vi 1, Vi (w32 ((i : Int) + 1))] [] h9) = some (.inl (Vi y), hI h K) := by
          intro K9 f9 e9 k9 R9
          have o2 := (oC_g (cs := cs) (due := due)).2.1
          obtain ⟨v, K2, b1, b2⟩ := hat (nxT A L q) (oC due cs) K9 k9 R9 (by omega)
          have g1 := g (nxT A L q) (oC due cs) n2
          rcases e2 : at_ (nxT A L q) (oC due cs) with ⟨q1, _ | c1⟩
          · rw [e2] at b1
            rcases b1.go with ⟨-, rfl, w3⟩ | ⟨w, w1, -⟩
            · refine ⟨0, K2, ⟨(a1.q.tr f9).tr b1.1, Or.inr ⟨rfl, rfl, w3⟩⟩, ?_⟩
              rw [l_me s b2, if_pos rfl]
            · cases w1
          · rw [e2] at b1 g1
            obtain ⟨x1, x2, x3, x4, x5⟩ := g1 c1 rfl
            dsimp only at x1 x2 x3
            rw [bnR_so]
            rcases b1.go with ⟨w1, -⟩ | ⟨w, w1, rfl, w3, w4, w5⟩
            · cases w1
            · cases w1
              obtain ⟨y, K, z1, z2⟩ := l_cd11 s g hat F true (i + 1) q1 c1 K2 (by omega) (by omega) (by show c1.1 + 1 + 1 ≤ q1; omega) w4 w5
              refine ⟨y, K, z1.pre ((a1.q.tr f9).tr b1.1) (w3.trans (e9.trans a1.e2)), ?_⟩
              rw [l_me s b2, if_neg ne1, ar_t1 hle]
              exact z2
        cases due
        · obtain ⟨y, K, z1, z2⟩ := tail K1 (Fq.rf K1) rfl a2 (R.fx a1)
          refine ⟨y, K, z1, ?_⟩
          rw [q_X4_readsCondition_11, if_pos i4, l_on s a3, if_pos rfl, l_on s a5, if_neg ne1, if_pos (show ((duN false : Nat) : Int) = 0 from rfl)]
          exact z2
        · have hc2 : cs.1 + 1 + 1 ≤ q := hc
          obtain ⟨K3, ⟨d1, d2, d3, d4⟩, d5⟩ := l_emit (sc := sc) (d := D) (A := A) (L := L) (N := N) s (R.fx a1) (by omega) (p := (15, 0)) (c := -31) rfl
          obtain ⟨y, K, z1, z2⟩ := tail K3 d1 d3 (d2 _ a2) d4
          refine ⟨y, K, z1, ?_⟩
          rw [q_X4_readsCondition_11, if_pos i4, l_on s a3, if_pos rfl, l_on s a5, if_neg ne1, if_neg (show ¬ ((duN true : Nat) : Int) = 0 by decide), l_meV s d5]
          exact z2
      · rw [if_neg e3]
        cases due
        · refine ⟨1, J, Rw.ok (Fq.rf J) rfl k R, ?_⟩
          rw [q_X4_readsCondition_11, if_pos i4, l_on s a3, if_pos rfl, l_on s a5, if_pos rfl, if_pos (show ((duN false : Nat) : Int) = 0 from rfl)]
        · have hc2 : cs.1 + 1 + 1 ≤ q := hc
          obtain ⟨K3, ⟨d1, d2, d3, d4⟩, d5⟩ := l_emit (sc := sc) (d := D) (A := A) (L := L) (N := N) s R (by omega) (p := (15, 0)) (c := -31) rfl
          refine ⟨1, K3, Rw.ok d1 d3 (d2 _ k) d4, ?_⟩
          rw [q_X4_readsCondition_11, if_pos i4, l_on s a3, if_pos rfl, l_on s a5, if_pos rfl, if_neg (show ¬ ((duN true : Nat) : Int) = 0 by decide), l_meV s d5]
theorem l_co (s : Sh h) (g : Ga A L b at_) (hat : LA sc h A L N at_ mX4_readsAtom [Vr (some 6), Vi dep] (D + 1)) : LA sc h A L N (coR A L at_) mX4_readsCondition [Vr (some 6), Vi dep] (D + 2) := by
  intro q cs J k R hc
  have ne1 : ¬ (1 : Int) = 0 := by decide
  unfold coR
  obtain ⟨v, K2, b1, b2⟩ := hat q cs J k R hc
  have g1 := g q cs k.tq
  rcases e2 : at_ q cs with ⟨q1, _ | c1⟩
  · rw [e2] at b1
    rcases b1.go with ⟨-, rfl, w3⟩ | ⟨w, w1, -⟩
    · refine ⟨0, K2, ⟨b1.1, Or.inr ⟨rfl, rfl, w3⟩⟩, ?_⟩
      rw [q_X4_readsCondition_0, l_me s b2, if_pos rfl]
    · cases w1
  · rw [e2] at b1 g1
    obtain ⟨x1, x2, x3, x4, x5⟩ := g1 c1 rfl
    dsimp only at x1 x2 x3
    rw [bnR_so]
    rcases b1.go with ⟨w1, -⟩ | ⟨w, w1, rfl, w3, w4, w5⟩
    · cases w1
    · cases w1
      obtain ⟨y, K, z1, z2⟩ := l_cd11 s g hat (L + 1) false 0 q1 c1 K2 (by omega) (by omega) (by show c1.1 + 1 + 0 ≤ q1; omega) w4 w5
      refine ⟨y, K, z1.pre b1.1 w3, ?_⟩
      rw [q_X4_readsCondition_0, l_me s b2, if_neg ne1]
      exact z2
theorem l_le48 (s : Sh h) {u : am_V} (hD : 3 ≤ D) (k : CQ A L N J q) (R : CC J cs) (hc : cs.1 + 1 ≤ q) : ∃ y K, Rw A L N J K y (leR A L q cs) ∧ Ru sc (D + 1) mX4_readsAtom 48 [Vr (some 6), Vi dep, u] [] (hI h J) = some (.inl (Vi y), hI h K) := by
  obtain ⟨d, rfl⟩ : ∃ d, D = d + 3 := ⟨D - 3, by omega⟩
  have ct := c_thing (sc := sc) (d := d + 2) s k
  have hq := k.le
  unfold leR
  by_cases h1 : -25 ≤ thT A L q ∧ thT A L q ≤ -23
  · rw [if_pos h1]
    obtain ⟨K3, ⟨d1, d2, d3, d4⟩, d5⟩ := l_emit (sc := sc) (d := d + 2) (A := A) (L := L) (N := N) s R (by omega) (tr_c (t := thT A L q) (by omega) (by omega))
    obtain ⟨K1, b1, b2, b3⟩ := c_next (sc := sc) (d := d + 2) s (d2 _ k) (by omega)
    refine ⟨1, K1, Rw.ok (d1.tr b1.q) (b1.e2.trans d3) b2 (d4.fx b1), ?_⟩
    rw [q_X4_readsAtom_48, l_on s ct, if_neg (by omega), if_neg (by omega), l_meV s d5, l_onV s b3]
  · rw [if_neg h1]
    obtain ⟨y, K, z1, z2⟩ := l_cm (sc := sc) (d := d) s k R hc
    refine ⟨y, K, z1, ?_⟩
    rw [q_X4_readsAtom_48, l_on s ct]
    by_cases h2 : -23 < thT A L q
    · rw [if_pos h2, l_me s z2, e_ret1 z1.v01]
    · rw [if_neg h2, if_pos (by omega), l_me s z2, e_ret1 z1.v01]
theorem l_at (s : Sh h) : ∀ k, k ≤ 6 → ∀ D, 3 + 2 * k ≤ D → LA sc h A L N (rdA A L k) mX4_readsAtom [Vr (some 6), Vi ((6 - k : Nat) : Int)] (D + 1)
  | 0, hk, D, hD => by
    intro q cs J k R hc
    have l6 : ¬ ((6 - 0 : Nat) : Int) < 6 := by decide
    obtain ⟨y, K, z1, z2⟩ := l_le48 (sc := sc) (D := D) (dep := ((6 - 0 : Nat) : Int)) (u := Vx 0) s (by omega) k R hc
    refine ⟨y, K, z1, ?_⟩
    rw [q_X4_readsAtom_0, if_neg l6, q_X4_readsAtom_21, if_neg l6]
    exact z2
  | k + 1, hk, D, hD => by
    intro q cs J kq R hc
    have ne1 : ¬ (1 : Int) = 0 := by decide
    obtain ⟨d, rfl⟩ : ∃ d, D = d + 2 := ⟨D - 2, by omega⟩
    have l6 : ((6 - (k + 1) : Nat) : Int) < 6 := by omega
    have hk6 : 6 - (k + 1) ≤ 400 := by omega
    have ek : 6 - (k + 1) + 1 = 6 - k := by omega
    have wk : w32 (((6 - (k + 1) : Nat) : Int) + 1) = ((6 - k : Nat) : Int) := by rw [ar_t1 hk6, ek]
    have ih := l_at s k (by clear wk; omega)
    unfold rdA
    rcases c_takes (sc := sc) (d := d + 1) s kq (c := -26) (by decide) with ⟨e1, K1, a1, a2, a3⟩ | ⟨e1, a3⟩
    · rw [if_pos e1]
      obtain ⟨n1, n2⟩ := nx_b kq.tq (by clear wk; omega)
      obtain ⟨v, K2, b1, b2⟩ := ih (d + 1) (by clear wk; omega) (nxT A L q) cs K1 a2 (R.fx a1) (by clear wk; omega)
      have g1 := rdA_g k (nxT A L q) cs n2
      rcases e2 : rdA A L k (nxT A L q) cs with ⟨q1, _ | c1⟩
      · rw [e2] at b1
        rcases b1.go with ⟨-, rfl, w3⟩ | ⟨w, w1, -⟩
        · refine ⟨0, K2, ⟨a1.q.tr b1.1, Or.inr ⟨rfl, rfl, w3⟩⟩, ?_⟩
          rw [q_X4_readsAtom_0, if_pos l6, l_on s a3, if_neg ne1, wk, l_me s b2, if_pos rfl]
        · cases w1
      · rw [e2] at b1 g1
        obtain ⟨x1, x2, x3, x4, x5⟩ := g1 c1 rfl
        dsimp only at x1 x2 x3
        rw [bnR_so]
        rcases b1.go with ⟨w1, -⟩ | ⟨w, w1, rfl, w3, w4, w5⟩
        · cases w1
        · cases w1
          have hq1 := w4.le
          obtain ⟨K3, ⟨d1, d2, d3, d4⟩, d5⟩ := l_emit (sc := sc) (d := d + 1) (A := A) (L := L) (N := N) s w5 (by clear wk; omega) (p := (13, 0)) (c := -26) rfl
          refine ⟨1, K3, Rw.ok ((a1.q.tr b1.1).tr d1) (d3.trans (w3.trans a1.e2)) (d2 _ w4) d4, ?_⟩
          rw [q_X4_readsAtom_0, if_pos l6, l_on s a3, if_neg ne1, wk, l_me s b2, if_neg ne1, l_meV s d5]
    · rw [if_neg e1]
      rcases c_takes (sc := sc) (d := d + 1) s kq (c := -4) (by decide) with ⟨e3, K1, a1, a2, a5⟩ | ⟨e3, a5⟩
      · rw [if_pos e3]
        obtain ⟨n1, n2⟩ := nx_b kq.tq (by clear wk; omega)
        obtain ⟨v, K2, b1, b2⟩ := l_co s (rdA_g k) (ih d (by clear wk; omega)) (nxT A L q) cs K1 a2 (R.fx a1) (by clear wk; omega)
        have g1 := coR_g (rdA_g k) (by clear wk; omega) (nxT A L q) cs n2
        rcases e2 : coR A L (rdA A L k) (nxT A L q) cs with ⟨q1, _ | c1⟩
        · rw [e2] at b1
          rcases b1.go with ⟨-, rfl, w3⟩ | ⟨w, w1, -⟩
          · refine ⟨0, K2, ⟨a1.q.tr b1.1, Or.inr ⟨rfl, rfl, w3⟩⟩, ?_⟩
            rw [q_X4_readsAtom_0, if_pos l6, l_on s a3, if_pos rfl, q_X4_readsAtom_21, if_pos l6, l_on s a5, if_neg ne1, wk, l_me s b2, if_pos rfl]
          · cases w1
        · rw [e2] at b1
          rw [bnR_so]
          rcases b1.go with ⟨w1, -⟩ | ⟨w, w1, rfl, w3, w4, w5⟩
          · cases w1
          · cases w1
            rcases c_takes (sc := sc) (d := d + 1) s w4 (c := -5) (by decide) with ⟨e6, K4, c1, c2, c3⟩ | ⟨e6, c3⟩
            · rw [if_pos e6]
              refine ⟨1, K4, Rw.ok ((a1.q.tr b1.1).tr c1.q) (c1.e2.trans (w3.trans a1.e2)) c2 (w5.fx c1), ?_⟩
              rw [q_X4_readsAtom_0, if_pos l6, l_on s a3, if_pos rfl, q_X4_readsAtom_21, if_pos l6, l_on s a5, if_neg ne1, wk, l_me s b2, if_neg ne1, l_on s c3, if_neg ne1]
            · rw [if_neg e6]
              refine ⟨0, _, Rw.no (a1.q.tr b1.1), ?_⟩
              rw [q_X4_readsAtom_0, if_pos l6, l_on s a3, if_pos rfl, q_X4_readsAtom_21, if_pos l6, l_on s a5, if_neg ne1, wk, l_me s b2, if_neg ne1, l_on s c3, if_pos rfl, l_on s (c_refuses s w4), if_pos rfl]
      · rw [if_neg e3]
        obtain ⟨y, K, z1, z2⟩ := l_le48 (sc := sc) (D := d + 2) (dep := ((6 - (k + 1) : Nat) : Int)) (u := Vx 0) s (by clear wk; omega) kq R hc
        refine ⟨y, K, z1, ?_⟩
        rw [q_X4_readsAtom_0, if_pos l6, l_on s a3, if_pos rfl, q_X4_readsAtom_21, if_pos l6, l_on s a5, if_pos rfl]
        exact z2
end
