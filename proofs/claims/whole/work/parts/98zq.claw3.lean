/-! A LAW'S TEXT: lines -/
def stL (ls : am_Ls) : Nat → Nat
  | 0 => 0
  | k + 1 => (ls k).2
theorem stL_U {ls : am_Ls} {i n k : Nat} {x : Int × Int} (hk : k ≤ i) : stL (lsU ls i x n) k = stL ls k := by
  cases k with
  | zero => rfl
  | succ k =>
    show (lsU ls i x n k).2 = (ls k).2
    unfold lsU
    rw [if_neg (by omega)]
theorem stL_S {ls : am_Ls} {i n : Nat} {x : Int × Int} : stL (lsU ls i x n) (i + 1) = n := by
  show (lsU ls i x n i).2 = n
  unfold lsU
  rw [if_pos rfl]
/-- lines read, and their codes -/
def LnI (i : Nat) (ls : am_Ls) (cs : am_Cs) : Prop := stL ls i = cs.1 ∧ ∀ k, k < i → (0 ≤ (ls k).1.1 ∧ (ls k).1.1 ≤ 2) ∧ (0 ≤ (ls k).1.2 ∧ (ls k).1.2 ≤ 60) ∧ stL ls k ≤ stL ls (k + 1) ∧ stL ls (k + 1) ≤ cs.1 ∧ (tyR cs.2 (stL ls k) (stL ls (k + 1) - stL ls k) [] = some [] ∨ tyR cs.2 (stL ls k) (stL ls (k + 1) - stL ls k) [] = some [true])
theorem LnI.go {i : Nat} {ls : am_Ls} {cs cs' : am_Cs} {x : Int × Int} (l : LnI i ls cs) (e : Exx cs cs') (h1 : 0 ≤ x.1 ∧ x.1 ≤ 2) (h2 : 0 ≤ x.2 ∧ x.2 ≤ 60) (ht : Tyy cs cs' [] [] ∨ Tyy cs cs' [] [true]) : LnI (i + 1) (lsU ls i x cs'.1) cs' := by
  obtain ⟨l1, l2⟩ := l
  refine ⟨stL_S, fun k hk => ?_⟩
  by_cases ek : k = i
  · subst ek
    have e1 : lsU ls k x cs'.1 k = (x, cs'.1) := if_pos rfl
    rw [stL_S, stL_U (Nat.le_refl k), e1, l1]
    exact ⟨h1, h2, e.1, Nat.le_refl _, ht⟩
  · have e1 : lsU ls i x cs'.1 k = ls k := if_neg ek
    obtain ⟨a1, a2, a3, a4, a5⟩ := l2 k (by omega)
    have e0 := e.1
    rw [stL_U (show k ≤ i by omega), stL_U (show k + 1 ≤ i by omega), e1, tyR_cg (g := cs.2) (stL ls (k + 1) - stL ls k) (fun j hj => e.2 _ (by omega))]
    exact ⟨a1, a2, a3, by omega, a5⟩
def LSc (K : am_I) (n : Nat) (ls : am_Ls) : Prop := ∀ k, k < n → K 7 k = -13 - (ls k).1.1 ∧ K 8 k = (ls k).1.2 ∧ K 9 (k + 1) = ((ls k).2 : Int)
def FL (J K : am_I) : Prop := ∀ x j, ¬ (x = 1 ∧ 2 ≤ j) → ¬ (x = 6 ∧ (j = 5 ∨ j = 6)) → x ≠ 7 → x ≠ 8 → ¬ (x = 9 ∧ j ≠ 0) → x ≠ 10 → K x j = J x j
theorem FL.rf (J : am_I) : FL J J := fun _ _ _ _ _ _ _ _ => rfl
theorem FL.tr {I J K : am_I} (a : FL I J) (b : FL J K) : FL I K := fun x j h1 h2 h3 h4 h5 h6 => (b x j h1 h2 h3 h4 h5 h6).trans (a x j h1 h2 h3 h4 h5 h6)
theorem Fq.l {J K : am_I} (a : Fq J K) : FL J K := fun x j h1 h2 _ _ _ h6 => a x j h1 (fun e => h2 ⟨e.1, Or.inr e.2⟩) h6
theorem Fx.l {J K : am_I} (a : Fx J K) : FL J K := a.q.l
/-- a number and a condition behind a kind -/
def rdNC (A : Nat → Int) (L q : Nat) (cs : am_Cs) : Nat × Option (Int × am_Cs) := if 0 ≤ thT A L q ∧ thT A L q ≤ 60 then (if thT A L (nxT A L q) = -16 then bnR (coR A L (rdA A L 6) (nxT A L (nxT A L q)) cs) (fun q1 cs1 => (q1, some (thT A L q, cs1))) else (nxT A L q, some (thT A L q, cs))) else (q, none)
theorem rdLL_NC {A : Nat → Int} {L q : Nat} {cs : am_Cs} : rdLL A L q cs = if -15 ≤ thT A L q ∧ thT A L q ≤ -13 then bnR (rdNC A L (nxT A L q) cs) (fun q1 x => (q1, some ((-13 - thT A L q, x.1), x.2))) else (q, none) := by
  unfold rdLL rdNC
  by_cases h1 : -15 ≤ thT A L q ∧ thT A L q ≤ -13
  · rw [if_pos h1, if_pos h1]
    by_cases h2 : 0 ≤ thT A L (nxT A L q) ∧ thT A L (nxT A L q) ≤ 60
    · rw [if_pos h2, if_pos h2]
      by_cases h3 : thT A L (nxT A L (nxT A L q)) = -16
      · rw [if_pos h3, if_pos h3]
        rcases coR A L (rdA A L 6) (nxT A L (nxT A L (nxT A L q))) cs with ⟨q1, _ | c1⟩
        · rfl
        · rfl
      · rw [if_neg h3, if_neg h3]
        rfl
    · rw [if_neg h2, if_neg h2]
      rfl
  · rw [if_neg h1, if_neg h1]
section
variable {sc : Nat × (Nat → Int)} {d D : Nat} {h : am_H} {I J K : am_I} {A : Nat → Int} {L N q b F : Nat} {cs : am_Cs} {ls : am_Ls} {x y dep : Int}
theorem CC.l (R : CC J cs) (e : K 6 6 = J 6 6) (e2 : K 10 = J 10) : CC K cs := by
  unfold CC
  rw [e, e2]
  exact R
theorem l_ln37 (s : Sh h) (k : CQ A L N J q) (R : CC J cs) (hc : cs.1 ≤ q) {i : Nat} (hi : i < 12) : ∃ y K, ((∀ x j, ¬ (x = 1 ∧ 2 ≤ j) → ¬ (x = 6 ∧ j = 6) → x ≠ 10 → ¬ (x = 8 ∧ j = i) → K x j = J x j) ∧ ((∃ v c, (rdNC A L q cs).2 = some (v, c) ∧ y = 1 ∧ K 1 2 = J 1 2 ∧ CQ A L N K (rdNC A L q cs).1 ∧ CC K c ∧ K 8 i = v) ∨ ((rdNC A L q cs).2 = none ∧ y = 0 ∧ K 1 2 = ((rdNC A L q cs).1 : Int)))) ∧ Ru sc (d + 18) mX4_readsLine 37 [Vr (some 6), Vi (i : Int)] [] (hI h J) = some (.inl (Vi y), hI h K) := by
  have ne1 : ¬ (1 : Int) = 0 := by decide
  have hi' : (i : Int) < 12 := by omega
  unfold rdNC
  rcases c_takesN (sc := sc) (d := d + 16) s k (m := 60) with ⟨e1, K1, a1, a2, a3, a4⟩ | ⟨e1, a4⟩
  · rw [if_pos e1]
    obtain ⟨n1, n2⟩ := nx_b k.tq (by omega)
    have k2 : CQ A L N (am_u2 K1 8 i (thT A L q)) (nxT A L q) := a2.same (u2_o (by decide)) (u2_o (by decide)) (by rw [u2_a (by decide)])
    have R2 : CC (am_u2 K1 8 i (thT A L q)) cs := (R.fx a1).l (by rw [u2_a (by decide)]) (u2_o (by decide))
    have f2 : ∀ x j, ¬ (x = 1 ∧ 2 ≤ j) → ¬ (x = 6 ∧ j = 6) → x ≠ 10 → ¬ (x = 8 ∧ j = i) → am_u2 K1 8 i (thT A L q) x j = J x j := fun x j h1 h2 h3 h4 => by
      unfold am_u2
      rw [if_neg h4]
      exact a1 x j (by omega)
    have g2 : am_u2 K1 8 i (thT A L q) 1 2 = J 1 2 := by rw [u2_a (by decide)]; exact a1.e2
    rcases c_takes (sc := sc) (d := d + 16) s k2 (c := -16) (by decide) with ⟨e3, K3, b1, b2, b3⟩ | ⟨e3, b3⟩
    · rw [if_pos e3]
      obtain ⟨n3, n4⟩ := nx_b n2 (by omega)
      obtain ⟨v, K4, c1, c2⟩ := l_co s (rdA_g 6) (l_at (sc := sc) (A := A) (L := L) (N := N) s 6 (by decide) (d + 15) (by omega)) (nxT A L (nxT A L q)) cs K3 b2 (R2.fx b1) (by omega)
      have c2 : Cl sc (d + 17) mX4_readsCondition [Vr (some 6), Vi 0] (hI h K3) = some (.inl (Vi v), hI h K4) := c2
      have f4 : ∀ x j, ¬ (x = 1 ∧ 2 ≤ j) → ¬ (x = 6 ∧ j = 6) → x ≠ 10 → ¬ (x = 8 ∧ j = i) → K4 x j = J x j := fun x j h1 h2 h3 h4 => (c1.1 x j h1 h2 h3).trans ((b1 x j (by omega)).trans (f2 x j h1 h2 h3 h4))
      have e8 : K4 8 i = thT A L q := by
        rw [c1.1 8 i (by omega) (by omega) (by decide), b1 8 i (by omega)]
        exact u2_same
      rcases e9 : coR A L (rdA A L 6) (nxT A L (nxT A L q)) cs with ⟨q1, _ | c9⟩
      · rw [e9] at c1
        rcases c1.go with ⟨-, rfl, w3⟩ | ⟨w, w1, -⟩
        · refine ⟨0, K4, ⟨f4, Or.inr ⟨rfl, rfl, w3⟩⟩, ?_⟩
          rw [q_X4_readsLine_37, l_on s a4, if_neg ne1, e_gfP (s.T 6 rfl) (s.P 17 rfl), e_gfP (s.T 6 rfl) (s.P 15 rfl), e_gfI (s.T 1 rfl), e_stA (s.T 8 rfl) (Int.natCast_nonneg i) hi', Int.toNat_natCast, a3, l_on s b3, if_neg ne1, l_me s c2, if_pos rfl]
        · cases w1
      · rw [e9] at c1
        rcases c1.go with ⟨w1, -⟩ | ⟨w, w1, rfl, w3, w4, w5⟩
        · cases w1
        · cases w1
          refine ⟨1, K4, ⟨f4, Or.inl ⟨_, _, rfl, rfl, w3.trans (b1.e2.trans g2), w4, w5, e8⟩⟩, ?_⟩
          rw [q_X4_readsLine_37, l_on s a4, if_neg ne1, e_gfP (s.T 6 rfl) (s.P 17 rfl), e_gfP (s.T 6 rfl) (s.P 15 rfl), e_gfI (s.T 1 rfl), e_stA (s.T 8 rfl) (Int.natCast_nonneg i) hi', Int.toNat_natCast, a3, l_on s b3, if_neg ne1, l_me s c2, if_neg ne1]
    · rw [if_neg e3]
      refine ⟨1, _, ⟨f2, Or.inl ⟨_, _, rfl, rfl, g2, k2, R2, u2_same⟩⟩, ?_⟩
      rw [q_X4_readsLine_37, l_on s a4, if_neg ne1, e_gfP (s.T 6 rfl) (s.P 17 rfl), e_gfP (s.T 6 rfl) (s.P 15 rfl), e_gfI (s.T 1 rfl), e_stA (s.T 8 rfl) (Int.natCast_nonneg i) hi', Int.toNat_natCast, a3, l_on s b3, if_pos rfl]
  · rw [if_neg e1]
    refine ⟨0, am_u2 J 1 2 (q : Int), ⟨fun x j h1 h2 h3 h4 => ?_, Or.inr ⟨rfl, rfl, u2_same⟩⟩, ?_⟩
    · unfold am_u2
      rw [if_neg (by omega)]
    · rw [q_X4_readsLine_37, l_on s a4, if_pos rfl]
      exact l_ref s k
theorem l_ln (s : Sh h) (k : CQ A L N J q) (R : CC J cs) (hc : cs.1 ≤ q) {i : Nat} (hi : i < 12) : ∃ y K, ((∀ x j, ¬ (x = 1 ∧ 2 ≤ j) → ¬ (x = 6 ∧ j = 6) → x ≠ 10 → ¬ (x = 7 ∧ j = i) → ¬ (x = 8 ∧ j = i) → K x j = J x j) ∧ ((∃ v c, (rdLL A L q cs).2 = some (v, c) ∧ y = 1 ∧ K 1 2 = J 1 2 ∧ CQ A L N K (rdLL A L q cs).1 ∧ CC K c ∧ K 7 i = -13 - v.1 ∧ K 8 i = v.2) ∨ ((rdLL A L q cs).2 = none ∧ y = 0 ∧ K 1 2 = ((rdLL A L q cs).1 : Int)))) ∧ Cl sc (d + 18) mX4_readsLine [Vr (some 6), Vi (i : Int)] (hI h J) = some (.inl (Vi y), hI h K) := by
  have ne1 : ¬ (1 : Int) = 0 := by decide
  have hi' : (i : Int) < 12 := by omega
  rw [rdLL_NC]
  have go : ∀ {c : Int} {K1 : am_I}, thT A L q = c → -15 ≤ c ∧ c ≤ -13 → Fx J K1 → CQ A L N K1 (nxT A L q) → ∃ y K, ((∀ x j, ¬ (x = 1 ∧ 2 ≤ j) → ¬ (x = 6 ∧ j = 6) → x ≠ 10 → ¬ (x = 7 ∧ j = i) → ¬ (x = 8 ∧ j = i) → K x j = J x j) ∧ ((∃ v c, (if -15 ≤ thT A L q ∧ thT A L q ≤ -13 then bnR (rdNC A L (nxT A L q) cs) (fun q1 x => (q1, some ((-13 - thT A L q, x.1), x.2))) else (q, none)).2 = some (v, c) ∧ y = 1 ∧ K 1 2 = J 1 2 ∧ CQ A L N K (if -15 ≤ thT A L q ∧ thT A L q ≤ -13 then bnR (rdNC A L (nxT A L q) cs) (fun q1 x => (q1, some ((-13 - thT A L q, x.1), x.2))) else (q, none)).1 ∧ CC K c ∧ K 7 i = -13 - v.1 ∧ K 8 i = v.2) ∨ ((if -15 ≤ thT A L q ∧ thT A L q ≤ -13 then bnR (rdNC A L (nxT A L q) cs) (fun q1 x => (q1, some ((-13 - thT A L q, x.1), x.2))) else (q, none)).2 = none ∧ y = 0 ∧ K 1 2 = ((if -15 ≤ thT A L q ∧ thT A L q ≤ -13 then bnR (rdNC A L (nxT A L q) cs) (fun q1 x => (q1, some ((-13 - thT A L q, x.1), x.2))) else (q, none)).1 : Int)))) ∧ (gfP 4 1 (hI h K1) (some 6) fun p => stA 1 (hI h K1) p (i : Int) c fun h9 => Ru sc (d + 18) mX4_readsLine 37 [Vr (some 6), Vi (i : Int)] [] h9) = some (.inl (Vi y), hI h K) := by
    intro c K1 ec hb a1 a2
    rw [ec, if_pos hb]
    obtain ⟨n1, n2⟩ := nx_b k.tq (by omega)
    have k2 : CQ A L N (am_u2 K1 7 i c) (nxT A L q) := a2.same (u2_o (by decide)) (u2_o (by decide)) (by rw [u2_a (by decide)])
    have R2 : CC (am_u2 K1 7 i c) cs := (R.fx a1).l (by rw [u2_a (by decide)]) (u2_o (by decide))
    obtain ⟨y, K, ⟨z1, z2⟩, z3⟩ := l_ln37 (sc := sc) (d := d) s k2 R2 (by omega) hi
    have f4 : ∀ x j, ¬ (x = 1 ∧ 2 ≤ j) → ¬ (x = 6 ∧ j = 6) → x ≠ 10 → ¬ (x = 7 ∧ j = i) → ¬ (x = 8 ∧ j = i) → K x j = J x j := fun x j h1 h2 h3 h4 h5 => by
      rw [z1 x j h1 h2 h3 h5]
      unfold am_u2
      rw [if_neg h4]
      exact a1 x j (by omega)
    have e7 : K 7 i = c := by
      rw [z1 7 i (by omega) (by omega) (by decide) (by omega)]
      exact u2_same
    have e12 : am_u2 K1 7 i c 1 2 = J 1 2 := by rw [u2_a (by decide)]; exact a1.e2
    refine ⟨y, K, ⟨f4, ?_⟩, ?_⟩
    · rcases e9 : rdNC A L (nxT A L q) cs with ⟨q1, _ | ⟨v, c9⟩⟩
      · rw [e9] at z2
        rcases z2 with ⟨v, c9, w1, -⟩ | ⟨-, w2, w3⟩
        · cases w1
        · exact Or.inr ⟨rfl, w2, w3⟩
      · rw [e9] at z2
        rcases z2 with ⟨v, c9, w1, w2, w3, w4, w5, w6⟩ | ⟨w1, -⟩
        · cases w1
          exact Or.inl ⟨_, _, rfl, w2, w3.trans e12, w4, w5, by rw [e7]; dsimp only; omega, w6⟩
        · cases w1
    · rw [e_gfP (s.T 6 rfl) (s.P 16 rfl), e_stA (s.T 7 rfl) (Int.natCast_nonneg i) hi', Int.toNat_natCast]
      exact z3
  rcases c_takes (sc := sc) (d := d + 16) s k (c := -13) (by decide) with ⟨e1, K1, a1, a2, a3⟩ | ⟨e1, a3⟩
  · obtain ⟨y, K, z1, z2⟩ := go e1 (by decide) a1 a2
    refine ⟨y, K, z1, ?_⟩
    rw [q_X4_readsLine_0, l_on s a3, if_neg ne1]
    exact z2
  · rcases c_takes (sc := sc) (d := d + 16) s k (c := -14) (by decide) with ⟨e2, K1, a1, a2, a4⟩ | ⟨e2, a4⟩
    · obtain ⟨y, K, z1, z2⟩ := go e2 (by decide) a1 a2
      refine ⟨y, K, z1, ?_⟩
      rw [q_X4_readsLine_0, l_on s a3, if_pos rfl, l_on s a4, if_neg ne1]
      exact z2
    · rcases c_takes (sc := sc) (d := d + 16) s k (c := -15) (by decide) with ⟨e4, K1, a1, a2, a5⟩ | ⟨e4, a5⟩
      · obtain ⟨y, K, z1, z2⟩ := go e4 (by decide) a1 a2
        refine ⟨y, K, z1, ?_⟩
        rw [q_X4_readsLine_0, l_on s a3, if_pos rfl, l_on s a4, if_pos rfl, l_on s a5, if_neg ne1]
        exact z2
      · rw [if_neg (by omega)]
        refine ⟨0, am_u2 J 1 2 (q : Int), ⟨fun x j h1 h2 h3 h4 h5 => ?_, Or.inr ⟨rfl, rfl, u2_same⟩⟩, ?_⟩
        · unfold am_u2
          rw [if_neg (by omega)]
        · rw [q_X4_readsLine_0, l_on s a3, if_pos rfl, l_on s a4, if_pos rfl, l_on s a5, if_pos rfl]
          exact l_ref s k
end
