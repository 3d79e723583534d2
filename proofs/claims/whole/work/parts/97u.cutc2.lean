/-! THE CLASS'S CUT: filling ways -/
theorem fo_pair {g1 g2 : Nat → Int} {A B : Nat → Int} : ∀ n, fo (fun i (C : (Nat → Int) × (Nat → Int)) => (up C.1 i (g1 i), up C.2 i (g2 i))) n (A, B) = (fo (fun i C => up C i (g1 i)) n A, fo (fun i C => up C i (g2 i)) n B)
  | 0 => rfl
  | n + 1 => by
    have ih := fo_pair (g1 := g1) (g2 := g2) (A := A) (B := B) n
    show (fun (i : Nat) (C : (Nat → Int) × (Nat → Int)) => (up C.1 i (g1 i), up C.2 i (g2 i))) n (fo (fun i (C : (Nat → Int) × (Nat → Int)) => (up C.1 i (g1 i), up C.2 i (g2 i))) n (A, B)) = _
    rw [ih]
    rfl
section
variable {sc : Nat × (Nat → Int)} {d a : Nat} {h : am_H} {I J : am_I} {w : am_Wd}
theorem c_fillLoop (s : Sh h) {O : Nat → Bool} {f : Nat → Int} (hf : ∀ b, b < 60 → -1 ≤ f b ∧ f b ≤ 1) {x y : Nat} {rk : Nat → Nat} (T : Tr (Rm O f) x (I 122) rk) {k : Int} (F : FlW O x y k f) : ∀ n u : Nat, rk u ≤ n → ∀ (i : Nat) (u5 : am_V) (g : Nat → Int), u < 36 → Vs x (I 122) u = true → i + rk u ≤ 35 → Bk f O x y (I 122) rk u g → ∃ g', FlW O x y (k + 1) g' ∧ Ru sc (d + 3) mX7_fillWay 5 [Vr (some 53), Vi (x : Int), Vi (y : Int), Vi (u : Int), Vi (i : Int), u5] [] (hI h (sr I 121 g)) = some (.inl (Vx 0), hI h (sr I 121 g')) := by
  intro n
  induction n with
  | zero =>
    intro u hn i u5 g hu hV hi B
    by_cases hux : u = x
    · subst hux
      refine ⟨g, B.en F, ?_⟩
      rw [q_X7_fillWay_5, if_pos (by omega), if_pos rfl]
    · obtain ⟨b, p, ⟨-, -, -, -, -, z⟩, -⟩ := B.go hf T hu hV hux
      omega
  | succ n ih =>
    intro u hn i u5 g hu hV hi B
    by_cases hux : u = x
    · subst hux
      refine ⟨g, B.en F, ?_⟩
      rw [q_X7_fillWay_5, if_pos (by omega), if_pos rfl]
    · obtain ⟨b, p, ⟨b1, b2, b3, b4, b5, b6⟩, hg, B2⟩ := B.go hf T hu hV hux
      have jj := jo_at b1 b4
      have hf1 := hf b b1
      obtain ⟨g', k1, k2⟩ := ih p (by omega) (i + 1) (Vi (b : Int)) _ b2 b5 (by omega) B2
      refine ⟨g', k1, ?_⟩
      have hi36 : (i : Int) < 36 := by omega
      have hux2 : ¬ (u : Int) = (x : Int) := by omega
      have hbn : ¬ (b : Int) = -1 := by omega
      have f122 : sr I 121 g 122 = I 122 := sr_ne (by decide)
      have w1 : w32 (g b + wy b p) = g b + wy b p := by
        unfold wy
        split
        · exact w32_id (by omega) (by omega)
        · exact w32_id (by omega) (by omega)
      have wi : w32 ((i : Int) + 1) = ((i + 1 : Nat) : Int) := w32_succ (by omega)
      rw [q_X7_fillWay_5]
      simp (disch := first | (simp (disch := omega) only [w32_id]; omega) | omega) only [↓BW s, hi36, hux2, f122, b3, hbn, c_across b1 jj.2.2.2.2.1, jj.2.2.1, sr_q, c_wayOf b1, w1, u2_sr, wi, e_clI, e_clV, e_clP, e_clIx, e_clVx, e_clPx, e_xt, Int.toNat_natCast, Int.reduceToNat, bz0, bz1, Nat.add_zero, decide_eq_false_iff_not, decide_eq_true_eq, Int.reduceEq, Nat.reduceEqDiff, Int.reduceLT, Int.reduceLE, not_true_eq_false, not_false_eq_true, eq_self, ↓reduceIte]
      exact k2
theorem c_fillWay (s : Sh h) {O : Nat → Bool} {f : Nat → Int} {x y : Nat} (hy : y < 36) (ef : I 121 = f) {rk : Nat → Nat} (T : Tr (Rm O f) x (I 122) rk) (hV : Vs x (I 122) y = true) {k : Int} (F : FlW O x y k f) : ∃ g', FlW O x y (k + 1) g' ∧ Cl sc (d + 3) mX7_fillWay [Vr (some 53), Vi (x : Int), Vi (y : Int)] (hI h I) = some (.inl (Vx 0), hI h (sr I 121 g')) := by
  have t1 := (T y hy hV).1
  have t2 := nn_b (p := Vs x (I 122)) (N := 36)
  obtain ⟨g', k1, k2⟩ := c_fillLoop (sc := sc) (d := d) (I := I) s (fun b hb => (F.1 b hb).1) T F (rk y) y (Nat.le_refl _) 0 (Vx 0) f hy hV (by omega) (Bk.st F)
  refine ⟨g', k1, ?_⟩
  rw [q_X7_fillWay_0]
  rw [← ef, sr_self] at k2
  exact k2
/-- how a search for ways ends: none is left -/
def Nx (O : Nat → Bool) (f : Nat → Int) (x y : Nat) : Prop := ∃ S : Nat → Bool, S x = true ∧ S y = false ∧ ∀ b p u, b < 60 → jo b p u → S p = true → Rm O f b p → S u = true
theorem c_shutLoop (s : Sh h) {O : Nat → Bool} {x y : Nat} {r1 : Option Nat} {t : Int} (hx : x < 36) (hy : y < 36) (hne : x ≠ y) : ∀ m n : Nat, n + m = 4 → ∀ J, (∀ b, b < 60 → (J 54 b = -1 ↔ O b = false)) → FlW O x y (n : Int) (J 121) → ∃ K f, ∃ k : Nat, (Ks J K ∧ FlW O x y (k : Int) f ∧ (k = 4 ∨ Nx O f x y)) ∧ Ru sc (d + 6) mX7_shutting 28 [Vr (some 53), Vr r1, Vi t, Vi (x : Int), Vi (y : Int), Vi (n : Int)] [] (hI h J) = some (.inl (Vi (k : Int)), hI h K) := by
  intro m
  induction m with
  | zero =>
    intro n hn J hO F
    have : n = 4 := by omega
    subst this
    refine ⟨J, J 121, 4, ⟨Ks.rf J, F, Or.inl rfl⟩, ?_⟩
    rw [q_X7_shutting_28, if_neg (by omega)]
  | succ m ih =>
    intro n hn J hO F
    have hlt : (n : Int) < 4 := by omega
    obtain ⟨C, Q, ⟨⟨rk, T⟩, k2, k3⟩, k4⟩ := c_findsWay (sc := sc) (d := d) (I := J) s (f := J 121) hO (fun b hb => ⟨rfl, (F.1 b hb).1⟩) hx hy
    have kk : Ks J (sr (sr J 122 C) 123 Q) := ((Ks.rf J).sr (by omega)).sr (by omega)
    by_cases hc : C y = -1
    · refine ⟨_, J 121, n, ⟨kk, F, Or.inr ⟨Vs x C, Vs_s, Vs_no (fun z => hne z.symm) hc, Cd.all k3⟩⟩, ?_⟩
      rw [hc, if_pos rfl] at k4
      rw [q_X7_shutting_28]
      simp (disch := first | (simp (disch := omega) only [w32_id]; omega) | omega) only [↓BW s, hlt, k4, e_clI, e_clV, e_clP, e_clIx, e_clVx, e_clPx, e_xt, Int.toNat_natCast, Int.reduceToNat, bz0, bz1, Nat.add_zero, decide_eq_false_iff_not, decide_eq_true_eq, Int.reduceEq, Nat.reduceEqDiff, Int.reduceLT, Int.reduceLE, not_true_eq_false, not_false_eq_true, eq_self, ↓reduceIte]
    · rw [if_neg hc] at k4
      have f121 : sr (sr J 122 C) 123 Q 121 = J 121 := by rw [sr_ne (by decide), sr_ne (by decide)]
      have f122 : sr (sr J 122 C) 123 Q 122 = C := by rw [sr_ne (by decide), sr_q]
      obtain ⟨g', g1, g2⟩ := c_fillWay (sc := sc) (d := d + 2) (I := sr (sr J 122 C) 123 Q) s hy f121 (by rw [f122]; exact T) (by rw [f122]; exact Vs_c hc) F
      obtain ⟨K, f, k, ⟨l1, l2, l3⟩, l4⟩ := ih (n + 1) (by omega) (sr (sr (sr J 122 C) 123 Q) 121 g') (fun b hb => by
        rw [sr_ne (by decide), sr_ne (by decide), sr_ne (by decide)]
        exact hO b hb) (by
        rw [sr_q]
        exact g1)
      refine ⟨K, f, k, ⟨(kk.sr (by omega)).tr l1, l2, l3⟩, ?_⟩
      rw [q_X7_shutting_28]
      simp (disch := first | (simp (disch := omega) only [w32_id]; omega) | omega) only [↓BW s, hlt, k4, g2, w32_succ, e_clI, e_clV, e_clP, e_clIx, e_clVx, e_clPx, e_xt, Int.toNat_natCast, Int.reduceToNat, bz0, bz1, Nat.add_zero, decide_eq_false_iff_not, decide_eq_true_eq, Int.reduceEq, Nat.reduceEqDiff, Int.reduceLT, Int.reduceLE, not_true_eq_false, not_false_eq_true, eq_self, ↓reduceIte]
      exact l4
theorem c_shutting (s : Sh h) (c : Cty h a) (ha : a + 11 < 48) (R : CRep I a w) (V : WW w) {t : Int} {x y : Nat} (hx : x < 36) (hy : y < 36) (hne : x ≠ y) : ∃ K f, ∃ k : Nat, (Ks I K ∧ FlW (fun b => opW w b t) x y (k : Int) f ∧ (k = 4 ∨ Nx (fun b => opW w b t) f x y)) ∧ Cl sc (d + 6) mX7_shutting [Vr (some 53), Vr (some a), Vi t, Vi (x : Int), Vi (y : Int)] (hI h I) = some (.inl (Vi (k : Int)), hI h K) := by
  have hr := fo_run0 (F := fun i (C : (Nat → Int) × (Nat → Int)) => Ru sc (d + 6) mX7_shutting 3 [Vr (some 53), Vr (some a), Vi t, Vi (x : Int), Vi (y : Int), Vi (i : Int)] [] (hI h (sr (sr I 54 C.1) 121 C.2))) (f := fun i C => (up C.1 i (if opW w i t = true then 0 else -1), up C.2 i 0)) (N := 60) (s0 := (I 54, I 121)) (fun i C hi => by
    have hlt : (i : Int) < 60 := by omega
    have R2 : CRep (sr (sr I 54 C.1) 121 C.2) a w := R.eq fun k hk => by rw [sr_ne (by omega), sr_ne (by omega)]
    try dsimp only
    rw [q_X7_shutting_3]
    cases ho : opW w i t
    · simp (disch := first | (simp (disch := omega) only [w32_id]; omega) | omega) only [↓BW s, ↓BC c, hlt, c_isOpen c R2 V hi, ho, u2_srne, u2_sr, w32_succ, Bool.false_eq_true, e_clI, e_clV, e_clP, e_clIx, e_clVx, e_clPx, e_xt, Int.toNat_natCast, Int.reduceToNat, bz0, bz1, Nat.add_zero, decide_eq_false_iff_not, decide_eq_true_eq, Int.reduceEq, Nat.reduceEqDiff, Int.reduceLT, Int.reduceLE, not_true_eq_false, not_false_eq_true, eq_self, ↓reduceIte]
    · simp (disch := first | (simp (disch := omega) only [w32_id]; omega) | omega) only [↓BW s, ↓BC c, hlt, c_isOpen c R2 V hi, ho, u2_srne, u2_sr, w32_succ, Bool.true_eq_false, e_clI, e_clV, e_clP, e_clIx, e_clVx, e_clPx, e_xt, Int.toNat_natCast, Int.reduceToNat, bz0, bz1, Nat.add_zero, decide_eq_false_iff_not, decide_eq_true_eq, Int.reduceEq, Nat.reduceEqDiff, Int.reduceLT, Int.reduceLE, not_true_eq_false, not_false_eq_true, eq_self, ↓reduceIte])
  rw [fo_pair (g1 := fun i => if opW w i t = true then (0 : Int) else -1) (g2 := fun _ => 0) 60, fo_row (g := fun i => if opW w i t = true then (0 : Int) else -1), fo_row (g := fun _ => 0)] at hr
  try dsimp only at hr
  have e0 : sr (sr I 54 (I 54)) 121 (I 121) = I := by
    rw [sr_self, sr_self]
  rw [e0] at hr
  have kk : Ks I (sr (sr I 54 (fun u => if u < 60 then (if opW w u t = true then (0 : Int) else -1) else I 54 u)) 121 (fun u => if u < 60 then (0 : Int) else I 121 u)) := ((Ks.rf I).sr (by omega)).sr (by omega)
  have hO : ∀ b, b < 60 → ((sr (sr I 54 (fun u => if u < 60 then (if opW w u t = true then (0 : Int) else -1) else I 54 u)) 121 (fun u => if u < 60 then (0 : Int) else I 121 u)) 54 b = -1 ↔ opW w b t = false) := fun b hb => by
    rw [sr_ne (by decide), sr_q]
    try dsimp only
    rw [if_pos hb]
    cases opW w b t
    · exact ⟨fun _ => rfl, fun _ => rfl⟩
    · exact ⟨(fun z => absurd z (by decide)), (fun z => absurd z (by decide))⟩
  have hF : FlW (fun b => opW w b t) x y ((0 : Nat) : Int) ((sr (sr I 54 (fun u => if u < 60 then (if opW w u t = true then (0 : Int) else -1) else I 54 u)) 121 (fun u => if u < 60 then (0 : Int) else I 121 u)) 121) := by
    rw [sr_q]
    exact FlW.z.cg (fun b hb => by rw [if_pos hb])
  generalize sr (sr I 54 (fun u => if u < 60 then (if opW w u t = true then (0 : Int) else -1) else I 54 u)) 121 (fun u => if u < 60 then (0 : Int) else I 121 u) = J at hr kk hO hF
  obtain ⟨K, f, k, ⟨l1, l2, l3⟩, l4⟩ := c_shutLoop (sc := sc) (d := d) s (O := fun b => opW w b t) (r1 := some a) (t := t) hx hy hne 4 0 rfl J hO hF
  refine ⟨K, f, k, ⟨kk.tr l1, l2, l3⟩, ?_⟩
  rw [q_X7_shutting_0]
  refine hr.trans ?_
  rw [q_X7_shutting_3, if_neg (by omega)]
  exact l4
end
