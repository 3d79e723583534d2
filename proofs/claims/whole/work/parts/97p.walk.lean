/-! WALKS ALONG TOPS -/
def toA (w : am_Wd) (t : Int) (b : Nat) : Int := if toW w b t = true then 1 else 1000000
/-- what is known of the least number of borders -/
def Wk (E : Nat → Bool) (c : Nat) (F : Nat → Int) : Prop := (∀ u, u < 49 → 0 ≤ F u ∧ F u ≤ 1000000) ∧ F c = 0 ∧ (∀ b, b < 60 → E b = true → F (mk b) ≤ F (lk b) + 1 ∧ F (lk b) ≤ F (mk b) + 1) ∧ ∀ u, u < 49 → u ≠ c → F u < 1000000 → ∃ b, b < 60 ∧ E b = true ∧ ((lk b = u ∧ F (mk b) + 1 = F u) ∨ (mk b = u ∧ F (lk b) + 1 = F u))
theorem Wk_of {E : Nat → Bool} {A F : Nat → Int} {c : Nat} (hc : c < 49) (hA : ∀ b, b < 60 → A b = if E b = true then 1 else 1000000) (hs : stb pl lk mk A F) (h0 : ∀ u, u < 49 → 0 ≤ F u) (h1 : ∀ u, u < 49 → F u ≤ ini c u) (hm : ∀ G, stb pl lk mk A G → (∀ u, u < 49 → G u ≤ ini c u) → ∀ u, u < 49 → G u ≤ F u) : Wk E c F := by
  have hb : ∀ u, u < 49 → 0 ≤ F u ∧ F u ≤ 1000000 := fun u hu => ⟨h0 u hu, Int.le_trans (h1 u hu) ini_b.2⟩
  refine ⟨hb, ?_, ?_, ?_⟩
  · have a1 := h0 c hc
    have a2 := h1 c hc
    unfold ini at a2
    rw [if_pos rfl] at a2
    omega
  · intro b hb6 hE
    have a1 := hs b hb6
    have a2 := hA b hb6
    rw [if_pos hE] at a2
    rw [a2] at a1
    exact a1
  · intro u hu hne hf
    refine Classical.byContradiction fun hno => ?_
    have hw : ∀ b, b < 60 → E b = true → ¬ (lk b = u ∧ F (mk b) + 1 = F u) ∧ ¬ (mk b = u ∧ F (lk b) + 1 = F u) := fun b hb hE => ⟨fun z => hno ⟨b, hb, hE, Or.inl z⟩, fun z => hno ⟨b, hb, hE, Or.inr z⟩⟩
    have g := hm (fun x => if x = u then F u + 1 else F x) (fun b hb6 => by
      have a1 := hs b hb6
      have a2 := hA b hb6
      have a0 := hb u hu
      have a3 := hw b hb6
      have a4 := hb (lk b) (lk_lt b hb6)
      have a5 := hb (mk b) (mk_lt b hb6)
      unfold pl at a1 ⊢
      try dsimp only
      cases hE : E b
      · rw [hE, if_neg (by decide)] at a2
        rw [a2] at a1 ⊢
        constructor
        · split <;> split <;> omega
        · split <;> split <;> omega
      · rw [hE, if_pos rfl] at a2
        obtain ⟨a6, a7⟩ := a3 hE
        rw [a2] at a1 ⊢
        by_cases e1 : lk b = u
        · by_cases e2 : mk b = u
          · rw [if_pos e1, if_pos e2]
            omega
          · have a8 : ¬ F (mk b) + 1 = F u := fun z => a6 ⟨e1, z⟩
            rw [if_pos e1, if_neg e2]
            rw [e1] at a1
            omega
        · by_cases e2 : mk b = u
          · have a8 : ¬ F (lk b) + 1 = F u := fun z => a7 ⟨e2, z⟩
            rw [if_neg e1, if_pos e2]
            rw [e2] at a1
            omega
          · rw [if_neg e1, if_neg e2]
            exact a1) (fun x hx => by
      try dsimp only
      split
      · rename_i e
        unfold ini
        rw [e, if_neg hne]
        omega
      · exact h1 x hx) u hu
    try dsimp only at g
    rw [if_pos rfl] at g
    omega
theorem nn_lt9 {p q : Nat → Bool} {N v : Nat} (h : ∀ u, u < N → p u = true → q u = true) (hv : v < N) (hp : p v = false) (hq : q v = true) : nn p N < nn q N := by
  unfold nn
  refine sm_lt (fun i hi => ?_) ⟨v, hv, ?_⟩
  · by_cases e : p i = true
    · rw [if_pos e, if_pos (h i hi e)]
      exact Int.le_refl _
    · rw [if_neg e]
      split <;> omega
  · rw [hp, if_neg (by decide), if_pos hq]
    omega
/-- nothing that is come to is far -/
theorem Wk.cnt {E : Nat → Bool} {F : Nat → Int} {c : Nat} (hc : c < 49) (W : Wk E c F) : ∀ n : Nat, n < 1000000 → ∀ u, u < 49 → F u = n → (n : Int) + 1 ≤ nn (fun v => decide (F v ≤ n)) 49 := by
  intro n
  induction n with
  | zero =>
    intro _ u hu hf
    have := nn_lt9 (p := fun _ => false) (q := fun v => decide (F v ≤ ((0 : Nat) : Int))) (N := 49) (v := c) (fun u hu h => by cases h) hc rfl (by
      rw [decide_eq_true_eq, W.2.1]; omega)
    have h0 := nn_b (p := fun _ => false) (N := 49)
    omega
  | succ n ih =>
    intro hn u hu hf
    have hne : u ≠ c := fun e => by rw [e, W.2.1] at hf; omega
    obtain ⟨b, b1, b2, b3⟩ := W.2.2.2 u hu hne (by omega)
    have key : ∃ v, v < 49 ∧ F v = n := by
      rcases b3 with ⟨-, e⟩ | ⟨-, e⟩
      · exact ⟨_, mk_lt b b1, by omega⟩
      · exact ⟨_, lk_lt b b1, by omega⟩
    obtain ⟨v, v1, v2⟩ := key
    have i1 := ih (by omega) v v1 v2
    have := nn_lt9 (p := fun v => decide (F v ≤ ((n : Nat) : Int))) (q := fun v => decide (F v ≤ ((n + 1 : Nat) : Int))) (N := 49) (v := u) (fun x _ h => by
      rw [decide_eq_true_eq] at h ⊢
      omega) hu (by rw [decide_eq_false_iff_not]; omega) (by rw [decide_eq_true_eq]; omega)
    omega
theorem Wk.le {E : Nat → Bool} {F : Nat → Int} {c u : Nat} (hc : c < 49) (W : Wk E c F) (hu : u < 49) (hf : F u < 1000000) : F u ≤ 48 := by
  have h0 := W.1 u hu
  have h1 := W.cnt hc (F u).toNat (by omega) u hu (by omega)
  have h2 := nn_b (p := fun v => decide (F v ≤ ((F u).toNat : Int))) (N := 49)
  omega
/-- the reference's rows -/
def lvl (F : Nat → Int) (n : Nat) (D : Nat → Int) : Prop := ∀ u, u < 49 → D u = if F u ≤ n then F u else -1
def wkS (E : Nat → Bool) (n : Int) (b : Nat) (D : Nat → Int) : Nat → Int := if E b = true then (if (if D (lk b) = n then (if D (mk b) = -1 then up D (mk b) (n + 1) else D) else D) (mk b) = n then (if (if D (lk b) = n then (if D (mk b) = -1 then up D (mk b) (n + 1) else D) else D) (lk b) = -1 then up (if D (lk b) = n then (if D (mk b) = -1 then up D (mk b) (n + 1) else D) else D) (lk b) (n + 1) else (if D (lk b) = n then (if D (mk b) = -1 then up D (mk b) (n + 1) else D) else D)) else (if D (lk b) = n then (if D (mk b) = -1 then up D (mk b) (n + 1) else D) else D)) else D
def half (x y : Nat) (n : Int) (D : Nat → Int) : Nat → Int := if D x = n then (if D y = -1 then up D y (n + 1) else D) else D
theorem wkS_half {E : Nat → Bool} {n : Int} {b : Nat} {D : Nat → Int} : wkS E n b D = if E b = true then half (mk b) (lk b) n (half (lk b) (mk b) n D) else D := rfl
/-- inside one level -/
def mid (F : Nat → Int) (n : Nat) (Q : Nat → Prop) (D : Nat → Int) : Prop := ∀ u, u < 49 → (F u ≤ n → D u = F u) ∧ ((n : Int) < F u → D u = -1 ∨ (D u = n + 1 ∧ F u = n + 1)) ∧ (Q u → F u = n + 1 → D u = n + 1)
theorem half_mid {F : Nat → Int} {n x y : Nat} {Q : Nat → Prop} {D : Nat → Int} (h0 : ∀ u, u < 49 → 0 ≤ F u) (hx : x < 49) (hy : y < 49) (hxy : F y ≤ F x + 1) (M : mid F n Q D) : mid F n (fun u => Q u ∨ (u = y ∧ F x = n)) (half x y n D) := by
  intro u hu
  obtain ⟨m1, m2, m3⟩ := M u hu
  obtain ⟨x1, x2, -⟩ := M x hx
  obtain ⟨y1, y2, -⟩ := M y hy
  have hx0 := h0 x hx
  have hy0 := h0 y hy
  unfold half
  by_cases g1 : D x = n
  · rw [if_pos g1]
    have fx : F x = n := by
      by_cases z : F x ≤ n
      · rw [← x1 z]; exact g1
      · have := x2 (by omega)
        omega
    by_cases g2 : D y = -1
    · rw [if_pos g2]
      have fy : F y = n + 1 := by
        by_cases z : F y ≤ n
        · have := y1 z
          omega
        · omega
      unfold up
      by_cases e : u = y
      · rw [if_pos e, e]
        exact ⟨fun z => by omega, fun _ => Or.inr ⟨rfl, fy⟩, fun _ _ => rfl⟩
      · rw [if_neg e]
        refine ⟨m1, m2, fun q => ?_⟩
        rcases q with q | ⟨q, -⟩
        · exact m3 q
        · exact absurd q e
    · rw [if_neg g2]
      refine ⟨m1, m2, fun q f => ?_⟩
      rcases q with q | ⟨q, -⟩
      · exact m3 q f
      · subst q
        have := m2 (by omega)
        omega
  · rw [if_neg g1]
    refine ⟨m1, m2, fun q f => ?_⟩
    rcases q with q | ⟨-, q⟩
    · exact m3 q f
    · exact absurd ((x1 (by omega)).trans q) g1
theorem lvl_round {E : Nat → Bool} {F : Nat → Int} {c n : Nat} (W : Wk E c F) (hn : n < 1000) {D : Nat → Int} (L : lvl F n D) : lvl F (n + 1) (fo (wkS E n) 60 D) := by
  have key : ∀ k, k ≤ 60 → mid F n (fun u => ∃ b, b < k ∧ E b = true ∧ ((mk b = u ∧ F (lk b) = n) ∨ (lk b = u ∧ F (mk b) = n))) (fo (wkS E n) k D) := by
    intro k
    induction k with
    | zero =>
      intro _ u hu
      have l := L u hu
      refine ⟨fun z => ?_, fun z => Or.inl ?_, fun ⟨b, hb, _⟩ => absurd hb (Nat.not_lt_zero b)⟩
      · show D u = _
        rw [l, if_pos z]
      · show D u = _
        rw [l, if_neg (by omega)]
    | succ k ih =>
      intro hk
      have M := ih (by omega)
      have es : fo (wkS E n) (k + 1) D = wkS E n k (fo (wkS E n) k D) := rfl
      rw [es, wkS_half]
      by_cases hE : E k = true
      · rw [if_pos hE]
        have a := W.2.2.1 k (by omega) hE
        have M2 := half_mid (fun u hu => (W.1 u hu).1) (lk_lt k (by omega)) (mk_lt k (by omega)) a.1 M
        have M3 := half_mid (fun u hu => (W.1 u hu).1) (mk_lt k (by omega)) (lk_lt k (by omega)) a.2 M2
        intro u hu
        obtain ⟨m1, m2, m3⟩ := M3 u hu
        refine ⟨m1, m2, fun ⟨b, b1, b2, b3⟩ => m3 ?_⟩
        by_cases e : b = k
        · subst e
          rcases b3 with ⟨e1, e2⟩ | ⟨e1, e2⟩
          · exact Or.inl (Or.inr ⟨e1.symm, e2⟩)
          · exact Or.inr ⟨e1.symm, e2⟩
        · exact Or.inl (Or.inl ⟨b, by omega, b2, b3⟩)
      · rw [if_neg hE]
        intro u hu
        obtain ⟨m1, m2, m3⟩ := M u hu
        refine ⟨m1, m2, fun ⟨b, b1, b2, b3⟩ => m3 ?_⟩
        by_cases e : b = k
        · subst e
          exact absurd b2 hE
        · exact ⟨b, by omega, b2, b3⟩
  intro u hu
  obtain ⟨m1, m2, m3⟩ := key 60 (Nat.le_refl 60) u hu
  by_cases g1 : F u ≤ n
  · rw [if_pos (by omega)]
    exact m1 g1
  · by_cases g2 : F u = n + 1
    · rw [if_pos (by omega), g2]
      have hne : u ≠ c := fun e => by rw [e, W.2.1] at g2; omega
      obtain ⟨b, b1, b2, b3⟩ := W.2.2.2 u hu hne (by omega)
      refine m3 ⟨b, b1, b2, ?_⟩ g2
      rcases b3 with ⟨e1, e2⟩ | ⟨e1, e2⟩
      · exact Or.inr ⟨e1, by omega⟩
      · exact Or.inl ⟨e1, by omega⟩
    · rw [if_neg (by omega)]
      rcases m2 (by omega) with z | ⟨-, z⟩
      · exact z
      · exact absurd z g2
section
variable {sc : Nat × (Nat → Int)} {d a : Nat} {h : am_H} {I J : am_I} {w : am_Wd}
theorem m_walksB (s : Sh h) {c : Nat} {t : Int} {n : Nat} (hn : n < 49) : ∀ k : Nat, k ≤ 60 → ∀ {D : Nat → Int} {u5 u6 : am_V}, ∃ v5 v6, Ru sc (d + 6) mX12_walks 27 [Vr (some 283), Vi (c : Int), Vi t, Vi (n : Int), Vi 0, u5, u6] [] (hI h (sr I 298 D)) = Ru sc (d + 6) mX12_walks 27 [Vr (some 283), Vi (c : Int), Vi t, Vi (n : Int), Vi (k : Int), v5, v6] [] (hI h (sr I 298 (fo (wkS (fun b => toW (I 284) b t) n) k D))) := by
  intro k
  induction k with
  | zero => exact fun _ D u5 u6 => ⟨u5, u6, rfl⟩
  | succ k ih =>
    intro hk D u5 u6
    obtain ⟨v5, v6, e⟩ := ih (by omega) (D := D) (u5 := u5) (u6 := u6)
    have hk60 : k < 60 := by omega
    have hlt : (k : Int) < 60 := by omega
    have l1 := lk_lt k hk60
    have l2 := mk_lt k hk60
    rw [e]
    have es : fo (wkS (fun b => toW (I 284) b t) n) (k + 1) D = wkS (fun b => toW (I 284) b t) n k (fo (wkS (fun b => toW (I 284) b t) n) k D) := rfl
    rw [es, wkS_half]
    generalize fo (wkS (fun b => toW (I 284) b t) n) k D = C
    have ht := m_isTop (sc := sc) (d := d + 1) (I := sr I 298 C) (t := t) s hk60
    rw [sr_ne (show 284 ≠ 298 by decide)] at ht
    try dsimp only
    cases hE : toW (I 284) k t
    · rw [hE] at ht
      refine ⟨v5, v6, ?_⟩
      rw [if_neg (by decide), q_X12_walks_27]
      simp (disch := first | (simp (disch := omega) only [w32_id]; omega) | omega) only [↓BM s, hlt, ht, w32_succ, Bool.false_eq_true, e_clI, e_clV, e_clP, e_clIx, e_clVx, e_clPx, e_xt, Int.toNat_natCast, Int.reduceToNat, bz0, bz1, Nat.add_zero, decide_eq_false_iff_not, decide_eq_true_eq, Int.reduceEq, Nat.reduceEqDiff, Int.reduceLT, Int.reduceLE, not_true_eq_false, not_false_eq_true, eq_self, ↓reduceIte]
    · rw [hE] at ht
      refine ⟨Vi (lk k : Nat), Vi (mk k : Nat), ?_⟩
      have w1 : w32 ((n : Int) + 1) = (n : Int) + 1 := w32_id (by omega) (by omega)
      have w2 : w32 ((k : Int) + 1) = ((k + 1 : Nat) : Int) := w32_succ (by omega)
      have go : ∀ C1, Ru sc (d + 6) mX12_walks 62 [Vr (some 283), Vi (c : Int), Vi t, Vi (n : Int), Vi (k : Int), Vi (lk k : Nat), Vi (mk k : Nat)] [] (hI h (sr I 298 C1)) = Ru sc (d + 6) mX12_walks 27 [Vr (some 283), Vi (c : Int), Vi t, Vi (n : Int), Vi ((k + 1 : Nat) : Int), Vi (lk k : Nat), Vi (mk k : Nat)] [] (hI h (sr I 298 (half (mk k) (lk k) n C1))) := by
        intro C1
        rw [q_X12_walks_62]
        unfold half
        by_cases g1 : C1 (mk k) = n
        · by_cases g2 : C1 (lk k) = -1
          · simp only [g1, g2, if_true]
            simp (disch := first | (simp (disch := omega) only [w32_id]; omega) | omega) only [↓BM s, sr_q, g1, g2, w1, w2, u2_sr, e_clI, e_clV, e_clP, e_clIx, e_clVx, e_clPx, e_xt, Int.toNat_natCast, Int.reduceToNat, bz0, bz1, Nat.add_zero, decide_eq_false_iff_not, decide_eq_true_eq, Int.reduceEq, Nat.reduceEqDiff, Int.reduceLT, Int.reduceLE, not_true_eq_false, not_false_eq_true, eq_self, ↓reduceIte]
          · simp only [g1, g2, if_true, if_false]
            simp (disch := first | (simp (disch := omega) only [w32_id]; omega) | omega) only [↓BM s, sr_q, g1, g2, w2, e_clI, e_clV, e_clP, e_clIx, e_clVx, e_clPx, e_xt, Int.toNat_natCast, Int.reduceToNat, bz0, bz1, Nat.add_zero, decide_eq_false_iff_not, decide_eq_true_eq, Int.reduceEq, Nat.reduceEqDiff, Int.reduceLT, Int.reduceLE, not_true_eq_false, not_false_eq_true, eq_self, ↓reduceIte]
        · simp only [g1, if_false]
          simp (disch := first | (simp (disch := omega) only [w32_id]; omega) | omega) only [↓BM s, sr_q, g1, w2, e_clI, e_clV, e_clP, e_clIx, e_clVx, e_clPx, e_xt, Int.toNat_natCast, Int.reduceToNat, bz0, bz1, Nat.add_zero, decide_eq_false_iff_not, decide_eq_true_eq, Int.reduceEq, Nat.reduceEqDiff, Int.reduceLT, Int.reduceLE, not_true_eq_false, not_false_eq_true, eq_self, ↓reduceIte]
      rw [if_pos rfl, q_X12_walks_27]
      have e1 : half (lk k) (mk k) n C = if C (lk k) = n then (if C (mk k) = -1 then up C (mk k) (n + 1) else C) else C := rfl
      by_cases g1 : C (lk k) = n
      · by_cases g2 : C (mk k) = -1
        · rw [e1, if_pos g1, if_pos g2]
          simp (disch := first | (simp (disch := omega) only [w32_id]; omega) | omega) only [↓BM s, hlt, ht, c_beginOf hk60, c_endOf hk60, sr_q, g1, g2, w1, u2_sr, go, Bool.true_eq_false, e_clI, e_clV, e_clP, e_clIx, e_clVx, e_clPx, e_xt, Int.toNat_natCast, Int.reduceToNat, bz0, bz1, Nat.add_zero, decide_eq_false_iff_not, decide_eq_true_eq, Int.reduceEq, Nat.reduceEqDiff, Int.reduceLT, Int.reduceLE, not_true_eq_false, not_false_eq_true, eq_self, ↓reduceIte]
        · rw [e1, if_pos g1, if_neg g2]
          simp (disch := first | (simp (disch := omega) only [w32_id]; omega) | omega) only [↓BM s, hlt, ht, c_beginOf hk60, c_endOf hk60, sr_q, g1, g2, go, Bool.true_eq_false, e_clI, e_clV, e_clP, e_clIx, e_clVx, e_clPx, e_xt, Int.toNat_natCast, Int.reduceToNat, bz0, bz1, Nat.add_zero, decide_eq_false_iff_not, decide_eq_true_eq, Int.reduceEq, Nat.reduceEqDiff, Int.reduceLT, Int.reduceLE, not_true_eq_false, not_false_eq_true, eq_self, ↓reduceIte]
      · rw [e1, if_neg g1]
        simp (disch := first | (simp (disch := omega) only [w32_id]; omega) | omega) only [↓BM s, hlt, ht, c_beginOf hk60, c_endOf hk60, sr_q, g1, go, Bool.true_eq_false, e_clI, e_clV, e_clP, e_clIx, e_clVx, e_clPx, e_xt, Int.toNat_natCast, Int.reduceToNat, bz0, bz1, Nat.add_zero, decide_eq_false_iff_not, decide_eq_true_eq, Int.reduceEq, Nat.reduceEqDiff, Int.reduceLT, Int.reduceLE, not_true_eq_false, not_false_eq_true, eq_self, ↓reduceIte]
theorem m_walks (s : Sh h) {c : Nat} (hc : c < 49) {t : Int} {F : Nat → Int} (W : Wk (fun b => toW (I 284) b t) c F) : ∃ D, lvl F 49 D ∧ Cl sc (d + 6) mX12_walks [Vr (some 283), Vi (c : Int), Vi t] (hI h I) = some (.inl (Vx 0), hI h (sr I 298 D)) := by
  have hr := fo_run0 (F := fun i C => Ru sc (d + 6) mX12_walks 3 [Vr (some 283), Vi (c : Int), Vi t, Vi (i : Int), Vx 0, Vx 0, Vx 0] [] (hI h (sr I 298 C))) (f := fun i C => up C i (-1)) (N := 49) (s0 := I 298) (fun i C hi => by
    have hlt : (i : Int) < 49 := by omega
    try dsimp only
    rw [q_X12_walks_3]
    simp (disch := first | (simp (disch := omega) only [w32_id]; omega) | omega) only [↓BM s, hlt, u2_sr, w32_succ, e_clI, e_clV, e_clP, e_clIx, e_clVx, e_clPx, e_xt, Int.toNat_natCast, Int.reduceToNat, bz0, bz1, Nat.add_zero, decide_eq_false_iff_not, decide_eq_true_eq, Int.reduceEq, Nat.reduceEqDiff, Int.reduceLT, Int.reduceLE, not_true_eq_false, not_false_eq_true, eq_self, ↓reduceIte])
  rw [fo_up] at hr
  try dsimp only at hr
  rw [sr_self] at hr
  have go : ∀ n, n ≤ 49 → ∃ D v4 v5 v6, lvl F n D ∧ Ru sc (d + 6) mX12_walks 21 [Vr (some 283), Vi (c : Int), Vi t, Vi 0, Vx 0, Vx 0, Vx 0] [] (hI h (sr I 298 (up (fun u => if u < 49 then (-1 : Int) else I 298 u) c 0))) = Ru sc (d + 6) mX12_walks 21 [Vr (some 283), Vi (c : Int), Vi t, Vi (n : Int), v4, v5, v6] [] (hI h (sr I 298 D)) := by
    intro n
    induction n with
    | zero =>
      intro _
      refine ⟨_, _, _, _, fun u hu => ?_, rfl⟩
      unfold up
      by_cases e : u = c
      · rw [if_pos e, e, W.2.1]
        rfl
      · rw [if_neg e]
        try dsimp only
        rw [if_pos hu, if_neg ?_]
        intro z
        have f0 := W.1 u hu
        obtain ⟨b, b1, b2, b3⟩ := W.2.2.2 u hu e (by omega)
        rcases b3 with ⟨-, e1⟩ | ⟨-, e1⟩
        · have := W.1 _ (mk_lt b b1)
          omega
        · have := W.1 _ (lk_lt b b1)
          omega
    | succ n ih =>
      intro hn
      obtain ⟨D, v4, v5, v6, l, e⟩ := ih (by omega)
      have hlt : (n : Int) < 49 := by omega
      obtain ⟨x5, x6, e2⟩ := m_walksB (sc := sc) (d := d) (I := I) s (c := c) (t := t) (n := n) (by omega) 60 (Nat.le_refl 60) (D := D) (u5 := v5) (u6 := v6)
      refine ⟨_, Vi ((60 : Nat) : Int), x5, x6, lvl_round W (by omega) l, ?_⟩
      rw [e, q_X12_walks_21, if_pos hlt]
      refine e2.trans ?_
      rw [q_X12_walks_27, if_neg (by omega), w32_succ (by omega)]
  obtain ⟨D, v4, v5, v6, l, e⟩ := go 49 (Nat.le_refl 49)
  refine ⟨D, l, ?_⟩
  rw [q_X12_walks_0]
  refine hr.trans ?_
  have hlt : ¬ ((49 : Nat) : Int) < 49 := by omega
  rw [q_X12_walks_3]
  simp (disch := first | (simp (disch := omega) only [w32_id]; omega) | omega) only [↓BM s, hlt, u2_sr, e_clI, e_clV, e_clP, e_clIx, e_clVx, e_clPx, e_xt, Int.toNat_natCast, Int.reduceToNat, bz0, bz1, Nat.add_zero, decide_eq_false_iff_not, decide_eq_true_eq, Int.reduceEq, Nat.reduceEqDiff, Int.reduceLT, Int.reduceLE, not_true_eq_false, not_false_eq_true, eq_self, ↓reduceIte]
  refine e.trans ?_
  rw [q_X12_walks_21, if_neg hlt]
end
