/-! FAMILY: TOWER, SHARE, WHAT TO PULL -/
def toS (w : am_Wd) (c n : Nat) : Int := sm (fun k => if sd c k = -1 then 0 else w (7 + 5 * (sd c k).toNat + 2)) n
theorem toS_b {w : am_Wd} (V : WW w) {c : Nat} (hc : c < 36) : ∀ {n : Nat}, n ≤ 4 → 0 ≤ toS w c n ∧ toS w c n ≤ 999 * n := by
  intro n hn
  have h := sm_le (f := fun k => if sd c k = -1 then 0 else w (7 + 5 * (sd c k).toNat + 2)) (A := 0) (B := 999) (N := n) (fun i hi => by
    have h1 := sd_lt c hc i (by omega)
    by_cases g : sd c i = -1
    · rw [if_pos g]
      omega
    · rw [if_neg g]
      have := V.fe (b := (sd c i).toNat) (by omega)
      omega)
  unfold toS
  omega
theorem ap_sy : ∀ a b : Nat, ap a b = ap b a := fun a b => by unfold ap; omega
def hmW (w : am_Wd) (f : Nat) : Nat := (w (307 + 4 * f)).toNat
def nr (w : am_Wd) (c : Nat) (k t : Nat) : Nat := if ap (hmW w (k + 1)) c < ap (hmW w t) c then k + 1 else t
def nrW (w : am_Wd) (c : Nat) : Nat := fo (nr w c) ((w 0).toNat - 1) 0
theorem nr_lt {w : am_Wd} {c n : Nat} : fo (nr w c) n 0 ≤ n := by
  induction n with
  | zero => exact Nat.le_refl 0
  | succ n ih =>
    show nr w c n (fo (nr w c) n 0) ≤ n + 1
    generalize fo (nr w c) n 0 = t at ih ⊢
    unfold nr
    split <;> omega
/-- one border more -/
theorem add_one {E E' : Nat → Bool} {lb : Nat → Nat} {b : Nat} (hb : b < 60) (h2 : E' b = true) (h3 : ∀ x, x ≠ b → E' x = E x) (h1 : E b = false) (r1 : ∀ u, u < 36 → lb u < 36 ∧ lb (lb u) = lb u) (k1 : ∀ u v, u < 36 → v < 36 → (lb u = lb v ↔ conn lc mc E 60 u v)) : ∀ u v, u < 36 → v < 36 → (jn lb (lc b) (mc b) u = jn lb (lc b) (mc b) v ↔ conn lc mc E' 60 u v) := by
  have sub : ∀ x, x < 60 → E x = true → E' x = true := fun x hx h => by
    by_cases e : x = b
    · rw [e]
      exact h2
    · rw [h3 x e]
      exact h
  have l1 := lc_lt b hb
  have l2 := mc_lt b hb
  have ce : conn lc mc E' 60 (lc b) (mc b) := conn.ed hb h2
  have cm : ∀ {x y : Nat}, x < 36 → y < 36 → lb x = lb y → conn lc mc E' 60 x y := fun hx hy e => ((k1 _ _ hx hy).mp e).cg sub
  intro u v hu hv
  constructor
  · intro g
    unfold jn at g
    by_cases g1 : lb u = lb (mc b)
    · rw [if_pos g1] at g
      by_cases g2 : lb v = lb (mc b)
      · exact cm hu hv (g1.trans g2.symm)
      · rw [if_neg g2] at g
        exact (cm hu l2 g1).tr (ce.sy.tr (cm l1 hv g))
    · rw [if_neg g1] at g
      by_cases g2 : lb v = lb (mc b)
      · rw [if_pos g2] at g
        exact (cm hu l1 g).tr (ce.tr (cm l2 hv g2.symm))
      · rw [if_neg g2] at g
        exact cm hu hv g
  · intro c
    refine c (fun z => jn lb (lc b) (mc b) u = jn lb (lc b) (mc b) z) rfl (fun x hx hE => ?_)
    have e : jn lb (lc b) (mc b) (lc x) = jn lb (lc b) (mc b) (mc x) := by
      by_cases e : x = b
      · rw [e]
        unfold jn
        rw [if_pos (show lb (mc b) = lb (mc b) from rfl)]
        split <;> rfl
      · have := (k1 _ _ (lc_lt x hx) (mc_lt x hx)).mpr (conn.ed hx (by rw [← h3 x e]; exact hE))
        unfold jn
        rw [this]
    try dsimp only
    rw [e]
/-- what a border opened gives -/
def gaI (lb : Nat → Nat) (hm b : Nat) : Int := if lb (lc b) = lb (mc b) then 0 else if lb hm = lb (lc b) then nn (fun v => decide (lb v = lb (mc b))) 36 else if lb hm = lb (mc b) then nn (fun v => decide (lb v = lb (lc b))) 36 else 0
theorem ga_jn {lb : Nat → Nat} {hm b : Nat} : nn (fun v => decide (jn lb (lc b) (mc b) v = jn lb (lc b) (mc b) hm)) 36 = nn (fun v => decide (lb v = lb hm)) 36 + gaI lb hm b := by
  unfold gaI
  by_cases g : lb (lc b) = lb (mc b)
  · rw [if_pos g, jn_same g, Int.add_zero]
  · rw [if_neg g]
    by_cases g1 : lb hm = lb (lc b)
    · rw [if_pos g1]
      have g2 : ¬ lb hm = lb (mc b) := fun z => g (g1.symm.trans z)
      have eh : jn lb (lc b) (mc b) hm = lb (lc b) := by
        unfold jn
        rw [if_neg g2, g1]
      rw [eh, g1]
      refine nn_add (fun v hv => ?_)
      unfold jn
      by_cases g3 : lb v = lb (mc b)
      · have g4 : ¬ lb (mc b) = lb (lc b) := fun z => g z.symm
        rw [if_pos g3, g3]
        exact Or.inr (Or.inl ⟨decide_eq_false g4, decide_eq_true rfl, decide_eq_true rfl⟩)
      · rw [if_neg g3]
        by_cases g5 : lb v = lb (lc b)
        · exact Or.inl ⟨decide_eq_true g5, decide_eq_false g3, decide_eq_true g5⟩
        · exact Or.inr (Or.inr ⟨decide_eq_false g5, decide_eq_false g3, decide_eq_false g5⟩)
    · rw [if_neg g1]
      by_cases g2 : lb hm = lb (mc b)
      · rw [if_pos g2]
        have eh : jn lb (lc b) (mc b) hm = lb (lc b) := by
          unfold jn
          rw [if_pos g2]
        rw [eh, g2]
        refine nn_add (fun v hv => ?_)
        unfold jn
        by_cases g3 : lb v = lb (mc b)
        · have g4 : ¬ lb (mc b) = lb (lc b) := fun z => g z.symm
          rw [if_pos g3, g3]
          exact Or.inl ⟨decide_eq_true rfl, decide_eq_false g4, decide_eq_true rfl⟩
        · rw [if_neg g3]
          by_cases g5 : lb v = lb (lc b)
          · exact Or.inr (Or.inl ⟨decide_eq_false g3, decide_eq_true g5, decide_eq_true g5⟩)
          · exact Or.inr (Or.inr ⟨decide_eq_false g3, decide_eq_false g5, decide_eq_false g5⟩)
      · rw [if_neg g2, Int.add_zero]
        have eh : jn lb (lc b) (mc b) hm = lb hm := by
          unfold jn
          rw [if_neg g2]
        rw [eh]
        refine nn_cg (fun v hv => ?_)
        unfold jn
        by_cases g3 : lb v = lb (mc b)
        · rw [if_pos g3, g3, decide_eq_false (fun z => g1 z.symm), decide_eq_false (fun z => g2 z.symm)]
        · rw [if_neg g3]
def puF (w : am_Wd) (lb : Nat → Nat) (hm : Nat) (t : Int) (b : Nat) (z : Int × Int) : Int × Int := if opW w b t = true then z else if z.2 < gaI lb hm b then ((b : Int), gaI lb hm b) else z
theorem gaI_b {lb : Nat → Nat} {hm b : Nat} : 0 ≤ gaI lb hm b ∧ gaI lb hm b ≤ 36 := by
  unfold gaI
  have h1 := nn_b (p := fun v => decide (lb v = lb (mc b))) (N := 36)
  have h2 := nn_b (p := fun v => decide (lb v = lb (lc b))) (N := 36)
  split
  · omega
  · split
    · omega
    · split <;> omega
section
variable {sc : Nat × (Nat → Int)} {d a : Nat} {h : am_H} {I J : am_I} {w : am_Wd}
theorem c_tower (c : Cty h a) (R : CRep I a w) (V : WW w) {x : Nat} (hx : x < 36) : Cl sc (d + 2) mX0_tower [Vr (some a), Vi (x : Int)] (hI h I) = some (.inl (Vi (toS w x 4)), hI h I) := by
  rw [q_X0_tower_0]
  have go : ∀ n, n ≤ 4 → ∃ u, Ru sc (d + 2) mX0_tower 5 [Vr (some a), Vi (x : Int), Vi 0, Vi 0, Vx 0] [] (hI h I) = Ru sc (d + 2) mX0_tower 5 [Vr (some a), Vi (x : Int), Vi (toS w x n), Vi (n : Int), u] [] (hI h I) := by
    intro n
    induction n with
    | zero => exact fun _ => ⟨_, rfl⟩
    | succ n ih =>
      intro hn
      obtain ⟨u, hu⟩ := ih (by omega)
      have hlt : (n : Int) < 4 := by omega
      have hs := sd_lt x hx n (by omega)
      have hb := toS_b V hx (n := n) (by omega)
      have es : toS w x (n + 1) = toS w x n + (if sd x n = -1 then 0 else w (7 + 5 * (sd x n).toNat + 2)) := rfl
      rw [hu, q_X0_tower_5, es]
      by_cases h3 : sd x n = -1
      · refine ⟨Vi (-1), ?_⟩
        simp (disch := first | (simp (disch := omega) only [w32_id]; omega) | omega) only [↓BC c, hlt, c_onSide hx (show n < 4 by omega), h3, w32_succ, Int.add_zero, e_clI, e_clV, e_clP, e_clIx, e_clVx, e_clPx, e_xt, Int.toNat_natCast, Int.reduceToNat, bz0, bz1, Nat.add_zero, decide_eq_false_iff_not, decide_eq_true_eq, Int.reduceEq, Nat.reduceEqDiff, Int.reduceLT, Int.reduceLE, not_true_eq_false, not_false_eq_true, eq_self, ↓reduceIte]
      · obtain ⟨b, hbe⟩ : ∃ b : Nat, sd x n = b := ⟨(sd x n).toNat, by omega⟩
        have hb60 : b < 60 := by omega
        have hbn : ¬ (b : Int) = -1 := by omega
        have hv := V.fe hb60
        rw [if_neg h3, hbe, Int.toNat_natCast]
        refine ⟨Vi (b : Int), ?_⟩
        by_cases h4 : w (7 + 5 * b) = 1
        · have hhi := R.hi hb60 h4
          simp (disch := first | (simp (disch := omega) only [w32_id]; omega) | omega) only [↓BC c, hlt, c_onSide hx (show n < 4 by omega), hbe, hbn, R.th hb60, h4, hhi, w32_succ, e_clI, e_clV, e_clP, e_clIx, e_clVx, e_clPx, e_xt, Int.toNat_natCast, Int.reduceToNat, bz0, bz1, Nat.add_zero, decide_eq_false_iff_not, decide_eq_true_eq, Int.reduceEq, Nat.reduceEqDiff, Int.reduceLT, Int.reduceLE, not_true_eq_false, not_false_eq_true, eq_self, ↓reduceIte]
          rw [w32_id (by omega) (by omega)]
        · have h5 : w (7 + 5 * b) = 0 := by omega
          have h6 : w (7 + 5 * b + 2) = 0 := by omega
          simp (disch := first | (simp (disch := omega) only [w32_id]; omega) | omega) only [↓BC c, hlt, c_onSide hx (show n < 4 by omega), hbe, hbn, R.th hb60, h5, h6, w32_succ, Int.add_zero, e_clI, e_clV, e_clP, e_clIx, e_clVx, e_clPx, e_xt, Int.toNat_natCast, Int.reduceToNat, bz0, bz1, Nat.add_zero, decide_eq_false_iff_not, decide_eq_true_eq, Int.reduceEq, Nat.reduceEqDiff, Int.reduceLT, Int.reduceLE, not_true_eq_false, not_false_eq_true, eq_self, ↓reduceIte]
  obtain ⟨u, hu⟩ := go 4 (Nat.le_refl 4)
  rw [hu, q_X0_tower_5, if_neg (by omega)]
theorem m_towerOf (s : Sh h) (V : WW (I 284)) {f : Nat} (hf : f < 6) : Cl sc (d + 4) mX12_towerOf [Vr (some 283), Vi (f : Int)] (hI h I) = some (.inl (Vi (toS (I 284) (hmW (I 284) f) 4)), hI h I) := by
  have hv := V.fm hf
  obtain ⟨x, hh⟩ : ∃ hm : Nat, I 284 (307 + 4 * f) = hm := ⟨(I 284 (307 + 4 * f)).toNat, by omega⟩
  have hx : x < 36 := by omega
  have eh : hmW (I 284) f = x := by unfold hmW; rw [hh, Int.toNat_natCast]
  rw [eh, q_X12_towerOf_0]
  have go : ∀ n, n ≤ 4 → ∃ u, Ru sc (d + 4) mX12_towerOf 5 [Vr (some 283), Vi (f : Int), Vi 0, Vi 0, Vx 0] [] (hI h I) = Ru sc (d + 4) mX12_towerOf 5 [Vr (some 283), Vi (f : Int), Vi (toS (I 284) x n), Vi (n : Int), u] [] (hI h I) := by
    intro n
    induction n with
    | zero => exact fun _ => ⟨_, rfl⟩
    | succ n ih =>
      intro hn
      obtain ⟨u, hu⟩ := ih (by omega)
      have hlt : (n : Int) < 4 := by omega
      have hs := sd_lt x hx n (by omega)
      have hb := toS_b V hx (n := n) (by omega)
      have es : toS (I 284) x (n + 1) = toS (I 284) x n + (if sd x n = -1 then 0 else I 284 (7 + 5 * (sd x n).toNat + 2)) := rfl
      rw [hu, q_X12_towerOf_5, es]
      by_cases h3 : sd x n = -1
      · refine ⟨Vi (-1), ?_⟩
        simp (disch := first | (simp (disch := omega) only [w32_id]; omega) | omega) only [↓BM s, hlt, m_ofFamily s, hh, c_sideOf hx (show n < 4 by omega), h3, w32_succ, Int.add_zero, e_clI, e_clV, e_clP, e_clIx, e_clVx, e_clPx, e_xt, Int.toNat_natCast, Int.reduceToNat, bz0, bz1, Nat.add_zero, decide_eq_false_iff_not, decide_eq_true_eq, Int.reduceEq, Nat.reduceEqDiff, Int.reduceLT, Int.reduceLE, not_true_eq_false, not_false_eq_true, eq_self, ↓reduceIte]
        rw [w32_id (by omega) (by omega)]
      · obtain ⟨b, hbe⟩ : ∃ b : Nat, sd x n = b := ⟨(sd x n).toNat, by omega⟩
        have hb60 : b < 60 := by omega
        have hbn : ¬ (b : Int) = -1 := by omega
        have hv2 := V.fe hb60
        rw [if_neg h3, hbe, Int.toNat_natCast]
        refine ⟨Vi (b : Int), ?_⟩
        simp (disch := first | (simp (disch := omega) only [w32_id]; omega) | omega) only [↓BM s, hlt, m_ofFamily s, hh, c_sideOf hx (show n < 4 by omega), hbe, hbn, m_of s, w32_succ, e_clI, e_clV, e_clP, e_clIx, e_clVx, e_clPx, e_xt, Int.toNat_natCast, Int.reduceToNat, bz0, bz1, Nat.add_zero, decide_eq_false_iff_not, decide_eq_true_eq, Int.reduceEq, Nat.reduceEqDiff, Int.reduceLT, Int.reduceLE, not_true_eq_false, not_false_eq_true, eq_self, ↓reduceIte]
        rw [w32_id (by omega) (by omega)]
  obtain ⟨u, hu⟩ := go 4 (Nat.le_refl 4)
  rw [hu, q_X12_towerOf_5, if_neg (by omega)]
theorem hmW_e (V : WW w) {f : Nat} (hf : f < 6) : w (307 + 4 * f) = (hmW w f : Int) ∧ hmW w f < 36 := by
  have := V.fm hf
  unfold hmW
  omega
theorem c_nearest (c : Cty h a) (R : CRep I a w) (V : WW w) (h0 : 1 ≤ w 0) {x : Nat} (hx : x < 36) : Cl sc (d + 3) mX6_nearest [Vr (some a), Vi (x : Int)] (hI h I) = some (.inl (Vi (nrW w x : Nat)), hI h I) := by
  have hF := V.fa
  rw [q_X6_nearest_0]
  have go : ∀ n, n ≤ (w 0).toNat - 1 → Ru sc (d + 3) mX6_nearest 5 [Vr (some a), Vi (x : Int), Vi 0, Vi 1] [] (hI h I) = Ru sc (d + 3) mX6_nearest 5 [Vr (some a), Vi (x : Int), Vi (fo (nr w x) n 0 : Nat), Vi ((n + 1 : Nat) : Int)] [] (hI h I) := by
    intro n
    induction n with
    | zero => exact fun _ => rfl
    | succ n ih =>
      intro hn
      have hlt : ((n + 1 : Nat) : Int) < w 0 := by omega
      have hl := nr_lt (w := w) (c := x) (n := n)
      have e1 := hmW_e V (f := n + 1) (by omega)
      have e2 := hmW_e V (f := fo (nr w x) n 0) (by omega)
      have o1 := R.ho (f := n + 1) (by omega)
      have o2 := R.ho (f := fo (nr w x) n 0) (by omega)
      have es : fo (nr w x) (n + 1) 0 = nr w x n (fo (nr w x) n 0) := rfl
      rw [ih (by omega), q_X6_nearest_5, es]
      generalize fo (nr w x) n 0 = t at hl e2 o2
      unfold nr
      simp (disch := first | (simp (disch := omega) only [w32_id]; omega) | omega) only [↓BC c, R.fa, hlt, o1, e1.1, c_apart e1.2 hx, o2, e2.1, c_apart e2.2 hx, w32_succ, e_clI, e_clV, e_clP, e_clIx, e_clVx, e_clPx, e_xt, Int.toNat_natCast, Int.reduceToNat, bz0, bz1, Nat.add_zero, decide_eq_false_iff_not, decide_eq_true_eq, Int.reduceEq, Nat.reduceEqDiff, Int.reduceLT, Int.reduceLE, not_true_eq_false, not_false_eq_true, eq_self, ↓reduceIte]
      by_cases g : ap (hmW w (n + 1)) x < ap (hmW w t) x
      · rw [if_pos (by omega), if_pos g]
      · rw [if_neg (by omega), if_neg g]
  have hlt : ¬ ((((w 0).toNat - 1 + 1 : Nat)) : Int) < w 0 := by omega
  rw [go _ (Nat.le_refl _), q_X6_nearest_5]
  simp (disch := first | (simp (disch := omega) only [w32_id]; omega) | omega) only [↓BC c, R.fa, hlt, e_clI, e_clV, e_clP, e_clIx, e_clVx, e_clPx, e_xt, Int.toNat_natCast, Int.reduceToNat, bz0, bz1, Nat.add_zero, decide_eq_false_iff_not, decide_eq_true_eq, Int.reduceEq, Nat.reduceEqDiff, Int.reduceLT, Int.reduceLE, not_true_eq_false, not_false_eq_true, eq_self, ↓reduceIte]
  rfl
theorem m_nearest (s : Sh h) (V : WW (I 284)) (h0 : 1 ≤ I 284 0) {x : Nat} (hx : x < 36) : Cl sc (d + 3) mX12_nearestTo [Vr (some 283), Vi (x : Int)] (hI h I) = some (.inl (Vi (nrW (I 284) x : Nat)), hI h I) := by
  have hF := V.fa
  rw [q_X12_nearestTo_0]
  have go : ∀ n, n ≤ (I 284 0).toNat - 1 → Ru sc (d + 3) mX12_nearestTo 5 [Vr (some 283), Vi (x : Int), Vi 0, Vi 1] [] (hI h I) = Ru sc (d + 3) mX12_nearestTo 5 [Vr (some 283), Vi (x : Int), Vi (fo (nr (I 284) x) n 0 : Nat), Vi ((n + 1 : Nat) : Int)] [] (hI h I) := by
    intro n
    induction n with
    | zero => exact fun _ => rfl
    | succ n ih =>
      intro hn
      have hlt : ((n + 1 : Nat) : Int) < I 284 0 := by omega
      have hl := nr_lt (w := I 284) (c := x) (n := n)
      have e1 := hmW_e V (f := n + 1) (by omega)
      have e2 := hmW_e V (f := fo (nr (I 284) x) n 0) (by omega)
      have es : fo (nr (I 284) x) (n + 1) 0 = nr (I 284) x n (fo (nr (I 284) x) n 0) := rfl
      rw [ih (by omega), q_X12_nearestTo_5, es]
      generalize fo (nr (I 284) x) n 0 = t at hl e2
      unfold nr
      simp (disch := first | (simp (disch := omega) only [w32_id]; omega) | omega) only [↓BM s, m_families s, hlt, m_ofFamily s, e1.1, c_gap hx e1.2, e2.1, c_gap hx e2.2, w32_succ, e_clI, e_clV, e_clP, e_clIx, e_clVx, e_clPx, e_xt, Int.toNat_natCast, Int.reduceToNat, bz0, bz1, Nat.add_zero, decide_eq_false_iff_not, decide_eq_true_eq, Int.reduceEq, Nat.reduceEqDiff, Int.reduceLT, Int.reduceLE, not_true_eq_false, not_false_eq_true, eq_self, ↓reduceIte]
      rw [ap_sy x, ap_sy x]
      by_cases g : ap (hmW (I 284) (n + 1)) x < ap (hmW (I 284) t) x
      · rw [if_pos (by omega), if_pos g]
      · rw [if_neg (by omega), if_neg g]
  have hlt : ¬ ((((I 284 0).toNat - 1 + 1 : Nat)) : Int) < I 284 0 := by omega
  rw [go _ (Nat.le_refl _), q_X12_nearestTo_5]
  simp (disch := first | (simp (disch := omega) only [w32_id]; omega) | omega) only [↓BM s, m_families s, hlt, e_clI, e_clV, e_clP, e_clIx, e_clVx, e_clPx, e_xt, Int.toNat_natCast, Int.reduceToNat, bz0, bz1, Nat.add_zero, decide_eq_false_iff_not, decide_eq_true_eq, Int.reduceEq, Nat.reduceEqDiff, Int.reduceLT, Int.reduceLE, not_true_eq_false, not_false_eq_true, eq_self, ↓reduceIte]
  rfl
theorem c_share (s : Sh h) (c : Cty h a) (R : CRep I a w) (V : WW w) (h0 : 1 ≤ w 0) {f : Nat} : Cl sc (d + 4) mX6_share [Vr (some 124), Vr (some a), Vi (f : Int)] (hI h I) = some (.inl (Vi (nn (fun x => decide (nrW w x = f)) 36)), hI h I) := by
  have hr := sm_run (F := fun i z => Ru sc (d + 4) mX6_share 5 [Vr (some 124), Vr (some a), Vi (f : Int), Vi z, Vi (i : Int)] [] (hI h I)) (f := fun x => if decide (nrW w x = f) = true then 1 else 0) (N := 36) (fun i hi => by
    have hlt : (i : Int) < 36 := by omega
    have hb : 0 ≤ nn (fun x => decide (nrW w x = f)) i ∧ nn (fun x => decide (nrW w x = f)) i ≤ i := nn_b
    unfold nn at hb
    try dsimp only
    rw [q_X6_share_5]
    simp (disch := first | (simp (disch := omega) only [w32_id]; omega) | omega) only [hlt, c_nearest c R V h0 hi, w32_succ, e_clI, e_clV, e_clP, e_clIx, e_clVx, e_clPx, e_xt, Int.toNat_natCast, Int.reduceToNat, bz0, bz1, Nat.add_zero, decide_eq_false_iff_not, decide_eq_true_eq, Int.reduceEq, Nat.reduceEqDiff, Int.reduceLT, Int.reduceLE, not_true_eq_false, not_false_eq_true, eq_self, ↓reduceIte]
    simp only [decide_eq_true_eq] at hb
    by_cases g : nrW w i = f
    · rw [if_pos (by omega), if_pos g, w32_id (by omega) (by omega)]
    · rw [if_neg (by omega), if_neg g, w32_id (by omega) (by omega)])
  rw [q_X6_share_0]
  refine hr.trans ?_
  rw [q_X6_share_5, if_neg (by omega)]
  rfl
theorem m_shareOf (s : Sh h) (V : WW (I 284)) (h0 : 1 ≤ I 284 0) {f : Nat} : Cl sc (d + 4) mX12_shareOf [Vr (some 283), Vi (f : Int)] (hI h I) = some (.inl (Vi (nn (fun x => decide (nrW (I 284) x = f)) 36)), hI h I) := by
  have hr := sm_run (F := fun i z => Ru sc (d + 4) mX12_shareOf 5 [Vr (some 283), Vi (f : Int), Vi z, Vi (i : Int)] [] (hI h I)) (f := fun x => if decide (nrW (I 284) x = f) = true then 1 else 0) (N := 36) (fun i hi => by
    have hlt : (i : Int) < 36 := by omega
    have hb : 0 ≤ nn (fun x => decide (nrW (I 284) x = f)) i ∧ nn (fun x => decide (nrW (I 284) x = f)) i ≤ i := nn_b
    unfold nn at hb
    try dsimp only
    rw [q_X12_shareOf_5]
    simp (disch := first | (simp (disch := omega) only [w32_id]; omega) | omega) only [↓BM s, hlt, m_nearest s V h0 hi, w32_succ, e_clI, e_clV, e_clP, e_clIx, e_clVx, e_clPx, e_xt, Int.toNat_natCast, Int.reduceToNat, bz0, bz1, Nat.add_zero, decide_eq_false_iff_not, decide_eq_true_eq, Int.reduceEq, Nat.reduceEqDiff, Int.reduceLT, Int.reduceLE, not_true_eq_false, not_false_eq_true, eq_self, ↓reduceIte]
    simp only [decide_eq_true_eq] at hb
    by_cases g : nrW (I 284) i = f
    · rw [if_pos (by omega), if_pos g, w32_id (by omega) (by omega)]
    · rw [if_neg (by omega), if_neg g, w32_id (by omega) (by omega)])
  rw [q_X12_shareOf_0]
  refine hr.trans ?_
  rw [q_X12_shareOf_5, if_neg (by omega)]
  rfl
end
