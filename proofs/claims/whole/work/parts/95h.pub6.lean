/-! PAIRS COUNTED BY BOTH -/
theorem sm_add {f g : Nat → Int} : ∀ {N : Nat}, sm (fun i => f i + g i) N = sm f N + sm g N
  | 0 => rfl
  | N + 1 => by
    show sm (fun i => f i + g i) N + (f N + g N) = sm f N + f N + (sm g N + g N)
    rw [sm_add (N := N)]
    omega
theorem sm_zero {f : Nat → Int} : ∀ {N : Nat}, (∀ i, i < N → f i = 0) → sm f N = 0
  | 0, _ => rfl
  | N + 1, h => by
    show sm f N + f N = 0
    rw [sm_zero (fun i hi => h i (by omega)), h N (Nat.lt_succ_self N)]
    rfl
def cs (e : Nat → Nat → Bool) (f n : Nat) : Int := sm (fun o => if f < o ∧ e f o = true then 1 else 0) n
def pcW (e : Nat → Nat → Bool) (F : Nat) : Int := sm (fun a => sm (fun b => if e a b = true then 1 else 0) a) F
theorem cs_pc {e : Nat → Nat → Bool} (hs : ∀ a b, e a b = e b a) : ∀ {N : Nat}, sm (fun f => cs e f N) N = pcW e N
  | 0 => rfl
  | N + 1 => by
    show sm (fun f => cs e f (N + 1)) N + cs e N (N + 1) = pcW e N + sm (fun b => if e N b = true then 1 else 0) N
    have h1 : cs e N (N + 1) = 0 := sm_zero (fun i hi => if_neg (fun x => by omega))
    have h2 : sm (fun f => cs e f (N + 1)) N = sm (fun f => cs e f N + (if e N f = true then 1 else 0)) N := sm_congr (fun i hi => by
      show cs e i N + (if i < N ∧ e i N = true then 1 else 0) = _
      rw [hs i N]
      by_cases h : e N i = true
      · rw [if_pos ⟨hi, h⟩, if_pos h]
      · rw [if_neg (fun x => h x.2), if_neg h])
    rw [h1, h2, sm_add, cs_pc hs]
    omega
theorem cs_b {e : Nat → Nat → Bool} {f n : Nat} : 0 ≤ cs e f n ∧ cs e f n ≤ n := by
  have h := sm_le (f := fun o => if f < o ∧ e f o = true then 1 else 0) (A := 0) (B := 1) (N := n) (fun i hi => by split <;> omega)
  unfold cs
  omega
theorem pc_in {e : Nat → Nat → Bool} {a n : Nat} : 0 ≤ sm (fun b => if e a b = true then 1 else 0) n ∧ sm (fun b => if e a b = true then 1 else 0) n ≤ n := by
  have h := sm_le (f := fun b => if e a b = true then 1 else 0) (A := 0) (B := 1) (N := n) (fun i hi => by split <;> omega)
  omega
theorem dblC {X0 : Nat → Int → am_V → am_R} {X1 : Nat → Nat → Int → am_R} {e : Nat → Nat → Bool} {F : Nat} (hF : F ≤ 6) (a1 : ∀ f t u, f < F → X0 f t u = X1 f (f + 1) t) (a2 : ∀ f o t, f < F → f < o → o < F → 0 ≤ t → t ≤ 100 → X1 f o t = X1 f (o + 1) (t + if e f o = true then 1 else 0)) (a3 : ∀ f t, f < F → ∃ u, X1 f F t = X0 (f + 1) t u) (u : am_V) : ∃ u', X0 0 0 u = X0 F (sm (fun f => cs e f F) F) u' := by
  have inn : ∀ f t, f < F → 0 ≤ t → t ≤ 36 → ∀ k, f + 1 + k ≤ F → X1 f (f + 1) t = X1 f (f + 1 + k) (t + cs e f (f + 1 + k)) := by
    intro f t hf ht0 ht1 k
    induction k with
    | zero =>
      intro _
      have h1 : cs e f (f + 1) = 0 := sm_zero (fun i hi => if_neg (fun x => by omega))
      rw [Nat.add_zero, h1, Int.add_zero]
    | succ k ih =>
      intro hk
      have hb := cs_b (e := e) (f := f) (n := f + 1 + k)
      rw [ih (by omega), a2 f (f + 1 + k) _ hf (by omega) (by omega) (by omega) (by omega)]
      have h2 : cs e f (f + 1 + (k + 1)) = cs e f (f + 1 + k) + if e f (f + 1 + k) = true then 1 else 0 := by
        show cs e f (f + 1 + k) + (if f < f + 1 + k ∧ e f (f + 1 + k) = true then 1 else 0) = _
        by_cases h : e f (f + 1 + k) = true
        · rw [if_pos ⟨by omega, h⟩, if_pos h]
        · rw [if_neg (fun x => h x.2), if_neg h]
      rw [h2, Int.add_assoc]
      rfl
  have go : ∀ n, n ≤ F → ∃ u', X0 0 0 u = X0 n (sm (fun f => cs e f F) n) u' := by
    intro n
    induction n with
    | zero => exact fun _ => ⟨u, rfl⟩
    | succ n ih =>
      intro hn
      obtain ⟨u1, h1⟩ := ih (by omega)
      have hb := sm_le (f := fun f => cs e f F) (A := 0) (B := 6) (N := n) (fun i hi => by
        have := cs_b (e := e) (f := i) (n := F)
        omega)
      have h2 := inn n (sm (fun f => cs e f F) n) (by omega) (by omega) (by omega) (F - n - 1) (by omega)
      rw [show n + 1 + (F - n - 1) = F by omega] at h2
      obtain ⟨u2, h3⟩ := a3 n (sm (fun f => cs e f F) n + cs e n F) (by omega)
      exact ⟨u2, by rw [h1, a1 n _ _ (by omega), h2, h3]; rfl⟩
  exact go F (Nat.le_refl F)
theorem dblM {X0 : Nat → Int → am_V → am_R} {X1 : Nat → Nat → Int → am_R} {e : Nat → Nat → Bool} {F : Nat} (hF : F ≤ 6) (a1 : ∀ f t u, f < F → X0 f t u = X1 f 0 t) (a2 : ∀ f o t, f < F → o < f → 0 ≤ t → t ≤ 100 → X1 f o t = X1 f (o + 1) (t + if e f o = true then 1 else 0)) (a3 : ∀ f t, f < F → ∃ u, X1 f f t = X0 (f + 1) t u) (u : am_V) : ∃ u', X0 0 0 u = X0 F (pcW e F) u' := by
  have inn : ∀ f t, f < F → 0 ≤ t → t ≤ 36 → ∀ k, k ≤ f → X1 f 0 t = X1 f k (t + sm (fun b => if e f b = true then 1 else 0) k) := by
    intro f t hf ht0 ht1 k
    induction k with
    | zero =>
      intro _
      rw [show sm (fun b => if e f b = true then 1 else 0) 0 = 0 from rfl, Int.add_zero]
    | succ k ih =>
      intro hk
      have hb := pc_in (e := e) (a := f) (n := k)
      rw [ih (by omega), a2 f k _ hf (by omega) (by omega) (by omega), Int.add_assoc]
      rfl
  have go : ∀ n, n ≤ F → ∃ u', X0 0 0 u = X0 n (pcW e n) u' := by
    intro n
    induction n with
    | zero => exact fun _ => ⟨u, rfl⟩
    | succ n ih =>
      intro hn
      obtain ⟨u1, h1⟩ := ih (by omega)
      have hb := sm_le (f := fun a => sm (fun b => if e a b = true then 1 else 0) a) (A := 0) (B := 6) (N := n) (fun i hi => by
        have := pc_in (e := e) (a := i) (n := i)
        omega)
      have hb2 : 0 ≤ pcW e n ∧ pcW e n ≤ 36 := by unfold pcW; omega
      have h2 := inn n (pcW e n) (by omega) hb2.1 hb2.2 n (Nat.le_refl n)
      obtain ⟨u2, h3⟩ := a3 n (pcW e n + sm (fun b => if e n b = true then 1 else 0) n) (by omega)
      exact ⟨u2, by rw [h1, a1 n _ _ (by omega), h2, h3]; rfl⟩
  exact go F (Nat.le_refl F)
def twE (w : am_Wd) (a b : Nat) : Bool := decide (w (307 + 4 * a + 1) = w (307 + 4 * b + 1) ∧ w (307 + 4 * a + 2) = w (307 + 4 * b + 2))
def waE (w : am_Wd) (a b : Nat) : Bool := seeW w a (w (307 + 4 * b)).toNat && seeW w b (w (307 + 4 * a)).toNat
theorem twE_s (w : am_Wd) (a b : Nat) : twE w a b = twE w b a := by
  unfold twE
  rw [Bool.eq_iff_iff, decide_eq_true_eq, decide_eq_true_eq]
  constructor <;> (intro h; exact ⟨h.1.symm, h.2.symm⟩)
theorem waE_s (w : am_Wd) (a b : Nat) : waE w a b = waE w b a := Bool.and_comm _ _
section
variable {sc : Nat × (Nat → Int)} {d a : Nat} {h : am_H} {I : am_I} {w : am_Wd}
theorem p_twins (r : Rel h I) : Pub h I (Cl sc (d + 30) mX11_twins [Vr (some 0)]) (Cl sc (d + 30) mX12_twins [Vr (some 283)]) cdA := by
  have R := r.R
  have V := r.V
  have hF := V.fa
  have hFn : (I 284 0).toNat ≤ 6 := by omega
  have hlt0 : ¬ (((I 284 0).toNat : Nat) : Int) < I 284 0 := by omega
  refine pubQ (x := 0) (v := pcW (twE (I 284)) (I 284 0).toNat) r (CO.ok ?_ (Same.rf I)) (fun h1 J1 r1 e1 => ?_) (fun _ => rfl)
  · obtain ⟨u', hu⟩ := dblC (X0 := fun f t u => Ru sc (d + 30) mX11_twins 5 [Vr (some 0), Vi t, Vi (f : Int), u] [] (hI h I)) (X1 := fun f o t => Ru sc (d + 30) mX11_twins 15 [Vr (some 0), Vi t, Vi (f : Int), Vi (o : Int)] [] (hI h I)) (e := twE (I 284)) hFn (fun f t u hf => by
      have hlt : (f : Int) < I 284 0 := by omega
      try dsimp only
      rw [q_X11_twins_5]
      simp (disch := first | (simp (disch := omega) only [w32_id]; omega) | omega) only [↓BO r.1, ↓BC r.c, R.fa, hlt, w32_succ, e_clI, e_clV, e_clP, e_clIx, e_clVx, e_clPx, e_xt, Int.toNat_natCast, Int.reduceToNat, bz0, bz1, Nat.add_zero, decide_eq_false_iff_not, decide_eq_true_eq, Int.reduceEq, Nat.reduceEqDiff, Int.reduceLT, Int.reduceLE, not_true_eq_false, not_false_eq_true, ↓reduceIte]) (fun f o t hf hfo ho ht0 ht1 => by
      have hlt : (o : Int) < I 284 0 := by omega
      have h1 := R.cl (f := f) (by omega)
      have h2 := R.cl (f := o) (by omega)
      have h3 := R.ey (f := f) (by omega)
      have h4 := R.ey (f := o) (by omega)
      try dsimp only
      unfold twE
      rw [q_X11_twins_15]
      simp (disch := first | (simp (disch := omega) only [w32_id]; omega) | omega) only [↓BO r.1, ↓BC r.c, R.fa, hlt, h1, h2, h3, h4, w32_succ, e_clI, e_clV, e_clP, e_clIx, e_clVx, e_clPx, e_xt, Int.toNat_natCast, Int.reduceToNat, bz0, bz1, Nat.add_zero, decide_eq_false_iff_not, decide_eq_true_eq, Int.reduceEq, Nat.reduceEqDiff, Int.reduceLT, Int.reduceLE, not_true_eq_false, not_false_eq_true, ↓reduceIte]
      have h9 : w32 (t + 1) = t + 1 := w32_id (by omega) (by omega)
      by_cases g1 : I 284 (307 + 4 * f + 1) = I 284 (307 + 4 * o + 1)
      · by_cases g2 : I 284 (307 + 4 * f + 2) = I 284 (307 + 4 * o + 2)
        · rw [if_pos g1, if_pos g2, if_pos ⟨g1, g2⟩, h9]
        · rw [if_pos g1, if_neg g2, if_neg (fun x => g2 x.2), Int.add_zero]
      · rw [if_neg g1, if_neg (fun x => g1 x.1), Int.add_zero]) (fun f t hf => ⟨Vi ((I 284 0).toNat : Int), by
      try dsimp only
      rw [q_X11_twins_15]
      simp (disch := first | (simp (disch := omega) only [w32_id]; omega) | omega) only [↓BO r.1, ↓BC r.c, R.fa, hlt0, w32_succ, e_clI, e_clV, e_clP, e_clIx, e_clVx, e_clPx, e_xt, Int.toNat_natCast, Int.reduceToNat, bz0, bz1, Nat.add_zero, decide_eq_false_iff_not, decide_eq_true_eq, Int.reduceEq, Nat.reduceEqDiff, Int.reduceLT, Int.reduceLE, not_true_eq_false, not_false_eq_true, ↓reduceIte]⟩) (Vx 0)
    rw [q_X11_twins_0]
    refine hu.trans ?_
    rw [cs_pc (twE_s _)]
    try dsimp only
    rw [q_X11_twins_5]
    simp (disch := first | (simp (disch := omega) only [w32_id]; omega) | omega) only [↓BO r.1, ↓BC r.c, R.fa, hlt0, e_clI, e_clV, e_clP, e_clIx, e_clVx, e_clPx, e_xt, Int.toNat_natCast, Int.reduceToNat, bz0, bz1, Nat.add_zero, decide_eq_false_iff_not, decide_eq_true_eq, Int.reduceEq, Nat.reduceEqDiff, Int.reduceLT, Int.reduceLE, not_true_eq_false, not_false_eq_true, ↓reduceIte]
  · refine MO.ok0 ?_
    obtain ⟨u', hu⟩ := dblM (X0 := fun f t u => Ru sc (d + 30) mX12_twins 8 [Vr (some 283), Vi t, Vi (f : Int), u] [] (hI h1 (am_u2 J1 283 0 0))) (X1 := fun f o t => Ru sc (d + 30) mX12_twins 15 [Vr (some 283), Vi t, Vi (f : Int), Vi (o : Int)] [] (hI h1 (am_u2 J1 283 0 0))) (e := twE (I 284)) hFn (fun f t u hf => by
      have hlt : (f : Int) < I 284 0 := by omega
      try dsimp only
      rw [q_X12_twins_8]
      simp (disch := first | (simp (disch := omega) only [w32_id]; omega) | omega) only [↓BM r1.1, m_families r1.1, w283, e1.w, hlt, e_clI, e_clV, e_clP, e_clIx, e_clVx, e_clPx, e_xt, Int.toNat_natCast, Int.reduceToNat, bz0, bz1, Nat.add_zero, decide_eq_false_iff_not, decide_eq_true_eq, Int.reduceEq, Nat.reduceEqDiff, Int.reduceLT, Int.reduceLE, not_true_eq_false, not_false_eq_true, ↓reduceIte]
      rfl) (fun f o t hf hfo ht0 ht1 => by
      have hlt : (o : Int) < (f : Int) := by omega
      try dsimp only
      unfold twE
      rw [q_X12_twins_15]
      simp (disch := first | (simp (disch := omega) only [w32_id]; omega) | omega) only [↓BM r1.1, m_ofFamily r1.1, w283, e1.w, hlt, w32_succ, e_clI, e_clV, e_clP, e_clIx, e_clVx, e_clPx, e_xt, Int.toNat_natCast, Int.reduceToNat, bz0, bz1, Nat.add_zero, decide_eq_false_iff_not, decide_eq_true_eq, Int.reduceEq, Nat.reduceEqDiff, Int.reduceLT, Int.reduceLE, not_true_eq_false, not_false_eq_true, ↓reduceIte]
      have h9 : w32 (t + 1) = t + 1 := w32_id (by omega) (by omega)
      have h8 : w32 t = t := w32_id (by omega) (by omega)
      by_cases g1 : I 284 (307 + 4 * f + 1) = I 284 (307 + 4 * o + 1)
      · by_cases g2 : I 284 (307 + 4 * f + 2) = I 284 (307 + 4 * o + 2)
        · rw [if_pos g1, if_pos g2, if_pos ⟨g1, g2⟩, h9]
        · rw [if_pos g1, if_neg g2, if_neg (fun x => g2 x.2), Int.add_zero, h8]
      · rw [if_neg g1, if_neg (fun x => g1 x.1), Int.add_zero, h8]) (fun f t hf => ⟨Vi (f : Int), by
      try dsimp only
      rw [q_X12_twins_15, if_neg (Int.lt_irrefl _), w32_succ (by omega)]⟩) (Vx 0)
    rw [q_X12_twins_0]
    simp (disch := first | (simp (disch := omega) only [w32_id]; omega) | omega) only [↓BM r1.1, e_clI, e_clV, e_clP, e_clIx, e_clVx, e_clPx, e_xt, Int.toNat_natCast, Int.reduceToNat, bz0, bz1, Nat.add_zero, decide_eq_false_iff_not, decide_eq_true_eq, Int.reduceEq, Nat.reduceEqDiff, Int.reduceLT, Int.reduceLE, not_true_eq_false, not_false_eq_true, ↓reduceIte]
    refine hu.trans ?_
    try dsimp only
    rw [q_X12_twins_8]
    simp (disch := first | (simp (disch := omega) only [w32_id]; omega) | omega) only [↓BM r1.1, m_families r1.1, w283, e1.w, hlt0, e_clI, e_clV, e_clP, e_clIx, e_clVx, e_clPx, e_xt, Int.toNat_natCast, Int.reduceToNat, bz0, bz1, Nat.add_zero, decide_eq_false_iff_not, decide_eq_true_eq, Int.reduceEq, Nat.reduceEqDiff, Int.reduceLT, Int.reduceLE, not_true_eq_false, not_false_eq_true, ↓reduceIte]
theorem p_waves (r : Rel h I) : Pub h I (Cl sc (d + 30) mX11_waves [Vr (some 0)]) (Cl sc (d + 30) mX12_waves [Vr (some 283)]) cdA := by
  have R := r.R
  have V := r.V
  have hF := V.fa
  have hFn : (I 284 0).toNat ≤ 6 := by omega
  have hlt0 : ¬ (((I 284 0).toNat : Nat) : Int) < I 284 0 := by omega
  have hhm : ∀ f, f < 6 → ∃ z : Nat, I 284 (307 + 4 * f) = z ∧ z < 36 := fun f hf => by
    have := V.fm hf
    exact ⟨(I 284 (307 + 4 * f)).toNat, by omega, by omega⟩
  refine pubQ (x := 0) (v := pcW (waE (I 284)) (I 284 0).toNat) r (CO.ok ?_ (Same.rf I)) (fun h1 J1 r1 e1 => ?_) (fun _ => rfl)
  · obtain ⟨u', hu⟩ := dblC (X0 := fun f t u => Ru sc (d + 30) mX11_waves 5 [Vr (some 0), Vi t, Vi (f : Int), u] [] (hI h I)) (X1 := fun f o t => Ru sc (d + 30) mX11_waves 15 [Vr (some 0), Vi t, Vi (f : Int), Vi (o : Int)] [] (hI h I)) (e := waE (I 284)) hFn (fun f t u hf => by
      have hlt : (f : Int) < I 284 0 := by omega
      try dsimp only
      rw [q_X11_waves_5]
      simp (disch := first | (simp (disch := omega) only [w32_id]; omega) | omega) only [↓BO r.1, ↓BC r.c, R.fa, hlt, w32_succ, e_clI, e_clV, e_clP, e_clIx, e_clVx, e_clPx, e_xt, Int.toNat_natCast, Int.reduceToNat, bz0, bz1, Nat.add_zero, decide_eq_false_iff_not, decide_eq_true_eq, Int.reduceEq, Nat.reduceEqDiff, Int.reduceLT, Int.reduceLE, not_true_eq_false, not_false_eq_true, ↓reduceIte]) (fun f o t hf hfo ho ht0 ht1 => by
      have hlt : (o : Int) < I 284 0 := by omega
      have h1 := R.ho (f := f) (by omega)
      have h2 := R.ho (f := o) (by omega)
      obtain ⟨z1, k1, l1⟩ := hhm f (by omega)
      obtain ⟨z2, k2, l2⟩ := hhm o (by omega)
      have b1 := c_doesSee (sc := sc) (d := d + 26) r.1 r.c R V (f := f) (cell := z2) (by omega) l2
      have b2 := c_doesSee (sc := sc) (d := d + 26) r.1 r.c R V (f := o) (cell := z1) (by omega) l1
      try dsimp only
      unfold waE
      rw [q_X11_waves_15]
      simp (disch := first | (simp (disch := omega) only [w32_id]; omega) | omega) only [↓BO r.1, ↓BC r.c, ↓BN r.1, R.fa, hlt, h1, h2, k1, k2, b1, b2, w32_succ, e_clI, e_clV, e_clP, e_clIx, e_clVx, e_clPx, e_xt, Int.toNat_natCast, Int.reduceToNat, bz0, bz1, Nat.add_zero, decide_eq_false_iff_not, decide_eq_true_eq, Int.reduceEq, Nat.reduceEqDiff, Int.reduceLT, Int.reduceLE, not_true_eq_false, not_false_eq_true, ↓reduceIte]
      have h9 : w32 (t + 1) = t + 1 := w32_id (by omega) (by omega)
      cases seeW (I 284) f z2
      · simp
      · cases seeW (I 284) o z1
        · simp
        · simp [h9]) (fun f t hf => ⟨Vi ((I 284 0).toNat : Int), by
      try dsimp only
      rw [q_X11_waves_15]
      simp (disch := first | (simp (disch := omega) only [w32_id]; omega) | omega) only [↓BO r.1, ↓BC r.c, R.fa, hlt0, w32_succ, e_clI, e_clV, e_clP, e_clIx, e_clVx, e_clPx, e_xt, Int.toNat_natCast, Int.reduceToNat, bz0, bz1, Nat.add_zero, decide_eq_false_iff_not, decide_eq_true_eq, Int.reduceEq, Nat.reduceEqDiff, Int.reduceLT, Int.reduceLE, not_true_eq_false, not_false_eq_true, ↓reduceIte]⟩) (Vx 0)
    rw [q_X11_waves_0]
    refine hu.trans ?_
    rw [cs_pc (waE_s _)]
    try dsimp only
    rw [q_X11_waves_5]
    simp (disch := first | (simp (disch := omega) only [w32_id]; omega) | omega) only [↓BO r.1, ↓BC r.c, R.fa, hlt0, e_clI, e_clV, e_clP, e_clIx, e_clVx, e_clPx, e_xt, Int.toNat_natCast, Int.reduceToNat, bz0, bz1, Nat.add_zero, decide_eq_false_iff_not, decide_eq_true_eq, Int.reduceEq, Nat.reduceEqDiff, Int.reduceLT, Int.reduceLE, not_true_eq_false, not_false_eq_true, ↓reduceIte]
  · refine MO.ok0 ?_
    have V2 : WW (am_u2 J1 283 0 0 284) := by rw [w283, e1.w]; exact V
    obtain ⟨u', hu⟩ := dblM (X0 := fun f t u => Ru sc (d + 30) mX12_waves 8 [Vr (some 283), Vi t, Vi (f : Int), u] [] (hI h1 (am_u2 J1 283 0 0))) (X1 := fun f o t => Ru sc (d + 30) mX12_waves 15 [Vr (some 283), Vi t, Vi (f : Int), Vi (o : Int)] [] (hI h1 (am_u2 J1 283 0 0))) (e := waE (I 284)) hFn (fun f t u hf => by
      have hlt : (f : Int) < I 284 0 := by omega
      try dsimp only
      rw [q_X12_waves_8]
      simp (disch := first | (simp (disch := omega) only [w32_id]; omega) | omega) only [↓BM r1.1, m_families r1.1, w283, e1.w, hlt, e_clI, e_clV, e_clP, e_clIx, e_clVx, e_clPx, e_xt, Int.toNat_natCast, Int.reduceToNat, bz0, bz1, Nat.add_zero, decide_eq_false_iff_not, decide_eq_true_eq, Int.reduceEq, Nat.reduceEqDiff, Int.reduceLT, Int.reduceLE, not_true_eq_false, not_false_eq_true, ↓reduceIte]
      rfl) (fun f o t hf hfo ht0 ht1 => by
      have hlt : (o : Int) < (f : Int) := by omega
      obtain ⟨z1, k1, l1⟩ := hhm f (by omega)
      obtain ⟨z2, k2, l2⟩ := hhm o (by omega)
      have b1 := m_seesCell (sc := sc) (d := d + 24) r1.1 V2 (f := f) (cell := z2) (by omega) l2
      have b2 := m_seesCell (sc := sc) (d := d + 24) r1.1 V2 (f := o) (cell := z1) (by omega) l1
      rw [w283, e1.w] at b1 b2
      try dsimp only
      unfold waE
      rw [q_X12_waves_15]
      simp (disch := first | (simp (disch := omega) only [w32_id]; omega) | omega) only [↓BM r1.1, m_ofFamily r1.1, w283, e1.w, hlt, k1, k2, b1, b2, w32_succ, e_clI, e_clV, e_clP, e_clIx, e_clVx, e_clPx, e_xt, Int.toNat_natCast, Int.reduceToNat, bz0, bz1, Nat.add_zero, decide_eq_false_iff_not, decide_eq_true_eq, Int.reduceEq, Nat.reduceEqDiff, Int.reduceLT, Int.reduceLE, not_true_eq_false, not_false_eq_true, ↓reduceIte]
      have h9 : w32 (t + 1) = t + 1 := w32_id (by omega) (by omega)
      have h8 : w32 t = t := w32_id (by omega) (by omega)
      cases seeW (I 284) f z2
      · simp [h8]
      · cases seeW (I 284) o z1
        · simp [h8]
        · simp [h9]) (fun f t hf => ⟨Vi (f : Int), by
      try dsimp only
      rw [q_X12_waves_15, if_neg (Int.lt_irrefl _), w32_succ (by omega)]⟩) (Vx 0)
    rw [q_X12_waves_0]
    simp (disch := first | (simp (disch := omega) only [w32_id]; omega) | omega) only [↓BM r1.1, e_clI, e_clV, e_clP, e_clIx, e_clVx, e_clPx, e_xt, Int.toNat_natCast, Int.reduceToNat, bz0, bz1, Nat.add_zero, decide_eq_false_iff_not, decide_eq_true_eq, Int.reduceEq, Nat.reduceEqDiff, Int.reduceLT, Int.reduceLE, not_true_eq_false, not_false_eq_true, ↓reduceIte]
    refine hu.trans ?_
    try dsimp only
    rw [q_X12_waves_8]
    simp (disch := first | (simp (disch := omega) only [w32_id]; omega) | omega) only [↓BM r1.1, m_families r1.1, w283, e1.w, hlt0, e_clI, e_clV, e_clP, e_clIx, e_clVx, e_clPx, e_xt, Int.toNat_natCast, Int.reduceToNat, bz0, bz1, Nat.add_zero, decide_eq_false_iff_not, decide_eq_true_eq, Int.reduceEq, Nat.reduceEqDiff, Int.reduceLT, Int.reduceLE, not_true_eq_false, not_false_eq_true, ↓reduceIte]
end
