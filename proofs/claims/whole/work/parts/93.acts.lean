/-! SMALL ACTS: a fence put up, a row of the log -/
def feW (w : am_Wd) (b : Nat) (ag hi ga st : Int) : am_Wd := up (up (up (up (up w (7 + 5 * b) 1) (7 + 5 * b + 1) ag) (7 + 5 * b + 2) hi) (7 + 5 * b + 3) ga) (7 + 5 * b + 4) st
def teW (w : am_Wd) (b k f hi : Int) : am_Wd := fun j => if j = 5 then min 60 (w 5 + 1) else if j = 331 then w 3 else if j = 332 then b else if j = 333 then k else if j = 334 then f else if j = 335 then hi else if 336 ≤ j ∧ j < 631 then w (j - 5) else w j
/-- what a county's act leaves -/
def Cg (a : Nat) (I J : am_I) : Prop := ∀ p, p < a ∨ a + 11 < p → ¬ (304 ≤ p ∧ (p - 304) % 6 = 5) → J p = I p
theorem Cg.rf (a : Nat) (I : am_I) : Cg a I I := fun _ _ _ => rfl
theorem Cg.tr {a : Nat} {I J K : am_I} (h1 : Cg a I J) (h2 : Cg a J K) : Cg a I K := fun p h h' => (h2 p h h').trans (h1 p h h')
theorem Cg.ls {a : Nat} {I J : am_I} (h : Ls I J) : Cg a I J := fun p _ h' => h p h'
def Mg (I J : am_I) : Prop := ∀ p, p ≠ 284 → p ≠ 291 → J p = I p
theorem Mg.rf (I : am_I) : Mg I I := fun _ _ _ => rfl
theorem Mg.tr {I J K : am_I} (h1 : Mg I J) (h2 : Mg J K) : Mg I K := fun p h h' => (h2 p h h').trans (h1 p h h')
theorem Mg.lv {I J : am_I} (h : Lv I J) : Mg I J := fun p _ h' => h p h'
/-- the law's part of a row stays -/
def T2 (w v : am_Wd) : Prop := v 2 = w 2 ∧ ∀ j, 631 ≤ j → v j = w j
theorem T2.rf (w : am_Wd) : T2 w w := ⟨rfl, fun _ _ => rfl⟩
theorem T2.tr {w v u : am_Wd} (h1 : T2 w v) (h2 : T2 v u) : T2 w u := ⟨h2.1.trans h1.1, fun j h => (h2.2 j h).trans (h1.2 j h)⟩
theorem T2.up {w v : am_Wd} {k : Nat} {x : Int} (h : T2 w v) (hk : k < 631) (h2 : k ≠ 2) : T2 w (up v k x) := ⟨(up_o (by omega)).trans h.1, fun j hj => (up_o (by omega)).trans (h.2 j hj)⟩
def St (h : am_H) (I : am_I) (a : Nat) (w : am_Wd) : Prop := CRep I a w ∧ WW w ∧ LR h I a w
def Mt (I : am_I) (w : am_Wd) : Prop := I 284 = w ∧ WW w ∧ ML w
theorem w32_addk {n : Nat} {k : Int} (hk : 0 ≤ k) (h : n + k.toNat < 2147483648) : w32 ((n : Int) + k) = ((n + k.toNat : Nat) : Int) := by rw [w32_id (by omega) (by omega)]; omega
theorem u2_o5 {I : am_I} {a p q j i : Nat} {v : Int} (hp : q ≠ p) : am_u2 I (a + p) j v (a + q) i = I (a + q) i := u2_a (by omega)
theorem u2_jj {I : am_I} {a j i : Nat} {v : Int} (hp : i ≠ j) : am_u2 I a j v a i = I a i := u2_j hp
section
variable {sc : Nat × (Nat → Int)} {d a b : Nat} {h : am_H} {I J : am_I} {w v : am_Wd}
theorem LR.cgo (M : LR h I a w) (ha : a < 290) (e : Cg a I J) : LR h J a w := by
  rcases M with R | ⟨R0, n, ln, cc, R1, R2, R3, R4, R5⟩
  · exact Or.inl R
  · refine Or.inr ⟨R0, n, ln, cc, R1, R2, R3, ?_, R5⟩
    unfold LC at R4 ⊢
    rw [e _ (by omega) (by omega), e (304 + 6 * n + 1) (by omega) (by omega), e (304 + 6 * n + 2) (by omega) (by omega), e (304 + 6 * n + 3) (by omega) (by omega), e (304 + 6 * n + 4) (by omega) (by omega)]
    exact R4
theorem St.go (S : St h I a w) (ha : a < 290) (e : Cg a I J) (R : CRep J a v) (V : WW v) (t : T2 w v) : St h J a v := ⟨R, V, (S.2.2.cgo ha e).cg t.1 t.2⟩
theorem Mt.go (S : Mt I w) (R : J 284 = v) (V : WW v) (t : T2 w v) : Mt J v := ⟨R, V, S.2.2.cg t.1 t.2⟩
theorem St.ls (S : St h I a w) (ha : a < 290) (e : Ls I J) : St h J a w := ⟨S.1.ls e ha, S.2.1, S.2.2.ls e⟩
theorem Mt.lv (S : Mt I w) (e : Lv I J) : Mt J w := ⟨e.w.trans S.1, S.2⟩
theorem feW_g {ag hi ga st : Int} {j : Nat} (hj : j < 7 + 5 * b ∨ 7 + 5 * b + 5 ≤ j) : feW w b ag hi ga st j = w j := by
  unfold feW
  rw [up_o (by omega), up_o (by omega), up_o (by omega), up_o (by omega), up_o (by omega)]
theorem feW_t {ag hi ga st : Int} (hb : b < 60) : T2 w (feW w b ag hi ga st) := ⟨feW_g (by omega), fun j hj => feW_g (by omega)⟩
theorem feW_v {ag hi ga st : Int} : feW w b ag hi ga st (7 + 5 * b) = 1 ∧ feW w b ag hi ga st (7 + 5 * b + 1) = ag ∧ feW w b ag hi ga st (7 + 5 * b + 2) = hi ∧ feW w b ag hi ga st (7 + 5 * b + 3) = ga ∧ feW w b ag hi ga st (7 + 5 * b + 4) = st := by
  simp [feW, up]
theorem feW_w {ag hi ga st : Int} (V : WW w) (hb : b < 60) (h1 : 0 ≤ ag ∧ ag ≤ 999) (h2 : 0 ≤ hi ∧ hi ≤ 999) (h3 : ga = 0 ∨ ga = 1) (h4 : st = 0 ∨ st = 1) : WW (feW w b ag hi ga st) := by
  obtain ⟨e0, e1, e2, e3, e4⟩ := feW_v (w := w) (b := b) (ag := ag) (hi := hi) (ga := ga) (st := st)
  refine V.chF (b := b) (fun j hj => feW_g hj) hb (Or.inr ?_)
  rw [e0, e1, e2, e3, e4]
  exact ⟨rfl, h1, h2, h3, h4⟩
theorem teW_w {x k f hi : Int} (V : WW w) : WW (teW w x k f hi) := by
  have h5 := V.ws.2.2.2.2.2.1
  refine WW.mk (fun y hy => WF.cg (V.1 y hy) (fun k hk => ?_)) (fun y hy => WM.cg (V.2.2.1 y hy) (fun k hk => ?_)) ?_
  · unfold teW
    rw [if_neg (by omega), if_neg (by omega), if_neg (by omega), if_neg (by omega), if_neg (by omega), if_neg (by omega), if_neg (by omega)]
  · unfold teW
    rw [if_neg (by omega), if_neg (by omega), if_neg (by omega), if_neg (by omega), if_neg (by omega), if_neg (by omega), if_neg (by omega)]
  · obtain ⟨g0, g1, g2, g3, g4, g5, g6⟩ := V.ws
    refine ⟨g0, g1, g2, g3, g4, ?_, g6⟩
    show 0 ≤ min 60 (w 5 + 1) ∧ min 60 (w 5 + 1) ≤ 60
    omega
theorem teW_t {x k f hi : Int} : T2 w (teW w x k f hi) := ⟨rfl, fun j hj => by
  unfold teW
  rw [if_neg (by omega), if_neg (by omega), if_neg (by omega), if_neg (by omega), if_neg (by omega), if_neg (by omega), if_neg (by omega)]⟩
theorem c_put (c : Cty h a) (R : CRep I a w) (V : WW w) (hb : b < 60) {hi : Int} : ∃ J, Cg a I J ∧ CRep J a (feW w b 0 hi 0 0) ∧ Cl sc (d + 1) mX0_put [Vr (some a), Vi (b : Int), Vi hi] (hI h I) = some (.inl (Vx 0), hI h J) := by
  rw [q_X0_put_0]
  simp (disch := first | (simp (disch := omega) only [w32_id]; omega) | omega) only [↓BC c, or_true, true_or, e_clI, e_clV, e_clP, e_clIx, e_clVx, e_clPx, e_xt, Int.toNat_natCast, Int.reduceToNat, bz0, bz1, Nat.add_zero, decide_eq_false_iff_not, decide_eq_true_eq, Int.reduceEq, Nat.reduceEqDiff, Int.reduceLT, Int.reduceLE, ↓reduceIte]
  refine ⟨_, ?_, ?_, rfl⟩
  · intro p hp _
    rw [u2_o (by omega), u2_o (by omega), u2_o (by omega), u2_o (by omega), u2_o (by omega)]
  · refine R.chF (b := b) V ?_ (fun k h1 h2 => ?_) (fun k x h1 h2 h3 => ?_) (fun j hj => feW_g hj) hb ?_
    · rw [u2_o (by omega), u2_o (by omega), u2_o (by omega), u2_o (by omega), u2_o (by omega)]
    · rw [u2_o (by omega), u2_o (by omega), u2_o (by omega), u2_o (by omega), u2_o (by omega)]
    · rw [u2_j h3, u2_j h3, u2_j h3, u2_j h3, u2_j h3]
    · obtain ⟨e0, e1, e2, e3, e4⟩ := feW_v (w := w) (b := b) (ag := 0) (hi := hi) (ga := 0) (st := 0)
      unfold FR
      rw [e0, e1, e2, e3, e4]
      simp [am_u2]
theorem m_isFence (s : Sh h) (hb : b < 60) {ag hi ga st : Int} : ∃ J, Mg I J ∧ J 284 = feW (I 284) b ag hi ga st ∧ Cl sc (d + 2) mX12_isFence [Vr (some 283), Vi (b : Int), Vi ag, Vi hi, Vi ga, Vi st] (hI h I) = some (.inl (Vx 0), hI h J) := by
  rw [q_X12_isFence_0]
  simp (disch := first | (simp (disch := omega) only [w32_id]; omega) | omega) only [↓BM s, m_at, e_clI, e_clV, e_clP, e_clIx, e_clVx, e_clPx, e_xt, Int.toNat_natCast, Int.reduceToNat, bz0, bz1, Nat.add_zero, decide_eq_false_iff_not, decide_eq_true_eq, Int.reduceEq, Nat.reduceEqDiff, Int.reduceLT, Int.reduceLE, ↓reduceIte]
  refine ⟨_, ?_, ?_, rfl⟩
  · intro p hp _
    rw [u2_o hp, u2_o hp, u2_o hp, u2_o hp, u2_o hp]
  · rw [u2_up, u2_up, u2_up, u2_up, u2_up]
    rfl
theorem Lg_add (R : LgRep I a w) (V : WW w) {x k f hi : Int} {n : Nat} (hn : I (a + 10) 1 = n) (e1 : J (a + 10) 1 = ((n + 1) % 60 : Nat)) (e2 : J (a + 10) 2 = min 60 (w 5 + 1)) (e : J (a + 11) = fun i => if i = n * 5 + 4 then hi else if i = n * 5 + 3 then f else if i = n * 5 + 2 then k else if i = n * 5 + 1 then x else if i = n * 5 then w 3 else I (a + 11) i) : LgRep J a (teW w x k f hi) := by
  obtain ⟨r1, r2, r3⟩ := R
  have h5 := V.ws.2.2.2.2.2.1
  rw [hn] at r2 r3
  rw [Int.toNat_natCast] at r3
  refine ⟨e2, by omega, fun r hr c hc => ?_⟩
  have hr2 : (r : Int) < min 60 (w 5 + 1) := hr
  rw [e1, Int.toNat_natCast, e]
  unfold teW
  by_cases h0 : r = 0
  · subst h0
    have hx : ((n + 1) % 60 + 59 - 0) % 60 = n := by omega
    rw [hx]
    have h9 : c = 0 ∨ c = 1 ∨ c = 2 ∨ c = 3 ∨ c = 4 := by omega
    rcases h9 with rfl | rfl | rfl | rfl | rfl
    all_goals simp
    all_goals omega
  · have hm : ((n + 1) % 60 + 59 - r) % 60 ≠ n := by omega
    have hm2 : ((n + 1) % 60 + 59 - r) % 60 = (n + 59 - (r - 1)) % 60 := by omega
    have := r3 (r - 1) (by omega) c hc
    dsimp only
    rw [if_neg (by omega), if_neg (by omega), if_neg (by omega), if_neg (by omega), if_neg (by omega), hm2, this, if_neg (by omega), if_neg (by omega), if_neg (by omega), if_neg (by omega), if_neg (by omega), if_neg (by omega), if_pos (by omega)]
    exact congrArg w (by omega)
theorem c_add (c : Cty h a) (R : CRep I a w) (V : WW w) {y x k f hi : Int} (hy : y = w 3) : ∃ J, Cg a I J ∧ CRep J a (teW w x k f hi) ∧ Cl sc (d + 2) mX5_add [Vr (some (a + 10)), Vi y, Vi x, Vi k, Vi f, Vi hi] (hI h I) = some (.inl (Vx 0), hI h J) := by
  obtain ⟨r1, r2, r3⟩ := R.lg
  have h5 := V.ws.2.2.2.2.2.1
  obtain ⟨n, hn⟩ : ∃ n : Nat, I (a + 10) 1 = n := ⟨(I (a + 10) 1).toNat, by omega⟩
  have hn60 : n < 60 := by omega
  have w5 : w32 ((n : Int) * 5) = ((n * 5 : Nat) : Int) := by rw [w32_id (by omega) (by omega)]; omega
  have t0 : (((n * 5 : Nat) : Int)).toNat = n * 5 := by omega
  subst hy
  have e60 : ((((n + 1 : Nat) : Int)).tmod 60) = (((n + 1) % 60 : Nat) : Int) := by rw [tm_e (by omega)]; omega
  rw [q_X5_add_0]
  simp (disch := first | (simp (disch := omega) only [w32_id]; omega) | omega) only [↓BC c, hn, w5, w32_addk, u2_o5, u2_same, u2_jj, e60, c_min, e_clI, e_clV, e_clP, e_clIx, e_clVx, e_clPx, e_xt, Int.toNat_natCast, Int.reduceToNat, bz0, bz1, Nat.add_zero, decide_eq_false_iff_not, decide_eq_true_eq, Int.reduceEq, Nat.reduceEqDiff, Int.reduceLT, Int.reduceLE, ↓reduceIte]
  refine ⟨_, ?_, ?_, rfl⟩
  · intro p hp _
    rw [u2_o (by omega), u2_o (by omega), u2_o (by omega), u2_o (by omega), u2_o (by omega), u2_o (by omega), u2_o (by omega)]
  · refine R.chL ?_ (fun k h1 h2 => ?_) (fun j h1 h2 => ?_) ?_
    · rw [u2_o (by omega), u2_o (by omega), u2_o (by omega), u2_o (by omega), u2_o (by omega), u2_o (by omega), u2_o (by omega)]
    · rw [u2_o (by omega), u2_o (by omega), u2_o (by omega), u2_o (by omega), u2_o (by omega), u2_o (by omega), u2_o (by omega)]
    · unfold teW
      rw [if_neg (by omega), if_neg (by omega), if_neg (by omega), if_neg (by omega), if_neg (by omega), if_neg (by omega), if_neg (by omega)]
    · refine Lg_add R.lg V hn ?_ ?_ ?_
      · rw [u2_j (by omega), u2_same]
      · rw [u2_same, r1, w32_id (by omega) (by omega)]
      · funext i
        rw [u2_o (by omega), u2_o (by omega)]
        unfold am_u2
        simp only [true_and]
end
