/-! ROWS OF THE REFERENCE, CHANGED AT A PLACE -/
def up (w : am_Wd) (k : Nat) (v : Int) : am_Wd := fun j => if j = k then v else w j
theorem up_s {w : am_Wd} {k : Nat} {v : Int} : up w k v k = v := if_pos rfl
theorem up_o {w : am_Wd} {k j : Nat} {v : Int} (h : j ≠ k) : up w k v j = w j := if_neg h
theorem u2_up {I : am_I} {a k : Nat} {v : Int} : am_u2 I a k v a = up (I a) k v := by
  funext j
  unfold am_u2 up
  by_cases h : j = k
  · rw [if_pos ⟨rfl, h⟩, if_pos h]
  · rw [if_neg (fun x => h x.2), if_neg h]
def FR (I : am_I) (a : Nat) (w : am_Wd) (b : Nat) : Prop := I (a + 1) b = w (7 + 5 * b) ∧ (w (7 + 5 * b) = 1 → I (a + 2) b = w (7 + 5 * b + 1) ∧ I (a + 3) b = w (7 + 5 * b + 2) ∧ I (a + 4) b = w (7 + 5 * b + 3) ∧ I (a + 5) b = w (7 + 5 * b + 4))
def MR (I : am_I) (a : Nat) (w : am_Wd) (f : Nat) : Prop := I (a + 6) f = w (307 + 4 * f) ∧ I (a + 7) f = w (307 + 4 * f + 1) ∧ I (a + 8) f = w (307 + 4 * f + 2) ∧ I (a + 9) f = w (307 + 4 * f + 3)
def SR (I : am_I) (a : Nat) (w : am_Wd) : Prop := I a 5 = w 0 ∧ I a 10 = w 3 ∧ I a 11 = w 4 ∧ I a 12 = w 6 ∧ I a 13 = w 1
theorem CRep.mk {I : am_I} {a : Nat} {w : am_Wd} (h1 : ∀ b, b < 60 → FR I a w b) (h2 : ∀ f, f < 6 → MR I a w f) (h3 : SR I a w) (h4 : LgRep I a w) : CRep I a w := ⟨h1, h3.1, h2, h3.2.1, h3.2.2.1, h3.2.2.2.1, h3.2.2.2.2, h4⟩
theorem CRep.sr {I : am_I} {a : Nat} {w : am_Wd} (R : CRep I a w) : SR I a w := ⟨R.fa, R.ye, R.qu, R.se, R.te⟩
theorem FR.cg {I J : am_I} {a b : Nat} {w v : am_Wd} (R : FR I a w b) (e : ∀ k, 1 ≤ k → k ≤ 5 → J (a + k) b = I (a + k) b) (g : ∀ k, k < 5 → v (7 + 5 * b + k) = w (7 + 5 * b + k)) : FR J a v b := by
  have g0 : v (7 + 5 * b) = w (7 + 5 * b) := g 0 (by omega)
  unfold FR
  rw [e 1 (by omega) (by omega), e 2 (by omega) (by omega), e 3 (by omega) (by omega), e 4 (by omega) (by omega), e 5 (by omega) (by omega), g0, g 1 (by omega), g 2 (by omega), g 3 (by omega), g 4 (by omega)]
  exact R
theorem MR.cg {I J : am_I} {a f : Nat} {w v : am_Wd} (R : MR I a w f) (e : ∀ k, 6 ≤ k → k ≤ 9 → J (a + k) f = I (a + k) f) (g : ∀ k, k < 4 → v (307 + 4 * f + k) = w (307 + 4 * f + k)) : MR J a v f := by
  have g0 : v (307 + 4 * f) = w (307 + 4 * f) := g 0 (by omega)
  unfold MR
  rw [e 6 (by omega) (by omega), e 7 (by omega) (by omega), e 8 (by omega) (by omega), e 9 (by omega) (by omega), g0, g 1 (by omega), g 2 (by omega), g 3 (by omega)]
  exact R
theorem SR.cg {I J : am_I} {a : Nat} {w v : am_Wd} (R : SR I a w) (e : J a = I a) (g : ∀ k, k < 7 → k ≠ 2 → k ≠ 5 → v k = w k) : SR J a v := by
  unfold SR
  rw [e, g 0 (by omega) (by omega) (by omega), g 1 (by omega) (by omega) (by omega), g 3 (by omega) (by omega) (by omega), g 4 (by omega) (by omega) (by omega), g 6 (by omega) (by omega) (by omega)]
  exact R
theorem LgRep.cg {I J : am_I} {a : Nat} {w v : am_Wd} (R : LgRep I a w) (e : J (a + 10) = I (a + 10)) (e1 : J (a + 11) = I (a + 11)) (g : v 5 = w 5) (g1 : ∀ k, 331 ≤ k → k < 631 → v k = w k) (hw : w 5 ≤ 60) : LgRep J a v := by
  unfold LgRep at R ⊢
  rw [e, e1, g]
  refine ⟨R.1, R.2.1, fun k hk c hc => ?_⟩
  rw [g1 _ (by omega) (by omega)]
  exact R.2.2 k hk c hc
/-- one fence differs -/
theorem CRep.chF {I J : am_I} {a b : Nat} {w v : am_Wd} (R : CRep I a w) (V : WW w) (e0 : J a = I a) (e1 : ∀ k, 6 ≤ k → k < 12 → J (a + k) = I (a + k)) (e2 : ∀ k x, 1 ≤ k → k ≤ 5 → x ≠ b → J (a + k) x = I (a + k) x) (g : ∀ j, j < 7 + 5 * b ∨ 7 + 5 * b + 5 ≤ j → v j = w j) (hb : b < 60) (n : FR J a v b) : CRep J a v := by
  refine CRep.mk (fun x hx => ?_) (fun f hf => ?_) ?_ ?_
  · by_cases h : x = b
    · subst h
      exact n
    · exact FR.cg (R.1 x hx) (fun k h1 h2 => e2 k x h1 h2 h) (fun k hk => g _ (by omega))
  · exact MR.cg (R.2.2.1 f hf) (fun k h1 h2 => by rw [e1 k h1 (by omega)]) (fun k hk => g _ (by omega))
  · exact SR.cg R.sr e0 (fun k h1 _ _ => g _ (by omega))
  · exact LgRep.cg R.lg (e1 10 (by omega) (by omega)) (e1 11 (by omega) (by omega)) (g _ (by omega)) (fun k h1 h2 => g _ (by omega)) V.2.2.2.2.2.2.2.1.2
/-- one family differs -/
theorem CRep.chM {I J : am_I} {a f : Nat} {w v : am_Wd} (R : CRep I a w) (V : WW w) (e0 : J a = I a) (e1 : ∀ k, 1 ≤ k → k < 12 → k < 6 ∨ 9 < k → J (a + k) = I (a + k)) (e2 : ∀ k x, 6 ≤ k → k ≤ 9 → x ≠ f → J (a + k) x = I (a + k) x) (g : ∀ j, j < 307 + 4 * f ∨ 307 + 4 * f + 4 ≤ j → v j = w j) (hf : f < 6) (n : MR J a v f) : CRep J a v := by
  refine CRep.mk (fun x hx => ?_) (fun x hx => ?_) ?_ ?_
  · exact FR.cg (R.1 x hx) (fun k h1 h2 => by rw [e1 k h1 (by omega) (by omega)]) (fun k hk => g _ (by omega))
  · by_cases h : x = f
    · subst h
      exact n
    · exact MR.cg (R.2.2.1 x hx) (fun k h1 h2 => e2 k x h1 h2 h) (fun k hk => g _ (by omega))
  · exact SR.cg R.sr e0 (fun k h1 _ _ => g _ (by omega))
  · exact LgRep.cg R.lg (e1 10 (by omega) (by omega) (by omega)) (e1 11 (by omega) (by omega) (by omega)) (g _ (by omega)) (fun k h1 h2 => g _ (by omega)) V.2.2.2.2.2.2.2.1.2
/-- single numbers differ -/
theorem CRep.chS {I J : am_I} {a : Nat} {w v : am_Wd} (R : CRep I a w) (V : WW w) (e1 : ∀ k, 1 ≤ k → k < 12 → J (a + k) = I (a + k)) (g : ∀ j, 7 ≤ j ∨ j = 5 → v j = w j) (n : SR J a v) : CRep J a v := by
  refine CRep.mk (fun x hx => ?_) (fun x hx => ?_) n ?_
  · exact FR.cg (R.1 x hx) (fun k h1 h2 => by rw [e1 k h1 (by omega)]) (fun k hk => g _ (by omega))
  · exact MR.cg (R.2.2.1 x hx) (fun k h1 h2 => by rw [e1 k (by omega) (by omega)]) (fun k hk => g _ (by omega))
  · exact LgRep.cg R.lg (e1 10 (by omega) (by omega)) (e1 11 (by omega) (by omega)) (g _ (by omega)) (fun k h1 h2 => g _ (by omega)) V.2.2.2.2.2.2.2.1.2
/-- the log differs -/
theorem CRep.chL {I J : am_I} {a : Nat} {w v : am_Wd} (R : CRep I a w) (e0 : J a = I a) (e1 : ∀ k, 1 ≤ k → k < 10 → J (a + k) = I (a + k)) (g : ∀ j, j < 331 → j ≠ 5 → v j = w j) (n : LgRep J a v) : CRep J a v := by
  refine CRep.mk (fun x hx => ?_) (fun x hx => ?_) ?_ n
  · exact FR.cg (R.1 x hx) (fun k h1 h2 => by rw [e1 k h1 (by omega)]) (fun k hk => g _ (by omega) (by omega))
  · exact MR.cg (R.2.2.1 x hx) (fun k h1 h2 => by rw [e1 k (by omega) (by omega)]) (fun k hk => g _ (by omega) (by omega))
  · exact SR.cg R.sr e0 (fun k h1 _ h5 => g _ (by omega) h5)
def WF (w : am_Wd) (b : Nat) : Prop := (w (7 + 5 * b) = 0 ∧ w (7 + 5 * b + 1) = 0 ∧ w (7 + 5 * b + 2) = 0 ∧ w (7 + 5 * b + 3) = 0 ∧ w (7 + 5 * b + 4) = 0) ∨ (w (7 + 5 * b) = 1 ∧ (0 ≤ w (7 + 5 * b + 1) ∧ w (7 + 5 * b + 1) ≤ 999) ∧ (0 ≤ w (7 + 5 * b + 2) ∧ w (7 + 5 * b + 2) ≤ 999) ∧ (w (7 + 5 * b + 3) = 0 ∨ w (7 + 5 * b + 3) = 1) ∧ (w (7 + 5 * b + 4) = 0 ∨ w (7 + 5 * b + 4) = 1))
def WM (w : am_Wd) (f : Nat) : Prop := (0 ≤ w (307 + 4 * f) ∧ w (307 + 4 * f) < 36) ∧ (0 ≤ w (307 + 4 * f + 1) ∧ w (307 + 4 * f + 1) ≤ 999) ∧ (0 ≤ w (307 + 4 * f + 2) ∧ w (307 + 4 * f + 2) ≤ 999) ∧ (0 ≤ w (307 + 4 * f + 3) ∧ w (307 + 4 * f + 3) ≤ 99)
def WS (w : am_Wd) : Prop := (0 ≤ w 0 ∧ w 0 ≤ 6) ∧ (0 ≤ w 1 ∧ w 1 ≤ 12) ∧ (w 2 = 0 ∨ w 2 = 1) ∧ (0 ≤ w 3 ∧ w 3 ≤ 9999) ∧ (0 ≤ w 4 ∧ w 4 ≤ 100) ∧ (0 ≤ w 5 ∧ w 5 ≤ 60) ∧ i32 (w 6)
theorem WW.mk {w : am_Wd} (h1 : ∀ b, b < 60 → WF w b) (h2 : ∀ f, f < 6 → WM w f) (h3 : WS w) : WW w := ⟨h1, h3.1, h2, h3.2⟩
theorem WW.ws {w : am_Wd} (V : WW w) : WS w := ⟨V.2.1, V.2.2.2⟩
theorem WF.cg {w v : am_Wd} {b : Nat} (V : WF w b) (g : ∀ k, k < 5 → v (7 + 5 * b + k) = w (7 + 5 * b + k)) : WF v b := by
  have g0 : v (7 + 5 * b) = w (7 + 5 * b) := g 0 (by omega)
  unfold WF
  rw [g0, g 1 (by omega), g 2 (by omega), g 3 (by omega), g 4 (by omega)]
  exact V
theorem WM.cg {w v : am_Wd} {f : Nat} (V : WM w f) (g : ∀ k, k < 4 → v (307 + 4 * f + k) = w (307 + 4 * f + k)) : WM v f := by
  have g0 : v (307 + 4 * f) = w (307 + 4 * f) := g 0 (by omega)
  unfold WM
  rw [g0, g 1 (by omega), g 2 (by omega), g 3 (by omega)]
  exact V
theorem WS.cg {w v : am_Wd} (V : WS w) (g : ∀ k, k < 7 → v k = w k) : WS v := by
  unfold WS
  rw [g 0 (by omega), g 1 (by omega), g 2 (by omega), g 3 (by omega), g 4 (by omega), g 5 (by omega), g 6 (by omega)]
  exact V
theorem WW.chF {w v : am_Wd} {b : Nat} (V : WW w) (g : ∀ j, j < 7 + 5 * b ∨ 7 + 5 * b + 5 ≤ j → v j = w j) (hb : b < 60) (n : WF v b) : WW v := by
  refine WW.mk (fun x hx => ?_) (fun f hf => ?_) ?_
  · by_cases h : x = b
    · subst h
      exact n
    · exact WF.cg (V.1 x hx) (fun k hk => g _ (by omega))
  · exact WM.cg (V.2.2.1 f hf) (fun k hk => g _ (by omega))
  · exact WS.cg V.ws (fun k hk => g _ (by omega))
theorem WW.chM {w v : am_Wd} {f : Nat} (V : WW w) (g : ∀ j, j < 307 + 4 * f ∨ 307 + 4 * f + 4 ≤ j → v j = w j) (hf : f < 6) (n : WM v f) : WW v := by
  refine WW.mk (fun x hx => ?_) (fun x hx => ?_) ?_
  · exact WF.cg (V.1 x hx) (fun k hk => g _ (by omega))
  · by_cases h : x = f
    · subst h
      exact n
    · exact WM.cg (V.2.2.1 x hx) (fun k hk => g _ (by omega))
  · exact WS.cg V.ws (fun k hk => g _ (by omega))
theorem WW.chS {w v : am_Wd} (V : WW w) (g : ∀ j, 7 ≤ j → j < 331 → v j = w j) (n : WS v) : WW v :=
  WW.mk (fun x hx => WF.cg (V.1 x hx) (fun k hk => g _ (by omega) (by omega))) (fun x hx => WM.cg (V.2.2.1 x hx) (fun k hk => g _ (by omega) (by omega))) n
/-- the law of a row is read from 631 on -/
theorem WL.cg {w v : am_Wd} {ln cc : Nat} (W : WL w ln cc) (g : ∀ j, 631 ≤ j → v j = w j) : WL v ln cc := by
  have t : ∀ s n, tF v s n = tF w s n := by
    intro s n
    induction n with
    | zero => rfl
    | succ n ih =>
      unfold tF
      rw [ih, g _ (by omega), g _ (by omega)]
  unfold WL at W ⊢
  rw [g 631 (by omega)]
  refine ⟨W.1, W.2.1, W.2.2.1, fun k hk => ?_⟩
  rw [g _ (by omega), g _ (by omega), g _ (by omega), g _ (by omega)]
  obtain ⟨a1, a2, s, e, a3⟩ := W.2.2.2 k hk
  refine ⟨a1, a2, s, e, ?_⟩
  rw [t]
  exact a3
theorem LR.cg {h : am_H} {I : am_I} {a : Nat} {w v : am_Wd} (M : LR h I a w) (g2 : v 2 = w 2) (g : ∀ j, 631 ≤ j → v j = w j) : LR h I a v := by
  unfold LR at M ⊢
  rw [g2]
  rcases M with M | ⟨M0, n, ln, cc, M1, M2, M3, M4, M5⟩
  · exact Or.inl M
  · refine Or.inr ⟨M0, n, ln, cc, M1, M2, M3, ?_, M5.cg g⟩
    unfold LC at M4 ⊢
    refine ⟨M4.1, fun k hk => ?_, fun i hi => ?_⟩
    · rw [g _ (by omega), g _ (by omega), g _ (by omega), g _ (by omega)]
      exact M4.2.1 k hk
    · rw [g _ (by omega), g _ (by omega)]
      exact M4.2.2 i hi
theorem ML.cg {w v : am_Wd} (M : ML w) (g2 : v 2 = w 2) (g : ∀ j, 631 ≤ j → v j = w j) : ML v := by
  unfold ML at M ⊢
  rw [g2]
  rcases M with M | ⟨M0, ln, cc, M5⟩
  · exact Or.inl M
  · exact Or.inr ⟨M0, ln, cc, M5.cg g⟩
theorem LR.ml {h : am_H} {I : am_I} {a : Nat} {w : am_Wd} (M : LR h I a w) : ML w := by
  rcases M with M | ⟨M0, n, ln, cc, M1, M2, M3, M4, M5⟩
  · exact Or.inl M.1
  · exact Or.inr ⟨M0, ln, cc, M5⟩
/-- a draw -/
def drW (v : Int) : Int := bAnd (bShr v 16) 32767
theorem drW_b (v : Int) : 0 ≤ drW v ∧ drW v ≤ 32767 := by
  unfold drW bAnd
  have e : ∀ x : Int32, 0 ≤ (x &&& Int32.ofInt 32767).toInt ∧ (x &&& Int32.ofInt 32767).toInt ≤ 32767 := by
    intro x
    have h1 : (x &&& Int32.ofInt 32767).toBitVec.toNat ≤ 32767 := by
      show (x.toBitVec &&& (32767#32)).toNat ≤ 32767
      rw [BitVec.toNat_and]
      exact Nat.and_le_right
    have h2 : (x &&& Int32.ofInt 32767).toInt = ((x &&& Int32.ofInt 32767).toBitVec.toNat : Int) := by
      show (x &&& Int32.ofInt 32767).toBitVec.toInt = _
      rw [BitVec.toInt_eq_toNat_of_lt (by omega)]
    omega
  exact e _
theorem drW_u (v : Int) : bAnd (bUshr v 16) 32767 = drW v := by
  unfold drW bAnd bUshr bShr
  rw [Int32.ofInt_toInt, Int32.ofInt_toInt]
  congr 1
  apply Int32.toBitVec_inj.mp
  generalize Int32.ofInt v = x
  show (x.toBitVec >>> (16#32 &&& 31#32 : BitVec 32).toNat) &&& 32767#32 = (x.toBitVec.sshiftRight' ((16#32 : BitVec 32).smod 32#32)) &&& 32767#32
  ext i hi
  simp [BitVec.getElem_sshiftRight]
  by_cases h : 16 + i < 32
  · rw [dif_pos h, BitVec.getLsbD_eq_getElem h]
  · have e : ∀ i : Nat, ∀ hi : i < 32, 16 ≤ i → (32767#32)[i] = false := by decide
    rw [e i hi (by omega), Bool.and_false, Bool.and_false]
