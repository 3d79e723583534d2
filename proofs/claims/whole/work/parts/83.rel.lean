def i32 (z : Int) : Prop := -2147483648 ≤ z ∧ z ≤ 2147483647
/-! A COUNTY BY THE REFERENCE'S ROW: w. What the class holds at a stands for w. -/
abbrev am_Wd : Type := Nat → Int
def LgRep (I : am_I) (a : Nat) (w : am_Wd) : Prop :=
  I (a + 10) 2 = w 5 ∧ (0 ≤ I (a + 10) 1 ∧ I (a + 10) 1 < 60) ∧ ∀ k : Nat, (k : Int) < w 5 → ∀ c : Nat, c < 5 → I (a + 11) (((I (a + 10) 1).toNat + 59 - k) % 60 * 5 + c) = w (331 + 5 * k + c)
def CRep (I : am_I) (a : Nat) (w : am_Wd) : Prop :=
  (∀ b, b < 60 → I (a + 1) b = w (7 + 5 * b) ∧ (w (7 + 5 * b) = 1 → I (a + 2) b = w (7 + 5 * b + 1) ∧ I (a + 3) b = w (7 + 5 * b + 2) ∧ I (a + 4) b = w (7 + 5 * b + 3) ∧ I (a + 5) b = w (7 + 5 * b + 4))) ∧
  I a 5 = w 0 ∧ (∀ f, f < 6 → I (a + 6) f = w (307 + 4 * f) ∧ I (a + 7) f = w (307 + 4 * f + 1) ∧ I (a + 8) f = w (307 + 4 * f + 2) ∧ I (a + 9) f = w (307 + 4 * f + 3)) ∧
  I a 10 = w 3 ∧ I a 11 = w 4 ∧ I a 12 = w 6 ∧ I a 13 = w 1 ∧ LgRep I a w
/-- what a row of the reference keeps -/
def WW (w : am_Wd) : Prop :=
  (∀ b, b < 60 → (w (7 + 5 * b) = 0 ∧ w (7 + 5 * b + 1) = 0 ∧ w (7 + 5 * b + 2) = 0 ∧ w (7 + 5 * b + 3) = 0 ∧ w (7 + 5 * b + 4) = 0) ∨ (w (7 + 5 * b) = 1 ∧ (0 ≤ w (7 + 5 * b + 1) ∧ w (7 + 5 * b + 1) ≤ 999) ∧ (0 ≤ w (7 + 5 * b + 2) ∧ w (7 + 5 * b + 2) ≤ 999) ∧ (w (7 + 5 * b + 3) = 0 ∨ w (7 + 5 * b + 3) = 1) ∧ (w (7 + 5 * b + 4) = 0 ∨ w (7 + 5 * b + 4) = 1))) ∧
  (0 ≤ w 0 ∧ w 0 ≤ 6) ∧ (∀ f, f < 6 → (0 ≤ w (307 + 4 * f) ∧ w (307 + 4 * f) < 36) ∧ (0 ≤ w (307 + 4 * f + 1) ∧ w (307 + 4 * f + 1) ≤ 999) ∧ (0 ≤ w (307 + 4 * f + 2) ∧ w (307 + 4 * f + 2) ≤ 999) ∧ (0 ≤ w (307 + 4 * f + 3) ∧ w (307 + 4 * f + 3) ≤ 99)) ∧
  (0 ≤ w 1 ∧ w 1 ≤ 12) ∧ (w 2 = 0 ∨ w 2 = 1) ∧ (0 ≤ w 3 ∧ w 3 ≤ 9999) ∧ (0 ≤ w 4 ∧ w 4 ≤ 100) ∧ (0 ≤ w 5 ∧ w 5 ≤ 60) ∧ i32 (w 6)
/-- places that hold nothing from one call to the next -/
def scr (k j : Nat) : Prop := k = 3 ∨ k = 4 ∨ (k = 1 ∧ 5 ≤ j) ∨ (6 ≤ k ∧ k ≤ 10 ∧ ¬ (k = 9 ∧ j = 0)) ∨ (23 ≤ k ∧ k ≤ 34) ∨ (48 ≤ k ∧ k ≤ 138) ∨ (k = 283 ∧ (j = 0 ∨ (10 ≤ j ∧ j ≤ 13) ∨ j = 16)) ∨ k = 286 ∨ k = 287 ∨ (290 ≤ k ∧ k ≤ 303) ∨ (304 ≤ k ∧ (k - 304) % 6 = 5)
def Same (I J : am_I) : Prop := ∀ k j, ¬ scr k j → J k j = I k j
theorem Same.rf (I : am_I) : Same I I := fun _ _ _ => rfl
theorem Same.tr {I J K : am_I} (h1 : Same I J) (h2 : Same J K) : Same I K := fun k j h => (h2 k j h).trans (h1 k j h)
theorem Same.u2 {I J : am_I} {a i : Nat} {v : Int} (h : Same I J) (hs : scr a i) : Same I (am_u2 J a i v) := fun k j hn => by
  unfold am_u2
  rw [if_neg (fun e => hn (by rw [e.1, e.2]; exact hs))]
  exact h k j hn
theorem Same.w {I J : am_I} (h : Same I J) : J 284 = I 284 := by
  funext j
  refine h 284 j ?_
  unfold scr
  omega
/-- a county that is no draft -/
def isK (a : Nat) : Prop := a = 11 ∨ a = 35 ∨ ∃ k, k < 12 ∧ a = 139 + 12 * k
theorem Same.cty {I J : am_I} (h : Same I J) {a k : Nat} (ha : isK a) (hk : k < 12) (j : Nat) : J (a + k) j = I (a + k) j := by
  refine h _ _ ?_
  unfold scr
  rcases ha with rfl | rfl | ⟨m, hm, rfl⟩ <;> omega
theorem CRep.same {I J : am_I} {a : Nat} {w : am_Wd} (h : Same I J) (ha : isK a) (R : CRep I a w) : CRep J a w := by
  have e : ∀ k, k < 12 → ∀ j, J (a + k) j = I (a + k) j := fun k hk j => h.cty ha hk j
  have e0 : ∀ j, J a j = I a j := fun j => e 0 (by omega) j
  unfold CRep LgRep at R ⊢
  simp only [e0, e 1 (by omega), e 2 (by omega), e 3 (by omega), e 4 (by omega), e 5 (by omega), e 6 (by omega), e 7 (by omega), e 8 (by omega), e 9 (by omega), e 10 (by omega), e 11 (by omega)]
  exact R
section
variable {I : am_I} {a : Nat} {w : am_Wd}
theorem CRep.th (R : CRep I a w) {b : Nat} (hb : b < 60) : I (a + 1) b = w (7 + 5 * b) := (R.1 b hb).1
theorem CRep.ag (R : CRep I a w) {b : Nat} (hb : b < 60) (h : w (7 + 5 * b) = 1) : I (a + 2) b = w (7 + 5 * b + 1) := ((R.1 b hb).2 h).1
theorem CRep.hi (R : CRep I a w) {b : Nat} (hb : b < 60) (h : w (7 + 5 * b) = 1) : I (a + 3) b = w (7 + 5 * b + 2) := ((R.1 b hb).2 h).2.1
theorem CRep.ga (R : CRep I a w) {b : Nat} (hb : b < 60) (h : w (7 + 5 * b) = 1) : I (a + 4) b = w (7 + 5 * b + 3) := ((R.1 b hb).2 h).2.2.1
theorem CRep.st (R : CRep I a w) {b : Nat} (hb : b < 60) (h : w (7 + 5 * b) = 1) : I (a + 5) b = w (7 + 5 * b + 4) := ((R.1 b hb).2 h).2.2.2
theorem CRep.fa (R : CRep I a w) : I a 5 = w 0 := R.2.1
theorem CRep.ho (R : CRep I a w) {f : Nat} (hf : f < 6) : I (a + 6) f = w (307 + 4 * f) := (R.2.2.1 f hf).1
theorem CRep.cl (R : CRep I a w) {f : Nat} (hf : f < 6) : I (a + 7) f = w (307 + 4 * f + 1) := (R.2.2.1 f hf).2.1
theorem CRep.ey (R : CRep I a w) {f : Nat} (hf : f < 6) : I (a + 8) f = w (307 + 4 * f + 2) := (R.2.2.1 f hf).2.2.1
theorem CRep.so (R : CRep I a w) {f : Nat} (hf : f < 6) : I (a + 9) f = w (307 + 4 * f + 3) := (R.2.2.1 f hf).2.2.2
theorem CRep.ye (R : CRep I a w) : I a 10 = w 3 := R.2.2.2.1
theorem CRep.qu (R : CRep I a w) : I a 11 = w 4 := R.2.2.2.2.1
theorem CRep.se (R : CRep I a w) : I a 12 = w 6 := R.2.2.2.2.2.1
theorem CRep.te (R : CRep I a w) : I a 13 = w 1 := R.2.2.2.2.2.2.1
theorem CRep.lg (R : CRep I a w) : LgRep I a w := R.2.2.2.2.2.2.2
theorem WW.fe (V : WW w) {b : Nat} (hb : b < 60) : (w (7 + 5 * b) = 0 ∧ w (7 + 5 * b + 1) = 0 ∧ w (7 + 5 * b + 2) = 0 ∧ w (7 + 5 * b + 3) = 0 ∧ w (7 + 5 * b + 4) = 0) ∨ (w (7 + 5 * b) = 1 ∧ (0 ≤ w (7 + 5 * b + 1) ∧ w (7 + 5 * b + 1) ≤ 999) ∧ (0 ≤ w (7 + 5 * b + 2) ∧ w (7 + 5 * b + 2) ≤ 999) ∧ (w (7 + 5 * b + 3) = 0 ∨ w (7 + 5 * b + 3) = 1) ∧ (w (7 + 5 * b + 4) = 0 ∨ w (7 + 5 * b + 4) = 1)) := V.1 b hb
theorem WW.fa (V : WW w) : 0 ≤ w 0 ∧ w 0 ≤ 6 := V.2.1
theorem WW.fm (V : WW w) {f : Nat} (hf : f < 6) : (0 ≤ w (307 + 4 * f) ∧ w (307 + 4 * f) < 36) ∧ (0 ≤ w (307 + 4 * f + 1) ∧ w (307 + 4 * f + 1) ≤ 999) ∧ (0 ≤ w (307 + 4 * f + 2) ∧ w (307 + 4 * f + 2) ≤ 999) ∧ (0 ≤ w (307 + 4 * f + 3) ∧ w (307 + 4 * f + 3) ≤ 99) := V.2.2.1 f hf
end
/-- open for a height; a top; what a border costs -/
def opW (w : am_Wd) (b : Nat) (t : Int) : Bool := decide (w (7 + 5 * b) ≠ 1 ∨ w (7 + 5 * b + 3) = 1 ∨ w (7 + 5 * b + 2) ≤ t)
def toW (w : am_Wd) (b : Nat) (t : Int) : Bool := decide (w (7 + 5 * b) = 1 ∧ t ≤ w (7 + 5 * b + 2))
def tlW (w : am_Wd) (b : Nat) : Int := if w (7 + 5 * b) ≠ 1 ∨ w (7 + 5 * b + 3) = 1 then 1 else 1 + w (7 + 5 * b + 2) / 10
def sumF (w : am_Wd) (k : Nat) : Int := sm (fun b => w (7 + 5 * b + k)) 60
section
variable {sc : Nat × (Nat → Int)} {d a : Nat} {h : am_H} {I : am_I} {w : am_Wd}
theorem c_isOpen (c : Cty h a) (R : CRep I a w) (V : WW w) {b : Nat} (hb : b < 60) {t : Int} : Cl sc (d + 1) mX0_isOpen [Vr (some a), Vi (b : Int), Vi t] (hI h I) = some (.inl (Vi (bz (opW w b t))), hI h I) := by
  rw [q_X0_isOpen_0]
  simp (disch := omega) only [BC c, Int.toNat_natCast, R.th hb]
  unfold opW
  rcases V.fe hb with ⟨h0, -⟩ | ⟨h0, -, -, hg, -⟩
  · rw [if_pos h0]
    refine lf ?_
    simp [bz, h0]
  · simp only [R.ga hb h0, R.hi hb h0]
    rw [if_neg (by omega)]
    split
    · split
      · refine lf ?_
        rw [decide_eq_false (by omega)]; rfl
      · refine lf ?_
        rw [decide_eq_true (by omega)]; rfl
    · refine lf ?_
      rw [decide_eq_true (by omega)]; rfl
theorem c_isTop (c : Cty h a) (R : CRep I a w) (V : WW w) {b : Nat} (hb : b < 60) {t : Int} : Cl sc (d + 1) mX0_isTop [Vr (some a), Vi (b : Int), Vi t] (hI h I) = some (.inl (Vi (bz (toW w b t))), hI h I) := by
  rw [q_X0_isTop_0]
  simp (disch := omega) only [BC c, Int.toNat_natCast, R.th hb]
  unfold toW
  rcases V.fe hb with ⟨h0, -⟩ | ⟨h0, -, -, hg, -⟩
  · rw [if_pos h0]
    refine lf ?_
    rw [decide_eq_false (by omega)]; rfl
  · simp only [R.hi hb h0]
    rw [if_neg (by omega)]
    split
    · refine lf ?_
      rw [decide_eq_false (by omega)]; rfl
    · refine lf ?_
      rw [decide_eq_true (by omega)]; rfl
theorem tl_w {x : Int} (h0 : 0 ≤ x) (h1 : x ≤ 999) : w32 (1 + w32 (x.tdiv 10)) = 1 + x / 10 := by
  rw [Int.tdiv_eq_ediv_of_nonneg h0, w32_id (z := x / 10) (by omega) (by omega), w32_id (by omega) (by omega)]
theorem c_toll (c : Cty h a) (R : CRep I a w) (V : WW w) {b : Nat} (hb : b < 60) : Cl sc (d + 1) mX0_toll [Vr (some a), Vi (b : Int)] (hI h I) = some (.inl (Vi (tlW w b)), hI h I) := by
  rw [q_X0_toll_0]
  simp (disch := omega) only [BC c, Int.toNat_natCast, R.th hb]
  unfold tlW
  rcases V.fe hb with ⟨h0, -⟩ | ⟨h0, -, hh, hg, -⟩
  · rw [if_pos h0, if_pos (by omega)]
  · simp only [R.ga hb h0, R.hi hb h0]
    rw [if_neg (by omega)]
    split
    · rw [if_neg (by decide), tl_w hh.1 hh.2, if_neg (by omega)]
    · rw [if_pos (by omega)]
theorem c_ladder (c : Cty h a) (R : CRep I a w) (V : WW w) {b : Nat} (hb : b < 60) : Cl sc (d + 2) mX0_ladder [Vr (some a), Vi (b : Int)] (hI h I) = some (.inl (Vi (if opW w b 0 = true then 0 else w (7 + 5 * b + 2))), hI h I) := by
  rw [q_X0_ladder_0]
  simp only [BC c]
  rw [c_isOpen c R V hb, e_clI]
  simp (disch := omega) only [BC c, Int.toNat_natCast, bz0]
  cases ho : opW w b 0
  · rw [if_pos rfl, if_neg (by simp)]
    refine lf (R.hi hb ?_)
    unfold opW at ho
    have := of_decide_eq_false ho
    omega
  · rw [if_neg (by simp), if_pos rfl]
theorem sumF_b (V : WW w) {k n : Nat} (hk : k < 5) (hn : n ≤ 60) : 0 ≤ sm (fun b => w (7 + 5 * b + k)) n ∧ sm (fun b => w (7 + 5 * b + k)) n ≤ 999 * n := by
  have h := sm_le (f := fun b => w (7 + 5 * b + k)) (A := 0) (B := 999) (N := n) (fun i hi => by
    have h9 : k = 0 ∨ k = 1 ∨ k = 2 ∨ k = 3 ∨ k = 4 := by omega
    have := V.fe (b := i) (by omega)
    rcases h9 with rfl | rfl | rfl | rfl | rfl <;> (try simp only [Nat.add_zero]) <;> omega)
  omega
theorem c_fences (c : Cty h a) (R : CRep I a w) (V : WW w) : Cl sc (d + 1) mX0_fences [Vr (some a)] (hI h I) = some (.inl (Vi (sumF w 0)), hI h I) := by
  rw [q_X0_fences_0]
  have hr := sm_run (F := fun i s => Ru sc (d + 1) mX0_fences 5 [Vr (some a), Vi s, Vi (i : Int)] [] (hI h I)) (f := fun b => w (7 + 5 * b + 0)) (N := 60) (fun i hi => by
    have hb := sumF_b V (k := 0) (n := i) (by omega) (by omega)
    have hv := V.fe hi
    have hR := R.th hi
    rw [q_X0_fences_5, if_pos (by omega)]
    simp (disch := omega) only [BC c, Int.toNat_natCast, hR, w32_succ]
    split
    · rw [w32_id (by omega) (by omega), show (w (7 + 5 * i + 0)) = 0 by rw [Nat.add_zero]; omega]
    · rw [w32_id (by omega) (by omega), show (w (7 + 5 * i + 0)) = 1 by rw [Nat.add_zero]; omega])
  refine Eq.trans hr ?_
  show Ru sc (d + 1) mX0_fences 5 [Vr (some a), Vi (sumF w 0), Vi ((60 : Nat) : Int)] [] (hI h I) = _
  rw [q_X0_fences_5, if_neg (by omega)]
theorem c_gates (c : Cty h a) (R : CRep I a w) (V : WW w) : Cl sc (d + 1) mX0_gates [Vr (some a)] (hI h I) = some (.inl (Vi (sumF w 3)), hI h I) := by
  rw [q_X0_gates_0]
  have hr := sm_run (F := fun i s => Ru sc (d + 1) mX0_gates 5 [Vr (some a), Vi s, Vi (i : Int)] [] (hI h I)) (f := fun b => w (7 + 5 * b + 3)) (N := 60) (fun i hi => by
    have hb := sumF_b V (k := 3) (n := i) (by omega) (by omega)
    have hv := V.fe hi
    have hR := R.th hi
    have hG := R.ga hi
    rw [q_X0_gates_5, if_pos (by omega)]
    simp (disch := omega) only [BC c, Int.toNat_natCast, hR, w32_succ]
    split
    · rw [w32_id (by omega) (by omega), show (w (7 + 5 * i + 3)) = 0 by omega]
    · simp only [hG (by omega)]
      split
      · rw [w32_id (by omega) (by omega), show (w (7 + 5 * i + 3)) = 0 by omega]
      · rw [w32_id (by omega) (by omega), show (w (7 + 5 * i + 3)) = 1 by omega])
  refine Eq.trans hr ?_
  show Ru sc (d + 1) mX0_gates 5 [Vr (some a), Vi (sumF w 3), Vi ((60 : Nat) : Int)] [] (hI h I) = _
  rw [q_X0_gates_5, if_neg (by omega)]
theorem c_strings (c : Cty h a) (R : CRep I a w) (V : WW w) : Cl sc (d + 1) mX0_strings [Vr (some a)] (hI h I) = some (.inl (Vi (sumF w 4)), hI h I) := by
  rw [q_X0_strings_0]
  have hr := sm_run (F := fun i s => Ru sc (d + 1) mX0_strings 5 [Vr (some a), Vi s, Vi (i : Int)] [] (hI h I)) (f := fun b => w (7 + 5 * b + 4)) (N := 60) (fun i hi => by
    have hb := sumF_b V (k := 4) (n := i) (by omega) (by omega)
    have hv := V.fe hi
    have hR := R.th hi
    have hG := R.st hi
    rw [q_X0_strings_5, if_pos (by omega)]
    simp (disch := omega) only [BC c, Int.toNat_natCast, hR, w32_succ]
    split
    · rw [w32_id (by omega) (by omega), show (w (7 + 5 * i + 4)) = 0 by omega]
    · simp only [hG (by omega)]
      split
      · rw [w32_id (by omega) (by omega), show (w (7 + 5 * i + 4)) = 0 by omega]
      · rw [w32_id (by omega) (by omega), show (w (7 + 5 * i + 4)) = 1 by omega])
  refine Eq.trans hr ?_
  show Ru sc (d + 1) mX0_strings 5 [Vr (some a), Vi (sumF w 4), Vi ((60 : Nat) : Int)] [] (hI h I) = _
  rw [q_X0_strings_5, if_neg (by omega)]
theorem c_highTogether (c : Cty h a) (R : CRep I a w) (V : WW w) : Cl sc (d + 1) mX0_highTogether [Vr (some a)] (hI h I) = some (.inl (Vi (sumF w 2)), hI h I) := by
  rw [q_X0_highTogether_0]
  have hr := sm_run (F := fun i s => Ru sc (d + 1) mX0_highTogether 5 [Vr (some a), Vi s, Vi (i : Int)] [] (hI h I)) (f := fun b => w (7 + 5 * b + 2)) (N := 60) (fun i hi => by
    have hb := sumF_b V (k := 2) (n := i) (by omega) (by omega)
    have hv := V.fe hi
    have hR := R.th hi
    have hG := R.hi hi
    rw [q_X0_highTogether_5, if_pos (by omega)]
    simp (disch := omega) only [BC c, Int.toNat_natCast, hR, w32_succ]
    split
    · rw [w32_id (by omega) (by omega), show (w (7 + 5 * i + 2)) = 0 by omega]
    · rw [hG (by omega), w32_id (by omega) (by omega)])
  refine Eq.trans hr ?_
  show Ru sc (d + 1) mX0_highTogether 5 [Vr (some a), Vi (sumF w 2), Vi ((60 : Nat) : Int)] [] (hI h I) = _
  rw [q_X0_highTogether_5, if_neg (by omega)]
def sorW (w : am_Wd) : Int := sm (fun f => w (307 + 4 * f + 3)) (w 0).toNat
theorem sorW_b (V : WW w) {n : Nat} (hn : n ≤ 6) : 0 ≤ sm (fun f => w (307 + 4 * f + 3)) n ∧ sm (fun f => w (307 + 4 * f + 3)) n ≤ 99 * n := by
  have h := sm_le (f := fun f => w (307 + 4 * f + 3)) (A := 0) (B := 99) (N := n) (fun i hi => (V.fm (f := i) (by omega)).2.2.2)
  omega
theorem c_soreTogether (c : Cty h a) (R : CRep I a w) (V : WW w) : Cl sc (d + 1) mX0_soreTogether [Vr (some a)] (hI h I) = some (.inl (Vi (sorW w)), hI h I) := by
  have hF := V.fa
  rw [q_X0_soreTogether_0]
  have hr := sm_run (F := fun i s => Ru sc (d + 1) mX0_soreTogether 5 [Vr (some a), Vi s, Vi (i : Int)] [] (hI h I)) (f := fun f => w (307 + 4 * f + 3)) (N := (w 0).toNat) (fun i hi => by
    have hb := sorW_b V (n := i) (by omega)
    have hv := V.fm (f := i) (by omega)
    have hR := R.so (f := i) (by omega)
    rw [q_X0_soreTogether_5]
    simp (disch := omega) only [BC c, Int.toNat_natCast, R.fa, hR, w32_succ]
    rw [if_pos (by omega), w32_id (by omega) (by omega)])
  refine Eq.trans hr ?_
  show Ru sc (d + 1) mX0_soreTogether 5 [Vr (some a), Vi (sorW w), Vi (((w 0).toNat : Nat) : Int)] [] (hI h I) = _
  rw [q_X0_soreTogether_5]
  simp only [BC c, R.fa]
  rw [if_neg (by omega)]
end
