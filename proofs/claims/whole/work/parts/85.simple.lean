/-! CALLS THAT ASK ONLY -/
/-- the class's answer: a number, or a throw; the reference's: a number and what it would throw -/
def AC (r : am_R) (h : am_H) (I : am_I) (x : Nat) (v : Int) : Prop := ∃ J, Same I J ∧ r = (if x = 0 then some (.inl (Vi v), hI h J) else some (.inr x, hI (am_ex h) J))
def AM (r : am_R) (h : am_H) (I : am_I) (x v : Int) : Prop := ∃ J, Same I J ∧ J 283 0 = x ∧ r = some (.inl (Vi v), hI h J)
theorem hI_ex {h : am_H} {I : am_I} : am_ex (hI h I) = hI (am_ex h) I := rfl
theorem AC.ok {r : am_R} {h : am_H} {I J : am_I} {v : Int} (hs : Same I J) (e : r = some (.inl (Vi v), hI h J)) : AC r h I 0 v := ⟨J, hs, e⟩
theorem AC.no {r : am_R} {h : am_H} {I J : am_I} {v : Int} {x : Nat} (hx : x ≠ 0) (hs : Same I J) (e : r = some (.inr x, hI (am_ex h) J)) : AC r h I x v := ⟨J, hs, by rw [if_neg hx]; exact e⟩
theorem u283 {I : am_I} {v : Int} : am_u2 I 283 0 v 283 0 = v := u2_same
theorem s283 {I : am_I} {v : Int} : Same I (am_u2 I 283 0 v) := (Same.rf I).u2 (Or.inr (Or.inr (Or.inr (Or.inr (Or.inr (Or.inr (Or.inl ⟨rfl, Or.inl rfl⟩)))))))
theorem Same.x283 {I J : am_I} {v : Int} (h : Same I J) : Same I (am_u2 J 283 0 v) := h.u2 (Or.inr (Or.inr (Or.inr (Or.inr (Or.inr (Or.inr (Or.inl ⟨rfl, Or.inl rfl⟩)))))))
theorem w283 {I : am_I} {v : Int} : am_u2 I 283 0 v 284 = I 284 := by
  funext j
  exact u2_a (by decide)
theorem p283 {I : am_I} {v : Int} {j : Nat} (hj : j ≠ 0) : am_u2 I 283 0 v 283 j = I 283 j := u2_j hj
theorem tn_w {b : Nat} {k : Int} {x : Nat} (hx : (b : Int) = k) (e : x = b) : k.toNat = x := by omega
section
variable {sc : Nat × (Nat → Int)} {d : Nat} {h : am_H} {I : am_I}
theorem c_needBorder {b : Int} : Cl sc (d + 1) mX11_needBorder [Vi b] h = if 0 ≤ b ∧ b < 60 then some (.inl (Vx 0), h) else some (.inr 3, am_ex h) := by
  rw [q_X11_needBorder_0]
  split
  · rw [if_neg (by omega)]
  · split
    · rw [if_pos (by omega)]
    · rw [if_neg (by omega)]
theorem c_needCell {b : Int} : Cl sc (d + 1) mX11_needCell [Vi b] h = if 0 ≤ b ∧ b < 36 then some (.inl (Vx 0), h) else some (.inr 3, am_ex h) := by
  rw [q_X11_needCell_0]
  split
  · rw [if_neg (by omega)]
  · split
    · rw [if_pos (by omega)]
    · rw [if_neg (by omega)]
theorem c_needCorner {b : Int} : Cl sc (d + 1) mX11_needCorner [Vi b] h = if 0 ≤ b ∧ b < 49 then some (.inl (Vx 0), h) else some (.inr 3, am_ex h) := by
  rw [q_X11_needCorner_0]
  split
  · rw [if_neg (by omega)]
  · split
    · rw [if_pos (by omega)]
    · rw [if_neg (by omega)]
theorem c_needHeight {b : Int} : Cl sc (d + 1) mX11_needHeight [Vi b] h = if 0 ≤ b ∧ b ≤ 999 then some (.inl (Vx 0), h) else some (.inr 1, am_ex h) := by
  rw [q_X11_needHeight_0]
  split
  · rw [if_neg (by omega)]
  · split
    · rw [if_neg (by omega)]
    · rw [if_pos (by omega)]
theorem c_needYears {b : Int} : Cl sc (d + 1) mX11_needYears [Vi b] h = if 0 ≤ b ∧ b ≤ 100 then some (.inl (Vx 0), h) else some (.inr 1, am_ex h) := by
  rw [q_X11_needYears_0]
  split
  · rw [if_neg (by omega)]
  · split
    · rw [if_neg (by omega)]
    · rw [if_pos (by omega)]
theorem isC_now : isC 11 := Or.inl rfl
theorem isK_now : isK 11 := Or.inl rfl
theorem c_needFamily (s : Sh h) (R : CRep I 11 (I 284)) {f : Int} : Cl sc (d + 1) mX11_needFamily [Vr (some 0), Vi f] (hI h I) = if 0 ≤ f ∧ f < I 284 0 then some (.inl (Vx 0), hI h I) else some (.inr 3, hI (am_ex h) I) := by
  rw [q_X11_needFamily_0]
  simp (disch := omega) only [BO s, BC (cty_of s isC_now), e_clI, e_clV, e_clP, e_clIx, e_clVx, e_clPx, e_xt, Int.toNat_natCast, tn0, tn1, tn2, tn3, tn4, bz0, bz1]
  rw [R.fa]
  split
  · rw [if_neg (by omega)]; rfl
  · split
    · rw [if_pos (by omega)]
    · rw [if_neg (by omega)]; rfl
/-- between -/
theorem c_between {x y : Int} : AC (Cl sc (d + 3) mX11_between [Vr (some 0), Vi x, Vi y] (hI h I)) h I (if (0 ≤ x ∧ x < 36) ∧ 0 ≤ y ∧ y < 36 then 0 else 3) (bo x.toNat y.toNat) := by
  rw [q_X11_between_0, c_needCell]
  by_cases hx : 0 ≤ x ∧ x < 36
  · rw [if_pos hx, e_clV, c_needCell]
    by_cases hy : 0 ≤ y ∧ y < 36
    · rw [if_pos hy, e_clV, if_pos ⟨hx, hy⟩]
      obtain ⟨m, rfl⟩ : ∃ m : Nat, x = m := ⟨x.toNat, by omega⟩
      obtain ⟨n, rfl⟩ : ∃ n : Nat, y = n := ⟨y.toNat, by omega⟩
      rw [c_borderOf (by omega) (by omega), e_clI, Int.toNat_natCast, Int.toNat_natCast]
      exact AC.ok (Same.rf I) rfl
    · rw [if_neg hy, e_clVx, if_neg (fun h => hy h.2)]
      exact AC.no (by decide) (Same.rf I) rfl
  · rw [if_neg hx, e_clVx, if_neg (fun h => hx h.1)]
    exact AC.no (by decide) (Same.rf I) rfl
theorem m_throws0 (s : Sh h) {k : Int} : Cl sc (d + 1) mX12_throwsIf [Vr (some 283), Vi 0, Vi k] (hI h I) = some (.inl (Vi 0), hI h I) := m_throwsIf (b := false) s
theorem m_throws1 (s : Sh h) {k : Int} : Cl sc (d + 1) mX12_throwsIf [Vr (some 283), Vi 1, Vi k] (hI h I) = some (.inl (Vi 1), hI h (am_u2 I 283 0 k)) := m_throwsIf (b := true) s
theorem m_between (s : Sh h) {x y : Int} : AM (Cl sc (d + 6) mX12_between [Vr (some 283), Vi x, Vi y] (hI h I)) h I (if (0 ≤ x ∧ x < 36) ∧ 0 ≤ y ∧ y < 36 then 0 else 1) (if (0 ≤ x ∧ x < 36) ∧ 0 ≤ y ∧ y < 36 then bo x.toNat y.toNat else 0) := by
  rw [q_X12_between_0]
  simp only [BM s]
  rw [c_noCell, e_clI]
  simp only [bz0, decide_eq_false_iff_not]
  by_cases hx : 0 ≤ x ∧ x < 36
  · rw [if_pos (show ¬ ¬ (0 ≤ x ∧ x ≤ 35) by omega), c_noCell, e_clI]
    simp only [bz0, decide_eq_false_iff_not]
    by_cases hy : 0 ≤ y ∧ y < 36
    · rw [if_pos (show ¬ ¬ (0 ≤ y ∧ y ≤ 35) by omega), if_pos ⟨hx, hy⟩, if_pos ⟨hx, hy⟩, m_throws0 s, e_clI, if_pos rfl]
      obtain ⟨m, rfl⟩ : ∃ m : Nat, x = m := ⟨x.toNat, by omega⟩
      obtain ⟨n, rfl⟩ : ∃ n : Nat, y = n := ⟨y.toNat, by omega⟩
      rw [c_mborderOf (by omega) (by omega), e_clI, Int.toNat_natCast, Int.toNat_natCast]
      exact ⟨_, s283, u283, rfl⟩
    · rw [if_neg (show ¬ ¬ ¬ (0 ≤ y ∧ y ≤ 35) by omega), if_neg (fun h => hy h.2), if_neg (fun h => hy h.2), m_throws1 s, e_clI, if_neg (by decide)]
      exact ⟨_, s283.x283, u283, rfl⟩
  · rw [if_neg (show ¬ ¬ ¬ (0 ≤ x ∧ x ≤ 35) by omega), if_neg (fun h => hx h.1), if_neg (fun h => hx h.1), m_throws1 s, e_clI, if_neg (by decide)]
    exact ⟨_, s283.x283, u283, rfl⟩
/-- open -/
theorem c_open (s : Sh h) (R : CRep I 11 (I 284)) (V : WW (I 284)) {x y : Int} : AC (Cl sc (d + 2) mX11_open [Vr (some 0), Vi x, Vi y] (hI h I)) h I (if ¬ (0 ≤ x ∧ x < 60) then 3 else if ¬ (0 ≤ y ∧ y ≤ 999) then 1 else 0) (bz (opW (I 284) x.toNat y)) := by
  rw [q_X11_open_0, c_needBorder]
  by_cases hx : 0 ≤ x ∧ x < 60
  · rw [if_pos hx, e_clV, c_needHeight, if_neg (fun h => h hx)]
    by_cases hy : 0 ≤ y ∧ y ≤ 999
    · rw [if_pos hy, e_clV, if_neg (fun h => h hy)]
      obtain ⟨m, rfl⟩ : ∃ m : Nat, x = m := ⟨x.toNat, by omega⟩
      simp (disch := omega) only [BO s, BC (cty_of s isC_now), e_clI, e_clV, e_clP, e_clIx, e_clVx, e_clPx, e_xt, Int.toNat_natCast, tn0, tn1, tn2, tn3, tn4, bz0, bz1]
      rw [c_isOpen (cty_of s isC_now) R V (by omega), e_clI, e_ret1 (bz01 _)]
      exact AC.ok (Same.rf I) rfl
    · rw [if_neg hy, e_clVx, if_pos hy]
      exact AC.no (by decide) (Same.rf I) rfl
  · rw [if_neg hx, e_clVx, if_pos hx]
    exact AC.no (by decide) (Same.rf I) rfl
theorem m_open (s : Sh h) (V : WW (I 284)) (hs : I 283 18 = -1) (hp : I 283 19 = -1) {x y : Int} : AM (Cl sc (d + 5) mX12_open [Vr (some 283), Vi x, Vi y] (hI h I)) h I (if ¬ (0 ≤ x ∧ x < 60) then 1 else if ¬ (0 ≤ y ∧ y ≤ 999) then 2 else 0) (if (0 ≤ x ∧ x < 60) ∧ 0 ≤ y ∧ y ≤ 999 then bz (opW (I 284) x.toNat y) else 0) := by
  rw [q_X12_open_0]
  simp only [BM s]
  rw [c_noBorder, e_clI, m_throwsIf s, e_clI]
  simp only [bz0, decide_eq_false_iff_not]
  by_cases hx : 0 ≤ x ∧ x < 60
  · rw [if_pos (show ¬ ¬ (0 ≤ x ∧ x ≤ 59) by omega), if_neg (fun h => h hx), decide_eq_false (show ¬ ¬ (0 ≤ x ∧ x ≤ 59) by omega)]
    simp only [th, BM s, if_neg (show ¬ (false = true) by decide)]
    rw [c_noHeight, e_clI, m_throwsIf s, e_clI]
    simp only [bz0, decide_eq_false_iff_not]
    by_cases hy : 0 ≤ y ∧ y ≤ 999
    · rw [if_pos (fun h => h hy), if_neg (fun h => h hy), if_pos ⟨hx, hy⟩, decide_eq_false (fun h => h hy)]
      simp only [th, BM s, if_neg (show ¬ (false = true) by decide)]
      obtain ⟨m, rfl⟩ : ∃ m : Nat, x = m := ⟨x.toNat, by omega⟩
      rw [m_isOpen s (by omega), e_clI, w283, p283 (by decide), p283 (by decide), hs, hp, opS_no, Int.toNat_natCast]
      refine ⟨_, s283, u283, ?_⟩
      simp only [bz0]
      cases opW (I 284) m y <;> rfl
    · rw [if_neg (fun h => h hy), if_pos hy, if_neg (fun h => hy h.2), decide_eq_true hy]
      exact ⟨_, s283.x283, u283, rfl⟩
  · rw [if_neg (show ¬ ¬ ¬ (0 ≤ x ∧ x ≤ 59) by omega), if_pos hx, if_neg (fun h => hx h.1), decide_eq_true (show ¬ (0 ≤ x ∧ x ≤ 59) by omega)]
    exact ⟨_, s283.x283, u283, rfl⟩
end
