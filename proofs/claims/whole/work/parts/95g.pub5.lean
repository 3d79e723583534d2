/-! CALLS THAT ASK: WHO SEES WHOM -/
def vis (w : am_Wd) (e : Int) (k : Nat) : Nat → Nat → Bool
  | 0, _ => true
  | n + 1, c => if toW w (sd c k).toNat e = true then false else vis w e k n (ov (sd c k).toNat c)
def seeW (w : am_Wd) (f cell : Nat) : Bool := if tw (w (307 + 4 * f)).toNat cell = -1 then false else vis w (w (307 + 4 * f + 2)) (tw (w (307 + 4 * f)).toNat cell).toNat (ap (w (307 + 4 * f)).toNat cell) (w (307 + 4 * f)).toNat
theorem tw_b : ∀ c : Nat, c < 36 → ∀ o : Nat, o < 36 → -1 ≤ tw c o ∧ tw c o < 4 ∧ (tw c o ≠ -1 → ap c o ≤ 5) ∧ (ap c o = 0 ↔ c = o) := by decide +kernel
theorem tw_s1 : ∀ c : Nat, c < 36 → ∀ o : Nat, o < 36 → (tw c o ≠ -1 ∧ c ≠ o) → 0 ≤ sd c (tw c o).toNat ∧ sd c (tw c o).toNat < 60 ∧ (lc (sd c (tw c o).toNat).toNat = c ∨ mc (sd c (tw c o).toNat).toNat = c) := by decide +kernel
theorem tw_s2 : ∀ c : Nat, c < 36 → ∀ o : Nat, o < 36 → (tw c o ≠ -1 ∧ c ≠ o) → ov (sd c (tw c o).toNat).toNat c < 36 ∧ ap (ov (sd c (tw c o).toNat).toNat c) o + 1 = ap c o ∧ (ov (sd c (tw c o).toNat).toNat c = o ∨ tw (ov (sd c (tw c o).toNat).toNat c) o = tw c o) := by decide +kernel
theorem tw_s (c : Nat) (hc : c < 36) (o : Nat) (ho : o < 36) (h1 : tw c o ≠ -1) (h2 : c ≠ o) : 0 ≤ sd c (tw c o).toNat ∧ sd c (tw c o).toNat < 60 ∧ (lc (sd c (tw c o).toNat).toNat = c ∨ mc (sd c (tw c o).toNat).toNat = c) ∧ ov (sd c (tw c o).toNat).toNat c < 36 ∧ ap (ov (sd c (tw c o).toNat).toNat c) o + 1 = ap c o ∧ (ov (sd c (tw c o).toNat).toNat c = o ∨ tw (ov (sd c (tw c o).toNat).toNat c) o = tw c o) :=
  ⟨(tw_s1 c hc o ho ⟨h1, h2⟩).1, (tw_s1 c hc o ho ⟨h1, h2⟩).2.1, (tw_s1 c hc o ho ⟨h1, h2⟩).2.2, tw_s2 c hc o ho ⟨h1, h2⟩⟩
theorem tw_m : ∀ c : Nat, c < 36 → ∀ o : Nat, o < 36 → (c % 6 = o % 6 ∨ c / 6 = o / 6) = (tw c o ≠ -1) ∧ (c ≠ o → tw c o ≠ -1 → tw c o = if c % 6 = o % 6 then (if o < c then 2 else 3) else (if o < c then 0 else 1)) := by decide +kernel
section
variable {sc : Nat × (Nat → Int)} {d a : Nat} {h : am_H} {I : am_I} {w : am_Wd}
theorem c_doesSee (s : Sh h) (c : Cty h a) (R : CRep I a w) (V : WW w) {f cell : Nat} (hf : f < 6) (hc : cell < 36) : Cl sc (d + 3) mX6_doesSee [Vr (some 124), Vr (some a), Vi (f : Int), Vi (cell : Int)] (hI h I) = some (.inl (Vi (bz (seeW w f cell))), hI h I) := by
  have hv := V.fm hf
  obtain ⟨hm, hh⟩ : ∃ hm : Nat, w (307 + 4 * f) = hm := ⟨(w (307 + 4 * f)).toNat, by omega⟩
  have hm36 : hm < 36 := by omega
  have hb := tw_b hm hm36 cell hc
  rw [q_X6_doesSee_0]
  unfold seeW
  rw [hh, Int.toNat_natCast]
  by_cases h1 : tw hm cell = -1
  · simp (disch := first | (simp (disch := omega) only [w32_id]; omega) | omega) only [↓BC c, R.ho hf, hh, c_towards hm36 hc, h1, e_clI, e_clV, e_clP, e_clIx, e_clVx, e_clPx, e_xt, Int.toNat_natCast, Int.reduceToNat, bz0, bz1, Nat.add_zero, decide_eq_false_iff_not, decide_eq_true_eq, Int.reduceEq, Nat.reduceEqDiff, Int.reduceLT, Int.reduceLE, not_true_eq_false, not_false_eq_true, ↓reduceIte]
    rfl
  · obtain ⟨k, hk⟩ : ∃ k : Nat, tw hm cell = k := ⟨(tw hm cell).toNat, by omega⟩
    have hk4 : k < 4 := by omega
    have hk1 : ¬ (k : Int) = -1 := by omega
    rw [hk, if_neg hk1, Int.toNat_natCast]
    simp (disch := first | (simp (disch := omega) only [w32_id]; omega) | omega) only [↓BC c, R.ho hf, hh, c_towards hm36 hc, hk, hk1, e_clI, e_clV, e_clP, e_clIx, e_clVx, e_clPx, e_xt, Int.toNat_natCast, Int.reduceToNat, bz0, bz1, Nat.add_zero, decide_eq_false_iff_not, decide_eq_true_eq, Int.reduceEq, Nat.reduceEqDiff, Int.reduceLT, Int.reduceLE, not_true_eq_false, not_false_eq_true, ↓reduceIte]
    have hgo : ∀ n x i u, x < 36 → ap x cell = n → (x = cell ∨ tw x cell = k) → n + i ≤ 5 → Ru sc (d + 3) mX6_doesSee 17 [Vr (some 124), Vr (some a), Vi (f : Int), Vi (cell : Int), Vi (x : Int), Vi (k : Int), Vi ((i : Nat) : Int), u] [] (hI h I) = some (.inl (Vi (bz (vis w (w (307 + 4 * f + 2)) k n x))), hI h I) := by
      intro n
      induction n with
      | zero =>
        intro x i u hx ha _ hi
        have hxc : x = cell := (tw_b x hx cell hc).2.2.2.mp ha
        have hlt : (i : Int) < 6 := by omega
        rw [q_X6_doesSee_17, hxc, if_pos hlt, if_pos rfl, if_pos rfl]
        rfl
      | succ n ih =>
        intro x i u hx ha htw hi
        have hxc : x ≠ cell := fun e => by have := (tw_b x hx cell hc).2.2.2.mpr e; omega
        have htw2 : tw x cell = k := htw.resolve_left hxc
        have hs := tw_s x hx cell hc (by rw [htw2]; exact hk1) hxc
        rw [htw2, Int.toNat_natCast] at hs
        obtain ⟨b, hbb⟩ : ∃ b : Nat, sd x k = b := ⟨(sd x k).toNat, by omega⟩
        rw [hbb, Int.toNat_natCast] at hs
        have hb60 : b < 60 := by omega
        have hb1 : ¬ (b : Int) = -1 := by omega
        have hlt : (i : Int) < 6 := by omega
        have hxc2 : ¬ (x : Int) = (cell : Int) := by omega
        have ih2 := ih (ov b x) (i + 1) (Vi (b : Int)) hs.2.2.2.1 (by omega) hs.2.2.2.2.2 (by omega)
        rw [q_X6_doesSee_17]
        unfold vis
        rw [hbb, Int.toNat_natCast]
        cases ht : toW w b (w (307 + 4 * f + 2))
        · simp (disch := first | (simp (disch := omega) only [w32_id]; omega) | omega) only [↓BC c, hlt, hxc2, c_onSide hx hk4, hbb, hb1, R.ey hf, c_isTop c R V hb60, ht, c_across hb60 hs.2.2.1, w32_succ, Bool.false_eq_true, e_clI, e_clV, e_clP, e_clIx, e_clVx, e_clPx, e_xt, Int.toNat_natCast, Int.reduceToNat, bz0, bz1, Nat.add_zero, decide_eq_false_iff_not, decide_eq_true_eq, Int.reduceEq, Nat.reduceEqDiff, Int.reduceLT, Int.reduceLE, not_true_eq_false, not_false_eq_true, ↓reduceIte]
          exact ih2
        · simp (disch := first | (simp (disch := omega) only [w32_id]; omega) | omega) only [↓BC c, hlt, hxc2, c_onSide hx hk4, hbb, hb1, R.ey hf, c_isTop c R V hb60, ht, Bool.true_eq_false, e_clI, e_clV, e_clP, e_clIx, e_clVx, e_clPx, e_xt, Int.toNat_natCast, Int.reduceToNat, bz0, bz1, Nat.add_zero, decide_eq_false_iff_not, decide_eq_true_eq, Int.reduceEq, Nat.reduceEqDiff, Int.reduceLT, Int.reduceLE, not_true_eq_false, not_false_eq_true, ↓reduceIte]
          rfl
    exact hgo _ hm 0 _ hm36 rfl (Or.inr hk) (by omega)
theorem m_seesOver (s : Sh h) {f b : Nat} (hf : f < 6) (hb : b < 60) : Cl sc (d + 4) mX12_seesOver [Vr (some 283), Vi (f : Int), Vi (b : Int)] (hI h I) = some (.inl (Vi (bz (!(toW (I 284) b (I 284 (307 + 4 * f + 2)))))), hI h I) := by
  rw [q_X12_seesOver_0]
  unfold toW
  simp (disch := first | (simp (disch := omega) only [w32_id]; omega) | omega) only [↓BM s, m_hasFence s, m_of s, m_ofFamily s, e_clI, e_clV, e_clP, e_clIx, e_clVx, e_clPx, e_xt, Int.toNat_natCast, Int.reduceToNat, bz0, bz1, Nat.add_zero, decide_eq_false_iff_not, decide_eq_true_eq, Int.reduceEq, Nat.reduceEqDiff, Int.reduceLT, Int.reduceLE, not_true_eq_false, not_false_eq_true, ↓reduceIte]
  repeat' split
  all_goals
    first
      | (refine lf (bz_t.mp ?_); rw [Bool.not_eq_true', decide_eq_false_iff_not]; omega)
      | (refine lf (bz_f.mp ?_); rw [Bool.not_eq_false', decide_eq_true_eq]; omega)
theorem m_seesCell (s : Sh h) (V : WW (I 284)) {f cell : Nat} (hf : f < 6) (hc : cell < 36) : Cl sc (d + 5) mX12_seesCell [Vr (some 283), Vi (f : Int), Vi (cell : Int)] (hI h I) = some (.inl (Vi (bz (seeW (I 284) f cell))), hI h I) := by
  have hv := V.fm hf
  obtain ⟨hm, hh⟩ : ∃ hm : Nat, I 284 (307 + 4 * f) = hm := ⟨(I 284 (307 + 4 * f)).toNat, by omega⟩
  have hm36 : hm < 36 := by omega
  have hb := tw_b hm hm36 cell hc
  have hmm := tw_m hm hm36 cell hc
  unfold seeW
  rw [hh, Int.toNat_natCast]
  have hgo : ∀ (k : Nat), k < 4 → ∀ n x u, x < 36 → ap x cell = n → (x = cell ∨ tw x cell = k) → Ru sc (d + 5) mX12_seesCell 45 [Vr (some 283), Vi (f : Int), Vi (cell : Int), Vi (x : Int), Vi (k : Int), Vi 1, u] [] (hI h I) = some (.inl (Vi (bz (vis (I 284) (I 284 (307 + 4 * f + 2)) k n x))), hI h I) := by
    intro k hk4 n
    induction n with
    | zero =>
      intro x u hx ha _
      have hxc : x = cell := (tw_b x hx cell hc).2.2.2.mp ha
      rw [q_X12_seesCell_45, hxc, if_pos rfl]
      rfl
    | succ n ih =>
      intro x u hx ha htw
      have hxc : x ≠ cell := fun e => by have := (tw_b x hx cell hc).2.2.2.mpr e; omega
      have htw2 : tw x cell = k := htw.resolve_left hxc
      have hs := tw_s x hx cell hc (by rw [htw2]; omega) hxc
      rw [htw2, Int.toNat_natCast] at hs
      obtain ⟨b, hbb⟩ : ∃ b : Nat, sd x k = b := ⟨(sd x k).toNat, by omega⟩
      rw [hbb, Int.toNat_natCast] at hs
      have hb60 : b < 60 := by omega
      have hxc2 : ¬ (x : Int) = (cell : Int) := by omega
      have ih2 := ih (ov b x) (Vi (b : Int)) hs.2.2.2.1 (by omega) hs.2.2.2.2.2
      rw [q_X12_seesCell_45]
      unfold vis
      rw [hbb, Int.toNat_natCast]
      cases ht : toW (I 284) b (I 284 (307 + 4 * f + 2))
      · simp (disch := first | (simp (disch := omega) only [w32_id]; omega) | omega) only [↓BM s, hxc2, c_sideOf hx hk4, hbb, m_seesOver s hf hb60, ht, c_otherOf hb60 hs.2.2.1, Bool.false_eq_true, Bool.not_false, e_clI, e_clV, e_clP, e_clIx, e_clVx, e_clPx, e_xt, Int.toNat_natCast, Int.reduceToNat, bz0, bz1, Nat.add_zero, decide_eq_false_iff_not, decide_eq_true_eq, Int.reduceEq, Nat.reduceEqDiff, Int.reduceLT, Int.reduceLE, not_true_eq_false, not_false_eq_true, ↓reduceIte]
        exact ih2
      · simp (disch := first | (simp (disch := omega) only [w32_id]; omega) | omega) only [↓BM s, hxc2, c_sideOf hx hk4, hbb, m_seesOver s hf hb60, ht, c_otherOf hb60 hs.2.2.1, Bool.true_eq_false, Bool.not_true, e_clI, e_clV, e_clP, e_clIx, e_clVx, e_clPx, e_xt, Int.toNat_natCast, Int.reduceToNat, bz0, bz1, Nat.add_zero, decide_eq_false_iff_not, decide_eq_true_eq, Int.reduceEq, Nat.reduceEqDiff, Int.reduceLT, Int.reduceLE, not_true_eq_false, not_false_eq_true, ↓reduceIte]
        rw [q_X12_seesCell_45]
        by_cases h9 : ((ov b x : Nat) : Int) = (cell : Int)
        · rw [if_pos h9]
          rfl
        · rw [if_neg h9, if_pos (show bz false = 0 from rfl)]
          rfl
  have e6 : ∀ z : Nat, (z : Int).tmod 6 = ((z % 6 : Nat) : Int) := fun z => by rw [tm_e (by omega)]; omega
  have d6 : ∀ z : Nat, z < 36 → w32 ((z : Int).tdiv 6) = ((z / 6 : Nat) : Int) := td6
  have i1 : (((hm % 6 : Nat) : Int) = ((cell % 6 : Nat) : Int)) = (hm % 6 = cell % 6) := propext ⟨fun e => by omega, fun e => by omega⟩
  have i2 : (((hm / 6 : Nat) : Int) = ((cell / 6 : Nat) : Int)) = (hm / 6 = cell / 6) := propext ⟨fun e => by omega, fun e => by omega⟩
  have i3 : ((cell : Int) < (hm : Int)) = (cell < hm) := propext ⟨fun e => by omega, fun e => by omega⟩
  rw [q_X12_seesCell_0]
  simp only [↓BM s, m_ofFamily s (k := 0) (by decide) (show 307 + 4 * f + (0 : Int).toNat < 2329 by omega), e_clI, Int.reduceToNat, Nat.add_zero, hh, e6, d6 hm hm36, d6 cell hc, i1, i2, Nat.reduceEqDiff, ↓reduceIte]
  by_cases h1 : tw hm cell = -1
  · have h2 : ¬ (hm % 6 = cell % 6 ∨ hm / 6 = cell / 6) := by rw [hmm.1]; exact fun x => x h1
    rw [if_neg (fun x => h2 (Or.inl x)), if_neg (fun x => h2 (Or.inr x)), if_pos h1]
    rfl
  · have h2 : hm % 6 = cell % 6 ∨ hm / 6 = cell / 6 := by rw [hmm.1]; exact h1
    obtain ⟨k, hk⟩ : ∃ k : Nat, tw hm cell = k := ⟨(tw hm cell).toNat, by omega⟩
    have hk4 : k < 4 := by omega
    have h21 : Ru sc (d + 5) mX12_seesCell 21 [Vr (some 283), Vi (f : Int), Vi (cell : Int), Vi (hm : Int), Vx 0, Vx 0, Vx 0] [] (hI h I) = some (.inl (Vi (bz (vis (I 284) (I 284 (307 + 4 * f + 2)) k (ap hm cell) hm))), hI h I) := by
      rw [q_X12_seesCell_21]
      simp only [e6, i1, i3, Nat.reduceEqDiff, ↓reduceIte]
      by_cases hxc : hm = cell
      · have h0 : ap hm cell = 0 := hb.2.2.2.mpr hxc
        rw [h0, if_pos (by rw [hxc]), if_neg (by omega)]
        exact (hgo 3 (by omega) 0 hm _ hm36 h0 (Or.inl hxc)).trans rfl
      · have e := hmm.2 hxc h1
        have hgk := hgo k hk4 (ap hm cell) hm (Vx 0) hm36 rfl (Or.inr hk)
        rw [hk] at e
        by_cases h3 : hm % 6 = cell % 6
        · rw [if_pos h3] at e ⊢
          by_cases h4 : cell < hm
          · rw [if_pos h4] at e ⊢
            rw [e] at hgk
            exact hgk
          · rw [if_neg h4] at e ⊢
            rw [e] at hgk
            exact hgk
        · rw [if_neg h3] at e ⊢
          by_cases h4 : cell < hm
          · rw [if_pos h4] at e ⊢
            rw [e] at hgk
            exact hgk
          · rw [if_neg h4] at e ⊢
            rw [e] at hgk
            exact hgk
    rw [hk, if_neg (show ¬ (k : Int) = -1 by omega), Int.toNat_natCast]
    by_cases h3 : hm % 6 = cell % 6
    · rw [if_pos h3]
      exact h21
    · rw [if_neg h3, if_pos (h2.resolve_left h3)]
      exact h21
end
