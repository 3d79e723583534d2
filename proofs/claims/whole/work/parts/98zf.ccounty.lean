/-! A COUNTY'S TEXT: pure, and the class -/
def tgV (A : Nat → Int) (L : Nat) (c : Int) (q : Nat) : Int := if thT A L q = c then 1 else 0
def tgR (A : Nat → Int) (L : Nat) (c : Int) (q : Nat) : Nat := if thT A L q = c then nxT A L q else q
def rdFe2 (A : Nat → Int) (L q : Nat) (w : am_Wd) (b : Nat) : Nat × Option am_Wd := match (opR A L (-18) q 0).2 with
  | none => ((opR A L (-18) q 0).1, none)
  | some ag => match (opR A L (-19) (opR A L (-18) q 0).1 0).2 with
    | none => ((opR A L (-19) (opR A L (-18) q 0).1 0).1, none)
    | some hi => (tgR A L (-24) (tgR A L (-23) (opR A L (-19) (opR A L (-18) q 0).1 0).1), some (feW w b ag hi (tgV A L (-23) (opR A L (-19) (opR A L (-18) q 0).1 0).1) (tgV A L (-24) (tgR A L (-23) (opR A L (-19) (opR A L (-18) q 0).1 0).1))))
def rdFence (A : Nat → Int) (L q : Nat) (w : am_Wd) : Nat × Option am_Wd := if 0 ≤ thT A L q ∧ thT A L q ≤ 35 then (if (0 ≤ thT A L (nxT A L q) ∧ thT A L (nxT A L q) ≤ 35) ∧ bo (thT A L q).toNat (thT A L (nxT A L q)).toNat ≠ -1 then rdFe2 A L (nxT A L (nxT A L q)) w (bo (thT A L q).toNat (thT A L (nxT A L q)).toNat).toNat else (nxT A L q, none)) else (q, none)
def roW (w : am_Wd) (y : Nat) (hi : Int) : Nat → am_Wd
  | 0 => w
  | n + 1 => feW (roW w y hi n) (30 + 6 * y + n) 0 hi 0 0
def rdRow (A : Nat → Int) (L q : Nat) (w : am_Wd) : Nat × Option am_Wd := if 0 ≤ thT A L q ∧ thT A L q ≤ 4 then (if thT A L (nxT A L q) = -19 then (if 0 ≤ thT A L (nxT A L (nxT A L q)) ∧ thT A L (nxT A L (nxT A L q)) ≤ 999 then (nxT A L (nxT A L (nxT A L q)), some (roW w (thT A L q).toNat (thT A L (nxT A L (nxT A L q))) 6)) else (nxT A L (nxT A L q), none)) else (nxT A L q, none)) else (q, none)
def faW (w : am_Wd) (ho cl ey : Int) : am_Wd := up (up (up (up (up w (307 + 4 * (w 0).toNat) ho) (307 + 4 * (w 0).toNat + 1) cl) (307 + 4 * (w 0).toNat + 2) ey) (307 + 4 * (w 0).toNat + 3) 0) 0 (w 0 + 1)
def rdFamily (A : Nat → Int) (L q : Nat) (w : am_Wd) : Nat × Option am_Wd := if thT A L q = -10 then (if 0 ≤ thT A L (nxT A L q) ∧ thT A L (nxT A L q) ≤ 35 then (if thT A L (nxT A L (nxT A L q)) = -11 then (if 0 ≤ thT A L (nxT A L (nxT A L (nxT A L q))) ∧ thT A L (nxT A L (nxT A L (nxT A L q))) ≤ 999 then (match (opR A L (-12) (nxT A L (nxT A L (nxT A L (nxT A L q)))) 60).2 with
  | none => ((opR A L (-12) (nxT A L (nxT A L (nxT A L (nxT A L q)))) 60).1, none)
  | some ey => ((opR A L (-12) (nxT A L (nxT A L (nxT A L (nxT A L q)))) 60).1, some (faW w (thT A L (nxT A L q)) (thT A L (nxT A L (nxT A L (nxT A L q)))) ey))) else (nxT A L (nxT A L (nxT A L q)), none)) else (nxT A L (nxT A L q), none)) else (nxT A L q, none)) else (q, none)
def rdNum (A : Nat → Int) (L q : Nat) (w : am_Wd) (hi : Int) (at_ : Nat) : Nat × Option am_Wd := if 0 ≤ thT A L q ∧ thT A L q ≤ hi then (nxT A L q, some (up w at_ (thT A L q))) else (q, none)
def rdLine (A : Nat → Int) (L q : Nat) (w : am_Wd) : Nat × Option am_Wd := if thT A L q = -6 then rdFence A L (nxT A L q) w else if thT A L q = -7 then rdRow A L (nxT A L q) w else if thT A L q = -8 ∧ w 0 < 6 then rdFamily A L (nxT A L q) w else if thT A L q = -9 then rdNum A L (nxT A L q) w 100 4 else if thT A L q = -22 then rdNum A L (nxT A L q) w 999 3 else (q, none)
def rdLs (A : Nat → Int) (L : Nat) : Nat → Nat → am_Wd → Nat × Option am_Wd
  | 0, q, _ => (q, none)
  | k + 1, q, w => match (rdLine A L q w).2 with
    | none => ((rdLine A L q w).1, none)
    | some w' => if thT A L (rdLine A L q w).1 = -1 then ((rdLine A L q w).1, some w') else if thT A L (rdLine A L q w).1 = -3 then rdLs A L k (nxT A L (rdLine A L q w).1) w' else ((rdLine A L q w).1, none)
def rdCo (A : Nat → Int) (L : Nat) (w : am_Wd) : Nat × Option am_Wd := if thT A L (blk A L 0) = -1 then (blk A L 0, some w) else rdLs A L 14 (blk A L 0) w
/-! what is read is in order -/
section
variable {A : Nat → Int} {L q : Nat} {w : am_Wd}
theorem opR_b {c dv : Int} (hd : 0 ≤ dv ∧ dv ≤ 999) {v : Int} (h : (opR A L c q dv).2 = some v) : 0 ≤ v ∧ v ≤ 999 := by
  unfold opR at h
  by_cases h1 : thT A L q = c
  · rw [if_pos h1] at h
    by_cases h2 : 0 ≤ thT A L (nxT A L q) ∧ thT A L (nxT A L q) ≤ 999
    · rw [if_pos h2] at h
      cases h
      exact h2
    · rw [if_neg h2] at h
      cases h
  · rw [if_neg h1] at h
    cases h
    exact hd
theorem tgV_b {c : Int} : tgV A L c q = 0 ∨ tgV A L c q = 1 := by
  unfold tgV
  split
  · exact Or.inr rfl
  · exact Or.inl rfl
def Ok2 (w v : am_Wd) : Prop := WW v ∧ T2 w v
theorem Ok2.tr {u v : am_Wd} (a : Ok2 w v) (b : Ok2 v u) : Ok2 w u := ⟨b.1, a.2.tr b.2⟩
theorem Ok2.fe (V : WW w) {b : Nat} (hb : b < 60) {ag hi ga st : Int} (h1 : 0 ≤ ag ∧ ag ≤ 999) (h2 : 0 ≤ hi ∧ hi ≤ 999) (h3 : ga = 0 ∨ ga = 1) (h4 : st = 0 ∨ st = 1) : Ok2 w (feW w b ag hi ga st) := ⟨feW_w V hb h1 h2 h3 h4, feW_t hb⟩
theorem rdFe2_ok (V : WW w) {b : Nat} (hb : b < 60) {v : am_Wd} (h : (rdFe2 A L q w b).2 = some v) : Ok2 w v := by
  unfold rdFe2 at h
  cases e1 : (opR A L (-18) q 0).2 with
  | none =>
    rw [e1] at h
    cases h
  | some ag =>
    rw [e1] at h
    cases e2 : (opR A L (-19) (opR A L (-18) q 0).1 0).2 with
    | none =>
      rw [e2] at h
      cases h
    | some hi =>
      rw [e2] at h
      cases h
      exact Ok2.fe V hb (opR_b (by decide) e1) (opR_b (by decide) e2) tgV_b tgV_b
theorem bo_b {c o : Nat} (hc : c < 36) (ho : o < 36) (h : bo c o ≠ -1) : (bo c o).toNat < 60 ∧ bo c o = ((bo c o).toNat : Int) := by
  have := bo_lt c hc o ho
  omega
theorem rdFence_ok (V : WW w) {v : am_Wd} (h : (rdFence A L q w).2 = some v) : Ok2 w v := by
  unfold rdFence at h
  by_cases h1 : 0 ≤ thT A L q ∧ thT A L q ≤ 35
  · rw [if_pos h1] at h
    by_cases h2 : (0 ≤ thT A L (nxT A L q) ∧ thT A L (nxT A L q) ≤ 35) ∧ bo (thT A L q).toNat (thT A L (nxT A L q)).toNat ≠ -1
    · rw [if_pos h2] at h
      exact rdFe2_ok V (bo_b (by omega) (by omega) h2.2).1 h
    · rw [if_neg h2] at h
      cases h
  · rw [if_neg h1] at h
    cases h
theorem roW_ok (V : WW w) {y : Nat} (hy : y ≤ 4) {hi : Int} (h2 : 0 ≤ hi ∧ hi ≤ 999) : ∀ n, n ≤ 6 → Ok2 w (roW w y hi n)
  | 0, _ => ⟨V, T2.rf w⟩
  | n + 1, hn => by
    have ih := roW_ok V hy h2 n (by omega)
    exact ih.tr (Ok2.fe ih.1 (by omega) (by decide) h2 (Or.inl rfl) (Or.inl rfl))
theorem rdRow_ok (V : WW w) {v : am_Wd} (h : (rdRow A L q w).2 = some v) : Ok2 w v := by
  unfold rdRow at h
  by_cases h1 : 0 ≤ thT A L q ∧ thT A L q ≤ 4
  · rw [if_pos h1] at h
    by_cases h2 : thT A L (nxT A L q) = -19
    · rw [if_pos h2] at h
      by_cases h3 : 0 ≤ thT A L (nxT A L (nxT A L q)) ∧ thT A L (nxT A L (nxT A L q)) ≤ 999
      · rw [if_pos h3] at h
        cases h
        exact roW_ok V (by omega) h3 6 (Nat.le_refl _)
      · rw [if_neg h3] at h
        cases h
    · rw [if_neg h2] at h
      cases h
  · rw [if_neg h1] at h
    cases h
theorem up0_w (V : WW w) {x : Int} (hx : 0 ≤ x ∧ x ≤ 6) : WW (up w 0 x) := by
  refine V.chS (fun j h1 h2 => up_o (by omega)) ?_
  obtain ⟨v0, v1, v2, v3, v4, v5, v6⟩ := V.ws
  unfold WS
  rw [up_s, up_o (by decide), up_o (by decide), up_o (by decide), up_o (by decide), up_o (by decide), up_o (by decide)]
  exact ⟨hx, v1, v2, v3, v4, v5, v6⟩
theorem faW_ok (V : WW w) (hf : w 0 < 6) {ho cl ey : Int} (h1 : 0 ≤ ho ∧ ho ≤ 35) (h2 : 0 ≤ cl ∧ cl ≤ 999) (h3 : 0 ≤ ey ∧ ey ≤ 999) : Ok2 w (faW w ho cl ey) := by
  have hF := V.fa
  have hf6 : (w 0).toNat < 6 := by omega
  unfold faW
  generalize (w 0).toNat = f at hf6 ⊢
  have V1 : WW (up w (307 + 4 * f) ho) := upM_w (k := 0) V hf6 (by decide) ⟨fun _ => by omega, fun z => absurd z (by decide), fun z => absurd z (by decide), fun z => absurd z (by decide)⟩
  have V2 := upM_w (k := 1) (y := cl) V1 hf6 (by decide) ⟨fun z => absurd z (by decide), fun _ => h2, fun z => absurd z (by decide), fun z => absurd z (by decide)⟩
  have V3 := upM_w (k := 2) (y := ey) V2 hf6 (by decide) ⟨fun z => absurd z (by decide), fun z => absurd z (by decide), fun _ => h3, fun z => absurd z (by decide)⟩
  have V4 := upM_w (k := 3) (y := 0) V3 hf6 (by decide) ⟨fun z => absurd z (by decide), fun z => absurd z (by decide), fun z => absurd z (by decide), fun _ => by omega⟩
  exact ⟨up0_w V4 (by omega), (((((T2.rf w).up (by omega) (by omega)).up (by omega) (by omega)).up (by omega) (by omega)).up (by omega) (by omega)).up (by decide) (by decide)⟩
theorem rdFamily_ok (V : WW w) (hf : w 0 < 6) {v : am_Wd} (h : (rdFamily A L q w).2 = some v) : Ok2 w v := by
  unfold rdFamily at h
  by_cases h1 : thT A L q = -10
  · rw [if_pos h1] at h
    by_cases h2 : 0 ≤ thT A L (nxT A L q) ∧ thT A L (nxT A L q) ≤ 35
    · rw [if_pos h2] at h
      by_cases h3 : thT A L (nxT A L (nxT A L q)) = -11
      · rw [if_pos h3] at h
        by_cases h4 : 0 ≤ thT A L (nxT A L (nxT A L (nxT A L q))) ∧ thT A L (nxT A L (nxT A L (nxT A L q))) ≤ 999
        · rw [if_pos h4] at h
          cases e : (opR A L (-12) (nxT A L (nxT A L (nxT A L (nxT A L q)))) 60).2 with
          | none =>
            rw [e] at h
            cases h
          | some ey =>
            rw [e] at h
            cases h
            exact faW_ok V hf h2 h4 (opR_b (by decide) e)
        · rw [if_neg h4] at h
          cases h
      · rw [if_neg h3] at h
        cases h
    · rw [if_neg h2] at h
      cases h
  · rw [if_neg h1] at h
    cases h
theorem rdNum_ok (V : WW w) {hi : Int} {k : Nat} (hk : (k = 4 ∧ hi = 100) ∨ (k = 3 ∧ hi = 999)) {v : am_Wd} (h : (rdNum A L q w hi k).2 = some v) : Ok2 w v := by
  unfold rdNum at h
  by_cases h1 : 0 ≤ thT A L q ∧ thT A L q ≤ hi
  · rw [if_pos h1] at h
    cases h
    obtain ⟨v0, v1, v2, v3, v4, v5, v6⟩ := V.ws
    refine ⟨V.chS (fun j h1 h2 => up_o (by omega)) ?_, (T2.rf w).up (by omega) (by omega)⟩
    unfold WS
    rcases hk with ⟨rfl, rfl⟩ | ⟨rfl, rfl⟩
    · rw [up_s, up_o (by decide), up_o (by decide), up_o (by decide), up_o (by decide), up_o (by decide), up_o (by decide)]
      exact ⟨v0, v1, v2, v3, h1, v5, v6⟩
    · rw [up_s, up_o (by decide), up_o (by decide), up_o (by decide), up_o (by decide), up_o (by decide), up_o (by decide)]
      exact ⟨v0, v1, v2, by omega, v4, v5, v6⟩
  · rw [if_neg h1] at h
    cases h
theorem rdLine_ok (V : WW w) {v : am_Wd} (h : (rdLine A L q w).2 = some v) : Ok2 w v := by
  unfold rdLine at h
  by_cases h1 : thT A L q = -6
  · rw [if_pos h1] at h
    exact rdFence_ok V h
  · rw [if_neg h1] at h
    by_cases h2 : thT A L q = -7
    · rw [if_pos h2] at h
      exact rdRow_ok V h
    · rw [if_neg h2] at h
      by_cases h3 : thT A L q = -8 ∧ w 0 < 6
      · rw [if_pos h3] at h
        exact rdFamily_ok V h3.2 h
      · rw [if_neg h3] at h
        by_cases h4 : thT A L q = -9
        · rw [if_pos h4] at h
          exact rdNum_ok V (Or.inl ⟨rfl, rfl⟩) h
        · rw [if_neg h4] at h
          by_cases h5 : thT A L q = -22
          · rw [if_pos h5] at h
            exact rdNum_ok V (Or.inr ⟨rfl, rfl⟩) h
          · rw [if_neg h5] at h
            cases h
theorem rdLs_ok : ∀ k q (w : am_Wd) {v : am_Wd}, WW w → (rdLs A L k q w).2 = some v → Ok2 w v
  | 0, _, _, _, _, h => by cases h
  | k + 1, q, w, v, V, h => by
    unfold rdLs at h
    cases e : (rdLine A L q w).2 with
    | none =>
      rw [e] at h
      cases h
    | some w' =>
      rw [e] at h
      have o := rdLine_ok V e
      by_cases h1 : thT A L (rdLine A L q w).1 = -1
      · simp only [if_pos h1] at h
        cases h
        exact o
      · by_cases h2 : thT A L (rdLine A L q w).1 = -3
        · simp only [if_neg h1, if_pos h2] at h
          exact o.tr (rdLs_ok k _ w' o.1 h)
        · simp only [if_neg h1, if_neg h2] at h
          cases h
theorem rdCo_ok (V : WW w) {v : am_Wd} (h : (rdCo A L w).2 = some v) : Ok2 w v := by
  unfold rdCo at h
  by_cases h1 : thT A L (blk A L 0) = -1
  · rw [if_pos h1] at h
    cases h
    exact ⟨V, T2.rf w⟩
  · rw [if_neg h1] at h
    exact rdLs_ok 14 _ w V h
end
