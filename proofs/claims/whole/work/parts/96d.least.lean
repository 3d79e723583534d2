/-! THE LEAST COSTS, ONE ROW FOR BOTH -/
def ini (c : Nat) : Nat → Int := fun u => if u = c then 0 else 1000000
def Lst (op : Int → Int → Int) (ad : Nat → Int) (C0 F : Nat → Int) : Prop := stb op lc mc ad F ∧ (∀ u, u < 36 → F u ≤ C0 u) ∧ ∀ G, stb op lc mc ad G → (∀ u, u < 36 → G u ≤ C0 u) → ∀ u, u < 36 → G u ≤ F u
theorem Lst.uni {op : Int → Int → Int} {ad C0 F G : Nat → Int} (a : Lst op ad C0 F) (b : Lst op ad C0 G) : ∀ u, u < 36 → F u = G u := fun u hu => by
  have h1 := a.2.2 G b.1 b.2.1 u hu
  have h2 := b.2.2 F a.1 a.2.1 u hu
  omega
theorem Lst.of {op : Int → Int → Int} {ad C0 C : Nat → Int} {K : Nat} (hm : mon op) (hC : ∀ u, u < 36 → C u = C0 u) (hs : stb op lc mc ad (it op lc mc ad K C)) : Lst op ad C0 (it op lc mc ad K C) := by
  refine ⟨hs, fun u hu => ?_, fun G hG h u hu => it_ge hm (fun b hb => ⟨lc_lt b hb, mc_lt b hb⟩) hG (fun u hu => by rw [hC u hu]; exact h u hu) K u hu⟩
  have hle : ∀ k, it op lc mc ad k C u ≤ C u := by
    intro k
    induction k with
    | zero => exact Int.le_refl _
    | succ k ih => exact Int.le_trans (it_le u k) ih
  rw [← hC u hu]
  exact hle K
theorem Lst.pos {op : Int → Int → Int} {ad C0 F : Nat → Int} (hm : mon op) (ha : ∀ b, b < 60 → 0 ≤ ad b) (h0 : ∀ u, u < 36 → 0 ≤ C0 u) (a : Lst op ad C0 F) : ∀ u, u < 36 → 0 ≤ F u :=
  a.2.2 (fun _ => 0) (fun b hb => ⟨hm.2 0 _ (ha b hb), hm.2 0 _ (ha b hb)⟩) h0
theorem stb_cg {op : Int → Int → Int} {ad ad' F : Nat → Int} (h : ∀ b, b < 60 → ad b = ad' b) (s : stb op lc mc ad F) : stb op lc mc ad' F := fun b hb => by rw [← h b hb]; exact s b hb
theorem Lst.cg {op : Int → Int → Int} {ad ad' C0 F : Nat → Int} (h : ∀ b, b < 60 → ad b = ad' b) (a : Lst op ad C0 F) : Lst op ad' C0 F :=
  ⟨stb_cg h a.1, a.2.1, fun G hG => a.2.2 G (stb_cg (fun b hb => (h b hb).symm) hG)⟩
theorem ini_b {c u : Nat} : 0 ≤ ini c u ∧ ini c u ≤ 1000000 := by unfold ini; split <;> omega
/-- a step towards another cell -/
def nx (c o : Nat) : Nat := if c % 6 < o % 6 then c + 1 else if o % 6 < c % 6 then c - 1 else if c < o then c + 6 else c - 6
theorem nx_s : ∀ c : Nat, c < 36 → ∀ o : Nat, o < 36 → c ≠ o → nx c o < 36 ∧ ap (nx c o) o + 1 = ap c o ∧ 0 ≤ bo c (nx c o) ∧ ((lc (bo c (nx c o)).toNat = c ∧ mc (bo c (nx c o)).toNat = nx c o) ∨ (lc (bo c (nx c o)).toNat = nx c o ∧ mc (bo c (nx c o)).toNat = c)) := by decide +kernel
theorem ap_b : ∀ c : Nat, c < 36 → ∀ o : Nat, o < 36 → ap c o ≤ 10 ∧ (ap c o = 0 → c = o) := by decide +kernel
/-- over a grid where each border costs A at most nothing is far -/
theorem nearG {op : Int → Int → Int} {ad F : Nat → Int} {A : Int} (hs : stb op lc mc ad F) (hA : ∀ b x, b < 60 → op x (ad b) ≤ x + A ∨ op x (ad b) ≤ A) (hA0 : 0 ≤ A) {c : Nat} (hc : c < 36) (h0 : F c ≤ 0) : ∀ n o, o < 36 → ap o c = n → F o ≤ A * n := by
  intro n
  induction n with
  | zero =>
    intro o ho ha
    have := (ap_b o ho c hc).2 ha
    rw [this]
    simpa using h0
  | succ n ih =>
    intro o ho ha
    by_cases hoc : o = c
    · subst hoc
      have : ap o o = 0 := by unfold ap; omega
      omega
    · obtain ⟨n1, n2, n3, n4⟩ := nx_s o ho c hc hoc
      have hb := (bo_lt o ho (nx o c) n1)
      have i1 := ih (nx o c) n1 (by omega)
      have hb60 : (bo o (nx o c)).toNat < 60 := by omega
      have s1 := hs _ hb60
      have hAn : 0 ≤ A * n := Int.mul_nonneg hA0 (by omega)
      have e : A * ((n + 1 : Nat) : Int) = A * n + A := by rw [Int.natCast_add, Int.mul_add]; simp
      rw [e]
      have hA1 := hA _ (F (nx o c)) hb60
      rcases n4 with ⟨l, m⟩ | ⟨l, m⟩
      · rw [l, m] at s1
        omega
      · rw [l, m] at s1
        omega
section
variable {sc : Nat × (Nat → Int)} {d a : Nat} {h : am_H} {I : am_I} {w : am_Wd}
theorem m_from (s : Sh h) (V : WW (I 284)) {c : Nat} (hc : c < 36) {way t : Int} : ∃ F, Lst (opv way) (adM (I 284) (I 283 18) (I 283 19) way t) (ini c) F ∧ Cl sc (d + 7) mX12_from [Vr (some 283), Vi (c : Int), Vi way, Vi t] (hI h I) = some (.inl (Vx 0), hI h (sr I 292 F)) := by
  have hr := fo_run0 (F := fun i C => Ru sc (d + 7) mX12_from 3 [Vr (some 283), Vi (c : Int), Vi way, Vi t, Vi (i : Int)] [] (hI h (sr I 292 C))) (f := fun i C => up C i 1000000) (N := 36) (s0 := I 292) (fun i C hi => by
    have hlt : (i : Int) < 36 := by omega
    try dsimp only
    rw [q_X12_from_3]
    simp (disch := first | (simp (disch := omega) only [w32_id]; omega) | omega) only [↓BM s, hlt, u2_sr, w32_succ, e_clI, e_clV, e_clP, e_clIx, e_clVx, e_clPx, e_xt, Int.toNat_natCast, Int.reduceToNat, bz0, bz1, Nat.add_zero, decide_eq_false_iff_not, decide_eq_true_eq, Int.reduceEq, Nat.reduceEqDiff, Int.reduceLT, Int.reduceLE, not_true_eq_false, not_false_eq_true, ↓reduceIte])
  rw [fo_up] at hr
  try dsimp only at hr
  rw [sr_self] at hr
  have e284 : ∀ C, sr I 292 C 284 = I 284 := fun C => sr_ne (by decide)
  have e283 : ∀ C, sr I 292 C 283 = I 283 := fun C => sr_ne (by decide)
  have hi : ∀ u, u < 36 → up (fun u => if u < 36 then (1000000 : Int) else I 292 u) c 0 u = ini c u := by
    intro u hu
    unfold up ini
    by_cases h : u = c
    · rw [if_pos h, if_pos h]
    · rw [if_neg h, if_neg h]
      exact if_pos hu
  obtain ⟨K, k1, k2⟩ := m_flows (sc := sc) (d := d) (I := sr I 292 (up (fun u => if u < 36 then (1000000 : Int) else I 292 u) c 0)) (way := way) (t := t) s (by rw [e284]; exact V) (fun u hu => by rw [sr_q, hi u hu]; exact ini_b)
  rw [e284, e283, sr_q] at k1
  rw [e284, e283, sr_q, sr_sr] at k2
  refine ⟨_, Lst.of (mon_v way) hi k1, ?_⟩
  rw [q_X12_from_0]
  refine hr.trans ?_
  have hlt : ¬ ((36 : Nat) : Int) < 36 := by omega
  rw [q_X12_from_3]
  simp (disch := first | (simp (disch := omega) only [w32_id]; omega) | omega) only [↓BM s, hlt, u2_sr, k2, e_clI, e_clV, e_clP, e_clIx, e_clVx, e_clPx, e_xt, Int.toNat_natCast, Int.reduceToNat, bz0, bz1, Nat.add_zero, decide_eq_false_iff_not, decide_eq_true_eq, Int.reduceEq, Nat.reduceEqDiff, Int.reduceLT, Int.reduceLE, not_true_eq_false, not_false_eq_true, ↓reduceIte]
/-- the class's row -/
theorem c_spreadL (s : Sh h) {q n : Nat} (hq : hT h q = (1, n)) (hn : n ≤ 100000) (h54 : q ≠ 54) (hN : 36 ≤ n) (hA : okC I) {c : Nat} (hc : c < 36) : ∃ F, Lst pl (adC I) (ini c) F ∧ bnd F 36 ∧ Cl sc (d + 5) mX7_spread [Vr (some 53), Vr (some q), Vi (c : Int), Vi 0] (hI h I) = some (.inl (Vx 0), hI h (sr I q F)) := by
  have ha : ∀ b, b < 60 → 0 ≤ adC I b := fun b hb => by
    unfold adC
    have := hA b hb
    split <;> omega
  have hE : isE 0 lc mc 36 := Or.inl ⟨rfl, rfl, rfl, rfl⟩
  have hst := it_done (e1 := lc) (e2 := mc) (ad := adC I) (C := from0 c (I q) n) (n := 36) (by omega) hE.lt ha (fun u hu => by
    unfold from0
    split
    · omega
    · rw [if_pos (by omega)]; omega) 48 (by omega)
  have hi : ∀ u, u < 36 → from0 c (I q) n u = ini c u := fun u hu => by
    unfold from0 ini
    by_cases h : u = c
    · rw [if_pos h, if_pos h]
    · rw [if_neg h, if_neg h, if_pos (by omega)]
  have hL := Lst.of (C0 := ini c) mon_pl hi hst
  refine ⟨_, hL, fun u hu => ⟨hL.pos mon_pl ha (fun u hu => ini_b.1) u hu, Int.le_trans (hL.2.1 u hu) ini_b.2⟩, c_spread s hq hn h54 hE hN hA (by omega)⟩
end
