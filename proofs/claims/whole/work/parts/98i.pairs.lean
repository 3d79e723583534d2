/-! PAIRS: the two sides -/
theorem tb_hi {S g : Nat} (hS : S < 64) (h1 : 1 ≤ S) (hg : g < 6) (hb : tb (rs S) g = true) : tb S g = true ∧ lw S < g := by
  have t4 := tb_4 S hS h1
  have t3 := tb_3 S hS (lw S) t4.1.2 t4.1.1 g hg
  have hb2 : tb (S - 2 ^ lw S) g = true := hb
  rw [t3, Bool.and_eq_true, decide_eq_true_eq] at hb2
  refine ⟨hb2.1, ?_⟩
  rcases Nat.lt_or_ge g (lw S) with z | z
  · rw [t4.2 g hg z] at hb2
    cases hb2.1
  · omega
theorem ch_cg2 {vp vp' : Nat → Nat → Int} {W W' : Nat → Int} {n S : Nat} (hn : n < 7) (hv : ∀ f g, f < g → g < n → vp f g = vp' f g) (hW : ∀ S, S < 2 ^ n → W S = W' S) (h1 : 1 ≤ S) (hS : S < 2 ^ n) : ch vp W S n = ch vp' W' S n := by
  have h64 := two_le hn
  have hS64 : S < 64 := Nat.lt_of_lt_of_le hS h64
  have hr := rs_lt hS64 h1
  refine ch_cg (fun g hg => ?_)
  unfold cnd
  cases hb : tb (rs S) g
  · rfl
  · have hh := tb_hi hS64 h1 (by omega) hb
    rw [hv _ _ hh.2 hg, hW S hS, hW (rs S - 2 ^ g) (Nat.lt_trans (Nat.lt_of_le_of_lt (Nat.sub_le _ _) hr) hS)]
theorem prF_cg {vp vp' : Nat → Nat → Int} {W W' : Nat → Int} {n x : Nat} (hn : n < 7) (hv : ∀ f g, f < g → g < n → vp f g = vp' f g) (hW : ∀ S, S < 2 ^ n → W S = W' S) (hx : x < 6) : ∀ k S, S < 2 ^ n → tb S x = true → prF vp W n x k S = prF vp' W' n x k S := by
  have h64 := two_le hn
  intro k
  induction k with
  | zero => exact fun _ _ _ => rfl
  | succ k ih =>
    intro S hS hb
    have hS64 : S < 64 := Nat.lt_of_lt_of_le hS h64
    have hS1 : 1 ≤ S := by
      rcases Nat.eq_zero_or_pos S with z | z
      · rw [z, tb_0 x hx] at hb
        cases hb
      · exact z
    have ec := ch_cg2 hn hv hW hS1 hS
    have en : nxt vp W S n = nxt vp' W' S n := by unfold nxt; rw [ec]
    have hl := nxt_lt (vp := vp) (W := W) (n := n) hS64 hS1
    show (if lw S = x then _ else _) = (if lw S = x then _ else _)
    rw [ec]
    by_cases e1 : lw S = x
    · rw [if_pos e1, if_pos e1]
    · rw [if_neg e1, if_neg e1]
      by_cases e2 : ch vp' W' S n = x
      · rw [if_pos e2, if_pos e2]
      · rw [if_neg e2, if_neg e2, ← en]
        have hi := (ch_in (vp := vp) (W := W) hS64 hS1 hn).2.2.2 x hx
        rw [ec] at hi
        refine ih _ (by omega) ?_
        rw [hi, hb, decide_eq_true (show x ≠ lw S from fun z => e1 z.symm), decide_eq_true (show ch vp' W' S n = n ∨ x ≠ ch vp' W' S n from Or.inr (fun z => e2 z.symm))]
        rfl
section
variable {sc : Nat × (Nat → Int)} {d a : Nat} {h : am_H} {I J : am_I} {w : am_Wd}
theorem pb_ch {n : Nat} (hn : n < 7) {S : Nat} (h1 : 1 ≤ S) (hS : S < 2 ^ n) (hW : WR (2 ^ n) (vpm I) (I 301)) (hv : ∀ f g, f < g → g < n → vps I f g = -1 ∨ (96400 ≤ vps I f g ∧ vps I f g ≤ 100000)) : pb I n S (ch (vpm I) (I 301) S n) = I 301 S ∧ ∀ g, g < ch (vpm I) (I 301) S n → pb I n S g ≠ I 301 S := by
  have h64 := two_le hn
  have hS64 : S < 64 := Nat.lt_of_lt_of_le hS h64
  have h0 := (hW.2 S hS).1.1
  have hno : ∀ g, g < n → cnd (vpm I) (I 301) S g = false → pb I n S g ≠ I 301 S := by
    intro g hg hc
    rcases pb_cnd hn h1 hS hv hg with ⟨c1, c2, c3⟩ | ⟨c1, c2⟩
    · intro e
      unfold cnd at hc
      rw [c1, decide_eq_true c2, decide_eq_true (show vpm I (lw S) g + I 301 (rs S - 2 ^ g) = I 301 S by rw [← c3]; exact e)] at hc
      cases hc
    · omega
  rcases ch_p (vp := vpm I) (W := I 301) (S := S) (n := n) with ⟨z1, z2⟩ | ⟨z1, z2, z3⟩
  · refine ⟨?_, fun g hg => hno g (by omega) (z2 g (by omega))⟩
    rw [z1]
    unfold pb
    rw [if_pos rfl]
    rcases ((hW.2 S hS).2 h1).2 with z | ⟨g, g1, g2, g3, g4⟩
    · exact z.symm
    · have hh := tb_hi hS64 h1 g1 g2
      have hgn := tb_6 n hn S hS64 g g1 ⟨hS, hh.1⟩
      have hc := z2 g hgn
      unfold cnd at hc
      rw [g2, decide_eq_true g3, decide_eq_true g4.symm] at hc
      cases hc
  · refine ⟨?_, fun g hg => hno g (by omega) (z3 g hg)⟩
    unfold cnd at z2
    rw [Bool.and_eq_true, Bool.and_eq_true, decide_eq_true_eq, decide_eq_true_eq] at z2
    rcases pb_cnd hn h1 hS hv z1 with ⟨c1, c2, c3⟩ | ⟨c1, c2⟩
    · rw [c3]
      exact z2.2.2
    · rcases c1 with y | y
      · rw [z2.1] at y
        cases y
      · exact absurd z2.2.1 y
theorem m_pairsLoop (s : Sh h) {n : Nat} (hn : n < 7) (hw : I 284 0 = (n : Int)) (hW : WR (2 ^ n) (vpm I) (I 301)) (hv : ∀ f g, f < g → g < n → vps I f g = -1 ∨ (96400 ≤ vps I f g ∧ vps I f g ≤ 100000)) {x : Nat} (hx : x < n) : ∀ S : Nat, S < 2 ^ n → tb S x = true → ∀ (i3 : Int) (u5 u6 : am_V), Ru sc (d + 4) mX12_pairs 48 [Vr (some 283), Vi (x : Int), Vi (S : Int), Vi i3, Vi 0, u5, u6] [] (hI h I) = some (.inl (Vi (prF (vpm I) (I 301) n x 64 S)), hI h I) := by
  have h64 := two_le hn
  intro S
  induction S using Nat.strongRecOn with
  | ind S ih =>
    intro hS hb i3 u5 u6
    have hS64 : S < 64 := Nat.lt_of_lt_of_le hS h64
    have hS1 : 1 ≤ S := by
      rcases Nat.eq_zero_or_pos S with z | z
      · rw [z, tb_0 x (by omega)] at hb
        cases hb
      · exact z
    obtain ⟨c1, c2, c3, c4⟩ := ch_in (vp := vpm I) (W := I 301) hS64 hS1 hn
    obtain ⟨p1, p2⟩ := pb_ch hn hS1 hS hW hv
    have hl := nxt_lt (vp := vpm I) (W := I 301) (n := n) hS64 hS1
    have hk := prF_k (vp := vpm I) (W := I 301) (n := n) (x := x) hn 63 64 (nxt (vpm I) (I 301) S n)
    have hpr : prF (vpm I) (I 301) n x 64 S = if lw S = x then (if ch (vpm I) (I 301) S n = n then -1 else (ch (vpm I) (I 301) S n : Int)) else if ch (vpm I) (I 301) S n = x then (lw S : Int) else prF (vpm I) (I 301) n x 63 (nxt (vpm I) (I 301) S n) := rfl
    have hnx : nxt (vpm I) (I 301) S n = if ch (vpm I) (I 301) S n = n then rs S else rs S - 2 ^ ch (vpm I) (I 301) S n := rfl
    have hcn : ch (vpm I) (I 301) S n ≤ n := by omega
    have hrs := rs_lt hS64 hS1
    have hWb : Wb S (I 301) := fun T hT => hW.b T (by omega)
    have hb1 := (tb_2 S hS64 (lw S) c1 c2).1
    have hS64' : (S : Int) < 64 := by omega
    rw [hpr]
    generalize ch (vpm I) (I 301) S n = c at c3 c4 p1 p2 hk hnx hl hcn ⊢
    generalize nxt (vpm I) (I 301) S n = S' at c4 hk hnx hl ⊢
    have hf := m_firstOf (sc := sc) (d := d + 1) (h := hI h I) hS64 hS1
    have hpb : ∀ g, g ≤ n → Cl sc (d + 3) mX12_pairedBy [Vr (some 283), Vi (S : Int), Vi (g : Int)] (hI h I) = some (.inl (Vi (pb I n S g)), hI h I) := fun g hg => m_pairedBy (sc := sc) (d := d) s hn hw hS1 hS hg hWb hv
    have inner : ∀ g, g ≤ c → Ru sc (d + 4) mX12_pairs 56 [Vr (some 283), Vi (x : Int), Vi (S : Int), Vi i3, Vi 0, Vi (lw S : Int), Vi 0] [] (hI h I) = Ru sc (d + 4) mX12_pairs 56 [Vr (some 283), Vi (x : Int), Vi (S : Int), Vi i3, Vi 0, Vi (lw S : Int), Vi (g : Int)] [] (hI h I) := by
      clear hnx hk hb1 c4 hl
      intro g
      induction g with
      | zero => exact fun _ => rfl
      | succ g ih2 =>
        intro hg
        have e1 := hpb g (Nat.le_trans (Nat.le_of_succ_le hg) hcn)
        have e2 := p2 g (Nat.lt_of_succ_le hg)
        have wn : w32 ((g : Int) + 1) = ((g + 1 : Nat) : Int) := w32_succ (by clear e1 e2 ih2 p1 p2 ih; omega)
        rw [ih2 (Nat.le_of_succ_le hg), q_X12_pairs_56]
        simp (disch := first | assumption | exact Int.natCast_nonneg _ | decide) only [↓BM s, e1, e2, wn, e_clI, e_clV, e_clP, e_clIx, e_clVx, e_clPx, e_xt, Int.toNat_natCast, Int.reduceToNat, bz0, bz1, Nat.add_zero, decide_eq_false_iff_not, decide_eq_true_eq, Int.reduceEq, Nat.reduceEqDiff, Int.reduceLT, Int.reduceLE, not_true_eq_false, not_false_eq_true, eq_self, ↓reduceIte]
    have e1 := hpb c hcn
    rw [p1] at e1
    have hS0 : (0 : Int) ≤ (S : Int) := Int.natCast_nonneg S
    rw [q_X12_pairs_48]
    simp (disch := first | assumption | exact Int.natCast_nonneg _ | decide) only [↓BM s, hf, e_clI, e_clV, e_clP, e_clIx, e_clVx, e_clPx, e_xt, Int.toNat_natCast, Int.reduceToNat, bz0, bz1, Nat.add_zero, decide_eq_false_iff_not, decide_eq_true_eq, Int.reduceEq, Nat.reduceEqDiff, Int.reduceLT, Int.reduceLE, not_true_eq_false, not_false_eq_true, eq_self, ↓reduceIte]
    rw [inner c (Nat.le_refl _), q_X12_pairs_56]
    by_cases x4 : c = n
    · rw [if_pos x4] at hnx
      rw [← show rs S = S - 2 ^ lw S from rfl, ← hnx] at hb1
      have c4x := c4 x (by omega)
      clear c3 c4 inner hpb p2 hnx
      subst x4
      by_cases x1 : lw S = x
      · have x1' : ((lw S : Nat) : Int) = (x : Int) := by rw [x1]
        rw [if_pos x1, if_pos rfl]
        rw [x1']
        simp (disch := first | assumption | exact Int.natCast_nonneg _ | decide) only [↓BM s, e1, m_families s, hw, q_X12_pairs_84, q_X12_pairs_48, e_clI, e_clV, e_clP, e_clIx, e_clVx, e_clPx, e_xt, Int.toNat_natCast, Int.reduceToNat, bz0, bz1, Nat.add_zero, decide_eq_false_iff_not, decide_eq_true_eq, Int.reduceEq, Nat.reduceEqDiff, Int.reduceLT, Int.reduceLE, not_true_eq_false, not_false_eq_true, eq_self, ↓reduceIte]
      · have x1' : ¬ ((lw S : Nat) : Int) = (x : Int) := by omega
        have x2 : ¬ c = x := by omega
        have x2' : ¬ ((c : Nat) : Int) = (x : Int) := by omega
        rw [if_neg x1, if_neg x2]
        rw [hb, decide_eq_true (show x ≠ lw S from fun z => x1 z.symm), decide_eq_true (show c = c ∨ x ≠ c from Or.inl rfl)] at c4x
        have go2 := ih S' hl (by omega) c4x (lw S : Int)
        rw [hk (by omega) (by omega) (by omega) (by omega) c4x]
        simp (disch := first | assumption | exact Int.natCast_nonneg _ | decide) only [↓BM s, e1, x1', x2', m_families s, hw, q_X12_pairs_84, hb1, go2, e_clI, e_clV, e_clP, e_clIx, e_clVx, e_clPx, e_xt, Int.toNat_natCast, Int.reduceToNat, bz0, bz1, Nat.add_zero, decide_eq_false_iff_not, decide_eq_true_eq, Int.reduceEq, Nat.reduceEqDiff, Int.reduceLT, Int.reduceLE, not_true_eq_false, not_false_eq_true, eq_self, ↓reduceIte]
    · have x4' : ¬ ((c : Nat) : Int) = (n : Int) := by omega
      rw [if_neg x4] at hnx
      have c5 : lw S < c ∧ tb (rs S) c = true := by
        rcases c3 with z | z
        · exact absurd z x4
        · exact ⟨z.2.1, z.2.2.2.1⟩
      have hb2 := (tb_2 (rs S) (by clear hb1 hnx; omega) c (by clear hb1 hnx; omega) c5.2).1
      rw [← hnx] at hb2
      rw [← show rs S = S - 2 ^ lw S from rfl] at hb1
      have c4x := c4 x (by clear hb1 hnx; omega)
      clear c3 c4 inner hpb p2 hnx
      by_cases x1 : lw S = x
      · have x1' : ((lw S : Nat) : Int) = (x : Int) := by rw [x1]
        rw [if_pos x1, if_neg x4]
        rw [x1']
        simp (disch := first | assumption | exact Int.natCast_nonneg _ | decide) only [↓BM s, e1, x4', m_families s, hw, q_X12_pairs_84, q_X12_pairs_48, e_clI, e_clV, e_clP, e_clIx, e_clVx, e_clPx, e_xt, Int.toNat_natCast, Int.reduceToNat, bz0, bz1, Nat.add_zero, decide_eq_false_iff_not, decide_eq_true_eq, Int.reduceEq, Nat.reduceEqDiff, Int.reduceLT, Int.reduceLE, not_true_eq_false, not_false_eq_true, eq_self, ↓reduceIte]
      · have x1' : ¬ ((lw S : Nat) : Int) = (x : Int) := by omega
        rw [if_neg x1]
        by_cases x2 : c = x
        · have x2' : ((c : Nat) : Int) = (x : Int) := by rw [x2]
          have x3 : ¬ ((lw S : Nat) : Int) = (n : Int) := by omega
          rw [if_pos x2]
          rw [x2'] at e1 x4' ⊢
          simp (disch := first | assumption | exact Int.natCast_nonneg _ | decide) only [↓BM s, e1, x1', m_families s, hw, x4', x3, q_X12_pairs_84, q_X12_pairs_48, e_clI, e_clV, e_clP, e_clIx, e_clVx, e_clPx, e_xt, Int.toNat_natCast, Int.reduceToNat, bz0, bz1, Nat.add_zero, decide_eq_false_iff_not, decide_eq_true_eq, Int.reduceEq, Nat.reduceEqDiff, Int.reduceLT, Int.reduceLE, not_true_eq_false, not_false_eq_true, eq_self, ↓reduceIte]
        · have x2' : ¬ ((c : Nat) : Int) = (x : Int) := by omega
          rw [if_neg x2]
          rw [hb, decide_eq_true (show x ≠ lw S from fun z => x1 z.symm), decide_eq_true (show c = n ∨ x ≠ c from Or.inr (fun z => x2 z.symm))] at c4x
          have go2 := ih S' hl (by omega) c4x (lw S : Int)
          rw [hk (by omega) (by omega) (by omega) (by omega) c4x]
          simp (disch := first | assumption | exact Int.natCast_nonneg _ | decide) only [↓BM s, e1, x1', x2', m_families s, hw, q_X12_pairs_84, x4', hb1, hb2, go2, e_clI, e_clV, e_clP, e_clIx, e_clVx, e_clPx, e_xt, Int.toNat_natCast, Int.reduceToNat, bz0, bz1, Nat.add_zero, decide_eq_false_iff_not, decide_eq_true_eq, Int.reduceEq, Nat.reduceEqDiff, Int.reduceLT, Int.reduceLE, not_true_eq_false, not_false_eq_true, eq_self, ↓reduceIte]
end
