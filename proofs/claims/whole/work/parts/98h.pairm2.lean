/-! PAIRS: the reference's sets -/
def PbI (I : am_I) (n S : Nat) (m : Nat) (B : Int) : Prop := 0 ≤ B ∧ B ≤ 100000 * S ∧ (∀ g, g < m → pb I n S g ≤ B) ∧ (B = 0 ∨ ∃ g, g < m ∧ B = pb I n S g)
def WR (N : Nat) (vp : Nat → Nat → Int) (W : Nat → Int) : Prop := W 0 = 0 ∧ ∀ S, S < N → (0 ≤ W S ∧ W S ≤ 100000 * S) ∧ (1 ≤ S → (W (rs S) ≤ W S ∧ ∀ g, g < 6 → tb (rs S) g = true → 0 < vp (lw S) g → vp (lw S) g + W (rs S - 2 ^ g) ≤ W S) ∧ (W S = W (rs S) ∨ ∃ g, g < 6 ∧ tb (rs S) g = true ∧ 0 < vp (lw S) g ∧ W S = vp (lw S) g + W (rs S - 2 ^ g)))
theorem WR.p {n : Nat} {vp : Nat → Nat → Int} {W : Nat → Int} (h : WR (2 ^ n) vp W) : Wp n vp W := ⟨h.1, fun S h1 h2 => (h.2 S h2).2 h1⟩
theorem WR.b {N : Nat} {vp : Nat → Nat → Int} {W : Nat → Int} (h : WR N vp W) : Wb N W := fun S hS => (h.2 S hS).1
theorem pb_cnd {I : am_I} {n S : Nat} (hn : n < 7) (h1 : 1 ≤ S) (hS : S < 2 ^ n) (hv : ∀ f g, f < g → g < n → vps I f g = -1 ∨ (96400 ≤ vps I f g ∧ vps I f g ≤ 100000)) {g : Nat} (hg : g < n) : (tb (rs S) g = true ∧ 0 < vpm I (lw S) g ∧ pb I n S g = vpm I (lw S) g + I 301 (rs S - 2 ^ g)) ∨ ((tb (rs S) g = false ∨ ¬ 0 < vpm I (lw S) g) ∧ pb I n S g = -1) := by
  have h64 := two_le hn
  have hS64 : S < 64 := Nat.lt_of_lt_of_le hS h64
  have t4 := tb_4 S hS64 h1
  unfold pb vpm
  rw [if_neg (show ¬ g = n by omega)]
  cases hb : tb (rs S) g
  · exact Or.inr ⟨Or.inl rfl, if_neg (show ¬ (false = true) by decide)⟩
  · rw [if_pos (show true = true from rfl)]
    have t3 := tb_3 S hS64 (lw S) t4.1.2 t4.1.1 g (by omega)
    have hb2 : tb (S - 2 ^ lw S) g = true := hb
    rw [t3, Bool.and_eq_true, decide_eq_true_eq] at hb2
    have hlg : lw S < g := by
      rcases Nat.lt_or_ge g (lw S) with z | z
      · rw [t4.2 g (by omega) z] at hb2
        cases hb2.1
      · have := hb2.2
        omega
    have hvv := hv (lw S) g hlg hg
    by_cases hm : vps I (lw S) g = -1
    · rw [if_pos hm, if_pos hm]
      exact Or.inr ⟨Or.inr (by omega), rfl⟩
    · rw [if_neg hm, if_neg hm]
      exact Or.inl ⟨rfl, by omega, rfl⟩
theorem WR.add {I : am_I} {n N : Nat} (hn : n < 7) (hN : 1 ≤ N) (hNn : N < 2 ^ n) (hv : ∀ f g, f < g → g < n → vps I f g = -1 ∨ (96400 ≤ vps I f g ∧ vps I f g ≤ 100000)) (h : WR N (vpm I) (I 301)) {B : Int} (hB : PbI I n N (n + 1) B) : WR (N + 1) (vpm I) (up (I 301) N B) := by
  have h64 := two_le hn
  have hN64 : N < 64 := Nat.lt_of_lt_of_le hNn h64
  have hr := rs_lt hN64 hN
  have t4 := tb_4 N hN64 hN
  have hu : ∀ S, S < N → up (I 301) N B S = I 301 S := fun S hS => up_o (by omega)
  have hl : ∀ g, rs N - 2 ^ g < N := fun g => Nat.lt_of_le_of_lt (Nat.sub_le _ _) hr
  have e0 : pb I n N n = I 301 (rs N) := if_pos rfl
  obtain ⟨b1, b2, b3, b4⟩ := hB
  have bn := b3 n (Nat.lt_succ_self n)
  rw [e0] at bn
  refine ⟨by rw [hu 0 (by omega)]; exact h.1, fun S hS => ?_⟩
  by_cases e : S = N
  · rw [e, up_s, hu _ hr]
    refine ⟨⟨b1, b2⟩, fun _ => ⟨⟨bn, fun g hg hb hp => ?_⟩, ?_⟩⟩
    · rw [hu _ (hl g)]
      have hgn : g < n := by
        have t3 := tb_3 N hN64 (lw N) t4.1.2 t4.1.1 g hg
        have hb2 : tb (N - 2 ^ lw N) g = true := hb
        rw [t3, Bool.and_eq_true] at hb2
        exact tb_6 n hn N hN64 g hg ⟨hNn, hb2.1⟩
      rcases pb_cnd hn hN hNn hv hgn with ⟨c1, c2, c3⟩ | ⟨c1, c2⟩
      · rw [← c3]
        exact b3 g (by omega)
      · rcases c1 with z | z
        · rw [hb] at z
          cases z
        · exact absurd hp z
    · have h0 := (h.2 (rs N) hr).1.1
      rcases b4 with z | ⟨g, g1, g2⟩
      · exact Or.inl (by omega)
      · by_cases eg : g = n
        · rw [eg, e0] at g2
          exact Or.inl g2
        · rcases pb_cnd hn hN hNn hv (g := g) (by omega) with ⟨c1, c2, c3⟩ | ⟨c1, c2⟩
          · exact Or.inr ⟨g, by omega, c1, c2, by rw [hu _ (hl g), ← c3]; exact g2⟩
          · omega
  · have hS2 : S < N := by omega
    have hS' : 1 ≤ S → rs S < N := fun h1 => by have := rs_lt (S := S) (by omega) h1; omega
    rw [hu S hS2]
    refine ⟨(h.2 S hS2).1, fun h1 => ?_⟩
    have hl2 : ∀ g, rs S - 2 ^ g < N := fun g => Nat.lt_of_le_of_lt (Nat.sub_le _ _) (hS' h1)
    obtain ⟨⟨c1, c2⟩, c3⟩ := (h.2 S hS2).2 h1
    rw [hu _ (hS' h1)]
    refine ⟨⟨c1, fun g hg hb hp => by rw [hu _ (hl2 g)]; exact c2 g hg hb hp⟩, ?_⟩
    rcases c3 with z | ⟨g, g1, g2, g3, g4⟩
    · exact Or.inl z
    · exact Or.inr ⟨g, g1, g2, g3, by rw [hu _ (hl2 g)]; exact g4⟩
section
variable {sc : Nat × (Nat → Int)} {d a : Nat} {h : am_H} {I J : am_I} {w : am_Wd}
theorem pb_le {n : Nat} (hn : n < 7) {S g : Nat} (h1 : 1 ≤ S) (hS : S < 2 ^ n) (hg : g ≤ n) (hW : Wb S (I 301)) (hv : ∀ f g, f < g → g < n → vps I f g = -1 ∨ (96400 ≤ vps I f g ∧ vps I f g ≤ 100000)) : pb I n S g ≤ 100000 * S := by
  have h64 := two_le hn
  have hS64 : S < 64 := Nat.lt_of_lt_of_le hS h64
  have hr := rs_lt hS64 h1
  have t4 := tb_4 S hS64 h1
  by_cases e : g = n
  · have e0 : pb I n S g = I 301 (rs S) := by unfold pb; rw [if_pos e]
    have := hW (rs S) hr
    omega
  · rcases pb_cnd hn h1 hS hv (g := g) (by omega) with ⟨c1, c2, c3⟩ | ⟨c1, c2⟩
    · have hTl := tb_lt (Nat.lt_trans hr hS64) (show g < 6 by omega) c1
      have bT := hW (rs S - 2 ^ g) (Nat.lt_trans hTl hr)
      have t3 := tb_3 S hS64 (lw S) t4.1.2 t4.1.1 g (by omega)
      have hb2 : tb (S - 2 ^ lw S) g = true := c1
      rw [t3, Bool.and_eq_true, decide_eq_true_eq] at hb2
      have hlg : lw S < g := by
        rcases Nat.lt_or_ge g (lw S) with z | z
        · rw [t4.2 g (by omega) z] at hb2
          cases hb2.1
        · have := hb2.2
          omega
      have hvv := hv (lw S) g hlg (by omega)
      have hvm : vpm I (lw S) g ≤ 100000 := by
        unfold vpm
        split <;> omega
      rw [c3]
      generalize rs S - 2 ^ g = T at hTl bT ⊢
      omega
    · omega
theorem vpm_sr {I : am_I} {C : Nat → Int} : vpm (sr I 301 C) = vpm I ∧ vps (sr I 301 C) = vps I := by
  have h : vps (sr I 301 C) = vps I := by
    funext f g
    unfold vps
    rw [sr_ne (by decide)]
  refine ⟨?_, h⟩
  funext f g
  unfold vpm
  rw [h]
theorem m_laysPairs (s : Sh h) (V : WW (I 284)) (h18 : I 283 18 = -1) (h19 : I 283 19 = -1) : ∃ K, ((∀ p, p ≠ 292 → p ≠ 301 → p ≠ 302 → K p = I p) ∧ (∀ f g, f < g → g < (I 284 0).toNat → VS1 (I 284) f g (vps K f g)) ∧ WR (2 ^ (I 284 0).toNat) (vpm K) (K 301)) ∧ Cl sc (d + 11) mX12_laysPairs [Vr (some 283)] (hI h I) = some (.inl (Vx 0), hI h K) := by
  have hF := V.fa
  obtain ⟨J, ⟨j1, j2⟩, j3⟩ := m_laysWorth (sc := sc) (d := d) s V h18 h19
  have hn : (I 284 0).toNat < 7 := by omega
  have hw : I 284 0 = (((I 284 0).toNat : Nat) : Int) := by omega
  have hv : ∀ f g, f < g → g < (I 284 0).toNat → vps J f g = -1 ∨ (96400 ≤ vps J f g ∧ vps J f g ≤ 100000) := fun f g h1 h2 => (((j2 f g (by omega) h2).1 h1).p V (by omega) (by omega)).2
  have hvs : ∀ f g, f < g → g < (I 284 0).toNat → VS1 (I 284) f g (vps J f g) := fun f g h1 h2 => (j2 f g (by omega) h2).1 h1
  have j284 : J 284 = I 284 := j1 284 (by decide) (by decide)
  generalize (I 284 0).toNat = n at hn hw hv hvs
  have h64 := two_le hn
  have hsh := (shl_t n hn).1
  have hsr : ∀ C, sr J 301 C 284 0 = (n : Int) := fun C => by rw [sr_ne (by decide), j284]; exact hw
  have go : ∀ N, N + 1 ≤ 2 ^ n → ∃ W u2 u3, WR (N + 1) (vpm J) W ∧ Ru sc (d + 11) mX12_laysPairs 10 [Vr (some 283), Vi 1, Vx 0, Vx 0] [] (hI h (sr J 301 (up (J 301) 0 0))) = Ru sc (d + 11) mX12_laysPairs 10 [Vr (some 283), Vi ((N + 1 : Nat) : Int), u2, u3] [] (hI h (sr J 301 W)) := by
    intro N
    induction N with
    | zero =>
      intro _
      refine ⟨_, Vx 0, Vx 0, ⟨up_s, fun S hS => ?_⟩, rfl⟩
      have : S = 0 := by omega
      subst this
      rw [up_s]
      exact ⟨⟨Int.le_refl 0, Int.le_refl 0⟩, fun z => by omega⟩
    | succ N ih =>
      intro hN
      obtain ⟨W, u2, u3, w1, w2⟩ := ih (by omega)
      have hNn : N + 1 < 2 ^ n := by omega
      have e1 := (vpm_sr (I := J) (C := W)).1
      have e2 := (vpm_sr (I := J) (C := W)).2
      have e3 : sr J 301 W 301 = W := sr_q
      have hv2 : ∀ f g, f < g → g < n → vps (sr J 301 W) f g = -1 ∨ (96400 ≤ vps (sr J 301 W) f g ∧ vps (sr J 301 W) f g ≤ 100000) := by rw [e2]; exact hv
      have hWb : Wb (N + 1) (sr J 301 W 301) := by rw [e3]; exact w1.b
      have inner : ∀ m, m ≤ n + 1 → ∃ B, PbI (sr J 301 W) n (N + 1) m B ∧ Ru sc (d + 11) mX12_laysPairs 21 [Vr (some 283), Vi ((N + 1 : Nat) : Int), Vi 0, Vi 0] [] (hI h (sr J 301 W)) = Ru sc (d + 11) mX12_laysPairs 21 [Vr (some 283), Vi ((N + 1 : Nat) : Int), Vi B, Vi (m : Int)] [] (hI h (sr J 301 W)) := by
        intro m
        induction m with
        | zero => exact fun _ => ⟨0, ⟨Int.le_refl 0, by omega, fun g hg => absurd hg (Nat.not_lt_zero g), Or.inl rfl⟩, rfl⟩
        | succ m ih2 =>
          intro hm
          obtain ⟨B, ⟨b1, b2, b3, b4⟩, b5⟩ := ih2 (by omega)
          have hp := m_pairedBy (sc := sc) (d := d + 7) (I := sr J 301 W) s hn (hsr W) (S := N + 1) (g := m) (by omega) hNn (by omega) hWb hv2
          have hle := pb_le (I := sr J 301 W) hn (S := N + 1) (g := m) (by omega) hNn (by omega) hWb hv2
          have hlt : ¬ (n : Int) < (m : Int) := by omega
          have wn : w32 ((m : Int) + 1) = ((m + 1 : Nat) : Int) := w32_succ (by omega)
          have e0 := hsr W
          refine ⟨max B (pb (sr J 301 W) n (N + 1) m), ⟨by omega, by omega, fun g hg => ?_, ?_⟩, ?_⟩
          · by_cases e : g = m
            · rw [e]
              exact Int.le_max_right _ _
            · exact Int.le_trans (b3 g (Nat.lt_of_le_of_ne (Nat.le_of_lt_succ hg) e)) (Int.le_max_left _ _)
          · by_cases g9 : B ≤ pb (sr J 301 W) n (N + 1) m
            · rw [Int.max_eq_right g9]
              exact Or.inr ⟨m, Nat.lt_succ_self m, rfl⟩
            · rw [Int.max_eq_left (by omega)]
              rcases b4 with z | ⟨g, g1, g2⟩
              · exact Or.inl z
              · exact Or.inr ⟨g, Nat.lt_succ_of_lt g1, g2⟩
          · rw [b5, q_X12_laysPairs_21]
            simp (disch := first | assumption | exact Int.natCast_nonneg _ | decide) only [↓BM s, m_families s, e0, hlt, hp, c_max, wn, e_clI, e_clV, e_clP, e_clIx, e_clVx, e_clPx, e_xt, Int.toNat_natCast, Int.reduceToNat, bz0, bz1, Nat.add_zero, decide_eq_false_iff_not, decide_eq_true_eq, Int.reduceEq, Nat.reduceEqDiff, Int.reduceLT, Int.reduceLE, not_true_eq_false, not_false_eq_true, eq_self, ↓reduceIte]
      obtain ⟨B, b1, b2⟩ := inner (n + 1) (Nat.le_refl _)
      have ad := WR.add (I := sr J 301 W) hn (N := N + 1) (by omega) hNn hv2 (by rw [e1, e3]; exact w1) b1
      rw [e1, e3] at ad
      refine ⟨up W (N + 1) B, Vi B, Vi ((n + 1 : Nat) : Int), ad, ?_⟩
      have hlt : ((N + 1 : Nat) : Int) < bShl 1 (n : Int) := by rw [hsh]; omega
      have hlt2 : (n : Int) < ((n + 1 : Nat) : Int) := by omega
      have h64' : ((N + 1 : Nat) : Int) < 64 := by omega
      have wn : w32 (((N + 1 : Nat) : Int) + 1) = ((N + 1 + 1 : Nat) : Int) := w32_succ (by omega)
      have e0 := hsr W
      rw [w2, q_X12_laysPairs_10]
      simp (disch := first | assumption | exact Int.natCast_nonneg _ | decide) only [↓BM s, m_families s, e0, hlt, e_clI, e_clV, e_clP, e_clIx, e_clVx, e_clPx, e_xt, Int.toNat_natCast, Int.reduceToNat, bz0, bz1, Nat.add_zero, decide_eq_false_iff_not, decide_eq_true_eq, Int.reduceEq, Nat.reduceEqDiff, Int.reduceLT, Int.reduceLE, not_true_eq_false, not_false_eq_true, eq_self, ↓reduceIte]
      rw [b2, q_X12_laysPairs_21]
      simp (disch := first | assumption | exact Int.natCast_nonneg _ | decide) only [↓BM s, m_families s, e0, hlt2, h64', u2_sr, wn, e_clI, e_clV, e_clP, e_clIx, e_clVx, e_clPx, e_xt, Int.toNat_natCast, Int.reduceToNat, bz0, bz1, Nat.add_zero, decide_eq_false_iff_not, decide_eq_true_eq, Int.reduceEq, Nat.reduceEqDiff, Int.reduceLT, Int.reduceLE, not_true_eq_false, not_false_eq_true, eq_self, ↓reduceIte]
  have hp1 : 1 ≤ 2 ^ n := Nat.one_le_two_pow
  obtain ⟨W, u2, u3, w1, w2⟩ := go (2 ^ n - 1) (by omega)
  have en : 2 ^ n - 1 + 1 = 2 ^ n := by omega
  rw [en] at w1 w2
  refine ⟨sr J 301 W, ⟨fun p p1 p2 p3 => by rw [sr_ne p2]; exact j1 p p1 p3, by rw [vpm_sr.2]; exact hvs, by rw [vpm_sr.1, sr_q]; exact w1⟩, ?_⟩
  have hlt : ¬ ((2 ^ n : Nat) : Int) < bShl 1 (n : Int) := by rw [hsh]; omega
  have e0 := hsr W
  have z0 : (0 : Int) < 64 := by decide
  have zz : (0 : Int) ≤ 0 := by decide
  rw [q_X12_laysPairs_0]
  simp (disch := first | assumption | exact Int.natCast_nonneg _ | decide) only [↓BM s, j3, z0, zz, u2_as, e_clI, e_clV, e_clP, e_clIx, e_clVx, e_clPx, e_xt, Int.toNat_natCast, Int.reduceToNat, bz0, bz1, Nat.add_zero, decide_eq_false_iff_not, decide_eq_true_eq, Int.reduceEq, Nat.reduceEqDiff, Int.reduceLT, Int.reduceLE, not_true_eq_false, not_false_eq_true, eq_self, ↓reduceIte]
  refine w2.trans ?_
  rw [q_X12_laysPairs_10]
  simp (disch := first | assumption | exact Int.natCast_nonneg _ | decide) only [↓BM s, m_families s, e0, hlt, e_clI, e_clV, e_clP, e_clIx, e_clVx, e_clPx, e_xt, Int.toNat_natCast, Int.reduceToNat, bz0, bz1, Nat.add_zero, decide_eq_false_iff_not, decide_eq_true_eq, Int.reduceEq, Nat.reduceEqDiff, Int.reduceLT, Int.reduceLE, not_true_eq_false, not_false_eq_true, eq_self, ↓reduceIte]
end
