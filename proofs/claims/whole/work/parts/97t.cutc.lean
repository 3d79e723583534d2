/-! THE CLASS'S CUT -/
theorem jo_sd1 : ∀ b, b < 60 → ∃ k, k < 4 ∧ sd (lc b) k = (b : Int) := by decide +kernel
theorem jo_sd2 : ∀ b, b < 60 → ∃ k, k < 4 ∧ sd (mc b) k = (b : Int) := by decide +kernel
theorem ov_jo1 : ∀ b, b < 60 → ov b (lc b) = mc b ∧ ov b (mc b) = lc b := by decide +kernel
theorem sd_jo : ∀ c, c < 36 → ∀ k, k < 4 → sd c k ≠ -1 → (0 ≤ sd c k ∧ sd c k < 60) ∧ jo (sd c k).toNat c (ov (sd c k).toNat c) ∧ ov (sd c k).toNat c < 36 := fun c hc k hk hn => by
  have h1 := sd_lt c hc k hk
  have h2 := sd_ov c hc k hk hn
  have h3 := ov_jo1 (sd c k).toNat (by omega)
  refine ⟨by omega, ?_, h2.2⟩
  unfold jo
  rcases h2.1 with e | e
  · rw [e] at h3
    exact Or.inl ⟨e, h3.1.symm⟩
  · rw [e] at h3
    exact Or.inr ⟨h3.2.symm, e⟩
theorem jo_at {b p u : Nat} (hb : b < 60) (h : jo b p u) : (∃ k, k < 4 ∧ sd p k = (b : Int)) ∧ ov b p = u ∧ ov b u = p ∧ (lc b = p ∨ mc b = p) ∧ (lc b = u ∨ mc b = u) ∧ p < 36 ∧ u < 36 := by
  have h3 := ov_jo1 b hb
  have l1 := lc_lt b hb
  have l2 := mc_lt b hb
  rcases h with ⟨e1, e2⟩ | ⟨e1, e2⟩
  · subst e1
    subst e2
    exact ⟨jo_sd1 b hb, h3.1, h3.2, Or.inl rfl, Or.inr rfl, l1, l2⟩
  · subst e1
    subst e2
    exact ⟨jo_sd2 b hb, h3.2, h3.1, Or.inr rfl, Or.inl rfl, l2, l1⟩
/-- nothing is left to go to from c over its first sides -/
def Cd (R : Nat → Nat → Prop) (S : Nat → Bool) (c k : Nat) : Prop := ∀ j, j < k → sd c j ≠ -1 → R (sd c j).toNat c → S (ov (sd c j).toNat c) = true
theorem Cd.all {R : Nat → Nat → Prop} {S : Nat → Bool} (h : ∀ c, c < 36 → S c = true → Cd R S c 4) : ∀ b p u, b < 60 → jo b p u → S p = true → R b p → S u = true := fun b p u hb hj hS hR => by
  obtain ⟨⟨k, k1, k2⟩, o1, o2, o3, o4, o5, o6⟩ := jo_at hb hj
  have := h p o5 hS k k1 (by rw [k2]; omega) (by rw [k2, Int.toNat_natCast]; exact hR)
  rw [k2, Int.toNat_natCast, o1] at this
  exact this
theorem Vs_s {s : Nat} {C : Nat → Int} : Vs s C s = true := by
  unfold Vs
  rw [decide_eq_true rfl, Bool.true_or]
theorem Vs_no {s u : Nat} {C : Nat → Int} (h1 : u ≠ s) (h2 : C u = -1) : Vs s C u = false := by
  unfold Vs
  rw [decide_eq_false h1, decide_eq_false (by omega)]
  rfl
theorem Vs_c {s u : Nat} {C : Nat → Int} (h2 : ¬ C u = -1) : Vs s C u = true := by
  unfold Vs
  rw [decide_eq_true (show C u ≠ -1 from h2), Bool.or_true]
theorem nn36 {p : Nat → Bool} {u : Nat} (hu : u < 36) (h : p u = false) : nn p 36 < 36 := by
  have h1 := nn_lt9 (p := p) (q := fun _ => true) (N := 36) (fun _ _ _ => rfl) hu h rfl
  have h2 := nn_b (p := fun _ => true) (N := 36)
  omega
theorem u2_srne {I : am_I} {a q u : Nat} {C : Nat → Int} {v : Int} (h : a ≠ q) : am_u2 (sr I q C) a u v = sr (am_u2 I a u v) q C := by
  funext k j
  unfold am_u2 sr
  by_cases e : k = q
  · subst e
    have : ¬ (k = a ∧ j = u) := fun z => h z.1.symm
    simp [this]
  · simp [e]
/-- what is being looked for -/
def BI (R : Nat → Nat → Prop) (x : Nat) (at_ len : Nat) (C Q : Nat → Int) : Prop := (∃ rk, Tr R x C rk) ∧ (len : Int) = nn (Vs x C) 36 ∧ (∀ i, i < len → ∃ u : Nat, u < 36 ∧ Q i = u ∧ Vs x C u = true) ∧ (∀ u, u < 36 → Vs x C u = true → ∃ i, i < len ∧ Q i = (u : Int)) ∧ (∀ i u : Nat, i < at_ → Q i = u → u < 36 → Cd R (Vs x C) u 4) ∧ C x = -1
theorem Cd.up {R : Nat → Nat → Prop} {S S' : Nat → Bool} {c k : Nat} (h : ∀ v, S v = true → S' v = true) (H : Cd R S c k) : Cd R S' c k := fun j hj h1 h2 => h _ (H j hj h1 h2)
section
variable {sc : Nat × (Nat → Int)} {d a : Nat} {h : am_H} {I J : am_I} {w : am_Wd}
theorem c_wayOf {b p : Nat} (hb : b < 60) {h : am_H} : Cl sc (d + 2) mX7_wayOf [Vi (b : Int), Vi (p : Int)] h = some (.inl (Vi (wy b p)), h) := by
  rw [q_X7_wayOf_0, c_lessCell hb, e_clI]
  unfold wy
  by_cases e : lc b = p
  · rw [if_pos e, if_pos (by omega)]
  · rw [if_neg e, if_neg (by omega)]
theorem c_hasRoom (s : Sh h) {O : Nat → Bool} {f : Nat → Int} (hO : ∀ b, b < 60 → (I 54 b = -1 ↔ O b = false)) (hf : ∀ b, b < 60 → I 121 b = f b ∧ -1 ≤ f b ∧ f b ≤ 1) {b p : Nat} (hb : b < 60) : (Rm O f b p → Cl sc (d + 3) mX7_hasRoom [Vr (some 53), Vi (b : Int), Vi (p : Int)] (hI h I) = some (.inl (Vi 1), hI h I)) ∧ (¬ Rm O f b p → Cl sc (d + 3) mX7_hasRoom [Vr (some 53), Vi (b : Int), Vi (p : Int)] (hI h I) = some (.inl (Vi 0), hI h I)) := by
  obtain ⟨f1, f2, f3⟩ := hf b hb
  have o1 := hO b hb
  have key : I 54 b ≠ -1 → Cl sc (d + 3) mX7_hasRoom [Vr (some 53), Vi (b : Int), Vi (p : Int)] (hI h I) = if (f b) * wy b p < 1 then some (.inl (Vi 1), hI h I) else some (.inl (Vi 0), hI h I) := fun hn => by
    rw [q_X7_hasRoom_0]
    have w1 : w32 (f b * wy b p) = f b * wy b p := by
      unfold wy
      split
      · exact w32_id (by omega) (by omega)
      · exact w32_id (by omega) (by omega)
    simp (disch := first | (simp (disch := omega) only [w32_id]; omega) | omega) only [↓BW s, hn, f1, c_wayOf hb, w1, e_clI, e_clV, e_clP, e_clIx, e_clVx, e_clPx, e_xt, Int.toNat_natCast, Int.reduceToNat, bz0, bz1, Nat.add_zero, decide_eq_false_iff_not, decide_eq_true_eq, Int.reduceEq, Nat.reduceEqDiff, Int.reduceLT, Int.reduceLE, not_true_eq_false, not_false_eq_true, eq_self, ↓reduceIte]
  constructor
  · intro ⟨r1, r2⟩
    have hn : I 54 b ≠ -1 := fun z => by rw [o1.mp z] at r1; cases r1
    rw [key hn, if_pos]
    unfold wy
    by_cases e : lc b = p
    · rw [if_pos e] at r2 ⊢
      omega
    · rw [if_neg e] at r2 ⊢
      omega
  · intro hr
    by_cases hn : I 54 b = -1
    · rw [q_X7_hasRoom_0]
      simp (disch := first | (simp (disch := omega) only [w32_id]; omega) | omega) only [↓BW s, hn, e_clI, e_clV, e_clP, e_clIx, e_clVx, e_clPx, e_xt, Int.toNat_natCast, Int.reduceToNat, bz0, bz1, Nat.add_zero, decide_eq_false_iff_not, decide_eq_true_eq, Int.reduceEq, Nat.reduceEqDiff, Int.reduceLT, Int.reduceLE, not_true_eq_false, not_false_eq_true, eq_self, ↓reduceIte]
    · have r1 : O b = true := by
        cases z : O b
        · exact absurd (o1.mpr z) hn
        · rfl
      rw [key hn, if_neg]
      intro z
      refine hr ⟨r1, ?_⟩
      unfold wy at z
      by_cases e : lc b = p
      · rw [if_pos e] at z ⊢
        omega
      · rw [if_neg e] at z ⊢
        omega
/-- one side -/
theorem c_wayStep (s : Sh h) {O : Nat → Bool} {f : Nat → Int} (hO : ∀ b, b < 60 → (I 54 b = -1 ↔ O b = false)) (hf : ∀ b, b < 60 → I 121 b = f b ∧ -1 ≤ f b ∧ f b ≤ 1) {x y : Nat} {at_ len c : Nat} (hx : x < 36) (hc : c < 36) {C Q : Nat → Int} (B : BI (Rm O f) x at_ len C Q) (hat : at_ < len) (hQ : Q at_ = c) : ∀ k, k ≤ 4 → ∀ u7 u8, ∃ len' C' Q' v7 v8, (BI (Rm O f) x at_ len' C' Q' ∧ at_ < len' ∧ Q' at_ = c ∧ Cd (Rm O f) (Vs x C') c k) ∧ Ru sc (d + 5) mX7_findsWay 28 [Vr (some 53), Vi (x : Int), Vi (y : Int), Vi (len : Int), Vi (at_ : Int), Vi (c : Int), Vi 0, u7, u8] [] (hI h (sr (sr I 122 C) 123 Q)) = Ru sc (d + 5) mX7_findsWay 28 [Vr (some 53), Vi (x : Int), Vi (y : Int), Vi (len' : Int), Vi (at_ : Int), Vi (c : Int), Vi (k : Int), v7, v8] [] (hI h (sr (sr I 122 C') 123 Q')) := by
  intro k
  induction k with
  | zero => exact fun _ u7 u8 => ⟨len, C, Q, u7, u8, ⟨B, hat, hQ, fun j hj => absurd hj (Nat.not_lt_zero j)⟩, rfl⟩
  | succ k ih =>
    intro hk u7 u8
    obtain ⟨len1, C1, Q1, v7, v8, ⟨B1, h1, hq1, D1⟩, e1⟩ := ih (by omega) u7 u8
    have hk4 : k < 4 := by omega
    have hlt : (k : Int) < 4 := by omega
    have f122 : sr (sr I 122 C1) 123 Q1 122 = C1 := by rw [sr_ne (by decide), sr_q]
    have hO2 : ∀ b, b < 60 → (sr (sr I 122 C1) 123 Q1 54 b = -1 ↔ O b = false) := fun b hb => by
      rw [sr_ne (by decide), sr_ne (by decide)]
      exact hO b hb
    have hf2 : ∀ b, b < 60 → sr (sr I 122 C1) 123 Q1 121 b = f b ∧ -1 ≤ f b ∧ f b ≤ 1 := fun b hb => by
      rw [sr_ne (by decide), sr_ne (by decide)]
      exact hf b hb
    rw [e1]
    by_cases hs : sd c k = -1
    · refine ⟨len1, C1, Q1, Vi (-1), v8, ⟨B1, h1, hq1, fun j hj h2 h3 => ?_⟩, ?_⟩
      · by_cases e : j = k
        · exact absurd (by rw [e]; exact hs) h2
        · exact D1 j (by omega) h2 h3
      · rw [q_X7_findsWay_28]
        simp (disch := first | (simp (disch := omega) only [w32_id]; omega) | omega) only [↓BW s, hlt, c_onSide hc hk4, hs, w32_succ, e_clI, e_clV, e_clP, e_clIx, e_clVx, e_clPx, e_xt, Int.toNat_natCast, Int.reduceToNat, bz0, bz1, Nat.add_zero, decide_eq_false_iff_not, decide_eq_true_eq, Int.reduceEq, Nat.reduceEqDiff, Int.reduceLT, Int.reduceLE, not_true_eq_false, not_false_eq_true, eq_self, ↓reduceIte]
    · obtain ⟨s1, s2, s3⟩ := sd_jo c hc k hk4 hs
      obtain ⟨b, hb⟩ : ∃ b : Nat, sd c k = b := ⟨(sd c k).toNat, by omega⟩
      rw [hb, Int.toNat_natCast] at s2 s3
      have hb60 : b < 60 := by omega
      have hbn : ¬ (b : Int) = -1 := by omega
      have jj := jo_at hb60 s2
      have rm := c_hasRoom (sc := sc) (d := d + 1) s hO2 hf2 (b := b) (p := c) hb60
      by_cases hR : Rm O f b c
      · have r1 := rm.1 hR
        by_cases hnx : ov b c = x
        · have hnx2 : ((ov b c : Nat) : Int) = x := by omega
          refine ⟨len1, C1, Q1, Vi (b : Int), Vi (ov b c : Nat), ⟨B1, h1, hq1, fun j hj h2 h3 => ?_⟩, ?_⟩
          · by_cases e : j = k
            · rw [e, hb, Int.toNat_natCast, hnx]
              exact Vs_s
            · exact D1 j (by omega) h2 h3
          · rw [q_X7_findsWay_28]
            simp (disch := first | (simp (disch := omega) only [w32_id]; omega) | omega) only [↓BW s, hlt, c_onSide hc hk4, hb, hbn, r1, c_across hb60 jj.2.2.2.1, hnx2, w32_succ, e_clI, e_clV, e_clP, e_clIx, e_clVx, e_clPx, e_xt, Int.toNat_natCast, Int.reduceToNat, bz0, bz1, Nat.add_zero, decide_eq_false_iff_not, decide_eq_true_eq, Int.reduceEq, Nat.reduceEqDiff, Int.reduceLT, Int.reduceLE, not_true_eq_false, not_false_eq_true, eq_self, ↓reduceIte]
        · have hnx2 : ¬ ((ov b c : Nat) : Int) = x := by omega
          by_cases hC : C1 (ov b c) = -1
          · have hno := Vs_no (C := C1) hnx hC
            have hl36 : len1 < 36 := by
              have := nn36 s3 hno
              have := B1.2.1
              omega
            have hl36' : (len1 : Int) < 36 := by omega
            obtain ⟨⟨rk, T⟩, b2, b3, b4, b5, b6⟩ := B1
            obtain ⟨u, u1, u2, u3⟩ := b3 at_ h1
            have hVc : Vs x C1 c = true := by
              have : u = c := by rw [hq1] at u2; omega
              rw [← this]; exact u3
            obtain ⟨t1, t2, t3⟩ := T.add hb60 hc s3 s2 hR hVc hno
            have hup : ∀ v, Vs x C1 v = true → Vs x (up C1 (ov b c) b) v = true := fun v z => by rw [t3, z, Bool.true_or]
            refine ⟨len1 + 1, up C1 (ov b c) b, up Q1 len1 (ov b c : Nat), Vi (b : Int), Vi (ov b c : Nat), ⟨⟨t1, by rw [t2, ← b2]; omega, fun i hi => ?_, fun v hv z => ?_, fun i v hi hq hv => ?_, ?_⟩, by omega, by rw [up_o (by omega)]; exact hq1, fun j hj h2 h3 => ?_⟩, ?_⟩
            · by_cases e : i = len1
              · exact ⟨ov b c, s3, by rw [e, up_s], by rw [t3, decide_eq_true rfl, Bool.or_true]⟩
              · obtain ⟨u, u1, u2, u3⟩ := b3 i (by omega)
                exact ⟨u, u1, by rw [up_o e]; exact u2, hup u u3⟩
            · by_cases e : v = ov b c
              · exact ⟨len1, by omega, by rw [up_s, e]⟩
              · rw [t3, decide_eq_false e, Bool.or_false] at z
                obtain ⟨i, i1, i2⟩ := b4 v hv z
                exact ⟨i, by omega, by rw [up_o (by omega)]; exact i2⟩
            · rw [up_o (by omega)] at hq
              exact (b5 i v hi hq hv).up hup
            · rw [up_o (fun z => hnx z.symm)]
              exact b6
            · by_cases e : j = k
              · rw [e, hb, Int.toNat_natCast, t3, decide_eq_true rfl, Bool.or_true]
              · exact hup _ (D1 j (by omega) h2 h3)
            · rw [q_X7_findsWay_28]
              simp (disch := first | (simp (disch := omega) only [w32_id]; omega) | omega) only [↓BW s, hlt, c_onSide hc hk4, hb, hbn, r1, c_across hb60 jj.2.2.2.1, hnx2, f122, hC, hl36', w32_succ, u2_srne, u2_sr, e_clI, e_clV, e_clP, e_clIx, e_clVx, e_clPx, e_xt, Int.toNat_natCast, Int.reduceToNat, bz0, bz1, Nat.add_zero, decide_eq_false_iff_not, decide_eq_true_eq, Int.reduceEq, Nat.reduceEqDiff, Int.reduceLT, Int.reduceLE, not_true_eq_false, not_false_eq_true, eq_self, ↓reduceIte]
          · refine ⟨len1, C1, Q1, Vi (b : Int), Vi (ov b c : Nat), ⟨B1, h1, hq1, fun j hj h2 h3 => ?_⟩, ?_⟩
            · by_cases e : j = k
              · rw [e, hb, Int.toNat_natCast]
                exact Vs_c hC
              · exact D1 j (by omega) h2 h3
            · rw [q_X7_findsWay_28]
              simp (disch := first | (simp (disch := omega) only [w32_id]; omega) | omega) only [↓BW s, hlt, c_onSide hc hk4, hb, hbn, r1, c_across hb60 jj.2.2.2.1, hnx2, f122, hC, w32_succ, e_clI, e_clV, e_clP, e_clIx, e_clVx, e_clPx, e_xt, Int.toNat_natCast, Int.reduceToNat, bz0, bz1, Nat.add_zero, decide_eq_false_iff_not, decide_eq_true_eq, Int.reduceEq, Nat.reduceEqDiff, Int.reduceLT, Int.reduceLE, not_true_eq_false, not_false_eq_true, eq_self, ↓reduceIte]
      · have r1 := rm.2 hR
        refine ⟨len1, C1, Q1, Vi (b : Int), v8, ⟨B1, h1, hq1, fun j hj h2 h3 => ?_⟩, ?_⟩
        · by_cases e : j = k
          · rw [e, hb, Int.toNat_natCast] at h3
            exact absurd h3 hR
          · exact D1 j (by omega) h2 h3
        · rw [q_X7_findsWay_28]
          simp (disch := first | (simp (disch := omega) only [w32_id]; omega) | omega) only [↓BW s, hlt, c_onSide hc hk4, hb, hbn, r1, w32_succ, e_clI, e_clV, e_clP, e_clIx, e_clVx, e_clPx, e_xt, Int.toNat_natCast, Int.reduceToNat, bz0, bz1, Nat.add_zero, decide_eq_false_iff_not, decide_eq_true_eq, Int.reduceEq, Nat.reduceEqDiff, Int.reduceLT, Int.reduceLE, not_true_eq_false, not_false_eq_true, eq_self, ↓reduceIte]
theorem c_wayLoop (s : Sh h) {O : Nat → Bool} {f : Nat → Int} (hO : ∀ b, b < 60 → (I 54 b = -1 ↔ O b = false)) (hf : ∀ b, b < 60 → I 121 b = f b ∧ -1 ≤ f b ∧ f b ≤ 1) {x y : Nat} (hx : x < 36) (hy : y < 36) : ∀ m at_ len : Nat, at_ + m = 36 → ∀ C Q u5 u6 u7 u8, BI (Rm O f) x at_ len C Q → ∃ C' Q', ((∃ rk, Tr (Rm O f) x C' rk) ∧ C' x = -1 ∧ ∀ c, c < 36 → Vs x C' c = true → Cd (Rm O f) (Vs x C') c 4) ∧ Ru sc (d + 5) mX7_findsWay 14 [Vr (some 53), Vi (x : Int), Vi (y : Int), Vi (len : Int), Vi (at_ : Int), u5, u6, u7, u8] [] (hI h (sr (sr I 122 C) 123 Q)) = some (.inl (Vi (if C' y = -1 then 0 else 1)), hI h (sr (sr I 122 C') 123 Q')) := by
  intro m
  have fin : ∀ (at_ len : Nat) C Q u5 u6 u7 u8, BI (Rm O f) x at_ len C Q → len ≤ at_ → ∃ C' Q', ((∃ rk, Tr (Rm O f) x C' rk) ∧ C' x = -1 ∧ ∀ c, c < 36 → Vs x C' c = true → Cd (Rm O f) (Vs x C') c 4) ∧ Ru sc (d + 5) mX7_findsWay 14 [Vr (some 53), Vi (x : Int), Vi (y : Int), Vi (len : Int), Vi (at_ : Int), u5, u6, u7, u8] [] (hI h (sr (sr I 122 C) 123 Q)) = some (.inl (Vi (if C' y = -1 then 0 else 1)), hI h (sr (sr I 122 C') 123 Q')) := by
    intro at_ len C Q u5 u6 u7 u8 B hle
    obtain ⟨b1, b2, b3, b4, b5, b6⟩ := B
    refine ⟨C, Q, ⟨b1, b6, fun c hc hV => ?_⟩, ?_⟩
    · obtain ⟨i, i1, i2⟩ := b4 c hc hV
      exact b5 i c (by omega) i2 hc
    · have hlt : ¬ (at_ : Int) < (len : Int) := by omega
      have f122 : sr (sr I 122 C) 123 Q 122 = C := by rw [sr_ne (by decide), sr_q]
      rw [q_X7_findsWay_14]
      simp (disch := first | (simp (disch := omega) only [w32_id]; omega) | omega) only [↓BW s, hlt, f122, e_clI, e_clV, e_clP, e_clIx, e_clVx, e_clPx, e_xt, Int.toNat_natCast, Int.reduceToNat, bz0, bz1, Nat.add_zero, decide_eq_false_iff_not, decide_eq_true_eq, Int.reduceEq, Nat.reduceEqDiff, Int.reduceLT, Int.reduceLE, not_true_eq_false, not_false_eq_true, eq_self, ↓reduceIte]
      split <;> rfl
  induction m with
  | zero =>
    intro at_ len ha C Q u5 u6 u7 u8 B
    refine fin at_ len C Q u5 u6 u7 u8 B ?_
    have := B.2.1
    have := nn_b (p := Vs x C) (N := 36)
    omega
  | succ m ih =>
    intro at_ len ha C Q u5 u6 u7 u8 B
    by_cases hlt : at_ < len
    · have hlt1 : (at_ : Int) < (len : Int) := by omega
      have hlt2 : (at_ : Int) < 36 := by omega
      obtain ⟨c, c1, c2, c3⟩ := B.2.2.1 at_ hlt
      obtain ⟨len', C', Q', v7, v8, ⟨B', g1, g2, g3⟩, e⟩ := c_wayStep (sc := sc) (d := d) s hO hf (y := y) hx c1 B hlt c2 4 (Nat.le_refl 4) u7 u8
      obtain ⟨C2, Q2, k1, k2⟩ := ih (at_ + 1) len' (by omega) C' Q' (Vi (c : Int)) (Vi ((4 : Nat) : Int)) v7 v8 ⟨B'.1, B'.2.1, B'.2.2.1, B'.2.2.2.1, fun i u hi hq hu => by
        by_cases ei : i = at_
        · rw [ei, g2] at hq
          have : u = c := by omega
          rw [this]
          exact g3
        · exact B'.2.2.2.2.1 i u (by omega) hq hu, B'.2.2.2.2.2⟩
      refine ⟨C2, Q2, k1, ?_⟩
      have f123 : sr (sr I 122 C) 123 Q 123 = Q := sr_q
      rw [q_X7_findsWay_14]
      simp (disch := first | (simp (disch := omega) only [w32_id]; omega) | omega) only [↓BW s, hlt1, hlt2, f123, c2, e_clI, e_clV, e_clP, e_clIx, e_clVx, e_clPx, e_xt, Int.toNat_natCast, Int.reduceToNat, bz0, bz1, Nat.add_zero, decide_eq_false_iff_not, decide_eq_true_eq, Int.reduceEq, Nat.reduceEqDiff, Int.reduceLT, Int.reduceLE, not_true_eq_false, not_false_eq_true, eq_self, ↓reduceIte]
      rw [e, q_X7_findsWay_28, if_neg (by omega), w32_succ (by omega), k2]
    · exact fin at_ len C Q u5 u6 u7 u8 B (by omega)
theorem c_findsWay (s : Sh h) {O : Nat → Bool} {f : Nat → Int} (hO : ∀ b, b < 60 → (I 54 b = -1 ↔ O b = false)) (hf : ∀ b, b < 60 → I 121 b = f b ∧ -1 ≤ f b ∧ f b ≤ 1) {x y : Nat} (hx : x < 36) (hy : y < 36) : ∃ C' Q', ((∃ rk, Tr (Rm O f) x C' rk) ∧ C' x = -1 ∧ ∀ c, c < 36 → Vs x C' c = true → Cd (Rm O f) (Vs x C') c 4) ∧ Cl sc (d + 5) mX7_findsWay [Vr (some 53), Vi (x : Int), Vi (y : Int)] (hI h I) = some (.inl (Vi (if C' y = -1 then 0 else 1)), hI h (sr (sr I 122 C') 123 Q')) := by
  have hV : ∀ v, v < 36 → Vs x (fun u => if u < 36 then (-1 : Int) else I 122 u) v = decide (v = x) := fun v hv => by
    unfold Vs
    have z : (fun u => if u < 36 then (-1 : Int) else I 122 u) v = -1 := if_pos hv
    rw [decide_eq_false (show ¬ ((fun u => if u < 36 then (-1 : Int) else I 122 u) v ≠ -1) from fun y => y z), Bool.or_false]
  have h1 : nn (Vs x (fun u => if u < 36 then (-1 : Int) else I 122 u)) 36 = 1 := by
    rw [nn_cg hV]
    exact nn_one hx (decide_eq_true rfl) (fun v _ z => of_decide_eq_true z)
  obtain ⟨C', Q', k1, k2⟩ := c_wayLoop (sc := sc) (d := d) s hO hf hx hy 36 0 1 rfl (fun u => if u < 36 then (-1 : Int) else I 122 u) (up (I 123) 0 x) (Vx 0) (Vx 0) (Vx 0) (Vx 0) ⟨⟨fun _ => 0, fun u hu z => ⟨by rw [h1]; exact (by decide : ((0 : Nat) : Int) < 1), fun hne => by
    rw [hV u hu, decide_eq_false hne] at z
    cases z⟩⟩, h1.symm, fun i hi => ⟨x, hx, by rw [show i = 0 by omega, up_s], Vs_s⟩, fun u hu z => by
    rw [hV u hu, decide_eq_true_eq] at z
    exact ⟨0, by omega, by rw [up_s, z]⟩, fun i u hi => absurd hi (Nat.not_lt_zero i), by
    dsimp only
    rw [if_pos hx]⟩
  refine ⟨C', Q', k1, ?_⟩
  have f3 : sr I 122 (fun u => if u < 36 then (-1 : Int) else I 122 u) 123 = I 123 := sr_ne (by decide)
  rw [q_X7_findsWay_0]
  simp (disch := first | (simp (disch := omega) only [w32_id]; omega) | omega) only [↓BW s, c_fill (s.T 122 rfl), u2_as, f3, e_clI, e_clV, e_clP, e_clIx, e_clVx, e_clPx, e_xt, Int.toNat_natCast, Int.reduceToNat, bz0, bz1, Nat.add_zero, decide_eq_false_iff_not, decide_eq_true_eq, Int.reduceEq, Nat.reduceEqDiff, Int.reduceLT, Int.reduceLE, not_true_eq_false, not_false_eq_true, eq_self, ↓reduceIte]
  exact k2
end
