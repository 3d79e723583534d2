/-! COPIES OF COUNTIES -/
/-- what a row of booleans holds -/
def BBo (I : am_I) (a : Nat) : Prop := ∀ i, i < 60 → (I (a + 1) i = 0 ∨ I (a + 1) i = 1) ∧ (I (a + 4) i = 0 ∨ I (a + 4) i = 1) ∧ (I (a + 5) i = 0 ∨ I (a + 5) i = 1)
def Cpd (I J : am_I) (a b : Nat) (S : Nat → Nat → Prop) : Prop := (∀ p, p < a ∨ a + 11 < p → J p = I p) ∧ ∀ k j, S k j → J (a + k) j = I (b + k) j
def ndC (k j : Nat) : Prop := (k = 0 ∧ (j = 5 ∨ j = 10 ∨ j = 11 ∨ j = 12 ∨ j = 13)) ∨ (1 ≤ k ∧ k ≤ 5 ∧ j < 60) ∨ (6 ≤ k ∧ k ≤ 9 ∧ j < 6) ∨ (k = 10 ∧ (j = 1 ∨ j = 2)) ∨ (k = 11 ∧ j < 300)
theorem cpf_a {I : am_I} {a sp b dp n c j : Nat} (h : c ≠ b) : am_cpf I a sp b dp n c j = I c j := by
  unfold am_cpf
  rw [if_neg (fun e => h e.1)]
section
variable {I J : am_I} {a b k n i : Nat} {S : Nat → Nat → Prop} {v : Int} {w : am_Wd}
theorem Cpd.ld (h : Cpd I J a b S) (hab : b + 11 < a ∨ a + 11 < b) (hk : k < 12) : J (b + k) = I (b + k) := h.1 _ (by omega)
theorem Cpd.cpf (h : Cpd I J a b S) (hab : b + 11 < a ∨ a + 11 < b) (hk : k < 12) : Cpd I (am_cpf J (b + k) 0 (a + k) 0 n) a b (fun k' j => S k' j ∨ (k' = k ∧ j < n)) := by
  refine ⟨fun p hp => ?_, fun k' j hs => ?_⟩
  · funext j
    rw [cpf_a (by omega)]
    exact congrFun (h.1 p hp) j
  · unfold am_cpf
    by_cases e : a + k' = a + k ∧ 0 ≤ j ∧ j < 0 + n
    · rw [if_pos e, h.ld hab hk, show k' = k by omega, show 0 + (j - 0) = j by omega]
    · rw [if_neg e]
      rcases hs with hs | hs
      · exact h.2 k' j hs
      · exact absurd ⟨by omega, by omega, by omega⟩ e
theorem Cpd.u2 (h : Cpd I J a b S) (hk : k < 12) (hv : v = I (b + k) i) : Cpd I (am_u2 J (a + k) i v) a b (fun k' j => S k' j ∨ (k' = k ∧ j = i)) := by
  refine ⟨fun p hp => ?_, fun k' j hs => ?_⟩
  · funext j
    rw [u2_a (by omega)]
    exact congrFun (h.1 p hp) j
  · unfold am_u2
    by_cases e : a + k' = a + k ∧ j = i
    · rw [if_pos e, hv, show k' = k by omega, e.2]
    · rw [if_neg e]
      rcases hs with hs | hs
      · exact h.2 k' j hs
      · exact absurd ⟨by omega, by omega⟩ e
theorem CRep.cp (h : ∀ k j, ndC k j → J (a + k) j = I (b + k) j) (V : WW w) (R : CRep I b w) : CRep J a w := by
  have e1 : ∀ k i, 1 ≤ k → k ≤ 5 → i < 60 → J (a + k) i = I (b + k) i := fun k i h1 h2 h3 => h k i (by unfold ndC; omega)
  have e2 : ∀ k i, 6 ≤ k → k ≤ 9 → i < 6 → J (a + k) i = I (b + k) i := fun k i h1 h2 h3 => h k i (by unfold ndC; omega)
  have e0 : ∀ j, j = 5 ∨ j = 10 ∨ j = 11 ∨ j = 12 ∨ j = 13 → J a j = I b j := fun j hj => h 0 j (by unfold ndC; omega)
  refine ⟨fun i hi => ?_, ?_, fun f hf => ?_, ?_, ?_, ?_, ?_, ?_⟩
  · rw [e1 1 i (by omega) (by omega) hi, e1 2 i (by omega) (by omega) hi, e1 3 i (by omega) (by omega) hi, e1 4 i (by omega) (by omega) hi, e1 5 i (by omega) (by omega) hi]
    exact R.1 i hi
  · rw [e0 5 (by omega)]
    exact R.fa
  · rw [e2 6 f (by omega) (by omega) hf, e2 7 f (by omega) (by omega) hf, e2 8 f (by omega) (by omega) hf, e2 9 f (by omega) (by omega) hf]
    exact R.2.2.1 f hf
  · rw [e0 10 (by omega)]
    exact R.ye
  · rw [e0 11 (by omega)]
    exact R.qu
  · rw [e0 12 (by omega)]
    exact R.se
  · rw [e0 13 (by omega)]
    exact R.te
  · obtain ⟨l1, l2, l3⟩ := R.lg
    have h1 := h 10 1 (by unfold ndC; omega)
    have h2 := h 10 2 (by unfold ndC; omega)
    unfold LgRep
    rw [h1, h2]
    refine ⟨l1, l2, fun k hk c hc => ?_⟩
    rw [h 11 _ (by unfold ndC; omega)]
    exact l3 k hk c hc
theorem BBo.cp (h : ∀ k j, ndC k j → J (a + k) j = I (b + k) j) (B : BBo I b) : BBo J a := by
  intro i hi
  rw [h 1 i (by unfold ndC; omega), h 4 i (by unfold ndC; omega), h 5 i (by unfold ndC; omega)]
  exact B i hi
end
theorem shP_14 : ∀ z ∈ shP, z.2.1 = 14 → ¬ (z.1 = 11 ∨ z.1 = 23 ∨ z.1 = 35 ∨ (139 ≤ z.1 ∧ z.1 ≤ 271)) := by decide +kernel
theorem isC_n {a : Nat} (h : isC a) : a = 11 ∨ a = 23 ∨ a = 35 ∨ (139 ≤ a ∧ a ≤ 271) := by
  unfold isC at h
  omega
section
variable {sc : Nat × (Nat → Int)} {d a b : Nat} {h : am_H} {I J : am_I} {w : am_Wd} {v : Option Nat}
theorem Sh.w14 (s : Sh h) (ca : isC a) : Sh (wP h a 14 v) := by
  refine ⟨s.1, fun z hz => ?_, s.2.2⟩
  show am_u2 h.2.2.2.2.2 a 14 v z.1 z.2.1 = _
  unfold am_u2
  rw [if_neg (fun e => shP_14 z hz e.2 (by rw [e.1]; exact isC_n ca))]
  exact s.2.1 z hz
theorem rP_w14 : rP (wP h a 14 v) a 14 = v := if_pos ⟨rfl, rfl⟩
theorem rP_w14n {p j : Nat} (hn : p ≠ a ∨ j ≠ 14) : rP (wP h a 14 v) p j = rP h p j := if_neg (fun e => by omega)
theorem BK (c : Cty h a) (g : Cty h b) :
  (∀ (I : am_I) (k : am_H → am_R), cpA (hI h I) (some (b + 2)) 0 (some (a + 2)) 0 60 k = k (hI h (am_cpf I (b + 2) 0 (a + 2) 0 60))) ∧
  (∀ (I : am_I) (k : am_H → am_R), cpA (hI h I) (some (b + 3)) 0 (some (a + 3)) 0 60 k = k (hI h (am_cpf I (b + 3) 0 (a + 3) 0 60))) ∧
  (∀ (I : am_I) (k : am_H → am_R), cpA (hI h I) (some (b + 6)) 0 (some (a + 6)) 0 6 k = k (hI h (am_cpf I (b + 6) 0 (a + 6) 0 6))) ∧
  (∀ (I : am_I) (k : am_H → am_R), cpA (hI h I) (some (b + 7)) 0 (some (a + 7)) 0 6 k = k (hI h (am_cpf I (b + 7) 0 (a + 7) 0 6))) ∧
  (∀ (I : am_I) (k : am_H → am_R), cpA (hI h I) (some (b + 8)) 0 (some (a + 8)) 0 6 k = k (hI h (am_cpf I (b + 8) 0 (a + 8) 0 6))) ∧
  (∀ (I : am_I) (k : am_H → am_R), cpA (hI h I) (some (b + 9)) 0 (some (a + 9)) 0 6 k = k (hI h (am_cpf I (b + 9) 0 (a + 9) 0 6))) ∧
  (∀ (I : am_I) (k : am_H → am_R), cpA (hI h I) (some (b + 11)) 0 (some (a + 11)) 0 300 k = k (hI h (am_cpf I (b + 11) 0 (a + 11) 0 300))) ∧
  (∀ (I : am_I) (k : Option Nat → am_R), gfP 0 14 (hI h I) (some b) k = k (rP h b 14)) ∧
  (∀ (I : am_I) (v : Option Nat) (k : am_H → am_R), pfP 0 14 (hI h I) (some a) v k = k (hI (wP h a 14 v) I)) :=
  ⟨fun _ _ => e_cpA (sp := 0) (dp := 0) (z := 60) g.2.2.1 c.2.2.1 (by omega) (by omega), fun _ _ => e_cpA (sp := 0) (dp := 0) (z := 60) g.2.2.2.1 c.2.2.2.1 (by omega) (by omega), fun _ _ => e_cpA (sp := 0) (dp := 0) (z := 6) g.2.2.2.2.2.2.1 c.2.2.2.2.2.2.1 (by omega) (by omega), fun _ _ => e_cpA (sp := 0) (dp := 0) (z := 6) g.2.2.2.2.2.2.2.1 c.2.2.2.2.2.2.2.1 (by omega) (by omega), fun _ _ => e_cpA (sp := 0) (dp := 0) (z := 6) g.2.2.2.2.2.2.2.2.1 c.2.2.2.2.2.2.2.2.1 (by omega) (by omega), fun _ _ => e_cpA (sp := 0) (dp := 0) (z := 6) g.2.2.2.2.2.2.2.2.2.1 c.2.2.2.2.2.2.2.2.2.1 (by omega) (by omega), fun _ _ => e_cpA (sp := 0) (dp := 0) (z := 300) g.2.2.2.2.2.2.2.2.2.2.2.1 c.2.2.2.2.2.2.2.2.2.2.2.1 (by omega) (by omega), fun _ _ => e_gfP g.1 rfl, fun _ _ _ => if_pos c.1⟩
theorem c_copyLog (c : Cty h a) (g : Cty h b) (hab : b + 11 < a ∨ a + 11 < b) : Cl sc (d + 1) mX5_copyFrom [Vr (some (a + 10)), Vr (some (b + 10))] (hI h I) = some (.inl (Vx 0), hI h (am_u2 (am_u2 (am_cpf I (b + 11) 0 (a + 11) 0 300) (a + 10) 1 (I (b + 10) 1)) (a + 10) 2 (I (b + 10) 2))) := by
  rw [q_X5_copyFrom_0]
  simp (disch := first | (simp (disch := omega) only [w32_id]; omega) | omega) only [↓BC c, ↓BC g, ↓BK c g, cpf_a, u2_a, e_clI, e_clV, e_clP, e_clIx, e_clVx, e_clPx, e_xt, Int.toNat_natCast, Int.reduceToNat, bz0, bz1, Nat.add_zero, decide_eq_false_iff_not, decide_eq_true_eq, Int.reduceEq, Nat.reduceEqDiff, Int.reduceLT, Int.reduceLE, not_true_eq_false, not_false_eq_true, eq_self, ↓reduceIte]
/-- what is copied behind the loop -/
def cpE (K : am_I) (a b : Nat) : am_I := am_u2 (am_u2 (am_u2 (am_u2 (am_cpf (am_cpf (am_cpf (am_cpf (am_u2 K a 5 (K b 5)) (b + 6) 0 (a + 6) 0 6) (b + 7) 0 (a + 7) 0 6) (b + 8) 0 (a + 8) 0 6) (b + 9) 0 (a + 9) 0 6) a 10 (K b 10)) a 11 (K b 11)) a 12 (K b 12)) a 13 (K b 13)
def cpL (K : am_I) (a b : Nat) : am_I := am_u2 (am_u2 (am_cpf K (b + 11) 0 (a + 11) 0 300) (a + 10) 1 (K (b + 10) 1)) (a + 10) 2 (K (b + 10) 2)
theorem cp_end (c : Cty h a) (g : Cty h b) (c' : Cty (wP h a 14 (rP h b 14)) a) (g' : Cty (wP h a 14 (rP h b 14)) b) (hab : b + 11 < a ∨ a + 11 < b) {K : am_I} : Ru sc (d + 2) mX0_copyFrom 19 [Vr (some a), Vr (some b), Vi ((60 : Nat) : Int)] [] (hI h K) = some (.inl (Vx 0), hI (wP h a 14 (rP h b 14)) (cpL (cpE K a b) a b)) := by
  have n5 : b ≠ a := by omega
  have n6 : b ≠ a + 6 := by omega
  have n7 : b ≠ a + 7 := by omega
  have n8 : b ≠ a + 8 := by omega
  have n9 : b ≠ a + 9 := by omega
  have cl := fun I => c_copyLog (sc := sc) (d := d) (I := I) c' g' hab
  rw [q_X0_copyFrom_19, if_neg (by omega)]
  simp (disch := first | assumption | exact Int.natCast_nonneg _ | decide) only [↓BC c, ↓BC g, ↓BK c g, u2_a, cpf_a, ↓BC c', ↓BC g', cl, e_clI, e_clV, e_clP, e_clIx, e_clVx, e_clPx, e_xt, Int.toNat_natCast, Int.reduceToNat, bz0, bz1, Nat.add_zero, decide_eq_false_iff_not, decide_eq_true_eq, Int.reduceEq, Nat.reduceEqDiff, Int.reduceLT, Int.reduceLE, not_true_eq_false, not_false_eq_true, eq_self, ↓reduceIte]
  rfl
theorem cp_loop (c : Cty h a) (g : Cty h b) (hab : b + 11 < a ∨ a + 11 < b) {J : am_I} {i : Nat} (hi : i < 60) (z1 : J (b + 1) i = 0 ∨ J (b + 1) i = 1) (z4 : J (b + 4) i = 0 ∨ J (b + 4) i = 1) (z5 : J (b + 5) i = 0 ∨ J (b + 5) i = 1) : Ru sc (d + 2) mX0_copyFrom 19 [Vr (some a), Vr (some b), Vi (i : Int)] [] (hI h J) = Ru sc (d + 2) mX0_copyFrom 19 [Vr (some a), Vr (some b), Vi ((i + 1 : Nat) : Int)] [] (hI h (am_u2 (am_u2 (am_u2 J (a + 1) i (J (b + 1) i)) (a + 4) i (J (b + 4) i)) (a + 5) i (J (b + 5) i))) := by
  have hlt : (i : Int) < 60 := by omega
  have wn : w32 ((i : Int) + 1) = ((i + 1 : Nat) : Int) := w32_succ (by omega)
  have n1 : b + 4 ≠ a + 1 := by omega
  have n2 : b + 5 ≠ a + 1 := by omega
  have n3 : b + 5 ≠ a + 4 := by omega
  rw [q_X0_copyFrom_19]
  simp (disch := first | assumption | exact Int.natCast_nonneg _ | decide) only [↓BC c, ↓BC g, u2_a, hlt, wn, e_clI, e_clV, e_clP, e_clIx, e_clVx, e_clPx, e_xt, Int.toNat_natCast, Int.reduceToNat, bz0, bz1, Nat.add_zero, decide_eq_false_iff_not, decide_eq_true_eq, Int.reduceEq, Nat.reduceEqDiff, Int.reduceLT, Int.reduceLE, not_true_eq_false, not_false_eq_true, eq_self, ↓reduceIte]
theorem c_copyFrom (s : Sh h) (ca : isC a) (cb : isC b) (hab : b + 11 < a ∨ a + 11 < b) (V : WW w) (R : CRep I b w) (B : BBo I b) : ∃ J, ((∀ p, p < a ∨ a + 11 < p → J p = I p) ∧ CRep J a w ∧ BBo J a) ∧ Cl sc (d + 2) mX0_copyFrom [Vr (some a), Vr (some b)] (hI h I) = some (.inl (Vx 0), hI (wP h a 14 (rP h b 14)) J) := by
  have c := cty_of s ca
  have g := cty_of s cb
  have s' : Sh (wP h a 14 (rP h b 14)) := s.w14 ca
  have C0 : Cpd I I a b (fun _ _ => False) := ⟨fun _ _ => rfl, fun _ _ h => h.elim⟩
  have C2 := (C0.cpf (k := 2) (n := 60) hab (by decide)).cpf (k := 3) (n := 60) hab (by decide)
  obtain ⟨K, k1, k2⟩ := lpG (X := fun i (_ : Unit) J => Ru sc (d + 2) mX0_copyFrom 19 [Vr (some a), Vr (some b), Vi (i : Int)] [] (hI h J)) (G := fun _ u => u) (K := fun i _ J => Cpd I J a b (fun k j => (k = 2 ∧ j < 60) ∨ (k = 3 ∧ j < 60) ∨ ((k = 1 ∨ k = 4 ∨ k = 5) ∧ j < i))) (s0 := ()) (I := am_cpf (am_cpf I (b + 2) 0 (a + 2) 0 60) (b + 3) 0 (a + 3) 0 60) ⟨C2.1, fun k j hk => C2.2 k j (by dsimp only; omega)⟩ (N := 60) (fun i _ J hi k => by
    have l1 := congrFun (k.ld hab (k := 1) (by decide)) i
    have l4 := congrFun (k.ld hab (k := 4) (by decide)) i
    have l5 := congrFun (k.ld hab (k := 5) (by decide)) i
    obtain ⟨z1, z4, z5⟩ := B i hi
    rw [← l1] at z1
    rw [← l4] at z4
    rw [← l5] at z5
    have C3 := ((k.u2 (k := 1) (i := i) (by decide) l1).u2 (k := 4) (i := i) (by decide) l4).u2 (k := 5) (i := i) (by decide) l5
    refine ⟨_, ⟨C3.1, fun k j hk => C3.2 k j ?_⟩, cp_loop c g hab hi z1 z4 z5⟩
    rcases hk with hk | hk | ⟨hk, hj⟩
    · exact Or.inl (Or.inl (Or.inl (Or.inl hk)))
    · exact Or.inl (Or.inl (Or.inl (Or.inr (Or.inl hk))))
    · by_cases e : j = i
      · rcases hk with hk | hk | hk
        · exact Or.inl (Or.inl (Or.inr ⟨hk, e⟩))
        · exact Or.inl (Or.inr ⟨hk, e⟩)
        · exact Or.inr ⟨hk, e⟩
      · exact Or.inl (Or.inl (Or.inl (Or.inr (Or.inr ⟨hk, by omega⟩)))))
  have l0 : ∀ j, K b j = I b j := fun j => congrFun (k1.ld hab (k := 0) (by decide)) j
  have D1 := (((((k1.u2 (k := 0) (i := 5) (by decide) (l0 5)).cpf (k := 6) (n := 6) hab (by decide)).cpf (k := 7) (n := 6) hab (by decide)).cpf (k := 8) (n := 6) hab (by decide)).cpf (k := 9) (n := 6) hab (by decide))
  have D2 := ((((D1.u2 (k := 0) (i := 10) (by decide) (l0 10)).u2 (k := 0) (i := 11) (by decide) (l0 11)).u2 (k := 0) (i := 12) (by decide) (l0 12)).u2 (k := 0) (i := 13) (by decide) (l0 13))
  have D2' : Cpd I (cpE K a b) a b _ := D2
  have l10 : ∀ j, cpE K a b (b + 10) j = I (b + 10) j := fun j => congrFun (D2'.ld hab (k := 10) (by decide)) j
  have D3 := ((D2'.cpf (k := 11) (n := 300) hab (by decide)).u2 (k := 10) (i := 1) (by decide) (l10 1)).u2 (k := 10) (i := 2) (by decide) (l10 2)
  have D3' : Cpd I (cpL (cpE K a b) a b) a b _ := D3
  have hnd : ∀ k j, ndC k j → cpL (cpE K a b) a b (a + k) j = I (b + k) j := by
    intro k j hn
    refine D3'.2 k j ?_
    clear k2 D1 D2 D2' D3 D3' l0 l10 k1 C2 C0
    unfold ndC at hn
    dsimp only
    rcases hn with ⟨rfl, hn⟩ | ⟨h1, h2, hn⟩ | ⟨h1, h2, hn⟩ | ⟨rfl, hn⟩ | ⟨rfl, hn⟩
    · rcases hn with rfl | rfl | rfl | rfl | rfl <;> simp
    · have h9 : k = 1 ∨ k = 2 ∨ k = 3 ∨ k = 4 ∨ k = 5 := by omega
      rcases h9 with rfl | rfl | rfl | rfl | rfl <;> simp [hn]
    · have h9 : k = 6 ∨ k = 7 ∨ k = 8 ∨ k = 9 := by omega
      rcases h9 with rfl | rfl | rfl | rfl <;> simp [hn]
    · rcases hn with rfl | rfl <;> simp
    · simp [hn]
  refine ⟨cpL (cpE K a b) a b, ⟨D3'.1, CRep.cp hnd V R, BBo.cp hnd B⟩, ?_⟩
  rw [q_X0_copyFrom_0]
  clear hnd D3' D3 D2' D2 D1 k1 l10 l0
  simp (disch := first | assumption | exact Int.natCast_nonneg _ | decide) only [↓BC c, ↓BC g, ↓BK c g, e_clI, e_clV, e_clP, e_clIx, e_clVx, e_clPx, e_xt, Int.toNat_natCast, Int.reduceToNat, bz0, bz1, Nat.add_zero, decide_eq_false_iff_not, decide_eq_true_eq, Int.reduceEq, Nat.reduceEqDiff, Int.reduceLT, Int.reduceLE, not_true_eq_false, not_false_eq_true, eq_self, ↓reduceIte]
  exact k2.trans (cp_end c g (cty_of s' ca) (cty_of s' cb) hab)
end
