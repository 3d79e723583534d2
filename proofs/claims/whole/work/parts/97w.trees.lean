/-! LADDERS FOR ALL: the trees -/
def subB (p S : Nat) : Bool := decide (bAnd (p : Int) (S : Int) = (p : Int))
theorem sub_t : ∀ S : Nat, S < 64 → ∀ p : Nat, p < 64 → subB p S = decide (bAnd (p : Int) (bXor (S : Int) (-1)) = 0) ∧ (subB p S = true → p ≤ S ∧ bAnd (S : Int) (bXor (p : Int) (-1)) = ((S - p : Nat) : Int)) := by decide +kernel
theorem shl_t : ∀ f : Nat, f < 7 → bShl 1 (f : Int) = ((2 ^ f : Nat) : Int) ∧ 2 ^ f ≤ 64 := by decide +kernel
def bsF (w : am_Wd) (S c f : Nat) (z : Int) : Int := if (S : Int) = bShl 1 (f : Int) ∧ hmW w f = c then 0 else z
def bs (w : am_Wd) (S c n : Nat) : Int := fo (bsF w S c) n 1000000
def jtF (T : Nat → Nat → Int) (S c i : Nat) (z : Int) : Int := if subB (i + 1) S = true then min z (T (i + 1) c + T (S - (i + 1)) c) else z
def jt (w : am_Wd) (T : Nat → Nat → Int) (S c n : Nat) : Int := fo (jtF T S c) n (bs w S c (w 0).toNat)
def C0 (w : am_Wd) (T : Nat → Nat → Int) (S c : Nat) : Int := jt w T S c (S - 1)
theorem bs_b {w : am_Wd} {S c : Nat} : ∀ {n : Nat}, 0 ≤ bs w S c n ∧ bs w S c n ≤ 1000000
  | 0 => ⟨by show (0 : Int) ≤ 1000000; decide, Int.le_refl _⟩
  | n + 1 => by
    have ih := bs_b (w := w) (S := S) (c := c) (n := n)
    show 0 ≤ bsF w S c n (bs w S c n) ∧ bsF w S c n (bs w S c n) ≤ 1000000
    unfold bsF
    split
    · omega
    · exact ih
theorem jt_b {w : am_Wd} {T : Nat → Nat → Int} {S c : Nat} (hT : ∀ p, 1 ≤ p → p < S → 0 ≤ T p c) : ∀ {n : Nat}, n ≤ S - 1 → 0 ≤ jt w T S c n ∧ jt w T S c n ≤ 1000000
  | 0, _ => bs_b
  | n + 1, h => by
    have ih := jt_b (w := w) (T := T) (S := S) (c := c) hT (n := n) (by omega)
    show 0 ≤ jtF T S c n (jt w T S c n) ∧ jtF T S c n (jt w T S c n) ≤ 1000000
    unfold jtF
    split
    · have h1 := hT (n + 1) (by omega) (by omega)
      have h2 := hT (S - (n + 1)) (by omega) (by omega)
      omega
    · exact ih
theorem jt_cg {w : am_Wd} {T T' : Nat → Nat → Int} {S c : Nat} (h : ∀ p, 1 ≤ p → p < S → T p c = T' p c) : ∀ {n : Nat}, n ≤ S - 1 → jt w T S c n = jt w T' S c n
  | 0, _ => rfl
  | n + 1, hn => by
    show jtF T S c n (jt w T S c n) = jtF T' S c n (jt w T' S c n)
    rw [jt_cg h (n := n) (by omega)]
    unfold jtF
    rw [h (n + 1) (by omega) (by omega), h (S - (n + 1)) (by omega) (by omega)]
def TR (w : am_Wd) (ad : Nat → Int) (N : Nat) (T : Nat → Nat → Int) : Prop := ∀ S, 1 ≤ S → S < N → bnd (T S) 36 ∧ Lst pl ad (C0 w T S) (T S)
theorem TR.uni {w : am_Wd} {ad : Nat → Int} {N : Nat} {T T' : Nat → Nat → Int} (h : TR w ad N T) (h' : TR w ad N T') : ∀ S, 1 ≤ S → S < N → ∀ c, c < 36 → T S c = T' S c := by
  intro S
  induction S using Nat.strongRecOn with
  | ind S ih =>
    intro h1 h2 c hc
    have e : ∀ u, u < 36 → C0 w T S u = C0 w T' S u := fun u hu => jt_cg (fun p q1 q2 => ih p q2 q1 (by omega) u hu) (Nat.le_refl _)
    have a := (h S h1 h2).2
    have b := (h' S h1 h2).2
    have a2 : Lst pl ad (C0 w T' S) (T S) := ⟨a.1, fun u hu => by rw [← e u hu]; exact a.2.1 u hu, fun G g1 g2 => a.2.2 G g1 (fun u hu => by rw [e u hu]; exact g2 u hu)⟩
    exact a2.uni b c hc
theorem TR.add {w : am_Wd} {ad : Nat → Int} {N : Nat} {T T' : Nat → Nat → Int} (h : TR w ad N T) (e : ∀ p, 1 ≤ p → p < N → ∀ c, c < 36 → T' p c = T p c) (hb : bnd (T' N) 36) (hL : Lst pl ad (C0 w T N) (T' N)) : TR w ad (N + 1) T' := by
  have cg : ∀ S, S ≤ N → ∀ u, u < 36 → C0 w T' S u = C0 w T S u := fun S hS u hu => jt_cg (fun p q1 q2 => e p q1 (by omega) u hu) (Nat.le_refl _)
  have lcg : ∀ {A B F : Nat → Int}, (∀ u, u < 36 → A u = B u) → Lst pl ad A F → Lst pl ad B F := fun hab a => ⟨a.1, fun u hu => by rw [← hab u hu]; exact a.2.1 u hu, fun G g1 g2 => a.2.2 G g1 (fun u hu => by rw [hab u hu]; exact g2 u hu)⟩
  intro S h1 h2
  by_cases hS : S = N
  · rw [hS]
    exact ⟨hb, lcg (fun u hu => (cg N (Nat.le_refl N) u hu).symm) hL⟩
  · obtain ⟨a1, a2, a3, a4⟩ := h S h1 (by omega)
    have eS : ∀ u, u < 36 → T' S u = T S u := fun u hu => e S h1 (by omega) u hu
    refine ⟨fun u hu => by rw [eS u hu]; exact a1 u hu, ?_, ?_, ?_⟩
    · intro b hb
      rw [eS _ (lc_lt b hb), eS _ (mc_lt b hb)]
      exact a2 b hb
    · intro u hu
      rw [eS u hu, cg S (by omega) u hu]
      exact a3 u hu
    · intro G g1 g2 u hu
      rw [eS u hu]
      exact a4 G g1 (fun v hv => by rw [← cg S (by omega) v hv]; exact g2 v hv) u hu
theorem fo_map {g : Nat → Int → Int} {C : Nat → Int} : ∀ n, fo (fun i C => up C i (g i (C i))) n C = fun u => if u < n then g u (C u) else C u
  | 0 => by
    funext u
    rw [if_neg (Nat.not_lt_zero u)]
    rfl
  | n + 1 => by
    funext u
    show up (fo (fun i C => up C i (g i (C i))) n C) n (g n (fo (fun i C => up C i (g i (C i))) n C n)) u = _
    rw [fo_map n]
    by_cases h : u = n
    · subst h
      rw [up_s]
      try dsimp only
      rw [if_neg (Nat.lt_irrefl u), if_pos (Nat.lt_succ_self u)]
    · rw [up_o h]
      try dsimp only
      by_cases h2 : u < n
      · rw [if_pos h2, if_pos (by omega)]
      · rw [if_neg h2, if_neg (by omega)]
theorem tr_P : ∀ S, S < 64 → (56, S, 57 + S) ∈ shP := by decide +kernel
theorem tr_T : ∀ S, S < 64 → shT.getD (57 + S) (0, 0) = (1, 36) ∧ Nat.blt (57 + S) 304 = true := by decide +kernel
section
variable {sc : Nat × (Nat → Int)} {d a : Nat} {h : am_H} {I J : am_I} {w : am_Wd}
theorem Sh.tree (s : Sh h) {S : Nat} (hS : S < 64) : rP h 56 S = some (57 + S) ∧ hT h (57 + S) = (1, 36) := by
  have h1 := s.2.1 _ (tr_P S hS)
  have h2 := tr_T S hS
  exact ⟨h1, by rw [s.T _ h2.2]; exact h2.1⟩
theorem c_joinTrees {q r1 r2 : Nat} (hq : hT h q = (1, 36)) (h1 : hT h r1 = (1, 36)) (h2 : hT h r2 = (1, 36)) (n1 : r1 ≠ q) (n2 : r2 ≠ q) (b1 : bnd (I r1) 36) (b2 : bnd (I r2) 36) : Cl sc (d + 2) mX7_joinTrees [Vr (some q), Vr (some r1), Vr (some r2)] (hI h I) = some (.inl (Vx 0), hI h (sr I q (fun u => if u < 36 then min (I q u) (I r1 u + I r2 u) else I q u))) := by
  have hr := fo_run0 (F := fun i C => Ru sc (d + 2) mX7_joinTrees 3 [Vr (some q), Vr (some r1), Vr (some r2), Vi (i : Int)] [] (hI h (sr I q C))) (f := fun i C => up C i (min (C i) (I r1 i + I r2 i))) (N := 36) (s0 := I q) (fun i C hi => by
    have hlt : (i : Int) < 36 := by omega
    have c1 := b1 i hi
    have c2 := b2 i hi
    have w1 : w32 (I r1 i + I r2 i) = I r1 i + I r2 i := w32_id (by omega) (by omega)
    have f1 : sr I q C r1 = I r1 := sr_ne n1
    have f2 : sr I q C r2 = I r2 := sr_ne n2
    try dsimp only
    rw [q_X7_joinTrees_3]
    simp (disch := first | (simp (disch := omega) only [w32_id]; omega) | omega) only [hlt, e_ldA hq, e_ldA h1, e_ldA h2, e_stA hq, sr_q, f1, f2, w1, c_min, u2_sr, w32_succ, e_clI, e_clV, e_clP, e_clIx, e_clVx, e_clPx, e_xt, Int.toNat_natCast, Int.reduceToNat, bz0, bz1, Nat.add_zero, decide_eq_false_iff_not, decide_eq_true_eq, Int.reduceEq, Nat.reduceEqDiff, Int.reduceLT, Int.reduceLE, not_true_eq_false, not_false_eq_true, eq_self, ↓reduceIte])
  rw [fo_map (g := fun i z => min z (I r1 i + I r2 i))] at hr
  try dsimp only at hr
  rw [sr_self] at hr
  rw [q_X7_joinTrees_0]
  refine hr.trans ?_
  rw [q_X7_joinTrees_3, if_neg (by omega)]
end
