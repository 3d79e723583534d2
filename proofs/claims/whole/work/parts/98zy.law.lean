/-! A LAW'S TEXT: the call -/
theorem tF_ty {w : am_Wd} {f : Nat → Int × Int} {st : Nat} : ∀ k, (∀ i, i < k → f (st + i) = (w (680 + 2 * (st + i)), w (681 + 2 * (st + i)))) → tF w st k = tyR f st k []
  | 0, _ => rfl
  | k + 1, e => by
    unfold tF tyR
    rw [tF_ty k (fun i hi => e i (by omega)), e k (by omega)]
    cases tyR f st k [] with
    | none => rfl
    | some u => rfl
theorem LR.new {h h' : am_H} {I J : am_I} {a b : Nat} {w : am_Wd} (M : LR h I a w) (eT : ∀ p, p < hZ h → hT h' p = hT h p) (eZ : hZ h ≤ hZ h') (eP : rP h' b 14 = rP h a 14) (eQ : ∀ p j, 304 ≤ p → p < hZ h → rP h' p j = rP h p j) (e : ∀ n k, k < 5 → 304 + 6 * n + k < hZ h → J (304 + 6 * n + k) = I (304 + 6 * n + k)) : LR h' J b w := by
  unfold LR at M ⊢
  rw [eP]
  rcases M with M | ⟨M0, n, ln, cc, M1, M2, M3, M4, M5⟩
  · exact Or.inl M
  · refine Or.inr ⟨M0, n, ln, cc, M1, by omega, ?_, ?_, M5⟩
    · unfold LO at M3 ⊢
      rw [eT _ (by omega), eT _ (by omega), eT _ (by omega), eT _ (by omega), eT _ (by omega), eT _ (by omega), eQ _ _ (by omega) (by omega), eQ _ _ (by omega) (by omega), eQ _ _ (by omega) (by omega), eQ _ _ (by omega) (by omega), eQ _ _ (by omega) (by omega)]
      exact M3
    · unfold LC at M4 ⊢
      have e0 := e n 0 (by omega) (by omega)
      rw [Nat.add_zero] at e0
      rw [e0, e n 1 (by omega) (by omega), e n 2 (by omega) (by omega), e n 3 (by omega) (by omega), e n 4 (by omega) (by omega)]
      exact M4
theorem ar_m3 {i : Nat} (hi : i < 849) : w32 (1480 + (i : Int)) = ((1480 + i : Nat) : Int) ∧ w32 (631 + (i : Int)) = ((631 + i : Nat) : Int) ∧ w32 ((i : Int) + 1) = ((i + 1 : Nat) : Int) ∧ (i : Int) < 849 ∧ ((1480 + i : Nat) : Int) < 2329 ∧ ((631 + i : Nat) : Int) < 2329 := by
  rw [w32_id (z := 1480 + (i : Int)) (by omega) (by omega), w32_id (z := 631 + (i : Int)) (by omega) (by omega), w32_id (by omega) (by omega)]
  omega
section
variable {sc : Nat × (Nat → Int)} {d : Nat} {h h1 h2 : am_H} {I J J1 J2 K : am_I} {w v : am_Wd} {y : Int}
theorem Rel.w84 (r : Rel h I) {v : am_Wd} (e : ∀ j, j < 1480 → v j = I 284 j) : Rel h (sr I 284 v) := by
  obtain ⟨s, S, i, g, t, x1, x2, x9, z⟩ := r
  have n0 : ∀ p, p ≠ 284 → sr I 284 v p = I p := fun p hp => sr_ne hp
  refine ⟨s, ?_, ⟨?_, ?_⟩, ⟨?_, ?_, ?_, fun k hk => ?_⟩, ⟨?_, ?_, ?_, ?_⟩, ?_, ?_, ?_, z⟩
  · rw [sr_q]
    refine ⟨CRep.cgw (fun j hj => e j (by omega)) S.2.1 (S.1.eq fun k hk => n0 _ (by omega)), S.2.1.cgw (fun j hj => e j (by omega)), ?_⟩
    exact (S.2.2.same rfl (Nat.le_refl _) rfl (fun _ _ _ => rfl) (fun n k hk => n0 _ (by omega))).cg8 (e 2 (by omega)) (fun j h1 h2 => e j h2)
  · rw [n0 0 (by decide), n0 283 (by decide)]
    exact i.1
  · rw [n0 283 (by decide), n0 285 (by decide)]
    rcases i.2 with i2 | ⟨i2, i3⟩
    · exact Or.inl i2
    · exact Or.inr ⟨i2, i3.1.eq fun k hk => n0 _ (by omega), i3.2.1, i3.2.2.same rfl (Nat.le_refl _) rfl (fun _ _ _ => rfl) (fun n k hk => n0 _ (by omega))⟩
  · rw [n0 0 (by decide), n0 283 (by decide)]
    exact g.1
  · rw [n0 283 (by decide)]
    exact g.2.1
  · rw [n0 0 (by decide)]
    exact g.2.2.1
  · rw [n0 283 (by decide)] at hk
    obtain ⟨q1, q2, q3, q4⟩ := g.2.2.2 k hk
    have hk9 := ring_n (I := I) (k := k)
    have er : ring (sr I 284 v) k = ring I k := by unfold ring; rw [n0 0 (by decide)]
    have ew : rowA (sr I 284 v) k = rowA I k := by unfold rowA; rw [n0 288 (by decide)]
    rw [er, ew, sr_q, e 2 (by decide)]
    exact ⟨q1.eq fun k hk => n0 _ (by omega), q2, q3, q4⟩
  · rw [n0 1 (by decide), n0 283 (by decide)]
    exact t.1
  · rw [n0 283 (by decide)]
    exact t.2.1
  · rw [n0 2 (by decide), n0 289 (by decide)]
    exact t.2.2.1
  · rw [n0 1 (by decide), n0 283 (by decide)]
    exact t.2.2.2
  · rw [n0 283 (by decide)]
    exact x1
  · rw [n0 283 (by decide)]
    exact x2
  · rw [n0 9 (by decide)]
    exact x9
/-- what the law's draft becomes -/
def lwF (f : Nat → Int) (n : Nat) : Nat → Int := fun j => if 631 ≤ j ∧ j < 631 + n then f (j + 849) else f j
theorem m_law32 (s : Sh h) {u1 : Int} : Ru sc (d + 1) mX12_law 32 [Vr (some 283), Vi u1, Vi 0] [] (hI h J) = some (.inl (Vi u1), hI h (am_u2 (am_u2 (sr J 284 (lwF (J 284) 849)) 284 2 1) 283 7 0)) := by
  have gp : ∀ (I : am_I) (k : Option Nat → am_R), gfP 12 1 (hI h I) (some 283) k = k (some 284) := (BM s).2.2.2.1
  have go : ∀ n : Nat, n ≤ 849 → Ru sc (d + 1) mX12_law 32 [Vr (some 283), Vi u1, Vi 0] [] (hI h J) = Ru sc (d + 1) mX12_law 32 [Vr (some 283), Vi u1, Vi (n : Int)] [] (hI h (sr J 284 (lwF (J 284) n))) := by
    intro n
    induction n with
    | zero =>
      intro _
      rw [show lwF (J 284) 0 = J 284 from funext fun j => if_neg (by omega), sr_self]
      rfl
    | succ n ih =>
      intro hn
      obtain ⟨w1, w2, w3, l1, l2, l3⟩ := ar_m3 (i := n) (by omega)
      have e1 : sr J 284 (lwF (J 284) n) 284 (1480 + n) = J 284 (1480 + n) := by
        rw [sr_q]
        exact if_neg (by clear w1 w2 w3; omega)
      rw [ih (by clear w1 w2 w3; omega), q_X12_law_32, if_pos l1, gp, gp, w1, e_ldA (s.T 284 rfl) (Int.natCast_nonneg _) l2, Int.toNat_natCast, e1, w2, e_stA (s.T 284 rfl) (Int.natCast_nonneg _) l3, Int.toNat_natCast, w3, u2_sr]
      refine congrArg (fun C => Ru sc (d + 1) mX12_law 32 [Vr (some 283), Vi u1, Vi ((n + 1 : Nat) : Int)] [] (hI h (sr J 284 C))) (funext fun j => ?_)
      unfold up lwF
      clear w1 w2 w3
      by_cases e : j = 631 + n
      · rw [if_pos e, if_pos (by omega), e]
        exact congrArg (J 284) (by omega)
      · rw [if_neg e]
        by_cases e2 : 631 ≤ j ∧ j < 631 + n
        · rw [if_pos e2, if_pos (by omega)]
        · rw [if_neg e2, if_neg (by omega)]
  rw [go 849 (Nat.le_refl _), q_X12_law_32, if_neg (by decide), gp, e_stA (s.T 284 rfl) (by decide) (by decide), e_pfI (s.T 283 rfl)]
  rfl
end
