section
variable (sc : Nat × (Nat → Int)) (call : am_C)
theorem am_lin_go (cd : List am_E) (hd : List (Nat × Nat × Nat × Nat)) : ∀ (f : Nat) (sfx : List am_E) (ls st : List am_V) (h : am_H), (∃ c, ∀ jump, am_go sc am_lit cd hd call jump f sfx ls st h = c) ∨ (∃ i l t h1, ∀ jump, am_go sc am_lit cd hd call jump f sfx ls st h = jump i l t h1)
  | 0, _, _, _, _ => Or.inl ⟨none, fun _ => rfl⟩
  | f + 1, sfx, ls, st, h => by
    rcases am_lin_step sc am_lit cd hd call sfx ls st h with ⟨c, hc⟩ | ⟨s, l, t, h1, hc⟩ | ⟨i, l, t, h1, hc⟩
    · exact Or.inl ⟨c, fun jump => hc _ jump⟩
    · rcases am_lin_go cd hd f s l t h1 with ⟨c, e⟩ | ⟨i, l2, t2, h2, e⟩
      · exact Or.inl ⟨c, fun jump => (hc (am_go sc am_lit cd hd call jump f) jump).trans (e jump)⟩
      · exact Or.inr ⟨i, l2, t2, h2, fun jump => (hc (am_go sc am_lit cd hd call jump f) jump).trans (e jump)⟩
    · exact Or.inr ⟨i, l, t, h1, fun jump => hc _ jump⟩
/-- n ways back at most -/
noncomputable def am_lp (m : Nat) : Nat → am_J
  | 0 => fun _ _ _ _ => none
  | n + 1 => fun i ls st h => am_go sc am_lit (am_at m).1 (am_at m).2.1 call (am_lp m n) 4000 ((am_at m).1.drop i) ls st h
theorem am_lp_up (m : Nat) : ∀ (n i : Nat) (ls st : List am_V) (h : am_H) (r : (am_V ⊕ Nat) × am_H), am_lp sc call m n i ls st h = some r → am_lp sc call m (n + 1) i ls st h = some r
  | 0, _, _, _, _, _, e => by cases e
  | n + 1, i, ls, st, h, r, e => by
    rcases am_lin_go sc call (am_at m).1 (am_at m).2.1 4000 ((am_at m).1.drop i) ls st h with ⟨c, hc⟩ | ⟨i1, l, t, h1, hc⟩
    · exact (hc _).trans ((hc _).symm.trans e)
    · have e1 : am_lp sc call m n i1 l t h1 = some r := (hc _).symm.trans e
      exact (hc _).trans (am_lp_up m n i1 l t h1 r e1)
theorem am_lp_le (m : Nat) {n k i : Nat} {ls st : List am_V} {h : am_H} {r : (am_V ⊕ Nat) × am_H} (hk : n ≤ k) (e : am_lp sc call m n i ls st h = some r) : am_lp sc call m k i ls st h = some r := by
  induction hk with
  | refl => exact e
  | step _ ih => exact am_lp_up sc call m _ _ _ _ _ _ ih
noncomputable def am_lim (F : Nat → am_R) : am_R := Classical.epsilon (fun r => ∃ N, ∀ k, N ≤ k → F k = r)
theorem am_lim_of {F : Nat → am_R} {r : am_R} {N : Nat} (h : ∀ k, N ≤ k → F k = r) : am_lim F = r := by
  have hx : ∃ r, ∃ N, ∀ k, N ≤ k → F k = r := ⟨r, N, h⟩
  obtain ⟨M, hM⟩ := Classical.epsilon_spec hx
  have h1 := hM (max N M) (Nat.le_max_right _ _)
  have h2 := h (max N M) (Nat.le_max_left _ _)
  exact h1.symm.trans h2
theorem am_lp_ev (m i : Nat) (ls st : List am_V) (h : am_H) : ∃ N, ∀ k, N ≤ k → am_lp sc call m k i ls st h = am_lim (fun n => am_lp sc call m n i ls st h) := by
  by_cases hx : ∃ n r, am_lp sc call m n i ls st h = some r
  · obtain ⟨n, r, e⟩ := hx
    have h1 : ∀ k, n ≤ k → am_lp sc call m k i ls st h = some r := fun k hk => am_lp_le sc call m hk e
    exact ⟨n, fun k hk => (h1 k hk).trans (am_lim_of h1).symm⟩
  · have h1 : ∀ k, 0 ≤ k → am_lp sc call m k i ls st h = none := fun k _ => by
      cases e : am_lp sc call m k i ls st h with
      | none => rfl
      | some r => exact absurd ⟨k, r, e⟩ hx
    exact ⟨0, fun k hk => (h1 k hk).trans (am_lim_of h1).symm⟩
theorem am_lim_eq (m i : Nat) (ls st : List am_V) (h : am_H) : am_lim (fun n => am_lp sc call m n i ls st h) = am_go sc am_lit (am_at m).1 (am_at m).2.1 call (fun i ls st h => am_lim (fun n => am_lp sc call m n i ls st h)) 4000 ((am_at m).1.drop i) ls st h := by
  rcases am_lin_go sc call (am_at m).1 (am_at m).2.1 4000 ((am_at m).1.drop i) ls st h with ⟨c, hc⟩ | ⟨i1, l, t, h1, hc⟩
  · rw [hc]
    refine am_lim_of (N := 1) fun k hk => ?_
    obtain ⟨j, rfl⟩ : ∃ j, k = j + 1 := ⟨k - 1, by omega⟩
    exact hc _
  · rw [hc]
    obtain ⟨N, hN⟩ := am_lp_ev sc call m i1 l t h1
    refine am_lim_of (N := N + 1) fun k hk => ?_
    obtain ⟨j, rfl⟩ : ∃ j, k = j + 1 := ⟨k - 1, by omega⟩
    exact (hc _).trans (hN j (by omega))
theorem am_lim_some {m i : Nat} {ls st : List am_V} {h : am_H} {r : (am_V ⊕ Nat) × am_H} (e : am_lim (fun n => am_lp sc call m n i ls st h) = some r) : ∃ n, am_lp sc call m n i ls st h = some r := by
  obtain ⟨N, hN⟩ := am_lp_ev sc call m i ls st h
  exact ⟨N, (hN N (Nat.le_refl _)).trans e⟩
end
def am_pad (n : Nat) (l : List am_V) : List am_V := l ++ List.replicate (n - l.length) (Vx 0)
/-- the runs at a depth of calls: where a method m goes on from its entry i -/
noncomputable def Ru (sc : Nat × (Nat → Int)) : Nat → Nat → am_J
  | 0 => fun _ _ _ _ _ => none
  | d + 1 => fun m i ls st h => am_lim (fun n => am_lp sc (fun m1 args h1 => if Nat.ble args.length (am_at m1).2.2 = true then Ru sc d m1 0 (am_pad (am_at m1).2.2 args) [] h1 else none) m n i ls st h)
/-- a call -/
noncomputable def Cl (sc : Nat × (Nat → Int)) (d m : Nat) (args : List am_V) (h : am_H) : am_R := if Nat.ble args.length (am_at m).2.2 = true then Ru sc d m 0 (am_pad (am_at m).2.2 args) [] h else none
theorem Ru_at {sc : Nat × (Nat → Int)} {d m n : Nat} {cd : List am_E} {hd : List (Nat × Nat × Nat × Nat)} (e : am_at m = (cd, hd, n)) (i : Nat) (ls st : List am_V) (h : am_H) : Ru sc (d + 1) m i ls st h = am_go sc am_lit cd hd (Cl sc d) (Ru sc (d + 1) m) 4000 (cd.drop i) ls st h := by
  have h1 := am_lim_eq sc (Cl sc d) m i ls st h
  rw [e] at h1
  exact h1
theorem Cl_at {sc : Nat × (Nat → Int)} {d m n : Nat} {cd : List am_E} {hd : List (Nat × Nat × Nat × Nat)} (e : am_at m = (cd, hd, n)) {args : List am_V} (hn : Nat.ble args.length n = true) (h : am_H) : Cl sc (d + 1) m args h = am_go sc am_lit cd hd (Cl sc d) (Ru sc (d + 1) m) 4000 cd (am_pad n args) [] h := by
  have h1 := Ru_at (sc := sc) (d := d) e 0 (am_pad n args) [] h
  rw [List.drop_zero] at h1
  rw [← h1]
  unfold Cl
  rw [e, if_pos hn]
