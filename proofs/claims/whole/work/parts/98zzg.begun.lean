/-! THE START: what the constructors leave -/
def st_g (r : am_R) : am_H := match r with
  | some (_, h) => h
  | none => am_h0
def st_ok (r : am_R) : Bool := match r with
  | some (.inl _, _) => true
  | _ => false
theorem st_out {r : am_R} (h : st_ok r = true) : ∃ v, r = some (.inl v, st_g r) := by
  unfold st_ok at h
  split at h
  · exact ⟨_, rfl⟩
  · cases h
noncomputable def st_r1 : am_R := fR 40 5 mX11_init [Vr (some 0)] (am_new am_h0 0 11 14)
noncomputable def st_h1 : am_H := st_g st_r1
noncomputable def st_r2 : am_R := fR 40 5 mX12_init [Vr (some 283)] (am_new st_h1 0 12 31)
noncomputable def st_h2 : am_H := st_g st_r2
noncomputable def st_h4 : am_H := am_new st_h2 4 1 1
noncomputable def st_I : am_I := st_h4.2.2.2.2.1
theorem st_o1 : st_ok st_r1 = true := by decide +kernel
theorem st_z1 : hZ st_h1 = 283 := by decide +kernel
theorem st_o2 : st_ok st_r2 = true := by decide +kernel
theorem st_z2 : hZ st_h2 = 303 := by decide +kernel
theorem st_T : (List.range 304).all (fun k => decide (hT st_h4 k = shT.getD k (0, 0))) = true := by decide +kernel
theorem st_P : shP.all (fun z => decide (rP st_h4 z.1 z.2.1 = some z.2.2)) = true := by decide +kernel
theorem st_w : (List.range 331).all (fun j => decide (st_I 284 j = if j = 6 then 1 else 0)) = true := by decide +kernel
theorem st_t : (List.range 400).all (fun k => decide (st_I 289 k = 0) && decide (st_I 2 k = 0)) = true := by decide +kernel
theorem st_c : (List.range 60).all (fun b => decide (st_I 12 b = 0)) = true := by decide +kernel
theorem st_f : (List.range 6).all (fun f => decide (st_I 17 f = 0) && decide (st_I 18 f = 0) && decide (st_I 19 f = 0) && decide (st_I 20 f = 0)) = true := by decide +kernel
theorem st_n : ([(0, 6), (283, 6), (0, 9), (283, 7), (0, 8), (1, 1), (283, 9), (9, 0), (11, 5), (11, 10), (11, 11), (11, 13), (21, 1), (21, 2)] : List (Nat × Nat)).all (fun z => decide (st_I z.1 z.2 = 0)) = true := by decide +kernel
theorem st_m : st_I 283 18 = -1 ∧ st_I 283 19 = -1 ∧ st_I 11 12 = 1 ∧ st_I 1 2 = st_I 283 14 := by decide +kernel
theorem st_l : rP st_h4 11 14 = none := by decide +kernel
theorem st_b : hC st_h4 ≤ 1000 ∧ hS st_h4 ≤ 100000 := by decide +kernel
theorem st_z4 : hZ st_h4 = 304 := by decide +kernel
theorem st_hI : hI st_h4 st_I = st_h4 := hI_self st_h4
theorem st_Sh : Sh st_h4 := by
  refine ⟨fun k hk => ?_, fun z hz => ?_, ?_⟩
  · exact of_decide_eq_true (List.all_eq_true.mp st_T k (List.mem_range.mpr hk))
  · exact of_decide_eq_true (List.all_eq_true.mp st_P z hz)
  · rw [st_z4]
    exact Nat.le_refl _
theorem st_0 {a j : Nat} (h : (a, j) ∈ ([(0, 6), (283, 6), (0, 9), (283, 7), (0, 8), (1, 1), (283, 9), (9, 0), (11, 5), (11, 10), (11, 11), (11, 13), (21, 1), (21, 2)] : List (Nat × Nat))) : st_I a j = 0 := of_decide_eq_true (List.all_eq_true.mp st_n (a, j) h)
theorem st_w0 {j : Nat} (hj : j < 331) (h6 : j ≠ 6) : st_I 284 j = 0 := by
  have h := of_decide_eq_true (List.all_eq_true.mp st_w j (List.mem_range.mpr hj))
  rw [if_neg h6] at h
  exact h
theorem st_w6 : st_I 284 6 = 1 := by
  have h := of_decide_eq_true (List.all_eq_true.mp st_w 6 (List.mem_range.mpr (by decide)))
  rw [if_pos rfl] at h
  exact h
theorem st_WW : WW (st_I 284) := by
  have w0 : ∀ j, j < 331 → j ≠ 6 → st_I 284 j = 0 := fun j h1 h2 => st_w0 h1 h2
  refine ⟨fun b hb => Or.inl ⟨w0 _ (by omega) (by omega), w0 _ (by omega) (by omega), w0 _ (by omega) (by omega), w0 _ (by omega) (by omega), w0 _ (by omega) (by omega)⟩, ?_, fun f hf => ?_, ?_, ?_, ?_, ?_, ?_, ?_⟩
  · rw [w0 0 (by decide) (by decide)]
    decide
  · rw [w0 (307 + 4 * f) (by omega) (by omega), w0 (307 + 4 * f + 1) (by omega) (by omega), w0 (307 + 4 * f + 2) (by omega) (by omega), w0 (307 + 4 * f + 3) (by omega) (by omega)]
    decide
  · rw [w0 1 (by decide) (by decide)]
    decide
  · exact Or.inl (w0 2 (by decide) (by decide))
  · rw [w0 3 (by decide) (by decide)]
    decide
  · rw [w0 4 (by decide) (by decide)]
    decide
  · rw [w0 5 (by decide) (by decide)]
    decide
  · rw [st_w6]
    unfold i32
    decide
theorem st_CRep : CRep st_I 11 (st_I 284) := by
  have w0 : ∀ j, j < 331 → j ≠ 6 → st_I 284 j = 0 := fun j h1 h2 => st_w0 h1 h2
  refine ⟨fun b hb => ⟨?_, fun h => ?_⟩, ?_, fun f hf => ?_, ?_, ?_, ?_, ?_, ?_, ?_, fun k hk => ?_⟩
  · rw [w0 _ (by omega) (by omega)]
    exact of_decide_eq_true (List.all_eq_true.mp st_c b (List.mem_range.mpr hb))
  · rw [w0 _ (by omega) (by omega)] at h
    exact absurd h (by decide)
  · rw [w0 0 (by decide) (by decide)]
    exact st_0 (by decide)
  · have h := List.all_eq_true.mp st_f f (List.mem_range.mpr hf)
    simp only [Bool.and_eq_true, decide_eq_true_eq] at h
    rw [w0 (307 + 4 * f) (by omega) (by omega), w0 (307 + 4 * f + 1) (by omega) (by omega), w0 (307 + 4 * f + 2) (by omega) (by omega), w0 (307 + 4 * f + 3) (by omega) (by omega)]
    exact ⟨h.1.1.1, h.1.1.2, h.1.2, h.2⟩
  · rw [w0 3 (by decide) (by decide)]
    exact st_0 (by decide)
  · rw [w0 4 (by decide) (by decide)]
    exact st_0 (by decide)
  · rw [st_w6]
    exact st_m.2.2.1
  · rw [w0 1 (by decide) (by decide)]
    exact st_0 (by decide)
  · rw [w0 5 (by decide) (by decide)]
    exact st_0 (a := 21) (by decide)
  · rw [show st_I (11 + 10) 1 = 0 from st_0 (a := 21) (by decide)]
    decide
  · rw [w0 5 (by decide) (by decide)] at hk
    exfalso
    omega
theorem st_Rel : Rel st_h4 st_I := by
  refine ⟨st_Sh, ⟨st_CRep, st_WW, Or.inl ⟨st_w0 (by decide) (by decide), st_l⟩⟩, ⟨?_, Or.inl (st_0 (by decide))⟩, ⟨?_, ?_, ?_, fun k hk => ?_⟩, ⟨?_, ?_, fun k hk => ?_, st_m.2.2.2⟩, st_m.1, st_m.2.1, st_0 (by decide), 0, st_z4⟩
  · rw [st_0 (a := 0) (j := 6) (by decide), st_0 (a := 283) (j := 6) (by decide)]
  · rw [st_0 (a := 0) (j := 9) (by decide), st_0 (a := 283) (j := 7) (by decide)]
  · rw [st_0 (a := 283) (j := 7) (by decide)]
    decide
  · rw [st_0 (a := 0) (j := 8) (by decide)]
    decide
  · rw [st_0 (a := 283) (j := 7) (by decide)] at hk
    exfalso
    omega
  · rw [st_0 (a := 1) (j := 1) (by decide), st_0 (a := 283) (j := 9) (by decide)]
  · rw [st_0 (a := 283) (j := 9) (by decide)]
    decide
  · have h := List.all_eq_true.mp st_t k (List.mem_range.mpr hk)
    simp only [Bool.and_eq_true, decide_eq_true_eq] at h
    rw [h.1, h.2]
    decide
section
variable {sc : Nat × (Nat → Int)} {d : Nat}
theorem up_Cls {m : Nat} {args : List am_V} {h : am_H} : ∀ k : Nat, Up9 (Cl sc d m args h) (Cl sc (d + k) m args h)
  | 0 => up_rf
  | k + 1 => fun y e => up_Cl y (up_Cls k y e)
theorem st_c1 : ∃ v, Cl sc (d + 59) mX11_init [Vr (some 0)] (am_new am_h0 0 11 14) = some (.inl v, st_h1) := by
  obtain ⟨v, e⟩ := st_out st_o1
  have h : Cl sc (5 + (d + 54)) mX11_init [Vr (some 0)] (am_new am_h0 0 11 14) = some (.inl v, st_g st_r1) := up_Cls (d + 54) _ (tr_Cl (n := 40) 5 mX11_init _ _ (by decide) _ e)
  rw [show d + 59 = 5 + (d + 54) by omega]
  exact ⟨v, h⟩
theorem st_c2 : ∃ v, Cl sc (d + 59) mX12_init [Vr (some 283)] (am_new st_h1 0 12 31) = some (.inl v, st_h2) := by
  obtain ⟨v, e⟩ := st_out st_o2
  have h : Cl sc (5 + (d + 54)) mX12_init [Vr (some 283)] (am_new st_h1 0 12 31) = some (.inl v, st_g st_r2) := up_Cls (d + 54) _ (tr_Cl (n := 40) 5 mX12_init _ _ (by decide) _ e)
  rw [show d + 59 = 5 + (d + 54) by omega]
  exact ⟨v, h⟩
theorem st_rcv {h : am_H} {ci n : Nat} {k : am_R} {a : Nat} (e : hZ h = a) : am_rcv ci (am_new h 0 ci n) (Vr (some a)) k = k := by
  subst e
  refine if_pos ?_
  show am_u1 h.2.2.2.1 h.2.2.1 (0, ci) h.2.2.1 = (0, ci)
  unfold am_u1
  rw [if_pos rfl]
theorem st_run : Cl sc (d + 60) mL_law_ [Vx 1] am_h0 = Ru sc (d + 60) mL_law_ 14 [Vx 1, Vr (some 0), Vr (some 283), Vr (some 303), Vi 0, Vx 0, Vx 0] [] st_h4 := by
  obtain ⟨v1, e1⟩ := st_c1 (sc := sc) (d := d)
  obtain ⟨v2, e2⟩ := st_c2 (sc := sc) (d := d)
  rw [q_L_law__0 _ _ (Vx 0), st_rcv rfl, show hZ am_h0 = 0 from rfl, e1, e_clV, st_rcv rfl, st_z1, e2, e_clV]
  unfold newA
  rw [if_pos (by decide), st_z2]
  rfl
theorem st_BB : BBh st_h4 := by
  have b0 : BBh am_h0 := fun a i _ => Or.inl rfl
  obtain ⟨v1, e1⟩ := st_c1 (sc := sz) (d := 0)
  obtain ⟨v2, e2⟩ := st_c2 (sc := sz) (d := 0)
  have b1 : BBh st_h1 := bb_Cl (bb_new b0) _ _ e1
  have b2 : BBh st_h2 := bb_Cl (bb_new b1) _ _ e2
  exact bb_new b2
theorem st_L : LInv st_h4 st_I := ⟨st_Rel, by
  rw [st_hI]
  exact st_BB⟩
theorem law_runs (hs : ∀ j, i32 (sc.2 j)) (hL : sc.1 ≤ 3072) : ∃ h1, Cl sc (d + 60) mL_law_ [Vx 1] am_h0 = some (.inl (Vi 1), h1) ∧ hC h1 ≤ 6000 ∧ hS h1 ≤ 500000 := by
  obtain ⟨h1, a1, a2, a3⟩ := law_all (d := d) hs hL 512 0 st_h4 st_I (Vx 0) (Vx 0) st_L (Int.le_refl 0) (by omega)
  rw [st_hI] at a1
  refine ⟨h1, st_run.trans a1, ?_, ?_⟩
  · have := st_b.1
    omega
  · have := st_b.2
    omega
end
