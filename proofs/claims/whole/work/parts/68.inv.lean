/-! EVERY STEP OF THE MACHINE IS ONE OF THE PROGRAM: calls -/
section
variable {l : Launch} {sc : Nat × (Nat → Int)} {d : Nat} {M : am_M} {cd : List am_E} {hd : List (Nat × Nat × Nat × Nat)} {call : am_C} {jump : am_J} {rec : am_K}
theorem am_rcv_ok {ci : Nat} {h : am_H} {v : am_V} {k : am_R} {r : (am_V ⊕ Nat) × am_H} (H : am_rcv ci h v k = some r) : ∃ a, v = Vr (some a) ∧ hT h a = (0, ci) ∧ k = some r := by
  unfold am_rcv at H
  split at H
  · split at H
    · exact ⟨_, rfl, by assumption, H⟩
    · cases H
  · cases H
theorem am_cl_of {ci : Nat} {Cn : String} (h : (am_cl[ci]?).map (fun z => z.1) = some Cn) : ∃ T N, am_CI ci Cn T N (am_ft ci) := by
  cases e : am_cl[ci]? with
  | none => rw [e] at h; cases h
  | some z =>
    obtain ⟨C, T, N⟩ := z
    rw [e] at h
    have : C = Cn := Option.some.inj h
    subst this
    exact ⟨T, N, am_ci_all e⟩
theorem am_inv_ok0 (hcall : ∀ m2 args h r, call m2 args h = some r → args.all am_nl = true → am_CT l sc d (am_mt m2) args h r)
    (hrec : ∀ i ls st h r pc, rec (cd.drop i) ls st h = some r → am_pc cd i pc → am_P l sc (d + 1) M pc ls st h r) (hjmp : ∀ i ls st h r pc, jump i ls st h = some r → am_pc cd i pc → am_P l sc (d + 1) M pc ls st h r) (hhr : am_hr M.1.cls cd hd M.2.2.2.2.2)
    {i pc len k : Nat} {xs : List Int} {ls st : List am_V} {h : am_H} {r : (am_V ⊕ Nat) × am_H} (hc : am_ck M cd i (pc, len, .invokestatic k, xs) = true) (H : am_inv hd call jump rec pc xs (cd.drop (i + 1)) ls st h = some r) : am_P l sc (d + 1) M pc ls st h r := by
  simp only [am_ck, Bool.and_eq_true, Bool.or_eq_true, decide_eq_true_eq] at hc
  obtain ⟨hd0, hc⟩ := hc
  unfold am_inv at H
  dsimp only at H
  rcases hc with h7 | ⟨hn, hci⟩
  · rw [h7] at H
    cases H
  · unfold am_cki at hci
    split at H
    · rename_i e0
      rw [e0] at hci
      simp only [Bool.and_eq_true, decide_eq_true_eq] at hci
      obtain ⟨⟨c1, c2⟩, c3, c4⟩ := hci
      obtain ⟨m1, m2, -, -⟩ := am_mck_ok c2
      split at H
      · rename_i hcan
        obtain ⟨n1, n2, n3, n4, n5⟩ := am_can_ok hcan
        by_cases e4 : (am_arg xs 4).toNat = 0
        · rw [if_pos e4] at c4
          simp only [Bool.and_eq_true, decide_eq_true_eq] at c4
          rw [e4] at H
          obtain ⟨r1, h1, hres, hnx⟩ := am_go_nxt hrec hjmp hhr (am_nn hn) c3 H
          rw [n4]
          exact am_s_static m1 (hcall _ _ _ _ hres n2) (am_has_in c1) (m2 c4.1.2) n2 (n5.trans c4.2) n3 am_w_cast (am_dd hd0) hnx
        · rw [if_neg e4] at c4
          simp only [Bool.and_eq_true, decide_eq_true_eq] at c4
          exact absurd c4.1.1.1 (by decide)
      · cases H
    · rename_i e0
      rw [e0] at hci
      simp only [Bool.and_eq_true, decide_eq_true_eq] at hci
      exact absurd hci.2.1.1.1 (by decide)
    · rename_i e0
      rw [e0] at hci
      simp only [Bool.and_eq_true, decide_eq_true_eq] at hci
      exact absurd hci.2.1.1.1 (by decide)
    · rename_i e0
      rw [e0] at hci
      simp only [Bool.and_eq_true, decide_eq_true_eq] at hci
      exact absurd hci.1 (by decide)
    · rename_i e0
      rw [e0] at hci
      simp only [Bool.and_eq_true, decide_eq_true_eq] at hci
      split at H
      · rename_i n dp q sp p
        cases p with
        | none => cases H
        | some a =>
          cases q with
          | none => cases H
          | some b =>
            simp only [cpA] at H
            split at H
            · exact am_s_copy (by assumption) (am_has_in hci.2) am_w_an am_w_as am_w_ai rfl (am_dd hd0) (hrec _ _ _ _ _ _ H (am_nn hn))
            · cases H
      · cases H
    · rename_i e0
      rw [e0] at hci
      simp only [Bool.and_eq_true, decide_eq_true_eq] at hci
      exact absurd hci.1 (by decide)
    · cases H
    · split at hci
      · rename_i a1 a2 a3 a4 a5 a6 a7 e0; exact absurd e0 (by assumption)
      all_goals first
        | (simp only [Bool.and_eq_true, decide_eq_true_eq] at hci; exact absurd hci.2.2.1.1.1 (by decide))
        | (exfalso; simp_all)
        | cases hci
theorem am_inv_ok1 (hcall : ∀ m2 args h r, call m2 args h = some r → args.all am_nl = true → am_CT l sc d (am_mt m2) args h r)
    (hrec : ∀ i ls st h r pc, rec (cd.drop i) ls st h = some r → am_pc cd i pc → am_P l sc (d + 1) M pc ls st h r) (hjmp : ∀ i ls st h r pc, jump i ls st h = some r → am_pc cd i pc → am_P l sc (d + 1) M pc ls st h r) (hhr : am_hr M.1.cls cd hd M.2.2.2.2.2)
    {i pc len k : Nat} {xs : List Int} {ls st : List am_V} {h : am_H} {r : (am_V ⊕ Nat) × am_H} (hc : am_ck M cd i (pc, len, .invokevirtual k, xs) = true) (H : am_inv hd call jump rec pc xs (cd.drop (i + 1)) ls st h = some r) : am_P l sc (d + 1) M pc ls st h r := by
  simp only [am_ck, Bool.and_eq_true] at hc
  obtain ⟨⟨hd0, hn⟩, hci⟩ := hc
  unfold am_inv at H
  dsimp only at H
  unfold am_cki at hci
  split at H
  · rename_i e0
    rw [e0] at hci
    simp only [Bool.and_eq_true, decide_eq_true_eq] at hci
    obtain ⟨⟨c1, c2⟩, c3, c4⟩ := hci
    obtain ⟨m1, -, m3, -⟩ := am_mck_ok c2
    split at H
    · rename_i hcan
      obtain ⟨n1, n2, n3, n4, n5⟩ := am_can_ok hcan
      by_cases e4 : (am_arg xs 4).toNat = 0
      · rw [if_pos e4] at c4
        simp only [Bool.and_eq_true, decide_eq_true_eq] at c4
        exact absurd c4.1.1 (by decide)
      · rw [if_neg e4] at c4
        simp only [Bool.and_eq_true, decide_eq_true_eq] at c4
        obtain ⟨⟨⟨c5, c6⟩, c7⟩, c8⟩ := c4
        split at H
        · rename_i hx4
          exact absurd hx4 e4
        · rename_i ci hx4
          rw [hx4] at c8
          obtain ⟨T, N, hCI⟩ := am_cl_of c8
          split at H
          · rename_i v As hargs
            obtain ⟨a, rfl, ha, H⟩ := am_rcv_ok H
            obtain ⟨r1, h1, hres, hnx⟩ := am_go_nxt hrec hjmp hhr (am_nn hn) c3 H
            rw [hargs] at hres n2 n4 n5
            obtain ⟨i1, i2, i3⟩ := m3 c6
            rw [n4]
            exact am_s_virt hCI ha m1 (hcall _ _ _ _ hres n2) (am_has_in c1) i1 i3 i2 n2 (by simp only [List.length_cons] at n5; omega) n3 am_w_cast (am_dd hd0) hnx
          · cases H
    · cases H
  · rename_i e0
    rw [e0] at hci
    simp only [Bool.and_eq_true, decide_eq_true_eq] at hci
    exact absurd hci.2.1.1.1 (by decide)
  · rename_i e0
    rw [e0] at hci
    simp only [Bool.and_eq_true, decide_eq_true_eq] at hci
    exact absurd hci.2.1.1.1 (by decide)
  · rename_i e0
    rw [e0] at hci
    simp only [Bool.and_eq_true, decide_eq_true_eq] at hci
    exact absurd hci.1 (by decide)
  · rename_i e0
    rw [e0] at hci
    simp only [Bool.and_eq_true, decide_eq_true_eq] at hci
    exact absurd hci.1 (by decide)
  · rename_i e0
    rw [e0] at hci
    simp only [Bool.and_eq_true, decide_eq_true_eq] at hci
    split at H
    · rename_i p
      cases p with
      | none => cases H
      | some a =>
        simp only [clA] at H
        split at H
        · exact am_s_clone (by assumption) (am_has_in hci.2) am_w_c1 am_w_c2 am_w_c3 am_w_c4 am_w_c5 rfl (am_dd hd0) (hrec _ _ _ _ _ _ H (am_nn hn))
        · cases H
    · cases H
  · cases H
  · have e4 : (am_arg xs 0).toNat = 4 := by
      split at hci
      all_goals first
        | assumption
        | (exfalso; simp_all; done)
        | cases hci
    rw [e4] at hci
    simp only [Bool.and_eq_true, decide_eq_true_eq] at hci
    obtain ⟨⟨c1, c2⟩, c3, ⟨⟨c5, c6⟩, c7⟩, c8⟩ := hci
    obtain ⟨m1, -, m3, -⟩ := am_mck_ok c2
    split at H
    · rename_i hcan
      obtain ⟨n1, n2, n3, n4, n5⟩ := am_can_ok hcan
      split at H
      · rename_i j As hargs
        split at H
        · rename_i hj
          obtain ⟨r1, h1, hres, hnx⟩ := am_go_nxt hrec hjmp hhr (am_nn hn) c3 H
          obtain ⟨j2, rfl⟩ : ∃ j2, j = j2 + 2 := ⟨j - 2, by omega⟩
          rw [hargs] at hres n2 n4 n5
          obtain ⟨i1, i2, i3⟩ := m3 c6
          rw [n4]
          exact am_s_vstr (by omega) c8 m1 (hcall _ _ _ _ hres n2) (am_has_in c1) i1 i3 i2 n2 (by simp only [List.length_cons] at n5; omega) n3 am_w_cast (am_dd hd0) hnx
        · cases H
      · cases H
    · cases H
theorem am_inv_ok2 (hcall : ∀ m2 args h r, call m2 args h = some r → args.all am_nl = true → am_CT l sc d (am_mt m2) args h r)
    (hrec : ∀ i ls st h r pc, rec (cd.drop i) ls st h = some r → am_pc cd i pc → am_P l sc (d + 1) M pc ls st h r) (hjmp : ∀ i ls st h r pc, jump i ls st h = some r → am_pc cd i pc → am_P l sc (d + 1) M pc ls st h r) (hhr : am_hr M.1.cls cd hd M.2.2.2.2.2)
    {i pc len k : Nat} {xs : List Int} {ls st : List am_V} {h : am_H} {r : (am_V ⊕ Nat) × am_H} (hc : am_ck M cd i (pc, len, .invokespecial k, xs) = true) (H : am_inv hd call jump rec pc xs (cd.drop (i + 1)) ls st h = some r) : am_P l sc (d + 1) M pc ls st h r := by
  simp only [am_ck] at hc
  have hmk : ∀ (hlink : Cond.methodLink M.1.cls k (am_mt (am_arg xs 1).toNat).1 ∈ am_good ∨ ∃ host, Cond.methodLinkNest M.1.cls k (am_mt (am_arg xs 1).toNat).1 host ∈ lw_tbl) (c2 : am_mck (am_mt (am_arg xs 1).toNat) (am_mx (am_arg xs 1).toNat) = true) (c6 : (am_mx (am_arg xs 1).toNat).2.2.1 = 2) (c7 : (am_arg xs 2).toNat = (am_mt (am_arg xs 1).toNat).2.2.2.2.1 + 1) (c8 : (am_cl[(am_arg xs 4).toNat - 1]?).map (fun z => z.1) = some (am_mt (am_arg xs 1).toNat).1.cls) (hd0 : am_d M pc (.invokespecial k) 3 = true) (hn : am_nx cd i (pc + 3) = true)
      (H : (if am_can (am_arg xs 2).toNat st = true then (match (am_arg xs 4).toNat with
    | 0 => none
    | ci + 1 => match (st.take (am_arg xs 2).toNat).reverse with
      | v :: _ => am_rcv ci h v (clV (call (am_arg xs 1).toNat (st.take (am_arg xs 2).toNat).reverse h) am_xn0 (fun h1 => rec (cd.drop (i + 1)) ls (st.drop (am_arg xs 2).toNat) h1))
      | [] => none) else none : am_R) = some r), am_P l sc (d + 1) M pc ls st h r := by
    intro hlink c2 c6 c7 c8 hd0 hn H
    obtain ⟨m1, -, -, m4⟩ := am_mck_ok c2
    split at H
    · rename_i hcan
      obtain ⟨n1, n2, n3, n4, n5⟩ := am_can_ok hcan
      split at H
      · cases H
      · rename_i ci hci
        rw [hci] at c8
        obtain ⟨T, N, hCI⟩ := am_cl_of c8
        split at H
        · rename_i v As hargs
          obtain ⟨a, rfl, ha, H⟩ := am_rcv_ok H
          generalize hres : call (am_arg xs 1).toNat (st.take (am_arg xs 2).toNat).reverse h = res at H
          rcases res with _ | ⟨v | e, h1⟩
          · cases H
          · rw [hargs] at hres n2 n4 n5
            obtain ⟨i1, i2, i3, i4⟩ := m4 c6
            rw [n4]
            exact am_s_init hCI ha m1 (hcall _ _ _ _ hres n2) hlink i1 i3 i4 i2 n2 (by simp only [List.length_cons] at n5; omega) n3 (am_dd hd0) (hrec _ _ _ _ _ _ H (am_nn hn))
          · cases H
        · cases H
    · cases H
  simp only [Bool.or_eq_true, decide_eq_true_eq, Bool.and_eq_true] at hc
  rcases hc with h7 | ⟨⟨hd0, hn⟩, hci⟩
  · unfold am_inv at H
    dsimp only at H
    rw [h7] at H
    cases H
  · unfold am_inv at H
    dsimp only at H
    unfold am_cki at hci
    split at H
    · rename_i e0
      rw [e0] at hci
      simp only [Bool.and_eq_true, decide_eq_true_eq] at hci
      obtain ⟨⟨c1, c2⟩, c3, c4⟩ := hci
      by_cases e4 : (am_arg xs 4).toNat = 0
      · rw [if_pos e4] at c4
        simp only [Bool.and_eq_true, decide_eq_true_eq] at c4
        exact absurd c4.1.1 (by decide)
      · rw [if_neg e4] at c4
        simp only [Bool.and_eq_true, decide_eq_true_eq] at c4
        exact absurd c4.1.1.1 (by decide)
    · rename_i e0
      rw [e0] at hci
      simp only [Bool.and_eq_true, decide_eq_true_eq] at hci
      exact hmk (Or.inr ⟨_, am_hasT_in hci.1.1⟩) hci.1.2 hci.2.1.1.2 hci.2.1.2 hci.2.2 hd0 hn H
    · rename_i e0
      rw [e0] at hci
      simp only [Bool.and_eq_true, decide_eq_true_eq] at hci
      exact hmk (Or.inl (am_has_in hci.1.1)) hci.1.2 hci.2.1.1.2 hci.2.1.2 hci.2.2 hd0 hn H
    · rename_i e0
      rw [e0] at hci
      simp only [Bool.and_eq_true, decide_eq_true_eq] at hci
      split at H
      · split at H
        · rename_i hb
          exact am_s_objInit (am_has_in hci.2) am_w_oi am_w_oc (Nat.le_of_ble_eq_true hb) (am_dd hd0) (hrec _ _ _ _ _ _ H (am_nn hn))
        · cases H
      · cases H
    · rename_i e0
      rw [e0] at hci
      simp only [Bool.and_eq_true, decide_eq_true_eq] at hci
      exact absurd hci.1 (by decide)
    · rename_i e0
      rw [e0] at hci
      simp only [Bool.and_eq_true, decide_eq_true_eq] at hci
      exact absurd hci.1 (by decide)
    · cases H
    · have e4 : (am_arg xs 0).toNat = 4 := by
        split at hci
        all_goals first
          | assumption
          | (exfalso; simp_all; done)
          | cases hci
      rw [e4] at hci
      simp only [Bool.and_eq_true, decide_eq_true_eq] at hci
      exact absurd hci.2.2.1.1.1 (by decide)
end
