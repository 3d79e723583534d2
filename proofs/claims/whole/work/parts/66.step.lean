/-! EVERY STEP OF THE MACHINE IS ONE OF THE PROGRAM -/
def am_pc (cd : List am_E) (i pc : Nat) : Prop := (cd[i]?).map (fun e => e.1) = some pc
theorem am_dd {M : am_M} {pc k : Nat} {I : Instr} (h : am_d M pc I k = true) : decode M.2.1 pc = .ok (I, k) := by
  simpa [am_d] using h
theorem am_nn {cd : List am_E} {i pc : Nat} (h : am_nx cd i pc = true) : am_pc cd (i + 1) pc := by
  unfold am_nx at h
  unfold am_pc
  split at h
  · rename_i e he
    rw [he]
    simp only [Option.map_some]
    rw [eq_of_beq h]
  · cases h
theorem am_tt {cd : List am_E} {t pc : Int} (h : am_tg cd t pc = true) : ∃ pct : Nat, pc = (pct : Int) ∧ am_pc cd t.toNat pct := by
  unfold am_tg at h
  split at h
  · rename_i e he
    refine ⟨e.1, (of_decide_eq_true h).symm, ?_⟩
    unfold am_pc
    rw [he]
    rfl
  · cases h
theorem am_b32_ok {x : Int} (h : am_b32 x = true) : am_n32 x := by
  simp only [am_b32, Bool.and_eq_true, decide_eq_true_eq] at h
  exact h
section
variable {l : Launch} {sc : Nat × (Nat → Int)} {d : Nat} {M : am_M} {cd : List am_E} {hd : List (Nat × Nat × Nat × Nat)} {call : am_C} {jump : am_J} {rec : am_K}
theorem am_to_ok (hrec : ∀ i ls st h r pc, rec (cd.drop i) ls st h = some r → am_pc cd i pc → am_P l sc (d + 1) M pc ls st h r) (hjmp : ∀ i ls st h r pc, jump i ls st h = some r → am_pc cd i pc → am_P l sc (d + 1) M pc ls st h r) {xs : List Int} {j : Nat} {ls st : List am_V} {h : am_H} {r : (am_V ⊕ Nat) × am_H} {pct : Nat} (H : am_to cd jump rec xs j ls st h = some r) (hp : am_pc cd (am_arg xs (2 * j + 1)).toNat pct) : am_P l sc (d + 1) M pct ls st h r := by
  unfold am_to at H
  split at H
  · exact hrec _ _ _ _ _ _ H hp
  · exact hjmp _ _ _ _ _ _ H hp
theorem am_mck_ok {M2 : am_M} {x : Nat × Nat × Nat × Nat × Nat} (h : am_mck M2 x = true) : am_MI M2 ∧ (x.2.2.1 = 0 → Cond.static M2.1 ∈ am_good) ∧ (x.2.2.1 = 1 → Cond.instanceMethod M2.1 ∈ am_good ∧ M2.2.2.2.2.2 = [] ∧ Cond.selects M2.1.cls M2.1 M2.1 ∈ am_good) ∧ (x.2.2.1 = 2 → Cond.instanceMethod M2.1 ∈ am_good ∧ M2.2.2.2.2.2 = [] ∧ M2.1.name = "<init>" ∧ M2.2.2.2.1 = none) := by
  simp only [am_mck, Bool.and_eq_true, decide_eq_true_eq] at h
  obtain ⟨⟨⟨h1, h2⟩, ⟨h3, h4⟩, h5, h6, h7⟩, h8⟩ := h
  refine ⟨⟨am_has_in h1, am_has_in h2, h3, h4, h5, h6, h7⟩, fun e => ?_, fun e => ?_, fun e => ?_⟩
  · rw [if_pos e] at h8
    exact am_has_in h8
  · rw [if_neg (by omega)] at h8
    simp only [Bool.and_eq_true, decide_eq_true_eq] at h8
    obtain ⟨⟨a1, a2⟩, a3⟩ := h8
    rw [if_pos e] at a3
    exact ⟨am_has_in a1, a2, am_has_in a3⟩
  · rw [if_neg (by omega)] at h8
    simp only [Bool.and_eq_true, decide_eq_true_eq] at h8
    obtain ⟨⟨a1, a2⟩, a3⟩ := h8
    rw [if_neg (by omega)] at a3
    simp only [Bool.and_eq_true, decide_eq_true_eq] at a3
    exact ⟨am_has_in a1, a2, a3.1, a3.2⟩
theorem am_hr_t {own : String} {pc e t : Nat} : ∀ {hd hh : List (Nat × Nat × Nat × Nat)}, am_hr own cd hd hh → am_find hd pc e = some t → ∃ pct, am_pc cd t pct
  | [], _, _, h => nomatch h
  | _ :: _, [], h, _ => h.elim
  | (a, b, c, t0) :: hd, y :: hh, h, hf => by
    unfold am_find at hf
    split at hf
    · cases hf
      exact ⟨_, h.1.2.2.1⟩
    · exact am_hr_t h.2 hf
/-- the rest of a call, as the machine goes on -/
theorem am_go_nxt (hrec : ∀ i ls st h r pc, rec (cd.drop i) ls st h = some r → am_pc cd i pc → am_P l sc (d + 1) M pc ls st h r) (hjmp : ∀ i ls st h r pc, jump i ls st h = some r → am_pc cd i pc → am_P l sc (d + 1) M pc ls st h r) (hhr : am_hr M.1.cls cd hd M.2.2.2.2.2)
    {M2 : am_M} {xs : List Int} {i pc : Nat} {ls rest0 : List am_V} {r : (am_V ⊕ Nat) × am_H} (hn : am_pc cd (i + 1) (pc + 3)) (hrt : am_arg xs 3 = am_rtk M2.2.2.2.1) {res : am_R}
    (H : (match (am_arg xs 3).toNat with
    | 0 => clV res (am_hx hd jump pc ls) (fun h1 => rec (cd.drop (i + 1)) ls rest0 h1)
    | 1 => clI res (am_hx hd jump pc ls) (fun v h1 => rec (cd.drop (i + 1)) ls (Vi v :: rest0) h1)
    | _ => clP res (am_hx hd jump pc ls) (fun v h1 => rec (cd.drop (i + 1)) ls (Vr v :: rest0) h1) : am_R) = some r) : ∃ r1 h1, res = some (r1, h1) ∧ am_nxt l sc d M M2 cd hd pc ls rest0 r1 h1 r := by
  have hthr : ∀ e h1, am_hx hd jump pc ls e h1 = some r → am_nxt l sc d M M2 cd hd pc ls rest0 (.inr e) h1 r := by
    intro e h1 H
    unfold am_hx at H
    split at H
    · rename_i hf
      cases H
      exact ⟨(fun v hv => nomatch hv), (fun e' he _ => by cases he; exact Or.inl ⟨hf, rfl⟩), hhr, am_mono.rf _⟩
    · rename_i t ht
      obtain ⟨pct, hp⟩ := am_hr_t hhr ht
      have k := hjmp t ls [Vx 0] h1 r pct H hp
      exact ⟨(fun v hv => nomatch hv), (fun e' he _ => by cases he; exact Or.inr ⟨t, pct, ht, hp, k⟩), hhr, k.1⟩
  have hret : ∀ v h1 st1, am_psh M2.2.2.2.1 v rest0 = st1 → rec (cd.drop (i + 1)) ls st1 h1 = some r → am_nxt l sc d M M2 cd hd pc ls rest0 (.inl v) h1 r := by
    intro v h1 st1 hst H
    have k := hrec _ _ _ _ _ _ H hn
    rw [← hst] at k
    exact ⟨(fun v' hv _ => by cases hv; exact k), (fun e he => nomatch he), hhr, k.1⟩
  generalize hrt2 : M2.2.2.2.1 = rt at hrt
  rcases rt with _ | t
  · rw [hrt] at H
    rcases res with _ | ⟨v | e, h1⟩
    · cases H
    · exact ⟨_, _, rfl, hret v h1 rest0 (by rw [hrt2]; rfl) H⟩
    · exact ⟨_, _, rfl, hthr e h1 H⟩
  · have hI : (am_arg xs 3).toNat = 1 → ∃ r1 h1, res = some (r1, h1) ∧ am_nxt l sc d M M2 cd hd pc ls rest0 r1 h1 r := by
      intro e1
      rw [e1] at H
      rcases res with _ | ⟨(x | v) | e, h1⟩
      · cases H
      · exact ⟨_, _, rfl, hret (Vi x) h1 _ (by rw [hrt2]; rfl) H⟩
      · cases H
      · exact ⟨_, _, rfl, hthr e h1 H⟩
    have hP : (am_arg xs 3).toNat ≠ 0 → (am_arg xs 3).toNat ≠ 1 → ∃ r1 h1, res = some (r1, h1) ∧ am_nxt l sc d M M2 cd hd pc ls rest0 r1 h1 r := by
      intro e0 e1
      split at H
      · rename_i e; exact absurd e e0
      · rename_i e; exact absurd e e1
      · rcases res with _ | ⟨(x | (v | w)) | e, h1⟩
        · cases H
        · cases H
        · exact ⟨_, _, rfl, hret (Vr v) h1 _ (by rw [hrt2]; rfl) H⟩
        · cases H
        · exact ⟨_, _, rfl, hthr e h1 H⟩
    rw [hrt] at hI hP
    cases t with
    | int => exact hI rfl
    | boolean => exact hI rfl
    | char => exact hI rfl
    | byte => exact hI rfl
    | object _ => exact hP (show (2 : Int).toNat ≠ 0 by decide) (show (2 : Int).toNat ≠ 1 by decide)
    | array _ => exact hP (show (2 : Int).toNat ≠ 0 by decide) (show (2 : Int).toNat ≠ 1 by decide)
    | _ => exact hP (show (9 : Int).toNat ≠ 0 by decide) (show (9 : Int).toNat ≠ 1 by decide)
theorem am_can_ok {n : Nat} {st : List am_V} (h : am_can n st = true) : n ≤ st.length ∧ (st.take n).reverse.all am_nl = true ∧ ((st.drop n).map am_cat).sum ≤ 8 ∧ st = (st.take n).reverse.reverse ++ st.drop n ∧ (st.take n).reverse.length = n := by
  simp only [am_can, Bool.and_eq_true] at h
  have h1 := Nat.le_of_ble_eq_true h.1
  refine ⟨h1, by rw [List.all_reverse]; exact h.2.1, Nat.le_of_ble_eq_true h.2.2, by rw [List.reverse_reverse, List.take_append_drop], by rw [List.length_reverse, List.length_take]; omega⟩
end
