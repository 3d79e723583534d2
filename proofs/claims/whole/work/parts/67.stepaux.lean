/-! EVERY STEP OF THE MACHINE IS ONE OF THE PROGRAM: the steps -/
section
variable {l : Launch} {sc : Nat × (Nat → Int)} {d : Nat} {M : am_M} {cd : List am_E} {hd : List (Nat × Nat × Nat × Nat)} {call : am_C} {jump : am_J} {rec : am_K}
theorem am_cls_ok {ci N : Nat} {Cn : String} {T : u_T} (h1 : am_cl[ci]? = some (Cn, T, N)) (h : am_clk ci = true) : Cond.instantiable Cn N ∈ am_good ∧ Cond.initialized Cn ∈ am_good := by
  unfold am_clk at h
  rw [h1] at h
  simp only [Bool.and_eq_true] at h
  exact ⟨am_has_in h.1, am_has_in h.2⟩
theorem am_fld_ok {k : Nat} {xs : List Int} {ir : Bool} (h : am_fld M k xs ir = true) : ∃ Cn T N, am_CI (am_arg xs 1).toNat Cn T N (am_ft (am_arg xs 1).toNat) ∧ (am_arg xs 2).toNat < N ∧ am_ir (am_arg xs 1).toNat (am_arg xs 2).toNat = ir ∧ Cond.fieldLink M.1.cls k Cn (T (am_arg xs 2).toNat).2.1 (T (am_arg xs 2).toNat).2.2.1 ∈ am_good ∧ am_cl[(am_arg xs 1).toNat]? = some (Cn, T, N) := by
  unfold am_fld at h
  split at h
  · rename_i Cn T N hc
    simp only [Bool.and_eq_true, decide_eq_true_eq] at h
    exact ⟨Cn, T, N, am_ci_all hc, h.1.1, h.1.2, am_has_in h.2, hc⟩
  · cases h
theorem am_may_ok {xs : List Int} {Cn : String} {T : u_T} {N : Nat} (hc : am_cl[(am_arg xs 1).toNat]? = some (Cn, T, N)) (h : am_mayB M xs = true) : am_may M T (am_arg xs 2).toNat := by
  unfold am_mayB at h
  rw [hc] at h
  simp only [Bool.or_eq_true, Bool.and_eq_true, decide_eq_true_eq] at h
  rcases h with h | ⟨h1, h2, h3⟩
  · exact Or.inl h
  · exact Or.inr ⟨h1, h2, h3⟩
theorem am_cst_ok {k : Nat} {xs : List Int} (h : am_cst2 M k xs = true) : (am_arg xs 0 = 0 ∧ am_n32 (am_arg xs 1) ∧ Cond.constant M.1.cls k (Int32.ofInt (am_arg xs 1)) ∈ am_good) ∨ (¬ am_arg xs 0 = 0 ∧ ∃ j, (am_arg xs 1).toNat = j + 2 ∧ j < 23 ∧ Cond.stringRef M.1.cls k (am_ltx.getD j "") ∈ lw_tbl) := by
  unfold am_cst2 at h
  split at h
  · rename_i h0
    simp only [Bool.and_eq_true] at h
    exact Or.inl ⟨h0, am_b32_ok h.1, am_has_in h.2⟩
  · rename_i h0
    simp only [Bool.and_eq_true, decide_eq_true_eq] at h
    exact Or.inr ⟨h0, (am_arg xs 1).toNat - 2, by omega, by omega, am_hasT_in h.2⟩
theorem am_sw_ok {J : Nat → am_R} {x : Int} {r : (am_V ⊕ Nat) × am_H} : ∀ (n : Nat) (v : Int) (j : Nat), am_sw x J v n j = some r → (x < v ∨ v + n ≤ x) ∧ J 0 = some r ∨ ∃ k, k < n ∧ x = v + k ∧ J (j + k) = some r
  | 0, v, j, h => by
    unfold am_sw at h
    refine Or.inl ⟨by omega, h⟩
  | n + 1, v, j, h => by
    unfold am_sw at h
    split at h
    · rename_i hx
      exact Or.inr ⟨0, by omega, by omega, h⟩
    · rename_i hx
      rcases am_sw_ok n (v + 1) (j + 1) h with ⟨h1, h2⟩ | ⟨k, h1, h2, h3⟩
      · exact Or.inl ⟨by omega, h2⟩
      · exact Or.inr ⟨k + 1, by omega, by omega, by rw [show j + (k + 1) = j + 1 + k by omega]; exact h3⟩
theorem am_lk_ok {J : Nat → am_R} {x : Int} {r : (am_V ⊕ Nat) × am_H} {dflt : Int} : ∀ (ps : List (Int × Int)) (j : Nat), am_lk x J ps j = some r → (Op.lookupswitch.offset ps dflt x = dflt ∧ J 0 = some r) ∨ ∃ k off, (ps.map (fun z => z.2))[k]? = some off ∧ Op.lookupswitch.offset ps dflt x = off ∧ J (j + k) = some r
  | [], j, h => Or.inl ⟨rfl, h⟩
  | p :: l, j, h => by
    unfold am_lk at h
    split at h
    · rename_i hx
      exact Or.inr ⟨0, p.2, rfl, by simp [Op.lookupswitch.offset, hx], h⟩
    · rename_i hx
      have hne : Op.lookupswitch.offset (p :: l) dflt x = Op.lookupswitch.offset l dflt x := by
        have : ¬ p.1 = x := fun e => hx e.symm
        simp [Op.lookupswitch.offset, List.find?, this]
      rcases am_lk_ok l (j + 1) h with ⟨h1, h2⟩ | ⟨k, off, h1, h2, h3⟩
      · exact Or.inl ⟨hne.trans h1, h2⟩
      · exact Or.inr ⟨k + 1, off, h1, hne.trans h2, by rw [show j + (k + 1) = j + 1 + k by omega]; exact h3⟩
theorem am_tgs_ok {xs : List Int} {pc : Nat} : ∀ {l : List Int} {j : Nat}, am_tgs cd xs pc l j = true → ∀ k off, l[k]? = some off → am_tg cd (am_arg xs (2 * (j + k) + 1)) (pc + off) = true
  | [], _, _, k, off, h => by simp at h
  | o :: l, j, h, k, off, hk => by
    simp only [am_tgs, Bool.and_eq_true] at h
    cases k with
    | zero => cases hk; exact h.1
    | succ k =>
      have := am_tgs_ok h.2 k off hk
      rw [show j + (k + 1) = j + 1 + k by omega]
      exact this
end
