section
variable {l : Launch} {sc : Nat × (Nat → Int)} {d : Nat} {M : am_M} {cd : List am_E} {hd : List (Nat × Nat × Nat × Nat)} {call : am_C} {jump : am_J} {rec : am_K}
set_option maxHeartbeats 4000000 in
theorem am_step_ok (hcall : ∀ m2 args h r, call m2 args h = some r → args.all am_nl = true → am_CT l sc d (am_mt m2) args h r)
    (hrec : ∀ i ls st h r pc, rec (cd.drop i) ls st h = some r → am_pc cd i pc → am_P l sc (d + 1) M pc ls st h r) (hjmp : ∀ i ls st h r pc, jump i ls st h = some r → am_pc cd i pc → am_P l sc (d + 1) M pc ls st h r)
    (hck : ∀ i e, cd[i]? = some e → am_ck M cd i e = true) (hhr : am_hr M.1.cls cd hd M.2.2.2.2.2) {i : Nat} {ls st : List am_V} {h : am_H} {r : (am_V ⊕ Nat) × am_H} {pc : Nat} (H : am_step sc am_lit cd hd call jump rec (cd.drop i) ls st h = some r) (hpc : am_pc cd i pc) : am_P l sc (d + 1) M pc ls st h r := by
  unfold am_pc at hpc
  cases he : cd[i]? with
  | none => rw [he] at hpc; cases hpc
  | some e =>
    have hc := hck i e he
    obtain ⟨pc', len, I, xs⟩ := e
    rw [he] at hpc
    have e0 : pc' = pc := Option.some.inj hpc
    subst e0
    have hdrop : cd.drop i = (pc', len, I, xs) :: cd.drop (i + 1) := by
      obtain ⟨hl, hg⟩ := List.getElem?_eq_some_iff.mp he
      rw [List.drop_eq_getElem_cons hl, hg]
    rw [hdrop] at H
    clear hdrop he hpc hck
    cases I with
    | nop =>
      simp only [am_ck] at hc
      simp only [am_step] at H
      obtain ⟨pct, e1, e2⟩ := am_tt hc
      have e3 : pc' = pct := by omega
      subst e3
      exact am_to_ok hrec hjmp H e2
    | iconst n =>
      simp only [am_ck, Bool.and_eq_true, decide_eq_true_eq] at hc
      simp only [am_step] at H
      exact am_s_iconst (am_b32_ok hc.2) (am_dd hc.1.1) (hrec _ _ _ _ _ _ H (am_nn hc.1.2))
    | bipush n =>
      simp only [am_ck, Bool.and_eq_true, decide_eq_true_eq] at hc
      simp only [am_step] at H
      exact am_s_bipush hc.2.1 hc.2.2 (am_dd hc.1.1) (hrec _ _ _ _ _ _ H (am_nn hc.1.2))
    | sipush n =>
      simp only [am_ck, Bool.and_eq_true, decide_eq_true_eq] at hc
      simp only [am_step] at H
      exact am_s_sipush hc.2.1 hc.2.2 (am_dd hc.1.1) (hrec _ _ _ _ _ _ H (am_nn hc.1.2))
    | ldc k =>
      simp only [am_ck, Bool.and_eq_true, decide_eq_true_eq] at hc
      simp only [am_step] at H
      rcases am_cst_ok hc.2 with ⟨h0, h1, h2⟩ | ⟨h0, j, h1, h2, h3⟩
      · rw [if_pos h0] at H
        exact am_s_ldcI h1 h2 (am_dd hc.1.1) (hrec _ _ _ _ _ _ H (am_nn hc.1.2))
      · rw [if_neg h0, h1] at H
        exact am_s_ldcS h3 rfl h2 (am_dd hc.1.1) (hrec _ _ _ _ _ _ H (am_nn hc.1.2))
    | ldc_w k =>
      simp only [am_ck, Bool.and_eq_true, decide_eq_true_eq] at hc
      simp only [am_step] at H
      rcases am_cst_ok hc.2 with ⟨h0, h1, h2⟩ | ⟨h0, j, h1, h2, h3⟩
      · rw [if_pos h0] at H
        exact am_s_ldcwI h1 h2 (am_dd hc.1.1) (hrec _ _ _ _ _ _ H (am_nn hc.1.2))
      · rw [if_neg h0, h1] at H
        exact am_s_ldcwS h3 rfl h2 (am_dd hc.1.1) (hrec _ _ _ _ _ _ H (am_nn hc.1.2))
    | lconst n =>
      simp only [am_ck, Bool.and_eq_true, decide_eq_true_eq] at hc
      simp only [am_step] at H
      exact am_s_lconst (am_dd hc.1) (hrec _ _ _ _ _ _ H (am_nn hc.2))
    | aconst_null =>
      simp only [am_ck, Bool.and_eq_true, decide_eq_true_eq] at hc
      simp only [am_step] at H
      exact am_s_null (am_dd hc.1) (hrec _ _ _ _ _ _ H (am_nn hc.2))
    | iload_n k =>
      simp only [am_ck, Bool.and_eq_true, decide_eq_true_eq] at hc
      simp only [am_step, am_load] at H
      split at H
      · rename_i hx
        exact am_s_iload_n hx (am_dd hc.1) (hrec _ _ _ _ _ _ H (am_nn hc.2))
      · cases H
    | iload k =>
      simp only [am_ck, Bool.and_eq_true, decide_eq_true_eq] at hc
      simp only [am_step, am_load] at H
      split at H
      · rename_i hx
        exact am_s_iload hx (am_dd hc.1) (hrec _ _ _ _ _ _ H (am_nn hc.2))
      · cases H
    | aload_n k =>
      simp only [am_ck, Bool.and_eq_true, decide_eq_true_eq] at hc
      simp only [am_step, am_loada] at H
      split at H
      · rename_i hx
        exact am_s_aload_n hx (am_dd hc.1) (hrec _ _ _ _ _ _ H (am_nn hc.2))
      · rename_i hx
        exact am_s_aload_nX hx (am_dd hc.1) (hrec _ _ _ _ _ _ H (am_nn hc.2))
      · cases H
    | aload k =>
      simp only [am_ck, Bool.and_eq_true, decide_eq_true_eq] at hc
      simp only [am_step, am_loada] at H
      split at H
      · rename_i hx
        exact am_s_aload hx (am_dd hc.1) (hrec _ _ _ _ _ _ H (am_nn hc.2))
      · rename_i hx
        exact am_s_aloadX hx (am_dd hc.1) (hrec _ _ _ _ _ _ H (am_nn hc.2))
      · cases H
    | istore_n k =>
      simp only [am_ck, Bool.and_eq_true, decide_eq_true_eq] at hc
      simp only [am_step, am_store] at H
      split at H
      · exact am_s_istore_n (am_dd hc.1.1) hc.2 (hrec _ _ _ _ _ _ H (am_nn hc.1.2))
      · cases H
    | istore k =>
      simp only [am_ck, Bool.and_eq_true, decide_eq_true_eq] at hc
      simp only [am_step, am_store] at H
      split at H
      · exact am_s_istore (am_dd hc.1.1) hc.2 (hrec _ _ _ _ _ _ H (am_nn hc.1.2))
      · cases H
    | astore_n k =>
      simp only [am_ck, Bool.and_eq_true, decide_eq_true_eq] at hc
      simp only [am_step, am_storea] at H
      split at H
      · exact am_s_astore_n (am_dd hc.1.1) hc.2 (hrec _ _ _ _ _ _ H (am_nn hc.1.2))
      · exact am_s_astore_nX (am_dd hc.1.1) hc.2 (hrec _ _ _ _ _ _ H (am_nn hc.1.2))
      · cases H
    | astore k =>
      simp only [am_ck, Bool.and_eq_true, decide_eq_true_eq] at hc
      simp only [am_step, am_storea] at H
      split at H
      · exact am_s_astore (am_dd hc.1.1) hc.2 (hrec _ _ _ _ _ _ H (am_nn hc.1.2))
      · exact am_s_astoreX (am_dd hc.1.1) hc.2 (hrec _ _ _ _ _ _ H (am_nn hc.1.2))
      · cases H
    | iinc k n =>
      simp only [am_ck, Bool.and_eq_true, decide_eq_true_eq] at hc
      simp only [am_step] at H
      split at H
      · rename_i hx
        exact am_s_iinc (am_dd hc.1.1) hc.2 hx (hrec _ _ _ _ _ _ H (am_nn hc.1.2))
      · cases H
    | iadd =>
      simp only [am_ck, Bool.and_eq_true, decide_eq_true_eq] at hc
      simp only [am_step, am_bin] at H
      split at H
      · exact am_s_iadd (am_dd hc.1) (hrec _ _ _ _ _ _ H (am_nn hc.2))
      · cases H
    | isub =>
      simp only [am_ck, Bool.and_eq_true, decide_eq_true_eq] at hc
      simp only [am_step, am_bin] at H
      split at H
      · exact am_s_isub (am_dd hc.1) (hrec _ _ _ _ _ _ H (am_nn hc.2))
      · cases H
    | imul =>
      simp only [am_ck, Bool.and_eq_true, decide_eq_true_eq] at hc
      simp only [am_step, am_bin] at H
      split at H
      · exact am_s_imul (am_dd hc.1) (hrec _ _ _ _ _ _ H (am_nn hc.2))
      · cases H
    | iand =>
      simp only [am_ck, Bool.and_eq_true, decide_eq_true_eq] at hc
      simp only [am_step, am_bin] at H
      split at H
      · exact am_s_iand (am_dd hc.1) (hrec _ _ _ _ _ _ H (am_nn hc.2))
      · cases H
    | ior =>
      simp only [am_ck, Bool.and_eq_true, decide_eq_true_eq] at hc
      simp only [am_step, am_bin] at H
      split at H
      · exact am_s_ior (am_dd hc.1) (hrec _ _ _ _ _ _ H (am_nn hc.2))
      · cases H
    | ixor =>
      simp only [am_ck, Bool.and_eq_true, decide_eq_true_eq] at hc
      simp only [am_step, am_bin] at H
      split at H
      · exact am_s_ixor (am_dd hc.1) (hrec _ _ _ _ _ _ H (am_nn hc.2))
      · cases H
    | ishl =>
      simp only [am_ck, Bool.and_eq_true, decide_eq_true_eq] at hc
      simp only [am_step, am_bin] at H
      split at H
      · exact am_s_ishl (am_dd hc.1) (hrec _ _ _ _ _ _ H (am_nn hc.2))
      · cases H
    | ishr =>
      simp only [am_ck, Bool.and_eq_true, decide_eq_true_eq] at hc
      simp only [am_step, am_bin] at H
      split at H
      · exact am_s_ishr (am_dd hc.1) (hrec _ _ _ _ _ _ H (am_nn hc.2))
      · cases H
    | iushr =>
      simp only [am_ck, Bool.and_eq_true, decide_eq_true_eq] at hc
      simp only [am_step, am_bin] at H
      split at H
      · exact am_s_iushr (am_dd hc.1) (hrec _ _ _ _ _ _ H (am_nn hc.2))
      · cases H
    | idiv =>
      simp only [am_ck, Bool.and_eq_true, decide_eq_true_eq] at hc
      simp only [am_step, am_bin] at H
      split at H
      · split at H
        · cases H
        · rename_i h0
          exact am_s_idiv h0 (am_dd hc.1) (hrec _ _ _ _ _ _ H (am_nn hc.2))
      · cases H
    | irem =>
      simp only [am_ck, Bool.and_eq_true, decide_eq_true_eq] at hc
      simp only [am_step, am_bin] at H
      split at H
      · split at H
        · cases H
        · rename_i h0
          exact am_s_irem h0 (am_dd hc.1) (hrec _ _ _ _ _ _ H (am_nn hc.2))
      · cases H
    | ineg =>
      simp only [am_ck, Bool.and_eq_true, decide_eq_true_eq] at hc
      simp only [am_step, am_un] at H
      split at H
      · exact am_s_ineg (am_dd hc.1) (hrec _ _ _ _ _ _ H (am_nn hc.2))
      · cases H
    | i2b =>
      simp only [am_ck, Bool.and_eq_true, decide_eq_true_eq] at hc
      simp only [am_step, am_un] at H
      split at H
      · exact am_s_i2b (am_dd hc.1) (hrec _ _ _ _ _ _ H (am_nn hc.2))
      · cases H
    | i2c =>
      simp only [am_ck, Bool.and_eq_true, decide_eq_true_eq] at hc
      simp only [am_step, am_un] at H
      split at H
      · exact am_s_i2c (am_dd hc.1) (hrec _ _ _ _ _ _ H (am_nn hc.2))
      · cases H
    | i2l =>
      simp only [am_ck, Bool.and_eq_true, decide_eq_true_eq] at hc
      simp only [am_step, am_un] at H
      split at H
      · exact am_s_i2l (am_dd hc.1) (hrec _ _ _ _ _ _ H (am_nn hc.2))
      · cases H
    | lcmp =>
      simp only [am_ck, Bool.and_eq_true, decide_eq_true_eq] at hc
      simp only [am_step] at H
      split at H
      · exact am_s_lcmp (am_dd hc.1) (hrec _ _ _ _ _ _ H (am_nn hc.2))
      · cases H
    | dup =>
      simp only [am_ck, Bool.and_eq_true, decide_eq_true_eq] at hc
      simp only [am_step] at H
      split at H
      · exact am_s_dupI (am_dd hc.1) (hrec _ _ _ _ _ _ H (am_nn hc.2))
      · exact am_s_dupR (am_dd hc.1) (hrec _ _ _ _ _ _ H (am_nn hc.2))
      · cases H
    | dup2 =>
      simp only [am_ck, Bool.and_eq_true, decide_eq_true_eq] at hc
      simp only [am_step] at H
      split at H
      · exact am_s_dup2 (am_dd hc.1) (hrec _ _ _ _ _ _ H (am_nn hc.2))
      · cases H
    | pop =>
      simp only [am_ck, Bool.and_eq_true, decide_eq_true_eq] at hc
      simp only [am_step] at H
      split at H
      · exact am_s_popI (am_dd hc.1) (hrec _ _ _ _ _ _ H (am_nn hc.2))
      · exact am_s_popR (am_dd hc.1) (hrec _ _ _ _ _ _ H (am_nn hc.2))
      · cases H
    | ifCond c off =>
      simp only [am_ck, Bool.and_eq_true, decide_eq_true_eq] at hc
      simp only [am_step, am_un] at H
      split at H
      · obtain ⟨pct, e1, e2⟩ := am_tt hc.2
        rcases am_if_or H with ⟨h1, h2⟩ | ⟨h1, h2⟩
        · exact am_s_if1 (am_dd hc.1.1) e1 h1 (am_to_ok hrec hjmp h2 e2)
        · exact am_s_if0 (am_dd hc.1.1) e1 h1 (hrec _ _ _ _ _ _ h2 (am_nn hc.1.2))
      · cases H
    | if_icmp c off =>
      simp only [am_ck, Bool.and_eq_true, decide_eq_true_eq] at hc
      simp only [am_step, am_bin] at H
      split at H
      · obtain ⟨pct, e1, e2⟩ := am_tt hc.2
        rcases am_if_or H with ⟨h1, h2⟩ | ⟨h1, h2⟩
        · exact am_s_icmp1 (am_dd hc.1.1) e1 h1 (am_to_ok hrec hjmp h2 e2)
        · exact am_s_icmp0 (am_dd hc.1.1) e1 h1 (hrec _ _ _ _ _ _ h2 (am_nn hc.1.2))
      · cases H
    | ifnull off =>
      simp only [am_ck] at hc
      cases hc
    | ifnonnull off =>
      simp only [am_ck, Bool.and_eq_true, decide_eq_true_eq] at hc
      simp only [am_step] at H
      split at H
      · rename_i p s0
        obtain ⟨pct, e1, e2⟩ := am_tt hc.2
        cases p with
        | none =>
          rw [if_pos rfl] at H
          exact am_s_ifnnN (am_dd hc.1.1) (hrec _ _ _ _ _ _ H (am_nn hc.1.2))
        | some a =>
          rw [if_neg (by intro e; cases e)] at H
          exact am_s_ifnnS (am_dd hc.1.1) e1 (am_to_ok hrec hjmp H e2)
      · cases H
    | goto off =>
      simp only [am_ck, Bool.and_eq_true, decide_eq_true_eq] at hc
      simp only [am_step] at H
      obtain ⟨pct, e1, e2⟩ := am_tt hc.2
      exact am_s_goto (am_dd hc.1) e1 (am_to_ok hrec hjmp H e2)
    | tableswitch dflt lo hi offs =>
      simp only [am_ck, Bool.and_eq_true, decide_eq_true_eq] at hc
      simp only [am_step, am_un] at H
      split at H
      · rcases am_sw_ok _ _ _ H with ⟨h1, h2⟩ | ⟨k, h1, h2, h3⟩
        · obtain ⟨pct, e1, e2⟩ := am_tt hc.1.2
          exact am_s_tabOut (am_dd hc.1.1) (by omega) e1 (am_to_ok hrec hjmp h2 e2)
        · have hk : k < offs.toList.length := by omega
          have ho : offs.toList[k]? = some offs.toList[k] := List.getElem?_eq_getElem hk
          obtain ⟨pct, e1, e2⟩ := am_tt (am_tgs_ok hc.2.2 k _ ho)
          refine am_s_tabIn (am_dd hc.1.1) (by omega) (by omega) (off := offs.toList[k]) ?_ e1 (am_to_ok hrec hjmp h3 e2)
          rw [← Array.getElem?_toList, ← ho]
          congr 1
          omega
      · cases H
    | lookupswitch dflt ps =>
      simp only [am_ck, Bool.and_eq_true, decide_eq_true_eq] at hc
      simp only [am_step, am_un] at H
      split at H
      · rcases am_lk_ok (dflt := dflt) _ _ H with ⟨h1, h2⟩ | ⟨k, off, h1, h2, h3⟩
        · obtain ⟨pct, e1, e2⟩ := am_tt hc.1.2
          exact am_s_look (am_dd hc.1.1) hc.2.1 h1 e1 (am_to_ok hrec hjmp h2 e2)
        · obtain ⟨pct, e1, e2⟩ := am_tt (am_tgs_ok hc.2.2 k _ h1)
          exact am_s_look (am_dd hc.1.1) hc.2.1 h2 e1 (am_to_ok hrec hjmp h3 e2)
      · cases H
    | iaload =>
      simp only [am_ck, Bool.and_eq_true, decide_eq_true_eq] at hc
      simp only [am_step] at H
      split at H
      · rename_i i p s0
        cases p with
        | none => cases H
        | some a =>
          simp only [ldA] at H
          split at H
          · exact am_s_iald (by assumption) (am_dd hc.1) (hrec _ _ _ _ _ _ H (am_nn hc.2))
          · cases H
      · split at H
        · rename_i h0
          exact am_s_scLd h0.1 h0.2 (am_dd hc.1) (hrec _ _ _ _ _ _ H (am_nn hc.2))
        · cases H
      · cases H
    | laload =>
      simp only [am_ck, Bool.and_eq_true, decide_eq_true_eq] at hc
      simp only [am_step] at H
      split at H
      · rename_i i p s0
        cases p with
        | none => cases H
        | some a =>
          simp only [ldA] at H
          split at H
          · exact am_s_lald (by assumption) (am_dd hc.1) (hrec _ _ _ _ _ _ H (am_nn hc.2))
          · cases H
      · cases H
    | baload =>
      simp only [am_ck, Bool.and_eq_true, decide_eq_true_eq] at hc
      simp only [am_step] at H
      split at H
      · rename_i i p s0
        cases p with
        | none => cases H
        | some a =>
          simp only [ldB] at H
          split at H
          · exact am_s_bald (by assumption) (am_dd hc.1) (hrec _ _ _ _ _ _ H (am_nn hc.2))
          · cases H
      · rename_i i j s0
        split at H
        · rename_i h0
          by_cases hj : j - 200 < 23
          · have e1 : j = (j - 200) + 200 := by omega
            rw [e1]
            exact am_s_litLd hj h0.2.1 h0.2.2 (am_dd hc.1) (hrec _ _ _ _ _ _ H (am_nn hc.2))
          · exfalso
            have e2 : am_lit (j - 200) = [] := by
              unfold am_lit
              rw [List.getD_eq_getElem?_getD, List.getElem?_eq_none (by show 23 ≤ _; omega)]
              rfl
            rw [e2] at h0
            have h1 : i < (0 : Int) := h0.2.2
            omega
        · cases H
      · cases H
    | aaload =>
      simp only [am_ck, Bool.and_eq_true, decide_eq_true_eq] at hc
      simp only [Bool.or_eq_true, decide_eq_true_eq] at hc
      simp only [am_step] at H
      split at H
      · rename_i i p s0
        cases p with
        | none => cases H
        | some a =>
          simp only [ldP] at H
          split at H
          · exact am_s_aald (by assumption) hc.2 (am_dd hc.1.1) (hrec _ _ _ _ _ _ H (am_nn hc.1.2))
          · cases H
      · cases H
    | iastore =>
      simp only [am_ck, Bool.and_eq_true, decide_eq_true_eq] at hc
      simp only [am_step] at H
      split at H
      · rename_i v i p s0
        cases p with
        | none => cases H
        | some a =>
          simp only [stA] at H
          split at H
          · exact am_s_iast (by assumption) (am_dd hc.1) (hrec _ _ _ _ _ _ H (am_nn hc.2))
          · cases H
      · cases H
    | bastore =>
      simp only [am_ck, Bool.and_eq_true, decide_eq_true_eq] at hc
      simp only [am_step] at H
      split at H
      · rename_i v i p s0
        cases p with
        | none => cases H
        | some a =>
          simp only [stB] at H
          split at H
          · exact am_s_bast (by assumption) (am_dd hc.1) (hrec _ _ _ _ _ _ H (am_nn hc.2))
          · cases H
      · cases H
    | lastore =>
      simp only [am_ck, Bool.and_eq_true, decide_eq_true_eq] at hc
      simp only [am_step] at H
      split at H
      · rename_i v i p s0
        cases p with
        | none => cases H
        | some a =>
          simp only [stA] at H
          split at H
          · exact am_s_last (by assumption) (am_dd hc.1) (hrec _ _ _ _ _ _ H (am_nn hc.2))
          · cases H
      · cases H
    | aastore =>
      simp only [am_ck, Bool.and_eq_true, decide_eq_true_eq] at hc
      simp only [am_step] at H
      split at H
      · rename_i v i p s0
        cases p with
        | none => cases H
        | some a =>
          cases v with
          | none => cases H
          | some b =>
            simp only [stP, hc.2] at H
            split at H
            · exact am_s_aast (by assumption) (am_dd hc.1.1) (hrec _ _ _ _ _ _ H (am_nn hc.1.2))
            · cases H
      · cases H
    | arraylength =>
      simp only [am_ck, Bool.and_eq_true, decide_eq_true_eq] at hc
      simp only [am_step] at H
      split at H
      · rename_i p s0
        cases p with
        | none => cases H
        | some a =>
          simp only [lenA] at H
          split at H
          · exact am_s_alen (by assumption) (am_dd hc.1) (hrec _ _ _ _ _ _ H (am_nn hc.2))
          · cases H
      · exact am_s_scLen (am_dd hc.1) (hrec _ _ _ _ _ _ H (am_nn hc.2))
      · rename_i j s0 _
        split at H
        · rename_i h0
          rw [show j = (j - 200) + 200 by omega]
          exact am_s_litLen (by omega) (am_dd hc.1) (hrec _ _ _ _ _ _ H (am_nn hc.2))
        · cases H
      · cases H
    | getfield k =>
      simp only [am_ck, Bool.and_eq_true] at hc
      simp only [am_step] at H
      split at H
      · rename_i h0
        rename_i p s0
        rw [h0] at hc
        obtain ⟨Cn, T, N, g1, g2, g3, g4, -⟩ := am_fld_ok hc.2
        cases p with
        | none => cases H
        | some a =>
          simp only [gfI] at H
          split at H
          · exact am_s_getI g1 g2 g3 (by assumption) g4 (am_dd hc.1.1) (hrec _ _ _ _ _ _ H (am_nn hc.1.2))
          · cases H
      · rename_i h0
        rename_i p s0
        rw [h0] at hc
        obtain ⟨Cn, T, N, g1, g2, g3, g4, -⟩ := am_fld_ok hc.2
        cases p with
        | none => cases H
        | some a =>
          simp only [gfP] at H
          split at H
          · exact am_s_getP g1 g2 g3 (by assumption) g4 (am_dd hc.1.1) (hrec _ _ _ _ _ _ H (am_nn hc.1.2))
          · cases H
      · rename_i h0
        rename_i j s0
        rw [h0] at hc
        split at H
        · rename_i h1
          rw [show j = (j - 2) + 2 by omega]
          rw [show j + 198 = (j - 2) + 200 by omega] at H
          exact am_s_strV (by omega) (am_has_in hc.2) (am_dd hc.1.1) (hrec _ _ _ _ _ _ H (am_nn hc.1.2))
        · cases H
      · rename_i h0
        rename_i j s0
        rw [h0] at hc
        split at H
        · rename_i h1
          rw [show j = (j - 2) + 2 by omega]
          exact am_s_strC (by omega) (am_has_in hc.2) (am_dd hc.1.1) (hrec _ _ _ _ _ _ H (am_nn hc.1.2))
        · cases H
      · cases H
    | putfield k =>
      simp only [am_ck, Bool.and_eq_true] at hc
      simp only [am_step] at H
      have h2 := hc.2.1
      split at h2
      · rename_i ht
        rw [ht] at H
        simp only [Bool.and_eq_true, decide_eq_true_eq] at h2
        obtain ⟨Cn, T, N, g1, g2, g3, g4, g5⟩ := am_fld_ok h2.1
        rcases st with _ | ⟨v, _ | ⟨w, s0⟩⟩
        · cases H
        · rcases v with x | (y | (y | y)) <;> cases H
        · rcases v with x | (y | (y | y))
          · rcases w with y | (p | (y | y))
            · cases H
            · cases p with
              | none => cases H
              | some a =>
                simp only [pfI] at H
                split at H
                · rename_i h1
                  exact am_s_putI g1 g2 g3 (Or.inl h2.2) h1.1 (am_may_ok g5 hc.2.2) g4 (am_dd hc.1.1) (hrec _ _ _ _ _ _ H (am_nn hc.1.2))
                · cases H
            · cases H
            · cases H
          · rcases w with y2 | (p | (y2 | y2)) <;> cases H
          · cases H
          · cases H
      · rename_i ht
        rw [ht] at H
        simp only [Bool.and_eq_true, decide_eq_true_eq] at h2
        obtain ⟨Cn, T, N, g1, g2, g3, g4, g5⟩ := am_fld_ok h2.1
        rcases st with _ | ⟨v, _ | ⟨w, s0⟩⟩
        · cases H
        · rcases v with x | (y | (y | y)) <;> cases H
        · rcases v with x | (y | (y | y))
          · rcases w with y | (p | (y | y))
            · cases H
            · cases p with
              | none => cases H
              | some a =>
                simp only [pfI] at H
                split at H
                · rename_i h1
                  exact am_s_putI g1 g2 g3 (Or.inr ⟨h2.2, h1.2 trivial⟩) h1.1 (am_may_ok g5 hc.2.2) g4 (am_dd hc.1.1) (hrec _ _ _ _ _ _ H (am_nn hc.1.2))
                · cases H
            · cases H
            · cases H
          · rcases w with y2 | (p | (y2 | y2)) <;> cases H
          · cases H
          · cases H
      · rename_i ht
        rw [ht] at H
        obtain ⟨Cn, T, N, g1, g2, g3, g4, g5⟩ := am_fld_ok h2
        rcases st with _ | ⟨v, _ | ⟨w, s0⟩⟩
        · cases H
        · rcases v with x | (y | (y | y)) <;> cases H
        · rcases v with x | (v | (y | y))
          · rcases w with y | (p | (y | y))
            · cases H
            · cases H
            · cases H
            · cases H
          · rcases w with y2 | (p | (y2 | y2))
            · cases H
            · cases p with
              | none => cases H
              | some a =>
                simp only [pfP] at H
                split at H
                · exact am_s_putP g1 g2 g3 (by assumption) (am_may_ok g5 hc.2.2) g4 (am_dd hc.1.1) (hrec _ _ _ _ _ _ H (am_nn hc.1.2))
                · cases H
            · cases H
            · cases H
          · cases H
          · cases H
      · cases h2
    | getstatic k =>
      simp only [am_ck, Bool.and_eq_true] at hc
      simp only [am_step] at H
      obtain ⟨hc1, hc2⟩ := hc
      split at H
      · rename_i h0
        rw [if_pos h0] at hc2
        exact am_s_gets0 (am_has_in hc2) (am_dd hc1.1) (hrec _ _ _ _ _ _ H (am_nn hc1.2))
      · rename_i h0
        rw [if_neg h0] at hc2
        exact am_s_gets1 (am_has_in hc2) (am_dd hc1.1) (hrec _ _ _ _ _ _ H (am_nn hc1.2))
    | new k =>
      simp only [am_ck] at hc
      simp only [am_step] at H
      split at H
      · rename_i h0
        rw [if_pos h0] at hc
        simp only [Bool.and_eq_true] at hc
        obtain ⟨hc1, hc2⟩ := hc
        split at hc2
        · rename_i Cn T N hcl
          simp only [Bool.and_eq_true, decide_eq_true_eq] at hc2
          obtain ⟨⟨a1, a2⟩, a3⟩ := hc2
          obtain ⟨b1, b2⟩ := am_cls_ok hcl a2
          rw [a1] at H
          have hl : (am_arg xs 1).toNat < 13 := (List.getElem?_eq_some_iff.mp hcl).1
          exact am_s_new (am_ci_all hcl) (am_has_in a3) b1 b2 (am_dd hc1.1) (by omega) (hrec _ _ _ _ _ _ H (am_nn hc1.2))
        · cases hc2
      · rename_i h0
        rw [if_neg h0] at hc
        simp only [Bool.and_eq_true, decide_eq_true_eq] at hc
        obtain ⟨⟨c1, c2⟩, ⟨c3, c4⟩, ⟨c5, c6⟩, c7⟩ := hc
        split at H
        · rename_i hb
          cases H
          obtain ⟨z, z1, z2⟩ := List.any_eq_true.mp c7
          simp only [Bool.and_eq_true, decide_eq_true_eq] at z2
          obtain ⟨E, ic⟩ := z
          have hE : 1 ≤ E ∧ E ≤ 5 := by
            simp only [List.mem_cons, List.not_mem_nil, or_false, Prod.mk.injEq] at z1
            omega
          have e1 : E = (am_arg xs 1).toNat := z2.1
          rw [← e1] at c2 ⊢
          exact am_s_throw hE (am_has_in c2) (am_w_xini E hE) (by rw [c3]; exact am_thr_ok E ic z1) c4 (Nat.le_of_ble_eq_true hb) (am_dd c1) (am_dd c5) (am_dd z2.2) (am_dd c6)
        · cases H
    | newarray aty =>
      simp only [am_ck, Bool.and_eq_true, decide_eq_true_eq] at hc
      simp only [Bool.or_eq_true, decide_eq_true_eq, Prod.mk.injEq] at hc
      simp only [am_step, am_un, newA] at H
      split at H
      · split at H
        · rename_i h0
          refine am_s_newa h0 hc.2 ?_ (am_dd hc.1.1) (hrec _ _ _ _ _ _ H (am_nn hc.1.2))
          rcases hc.2 with ⟨-, rfl⟩ | ⟨-, rfl⟩ | ⟨-, rfl⟩ | ⟨-, rfl⟩
          · exact am_w_ar_int
          · exact am_w_ar_boolean
          · exact am_w_ar_byte
          · exact am_w_ar_long
        · cases H
      · cases H
    | anewarray k =>
      simp only [am_ck, Bool.and_eq_true, decide_eq_true_eq] at hc
      simp only [am_step, am_un, newA] at H
      split at H
      · split at H
        · rename_i h0
          exact am_s_newq h0 (am_has_in hc.2) (am_dd hc.1.1) (hrec _ _ _ _ _ _ H (am_nn hc.1.2))
        · cases H
      · cases H
    | multianewarray k n =>
      simp only [am_ck, Bool.and_eq_true, decide_eq_true_eq] at hc
      simp only [am_step, newG] at H
      split at H
      · split at H
        · rename_i h0
          exact am_s_grid h0 (am_has_in hc.2) am_w_ar_int (am_dd hc.1.1.1) (hrec _ _ _ _ _ _ H (am_nn hc.1.1.2))
        · cases H
      · cases H
    | checkcast k =>
      simp only [am_ck, Bool.and_eq_true, decide_eq_true_eq] at hc
      simp only [am_step] at H
      split at H
      · rename_i p s0
        cases p with
        | none => cases H
        | some a =>
          simp only [castA] at H
          split at H
          · exact am_s_cast (by assumption) (am_has_in hc.2) (am_dd hc.1.1) (hrec _ _ _ _ _ _ H (am_nn hc.1.2))
          · cases H
      · cases H
    | invokestatic k =>
      exact am_inv_ok0 hcall hrec hjmp hhr (pc := pc') (i := i) (len := len) hc H
    | invokevirtual k =>
      exact am_inv_ok1 hcall hrec hjmp hhr (pc := pc') (i := i) (len := len) hc H
    | invokespecial k =>
      exact am_inv_ok2 hcall hrec hjmp hhr (pc := pc') (i := i) (len := len) hc H
    | ireturn =>
      simp only [am_ck, Bool.and_eq_true] at hc
      simp only [am_step] at H
      obtain ⟨hc1, hc2⟩ := hc
      split at H
      · rename_i x
        simp only [am_ret] at H
        split at hc2
        · rename_i h0 hr
          rw [if_pos h0] at H
          cases H
          exact am_s_iret hr (am_dd hc1)
        · rename_i h0 hr
          rw [if_neg (by omega), if_pos h0] at H
          split at H
          · cases H
            exact am_s_zret hr (Or.inl ⟨rfl, by assumption⟩) (am_dd hc1)
          · cases H
        · rename_i h0 hr
          rw [if_neg (by omega), if_neg (by omega), if_pos h0] at H
          split at H
          · cases H
            exact am_s_zret hr (Or.inr (Or.inl ⟨rfl, by assumption⟩)) (am_dd hc1)
          · cases H
        · rename_i h0 hr
          rw [if_neg (by omega), if_neg (by omega), if_neg (by omega)] at H
          split at H
          · cases H
            exact am_s_zret hr (Or.inr (Or.inr ⟨rfl, by assumption⟩)) (am_dd hc1)
          · cases H
        · cases hc2
      · cases H
    | areturn =>
      simp only [am_ck, Bool.and_eq_true, decide_eq_true_eq] at hc
      simp only [am_step] at H
      split at H
      · rename_i p
        cases p with
        | none => cases H
        | some a =>
          cases H
          obtain ⟨hc1, hc2⟩ := hc
          generalize hr : M.2.2.2.1 = rt at hc2
          rcases rt with _ | t
          · exact absurd hc2 (by decide)
          · cases t with
            | object n => exact am_s_aret hr (Or.inl ⟨n, rfl⟩) (am_dd hc1)
            | array t => exact am_s_aret hr (Or.inr ⟨t, rfl⟩) (am_dd hc1)
            | _ => exact absurd hc2 (by decide)
      · cases H
    | return_ =>
      simp only [am_ck, Bool.and_eq_true, decide_eq_true_eq] at hc
      simp only [am_step] at H
      split at H
      · cases H
        exact am_s_vret hc.2 (am_dd hc.1)
      · cases H
    | _ => exact nomatch H
end
