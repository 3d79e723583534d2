/-! EVERY CALL OF THE MACHINE IS ONE OF THE PROGRAM -/
theorem am_met_of {l : Launch} {M : am_M} {rm : Room} {Pc : Array Value → State → Prop} {Qc : Array Value → State → Outcome → State → Prop} {XC : String → State → State → Prop} {mc ms : Nat} {free : Addr → Prop} (hy : plainFor M.1 = true)
    (body : ∀ p e s m args below meth c s₁, BodyLoose p l M.1 (headSpec (am_ws M) rm) M.2.1 M.2.2.1 M.2.2.2.1 e s m args below meth c s₁ → c.maxLocals = M.2.2.1 → c.exceptionTable.toList = tableOf M.2.2.2.2.2 → Pc args s →
      W p l e rm s m args below meth c s.heap [] 0 0 (vx_MQ below Qc XC args s mc ms free) (entryFrame m args M.2.2.1)) : vx_Met l M.1 (am_ws M) rm Pc Qc XC mc ms free := by
  refine MetFree.of_bodySF (code := M.2.1) (maxLocals := M.2.2.1) (ret := M.2.2.2.1) hy ?_ ?_
  · intro args s m h hn
    have h0 := atoms_spec (ws := am_ws M) h _ List.mem_cons_self
    unfold am_cw at h0
    by_cases hh : M.2.2.2.2.2 = []
    · rw [if_pos hh] at h0
      obtain ⟨meth, c, h1, h2, h3, h4, h5, h6, -, -⟩ := Cond.code_spec hn h0
      exact ⟨meth, c, h1, h2, h3, h4, h5, h6⟩
    · rw [if_neg hh] at h0
      obtain ⟨m9, meth, c, hn9, h1, h2, h3, h4, -, h5, h6, -⟩ := Cond.codeWith_spec h0
      cases hn.symm.trans hn9
      exact ⟨meth, c, h1, h2, h3, h4, h5, h6⟩
  · intro p e s m args below meth c s₁ B hml hP _
    have hh0 : s₁.heap = s.heap := by rw [B.state]; rfl
    have h0 := atoms_spec (ws := am_ws M) B.pre _ List.mem_cons_self
    have ht : c.exceptionTable.toList = tableOf M.2.2.2.2.2 := by
      unfold am_cw at h0
      by_cases hh : M.2.2.2.2.2 = []
      · rw [if_pos hh] at h0
        obtain ⟨meth9, c9, h1, h2, -, -, -, -, h7, -⟩ := Cond.code_spec B.named h0
        cases Option.some.inj (h1.symm.trans B.method)
        cases Option.some.inj (h2.symm.trans (Stand.of_body B).code)
        rw [hh, Array.isEmpty_iff.mp h7]
        rfl
      · rw [if_neg hh] at h0
        exact vx_table (x := M.1) B h0
    obtain ⟨t, a1, o, b1, b2, b3⟩ := body p e s m args below meth c s₁ B hml ht hP s₁ hh0 (Stand.of_body B)
    exact ⟨t, o, a1, b1, b2, b3⟩
theorem am_sv_cat {ad q : Nat → Nat} {v : am_V} {x : Value} (hx : am_sv ad q v x) : x.category = am_cat v := by
  rcases v with y | ((_ | b) | (y | (_ | k)))
  · rw [show x = .int _ from hx]; rfl
  · rw [show x = .null from hx]; rfl
  · rw [show x = .ref _ from hx]; rfl
  · rw [show x = .long _ from hx]; rfl
  · rcases hx with rfl | ⟨z, rfl⟩ <;> rfl
  · rw [show x = .ref _ from hx]; rfl
theorem am_nl_cat {v : am_V} (h : am_nl v = true) : am_cat v = 1 := by
  rcases v with y | ((_ | b) | (y | (_ | k)))
  all_goals first | rfl | cases h
theorem am_sl_len2 {ad q : Nat → Nat} : ∀ {l : List am_V} {m : List Value}, am_sl ad q l m → l.all am_nl = true → (lg_sl m).length = l.length
  | [], [], _, _ => rfl
  | [], _ :: _, h, _ => h.elim
  | _ :: _, [], h, _ => h.elim
  | v :: l, x :: m, h, hn => by
    simp only [List.all_cons, Bool.and_eq_true] at hn
    have hc : ¬ x.category = 2 := by rw [am_sv_cat h.1, am_nl_cat hn.1]; decide
    have ih := am_sl_len2 h.2 hn.2
    have e : lg_sl (x :: m) = .val x :: lg_sl m := by
      unfold lg_sl
      rw [List.flatMap_cons, if_neg hc]
      rfl
    rw [e, List.length_cons, List.length_cons, ih]
theorem am_kn_rep {ad q : Nat → Nat} : ∀ (k j : Nat), am_kn ad q j (List.replicate k (Vx 0)) = []
  | 0, _ => rfl
  | k + 1, j => by
    rw [List.replicate_succ]
    exact am_kn_rep k (j + 1)
theorem am_kn_args {ad q : Nat → Nat} {k : Nat} : ∀ {l : List am_V} {m : List Value} (j : Nat), am_sl ad q l m → l.all am_nl = true → ∀ z ∈ am_kn ad q j (l ++ List.replicate k (Vx 0)), z ∈ lv_args j m
  | [], [], j, _, _, z, hz => by
    rw [List.nil_append, am_kn_rep] at hz
    cases hz
  | [], _ :: _, _, h, _, _, _ => h.elim
  | _ :: _, [], _, h, _, _, _ => h.elim
  | v :: l, x :: m, j, h, hn, z, hz => by
    simp only [List.all_cons, Bool.and_eq_true] at hn
    have hc : ¬ x.category = 2 := by rw [am_sv_cat h.1, am_nl_cat hn.1]; decide
    have e : lv_args j (x :: m) = (j, x) :: lv_args (j + 1) m := by
      unfold lv_args
      rw [if_neg hc]
      cases m <;> rfl
    rw [e]
    rw [List.cons_append] at hz
    unfold am_kn at hz
    split at hz
    · rename_i y hy
      rcases List.mem_cons.mp hz with rfl | hz
      · have h1 := h.1
        unfold am_lv at hy
        rw [if_pos hn.1] at hy
        unfold am_sv at h1
        rw [hy] at h1
        rw [h1]
        exact List.mem_cons_self
      · exact List.mem_cons_of_mem _ (am_kn_args (j + 1) h.2 hn.2 z hz)
    · exact List.mem_cons_of_mem _ (am_kn_args (j + 1) h.2 hn.2 z hz)
theorem am_entry {ad q : Nat → Nat} {args : List am_V} {vals : List Value} (hs : am_sl ad q args vals) (hn : args.all am_nl = true) {n : Nat} (hlen : args.length ≤ n) (m : MethodId) : ∃ lsA, entryFrame m vals.toArray n = F0 m 0 lsA [] ∧ lv_has lsA n (am_kn ad q 0 (am_pad n args)) := by
  refine ⟨_, lg_entry_eq m vals n, ?_⟩
  have h1 := lv_entry vals (n := n) (by rw [am_sl_len2 hs hn]; exact hlen)
  refine ⟨h1.1, h1.2.1, fun z hz => h1.2.2 z ?_⟩
  exact am_kn_args 0 hs hn z hz
theorem am_lk_pad {h : am_H} {l : List am_V} {n : Nat} (hl : am_lk2 h l) : am_lk2 h (am_pad n l) := by
  intro v hv
  rcases List.mem_append.mp hv with hv | hv
  · exact hl v hv
  · rw [(List.mem_replicate.mp hv).2]
    trivial
section
variable {l : Launch} {sc : Nat × (Nat → Int)}
theorem am_ct_of {d : Nat} {M : am_M} {args : List am_V} {h : am_H} {r : (am_V ⊕ Nat) × am_H} (hl : l.stackTraces = false) (hy : plainFor M.1 = true) (hlen : args.length ≤ M.2.2.1) (H : am_P l sc d M 0 (am_pad M.2.2.1 args) [] h r) : am_CT l sc d M args h r := by
  refine ⟨H.1, fun G yc q n0 ad vals hs hn hk => ?_⟩
  refine am_met_of hy (fun p e s m args' below meth c s₁ B hml ht hP => ?_)
  obtain ⟨rfl, hw, hE⟩ := hP
  obtain ⟨lsA, e1, e2⟩ := am_entry hs hn hlen m
  rw [e1]
  have hts := atoms_spec (ws := am_ws M) B.pre
  have k := H.2 p e s m vals.toArray below meth c G yc q n0 h ad ⟨B.exec, B.bytes, hml, findClass_of_methodNamed B.named, fun w hw => hts w (List.mem_cons_of_mem _ hw), B.notSynchronized, B.returns, (name_of_methodNamed B.named B.method).1, ht, hl, hE⟩ (am_mono.rf h) s.heap [] ad lsA [] (fun _ _ => rfl) hw ⟨Nat.le_refl _, fun _ _ _ => rfl, fun z hz => nomatch hz⟩ e2 trivial (am_lk_pad hk) (fun v hv => nomatch hv)
  rw [Nat.sub_self, Nat.sub_self] at k
  exact k
theorem am_go_ok {d m : Nat} {x : List Nat} (hc : am_ckm m x = true) (hcall : ∀ m2 args h r, Cl sc d m2 args h = some r → args.all am_nl = true → am_CT l sc d (am_mt m2) args h r) {jump : am_J}
    (hjmp : ∀ i ls st h r pc, jump i ls st h = some r → am_pc (am_at m).1 i pc → am_P l sc (d + 1) (am_mt m) pc ls st h r) : ∀ (f i : Nat) (ls st : List am_V) (h : am_H) (r : (am_V ⊕ Nat) × am_H) (pc : Nat), am_go sc am_lit (am_at m).1 (am_at m).2.1 (Cl sc d) jump f ((am_at m).1.drop i) ls st h = some r → am_pc (am_at m).1 i pc → am_P l sc (d + 1) (am_mt m) pc ls st h r
  | 0, i, ls, st, h, r, pc, H, hpc => by cases H
  | f + 1, i, ls, st, h, r, pc, H, hpc => by
    have hc0 := hc
    unfold am_ckm at hc0
    simp only [Bool.and_eq_true] at hc0
    refine am_step_ok hcall (fun i ls st h r pc H hpc => am_go_ok hc hcall hjmp f i ls st h r pc H hpc) hjmp (fun i e he => ?_) (am_hrB_ok hc0.1.2) H hpc
    have := am_cka_at hc0.2 i e he
    rwa [Nat.zero_add] at this
theorem am_lp_ok {d m : Nat} {x : List Nat} (hc : am_ckm m x = true) (hcall : ∀ m2 args h r, Cl sc d m2 args h = some r → args.all am_nl = true → am_CT l sc d (am_mt m2) args h r) : ∀ (n i : Nat) (ls st : List am_V) (h : am_H) (r : (am_V ⊕ Nat) × am_H) (pc : Nat), am_lp sc (Cl sc d) m n i ls st h = some r → am_pc (am_at m).1 i pc → am_P l sc (d + 1) (am_mt m) pc ls st h r
  | 0, i, ls, st, h, r, pc, H, hpc => by cases H
  | n + 1, i, ls, st, h, r, pc, H, hpc => am_go_ok hc hcall (fun i ls st h r pc H hpc => am_lp_ok hc hcall n i ls st h r pc H hpc) 4000 i ls st h r pc H hpc
def am_kk : Prop := ∀ m, (am_at m).1 = [] ∨ ∃ x, am_ckm m x = true ∧ plainFor (am_mt m).1 = true
theorem am_Ru_some {d m i : Nat} {ls st : List am_V} {h : am_H} {r : (am_V ⊕ Nat) × am_H} (H : Ru sc (d + 1) m i ls st h = some r) : ∃ n, am_lp sc (Cl sc d) m n i ls st h = some r := am_lim_some sc (Cl sc d) H
theorem am_all (hl : l.stackTraces = false) (hk : am_kk) : ∀ (d m2 : Nat) (args : List am_V) (h : am_H) (r : (am_V ⊕ Nat) × am_H), Cl sc d m2 args h = some r → args.all am_nl = true → am_CT l sc d (am_mt m2) args h r
  | 0, m, args, h, r, H, hn => by
    unfold Cl at H
    split at H
    · cases H
    · cases H
  | d + 1, m, args, h, r, H, hn => by
    unfold Cl at H
    split at H
    · rename_i hlen
      obtain ⟨n, H⟩ := am_Ru_some H
      rcases hk m with hk | ⟨x, hc, hy⟩
      · exfalso
        cases n with
        | zero => cases H
        | succ n =>
          unfold am_lp at H
          rw [hk] at H
          cases H
      · have hc0 := hc
        unfold am_ckm at hc0
        simp only [Bool.and_eq_true, decide_eq_true_eq] at hc0
        rw [hc0.1.1.1] at H hlen
        exact am_ct_of hl hy (Nat.le_of_ble_eq_true hlen) (am_lp_ok hc (am_all hl hk d) n 0 _ _ h r 0 H hc0.1.1.2)
    · cases H
theorem am_Ru_ok (hl : l.stackTraces = false) (hk : am_kk) {d m i : Nat} {ls st : List am_V} {h : am_H} {r : (am_V ⊕ Nat) × am_H} {pc : Nat} {x : List Nat} (hc : am_ckm m x = true) (H : Ru sc (d + 1) m i ls st h = some r) (hpc : am_pc (am_at m).1 i pc) : am_P l sc (d + 1) (am_mt m) pc ls st h r := by
  obtain ⟨n, H⟩ := am_Ru_some H
  exact am_lp_ok hc (am_all hl hk d) n i ls st h r pc H hpc
end
